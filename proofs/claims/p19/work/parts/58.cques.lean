section CQU
variable {d : Nat} {g : am_G} {Q : am_Q} {B c f : Nat}
def gaV (g : am_G) (n tk c : Nat) (set : Int32) (q : Nat) : Nat → Int32 := gaM n tk (g 22 4) (nI q) (g 22 6) (mayF (rwO g) (selB g set (nI q)) c)
def cbV (g : am_G) (tk c : Nat) (set : Int32) (q w t : Nat) : Bool := decide (sooF (rwO g) (selB g set (nI q)) w c ≤ nI t) && decide (nI t ≤ latF (nI tk) (rwO g) (selB g set (nI q)) w c)
def allB (P : Nat → Bool) : Nat → Bool
  | 0 => true
  | n + 1 => allB P n && P n
theorem allB_f {P : Nat → Bool} {k : Nat} (h : P k = false) : ∀ n, k < n → allB P n = false := by
  intro n
  induction n with
  | zero => intro z; omega
  | succ n ih =>
    intro z
    rw [allB]
    rcases Nat.lt_succ_iff_lt_or_eq.mp z with y | y
    · rw [ih y]; rfl
    · rw [← y, h, Bool.and_false]
theorem allB_t {P : Nat → Bool} : ∀ {n}, allB P n = true ↔ ∀ k, k < n → P k = true := by
  intro n
  induction n with
  | zero => exact ⟨fun _ k hk => absurd hk (by omega), fun _ => rfl⟩
  | succ n ih =>
    rw [allB, Bool.and_eq_true, ih]
    constructor
    · rintro ⟨h1, h2⟩ k hk
      rcases Nat.lt_succ_iff_lt_or_eq.mp hk with y | y
      · exact h1 k y
      · rw [y]; exact h2
    · intro h; exact ⟨fun k hk => h k (by omega), h n (by omega)⟩
def okV (g : am_G) (n tk c : Nat) (set : Int32) (q : Nat) : Bool := !decide (nI q = g 22 6) && (!bt (clrF (rwO g) (selB g set (nI q)) c) q && allB (fun p => fitV (g 23) (gaV g n tk c set q) p) n)
def twV (g : am_G) (n tk c : Nat) (set : Int32) (q w : Nat) : Bool := !decide (tkV (g 23) (gaV g n tk c set q) q (cbV g tk c set q w) (am_sh (g 24 w)) 9 = 0)
def orF (f : Nat → Bool) : Nat → Int32
  | 0 => 0
  | k + 1 => bif f k then orF f k ||| am_sh (nI k) else orF f k
def thV (g : am_G) (n tk c : Nat) (set : Int32) (q : Nat) : Int32 := bif okV g n tk c set q then orF (twV g n tk c set q) 3 else 0
def suV (g : am_G) (n tk c : Nat) (set among : Int32) : Int32 := orF (fun q => bt among q && !decide (thV g n tk c set q = 0)) n
theorem thV_of {g' : am_G} {n tk : Nat} {set : Int32} {q : Nat} (e4 : g' 22 4 = g 22 4) (e6 : g' 22 6 = g 22 6) (e23 : g' 23 = g 23) (e24 : g' 24 = g 24) (e25 : g' 25 = g 25) (e26 : g' 26 = g 26) : thV g' n tk c set q = thV g n tk c set q := by
  have r : rwO g' = rwO g := by funext k; unfold rwO; rw [e25, e26]
  have s : selB g' = selB g := by funext a b k; unfold selB; rw [e25, e26]
  have ga : gaV g' n tk c set q = gaV g n tk c set q := by unfold gaV; rw [r, s, e4, e6]
  have cb : cbV g' tk c set q = cbV g tk c set q := by funext w t; unfold cbV; rw [r, s]
  have tw : twV g' n tk c set q = twV g n tk c set q := by funext w; unfold twV; rw [ga, cb, e23, e24]
  unfold thV okV
  rw [ga, tw, r, s, e6, e23]
theorem thV_sc {g' : am_G} {n tk : Nat} {set : Int32} {q : Nat} (s : scC g g') : thV g' n tk c set q = thV g n tk c set q := thV_of (by rw [s 22 (by omega)]) (by rw [s 22 (by omega)]) (s 23 (by omega)) (s 24 (by omega)) (s 25 (by omega)) (s 26 (by omega))
theorem suV_sc {g' : am_G} {n tk : Nat} {set among : Int32} (s : scC g g') : suV g' n tk c set among = suV g n tk c set among := by
  unfold suV
  have : (fun q => bt among q && !decide (thV g' n tk c set q = 0)) = (fun q => bt among q && !decide (thV g n tk c set q = 0)) := by funext q; rw [thV_sc s]
  rw [this]
/-- what a question leaves of the ways -/
def WAL (g g' : am_G) (n tk c : Nat) (set : Int32) (q : Nat) : Prop := eq60 (g' 10) (gaV g n tk c set q) ∧ ∀ w, w < 3 → g' 13 w = sooF (rwO g) (selB g set (nI q)) w c ∧ g' 14 w = latF (nI tk) (rwO g) (selB g set (nI q)) w c
theorem WAL.of {g1 g2 : am_G} {n tk : Nat} {set : Int32} {q : Nat} (h : WAL g g1 n tk c set q) (e10 : g2 10 = g1 10) (e13 : g2 13 = g1 13) (e14 : g2 14 = g1 14) : WAL g g2 n tk c set q := by unfold WAL at *; rw [e10, e13, e14]; exact h
theorem WAL.cb {g1 : am_G} {n tk : Nat} {set : Int32} {q w : Nat} (h : WAL g g1 n tk c set q) (hw : w < 3) : ∀ t, (decide (g1 13 w ≤ nI t) && decide (nI t ≤ g1 14 w)) = cbV g tk c set q w t := by
  intro t
  unfold cbV
  rw [(h.2 w hw).1, (h.2 w hw).2]
theorem WAL.tk {g1 : am_G} {n tk : Nat} {set : Int32} {q w : Nat} (h : WAL g g1 n tk c set q) (hq : q < 6) (hw : w < 3) (e8 : g1 8 w = g 24 w) (m : Nat) : tkV (g 23) (g1 10) q (fun t => decide (g1 13 w ≤ nI t) && decide (nI t ≤ g1 14 w)) (am_sh (g1 8 w)) m = tkV (g 23) (gaV g n tk c set q) q (cbV g tk c set q w) (am_sh (g 24 w)) m := by
  rw [e8]
  exact tkV_eq (fun t ht => h.1 (10 * q + t) (by omega)) (fun t _ => h.cb hw t) m
theorem l_40_73_x {q n tk : Nat} {set : Int32} {g0 g2 : am_G} (hq : q < 6) (hJ : stJ g2 (g0 23)) (wl : WAL g0 g2 n tk c set q) (e8 : ∀ w, w < 3 → g2 8 w = g0 24 w) (s2 : scC g0 g2) (h : ∀ g', scC g0 g' → WAL g0 g' n tk c set q → Q (some (.int (orF (twV g0 n tk c set q) 3))) LY g') : ∀ (m k : Nat) (x r : Int32) (g : am_G), k + m = 3 → x = nI k → r = orF (twV g0 n tk c set q) k → (∀ j, j ≠ 11 → j ≠ 12 → g j = g2 j) → am (d + 3) 40 73 [some (.ref 9), some (.ref 1), some (.int set), some (.int (nI q)), some (.int r), some (.int x)] [] LY g 0 0 none Q := by
  intro m
  induction m with
  | zero =>
    intro k x r g hk hx er hg
    have hk : k = 3 := by omega
    subst hk; subst hx; subst er
    refine am_run_k 3 (And.intro (fun h6 => ?_) (fun hx => absurd ((show nI 3 ≤ nI 3 from nI_le (Nat.le_refl 3) (by decide))) hx))
    refine am_run_k 2 ?_
    exact h g (s2.tr (fun j hj => hg j (by omega) (by omega))) (wl.of (hg 10 (by decide) (by decide)) (hg 13 (by decide) (by decide)) (hg 14 (by decide) (by decide)))
  | succ m ih =>
    intro k x r g hk hx er hg
    subst hx
    have wl1 : WAL g0 g n tk c set q := wl.of (hg 10 (by decide) (by decide)) (hg 13 (by decide) (by decide)) (hg 14 (by decide) (by decide))
    refine am_run_k 3 (And.intro (fun hx => absurd hx ((nI_ge (b := 3) (by omega) (by decide)))) (fun h6 => ?_))
    refine am_run_k 5 (am_cl ?_)
    refine w_trace_x (w := k) hq (by omega) (hJ.of (hg 4 (by decide) (by decide))) (fun g1 t1 => ?_)
    have z : g1 12 0 = tkV (g0 23) (gaV g0 n tk c set q) q (cbV g0 tk c set q k) (am_sh (g0 24 k)) 9 := by
      have := (t1.2 9 (by omega)).2
      rw [show 9 - 9 = 0 from rfl] at this
      rw [this]
      exact wl1.tk hq (by omega) (by rw [hg 8 (by decide) (by decide)]; exact e8 k (by omega)) 9
    have hg1 : ∀ j, j ≠ 11 → j ≠ 12 → g1 j = g2 j := fun j a b => (t1.1 j a b).trans (hg j a b)
    refine am_run_k 4 (And.intro (vpe (n := 0) rfl (by decide)) ?_)
    rw [show (0 : Int32).toNatClampNeg = 0 from rfl, z]
    refine am_run_k 1 (And.intro (fun h7 => ?_) (fun h7 => ?_))
    · refine am_run_k 2 ?_
      have y : twV g0 n tk c set q k = false := by
        have h7 : tkV (g0 23) (gaV g0 n tk c set q) q (cbV g0 tk c set q k) (am_sh (g0 24 k)) 9 = 0 := by first | exact h7 | exact rdr h7
        unfold twV; rw [decide_eq_true h7]; rfl
      exact ih (k + 1) _ _ _ (by omega) (nI_1 k) (by rw [orF, y]; exact er) hg1
    · refine am_run_k 8 ?_
      have y : twV g0 n tk c set q k = true := by unfold twV; rw [decide_eq_false h7]; rfl
      exact ih (k + 1) _ _ _ (by omega) (nI_1 k) (by rw [orF, y, er]; rfl) hg1
theorem l_40_37_x {q n tk : Nat} {set : Int32} {g0 g2 : am_G} (hq : q < 6) (hn : n ≤ 6) (e13 : g2 1 3 = nI n) (hJ : stJ g2 (g0 23)) (wl : WAL g0 g2 n tk c set q) (e8 : ∀ w, w < 3 → g2 8 w = g0 24 w) (s2 : scC g0 g2) (hf : allB (fun p => fitV (g0 23) (gaV g0 n tk c set q) p) n = false → Q (some (.int 0)) LY g2) (h : allB (fun p => fitV (g0 23) (gaV g0 n tk c set q) p) n = true → ∀ g', scC g0 g' → WAL g0 g' n tk c set q → Q (some (.int (orF (twV g0 n tk c set q) 3))) LY g') : ∀ (m k : Nat) (x : Int32), k + m = n → x = nI k → allB (fun p => fitV (g0 23) (gaV g0 n tk c set q) p) k = true → am (d + 3) 40 37 [some (.ref 9), some (.ref 1), some (.int set), some (.int (nI q)), some (.int x), none] [] LY g2 0 0 none Q := by
  intro m
  induction m with
  | zero =>
    intro k x hk hx ha
    have hk : k = n := by omega
    subst hk; subst hx
    refine am_run_k 4 (And.intro (fun h6 => ?_) (fun hx => absurd ((show g2 1 3 ≤ nI k by rw [e13]; exact nI_le (Nat.le_refl k) (by omega))) hx))
    refine am_run_k 4 ?_
    exact l_40_73_x (g0 := g0) (g2 := g2) hq hJ wl e8 s2 (h ha) 3 0 0 0 g2 rfl rfl (by rw [orF]) (fun _ _ _ => rfl)
  | succ m ih =>
    intro k x hk hx ha
    subst hx
    refine am_run_k 4 (And.intro (fun hx => absurd hx ((show ¬ g2 1 3 ≤ nI k by rw [e13]; exact nI_ge (by omega) (by omega)))) (fun h6 => ?_))
    refine am_run_k 5 (am_cl ?_)
    refine w_fits_x (q := k) (by omega) hJ ?_
    have ef : fitV (g0 23) (g2 10) k = fitV (g0 23) (gaV g0 n tk c set q) k := fitV_eq (fun t ht => wl.1 (10 * k + t) (by omega))
    rw [ef]
    refine am_run_k 1 (And.intro (fun h7 => ?_) (fun h7 => ?_))
    · refine am_run_k 2 ?_
      exact ih (k + 1) _ (by omega) (nI_1 k) (by rw [allB, ha, bi_t h7]; rfl)
    · refine am_run_k 2 ?_
      exact hf (allB_f (bi_f h7) n (by omega))
theorem T.peo (t : T g B c f) : ∃ n, 2 ≤ n ∧ n ≤ 6 ∧ g 1 3 = nI n ∧ g 22 0 = nI n := by
  obtain ⟨n, h1, h2, e⟩ := t.2.1.1.1.1
  exact ⟨n, h1, h2, e, t.2.2.1.1.1.symm.trans e⟩
theorem T.tic (t : T g B c f) : ∃ k, k < 10 ∧ g 1 5 = nI k ∧ g 22 5 = nI k := by
  obtain ⟨k, h1, e⟩ := t.2.1.1.1.2.1
  exact ⟨k, h1, e, t.2.2.1.1.2.2.2.1.symm.trans e⟩
theorem T.rows (t : T g B c f) : rowsC g c := by
  obtain ⟨c', hc', e, r, -⟩ := t.2.1.1.1.2.2
  have := t.cnt hc' e
  subst this
  exact r
theorem w_thingsOf_x {q n tk : Nat} {set : Int32} (t : T g B c f) (hn : n ≤ 6) (e13 : g 1 3 = nI n) (htk : tk < 10) (e15 : g 1 5 = nI tk) (hq : q < 6) (h : ∀ g', scC g g' → (okV g n tk c set q = true → WAL g g' n tk c set q) → Q (some (.int (thV g n tk c set q))) LY g') : am (d + 3) 40 0 [some (.ref 9), some (.ref 1), some (.int set), some (.int (nI q)), none, none] [] LY g 0 0 none Q := by
  obtain ⟨⟨hc, hf, e51, e54⟩, ⟨I, I2⟩, ⟨⟨a0, a1, a2, a3, a4, a5⟩, -⟩, tj, tl, tr, -⟩ := id t
  have no : ∀ g', scC g g' → okV g n tk c set q = false → Q (some (.int 0)) LY g' := by
    intro g' s e
    have := h g' s (fun z => by rw [e] at z; cases z)
    unfold thV at this
    rw [e] at this
    exact this
  refine am_run_k 5 (am_cl ?_)
  refine w_listen_x hc e51 t.rows tr (fun g1 l => ?_)
  have s1 := l.1
  have e16 : g1 1 6 = g 22 6 := by rw [s1 1 (by omega)]; exact a4
  refine am_run_k 4 (And.intro (fun h1 => ?_) (fun h1 => ?_))
  · refine am_run_k 2 ?_
    have z : nI q = g 22 6 := by rw [← e16]; first | exact h1 | exact rdr h1
    exact no g1 s1 (by unfold okV; rw [decide_eq_true z]; rfl)
  · have z : ¬ nI q = g 22 6 := by rw [← e16]; exact h1
    refine am_run_k 4 (am_cl ?_)
    refine w_has ?_
    rw [hs_bt (by omega), l.2.2.2.2]
    refine am_run_k 1 (And.intro (fun h2 => ?_) (fun h2 => ?_))
    · have hb := bi_f h2
      refine am_run_k 4 (am_cl ?_)
      refine w_gather_x hq hn htk (by rw [s1 1 (by omega)]; exact e13) (by rw [s1 1 (by omega)]; exact e15) (fun g2 o2 e10 => ?_)
      have s2 : scC g g2 := fun k hk => (o2 k (by omega)).trans (s1 k hk)
      have wl : WAL g g2 n tk c set q := by
        refine ⟨?_, fun w hw => ⟨?_, ?_⟩⟩
        · rw [e10, e16, show g1 1 4 = g 22 4 by rw [s1 1 (by omega)]; exact a2]
          exact gaM_eq l.2.1
        · rw [o2 13 (by decide)]; exact l.2.2.1 w hw
        · rw [o2 14 (by decide), l.2.2.2.1 w hw, e15]
      have e8 : ∀ w, w < 3 → g2 8 w = g 24 w := fun w hw => by rw [s2 8 (by omega)]; exact tl w hw
      refine am_run_k 2 ?_
      refine l_40_37_x (g0 := g) hq hn (by rw [s2 1 (by omega)]; exact e13) (tj.stJ.of (s2 4 (by omega))) wl e8 s2 (fun ef => no g2 s2 ?_) (fun et g' s' w' => ?_) n 0 0 (Nat.zero_add n) rfl rfl
      · unfold okV; rw [ef]; simp
      · have ok : okV g n tk c set q = true := by unfold okV; rw [decide_eq_false z, hb, et]; rfl
        have := h g' s' (fun _ => w')
        unfold thV at this
        rw [ok] at this
        exact this
    · refine am_run_k 2 ?_
      exact no g1 s1 (by unfold okV; rw [bi_t h2]; simp)
theorem l_39_6_x {n tk : Nat} {set am1 : Int32} {g0 : am_G} (t : T g0 B c f) (hn : n ≤ 6) (e13 : g0 1 3 = nI n) (htk : tk < 10) (e15 : g0 1 5 = nI tk) (h : ∀ g', scC g0 g' → Q (some (.int (suV g0 n tk c set am1))) LY g') : ∀ (m k : Nat) (x r : Int32) (g : am_G), k + m = n → x = nI k → r = orF (fun q => bt am1 q && !decide (thV g0 n tk c set q = 0)) k → scC g0 g → am (d + 4) 39 6 [some (.ref 9), some (.ref 1), some (.int set), some (.int am1), some (.int r), some (.int x)] [] LY g 0 0 none Q := by
  intro m
  induction m with
  | zero =>
    intro k x r g hk hx er hg
    have hk : k = n := by omega
    subst hk; subst hx; subst er
    have f13 : g 1 3 = nI k := by rw [hg 1 (by omega)]; exact e13
    refine am_run_k 4 (And.intro (fun h6 => ?_) (fun hx => absurd ((show g 1 3 ≤ nI k by rw [f13]; exact nI_le (Nat.le_refl k) (by omega))) hx))
    refine am_run_k 2 ?_
    exact h g hg
  | succ m ih =>
    intro k x r g hk hx er hg
    subst hx
    have f13 : g 1 3 = nI n := by rw [hg 1 (by omega)]; exact e13
    have f15 : g 1 5 = nI tk := by rw [hg 1 (by omega)]; exact e15
    refine am_run_k 4 (And.intro (fun hx => absurd hx ((show ¬ g 1 3 ≤ nI k by rw [f13]; exact nI_ge (by omega) (by omega)))) (fun h6 => ?_))
    refine am_run_k 3 (am_cl ?_)
    refine w_has ?_
    rw [hs_bt (by omega)]
    refine am_run_k 1 (And.intro (fun h7 => ?_) (fun h7 => ?_))
    · refine am_run_k 2 ?_
      exact ih (k + 1) _ _ _ (by omega) (nI_1 k) (by rw [orF, bi_f h7]; exact er) hg
    · refine am_run_k 5 (am_cl ?_)
      refine w_thingsOf_x (q := k) (t.scC hg) hn f13 htk f15 (by omega) (fun g2 hg2 _ => ?_)
      rw [thV_sc hg]
      refine am_run_k 1 (And.intro (fun h8 => ?_) (fun h8 => ?_))
      · refine am_run_k 2 ?_
        have z : thV g0 n tk c set k = 0 := by first | exact h8 | exact rdr h8
        exact ih (k + 1) _ _ _ (by omega) (nI_1 k) (by rw [orF, z, decide_eq_true rfl, er]; simp) (hg.tr hg2)
      · refine am_run_k 8 ?_
        have z : ¬ thV g0 n tk c set k = 0 := h8
        exact ih (k + 1) _ _ _ (by omega) (nI_1 k) (by rw [orF, bi_t h7, decide_eq_false z, er]; rfl) (hg.tr hg2)
theorem w_suspectsOf_x {n tk : Nat} {set am1 : Int32} (t : T g B c f) (hn : n ≤ 6) (e13 : g 1 3 = nI n) (htk : tk < 10) (e15 : g 1 5 = nI tk) (h : ∀ g', scC g g' → Q (some (.int (suV g n tk c set am1))) LY g') : am (d + 4) 39 0 [some (.ref 9), some (.ref 1), some (.int set), some (.int am1), none, none] [] LY g 0 0 none Q := by
  refine am_run_k 4 ?_
  exact l_39_6_x (g0 := g) t hn e13 htk e15 h n 0 0 0 g (Nat.zero_add n) rfl (by rw [orF]) scC.rf
/-- the first way, step by step: what is open, and whether the thing is taken -/
def wyS (J M : Nat → Int32) (q : Nat) (cb : Nat → Bool) (lie : Int32) : Nat → Int32 × Bool
  | 0 => (tkV J M q cb (am_sh lie) 9, false)
  | t + 1 => (arV J (am_sh (fsF (wyS J M q cb lie t).1 8 0)) &&& (bif (wyS J M q cb lie t).2 || (cb t && decide (fsF (wyS J M q cb lie t).1 8 0 = lie)) then goF J M q (8 - t) else tkV J M q cb (am_sh lie) (8 - t)), (wyS J M q cb lie t).2 || (cb t && decide (fsF (wyS J M q cb lie t).1 8 0 = lie)))
def wyP (J M : Nat → Int32) (q : Nat) (cb : Nat → Bool) (lie : Int32) (t : Nat) : Int32 := fsF (wyS J M q cb lie t).1 8 0
theorem l_41_24_x {q tk w : Nat} {J M : Nat → Int32} {cb : Nat → Bool} {lie : Int32} {g0 : am_G} (hq : q < 6) (hw : w < 3) (htk : tk < 10) (hJ : stJ g0 J) (e8 : g0 8 w = lie) (hcb : ∀ t, t < 10 → (decide (g0 13 w ≤ nI t) && decide (nI t ≤ g0 14 w)) = cb t) (h11 : ∀ m, m ≤ 9 → g0 11 (9 - m) = goF J M q m ∧ g0 12 (9 - m) = tkV J M q cb (am_sh lie) m) (h : Q (some (.int (wyP J M q cb lie tk))) LY g0) : ∀ (n t : Nat) (x a b e : Int32), t + n = tk + 1 → x = nI t → (t ≤ tk → b = (wyS J M q cb lie t).1 ∧ a = am_bi (wyS J M q cb lie t).2) → (t = tk + 1 → e = wyP J M q cb lie tk) → am (d + 2) 41 24 [some (.ref 9), some (.ref 1), some (.int (nI q)), some (.int (nI w)), some (.int (nI tk)), some (.int a), some (.int b), some (.int e), some (.int x)] [] LY g0 0 0 none Q := by
  intro n
  induction n with
  | zero =>
    intro t x a b e ht hx h1 h2
    have ht : t = tk + 1 := by omega
    subst hx
    refine am_run_k 3 (And.intro (fun h6 => ?_) (fun hx => absurd ((show nI tk < nI t from nI_lt (by omega) (by omega))) hx))
    refine am_run_k 2 ?_
    rw [h2 ht]
    exact h
  | succ n ih =>
    intro t x a b e ht hx h1 h2
    subst hx
    obtain ⟨eb, ea⟩ := h1 (by omega)
    subst eb
    refine am_run_k 3 (And.intro (fun hx => absurd hx ((show ¬ nI tk < nI t from nI_nlt (by omega) (by omega)))) (fun h6 => ?_))
    refine am_run_k 2 (am_cl ?_)
    refine w_first ?_
    have epl : fsF (wyS J M q cb lie t).1 8 0 = wyP J M q cb lie t := rfl
    rw [epl]
    have es : wyS J M q cb lie (t + 1) = (arV J (am_sh (wyP J M q cb lie t)) &&& (bif (wyS J M q cb lie t).2 || (cb t && decide (wyP J M q cb lie t = lie)) then goF J M q (8 - t) else tkV J M q cb (am_sh lie) (8 - t)), (wyS J M q cb lie t).2 || (cb t && decide (wyP J M q cb lie t = lie))) := by
      rw [wyS]; rfl
    have tail : ∀ (u : Bool) (b : Int32), u = ((wyS J M q cb lie t).2 || (cb t && decide (wyP J M q cb lie t = lie))) → am (d + 2) 41 69 [some (.ref 9), some (.ref 1), some (.int (nI q)), some (.int (nI w)), some (.int (nI tk)), some (.int a), some (.int b), some (.int (wyP J M q cb lie t)), some (.int (nI t))] [.int (am_bi u)] LY g0 0 0 none Q := by
      intro u b eu
      refine am_run_k 6 (And.intro (fun h7 => ?_) (fun h7 => ?_))
      · have ht9 : t = 9 := by
          rw [nI_1] at h7
          rcases Nat.lt_or_ge (t + 1) 10 with z | z
          · have : ¬ nI 10 ≤ nI (t + 1) := nI_ge (by omega) (by decide)
            first
              | exact absurd h7 this
              | exact absurd (fa_nlt.mp h7) this
          · omega
        refine am_run_k 2 ?_
        refine ih (t + 1) _ _ _ _ (by omega) (nI_1 t) (fun z => absurd z (by omega)) (fun z => ?_)
        have : t = tk := by omega
        rw [this]
      · have ht9 : t + 1 < 10 := by
          rw [nI_1] at h7
          rcases Nat.lt_or_ge (t + 1) 10 with z | z
          · exact z
          · have : nI 10 ≤ nI (t + 1) := nI_le z (by omega)
            first
              | exact absurd this h7
              | exact absurd this (fa_nle.mpr h7)
        have h11t := h11 (8 - t) (by omega)
        rw [show 9 - (8 - t) = t + 1 by omega] at h11t
        refine am_run_k 6 (am_cl ?_)
        refine w_reached ?_
        rw [hJ]
        have nxt : ∀ v : Int32, v = (bif u then goF J M q (8 - t) else tkV J M q cb (am_sh lie) (8 - t)) → am (d + 2) 41 120 [some (.ref 9), some (.ref 1), some (.int (nI q)), some (.int (nI w)), some (.int (nI tk)), some (.int (am_bi u)), some (.int (arV J (am_sh (wyP J M q cb lie t)) &&& v)), some (.int (wyP J M q cb lie t)), some (.int (nI t))] [] LY g0 0 0 none Q := by
          intro v ev
          refine am_run_k 2 ?_
          refine ih (t + 1) _ _ _ _ (by omega) (nI_1 t) (fun _ => ?_) (fun z => ?_)
          · rw [es, ev, eu]; exact ⟨rfl, rfl⟩
          · have : t = tk := by omega
            rw [this]
        refine am_run_k 2 (And.intro (fun h8 => ?_) (fun h8 => ?_))
        · have hu := bi_f h8
          refine am_run_k 6 (And.intro (vpe (nI_1 t) (by omega)) ?_)
          refine am_run_k 2 ?_
          rw [cle (nI_1 t) (by omega), h11t.2]
          exact nxt _ (by rw [hu]; rfl)
        · have hu := bi_t h8
          refine am_run_k 6 (And.intro (vpe (nI_1 t) (by omega)) ?_)
          refine am_run_k 3 ?_
          rw [cle (nI_1 t) (by omega), h11t.1]
          exact nxt _ (by rw [hu]; rfl)
    rw [ea]
    rw [ea] at tail
    refine am_run_k 3 (And.intro (fun h9 => ?_) (fun h9 => ?_))
    · refine am_run_k 2 ?_
      exact tail true _ (by rw [bi_t h9]; rfl)
    · have h2f := bi_f h9
      refine am_run_k 4 (am_cl ?_)
      refine w_cbt_x hw ?_
      rw [hcb t (by omega)]
      refine am_run_k 1 (And.intro (fun h10 => ?_) (fun h10 => ?_))
      · refine am_run_k 1 ?_
        exact tail false _ (by rw [h2f, bi_f h10]; rfl)
      · refine am_run_k 5 (And.intro (vpn hw) ?_)
        rw [ncl (by omega), e8]
        refine am_run_k 1 (And.intro (fun h11' => ?_) (fun h11' => ?_))
        · refine am_run_k 1 ?_
          have z : ¬ wyP J M q cb lie t = lie := h11'
          exact tail false _ (by rw [h2f, decide_eq_false z, Bool.and_false]; rfl)
        · refine am_run_k 2 ?_
          have z : wyP J M q cb lie t = lie := by first | exact h11' | exact rdr h11'
          exact tail true _ (by rw [bi_t h10, decide_eq_true z]; simp)
theorem w_placeAt_x {q tk w : Nat} {J M : Nat → Int32} {cb : Nat → Bool} {lie : Int32} (hq : q < 6) (hw : w < 3) (htk : tk < 10) (hJ : stJ g J) (e8 : g 8 w = lie) (hcb : ∀ t, (decide (g 13 w ≤ nI t) && decide (nI t ≤ g 14 w)) = cb t) (hM : ∀ t, t < 10 → g 10 (10 * q + t) = M (10 * q + t)) (h : ∀ g', scC g g' → Q (some (.int (wyP J M q cb lie tk))) LY g') : am (d + 2) 41 0 [some (.ref 9), some (.ref 1), some (.int (nI q)), some (.int (nI w)), some (.int (nI tk)), none, none, none, none] [] LY g 0 0 none Q := by
  refine am_run_k 5 (am_cl ?_)
  refine w_trace_x hq hw hJ (fun g1 t1 => ?_)
  have k1 : ∀ m, m ≤ 9 → g1 11 (9 - m) = goF J M q m ∧ g1 12 (9 - m) = tkV J M q cb (am_sh lie) m := by
    intro m hm
    obtain ⟨z1, z2⟩ := t1.2 m (by omega)
    refine ⟨z1.trans (goF_eq hM m), z2.trans ?_⟩
    rw [e8]
    exact tkV_eq hM (fun t _ => hcb t) m
  have k0 := (k1 9 (by omega)).2
  rw [show 9 - 9 = 0 from rfl] at k0
  refine am_run_k 6 (And.intro (vpe (n := 0) rfl (by decide)) ?_)
  rw [show (0 : Int32).toNatClampNeg = 0 from rfl, k0]
  refine am_run_k 5 ?_
  exact l_41_24_x (g0 := g1) (J := J) (M := M) (cb := cb) (lie := lie) hq hw htk (hJ.of (t1.1 4 (by decide) (by decide))) (by rw [t1.1 8 (by decide) (by decide)]; exact e8) (fun t _ => by rw [t1.1 13 (by decide) (by decide), t1.1 14 (by decide) (by decide)]; exact hcb t) k1 (h g1 t1.sc) (tk + 1) 0 0 _ _ _ (Nat.zero_add _) rfl (fun _ => by rw [wyS]; exact ⟨rfl, rfl⟩) (fun z => absurd z (by omega))
end CQU
