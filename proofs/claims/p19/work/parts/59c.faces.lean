section FCE
variable {d : Nat} {L : am_L} {g : am_G} {Q : am_Q} {B c f : Nat}
theorem orF_bt {P : Nat → Bool} {q : Nat} (hq : q < 32) : ∀ n, n ≤ 32 → bt (orF P n) q = (decide (q < n) && P q) := by
  intro n
  induction n with
  | zero => intro _; rw [orF, b_0, decide_eq_false (Nat.not_lt_zero q)]; rfl
  | succ n ih =>
    intro hn
    rw [orF]
    by_cases e : q = n
    · subst e
      rw [decide_eq_true (Nat.lt_succ_self q), Bool.true_and]
      have i := ih (by omega)
      rw [decide_eq_false (Nat.lt_irrefl q), Bool.false_and] at i
      cases hp : P q with
      | true => rw [cond_true, b_or, b_sh hq (by omega), decide_eq_true rfl, Bool.or_true]
      | false => rw [cond_false, i]
    · have e2 : decide (q < n + 1) = decide (q < n) := decide_eq_decide.mpr ⟨fun z => by omega, fun z => by omega⟩
      rw [e2, ← ih (by omega)]
      cases hp : P n with
      | true => rw [cond_true, b_or, b_sh hq (by omega), decide_eq_false e, Bool.or_false]
      | false => rfl
theorem orF_ext {P R : Nat → Bool} : ∀ {n}, (∀ q, q < n → P q = R q) → orF P n = orF R n := by
  intro n
  induction n with
  | zero => intro _; rw [orF, orF]
  | succ n ih => intro h; rw [orF, orF, ih (fun q hq => h q (by omega)), h n (by omega)]
theorem orF_0 {P : Nat → Bool} : ∀ {n}, (∀ q, q < n → P q = false) → orF P n = 0 := by
  intro n
  induction n with
  | zero => intro _; rw [orF]
  | succ n ih => intro h; rw [orF, ih (fun q hq => h q (by omega)), h n (by omega)]; rfl
theorem orz (x : Int32) : x ||| 0 = x := b_ext (fun i hi => by rw [b_or, b_0, Bool.or_false])
theorem T.fb (t : T g B c f) : orF (fun k => decide (0 < g 27 k)) c = g 5 2 := by
  have hc := t.1.1
  have tf := t.2.2.2.2.2.2.1.1
  exact b_ext (fun k hk => by rw [orF_bt hk c (by omega), tf k hk])
theorem m_foundBits_x {l1 l2 : Option Value} (t : T g B c f) (h : Q (some (.int (g 5 2))) LY g) : am d 112 0 [some (.ref 22), l1, l2] [] LY g 0 0 none Q := by
  have hc := t.1.1
  have ec := t.c7
  have lp : ∀ (n k : Nat) (x acc : Int32), k + n = c → x = nI k → acc = orF (fun k => decide (0 < g 27 k)) k → am d 112 4 [some (.ref 22), some (.int acc), some (.int x)] [] LY g 0 0 none Q := by
    intro n
    induction n with
    | zero =>
      intro k x acc hk hx ea
      have hk : k = c := by omega
      subst hk; subst hx; subst ea
      refine am_run_k 4 (And.intro (fun h6 => ?_) (fun hx => absurd ((show g 22 7 ≤ nI k by rw [ec]; exact nI_le (Nat.le_refl k) (by omega))) hx))
      refine am_run_k 2 ?_
      rw [t.fb]
      exact h
    | succ n ih =>
      intro k x acc hk hx ea
      subst hx
      refine am_run_k 4 (And.intro (fun hx => absurd hx ((show ¬ g 22 7 ≤ nI k by rw [ec]; exact nI_ge (by omega) (by omega)))) (fun h6 => ?_))
      refine am_run_k 5 (And.intro (vpn (by omega)) ?_)
      rw [ncl (by omega)]
      refine am_run_k 1 (And.intro (fun h1 => ?_) (fun h1 => ?_))
      · refine am_run_k 5 ?_
        have z : ¬ 0 < g 27 k := by first | exact fa_nlt.mpr h1 | exact h1
        exact ih (k + 1) _ _ (by omega) (nI_1 k) (by rw [orF, decide_eq_false z, cond_false, orz, ea])
      · refine am_run_k 8 ?_
        have z : 0 < g 27 k := by first | exact fa_nle.mp h1 | exact rdr h1
        exact ih (k + 1) _ _ (by omega) (nI_1 k) (by rw [orF, decide_eq_true z, cond_true, ea]; rfl)
  refine am_run_k 4 ?_
  exact lp c 0 _ _ (by omega) rfl (by rw [orF])
theorem okV_of {g' : am_G} {n tk : Nat} {set : Int32} {q : Nat} (e4 : g' 22 4 = g 22 4) (e6 : g' 22 6 = g 22 6) (e23 : g' 23 = g 23) (e25 : g' 25 = g 25) (e26 : g' 26 = g 26) : okV g' n tk c set q = okV g n tk c set q := by
  have r : rwO g' = rwO g := by funext k; unfold rwO; rw [e25, e26]
  have s : selB g' = selB g := by funext a b k; unfold selB; rw [e25, e26]
  have ga : gaV g' n tk c set q = gaV g n tk c set q := by unfold gaV; rw [r, s, e4, e6]
  unfold okV
  rw [ga, r, s, e6, e23]
theorem twV_of {g' : am_G} {n tk : Nat} {set : Int32} {q w : Nat} (e4 : g' 22 4 = g 22 4) (e6 : g' 22 6 = g 22 6) (e23 : g' 23 = g 23) (e24 : g' 24 = g 24) (e25 : g' 25 = g 25) (e26 : g' 26 = g 26) : twV g' n tk c set q w = twV g n tk c set q w := by
  have r : rwO g' = rwO g := by funext k; unfold rwO; rw [e25, e26]
  have s : selB g' = selB g := by funext a b k; unfold selB; rw [e25, e26]
  have ga : gaV g' n tk c set q = gaV g n tk c set q := by unfold gaV; rw [r, s, e4, e6]
  have cb : cbV g' tk c set q = cbV g tk c set q := by funext w t; unfold cbV; rw [r, s]
  unfold twV
  rw [ga, cb, e23, e24]
theorem cdV_sm {g' : am_G} {n tk : Nat} {set : Int32} {q w : Nat} (s : scM g g') : cdV g' n tk c set q w = cdV g n tk c set q w := by
  have e4 := s.2 4 (by decide) (by decide)
  have e6 := s.2 6 (by decide) (by decide)
  have e23 := s.1 23 (by decide) (by decide) (by decide) (by decide)
  have e24 := s.1 24 (by decide) (by decide) (by decide) (by decide)
  have e25 := s.1 25 (by decide) (by decide) (by decide) (by decide)
  have e26 := s.1 26 (by decide) (by decide) (by decide) (by decide)
  unfold cdV
  rw [okV_of e4 e6 e23 e25 e26, twV_of e4 e6 e23 e24 e25 e26]
theorem thV_sm {g' : am_G} {n tk : Nat} {set : Int32} {q : Nat} (s : scM g g') : thV g' n tk c set q = thV g n tk c set q :=
  thV_of (s.2 4 (by decide) (by decide)) (s.2 6 (by decide) (by decide)) (s.1 23 (by decide) (by decide) (by decide) (by decide)) (s.1 24 (by decide) (by decide) (by decide) (by decide)) (s.1 25 (by decide) (by decide) (by decide) (by decide)) (s.1 26 (by decide) (by decide) (by decide) (by decide))
theorem thV_cd {n tk : Nat} {set : Int32} {q : Nat} : thV g n tk c set q = orF (fun w => cdV g n tk c set q w) 3 := by
  unfold thV cdV
  cases okV g n tk c set q with
  | true => exact orF_ext (fun w _ => (Bool.true_and _).symm)
  | false => exact (orF_0 (fun w _ => rfl)).symm
theorem or3_any {P : Nat → Bool} : (P 0 || (P 1 || P 2)) = !decide (orF P 3 = 0) := by
  rw [orF, orF, orF, orF]
  cases P 0 <;> cases P 1 <;> cases P 2 <;> decide
theorem any_th {n tk : Nat} {set : Int32} {q : Nat} : (cdV g n tk c set q 0 || (cdV g n tk c set q 1 || cdV g n tk c set q 2)) = !decide (thV g n tk c set q = 0) := by
  rw [thV_cd]; exact or3_any
theorem m_couldAny_x {q n tk : Nat} {bits : Int32} (t : T g B c f) (hqn : q < n) (hn : n ≤ 6) (en : g 22 0 = nI n) (htk : tk < 10) (et : g 22 5 = nI tk) (h : ∀ g', scM g g' → Q (some (.int (am_bi (!decide (thV g n tk c bits q = 0))))) LY g') : am (d + 3) 113 0 [some (.ref 22), some (.int (nI q)), some (.int bits)] [] LY g 0 0 none Q := by
  have e := any_th (g := g) (c := c) (n := n) (tk := tk) (set := bits) (q := q)
  have s30 : (cdV g n tk c bits q 0 || (cdV g n tk c bits q 1 || cdV g n tk c bits q 2)) = true → ∀ g', scM g g' → am (d + 3) 113 30 [some (.ref 22), some (.int (nI q)), some (.int bits)] [] LY g' 0 0 none Q := by
    intro z g' s
    refine am_run_k 3 (And.intro (Or.inr rfl) ?_)
    have := h g' s
    rw [← e, z] at this
    exact this
  refine am_run_k 5 (am_cl ?_)
  refine m_could_x (th := 0) t hqn (by decide) hn en htk et (fun g1 s1 _ => ?_)
  refine am_run_k 1 (And.intro (fun h1 => ?_) (fun h1 => ?_))
  · have z : cdV g n tk c bits q 0 = true := by first | exact bi_t h1 | exact bi_f h1
    exact s30 (by rw [z]; rfl) g1 s1
  · have z0 : cdV g n tk c bits q 0 = false := by first | exact bi_f h1 | exact bi_t h1
    refine am_run_k 5 (am_cl ?_)
    refine m_could_x (th := 1) (t.scM s1) hqn (by decide) hn (by rw [s1.2 0 (by decide) (by decide)]; exact en) htk (by rw [s1.2 5 (by decide) (by decide)]; exact et) (fun g2 s2 _ => ?_)
    rw [cdV_sm s1]
    refine am_run_k 1 (And.intro (fun h2 => ?_) (fun h2 => ?_))
    · have z : cdV g n tk c bits q 1 = true := by first | exact bi_t h2 | exact bi_f h2
      exact s30 (by rw [z]; simp) g2 (s1.tr s2)
    · have z1 : cdV g n tk c bits q 1 = false := by first | exact bi_f h2 | exact bi_t h2
      have s12 := s1.tr s2
      refine am_run_k 5 (am_cl ?_)
      refine m_could_x (th := 2) (t.scM s12) hqn (by decide) hn (by rw [s12.2 0 (by decide) (by decide)]; exact en) htk (by rw [s12.2 5 (by decide) (by decide)]; exact et) (fun g3 s3 _ => ?_)
      rw [cdV_sm s12]
      refine am_run_k 1 (And.intro (fun h3 => ?_) (fun h3 => ?_))
      · have z2 : cdV g n tk c bits q 2 = false := by first | exact bi_f h3 | exact bi_t h3
        refine am_run_k 2 (And.intro (Or.inl rfl) ?_)
        have := h g3 (s12.tr s3)
        rw [← e, z0, z1, z2] at this
        exact this
      · have z2 : cdV g n tk c bits q 2 = true := by first | exact bi_t h3 | exact bi_f h3
        exact s30 (by rw [z2]; simp) g3 (s12.tr s3)
/-- the suspects by a set of finds -/
def suM (g : am_G) (n tk c : Nat) (set : Int32) : Int32 := orF (fun q => !decide (thV g n tk c set q = 0)) n
theorem suM_sm {g' : am_G} {n tk : Nat} {set : Int32} (s : scM g g') : suM g' n tk c set = suM g n tk c set := by
  unfold suM
  exact orF_ext (fun q _ => by rw [thV_sm s])
theorem suM_sc {g' : am_G} {n tk : Nat} {set : Int32} (s : scC g g') : suM g' n tk c set = suM g n tk c set := by
  unfold suM
  exact orF_ext (fun q _ => by rw [thV_sc s])
theorem m_suspectsBy_x {n tk : Nat} {bits : Int32} {l2 l3 : Option Value} (t : T g B c f) (hn : n ≤ 6) (en : g 22 0 = nI n) (htk : tk < 10) (et : g 22 5 = nI tk) (h : ∀ g', scM g g' → Q (some (.int (suM g n tk c bits))) LY g') : am (d + 4) 114 0 [some (.ref 22), some (.int bits), l2, l3] [] LY g 0 0 none Q := by
  have lp : ∀ (m k : Nat) (x acc : Int32) (g1 : am_G), k + m = n → x = nI k → acc = orF (fun q => !decide (thV g n tk c bits q = 0)) k → scM g g1 → am (d + 4) 114 4 [some (.ref 22), some (.int bits), some (.int acc), some (.int x)] [] LY g1 0 0 none Q := by
    intro m
    induction m with
    | zero =>
      intro k x acc g1 hk hx ea s
      have hk : k = n := by omega
      subst hk; subst hx; subst ea
      refine am_run_k 4 (And.intro (fun h6 => ?_) (fun hx => absurd ((show g1 22 0 ≤ nI k by rw [s.2 0 (by decide) (by decide), en]; exact nI_le (Nat.le_refl k) (by omega))) hx))
      refine am_run_k 2 ?_
      exact h g1 s
    | succ m ih =>
      intro k x acc g1 hk hx ea s
      subst hx
      have en1 : g1 22 0 = nI n := by rw [s.2 0 (by decide) (by decide)]; exact en
      refine am_run_k 4 (And.intro (fun hx => absurd hx ((show ¬ g1 22 0 ≤ nI k by rw [en1]; exact nI_ge (by omega) (by omega)))) (fun h6 => ?_))
      refine am_run_k 5 (am_cl ?_)
      refine m_couldAny_x (t.scM s) (by omega) hn en1 htk (by rw [s.2 5 (by decide) (by decide)]; exact et) (fun g2 s2 => ?_)
      rw [thV_sm s]
      refine am_run_k 1 (And.intro (fun h1 => ?_) (fun h1 => ?_))
      · have z : (!decide (thV g n tk c bits k = 0)) = false := by first | exact bi_f h1 | exact bi_t h1
        refine am_run_k 5 ?_
        exact ih (k + 1) _ _ _ (by omega) (nI_1 k) (by rw [orF, z, cond_false, orz, ea]) (s.tr s2)
      · have z : (!decide (thV g n tk c bits k = 0)) = true := by first | exact bi_t h1 | exact bi_f h1
        refine am_run_k 8 ?_
        exact ih (k + 1) _ _ _ (by omega) (nI_1 k) (by rw [orF, z, cond_true, ea]; rfl) (s.tr s2)
  refine am_run_k 4 ?_
  exact lp n 0 _ _ g (by omega) rfl (by rw [orF]) scM.rf
/-- the numbers of people and the tick, as numbers -/
def nV (g : am_G) : Nat := (g 22 0).toNatClampNeg
def kV (g : am_G) : Nat := (g 22 5).toNatClampNeg
theorem T.nk (t : T g B c f) : (2 ≤ nV g ∧ nV g ≤ 6 ∧ g 1 3 = nI (nV g) ∧ g 22 0 = nI (nV g)) ∧ kV g < 10 ∧ g 1 5 = nI (kV g) ∧ g 22 5 = nI (kV g) := by
  obtain ⟨n, h1, h2, h3, h4⟩ := t.peo
  obtain ⟨k, h5, h6, h7⟩ := t.tic
  have en : nV g = n := by unfold nV; rw [h4, ncl (by omega)]
  have ek : kV g = k := by unfold kV; rw [h7, ncl (by omega)]
  rw [en, ek]
  exact ⟨⟨h1, h2, h3, h4⟩, h5, h6, h7⟩
def aSus (g : am_G) (c : Nat) : Int32 := suM g (nV g) (kV g) c (g 5 2)
theorem aSus_sc {g' : am_G} (s : scC g g') : aSus g' c = aSus g c := by
  unfold aSus nV kV
  rw [suM_sc s, s 22 (by omega), s 5 (by omega)]
theorem evr : ∀ n, n ≤ 6 → ∀ q, q < n → bt (am_sh (nI n) - 1) q = true := by decide
theorem suV_all {n tk : Nat} {set : Int32} (hn : n ≤ 6) : suV g n tk c set (am_sh (nI n) - 1) = suM g n tk c set := by
  unfold suV suM
  exact orF_ext (fun q hq => by rw [evr n hn q hq, Bool.true_and])
theorem x_suspects (t : T g B c f) (h : ∀ g', scC g g' → Q (some (.int (aSus g c))) LY g') : am (d + 5) 61 0 [some (.ref 0)] [] LY g 0 0 none Q := by
  obtain ⟨⟨n1, n2, n3, n4⟩, k1, k2, k3⟩ := t.nk
  refine am_run_k 11 (am_cl ?_)
  refine w_everyone ?_
  rw [n3]
  refine am_run_k 1 (am_cl ?_)
  refine w_suspectsOf_x (n := nV g) (tk := kV g) t n2 n3 k1 k2 (fun g1 hg1 => ?_)
  rw [suV_all n2]
  refine am_run_k 1 ?_
  exact h g1 hg1
theorem y_suspects0 (t : T g B c f) (h : ∀ g', scM g g' → Q (some (.int (aSus g c))) LY g') : am (d + 5) 117 0 [some (.ref 22)] [] LY g 0 0 none Q := by
  obtain ⟨⟨n1, n2, n3, n4⟩, k1, k2, k3⟩ := t.nk
  refine am_run_k 3 (am_cl ?_)
  refine m_foundBits_x t ?_
  refine am_run_k 1 (am_cl ?_)
  refine m_suspectsBy_x t n2 n4 k1 k3 (fun g1 s => ?_)
  refine am_run_k 1 ?_
  exact h g1 s
theorem y_suspects {g1 : am_G} (t : T g B c f) (s : scC g g1) (h : ∀ g2, T g2 B c f → Q (some (.int (aSus g c))) LY g2) : am (d + 5) 117 0 [some (.ref 22)] [] LY g1 0 0 none Q :=
  y_suspects0 (t.scC s) (fun g2 s2 => by rw [aSus_sc s]; exact h g2 ((t.scC s).scM s2))
def aWith (g : am_G) (c : Nat) (a : Int32) : Int32 := bif am_ir a (g 22 0) then thV g (nV g) (kV g) c (g 5 2) a.toNatClampNeg else -1
theorem aWith_sc {g' : am_G} {a : Int32} (s : scC g g') : aWith g' c a = aWith g c a := by
  unfold aWith nV kV
  rw [thV_sc s, s 22 (by omega), s 5 (by omega)]
theorem x_with {a : Int32} (t : T g B c f) (h : ∀ g', scC g g' → Q (some (.int (aWith g c a))) LY g') : am (d + 4) 62 0 [some (.ref 0), some (.int a)] [] LY g 0 0 none Q := by
  obtain ⟨⟨n1, n2, n3, n4⟩, k1, k2, k3⟩ := t.nk
  refine am_run_k 4 (am_cl ?_)
  refine w_isPerson ?_
  rw [n3, ← n4]
  refine am_run_k 1 (And.intro (fun h1 => ?_) (fun h1 => ?_))
  · have hb := bi_t h1
    rw [n4] at hb
    obtain ⟨q, hq, ea⟩ := am_ir_nI (by omega) hb
    refine am_run_k 10 (am_cl ?_)
    rw [ea]
    refine w_thingsOf_x (n := nV g) (tk := kV g) t n2 n3 k1 k2 (by omega) (fun g1 hg1 _ => ?_)
    refine am_run_k 1 ?_
    have e : aWith g c a = thV g (nV g) (kV g) c (g 5 2) q := by unfold aWith; rw [bi_t h1, ea, ncl (by omega)]; rfl
    rw [← e]
    exact h g1 hg1
  · refine am_run_k 2 ?_
    have e : aWith g c a = -1 := by unfold aWith; rw [bi_f h1]; rfl
    have := h g scC.rf
    rw [e] at this
    exact this
theorem y_with {a : Int32} {g1 : am_G} {l2 l3 : Option Value} (t0 : T g B c f) (s0 : scC g g1) (h : ∀ g2, T g2 B c f → Q (some (.int (aWith g c a))) LY g2) : am (d + 3) 118 0 [some (.ref 22), some (.int a), l2, l3] [] LY g1 0 0 none Q := by
  have t := t0.scC s0
  rw [← aWith_sc s0] at h
  obtain ⟨⟨n1, n2, n3, n4⟩, k1, k2, k3⟩ := t.nk
  refine am_run_k 3 (am_cl ?_)
  refine m_isOne ⟨by omega, n2⟩ n4 ?_
  rw [← n4]
  refine am_run_k 1 (And.intro (fun h1 => ?_) (fun h1 => ?_))
  · have hb := bi_t h1
    rw [n4] at hb
    obtain ⟨q, hq, ea⟩ := am_ir_nI (by omega) hb
    have e : aWith g1 c a = orF (fun w => cdV g1 (nV g1) (kV g1) c (g1 5 2) q w) 3 := by unfold aWith; rw [bi_t h1, ea, ncl (by omega), cond_true, thV_cd]
    rw [e] at h
    subst ea
    have lp : ∀ (m k : Nat) (x acc : Int32) (g2 : am_G), k + m = 3 → x = nI k → acc = orF (fun w => cdV g1 (nV g1) (kV g1) c (g1 5 2) q w) k → scM g1 g2 → am (d + 3) 118 14 [some (.ref 22), some (.int (nI q)), some (.int acc), some (.int x)] [] LY g2 0 0 none Q := by
      intro m
      induction m with
      | zero =>
        intro k x acc g2 hk hx ea s
        have hk : k = 3 := by omega
        subst hk; subst hx; subst ea
        refine am_run_k 3 (And.intro (fun h6 => ?_) (fun hx => absurd ((show nI 3 ≤ nI 3 from nI_le (Nat.le_refl 3) (by decide))) hx))
        refine am_run_k 2 ?_
        exact h g2 (t.scM s)
      | succ m ih =>
        intro k x acc g2 hk hx ea s
        subst hx
        refine am_run_k 3 (And.intro (fun hx => absurd hx ((nI_ge (b := 3) (by omega) (by decide)))) (fun h6 => ?_))
        refine am_run_k 6 (am_cl ?_)
        refine m_foundBits_x (t.scM s) ?_
        rw [s.1 5 (by decide) (by decide) (by decide) (by decide)]
        refine am_run_k 1 (am_cl ?_)
        refine m_could_x (t.scM s) hq (by omega) n2 (by rw [s.2 0 (by decide) (by decide)]; exact n4) k1 (by rw [s.2 5 (by decide) (by decide)]; exact k3) (fun g3 s3 _ => ?_)
        rw [cdV_sm s]
        refine am_run_k 1 (And.intro (fun h2 => ?_) (fun h2 => ?_))
        · have z : cdV g1 (nV g1) (kV g1) c (g1 5 2) q k = false := by first | exact bi_f h2 | exact bi_t h2
          refine am_run_k 5 ?_
          exact ih (k + 1) _ _ _ (by omega) (nI_1 k) (by rw [orF, z, cond_false, orz, ea]) (s.tr s3)
        · have z : cdV g1 (nV g1) (kV g1) c (g1 5 2) q k = true := by first | exact bi_t h2 | exact bi_f h2
          refine am_run_k 8 ?_
          exact ih (k + 1) _ _ _ (by omega) (nI_1 k) (by rw [orF, z, cond_true, ea]; rfl) (s.tr s3)
    refine am_run_k 4 ?_
    exact lp 3 0 _ _ g1 rfl rfl (by rw [orF]) scM.rf
  · refine am_run_k 2 ?_
    have e : aWith g1 c a = -1 := by unfold aWith; rw [bi_f h1]; rfl
    have := h g1 t
    rw [e] at this
    exact this
/-- few bits, counted alike -/
theorem bc20 : ∀ s, s < 256 → bcN (nI s) 20 = bcN (nI s) 8 := by decide +kernel
theorem suM_lt {n tk : Nat} {set : Int32} (hn : n ≤ 6) : ∀ q, q < 32 → 6 ≤ q → bt (suM g n tk c set) q = false := by
  intro q hq h6
  unfold suM
  rw [orF_bt hq n (by omega), decide_eq_false (by omega)]; rfl
theorem bc_few {x : Int32} (h : ∀ q, q < 32 → 6 ≤ q → bt x q = false) : am_bc x = nI (bcN x 20) := by
  obtain ⟨s, hs, e⟩ := b_small (y := x) (fun q hq h8 => h q hq (by omega))
  rw [e, bc20 s hs]
  exact bc_tab s hs
theorem fsF_eq {x : Int32} {p : Nat} (hp : bt x p = true) (hl : ∀ i, i < p → bt x i = false) : ∀ (n k : Nat), k + n = 8 → k ≤ p → p < 8 → fsF x n k = nI p := by
  intro n
  induction n with
  | zero => intro k h1 h2 h3; omega
  | succ n ih =>
    intro k h1 h2 h3
    rw [fsF, hs_bt (by omega)]
    rcases Nat.lt_or_ge k p with e | e
    · rw [hl k e]; exact ih (k + 1) (by omega) e h3
    · have : k = p := by omega
      subst this
      rw [hp]; rfl
theorem m_first_x {x : Int32} {l1 : Option Value} (hx : ∃ i, i < 32 ∧ bt x i = true) (h : ∀ p, p < 32 → bt x p = true → (∀ i, i < p → bt x i = false) → Q (some (.int (nI p))) L g) : am d 119 0 [some (.int x), l1] [] L g 0 0 none Q := by
  obtain ⟨i, hi, hb⟩ := hx
  have lp : ∀ (m k : Nat) (z : Int32), k + m = i → z = nI k → (∀ j, j < k → bt x j = false) → am d 119 2 [some (.int x), some (.int z)] [] L g 0 0 none Q := by
    intro m
    induction m with
    | zero =>
      intro k z hk hz hl
      have hk : k = i := by omega
      subst hk; subst hz
      refine am_run_k 6 (And.intro (fun h6 => ?_) (fun hx => absurd hx ((fun z => absurd ((bt_z hi).mp z) (by rw [hb]; decide)))))
      refine am_run_k 2 ?_
      exact h k hi hb hl
    | succ m ih =>
      intro k z hk hz hl
      subst hz
      refine am_run_k 6 (And.intro (fun h6 => ?_) (fun h6 => ?_))
      · refine am_run_k 2 ?_
        refine h k (by omega) ?_ hl
        rw [bt_z (by omega)] at h6
        simpa using h6
      · refine am_run_k 2 ?_
        have h6 : (x >>> (nI k &&& 31)) &&& 1 = 0 := by first | exact h6 | exact rdr h6
        have hbf := (bt_z (by omega)).mp h6
        refine ih (k + 1) _ (by omega) (nI_1 k) (fun j hj => ?_)
        rcases Nat.lt_succ_iff_lt_or_eq.mp hj with e | e
        · exact hl j e
        · rw [e]; exact hbf
  refine am_run_k 2 ?_
  exact lp i 0 _ (by omega) rfl (fun j hj => absurd hj (by omega))
def onV (x : Int32) : Int32 := bif decide (am_bc x = 1) then fsF x 8 0 else -4
theorem m_only_x {x : Int32} (h6 : ∀ q, q < 32 → 6 ≤ q → bt x q = false) (h : Q (some (.int (onV x))) L g) : am (d + 1) 121 0 [some (.int x)] [] L g 0 0 none Q := by
  have eb := bc_few h6
  unfold onV at h
  rw [eb] at h
  refine am_run_k 2 (am_cl ?_)
  refine m_many ?_
  refine am_run_k 2 (And.intro (fun h1 => ?_) (fun h1 => ?_))
  · refine am_run_k 2 ?_
    have h1 : ¬ nI (bcN x 20) = 1 := h1
    rw [decide_eq_false h1] at h
    exact h
  · have h1 : nI (bcN x 20) = 1 := by first | exact h1 | exact Classical.not_not.mp h1
    have h2 : bcN x 20 = 1 := (nI_eq (by have := bcN_le x 20; omega) (by decide)).mp (show nI (bcN x 20) = nI 1 from h1)
    obtain ⟨i, hi, hb⟩ := bcN_pos (x := x) (k := 20) (by omega)
    refine am_run_k 2 (am_cl ?_)
    refine m_first_x ⟨i, by omega, hb⟩ (fun p hp hpb hl => ?_)
    refine am_run_k 2 ?_
    have hp8 : p < 8 := by
      rcases Nat.lt_or_ge p 6 with e | e
      · omega
      · rw [h6 p hp e] at hpb; cases hpb
    rw [decide_eq_true h1, cond_true, fsF_eq hpb hl 8 0 rfl (Nat.zero_le _) hp8] at h
    exact h
theorem x_doer (t : T g B c f) (h : ∀ g', scC g g' → Q (some (.int (onV (aSus g c)))) LY g') : am (d + 6) 64 0 [some (.ref 0), none] [] LY g 0 0 none Q := by
  refine am_run_k 2 (am_cl ?_)
  refine x_suspects t (fun g1 hg1 => ?_)
  have h := h g1 hg1
  unfold onV at h
  refine am_run_k 3 (am_cl ?_)
  refine w_bitCount ?_
  refine am_run_k 2 (And.intro (fun h1 => ?_) (fun h1 => ?_))
  · refine am_run_k 2 ?_
    have h1 : ¬ am_bc (aSus g c) = 1 := h1
    rw [decide_eq_false h1] at h
    exact h
  · have h1 : am_bc (aSus g c) = 1 := by first | exact h1 | exact rdr h1
    refine am_run_k 2 (am_cl ?_)
    refine w_first ?_
    refine am_run_k 2 ?_
    rw [decide_eq_true h1] at h
    exact h
theorem y_doer {g1 : am_G} (t0 : T g B c f) (s0 : scC g g1) (h : ∀ g2, T g2 B c f → Q (some (.int (onV (aSus g c)))) LY g2) : am (d + 6) 122 0 [some (.ref 22)] [] LY g1 0 0 none Q := by
  have t := t0.scC s0
  rw [← aSus_sc s0] at h
  refine am_run_k 2 (am_cl ?_)
  refine y_suspects0 t (fun g2 s => ?_)
  refine am_run_k 1 (am_cl ?_)
  refine m_only_x (suM_lt t.nk.1.2.1) ?_
  refine am_run_k 1 ?_
  exact h g2 (t.scM s)
end FCE
