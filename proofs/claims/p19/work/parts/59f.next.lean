section NXT
variable {d : Nat} {L : am_L} {g : am_G} {Q : am_Q} {B c f : Nat}
/-- fewer places -/
def sbs (M' M : Nat → Int32) : Prop := ∀ i b, i < 60 → b < 32 → bt (M' i) b = true → bt (M i) b = true
theorem sbs_may {R : Nat → cRow} {sel sel' : Nat → Bool} {k : Nat} (h : ∀ j, j < k → sel j = true → sel' j = true) : sbs (mayF R sel' k) (mayF R sel k) := by
  intro i b hi hb e
  rw [may_bt hb, Bool.and_eq_true, allB_t] at *
  refine ⟨e.1, fun j hj => ?_⟩
  have := e.2 j hj
  cases hs : sel j with
  | false => rfl
  | true => rw [h j hj hs] at this; exact this
theorem sbs_ga {n tk : Nat} {pl q v : Int32} {M' M : Nat → Int32} (h : sbs M' M) : sbs (gaM n tk pl q v M') (gaM n tk pl q v M) := by
  intro i b hi hb e
  unfold gaM at *
  cases hc : decide (i % 10 = tk) && decide (i / 10 < n) with
  | true =>
    rw [hc, cond_true, b_and, Bool.and_eq_true] at e
    rw [cond_true, b_and, Bool.and_eq_true]
    exact ⟨h i b hi hb e.1, e.2⟩
  | false =>
    rw [hc, cond_false] at e
    exact h i b hi hb e
theorem arV_mono {J : Nat → Int32} {x y : Int32} (h : ∀ p, p < 8 → bt x p = true → bt y p = true) {b : Nat} (e : bt (arV J x) b = true) : bt (arV J y) b = true := by
  rw [arV_bt] at *
  obtain ⟨p, hp, h1, h2⟩ := e
  exact ⟨p, hp, h p hp h1, h2⟩
theorem fw_mono {J M' M : Nat → Int32} {p : Nat} (hp : p < 6) (h : sbs M' M) : ∀ t, t ≤ 10 → ∀ b, b < 32 → bt (fwC J M' p t) b = true → bt (fwC J M p t) b = true := by
  intro t
  induction t with
  | zero => intro _ b hb e; rw [fwC] at *; exact e
  | succ t ih =>
    intro ht b hb e
    rw [fwC, b_and, Bool.and_eq_true] at *
    exact ⟨arV_mono (fun p hp => ih (by omega) p (by omega)) e.1, h _ b (by omega) hb e.2⟩
theorem fit_mono {J M' M : Nat → Int32} {p : Nat} (hp : p < 6) (h : sbs M' M) (e : fitV J M' p = true) : fitV J M p = true := by
  unfold fitV at *
  by_cases z : fwC J M' p 10 = 0
  · rw [decide_eq_true z] at e; cases e
  · obtain ⟨b, hb, eb⟩ := bt_ne0 z
    have := fw_mono (J := J) hp h 10 (Nat.le_refl 10) b hb eb
    have z2 : ¬ fwC J M p 10 = 0 := fun y => by rw [y, b_0] at this; cases this
    rw [decide_eq_false z2]; rfl
theorem lt_mono {J M' M : Nat → Int32} {q : Nat} (hq : q < 6) (h : sbs M' M) : ∀ m, ∀ b, b < 32 → bt (ltG J M' q m) b = true → bt (ltG J M q m) b = true := by
  intro m
  induction m with
  | zero => intro b hb e; rw [ltG] at *; exact e
  | succ m ih =>
    intro b hb e
    rw [ltG] at *
    refine arV_mono (fun p hp e2 => ?_) e
    rw [b_and, Bool.and_eq_true] at *
    exact ⟨ih p (by omega) e2.1, h _ p (by omega) (by omega) e2.2⟩
theorem tkZ_mono {J M' M : Nat → Int32} {q m : Nat} {cb' cb : Nat → Bool} {z s' s : Int32} (hq : q < 6) (h : sbs M' M) (hc : ∀ t, t < 10 → cb' t = true → cb t = true) (hs : ∀ b, b < 32 → bt s' b = true → bt s b = true) {b : Nat} (hb : b < 32) (e : bt (tkZ J M' q cb' z m s') b = true) : bt (tkZ J M q cb z m s) b = true := by
  have base : bt (s' &&& M' (10 * q + (9 - m))) b = true → bt (s &&& M (10 * q + (9 - m))) b = true := by
    intro e
    rw [b_and, Bool.and_eq_true] at *
    exact ⟨hs b hb e.1, h _ b (by omega) hb e.2⟩
  have left : bt (s &&& M (10 * q + (9 - m))) b = true → bt (tkZ J M q cb z m s) b = true := by
    intro e
    unfold tkZ
    cases cb (9 - m) with
    | true => rw [cond_true, b_or, e]; rfl
    | false => exact e
  unfold tkZ at e
  cases hcb : cb' (9 - m) with
  | false => rw [hcb] at e; exact left (base e)
  | true =>
    rw [hcb, cond_true, b_or, Bool.or_eq_true] at e
    rcases e with e | e
    · exact left (base e)
    · unfold tkZ
      rw [hc _ (by omega) hcb, cond_true, b_or, Bool.or_eq_true]
      rw [b_and, Bool.and_eq_true] at e
      refine Or.inr ?_
      rw [b_and, Bool.and_eq_true]
      refine ⟨?_, e.2⟩
      have e1 := e.1
      unfold goF at *
      rw [b_and, Bool.and_eq_true] at *
      exact ⟨lt_mono hq h m b hb e1.1, h _ b (by omega) hb e1.2⟩
theorem tkL_mono {J M' M : Nat → Int32} {q : Nat} {cb' cb : Nat → Bool} {z : Int32} (hq : q < 6) (h : sbs M' M) (hc : ∀ t, t < 10 → cb' t = true → cb t = true) : ∀ m b, b < 32 → bt (tkL J M' q cb' z m) b = true → bt (tkL J M q cb z m) b = true := by
  intro m
  induction m with
  | zero => intro b hb e; rw [tkL, b_0] at e; cases e
  | succ m ih =>
    intro b hb e
    rw [tkL] at *
    exact arV_mono (fun p hp e2 => tkZ_mono hq h hc ih (by omega) e2) e
theorem tk_mono {J M' M : Nat → Int32} {q : Nat} {cb' cb : Nat → Bool} {z : Int32} (hq : q < 6) (h : sbs M' M) (hc : ∀ t, t < 10 → cb' t = true → cb t = true) (e : ¬ tkV J M' q cb' z 9 = 0) : ¬ tkV J M q cb z 9 = 0 := by
  obtain ⟨b, hb, eb⟩ := bt_ne0 e
  unfold tkV at eb
  have := tkZ_mono (J := J) (z := z) hq h hc (tkL_mono hq h hc 9) hb eb
  intro y
  unfold tkV at y
  rw [y, b_0] at this
  cases this
theorem soo_mono {R : Nat → cRow} {sel sel' : Nat → Bool} {w : Nat} : ∀ k, (∀ j, j < k → sel j = true → sel' j = true) → (sooF R sel w k).toInt ≤ (sooF R sel' w k).toInt := by
  intro k
  induction k with
  | zero => intro _; rw [sooF, sooF]; exact Int.le_refl _
  | succ k ih =>
    intro h
    have i := ih (fun j hj => h j (by omega))
    have up : ∀ s : Int32, s.toInt ≤ (heS (R k) w s).toInt := by
      intro s
      unfold heS
      cases dK (R k) 2 w with
      | false => exact Int.le_refl _
      | true =>
        rw [cond_true]
        by_cases z : s < (R k).2.2.1
        · rw [if_pos z]; rw [Int32.lt_iff_toInt_lt] at z; omega
        · rw [if_neg z]; exact Int.le_refl _
    rw [sooF, sooF]
    cases hs : sel k with
    | false =>
      rw [cond_false]
      cases sel' k with
      | false => exact i
      | true => exact Int.le_trans i (up _)
    | true =>
      rw [h k (by omega) hs, cond_true, cond_true]
      unfold heS
      cases dK (R k) 2 w with
      | false => exact i
      | true =>
        rw [cond_true, cond_true]
        by_cases z : sooF R sel w k < (R k).2.2.1
        · rw [if_pos z]
          by_cases z2 : sooF R sel' w k < (R k).2.2.1
          · rw [if_pos z2]; exact Int.le_refl _
          · rw [if_neg z2]; rw [Int32.lt_iff_toInt_lt] at z2; omega
        · rw [if_neg z]
          by_cases z2 : sooF R sel' w k < (R k).2.2.1
          · rw [if_pos z2]; rw [Int32.lt_iff_toInt_lt] at z2; omega
          · rw [if_neg z2]; exact i
theorem lat_mono {t0 : Int32} {R : Nat → cRow} {sel sel' : Nat → Bool} {w : Nat} : ∀ k, (∀ j, j < k → sel j = true → sel' j = true) → (latF t0 R sel' w k).toInt ≤ (latF t0 R sel w k).toInt := by
  intro k
  induction k with
  | zero => intro _; rw [latF, latF]; exact Int.le_refl _
  | succ k ih =>
    intro h
    have i := ih (fun j hj => h j (by omega))
    have up : ∀ s : Int32, (heL (R k) w s).toInt ≤ s.toInt := by
      intro s
      unfold heL
      cases dK (R k) 3 w with
      | false => exact Int.le_refl _
      | true =>
        rw [cond_true]
        by_cases z : (R k).2.2.1 - 1 < s
        · rw [if_pos z]; rw [Int32.lt_iff_toInt_lt] at z; omega
        · rw [if_neg z]; exact Int.le_refl _
    rw [latF, latF]
    cases hs : sel k with
    | false =>
      rw [cond_false]
      cases sel' k with
      | false => exact i
      | true => exact Int.le_trans (up _) i
    | true =>
      rw [h k (by omega) hs, cond_true, cond_true]
      unfold heL
      cases dK (R k) 3 w with
      | false => exact i
      | true =>
        rw [cond_true, cond_true]
        by_cases z : (R k).2.2.1 - 1 < latF t0 R sel w k
        · rw [if_pos z]
          by_cases z2 : (R k).2.2.1 - 1 < latF t0 R sel' w k
          · rw [if_pos z2]; exact Int.le_refl _
          · rw [if_neg z2]; rw [Int32.lt_iff_toInt_lt] at z2; omega
        · rw [if_neg z]
          by_cases z2 : (R k).2.2.1 - 1 < latF t0 R sel' w k
          · rw [if_pos z2]; rw [Int32.lt_iff_toInt_lt] at z2; omega
          · rw [if_neg z2]; exact i
theorem clr_mono {R : Nat → cRow} {sel sel' : Nat → Bool} {q : Nat} : ∀ k, (∀ j, j < k → sel j = true → sel' j = true) → bt (clrF R sel k) q = true → bt (clrF R sel' k) q = true := by
  intro k
  induction k with
  | zero => intro _ e; rw [clrF] at *; exact e
  | succ k ih =>
    intro h e
    have i := ih (fun j hj => h j (by omega))
    have up : bt (clrF R sel' k) q = true → bt (clrF R sel' (k + 1)) q = true := fun z => clr_up z (k + 1) (Nat.le_succ k)
    rw [clrF] at e
    cases hs : sel k with
    | false => rw [hs] at e; exact up (i e)
    | true =>
      rw [hs, cond_true] at e
      rw [clrF, h k (by omega) hs, cond_true]
      unfold heC at *
      cases hk4 : decide ((R k).1 = 4) with
      | false => rw [hk4] at e; exact i e
      | true =>
        rw [hk4, cond_true, b_or, Bool.or_eq_true] at e
        rw [cond_true, b_or, Bool.or_eq_true]
        exact e.imp i id
theorem sel_mono {set set' who : Int32} {j : Nat} (h : bt set j = true → bt set' j = true) (e : selB g set who j = true) : selB g set' who j = true := by
  unfold selB at *
  rw [Bool.and_eq_true] at *
  exact ⟨h e.1, e.2⟩
/-- more finds, fewer suspects -/
theorem cd_mono {n tk : Nat} {set set' : Int32} {q w : Nat} (hq : q < n) (hn : n ≤ 6) (h : ∀ j, j < c → bt set j = true → bt set' j = true) (e : cdV g n tk c set' q w = true) : cdV g n tk c set q w = true := by
  have hs : ∀ j, j < c → selB g set (nI q) j = true → selB g set' (nI q) j = true := fun j hj => sel_mono (h j hj)
  have hM : sbs (gaV g n tk c set' q) (gaV g n tk c set q) := sbs_ga (sbs_may hs)
  unfold cdV at *
  rw [Bool.and_eq_true] at *
  obtain ⟨e1, e2⟩ := e
  constructor
  · unfold okV at *
    rw [Bool.and_eq_true, Bool.and_eq_true, allB_t] at *
    refine ⟨e1.1, ?_, fun k hk => fit_mono (by omega) hM (e1.2.2 k hk)⟩
    cases hb : bt (clrF (rwO g) (selB g set (nI q)) c) q with
    | false => rfl
    | true => have := e1.2.1; rw [clr_mono c hs hb] at this; cases this
  · unfold twV at *
    have hc : ∀ t, t < 10 → cbV g tk c set' q w t = true → cbV g tk c set q w t = true := by
      intro t _ ec
      unfold cbV at *
      rw [Bool.and_eq_true, decide_eq_true_iff, decide_eq_true_iff, Int32.le_iff_toInt_le, Int32.le_iff_toInt_le] at *
      have a1 := soo_mono (R := rwO g) (w := w) c hs
      have a2 := lat_mono (t0 := nI tk) (R := rwO g) (w := w) c hs
      omega
    by_cases z : tkV (g 23) (gaV g n tk c set' q) q (cbV g tk c set' q w) (am_sh (g 24 w)) 9 = 0
    · rw [decide_eq_true z] at e2; cases e2
    · rw [decide_eq_false (tk_mono (by omega) hM hc z)]; rfl
theorem or3_ex {P : Nat → Bool} : (!decide (orF P 3 = 0)) = true ↔ ∃ w, w < 3 ∧ P w = true := by
  rw [← or3_any, Bool.or_eq_true, Bool.or_eq_true]
  constructor
  · rintro (h | h | h)
    · exact ⟨0, by omega, h⟩
    · exact ⟨1, by omega, h⟩
    · exact ⟨2, by omega, h⟩
  · rintro ⟨w, hw, h⟩
    rcases (show w = 0 ∨ w = 1 ∨ w = 2 by omega) with e | e | e <;> subst e
    · exact Or.inl h
    · exact Or.inr (Or.inl h)
    · exact Or.inr (Or.inr h)
theorem th_mono {n tk : Nat} {set set' : Int32} {q : Nat} (hq : q < n) (hn : n ≤ 6) (h : ∀ j, j < c → bt set j = true → bt set' j = true) (e : (!decide (thV g n tk c set' q = 0)) = true) : (!decide (thV g n tk c set q = 0)) = true := by
  rw [thV_cd, or3_ex] at *
  obtain ⟨w, hw, e⟩ := e
  exact ⟨w, hw, cd_mono hq hn h e⟩
theorem su_mono {n tk : Nat} {set set' : Int32} {q : Nat} (hq : q < 32) (hn : n ≤ 6) (h : ∀ j, j < c → bt set j = true → bt set' j = true) (e : bt (suM g n tk c set') q = true) : bt (suM g n tk c set) q = true := by
  unfold suM at *
  rw [orF_bt hq n (by omega), Bool.and_eq_true, decide_eq_true_iff] at *
  exact ⟨e.1, th_mono e.1 hn h e.2⟩
theorem suV_among {n tk : Nat} {set set' : Int32} (hn : n ≤ 6) (h : ∀ j, j < c → bt set j = true → bt set' j = true) : suV g n tk c set' (suM g n tk c set) = suM g n tk c set' := by
  unfold suV
  rw [suM]
  refine orF_ext (fun q hq => ?_)
  cases hz : (!decide (thV g n tk c set' q = 0)) with
  | false => rw [Bool.and_false]
  | true =>
    rw [Bool.and_true, orF_bt (by omega) n (by omega), decide_eq_true hq, Bool.true_and]
    exact th_mono hq hn h hz
theorem bcN_hi {x : Int32} {k : Nat} (hh : ∀ q, q < 32 → k ≤ q → bt x q = false) : ∀ m, k + m ≤ 32 → bcN x (k + m) = bcN x k := by
  intro m
  induction m with
  | zero => intro _; rfl
  | succ m ih =>
    intro hm
    rw [show k + (m + 1) = (k + m) + 1 from rfl, bcN, ih (by omega), hh (k + m) (by omega) (by omega)]
    rfl
theorem suM_n {n tk : Nat} {set : Int32} (hn : n ≤ 6) : bcN (suM g n tk c set) 20 ≤ 6 := by
  have := bcN_hi (x := suM g n tk c set) (k := 6) (suM_lt hn) 14 (by omega)
  rw [show 6 + 14 = 20 from rfl] at this
  rw [this]
  exact bcN_le _ 6
/-- how many are left by one find more -/
def lfN (g : am_G) (c k : Nat) : Nat := bif bt (g 5 2) k then 0 else bcN (suM g (nV g) (kV g) c (g 5 2 ||| am_sh (nI k))) 20
def nxS (P : Nat → Nat) : Nat → Int32 × Nat
  | 0 => (-4, 99)
  | k + 1 => bif decide (0 < P k) && decide (P k < (nxS P k).2) then (nI k, P k) else nxS P k
def aNext (g : am_G) (c : Nat) : Int32 := (nxS (lfN g c) c).1
theorem aNext_sc {g' : am_G} (s : scC g g') : aNext g' c = aNext g c := by
  have : lfN g' c = lfN g c := by
    funext k
    unfold lfN nV kV
    rw [suM_sc s, s 5 (by omega), s 22 (by omega)]
  unfold aNext
  rw [this]
theorem nx_skip {P : Nat → Nat} {k : Nat} (h : ¬ (0 < P k ∧ P k < (nxS P k).2)) : nxS P (k + 1) = nxS P k := by
  rw [nxS]
  by_cases h1 : 0 < P k
  · rw [decide_eq_false (fun z => h ⟨h1, z⟩), Bool.and_false]; rfl
  · rw [decide_eq_false h1]; rfl
theorem nx_take {P : Nat → Nat} {k : Nat} (h : 0 < P k) (h2 : P k < (nxS P k).2) : nxS P (k + 1) = (nI k, P k) := by
  rw [nxS, decide_eq_true h, decide_eq_true h2]; rfl
theorem nx_le {P : Nat → Nat} (hP : ∀ k, P k ≤ 6) : ∀ k, (nxS P k).2 = 99 ∨ (nxS P k).2 ≤ 6 := by
  intro k
  induction k with
  | zero => rw [nxS]; exact Or.inl rfl
  | succ k ih =>
    by_cases h : 0 < P k ∧ P k < (nxS P k).2
    · rw [nx_take h.1 h.2]; exact Or.inr (hP k)
    · rw [nx_skip h]; exact ih
theorem lfN_le (t : T g B c f) (k : Nat) : lfN g c k ≤ 6 := by
  unfold lfN
  cases bt (g 5 2) k with
  | true => exact Nat.zero_le 6
  | false => exact suM_n t.nk.1.2.1
theorem lf_among (t : T g B c f) (k : Nat) : suV g (nV g) (kV g) c (g 5 2 ||| am_sh (nI k)) (aSus g c) = suM g (nV g) (kV g) c (g 5 2 ||| am_sh (nI k)) := by
  unfold aSus
  exact suV_among t.nk.1.2.1 (fun j _ e => by rw [b_or, e]; rfl)
theorem l_65_14_x {g0 : am_G} (t : T g0 B c f) (h : ∀ g', scC g0 g' → Q (some (.int (aNext g0 c))) LY g') : ∀ (m k : Nat) (x s1 s2 : Int32) (lz : Option Value) (g : am_G), k + m = c → x = nI k → scC g0 g → s1 = (nxS (lfN g0 c) k).1 → s2 = (if (nxS (lfN g0 c) k).2 = 99 then 7 else nI (nxS (lfN g0 c) k).2) → am (d + 6) 65 14 [some (.ref 0), some (.int (aSus g0 c)), some (.int s1), some (.int s2), some (.int x), lz] [] LY g 0 0 none Q := by
  obtain ⟨⟨hc, hf, e51, e54⟩, -⟩ := id t
  obtain ⟨⟨n1, n2, n3, n4⟩, k1, k2, k3⟩ := t.nk
  intro m
  induction m with
  | zero =>
    intro k x s1 s2 lz g hk hx hg e1 e2
    have hk : k = c := by omega
    subst hk; subst hx; subst e1
    have f51 : g 5 1 = nI k := by rw [hg 5 (by omega)]; exact e51
    refine am_run_k 6 (And.intro (fun h6 => ?_) (fun hx => absurd ((show g 5 1 ≤ nI k by rw [f51]; exact nI_le (Nat.le_refl k) (by omega))) hx))
    refine am_run_k 2 ?_
    exact h _ hg
  | succ m ih =>
    intro k x s1 s2 lz g hk hx hg e1 e2
    subst hx
    have f51 : g 5 1 = nI c := by rw [hg 5 (by omega)]; exact e51
    have f52 : g 5 2 = g0 5 2 := by rw [hg 5 (by omega)]
    have hle := nx_le (lfN_le t) k
    have hlf := lfN_le t k
    refine am_run_k 6 (And.intro (fun hx => absurd hx ((show ¬ g 5 1 ≤ nI k by rw [f51]; exact nI_ge (by omega) (by omega)))) (fun h6 => ?_))
    have nxt : ∀ (s1 s2 : Int32) (lz : Option Value) (g1 : am_G), scC g0 g1 → s1 = (nxS (lfN g0 c) (k + 1)).1 → s2 = (if (nxS (lfN g0 c) (k + 1)).2 = 99 then 7 else nI (nxS (lfN g0 c) (k + 1)).2) → am (d + 6) 65 94 [some (.ref 0), some (.int (aSus g0 c)), some (.int s1), some (.int s2), some (.int (nI k)), lz] [] LY g1 0 0 none Q := by
      intro s1 s2 lz g1 hg1 a1 a2
      refine am_run_k 2 ?_
      exact ih (k + 1) _ _ _ _ g1 (by omega) (nI_1 k) hg1 a1 a2
    have same : ∀ (lz : Option Value) (g1 : am_G), scC g0 g1 → ¬ (0 < lfN g0 c k ∧ lfN g0 c k < (nxS (lfN g0 c) k).2) → am (d + 6) 65 94 [some (.ref 0), some (.int (aSus g0 c)), some (.int s1), some (.int s2), some (.int (nI k)), lz] [] LY g1 0 0 none Q := by
      intro lz g1 hg1 z
      exact nxt _ _ lz g1 hg1 (by rw [nx_skip z]; exact e1) (by rw [nx_skip z]; exact e2)
    refine am_run_k 5 (am_cl ?_)
    refine w_isFound ?_
    rw [f52, hs_bt (by omega)]
    refine am_run_k 1 (And.intro (fun h7 => ?_) (fun h7 => ?_))
    · have hb : bt (g0 5 2) k = true := by first | exact bi_t h7 | exact bi_f h7
      exact same _ g hg (fun z => by rw [show lfN g0 c k = 0 from by unfold lfN; rw [hb]; rfl] at z; exact absurd z.1 (by decide))
    · have hb : bt (g0 5 2) k = false := by first | exact bi_f h7 | exact bi_t h7
      have el : lfN g0 c k = bcN (suM g0 (nV g0) (kV g0) c (g0 5 2 ||| am_sh (nI k))) 20 := by unfold lfN; rw [hb]; rfl
      refine am_run_k 14 (am_cl ?_)
      refine w_suspectsOf_x (set := g 5 2 ||| am_sh (nI k)) (n := nV g0) (tk := kV g0) (t.scC hg) n2 (by rw [hg 1 (by omega)]; exact n3) k1 (by rw [hg 1 (by omega)]; exact k2) (fun g1 hg1 => ?_)
      rw [f52, suV_sc hg]
      have ela := lf_among t k
      refine am_run_k 1 (am_cl ?_)
      refine w_bitCount ?_
      have ebc : am_bc (suV g0 (nV g0) (kV g0) c (g0 5 2 ||| am_sh (nI k)) (aSus g0 c)) = nI (lfN g0 c k) := by
        rw [ela, el]; exact bc_few (suM_lt n2)
      rw [ebc]
      refine am_run_k 4 (And.intro (fun h8 => ?_) (fun h8 => ?_))
      · refine same _ g1 (hg.tr hg1) (fun z => ?_)
        first
          | exact absurd h8 (by rw [Int32.lt_iff_toInt_lt, nI_toInt (by omega)]; have : ((1 : Int32)).toInt = 1 := by decide
                                omega)
          | exact absurd (fa_nle.mp h8) (by rw [Int32.lt_iff_toInt_lt, nI_toInt (by omega)]; have : ((1 : Int32)).toInt = 1 := by decide
                                            omega)
      · have hpos : 0 < lfN g0 c k := by
          rcases Nat.eq_zero_or_pos (lfN g0 c k) with z | z
          · rw [z] at h8
            first
              | exact absurd (show nI 0 < 1 by decide) h8
              | exact absurd h8 (by decide)
          · exact z
        have hs2 : s2 = nI (if (nxS (lfN g0 c) k).2 = 99 then 7 else (nxS (lfN g0 c) k).2) := by
          rw [e2]
          by_cases z : (nxS (lfN g0 c) k).2 = 99
          · rw [if_pos z, if_pos z]; rfl
          · rw [if_neg z, if_neg z]
        have hcmp : nI (lfN g0 c k) < s2 ↔ lfN g0 c k < (nxS (lfN g0 c) k).2 := by
          rw [hs2]
          by_cases z : (nxS (lfN g0 c) k).2 = 99
          · rw [if_pos z, z, nI_ltI (by omega) (by omega)]; omega
          · rw [if_neg z, nI_ltI (by omega) (by omega)]
        refine am_run_k 3 (And.intro (fun h9 => ?_) (fun h9 => ?_))
        · refine same _ g1 (hg.tr hg1) (fun z => ?_)
          have := hcmp.mpr z.2
          first
            | exact absurd this (fa_nlt.mpr h9)
            | exact absurd this h9
        · have hlt := hcmp.mp (by first | exact fa_nle.mp h9 | exact rdr h9)
          refine am_run_k 4 ?_
          refine nxt _ _ _ g1 (hg.tr hg1) (by rw [nx_take hpos hlt]) ?_
          rw [nx_take hpos hlt]
          show nI (lfN g0 c k) = if lfN g0 c k = 99 then 7 else nI (lfN g0 c k)
          rw [if_neg (by omega)]
theorem x_next (t : T g B c f) (h : ∀ g', scC g g' → Q (some (.int (aNext g c))) LY g') : am (d + 6) 65 0 [some (.ref 0), none, none, none, none, none] [] LY g 0 0 none Q := by
  refine am_run_k 2 (am_cl ?_)
  refine x_suspects t (fun g1 hg1 => ?_)
  refine am_run_k 7 ?_
  exact l_65_14_x (g0 := g) t h c 0 0 _ _ _ g1 (Nat.zero_add c) rfl hg1 (by rw [nxS]) (by rw [nxS]; rfl)
theorem y_next {g0 : am_G} {l1 l2 l3 l4 l5 : Option Value} (t0 : T g0 B c f) (hB : B < 2 ^ 31) (s0 : scC g0 g) (h : ∀ g2, T g2 B c f → Q (some (.int (aNext g0 c))) LY g2) : am (d + 5) 123 0 [some (.ref 22), l1, l2, l3, l4, l5] [] LY g 0 0 none Q := by
  have t := t0.scC s0
  rw [← aNext_sc s0] at h
  have hc := t.1.1
  have ec := t.c7
  obtain ⟨⟨n1, n2, n3, n4⟩, k1, k2, k3⟩ := t.nk
  obtain ⟨⟨-, -, -, -⟩, -, -, -, -, -, ⟨tf, -⟩, ⟨jc, hjc, -, tc⟩, -⟩ := id t
  refine am_run_k 2 (am_cl ?_)
  refine m_foundBits_x t ?_
  have lp : ∀ (m k : Nat) (x b2 b3 : Int32) (l5 : Option Value) (g1 : am_G), k + m = c → x = nI k → scM g g1 → b2 = (nxS (lfN g c) k).1 → b3 = nI (nxS (lfN g c) k).2 → am (d + 5) 123 14 [some (.ref 22), some (.int (g 5 2)), some (.int b2), some (.int b3), some (.int x), l5] [] LY g1 0 0 none Q := by
    intro m
    induction m with
    | zero =>
      intro k x b2 b3 l5 g1 hk hx s e1 e2
      have hk : k = c := by omega
      subst hk; subst hx; subst e1
      refine am_run_k 4 (And.intro (fun h6 => ?_) (fun hx => absurd ((show g1 22 7 ≤ nI k by rw [s.2 7 (by decide) (by decide), ec]; exact nI_le (Nat.le_refl k) (by omega))) hx))
      refine am_run_k 2 ?_
      exact h g1 (t.scM s)
    | succ m ih =>
      intro k x b2 b3 l5 g1 hk hx s e1 e2
      subst hx; subst e2
      have hle := nx_le (lfN_le t) k
      have hlf := lfN_le t k
      refine am_run_k 4 (And.intro (fun hx => absurd hx ((show ¬ g1 22 7 ≤ nI k by rw [s.2 7 (by decide) (by decide), ec]; exact nI_ge (by omega) (by omega)))) (fun h6 => ?_))
      have nx : ∀ (b2 b3 : Int32) (l5 : Option Value) (g2 : am_G), scM g g2 → b2 = (nxS (lfN g c) (k + 1)).1 → b3 = nI (nxS (lfN g c) (k + 1)).2 → am (d + 5) 123 65 [some (.ref 22), some (.int (g 5 2)), some (.int b2), some (.int b3), some (.int (nI k)), l5] [] LY g2 0 0 none Q := by
        intro b2 b3 l5 g2 s2 a1 a2
        refine am_run_k 2 ?_
        exact ih (k + 1) _ _ _ _ g2 (by omega) (nI_1 k) s2 a1 a2
      have same : ∀ (l5 : Option Value) (g2 : am_G), scM g g2 → ¬ (0 < lfN g c k ∧ lfN g c k < (nxS (lfN g c) k).2) → am (d + 5) 123 65 [some (.ref 22), some (.int (g 5 2)), some (.int b2), some (.int (nI (nxS (lfN g c) k).2)), some (.int (nI k)), l5] [] LY g2 0 0 none Q := by
        intro l5 g2 s2 z
        exact nx _ _ l5 g2 s2 (by rw [nx_skip z]; exact e1) (by rw [nx_skip z])
      obtain ⟨i, hi, ei⟩ := tc k (by omega)
      have tfk := tf k (by omega)
      rw [decide_eq_true (show k < c by omega), Bool.true_and, ei] at tfk
      refine am_run_k 4 (And.intro (vpn (by omega)) ?_)
      rw [ncl (by omega), s.1 27 (by decide) (by decide) (by decide) (by decide), ei]
      refine am_run_k 1 (And.intro (fun h1 => ?_) (fun h1 => ?_))
      · have hb : bt (g 5 2) k = true := by
          rw [tfk, decide_eq_true_iff]
          have hi0 : i ≠ 0 := fun z => h1 (by rw [z]; rfl)
          exact nI_lt' (a := 0) (by omega)
        exact same _ g1 s (fun z => by rw [show lfN g c k = 0 from by unfold lfN; rw [hb]; rfl] at z; exact absurd z.1 (by decide))
      · have hi0 : nI i = 0 := by first | exact h1 | exact rdr h1
        have hb : bt (g 5 2) k = false := by rw [tfk, hi0]; decide
        have el : lfN g c k = bcN (suM g (nV g) (kV g) c (g 5 2 ||| am_sh (nI k))) 20 := by unfold lfN; rw [hb]; rfl
        refine am_run_k 7 (am_cl ?_)
        refine m_suspectsBy_x (bits := g 5 2 ||| am_sh (nI k)) (n := nV g) (tk := kV g) (t.scM s) n2 (by rw [s.2 0 (by decide) (by decide)]; exact n4) k1 (by rw [s.2 5 (by decide) (by decide)]; exact k3) (fun g2 s2 => ?_)
        rw [suM_sm s]
        refine am_run_k 1 (am_cl ?_)
        refine m_many ?_
        rw [← el]
        refine am_run_k 3 (And.intro (fun h2 => ?_) (fun h2 => ?_))
        · refine same _ g2 (s.tr s2) (fun z => ?_)
          have hgt : (0 : Int32) < nI (lfN g c k) := nI_lt' (a := 0) z.1
          first
            | exact absurd hgt (fa_nlt.mpr h2)
            | exact absurd hgt h2
        · have hpos : 0 < lfN g c k := by
            rcases Nat.eq_zero_or_pos (lfN g c k) with z | z
            · rw [z] at h2
              first
                | exact absurd (show nI 0 ≤ 0 by decide) h2
                | exact absurd h2 (by decide)
            · exact z
          have hcmp : nI (lfN g c k) < nI (nxS (lfN g c) k).2 ↔ lfN g c k < (nxS (lfN g c) k).2 := nI_ltI (by omega) (by omega)
          refine am_run_k 3 (And.intro (fun h3 => ?_) (fun h3 => ?_))
          · refine same _ g2 (s.tr s2) (fun z => ?_)
            have := hcmp.mpr z.2
            first
              | exact absurd this (fa_nlt.mpr h3)
              | exact absurd this h3
          · have hlt := hcmp.mp (by first | exact fa_nle.mp h3 | exact rdr h3)
            refine am_run_k 4 ?_
            exact nx _ _ _ g2 (s.tr s2) (by rw [nx_take hpos hlt]) (by rw [nx_take hpos hlt])
  refine am_run_k 7 ?_
  exact lp c 0 _ _ _ _ g (by omega) rfl scM.rf (by rw [nxS]) (by rw [nxS]; rfl)
end NXT
