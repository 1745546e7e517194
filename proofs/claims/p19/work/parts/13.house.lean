section HOU
variable {d : Nat} {L : am_L} {g : am_G} {bc bs : Nat} {sx : am_S} {Q : am_Q}
theorem w_has {s k : Int32} (h : Q (some (.int (am_bi (am_hs s k)))) L g) : am d 78 0 [some (.int s), some (.int k)] [] L g 0 0 none Q := by
  refine am_run_k 7 (And.intro (fun h6 => ?_) (fun h6 => ?_))
  · refine am_run_k 2 (And.intro (Or.inl rfl) ?_)
    have e : am_hs s k = false := decide_eq_false h6
    rw [e] at h
    exact h
  · refine am_run_k 3 (And.intro (Or.inr rfl) ?_)
    have e : am_hs s k = true := decide_eq_true h6
    rw [e] at h
    exact h
theorem am_ir_f1 {n k : Int32} (h : ¬ 0 ≤ n) : am_ir n k = false := by unfold am_ir; rw [decide_eq_false h]; rfl
theorem am_ir_f2 {n k : Int32} (h : ¬ n < k) : am_ir n k = false := by unfold am_ir; rw [decide_eq_false h]; simp
theorem am_ir_t {n k : Int32} (h : 0 ≤ n) (h2 : n < k) : am_ir n k = true := by unfold am_ir; rw [decide_eq_true h, decide_eq_true h2]; rfl
theorem am_ir_of {n k : Int32} (h : am_ir n k = true) : 0 ≤ n ∧ n < k := by simpa [am_ir] using h
theorem fa_nlt {a b : Int32} : ¬ a < b ↔ b ≤ a := by rw [Int32.lt_iff_toInt_lt, Int32.le_iff_toInt_le]; omega
theorem fa_nle {a b : Int32} : ¬ a ≤ b ↔ b < a := by rw [Int32.lt_iff_toInt_lt, Int32.le_iff_toInt_le]; omega
theorem am_ir_nI {n : Int32} {k : Nat} (hk : k < 2 ^ 31) (h : am_ir n (nI k) = true) : ∃ j, j < k ∧ n = nI j := by
  obtain ⟨h1, h2⟩ := am_ir_of h
  have h3 : vp_in n k := vp_in_iff.mpr ⟨by have := Int32.le_iff_toInt_le.mp h1; simpa using this, by have := Int32.lt_iff_toInt_lt.mp h2; rw [nI_toInt hk] at this; exact this⟩
  exact vp_in_of h3 hk
theorem am_ir_in {n k : Nat} (h : n < k) (hk : k < 2 ^ 31) : am_ir (nI n) (nI k) = true := am_ir_t (nI_pos' (by omega)) (nI_lt h hk)
theorem w_isPlace {n : Int32} (h : Q (some (.int (am_bi (am_ir n 8)))) L g) : am d 73 0 [some (.int n)] [] L g 0 0 none Q := by
  refine am_run_k 2 (And.intro (fun h6 => ?_) (fun h6 => ?_))
  · refine am_run_k 2 (And.intro (Or.inl rfl) ?_)
    rw [am_ir_f1 (fa_nle.mpr h6)] at h
    exact h
  · refine am_run_k 3 (And.intro (fun h7 => ?_) (fun h7 => ?_))
    · refine am_run_k 2 (And.intro (Or.inl rfl) ?_)
      rw [am_ir_f2 (fa_nlt.mpr h7)] at h
      exact h
    · refine am_run_k 3 (And.intro (Or.inr rfl) ?_)
      rw [am_ir_t (fa_nlt.mp h6) (fa_nle.mp h7)] at h
      exact h
theorem w_isTick {n : Int32} (h : Q (some (.int (am_bi (am_ir n 10)))) L g) : am d 74 0 [some (.int n)] [] L g 0 0 none Q := by
  refine am_run_k 2 (And.intro (fun h6 => ?_) (fun h6 => ?_))
  · refine am_run_k 2 (And.intro (Or.inl rfl) ?_)
    rw [am_ir_f1 (fa_nle.mpr h6)] at h
    exact h
  · refine am_run_k 3 (And.intro (fun h7 => ?_) (fun h7 => ?_))
    · refine am_run_k 2 (And.intro (Or.inl rfl) ?_)
      rw [am_ir_f2 (fa_nlt.mpr h7)] at h
      exact h
    · refine am_run_k 3 (And.intro (Or.inr rfl) ?_)
      rw [am_ir_t (fa_nlt.mp h6) (fa_nle.mp h7)] at h
      exact h
theorem w_isThing {n : Int32} (h : Q (some (.int (am_bi (am_ir n 3)))) L g) : am d 75 0 [some (.int n)] [] L g 0 0 none Q := by
  refine am_run_k 2 (And.intro (fun h6 => ?_) (fun h6 => ?_))
  · refine am_run_k 2 (And.intro (Or.inl rfl) ?_)
    rw [am_ir_f1 (fa_nle.mpr h6)] at h
    exact h
  · refine am_run_k 3 (And.intro (fun h7 => ?_) (fun h7 => ?_))
    · refine am_run_k 2 (And.intro (Or.inl rfl) ?_)
      rw [am_ir_f2 (fa_nlt.mpr h7)] at h
      exact h
    · refine am_run_k 3 (And.intro (Or.inr rfl) ?_)
      rw [am_ir_t (fa_nlt.mp h6) (fa_nle.mp h7)] at h
      exact h
theorem w_isSheet {n : Int32} (h : Q (some (.int (am_bi (am_ir n 2)))) L g) : am d 76 0 [some (.int n)] [] L g 0 0 none Q := by
  refine am_run_k 2 (And.intro (fun h6 => ?_) (fun h6 => ?_))
  · refine am_run_k 2 (And.intro (Or.inl rfl) ?_)
    rw [am_ir_f1 (fa_nle.mpr h6)] at h
    exact h
  · refine am_run_k 3 (And.intro (fun h7 => ?_) (fun h7 => ?_))
    · refine am_run_k 2 (And.intro (Or.inl rfl) ?_)
      rw [am_ir_f2 (fa_nlt.mpr h7)] at h
      exact h
    · refine am_run_k 3 (And.intro (Or.inr rfl) ?_)
      rw [am_ir_t (fa_nlt.mp h6) (fa_nle.mp h7)] at h
      exact h
theorem w_isLane {n : Int32} (h : Q (some (.int (am_bi (am_ir n 2)))) L g) : am d 77 0 [some (.int n)] [] L g 0 0 none Q := by
  refine am_run_k 2 (And.intro (fun h6 => ?_) (fun h6 => ?_))
  · refine am_run_k 2 (And.intro (Or.inl rfl) ?_)
    rw [am_ir_f1 (fa_nle.mpr h6)] at h
    exact h
  · refine am_run_k 3 (And.intro (fun h7 => ?_) (fun h7 => ?_))
    · refine am_run_k 2 (And.intro (Or.inl rfl) ?_)
      rw [am_ir_f2 (fa_nlt.mpr h7)] at h
      exact h
    · refine am_run_k 3 (And.intro (Or.inr rfl) ?_)
      rw [am_ir_t (fa_nlt.mp h6) (fa_nle.mp h7)] at h
      exact h
theorem w_joined {a b : Int32} (ha : vp_in a 8) (h : Q (some (.int (am_bi (am_hs (g 3 a.toNatClampNeg) b)))) LY g) : am (d + 1) 2 0 [some (.ref 2), some (.int a), some (.int b)] [] LY g 0 0 none Q := by
  refine am_run_k 4 (And.intro (ha) ?_)
  refine am_run_k 2 (am_cl ?_)
  refine w_has ?_
  refine am_run_k 1 (And.intro (bi_01 _) ?_)
  exact h
theorem and255 (x : Int32) : vp_in (x &&& 255) 256 := pk_andIn x 8 (by decide) (by decide)
theorem w_reached {s : Int32} (h : Q (some (.int (g 4 (s &&& 255).toNatClampNeg))) LY g) : am d 4 0 [some (.ref 2), some (.int s)] [] LY g 0 0 none Q := by
  refine am_run_k 6 (And.intro (and255 s) ?_)
  refine am_run_k 1 ?_
  exact h
theorem l_1_7_LYH {g0 : am_G} (K : ∀ (g : am_G) (x : Int32), (∀ k, k ≠ 3 → g k = g0 k) → (∀ p, p < 8 → g 3 p = 0) → am d 1 26 [some (.ref 2), some (.int x)] [] LYH g 0 0 none Q) : ∀ (n i : Nat) (x : Int32) (g : am_G), i + n = 8 → x = nI i → (∀ k, k ≠ 3 → g k = g0 k) → (∀ p, p < i → g 3 p = 0) → am d 1 7 [some (.ref 2), some (.int x)] [] LYH g 0 0 none Q := by
  intro n
  induction n with
  | zero =>
    intro i x g hi hx h1 h2
    have hi : i = 8 := by omega
    subst hi; subst hx
    refine am_run_k 3 (And.intro (fun h6 => ?_) (fun hx => absurd ((show nI 8 ≤ nI 8 from nI_le (Nat.le_refl 8) (by decide))) hx))
    exact K g _ h1 h2
  | succ n ih =>
    intro i x g hi hx h1 h2
    subst hx
    refine am_run_k 3 (And.intro (fun hx => absurd hx ((nI_ge (b := 8) (by omega) (by decide)))) (fun h6 => ?_))
    refine am_run_k 5 (And.intro (vpn (by omega)) ?_)
    refine am_run_k 2 ?_
    refine ih (i + 1) _ _ (by omega) (nI_1 i) (fun k hk => ?_) (fun p hp => ?_)
    · rw [am_up_ne hk]; exact h1 k hk
    · rw [ncl (by omega)]
      by_cases e : p = i
      · rw [e, am_up_us]
      · rw [am_up_un e]; exact h2 p (by omega)
theorem l_1_28_LYH {g0 : am_G} (K : ∀ g : am_G, (∀ k, k ≠ 4 → g k = g0 k) → (∀ p, p < 256 → g 4 p = nI p) → Q none LYH g) : ∀ (n i : Nat) (x : Int32) (g : am_G), i + n = 256 → x = nI i → (∀ k, k ≠ 4 → g k = g0 k) → (∀ p, p < i → g 4 p = nI p) → am d 1 28 [some (.ref 2), some (.int x)] [] LYH g 0 0 none Q := by
  intro n
  induction n with
  | zero =>
    intro i x g hi hx h1 h2
    have hi : i = 256 := by omega
    subst hi; subst hx
    refine am_run_k 3 (And.intro (fun h6 => ?_) (fun hx => absurd ((show nI 256 ≤ nI 256 from nI_le (Nat.le_refl 256) (by decide))) hx))
    refine am_run_k 1 ?_
    exact K g h1 h2
  | succ n ih =>
    intro i x g hi hx h1 h2
    subst hx
    refine am_run_k 3 (And.intro (fun hx => absurd hx ((nI_ge (b := 256) (by omega) (by decide)))) (fun h6 => ?_))
    refine am_run_k 5 (And.intro (vpn (by omega)) ?_)
    refine am_run_k 2 ?_
    refine ih (i + 1) _ _ (by omega) (nI_1 i) (fun k hk => ?_) (fun p hp => ?_)
    · rw [am_up_ne hk]; exact h1 k hk
    · rw [ncl (by omega)]
      by_cases e : p = i
      · rw [e, am_up_us]
      · rw [am_up_un e]; exact h2 p (by omega)
theorem w_clearDoors_LYH (h : ∀ g' : am_G, (∀ k, k ≠ 2 → k ≠ 3 → k ≠ 4 → g' k = g k) → g' 2 2 = 0 → (∀ p, p < 8 → g' 3 p = 0) → (∀ p, p < 256 → g' 4 p = nI p) → Q none LYH g') : am d 1 0 [some (.ref 2), none] [] LYH g 0 0 none Q := by
  refine am_run_k 5 ?_
  refine l_1_7_LYH (g0 := am_up g 2 2 0) (fun g1 x1 e1 z1 => ?_) 8 0 0 _ rfl rfl (fun k _ => rfl) (fun p hp => absurd hp (by omega))
  refine am_run_k 2 ?_
  refine l_1_28_LYH (g0 := g1) (fun g2 e2 z2 => ?_) 256 0 0 _ rfl rfl (fun k _ => rfl) (fun p hp => absurd hp (by omega))
  refine h g2 (fun k h2 h3 h4 => ?_) ?_ (fun p hp => ?_) z2
  · rw [e2 k h4, e1 k h3, am_up_ne h2]
  · rw [e2 2 (by decide), e1 2 (by decide), am_up_us]
  · rw [e2 3 (by decide)]; exact z1 p hp
theorem l_1_7_LY {g0 : am_G} (K : ∀ (g : am_G) (x : Int32), (∀ k, k ≠ 3 → g k = g0 k) → (∀ p, p < 8 → g 3 p = 0) → am d 1 26 [some (.ref 2), some (.int x)] [] LY g 0 0 none Q) : ∀ (n i : Nat) (x : Int32) (g : am_G), i + n = 8 → x = nI i → (∀ k, k ≠ 3 → g k = g0 k) → (∀ p, p < i → g 3 p = 0) → am d 1 7 [some (.ref 2), some (.int x)] [] LY g 0 0 none Q := by
  intro n
  induction n with
  | zero =>
    intro i x g hi hx h1 h2
    have hi : i = 8 := by omega
    subst hi; subst hx
    refine am_run_k 3 (And.intro (fun h6 => ?_) (fun hx => absurd ((show nI 8 ≤ nI 8 from nI_le (Nat.le_refl 8) (by decide))) hx))
    exact K g _ h1 h2
  | succ n ih =>
    intro i x g hi hx h1 h2
    subst hx
    refine am_run_k 3 (And.intro (fun hx => absurd hx ((nI_ge (b := 8) (by omega) (by decide)))) (fun h6 => ?_))
    refine am_run_k 5 (And.intro (vpn (by omega)) ?_)
    refine am_run_k 2 ?_
    refine ih (i + 1) _ _ (by omega) (nI_1 i) (fun k hk => ?_) (fun p hp => ?_)
    · rw [am_up_ne hk]; exact h1 k hk
    · rw [ncl (by omega)]
      by_cases e : p = i
      · rw [e, am_up_us]
      · rw [am_up_un e]; exact h2 p (by omega)
theorem l_1_28_LY {g0 : am_G} (K : ∀ g : am_G, (∀ k, k ≠ 4 → g k = g0 k) → (∀ p, p < 256 → g 4 p = nI p) → Q none LY g) : ∀ (n i : Nat) (x : Int32) (g : am_G), i + n = 256 → x = nI i → (∀ k, k ≠ 4 → g k = g0 k) → (∀ p, p < i → g 4 p = nI p) → am d 1 28 [some (.ref 2), some (.int x)] [] LY g 0 0 none Q := by
  intro n
  induction n with
  | zero =>
    intro i x g hi hx h1 h2
    have hi : i = 256 := by omega
    subst hi; subst hx
    refine am_run_k 3 (And.intro (fun h6 => ?_) (fun hx => absurd ((show nI 256 ≤ nI 256 from nI_le (Nat.le_refl 256) (by decide))) hx))
    refine am_run_k 1 ?_
    exact K g h1 h2
  | succ n ih =>
    intro i x g hi hx h1 h2
    subst hx
    refine am_run_k 3 (And.intro (fun hx => absurd hx ((nI_ge (b := 256) (by omega) (by decide)))) (fun h6 => ?_))
    refine am_run_k 5 (And.intro (vpn (by omega)) ?_)
    refine am_run_k 2 ?_
    refine ih (i + 1) _ _ (by omega) (nI_1 i) (fun k hk => ?_) (fun p hp => ?_)
    · rw [am_up_ne hk]; exact h1 k hk
    · rw [ncl (by omega)]
      by_cases e : p = i
      · rw [e, am_up_us]
      · rw [am_up_un e]; exact h2 p (by omega)
theorem w_clearDoors_LY (h : ∀ g' : am_G, (∀ k, k ≠ 2 → k ≠ 3 → k ≠ 4 → g' k = g k) → g' 2 2 = 0 → (∀ p, p < 8 → g' 3 p = 0) → (∀ p, p < 256 → g' 4 p = nI p) → Q none LY g') : am d 1 0 [some (.ref 2), none] [] LY g 0 0 none Q := by
  refine am_run_k 5 ?_
  refine l_1_7_LY (g0 := am_up g 2 2 0) (fun g1 x1 e1 z1 => ?_) 8 0 0 _ rfl rfl (fun k _ => rfl) (fun p hp => absurd hp (by omega))
  refine am_run_k 2 ?_
  refine l_1_28_LY (g0 := g1) (fun g2 e2 z2 => ?_) 256 0 0 _ rfl rfl (fun k _ => rfl) (fun p hp => absurd hp (by omega))
  refine h g2 (fun k h2 h3 h4 => ?_) ?_ (fun p hp => ?_) z2
  · rw [e2 k h4, e1 k h3, am_up_ne h2]
  · rw [e2 2 (by decide), e1 2 (by decide), am_up_us]
  · rw [e2 3 (by decide)]; exact z1 p hp
end HOU
