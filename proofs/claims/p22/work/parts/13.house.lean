section HOU
variable {d : Nat} {L : am_L} {g : am_G} {bc bs : Nat} {sx : am_S} {Q : am_Q}
theorem w_has {s k : Int32} (h : Q (some (.int (am_bi (am_hs s k)))) L g) : am d 78 0 [some (.int s), some (.int k)] [] L g 0 0 none Q := by
  refine am_run_k 7 (And.intro (fun h6 => ?_) (fun h6 => ?_))
  · refine am_run_k 2 (And.intro (Or.inl rfl) ?_)
    have e : am_hs s k = false := decide_eq_false h6
    rw [e] at h
    exact h
  · refine am_run_k 3 (And.intro (Or.inr rfl) ?_)
    have e : am_hs s k = true := decide_eq_true h6
    rw [e] at h
    exact h
theorem w_isPlace {n : Int32} (h : Q (some (.int (am_bi (am_ir n 8)))) L g) : am d 73 0 [some (.int n)] [] L g 0 0 none Q := by
  refine am_run_k 2 (And.intro (fun h6 => ?_) (fun h6 => ?_))
  · refine am_run_k 2 (And.intro (Or.inl rfl) ?_)
    have e : am_ir n 8 = false := by unfold am_ir; rw [decide_eq_false (by simpa using h6)]; rfl
    rw [e] at h
    exact h
  · refine am_run_k 3 (And.intro (fun h7 => ?_) (fun h7 => ?_))
    · refine am_run_k 2 (And.intro (Or.inl rfl) ?_)
      have e : am_ir n 8 = false := by unfold am_ir; rw [decide_eq_false (p := n < 8) (by simpa using h7)]; simp
      rw [e] at h
      exact h
    · refine am_run_k 3 (And.intro (Or.inr rfl) ?_)
      have e : am_ir n 8 = true := by unfold am_ir; rw [decide_eq_true (p := n < 8) (by simpa using h7), decide_eq_true (p := 0 ≤ n) (by simpa using h6)]; rfl
      rw [e] at h
      exact h
theorem l_1_7 {g0 : am_G} (K : ∀ (g : am_G) (x : Int32), (∀ k, k ≠ 3 → g k = g0 k) → (∀ p, p < 8 → g 3 p = 0) → am d 1 26 [some (.ref 2), some (.int x)] [] LY g 0 0 none Q) : ∀ (n i : Nat) (x : Int32) (g : am_G), i + n = 8 → x = nI i → (∀ k, k ≠ 3 → g k = g0 k) → (∀ p, p < i → g 3 p = 0) → am d 1 7 [some (.ref 2), some (.int x)] [] LY g 0 0 none Q := by
  intro n
  induction n with
  | zero =>
    intro i x g hi hx h1 h2
    have hi : i = 8 := by omega
    subst hi; subst hx
    refine am_run_k 3 (And.intro (fun h6 => ?_) (fun h6 => absurd (show nI 8 ≤ nI 8 from nI_le (Nat.le_refl 8) (by decide)) h6))
    exact K g _ h1 h2
  | succ n ih =>
    intro i x g hi hx h1 h2
    subst hx
    refine am_run_k 3 (And.intro (fun h6 => absurd (show nI 8 ≤ nI i from h6) (nI_ge (by omega) (by decide))) (fun h6 => ?_))
    refine am_run_k 5 (And.intro (vpn (by omega)) ?_)
    refine am_run_k 2 ?_
    refine ih (i + 1) _ _ (by omega) (nI_1 i) (fun k hk => ?_) (fun p hp => ?_)
    · rw [am_up_ne hk]; exact h1 k hk
    · rw [am_up_at, ncl (by omega)]
      by_cases e : p = i
      · simp [upd, e]
      · simp [upd, e]; exact h2 p (by omega)
end HOU
