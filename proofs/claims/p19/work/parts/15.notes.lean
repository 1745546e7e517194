section NOT
variable {d : Nat} {L : am_L} {g : am_G} {bc bs : Nat} {sx : am_S} {Q : am_Q}
theorem w_holds {f : Int32} (h : Q (some (.int (am_bi (am_ir f (g 5 1))))) LY g) : am d 20 0 [some (.ref 5), some (.int f)] [] LY g 0 0 none Q := by
  refine am_run_k 2 (And.intro (fun h6 => ?_) (fun h6 => ?_))
  · refine am_run_k 2 (And.intro (Or.inl rfl) ?_)
    rw [am_ir_f1 (fa_nle.mpr h6)] at h
    exact h
  · refine am_run_k 4 (And.intro (fun h7 => ?_) (fun h7 => ?_))
    · refine am_run_k 2 (And.intro (Or.inl rfl) ?_)
      rw [am_ir_f2 (fa_nlt.mpr h7)] at h
      exact h
    · refine am_run_k 3 (And.intro (Or.inr rfl) ?_)
      rw [am_ir_t (fa_nlt.mp h6) (fa_nle.mp h7)] at h
      exact h
theorem w_isPerson {f : Int32} (h : Q (some (.int (am_bi (am_ir f (g 1 3))))) LY g) : am d 32 0 [some (.ref 1), some (.int f)] [] LY g 0 0 none Q := by
  refine am_run_k 2 (And.intro (fun h6 => ?_) (fun h6 => ?_))
  · refine am_run_k 2 (And.intro (Or.inl rfl) ?_)
    rw [am_ir_f1 (fa_nle.mpr h6)] at h
    exact h
  · refine am_run_k 4 (And.intro (fun h7 => ?_) (fun h7 => ?_))
    · refine am_run_k 2 (And.intro (Or.inl rfl) ?_)
      rw [am_ir_f2 (fa_nlt.mpr h7)] at h
      exact h
    · refine am_run_k 3 (And.intro (Or.inr rfl) ?_)
      rw [am_ir_t (fa_nlt.mp h6) (fa_nle.mp h7)] at h
      exact h
theorem nI51 (k : Nat) : nI k * 5 + 1 = nI (k * 5 + 1) := by rw [nIm5]; exact nI_1 _
theorem nI52 (k : Nat) : nI k * 5 + 2 = nI (k * 5 + 2) := by rw [nIm5]; exact nIp2 _
theorem nI53 (k : Nat) : nI k * 5 + 3 = nI (k * 5 + 3) := by rw [nIm5]; exact nIp3 _
theorem nI54 (k : Nat) : nI k * 5 + 4 = nI (k * 5 + 4) := by rw [nIm5]; exact nIp4 _
theorem w_kind {k : Nat} (hk : k < 20) (h : Q (some (.int (g 6 (k * 5)))) LY g) : am d 21 0 [some (.ref 5), some (.int (nI k))] [] LY g 0 0 none Q := by
  refine am_run_k 6 (And.intro (vpe (nIm5 k) (by omega)) ?_)
  refine am_run_k 1 ?_
  rw [cle (nIm5 k) (by omega)]
  exact h
theorem w_who {k : Nat} (hk : k < 20) (h : Q (some (.int (g 6 (k * 5 + 1)))) LY g) : am d 22 0 [some (.ref 5), some (.int (nI k))] [] LY g 0 0 none Q := by
  refine am_run_k 8 (And.intro (vpe (nI51 k) (by omega)) ?_)
  refine am_run_k 1 ?_
  rw [cle (nI51 k) (by omega)]
  exact h
theorem w_other {k : Nat} (hk : k < 20) (h : Q (some (.int (g 6 (k * 5 + 2)))) LY g) : am d 23 0 [some (.ref 5), some (.int (nI k))] [] LY g 0 0 none Q := by
  refine am_run_k 8 (And.intro (vpe (nI52 k) (by omega)) ?_)
  refine am_run_k 1 ?_
  rw [cle (nI52 k) (by omega)]
  exact h
/-- how many numbers a kind has -/
def am_nm (kd : Int32) : Int32 := if kd = 2 then 2 else if kd = 3 then 2 else if kd = 4 then 1 else if kd = 7 then 4 else 3
theorem w_numbers {kd : Int32} (h : Q (some (.int (am_nm kd))) L g) : am d 24 0 [some (.int kd)] [] L g 0 0 none Q := by
  unfold am_nm at h
  refine am_run_k 2 (And.intro (fun h1 => ?_) (fun h1 => And.intro (fun h2 => ?_) (fun h2 => And.intro (fun h3 => ?_) (fun h3 => And.intro (fun h4 => ?_) (fun h4 => And.intro (fun h5 => ?_) (fun h5 => And.intro (fun h6 => ?_) (fun h6 => ?_)))))))
  · rw [if_pos h1] at h
    refine am_run_k 2 ?_
    exact h
  · rw [if_neg h1, if_pos h2] at h
    refine am_run_k 2 ?_
    exact h
  · rw [if_neg h1, if_neg h2, if_pos h3] at h
    refine am_run_k 2 ?_
    exact h
  · rw [if_neg h1, if_neg h2, if_neg h3, if_neg (by rw [h4]; decide)] at h
    refine am_run_k 2 ?_
    exact h
  · rw [if_neg h1, if_neg h2, if_neg h3, if_neg (by rw [h5]; decide)] at h
    refine am_run_k 2 ?_
    exact h
  · rw [if_neg h1, if_neg h2, if_neg h3, if_pos h6] at h
    refine am_run_k 2 ?_
    exact h
  · rw [if_neg h1, if_neg h2, if_neg h3, if_neg h6] at h
    refine am_run_k 2 ?_
    exact h
/-- a find's row -/
def am_kb (kd b : Int32) : Int32 := if am_nm kd ≤ 1 then 0 else b
def am_kc (kd c : Int32) : Int32 := if am_nm kd ≤ 2 then 0 else c
def am_kx (kd x : Int32) : Int32 := if am_nm kd ≤ 3 then 0 else x
def am_add (g : am_G) (n : Nat) (kd a b c x : Int32) : am_G := am_up (am_up (am_up (am_up (am_up (am_up g 6 (n * 5) kd) 6 (n * 5 + 1) a) 6 (n * 5 + 2) (am_kb kd b)) 6 (n * 5 + 3) (am_kc kd c)) 6 (n * 5 + 4) (am_kx kd x)) 5 1 (nI (n + 1))
theorem w_add {n : Nat} {kd a b c x : Int32} (hn : n < 20) (hc : g 5 1 = nI n) (h : Q none LY (am_add g n kd a b c x)) : am (d + 1) 25 0 [some (.ref 5), some (.int kd), some (.int a), some (.int b), some (.int c), some (.int x), none, none] [] LY g 0 0 none Q := by
  have i0 : g 5 1 * 5 = nI (n * 5) := by rw [hc]; exact nIm5 n
  have i1 : g 5 1 * 5 + 1 = nI (n * 5 + 1) := by rw [hc]; exact nI51 n
  have i2 : g 5 1 * 5 + 2 = nI (n * 5 + 2) := by rw [hc]; exact nI52 n
  have i3 : g 5 1 * 5 + 3 = nI (n * 5 + 3) := by rw [hc]; exact nI53 n
  have i4 : g 5 1 * 5 + 4 = nI (n * 5 + 4) := by rw [hc]; exact nI54 n
  refine am_run_k 7 (am_cl ?_)
  refine w_numbers ?_
  refine am_run_k 6 (And.intro (vpe i0 (by omega)) ?_)
  refine am_run_k 7 (And.intro (vpe i1 (by omega)) ?_)
  have st5 : ∀ (vb vc vx : Int32), vb = am_kb kd b → vc = am_kc kd c → vx = am_kx kd x → am (d + 1) 25 94 [some (.ref 5), some (.int kd), some (.int a), some (.int b), some (.int c), some (.int x), some (.int (g 5 1 * 5)), some (.int (am_nm kd))] [] LY (am_up (am_up (am_up (am_up (am_up g 6 (g 5 1 * 5).toNatClampNeg kd) 6 (g 5 1 * 5 + 1).toNatClampNeg a) 6 (g 5 1 * 5 + 2).toNatClampNeg vb) 6 (g 5 1 * 5 + 3).toNatClampNeg vc) 6 (g 5 1 * 5 + 4).toNatClampNeg vx) 0 0 none Q := by
    intro vb vc vx e1 e2 e3
    refine am_run_k 7 ?_
    refine am_fin h ?_
    rw [cle i0 (by omega), cle i1 (by omega), cle i2 (by omega), cle i3 (by omega), cle i4 (by omega), e1, e2, e3]
    unfold am_add
    congr 1
    rw [← nI_1, ← hc]
    rfl
  have st4 : ∀ (vb vc : Int32), vb = am_kb kd b → vc = am_kc kd c → am (d + 1) 25 73 [some (.ref 5), some (.int kd), some (.int a), some (.int b), some (.int c), some (.int x), some (.int (g 5 1 * 5)), some (.int (am_nm kd))] [] LY (am_up (am_up (am_up (am_up g 6 (g 5 1 * 5).toNatClampNeg kd) 6 (g 5 1 * 5 + 1).toNatClampNeg a) 6 (g 5 1 * 5 + 2).toNatClampNeg vb) 6 (g 5 1 * 5 + 3).toNatClampNeg vc) 0 0 none Q := by
    intro vb vc e1 e2
    refine am_run_k 8 (And.intro (fun h1 => ?_) (fun h1 => ?_))
    · refine am_run_k 2 (And.intro (vpe i4 (by omega)) ?_)
      exact st5 _ _ _ e1 e2 (by unfold am_kx; rw [if_pos h1])
    · refine am_run_k 3 (And.intro (vpe i4 (by omega)) ?_)
      exact st5 _ _ _ e1 e2 (by unfold am_kx; rw [if_neg h1])
  have st3 : ∀ (vb : Int32), vb = am_kb kd b → am (d + 1) 25 52 [some (.ref 5), some (.int kd), some (.int a), some (.int b), some (.int c), some (.int x), some (.int (g 5 1 * 5)), some (.int (am_nm kd))] [] LY (am_up (am_up (am_up g 6 (g 5 1 * 5).toNatClampNeg kd) 6 (g 5 1 * 5 + 1).toNatClampNeg a) 6 (g 5 1 * 5 + 2).toNatClampNeg vb) 0 0 none Q := by
    intro vb e1
    refine am_run_k 8 (And.intro (fun h1 => ?_) (fun h1 => ?_))
    · refine am_run_k 2 (And.intro (vpe i3 (by omega)) ?_)
      exact st4 _ _ e1 (by unfold am_kc; rw [if_pos h1])
    · refine am_run_k 3 (And.intro (vpe i3 (by omega)) ?_)
      exact st4 _ _ e1 (by unfold am_kc; rw [if_neg h1])
  refine am_run_k 8 (And.intro (fun h1 => ?_) (fun h1 => ?_))
  · refine am_run_k 2 (And.intro (vpe i2 (by omega)) ?_)
    exact st3 _ (by unfold am_kb; rw [if_pos h1])
  · refine am_run_k 3 (And.intro (vpe i2 (by omega)) ?_)
    exact st3 _ (by unfold am_kb; rw [if_neg h1])
def am_fgt (g : am_G) : am_G := am_up (am_up (am_up g 5 1 0) 5 2 0) 5 4 0
theorem w_forget (h : Q none LY (am_fgt g)) : am d 26 0 [some (.ref 5)] [] LY g 0 0 none Q := by
  refine am_run_k 10 ?_
  exact h
theorem w_isFound {f : Int32} (h : Q (some (.int (am_bi (am_hs (g 5 2) f)))) LY g) : am (d + 1) 28 0 [some (.ref 5), some (.int f)] [] LY g 0 0 none Q := by
  refine am_run_k 4 (am_cl ?_)
  refine w_has ?_
  refine am_run_k 1 (And.intro (bi_01 _) ?_)
  exact h
theorem w_everyone (h : Q (some (.int (am_sh (g 1 3) - 1))) LY g) : am d 33 0 [some (.ref 1)] [] LY g 0 0 none Q := by
  refine am_run_k 7 ?_
  exact h
theorem w_takenAs0 {ln : Int32} (h : Q (some (.int (if g 18 1 = -1 then -11 else if g 18 1 = ln then 0 else -12))) LY g) : am d 36 0 [some (.ref 18), some (.int ln)] [] LY g 0 0 none Q := by
  refine am_run_k 4 (And.intro (fun h1 => ?_) (fun h1 => ?_))
  · refine am_run_k 4 (And.intro (fun h2 => ?_) (fun h2 => ?_))
    · refine am_run_k 2 ?_
      rw [if_neg h1, if_neg h2] at h
      exact h
    · refine am_run_k 3 ?_
      rw [if_neg h1, if_pos h2] at h
      exact h
  · refine am_run_k 2 ?_
    rw [if_pos h1] at h
    exact h
theorem w_takenAs1 {ln : Int32} (h : Q (some (.int (if g 20 1 = -1 then -11 else if g 20 1 = ln then 0 else -12))) LY g) : am d 36 0 [some (.ref 20), some (.int ln)] [] LY g 0 0 none Q := by
  refine am_run_k 4 (And.intro (fun h1 => ?_) (fun h1 => ?_))
  · refine am_run_k 4 (And.intro (fun h2 => ?_) (fun h2 => ?_))
    · refine am_run_k 2 ?_
      rw [if_neg h1, if_neg h2] at h
      exact h
    · refine am_run_k 3 ?_
      rw [if_neg h1, if_pos h2] at h
      exact h
  · refine am_run_k 2 ?_
    rw [if_pos h1] at h
    exact h
theorem l_37_12_0 {g0 : am_G} {ln : Int32} {m : Nat} (hm : m ≤ 60) (K : ∀ g : am_G, (∀ k, k ≠ 19 → g k = g0 k) → (∀ p, p < m → g 19 p = 0) → (∀ p, m ≤ p → g 19 p = g0 19 p) → Q none LY g) : ∀ (n i : Nat) (x : Int32) (g : am_G), i + n = m → x = nI i → (∀ k, k ≠ 19 → g k = g0 k) → (∀ p, p < i → g 19 p = 0) → (∀ p, i ≤ p → g 19 p = g0 19 p) → am d 37 12 [some (.ref 18), some (.int ln), some (.int (nI m)), some (.int x)] [] LY g 0 0 none Q := by
  intro n
  induction n with
  | zero =>
    intro i x g hi hx h1 h2 h3
    have hi : i = m := by omega
    subst hi; subst hx
    refine am_run_k 3 (And.intro (fun h6 => ?_) (fun hx => absurd ((nI_le (Nat.le_refl i) (by omega))) hx))
    refine am_run_k 1 ?_
    exact K g h1 h2 h3
  | succ n ih =>
    intro i x g hi hx h1 h2 h3
    subst hx
    refine am_run_k 3 (And.intro (fun hx => absurd hx ((nI_ge (by omega) (by omega)))) (fun h6 => ?_))
    refine am_run_k 5 (And.intro (vpn (by omega)) ?_)
    refine am_run_k 2 ?_
    refine ih (i + 1) _ _ (by omega) (nI_1 i) (fun k hk => ?_) (fun p hp => ?_) (fun p hp => ?_)
    · rw [am_up_ne hk]; exact h1 k hk
    · rw [ncl (by omega)]
      by_cases e : p = i
      · rw [e, am_up_us]
      · rw [am_up_un e]; exact h2 p (by omega)
    · rw [ncl (by omega), am_up_un (by omega)]; exact h3 p (by omega)
theorem w_renew0 {ln : Int32} {m : Nat} (hm : m ≤ 60) (h : ∀ g' : am_G, (∀ k, k ≠ 18 → k ≠ 19 → g' k = g k) → g' 18 1 = ln → g' 18 2 = nI m → (∀ p, p < m → g' 19 p = 0) → (∀ p, m ≤ p → g' 19 p = g 19 p) → Q none LY g') : am d 37 0 [some (.ref 18), some (.int ln), some (.int (nI m)), none] [] LY g 0 0 none Q := by
  refine am_run_k 8 ?_
  refine l_37_12_0 (g0 := am_up (am_up g 18 1 ln) 18 2 (nI m)) hm (fun g1 e1 z1 z2 => ?_) m 0 0 _ (Nat.zero_add m) rfl (fun k _ => rfl) (fun p hp => absurd hp (by omega)) (fun p _ => rfl)
  refine h g1 (fun k h2 h3 => ?_) ?_ ?_ z1 (fun p hp => ?_)
  · rw [e1 k h3, am_up_ne h2, am_up_ne h2]
  · rw [e1 18 (by decide), am_up_un (by decide), am_up_us]
  · rw [e1 18 (by decide), am_up_us]
  · rw [z2 p hp, am_up_ne (by decide), am_up_ne (by decide)]
theorem l_37_12_1 {g0 : am_G} {ln : Int32} {m : Nat} (hm : m ≤ 60) (K : ∀ g : am_G, (∀ k, k ≠ 21 → g k = g0 k) → (∀ p, p < m → g 21 p = 0) → (∀ p, m ≤ p → g 21 p = g0 21 p) → Q none LY g) : ∀ (n i : Nat) (x : Int32) (g : am_G), i + n = m → x = nI i → (∀ k, k ≠ 21 → g k = g0 k) → (∀ p, p < i → g 21 p = 0) → (∀ p, i ≤ p → g 21 p = g0 21 p) → am d 37 12 [some (.ref 20), some (.int ln), some (.int (nI m)), some (.int x)] [] LY g 0 0 none Q := by
  intro n
  induction n with
  | zero =>
    intro i x g hi hx h1 h2 h3
    have hi : i = m := by omega
    subst hi; subst hx
    refine am_run_k 3 (And.intro (fun h6 => ?_) (fun hx => absurd ((nI_le (Nat.le_refl i) (by omega))) hx))
    refine am_run_k 1 ?_
    exact K g h1 h2 h3
  | succ n ih =>
    intro i x g hi hx h1 h2 h3
    subst hx
    refine am_run_k 3 (And.intro (fun hx => absurd hx ((nI_ge (by omega) (by omega)))) (fun h6 => ?_))
    refine am_run_k 5 (And.intro (vpn (by omega)) ?_)
    refine am_run_k 2 ?_
    refine ih (i + 1) _ _ (by omega) (nI_1 i) (fun k hk => ?_) (fun p hp => ?_) (fun p hp => ?_)
    · rw [am_up_ne hk]; exact h1 k hk
    · rw [ncl (by omega)]
      by_cases e : p = i
      · rw [e, am_up_us]
      · rw [am_up_un e]; exact h2 p (by omega)
    · rw [ncl (by omega), am_up_un (by omega)]; exact h3 p (by omega)
theorem w_renew1 {ln : Int32} {m : Nat} (hm : m ≤ 60) (h : ∀ g' : am_G, (∀ k, k ≠ 20 → k ≠ 21 → g' k = g k) → g' 20 1 = ln → g' 20 2 = nI m → (∀ p, p < m → g' 21 p = 0) → (∀ p, m ≤ p → g' 21 p = g 21 p) → Q none LY g') : am d 37 0 [some (.ref 20), some (.int ln), some (.int (nI m)), none] [] LY g 0 0 none Q := by
  refine am_run_k 8 ?_
  refine l_37_12_1 (g0 := am_up (am_up g 20 1 ln) 20 2 (nI m)) hm (fun g1 e1 z1 z2 => ?_) m 0 0 _ (Nat.zero_add m) rfl (fun k _ => rfl) (fun p hp => absurd hp (by omega)) (fun p _ => rfl)
  refine h g1 (fun k h2 h3 => ?_) ?_ ?_ z1 (fun p hp => ?_)
  · rw [e1 k h3, am_up_ne h2, am_up_ne h2]
  · rw [e1 20 (by decide), am_up_un (by decide), am_up_us]
  · rw [e1 20 (by decide), am_up_us]
  · rw [z2 p hp, am_up_ne (by decide), am_up_ne (by decide)]
end NOT
