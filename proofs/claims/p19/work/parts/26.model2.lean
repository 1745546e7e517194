section MOE
variable {d : Nat} {L : am_L} {g : am_G} {bc bs : Nat} {sx : am_S} {Q : am_Q}
/-- one step from a set of places -/
def arP (g : am_G) (x : Int32) (q : Nat) : Prop := ∃ p, p < 8 ∧ bt x p = true ∧ bt (g 23 p) q = true
theorem l_108_4 {x : Int32} (h : ∀ r, (∀ q, q < 32 → (bt r q = true ↔ arP g x q)) → Q (some (.int r)) LY g) : ∀ (n k : Nat) (z acc : Int32), k + n = 8 → z = nI k → (∀ q, q < 32 → (bt acc q = true ↔ ∃ p, p < k ∧ bt x p = true ∧ bt (g 23 p) q = true)) → am d 108 4 [some (.ref 22), some (.int x), some (.int acc), some (.int z)] [] LY g 0 0 none Q := by
  intro n
  induction n with
  | zero =>
    intro k z acc hk hz ha
    have hk : k = 8 := by omega
    subst hk; subst hz
    refine am_run_k 3 (And.intro (fun h6 => ?_) (fun hx => absurd ((show nI 8 ≤ nI 8 from nI_le (Nat.le_refl 8) (by decide))) hx))
    refine am_run_k 2 ?_
    exact h acc ha
  | succ n ih =>
    intro k z acc hk hz ha
    subst hz
    refine am_run_k 3 (And.intro (fun hx => absurd hx ((nI_ge (b := 8) (by omega) (by decide)))) (fun h6 => ?_))
    have nxt : ∀ u : Int32, (∀ q, q < 32 → (bt u q = true ↔ bt x k = true ∧ bt (g 23 k) q = true)) → am d 108 30 [some (.ref 22), some (.int x), some (.int acc), some (.int (nI k))] [.int u, .int acc] LY g 0 0 none Q := by
      intro u hu
      refine am_run_k 4 ?_
      refine ih (k + 1) _ _ (by omega) (nI_1 k) (fun q hq => ?_)
      rw [b_or, Bool.or_eq_true, ha q hq, hu q hq]
      constructor
      · rintro (⟨p, hp, h1, h2⟩ | ⟨h1, h2⟩)
        · exact ⟨p, by omega, h1, h2⟩
        · exact ⟨k, by omega, h1, h2⟩
      · rintro ⟨p, hp, h1, h2⟩
        rcases Nat.lt_succ_iff_lt_or_eq.mp hp with e | e
        · exact Or.inl ⟨p, e, h1, h2⟩
        · subst e; exact Or.inr ⟨h1, h2⟩
    have hbit : ((x >>> (nI k &&& 31)) &&& 1 = 1) ↔ bt x k = true := by
      rw [← hs_bt (x := x) (p := k) (by omega)]
      unfold am_hs
      rw [decide_eq_true_iff]
    refine am_run_k 8 (And.intro (fun h7 => ?_) (fun h7 => ?_))
    · refine am_run_k 1 ?_
      refine nxt _ (fun q hq => ?_)
      rw [b_0]
      have : ¬ bt x k = true := fun e => h7 (hbit.mpr e)
      simp [this]
    · refine am_run_k 4 (And.intro (vpn (by omega)) ?_)
      refine am_run_k 1 ?_
      rw [ncl (by omega)]
      refine nxt _ (fun q hq => ?_)
      have := hbit.mp h7
      simp [this]
theorem m_around {x : Int32} (h : ∀ r, (∀ q, q < 32 → (bt r q = true ↔ arP g x q)) → Q (some (.int r)) LY g) : am d 108 0 [some (.ref 22), some (.int x), none, none] [] LY g 0 0 none Q := by
  refine am_run_k 4 ?_
  refine l_108_4 h 8 0 0 0 rfl rfl (fun q hq => ?_)
  rw [b_0]
  constructor
  · intro e; cases e
  · rintro ⟨p, hp, -⟩; exact absurd hp (by omega)
theorem ix10t {q t : Nat} : (10 : Int32) * nI q + nI t = nI (10 * q + t) := by rw [nIt10]; exact nI_add _ _
theorem l_107_12 {q : Nat} (hq : q < 6) (h : ∀ r, r = 0 ∨ r = 1 → Q (some (.int r)) LY g) : ∀ (n t : Nat) (x s : Int32), t + n = 10 → x = nI t → am (d + 1) 107 12 [some (.ref 22), some (.int (nI q)), some (.int s), some (.int x)] [] LY g 0 0 none Q := by
  intro n
  induction n with
  | zero =>
    intro t x s ht hx
    have ht : t = 10 := by omega
    subst ht; subst hx
    refine am_run_k 3 (And.intro (fun h6 => ?_) (fun hx => absurd ((show nI 10 ≤ nI 10 from nI_le (Nat.le_refl 10) (by decide))) hx))
    refine am_run_k 2 (And.intro (fun h7 => ?_) (fun h7 => ?_))
    · refine am_run_k 2 (And.intro (Or.inl rfl) ?_)
      exact h _ (Or.inl rfl)
    · refine am_run_k 3 (And.intro (Or.inr rfl) ?_)
      exact h _ (Or.inr rfl)
  | succ n ih =>
    intro t x s ht hx
    subst hx
    refine am_run_k 3 (And.intro (fun hx => absurd hx ((nI_ge (b := 10) (by omega) (by decide)))) (fun h6 => ?_))
    refine am_run_k 3 (am_cl ?_)
    refine m_around (fun r _ => ?_)
    refine am_run_k 8 (And.intro (vpe ix10t (by omega)) ?_)
    refine am_run_k 4 ?_
    exact ih (t + 1) _ _ (by omega) (nI_1 t)
theorem m_hasWay {q : Nat} (hq : q < 6) (h : ∀ r, r = 0 ∨ r = 1 → Q (some (.int r)) LY g) : am (d + 1) 107 0 [some (.ref 22), some (.int (nI q)), none, none] [] LY g 0 0 none Q := by
  refine am_run_k 6 (And.intro (vpe (nIt10 q) (by omega)) ?_)
  refine am_run_k 3 ?_
  exact l_107_12 hq h 9 1 _ _ rfl rfl
def M8 (g : am_G) : Prop := ∀ i, i < 60 → ∀ q, 8 ≤ q → q < 32 → bt (g 31 i) q = false
def o31 (g g' : am_G) : Prop := ∀ k, k ≠ 31 → g' k = g k
theorem l_105_2 {g0 : am_G} (h : ∀ g', o31 g0 g' → M8 g' → Q none LY g') : ∀ (n k : Nat) (x : Int32) (g : am_G), k + n = 60 → x = nI k → o31 g0 g → (∀ i, i < k → ∀ q, 8 ≤ q → q < 32 → bt (g 31 i) q = false) → am d 105 2 [some (.ref 22), some (.int x)] [] LY g 0 0 none Q := by
  intro n
  induction n with
  | zero =>
    intro k x g hk hx hg hm
    have hk : k = 60 := by omega
    subst hk; subst hx
    refine am_run_k 3 (And.intro (fun h6 => ?_) (fun hx => absurd ((show nI 60 ≤ nI 60 from nI_le (Nat.le_refl 60) (by decide))) hx))
    refine am_run_k 1 ?_
    exact h g hg hm
  | succ n ih =>
    intro k x g hk hx hg hm
    subst hx
    refine am_run_k 3 (And.intro (fun hx => absurd hx ((nI_ge (b := 60) (by omega) (by decide)))) (fun h6 => ?_))
    refine am_run_k 5 (And.intro (vpn (by omega)) ?_)
    refine am_run_k 2 ?_
    rw [ncl (by omega)]
    refine ih (k + 1) _ _ (by omega) (nI_1 k) (fun j hj => by rw [am_up_ne hj]; exact hg j hj) (fun i hi q hq hq2 => ?_)
    by_cases e : i = k
    · rw [e, am_up_us, b_255]; exact decide_eq_false (by omega)
    · rw [am_up_un e]; exact hm i (by omega) q hq hq2
theorem m_free (h : ∀ g', o31 g g' → M8 g' → Q none LY g') : am d 105 0 [some (.ref 22), none] [] LY g 0 0 none Q := by
  refine am_run_k 2 ?_
  exact l_105_2 (g0 := g) h 60 0 _ g rfl rfl (fun k _ => rfl) (fun i hi => absurd hi (by omega))
theorem M8.up {i : Nat} {y : Int32} (h : M8 g) (hi : i < 60) : M8 (am_up g 31 i (g 31 i &&& y)) := by
  intro j hj q hq hq2
  by_cases e : j = i
  · rw [e, am_up_us, b_and, h i hi q hq hq2, Bool.false_and]
  · rw [am_up_un e]; exact h j hj q hq hq2
theorem o31.up {i : Nat} {y : Int32} {g0 : am_G} (h : o31 g0 g) : o31 g0 (am_up g 31 i y) := fun k hk => by rw [am_up_ne hk]; exact h k hk
def rowsM (g : am_G) (c : Nat) : Prop := ∀ k, k < c → rowOK (g 25 k) (g 26 (4 * k)) (g 26 (4 * k + 1)) (g 26 (4 * k + 2)) (g 26 (4 * k + 3))
theorem nI41 (k : Nat) : (4 : Int32) * nI k + 1 = nI (4 * k + 1) := by rw [nIm4]; exact nI_1 _
theorem nI42 (k : Nat) : (4 : Int32) * nI k + 2 = nI (4 * k + 2) := by rw [nIm4]; exact nIp2 _
theorem nI43 (k : Nat) : (4 : Int32) * nI k + 3 = nI (4 * k + 3) := by rw [nIm4]; exact nIp3 _
theorem m_bind {k : Nat} (hk : k < 20) (hr : rowOK (g 25 k) (g 26 (4 * k)) (g 26 (4 * k + 1)) (g 26 (4 * k + 2)) (g 26 (4 * k + 3))) (m8 : M8 g) (h : ∀ g', o31 g g' → M8 g' → Q none LY g') : am d 106 0 [some (.ref 22), some (.int (nI k)), none, none, none] [] LY g 0 0 none Q := by
  have e0 := cle (nIm4 k) (show 4 * k < 2 ^ 31 by omega)
  have e1 := cle (nI41 k) (show 4 * k + 1 < 2 ^ 31 by omega)
  have e2 := cle (nI42 k) (show 4 * k + 2 < 2 ^ 31 by omega)
  have e3 := cle (nI43 k) (show 4 * k + 3 < 2 ^ 31 by omega)
  have ek := ncl (show k < 2 ^ 31 by omega)
  have o0 : o31 g g := fun _ _ => rfl
  refine am_run_k 6 (And.intro (vpe (nIm4 k) (by omega)) ?_)
  refine am_run_k 9 (And.intro (vpe (nI41 k) (by omega)) ?_)
  refine am_run_k 9 (And.intro (vpe (nI42 k) (by omega)) ?_)
  refine am_run_k 5 (And.intro (vpn (by omega)) ?_)
  rw [e0, e1, e2, ek]
  have b84 : ∀ (a b t : Nat), a < 6 → t < 10 → am d 106 84 [some (.ref 22), some (.int (nI k)), some (.int (nI a)), some (.int (nI b)), some (.int (nI t))] [] LY g 0 0 none Q := by
    intro a b t ha ht
    refine am_run_k 9 (And.intro (vpe ix10t (by omega)) ?_)
    refine am_run_k 5 (And.intro (vpe ix10t (by omega)) ?_)
    refine am_run_k 2 ?_
    rw [cle ix10t (by omega)]
    exact h _ o0.up (m8.up (by omega))
  have b105 : ∀ (a b t : Nat), a < 6 → t < 10 → am d 106 105 [some (.ref 22), some (.int (nI k)), some (.int (nI a)), some (.int (nI b)), some (.int (nI t))] [] LY g 0 0 none Q := by
    intro a b t ha ht
    refine am_run_k 9 (And.intro (vpe ix10t (by omega)) ?_)
    refine am_run_k 7 (And.intro (vpe ix10t (by omega)) ?_)
    refine am_run_k 2 ?_
    rw [cle ix10t (by omega)]
    exact h _ o0.up (m8.up (by omega))
  have b185 : ∀ (a b c : Int32), am d 106 185 [some (.ref 22), some (.int (nI k)), some (.int a), some (.int b), some (.int c)] [] LY g 0 0 none Q := by
    intro a b c
    refine am_run_k 1 ?_
    exact h _ o0 m8
  rcases hr with ⟨h23, -⟩ | ⟨h4, -⟩ | ⟨h7, ⟨q, hq, eq⟩, ⟨q2, hq2, eq2⟩, ⟨p, hp, ep⟩, t, ht, et⟩ | ⟨h0, ⟨q, hq, eq⟩, ⟨p, hp, ep⟩, t, ht, et⟩
  · rcases h23 with e | e <;> rw [e]
    · exact am_run_k 1 (And.intro (fun h1 => absurd h1 (by decide)) (fun h1 => And.intro (fun h2 => absurd h2 (by decide)) (fun h2 => And.intro (fun h3 => b185 _ _ _) (fun h3 => absurd rfl h3))))
    · exact am_run_k 1 (And.intro (fun h1 => absurd h1 (by decide)) (fun h1 => And.intro (fun h2 => absurd h2 (by decide)) (fun h2 => And.intro (fun h3 => absurd h3 (by decide)) (fun h3 => And.intro (fun h4 => b185 _ _ _) (fun h4 => absurd rfl h4)))))
  · rw [h4]
    exact am_run_k 1 (And.intro (fun h1 => absurd h1 (by decide)) (fun h1 => And.intro (fun h2 => absurd h2 (by decide)) (fun h2 => And.intro (fun h3 => absurd h3 (by decide)) (fun h3 => And.intro (fun h4 => absurd h4 (by decide)) (fun h4 => And.intro (fun h5 => b185 _ _ _) (fun h5 => absurd rfl h5))))))
  · rw [h7, eq, eq2, ep]
    refine am_run_k 1 (And.intro (fun h1 => absurd h1 (by decide)) (fun h1 => And.intro (fun h2 => absurd h2 (by decide)) (fun h2 => And.intro (fun h3 => absurd h3 (by decide)) (fun h3 => And.intro (fun h4 => absurd h4 (by decide)) (fun h4 => And.intro (fun h5 => absurd h5 (by decide)) (fun h5 => And.intro (fun h6 => absurd h6 (by decide)) (fun h6 => And.intro (fun h7 => absurd h7 (by decide)) (fun h7 => And.intro (fun h8 => ?_) (fun h8 => absurd rfl h8)))))))))
    refine am_run_k 13 (And.intro (vpe (nI43 k) (by omega)) ?_)
    rw [e3, et]
    refine am_run_k 3 (And.intro (vpe ix10t (by omega)) ?_)
    refine am_run_k 5 (And.intro (vpe ix10t (by omega)) ?_)
    rw [cle ix10t (by omega)]
    refine am_run_k 13 (And.intro (vpe (nI43 k) (by omega)) ?_)
    rw [am_up_ne (by decide), e3, et]
    refine am_run_k 3 (And.intro (vpe ix10t (by omega)) ?_)
    refine am_run_k 5 (And.intro (vpe ix10t (by omega)) ?_)
    refine am_run_k 2 ?_
    rw [cle (ix10t (q := q2) (t := t)) (by omega)]
    exact h _ o0.up.up ((m8.up (by omega)).up (by omega))
  · rw [eq, ep, et]
    rcases h0 with e | e | e | e <;> rw [e]
    · exact am_run_k 1 (And.intro (fun h1 => b84 _ _ _ hq ht) (fun h1 => absurd rfl h1))
    · exact am_run_k 1 (And.intro (fun h1 => absurd h1 (by decide)) (fun h1 => And.intro (fun h2 => b105 _ _ _ hq ht) (fun h2 => absurd rfl h2)))
    · exact am_run_k 1 (And.intro (fun h1 => absurd h1 (by decide)) (fun h1 => And.intro (fun h2 => absurd h2 (by decide)) (fun h2 => And.intro (fun h3 => absurd h3 (by decide)) (fun h3 => And.intro (fun h4 => absurd h4 (by decide)) (fun h4 => And.intro (fun h5 => absurd h5 (by decide)) (fun h5 => And.intro (fun h6 => b84 _ _ _ hq ht) (fun h6 => absurd rfl h6)))))))
    · exact am_run_k 1 (And.intro (fun h1 => absurd h1 (by decide)) (fun h1 => And.intro (fun h2 => absurd h2 (by decide)) (fun h2 => And.intro (fun h3 => absurd h3 (by decide)) (fun h3 => And.intro (fun h4 => absurd h4 (by decide)) (fun h4 => And.intro (fun h5 => absurd h5 (by decide)) (fun h5 => And.intro (fun h6 => absurd h6 (by decide)) (fun h6 => And.intro (fun h7 => b105 _ _ _ hq ht) (fun h7 => absurd rfl h7))))))))
def tkB (g : am_G) (t : Int32) : Bool := decide (t ≤ g 22 5) && (decide (g 22 16 ≤ t) && decide (t < g 22 17))
theorem m_isTaken {t : Int32} (h : Q (some (.int (am_bi (tkB g t)))) LY g) : am d 109 0 [some (.ref 22), some (.int t)] [] LY g 0 0 none Q := by
  unfold tkB at h
  refine am_run_k 4 (And.intro (fun h1 => ?_) (fun h1 => ?_))
  · refine am_run_k 2 (And.intro (Or.inl rfl) ?_)
    rw [decide_eq_false (fa_nle.mpr h1)] at h
    exact h
  · refine am_run_k 4 (And.intro (fun h2 => ?_) (fun h2 => ?_))
    · refine am_run_k 2 (And.intro (Or.inl rfl) ?_)
      rw [decide_eq_true (fa_nlt.mp h1), decide_eq_false (fa_nle.mpr h2)] at h
      exact h
    · refine am_run_k 4 (And.intro (fun h3 => ?_) (fun h3 => ?_))
      · refine am_run_k 2 (And.intro (Or.inl rfl) ?_)
        rw [decide_eq_true (fa_nlt.mp h1), decide_eq_true (fa_nlt.mp h2), decide_eq_false (fa_nlt.mpr h3)] at h
        exact h
      · refine am_run_k 3 (And.intro (Or.inr rfl) ?_)
        rw [decide_eq_true (fa_nlt.mp h1), decide_eq_true (fa_nlt.mp h2), decide_eq_true (fa_nle.mp h3)] at h
        exact h
/-- what leadBack leaves: of the places at a TICK, those that lead on -/
def LB1 (g : am_G) (q th t : Nat) : Prop := (∀ b, b < 32 → (bt (g 32 t) b = true ↔ bt (g 31 (10 * q + t)) b = true ∧ ((t = 9 ∧ b < 8) ∨ (t < 9 ∧ arP g (g 32 (t + 1)) b)))) ∧
  ∀ b, b < 32 → (bt (g 33 t) b = true ↔ (bt (g 31 (10 * q + t)) b = true ∧ t < 9 ∧ arP g (g 33 (t + 1)) b) ∨ (bt (g 32 t) b = true ∧ tkB g (nI t) = true ∧ bt (am_sh (g 24 th)) b = true))
def o32 (g g' : am_G) : Prop := ∀ k, k ≠ 32 → k ≠ 33 → g' k = g k
theorem l_110_21 {q th : Nat} {g0 : am_G} (hq : q < 6) (hth : th < 3) (h : ∀ g', o32 g0 g' → (∀ t, t < 10 → LB1 g' q th t) → Q none LY g') : ∀ (n : Nat) (x : Int32) (a b c : Option Value) (g : am_G), n ≤ 10 → x = nI n - 1 → o32 g0 g → (∀ t, n ≤ t → t < 10 → LB1 g q th t) → am (d + 1) 110 21 [some (.ref 22), some (.int (nI q)), some (.int (nI th)), some (.int x), a, b, c] [] LY g 0 0 none Q := by
  intro n
  induction n with
  | zero =>
    intro x a b c g hn hx hg hl
    subst hx
    refine am_run_k 2 (And.intro (fun h6 => ?_) (fun hx => absurd ((show nI 0 - 1 < 0 by decide)) hx))
    refine am_run_k 1 ?_
    exact h g hg (fun t ht => hl t (Nat.zero_le t) ht)
  | succ n ih =>
    intro x a b c g hn hx hg hl
    rw [nI_pred] at hx
    subst hx
    refine am_run_k 2 (And.intro (fun hx => absurd hx ((nI_pos (by omega)))) (fun h6 => ?_))
    refine am_run_k 8 (And.intro (vpe ix10t (by omega)) ?_)
    rw [cle ix10t (by omega)]
    refine am_run_k 4 (am_cl ?_)
    refine m_isTaken ?_
    -- the end of a turn
    have fin : ∀ (w1 w0 : Int32) (c1 : Option Value), (∀ b, b < 32 → (bt w1 b = true ↔ bt (g 31 (10 * q + n)) b = true ∧ ((n = 9 ∧ b < 8) ∨ (n < 9 ∧ arP g (g 32 (n + 1)) b)))) → (∀ b, b < 32 → (bt w0 b = true ↔ (bt (g 31 (10 * q + n)) b = true ∧ n < 9 ∧ arP g (g 33 (n + 1)) b) ∨ (bt w1 b = true ∧ tkB g (nI n) = true ∧ bt (am_sh (g 24 th)) b = true))) → ∀ (u v w : Option Value), am (d + 1) 110 138 [some (.ref 22), some (.int (nI q)), some (.int (nI th)), some (.int (nI n)), u, v, w] [] LY (am_up (am_up g 32 n w1) 33 n w0) 0 0 none Q := by
      intro w1 w0 c1 f1 f0 u v w
      refine am_run_k 2 ?_
      refine ih _ _ _ _ _ (by omega) (Int32.sub_eq_add_neg (nI n) 1).symm (fun k h32 h33 => by rw [am_up_ne h33, am_up_ne h32]; exact hg k h32 h33) (fun t ht1 ht2 => ?_)
      have G : am_up (am_up g 32 n w1) 33 n w0 = (am_up (am_up g 32 n w1) 33 n w0) := rfl
      have a31 : am_up (am_up g 32 n w1) 33 n w0 31 = g 31 := by rw [am_up_ne (by decide), am_up_ne (by decide)]
      have a23 : am_up (am_up g 32 n w1) 33 n w0 23 = g 23 := by rw [am_up_ne (by decide), am_up_ne (by decide)]
      have a24 : am_up (am_up g 32 n w1) 33 n w0 24 = g 24 := by rw [am_up_ne (by decide), am_up_ne (by decide)]
      have a22 : am_up (am_up g 32 n w1) 33 n w0 22 = g 22 := by rw [am_up_ne (by decide), am_up_ne (by decide)]
      have c32 : ∀ j, j ≠ n → am_up (am_up g 32 n w1) 33 n w0 32 j = g 32 j := fun j hj => by rw [am_up_ne (by decide), am_up_un hj]
      have c33 : ∀ j, j ≠ n → am_up (am_up g 32 n w1) 33 n w0 33 j = g 33 j := fun j hj => by rw [am_up_un hj, am_up_ne (by decide)]
      unfold LB1 arP tkB
      rw [a31, a23, a24, a22]
      by_cases e : t = n
      · subst e
        rw [c32 (t + 1) (by omega), c33 (t + 1) (by omega), am_up_us]
        rw [show am_up (am_up g 32 t w1) 33 t w0 32 t = w1 by rw [am_up_ne (by decide), am_up_us]]
        exact ⟨f1, f0⟩
      · rw [c32 t e, c33 t e, c32 (t + 1) (by omega), c33 (t + 1) (by omega)]
        exact hl t (by omega) ht2
    have s115 : ∀ (there w1 lat : Int32) (c1 : Option Value), (∀ b, b < 32 → (bt w1 b = true ↔ bt (g 31 (10 * q + n)) b = true ∧ ((n = 9 ∧ b < 8) ∨ (n < 9 ∧ arP g (g 32 (n + 1)) b)))) → (∀ b, b < 32 → (bt there b = true ↔ tkB g (nI n) = true ∧ bt (am_sh (g 24 th)) b = true)) → (∀ b, b < 32 → (bt lat b = true ↔ n < 9 ∧ arP g (g 33 (n + 1)) b)) → am (d + 1) 110 115 [some (.ref 22), some (.int (nI q)), some (.int (nI th)), some (.int (nI n)), some (.int (g 31 (10 * q + n))), some (.int there), c1] [.int lat] LY (am_up g 32 n w1) 0 0 none Q := by
      intro there w1 lat c1 f1 ft fl
      refine am_run_k 11 (And.intro (vpn (by omega)) ?_)
      rw [ncl (by omega), am_up_us]
      refine am_run_k 4 (And.intro (vpn (by omega)) ?_)
      rw [ncl (by omega)]
      refine fin w1 _ none f1 (fun b hb => ?_) _ _ _
      rw [b_or, b_and, b_and, Bool.or_eq_true, Bool.and_eq_true, Bool.and_eq_true, ft b hb, fl b hb]
    have s93 : ∀ (there w1 : Int32) (c1 : Option Value), (∀ b, b < 32 → (bt w1 b = true ↔ bt (g 31 (10 * q + n)) b = true ∧ ((n = 9 ∧ b < 8) ∨ (n < 9 ∧ arP g (g 32 (n + 1)) b)))) → (∀ b, b < 32 → (bt there b = true ↔ tkB g (nI n) = true ∧ bt (am_sh (g 24 th)) b = true)) → am (d + 1) 110 93 [some (.ref 22), some (.int (nI q)), some (.int (nI th)), some (.int (nI n)), some (.int (g 31 (10 * q + n))), some (.int there), c1] [] LY (am_up g 32 n w1) 0 0 none Q := by
      intro there w1 c1 f1 ft
      refine am_run_k 3 (And.intro (fun h7 => ?_) (fun h7 => ?_))
      · have hn9 : n < 9 := by
          rcases Nat.lt_or_ge n 9 with e | e
          · exact e
          · exact absurd (show nI n = 9 by rw [show n = 9 by omega]; rfl) h7
        refine am_run_k 7 (And.intro (vpe (nI_1 n) (by omega)) ?_)
        rw [cle (nI_1 n) (by omega), am_up_ne (by decide)]
        refine am_run_k 1 (am_cl ?_)
        refine m_around (fun r hr => ?_)
        refine s115 there w1 r c1 f1 ft (fun b hb => ?_)
        rw [hr b hb]
        unfold arP
        rw [am_up_ne (show 23 ≠ 32 by decide)]
        exact ⟨fun z => ⟨hn9, z⟩, fun z => z.2⟩
      · have hn9 : n = 9 := (nI_eq (by omega) (by decide)).mp (show nI n = nI 9 from h7)
        refine am_run_k 2 ?_
        refine s115 there w1 0 c1 f1 ft (fun b hb => ?_)
        rw [b_0]
        exact ⟨(fun z => by cases z), fun z => absurd z.1 (by omega)⟩
    have s58 : ∀ (there : Int32) (u v : Option Value), (∀ b, b < 32 → (bt there b = true ↔ tkB g (nI n) = true ∧ bt (am_sh (g 24 th)) b = true)) → am (d + 1) 110 58 [some (.ref 22), some (.int (nI q)), some (.int (nI th)), some (.int (nI n)), some (.int (g 31 (10 * q + n))), u, v] [.int there] LY g 0 0 none Q := by
      intro there u v ft
      refine am_run_k 8 (And.intro (fun h7 => ?_) (fun h7 => ?_))
      · have hn9 : n < 9 := by
          rcases Nat.lt_or_ge n 9 with e | e
          · exact e
          · exact absurd (show nI n = 9 by rw [show n = 9 by omega]; rfl) h7
        refine am_run_k 7 (And.intro (vpe (nI_1 n) (by omega)) ?_)
        rw [cle (nI_1 n) (by omega)]
        refine am_run_k 1 (am_cl ?_)
        refine m_around (fun r hr => ?_)
        refine am_run_k 2 (And.intro (vpn (by omega)) ?_)
        rw [ncl (by omega)]
        refine s93 there _ _ (fun b hb => ?_) ft
        rw [b_and, Bool.and_eq_true, hr b hb]
        exact ⟨fun z => ⟨z.1, Or.inr ⟨hn9, z.2⟩⟩, fun z => ⟨z.1, z.2.elim (fun w => absurd w.1 (by omega)) (fun w => w.2)⟩⟩
      · have hn9 : n = 9 := (nI_eq (by omega) (by decide)).mp (show nI n = nI 9 from h7)
        refine am_run_k 4 (And.intro (vpn (by omega)) ?_)
        rw [ncl (by omega)]
        refine s93 there _ _ (fun b hb => ?_) ft
        rw [b_and, Bool.and_eq_true, b_255, decide_eq_true_iff]
        exact ⟨fun z => ⟨z.1, Or.inl ⟨hn9, z.2⟩⟩, fun z => ⟨z.1, z.2.elim (fun w => w.2) (fun w => absurd w.1 (by omega))⟩⟩
    refine am_run_k 1 (And.intro (fun h9 => ?_) (fun h9 => ?_))
    · refine am_run_k 1 ?_
      refine s58 0 _ _ (fun b hb => ?_)
      rw [b_0, bi_f h9]
      simp
    · refine am_run_k 5 (And.intro (vpn hth) ?_)
      rw [ncl (by omega)]
      refine am_run_k 2 ?_
      refine s58 _ _ _ (fun b hb => ?_)
      rw [bi_t h9]
      simp only [true_and]
      rfl
theorem m_leadBack {q th : Nat} (hq : q < 6) (hth : th < 3) (h : ∀ g', o32 g g' → (∀ t, t < 10 → LB1 g' q th t) → Q none LY g') : am (d + 1) 110 0 [some (.ref 22), some (.int (nI q)), some (.int (nI th)), none, none, none, none] [] LY g 0 0 none Q := by
  refine am_run_k 5 (And.intro (vpe (n := 10) rfl (by decide)) ?_)
  refine am_run_k 5 (And.intro (vpe (n := 10) rfl (by decide)) ?_)
  refine am_run_k 2 ?_
  exact l_110_21 (g0 := g) hq hth h 10 _ _ _ _ _ (by omega) rfl (fun k h32 h33 => by rw [am_up_ne h33, am_up_ne h32]) (fun t h1 h2 => absurd h2 (by omega))
end MOE
