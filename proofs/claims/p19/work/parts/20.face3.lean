section FAE
variable {d : Nat} {L : am_L} {g : am_G} {bc bs : Nat} {sx : am_S} {Q : am_Q}
theorem ix5 {i k : Nat} : nI i + nI k * 5 = nI (i + k * 5) := by rw [nIm5]; exact nI_add _ _
theorem ix51 {i k : Nat} : nI i + nI k * 5 + 1 = nI (i + k * 5 + 1) := by rw [ix5]; exact nI_1 _
theorem ix52 {i k : Nat} : nI i + nI k * 5 + 2 = nI (i + k * 5 + 2) := by rw [ix5]; exact nIp2 _
theorem ix53 {i k : Nat} : nI i + nI k * 5 + 3 = nI (i + k * 5 + 3) := by rw [ix5]; exact nIp3 _
theorem ix54 {i k : Nat} : nI i + nI k * 5 + 4 = nI (i + k * 5 + 4) := by rw [ix5]; exact nIp4 _
def fdA (n : Int32) (f : Nat → Int32) (j : Nat) : Bool := fdB n (f j) (f (j + 1)) (f (j + 2)) (f (j + 3)) (f (j + 4))
theorem l_80_3_19 {i n : Nat} (hn : i + n * 5 ≤ 60) (h0 : (∃ k, k < n ∧ fdA (g 1 3) (g 19) (i + k * 5) = false) → Q (some (.int 0)) LY g) (h1 : (∀ k, k < n → fdA (g 1 3) (g 19) (i + k * 5) = true) → Q (some (.int 1)) LY g) : ∀ (m k : Nat) (x : Int32) (lz : Option Value), k + m = n → x = nI k → (∀ p, p < k → fdA (g 1 3) (g 19) (i + p * 5) = true) → am (d + 2) 80 3 [some (.ref 0), some (.ref 19), some (.int (nI i)), some (.int (nI n)), some (.int x), lz] [] LY g 0 0 none Q := by
  intro m
  induction m with
  | zero =>
    intro k x lz hk hx hp
    have hk : k = n := by omega
    subst hk; subst hx
    refine am_run_k 3 (And.intro (fun h6 => ?_) (fun hx => absurd ((nI_le (Nat.le_refl k) (by omega))) hx))
    refine am_run_k 2 (And.intro (Or.inr rfl) ?_)
    exact h1 hp
  | succ m ih =>
    intro k x lz hk hx hp
    subst hx
    refine am_run_k 3 (And.intro (fun hx => absurd hx ((nI_ge (by omega) (by omega)))) (fun h6 => ?_))
    refine am_run_k 11 (And.intro (vpe ix5 (by omega)) ?_)
    refine am_run_k 5 (And.intro (vpe ix51 (by omega)) ?_)
    refine am_run_k 5 (And.intro (vpe ix52 (by omega)) ?_)
    refine am_run_k 5 (And.intro (vpe ix53 (by omega)) ?_)
    refine am_run_k 5 (And.intro (vpe ix54 (by omega)) ?_)
    rw [cle ix5 (by omega), cle ix51 (by omega), cle ix52 (by omega), cle ix53 (by omega), cle ix54 (by omega)]
    refine am_run_k 1 (am_cl ?_)
    refine w_isFind ?_
    refine am_run_k 1 (And.intro (fun h7 => ?_) (fun h7 => ?_))
    · refine am_run_k 2 ?_
      refine ih (k + 1) _ _ (by omega) (nI_1 k) (fun p hpk => ?_)
      rcases Nat.lt_succ_iff_lt_or_eq.mp hpk with q | q
      · exact hp p q
      · subst q; exact bi_t h7
    · refine am_run_k 2 (And.intro (Or.inl rfl) ?_)
      exact h0 ⟨k, by omega, bi_f h7⟩
theorem w_areFinds_19 {i n : Nat} (hn : i + n * 5 ≤ 60) (h0 : (∃ k, k < n ∧ fdA (g 1 3) (g 19) (i + k * 5) = false) → Q (some (.int 0)) LY g) (h1 : (∀ k, k < n → fdA (g 1 3) (g 19) (i + k * 5) = true) → Q (some (.int 1)) LY g) : am (d + 2) 80 0 [some (.ref 0), some (.ref 19), some (.int (nI i)), some (.int (nI n)), none, none] [] LY g 0 0 none Q := by
  refine am_run_k 2 ?_
  exact l_80_3_19 hn h0 h1 n 0 0 _ (Nat.zero_add n) rfl (fun p hp => absurd hp (by omega))
theorem l_81_3_19 {i n c0 : Nat} {g0 : am_G} (hn : i + n * 5 ≤ 60) (hc : c0 + n ≤ 20) (hok : ∀ k, k < n → fdA (g0 1 3) (g0 19) (i + k * 5) = true) (h : ∀ g', VC g' → frC g0 g' → Q none LY g') : ∀ (m k : Nat) (x : Int32) (lz : Option Value) (g : am_G), k + m = n → x = nI k → VC g → g 5 1 = nI (c0 + k) → (∀ j, j ≠ 5 → j ≠ 6 → g j = g0 j) → am (d + 2) 81 3 [some (.ref 0), some (.ref 19), some (.int (nI i)), some (.int (nI n)), some (.int x), lz] [] LY g 0 0 none Q := by
  intro m
  induction m with
  | zero =>
    intro k x lz g hk hx v e51 he
    have hk : k = n := by omega
    subst hk; subst hx
    refine am_run_k 3 (And.intro (fun h6 => ?_) (fun hx => absurd ((nI_le (Nat.le_refl k) (by omega))) hx))
    refine am_run_k 1 ?_
    exact h g v (fun j hj => he j (by omega) (by omega))
  | succ m ih =>
    intro k x lz g hk hx v e51 he
    subst hx
    refine am_run_k 3 (And.intro (fun hx => absurd hx ((nI_ge (by omega) (by omega)))) (fun h6 => ?_))
    refine am_run_k 12 (And.intro (vpe ix5 (by omega)) ?_)
    refine am_run_k 5 (And.intro (vpe ix51 (by omega)) ?_)
    refine am_run_k 5 (And.intro (vpe ix52 (by omega)) ?_)
    refine am_run_k 5 (And.intro (vpe ix53 (by omega)) ?_)
    refine am_run_k 5 (And.intro (vpe ix54 (by omega)) ?_)
    rw [cle ix5 (by omega), cle ix51 (by omega), cle ix52 (by omega), cle ix53 (by omega), cle ix54 (by omega)]
    refine am_run_k 1 (am_cl ?_)
    refine w_add (n := c0 + k) (by omega) e51 ?_
    refine am_run_k 2 ?_
    obtain ⟨np, hn1, hn2, e13⟩ := id v.1
    have hf := hok k (by omega)
    rw [← he 1 (by decide) (by decide), e13, ← he 19 (by decide) (by decide)] at hf
    refine ih (k + 1) _ _ _ (by omega) (nI_1 k) (v.add (by omega) e51 (rowOK_of hn2 hf)) ?_ (fun j h5 h6 => ?_)
    · unfold am_add; rw [am_up_us]; rfl
    · rw [am_add_ne h5 h6]; exact he j h5 h6
theorem w_layFinds_19 {i n c0 : Nat} (hn : i + n * 5 ≤ 60) (hc : c0 + n ≤ 20) (v : VC g) (e51 : g 5 1 = nI c0) (hok : ∀ k, k < n → fdA (g 1 3) (g 19) (i + k * 5) = true) (h : ∀ g', VC g' → frC g g' → Q none LY g') : am (d + 2) 81 0 [some (.ref 0), some (.ref 19), some (.int (nI i)), some (.int (nI n)), none, none] [] LY g 0 0 none Q := by
  refine am_run_k 2 ?_
  exact l_81_3_19 (g0 := g) hn hc hok h n 0 0 _ g (Nat.zero_add n) rfl v e51 (fun j _ _ => rfl)
theorem l_80_3_21 {i n : Nat} (hn : i + n * 5 ≤ 60) (h0 : (∃ k, k < n ∧ fdA (g 1 3) (g 21) (i + k * 5) = false) → Q (some (.int 0)) LY g) (h1 : (∀ k, k < n → fdA (g 1 3) (g 21) (i + k * 5) = true) → Q (some (.int 1)) LY g) : ∀ (m k : Nat) (x : Int32) (lz : Option Value), k + m = n → x = nI k → (∀ p, p < k → fdA (g 1 3) (g 21) (i + p * 5) = true) → am (d + 2) 80 3 [some (.ref 0), some (.ref 21), some (.int (nI i)), some (.int (nI n)), some (.int x), lz] [] LY g 0 0 none Q := by
  intro m
  induction m with
  | zero =>
    intro k x lz hk hx hp
    have hk : k = n := by omega
    subst hk; subst hx
    refine am_run_k 3 (And.intro (fun h6 => ?_) (fun hx => absurd ((nI_le (Nat.le_refl k) (by omega))) hx))
    refine am_run_k 2 (And.intro (Or.inr rfl) ?_)
    exact h1 hp
  | succ m ih =>
    intro k x lz hk hx hp
    subst hx
    refine am_run_k 3 (And.intro (fun hx => absurd hx ((nI_ge (by omega) (by omega)))) (fun h6 => ?_))
    refine am_run_k 11 (And.intro (vpe ix5 (by omega)) ?_)
    refine am_run_k 5 (And.intro (vpe ix51 (by omega)) ?_)
    refine am_run_k 5 (And.intro (vpe ix52 (by omega)) ?_)
    refine am_run_k 5 (And.intro (vpe ix53 (by omega)) ?_)
    refine am_run_k 5 (And.intro (vpe ix54 (by omega)) ?_)
    rw [cle ix5 (by omega), cle ix51 (by omega), cle ix52 (by omega), cle ix53 (by omega), cle ix54 (by omega)]
    refine am_run_k 1 (am_cl ?_)
    refine w_isFind ?_
    refine am_run_k 1 (And.intro (fun h7 => ?_) (fun h7 => ?_))
    · refine am_run_k 2 ?_
      refine ih (k + 1) _ _ (by omega) (nI_1 k) (fun p hpk => ?_)
      rcases Nat.lt_succ_iff_lt_or_eq.mp hpk with q | q
      · exact hp p q
      · subst q; exact bi_t h7
    · refine am_run_k 2 (And.intro (Or.inl rfl) ?_)
      exact h0 ⟨k, by omega, bi_f h7⟩
theorem w_areFinds_21 {i n : Nat} (hn : i + n * 5 ≤ 60) (h0 : (∃ k, k < n ∧ fdA (g 1 3) (g 21) (i + k * 5) = false) → Q (some (.int 0)) LY g) (h1 : (∀ k, k < n → fdA (g 1 3) (g 21) (i + k * 5) = true) → Q (some (.int 1)) LY g) : am (d + 2) 80 0 [some (.ref 0), some (.ref 21), some (.int (nI i)), some (.int (nI n)), none, none] [] LY g 0 0 none Q := by
  refine am_run_k 2 ?_
  exact l_80_3_21 hn h0 h1 n 0 0 _ (Nat.zero_add n) rfl (fun p hp => absurd hp (by omega))
theorem l_81_3_21 {i n c0 : Nat} {g0 : am_G} (hn : i + n * 5 ≤ 60) (hc : c0 + n ≤ 20) (hok : ∀ k, k < n → fdA (g0 1 3) (g0 21) (i + k * 5) = true) (h : ∀ g', VC g' → frC g0 g' → Q none LY g') : ∀ (m k : Nat) (x : Int32) (lz : Option Value) (g : am_G), k + m = n → x = nI k → VC g → g 5 1 = nI (c0 + k) → (∀ j, j ≠ 5 → j ≠ 6 → g j = g0 j) → am (d + 2) 81 3 [some (.ref 0), some (.ref 21), some (.int (nI i)), some (.int (nI n)), some (.int x), lz] [] LY g 0 0 none Q := by
  intro m
  induction m with
  | zero =>
    intro k x lz g hk hx v e51 he
    have hk : k = n := by omega
    subst hk; subst hx
    refine am_run_k 3 (And.intro (fun h6 => ?_) (fun hx => absurd ((nI_le (Nat.le_refl k) (by omega))) hx))
    refine am_run_k 1 ?_
    exact h g v (fun j hj => he j (by omega) (by omega))
  | succ m ih =>
    intro k x lz g hk hx v e51 he
    subst hx
    refine am_run_k 3 (And.intro (fun hx => absurd hx ((nI_ge (by omega) (by omega)))) (fun h6 => ?_))
    refine am_run_k 12 (And.intro (vpe ix5 (by omega)) ?_)
    refine am_run_k 5 (And.intro (vpe ix51 (by omega)) ?_)
    refine am_run_k 5 (And.intro (vpe ix52 (by omega)) ?_)
    refine am_run_k 5 (And.intro (vpe ix53 (by omega)) ?_)
    refine am_run_k 5 (And.intro (vpe ix54 (by omega)) ?_)
    rw [cle ix5 (by omega), cle ix51 (by omega), cle ix52 (by omega), cle ix53 (by omega), cle ix54 (by omega)]
    refine am_run_k 1 (am_cl ?_)
    refine w_add (n := c0 + k) (by omega) e51 ?_
    refine am_run_k 2 ?_
    obtain ⟨np, hn1, hn2, e13⟩ := id v.1
    have hf := hok k (by omega)
    rw [← he 1 (by decide) (by decide), e13, ← he 21 (by decide) (by decide)] at hf
    refine ih (k + 1) _ _ _ (by omega) (nI_1 k) (v.add (by omega) e51 (rowOK_of hn2 hf)) ?_ (fun j h5 h6 => ?_)
    · unfold am_add; rw [am_up_us]; rfl
    · rw [am_add_ne h5 h6]; exact he j h5 h6
theorem w_layFinds_21 {i n c0 : Nat} (hn : i + n * 5 ≤ 60) (hc : c0 + n ≤ 20) (v : VC g) (e51 : g 5 1 = nI c0) (hok : ∀ k, k < n → fdA (g 1 3) (g 21) (i + k * 5) = true) (h : ∀ g', VC g' → frC g g' → Q none LY g') : am (d + 2) 81 0 [some (.ref 0), some (.ref 21), some (.int (nI i)), some (.int (nI n)), none, none] [] LY g 0 0 none Q := by
  refine am_run_k 2 ?_
  exact l_81_3_21 (g0 := g) hn hc hok h n 0 0 _ g (Nat.zero_add n) rfl v e51 (fun j _ _ => rfl)
theorem nI_sub_lt {m n i : Nat} {x : Int32} (hm : m < 2 ^ 30) (hn : n < 2 ^ 30) (hx : x = nI i) (hi : i < 2 ^ 31) (h : ¬ nI m - nI n < x) : i + n ≤ m := by
  subst hx
  rw [Int32.lt_iff_toInt_lt, pk_sub_toInt hm hn, nI_toInt hi] at h
  omega
theorem l_56_28 {a : Int32} {n s : Nat} {b c : Int32} (hn : n ≤ 12) (I : IC g) (h : ∀ r g', IC g' → frC g g' → Q (some (.int r)) LY g') (sh : s = 18 ∧ a = 0 ∨ s = 20 ∧ a = 1) : am (d + 3) 56 28 [some (.ref 0), some (.int a), some (.int b), some (.int c), some (.int (nI n)), none, none] [] LY g 0 0 none Q := by
  obtain ⟨cc, hc, e51, hr, hrest⟩ := id I.1.2.2
  have go18 : am (d + 3) 56 36 [some (.ref 0), some (.int 0), some (.int b), some (.int c), some (.int (nI n)), some (.ref 18), none] [] LY g 0 0 none Q := by
    obtain ⟨ml, hml, el⟩ := I.2.1
    refine am_run_k 3 (am_cl ?_)
    refine w_takenAs0 ?_
    refine am_run_k 3 (And.intro (fun h1 => ?_) (fun h1 => ?_))
    · refine am_run_k 2 (And.intro (fun h2 => ?_) (fun h2 => ?_))
      · refine am_run_k 2 ?_
        exact h _ g I frC.rf
      · obtain ⟨i, hi, ei⟩ := nI_of (fa_nlt.mpr (fa_nlt.mp h2))
        subst ei
        refine am_run_k 8 (And.intro (fun h3 => ?_) (fun h3 => ?_))
        · refine am_run_k 6 (am_cl ?_)
          have e5 : nI n * 5 = nI (n * 5) := nIm5 n
          have hroom : i + n * 5 ≤ ml := by
            refine nI_sub_lt (m := ml) (n := n * 5) (by omega) (by omega) rfl hi ?_
            rw [← el, ← e5]
            exact fa_nlt.mpr h3
          refine w_areFinds_19 (i := i) (n := n) (by omega) (fun hz => ?_) (fun hz => ?_)
          · refine am_run_k 1 (And.intro (fun hx => absurd hx ((by decide))) (fun h4 => ?_))
            refine am_run_k 2 ?_
            exact h _ g I frC.rf
          · refine am_run_k 1 (And.intro (fun h4 => ?_) (fun hx => absurd hx ((by decide))))
            refine am_run_k 8 (And.intro (fun h5 => ?_) (fun h5 => ?_))
            · refine am_run_k 6 (am_cl ?_)
              have h5 : g 5 1 + nI n ≤ 20 := h5
              rw [e51, nI_add] at h5
              have hcn : cc + n ≤ 20 := (nI_leI (by omega) (by decide)).mp h5
              refine w_layFinds_19 (i := i) (n := n) (c0 := cc) (by omega) hcn I.1 e51 hz (fun g1 v1 f1 => ?_)
              refine am_run_k 5 ?_
              exact h _ g1 ⟨v1, I.2.fr f1⟩ f1
            · refine am_run_k 2 ?_
              exact h _ g I frC.rf
        · refine am_run_k 2 ?_
          exact h _ g I frC.rf
    · refine am_run_k 2 ?_
      exact h _ g I frC.rf
  have go20 : am (d + 3) 56 36 [some (.ref 0), some (.int 1), some (.int b), some (.int c), some (.int (nI n)), some (.ref 20), none] [] LY g 0 0 none Q := by
    obtain ⟨ml, hml, el⟩ := I.2.2
    refine am_run_k 3 (am_cl ?_)
    refine w_takenAs1 ?_
    refine am_run_k 3 (And.intro (fun h1 => ?_) (fun h1 => ?_))
    · refine am_run_k 2 (And.intro (fun h2 => ?_) (fun h2 => ?_))
      · refine am_run_k 2 ?_
        exact h _ g I frC.rf
      · obtain ⟨i, hi, ei⟩ := nI_of (fa_nlt.mpr (fa_nlt.mp h2))
        subst ei
        refine am_run_k 8 (And.intro (fun h3 => ?_) (fun h3 => ?_))
        · refine am_run_k 6 (am_cl ?_)
          have e5 : nI n * 5 = nI (n * 5) := nIm5 n
          have hroom : i + n * 5 ≤ ml := by
            refine nI_sub_lt (m := ml) (n := n * 5) (by omega) (by omega) rfl hi ?_
            rw [← el, ← e5]
            exact fa_nlt.mpr h3
          refine w_areFinds_21 (i := i) (n := n) (by omega) (fun hz => ?_) (fun hz => ?_)
          · refine am_run_k 1 (And.intro (fun hx => absurd hx ((by decide))) (fun h4 => ?_))
            refine am_run_k 2 ?_
            exact h _ g I frC.rf
          · refine am_run_k 1 (And.intro (fun h4 => ?_) (fun hx => absurd hx ((by decide))))
            refine am_run_k 8 (And.intro (fun h5 => ?_) (fun h5 => ?_))
            · refine am_run_k 6 (am_cl ?_)
              have h5 : g 5 1 + nI n ≤ 20 := h5
              rw [e51, nI_add] at h5
              have hcn : cc + n ≤ 20 := (nI_leI (by omega) (by decide)).mp h5
              refine w_layFinds_21 (i := i) (n := n) (c0 := cc) (by omega) hcn I.1 e51 hz (fun g1 v1 f1 => ?_)
              refine am_run_k 5 ?_
              exact h _ g1 ⟨v1, I.2.fr f1⟩ f1
            · refine am_run_k 2 ?_
              exact h _ g I frC.rf
        · refine am_run_k 2 ?_
          exact h _ g I frC.rf
    · refine am_run_k 2 ?_
      exact h _ g I frC.rf
  rcases sh with ⟨e1, e2⟩ | ⟨e1, e2⟩
  · subst e1; subst e2
    refine am_run_k 4 (And.intro (vpe (n := 0) rfl (by decide)) ?_)
    refine am_run_k 1 ?_
    exact go18
  · subst e1; subst e2
    refine am_run_k 4 (And.intro (vpe (n := 1) rfl (by decide)) ?_)
    refine am_run_k 1 ?_
    exact go20
theorem f_finds {a b c n : Int32} (I : IC g) (h : ∀ r g', IC g' → frC g g' → Q (some (.int r)) LY g') : am (d + 3) 56 0 [some (.ref 0), some (.int a), some (.int b), some (.int c), some (.int n), none, none] [] LY g 0 0 none Q := by
  refine am_run_k 2 (am_cl ?_)
  refine w_isSheet ?_
  refine am_run_k 1 (And.intro (fun h1 => ?_) (fun h1 => ?_))
  · refine am_run_k 2 ?_
    exact h _ g I frC.rf
  · obtain ⟨j, hj, ea⟩ := am_ir_nI (k := 2) (by decide) (bi_t h1)
    refine am_run_k 2 (am_cl ?_)
    refine w_isLane ?_
    refine am_run_k 1 (And.intro (fun h2 => ?_) (fun h2 => ?_))
    · refine am_run_k 2 ?_
      exact h _ g I frC.rf
    · refine am_run_k 2 (And.intro (fun h3 => ?_) (fun h3 => ?_))
      · refine am_run_k 2 ?_
        exact h _ g I frC.rf
      · refine am_run_k 3 (And.intro (fun h4 => ?_) (fun h4 => ?_))
        · obtain ⟨m, hm1, hm2, en⟩ := nI_rng (a := 0) (b := 12) (fa_nlt.mp h3) h4
          subst en
          refine l_56_28 (s := if j = 0 then 18 else 20) hm2 I h ?_
          rcases (show j = 0 ∨ j = 1 by omega) with q | q
          · subst q; exact Or.inl ⟨rfl, ea⟩
          · subst q; exact Or.inr ⟨rfl, ea⟩
        · refine am_run_k 2 ?_
          exact h _ g I frC.rf
theorem f_denied {a : Int32} (I : IC g) (h : ∀ r g', IC g' → frC g g' → Q (some (.int r)) LY g') : am (d + 4) 60 0 [some (.ref 0), some (.int a)] [] LY g 0 0 none Q := by
  obtain ⟨c, hc, e51, hr, hrest⟩ := id I.1.2.2
  refine am_run_k 5 (am_cl ?_)
  refine w_holds ?_
  refine am_run_k 1 (And.intro (fun h1 => ?_) (fun h1 => ?_))
  · have hb := bi_t h1
    rw [e51] at hb
    obtain ⟨fd, hfd, ea⟩ := am_ir_nI (by omega) hb
    subst ea
    refine am_run_k 5 (am_cl ?_)
    refine w_kind (k := fd) (by omega) ?_
    refine am_run_k 2 (And.intro (fun h2 => ?_) (fun h2 => ?_))
    · refine am_run_k 6 (am_cl ?_)
      refine w_deny hfd hc h2 hr I.1 (fun r g1 hr1 hg1 => ?_)
      refine am_run_k 1 (And.intro (fun h3 => ?_) (fun h3 => ?_))
      · refine am_run_k 2 ?_
        exact h _ g1 (I.sc hg1) (frC.sc hg1)
      · refine am_run_k 3 ?_
        exact h _ g1 (I.sc hg1) (frC.sc hg1)
    · refine am_run_k 2 ?_
      exact h _ g I frC.rf
  · refine am_run_k 2 ?_
    exact h _ g I frC.rf
theorem f_suspects (I : IC g) (h : ∀ r g', scC g g' → Q (some (.int r)) LY g') : am (d + 5) 61 0 [some (.ref 0)] [] LY g 0 0 none Q := by
  refine am_run_k 11 (am_cl ?_)
  refine w_everyone ?_
  refine am_run_k 1 (am_cl ?_)
  refine w_suspectsOf I.1 (fun r g1 hg1 => ?_)
  refine am_run_k 1 ?_
  exact h r g1 hg1
theorem person {n : Nat} {a : Int32} (e13 : g 1 3 = nI n) (hn : n ≤ 6) (h : am_ir a (g 1 3) = true) : ∃ q, q < 6 ∧ a = nI q := by
  rw [e13] at h
  obtain ⟨q, hq, e⟩ := am_ir_nI (by omega) h
  exact ⟨q, by omega, e⟩
theorem f_with {a : Int32} (I : IC g) (h : ∀ r g', scC g g' → Q (some (.int r)) LY g') : am (d + 4) 62 0 [some (.ref 0), some (.int a)] [] LY g 0 0 none Q := by
  obtain ⟨n, hn1, hn2, e13⟩ := id I.1.1
  refine am_run_k 4 (am_cl ?_)
  refine w_isPerson ?_
  refine am_run_k 1 (And.intro (fun h1 => ?_) (fun h1 => ?_))
  · obtain ⟨q, hq, ea⟩ := person e13 hn2 (bi_t h1)
    subst ea
    refine am_run_k 10 (am_cl ?_)
    refine w_thingsOf hq I.1 (fun r g1 hg1 => ?_)
    refine am_run_k 1 ?_
    exact h r g1 hg1
  · refine am_run_k 2 ?_
    exact h _ g scC.rf
theorem f_way {a b c : Int32} (I : IC g) (h : ∀ r g', scC g g' → Q (some (.int r)) LY g') : am (d + 4) 63 0 [some (.ref 0), some (.int a), some (.int b), some (.int c)] [] LY g 0 0 none Q := by
  obtain ⟨n, hn1, hn2, e13⟩ := id I.1.1
  refine am_run_k 4 (am_cl ?_)
  refine w_isPerson ?_
  refine am_run_k 1 (And.intro (fun h1 => ?_) (fun h1 => ?_))
  · refine am_run_k 2 ?_
    exact h _ g scC.rf
  · obtain ⟨q, hq, ea⟩ := person e13 hn2 (bi_t h1)
    subst ea
    refine am_run_k 2 (am_cl ?_)
    refine w_isThing ?_
    refine am_run_k 1 (And.intro (fun h2 => ?_) (fun h2 => ?_))
    · refine am_run_k 2 ?_
      exact h _ g scC.rf
    · obtain ⟨w, hw, eb⟩ := am_ir_nI (k := 3) (by decide) (bi_t h2)
      subst eb
      refine am_run_k 2 (am_cl ?_)
      refine w_isTick ?_
      refine am_run_k 1 (And.intro (fun h3 => ?_) (fun h3 => ?_))
      · obtain ⟨t, ht, ec⟩ := am_ir_nI (k := 10) (by decide) (bi_t h3)
        subst ec
        refine am_run_k 10 (am_cl ?_)
        refine w_thingsOf hq I.1 (fun r g1 hg1 => ?_)
        refine am_run_k 2 (am_cl ?_)
        refine w_has ?_
        refine am_run_k 1 (And.intro (fun h4 => ?_) (fun h4 => ?_))
        · refine am_run_k 8 (am_cl ?_)
          refine w_placeAt hq (vpn hw) ht (fun r2 g2 hg2 => ?_)
          refine am_run_k 1 ?_
          exact h r2 g2 (hg1.tr hg2)
        · refine am_run_k 2 ?_
          exact h _ g1 hg1
      · refine am_run_k 2 ?_
        exact h _ g scC.rf
theorem f_doer (I : IC g) (h : ∀ r g', scC g g' → Q (some (.int r)) LY g') : am (d + 6) 64 0 [some (.ref 0), none] [] LY g 0 0 none Q := by
  refine am_run_k 2 (am_cl ?_)
  refine f_suspects I (fun r g1 hg1 => ?_)
  refine am_run_k 3 (am_cl ?_)
  refine w_bitCount ?_
  refine am_run_k 2 (And.intro (fun h1 => ?_) (fun h1 => ?_))
  · refine am_run_k 2 ?_
    exact h _ g1 hg1
  · refine am_run_k 2 (am_cl ?_)
    refine w_first ?_
    refine am_run_k 2 ?_
    exact h _ g1 hg1
theorem l_65_14 {c : Nat} {be : Int32} {g0 : am_G} (hc : c ≤ 20) (e51 : g0 5 1 = nI c) (I : IC g0) (h : ∀ r g', scC g0 g' → Q (some (.int r)) LY g') : ∀ (m k : Nat) (x s1 s2 : Int32) (lz : Option Value) (g : am_G), k + m = c → x = nI k → scC g0 g → am (d + 6) 65 14 [some (.ref 0), some (.int be), some (.int s1), some (.int s2), some (.int x), lz] [] LY g 0 0 none Q := by
  intro m
  induction m with
  | zero =>
    intro k x s1 s2 lz g hk hx hg
    have hk : k = c := by omega
    subst hk; subst hx
    have f51 : g 5 1 = nI k := by rw [hg 5 (by omega)]; exact e51
    refine am_run_k 6 (And.intro (fun h6 => ?_) (fun hx => absurd ((show g 5 1 ≤ nI k by rw [f51]; exact nI_le (Nat.le_refl k) (by omega))) hx))
    refine am_run_k 2 ?_
    exact h _ g hg
  | succ m ih =>
    intro k x s1 s2 lz g hk hx hg
    subst hx
    have f51 : g 5 1 = nI c := by rw [hg 5 (by omega)]; exact e51
    refine am_run_k 6 (And.intro (fun hx => absurd hx ((show ¬ g 5 1 ≤ nI k by rw [f51]; exact nI_ge (by omega) (by omega)))) (fun h6 => ?_))
    have nxt : ∀ (s1 s2 : Int32) (lz : Option Value) (g1 : am_G), scC g0 g1 → am (d + 6) 65 94 [some (.ref 0), some (.int be), some (.int s1), some (.int s2), some (.int (nI k)), lz] [] LY g1 0 0 none Q := by
      intro s1 s2 lz g1 hg1
      refine am_run_k 2 ?_
      exact ih (k + 1) _ _ _ _ g1 (by omega) (nI_1 k) hg1
    refine am_run_k 5 (am_cl ?_)
    refine w_isFound ?_
    refine am_run_k 1 (And.intro (fun h7 => ?_) (fun h7 => ?_))
    · exact nxt _ _ _ g hg
    · refine am_run_k 14 (am_cl ?_)
      refine w_suspectsOf (I.sc hg).1 (fun r g1 hg1 => ?_)
      refine am_run_k 1 (am_cl ?_)
      refine w_bitCount ?_
      refine am_run_k 4 (And.intro (fun h8 => ?_) (fun h8 => ?_))
      · exact nxt _ _ _ g1 (hg.tr hg1)
      · refine am_run_k 3 (And.intro (fun h9 => ?_) (fun h9 => ?_))
        · exact nxt _ _ _ g1 (hg.tr hg1)
        · refine am_run_k 4 ?_
          exact nxt _ _ _ g1 (hg.tr hg1)
theorem f_next (I : IC g) (h : ∀ r g', scC g g' → Q (some (.int r)) LY g') : am (d + 6) 65 0 [some (.ref 0), none, none, none, none, none] [] LY g 0 0 none Q := by
  obtain ⟨c, hc, e51, -⟩ := id I.1.2.2
  refine am_run_k 2 (am_cl ?_)
  refine f_suspects I (fun r g1 hg1 => ?_)
  refine am_run_k 7 ?_
  exact l_65_14 (g0 := g) hc e51 I h c 0 0 _ _ _ g1 (Nat.zero_add c) rfl hg1
theorem f_least (I : IC g) (h : ∀ r g', scC g g' → Q (some (.int r)) LY g') : am (d + 26) 67 0 [some (.ref 0)] [] LY g 0 0 none Q := by
  obtain ⟨c, hc, e51, -⟩ := id I.1.2.2
  refine am_run_k 6 (And.intro (fun h1 => ?_) (fun h1 => ?_))
  · refine am_run_k 17 (am_cl ?_)
    refine w_everyone ?_
    refine am_run_k 1 (am_cl ?_)
    refine w_suspectsOf I.1 (fun r g1 hg1 => ?_)
    refine am_run_k 2 (am_cl ?_)
    have hdep : d + 25 = (d + 20 - c) + c + 5 := by omega
    show am (d + 25) 82 0 [some (.ref 1), some (.ref 9), some (.int (g 5 1)), some (.int 0), some (.int r), some (.int (-4)), none, none, none, none] [] LY g1 0 0 none _
    rw [hdep, e51]
    refine w_search c (by omega) (I.1.sc hg1) (fun r2 g2 hg2 => ?_)
    refine am_run_k 1 ?_
    exact h r2 g2 (hg1.tr hg2)
  · refine am_run_k 2 ?_
    exact h _ g scC.rf
theorem f_fewest (I : IC g) (h : ∀ r g', scC g g' → Q (some (.int r)) LY g') : am (d + 27) 66 0 [some (.ref 0), none] [] LY g 0 0 none Q := by
  refine am_run_k 2 (am_cl ?_)
  refine f_least I (fun r g1 hg1 => ?_)
  refine am_run_k 3 (And.intro (fun h1 => ?_) (fun h1 => ?_))
  · refine am_run_k 2 (am_cl ?_)
    refine w_bitCount ?_
    refine am_run_k 1 ?_
    exact h _ g1 hg1
  · refine am_run_k 3 ?_
    exact h _ g1 hg1
theorem l_68_36 {c f q : Nat} {g0 : am_G} (hc : c ≤ 20) (hf : f ≤ 20) (hq : q < 6) (e54 : g0 5 4 = nI f) (ho : ordC g0 c f) (I : IC g0) (h : ∀ r g', scC g0 g' → Q (some (.int r)) LY g') : ∀ (m k : Nat) (x s1 : Int32) (lz : Option Value) (g : am_G), k + m = f → x = nI k → scC g0 g → am (d + 4) 68 36 [some (.ref 0), some (.int (nI q)), some (.int s1), some (.int x), lz] [] LY g 0 0 none Q := by
  intro m
  induction m with
  | zero =>
    intro k x s1 lz g hk hx hg
    have hk : k = f := by omega
    subst hk; subst hx
    have f54 : g 5 4 = nI k := by rw [hg 5 (by omega)]; exact e54
    refine am_run_k 6 (And.intro (fun h6 => ?_) (fun hx => absurd ((show g 5 4 ≤ nI k by rw [f54]; exact nI_le (Nat.le_refl k) (by omega))) hx))
    refine am_run_k 2 ?_
    exact h _ g hg
  | succ m ih =>
    intro k x s1 lz g hk hx hg
    subst hx
    have f54 : g 5 4 = nI f := by rw [hg 5 (by omega)]; exact e54
    refine am_run_k 6 (And.intro (fun hx => absurd hx ((show ¬ g 5 4 ≤ nI k by rw [f54]; exact nI_ge (by omega) (by omega)))) (fun h6 => ?_))
    refine am_run_k 6 (And.intro (vpn (by omega)) ?_)
    refine am_run_k 14 (am_cl ?_)
    refine w_thingsOf hq (I.sc hg).1 (fun r g1 hg1 => ?_)
    refine am_run_k 1 (And.intro (fun h7 => ?_) (fun h7 => ?_))
    · refine am_run_k 2 ?_
      exact ih (k + 1) _ _ _ g1 (by omega) (nI_1 k) (hg.tr hg1)
    · refine am_run_k 2 ?_
      exact h _ g1 (hg.tr hg1)
theorem f_claim {a : Int32} (I : IC g) (h : ∀ r g', scC g g' → Q (some (.int r)) LY g') : am (d + 4) 68 0 [some (.ref 0), some (.int a), none, none, none] [] LY g 0 0 none Q := by
  obtain ⟨n, hn1, hn2, e13⟩ := id I.1.1
  obtain ⟨c, hc, e51, hr, f, hf, e54, ho⟩ := id I.1.2.2
  refine am_run_k 4 (am_cl ?_)
  refine w_isPerson ?_
  refine am_run_k 1 (And.intro (fun h1 => ?_) (fun h1 => ?_))
  · obtain ⟨q, hq, ea⟩ := person e13 hn2 (bi_t h1)
    subst ea
    refine am_run_k 7 (am_cl ?_)
    refine w_thingsOf hq I.1 (fun r g1 hg1 => ?_)
    refine am_run_k 1 (And.intro (fun h2 => ?_) (fun h2 => ?_))
    · refine am_run_k 4 ?_
      exact l_68_36 (g0 := g) hc hf hq e54 ho I h f 0 0 _ _ g1 (Nat.zero_add f) rfl hg1
    · refine am_run_k 2 ?_
      exact h _ g1 hg1
  · refine am_run_k 2 ?_
    exact h _ g scC.rf
/-- the sheets, as the class holds them: a row's lane and length -/
def shA (n a b : Int32) : Int32 := bif am_ir a 2 && (am_ir b 2 && decide (n ≤ 60)) then (if n < 0 then -14 else n) else -1
theorem f_sheet {a b n : Int32} (I : IC g) (h0 : ∀ r, r = shA n a b → r < 0 → Q (some (.int r)) LY g) (h1 : ∀ (m j l : Nat) (g' : am_G), m ≤ 60 → n = nI m → j < 2 → a = nI j → l < 2 → b = nI l → shA n a b = n → IC g' → (∀ k, k ≠ 18 + 2 * j → k ≠ 19 + 2 * j → g' k = g k) → g' (18 + 2 * j) 1 = b → g' (18 + 2 * j) 2 = n → (∀ p, p < m → g' (19 + 2 * j) p = 0) → (∀ p, m ≤ p → g' (19 + 2 * j) p = g (19 + 2 * j) p) → Q (some (.int n)) LY g') : am (d + 2) 70 0 [some (.ref 0), some (.int a), some (.int b), some (.int n)] [] LY g 0 0 none Q := by
  refine am_run_k 2 (am_cl ?_)
  refine w_isSheet ?_
  refine am_run_k 1 (And.intro (fun e1 => ?_) (fun e1 => ?_))
  · refine am_run_k 2 ?_
    refine h0 _ ?_ (by decide)
    unfold shA; rw [bi_f e1]; rfl
  · refine am_run_k 2 (am_cl ?_)
    refine w_isLane ?_
    refine am_run_k 1 (And.intro (fun e2 => ?_) (fun e2 => ?_))
    · refine am_run_k 2 ?_
      refine h0 _ ?_ (by decide)
      unfold shA; rw [bi_t e1, bi_f e2]; rfl
    · refine am_run_k 3 (And.intro (fun e3 => ?_) (fun e3 => ?_))
      · refine am_run_k 2 (And.intro (fun e4 => ?_) (fun e4 => ?_))
        · obtain ⟨m, hm1, hm2, en⟩ := nI_rng (a := 0) (b := 60) e4 e3
          have hs : shA n a b = n := by
            unfold shA; rw [bi_t e1, bi_t e2, decide_eq_true e3, if_neg (fa_nlt.mpr e4)]; rfl
          obtain ⟨l, hl, eb⟩ := am_ir_nI (k := 2) (by decide) (bi_t e2)
          obtain ⟨j, hj, ea⟩ := am_ir_nI (k := 2) (by decide) (bi_t e1)
          have en2 := en
          rcases (show j = 0 ∨ j = 1 by omega) with q | q
          · subst q
            subst ea
            refine am_run_k 4 (And.intro (vpe (n := 0) rfl (by decide)) ?_)
            refine am_run_k 3 (am_cl ?_)
            rw [en2]
            refine w_renew0 (m := m) hm2 (fun g1 q1 q2 q3 q4 q5 => ?_)
            refine am_run_k 2 ?_
            have hh := h1 m 0 l g1 hm2 en hj rfl hl eb hs ⟨I.1.of (q1 1 (by decide) (by decide)) (q1 5 (by decide) (by decide)) (q1 6 (by decide) (by decide)) (q1 7 (by decide) (by decide)), ⟨m, hm2, q3⟩, by rw [q1 20 (by decide) (by decide)]; exact I.2.2⟩ q1 q2 (by rw [en]; exact q3) q4 q5
            rw [en2] at hh
            exact hh
          · subst q
            subst ea
            refine am_run_k 4 (And.intro (vpe (n := 1) rfl (by decide)) ?_)
            refine am_run_k 3 (am_cl ?_)
            rw [en2]
            refine w_renew1 (m := m) hm2 (fun g1 q1 q2 q3 q4 q5 => ?_)
            refine am_run_k 2 ?_
            have hh := h1 m 1 l g1 hm2 en hj rfl hl eb hs ⟨I.1.of (q1 1 (by decide) (by decide)) (q1 5 (by decide) (by decide)) (q1 6 (by decide) (by decide)) (q1 7 (by decide) (by decide)), by rw [q1 18 (by decide) (by decide)]; exact I.2.1, ⟨m, hm2, q3⟩⟩ q1 q2 (by rw [en]; exact q3) q4 q5
            rw [en2] at hh
            exact hh
        · refine am_run_k 2 ?_
          refine h0 _ ?_ (by decide)
          unfold shA; rw [bi_t e1, bi_t e2, decide_eq_true e3, if_pos (fa_nle.mp e4)]; rfl
      · refine am_run_k 2 ?_
        refine h0 _ ?_ (by decide)
        unfold shA; rw [bi_t e1, bi_t e2, decide_eq_false e3]; rfl
end FAE
