section FAF
variable {d : Nat} {L : am_L} {g : am_G} {bc bs : Nat} {sx : am_S} {Q : am_Q}
/-- drop's answer by a sheet's lane and length -/
def drA (a ln sz : Int32) : Int32 := bif am_ir a 2 then (if ln = -1 then -11 else sz) else -1
theorem f_drop {a : Int32} (I : IC g) (h0 : am_ir a 2 = false → Q (some (.int (-1))) LY g) (h1 : ∀ j, j < 2 → a = nI j → g (18 + 2 * j) 1 = -1 → Q (some (.int (-11))) LY g) (h2 : ∀ (j : Nat) (g' : am_G), j < 2 → a = nI j → ¬ g (18 + 2 * j) 1 = -1 → IC g' → (∀ k, k ≠ 18 + 2 * j → g' k = g k) → g' (18 + 2 * j) 1 = -1 → g' (18 + 2 * j) 2 = g (18 + 2 * j) 2 → Q (some (.int (g (18 + 2 * j) 2))) LY g') : am (d + 2) 71 0 [some (.ref 0), some (.int a), none] [] LY g 0 0 none Q := by
  refine am_run_k 2 (am_cl ?_)
  refine w_isSheet ?_
  refine am_run_k 1 (And.intro (fun e1 => ?_) (fun e1 => ?_))
  · obtain ⟨j, hj, ea⟩ := am_ir_nI (k := 2) (by decide) (bi_t e1)
    rcases (show j = 0 ∨ j = 1 by omega) with q | q
    · subst q; subst ea
      refine am_run_k 4 (And.intro (vpe (n := 0) rfl (by decide)) ?_)
      refine am_run_k 5 (And.intro (fun e2 => ?_) (fun e2 => ?_))
      · refine am_run_k 6 ?_
        refine h2 0 _ hj rfl e2 ⟨I.1.of (am_up_ne (by decide)) (am_up_ne (by decide)) (am_up_ne (by decide)) (am_up_ne (by decide)), ?_, by rw [am_up_ne (by decide)]; exact I.2.2⟩ (fun k hk => am_up_ne hk) am_up_us (am_up_un (by decide))
        rw [am_up_un (by decide)]; exact I.2.1
      · refine am_run_k 2 ?_
        exact h1 0 hj rfl e2
    · subst q; subst ea
      refine am_run_k 4 (And.intro (vpe (n := 1) rfl (by decide)) ?_)
      refine am_run_k 5 (And.intro (fun e2 => ?_) (fun e2 => ?_))
      · refine am_run_k 6 ?_
        refine h2 1 _ hj rfl e2 ⟨I.1.of (am_up_ne (by decide)) (am_up_ne (by decide)) (am_up_ne (by decide)) (am_up_ne (by decide)), by rw [am_up_ne (by decide)]; exact I.2.1, ?_⟩ (fun k hk => am_up_ne hk) am_up_us (am_up_un (by decide))
        rw [am_up_un (by decide)]; exact I.2.2
      · refine am_run_k 2 ?_
        exact h1 1 hj rfl e2
  · refine am_run_k 2 ?_
    exact h0 (bi_f e1)
def tkA (ln l : Int32) : Int32 := if ln = -1 then -11 else if ln = l then 0 else -12
/-- item's answer -/
def itA (b i ln sz : Int32) : Int32 := if tkA ln b < 0 then tkA ln b else if i < 0 then -13 else if i < sz then 1 else -13
theorem tkA_cases (ln l : Int32) : tkA ln l < 0 ∨ tkA ln l = 0 := by
  unfold tkA
  split
  · exact Or.inl (by decide)
  · split
    · exact Or.inr rfl
    · exact Or.inl (by decide)
theorem l_72_24_0 {b i v : Int32} (hb : am_ir b 2 = true) (I : IC g) (h : ∀ g', IC g' → (∀ k, k ≠ 19 → g' k = g k) → Q (some (.int (itA b i (g 18 1) (g 18 2)))) LY g') : am (d + 2) 72 24 [some (.ref 0), some (.int 0), some (.int b), some (.int i), some (.int v), some (.ref 18), none] [] LY g 0 0 none Q := by
  obtain ⟨ml, hml, el⟩ := I.2.1
  refine am_run_k 3 (am_cl ?_)
  refine w_takenAs0 ?_
  refine am_run_k 3 (And.intro (fun h1 => ?_) (fun h1 => ?_))
  · have h1' : ¬ tkA (g 18 1) b < 0 := fa_nlt.mpr h1
    refine am_run_k 2 (And.intro (fun h2 => ?_) (fun h2 => ?_))
    · refine am_run_k 2 ?_
      have hh := h g I (fun _ _ => rfl)
      unfold itA at hh
      rw [if_neg h1', if_pos h2] at hh
      exact hh
    · refine am_run_k 4 (And.intro (fun h3 => ?_) (fun h3 => ?_))
      · obtain ⟨j, hj, ei⟩ := nI_of h2
        have hlt : j < ml := by
          rw [el, ei] at h3
          exact (nI_ltI hj (by omega)).mp h3
        have fin : ∀ (u : Int32), am (d + 2) 72 74 [some (.ref 0), some (.int 0), some (.int b), some (.int i), some (.int v), some (.ref 18), some (.int (if g 18 1 = -1 then -11 else if g 18 1 = b then 0 else -12))] [.int u, .int i, .ref 19] LY g 0 0 none Q := by
          intro u
          refine am_run_k 1 (And.intro (vpe ei (by omega)) ?_)
          refine am_run_k 2 ?_
          have hh := h (am_up g 19 i.toNatClampNeg u) ⟨I.1.of (am_up_ne (by decide)) (am_up_ne (by decide)) (am_up_ne (by decide)) (am_up_ne (by decide)), by unfold SL; rw [am_up_ne (by decide), am_up_ne (by decide)]; exact I.2⟩ (fun k hk => am_up_ne hk)
          unfold itA at hh
          rw [if_neg h1', if_neg h2, if_pos h3] at hh
          exact hh
        refine am_run_k 5 (And.intro (fun h4 => ?_) (fun h4 => ?_))
        · refine am_run_k 1 ?_
          exact fin _
        · refine am_run_k 3 ?_
          exact fin _
      · refine am_run_k 2 ?_
        have hh := h g I (fun _ _ => rfl)
        unfold itA at hh
        rw [if_neg h1', if_neg h2, if_neg h3] at hh
        exact hh
  · refine am_run_k 2 ?_
    have hh := h g I (fun _ _ => rfl)
    unfold itA at hh
    rw [if_pos (show tkA (g 18 1) b < 0 from fa_nle.mp h1)] at hh
    exact hh
theorem l_72_24_1 {b i v : Int32} (hb : am_ir b 2 = true) (I : IC g) (h : ∀ g', IC g' → (∀ k, k ≠ 21 → g' k = g k) → Q (some (.int (itA b i (g 20 1) (g 20 2)))) LY g') : am (d + 2) 72 24 [some (.ref 0), some (.int 1), some (.int b), some (.int i), some (.int v), some (.ref 20), none] [] LY g 0 0 none Q := by
  obtain ⟨ml, hml, el⟩ := I.2.2
  refine am_run_k 3 (am_cl ?_)
  refine w_takenAs1 ?_
  refine am_run_k 3 (And.intro (fun h1 => ?_) (fun h1 => ?_))
  · have h1' : ¬ tkA (g 20 1) b < 0 := fa_nlt.mpr h1
    refine am_run_k 2 (And.intro (fun h2 => ?_) (fun h2 => ?_))
    · refine am_run_k 2 ?_
      have hh := h g I (fun _ _ => rfl)
      unfold itA at hh
      rw [if_neg h1', if_pos h2] at hh
      exact hh
    · refine am_run_k 4 (And.intro (fun h3 => ?_) (fun h3 => ?_))
      · obtain ⟨j, hj, ei⟩ := nI_of h2
        have hlt : j < ml := by
          rw [el, ei] at h3
          exact (nI_ltI hj (by omega)).mp h3
        have fin : ∀ (u : Int32), am (d + 2) 72 74 [some (.ref 0), some (.int 1), some (.int b), some (.int i), some (.int v), some (.ref 20), some (.int (if g 20 1 = -1 then -11 else if g 20 1 = b then 0 else -12))] [.int u, .int i, .ref 21] LY g 0 0 none Q := by
          intro u
          refine am_run_k 1 (And.intro (vpe ei (by omega)) ?_)
          refine am_run_k 2 ?_
          have hh := h (am_up g 21 i.toNatClampNeg u) ⟨I.1.of (am_up_ne (by decide)) (am_up_ne (by decide)) (am_up_ne (by decide)) (am_up_ne (by decide)), by unfold SL; rw [am_up_ne (by decide), am_up_ne (by decide)]; exact I.2⟩ (fun k hk => am_up_ne hk)
          unfold itA at hh
          rw [if_neg h1', if_neg h2, if_pos h3] at hh
          exact hh
        refine am_run_k 5 (And.intro (fun h4 => ?_) (fun h4 => ?_))
        · refine am_run_k 1 ?_
          exact fin _
        · refine am_run_k 3 ?_
          exact fin _
      · refine am_run_k 2 ?_
        have hh := h g I (fun _ _ => rfl)
        unfold itA at hh
        rw [if_neg h1', if_neg h2, if_neg h3] at hh
        exact hh
  · refine am_run_k 2 ?_
    have hh := h g I (fun _ _ => rfl)
    unfold itA at hh
    rw [if_pos (show tkA (g 20 1) b < 0 from fa_nle.mp h1)] at hh
    exact hh
theorem f_item {a b i v : Int32} (I : IC g) (h0 : (am_ir a 2 && am_ir b 2) = false → Q (some (.int (-1))) LY g) (h1 : ∀ (j : Nat) (g' : am_G), j < 2 → a = nI j → am_ir b 2 = true → IC g' → (∀ k, k ≠ 19 + 2 * j → g' k = g k) → Q (some (.int (itA b i (g (18 + 2 * j) 1) (g (18 + 2 * j) 2)))) LY g') : am (d + 2) 72 0 [some (.ref 0), some (.int a), some (.int b), some (.int i), some (.int v), none, none] [] LY g 0 0 none Q := by
  refine am_run_k 2 (am_cl ?_)
  refine w_isSheet ?_
  refine am_run_k 1 (And.intro (fun e1 => ?_) (fun e1 => ?_))
  · refine am_run_k 2 ?_
    refine h0 ?_
    rw [bi_f e1]; rfl
  · refine am_run_k 2 (am_cl ?_)
    refine w_isLane ?_
    refine am_run_k 1 (And.intro (fun e2 => ?_) (fun e2 => ?_))
    · obtain ⟨j, hj, ea⟩ := am_ir_nI (k := 2) (by decide) (bi_t e1)
      rcases (show j = 0 ∨ j = 1 by omega) with q | q
      · subst q; subst ea
        refine am_run_k 4 (And.intro (vpe (n := 0) rfl (by decide)) ?_)
        refine am_run_k 1 ?_
        exact l_72_24_0 (bi_t e2) I (fun g' I' f' => h1 0 g' hj rfl (bi_t e2) I' f')
      · subst q; subst ea
        refine am_run_k 4 (And.intro (vpe (n := 1) rfl (by decide)) ?_)
        refine am_run_k 1 ?_
        exact l_72_24_1 (bi_t e2) I (fun g' I' f' => h1 1 g' hj rfl (bi_t e2) I' f')
    · refine am_run_k 2 ?_
      refine h0 ?_
      rw [bi_f e2]; simp
end FAF
