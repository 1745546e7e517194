section OPV
variable {d : Nat} {g : am_G} {Q : am_Q} {B c f : Nat}
theorem l_29_5x {find : Int32} {b : Int32} {c f : Nat} {g0 : am_G} (hc : c ≤ 20) (hf : f ≤ 20) (e54 : g0 5 4 = nI f) (ho : ordC g0 c f) (K : ∀ (j : Nat) (x : Int32) (g : am_G), j ≤ f → (∀ k, k ≠ 7 → g k = g0 k) → ordC g c j → (∀ i, i < j → g 7 i ≠ find) → (∀ i, i < f → g0 7 i ≠ find → ∃ a, a < j ∧ g 7 a = g0 7 i) → (∀ a, a < j → ∃ i, i < f ∧ g 7 a = g0 7 i) → am (d + 1) 29 47 [some (.ref 5), some (.int find), some (.int b), some (.int (nI j)), some (.int x)] [] LY g 0 0 none Q) : ∀ (n i j : Nat) (x y : Int32) (g : am_G), i + n = f → j ≤ i → x = nI j → y = nI i → (∀ k, k ≠ 7 → g k = g0 k) → (∀ p, i ≤ p → g 7 p = g0 7 p) → (∃ m : Nat → Nat, (∀ a, a < j → m a < i ∧ g 7 a = g0 7 (m a)) ∧ ∀ a a2, a < a2 → a2 < j → m a < m a2) → (∀ a, a < j → g 7 a ≠ find) → (∀ i', i' < i → g0 7 i' ≠ find → ∃ a, a < j ∧ g 7 a = g0 7 i') → am (d + 1) 29 5 [some (.ref 5), some (.int find), some (.int b), some (.int x), some (.int y)] [] LY g 0 0 none Q := by
  intro n
  induction n with
  | zero =>
    intro i j x y g hi hj hx hy h1 h2 h3 h4 h5
    have hi : i = f := by omega
    subst hi; subst hx; subst hy
    have f54 : g 5 4 = nI i := by rw [h1 5 (by decide)]; exact e54
    refine am_run_k 4 (And.intro (fun h6 => ?_) (fun hx => absurd ((show g 5 4 ≤ nI i by rw [f54]; exact nI_le (Nat.le_refl i) (by omega))) hx))
    obtain ⟨m, hm1, hm2⟩ := h3
    refine K j _ g hj h1 ⟨fun a ha => ?_, fun a a2 ha ha2 => ?_⟩ h4 h5 (fun a ha => ⟨m a, (hm1 a ha).1, (hm1 a ha).2⟩)
    · rw [(hm1 a ha).2]; exact ho.1 _ (hm1 a ha).1
    · rw [(hm1 a (by omega)).2, (hm1 a2 ha2).2]; exact ho.2 _ _ (hm2 a a2 ha ha2) (hm1 a2 ha2).1
  | succ n ih =>
    intro i j x y g hi hj hx hy h1 h2 h3 h4 h5
    subst hx; subst hy
    have f54 : g 5 4 = nI f := by rw [h1 5 (by decide)]; exact e54
    refine am_run_k 4 (And.intro (fun hx => absurd hx ((show ¬ g 5 4 ≤ nI i by rw [f54]; exact nI_ge (by omega) (by omega)))) (fun h6 => ?_))
    refine am_run_k 4 (And.intro (vpn (by omega)) ?_)
    obtain ⟨m, hm1, hm2⟩ := h3
    refine am_run_k 2 (And.intro (fun h7 => ?_) (fun h7 => ?_))
    · refine am_run_k 2 ?_
      rw [ncl (by omega)] at h7
      have h7 : g 7 i = find := by first | exact h7 | exact rdr h7
      refine ih (i + 1) j _ _ g (by omega) (by omega) rfl (nI_1 i) h1 (fun p hp => h2 p (by omega)) ⟨m, fun a ha => ⟨Nat.lt_succ_of_lt (hm1 a ha).1, (hm1 a ha).2⟩, hm2⟩ h4 (fun i' hi' hne => ?_)
      rcases Nat.lt_succ_iff_lt_or_eq.mp hi' with q | q
      · exact h5 i' q hne
      · subst q
        exact absurd ((h2 i' (Nat.le_refl _)).symm.trans h7) hne
    · refine am_run_k 7 (And.intro (vpn (by omega)) ?_)
      refine am_run_k 1 (And.intro (vpn (by omega)) ?_)
      refine am_run_k 3 ?_
      rw [ncl (by omega)] at h7
      have ex : (nI i).toNatClampNeg = i := ncl (by omega)
      have ej : (nI j).toNatClampNeg = j := ncl (by omega)
      rw [ex, ej]
      refine ih (i + 1) (j + 1) _ _ _ (by omega) (by omega) (nI_1 j) (nI_1 i) (fun k hk => by rw [am_up_ne hk]; exact h1 k hk) (fun p hp => by rw [am_up_un (by omega)]; exact h2 p (by omega)) ⟨fun a => if a = j then i else m a, fun a ha => ?_, fun a a2 ha ha2 => ?_⟩ (fun a ha => ?_) (fun i' hi' hne => ?_)
      · dsimp only
        by_cases e : a = j
        · subst e
          rw [if_pos rfl, am_up_us]
          exact ⟨by omega, h2 i (Nat.le_refl i)⟩
        · rw [if_neg e, am_up_un e]
          exact ⟨Nat.lt_succ_of_lt (hm1 a (by omega)).1, (hm1 a (by omega)).2⟩
      · dsimp only
        by_cases e : a2 = j
        · subst e
          rw [if_pos rfl, if_neg (by omega)]
          exact (hm1 a (by omega)).1
        · rw [if_neg e, if_neg (by omega)]
          exact hm2 a a2 ha (by omega)
      · by_cases e : a = j
        · subst e
          rw [am_up_us]; exact h7
        · rw [am_up_un e]; exact h4 a (by omega)
      · rcases Nat.lt_succ_iff_lt_or_eq.mp hi' with q | q
        · obtain ⟨a, ha, ea⟩ := h5 i' q hne
          exact ⟨a, by omega, by rw [am_up_un (by omega)]; exact ea⟩
        · subst q
          exact ⟨j, by omega, by rw [am_up_us]; exact h2 i' (Nat.le_refl _)⟩
/-- the bits of what is found, after a find is told found or not -/
def fdX (x : Int32) (fd : Nat) (b : Int32) : Int32 := if b = 0 then x &&& (am_sh (nI fd) ^^^ (-1)) else (x &&& (am_sh (nI fd) ^^^ (-1))) ||| am_sh (nI fd)
theorem fdX_bt {x b : Int32} {fd q : Nat} (hfd : fd < 32) (hq : q < 32) : bt (fdX x fd b) q = if q = fd then !decide (b = 0) else bt x q := by
  unfold fdX
  by_cases hb : b = 0
  · rw [if_pos hb, b_and, b_xor, b_sh hq hfd, b_m1 q hq]
    by_cases e : q = fd
    · rw [if_pos e]; simp [e, hb]
    · rw [if_neg e]; simp [e]
  · rw [if_neg hb, b_or, b_and, b_xor, b_sh hq hfd, b_m1 q hq]
    by_cases e : q = fd
    · rw [if_pos e]; simp [e, hb]
    · rw [if_neg e]; simp [e]
theorem w_setFound_x {fd c f : Nat} {b : Int32} (hc : c ≤ 20) (hf : f ≤ 20) (hfd : fd < c) (e54 : g 5 4 = nI f) (ho : ordC g c f) (to : To g f) (h : ∀ (g' : am_G) (f' : Nat), (∀ k, k ≠ 5 → k ≠ 7 → g' k = g k) → (∀ j, j ≠ 2 → j ≠ 4 → g' 5 j = g 5 j) → f' ≤ 20 → g' 5 4 = nI f' → ordC g' c f' → g' 5 2 = fdX (g 5 2) fd b → To g' f' → Q none LY g') : am (d + 1) 29 0 [some (.ref 5), some (.int (nI fd)), some (.int b), none, none] [] LY g 0 0 none Q := by
  refine am_run_k 4 ?_
  refine l_29_5x (g0 := g) hc hf e54 ho (fun j x g1 hj h1 h2 h3 h5 h6 => ?_) f 0 0 _ _ g (Nat.zero_add f) (Nat.le_refl 0) rfl rfl (fun k _ => rfl) (fun p _ => rfl) ⟨fun a => a, fun a ha => absurd ha (by omega), fun a a2 ha ha2 => absurd ha2 (by omega)⟩ (fun a ha => absurd ha (by omega)) (fun a ha => absurd ha (by omega))
  have hroom := h2.room hc hfd h3
  -- the kept ones: all of the old but fd
  have kept : ∀ k, k < 32 → ((∃ a, a < j ∧ g1 7 a = nI k) ↔ (k ≠ fd ∧ bt (g 5 2) k = true)) := by
    intro k hk
    rw [to k hk]
    constructor
    · rintro ⟨a, ha, ea⟩
      refine ⟨fun e => h3 a ha (by rw [ea, e]), ?_⟩
      obtain ⟨i, hi, ei⟩ := h6 a ha
      exact ⟨i, hi, ei.symm.trans ea⟩
    · rintro ⟨hne, i, hi, ei⟩
      obtain ⟨a, ha, ea⟩ := h5 i hi (fun z => hne ((nI_eq (by omega) (by omega)).mp (ei.symm.trans z)))
      exact ⟨a, ha, ea.trans ei⟩
  refine am_run_k 15 (And.intro (fun h4 => ?_) (fun h4 => ?_))
  · have h4 : b = 0 := by first | exact h4 | exact rdr h4
    refine am_run_k 1 ?_
    refine h _ j (fun k h5 h7 => ?_) (fun i hi2 hi4 => ?_) (by omega) ?_ ?_ ?_ (fun k hk => ?_)
    · rw [am_up_ne h5, am_up_ne h5]; exact h1 k h7
    · rw [am_up_un hi2, am_up_un hi4]; rw [h1 5 (by decide)]
    · rw [am_up_un (by decide), am_up_us]
    · unfold ordC; rw [am_up_ne (by decide), am_up_ne (by decide)]; exact h2
    · rw [am_up_us]
      unfold fdX
      rw [if_pos h4, ← h1 5 (by decide)]; rfl
    · have e2 : am_up (am_up g1 5 4 (nI j)) 5 2 (g1 5 2 &&& (am_sh (nI fd) ^^^ (-1))) 5 2 = fdX (g 5 2) fd b := by
        rw [am_up_us]
        unfold fdX
        rw [if_pos h4, h1 5 (by decide)]
      show bt (am_up (am_up g1 5 4 (nI j)) 5 2 (g1 5 2 &&& (am_sh (nI fd) ^^^ (-1))) 5 2) k = true ↔ _
      rw [e2, fdX_bt (by omega) hk, am_up_ne (show (7 : Nat) ≠ 5 by decide), am_up_ne (show (7 : Nat) ≠ 5 by decide), kept k hk]
      by_cases e : k = fd
      · rw [if_pos e]; simp [e, h4]
      · rw [if_neg e]; simp [e]
  · have h4 : ¬ b = 0 := h4
    refine am_run_k 6 (And.intro (vpe (n := j) (by rw [am_up_un (by decide), am_up_us]) (by omega)) ?_)
    refine am_run_k 15 ?_
    refine h _ (j + 1) (fun k h5 h7 => ?_) (fun i hi2 hi4 => ?_) (by omega) ?_ ?_ ?_ (fun k hk => ?_)
    · rw [am_up_ne h5, am_up_ne h5, am_up_ne h7, am_up_ne h5, am_up_ne h5]; exact h1 k h7
    · rw [am_up_un hi2, am_up_un hi4, am_up_ne (by decide), am_up_un hi2, am_up_un hi4]; rw [h1 5 (by decide)]
    · rw [am_up_un (by decide), am_up_us, am_up_ne (by decide), am_up_un (by decide), am_up_us]; exact nI_1 j
    · unfold ordC
      rw [am_up_ne (by decide), am_up_ne (by decide)]
      rw [am_up_un (k := 5) (i := 2) (j := 4) (by decide), am_up_us, ncl (by omega)]
      rw [am_up_at, am_up_ne (by decide), am_up_ne (by decide)]
      refine ⟨fun i hi => ?_, fun i i2 hi hi2 => ?_⟩
      · by_cases e : i = j
        · exact ⟨fd, hfd, by simp [upd, e]⟩
        · obtain ⟨q, hq, eq⟩ := h2.1 i (by omega)
          exact ⟨q, hq, by simp [upd, e]; exact eq⟩
      · have n1 : i ≠ j := by omega
        by_cases e : i2 = j
        · simp [upd, e, n1]; exact h3 i (by omega)
        · simp [upd, e, n1]; exact h2.2 i i2 hi (by omega)
    · rw [am_up_us, am_up_un (by decide), am_up_ne (by decide), am_up_us]
      unfold fdX
      rw [if_neg h4, ← h1 5 (by decide)]; rfl
    · have e2 : am_up (am_up (am_up (am_up (am_up g1 5 4 (nI j)) 5 2 (g1 5 2 &&& (am_sh (nI fd) ^^^ (-1)))) 7 (am_up (am_up g1 5 4 (nI j)) 5 2 (g1 5 2 &&& (am_sh (nI fd) ^^^ (-1))) 5 4).toNatClampNeg (nI fd)) 5 4 (am_up (am_up (am_up g1 5 4 (nI j)) 5 2 (g1 5 2 &&& (am_sh (nI fd) ^^^ (-1)))) 7 (am_up (am_up g1 5 4 (nI j)) 5 2 (g1 5 2 &&& (am_sh (nI fd) ^^^ (-1))) 5 4).toNatClampNeg (nI fd) 5 4 + 1)) 5 2 (am_up (am_up (am_up (am_up g1 5 4 (nI j)) 5 2 (g1 5 2 &&& (am_sh (nI fd) ^^^ (-1)))) 7 (am_up (am_up g1 5 4 (nI j)) 5 2 (g1 5 2 &&& (am_sh (nI fd) ^^^ (-1))) 5 4).toNatClampNeg (nI fd)) 5 4 (am_up (am_up (am_up g1 5 4 (nI j)) 5 2 (g1 5 2 &&& (am_sh (nI fd) ^^^ (-1)))) 7 (am_up (am_up g1 5 4 (nI j)) 5 2 (g1 5 2 &&& (am_sh (nI fd) ^^^ (-1))) 5 4).toNatClampNeg (nI fd) 5 4 + 1) 5 2 ||| am_sh (nI fd)) 5 2 = fdX (g 5 2) fd b := by
        rw [am_up_us, am_up_un (by decide), am_up_ne (by decide), am_up_us]
        unfold fdX
        rw [if_neg h4, ← h1 5 (by decide)]
      refine Iff.trans (iff_of_eq (congrArg (fun z => bt z k = true) e2)) ?_
      rw [fdX_bt (by omega) hk, am_up_ne (show (7 : Nat) ≠ 5 by decide), am_up_ne (show (7 : Nat) ≠ 5 by decide)]
      rw [am_up_un (k := 5) (i := 2) (j := 4) (by decide), am_up_us, ncl (by omega)]
      rw [am_up_at, am_up_ne (show (7 : Nat) ≠ 5 by decide), am_up_ne (show (7 : Nat) ≠ 5 by decide)]
      by_cases e : k = fd
      · rw [if_pos e, decide_eq_false h4]
        refine ⟨fun _ => ⟨j, by omega, by rw [pk_us, e]⟩, fun _ => rfl⟩
      · rw [if_neg e]
        constructor
        · intro hb
          obtain ⟨a, ha, ea⟩ := (kept k hk).mpr ⟨e, hb⟩
          exact ⟨a, by omega, by rw [pk_un (by omega)]; exact ea⟩
        · rintro ⟨a, ha, ea⟩
          by_cases ej : a = j
          · rw [ej, pk_us] at ea
            exact absurd ((nI_eq (by omega) (by omega)).mp ea).symm e
          · rw [pk_un ej] at ea
            exact ((kept k hk).mp ⟨a, by omega, ea⟩).2
/-- found -/
def aFound (g : am_G) (c : Nat) (a : Int32) : Int32 := bif am_ir a (nI c) then (if 0 < g 27 a.toNatClampNeg then 1 else 0) else -1
def MFound (g : am_G) (c : Nat) (a b r : Int32) (g1 : am_G) : Prop := r = aFound g c a ∧ ((am_ir a (nI c) = false ∧ g1 = g) ∨ ∃ fd f', fd < c ∧ a = nI fd ∧ IC g1 ∧ (∀ k, k ≠ 5 → k ≠ 7 → g1 k = g k) ∧ (∀ j, j ≠ 2 → j ≠ 4 → g1 5 j = g 5 j) ∧ f' ≤ 20 ∧ g1 5 4 = nI f' ∧ g1 5 2 = fdX (g 5 2) fd b ∧ To g1 f')
theorem x_found {a b : Int32} (t : T g B c f) (h : ∀ r g1, MFound g c a b r g1 → Q (some (.int r)) LY g1) : am (d + 2) 57 0 [some (.ref 0), some (.int a), some (.int b), none] [] LY g 0 0 none Q := by
  obtain ⟨⟨hc, hf, e51, e54⟩, ⟨I, I2⟩, ta, tj, tl, tr, tf, tc, ts⟩ := id t
  have ho : ordC g c f := by
    obtain ⟨c', hc', ec', hr, f', hf', ef', ho⟩ := id I.1.2.2
    have q1 : c' = c := (nI_eq (by omega) (by omega)).mp (ec'.symm.trans e51)
    have q2 : f' = f := (nI_eq (by omega) (by omega)).mp (ef'.symm.trans e54)
    subst q1; subst q2; exact ho
  have hr : rowsC g c := by
    obtain ⟨c', hc', ec', hr, -⟩ := id I.1.2.2
    have q1 : c' = c := (nI_eq (by omega) (by omega)).mp (ec'.symm.trans e51)
    subst q1; exact hr
  refine am_run_k 5 (am_cl ?_)
  refine w_holds ?_
  rw [e51]
  refine am_run_k 1 (And.intro (fun h1 => ?_) (fun h1 => ?_))
  · have hb := bi_t h1
    obtain ⟨fd, hfd, ea⟩ := am_ir_nI (by omega) hb
    subst ea
    refine am_run_k 5 (am_cl ?_)
    refine w_isFound ?_
    rw [hs_bt (by omega), tf.1 fd (by omega), decide_eq_true hfd, Bool.true_and]
    have fin : ∀ u : Int32, u = aFound g c (nI fd) → am (d + 2) 57 35 [some (.ref 0), some (.int (nI fd)), some (.int b), none] [.int u] LY g 0 0 none Q := by
      intro u hu
      refine am_run_k 7 (am_cl ?_)
      refine w_setFound_x hc hf hfd e54 ho tf.2 (fun g1 f1 q1 q2 q3 q4 q5 q6 q7 => ?_)
      refine am_run_k 2 ?_
      have fr : frC g g1 := fun k hk => q1 k (by omega) (by omega)
      refine h _ g1 ⟨hu, Or.inr ⟨fd, f1, hfd, rfl, ⟨⟨by rw [q1 1 (by decide) (by decide)]; exact I.1.1, by rw [q1 1 (by decide) (by decide)]; exact I.1.2.1, c, hc, by rw [q2 1 (by decide) (by decide)]; exact e51, ?_, f1, q3, q4, q5⟩, I.2.fr fr⟩, q1, q2, q3, q4, q6, q7⟩⟩
      unfold rowsC; rw [q1 6 (by decide) (by decide)]; exact hr
    have hA : aFound g c (nI fd) = if 0 < g 27 fd then 1 else 0 := by unfold aFound; rw [hb, ncl (by omega)]; rfl
    refine am_run_k 1 (And.intro (fun h2 => ?_) (fun h2 => ?_))
    · refine am_run_k 1 ?_
      exact fin _ (by rw [hA, if_neg (of_decide_eq_false (bi_f h2))])
    · refine am_run_k 2 ?_
      exact fin _ (by rw [hA, if_pos (of_decide_eq_true (bi_t h2))])
  · refine am_run_k 2 ?_
    exact h _ g ⟨by unfold aFound; rw [bi_f h1]; rfl, Or.inl ⟨bi_f h1, rfl⟩⟩
theorem in2_f {v : Int32} {c : Nat} (hc : c ≤ 20) (h : am_in2 v 0 (nI c - 1) = false) : am_ir v (nI c) = false := by
  cases hz : am_ir v (nI c) with
  | false => rfl
  | true =>
    obtain ⟨k, hk, ea⟩ := am_ir_nI (by omega) hz
    obtain ⟨c', rfl⟩ : ∃ c', c = c' + 1 := ⟨c - 1, by omega⟩
    rw [nI_pred, in_ir (by omega), hz] at h
    cases h
/-- what the model's found leaves of 'when' -/
theorem T.found {g1 g2 : am_G} {a b : Int32} {fd f' : Nat} {y : Int32} (t : T g B c f) (hfd : fd < c) (J : IC g1) (q1 : ∀ k, k ≠ 5 → k ≠ 7 → g1 k = g k) (q2 : ∀ j, j ≠ 2 → j ≠ 4 → g1 5 j = g 5 j) (hf' : f' ≤ 20) (q4 : g1 5 4 = nI f') (q5 : g1 5 2 = fdX (g 5 2) fd b) (q6 : To g1 f') (p1 : ∀ k, k ≠ 22 → k ≠ 27 → g2 k = g1 k) (p2 : ∀ i, i ≠ 11 → g2 22 i = g1 22 i) (p3 : ∀ k, k ≠ fd → g2 27 k = g1 27 k) (p4 : decide (0 < g2 27 fd) = !decide (b = 0)) (p5 : ∃ j, j ≤ B + 1 ∧ g2 22 11 = nI j ∧ (∃ i, i ≤ j ∧ g2 27 fd = nI i) ∧ ∀ j0, j0 ≤ B → g 22 11 = nI j0 → j0 ≤ j) : T g2 (B + 1) c f' := by
  obtain ⟨⟨hc, hf, e51, e54⟩, ⟨I, I2⟩, ⟨⟨a0, a1, a2, a3, a4, a5⟩, ta2, ta3⟩, tj, tl, tr, tf, ⟨cj, hcj, ecj, tc⟩, ts⟩ := id t
  have w : ∀ k, k ≠ 5 → k ≠ 7 → k ≠ 22 → k ≠ 27 → g2 k = g k := fun k h5 h7 h22 h27 => (p1 k h22 h27).trans (q1 k h5 h7)
  have v : ∀ i, i ≠ 11 → g2 22 i = g 22 i := fun i hi => (p2 i hi).trans (congrFun (q1 22 (by decide) (by decide)) i)
  have e5 : g2 5 = g1 5 := p1 5 (by decide) (by decide)
  have J2 : IM g2 := ⟨I2.1.of (v 0 (by decide)) (v 5 (by decide)) (v 7 (by decide)) (w 25 (by decide) (by decide) (by decide) (by decide)) (w 26 (by decide) (by decide) (by decide) (by decide)), I2.2.1.of (w 23 (by decide) (by decide) (by decide) (by decide)), I2.2.2.1.of (w 24 (by decide) (by decide) (by decide) (by decide)), I2.2.2.2.of (w 29 (by decide) (by decide) (by decide) (by decide))⟩
  refine ⟨⟨hc, hf', by rw [e5, q2 1 (by decide) (by decide)]; exact e51, by rw [e5]; exact q4⟩, ⟨J.lo (fun k hk => p1 k (by omega) (by omega)), J2⟩, ⟨⟨?_, ?_, ?_, ?_, ?_, ?_⟩, ?_, ?_, ?_⟩, tj.of (w 3 (by decide) (by decide) (by decide) (by decide)) (w 4 (by decide) (by decide) (by decide) (by decide)) (w 23 (by decide) (by decide) (by decide) (by decide)), tl.of (w 8 (by decide) (by decide) (by decide) (by decide)) (w 24 (by decide) (by decide) (by decide) (by decide)), tr.of (w 6 (by decide) (by decide) (by decide) (by decide)) (w 25 (by decide) (by decide) (by decide) (by decide)) (w 26 (by decide) (by decide) (by decide) (by decide)), ⟨fun k hk => ?_, q6.of (by rw [e5]) (p1 7 (by decide) (by decide))⟩, ?_, ⟨ts.1.of (w 18 (by decide) (by decide) (by decide) (by decide)) (w 20 (by decide) (by decide) (by decide) (by decide)) (w 28 (by decide) (by decide) (by decide) (by decide)) (w 29 (by decide) (by decide) (by decide) (by decide)), ts.2.of (w 19 (by decide) (by decide) (by decide) (by decide)) (w 21 (by decide) (by decide) (by decide) (by decide)) (w 29 (by decide) (by decide) (by decide) (by decide)) (w 30 (by decide) (by decide) (by decide) (by decide))⟩⟩
  · rw [w 1 (by decide) (by decide) (by decide) (by decide), v 0 (by decide)]; exact a0
  · rw [w 2 (by decide) (by decide) (by decide) (by decide), v 1 (by decide)]; exact a1
  · rw [w 1 (by decide) (by decide) (by decide) (by decide), v 4 (by decide)]; exact a2
  · rw [w 1 (by decide) (by decide) (by decide) (by decide), v 5 (by decide)]; exact a3
  · rw [w 1 (by decide) (by decide) (by decide) (by decide), v 6 (by decide)]; exact a4
  · rw [e5, q2 1 (by decide) (by decide), v 7 (by decide)]; exact a5
  · rw [v 1 (by decide)]; exact ta2
  · rw [v 6 (by decide)]; exact ta3.1
  · rw [v 4 (by decide)]; exact ta3.2
  · rw [e5, q5, fdX_bt (by omega) hk]
    by_cases e : k = fd
    · rw [if_pos e, e, p4, decide_eq_true hfd, Bool.true_and]
    · rw [if_neg e, p3 k e, q1 27 (by decide) (by decide), tf.1 k hk]
  · obtain ⟨j, hj, ej, ⟨i, hi, ei⟩, hle⟩ := p5
    refine ⟨j, hj, ej, fun k hk => ?_⟩
    by_cases e : k = fd
    · exact ⟨i, hi, by rw [e]; exact ei⟩
    · obtain ⟨i', hi', ei'⟩ := tc k hk
      have := hle cj hcj ecj
      exact ⟨i', by omega, by rw [p3 k e, q1 27 (by decide) (by decide)]; exact ei'⟩
theorem y_found {a b r : Int32} {g1 : am_G} {l3 : Option Value} (t : T g B c f) (hB : B + 1 < 2 ^ 31) (m : MFound g c a b r g1) (h : ∀ g2 c' f', T g2 (B + 1) c' f' → Q (some (.int r)) LY g2) : am (d + 2) 97 0 [some (.ref 22), some (.int a), some (.int b), l3] [] LY g1 0 0 none Q := by
  obtain ⟨⟨hc, hf, e51, e54⟩, ⟨I, I2⟩, ta, tj, tl, tr, tf, ⟨cj, hcj, ecj, tc⟩, ts⟩ := id t
  obtain ⟨hr, m⟩ := m
  have tB : T g (B + 1) c f := ⟨t.1, t.2.1, t.2.2.1, tj, tl, tr, tf, t.2.2.2.2.2.2.2.1.le (by omega), ts⟩
  rcases m with ⟨hz, hg⟩ | ⟨fd, f', hfd, ea, J, q1, q2, hf', q4, q5, q6⟩
  · subst hg
    refine am_run_k 7 (am_cl ?_)
    refine w_in ?_
    rw [t.c7]
    refine am_run_k 1 (And.intro (fun h1 => ?_) (fun h1 => ?_))
    · obtain ⟨k, hk, ea⟩ := in2_idx hc (bi_t h1)
      rw [ea, am_ir_in hk (by omega)] at hz
      cases hz
    · refine am_run_k 2 ?_
      have : r = -1 := by rw [hr]; unfold aFound; rw [hz]; rfl
      have hh := h _ _ _ tB
      rw [this] at hh
      exact hh
  · subst ea
    have o : ∀ k, 22 ≤ k → g1 k = g k := fun k hk => q1 k (by omega) (by omega)
    have hA : r = if 0 < g 27 fd then 1 else 0 := by rw [hr]; unfold aFound; rw [am_ir_in hfd (by omega), ncl (by omega)]; rfl
    obtain ⟨iw, hiw, eiw⟩ := tc fd hfd
    refine am_run_k 7 (am_cl ?_)
    refine w_in ?_
    rw [o 22 (by decide), t.c7]
    have hin : am_in2 (nI fd) 0 (nI c - 1) = true := by
      obtain ⟨c', rfl⟩ : ∃ c', c = c' + 1 := ⟨c - 1, by omega⟩
      rw [nI_pred, in_ir (by omega)]
      exact am_ir_in hfd (by omega)
    rw [hin]
    refine am_run_k 1 (And.intro (fun h1 => ?_) (fun hx => absurd hx ((by decide))))
    have s71 : ∀ g2, T g2 (B + 1) c f' → am (d + 2) 97 71 [some (.ref 22), some (.int (nI fd)), some (.int b), some (.int (g 27 fd))] [] LY g2 0 0 none Q := by
      intro g2 t2
      refine am_run_k 2 (And.intro (fun h2 => ?_) (fun h2 => ?_))
      · refine am_run_k 2 ?_
        have hh := h _ _ _ t2
        rw [hA, if_neg (fa_nlt.mpr h2)] at hh
        exact hh
      · refine am_run_k 3 ?_
        have hh := h _ _ _ t2
        rw [hA, if_pos (fa_nle.mp h2)] at hh
        exact hh
    refine am_run_k 4 (And.intro (vpn (by omega)) ?_)
    rw [ncl (by omega), o 27 (by decide)]
    refine am_run_k 3 (And.intro (fun h2 => ?_) (fun h2 => ?_))
    · have h2 : b = 0 := by first | exact h2 | exact rdr h2
      refine am_run_k 5 (And.intro (fun h3 => ?_) (fun hx => absurd (h2) hx))
      refine am_run_k 2 (And.intro (vpn (by omega)) ?_)
      rw [ncl (by omega)]
      refine s71 _ (t.found (a := nI fd) (b := b) (y := 0) hfd J q1 q2 hf' q4 q5 q6 (fun k _ h27 => am_up_ne h27) (fun i _ => by rw [am_up_ne (by decide)]) (fun k hk => am_up_un hk) (by rw [am_up_us, h2]; rfl) ⟨cj, by omega, by rw [am_up_ne (by decide), o 22 (by decide)]; exact ecj, ⟨0, by omega, am_up_us⟩, fun j0 hj0 ej0 => ?_⟩)
      have := (nI_eq (by omega) (by omega)).mp (ej0.symm.trans ecj)
      omega
    · refine am_run_k 2 (And.intro (fun h3 => ?_) (fun h3 => ?_))
      · have hiw0 : iw ≠ 0 := fun e => h3 (by rw [eiw, e]; rfl)
        refine am_run_k 5 (And.intro (fun hx => absurd hx (h2)) (fun h4 => ?_))
        refine am_run_k 4 (And.intro (vpn (by omega)) ?_)
        rw [ncl (by omega), o 27 (by decide)]
        refine am_run_k 2 (And.intro (vpn (by omega)) ?_)
        rw [ncl (by omega)]
        refine s71 _ (t.found (a := nI fd) (b := b) (y := 0) hfd J q1 q2 hf' q4 q5 q6 (fun k _ h27 => am_up_ne h27) (fun i _ => by rw [am_up_ne (by decide)]) (fun k hk => am_up_un hk) (by rw [am_up_us, decide_eq_false h2, eiw]; exact decide_eq_true (nI_lt (a := 0) (by omega) (by omega))) ⟨cj, by omega, by rw [am_up_ne (by decide), o 22 (by decide)]; exact ecj, ⟨iw, hiw, by rw [am_up_us]; exact eiw⟩, fun j0 hj0 ej0 => ?_⟩)
        have := (nI_eq (by omega) (by omega)).mp (ej0.symm.trans ecj)
        omega
      · have h3 : g 27 fd = 0 := by first | exact h3 | exact rdr h3
        have ec1 : g1 22 11 + 1 = nI (cj + 1) := by rw [o 22 (by decide), ecj]; exact nI_1 cj
        refine am_run_k 12 (And.intro (vpn (by omega)) ?_)
        rw [ncl (by omega), am_up_us, ec1]
        refine am_run_k 5 (And.intro (fun hx => absurd hx (h2)) (fun h4 => ?_))
        refine am_run_k 4 (And.intro (vpn (by omega)) ?_)
        rw [ncl (by omega), am_up_us]
        refine am_run_k 2 (And.intro (vpn (by omega)) ?_)
        rw [ncl (by omega)]
        refine s71 _ (t.found (a := nI fd) (b := b) (y := 0) hfd J q1 q2 hf' q4 q5 q6 (fun k h22 h27 => by rw [am_up_ne h27, am_up_ne h27, am_up_ne h22]) (fun i hi => by rw [am_up_ne (by decide), am_up_ne (by decide), am_up_un hi]) (fun k hk => by rw [am_up_un hk, am_up_un hk, am_up_ne (by decide)]) (by rw [am_up_us, decide_eq_false h2]; exact decide_eq_true (nI_lt (a := 0) (by omega) (by omega))) ⟨cj + 1, by omega, by rw [am_up_ne (by decide), am_up_ne (by decide), am_up_us], ⟨cj + 1, by omega, am_up_us⟩, fun j0 hj0 ej0 => ?_⟩)
        have := (nI_eq (by omega) (by omega)).mp (ej0.symm.trans ecj)
        omega
end OPV
