section OPU
variable {d : Nat} {g : am_G} {Q : am_Q} {B c f : Nat}
theorem mput_27 {n k : Nat} {kd a b e x : Int32} (h1 : k ≠ n) : am_mput g n kd a b e x 27 k = g 27 k := by
  unfold am_mput
  rw [am_up_ne (by decide), am_up_un h1, am_up_ne (by decide), am_up_ne (by decide), am_up_ne (by decide), am_up_ne (by decide), am_up_ne (by decide)]
theorem mput_27s {n : Nat} {kd a b e x : Int32} : am_mput g n kd a b e x 27 n = 0 := by
  unfold am_mput
  rw [am_up_ne (by decide), am_up_us]
theorem T.find {kd a b e x : Int32} (t : T g B c f) (hlt : c < 20) (J1 : IC (am_add g c kd a b e x)) (J2 : IM (am_mput (am_add g c kd a b e x) c kd a b e x)) : T (am_mput (am_add g c kd a b e x) c kd a b e x) B (c + 1) f := by
  obtain ⟨⟨hc, hf, e51, e54⟩, ⟨I, I2⟩, ⟨⟨a0, a1, a2, a3, a4, a5⟩, ta2, ta3⟩, tj, tl, tr, tf, ⟨cj, hcj, ecj, tc⟩, ts⟩ := id t
  obtain ⟨g1, hg1⟩ : ∃ g1, g1 = am_add g c kd a b e x := ⟨_, rfl⟩
  have hg2 := hg1
  rw [← hg1] at J1 J2 ⊢
  have q1 : ∀ k, k ≠ 22 → k ≠ 25 → k ≠ 26 → k ≠ 27 → am_mput g1 c kd a b e x k = g1 k := fun k => mput_ne
  have q2 : ∀ k, k ≠ 5 → k ≠ 6 → g1 k = g k := fun k h5 h6 => by rw [hg1]; exact am_add_ne h5 h6
  have q3 : ∀ k, k ≠ 5 → k ≠ 6 → k ≠ 22 → k ≠ 25 → k ≠ 26 → k ≠ 27 → am_mput g1 c kd a b e x k = g k := fun k h5 h6 h22 h25 h26 h27 => (q1 k h22 h25 h26 h27).trans (q2 k h5 h6)
  have q22 : ∀ i, i ≠ 7 → am_mput g1 c kd a b e x 22 i = g 22 i := fun i hi => by rw [mput_22 hi, q2 22 (by decide) (by decide)]
  have q5 : ∀ i, i ≠ 1 → am_mput g1 c kd a b e x 5 i = g 5 i := fun i hi => by rw [q1 5 (by decide) (by decide) (by decide) (by decide), hg1, am_add_5 hi]
  have n5 : am_mput g1 c kd a b e x 5 1 = nI (c + 1) := by rw [q1 5 (by decide) (by decide) (by decide) (by decide), hg1]; unfold am_add; rw [am_up_us]
  have n7 : am_mput g1 c kd a b e x 22 7 = nI (c + 1) := by unfold am_mput; rw [am_up_us]
  have o27 : ∀ k, k ≠ c → am_mput g1 c kd a b e x 27 k = g 27 k := fun k hk => by rw [mput_27 hk, q2 27 (by decide) (by decide)]
  have d1 : ∀ k, k ≠ 5 → k ≠ 6 → k ≠ 22 → k ≠ 25 → k ≠ 26 → k ≠ 27 → am_mput g1 c kd a b e x k = g k := q3
  refine ⟨⟨by omega, hf, n5, by rw [q5 4 (by decide)]; exact e54⟩, ⟨J1.lo (fun k hk => q1 k (by omega) (by omega) (by omega) (by omega)), J2⟩, ⟨⟨?_, ?_, ?_, ?_, ?_, n5.trans n7.symm⟩, ?_, ?_, ?_⟩, tj.of (d1 3 (by decide) (by decide) (by decide) (by decide) (by decide) (by decide)) (d1 4 (by decide) (by decide) (by decide) (by decide) (by decide) (by decide)) (d1 23 (by decide) (by decide) (by decide) (by decide) (by decide) (by decide)), tl.of (d1 8 (by decide) (by decide) (by decide) (by decide) (by decide) (by decide)) (d1 24 (by decide) (by decide) (by decide) (by decide) (by decide) (by decide)), fun k hk => ?_, ⟨fun k hk => ?_, tf.2.of (q5 2 (by decide)) (d1 7 (by decide) (by decide) (by decide) (by decide) (by decide) (by decide))⟩, ⟨cj, hcj, by rw [q22 11 (by decide)]; exact ecj, fun k hk => ?_⟩, ⟨ts.1.of (d1 18 (by decide) (by decide) (by decide) (by decide) (by decide) (by decide)) (d1 20 (by decide) (by decide) (by decide) (by decide) (by decide) (by decide)) (d1 28 (by decide) (by decide) (by decide) (by decide) (by decide) (by decide)) (d1 29 (by decide) (by decide) (by decide) (by decide) (by decide) (by decide)), ts.2.of (d1 19 (by decide) (by decide) (by decide) (by decide) (by decide) (by decide)) (d1 21 (by decide) (by decide) (by decide) (by decide) (by decide) (by decide)) (d1 29 (by decide) (by decide) (by decide) (by decide) (by decide) (by decide)) (d1 30 (by decide) (by decide) (by decide) (by decide) (by decide) (by decide))⟩⟩
  · rw [d1 1 (by decide) (by decide) (by decide) (by decide) (by decide) (by decide), q22 0 (by decide)]; exact a0
  · rw [d1 2 (by decide) (by decide) (by decide) (by decide) (by decide) (by decide), q22 1 (by decide)]; exact a1
  · rw [d1 1 (by decide) (by decide) (by decide) (by decide) (by decide) (by decide), q22 4 (by decide)]; exact a2
  · rw [d1 1 (by decide) (by decide) (by decide) (by decide) (by decide) (by decide), q22 5 (by decide)]; exact a3
  · rw [d1 1 (by decide) (by decide) (by decide) (by decide) (by decide) (by decide), q22 6 (by decide)]; exact a4
  · rw [q22 1 (by decide)]; exact ta2
  · rw [q22 6 (by decide)]; exact ta3.1
  · rw [q22 4 (by decide)]; exact ta3.2
  · rw [q1 6 (by decide) (by decide) (by decide) (by decide)]
    rcases Nat.lt_succ_iff_lt_or_eq.mp hk with e1 | e1
    · have h0 := am_add_row (g := g) (n := c) (kd := kd) (a := a) (b := b) (c := e) (x := x) (k := k) (j := 0) e1 (by omega)
      rw [Nat.add_zero] at h0
      rw [hg1, h0, am_add_row e1 (by omega), am_add_row e1 (by omega), am_add_row e1 (by omega), am_add_row e1 (by omega), ← hg1, mput_25 (by omega), mput_26 (by omega), mput_26 (by omega), mput_26 (by omega), mput_26 (by omega), q2 25 (by decide) (by decide), q2 26 (by decide) (by decide)]
      exact tr k e1
    · subst e1
      obtain ⟨n0, n1, n2, n3, n4⟩ := am_add_new (g := g) (n := k) (kd := kd) (a := a) (b := b) (c := e) (x := x)
      rw [← hg2] at n0 n1 n2 n3 n4
      rw [n0, n1, n2, n3, n4, mput_25s, mput_260, mput_261, mput_262, mput_263]
      exact ⟨rfl, rfl, rfl, rfl, rfl⟩
  · rw [q5 2 (by decide), tf.1 k hk]
    by_cases e1 : k = c
    · subst e1
      rw [mput_27s]
      simp
    · rw [o27 k e1, show decide (k < c + 1) = decide (k < c) from decide_eq_decide.mpr (by omega)]
  · by_cases e1 : k = c
    · subst e1
      exact ⟨0, by omega, mput_27s⟩
    · rw [o27 k e1]; exact tc k (by omega)
def MFind (g : am_G) (c : Nat) (kd a b e x r : Int32) (g1 : am_G) : Prop := (fdB (g 22 0) kd a b e x = false ∧ r = -1 ∧ g1 = g) ∨ (fdB (g 22 0) kd a b e x = true ∧ c = 20 ∧ r = -3 ∧ g1 = g) ∨ (fdB (g 22 0) kd a b e x = true ∧ c < 20 ∧ r = nI c ∧ g1 = am_add g c kd a b e x ∧ IC g1)
theorem x_find {kd a b e x : Int32} (t : T g B c f) (h : ∀ r g1, MFind g c kd a b e x r g1 → Q (some (.int r)) LY g1) : am (d + 2) 55 0 [some (.ref 0), some (.int kd), some (.int a), some (.int b), some (.int e), some (.int x)] [] LY g 0 0 none Q := by
  obtain ⟨⟨hc, hf, e51, e54⟩, ⟨I, I2⟩, ⟨⟨a0, -⟩, -⟩, -⟩ := id t
  refine f_find_x I hc e51 (fun z => h _ _ (Or.inl ⟨by rw [← a0]; exact z, rfl, rfl⟩)) (fun z z2 => h _ _ (Or.inr (Or.inl ⟨by rw [← a0]; exact z, z2, rfl, rfl⟩))) (fun z z2 J => h _ _ (Or.inr (Or.inr ⟨by rw [← a0]; exact z, z2, rfl, rfl, J⟩)))
theorem y_find {kd a b e x r : Int32} {g1 : am_G} (t : T g B c f) (m : MFind g c kd a b e x r g1) (h : ∀ g2 c' f', T g2 B c' f' → Q (some (.int r)) LY g2) : am (d + 3) 96 0 [some (.ref 22), some (.int kd), some (.int a), some (.int b), some (.int e), some (.int x)] [] LY g1 0 0 none Q := by
  obtain ⟨⟨hc, hf, e51, e54⟩, ⟨I, I2⟩, -⟩ := id t
  rcases m with ⟨z, hr, hg⟩ | ⟨z, z2, hr, hg⟩ | ⟨z, z2, hr, hg, J⟩
  · subst hr; subst hg
    refine m_find_x I2 hc t.c7 (fun _ => h _ _ _ t) (fun y => ?_) (fun y => ?_)
    · rw [z] at y; cases y
    · rw [z] at y; cases y
  · subst hr; subst hg
    refine m_find_x I2 hc t.c7 (fun y => ?_) (fun _ _ => h _ _ _ t) (fun _ y => ?_)
    · rw [z] at y; cases y
    · omega
  · subst hg; subst hr
    have o : ∀ k, 22 ≤ k → am_add g c kd a b e x k = g k := fun k hk => am_add_ne (by omega) (by omega)
    refine m_find_x (I2.hi o) hc (by rw [o 22 (by decide)]; exact t.c7) (fun y => ?_) (fun _ y => ?_) (fun _ _ J2 => ?_)
    · rw [o 22 (by decide), z] at y; cases y
    · omega
    · exact h _ _ _ (t.find z2 J J2)
/-- about -/
def aAbout (g : am_G) (c : Nat) (a b : Int32) : Int32 := bif am_ir a (nI c) && am_ir b 6 then (if b = 0 then g 25 a.toNatClampNeg else if b < 5 then g 26 (4 * a.toNatClampNeg + (b.toNatClampNeg - 1)) else if 0 < g 27 a.toNatClampNeg then 1 else 0) else -1
theorem x_about {a b : Int32} (t : T g B c f) (h : Q (some (.int (aAbout g c a b))) LY g) : am (d + 2) 58 0 [some (.ref 0), some (.int a), some (.int b)] [] LY g 0 0 none Q := by
  obtain ⟨⟨hc, hf, e51, e54⟩, ⟨I, I2⟩, ta, tj, tl, tr, tf, tc, ts⟩ := id t
  unfold aAbout at h
  refine am_run_k 5 (am_cl ?_)
  refine w_holds ?_
  rw [e51]
  refine am_run_k 1 (And.intro (fun h1 => ?_) (fun h1 => ?_))
  · refine am_run_k 2 ?_
    rw [bi_f h1] at h
    exact h
  · have hb := bi_t h1
    obtain ⟨k, hk, ea⟩ := am_ir_nI (by omega) hb
    subst ea
    rw [hb, ncl (by omega)] at h
    refine am_run_k 2 (And.intro (fun h2 => ?_) (fun h2 => ?_))
    · refine am_run_k 2 ?_
      rw [am_ir_f1 (fa_nle.mpr h2)] at h
      exact h
    · refine am_run_k 3 (And.intro (fun h3 => ?_) (fun h3 => ?_))
      · obtain ⟨m, hm1, hm2, eb⟩ := nI_rng (a := 0) (b := 5) (fa_nlt.mp h2) h3
        subst eb
        rw [show am_ir (nI m) 6 = true from am_ir_in (k := 6) (by omega) (by decide)] at h
        obtain ⟨r0, r1, r2, r3, r4⟩ := tr k hk
        refine am_run_k 3 (And.intro (fun h4 => ?_) (fun h4 => ?_))
        · have hm5 : m ≠ 5 := fun q => h4 (by rw [q]; rfl)
          have ei : nI k * 5 + nI m = nI (k * 5 + m) := by rw [nIm5]; exact nI_add _ _
          refine am_run_k 10 (And.intro (vpe ei (by omega)) ?_)
          rw [cle ei (by omega)]
          refine am_run_k 1 ?_
          have hl : nI m < 5 := nI_lt (b := 5) (by omega) (by decide)
          rw [ncl (show m < 2 ^ 31 by omega)] at h
          rcases (show m = 0 ∨ m = 1 ∨ m = 2 ∨ m = 3 ∨ m = 4 by omega) with q | q | q | q | q <;> subst q
          · rw [show k * 5 + 0 = k * 5 from rfl, r0]; exact h
          · rw [r1]; exact h
          · rw [r2]; exact h
          · rw [r3]; exact h
          · rw [r4]; exact h
        · have hm5 : m = 5 := by
            have h4 : nI m = nI 5 := by first | exact h4 | exact rdr h4
            exact (nI_eq (by omega) (by decide)).mp h4
          subst hm5
          have hx : Q (some (.int (if 0 < g 27 k then 1 else 0))) LY g := h
          refine am_run_k 5 (am_cl ?_)
          refine w_isFound ?_
          rw [hs_bt (by omega), tf.1 k (by omega), decide_eq_true hk, Bool.true_and]
          refine am_run_k 1 (And.intro (fun h5 => ?_) (fun h5 => ?_))
          · refine am_run_k 2 ?_
            have h5 := bi_f h5
            rw [if_neg (of_decide_eq_false h5)] at hx
            exact hx
          · refine am_run_k 3 ?_
            have h5 := bi_t h5
            rw [if_pos (of_decide_eq_true h5)] at hx
            exact hx
      · refine am_run_k 2 ?_
        rw [am_ir_f2 (n := b) (k := 6) (fun q => h3 ?_), Bool.and_false] at h
        · exact h
        · have := Int32.lt_iff_toInt_lt.mp q
          rw [Int32.le_iff_toInt_le]
          have k6 : (6 : Int32).toInt = 6 := by decide
          have k5 : (5 : Int32).toInt = 5 := by decide
          omega
theorem y_about {a b : Int32} (t : T g B c f) (h : Q (some (.int (aAbout g c a b))) LY g) : am (d + 2) 98 0 [some (.ref 22), some (.int a), some (.int b)] [] LY g 0 0 none Q := by
  obtain ⟨⟨hc, hf, e51, e54⟩, ⟨I, I2⟩, -⟩ := id t
  unfold aAbout at h
  have ec := t.c7
  refine am_run_k 7 (am_cl ?_)
  refine w_in ?_
  rw [ec]
  refine am_run_k 1 (And.intro (fun h1 => ?_) (fun h1 => ?_))
  · refine am_run_k 2 ?_
    have hz : am_ir a (nI c) = false := by
      cases hz : am_ir a (nI c) with
      | false => rfl
      | true =>
        obtain ⟨k, hk, ea⟩ := am_ir_nI (by omega) hz
        obtain ⟨c', rfl⟩ : ∃ c', c = c' + 1 := ⟨c - 1, by omega⟩
        rw [nI_pred, in_ir (by omega), hz] at h1
        exact absurd h1 (by decide)
    rw [hz] at h
    exact h
  · obtain ⟨k, hk, ea⟩ := in2_idx hc (bi_t h1)
    subst ea
    rw [am_ir_in hk (by omega), ncl (by omega)] at h
    refine am_run_k 4 (am_cl ?_)
    refine w_in ?_
    rw [show am_in2 b 0 5 = am_ir b 6 from in_ir (k := 5) (by decide)]
    refine am_run_k 1 (And.intro (fun h2 => ?_) (fun h2 => ?_))
    · obtain ⟨m, hm, eb⟩ := am_ir_nI (k := 6) (by decide) (bi_t h2)
      subst eb
      rw [bi_t h2, ncl (show m < 2 ^ 31 by omega)] at h
      change Q (some (.int (if nI m = 0 then g 25 k else if nI m < 5 then g 26 (4 * k + (m - 1)) else if 0 < g 27 k then 1 else 0))) LY g at h
      refine am_run_k 2 (And.intro (fun h3 => ?_) (fun h3 => ?_))
      · have hm0 : m ≠ 0 := fun e => h3 (by rw [e]; rfl)
        rw [if_neg h3] at h
        refine am_run_k 3 (And.intro (fun h4 => ?_) (fun h4 => ?_))
        · rw [if_neg (fa_nlt.mpr h4)] at h
          refine am_run_k 4 (And.intro (vpn (by omega)) ?_)
          rw [ncl (by omega)]
          refine am_run_k 1 (And.intro (fun h5 => ?_) (fun h5 => ?_))
          · rw [if_neg (fa_nlt.mpr h5)] at h
            refine am_run_k 2 ?_
            exact h
          · rw [if_pos (fa_nle.mp h5)] at h
            refine am_run_k 3 ?_
            exact h
        · rw [if_pos (fa_nle.mp h4)] at h
          have hm5 : m < 5 := by
            rcases Nat.lt_or_ge m 5 with e | e
            · exact e
            · exact absurd (show (5 : Int32) ≤ nI m from (show m = 5 by omega) ▸ nI_le (Nat.le_refl 5) (by decide)) h4
          have ei : (4 : Int32) * nI k + nI m - 1 = nI (4 * k + (m - 1)) := by
            rw [nIm4, nI_add, show 4 * k + m = (4 * k + (m - 1)) + 1 by omega]
            exact nI_pred _
          refine am_run_k 10 (And.intro (vpe ei (by omega)) ?_)
          rw [cle ei (by omega)]
          refine am_run_k 2 ?_
          exact h
      · rw [if_pos (by first | exact h3 | exact rdr h3)] at h
        refine am_run_k 4 (And.intro (vpn (by omega)) ?_)
        rw [ncl (by omega)]
        refine am_run_k 2 ?_
        exact h
    · refine am_run_k 2 ?_
      rw [bi_f h2] at h
      exact h
/-- clear -/
theorem x_clear (t : T g B c f) (h : IC (am_fgt g) → Q (some (.int (g 22 7))) LY (am_fgt g)) : am (d + 2) 59 0 [some (.ref 0), none] [] LY g 0 0 none Q := by
  obtain ⟨⟨hc, hf, e51, e54⟩, ⟨I, I2⟩, ⟨⟨a0, a1, a2, a3, a4, a5⟩, -⟩, -⟩ := id t
  refine am_run_k 9 (am_cl ?_)
  refine w_forget ?_
  refine am_run_k 2 ?_
  rw [a5]
  exact h ⟨VC.fgt I.1.1 I.1.2.1, I.2.fr (((frC.up (by decide)).tr (frC.up (by decide))).tr (frC.up (by decide)))⟩
theorem y_clear {l1 : Option Value} (t : T g B c f) (J : IC (am_fgt g)) (h : ∀ g2 c' f', T g2 B c' f' → Q (some (.int (g 22 7))) LY g2) : am d 99 0 [some (.ref 22), l1] [] LY (am_fgt g) 0 0 none Q := by
  obtain ⟨⟨hc, hf, e51, e54⟩, ⟨I, I2⟩, ⟨⟨a0, a1, a2, a3, a4, a5⟩, ta2, ta3⟩, tj, tl, tr, tf, ⟨cj, hcj, ecj, tc⟩, ts⟩ := id t
  have o : ∀ k, k ≠ 5 → am_fgt g k = g k := fun k hk => am_fgt_ne hk
  refine m_clear_x (I2.hi (fun k hk => o k (by omega))) (fun J2 => ?_)
  rw [show am_fgt g 22 7 = g 22 7 by rw [o 22 (by decide)]]
  have z52 : am_up (am_fgt g) 22 7 0 5 2 = 0 := rfl
  refine h _ 0 0 ⟨⟨by omega, by omega, rfl, rfl⟩, ⟨J.lo (fun k hk => am_up_ne (by omega)), J2⟩, ⟨⟨a0, a1, a2, a3, a4, rfl⟩, ta2, ta3⟩, tj.of rfl rfl rfl, tl.of rfl rfl, fun k hk => absurd hk (by omega), ⟨fun k hk => ?_, fun k hk => ?_⟩, ⟨cj, hcj, ecj, fun k hk => absurd hk (by omega)⟩, ⟨ts.1.of rfl rfl rfl rfl, ts.2.of rfl rfl rfl rfl⟩⟩
  · rw [z52, b_0]; simp
  · rw [z52, b_0]
    constructor
    · intro e; cases e
    · rintro ⟨i, hi, -⟩; omega
end OPU
