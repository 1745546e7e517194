section LAW
variable {d : Nat} {g : am_G} {bc bs : Nat} {sx : am_S} {Q : am_Q}
/-- the sheets, the same to both -/
def TS (g : am_G) : Prop := ∀ j, j < 2 → g (18 + 2 * j) 1 = g 28 j ∧ g (18 + 2 * j) 2 = g 29 j ∧ (¬ g 28 j < 0 ∨ g 28 j = -1)
def LW (g : am_G) : Prop := IC g ∧ IM g ∧ TS g
theorem IM.hi {g' : am_G} (I : IM g) (f : ∀ k, 22 ≤ k → g' k = g k) : IM g' :=
  ⟨I.1.of (by rw [f 22 (by omega)]) (by rw [f 22 (by omega)]) (by rw [f 22 (by omega)]) (f 25 (by omega)) (f 26 (by omega)), I.2.1.of (f 23 (by omega)), I.2.2.1.of (f 24 (by omega)), I.2.2.2.of (f 29 (by omega))⟩
theorem IC.lo {g' : am_G} (I : IC g) (f : ∀ k, k < 22 → g' k = g k) : IC g' :=
  ⟨I.1.of (f 1 (by omega)) (f 5 (by omega)) (f 6 (by omega)) (f 7 (by omega)), by unfold SL; rw [f 18 (by omega), f 20 (by omega)]; exact I.2⟩
theorem LW.cls {g' : am_G} (w : LW g) (I : IC g') (f : frC g g') : LW g' :=
  ⟨I, w.2.1.hi (fun k hk => f k (by omega)), fun j hj => by rw [f (18 + 2 * j) (by omega), f 28 (by omega), f 29 (by omega)]; exact w.2.2 j hj⟩
theorem LW.mod {g' : am_G} (w : LW g) (I : IM g') (f : frM g g') : LW g' :=
  ⟨w.1.lo (fun k hk => f k (Or.inl hk)), I, fun j hj => by rw [f (18 + 2 * j) (by omega), f 28 (by omega), f 29 (by omega)]; exact w.2.2 j hj⟩
theorem LW.of0 (a : DK0 g) (b : MD0 g) : LW g := by
  obtain ⟨a1, a2, a3, a4, a5, a6, a7, a8⟩ := a
  obtain ⟨I, b1, b2, b3, b4⟩ := b
  refine ⟨⟨⟨⟨4, by decide, by decide, a1⟩, ⟨5, by decide, a2⟩, 0, by decide, a3, fun k hk => absurd hk (by omega), 0, by decide, a4, fun i hi => absurd hi (by omega), fun i j _ hj => absurd hj (by omega)⟩, ⟨0, by decide, a6⟩, 0, by decide, a8⟩, I, fun j hj => ?_⟩
  rcases (show j = 0 ∨ j = 1 by omega) with e | e <;> subst e
  · exact ⟨a5.trans b1.symm, a6.trans b3.symm, Or.inr b1⟩
  · exact ⟨a7.trans b2.symm, a8.trans b4.symm, Or.inr b2⟩
theorem nI_inj2 {a b : Nat} (ha : a < 2) (hb : b < 2) (e : nI a = nI b) : a = b := (nI_eq (by omega) (by omega)).mp e
theorem ir2 {j : Nat} (hj : j < 2) : am_ir (nI j) 2 = true := am_ir_t (fa_nlt.mp (nI_pos (by omega))) (nI_lt' (b := 2) hj (by decide))

theorem lw_0 {n k : Nat} {xs : Nat → Int32} (v1 : vp_in (nI k + 1) n) (v2 : vp_in (nI k + 2) n) (v3 : vp_in (nI k + 3) n) (v4 : vp_in (nI k + 4) n) (v5 : vp_in (nI k + 5) n) (w : LW g) (nx : ∀ g', LW g' → am (d + 60) 137 825 [some (.ref 1000), some (.ref 0), some (.ref 22), some (.int (nI k))] [] LY g' 0 0 (some (n, xs)) Q) : am (d + 60) 137 140 [some (.ref 1000), some (.ref 0), some (.ref 22), some (.int (nI k))] [] LY g 0 0 (some (n, xs)) Q := by
  refine am_run_k 6 (And.intro (v1) ?_)
  refine am_run_k 1 (am_cl ?_)
  refine f_people w.1 (fun r1 g1 I1 f1 => ?_)
  refine am_run_k 7 (And.intro (v1) ?_)
  refine am_run_k 1 (am_cl ?_)
  refine m_people (w.cls I1 f1).2.1 (fun r2 g2 I2 f2 => ?_)
  refine am_run_k 2 ?_
  exact nx _ ((w.cls I1 f1).mod I2 f2)
theorem lw_1 {n k : Nat} {xs : Nat → Int32} (v1 : vp_in (nI k + 1) n) (v2 : vp_in (nI k + 2) n) (v3 : vp_in (nI k + 3) n) (v4 : vp_in (nI k + 4) n) (v5 : vp_in (nI k + 5) n) (w : LW g) (nx : ∀ g', LW g' → am (d + 60) 137 825 [some (.ref 1000), some (.ref 0), some (.ref 22), some (.int (nI k))] [] LY g' 0 0 (some (n, xs)) Q) : am (d + 60) 137 163 [some (.ref 1000), some (.ref 0), some (.ref 22), some (.int (nI k))] [] LY g 0 0 (some (n, xs)) Q := by
  refine am_run_k 6 (And.intro (v1) ?_)
  refine am_run_k 5 (And.intro (v2) ?_)
  refine am_run_k 1 (am_cl ?_)
  refine f_door w.1 (fun r1 g1 I1 f1 => ?_)
  refine am_run_k 7 (And.intro (v1) ?_)
  refine am_run_k 5 (And.intro (v2) ?_)
  refine am_run_k 1 (am_cl ?_)
  refine m_door (w.cls I1 f1).2.1 (fun r2 g2 I2 f2 => ?_)
  refine am_run_k 2 ?_
  exact nx _ ((w.cls I1 f1).mod I2 f2)
theorem lw_2 {n k : Nat} {xs : Nat → Int32} (v1 : vp_in (nI k + 1) n) (v2 : vp_in (nI k + 2) n) (v3 : vp_in (nI k + 3) n) (v4 : vp_in (nI k + 4) n) (v5 : vp_in (nI k + 5) n) (w : LW g) (nx : ∀ g', LW g' → am (d + 60) 137 825 [some (.ref 1000), some (.ref 0), some (.ref 22), some (.int (nI k))] [] LY g' 0 0 (some (n, xs)) Q) : am (d + 60) 137 196 [some (.ref 1000), some (.ref 0), some (.ref 22), some (.int (nI k))] [] LY g 0 0 (some (n, xs)) Q := by
  refine am_run_k 6 (And.intro (v1) ?_)
  refine am_run_k 5 (And.intro (v2) ?_)
  refine am_run_k 1 (am_cl ?_)
  refine f_lies w.1 (fun r1 g1 I1 f1 => ?_)
  refine am_run_k 7 (And.intro (v1) ?_)
  refine am_run_k 5 (And.intro (v2) ?_)
  refine am_run_k 1 (am_cl ?_)
  refine m_lies (w.cls I1 f1).2.1 (fun r2 g2 I2 f2 => ?_)
  refine am_run_k 2 ?_
  exact nx _ ((w.cls I1 f1).mod I2 f2)
theorem lw_3 {n k : Nat} {xs : Nat → Int32} (v1 : vp_in (nI k + 1) n) (v2 : vp_in (nI k + 2) n) (v3 : vp_in (nI k + 3) n) (v4 : vp_in (nI k + 4) n) (v5 : vp_in (nI k + 5) n) (w : LW g) (nx : ∀ g', LW g' → am (d + 60) 137 825 [some (.ref 1000), some (.ref 0), some (.ref 22), some (.int (nI k))] [] LY g' 0 0 (some (n, xs)) Q) : am (d + 60) 137 229 [some (.ref 1000), some (.ref 0), some (.ref 22), some (.int (nI k))] [] LY g 0 0 (some (n, xs)) Q := by
  refine am_run_k 6 (And.intro (v1) ?_)
  refine am_run_k 5 (And.intro (v2) ?_)
  refine am_run_k 5 (And.intro (v3) ?_)
  refine am_run_k 1 (am_cl ?_)
  refine f_deed w.1 (fun r1 g1 I1 f1 => ?_)
  refine am_run_k 7 (And.intro (v1) ?_)
  refine am_run_k 5 (And.intro (v2) ?_)
  refine am_run_k 5 (And.intro (v3) ?_)
  refine am_run_k 1 (am_cl ?_)
  refine m_deed (w.cls I1 f1).2.1 (fun r2 g2 I2 f2 => ?_)
  refine am_run_k 2 ?_
  exact nx _ ((w.cls I1 f1).mod I2 f2)
theorem lw_4 {n k : Nat} {xs : Nat → Int32} (v1 : vp_in (nI k + 1) n) (v2 : vp_in (nI k + 2) n) (v3 : vp_in (nI k + 3) n) (v4 : vp_in (nI k + 4) n) (v5 : vp_in (nI k + 5) n) (w : LW g) (nx : ∀ g', LW g' → am (d + 60) 137 825 [some (.ref 1000), some (.ref 0), some (.ref 22), some (.int (nI k))] [] LY g' 0 0 (some (n, xs)) Q) : am (d + 60) 137 272 [some (.ref 1000), some (.ref 0), some (.ref 22), some (.int (nI k))] [] LY g 0 0 (some (n, xs)) Q := by
  refine am_run_k 6 (And.intro (v1) ?_)
  refine am_run_k 1 (am_cl ?_)
  refine f_told (fun r1 => ?_)
  refine am_run_k 7 (And.intro (v1) ?_)
  refine am_run_k 1 (am_cl ?_)
  refine m_told (fun r2 => ?_)
  refine am_run_k 2 ?_
  exact nx _ w
theorem lw_5 {n k : Nat} {xs : Nat → Int32} (v1 : vp_in (nI k + 1) n) (v2 : vp_in (nI k + 2) n) (v3 : vp_in (nI k + 3) n) (v4 : vp_in (nI k + 4) n) (v5 : vp_in (nI k + 5) n) (w : LW g) (nx : ∀ g', LW g' → am (d + 60) 137 825 [some (.ref 1000), some (.ref 0), some (.ref 22), some (.int (nI k))] [] LY g' 0 0 (some (n, xs)) Q) : am (d + 60) 137 295 [some (.ref 1000), some (.ref 0), some (.ref 22), some (.int (nI k))] [] LY g 0 0 (some (n, xs)) Q := by
  refine am_run_k 6 (And.intro (v1) ?_)
  refine am_run_k 5 (And.intro (v2) ?_)
  refine am_run_k 5 (And.intro (v3) ?_)
  refine am_run_k 5 (And.intro (v4) ?_)
  refine am_run_k 5 (And.intro (v5) ?_)
  refine am_run_k 1 (am_cl ?_)
  refine f_find w.1 (fun r1 g1 I1 f1 => ?_)
  refine am_run_k 7 (And.intro (v1) ?_)
  refine am_run_k 5 (And.intro (v2) ?_)
  refine am_run_k 5 (And.intro (v3) ?_)
  refine am_run_k 5 (And.intro (v4) ?_)
  refine am_run_k 5 (And.intro (v5) ?_)
  refine am_run_k 1 (am_cl ?_)
  refine m_find (w.cls I1 f1).2.1 (fun r2 g2 I2 f2 => ?_)
  refine am_run_k 2 ?_
  exact nx _ ((w.cls I1 f1).mod I2 f2)
theorem lw_6 {n k : Nat} {xs : Nat → Int32} (v1 : vp_in (nI k + 1) n) (v2 : vp_in (nI k + 2) n) (v3 : vp_in (nI k + 3) n) (v4 : vp_in (nI k + 4) n) (v5 : vp_in (nI k + 5) n) (w : LW g) (nx : ∀ g', LW g' → am (d + 60) 137 825 [some (.ref 1000), some (.ref 0), some (.ref 22), some (.int (nI k))] [] LY g' 0 0 (some (n, xs)) Q) : am (d + 60) 137 358 [some (.ref 1000), some (.ref 0), some (.ref 22), some (.int (nI k))] [] LY g 0 0 (some (n, xs)) Q := by
  refine am_run_k 6 (And.intro (v1) ?_)
  refine am_run_k 5 (And.intro (v2) ?_)
  refine am_run_k 5 (And.intro (v3) ?_)
  refine am_run_k 5 (And.intro (v4) ?_)
  refine am_run_k 1 (am_cl ?_)
  refine f_finds w.1 (fun r1 g1 I1 f1 => ?_)
  refine am_run_k 7 (And.intro (v1) ?_)
  refine am_run_k 5 (And.intro (v2) ?_)
  refine am_run_k 5 (And.intro (v3) ?_)
  refine am_run_k 5 (And.intro (v4) ?_)
  refine am_run_k 1 (am_cl ?_)
  refine m_finds (w.cls I1 f1).2.1 (fun r2 g2 I2 f2 => ?_)
  refine am_run_k 2 ?_
  exact nx _ ((w.cls I1 f1).mod I2 f2)
theorem lw_7 {n k : Nat} {xs : Nat → Int32} (v1 : vp_in (nI k + 1) n) (v2 : vp_in (nI k + 2) n) (v3 : vp_in (nI k + 3) n) (v4 : vp_in (nI k + 4) n) (v5 : vp_in (nI k + 5) n) (w : LW g) (nx : ∀ g', LW g' → am (d + 60) 137 825 [some (.ref 1000), some (.ref 0), some (.ref 22), some (.int (nI k))] [] LY g' 0 0 (some (n, xs)) Q) : am (d + 60) 137 411 [some (.ref 1000), some (.ref 0), some (.ref 22), some (.int (nI k))] [] LY g 0 0 (some (n, xs)) Q := by
  refine am_run_k 6 (And.intro (v1) ?_)
  refine am_run_k 5 (And.intro (v2) ?_)
  have sC : ∀ (a u : Int32), am (d + 60) 137 430 [some (.ref 1000), some (.ref 0), some (.ref 22), some (.int (nI k))] [.int u, .int a, .ref 0] LY g 0 0 (some (n, xs)) Q := by
    intro a u
    refine am_run_k 1 (am_cl ?_)
    refine f_found w.1 (fun r1 g1 I1 f1 => ?_)
    have sM : ∀ (a u : Int32), am (d + 60) 137 453 [some (.ref 1000), some (.ref 0), some (.ref 22), some (.int (nI k))] [.int u, .int a, .ref 22] LY g1 0 0 (some (n, xs)) Q := by
      intro a u
      refine am_run_k 1 (am_cl ?_)
      refine m_found (w.cls I1 f1).2.1 (fun r2 g2 I2 f2 => ?_)
      refine am_run_k 2 ?_
      exact nx _ ((w.cls I1 f1).mod I2 f2)
    refine am_run_k 7 (And.intro (v1) ?_)
    refine am_run_k 5 (And.intro (v2) ?_)
    refine am_run_k 1 (And.intro (fun hb => ?_) (fun hb => ?_))
    · refine am_run_k 1 ?_
      exact sM _ 0
    · refine am_run_k 2 ?_
      exact sM _ 1
  refine am_run_k 1 (And.intro (fun hb => ?_) (fun hb => ?_))
  · refine am_run_k 1 ?_
    exact sC _ 0
  · refine am_run_k 2 ?_
    exact sC _ 1
theorem lw_8 {n k : Nat} {xs : Nat → Int32} (v1 : vp_in (nI k + 1) n) (v2 : vp_in (nI k + 2) n) (v3 : vp_in (nI k + 3) n) (v4 : vp_in (nI k + 4) n) (v5 : vp_in (nI k + 5) n) (w : LW g) (nx : ∀ g', LW g' → am (d + 60) 137 825 [some (.ref 1000), some (.ref 0), some (.ref 22), some (.int (nI k))] [] LY g' 0 0 (some (n, xs)) Q) : am (d + 60) 137 460 [some (.ref 1000), some (.ref 0), some (.ref 22), some (.int (nI k))] [] LY g 0 0 (some (n, xs)) Q := by
  refine am_run_k 6 (And.intro (v1) ?_)
  refine am_run_k 5 (And.intro (v2) ?_)
  refine am_run_k 1 (am_cl ?_)
  refine f_about w.1 (fun r1 => ?_)
  refine am_run_k 7 (And.intro (v1) ?_)
  refine am_run_k 5 (And.intro (v2) ?_)
  refine am_run_k 1 (am_cl ?_)
  refine m_about w.2.1 (fun r2 => ?_)
  refine am_run_k 2 ?_
  exact nx _ w
theorem lw_9 {n k : Nat} {xs : Nat → Int32} (v1 : vp_in (nI k + 1) n) (v2 : vp_in (nI k + 2) n) (v3 : vp_in (nI k + 3) n) (v4 : vp_in (nI k + 4) n) (v5 : vp_in (nI k + 5) n) (w : LW g) (nx : ∀ g', LW g' → am (d + 60) 137 825 [some (.ref 1000), some (.ref 0), some (.ref 22), some (.int (nI k))] [] LY g' 0 0 (some (n, xs)) Q) : am (d + 60) 137 493 [some (.ref 1000), some (.ref 0), some (.ref 22), some (.int (nI k))] [] LY g 0 0 (some (n, xs)) Q := by
  refine am_run_k 2 (am_cl ?_)
  refine f_clear w.1 (fun r1 g1 I1 f1 => ?_)
  refine am_run_k 3 (am_cl ?_)
  refine m_clear (w.cls I1 f1).2.1 (fun r2 g2 I2 f2 => ?_)
  refine am_run_k 2 ?_
  exact nx _ ((w.cls I1 f1).mod I2 f2)
theorem lw_10 {n k : Nat} {xs : Nat → Int32} (v1 : vp_in (nI k + 1) n) (v2 : vp_in (nI k + 2) n) (v3 : vp_in (nI k + 3) n) (v4 : vp_in (nI k + 4) n) (v5 : vp_in (nI k + 5) n) (w : LW g) (nx : ∀ g', LW g' → am (d + 60) 137 825 [some (.ref 1000), some (.ref 0), some (.ref 22), some (.int (nI k))] [] LY g' 0 0 (some (n, xs)) Q) : am (d + 60) 137 506 [some (.ref 1000), some (.ref 0), some (.ref 22), some (.int (nI k))] [] LY g 0 0 (some (n, xs)) Q := by
  refine am_run_k 6 (And.intro (v1) ?_)
  refine am_run_k 1 (am_cl ?_)
  refine f_denied w.1 (fun r1 g1 I1 f1 => ?_)
  refine am_run_k 7 (And.intro (v1) ?_)
  refine am_run_k 1 (am_cl ?_)
  refine m_denied (w.cls I1 f1).2.1.1 (fun r2 g2 s2 => ?_)
  refine am_run_k 2 ?_
  exact nx _ ((w.cls I1 f1).mod ((w.cls I1 f1).2.1.sc s2) (frM.sc s2))
theorem lw_11 {n k : Nat} {xs : Nat → Int32} (v1 : vp_in (nI k + 1) n) (v2 : vp_in (nI k + 2) n) (v3 : vp_in (nI k + 3) n) (v4 : vp_in (nI k + 4) n) (v5 : vp_in (nI k + 5) n) (w : LW g) (nx : ∀ g', LW g' → am (d + 60) 137 825 [some (.ref 1000), some (.ref 0), some (.ref 22), some (.int (nI k))] [] LY g' 0 0 (some (n, xs)) Q) : am (d + 60) 137 529 [some (.ref 1000), some (.ref 0), some (.ref 22), some (.int (nI k))] [] LY g 0 0 (some (n, xs)) Q := by
  refine am_run_k 2 (am_cl ?_)
  refine f_suspects w.1 (fun r1 g1 s1 => ?_)
  refine am_run_k 3 (am_cl ?_)
  refine m_suspects (w.cls (w.1.sc s1) (frC.sc s1)).2.1.1 (fun r2 g2 s2 => ?_)
  refine am_run_k 2 ?_
  exact nx _ ((w.cls (w.1.sc s1) (frC.sc s1)).mod ((w.cls (w.1.sc s1) (frC.sc s1)).2.1.sc s2) (frM.sc s2))
theorem lw_12 {n k : Nat} {xs : Nat → Int32} (v1 : vp_in (nI k + 1) n) (v2 : vp_in (nI k + 2) n) (v3 : vp_in (nI k + 3) n) (v4 : vp_in (nI k + 4) n) (v5 : vp_in (nI k + 5) n) (w : LW g) (nx : ∀ g', LW g' → am (d + 60) 137 825 [some (.ref 1000), some (.ref 0), some (.ref 22), some (.int (nI k))] [] LY g' 0 0 (some (n, xs)) Q) : am (d + 60) 137 542 [some (.ref 1000), some (.ref 0), some (.ref 22), some (.int (nI k))] [] LY g 0 0 (some (n, xs)) Q := by
  refine am_run_k 6 (And.intro (v1) ?_)
  refine am_run_k 1 (am_cl ?_)
  refine f_with w.1 (fun r1 g1 s1 => ?_)
  refine am_run_k 7 (And.intro (v1) ?_)
  refine am_run_k 1 (am_cl ?_)
  refine m_with (w.cls (w.1.sc s1) (frC.sc s1)).2.1.1 (fun r2 g2 s2 => ?_)
  refine am_run_k 2 ?_
  exact nx _ ((w.cls (w.1.sc s1) (frC.sc s1)).mod ((w.cls (w.1.sc s1) (frC.sc s1)).2.1.sc s2) (frM.sc s2))
theorem lw_13 {n k : Nat} {xs : Nat → Int32} (v1 : vp_in (nI k + 1) n) (v2 : vp_in (nI k + 2) n) (v3 : vp_in (nI k + 3) n) (v4 : vp_in (nI k + 4) n) (v5 : vp_in (nI k + 5) n) (w : LW g) (nx : ∀ g', LW g' → am (d + 60) 137 825 [some (.ref 1000), some (.ref 0), some (.ref 22), some (.int (nI k))] [] LY g' 0 0 (some (n, xs)) Q) : am (d + 60) 137 565 [some (.ref 1000), some (.ref 0), some (.ref 22), some (.int (nI k))] [] LY g 0 0 (some (n, xs)) Q := by
  refine am_run_k 6 (And.intro (v1) ?_)
  refine am_run_k 5 (And.intro (v2) ?_)
  refine am_run_k 5 (And.intro (v3) ?_)
  refine am_run_k 1 (am_cl ?_)
  refine f_way w.1 (fun r1 g1 s1 => ?_)
  refine am_run_k 7 (And.intro (v1) ?_)
  refine am_run_k 5 (And.intro (v2) ?_)
  refine am_run_k 5 (And.intro (v3) ?_)
  refine am_run_k 1 (am_cl ?_)
  refine m_way (w.cls (w.1.sc s1) (frC.sc s1)).2.1 (fun r2 g2 s2 => ?_)
  refine am_run_k 2 ?_
  exact nx _ ((w.cls (w.1.sc s1) (frC.sc s1)).mod ((w.cls (w.1.sc s1) (frC.sc s1)).2.1.sc s2) (frM.sc s2))
theorem lw_14 {n k : Nat} {xs : Nat → Int32} (v1 : vp_in (nI k + 1) n) (v2 : vp_in (nI k + 2) n) (v3 : vp_in (nI k + 3) n) (v4 : vp_in (nI k + 4) n) (v5 : vp_in (nI k + 5) n) (w : LW g) (nx : ∀ g', LW g' → am (d + 60) 137 825 [some (.ref 1000), some (.ref 0), some (.ref 22), some (.int (nI k))] [] LY g' 0 0 (some (n, xs)) Q) : am (d + 60) 137 608 [some (.ref 1000), some (.ref 0), some (.ref 22), some (.int (nI k))] [] LY g 0 0 (some (n, xs)) Q := by
  refine am_run_k 2 (am_cl ?_)
  refine f_doer w.1 (fun r1 g1 s1 => ?_)
  refine am_run_k 3 (am_cl ?_)
  refine m_doer (w.cls (w.1.sc s1) (frC.sc s1)).2.1.1 (fun r2 g2 s2 => ?_)
  refine am_run_k 2 ?_
  exact nx _ ((w.cls (w.1.sc s1) (frC.sc s1)).mod ((w.cls (w.1.sc s1) (frC.sc s1)).2.1.sc s2) (frM.sc s2))
theorem lw_15 {n k : Nat} {xs : Nat → Int32} (v1 : vp_in (nI k + 1) n) (v2 : vp_in (nI k + 2) n) (v3 : vp_in (nI k + 3) n) (v4 : vp_in (nI k + 4) n) (v5 : vp_in (nI k + 5) n) (w : LW g) (nx : ∀ g', LW g' → am (d + 60) 137 825 [some (.ref 1000), some (.ref 0), some (.ref 22), some (.int (nI k))] [] LY g' 0 0 (some (n, xs)) Q) : am (d + 60) 137 621 [some (.ref 1000), some (.ref 0), some (.ref 22), some (.int (nI k))] [] LY g 0 0 (some (n, xs)) Q := by
  refine am_run_k 2 (am_cl ?_)
  refine f_next w.1 (fun r1 g1 s1 => ?_)
  refine am_run_k 3 (am_cl ?_)
  refine m_next (w.cls (w.1.sc s1) (frC.sc s1)).2.1.1 (fun r2 g2 s2 => ?_)
  refine am_run_k 2 ?_
  exact nx _ ((w.cls (w.1.sc s1) (frC.sc s1)).mod ((w.cls (w.1.sc s1) (frC.sc s1)).2.1.sc s2) (frM.sc s2))
theorem lw_16 {n k : Nat} {xs : Nat → Int32} (v1 : vp_in (nI k + 1) n) (v2 : vp_in (nI k + 2) n) (v3 : vp_in (nI k + 3) n) (v4 : vp_in (nI k + 4) n) (v5 : vp_in (nI k + 5) n) (w : LW g) (nx : ∀ g', LW g' → am (d + 60) 137 825 [some (.ref 1000), some (.ref 0), some (.ref 22), some (.int (nI k))] [] LY g' 0 0 (some (n, xs)) Q) : am (d + 60) 137 634 [some (.ref 1000), some (.ref 0), some (.ref 22), some (.int (nI k))] [] LY g 0 0 (some (n, xs)) Q := by
  refine am_run_k 2 (am_cl ?_)
  refine f_fewest w.1 (fun r1 g1 s1 => ?_)
  refine am_run_k 3 (am_cl ?_)
  refine m_fewest (w.cls (w.1.sc s1) (frC.sc s1)).2.1.1 (fun r2 g2 s2 => ?_)
  refine am_run_k 2 ?_
  exact nx _ ((w.cls (w.1.sc s1) (frC.sc s1)).mod ((w.cls (w.1.sc s1) (frC.sc s1)).2.1.sc s2) (frM.sc s2))
theorem lw_17 {n k : Nat} {xs : Nat → Int32} (v1 : vp_in (nI k + 1) n) (v2 : vp_in (nI k + 2) n) (v3 : vp_in (nI k + 3) n) (v4 : vp_in (nI k + 4) n) (v5 : vp_in (nI k + 5) n) (w : LW g) (nx : ∀ g', LW g' → am (d + 60) 137 825 [some (.ref 1000), some (.ref 0), some (.ref 22), some (.int (nI k))] [] LY g' 0 0 (some (n, xs)) Q) : am (d + 60) 137 647 [some (.ref 1000), some (.ref 0), some (.ref 22), some (.int (nI k))] [] LY g 0 0 (some (n, xs)) Q := by
  refine am_run_k 2 (am_cl ?_)
  refine f_least w.1 (fun r1 g1 s1 => ?_)
  refine am_run_k 3 (am_cl ?_)
  refine m_least (w.cls (w.1.sc s1) (frC.sc s1)).2.1.1 (fun r2 g2 s2 => ?_)
  refine am_run_k 2 ?_
  exact nx _ ((w.cls (w.1.sc s1) (frC.sc s1)).mod ((w.cls (w.1.sc s1) (frC.sc s1)).2.1.sc s2) (frM.sc s2))
theorem lw_18 {n k : Nat} {xs : Nat → Int32} (v1 : vp_in (nI k + 1) n) (v2 : vp_in (nI k + 2) n) (v3 : vp_in (nI k + 3) n) (v4 : vp_in (nI k + 4) n) (v5 : vp_in (nI k + 5) n) (w : LW g) (nx : ∀ g', LW g' → am (d + 60) 137 825 [some (.ref 1000), some (.ref 0), some (.ref 22), some (.int (nI k))] [] LY g' 0 0 (some (n, xs)) Q) : am (d + 60) 137 660 [some (.ref 1000), some (.ref 0), some (.ref 22), some (.int (nI k))] [] LY g 0 0 (some (n, xs)) Q := by
  refine am_run_k 6 (And.intro (v1) ?_)
  refine am_run_k 1 (am_cl ?_)
  refine f_claim w.1 (fun r1 g1 s1 => ?_)
  refine am_run_k 7 (And.intro (v1) ?_)
  refine am_run_k 1 (am_cl ?_)
  refine m_claim (w.cls (w.1.sc s1) (frC.sc s1)).2.1 (fun r2 g2 s2 => ?_)
  refine am_run_k 2 ?_
  exact nx _ ((w.cls (w.1.sc s1) (frC.sc s1)).mod ((w.cls (w.1.sc s1) (frC.sc s1)).2.1.sc s2) (frM.sc s2))
theorem lw_19 {n k : Nat} {xs : Nat → Int32} (v1 : vp_in (nI k + 1) n) (v2 : vp_in (nI k + 2) n) (v3 : vp_in (nI k + 3) n) (v4 : vp_in (nI k + 4) n) (v5 : vp_in (nI k + 5) n) (w : LW g) (nx : ∀ g', LW g' → am (d + 60) 137 825 [some (.ref 1000), some (.ref 0), some (.ref 22), some (.int (nI k))] [] LY g' 0 0 (some (n, xs)) Q) : am (d + 60) 137 683 [some (.ref 1000), some (.ref 0), some (.ref 22), some (.int (nI k))] [] LY g 0 0 (some (n, xs)) Q := by
  refine am_run_k 6 (And.intro (v1) ?_)
  refine am_run_k 1 (am_cl ?_)
  refine f_make w.1 (fun r1 g1 I1 f1 => ?_)
  refine am_run_k 7 (And.intro (v1) ?_)
  refine am_run_k 1 (am_cl ?_)
  refine m_make (w.cls I1 f1).2.1 (fun r2 g2 I2 f2 => ?_)
  refine am_run_k 2 ?_
  exact nx _ ((w.cls I1 f1).mod I2 f2)
theorem lw_20 {n k : Nat} {xs : Nat → Int32} (v1 : vp_in (nI k + 1) n) (v2 : vp_in (nI k + 2) n) (v3 : vp_in (nI k + 3) n) (v4 : vp_in (nI k + 4) n) (v5 : vp_in (nI k + 5) n) (w : LW g) (nx : ∀ g', LW g' → am (d + 60) 137 825 [some (.ref 1000), some (.ref 0), some (.ref 22), some (.int (nI k))] [] LY g' 0 0 (some (n, xs)) Q) : am (d + 60) 137 706 [some (.ref 1000), some (.ref 0), some (.ref 22), some (.int (nI k))] [] LY g 0 0 (some (n, xs)) Q := by
  refine am_run_k 6 (And.intro (v1) ?_)
  refine am_run_k 5 (And.intro (v2) ?_)
  refine am_run_k 5 (And.intro (v3) ?_)
  refine am_run_k 1 (am_cl ?_)
  refine f_sheet w.1 (fun r1 er1 hr1 => ?_) (fun m j l g1 hm em hj ej hl el es I1 e1 e2 e3 _ _ => ?_)
  · refine am_run_k 7 (And.intro (v1) ?_)
    refine am_run_k 5 (And.intro (v2) ?_)
    refine am_run_k 5 (And.intro (v3) ?_)
    refine am_run_k 1 (am_cl ?_)
    refine m_sheet w.2.1 (fun r2 er2 hr2 => ?_) (fun m j l g2 hm em hj ej hl el es I2 _ _ _ => ?_)
    · refine am_run_k 2 ?_
      exact nx _ w
    · rw [er1, es, em] at hr1
      exact absurd hr1 (nI_pos (by omega))
  · have w1 : IM g1 := w.2.1.hi (fun k hk => e1 k (by omega) (by omega))
    refine am_run_k 7 (And.intro (v1) ?_)
    refine am_run_k 5 (And.intro (v2) ?_)
    refine am_run_k 5 (And.intro (v3) ?_)
    refine am_run_k 1 (am_cl ?_)
    refine m_sheet w1 (fun r2 er2 hr2 => ?_) (fun m' j' l' g2 hm' em' hj' ej' hl' el' es' I2 k1 k2 k3 => ?_)
    · rw [er2, es, em] at hr2
      exact absurd hr2 (nI_pos (by omega))
    · have hjj : j = j' := nI_inj2 hj hj' (ej.symm.trans ej')
      subst hjj
      refine am_run_k 2 ?_
      refine nx _ ⟨I1.lo k1, I2, fun i hi => ?_⟩
      rw [k2 i, k3 i, k1 (18 + 2 * i) (by omega)]
      by_cases q : i = j
      · subst q
        rw [if_pos rfl, if_pos rfl]
        refine ⟨e2, e3, Or.inl ?_⟩
        rw [el]
        exact nI_pos (by omega)
      · rw [if_neg q, if_neg q, e1 (18 + 2 * i) (by omega) (by omega), e1 28 (by omega) (by omega), e1 29 (by omega) (by omega)]
        exact w.2.2 i hi
theorem lw_21 {n k : Nat} {xs : Nat → Int32} (v1 : vp_in (nI k + 1) n) (v2 : vp_in (nI k + 2) n) (v3 : vp_in (nI k + 3) n) (v4 : vp_in (nI k + 4) n) (v5 : vp_in (nI k + 5) n) (w : LW g) (nx : ∀ g', LW g' → am (d + 60) 137 825 [some (.ref 1000), some (.ref 0), some (.ref 22), some (.int (nI k))] [] LY g' 0 0 (some (n, xs)) Q) : am (d + 60) 137 749 [some (.ref 1000), some (.ref 0), some (.ref 22), some (.int (nI k))] [] LY g 0 0 (some (n, xs)) Q := by
  refine am_run_k 6 (And.intro (v1) ?_)
  refine am_run_k 1 (am_cl ?_)
  refine f_drop w.1 (fun a0 => ?_) (fun j hj ej l1 => ?_) (fun j g1 hj ej l1 I1 e1 e2 e3 => ?_)
  · refine am_run_k 7 (And.intro (v1) ?_)
    refine am_run_k 1 (am_cl ?_)
    refine m_drop w.2.1 (fun _ => ?_) (fun j hj ej _ => ?_) (fun j hj ej _ _ => ?_)
    · refine am_run_k 2 ?_
      exact nx _ w
    · rw [ej, ir2 hj] at a0
      exact absurd a0 (by decide)
    · rw [ej, ir2 hj] at a0
      exact absurd a0 (by decide)
  · refine am_run_k 7 (And.intro (v1) ?_)
    refine am_run_k 1 (am_cl ?_)
    refine m_drop w.2.1 (fun a0 => ?_) (fun j hj ej _ => ?_) (fun j' hj' ej' l2 _ => ?_)
    · rw [ej, ir2 hj] at a0
      exact absurd a0 (by decide)
    · refine am_run_k 2 ?_
      exact nx _ w
    · have hjj : j = j' := nI_inj2 hj hj' (ej.symm.trans ej')
      subst hjj
      rw [← (w.2.2 j hj).1, l1] at l2
      exact absurd (show (-1 : Int32) < 0 by decide) l2
  · have w1 : IM g1 := w.2.1.hi (fun k hk => e1 k (by omega))
    refine am_run_k 7 (And.intro (v1) ?_)
    refine am_run_k 1 (am_cl ?_)
    refine m_drop w1 (fun a0 => ?_) (fun j' hj' ej' l2 => ?_) (fun j' hj' ej' l2 I2 => ?_)
    · rw [ej, ir2 hj] at a0
      exact absurd a0 (by decide)
    · have hjj : j = j' := nI_inj2 hj hj' (ej.symm.trans ej')
      subst hjj
      rw [e1 28 (by omega)] at l2
      rw [(w.2.2 j hj).1] at l1
      exact absurd ((w.2.2 j hj).2.2.resolve_left (fun z => z l2)) l1
    · have hjj : j = j' := nI_inj2 hj hj' (ej.symm.trans ej')
      subst hjj
      refine am_run_k 2 ?_
      refine nx _ ⟨I1.lo (fun k hk => am_up_ne (by omega)), I2, fun i hi => ?_⟩
      rw [am_up_ne (show 18 + 2 * i ≠ 28 by omega), am_up_ne (show 29 ≠ 28 by decide)]
      by_cases q : i = j
      · subst q
        rw [am_up_us, e3, e1 29 (by omega)]
        exact ⟨e2, (w.2.2 i hi).2.1, Or.inr rfl⟩
      · rw [am_up_un q, e1 (18 + 2 * i) (by omega), e1 28 (by omega), e1 29 (by omega)]
        exact w.2.2 i hi
theorem lw_22 {n k : Nat} {xs : Nat → Int32} (v1 : vp_in (nI k + 1) n) (v2 : vp_in (nI k + 2) n) (v3 : vp_in (nI k + 3) n) (v4 : vp_in (nI k + 4) n) (v5 : vp_in (nI k + 5) n) (w : LW g) (nx : ∀ g', LW g' → am (d + 60) 137 825 [some (.ref 1000), some (.ref 0), some (.ref 22), some (.int (nI k))] [] LY g' 0 0 (some (n, xs)) Q) : am (d + 60) 137 772 [some (.ref 1000), some (.ref 0), some (.ref 22), some (.int (nI k))] [] LY g 0 0 (some (n, xs)) Q := by
  refine am_run_k 6 (And.intro (v1) ?_)
  refine am_run_k 5 (And.intro (v2) ?_)
  refine am_run_k 5 (And.intro (v3) ?_)
  refine am_run_k 5 (And.intro (v4) ?_)
  refine am_run_k 1 (am_cl ?_)
  refine f_item w.1 (fun a0 => ?_) (fun j g1 hj ej ab I1 e1 => ?_)
  · refine am_run_k 6 (And.intro (v1) ?_)
    refine am_run_k 5 (And.intro (v2) ?_)
    refine am_run_k 5 (And.intro (v3) ?_)
    refine am_run_k 5 (And.intro (v4) ?_)
    refine am_run_k 1 (am_cl ?_)
    refine m_item w.2.1 (fun j hj => (w.2.2 j hj).2.2) (fun _ => ?_) (fun j g2 hj ej ab I2 e2 => ?_)
    · refine am_run_k 1 (And.intro (fun h1 => ?_) (fun hx => absurd ((rfl)) hx))
      exact nx _ w
    · rw [ej, ir2 hj, ab] at a0
      exact absurd a0 (by decide)
  · have w1 : LW g1 := ⟨I1, w.2.1.hi (fun k hk => e1 k (by omega)), fun i hi => by
      rw [e1 (18 + 2 * i) (by omega), e1 28 (by omega), e1 29 (by omega)]
      exact w.2.2 i hi⟩
    refine am_run_k 6 (And.intro (v1) ?_)
    refine am_run_k 5 (And.intro (v2) ?_)
    refine am_run_k 5 (And.intro (v3) ?_)
    refine am_run_k 5 (And.intro (v4) ?_)
    refine am_run_k 1 (am_cl ?_)
    refine m_item w1.2.1 (fun j hj => (w1.2.2 j hj).2.2) (fun a0 => ?_) (fun j' g2 hj' ej' _ I2 e2 => ?_)
    · rw [ej, ir2 hj, ab] at a0
      exact absurd a0 (by decide)
    · have hjj : j = j' := nI_inj2 hj hj' (ej.symm.trans ej')
      subst hjj
      refine am_run_k 1 (And.intro (fun h1 => ?_) (fun hx => absurd ((show itA _ _ (g (18 + 2 * j) 1) (g (18 + 2 * j) 2) = itA _ _ (g1 28 j) (g1 29 j) by rw [e1 28 (by omega), e1 29 (by omega), (w.2.2 j hj).1, (w.2.2 j hj).2.1])) hx))
      exact nx _ (w1.mod I2 (fun k hk => e2 k (by omega)))

theorem lw_sw {n k : Nat} {xs : Nat → Int32} (v1 : vp_in (nI k + 1) n) (v2 : vp_in (nI k + 2) n) (v3 : vp_in (nI k + 3) n) (v4 : vp_in (nI k + 4) n) (v5 : vp_in (nI k + 5) n) (w : LW g) (nx : ∀ g', LW g' → am (d + 60) 137 825 [some (.ref 1000), some (.ref 0), some (.ref 22), some (.int (nI k))] [] LY g' 0 0 (some (n, xs)) Q) (x : Int32) : am (d + 60) 137 33 [some (.ref 1000), some (.ref 0), some (.ref 22), some (.int (nI k))] [.int x] LY g 0 0 (some (n, xs)) Q :=
  am_run_k 1 (And.intro (fun _ => lw_0 v1 v2 v3 v4 v5 w nx) (fun _ => And.intro (fun _ => lw_1 v1 v2 v3 v4 v5 w nx) (fun _ => And.intro (fun _ => lw_2 v1 v2 v3 v4 v5 w nx) (fun _ => And.intro (fun _ => lw_3 v1 v2 v3 v4 v5 w nx) (fun _ => And.intro (fun _ => lw_4 v1 v2 v3 v4 v5 w nx) (fun _ => And.intro (fun _ => lw_5 v1 v2 v3 v4 v5 w nx) (fun _ => And.intro (fun _ => lw_6 v1 v2 v3 v4 v5 w nx) (fun _ => And.intro (fun _ => lw_7 v1 v2 v3 v4 v5 w nx) (fun _ => And.intro (fun _ => lw_8 v1 v2 v3 v4 v5 w nx) (fun _ => And.intro (fun _ => lw_9 v1 v2 v3 v4 v5 w nx) (fun _ => And.intro (fun _ => lw_10 v1 v2 v3 v4 v5 w nx) (fun _ => And.intro (fun _ => lw_11 v1 v2 v3 v4 v5 w nx) (fun _ => And.intro (fun _ => lw_12 v1 v2 v3 v4 v5 w nx) (fun _ => And.intro (fun _ => lw_13 v1 v2 v3 v4 v5 w nx) (fun _ => And.intro (fun _ => lw_14 v1 v2 v3 v4 v5 w nx) (fun _ => And.intro (fun _ => lw_15 v1 v2 v3 v4 v5 w nx) (fun _ => And.intro (fun _ => lw_16 v1 v2 v3 v4 v5 w nx) (fun _ => And.intro (fun _ => lw_17 v1 v2 v3 v4 v5 w nx) (fun _ => And.intro (fun _ => lw_18 v1 v2 v3 v4 v5 w nx) (fun _ => And.intro (fun _ => lw_19 v1 v2 v3 v4 v5 w nx) (fun _ => And.intro (fun _ => lw_20 v1 v2 v3 v4 v5 w nx) (fun _ => And.intro (fun _ => lw_21 v1 v2 v3 v4 v5 w nx) (fun _ => And.intro (fun _ => lw_22 v1 v2 v3 v4 v5 w nx) (fun _ => nx g w))))))))))))))))))))))))

theorem lw_loop {n : Nat} {xs : Nat → Int32} (hn : n < 2 ^ 30) (hQ : ∀ L g, Q (some (.int 1)) L g) : ∀ (m k : Nat) (x : Int32) (g : am_G), n ≤ k + m → x = nI k → k ≤ n → LW g → am (d + 60) 137 18 [some (.ref 1000), some (.ref 0), some (.ref 22), some (.int x)] [] LY g 0 0 (some (n, xs)) Q := by
  intro m
  induction m with
  | zero =>
    intro k x g hm hx hk w
    subst hx
    refine am_run_k 6 (And.intro (fun h1 => ?_) (fun h1 => ?_))
    · refine am_run_k 2 ?_
      exact hQ _ _
    · have := nI_sub_lt (m := n) (n := 6) hn (by decide) rfl (by omega) h1
      omega
  | succ m ih =>
    intro k x g hm hx hk w
    subst hx
    refine am_run_k 6 (And.intro (fun h1 => ?_) (fun h1 => ?_))
    · refine am_run_k 2 ?_
      exact hQ _ _
    · have hr := nI_sub_lt (m := n) (n := 6) hn (by decide) rfl (by omega) h1
      refine am_run_k 3 (And.intro (vpn (by omega) (by omega)) ?_)
      refine am_run_k 2 ?_
      refine lw_sw (vpe (nI_1 k) (by omega) (by omega)) (vpe (nIp2 k) (by omega) (by omega)) (vpe (nIp3 k) (by omega) (by omega)) (vpe (nIp4 k) (by omega) (by omega)) (vpe (nI_add k 5) (by omega) (by omega)) w (fun g' w' => ?_) _
      refine am_run_k 2 ?_
      exact ih (k + 6) _ g' (by omega) (nI_add k 6) (by omega) w'
set_option maxRecDepth 100000 in
/-- the whole run of the law, on the machine -/
theorem law_run {n : Nat} {xs : Nat → Int32} (hn : n < 2 ^ 30) (hQ : ∀ L g, Q (some (.int 1)) L g) : am (d + 60) 137 0 [some (.ref 1000), none, none, none] [] [] g 35 1067 (some (n, xs)) Q := by
  refine am_run_k 3 (am_cl ?_)
  refine c_desk (fun g1 k1 => ?_)
  refine am_run_k 4 (am_cl ?_)
  refine c_model (fun g2 e2 m2 => ?_) (fun i => congrFun upc_s i)
  refine am_run_k 3 ?_
  refine lw_loop hn hQ n 0 _ g2 (by omega) rfl (by omega) (LW.of0 ?_ m2)
  obtain ⟨a1, a2, a3, a4, a5, a6, a7, a8⟩ := k1
  have e : ∀ k, k < 22 → g2 k = g1 k := fun k hk => by rw [e2 k hk]; exact upc_n (by show k ≠ 22; omega)
  unfold DK0
  rw [e 1 (by decide), e 5 (by decide), e 18 (by decide), e 20 (by decide)]
  exact ⟨a1, a2, a3, a4, a5, a6, a7, a8⟩
end LAW
