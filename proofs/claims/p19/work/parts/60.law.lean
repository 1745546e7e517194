section LAW
variable {d : Nat} {g : am_G} {bc bs : Nat} {sx : am_S} {Q : am_Q}
def LW (k : Nat) (g : am_G) : Prop := ∃ B c f, T g B c f ∧ B ≤ k
theorem LW.up {k : Nat} (w : LW k g) : LW (k + 6) g := by
  obtain ⟨B, c, f, t, hB⟩ := w
  exact ⟨B, c, f, t, by omega⟩

theorem lw_0 {n k : Nat} {xs : Nat → Int32} (v1 : vp_in (nI k + 1) n) (v2 : vp_in (nI k + 2) n) (v3 : vp_in (nI k + 3) n) (v4 : vp_in (nI k + 4) n) (v5 : vp_in (nI k + 5) n) (hk : k < 2 ^ 30) (w : LW k g) (nx : ∀ g', LW (k + 6) g' → am (d + 60) 137 825 [some (.ref 1000), some (.ref 0), some (.ref 22), some (.int (nI k))] [] LY g' 0 0 (some (n, xs)) Q) : am (d + 60) 137 140 [some (.ref 1000), some (.ref 0), some (.ref 22), some (.int (nI k))] [] LY g 0 0 (some (n, xs)) Q := by
  obtain ⟨B, c, f, t, hB⟩ := w
  refine am_run_k 6 (And.intro (v1) ?_)
  refine am_run_k 1 (am_cl ?_)
  refine x_people t (fun r1 g1 m1 => ?_)
  refine am_run_k 7 (And.intro (v1) ?_)
  refine am_run_k 1 (am_cl ?_)
  refine y_people t m1 (fun g2 c2 f2 t2 => ?_)
  refine am_run_k 2 ?_
  exact nx _ ⟨B, c2, f2, t2, by omega⟩
theorem lw_1 {n k : Nat} {xs : Nat → Int32} (v1 : vp_in (nI k + 1) n) (v2 : vp_in (nI k + 2) n) (v3 : vp_in (nI k + 3) n) (v4 : vp_in (nI k + 4) n) (v5 : vp_in (nI k + 5) n) (hk : k < 2 ^ 30) (w : LW k g) (nx : ∀ g', LW (k + 6) g' → am (d + 60) 137 825 [some (.ref 1000), some (.ref 0), some (.ref 22), some (.int (nI k))] [] LY g' 0 0 (some (n, xs)) Q) : am (d + 60) 137 163 [some (.ref 1000), some (.ref 0), some (.ref 22), some (.int (nI k))] [] LY g 0 0 (some (n, xs)) Q := by
  obtain ⟨B, c, f, t, hB⟩ := w
  refine am_run_k 6 (And.intro (v1) ?_)
  refine am_run_k 5 (And.intro (v2) ?_)
  refine am_run_k 1 (am_cl ?_)
  refine x_door t (fun r1 g1 m1 => ?_)
  refine am_run_k 7 (And.intro (v1) ?_)
  refine am_run_k 5 (And.intro (v2) ?_)
  refine am_run_k 1 (am_cl ?_)
  refine y_door t m1 (fun g2 c2 f2 t2 => ?_)
  refine am_run_k 2 ?_
  exact nx _ ⟨B, c2, f2, t2, by omega⟩
theorem lw_2 {n k : Nat} {xs : Nat → Int32} (v1 : vp_in (nI k + 1) n) (v2 : vp_in (nI k + 2) n) (v3 : vp_in (nI k + 3) n) (v4 : vp_in (nI k + 4) n) (v5 : vp_in (nI k + 5) n) (hk : k < 2 ^ 30) (w : LW k g) (nx : ∀ g', LW (k + 6) g' → am (d + 60) 137 825 [some (.ref 1000), some (.ref 0), some (.ref 22), some (.int (nI k))] [] LY g' 0 0 (some (n, xs)) Q) : am (d + 60) 137 196 [some (.ref 1000), some (.ref 0), some (.ref 22), some (.int (nI k))] [] LY g 0 0 (some (n, xs)) Q := by
  obtain ⟨B, c, f, t, hB⟩ := w
  refine am_run_k 6 (And.intro (v1) ?_)
  refine am_run_k 5 (And.intro (v2) ?_)
  refine am_run_k 1 (am_cl ?_)
  refine x_lies t (fun r1 g1 m1 => ?_)
  refine am_run_k 7 (And.intro (v1) ?_)
  refine am_run_k 5 (And.intro (v2) ?_)
  refine am_run_k 1 (am_cl ?_)
  refine y_lies t m1 (fun g2 c2 f2 t2 => ?_)
  refine am_run_k 2 ?_
  exact nx _ ⟨B, c2, f2, t2, by omega⟩
theorem lw_3 {n k : Nat} {xs : Nat → Int32} (v1 : vp_in (nI k + 1) n) (v2 : vp_in (nI k + 2) n) (v3 : vp_in (nI k + 3) n) (v4 : vp_in (nI k + 4) n) (v5 : vp_in (nI k + 5) n) (hk : k < 2 ^ 30) (w : LW k g) (nx : ∀ g', LW (k + 6) g' → am (d + 60) 137 825 [some (.ref 1000), some (.ref 0), some (.ref 22), some (.int (nI k))] [] LY g' 0 0 (some (n, xs)) Q) : am (d + 60) 137 229 [some (.ref 1000), some (.ref 0), some (.ref 22), some (.int (nI k))] [] LY g 0 0 (some (n, xs)) Q := by
  obtain ⟨B, c, f, t, hB⟩ := w
  refine am_run_k 6 (And.intro (v1) ?_)
  refine am_run_k 5 (And.intro (v2) ?_)
  refine am_run_k 5 (And.intro (v3) ?_)
  refine am_run_k 1 (am_cl ?_)
  refine x_deed t (fun r1 g1 m1 => ?_)
  refine am_run_k 7 (And.intro (v1) ?_)
  refine am_run_k 5 (And.intro (v2) ?_)
  refine am_run_k 5 (And.intro (v3) ?_)
  refine am_run_k 1 (am_cl ?_)
  refine y_deed t m1 (fun g2 c2 f2 t2 => ?_)
  refine am_run_k 2 ?_
  exact nx _ ⟨B, c2, f2, t2, by omega⟩
theorem lw_4 {n k : Nat} {xs : Nat → Int32} (v1 : vp_in (nI k + 1) n) (v2 : vp_in (nI k + 2) n) (v3 : vp_in (nI k + 3) n) (v4 : vp_in (nI k + 4) n) (v5 : vp_in (nI k + 5) n) (hk : k < 2 ^ 30) (w : LW k g) (nx : ∀ g', LW (k + 6) g' → am (d + 60) 137 825 [some (.ref 1000), some (.ref 0), some (.ref 22), some (.int (nI k))] [] LY g' 0 0 (some (n, xs)) Q) : am (d + 60) 137 272 [some (.ref 1000), some (.ref 0), some (.ref 22), some (.int (nI k))] [] LY g 0 0 (some (n, xs)) Q := by
  obtain ⟨B, c, f, t, hB⟩ := w
  refine am_run_k 6 (And.intro (v1) ?_)
  refine am_run_k 1 (am_cl ?_)
  refine x_told t ?_
  refine am_run_k 7 (And.intro (v1) ?_)
  refine am_run_k 1 (am_cl ?_)
  refine y_told t ?_
  refine am_run_k 2 ?_
  exact nx _ ⟨B, c, f, t, by omega⟩
theorem lw_5 {n k : Nat} {xs : Nat → Int32} (v1 : vp_in (nI k + 1) n) (v2 : vp_in (nI k + 2) n) (v3 : vp_in (nI k + 3) n) (v4 : vp_in (nI k + 4) n) (v5 : vp_in (nI k + 5) n) (hk : k < 2 ^ 30) (w : LW k g) (nx : ∀ g', LW (k + 6) g' → am (d + 60) 137 825 [some (.ref 1000), some (.ref 0), some (.ref 22), some (.int (nI k))] [] LY g' 0 0 (some (n, xs)) Q) : am (d + 60) 137 295 [some (.ref 1000), some (.ref 0), some (.ref 22), some (.int (nI k))] [] LY g 0 0 (some (n, xs)) Q := by
  obtain ⟨B, c, f, t, hB⟩ := w
  refine am_run_k 6 (And.intro (v1) ?_)
  refine am_run_k 5 (And.intro (v2) ?_)
  refine am_run_k 5 (And.intro (v3) ?_)
  refine am_run_k 5 (And.intro (v4) ?_)
  refine am_run_k 5 (And.intro (v5) ?_)
  refine am_run_k 1 (am_cl ?_)
  refine x_find t (fun r1 g1 m1 => ?_)
  refine am_run_k 7 (And.intro (v1) ?_)
  refine am_run_k 5 (And.intro (v2) ?_)
  refine am_run_k 5 (And.intro (v3) ?_)
  refine am_run_k 5 (And.intro (v4) ?_)
  refine am_run_k 5 (And.intro (v5) ?_)
  refine am_run_k 1 (am_cl ?_)
  refine y_find t m1 (fun g2 c2 f2 t2 => ?_)
  refine am_run_k 2 ?_
  exact nx _ ⟨B, c2, f2, t2, by omega⟩
theorem lw_6 {n k : Nat} {xs : Nat → Int32} (v1 : vp_in (nI k + 1) n) (v2 : vp_in (nI k + 2) n) (v3 : vp_in (nI k + 3) n) (v4 : vp_in (nI k + 4) n) (v5 : vp_in (nI k + 5) n) (hk : k < 2 ^ 30) (w : LW k g) (nx : ∀ g', LW (k + 6) g' → am (d + 60) 137 825 [some (.ref 1000), some (.ref 0), some (.ref 22), some (.int (nI k))] [] LY g' 0 0 (some (n, xs)) Q) : am (d + 60) 137 358 [some (.ref 1000), some (.ref 0), some (.ref 22), some (.int (nI k))] [] LY g 0 0 (some (n, xs)) Q := by
  obtain ⟨B, c, f, t, hB⟩ := w
  refine am_run_k 6 (And.intro (v1) ?_)
  refine am_run_k 5 (And.intro (v2) ?_)
  refine am_run_k 5 (And.intro (v3) ?_)
  refine am_run_k 5 (And.intro (v4) ?_)
  refine am_run_k 1 (am_cl ?_)
  refine x_finds t (fun r1 g1 m1 => ?_)
  refine am_run_k 7 (And.intro (v1) ?_)
  refine am_run_k 5 (And.intro (v2) ?_)
  refine am_run_k 5 (And.intro (v3) ?_)
  refine am_run_k 5 (And.intro (v4) ?_)
  refine am_run_k 1 (am_cl ?_)
  refine y_finds t m1 (fun g2 c2 f2 t2 => ?_)
  refine am_run_k 2 ?_
  exact nx _ ⟨B, c2, f2, t2, by omega⟩
theorem lw_7 {n k : Nat} {xs : Nat → Int32} (v1 : vp_in (nI k + 1) n) (v2 : vp_in (nI k + 2) n) (v3 : vp_in (nI k + 3) n) (v4 : vp_in (nI k + 4) n) (v5 : vp_in (nI k + 5) n) (hk : k < 2 ^ 30) (w : LW k g) (nx : ∀ g', LW (k + 6) g' → am (d + 60) 137 825 [some (.ref 1000), some (.ref 0), some (.ref 22), some (.int (nI k))] [] LY g' 0 0 (some (n, xs)) Q) : am (d + 60) 137 411 [some (.ref 1000), some (.ref 0), some (.ref 22), some (.int (nI k))] [] LY g 0 0 (some (n, xs)) Q := by
  obtain ⟨B, c, f, t, hB⟩ := w
  refine am_run_k 6 (And.intro (v1) ?_)
  refine am_run_k 5 (And.intro (v2) ?_)
  refine am_run_k 1 (And.intro (fun hb => ?_) (fun hb => ?_))
  · refine am_run_k 1 ?_
    refine am_run_k 1 (am_cl ?_)
    refine x_found t (fun r1 g1 m1 => ?_)
    refine am_run_k 7 (And.intro (v1) ?_)
    refine am_run_k 5 (And.intro (v2) ?_)
    refine am_run_k 1 (And.intro (fun hb2 => ?_) (fun hb2 => ?_))
    · refine am_run_k 1 ?_
      refine am_run_k 1 (am_cl ?_)
      refine y_found t (by omega) m1 (fun g2 c2 f2 t2 => ?_)
      refine am_run_k 2 ?_
      exact nx _ ⟨B + 1, c2, f2, t2, by omega⟩
    · first | exact absurd hb hb2 | exact absurd hb2 hb
  · refine am_run_k 2 ?_
    refine am_run_k 1 (am_cl ?_)
    refine x_found t (fun r1 g1 m1 => ?_)
    refine am_run_k 7 (And.intro (v1) ?_)
    refine am_run_k 5 (And.intro (v2) ?_)
    refine am_run_k 1 (And.intro (fun hb2 => ?_) (fun hb2 => ?_))
    · first | exact absurd hb hb2 | exact absurd hb2 hb
    · refine am_run_k 2 ?_
      refine am_run_k 1 (am_cl ?_)
      refine y_found t (by omega) m1 (fun g2 c2 f2 t2 => ?_)
      refine am_run_k 2 ?_
      exact nx _ ⟨B + 1, c2, f2, t2, by omega⟩
theorem lw_8 {n k : Nat} {xs : Nat → Int32} (v1 : vp_in (nI k + 1) n) (v2 : vp_in (nI k + 2) n) (v3 : vp_in (nI k + 3) n) (v4 : vp_in (nI k + 4) n) (v5 : vp_in (nI k + 5) n) (hk : k < 2 ^ 30) (w : LW k g) (nx : ∀ g', LW (k + 6) g' → am (d + 60) 137 825 [some (.ref 1000), some (.ref 0), some (.ref 22), some (.int (nI k))] [] LY g' 0 0 (some (n, xs)) Q) : am (d + 60) 137 460 [some (.ref 1000), some (.ref 0), some (.ref 22), some (.int (nI k))] [] LY g 0 0 (some (n, xs)) Q := by
  obtain ⟨B, c, f, t, hB⟩ := w
  refine am_run_k 6 (And.intro (v1) ?_)
  refine am_run_k 5 (And.intro (v2) ?_)
  refine am_run_k 1 (am_cl ?_)
  refine x_about t ?_
  refine am_run_k 7 (And.intro (v1) ?_)
  refine am_run_k 5 (And.intro (v2) ?_)
  refine am_run_k 1 (am_cl ?_)
  refine y_about t ?_
  refine am_run_k 2 ?_
  exact nx _ ⟨B, c, f, t, by omega⟩
theorem lw_9 {n k : Nat} {xs : Nat → Int32} (v1 : vp_in (nI k + 1) n) (v2 : vp_in (nI k + 2) n) (v3 : vp_in (nI k + 3) n) (v4 : vp_in (nI k + 4) n) (v5 : vp_in (nI k + 5) n) (hk : k < 2 ^ 30) (w : LW k g) (nx : ∀ g', LW (k + 6) g' → am (d + 60) 137 825 [some (.ref 1000), some (.ref 0), some (.ref 22), some (.int (nI k))] [] LY g' 0 0 (some (n, xs)) Q) : am (d + 60) 137 493 [some (.ref 1000), some (.ref 0), some (.ref 22), some (.int (nI k))] [] LY g 0 0 (some (n, xs)) Q := by
  obtain ⟨B, c, f, t, hB⟩ := w
  refine am_run_k 2 (am_cl ?_)
  refine x_clear t (fun J => ?_)
  refine am_run_k 3 (am_cl ?_)
  refine y_clear t J (fun g2 c2 f2 t2 => ?_)
  refine am_run_k 2 ?_
  exact nx _ ⟨B, c2, f2, t2, by omega⟩
theorem lw_10 {n k : Nat} {xs : Nat → Int32} (v1 : vp_in (nI k + 1) n) (v2 : vp_in (nI k + 2) n) (v3 : vp_in (nI k + 3) n) (v4 : vp_in (nI k + 4) n) (v5 : vp_in (nI k + 5) n) (hk : k < 2 ^ 30) (w : LW k g) (nx : ∀ g', LW (k + 6) g' → am (d + 60) 137 825 [some (.ref 1000), some (.ref 0), some (.ref 22), some (.int (nI k))] [] LY g' 0 0 (some (n, xs)) Q) : am (d + 60) 137 506 [some (.ref 1000), some (.ref 0), some (.ref 22), some (.int (nI k))] [] LY g 0 0 (some (n, xs)) Q := by
  obtain ⟨B, c, f, t, hB⟩ := w
  refine am_run_k 6 (And.intro (v1) ?_)
  refine am_run_k 1 (am_cl ?_)
  refine f_denied_s t.2.1.1 (fun r1 g1 s1 => ?_)
  refine am_run_k 7 (And.intro (v1) ?_)
  refine am_run_k 1 (am_cl ?_)
  have t1 := t.scC s1
  refine m_denied t1.2.1.2.1 (fun r2 g2 s2 => ?_)
  refine am_run_k 2 ?_
  exact nx _ ⟨B, c, f, t1.scM s2, by omega⟩
theorem lw_11 {n k : Nat} {xs : Nat → Int32} (v1 : vp_in (nI k + 1) n) (v2 : vp_in (nI k + 2) n) (v3 : vp_in (nI k + 3) n) (v4 : vp_in (nI k + 4) n) (v5 : vp_in (nI k + 5) n) (hk : k < 2 ^ 30) (w : LW k g) (nx : ∀ g', LW (k + 6) g' → am (d + 60) 137 825 [some (.ref 1000), some (.ref 0), some (.ref 22), some (.int (nI k))] [] LY g' 0 0 (some (n, xs)) Q) : am (d + 60) 137 529 [some (.ref 1000), some (.ref 0), some (.ref 22), some (.int (nI k))] [] LY g 0 0 (some (n, xs)) Q := by
  obtain ⟨B, c, f, t, hB⟩ := w
  refine am_run_k 2 (am_cl ?_)
  refine f_suspects t.2.1.1 (fun r1 g1 s1 => ?_)
  refine am_run_k 3 (am_cl ?_)
  have t1 := t.scC s1
  refine m_suspects t1.2.1.2.1 (fun r2 g2 s2 => ?_)
  refine am_run_k 2 ?_
  exact nx _ ⟨B, c, f, t1.scM s2, by omega⟩
theorem lw_12 {n k : Nat} {xs : Nat → Int32} (v1 : vp_in (nI k + 1) n) (v2 : vp_in (nI k + 2) n) (v3 : vp_in (nI k + 3) n) (v4 : vp_in (nI k + 4) n) (v5 : vp_in (nI k + 5) n) (hk : k < 2 ^ 30) (w : LW k g) (nx : ∀ g', LW (k + 6) g' → am (d + 60) 137 825 [some (.ref 1000), some (.ref 0), some (.ref 22), some (.int (nI k))] [] LY g' 0 0 (some (n, xs)) Q) : am (d + 60) 137 542 [some (.ref 1000), some (.ref 0), some (.ref 22), some (.int (nI k))] [] LY g 0 0 (some (n, xs)) Q := by
  obtain ⟨B, c, f, t, hB⟩ := w
  refine am_run_k 6 (And.intro (v1) ?_)
  refine am_run_k 1 (am_cl ?_)
  refine f_with t.2.1.1 (fun r1 g1 s1 => ?_)
  refine am_run_k 7 (And.intro (v1) ?_)
  refine am_run_k 1 (am_cl ?_)
  have t1 := t.scC s1
  refine m_with t1.2.1.2.1 (fun r2 g2 s2 => ?_)
  refine am_run_k 2 ?_
  exact nx _ ⟨B, c, f, t1.scM s2, by omega⟩
theorem lw_13 {n k : Nat} {xs : Nat → Int32} (v1 : vp_in (nI k + 1) n) (v2 : vp_in (nI k + 2) n) (v3 : vp_in (nI k + 3) n) (v4 : vp_in (nI k + 4) n) (v5 : vp_in (nI k + 5) n) (hk : k < 2 ^ 30) (w : LW k g) (nx : ∀ g', LW (k + 6) g' → am (d + 60) 137 825 [some (.ref 1000), some (.ref 0), some (.ref 22), some (.int (nI k))] [] LY g' 0 0 (some (n, xs)) Q) : am (d + 60) 137 565 [some (.ref 1000), some (.ref 0), some (.ref 22), some (.int (nI k))] [] LY g 0 0 (some (n, xs)) Q := by
  obtain ⟨B, c, f, t, hB⟩ := w
  refine am_run_k 6 (And.intro (v1) ?_)
  refine am_run_k 5 (And.intro (v2) ?_)
  refine am_run_k 5 (And.intro (v3) ?_)
  refine am_run_k 1 (am_cl ?_)
  refine f_way t.2.1.1 (fun r1 g1 s1 => ?_)
  refine am_run_k 7 (And.intro (v1) ?_)
  refine am_run_k 5 (And.intro (v2) ?_)
  refine am_run_k 5 (And.intro (v3) ?_)
  refine am_run_k 1 (am_cl ?_)
  have t1 := t.scC s1
  refine m_way t1.2.1.2 (fun r2 g2 s2 => ?_)
  refine am_run_k 2 ?_
  exact nx _ ⟨B, c, f, t1.scM s2, by omega⟩
theorem lw_14 {n k : Nat} {xs : Nat → Int32} (v1 : vp_in (nI k + 1) n) (v2 : vp_in (nI k + 2) n) (v3 : vp_in (nI k + 3) n) (v4 : vp_in (nI k + 4) n) (v5 : vp_in (nI k + 5) n) (hk : k < 2 ^ 30) (w : LW k g) (nx : ∀ g', LW (k + 6) g' → am (d + 60) 137 825 [some (.ref 1000), some (.ref 0), some (.ref 22), some (.int (nI k))] [] LY g' 0 0 (some (n, xs)) Q) : am (d + 60) 137 608 [some (.ref 1000), some (.ref 0), some (.ref 22), some (.int (nI k))] [] LY g 0 0 (some (n, xs)) Q := by
  obtain ⟨B, c, f, t, hB⟩ := w
  refine am_run_k 2 (am_cl ?_)
  refine f_doer t.2.1.1 (fun r1 g1 s1 => ?_)
  refine am_run_k 3 (am_cl ?_)
  have t1 := t.scC s1
  refine m_doer t1.2.1.2.1 (fun r2 g2 s2 => ?_)
  refine am_run_k 2 ?_
  exact nx _ ⟨B, c, f, t1.scM s2, by omega⟩
theorem lw_15 {n k : Nat} {xs : Nat → Int32} (v1 : vp_in (nI k + 1) n) (v2 : vp_in (nI k + 2) n) (v3 : vp_in (nI k + 3) n) (v4 : vp_in (nI k + 4) n) (v5 : vp_in (nI k + 5) n) (hk : k < 2 ^ 30) (w : LW k g) (nx : ∀ g', LW (k + 6) g' → am (d + 60) 137 825 [some (.ref 1000), some (.ref 0), some (.ref 22), some (.int (nI k))] [] LY g' 0 0 (some (n, xs)) Q) : am (d + 60) 137 621 [some (.ref 1000), some (.ref 0), some (.ref 22), some (.int (nI k))] [] LY g 0 0 (some (n, xs)) Q := by
  obtain ⟨B, c, f, t, hB⟩ := w
  refine am_run_k 2 (am_cl ?_)
  refine f_next t.2.1.1 (fun r1 g1 s1 => ?_)
  refine am_run_k 3 (am_cl ?_)
  have t1 := t.scC s1
  refine m_next t1.2.1.2.1 (fun r2 g2 s2 => ?_)
  refine am_run_k 2 ?_
  exact nx _ ⟨B, c, f, t1.scM s2, by omega⟩
theorem lw_16 {n k : Nat} {xs : Nat → Int32} (v1 : vp_in (nI k + 1) n) (v2 : vp_in (nI k + 2) n) (v3 : vp_in (nI k + 3) n) (v4 : vp_in (nI k + 4) n) (v5 : vp_in (nI k + 5) n) (hk : k < 2 ^ 30) (w : LW k g) (nx : ∀ g', LW (k + 6) g' → am (d + 60) 137 825 [some (.ref 1000), some (.ref 0), some (.ref 22), some (.int (nI k))] [] LY g' 0 0 (some (n, xs)) Q) : am (d + 60) 137 634 [some (.ref 1000), some (.ref 0), some (.ref 22), some (.int (nI k))] [] LY g 0 0 (some (n, xs)) Q := by
  obtain ⟨B, c, f, t, hB⟩ := w
  refine am_run_k 2 (am_cl ?_)
  refine f_fewest t.2.1.1 (fun r1 g1 s1 => ?_)
  refine am_run_k 3 (am_cl ?_)
  have t1 := t.scC s1
  refine m_fewest t1.2.1.2.1 (fun r2 g2 s2 => ?_)
  refine am_run_k 2 ?_
  exact nx _ ⟨B, c, f, t1.scM s2, by omega⟩
theorem lw_17 {n k : Nat} {xs : Nat → Int32} (v1 : vp_in (nI k + 1) n) (v2 : vp_in (nI k + 2) n) (v3 : vp_in (nI k + 3) n) (v4 : vp_in (nI k + 4) n) (v5 : vp_in (nI k + 5) n) (hk : k < 2 ^ 30) (w : LW k g) (nx : ∀ g', LW (k + 6) g' → am (d + 60) 137 825 [some (.ref 1000), some (.ref 0), some (.ref 22), some (.int (nI k))] [] LY g' 0 0 (some (n, xs)) Q) : am (d + 60) 137 647 [some (.ref 1000), some (.ref 0), some (.ref 22), some (.int (nI k))] [] LY g 0 0 (some (n, xs)) Q := by
  obtain ⟨B, c, f, t, hB⟩ := w
  refine am_run_k 2 (am_cl ?_)
  refine x_least t (fun g1 s1 => ?_)
  refine am_run_k 2 (am_cl ?_)
  refine y_least t s1 (fun g2 t2 => ?_)
  refine am_run_k 1 (And.intro (fun h1 => ?_) (fun hx => absurd ((rfl)) hx))
  exact nx _ ⟨B, c, f, t2, by omega⟩
theorem lw_18 {n k : Nat} {xs : Nat → Int32} (v1 : vp_in (nI k + 1) n) (v2 : vp_in (nI k + 2) n) (v3 : vp_in (nI k + 3) n) (v4 : vp_in (nI k + 4) n) (v5 : vp_in (nI k + 5) n) (hk : k < 2 ^ 30) (w : LW k g) (nx : ∀ g', LW (k + 6) g' → am (d + 60) 137 825 [some (.ref 1000), some (.ref 0), some (.ref 22), some (.int (nI k))] [] LY g' 0 0 (some (n, xs)) Q) : am (d + 60) 137 660 [some (.ref 1000), some (.ref 0), some (.ref 22), some (.int (nI k))] [] LY g 0 0 (some (n, xs)) Q := by
  obtain ⟨B, c, f, t, hB⟩ := w
  refine am_run_k 6 (And.intro (v1) ?_)
  refine am_run_k 1 (am_cl ?_)
  refine f_claim t.2.1.1 (fun r1 g1 s1 => ?_)
  refine am_run_k 7 (And.intro (v1) ?_)
  refine am_run_k 1 (am_cl ?_)
  have t1 := t.scC s1
  refine m_claim t1.2.1.2 (fun r2 g2 s2 => ?_)
  refine am_run_k 2 ?_
  exact nx _ ⟨B, c, f, t1.scM s2, by omega⟩
theorem lw_19 {n k : Nat} {xs : Nat → Int32} (v1 : vp_in (nI k + 1) n) (v2 : vp_in (nI k + 2) n) (v3 : vp_in (nI k + 3) n) (v4 : vp_in (nI k + 4) n) (v5 : vp_in (nI k + 5) n) (hk : k < 2 ^ 30) (w : LW k g) (nx : ∀ g', LW (k + 6) g' → am (d + 60) 137 825 [some (.ref 1000), some (.ref 0), some (.ref 22), some (.int (nI k))] [] LY g' 0 0 (some (n, xs)) Q) : am (d + 60) 137 683 [some (.ref 1000), some (.ref 0), some (.ref 22), some (.int (nI k))] [] LY g 0 0 (some (n, xs)) Q := by
  obtain ⟨B, c, f, t, hB⟩ := w
  refine am_run_k 6 (And.intro (v1) ?_)
  refine am_run_k 1 (am_cl ?_)
  refine x_make t (fun r1 g1 m1 => ?_)
  refine am_run_k 7 (And.intro (v1) ?_)
  refine am_run_k 1 (am_cl ?_)
  refine y_make t m1 (fun g2 c2 f2 t2 => ?_)
  refine am_run_k 2 ?_
  exact nx _ ⟨B, c2, f2, t2, by omega⟩
theorem lw_20 {n k : Nat} {xs : Nat → Int32} (v1 : vp_in (nI k + 1) n) (v2 : vp_in (nI k + 2) n) (v3 : vp_in (nI k + 3) n) (v4 : vp_in (nI k + 4) n) (v5 : vp_in (nI k + 5) n) (hk : k < 2 ^ 30) (w : LW k g) (nx : ∀ g', LW (k + 6) g' → am (d + 60) 137 825 [some (.ref 1000), some (.ref 0), some (.ref 22), some (.int (nI k))] [] LY g' 0 0 (some (n, xs)) Q) : am (d + 60) 137 706 [some (.ref 1000), some (.ref 0), some (.ref 22), some (.int (nI k))] [] LY g 0 0 (some (n, xs)) Q := by
  obtain ⟨B, c, f, t, hB⟩ := w
  refine am_run_k 6 (And.intro (v1) ?_)
  refine am_run_k 5 (And.intro (v2) ?_)
  refine am_run_k 5 (And.intro (v3) ?_)
  refine am_run_k 1 (am_cl ?_)
  refine x_sheet t (fun r1 g1 m1 => ?_)
  refine am_run_k 7 (And.intro (v1) ?_)
  refine am_run_k 5 (And.intro (v2) ?_)
  refine am_run_k 5 (And.intro (v3) ?_)
  refine am_run_k 1 (am_cl ?_)
  refine y_sheet t m1 (fun g2 c2 f2 t2 => ?_)
  refine am_run_k 2 ?_
  exact nx _ ⟨B, c2, f2, t2, by omega⟩
theorem lw_21 {n k : Nat} {xs : Nat → Int32} (v1 : vp_in (nI k + 1) n) (v2 : vp_in (nI k + 2) n) (v3 : vp_in (nI k + 3) n) (v4 : vp_in (nI k + 4) n) (v5 : vp_in (nI k + 5) n) (hk : k < 2 ^ 30) (w : LW k g) (nx : ∀ g', LW (k + 6) g' → am (d + 60) 137 825 [some (.ref 1000), some (.ref 0), some (.ref 22), some (.int (nI k))] [] LY g' 0 0 (some (n, xs)) Q) : am (d + 60) 137 749 [some (.ref 1000), some (.ref 0), some (.ref 22), some (.int (nI k))] [] LY g 0 0 (some (n, xs)) Q := by
  obtain ⟨B, c, f, t, hB⟩ := w
  refine am_run_k 6 (And.intro (v1) ?_)
  refine am_run_k 1 (am_cl ?_)
  refine x_drop t (fun r1 g1 m1 => ?_)
  refine am_run_k 7 (And.intro (v1) ?_)
  refine am_run_k 1 (am_cl ?_)
  refine y_drop t m1 (fun g2 c2 f2 t2 => ?_)
  refine am_run_k 2 ?_
  exact nx _ ⟨B, c2, f2, t2, by omega⟩
theorem lw_22 {n k : Nat} {xs : Nat → Int32} (v1 : vp_in (nI k + 1) n) (v2 : vp_in (nI k + 2) n) (v3 : vp_in (nI k + 3) n) (v4 : vp_in (nI k + 4) n) (v5 : vp_in (nI k + 5) n) (hk : k < 2 ^ 30) (w : LW k g) (nx : ∀ g', LW (k + 6) g' → am (d + 60) 137 825 [some (.ref 1000), some (.ref 0), some (.ref 22), some (.int (nI k))] [] LY g' 0 0 (some (n, xs)) Q) : am (d + 60) 137 772 [some (.ref 1000), some (.ref 0), some (.ref 22), some (.int (nI k))] [] LY g 0 0 (some (n, xs)) Q := by
  obtain ⟨B, c, f, t, hB⟩ := w
  refine am_run_k 6 (And.intro (v1) ?_)
  refine am_run_k 5 (And.intro (v2) ?_)
  refine am_run_k 5 (And.intro (v3) ?_)
  refine am_run_k 5 (And.intro (v4) ?_)
  refine am_run_k 1 (am_cl ?_)
  refine x_item t (fun r1 g1 m1 => ?_)
  refine am_run_k 7 (And.intro (v1) ?_)
  refine am_run_k 5 (And.intro (v2) ?_)
  refine am_run_k 5 (And.intro (v3) ?_)
  refine am_run_k 5 (And.intro (v4) ?_)
  refine am_run_k 1 (am_cl ?_)
  refine y_item t m1 (fun g2 c2 f2 t2 => ?_)
  refine am_run_k 2 ?_
  exact nx _ ⟨B, c2, f2, t2, by omega⟩
theorem lw_sw {n k : Nat} {xs : Nat → Int32} (v1 : vp_in (nI k + 1) n) (v2 : vp_in (nI k + 2) n) (v3 : vp_in (nI k + 3) n) (v4 : vp_in (nI k + 4) n) (v5 : vp_in (nI k + 5) n) (hk : k < 2 ^ 30) (w : LW k g) (nx : ∀ g', LW (k + 6) g' → am (d + 60) 137 825 [some (.ref 1000), some (.ref 0), some (.ref 22), some (.int (nI k))] [] LY g' 0 0 (some (n, xs)) Q) (x : Int32) : am (d + 60) 137 33 [some (.ref 1000), some (.ref 0), some (.ref 22), some (.int (nI k))] [.int x] LY g 0 0 (some (n, xs)) Q :=
  am_run_k 1 (And.intro (fun _ => lw_0 v1 v2 v3 v4 v5 hk w nx) (fun _ => And.intro (fun _ => lw_1 v1 v2 v3 v4 v5 hk w nx) (fun _ => And.intro (fun _ => lw_2 v1 v2 v3 v4 v5 hk w nx) (fun _ => And.intro (fun _ => lw_3 v1 v2 v3 v4 v5 hk w nx) (fun _ => And.intro (fun _ => lw_4 v1 v2 v3 v4 v5 hk w nx) (fun _ => And.intro (fun _ => lw_5 v1 v2 v3 v4 v5 hk w nx) (fun _ => And.intro (fun _ => lw_6 v1 v2 v3 v4 v5 hk w nx) (fun _ => And.intro (fun _ => lw_7 v1 v2 v3 v4 v5 hk w nx) (fun _ => And.intro (fun _ => lw_8 v1 v2 v3 v4 v5 hk w nx) (fun _ => And.intro (fun _ => lw_9 v1 v2 v3 v4 v5 hk w nx) (fun _ => And.intro (fun _ => lw_10 v1 v2 v3 v4 v5 hk w nx) (fun _ => And.intro (fun _ => lw_11 v1 v2 v3 v4 v5 hk w nx) (fun _ => And.intro (fun _ => lw_12 v1 v2 v3 v4 v5 hk w nx) (fun _ => And.intro (fun _ => lw_13 v1 v2 v3 v4 v5 hk w nx) (fun _ => And.intro (fun _ => lw_14 v1 v2 v3 v4 v5 hk w nx) (fun _ => And.intro (fun _ => lw_15 v1 v2 v3 v4 v5 hk w nx) (fun _ => And.intro (fun _ => lw_16 v1 v2 v3 v4 v5 hk w nx) (fun _ => And.intro (fun _ => lw_17 v1 v2 v3 v4 v5 hk w nx) (fun _ => And.intro (fun _ => lw_18 v1 v2 v3 v4 v5 hk w nx) (fun _ => And.intro (fun _ => lw_19 v1 v2 v3 v4 v5 hk w nx) (fun _ => And.intro (fun _ => lw_20 v1 v2 v3 v4 v5 hk w nx) (fun _ => And.intro (fun _ => lw_21 v1 v2 v3 v4 v5 hk w nx) (fun _ => And.intro (fun _ => lw_22 v1 v2 v3 v4 v5 hk w nx) (fun _ => nx g w.up))))))))))))))))))))))))

theorem lw_loop {n : Nat} {xs : Nat → Int32} (hn : n < 2 ^ 30) (hQ : ∀ L g, Q (some (.int 1)) L g) : ∀ (m k : Nat) (x : Int32) (g : am_G), n ≤ k + m → x = nI k → k ≤ n → LW k g → am (d + 60) 137 18 [some (.ref 1000), some (.ref 0), some (.ref 22), some (.int x)] [] LY g 0 0 (some (n, xs)) Q := by
  intro m
  induction m with
  | zero =>
    intro k x g hm hx hk w
    subst hx
    refine am_run_k 6 (And.intro (fun h1 => ?_) (fun h1 => ?_))
    · refine am_run_k 2 ?_
      exact hQ _ _
    · have := nI_sub_lt (m := n) (n := 6) hn (by decide) rfl (by omega) h1
      omega
  | succ m ih =>
    intro k x g hm hx hk w
    subst hx
    refine am_run_k 6 (And.intro (fun h1 => ?_) (fun h1 => ?_))
    · refine am_run_k 2 ?_
      exact hQ _ _
    · have hr := nI_sub_lt (m := n) (n := 6) hn (by decide) rfl (by omega) h1
      refine am_run_k 3 (And.intro (vpn (by omega) (by omega)) ?_)
      refine am_run_k 2 ?_
      refine lw_sw (vpe (nI_1 k) (by omega) (by omega)) (vpe (nIp2 k) (by omega) (by omega)) (vpe (nIp3 k) (by omega) (by omega)) (vpe (nIp4 k) (by omega) (by omega)) (vpe (nI_add k 5) (by omega) (by omega)) (by omega) w (fun g' w' => ?_) _
      refine am_run_k 2 ?_
      exact ih (k + 6) _ g' (by omega) (nI_add k 6) (by omega) w'
set_option maxRecDepth 100000 in
/-- the whole run of the law, on the machine -/
theorem law_run {n : Nat} {xs : Nat → Int32} (hn : n < 2 ^ 30) (hQ : ∀ L g, Q (some (.int 1)) L g) : am (d + 60) 137 0 [some (.ref 1000), none, none, none] [] [] g 35 1067 (some (n, xs)) Q := by
  refine am_run_k 3 (am_cl ?_)
  refine c_desk (fun g1 k1 => ?_)
  refine am_run_k 4 (am_cl ?_)
  refine c_model (fun g2 e2 m2 m9 => ?_) (fun i => congrFun upc_s i)
  refine am_run_k 3 ?_
  refine lw_loop hn hQ n 0 _ g2 (by omega) rfl (by omega) ⟨0, 0, 0, T.of0 (k1.of (fun k hk => ?_)) m2 m9, Nat.le_refl 0⟩
  rw [e2 k hk]
  exact upc_n (by show k ≠ 22; omega)
end LAW
