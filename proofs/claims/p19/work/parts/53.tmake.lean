section TMK
variable {d : Nat} {g : am_G} {Q : am_Q} {B c f : Nat}
/-- make: what the class's call leaves -/
def MMake (g : am_G) (nu r : Int32) (g1 : am_G) : Prop := r = nI (mkD nu) ∧ IC g1 ∧ CM nu g1 ∧ frC g g1
theorem x_make {nu : Int32} (t : T g B c f) (h : ∀ r g1, MMake g nu r g1 → Q (some (.int r)) LY g1) : am (d + 5) 69 0 [some (.ref 0), some (.int nu)] [] LY g 0 0 none Q :=
  f_make_x t.2.1.1 (fun g1 I1 c1 f1 => h _ g1 ⟨rfl, I1, c1, f1⟩)
theorem rows_eq {a b : Int32} {r : cRow} {k : Nat} (h1 : rwX g k r) (h2 : rwN g k r) : g 6 (k * 5) = g 25 k ∧ g 6 (k * 5 + 1) = g 26 (4 * k) ∧ g 6 (k * 5 + 2) = g 26 (4 * k + 1) ∧ g 6 (k * 5 + 3) = g 26 (4 * k + 2) ∧ g 6 (k * 5 + 4) = g 26 (4 * k + 3) := by
  obtain ⟨a1, a2, a3, a4, a5⟩ := h1
  obtain ⟨b1, b2, b3, b4, b5⟩ := h2
  exact ⟨a1.trans b1.symm, a2.trans b2.symm, a3.trans b3.symm, a4.trans b4.symm, a5.trans b5.symm⟩
theorem y_make {nu r : Int32} {g1 : am_G} {l2 l3 l4 l5 l6 l7 : Option Value} (t : T g B c f) (m : MMake g nu r g1) (h : ∀ g2 c' f', T g2 B c' f' → Q (some (.int r)) LY g2) : am (d + 3) 135 0 [some (.ref 22), some (.int nu), l2, l3, l4, l5, l6, l7] [] LY g1 0 0 none Q := by
  obtain ⟨hr, I1, c1, f1⟩ := m
  obtain ⟨⟨hc, hf, e51, e54⟩, ⟨I, I2⟩, -, -, -, -, -, ⟨j, hj, e11, -⟩, ts, ti⟩ := t
  subst hr
  refine m_make_x (I2.hi (fun k hk => f1 k (by omega))) (fun g2 J m2 f2 e30 e11b => ?_)
  obtain ⟨⟨a13, a14, a15, a16, a22⟩, hc3, hl, n1, n2, n3, n4⟩ := c1
  obtain ⟨⟨b0, b1, bJ, b24⟩, ⟨b4, b5⟩, b6, r1, r2, r3⟩ := m2
  have lo : ∀ k, k < 22 → g2 k = g1 k := fun k hk => f2 k (Or.inl hk)
  have u : ∀ k, 17 ≤ k → (k < 22 ∨ k = 28 ∨ k = 29) → g2 k = g k := fun k h1 h2 => (f2 k h2).trans (f1 k h1)
  have hP : mkP nu < 8 := mkP_lt
  have hT := mkT_rg (x := nu)
  have hD : (dst nu 2).2.2 ≤ 8 + 2 := dst_cnt 2
  refine h g2 16 0 ⟨⟨by omega, by omega, ?_, ?_⟩, ⟨I1.lo lo, J⟩, ⟨⟨?_, ?_, ?_, ?_, ?_, ?_⟩, ⟨_, (by omega : (dst nu 2).2.2 ≤ 12), b1⟩, Or.inr ⟨0, by omega, b6⟩, ⟨_, hP, b4⟩⟩, ⟨fun p hp => ?_, fun s hs => ?_⟩, fun w hw => ?_, fun k hk => ?_, ⟨fun k hk => ?_, fun k hk => ?_⟩, ⟨j, hj, ?_, fun k hk => ⟨0, by omega, r3 k hk⟩⟩, ts.of (u 18 (by omega) (by omega)) (u 20 (by omega) (by omega)) (u 28 (by omega) (by omega)) (u 29 (by omega) (by omega)), ti.of (u 19 (by omega) (by omega)) (u 21 (by omega) (by omega)) (u 29 (by omega) (by omega)) ?_⟩
  · rw [lo 5 (by omega)]; exact n1
  · rw [lo 5 (by omega)]; exact n3
  · rw [lo 1 (by omega), a13, b0]
  · rw [lo 2 (by omega), a22, b1]
  · rw [lo 1 (by omega), a14, b4]
  · rw [lo 1 (by omega), a15, b5]
  · rw [lo 1 (by omega), a16, b6]
  · rw [lo 5 (by omega), n1, r1]
  · rw [lo 3 (by omega), hc3.1 p hp, bJ p hp]; rfl
  · rw [lo 4 (by omega), hc3.2 s hs]
    exact arV_J (fun p hp => (bJ p hp).symm)
  · rw [lo 8 (by omega), hl w hw, b24 w hw]
  · exact rows_eq (a := 0) (b := 0) ((n4 k hk).of (lo 6 (by omega))) (r2 k hk)
  · rw [lo 5 (by omega), n2, b_0]
    by_cases e : k < 16
    · rw [r3 k e, decide_eq_true e]; rfl
    · rw [decide_eq_false e]; rfl
  · rw [lo 5 (by omega), n2, b_0]
    constructor
    · intro z; cases z
    · rintro ⟨i, hi, -⟩; exact absurd hi (by omega)
  · rw [e11b, f1 22 (by omega)]; exact e11
  · rw [e30, f1 30 (by omega)]
/-- questions keep the tie -/
theorem T.scC {g' : am_G} (t : T g B c f) (s : scC g g') : T g' B c f := by
  obtain ⟨⟨hc, hf, e51, e54⟩, ⟨I, I2⟩, ta, tj, tl, tr, ⟨tf, to⟩, tc, ts, ti⟩ := t
  have e : ∀ k, (k < 9 ∨ 14 < k) → g' k = g k := s
  refine ⟨⟨hc, hf, by rw [e 5 (by omega)]; exact e51, by rw [e 5 (by omega)]; exact e54⟩, ⟨I.sc s, I2.hi (fun k hk => e k (by omega))⟩, ?_, tj.of (e 3 (by omega)) (e 4 (by omega)) (e 23 (by omega)), tl.of (e 8 (by omega)) (e 24 (by omega)), tr.of (e 6 (by omega)) (e 25 (by omega)) (e 26 (by omega)), ⟨tf.of (by rw [e 5 (by omega)]) (e 27 (by omega)), to.of (by rw [e 5 (by omega)]) (e 7 (by omega))⟩, tc.of (by rw [e 22 (by omega)]) (e 27 (by omega)), ts.of (e 18 (by omega)) (e 20 (by omega)) (e 28 (by omega)) (e 29 (by omega)), ti.of (e 19 (by omega)) (e 21 (by omega)) (e 29 (by omega)) (e 30 (by omega))⟩
  unfold Ta at *
  rw [e 1 (by omega), e 2 (by omega), e 5 (by omega), e 22 (by omega)]
  exact ta
theorem T.scM {g' : am_G} (t : T g B c f) (s : scM g g') : T g' B c f := by
  obtain ⟨⟨hc, hf, e51, e54⟩, ⟨I, I2⟩, ta, tj, tl, tr, ⟨tf, to⟩, tc, ts, ti⟩ := t
  have e : ∀ k, k ≠ 22 → k ≠ 31 → k ≠ 32 → k ≠ 33 → g' k = g k := s.1
  have e22 : ∀ i, i ≠ 16 → i ≠ 17 → g' 22 i = g 22 i := s.2
  refine ⟨⟨hc, hf, by rw [e 5 (by omega) (by omega) (by omega) (by omega)]; exact e51, by rw [e 5 (by omega) (by omega) (by omega) (by omega)]; exact e54⟩, ⟨I.lo (fun k hk => e k (by omega) (by omega) (by omega) (by omega)), I2.sc s⟩, ?_, tj.of ?_ ?_ ?_, tl.of ?_ ?_, tr.of ?_ ?_ ?_, ⟨tf.of ?_ ?_, to.of ?_ ?_⟩, tc.of (e22 11 (by omega) (by omega)) ?_, ts.of ?_ ?_ ?_ ?_, ti.of ?_ ?_ ?_ ?_⟩
  · unfold Ta at *
    rw [e 1 (by omega) (by omega) (by omega) (by omega), e 2 (by omega) (by omega) (by omega) (by omega), e 5 (by omega) (by omega) (by omega) (by omega), e22 0 (by omega) (by omega), e22 1 (by omega) (by omega), e22 4 (by omega) (by omega), e22 5 (by omega) (by omega), e22 6 (by omega) (by omega), e22 7 (by omega) (by omega)]
    exact ta
  all_goals first | exact e _ (by decide) (by decide) (by decide) (by decide) | exact congrFun (e 5 (by decide) (by decide) (by decide) (by decide)) 2
/-- the tie at the first call -/
theorem T.of0 (a : DK1 g) (b : MD0 g) (b9 : MD9 g) : T g 0 0 0 := by
  obtain ⟨⟨a1, a2, a3, a4, a5, a6, a7, a8⟩, a14, a16, a52, a22, az3, az4, al⟩ := a
  obtain ⟨I, b1, b2, b3, b4⟩ := b
  obtain ⟨m0, m1, m4, m5, m6, m7, m11, mj, mt⟩ := b9
  refine ⟨⟨by omega, by omega, a3, a4⟩, ⟨⟨⟨⟨4, by decide, by decide, a1⟩, ⟨5, by decide, a2⟩, 0, by decide, a3, fun k hk => absurd hk (by omega), 0, by decide, a4, fun i hi => absurd hi (by omega), fun i j _ hj => absurd hj (by omega)⟩, ⟨0, by decide, a6⟩, 0, by decide, a8⟩, I⟩, ⟨⟨by rw [a1, m0], by rw [a22, m1], by rw [a14, m4], by rw [a2, m5], by rw [a16, m6], by rw [a3, m7]⟩, ⟨0, by omega, m1⟩, Or.inl m6, ⟨0, by omega, m4⟩⟩, ⟨fun p hp => ?_, fun s hs => ?_⟩, fun w hw => by rw [al w hw, mt w hw], fun k hk => absurd hk (by omega), ⟨fun k hk => ?_, fun k hk => ?_⟩, ⟨0, by omega, m11, fun k hk => absurd hk (by omega)⟩, fun j hj => ?_, fun j i m hj hm hm2 hi => ?_⟩
  · rw [az3 p hp, mj p hp]
    exact b_ext (fun i hi => by rw [b_or, b_0]; rfl)
  · rw [az4 s hs]
    exact (arV_id mj hs).symm
  · rw [a52, b_0, decide_eq_false (Nat.not_lt_zero k)]; rfl
  · rw [a52, b_0]
    constructor
    · intro z; cases z
    · rintro ⟨i, hi, -⟩; exact absurd hi (by omega)
  · rcases (show j = 0 ∨ j = 1 by omega) with e | e <;> subst e
    · exact ⟨a5.trans b1.symm, a6.trans b3.symm, Or.inr b1⟩
    · exact ⟨a7.trans b2.symm, a8.trans b4.symm, Or.inr b2⟩
  · exfalso
    have hm0 : m = 0 := by
      rcases (show j = 0 ∨ j = 1 by omega) with e | e <;> subst e
      · rw [b3] at hm; exact (nI_eq (by omega) (by decide)).mp (show nI m = nI 0 from hm.symm)
      · rw [b4] at hm; exact (nI_eq (by omega) (by decide)).mp (show nI m = nI 0 from hm.symm)
    omega
theorem DK1.of {g' : am_G} (h : DK1 g) (e : ∀ k, k < 22 → g' k = g k) : DK1 g' := by
  unfold DK1 DK0 at *
  rw [e 1 (by decide), e 5 (by decide), e 18 (by decide), e 20 (by decide), e 2 (by decide), e 3 (by decide), e 4 (by decide), e 8 (by decide)]
  exact h
end TMK
