section RST
variable {d : Nat} {L : am_L} {g : am_G} {Q : am_Q} {B c f : Nat}
def aFew (g : am_G) (c : Nat) : Int32 := bif decide (aLeast g c < 0) then aLeast g c else am_bc (aLeast g c)
theorem aLeast_is (g : am_G) (c : Nat) : (aLeast g c < 0) ∨ ∃ S, S < 4096 ∧ aLeast g c = nI S := by
  unfold aLeast
  by_cases hc : 12 < c
  · rw [decide_eq_true hc, cond_true]; exact Or.inl (by decide)
  · rw [decide_eq_false hc, cond_false]
    rcases rg_fact (G := gdV g (nV g) (kV g) c) (2 ^ c) with ⟨h1, -⟩ | ⟨b, h1, h2, -⟩
    · rw [h1]; exact Or.inl (by unfold eN; decide)
    · rw [h1]
      have := pow12 (c := c) (by omega)
      exact Or.inr ⟨b, by omega, rfl⟩
theorem x_fewest (t : T g B c f) (h : ∀ g', scC g g' → Q (some (.int (aFew g c))) LY g') : am (d + 27) 66 0 [some (.ref 0), none] [] LY g 0 0 none Q := by
  refine am_run_k 2 (am_cl ?_)
  refine x_least t (fun g1 hg1 => ?_)
  have h := h g1 hg1
  unfold aFew at h
  refine am_run_k 3 (And.intro (fun h1 => ?_) (fun h1 => ?_))
  · have z : ¬ aLeast g c < 0 := by first | exact fa_nlt.mpr h1 | exact h1
    rw [decide_eq_false z] at h
    refine am_run_k 2 (am_cl ?_)
    refine w_bitCount ?_
    refine am_run_k 1 ?_
    exact h
  · have z : aLeast g c < 0 := by first | exact fa_nle.mp h1 | exact rdr h1
    rw [decide_eq_true z] at h
    refine am_run_k 3 ?_
    exact h
theorem y_fewest {g0 : am_G} {l1 : Option Value} (t0 : T g0 B c f) (s0 : scC g0 g) (h : ∀ g2, T g2 B c f → Q (some (.int (aFew g0 c))) LY g2) : am (d + 6) 125 0 [some (.ref 22), l1] [] LY g 0 0 none Q := by
  have t := t0.scC s0
  unfold aFew at h
  rw [← aLeast_sc s0] at h
  refine am_run_k 2 (am_cl ?_)
  refine y_leastSet t (fun g1 s1 => ?_)
  have h := h g1 (t.scM s1)
  refine am_run_k 3 (And.intro (fun h1 => ?_) (fun h1 => ?_))
  · have z : ¬ aLeast g c < 0 := by first | exact fa_nlt.mpr h1 | exact h1
    rcases aLeast_is g c with e | ⟨S, hS, e⟩
    · exact absurd e z
    · rw [decide_eq_false z, cond_false, e, bc_12 hS, ← e] at h
      refine am_run_k 2 (am_cl ?_)
      refine m_many ?_
      refine am_run_k 1 ?_
      exact h
  · have z : aLeast g c < 0 := by first | exact fa_nle.mp h1 | exact rdr h1
    rw [decide_eq_true z] at h
    refine am_run_k 3 ?_
    exact h
theorem y_least {g0 : am_G} (t0 : T g0 B c f) (s0 : scC g0 g) (h : ∀ g2, T g2 B c f → Q (some (.int (aLeast g0 c))) LY g2) : am (d + 6) 126 0 [some (.ref 22)] [] LY g 0 0 none Q := by
  have t := t0.scC s0
  rw [← aLeast_sc s0] at h
  refine am_run_k 2 (am_cl ?_)
  refine y_leastSet t (fun g1 s1 => ?_)
  refine am_run_k 1 ?_
  exact h g1 (t.scM s1)
/-- a claim where nothing is told -/
def aClm (g : am_G) (a : Int32) : Int32 := bif am_ir a (g 22 0) then (bif decide (thV g (nV g) (kV g) 0 0 a.toNatClampNeg = 0) then -4 else -2) else -1
theorem aClm_sc {g' : am_G} {a : Int32} (s : scC g g') : aClm g' a = aClm g a := by
  unfold aClm nV kV
  rw [thV_sc s, s 22 (by omega)]
theorem x_claim0 {a : Int32} (t : T g B 0 0) (h : ∀ g', scC g g' → Q (some (.int (aClm g a))) LY g') : am (d + 4) 68 0 [some (.ref 0), some (.int a), none, none, none] [] LY g 0 0 none Q := by
  obtain ⟨⟨n1, n2, n3, n4⟩, k1, k2, k3⟩ := t.nk
  have e54 := t.1.2.2.2
  refine am_run_k 4 (am_cl ?_)
  refine w_isPerson ?_
  rw [n3, ← n4]
  refine am_run_k 1 (And.intro (fun h1 => ?_) (fun h1 => ?_))
  · have hb := bi_t h1
    rw [n4] at hb
    obtain ⟨q, hq, ea⟩ := am_ir_nI (by omega) hb
    subst ea
    have e : aClm g (nI q) = bif decide (thV g (nV g) (kV g) 0 0 q = 0) then -4 else -2 := by unfold aClm; rw [bi_t h1, ncl (by omega)]; rfl
    rw [e] at h
    refine am_run_k 7 (am_cl ?_)
    refine w_thingsOf_x (n := nV g) (tk := kV g) t n2 n3 k1 k2 (by omega) (fun g1 hg1 _ => ?_)
    have h := h g1 hg1
    refine am_run_k 1 (And.intro (fun h2 => ?_) (fun h2 => ?_))
    · have z : ¬ thV g (nV g) (kV g) 0 0 q = 0 := h2
      rw [decide_eq_false z] at h
      refine am_run_k 4 ?_
      refine am_run_k 6 (And.intro (fun h6 => ?_) (fun hx => absurd ((show g1 5 4 ≤ 0 by rw [hg1 5 (by omega), e54]; exact Int32.le_refl _)) hx))
      refine am_run_k 2 ?_
      exact h
    · have z : thV g (nV g) (kV g) 0 0 q = 0 := by first | exact h2 | exact rdr h2
      rw [decide_eq_true z] at h
      refine am_run_k 2 ?_
      exact h
  · have e : aClm g a = -1 := by unfold aClm; rw [bi_f h1]; rfl
    refine am_run_k 2 ?_
    have h := h g scC.rf
    rw [e] at h
    exact h
theorem y_claim0 {a : Int32} {g0 : am_G} {l2 l3 l4 l5 : Option Value} (t0 : T g0 B 0 0) (s0 : scC g0 g) (h : ∀ g2, T g2 B 0 0 → Q (some (.int (aClm g0 a))) LY g2) : am (d + 4) 127 0 [some (.ref 22), some (.int a), l2, l3, l4, l5] [] LY g 0 0 none Q := by
  have t := t0.scC s0
  rw [← aClm_sc s0] at h
  have ec := t.c7
  obtain ⟨⟨n1, n2, n3, n4⟩, k1, k2, k3⟩ := t.nk
  refine am_run_k 3 (am_cl ?_)
  refine m_isOne ⟨by omega, n2⟩ n4 ?_
  rw [← n4]
  refine am_run_k 1 (And.intro (fun h1 => ?_) (fun h1 => ?_))
  · have hb := bi_t h1
    rw [n4] at hb
    obtain ⟨q, hq, ea⟩ := am_ir_nI (by omega) hb
    subst ea
    have e : aClm g (nI q) = bif decide (thV g (nV g) (kV g) 0 0 q = 0) then -4 else -2 := by unfold aClm; rw [bi_t h1, ncl (by omega)]; rfl
    rw [e] at h
    refine am_run_k 4 (am_cl ?_)
    refine m_couldAny_x t hq n2 n4 k1 k3 (fun g1 s1 => ?_)
    have h := h g1 (t.scM s1)
    have e7 : g1 22 7 = nI 0 := by rw [s1.2 7 (by decide) (by decide)]; exact ec
    refine am_run_k 1 (And.intro (fun h2 => ?_) (fun h2 => ?_))
    · have z : (!decide (thV g (nV g) (kV g) 0 0 q = 0)) = true := by first | exact bi_t h2 | exact bi_f h2
      have z2 : ¬ thV g (nV g) (kV g) 0 0 q = 0 := fun y => by rw [decide_eq_true y] at z; cases z
      rw [decide_eq_false z2] at h
      refine am_run_k 4 ?_
      refine am_run_k 4 ?_
      refine am_run_k 4 (And.intro (fun h6 => ?_) (fun hx => absurd ((show g1 22 7 ≤ 0 by rw [e7]; exact Int32.le_refl _)) hx))
      refine am_run_k 2 (And.intro (fun hx => absurd hx ((by decide))) (fun h7 => ?_))
      refine am_run_k 2 ?_
      exact h
    · have z : (!decide (thV g (nV g) (kV g) 0 0 q = 0)) = false := by first | exact bi_f h2 | exact bi_t h2
      have z2 : thV g (nV g) (kV g) 0 0 q = 0 := by
        by_cases y : thV g (nV g) (kV g) 0 0 q = 0
        · exact y
        · rw [decide_eq_false y] at z; cases z
      rw [decide_eq_true z2] at h
      refine am_run_k 2 ?_
      exact h
  · have e : aClm g a = -1 := by unfold aClm; rw [bi_f h1]; rfl
    refine am_run_k 2 ?_
    have h := h g t
    rw [e] at h
    exact h
end RST
