section OPT
variable {d : Nat} {g : am_G} {Q : am_Q} {B c f : Nat}
/-- lies -/
def MLies (g : am_G) (a b r : Int32) (g1 : am_G) : Prop := ((am_ir a 3 && am_ir b 8) = false ∧ r = -1 ∧ g1 = g) ∨ ∃ i z, i < 3 ∧ z < 8 ∧ a = nI i ∧ b = nI z ∧ r = g 24 i ∧ g1 = am_up g 8 i b
theorem x_lies {a b : Int32} (t : T g B c f) (h : ∀ r g1, MLies g a b r g1 → Q (some (.int r)) LY g1) : am (d + 2) 52 0 [some (.ref 0), some (.int a), some (.int b), none] [] LY g 0 0 none Q := by
  obtain ⟨⟨hc, hf, e51, e54⟩, ⟨I, I2⟩, ta, tj, tl, -⟩ := id t
  refine am_run_k 2 (am_cl ?_)
  refine w_isThing ?_
  refine am_run_k 1 (And.intro (fun h1 => ?_) (fun h1 => ?_))
  · refine am_run_k 2 ?_
    exact h _ g (Or.inl ⟨by rw [bi_f h1]; rfl, rfl, rfl⟩)
  · obtain ⟨i, hi, ea⟩ := am_ir_nI (k := 3) (by decide) (bi_t h1)
    subst ea
    refine am_run_k 2 (am_cl ?_)
    refine w_isPlace ?_
    refine am_run_k 1 (And.intro (fun h2 => ?_) (fun h2 => ?_))
    · obtain ⟨z, hz, eb⟩ := am_ir_nI (k := 8) (by decide) (bi_t h2)
      refine am_run_k 5 (And.intro (vpn hi) ?_)
      refine am_run_k 7 (And.intro (vpn hi) ?_)
      refine am_run_k 2 ?_
      rw [ncl (by omega), tl i hi]
      exact h _ _ (Or.inr ⟨i, z, hi, hz, rfl, eb, rfl, rfl⟩)
    · refine am_run_k 2 ?_
      exact h _ g (Or.inl ⟨by rw [bi_f h2, Bool.and_false], rfl, rfl⟩)
theorem y_lies {a b r : Int32} {g1 : am_G} {l3 : Option Value} (t : T g B c f) (m : MLies g a b r g1) (h : ∀ g2 c' f', T g2 B c' f' → Q (some (.int r)) LY g2) : am (d + 2) 91 0 [some (.ref 22), some (.int a), some (.int b), l3] [] LY g1 0 0 none Q := by
  obtain ⟨⟨hc, hf, e51, e54⟩, ⟨I, I2⟩, ta, tj, tl, tr, tf, tc, ts⟩ := id t
  refine am_run_k 4 (am_cl ?_)
  refine w_in ?_
  rw [show am_in2 a 0 2 = am_ir a 3 from in_ir (k := 2) (by decide)]
  refine am_run_k 1 (And.intro (fun h1 => ?_) (fun h1 => ?_))
  · refine am_run_k 2 ?_
    rcases m with ⟨e, hr, hg⟩ | ⟨i, z, hi, hz, ea, eb, hr, hg⟩
    · subst hr; subst hg; exact h _ _ _ t
    · rw [ea, show am_ir (nI i) 3 = true from am_ir_in (k := 3) hi (by decide)] at h1; exact absurd h1 (by decide)
  · refine am_run_k 2 (am_cl ?_)
    refine m_isPlace ?_
    refine am_run_k 1 (And.intro (fun h2 => ?_) (fun h2 => ?_))
    · rcases m with ⟨e, hr, hg⟩ | ⟨i, z, hi, hz, ea, eb, hr, hg⟩
      · rw [bi_t h1, bi_t h2] at e; cases e
      · subst ea; subst eb; subst hg; subst hr
        refine am_run_k 4 (And.intro (vpn (by omega)) ?_)
        refine am_run_k 6 (And.intro (vpn (by omega)) ?_)
        refine am_run_k 2 ?_
        rw [ncl (by omega), am_up_ne (show (24 : Nat) ≠ 8 by decide)]
        refine h _ c f ⟨⟨hc, hf, e51, e54⟩, ⟨I.lo' (fun k h8 hk => by rw [am_up_ne (show k ≠ 24 by omega), am_up_ne h8]), ?_⟩, ta, tj.of rfl rfl rfl, fun w hw => ?_, tr.of rfl rfl rfl, ⟨tf.1.of rfl rfl, tf.2.of rfl rfl⟩, tc.of rfl rfl, ⟨ts.1.of rfl rfl rfl rfl, ts.2.of rfl rfl rfl rfl⟩⟩
        · refine ⟨I2.1.of rfl rfl rfl rfl rfl, I2.2.1.of rfl, fun u hu => ?_, I2.2.2.2.of rfl⟩
          by_cases e : u = i
          · exact ⟨z, hz, by rw [e, am_up_us]⟩
          · rw [am_up_un e]; exact I2.2.2.1 u hu
        · rw [am_up_ne (show (8 : Nat) ≠ 24 by decide)]
          by_cases e : w = i
          · subst e; rw [am_up_us, am_up_us]
          · rw [am_up_un e, am_up_un e, am_up_ne (show (24 : Nat) ≠ 8 by decide)]; exact tl w hw
    · refine am_run_k 2 ?_
      rcases m with ⟨e, hr, hg⟩ | ⟨i, z, hi, hz, ea, eb, hr, hg⟩
      · subst hr; subst hg; exact h _ _ _ t
      · rw [eb, show am_ir (nI z) 8 = true from am_ir_in (k := 8) hz (by decide)] at h2; exact absurd h2 (by decide)
/-- deed -/
def MDeed (g : am_G) (a b v r : Int32) (g1 : am_G) : Prop := (deM g a b v = false ∧ r = -1 ∧ g1 = g) ∨ (deM g a b v = true ∧ r = 1 ∧ IC g1 ∧ (∀ k, k ≠ 1 → g1 k = g k) ∧ (∀ i, i ≠ 4 → i ≠ 5 → i ≠ 6 → g1 1 i = g 1 i) ∧ g1 1 4 = a ∧ g1 1 5 = b ∧ g1 1 6 = v)
theorem x_deed {a b v : Int32} (t : T g B c f) (h : ∀ r g1, MDeed g a b v r g1 → Q (some (.int r)) LY g1) : am (d + 2) 53 0 [some (.ref 0), some (.int a), some (.int b), some (.int v)] [] LY g 0 0 none Q := by
  obtain ⟨⟨hc, hf, e51, e54⟩, ⟨I, I2⟩, ⟨⟨a0, a1, a2, a3, a4, a5⟩, -⟩, -⟩ := id t
  obtain ⟨n, hn1, hn2, en⟩ := I.1.1
  have e := deM_deB (g := g) (a := a) (b := b) (c := v) ⟨hn1, hn2⟩ en (a0.symm.trans en)
  exact f_deed_x I (fun z => h _ _ (Or.inl ⟨e.trans z, rfl, rfl⟩)) (fun z g' I' _ q1 q2 q3 q4 q5 => h _ _ (Or.inr ⟨e.trans z, rfl, I', q1, q2, q3, q4, q5⟩))
theorem y_deed {a b v r : Int32} {g1 : am_G} (t : T g B c f) (m : MDeed g a b v r g1) (h : ∀ g2 c' f', T g2 B c' f' → Q (some (.int r)) LY g2) : am (d + 2) 92 0 [some (.ref 22), some (.int a), some (.int b), some (.int v)] [] LY g1 0 0 none Q := by
  obtain ⟨⟨hc, hf, e51, e54⟩, ⟨I, I2⟩, ⟨⟨a0, a1, a2, a3, a4, a5⟩, ta2, ta3⟩, tj, tl, tr, tf, tc, ts⟩ := id t
  rcases m with ⟨e, hr, hg⟩ | ⟨e, hr, I', q1, q2, q3, q4, q5⟩
  · subst hr; subst hg
    refine m_deed_x I2 (fun _ => h _ _ _ t) (fun z _ => ?_)
    rw [e] at z; cases z
  · subst hr
    have J1 : IM g1 := I2.hi (fun k hk => q1 k (by omega))
    have e' : deM g1 a b v = deM g a b v := by unfold deM; rw [q1 22 (by decide)]
    refine m_deed_x J1 (fun z => ?_) (fun _ J => ?_)
    · rw [e', e] at z; cases z
    · have u : ∀ k, k ≠ 22 → am_up (am_up (am_up g1 22 4 a) 22 5 b) 22 6 v k = g1 k := fun k hk => by rw [am_up_ne hk, am_up_ne hk, am_up_ne hk]
      have w : ∀ k, k ≠ 1 → k ≠ 22 → am_up (am_up (am_up g1 22 4 a) 22 5 b) 22 6 v k = g k := fun k h1 h2 => (u k h2).trans (q1 k h1)
      have y : ∀ i, i ≠ 4 → i ≠ 5 → i ≠ 6 → am_up (am_up (am_up g1 22 4 a) 22 5 b) 22 6 v 22 i = g 22 i := fun i h4 h5 h6 => by rw [am_up_un h6, am_up_un h5, am_up_un h4, q1 22 (by decide)]
      have hv := e
      unfold deM at hv
      simp only [Bool.and_eq_true] at hv
      refine h _ c f ⟨⟨hc, hf, by rw [w 5 (by decide) (by decide)]; exact e51, by rw [w 5 (by decide) (by decide)]; exact e54⟩, ⟨I'.lo (fun k hk => u k (by omega)), J⟩, ⟨⟨?_, ?_, ?_, ?_, ?_, ?_⟩, ?_, ?_, ?_⟩, tj.of (w 3 (by decide) (by decide)) (w 4 (by decide) (by decide)) (w 23 (by decide) (by decide)), tl.of (w 8 (by decide) (by decide)) (w 24 (by decide) (by decide)), tr.of (w 6 (by decide) (by decide)) (w 25 (by decide) (by decide)) (w 26 (by decide) (by decide)), ⟨tf.1.of (congrFun (w 5 (by decide) (by decide)) 2) (w 27 (by decide) (by decide)), tf.2.of (congrFun (w 5 (by decide) (by decide)) 2) (w 7 (by decide) (by decide))⟩, tc.of (y 11 (by decide) (by decide) (by decide)) (w 27 (by decide) (by decide)), ⟨ts.1.of (w 18 (by decide) (by decide)) (w 20 (by decide) (by decide)) (w 28 (by decide) (by decide)) (w 29 (by decide) (by decide)), ts.2.of (w 19 (by decide) (by decide)) (w 21 (by decide) (by decide)) (w 29 (by decide) (by decide)) (w 30 (by decide) (by decide))⟩⟩
      · rw [u 1 (by decide), y 0 (by decide) (by decide) (by decide), q2 3 (by decide) (by decide) (by decide)]; exact a0
      · rw [w 2 (by decide) (by decide), y 1 (by decide) (by decide) (by decide)]; exact a1
      · rw [u 1 (by decide), q3]; rfl
      · rw [u 1 (by decide), q4]; rfl
      · rw [u 1 (by decide), q5]; rfl
      · rw [w 5 (by decide) (by decide), y 7 (by decide) (by decide) (by decide)]; exact a5
      · rw [y 1 (by decide) (by decide) (by decide)]; exact ta2
      · rw [am_up_us]
        obtain ⟨n, hn1, hn2, en⟩ := I2.1.1
        rw [en] at hv
        have h2 := hv.2.2
        unfold am_in2 at h2
        rw [Bool.and_eq_true, decide_eq_true_iff, decide_eq_true_iff] at h2
        by_cases hz : v < 0
        · left
          have k1 := Int32.le_iff_toInt_le.mp h2.1
          have k2 := Int32.lt_iff_toInt_lt.mp hz
          have k3 : (-1 : Int32).toInt = -1 := by decide
          have k0 : (0 : Int32).toInt = 0 := by decide
          apply Int32.toInt_inj.mp
          omega
        · right
          obtain ⟨q, hq, eq⟩ := nI_of hz
          refine ⟨q, ?_, eq⟩
          obtain ⟨n', rfl⟩ : ∃ n', n = n' + 1 := ⟨n - 1, by omega⟩
          have k1 := h2.2
          rw [eq, nI_pred] at k1
          have := (nI_leI hq (by omega)).mp k1
          omega
      · obtain ⟨p, hp, ep⟩ := am_ir_nI (k := 8) (by decide) hv.1
        exact ⟨p, hp, by rw [am_up_un (by decide), am_up_un (by decide), am_up_us]; exact ep⟩
/-- told -/
def aTold (g : am_G) (a : Int32) : Int32 := if a = 0 then g 22 4 else if a = 1 then g 22 5 else if a = 2 then (if g 22 6 = -1 then -2 else g 22 6) else if a = 3 then g 22 0 else if a = 4 then g 22 1 else -1
theorem x_told {a : Int32} (t : T g B c f) (h : Q (some (.int (aTold g a))) LY g) : am d 54 0 [some (.ref 0), some (.int a)] [] LY g 0 0 none Q := by
  obtain ⟨-, -, ⟨⟨a0, a1, a2, a3, a4, a5⟩, -⟩, -⟩ := id t
  unfold aTold at h
  refine am_run_k 2 (And.intro (fun h1 => ?_) (fun h1 => And.intro (fun h2 => ?_) (fun h2 => And.intro (fun h3 => ?_) (fun h3 => And.intro (fun h4 => ?_) (fun h4 => And.intro (fun h5 => ?_) (fun h5 => ?_))))))
  · refine am_run_k 4 ?_
    rw [if_pos h1, ← a2] at h
    exact h
  · refine am_run_k 4 ?_
    rw [if_neg h1, if_pos h2, ← a3] at h
    exact h
  · rw [if_neg h1, if_neg h2, if_pos h3, ← a4] at h
    refine am_run_k 5 (And.intro (fun h6 => ?_) (fun h6 => ?_))
    · refine am_run_k 4 ?_
      rw [if_neg h6] at h
      exact h
    · refine am_run_k 3 ?_
      rw [if_pos (show g 1 6 = -1 by first | exact h6 | exact rdr h6)] at h
      exact h
  · refine am_run_k 4 ?_
    rw [if_neg h1, if_neg h2, if_neg h3, if_pos h4, ← a0] at h
    exact h
  · refine am_run_k 5 ?_
    rw [if_neg h1, if_neg h2, if_neg h3, if_neg h4, if_pos h5, ← a1] at h
    exact h
  · refine am_run_k 2 ?_
    rw [if_neg h1, if_neg h2, if_neg h3, if_neg h4, if_neg h5] at h
    exact h
theorem y_told {a : Int32} (t : T g B c f) (h : Q (some (.int (aTold g a))) LY g) : am d 93 0 [some (.ref 22), some (.int a)] [] LY g 0 0 none Q := by
  obtain ⟨-, -, ⟨-, -, hv, -⟩, -⟩ := id t
  unfold aTold at h
  refine am_run_k 2 (And.intro (fun h1 => ?_) (fun h1 => And.intro (fun h2 => ?_) (fun h2 => And.intro (fun h3 => ?_) (fun h3 => And.intro (fun h4 => ?_) (fun h4 => And.intro (fun h5 => ?_) (fun h5 => ?_))))))
  · refine am_run_k 3 ?_
    rw [if_pos h1] at h
    exact h
  · refine am_run_k 3 ?_
    rw [if_neg h1, if_pos h2] at h
    exact h
  · rw [if_neg h1, if_neg h2, if_pos h3] at h
    refine am_run_k 3 (And.intro (fun h6 => ?_) (fun h6 => ?_))
    · refine am_run_k 3 ?_
      rw [if_neg (fun e => by rw [e] at h6; exact absurd h6 (by decide))] at h
      exact h
    · refine am_run_k 3 ?_
      rw [if_pos ?_] at h
      · exact h
      · rcases hv with e | ⟨q, hq, e⟩
        · exact e
        · rw [e] at h6; exact absurd (nI_pos' (by omega)) h6
  · refine am_run_k 3 ?_
    rw [if_neg h1, if_neg h2, if_neg h3, if_pos h4] at h
    exact h
  · refine am_run_k 3 ?_
    rw [if_neg h1, if_neg h2, if_neg h3, if_neg h4, if_pos h5] at h
    exact h
  · refine am_run_k 2 ?_
    rw [if_neg h1, if_neg h2, if_neg h3, if_neg h4, if_neg h5] at h
    exact h
end OPT
