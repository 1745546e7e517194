section OPS
variable {d : Nat} {g : am_G} {Q : am_Q} {B c f : Nat}
/-- people: what the class's call leaves -/
def MPeople (g : am_G) (n : Int32) (c : Nat) (r : Int32) (g1 : am_G) : Prop := (am_in2 n 2 6 = false ∧ r = -1 ∧ g1 = g) ∨ (am_in2 n 2 6 = true ∧ (decide (n ≤ g 22 6) || nmM g n c) = true ∧ r = -2 ∧ g1 = g) ∨ (am_in2 n 2 6 = true ∧ (decide (n ≤ g 22 6) || nmM g n c) = false ∧ r = g 22 0 ∧ g1 = am_up g 1 3 n ∧ IC g1)
theorem x_people {n : Int32} (t : T g B c f) (h : ∀ r g1, MPeople g n c r g1 → Q (some (.int r)) LY g1) : am (d + 2) 50 0 [some (.ref 0), some (.int n), none] [] LY g 0 0 none Q := by
  obtain ⟨⟨hc, hf, e51, e54⟩, ⟨I, I2⟩, ⟨⟨a0, a1, a2, a3, a4, a5⟩, -⟩, tj, tl, tr, tf, tc, ts⟩ := id t
  have en := nmF_M (n := n) tr
  refine f_people_x I hc e51 (fun e => h _ _ (Or.inl ⟨e, rfl, rfl⟩)) (fun e e2 => h _ _ (Or.inr (Or.inl ⟨e, ?_, rfl, rfl⟩))) (fun e e2 I' => h _ _ (Or.inr (Or.inr ⟨e, ?_, a0, rfl, I'⟩)))
  · rw [← en, ← a4]; exact e2
  · rw [← en, ← a4]; exact e2
theorem y_people {n r : Int32} {g1 : am_G} {l2 l3 l4 : Option Value} (t : T g B c f) (m : MPeople g n c r g1) (h : ∀ g2 c' f', T g2 B c' f' → Q (some (.int r)) LY g2) : am (d + 2) 88 0 [some (.ref 22), some (.int n), l2, l3, l4] [] LY g1 0 0 none Q := by
  obtain ⟨⟨hc, hf, e51, e54⟩, ⟨I, I2⟩, ⟨⟨a0, a1, a2, a3, a4, a5⟩, ta2, ta3⟩, tj, tl, tr, tf, tc, ts⟩ := id t
  rcases m with ⟨e, hr, hg⟩ | ⟨e, e2, hr, hg⟩ | ⟨e, e2, hr, hg, I'⟩
  · subst hr; subst hg
    refine m_people_x I2 hc t.c7 (fun _ => h _ _ _ t) (fun e' => ?_) (fun e' => ?_)
    · rw [e] at e'; cases e'
    · rw [e] at e'; cases e'
  · subst hr; subst hg
    refine m_people_x I2 hc t.c7 (fun e' => ?_) (fun _ _ => h _ _ _ t) (fun _ e' => ?_)
    · rw [e] at e'; cases e'
    · rw [e2] at e'; cases e'
  · subst hg
    have o : ∀ k, k ≠ 1 → am_up g 1 3 n k = g k := fun k hk => am_up_ne hk
    have e2' : (decide (n ≤ am_up g 1 3 n 22 6) || nmM (am_up g 1 3 n) n c) = false := by
      rw [nmM_of (o 25 (by decide)) (o 26 (by decide)), o 22 (by decide)]; exact e2
    refine m_people_x (I2.hi (fun k hk => o k (by omega))) hc (by rw [o 22 (by decide)]; exact t.c7) (fun e' => ?_) (fun _ e' => ?_) (fun _ _ J => ?_)
    · rw [e] at e'; cases e'
    · rw [e2'] at e'; cases e'
    · rw [o 22 (by decide), ← hr]
      refine h _ c f ⟨⟨hc, hf, e51, e54⟩, ⟨I'.lo (fun k hk => am_up_ne (by omega)), J⟩, ⟨⟨?_, a1, a2, a3, a4, a5⟩, ta2, ta3⟩, tj.of rfl rfl rfl, tl.of rfl rfl, tr.of rfl rfl rfl, ⟨tf.1.of rfl rfl, tf.2.of rfl rfl⟩, tc.of rfl rfl, ⟨ts.1.of rfl rfl rfl rfl, ts.2.of rfl rfl rfl rfl⟩⟩
      rw [am_up_ne (by decide), am_up_us, am_up_us]
/-- door -/
def aDoor (g : am_G) (a b : Int32) : Int32 := bif am_ir a 8 && (am_ir b 8 && !decide (a = b)) then (bif bt (g 23 a.toNatClampNeg) b.toNatClampNeg then -2 else (bif decide (12 ≤ g 22 1) then -3 else g 22 1 + 1)) else -1
def MDoor (g : am_G) (a b : Int32) (r : Int32) (g1 : am_G) : Prop := r = aDoor g a b ∧ ((r < 0 ∧ g1 = g) ∨ ∃ i j, i < 8 ∧ j < 8 ∧ i ≠ j ∧ a = nI i ∧ b = nI j ∧ bt (g 23 i) j = false ∧ ¬ 12 ≤ g 22 1 ∧ IC g1 ∧ (∀ k, k ≠ 2 → k ≠ 3 → k ≠ 4 → g1 k = g k) ∧ g1 2 2 = g 2 2 + 1 ∧ g1 3 = nrF (g 3) i j ∧ ∀ s, s < 256 → g1 4 s = stF i j s (g 4 s))
theorem x_door {a b : Int32} (t : T g B c f) (h : ∀ r g1, MDoor g a b r g1 → Q (some (.int r)) LY g1) : am (d + 2) 51 0 [some (.ref 0), some (.int a), some (.int b)] [] LY g 0 0 none Q := by
  obtain ⟨⟨hc, hf, e51, e54⟩, ⟨I, I2⟩, ⟨⟨a0, a1, a2, a3, a4, a5⟩, ⟨dn, hdn, edn⟩, ta3⟩, tj, tl, tr, tf, tc, ts⟩ := id t
  refine am_run_k 2 (am_cl ?_)
  refine w_isPlace ?_
  refine am_run_k 1 (And.intro (fun h1 => ?_) (fun h1 => ?_))
  · refine am_run_k 2 ?_
    refine h _ g ⟨?_, Or.inl ⟨by decide, rfl⟩⟩
    unfold aDoor; rw [bi_f h1]; rfl
  · refine am_run_k 2 (am_cl ?_)
    refine w_isPlace ?_
    refine am_run_k 1 (And.intro (fun h2 => ?_) (fun h2 => ?_))
    · refine am_run_k 2 ?_
      refine h _ g ⟨?_, Or.inl ⟨by decide, rfl⟩⟩
      unfold aDoor; rw [bi_t h1, bi_f h2]; rfl
    · refine am_run_k 3 (And.intro (fun h3 => ?_) (fun h3 => ?_))
      · obtain ⟨i, hi, ea⟩ := am_ir_nI (k := 8) (by decide) (bi_t h1)
        obtain ⟨j, hj, eb⟩ := am_ir_nI (k := 8) (by decide) (bi_t h2)
        subst ea; subst eb
        have hij : i ≠ j := fun e => h3 (by rw [e])
        have hb : bt (g 3 i) j = bt (g 23 i) j := by
          rw [← tj.1 i hi, b_or, b_sh (by omega) (by omega), decide_eq_false (show ¬ j = i from fun e => hij e.symm), Bool.or_false]
        have hA : ∀ x : Int32, (bif bt (g 23 i) j then -2 else (bif decide (12 ≤ g 22 1) then -3 else g 22 1 + 1)) = x → aDoor g (nI i) (nI j) = x := by
          intro x hx
          unfold aDoor
          rw [bi_t h1, bi_t h2, decide_eq_false h3, ncl (show i < 2 ^ 31 by omega), ncl (show j < 2 ^ 31 by omega)]
          exact hx
        refine am_run_k 6 (am_cl ?_)
        refine w_joined (vpn hi) ?_
        rw [ncl (by omega), hs_bt (by omega), hb]
        refine am_run_k 1 (And.intro (fun h4 => ?_) (fun h4 => ?_))
        · refine am_run_k 6 (And.intro (fun h5 => ?_) (fun h5 => ?_))
          · refine am_run_k 6 (am_cl ?_)
            refine w_join hi hj (fun g1 e1 e2 e3 e4 e5 => ?_)
            refine am_run_k 5 ?_
            have fr : frC g g1 := fun k hk => e1 k (by omega) (by omega) (by omega)
            have h5' : ¬ 12 ≤ g 22 1 := by rw [← a1]; exact fa_nle.mpr h5
            refine h _ g1 ⟨?_, Or.inr ⟨i, j, hi, hj, hij, rfl, rfl, bi_f h4, h5', ⟨I.1.of (e1 1 (by decide) (by decide) (by decide)) (e1 5 (by decide) (by decide) (by decide)) (e1 6 (by decide) (by decide) (by decide)) (e1 7 (by decide) (by decide) (by decide)), I.2.fr fr⟩, e1, e3, e4, e5⟩⟩
            rw [e3, a1]
            exact (hA _ (by rw [bi_f h4, decide_eq_false h5']; rfl)).symm
          · refine am_run_k 2 ?_
            refine h _ g ⟨?_, Or.inl ⟨by decide, rfl⟩⟩
            have h5' : (12 : Int32) ≤ g 22 1 := by rw [← a1]; exact fa_nlt.mp h5
            exact (hA _ (by rw [bi_f h4, decide_eq_true h5']; rfl)).symm
        · refine am_run_k 2 ?_
          refine h _ g ⟨?_, Or.inl ⟨by decide, rfl⟩⟩
          exact (hA _ (by rw [bi_t h4]; rfl)).symm
      · refine am_run_k 2 ?_
        refine h _ g ⟨?_, Or.inl ⟨by decide, rfl⟩⟩
        have h3 : a = b := by first | exact h3 | exact rdr h3
        unfold aDoor; rw [bi_t h1, bi_t h2, decide_eq_true h3]; rfl
theorem y_door {a b r : Int32} {g1 : am_G} (t : T g B c f) (m : MDoor g a b r g1) (h : ∀ g2 c' f', T g2 B c' f' → Q (some (.int r)) LY g2) : am (d + 2) 89 0 [some (.ref 22), some (.int a), some (.int b)] [] LY g1 0 0 none Q := by
  obtain ⟨⟨hc, hf, e51, e54⟩, ⟨I, I2⟩, ⟨⟨a0, a1, a2, a3, a4, a5⟩, ⟨dn, hdn, edn⟩, ta3⟩, tj, tl, tr, tf, tc, ts⟩ := id t
  obtain ⟨hr, m⟩ := m
  have hc2 : ∀ k, 22 ≤ k → g1 k = g k := by
    intro k hk
    rcases m with ⟨-, e⟩ | ⟨i, j, -, -, -, -, -, -, -, -, e, -⟩
    · rw [e]
    · exact e k (by omega) (by omega) (by omega)
  have neg : r < 0 → ∀ g', g' = g1 → Q (some (.int r)) LY g' := by
    intro hn g' eg
    subst eg
    rcases m with ⟨-, e⟩ | ⟨i, j, hi, hj, hij, ea, eb, hb, h12, -⟩
    · rw [e]; exact h _ _ _ t
    · exfalso
      rw [hr] at hn
      unfold aDoor at hn
      rw [ea, eb, show am_ir (nI i) 8 = true from am_ir_in (k := 8) hi (by decide), show am_ir (nI j) 8 = true from am_ir_in (k := 8) hj (by decide), decide_eq_false (fun e => hij ((nI_eq (by omega) (by omega)).mp e)), ncl (by omega), ncl (by omega), hb, decide_eq_false h12, edn, nI_1] at hn
      exact absurd hn (nI_pos (by omega))
  have I21 := I2.hi hc2
  refine am_run_k 2 (am_cl ?_)
  refine m_isPlace ?_
  refine am_run_k 1 (And.intro (fun h1 => ?_) (fun h1 => ?_))
  · refine am_run_k 2 ?_
    have : r = -1 := by rw [hr]; unfold aDoor; rw [bi_f h1]; rfl
    have hh := neg (by rw [this]; decide) _ rfl
    rw [this] at hh; exact hh
  · refine am_run_k 2 (am_cl ?_)
    refine m_isPlace ?_
    refine am_run_k 1 (And.intro (fun h2 => ?_) (fun h2 => ?_))
    · refine am_run_k 2 ?_
      have : r = -1 := by rw [hr]; unfold aDoor; rw [bi_t h1, bi_f h2]; rfl
      have hh := neg (by rw [this]; decide) _ rfl
      rw [this] at hh; exact hh
    · obtain ⟨i, hi, ea⟩ := am_ir_nI (k := 8) (by decide) (bi_t h1)
      obtain ⟨j, hj, eb⟩ := am_ir_nI (k := 8) (by decide) (bi_t h2)
      subst ea; subst eb
      refine am_run_k 3 (And.intro (fun h3 => ?_) (fun h3 => ?_))
      · have hij : i ≠ j := fun e => h3 (by rw [e])
        have hA : r = (bif bt (g 23 i) j then -2 else (bif decide (12 ≤ g 22 1) then -3 else g 22 1 + 1)) := by
          rw [hr]
          unfold aDoor
          rw [bi_t h1, bi_t h2, decide_eq_false h3, ncl (show i < 2 ^ 31 by omega), ncl (show j < 2 ^ 31 by omega)]
          rfl
        refine am_run_k 4 (And.intro (vpn hi) ?_)
        rw [ncl (by omega), hc2 23 (by decide)]
        refine am_run_k 6 (And.intro (fun h4 => ?_) (fun h4 => ?_))
        · have h4 : bt (g 23 i) j = false := by
            rw [bit01 (by omega)] at h4
            cases hb : bt (g 23 i) j with
            | false => rfl
            | true => rw [hb] at h4; exact absurd rfl h4
          refine am_run_k 4 (And.intro (fun h5 => ?_) (fun h5 => ?_))
          · refine am_run_k 4 (am_cl ?_)
            refine m_join hi hj ?_
            refine am_run_k 3 ?_
            have h12 : ¬ 12 ≤ g 22 1 := by
              rw [hc2 22 (by decide), edn] at h5
              rw [edn]
              intro e
              have := (nI_leI (a := 12) (by omega) (by omega)).mp e
              exact h5 (by rw [show dn = 12 by omega]; rfl)
            have hb1 : jnA g1 i j 22 1 = r := by
              unfold jnA
              rw [am_up_us, hA, h4, decide_eq_false h12, hc2 22 (by decide)]
              rfl
            suffices hh : Q (some (.int r)) LY (jnA g1 i j) by
              rw [← hb1] at hh; exact hh
            rcases m with ⟨e, -⟩ | ⟨i', j', hi', hj', -, ea, eb, -, -, I', e1, e2, e3, e4⟩
            · rw [hA, h4, decide_eq_false h12, edn] at e
              exact absurd (show nI dn + 1 < 0 from e) (by rw [nI_1]; exact nI_pos (by omega))
            · have hi2 : i = i' := (nI_eq (by omega) (by omega)).mp ea
              have hj2 : j = j' := (nI_eq (by omega) (by omega)).mp eb
              subst hi2; subst hj2
              have q1 : ∀ k, k ≠ 22 → k ≠ 23 → jnA g1 i j k = g1 k := fun k => jnA_ne
              have q2 : ∀ k, k ≠ 2 → k ≠ 3 → k ≠ 4 → k ≠ 22 → k ≠ 23 → jnA g1 i j k = g k := fun k h2 h3 h4 h22 h23 => (q1 k h22 h23).trans (e1 k h2 h3 h4)
              have q3 : ∀ k, k ≠ 1 → jnA g1 i j 22 k = g 22 k := fun k hk => by rw [jnA_22 hk, hc2 22 (by decide)]
              have q23 : jnA g1 i j 23 = jnA g i j 23 := by
                unfold jnA
                rw [am_up_ne (show (23 : Nat) ≠ 22 by decide), am_up_ne (show (23 : Nat) ≠ 22 by decide)]
                simp only [am_up_at, hc2 23 (by decide)]
              have hn : jnA g1 i j 22 1 = g 22 1 + 1 := by unfold jnA; rw [am_up_us, hc2 22 (by decide)]
              refine h _ c f ⟨⟨hc, hf, by rw [q2 5 (by decide) (by decide) (by decide) (by decide) (by decide)]; exact e51, by rw [q2 5 (by decide) (by decide) (by decide) (by decide) (by decide)]; exact e54⟩, ⟨I'.lo (fun k hk => q1 k (by omega) (by omega)), ?_⟩, ⟨⟨?_, ?_, ?_, ?_, ?_, ?_⟩, ⟨dn + 1, ?_, ?_⟩, ?_⟩, tj.join hi hj hij ?_ ?_ q23, tl.of ?_ ?_, tr.of ?_ ?_ ?_, ⟨tf.1.of ?_ ?_, tf.2.of ?_ ?_⟩, tc.of ?_ ?_, ⟨ts.1.of ?_ ?_ ?_ ?_, ts.2.of ?_ ?_ ?_ ?_⟩⟩
              · exact ⟨I21.1.of (jnA_22 (by decide)) (jnA_22 (by decide)) (jnA_22 (by decide)) (jnA_ne (by decide) (by decide)) (jnA_ne (by decide) (by decide)), jnA_JN hi hj hij I21.2.1, I21.2.2.1.of (jnA_ne (by decide) (by decide)), I21.2.2.2.of (jnA_ne (by decide) (by decide))⟩
              · rw [q2 1 (by decide) (by decide) (by decide) (by decide) (by decide), q3 0 (by decide)]; exact a0
              · rw [q1 2 (by decide) (by decide), e2, hn, a1]
              · rw [q2 1 (by decide) (by decide) (by decide) (by decide) (by decide), q3 4 (by decide)]; exact a2
              · rw [q2 1 (by decide) (by decide) (by decide) (by decide) (by decide), q3 5 (by decide)]; exact a3
              · rw [q2 1 (by decide) (by decide) (by decide) (by decide) (by decide), q3 6 (by decide)]; exact a4
              · rw [q2 5 (by decide) (by decide) (by decide) (by decide) (by decide), q3 7 (by decide)]; exact a5
              · rcases Nat.lt_or_ge dn 12 with e | e
                · exact e
                · exact absurd (show (12 : Int32) ≤ g 22 1 by rw [edn, show dn = 12 by omega]; exact nI_le (a := 12) (Nat.le_refl 12) (by decide)) h12
              · rw [hn, edn, nI_1]
              · rw [q3 6 (by decide), q3 4 (by decide)]; exact ta3
              · rw [q1 3 (by decide) (by decide)]; exact e3
              · rw [q1 4 (by decide) (by decide)]; exact e4
              all_goals first | exact q2 _ (by decide) (by decide) (by decide) (by decide) (by decide) | exact congrFun (q2 5 (by decide) (by decide) (by decide) (by decide) (by decide)) 2 | exact q3 _ (by decide)
          · have h5 : g1 22 1 = 12 := by first | exact h5 | exact rdr h5
            rw [hc2 22 (by decide)] at h5
            refine am_run_k 2 ?_
            have : r = -3 := by rw [hA, h4, decide_eq_true (show (12 : Int32) ≤ g 22 1 by rw [h5]; exact Int32.le_refl _)]; rfl
            have hh := neg (by rw [this]; decide) _ rfl
            rw [this] at hh; exact hh
        · refine am_run_k 2 ?_
          have h4 : bt (g 23 i) j = true := by
            rw [bit01 (by omega)] at h4
            cases hb : bt (g 23 i) j with
            | true => rfl
            | false => rw [hb] at h4; first | exact absurd h4 (by decide) | exact absurd (rdr h4) (by decide)
          have : r = -2 := by rw [hA, h4]; rfl
          have hh := neg (by rw [this]; decide) _ rfl
          rw [this] at hh; exact hh
      · refine am_run_k 2 ?_
        have h3 : nI i = nI j := by first | exact h3 | exact rdr h3
        have : r = -1 := by rw [hr]; unfold aDoor; rw [bi_t h1, bi_t h2, decide_eq_true h3]; rfl
        have hh := neg (by rw [this]; decide) _ rfl
        rw [this] at hh; exact hh
end OPS
