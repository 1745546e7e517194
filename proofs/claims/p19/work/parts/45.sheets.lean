section OPW
variable {d : Nat} {g : am_G} {Q : am_Q} {B c f : Nat}
/-- sheet -/
def MSheet (g : am_G) (a b n r : Int32) (g1 : am_G) : Prop := (r = shA n a b ∧ r < 0 ∧ g1 = g) ∨ ∃ m j l, m ≤ 60 ∧ n = nI m ∧ j < 2 ∧ a = nI j ∧ l < 2 ∧ b = nI l ∧ shA n a b = n ∧ r = n ∧ IC g1 ∧ (∀ k, k ≠ 18 + 2 * j → k ≠ 19 + 2 * j → g1 k = g k) ∧ g1 (18 + 2 * j) 1 = b ∧ g1 (18 + 2 * j) 2 = n ∧ ∀ p, p < m → g1 (19 + 2 * j) p = 0
theorem x_sheet {a b n : Int32} (t : T g B c f) (h : ∀ r g1, MSheet g a b n r g1 → Q (some (.int r)) LY g1) : am (d + 2) 70 0 [some (.ref 0), some (.int a), some (.int b), some (.int n)] [] LY g 0 0 none Q := by
  obtain ⟨-, ⟨I, I2⟩, -⟩ := id t
  exact f_sheet I (fun r e1 e2 => h _ _ (Or.inl ⟨e1, e2, rfl⟩)) (fun m j l g' q1 q2 q3 q4 q5 q6 q7 q8 q9 q10 q11 q12 _ => h _ _ (Or.inr ⟨m, j, l, q1, q2, q3, q4, q5, q6, q7, rfl, q8, q9, q10, q11, q12⟩))
theorem m_sheet_x {a b n : Int32} {l4 : Option Value} (I : IM g) (h0 : ∀ r, r = shA n a b → r < 0 → Q (some (.int r)) LY g) (h1 : ∀ (m j l : Nat) (g' : am_G), m ≤ 60 → n = nI m → j < 2 → a = nI j → l < 2 → b = nI l → shA n a b = n → IM g' → (∀ k, k ≠ 28 → k ≠ 29 → k ≠ 30 → g' k = g k) → (∀ i, g' 28 i = if i = j then b else g 28 i) → (∀ i, g' 29 i = if i = j then n else g 29 i) → (∀ i, g' 30 i = if 60 * j ≤ i ∧ i < 60 * j + 60 then 0 else g 30 i) → Q (some (.int n)) LY g') : am (d + 2) 101 0 [some (.ref 22), some (.int a), some (.int b), some (.int n), l4] [] LY g 0 0 none Q := by
  refine am_run_k 2 (am_cl ?_)
  refine m_isSheet ?_
  refine am_run_k 1 (And.intro (fun e1 => ?_) (fun e1 => ?_))
  · refine am_run_k 2 ?_
    refine h0 _ ?_ (by decide)
    unfold shA; rw [bi_f e1]; rfl
  · refine am_run_k 4 (am_cl ?_)
    refine w_in ?_
    rw [show am_in2 b 0 1 = am_ir b 2 from in_ir (k := 1) (by decide)]
    refine am_run_k 1 (And.intro (fun e2 => ?_) (fun e2 => ?_))
    · refine am_run_k 2 ?_
      refine h0 _ ?_ (by decide)
      unfold shA; rw [bi_t e1, bi_f e2]; rfl
    · refine am_run_k 3 (And.intro (fun e3 => ?_) (fun e3 => ?_))
      · refine am_run_k 2 (And.intro (fun e4 => ?_) (fun e4 => ?_))
        · obtain ⟨m, hm1, hm2, en⟩ := nI_rng (a := 0) (b := 60) e4 e3
          have hs : shA n a b = n := by
            unfold shA; rw [bi_t e1, bi_t e2, decide_eq_true e3, if_neg (fa_nlt.mpr e4)]; rfl
          obtain ⟨l, hl, eb⟩ := am_ir_nI (k := 2) (by decide) (bi_t e2)
          obtain ⟨j, hj, ea⟩ := am_ir_nI (k := 2) (by decide) (bi_t e1)
          subst ea
          refine am_run_k 5 (And.intro (vpn hj) ?_)
          refine am_run_k 5 (And.intro (vpn hj) ?_)
          rw [ncl (by omega)]
          have lp : ∀ (q k : Nat) (x : Int32) (g1 : am_G), k + q = 60 → x = nI k → (∀ i, i ≠ 30 → g1 i = am_up (am_up g 28 j b) 29 j n i) → (∀ i, g1 30 i = if 60 * j ≤ i ∧ i < 60 * j + k then 0 else g 30 i) → am (d + 2) 101 48 [some (.ref 22), some (.int (nI j)), some (.int b), some (.int n), some (.int x)] [] LY g1 0 0 none Q := by
            intro q
            induction q with
            | zero =>
              intro k x g1 hk hx hg hz
              have hk : k = 60 := by omega
              subst hk; subst hx
              refine am_run_k 3 (And.intro (fun h6 => ?_) (fun hx => absurd ((show nI 60 ≤ nI 60 from nI_le (Nat.le_refl 60) (by decide))) hx))
              refine am_run_k 2 ?_
              have he : ∀ i, i ≠ 28 → i ≠ 29 → i ≠ 30 → g1 i = g i := fun i h8 h9 h30 => by rw [hg i h30, am_up_ne h9, am_up_ne h8]
              refine h1 m j l g1 hm2 en hj rfl hl eb hs ⟨I.1.of (by rw [he 22 (by decide) (by decide) (by decide)]) (by rw [he 22 (by decide) (by decide) (by decide)]) (by rw [he 22 (by decide) (by decide) (by decide)]) (he 25 (by decide) (by decide) (by decide)) (he 26 (by decide) (by decide) (by decide)), I.2.1.of (he 23 (by decide) (by decide) (by decide)), I.2.2.1.of (he 24 (by decide) (by decide) (by decide)), ?_⟩ he (fun i => ?_) (fun i => ?_) hz
              · refine SM.of (g := am_up (am_up g 28 j b) 29 j n) (SM.up (SM.of I.2.2.2 (am_up_ne (by decide))) hm2 en) (hg 29 (by decide))
              · rw [hg 28 (by decide), am_up_ne (by decide)]
                rfl
              · rw [hg 29 (by decide)]
                split
                · rename_i q; rw [q, am_up_us]
                · rename_i q; rw [am_up_un q, am_up_ne (by decide)]
            | succ q ih =>
              intro k x g1 hk hx hg hz
              subst hx
              refine am_run_k 3 (And.intro (fun hx => absurd hx ((nI_ge (b := 60) (by omega) (by decide)))) (fun h6 => ?_))
              refine am_run_k 9 (And.intro (vpe ix60 (by omega)) ?_)
              rw [cle ix60 (by omega)]
              refine am_run_k 2 ?_
              refine ih (k + 1) _ _ (by omega) (nI_1 k) (fun i hi => by rw [am_up_ne hi]; exact hg i hi) (fun i => ?_)
              by_cases e : i = 60 * j + k
              · rw [e, am_up_us, if_pos ⟨by omega, by omega⟩]
              · rw [am_up_un e, hz i]
                by_cases e2 : 60 * j ≤ i ∧ i < 60 * j + k
                · rw [if_pos e2, if_pos ⟨e2.1, by omega⟩]
                · rw [if_neg e2, if_neg (fun z => e2 ⟨z.1, by omega⟩)]
          refine am_run_k 2 ?_
          refine lp 60 0 _ _ rfl rfl (fun i _ => rfl) (fun i => ?_)
          rw [if_neg (fun z => by omega)]
          rw [am_up_ne (by decide), am_up_ne (by decide)]
        · refine am_run_k 2 ?_
          refine h0 _ ?_ (by decide)
          unfold shA; rw [bi_t e1, bi_t e2, decide_eq_true e3, if_pos (fa_nle.mp e4)]; rfl
      · refine am_run_k 2 ?_
        refine h0 _ ?_ (by decide)
        unfold shA; rw [bi_t e1, bi_t e2, decide_eq_false e3]; rfl
theorem nI_inj2 {a b : Nat} (ha : a < 2) (hb : b < 2) (e : nI a = nI b) : a = b := (nI_eq (by omega) (by omega)).mp e
theorem ir2 {j : Nat} (hj : j < 2) : am_ir (nI j) 2 = true := am_ir_t (fa_nlt.mp (nI_pos (by omega))) (nI_lt' (b := 2) hj (by decide))
/-- calls on sheets leave the rest of the tie -/
theorem T.sheets {g1 g2 : am_G} (t : T g B c f) (J : IC g1) (J2 : IM g2) (q1 : ∀ k, k < 18 → g1 k = g k) (q2 : ∀ k, 22 ≤ k → g1 k = g k) (p1 : ∀ k, k < 22 → g2 k = g1 k) (p2 : ∀ k, 22 ≤ k → k ≠ 28 → k ≠ 29 → k ≠ 30 → g2 k = g1 k) (s : TS g2 ∧ Ti g2) : T g2 B c f := by
  obtain ⟨⟨hc, hf, e51, e54⟩, ⟨I, I2⟩, ta, tj, tl, tr, tf, tc, ts⟩ := id t
  have w : ∀ k, k < 18 → g2 k = g k := fun k hk => (p1 k (by omega)).trans (q1 k hk)
  have v : ∀ k, 22 ≤ k → k ≠ 28 → k ≠ 29 → k ≠ 30 → g2 k = g k := fun k h h8 h9 h30 => (p2 k h h8 h9 h30).trans (q2 k h)
  have e22 := v 22 (by decide) (by decide) (by decide) (by decide)
  refine ⟨⟨hc, hf, by rw [w 5 (by decide)]; exact e51, by rw [w 5 (by decide)]; exact e54⟩, ⟨J.lo p1, J2⟩, ?_, tj.of (w 3 (by decide)) (w 4 (by decide)) (v 23 (by decide) (by decide) (by decide) (by decide)), tl.of (w 8 (by decide)) (v 24 (by decide) (by decide) (by decide) (by decide)), tr.of (w 6 (by decide)) (v 25 (by decide) (by decide) (by decide) (by decide)) (v 26 (by decide) (by decide) (by decide) (by decide)), ⟨tf.1.of (by rw [w 5 (by decide)]) (v 27 (by decide) (by decide) (by decide) (by decide)), tf.2.of (by rw [w 5 (by decide)]) (w 7 (by decide))⟩, tc.of (by rw [e22]) (v 27 (by decide) (by decide) (by decide) (by decide)), s⟩
  unfold Ta
  rw [w 1 (by decide), w 2 (by decide), w 5 (by decide), e22]
  exact ta
theorem y_sheet {a b n r : Int32} {g1 : am_G} {l4 : Option Value} (t : T g B c f) (m : MSheet g a b n r g1) (h : ∀ g2 c' f', T g2 B c' f' → Q (some (.int r)) LY g2) : am (d + 2) 101 0 [some (.ref 22), some (.int a), some (.int b), some (.int n), l4] [] LY g1 0 0 none Q := by
  obtain ⟨-, ⟨I, I2⟩, -, -, -, -, -, -, ts, ti⟩ := id t
  rcases m with ⟨e1, e2, hg⟩ | ⟨m, j, l, hm, en, hj, ea, hl, eb, es, hr, J, q1, q2, q3, q4⟩
  · subst hg
    refine m_sheet_x I2 (fun r' e1' _ => ?_) (fun m' j' l' g' q1 q2 q3 q4 q5 q6 q7 _ _ _ _ _ => ?_)
    · rw [e1', ← e1]; exact h _ _ _ t
    · rw [e1, q7, q2] at e2
      exact absurd e2 (nI_pos (by omega))
  · subst hr
    have o : ∀ k, 22 ≤ k → g1 k = g k := fun k hk => q1 k (by omega) (by omega)
    refine m_sheet_x (I2.hi o) (fun r' e1' hr' => ?_) (fun m' j' l' g' p1 p2 p3 p4 p5 p6 p7 J2 p8 p9 p10 p11 => ?_)
    · rw [e1', es, en] at hr'
      exact absurd hr' (nI_pos (by omega))
    · have hjj : j = j' := nI_inj2 hj p3 (ea.symm.trans p4)
      subst hjj
      have hmm : m = m' := (nI_eq (by omega) (by omega)).mp (en.symm.trans p2)
      subst hmm
      refine h _ c f (t.sheets J J2 (fun k hk => q1 k (by omega) (by omega)) o (fun k hk => p8 k (by omega) (by omega) (by omega)) (fun k _ h8 h9 h30 => p8 k h8 h9 h30) ⟨fun i hi => ?_, fun i p m' hi hm' hm60 hp => ?_⟩)
      · rw [p8 (18 + 2 * i) (by omega) (by omega) (by omega), p9 i, p10 i]
        by_cases e : i = j
        · subst e
          rw [if_pos rfl, if_pos rfl]
          exact ⟨q2, q3, Or.inl (by rw [eb]; exact nI_pos (by omega))⟩
        · rw [if_neg e, if_neg e, q1 (18 + 2 * i) (by omega) (by omega), o 28 (by decide), o 29 (by decide)]
          exact ts i hi
      · rw [p8 (19 + 2 * i) (by omega) (by omega) (by omega), p11]
        rw [p10 i] at hm'
        by_cases e : i = j
        · subst e
          rw [if_pos rfl, en] at hm'
          have := (nI_eq (by omega) (by omega)).mp hm'
          rw [if_pos ⟨by omega, by omega⟩]
          exact q4 p (by omega)
        · rw [if_neg e, o 29 (by decide)] at hm'
          rw [if_neg (fun z => by omega), o 30 (by decide), q1 (19 + 2 * i) (by omega) (by omega)]
          exact ti i p m' hi hm' hm60 hp
/-- drop -/
def MDrop (g : am_G) (a r : Int32) (g1 : am_G) : Prop := (am_ir a 2 = false ∧ r = -1 ∧ g1 = g) ∨ (∃ j, j < 2 ∧ a = nI j ∧ g (18 + 2 * j) 1 = -1 ∧ r = -11 ∧ g1 = g) ∨ ∃ j, j < 2 ∧ a = nI j ∧ ¬ g (18 + 2 * j) 1 = -1 ∧ r = g (18 + 2 * j) 2 ∧ IC g1 ∧ (∀ k, k ≠ 18 + 2 * j → g1 k = g k) ∧ g1 (18 + 2 * j) 1 = -1 ∧ g1 (18 + 2 * j) 2 = g (18 + 2 * j) 2
theorem x_drop {a : Int32} (t : T g B c f) (h : ∀ r g1, MDrop g a r g1 → Q (some (.int r)) LY g1) : am (d + 2) 71 0 [some (.ref 0), some (.int a), none] [] LY g 0 0 none Q := by
  obtain ⟨-, ⟨I, I2⟩, -⟩ := id t
  exact f_drop I (fun e => h _ _ (Or.inl ⟨e, rfl, rfl⟩)) (fun j hj ej l1 => h _ _ (Or.inr (Or.inl ⟨j, hj, ej, l1, rfl, rfl⟩))) (fun j g' hj ej l1 I' e1 e2 e3 => h _ _ (Or.inr (Or.inr ⟨j, hj, ej, l1, rfl, I', e1, e2, e3⟩)))
theorem y_drop {a r : Int32} {g1 : am_G} (t : T g B c f) (m : MDrop g a r g1) (h : ∀ g2 c' f', T g2 B c' f' → Q (some (.int r)) LY g2) : am (d + 2) 102 0 [some (.ref 22), some (.int a)] [] LY g1 0 0 none Q := by
  obtain ⟨-, ⟨I, I2⟩, -, -, -, -, -, -, ts, ti⟩ := id t
  rcases m with ⟨e, hr, hg⟩ | ⟨j, hj, ej, l1, hr, hg⟩ | ⟨j, hj, ej, l1, hr, J, e1, e2, e3⟩
  · subst hr; subst hg
    refine m_drop I2 (fun _ => h _ _ _ t) (fun j hj ej _ => ?_) (fun j hj ej _ _ => ?_)
    · rw [ej, ir2 hj] at e; cases e
    · rw [ej, ir2 hj] at e; cases e
  · subst hr; subst hg
    refine m_drop I2 (fun e => ?_) (fun j' hj' ej' _ => h _ _ _ t) (fun j' hj' ej' l2 _ => ?_)
    · rw [ej, ir2 hj] at e; cases e
    · have hjj : j = j' := nI_inj2 hj hj' (ej.symm.trans ej')
      subst hjj
      rw [← (ts j hj).1, l1] at l2
      exact absurd (show (-1 : Int32) < 0 by decide) l2
  · subst hr
    have o : ∀ k, 22 ≤ k → g1 k = g k := fun k hk => e1 k (by omega)
    refine m_drop (I2.hi o) (fun e => ?_) (fun j' hj' ej' l2 => ?_) (fun j' hj' ej' l2 J2 => ?_)
    · rw [ej, ir2 hj] at e; cases e
    · have hjj : j = j' := nI_inj2 hj hj' (ej.symm.trans ej')
      subst hjj
      rw [o 28 (by decide)] at l2
      rw [(ts j hj).1] at l1
      exact absurd ((ts j hj).2.2.resolve_left (fun z => z l2)) l1
    · have hjj : j = j' := nI_inj2 hj hj' (ej.symm.trans ej')
      subst hjj
      rw [o 29 (by decide), ← (ts j hj).2.1]
      refine h _ c f (t.sheets J J2 (fun k hk => e1 k (by omega)) o (fun k hk => am_up_ne (by omega)) (fun k _ h8 _ _ => am_up_ne h8) ⟨fun i hi => ?_, fun i p m' hi hm' hm60 hp => ?_⟩)
      · rw [am_up_ne (show 18 + 2 * i ≠ 28 by omega), am_up_ne (show 29 ≠ 28 by decide)]
        by_cases q : i = j
        · subst q
          rw [am_up_us, e3, o 29 (by decide)]
          exact ⟨e2, (ts i hi).2.1, Or.inr rfl⟩
        · rw [am_up_un q, e1 (18 + 2 * i) (by omega), o 28 (by decide), o 29 (by decide)]
          exact ts i hi
      · rw [am_up_ne (by decide), o 29 (by decide)] at hm'
        rw [am_up_ne (show 19 + 2 * i ≠ 28 by omega), am_up_ne (show 30 ≠ 28 by decide), o 30 (by decide), e1 (19 + 2 * i) (by omega)]
        exact ti i p m' hi hm' hm60 hp
/-- item -/
def vlA (b v : Int32) : Int32 := if b = 0 then v.toInt8.toInt32 else v
def MItem (g : am_G) (a b i v r : Int32) (g1 : am_G) : Prop := ((am_ir a 2 && am_ir b 2) = false ∧ r = -1 ∧ g1 = g) ∨ ∃ j, j < 2 ∧ a = nI j ∧ am_ir b 2 = true ∧ r = itA b i (g 28 j) (g 29 j) ∧ ((¬ itA b i (g 28 j) (g 29 j) = 1 ∧ g1 = g) ∨ (itA b i (g 28 j) (g 29 j) = 1 ∧ IC g1 ∧ g1 = am_up g (19 + 2 * j) i.toNatClampNeg (vlA b v)))
theorem itA_1 {b i ln : Int32} {m : Nat} (hm : m ≤ 60) (e : itA b i ln (nI m) = 1) : ∃ p, p < m ∧ i = nI p := by
  unfold itA at e
  split at e
  · rename_i h; rw [e] at h; exact absurd h (by decide)
  · split at e
    · exact absurd e (by decide)
    · split at e
      · rename_i h1 h2
        obtain ⟨p, hp, ei⟩ := nI_of h1
        rw [ei] at h2
        exact ⟨p, (nI_ltI hp (by omega)).mp h2, ei⟩
      · exact absurd e (by decide)
theorem l_72_24_0x {b i v : Int32} (hb : am_ir b 2 = true) (I : IC g) (h0 : ¬ itA b i (g 18 1) (g 18 2) = 1 → Q (some (.int (itA b i (g 18 1) (g 18 2)))) LY g) (h1 : itA b i (g 18 1) (g 18 2) = 1 → IC (am_up g 19 i.toNatClampNeg (vlA b v)) → Q (some (.int 1)) LY (am_up g 19 i.toNatClampNeg (vlA b v))) : am (d + 2) 72 24 [some (.ref 0), some (.int 0), some (.int b), some (.int i), some (.int v), some (.ref 18), none] [] LY g 0 0 none Q := by
  obtain ⟨ml, hml, el⟩ := I.2.1
  unfold itA at h0 h1
  refine am_run_k 3 (am_cl ?_)
  refine w_takenAs0 ?_
  refine am_run_k 3 (And.intro (fun e1 => ?_) (fun e1 => ?_))
  · have e1' : ¬ tkA (g 18 1) b < 0 := fa_nlt.mpr e1
    rw [if_neg e1'] at h0 h1
    refine am_run_k 2 (And.intro (fun e2 => ?_) (fun e2 => ?_))
    · refine am_run_k 2 ?_
      rw [if_pos e2] at h0
      exact h0 (by decide)
    · rw [if_neg e2] at h0 h1
      refine am_run_k 4 (And.intro (fun e3 => ?_) (fun e3 => ?_))
      · obtain ⟨j, hj, ei⟩ := nI_of e2
        rw [if_pos e3] at h1
        have hlt : j < ml := by
          rw [el, ei] at e3
          exact (nI_ltI hj (by omega)).mp e3
        have fin : ∀ (u : Int32), u = vlA b v → am (d + 2) 72 74 [some (.ref 0), some (.int 0), some (.int b), some (.int i), some (.int v), some (.ref 18), some (.int (if g 18 1 = -1 then -11 else if g 18 1 = b then 0 else -12))] [.int u, .int i, .ref 19] LY g 0 0 none Q := by
          intro u hu
          subst hu
          refine am_run_k 1 (And.intro (vpe ei (by omega)) ?_)
          refine am_run_k 2 ?_
          exact h1 rfl ⟨I.1.of (am_up_ne (by decide)) (am_up_ne (by decide)) (am_up_ne (by decide)) (am_up_ne (by decide)), by unfold SL; rw [am_up_ne (by decide), am_up_ne (by decide)]; exact I.2⟩
        refine am_run_k 5 (And.intro (fun h4 => ?_) (fun h4 => ?_))
        · refine am_run_k 1 ?_
          exact fin _ (by unfold vlA; rw [if_neg h4])
        · refine am_run_k 3 ?_
          exact fin _ (by unfold vlA; rw [if_pos (by first | exact h4 | exact rdr h4)])
      · refine am_run_k 2 ?_
        rw [if_neg e3] at h0
        exact h0 (by decide)
  · refine am_run_k 2 ?_
    rw [if_pos (show tkA (g 18 1) b < 0 from fa_nle.mp e1)] at h0
    exact h0 (fun z => by
      have : tkA (g 18 1) b < 0 := fa_nle.mp e1
      rw [z] at this; exact absurd this (by decide))
theorem l_72_24_1x {b i v : Int32} (hb : am_ir b 2 = true) (I : IC g) (h0 : ¬ itA b i (g 20 1) (g 20 2) = 1 → Q (some (.int (itA b i (g 20 1) (g 20 2)))) LY g) (h1 : itA b i (g 20 1) (g 20 2) = 1 → IC (am_up g 21 i.toNatClampNeg (vlA b v)) → Q (some (.int 1)) LY (am_up g 21 i.toNatClampNeg (vlA b v))) : am (d + 2) 72 24 [some (.ref 0), some (.int 1), some (.int b), some (.int i), some (.int v), some (.ref 20), none] [] LY g 0 0 none Q := by
  obtain ⟨ml, hml, el⟩ := I.2.2
  unfold itA at h0 h1
  refine am_run_k 3 (am_cl ?_)
  refine w_takenAs1 ?_
  refine am_run_k 3 (And.intro (fun e1 => ?_) (fun e1 => ?_))
  · have e1' : ¬ tkA (g 20 1) b < 0 := fa_nlt.mpr e1
    rw [if_neg e1'] at h0 h1
    refine am_run_k 2 (And.intro (fun e2 => ?_) (fun e2 => ?_))
    · refine am_run_k 2 ?_
      rw [if_pos e2] at h0
      exact h0 (by decide)
    · rw [if_neg e2] at h0 h1
      refine am_run_k 4 (And.intro (fun e3 => ?_) (fun e3 => ?_))
      · obtain ⟨j, hj, ei⟩ := nI_of e2
        rw [if_pos e3] at h1
        have hlt : j < ml := by
          rw [el, ei] at e3
          exact (nI_ltI hj (by omega)).mp e3
        have fin : ∀ (u : Int32), u = vlA b v → am (d + 2) 72 74 [some (.ref 0), some (.int 1), some (.int b), some (.int i), some (.int v), some (.ref 20), some (.int (if g 20 1 = -1 then -11 else if g 20 1 = b then 0 else -12))] [.int u, .int i, .ref 21] LY g 0 0 none Q := by
          intro u hu
          subst hu
          refine am_run_k 1 (And.intro (vpe ei (by omega)) ?_)
          refine am_run_k 2 ?_
          exact h1 rfl ⟨I.1.of (am_up_ne (by decide)) (am_up_ne (by decide)) (am_up_ne (by decide)) (am_up_ne (by decide)), by unfold SL; rw [am_up_ne (by decide), am_up_ne (by decide)]; exact I.2⟩
        refine am_run_k 5 (And.intro (fun h4 => ?_) (fun h4 => ?_))
        · refine am_run_k 1 ?_
          exact fin _ (by unfold vlA; rw [if_neg h4])
        · refine am_run_k 3 ?_
          exact fin _ (by unfold vlA; rw [if_pos (by first | exact h4 | exact rdr h4)])
      · refine am_run_k 2 ?_
        rw [if_neg e3] at h0
        exact h0 (by decide)
  · refine am_run_k 2 ?_
    rw [if_pos (show tkA (g 20 1) b < 0 from fa_nle.mp e1)] at h0
    exact h0 (fun z => by
      have : tkA (g 20 1) b < 0 := fa_nle.mp e1
      rw [z] at this; exact absurd this (by decide))
theorem x_item {a b i v : Int32} (t : T g B c f) (h : ∀ r g1, MItem g a b i v r g1 → Q (some (.int r)) LY g1) : am (d + 2) 72 0 [some (.ref 0), some (.int a), some (.int b), some (.int i), some (.int v), none, none] [] LY g 0 0 none Q := by
  obtain ⟨-, ⟨I, I2⟩, -, -, -, -, -, -, ts, ti⟩ := id t
  refine am_run_k 2 (am_cl ?_)
  refine w_isSheet ?_
  refine am_run_k 1 (And.intro (fun e1 => ?_) (fun e1 => ?_))
  · refine am_run_k 2 ?_
    exact h _ g (Or.inl ⟨by rw [bi_f e1]; rfl, rfl, rfl⟩)
  · refine am_run_k 2 (am_cl ?_)
    refine w_isLane ?_
    refine am_run_k 1 (And.intro (fun e2 => ?_) (fun e2 => ?_))
    · obtain ⟨j, hj, ea⟩ := am_ir_nI (k := 2) (by decide) (bi_t e1)
      obtain ⟨s1, s2, -⟩ := ts j hj
      have k0 : ¬ itA b i (g (18 + 2 * j) 1) (g (18 + 2 * j) 2) = 1 → Q (some (.int (itA b i (g (18 + 2 * j) 1) (g (18 + 2 * j) 2)))) LY g := fun z => by
        rw [s1, s2] at z ⊢
        exact h _ g (Or.inr ⟨j, hj, ea, bi_t e2, rfl, Or.inl ⟨z, rfl⟩⟩)
      have k1 : itA b i (g (18 + 2 * j) 1) (g (18 + 2 * j) 2) = 1 → IC (am_up g (19 + 2 * j) i.toNatClampNeg (vlA b v)) → Q (some (.int 1)) LY (am_up g (19 + 2 * j) i.toNatClampNeg (vlA b v)) := fun z J => by
        rw [s1, s2] at z
        exact h _ _ (Or.inr ⟨j, hj, ea, bi_t e2, z.symm, Or.inr ⟨z, J, rfl⟩⟩)
      rcases (show j = 0 ∨ j = 1 by omega) with q | q
      · subst q; subst ea
        refine am_run_k 4 (And.intro (vpe (n := 0) rfl (by decide)) ?_)
        refine am_run_k 1 ?_
        exact l_72_24_0x (bi_t e2) I k0 k1
      · subst q; subst ea
        refine am_run_k 4 (And.intro (vpe (n := 1) rfl (by decide)) ?_)
        refine am_run_k 1 ?_
        exact l_72_24_1x (bi_t e2) I k0 k1
    · refine am_run_k 2 ?_
      exact h _ g (Or.inl ⟨by rw [bi_f e2]; simp, rfl, rfl⟩)
theorem m_item_x {a b i v : Int32} (I : IM g) (hl : ∀ j, j < 2 → ¬ g 28 j < 0 ∨ g 28 j = -1) (h0 : (am_ir a 2 && am_ir b 2) = false → Q (some (.int (-1))) LY g) (h1 : ∀ j, j < 2 → a = nI j → am_ir b 2 = true → ¬ itA b i (g 28 j) (g 29 j) = 1 → Q (some (.int (itA b i (g 28 j) (g 29 j)))) LY g) (h2 : ∀ j p, j < 2 → a = nI j → am_ir b 2 = true → p < 60 → i = nI p → itA b i (g 28 j) (g 29 j) = 1 → IM (am_up g 30 (60 * j + p) (vlA b v)) → Q (some (.int 1)) LY (am_up g 30 (60 * j + p) (vlA b v))) : am (d + 2) 103 0 [some (.ref 22), some (.int a), some (.int b), some (.int i), some (.int v)] [] LY g 0 0 none Q := by
  refine am_run_k 2 (am_cl ?_)
  refine m_isSheet ?_
  refine am_run_k 1 (And.intro (fun e1 => ?_) (fun e1 => ?_))
  · refine am_run_k 2 ?_
    refine h0 ?_
    rw [bi_f e1]; rfl
  · refine am_run_k 4 (am_cl ?_)
    refine w_in ?_
    rw [show am_in2 b 0 1 = am_ir b 2 from in_ir (k := 1) (by decide)]
    refine am_run_k 1 (And.intro (fun e2 => ?_) (fun e2 => ?_))
    · obtain ⟨j, hj, ea⟩ := am_ir_nI (k := 2) (by decide) (bi_t e1)
      subst ea
      obtain ⟨ms, hms, es⟩ := I.2.2.2 j hj
      have hh := h1 j hj rfl (bi_t e2)
      have hh2 := fun p => h2 j p hj rfl (bi_t e2)
      refine am_run_k 4 (And.intro (vpn hj) ?_)
      rw [ncl (by omega)]
      refine am_run_k 1 (And.intro (fun e3 => ?_) (fun e3 => ?_))
      · have hn1 : ¬ g 28 j = -1 := fun e => by rw [e] at e3; exact absurd e3 (by decide)
        refine am_run_k 4 (And.intro (vpn hj) ?_)
        rw [ncl (by omega)]
        refine am_run_k 2 (And.intro (fun e4 => ?_) (fun e4 => ?_))
        · have htk : tkA (g 28 j) b = 0 := by unfold tkA; rw [if_neg hn1, if_pos e4]
          refine am_run_k 6 (And.intro (vpn hj) ?_)
          rw [ncl (by omega)]
          refine am_run_k 3 (am_cl ?_)
          refine w_in ?_
          refine am_run_k 1 (And.intro (fun e5 => ?_) (fun e5 => ?_))
          · have hb := bi_t e5
            rw [es] at hb
            obtain ⟨p, hp, ei⟩ := in2_idx60 hms hb
            subst ei
            have hit : itA b (nI p) (g 28 j) (g 29 j) = 1 := by
              unfold itA
              rw [htk, if_neg (by decide), if_neg (show ¬ nI p < 0 from nI_pos (by omega)), if_pos (by rw [es]; exact nI_lt' hp)]
            have fin : ∀ u : Int32, u = vlA b v → am (d + 2) 103 84 [some (.ref 22), some (.int (nI j)), some (.int b), some (.int (nI p)), some (.int v)] [.int u, .int ((60 : Int32) * nI j + nI p), .ref 30] LY g 0 0 none Q := by
              intro u hu
              subst hu
              refine am_run_k 1 (And.intro (vpe ix60 (by omega)) ?_)
              rw [cle ix60 (by omega)]
              refine am_run_k 2 ?_
              exact hh2 p (by omega) rfl hit ⟨I.1.of (by rw [am_up_ne (by decide)]) (by rw [am_up_ne (by decide)]) (by rw [am_up_ne (by decide)]) (am_up_ne (by decide)) (am_up_ne (by decide)), I.2.1.of (am_up_ne (by decide)), I.2.2.1.of (am_up_ne (by decide)), I.2.2.2.of (am_up_ne (by decide))⟩
            refine am_run_k 9 (And.intro (fun e6 => ?_) (fun e6 => ?_))
            · refine am_run_k 1 ?_
              exact fin _ (by unfold vlA; rw [if_neg e6])
            · refine am_run_k 3 ?_
              exact fin _ (by unfold vlA; rw [if_pos (by first | exact e6 | exact rdr e6)])
          · refine am_run_k 2 ?_
            have hit : itA b i (g 28 j) (g 29 j) = -13 := by
              unfold itA
              rw [htk, if_neg (by decide)]
              have hb := bi_f e5
              split
              · rfl
              · rename_i hge
                rw [if_neg ?_]
                intro hlt
                obtain ⟨p, hp, ei⟩ := nI_of hge
                subst ei
                rw [es] at hlt
                have hpm : p < ms := (nI_ltI hp (by omega)).mp hlt
                obtain ⟨ms', rfl⟩ : ∃ n', ms = n' + 1 := ⟨ms - 1, by omega⟩
                rw [es, nI_pred, in_ir (by omega)] at hb
                rw [am_ir_t (fa_nlt.mp (nI_pos (by omega))) (nI_lt' hpm)] at hb
                exact absurd hb (by decide)
            rw [hit] at hh
            exact hh (by decide)
        · refine am_run_k 2 ?_
          have hit : itA b i (g 28 j) (g 29 j) = -12 := by
            have htk : tkA (g 28 j) b = -12 := by unfold tkA; rw [if_neg hn1, if_neg e4]
            unfold itA
            rw [htk, if_pos (by decide)]
          rw [hit] at hh
          exact hh (by decide)
      · refine am_run_k 2 ?_
        have e3 := fa_nle.mp e3
        have hl1 : g 28 j = -1 := (hl j hj).resolve_left (fun z => z e3)
        have hit : itA b i (g 28 j) (g 29 j) = -11 := by
          have htk : tkA (g 28 j) b = -11 := by unfold tkA; rw [if_pos hl1]
          unfold itA
          rw [htk, if_pos (by decide)]
        rw [hit] at hh
        exact hh (by decide)
    · refine am_run_k 2 ?_
      refine h0 ?_
      rw [bi_f e2]; simp
theorem y_item {a b i v r : Int32} {g1 : am_G} (t : T g B c f) (m : MItem g a b i v r g1) (h : ∀ g2 c' f', T g2 B c' f' → Q (some (.int r)) LY g2) : am (d + 2) 103 0 [some (.ref 22), some (.int a), some (.int b), some (.int i), some (.int v)] [] LY g1 0 0 none Q := by
  obtain ⟨-, ⟨I, I2⟩, -, -, -, -, -, -, ts, ti⟩ := id t
  rcases m with ⟨e, hr, hg⟩ | ⟨j, hj, ej, eb, hr, ⟨e, hg⟩ | ⟨e, J, hg⟩⟩
  · subst hr; subst hg
    refine m_item_x I2 (fun j hj => (ts j hj).2.2) (fun _ => h _ _ _ t) (fun j hj ej eb _ => ?_) (fun j p hj ej eb _ _ _ _ => ?_)
    · rw [ej, ir2 hj, eb] at e; cases e
    · rw [ej, ir2 hj, eb] at e; cases e
  · subst hg
    refine m_item_x I2 (fun j hj => (ts j hj).2.2) (fun z => ?_) (fun j' hj' ej' _ _ => ?_) (fun j' p hj' ej' _ _ _ z _ => ?_)
    · rw [ej, ir2 hj, eb] at z; cases z
    · have hjj : j = j' := nI_inj2 hj hj' (ej.symm.trans ej')
      subst hjj
      rw [← hr]; exact h _ _ _ t
    · have hjj : j = j' := nI_inj2 hj hj' (ej.symm.trans ej')
      subst hjj
      exact absurd z e
  · have o : ∀ k, k ≠ 19 + 2 * j → g1 k = g k := fun k hk => by rw [hg]; exact am_up_ne hk
    have o2 : ∀ k, 22 ≤ k → g1 k = g k := fun k hk => o k (by omega)
    rw [e] at hr
    subst hr
    refine m_item_x (I2.hi o2) (fun j hj => by rw [o2 28 (by decide)]; exact (ts j hj).2.2) (fun z => ?_) (fun j' hj' ej' _ z => ?_) (fun j' p hj' ej' _ hp ei _ J2 => ?_)
    · rw [ej, ir2 hj, eb] at z; cases z
    · have hjj : j = j' := nI_inj2 hj hj' (ej.symm.trans ej')
      subst hjj
      rw [o2 28 (by decide), o2 29 (by decide)] at z
      exact absurd e z
    · have hjj : j = j' := nI_inj2 hj hj' (ej.symm.trans ej')
      subst hjj
      refine h _ c f (t.sheets J J2 (fun k hk => o k (by omega)) o2 (fun k hk => am_up_ne (by omega)) (fun k _ _ _ h30 => am_up_ne h30) ⟨fun i' hi' => ?_, fun i' p' m' hi' hm' hm60 hp' => ?_⟩)
      · rw [am_up_ne (show 18 + 2 * i' ≠ 30 by omega), am_up_ne (show 28 ≠ 30 by decide), am_up_ne (show 29 ≠ 30 by decide), o (18 + 2 * i') (by omega), o2 28 (by decide), o2 29 (by decide)]
        exact ts i' hi'
      · rw [am_up_ne (by decide), o2 29 (by decide)] at hm'
        rw [am_up_ne (show 19 + 2 * i' ≠ 30 by omega)]
        by_cases q : i' = j
        · subst q
          rw [hg, ei, ncl (by omega)]
          by_cases q2 : p' = p
          · subst q2; rw [am_up_us, am_up_us]
          · rw [am_up_un q2, am_up_un (by omega), am_up_ne (by omega)]
            exact ti i' p' m' hi' hm' hm60 hp'
        · rw [o (19 + 2 * i') (by omega), am_up_un (by omega), o2 30 (by decide)]
          exact ti i' p' m' hi' hm' hm60 hp'
end OPW
