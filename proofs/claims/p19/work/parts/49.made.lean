section MDA
variable {d : Nat} {g : am_G} {Q : am_Q}
theorem w_draw_y {k : Nat} (h0 : 0 < k) (hk : k < 2 ^ 31) (h : ∀ j, j < k → j = drN k (g 15 1) → Q (some (.int (nI j))) LY (am_up g 15 1 (am_lcg (g 15 1)))) : am d 10 0 [some (.ref 15), some (.int (nI k))] [] LY g 0 0 none Q :=
  w_draw h0 hk (fun j hj e => h j hj (dr_eq h0 hk hj e))
theorem m_draw_y {k : Nat} (h0 : 0 < k) (hk : k < 2 ^ 31) (h : ∀ j, j < k → j = drN k (g 22 20) → Q (some (.int (nI j))) LY (am_up g 22 20 (am_lcg (g 22 20)))) : am d 128 0 [some (.ref 22), some (.int (nI k))] [] LY g 0 0 none Q :=
  m_draw h0 hk (fun j hj e => h j hj (dr_eq h0 hk hj e))
theorem bt_hi8 : ∀ s, s < 256 → ∀ q, q < 32 → 8 ≤ q → bt (nI s) q = false := by decide +kernel
theorem arV_id {J : Nat → Int32} (h : ∀ p, p < 8 → J p = am_sh (nI p)) {s : Nat} (hs : s < 256) : arV J (nI s) = nI s := b_eq (fun q hq => by
  rw [arV_bt]
  constructor
  · rintro ⟨p, hp, h1, h2⟩
    rw [h p hp, b_sh hq (by omega), decide_eq_true_iff] at h2
    rw [h2]; exact h1
  · intro e
    have hq8 : q < 8 := by
      rcases Nat.lt_or_ge q 8 with z | z
      · exact z
      · rw [bt_hi8 s hs q hq z] at e; cases e
    exact ⟨q, hq8, e, by rw [h q hq8, b_sh hq (by omega)]; simp⟩)
theorem HC.zero (e3 : ∀ p, p < 8 → g 3 p = 0) (e4 : ∀ p, p < 256 → g 4 p = nI p) : HC g (ringF 0) := by
  refine ⟨fun p hp => by rw [e3 p hp, ringF], fun s hs => ?_⟩
  rw [e4 s hs]
  exact (arV_id (fun p hp => by unfold jF; rw [ringF]; exact b_ext (fun i hi => by rw [b_or, b_0]; rfl)) hs).symm
/-- the building, k doors drawn -/
def BS (g : am_G) (x : Int32) (k : Nat) : Prop := g 15 1 = (dst x k).1 ∧ HC g (dst x k).2.1 ∧ g 2 2 = nI (dst x k).2.2
theorem BS.skip {x : Int32} {k : Nat} {g' : am_G} (b : BS g x k) (e15 : g' 15 1 = am_lcg (am_lcg (dst x k).1)) (e2 : g' 2 2 = g 2 2) (e3 : g' 3 = g 3) (e4 : g' 4 = g 4) (hb : bt ((dst x k).2.1 (dA (dst x k).1)) (dB (dst x k).1) = true) : BS g' x (k + 1) := by
  have e : dst x (k + 1) = (am_lcg (am_lcg (dst x k).1), (dst x k).2.1, (dst x k).2.2) := by
    rw [dst]; unfold addD cntD; rw [hb]; rfl
  unfold BS
  rw [e]
  exact ⟨e15, b.2.1.of e3 e4, by rw [e2]; exact b.2.2⟩
theorem BS.join {x : Int32} {k : Nat} {g' : am_G} (b : BS g x k) (e15 : g' 15 1 = am_lcg (am_lcg (dst x k).1)) (e2 : g' 2 2 = g 2 2 + 1) (e3 : g' 3 = nrF (g 3) (dA (dst x k).1) (dB (dst x k).1)) (e4 : ∀ s, s < 256 → g' 4 s = stF (dA (dst x k).1) (dB (dst x k).1) s (g 4 s)) (hb : bt ((dst x k).2.1 (dA (dst x k).1)) (dB (dst x k).1) = false) : BS g' x (k + 1) := by
  have e : dst x (k + 1) = (am_lcg (am_lcg (dst x k).1), nrF (dst x k).2.1 (dA (dst x k).1) (dB (dst x k).1), (dst x k).2.2 + 1) := by
    rw [dst]; unfold addD cntD; rw [hb]; rfl
  unfold BS
  rw [e]
  exact ⟨e15, b.2.1.join dA_lt dB_lt dAB e3 e4, by rw [e2, b.2.2]; exact nI_1 _⟩
theorem l_12_31_x {x0 : Int32} {g0 : am_G} (h : ∀ g', (∀ k, k ≠ 2 → k ≠ 3 → k ≠ 4 → k ≠ 15 → g' k = g0 k) → BS g' x0 2 → Q none LY g') : ∀ (n k : Nat) (x : Int32) (a b : Option Value) (g : am_G), k + n = 2 → x = nI k → (∀ k, k ≠ 2 → k ≠ 3 → k ≠ 4 → k ≠ 15 → g k = g0 k) → BS g x0 k → am (d + 2) 12 31 [some (.ref 15), some (.ref 2), some (.int x), a, b] [] LY g 0 0 none Q := by
  intro n
  induction n with
  | zero =>
    intro k x a b g hk hx hg bs
    have hk : k = 2 := by omega
    subst hk; subst hx
    refine am_run_k 3 (And.intro (fun h6 => ?_) (fun hx => absurd ((show nI 2 ≤ nI 2 from nI_le (Nat.le_refl 2) (by decide))) hx))
    refine am_run_k 1 ?_
    exact h g hg bs
  | succ n ih =>
    intro k x a b g hk hx hg bs
    subst hx
    refine am_run_k 3 (And.intro (fun hx => absurd hx ((nI_ge (b := 2) (by omega) (by decide)))) (fun h6 => ?_))
    refine am_run_k 3 (am_cl ?_)
    refine w_draw_y (k := 8) (by decide) (by decide) (fun i hi ei => ?_)
    refine am_run_k 7 (am_cl ?_)
    refine w_draw_y (k := 5) (by decide) (by decide) (fun j hj ej => ?_)
    rw [am_up_us] at ej
    have eA : i = dA (dst x0 k).1 := by unfold dA; rw [ei, bs.1]
    have eB : (i + 2 + j) % 8 = dB (dst x0 k).1 := by unfold dB; rw [ei, ej, bs.1]
    refine am_run_k 3 (And.intro (by decide) ?_)
    have e : nI i + 2 + nI j = nI (i + 2 + j) := by rw [nIp2]; exact nI_add _ _
    rw [e]
    have e2 := rem8 (i + 2 + j) (by omega)
    obtain ⟨g2, eg2⟩ : ∃ g2 : am_G, g2 = (am_up (am_up g 15 1 (am_lcg (g 15 1))) 15 1 (am_lcg (am_up g 15 1 (am_lcg (g 15 1)) 15 1))) := ⟨_, rfl⟩
    rw [← eg2]
    have q15 : g2 15 1 = am_lcg (am_lcg (dst x0 k).1) := by rw [eg2, am_up_us, am_up_us, bs.1]
    have qo : ∀ k, k ≠ 15 → g2 k = g k := fun k h15 => by rw [eg2, am_up_ne h15, am_up_ne h15]
    have hg2 : ∀ k, k ≠ 2 → k ≠ 3 → k ≠ 4 → k ≠ 15 → g2 k = g0 k := fun k h2 h3 h4 h15 => by rw [qo k h15]; exact hg k h2 h3 h4 h15
    refine am_run_k 5 (am_cl ?_)
    rw [show nI (i + 2 + j) - nI (i + 2 + j) / 8 * 8 = nI ((i + 2 + j) % 8) from e2]
    refine w_joined (vpn hi) ?_
    have ebt : am_hs (g2 3 (nI i).toNatClampNeg) (nI ((i + 2 + j) % 8)) = bt ((dst x0 k).2.1 (dA (dst x0 k).1)) (dB (dst x0 k).1) := by
      rw [ncl (by omega), qo 3 (by decide), bs.2.1.1 i hi, hs_bt (by omega), ← eA, ← eB]
    refine am_run_k 1 (And.intro (fun h7 => ?_) (fun h7 => ?_))
    · refine am_run_k 2 ?_
      have hb := bi_t h7
      rw [ebt] at hb
      exact ih (k + 1) _ _ _ _ (by omega) (nI_1 k) hg2 (bs.skip q15 (by rw [qo 2 (by decide)]) (qo 3 (by decide)) (qo 4 (by decide)) hb)
    · have hb := bi_f h7
      rw [ebt] at hb
      refine am_run_k 4 (am_cl ?_)
      refine w_join hi (Nat.mod_lt _ (by decide)) (fun g1 q1 q2 q3 q4 q5 => ?_)
      refine am_run_k 2 ?_
      refine ih (k + 1) _ _ _ g1 (by omega) (nI_1 k) (fun k h2 h3 h4 h15 => by rw [q1 k h2 h3 h4]; exact hg2 k h2 h3 h4 h15) (bs.join ?_ ?_ ?_ (fun s hs => ?_) hb)
      · rw [q1 15 (by decide) (by decide) (by decide)]; exact q15
      · rw [q3, qo 2 (by decide)]
      · rw [q4, qo 3 (by decide), ← eA, ← eB]
      · rw [q5 s hs, qo 4 (by decide), ← eA, ← eB]
theorem l_12_6_x {x0 : Int32} {g0 : am_G} (h : ∀ (g' : am_G) (x : Int32), (∀ k, k ≠ 2 → k ≠ 3 → k ≠ 4 → k ≠ 15 → g' k = g0 k) → g' 15 1 = x0 → HC g' (ringF 8) → g' 2 2 = nI 8 → am (d + 2) 12 29 [some (.ref 15), some (.ref 2), some (.int x), none, none] [] LY g' 0 0 none Q) : ∀ (n k : Nat) (x : Int32) (g : am_G), k + n = 8 → x = nI k → (∀ k, k ≠ 2 → k ≠ 3 → k ≠ 4 → k ≠ 15 → g k = g0 k) → g 15 1 = x0 → HC g (ringF k) → g 2 2 = nI k → am (d + 2) 12 6 [some (.ref 15), some (.ref 2), some (.int x), none, none] [] LY g 0 0 none Q := by
  intro n
  induction n with
  | zero =>
    intro k x g hk hx hg e15 hc e2
    have hk : k = 8 := by omega
    subst hk; subst hx
    refine am_run_k 3 (And.intro (fun h6 => ?_) (fun hx => absurd ((show nI 8 ≤ nI 8 from nI_le (Nat.le_refl 8) (by decide))) hx))
    exact h g _ hg e15 hc e2
  | succ n ih =>
    intro k x g hk hx hg e15 hc e22
    subst hx
    refine am_run_k 3 (And.intro (fun hx => absurd hx ((nI_ge (b := 8) (by omega) (by decide)))) (fun h6 => ?_))
    refine am_run_k 7 (And.intro (by decide) ?_)
    rw [nI_1]
    have e2 := rem8 (k + 1) (by omega)
    refine am_run_k 1 (am_cl ?_)
    rw [show nI (k + 1) - nI (k + 1) / 8 * 8 = nI ((k + 1) % 8) from e2]
    refine w_join (i := k) (by omega) (Nat.mod_lt _ (by decide)) (fun g1 q1 q2 q3 q4 q5 => ?_)
    refine am_run_k 2 ?_
    refine ih (k + 1) _ g1 (by omega) (nI_1 k) (fun k h2 h3 h4 h15 => by rw [q1 k h2 h3 h4]; exact hg k h2 h3 h4 h15) (by rw [q1 15 (by decide) (by decide) (by decide)]; exact e15) ?_ (by rw [q3, e22]; exact nI_1 k)
    rw [ringF]
    exact hc.join (by omega) (Nat.mod_lt _ (by decide)) (by omega) q4 q5
theorem w_build_x {x0 : Int32} (e0 : g 15 1 = x0) (h : ∀ g', (∀ k, k ≠ 2 → k ≠ 3 → k ≠ 4 → k ≠ 15 → g' k = g k) → BS g' x0 2 → Q none LY g') : am (d + 2) 12 0 [some (.ref 15), some (.ref 2), none, none, none] [] LY g 0 0 none Q := by
  refine am_run_k 2 (am_cl ?_)
  refine w_clearDoors_LY (fun g1 q1 q2 q3 q4 => ?_)
  refine am_run_k 2 ?_
  refine l_12_6_x (x0 := x0) (g0 := g) (fun g2 x2 hg2 e15 hc e22 => ?_) 8 0 0 g1 rfl rfl (fun k h2 h3 h4 _ => q1 k h2 h3 h4) (by rw [q1 15 (by decide) (by decide) (by decide)]; exact e0) (HC.zero q3 q4) q2
  refine am_run_k 2 ?_
  refine l_12_31_x (x0 := x0) (g0 := g) h 2 0 0 _ _ g2 rfl rfl hg2 ?_
  unfold BS
  rw [dst]
  exact ⟨e15, hc, e22⟩
theorem l_13_20_x {w : Nat} {F : Nat → Int32} {x0 : Int32} {g0 : am_G} (hw : w < 4) (ok : FOK F) (h0 : HC g0 F) (h : ∀ g', (∀ k, k ≠ 15 → k ≠ 16 → g' k = g0 k) → (∀ i, i < w * 10 ∨ w * 10 + 10 ≤ i → g' 16 i = g0 16 i) → (∀ j, j < 10 → g' 16 (w * 10 + j) = nI (wS F x0 j).2) → g' 15 1 = (wS F x0 9).1 → Q none LY g') : ∀ (n t : Nat) (x pl : Int32) (g : am_G), t + 1 + n = 10 → x = nI (t + 1) → pl = nI (wS F x0 t).2 → (∀ k, k ≠ 15 → k ≠ 16 → g k = g0 k) → (∀ i, i < w * 10 ∨ w * 10 + 10 ≤ i → g 16 i = g0 16 i) → (∀ j, j < t + 1 → g 16 (w * 10 + j) = nI (wS F x0 j).2) → g 15 1 = (wS F x0 t).1 → am (d + 3) 13 20 [some (.ref 15), some (.ref 2), some (.int (nI w)), some (.int pl), some (.int x)] [] LY g 0 0 none Q := by
  intro n
  induction n with
  | zero =>
    intro t x pl g ht hx hp h1 h2 h3 h4
    have ht : t = 9 := by omega
    subst ht; subst hx
    refine am_run_k 3 (And.intro (fun h6 => ?_) (fun hx => absurd ((show nI 10 ≤ nI (9 + 1) from nI_le (Nat.le_refl 10) (by decide))) hx))
    refine am_run_k 1 ?_
    exact h g h1 h2 h3 h4
  | succ n ih =>
    intro t x pl g ht hx hp h1 h2 h3 h4
    subst hx
    refine am_run_k 3 (And.intro (fun hx => absurd hx ((nI_ge (b := 10) (by omega) (by decide)))) (fun h6 => ?_))
    have hp8 : (wS F x0 t).2 < 8 := wS_lt t
    have tail : ∀ (pl2 : Int32) (g1 : am_G), pl2 = nI (wS F x0 (t + 1)).2 → (∀ k, k ≠ 15 → g1 k = g k) → g1 15 1 = (wS F x0 (t + 1)).1 → am (d + 3) 13 54 [some (.ref 15), some (.ref 2), some (.int (nI w)), some (.int pl2), some (.int (nI (t + 1)))] [] LY g1 0 0 none Q := by
      intro pl2 g1 hp2 hg1 h5
      refine am_run_k 9 (And.intro (vpe nIx10 (by omega)) ?_)
      refine am_run_k 2 ?_
      rw [cle nIx10 (by omega)]
      refine ih (t + 1) _ _ _ (by omega) (nI_1 (t + 1)) hp2 (fun k h15 h16 => ?_) (fun i hi => ?_) (fun j hj => ?_) ?_
      · rw [am_up_ne h16, hg1 k h15]; exact h1 k h15 h16
      · rw [am_up_un (by omega), hg1 16 (by decide)]; exact h2 i hi
      · by_cases e : j = t + 1
        · rw [e, am_up_us, hp2]
        · rw [am_up_un (by omega), hg1 16 (by decide)]; exact h3 j (by omega)
      · rw [am_up_ne (by decide)]; exact h5
    refine am_run_k 3 (am_cl ?_)
    refine w_draw_y (k := 3) (by decide) (by decide) (fun j hj ej => ?_)
    rw [h4] at ej
    have ew : wS F x0 (t + 1) = wst F (wS F x0 t) := by rw [wS]
    refine am_run_k 1 (And.intro (fun h7 => ?_) (fun h7 => ?_))
    · have hj0 : j = 0 := by
        first
          | exact (nI_eq (by omega) (by decide)).mp (show nI j = nI 0 from h7)
          | exact (nI_eq (by omega) (by decide)).mp (show nI j = nI 0 from rdr h7)
      have ew2 : wS F x0 (t + 1) = (am_lcg (wS F x0 t).1, (wS F x0 t).2) := by
        rw [ew]; unfold wst; rw [← ej, decide_eq_true hj0]; rfl
      refine tail pl _ (by rw [ew2]; exact hp) (fun k hk => am_up_ne hk) ?_
      rw [ew2, am_up_us, h4]
    · have hj0 : ¬ j = 0 := fun z => h7 (by rw [z]; rfl)
      refine am_run_k 7 (And.intro (vpe hp (by omega)) ?_)
      refine am_run_k 1 (am_cl ?_)
      refine w_bitCount ?_
      rw [hp, ncl (by omega), am_up_ne (by decide), h1 3 (by decide) (by decide), h0.1 _ hp8, (ok.deg hp8).1]
      refine am_run_k 1 (am_cl ?_)
      refine w_draw_y (ok.deg hp8).2.1 (by have := (ok.deg hp8).2.2; omega) (fun r hr er => ?_)
      rw [am_up_us, h4] at er
      refine am_run_k 1 (am_cl ?_)
      refine w_neighbour (vpn hp8) ?_
      refine am_run_k 1 ?_
      have ew2 : wS F x0 (t + 1) = (am_lcg (am_lcg (wS F x0 t).1), nthF F (wS F x0 t).2 r) := by
        rw [ew]; unfold wst; rw [← ej, decide_eq_false hj0, er]; rfl
      refine tail _ _ ?_ (fun k hk => by rw [am_up_ne hk, am_up_ne hk]) ?_
      · rw [ew2]
        show nbF _ (nI (wS F x0 t).2) 8 0 (nI r) = nI (nthF F (wS F x0 t).2 r)
        unfold nthF
        refine nbF_nt hp8 ?_ 8 0 r rfl (by have := (ok.deg hp8).2.2; omega)
        rw [am_up_ne (by decide), am_up_ne (by decide), h1 3 (by decide) (by decide), h0.1 _ hp8]
      · rw [ew2, am_up_us, am_up_us, h4]
theorem w_wander_x {w : Nat} {F : Nat → Int32} {x0 : Int32} (hw : w < 4) (ok : FOK F) (h0 : HC g F) (e0 : g 15 1 = x0) (h : ∀ g', (∀ k, k ≠ 15 → k ≠ 16 → g' k = g k) → (∀ i, i < w * 10 ∨ w * 10 + 10 ≤ i → g' 16 i = g 16 i) → (∀ j, j < 10 → g' 16 (w * 10 + j) = nI (wS F x0 j).2) → g' 15 1 = (wS F x0 9).1 → Q none LY g') : am (d + 3) 13 0 [some (.ref 15), some (.ref 2), some (.int (nI w)), none, none] [] LY g 0 0 none Q := by
  refine am_run_k 3 (am_cl ?_)
  refine w_draw_y (k := 8) (by decide) (by decide) (fun p hp ep => ?_)
  rw [e0] at ep
  refine am_run_k 8 (And.intro (vpe (nIm10 w) (by omega)) ?_)
  refine am_run_k 2 ?_
  rw [cle (nIm10 w) (by omega)]
  have ew : wS F x0 0 = (am_lcg x0, p) := by rw [wS, ep]
  refine l_13_20_x (x0 := x0) (F := F) (g0 := g) hw ok h0 h 9 0 _ _ _ rfl rfl (by rw [ew]) (fun k h15 h16 => by rw [am_up_ne h16, am_up_ne h15]) (fun i hi => by rw [am_up_un (by omega), am_up_ne (by decide)]) (fun j hj => ?_) (by rw [am_up_ne (by decide), am_up_us, ew, e0])
  have e : j = 0 := by omega
  subst e
  rw [ew]
  exact am_up_us
theorem l_14_22_x {w : Nat} {x0 : Int32} {th : Int32} {g0 : am_G} (hw : w < 4) (h0 : HC g0 (mkF x0)) (e14 : g0 1 4 = nI (mkP x0)) (h : ∀ g', (∀ k, k ≠ 16 → g' k = g0 k) → (∀ i, i < w * 10 ∨ w * 10 + 10 ≤ i → g' 16 i = g0 16 i) → (∀ j, j < 10 → g' 16 (w * 10 + j) = nI (apP x0 j)) → Q none LY g') : ∀ (n t : Nat) (x pl : Int32) (g : am_G), t + 1 + n = 10 → x = nI (t + 1) → pl = nI (apP x0 t) → (∀ k, k ≠ 16 → g k = g0 k) → (∀ i, i < w * 10 ∨ w * 10 + 10 ≤ i → g 16 i = g0 16 i) → (∀ j, j < t + 1 → g 16 (w * 10 + j) = nI (apP x0 j)) → am (d + 3) 14 22 [some (.ref 15), some (.ref 1), some (.int (nI w)), some (.int th), some (.int pl), some (.int x)] [] LY g 0 0 none Q := by
  intro n
  induction n with
  | zero =>
    intro t x pl g ht hx hp h1 h2 h3
    have ht : t = 9 := by omega
    subst ht; subst hx
    refine am_run_k 3 (And.intro (fun h6 => ?_) (fun hx => absurd ((show nI 10 ≤ nI (9 + 1) from nI_le (Nat.le_refl 10) (by decide))) hx))
    refine am_run_k 1 ?_
    exact h g h1 h2 h3
  | succ n ih =>
    intro t x pl g ht hx hp h1 h2 h3
    subst hx
    refine am_run_k 3 (And.intro (fun hx => absurd hx ((nI_ge (b := 10) (by omega) (by decide)))) (fun h6 => ?_))
    have hp8 : apP x0 t < 8 := apP_lt t
    refine am_run_k 6 (am_cl ?_)
    refine w_stepTowards (vpe hp hp8) ?_
    refine am_run_k 10 (And.intro (vpe nIx10 (by omega)) ?_)
    refine am_run_k 2 ?_
    rw [cle nIx10 (by omega)]
    have hcg : HC g (mkF x0) := h0.of (h1 3 (by decide)) (h1 4 (by decide))
    have es : spw g pl (g 1 4) = nI (apP x0 (t + 1)) := by
      rw [hp, h1 1 (by decide), e14, spw_stp hcg hp8 mkP_lt, apP]
    rw [es]
    refine ih (t + 1) _ _ _ (by omega) (nI_1 (t + 1)) rfl (fun k h16 => by rw [am_up_ne h16]; exact h1 k h16) (fun i hi => by rw [am_up_un (by omega)]; exact h2 i hi) (fun j hj => ?_)
    by_cases e : j = t + 1
    · rw [e]; exact am_up_us
    · rw [am_up_un (by omega)]; exact h3 j (by omega)
theorem w_approach_x {w : Nat} {x0 : Int32} (hw : w < 4) (h0 : HC g (mkF x0)) (e14 : g 1 4 = nI (mkP x0)) (hly : g 8 (mkO x0) = nI (mkL x0 (mkO x0))) (h : ∀ g', (∀ k, k ≠ 16 → g' k = g k) → (∀ i, i < w * 10 ∨ w * 10 + 10 ≤ i → g' 16 i = g 16 i) → (∀ j, j < 10 → g' 16 (w * 10 + j) = nI (apP x0 j)) → Q none LY g') : am (d + 3) 14 0 [some (.ref 15), some (.ref 1), some (.int (nI w)), some (.int (nI (mkO x0))), none, none] [] LY g 0 0 none Q := by
  have ho := mkO_lt (x := x0)
  have e0 : apP x0 0 = mkL x0 (mkO x0) := by rw [apP]
  refine am_run_k 4 (And.intro (vpn ho) ?_)
  rw [ncl (by omega), hly]
  refine am_run_k 8 (And.intro (vpe (nIm10 w) (by omega)) ?_)
  refine am_run_k 2 ?_
  rw [cle (nIm10 w) (by omega)]
  refine l_14_22_x (g0 := g) (x0 := x0) hw h0 e14 h 9 0 _ _ _ rfl rfl (by rw [e0]) (fun k h16 => am_up_ne h16) (fun i hi => am_up_un (by omega)) (fun j hj => ?_)
  have e : j = 0 := by omega
  subst e
  rw [e0]
  exact am_up_us
theorem l_15_44_x {w t0 aw : Nat} {t1 : Int32} {g0 : am_G} (hw : w < 4) (h : ∀ g', (∀ k, k ≠ 16 → g' k = g0 k) → (∀ i, i < w * 10 + t0 ∨ w * 10 + 10 ≤ i → g' 16 i = g0 16 i) → (∀ j, t0 ≤ j → j < 10 → g' 16 (w * 10 + j) = nI aw) → Q none LY g') : ∀ (n t : Nat) (x : Int32) (g : am_G), t + n = 10 → t0 ≤ t → x = nI t → (∀ k, k ≠ 16 → g k = g0 k) → (∀ i, i < w * 10 + t0 ∨ w * 10 + 10 ≤ i → g 16 i = g0 16 i) → (∀ j, t0 ≤ j → j < t → g 16 (w * 10 + j) = nI aw) → am (d + 3) 15 44 [some (.ref 15), some (.ref 1), some (.int (nI w)), some (.int t1), some (.int (nI aw)), some (.int x)] [] LY g 0 0 none Q := by
  intro n
  induction n with
  | zero =>
    intro t x g ht h0 hx h1 h2 h3
    have ht : t = 10 := by omega
    subst ht; subst hx
    refine am_run_k 3 (And.intro (fun h6 => ?_) (fun hx => absurd ((show nI 10 ≤ nI 10 from nI_le (Nat.le_refl 10) (by decide))) hx))
    refine am_run_k 1 ?_
    exact h g h1 h2 h3
  | succ n ih =>
    intro t x g ht h0 hx h1 h2 h3
    subst hx
    refine am_run_k 3 (And.intro (fun hx => absurd hx ((nI_ge (b := 10) (by omega) (by decide)))) (fun h6 => ?_))
    refine am_run_k 9 (And.intro (vpe nIx10 (by omega)) ?_)
    refine am_run_k 2 ?_
    rw [cle nIx10 (by omega)]
    refine ih (t + 1) _ _ (by omega) (by omega) (nI_1 t) (fun k h16 => by rw [am_up_ne h16]; exact h1 k h16) (fun i hi => by rw [am_up_un (by omega)]; exact h2 i hi) (fun j hj hj2 => ?_)
    by_cases e : j = t
    · rw [e]; exact am_up_us
    · rw [am_up_un (by omega)]; exact h3 j hj (by omega)
theorem w_turnAway_x {w t P b : Nat} {F : Nat → Int32} (hw : w < 4) (ht0 : 0 < t) (ht : t < 10) (e15 : g 1 5 = nI t) (hP : P < 8) (e14 : g 1 4 = nI P) (h0 : HC g F) (hb : b < 8) (eb : g 16 (w * 10 + (t - 1)) = nI b) (h : ∀ g', (∀ k, k ≠ 16 → g' k = g k) → (∀ i, i < w * 10 + t ∨ w * 10 + 10 ≤ i → g' 16 i = g 16 i) → (∀ j, t ≤ j → j < 10 → g' 16 (w * 10 + j) = nI (if b = P then nthF F P 0 else b)) → Q none LY g') : am (d + 3) 15 0 [some (.ref 15), some (.ref 1), some (.int (nI w)), none, none, none] [] LY g 0 0 none Q := by
  obtain ⟨t', rfl⟩ : ∃ t', t = t' + 1 := ⟨t - 1, by omega⟩
  refine am_run_k 7 (am_cl ?_)
  rw [e15, show nI (t' + 1) - 1 = nI t' from nI_pred t']
  refine w_at hw (by omega) ?_
  rw [show t' + 1 - 1 = t' from rfl] at eb
  rw [eb]
  have tail : ∀ (a : Int32) (y : Nat), y = (if b = P then nthF F P 0 else b) → am (d + 3) 15 36 [some (.ref 15), some (.ref 1), some (.int (nI w)), some (.int a), none, none] [.int (nI y)] LY g 0 0 none Q := by
    intro a y hy
    refine am_run_k 4 ?_
    subst hy
    exact l_15_44_x (g0 := g) hw h (10 - (t' + 1)) (t' + 1) _ g (by omega) (Nat.le_refl _) e15 (fun k _ => rfl) (fun i _ => rfl) (fun j h1 h2 => absurd h2 (by omega))
  refine am_run_k 5 (And.intro (fun h1 => ?_) (fun h1 => ?_))
  · have hbP : b = P := by
      rw [e14] at h1
      first
        | exact (nI_eq (by omega) (by omega)).mp h1
        | exact (nI_eq (by omega) (by omega)).mp (rdr h1)
    refine am_run_k 6 (am_cl ?_)
    rw [e14]
    refine w_neighbour (vpn hP) ?_
    have e2 : nbF g (nI P) 8 0 0 = nI (nthF F P 0) := by
      unfold nthF
      exact nbF_nt hP (h0.1 P hP) 8 0 0 rfl (by decide)
    rw [e2]
    exact tail _ _ (by rw [if_pos hbP])
  · have hbP : ¬ b = P := fun z => h1 (by rw [e14, z])
    refine am_run_k 2 ?_
    exact tail _ _ (by rw [if_neg hbP])
end MDA
