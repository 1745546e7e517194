section MMA
variable {d : Nat} {g : am_G} {Q : am_Q}
/-- the model's house -/
def JM (g : am_G) (F : Nat → Int32) : Prop := ∀ p, p < 8 → g 23 p = jF F p
theorem JM.of {F : Nat → Int32} {g' : am_G} (h : JM g F) (e : g' 23 = g 23) : JM g' F := by unfold JM at *; rw [e]; exact h
theorem jF_bt {F : Nat → Int32} {p q : Nat} (hq : q < 32) (hp : p < 8) : bt (jF F p) q = (bt (F p) q || decide (q = p)) := by
  unfold jF
  rw [b_or, b_sh hq (by omega)]
theorem JM.join {F : Nat → Int32} {a b : Nat} (h : JM g F) (ha : a < 8) (hb : b < 8) (hab : a ≠ b) : JM (jnA g a b) (nrF F a b) := by
  intro p hp
  refine b_ext (fun q hq => ?_)
  rw [jnA_bt ha hb hq hab, h p hp, jF_bt hq hp, jF_bt hq hp, nrF_bt ha hb hq hab]
  cases bt (F p) q <;> cases decide (q = p) <;> simp
theorem JM.zero (h : ∀ p, p < 8 → g 23 p = am_sh (nI p)) : JM g (ringF 0) := by
  intro p hp
  rw [h p hp]
  refine b_ext (fun q hq => ?_)
  rw [jF_bt hq hp, ringF, b_0, b_sh hq (by omega), Bool.false_or]
theorem nbC_F {F : Nat → Int32} {z : Nat} (hz : z < 8) (ok : bt (F z) z = false) : ∀ q, q ≤ 20 → nbC (jF F z) z q = bcN (F z) q := by
  intro q
  induction q with
  | zero => intro _; rfl
  | succ q ih =>
    intro hq
    rw [nbC, bcN, ih (by omega), jF_bt (by omega) hz]
    by_cases e : q = z
    · subst e; rw [ok]; simp
    · cases hb : bt (F z) q <;> simp [e]
theorem nth_of {F : Nat → Int32} {z y k : Nat} (hz : z < 8) (ok : bt (F z) z = false) (hy : y < 8) (hyz : y ≠ z) (hyb : bt (jF F z) y = true) (hyc : nbC (jF F z) z y = k) : nthF F z k = y := by
  rw [nthF]
  rw [jF_bt (by omega) hz, decide_eq_false hyz, Bool.or_false] at hyb
  rw [nbC_F hz ok y (by omega)] at hyc
  exact ntF_eq hy hyb 8 0 k rfl (Nat.zero_le y) (by rw [hyc]; show k = 0 + k; omega)
theorem m_joinedTo_x {F : Nat → Int32} {p k : Nat} {l3 l4 : Option Value} (J : JM g F) (ok : FOK F) (hp : p < 8) (hk : k < degF F p) (h : Q (some (.int (nI (nthF F p k)))) LY g) : am d 129 0 [some (.ref 22), some (.int (nI p)), some (.int (nI k)), l3, l4] [] LY g 0 0 none Q := by
  have ok1 := (ok p hp).1
  refine m_joinedTo hp (by rw [J p hp, nbC_F hp ok1 8 (by omega)]; exact hk) (fun y hy hyz hyb hyc => ?_)
  rw [J p hp] at hyb hyc
  rw [nth_of hp ok1 hy hyz hyb hyc] at h
  exact h
theorem bl_st {F : Nat → Int32} (J : JM g F) {a : Nat} (ha : a < 8) : ∀ n b, b < 8 → (bl g n a b ↔ bt (stN (jF F) a n) b = true) := by
  intro n
  induction n with
  | zero =>
    intro b hb
    rw [stN, b_sh (by omega) (by omega), decide_eq_true_iff]
    exact ⟨fun h => Eq.symm h, fun h => Eq.symm h⟩
  | succ n ih =>
    intro b hb
    rw [stN, arV_bt]
    constructor
    · rintro ⟨p, hp, h1, h2⟩
      exact ⟨p, hp, (ih p hp).mp h1, by rw [← J p hp]; exact h2⟩
    · rintro ⟨p, hp, h1, h2⟩
      exact ⟨p, hp, (ih p hp).mpr h1, by rw [J p hp]; exact h2⟩
theorem bl_ds {F : Nat → Int32} (J : JM g F) {a b n : Nat} (ha : a < 8) (hb : b < 8) (hn : n < 8) (h : bl g n a b) (hm : ∀ m, m < n → ¬ bl g m a b) : dsN (jF F) a b = n := by
  rw [dsN]
  refine dsF_eq ((bl_st J ha n b hb).mp h) (fun k hk => ?_) 8 0 rfl (Nat.zero_le n) hn
  have := hm k hk
  rw [bl_st J ha k b hb] at this
  simpa using this
/-- the house made, model -/
def XH (x : Int32) (g : am_G) : Prop := g 22 0 = nI 4 ∧ g 22 1 = nI (dst x 2).2.2 ∧ JM g (mkF x) ∧ ∀ w, w < 3 → g 24 w = nI (mkL x w)
def BM (g : am_G) (x : Int32) (k : Nat) : Prop := g 22 20 = (dst x k).1 ∧ JM g (dst x k).2.1 ∧ g 22 1 = nI (dst x k).2.2
theorem BM.skip {x : Int32} {k : Nat} {g' : am_G} (b : BM g x k) (e20 : g' 22 20 = am_lcg (am_lcg (dst x k).1)) (e1 : g' 22 1 = g 22 1) (e3 : g' 23 = g 23) (hb : bt ((dst x k).2.1 (dA (dst x k).1)) (dB (dst x k).1) = true) : BM g' x (k + 1) := by
  have e : dst x (k + 1) = (am_lcg (am_lcg (dst x k).1), (dst x k).2.1, (dst x k).2.2) := by
    rw [dst, addD, cntD, hb]; rfl
  unfold BM
  rw [e]
  exact ⟨e20, b.2.1.of e3, by rw [e1]; exact b.2.2⟩
theorem BM_join {x : Int32} {k : Nat} (e20 : g 22 20 = am_lcg (am_lcg (dst x k).1)) (j : JM g (dst x k).2.1) (hb : bt ((dst x k).2.1 (dA (dst x k).1)) (dB (dst x k).1) = false) (e1 : g 22 1 = nI (dst x k).2.2) : BM (jnA g (dA (dst x k).1) (dB (dst x k).1)) x (k + 1) := by
  have e : dst x (k + 1) = (am_lcg (am_lcg (dst x k).1), nrF (dst x k).2.1 (dA (dst x k).1) (dB (dst x k).1), (dst x k).2.2 + 1) := by
    rw [dst, addD, cntD, hb]; rfl
  unfold BM
  rw [e]
  refine ⟨?_, j.join dA_lt dB_lt dAB, ?_⟩
  · rw [jnA_22 (by decide)]; exact e20
  · unfold jnA; rw [am_up_us, e1]; exact nI_1 _
theorem m_makeHouse_x {x0 : Int32} {l1 l2 l3 : Option Value} (e20 : g 22 20 = x0) (h : ∀ g', fr3 g g' → HB g' 8 → TH g' → XH x0 g' → g' 22 20 = mkX2 x0 → Q none LY g') : am (d + 1) 131 0 [some (.ref 22), l1, l2, l3] [] LY g 0 0 none Q := by
  -- the things
  have things : ∀ (m k : Nat) (x : Int32) (l2 l3 : Option Value) (g1 : am_G), k + m = 3 → x = nI k → fr3 g g1 → HB g1 8 → g1 22 0 = nI 4 → g1 22 1 = nI (dst x0 2).2.2 → JM g1 (mkF x0) → g1 22 20 = lcN k (dst x0 2).1 → (∀ w, w < k → g1 24 w = nI (mkL x0 w)) → am (d + 1) 131 112 [some (.ref 22), some (.int x), l2, l3] [] LY g1 0 0 none Q := by
    intro m
    induction m with
    | zero =>
      intro k x l2 l3 g1 hk hx f H e0 e1 J s20 ht
      have hk : k = 3 := by omega
      subst hk; subst hx
      refine am_run_k 3 (And.intro (fun h6 => ?_) (fun hx => absurd ((show nI 3 ≤ nI 3 from nI_le (Nat.le_refl 3) (by decide))) hx))
      refine am_run_k 1 ?_
      exact h g1 f H (fun w hw => ⟨mkL x0 w, mkL_lt, ht w hw⟩) ⟨e0, e1, J, ht⟩ (by rw [s20, mkX2])
    | succ m ih =>
      intro k x l2 l3 g1 hk hx f H e0 e1 J s20 ht
      subst hx
      refine am_run_k 3 (And.intro (fun hx => absurd hx ((nI_ge (b := 3) (by omega) (by decide)))) (fun h6 => ?_))
      refine am_run_k 6 (am_cl ?_)
      refine m_draw_y (k := 8) (by decide) (by decide) (fun j hj ej => ?_)
      refine am_run_k 1 (And.intro (vpn (by omega)) ?_)
      rw [ncl (by omega)]
      refine am_run_k 2 ?_
      refine ih (k + 1) _ _ _ _ (by omega) (nI_1 k) ((f.tr (fr3.u22 (Or.inr (Or.inr rfl)))).tr fr3.u24) (H.of (by rw [am_up_ne (by decide), am_up_ne (by decide)])) (by rw [am_up_ne (by decide), am_up_un (by decide)]; exact e0) (by rw [am_up_ne (by decide), am_up_un (by decide)]; exact e1) (J.of (by rw [am_up_ne (by decide), am_up_ne (by decide)])) (by rw [am_up_ne (by decide), am_up_us, s20, lcN]) (fun w hw => ?_)
      by_cases e : w = k
      · rw [e, am_up_us, ej, s20, mkL]
      · rw [am_up_un e, am_up_ne (by decide)]; exact ht w (by omega)
  -- the further doors
  have doors : ∀ (m k : Nat) (x : Int32) (l2 l3 : Option Value) (g1 : am_G), k + m = 2 → x = nI k → fr3 g g1 → HB g1 8 → g1 22 0 = nI 4 → BM g1 x0 k → am (d + 1) 131 60 [some (.ref 22), some (.int x), l2, l3] [] LY g1 0 0 none Q := by
    intro m
    induction m with
    | zero =>
      intro k x l2 l3 g1 hk hx f H e0 bm
      have hk : k = 2 := by omega
      subst hk; subst hx
      refine am_run_k 3 (And.intro (fun h6 => ?_) (fun hx => absurd ((show nI 2 ≤ nI 2 from nI_le (Nat.le_refl 2) (by decide))) hx))
      refine am_run_k 2 ?_
      exact things 3 0 _ _ _ g1 rfl rfl f H e0 bm.2.2 (by rw [mkF]; exact bm.2.1) (by rw [bm.1, lcN]) (fun w hw => absurd hw (by omega))
    | succ m ih =>
      intro k x l2 l3 g1 hk hx f H e0 bm
      subst hx
      refine am_run_k 3 (And.intro (fun hx => absurd hx ((nI_ge (b := 2) (by omega) (by decide)))) (fun h6 => ?_))
      refine am_run_k 3 (am_cl ?_)
      refine m_draw_y (k := 8) (by decide) (by decide) (fun p hp ei => ?_)
      refine am_run_k 7 (am_cl ?_)
      refine m_draw_y (k := 5) (by decide) (by decide) (fun j hj ej => ?_)
      rw [am_up_us] at ej
      have eA : p = dA (dst x0 k).1 := by rw [dA, ei, bm.1]
      have eB : (p + 2 + j) % 8 = dB (dst x0 k).1 := by rw [dB, ei, ej, bm.1]
      have e2 : nI p + 2 + nI j = nI (p + 2 + j) := by rw [nIp2]; exact nI_add _ _
      refine am_run_k 3 (And.intro (show ¬ (8 : Int32) = 0 by decide) ?_)
      rw [e2, rem8 _ (by omega)]
      obtain ⟨g2, eg2⟩ : ∃ g2 : am_G, g2 = (am_up (am_up g1 22 20 (am_lcg (g1 22 20))) 22 20 (am_lcg (am_up g1 22 20 (am_lcg (g1 22 20)) 22 20))) := ⟨_, rfl⟩
      have o23 : g2 23 = g1 23 := by rw [eg2, am_up_ne (by decide), am_up_ne (by decide)]
      have H2 : HB g2 8 := H.of o23
      have f2 : fr3 g g2 := by rw [eg2]; exact (f.tr (fr3.u22 (Or.inr (Or.inr rfl)))).tr (fr3.u22 (Or.inr (Or.inr rfl)))
      have e02 : g2 22 0 = nI 4 := by rw [eg2, am_up_un (by decide), am_up_un (by decide)]; exact e0
      have e12 : g2 22 1 = g1 22 1 := by rw [eg2, am_up_un (by decide), am_up_un (by decide)]
      have s2 : g2 22 20 = am_lcg (am_lcg (dst x0 k).1) := by rw [eg2, am_up_us, am_up_us, bm.1]
      have J2 : JM g2 (dst x0 k).2.1 := bm.2.1.of o23
      have hne : p ≠ (p + 2 + j) % 8 := by omega
      have hb2 : bt (g2 23 p) ((p + 2 + j) % 8) = bt ((dst x0 k).2.1 (dA (dst x0 k).1)) (dB (dst x0 k).1) := by
        rw [J2 p hp, jF_bt (by omega) hp, decide_eq_false (Ne.symm hne), Bool.or_false, ← eA, ← eB]
      refine am_run_k 5 (And.intro (vpn hp) ?_)
      rw [ncl (by omega)]
      rw [← eg2]
      refine am_run_k 5 (And.intro (fun h7 => ?_) (fun h7 => ?_))
      · have hb : bt ((dst x0 k).2.1 (dA (dst x0 k).1)) (dB (dst x0 k).1) = true := by
          rw [← hb2]
          rw [bt_z (by omega)] at h7
          simpa using h7
        refine am_run_k 2 ?_
        exact ih (k + 1) _ _ _ _ (by omega) (nI_1 k) f2 H2 e02 (bm.skip s2 e12 o23 hb)
      · have h7 : ((g2 23 p) >>> (nI ((p + 2 + j) % 8) &&& 31)) &&& 1 = 0 := by first | exact h7 | exact rdr h7
        have hb := (bt_z (by omega)).mp h7
        rw [hb2] at hb
        refine am_run_k 4 (am_cl ?_)
        refine m_join hp (by omega) ?_
        refine am_run_k 2 ?_
        refine ih (k + 1) _ _ _ _ (by omega) (nI_1 k) (f2.tr fr3.jn) (H2.join (by omega) hp (by omega) hne) (by rw [jnA_22 (by decide)]; exact e02) ?_
        rw [eA] at eB ⊢
        rw [eB]
        exact BM_join s2 J2 hb (by rw [e12]; exact bm.2.2)
  -- the ring
  have ring : ∀ (m k : Nat) (x : Int32) (l2 l3 : Option Value) (g1 : am_G), k + m = 8 → x = nI k → fr3 g g1 → HB g1 k → g1 22 0 = nI 4 → g1 22 1 = nI k → JM g1 (ringF k) → g1 22 20 = x0 → am (d + 1) 131 35 [some (.ref 22), some (.int x), l2, l3] [] LY g1 0 0 none Q := by
    intro m
    induction m with
    | zero =>
      intro k x l2 l3 g1 hk hx f H e0 e1 J s20
      have hk : k = 8 := by omega
      subst hk; subst hx
      refine am_run_k 3 (And.intro (fun h6 => ?_) (fun hx => absurd ((show nI 8 ≤ nI 8 from nI_le (Nat.le_refl 8) (by decide))) hx))
      refine am_run_k 2 ?_
      refine doors 2 0 _ _ _ g1 rfl rfl f H e0 ?_
      unfold BM
      rw [dst]
      exact ⟨s20, J, e1⟩
    | succ m ih =>
      intro k x l2 l3 g1 hk hx f H e0 e1 J s20
      subst hx
      refine am_run_k 3 (And.intro (fun hx => absurd hx ((nI_ge (b := 8) (by omega) (by decide)))) (fun h6 => ?_))
      refine am_run_k 7 (And.intro (show ¬ (8 : Int32) = 0 by decide) ?_)
      rw [nI_1, rem8 _ (by omega)]
      refine am_run_k 1 (am_cl ?_)
      refine m_join (by omega) (by omega) ?_
      refine am_run_k 2 ?_
      refine ih (k + 1) _ _ _ _ (by omega) (nI_1 k) (f.tr fr3.jn) (H.ring (by omega)) (by rw [jnA_22 (by decide)]; exact e0) (by unfold jnA; rw [am_up_us, e1]; exact nI_1 k) ?_ (by rw [jnA_22 (by decide)]; exact s20)
      rw [ringF]
      exact J.join (by omega) (by omega) (by omega)
  -- the places, each alone
  have alone : ∀ (m k : Nat) (x : Int32) (l2 l3 : Option Value) (g1 : am_G), k + m = 8 → x = nI k → fr3 g g1 → g1 22 0 = nI 4 → g1 22 1 = nI 0 → g1 22 20 = x0 → (∀ p, p < k → g1 23 p = am_sh (nI p)) → am (d + 1) 131 12 [some (.ref 22), some (.int x), l2, l3] [] LY g1 0 0 none Q := by
    intro m
    induction m with
    | zero =>
      intro k x l2 l3 g1 hk hx f e0 e1 s20 hs
      have hk : k = 8 := by omega
      subst hk; subst hx
      refine am_run_k 3 (And.intro (fun h6 => ?_) (fun hx => absurd ((show nI 8 ≤ nI 8 from nI_le (Nat.le_refl 8) (by decide))) hx))
      refine am_run_k 2 ?_
      refine ring 8 0 _ _ _ g1 rfl rfl f ⟨fun p q hp hq e => ?_, fun p hp => ?_, fun p hp q h1 h2 => ?_, fun p hp => absurd hp (by omega)⟩ e0 e1 (JM.zero hs) s20
      · rw [hs p hp, b_sh (by omega) (by omega), decide_eq_true_iff] at e
        rw [hs q hq, b_sh (by omega) (by omega), decide_eq_true_iff]
        exact e.symm
      · rw [hs p hp, b_sh (by omega) (by omega)]; simp
      · rw [hs p hp, b_sh (by omega) (by omega)]; exact decide_eq_false (by omega)
    | succ m ih =>
      intro k x l2 l3 g1 hk hx f e0 e1 s20 hs
      subst hx
      refine am_run_k 3 (And.intro (fun hx => absurd hx ((nI_ge (b := 8) (by omega) (by decide)))) (fun h6 => ?_))
      refine am_run_k 7 (And.intro (vpn (by omega)) ?_)
      rw [ncl (by omega)]
      refine am_run_k 2 ?_
      refine ih (k + 1) _ _ _ _ (by omega) (nI_1 k) (f.tr fr3.u23) (by rw [am_up_ne (by decide)]; exact e0) (by rw [am_up_ne (by decide)]; exact e1) (by rw [am_up_ne (by decide)]; exact s20) (fun p hp => ?_)
      by_cases e : p = k
      · rw [e, am_up_us]; rfl
      · rw [am_up_un e]; exact hs p (by omega)
  refine am_run_k 8 ?_
  refine alone 8 0 _ _ _ _ rfl rfl ((fr3.u22 (Or.inl rfl)).tr (fr3.u22 (Or.inr (Or.inl rfl)))) ?_ ?_ ?_ (fun p hp => absurd hp (by omega))
  · rw [am_up_un (by decide), am_up_us]; rfl
  · rw [am_up_us]; rfl
  · rw [am_up_un (by decide), am_up_un (by decide)]; exact e20
/-- what comes after the house leaves -/
def fL (g g' : am_G) : Prop := (∀ k, k ≠ 22 → k ≠ 25 → k ≠ 26 → k ≠ 27 → k ≠ 34 → g' k = g k) ∧ ∀ i, i ≠ 20 → i ≠ 7 → i ≠ 4 → i ≠ 5 → i ≠ 6 → g' 22 i = g 22 i
theorem fL.rf : fL g g := ⟨fun _ _ _ _ _ _ => rfl, fun _ _ _ _ _ _ => rfl⟩
theorem fL.tr {g0 g1 g2 : am_G} (h : fL g0 g1) (h2 : fL g1 g2) : fL g0 g2 := ⟨fun k a b c d e => (h2.1 k a b c d e).trans (h.1 k a b c d e), fun i a b c d e => (h2.2 i a b c d e).trans (h.2 i a b c d e)⟩
theorem fL.way {i : Nat} {y : Int32} : fL g (am_up g 34 i y) := ⟨fun k _ _ _ _ e => am_up_ne e, fun i _ _ _ _ _ => by rw [am_up_ne (by decide)]⟩
theorem fL.u22 {i : Nat} {y : Int32} (h : i = 20 ∨ i = 7 ∨ i = 4 ∨ i = 5 ∨ i = 6) : fL g (am_up g 22 i y) := ⟨fun k a _ _ _ _ => am_up_ne a, fun j _ _ _ _ _ => am_up_un (by omega)⟩
theorem fL.put {n : Nat} {kd a b c x : Int32} : fL g (am_mput g n kd a b c x) := ⟨fun k h1 h2 h3 h4 _ => mput_ne h1 h2 h3 h4, fun i _ h7 _ _ _ => mput_22 h7⟩
theorem XH.of {x : Int32} {g' : am_G} (h : XH x g) (f : fL g g') : XH x g' := by
  obtain ⟨h1, h2, h3, h4⟩ := h
  have e24 := f.1 24 (by decide) (by decide) (by decide) (by decide) (by decide)
  refine ⟨?_, ?_, h3.of (f.1 23 (by decide) (by decide) (by decide) (by decide) (by decide)), fun w hw => by rw [e24]; exact h4 w hw⟩
  · rw [f.2 0 (by decide) (by decide) (by decide) (by decide) (by decide)]; exact h1
  · rw [f.2 1 (by decide) (by decide) (by decide) (by decide) (by decide)]; exact h2
theorem m_makeWays_x {F : Nat → Int32} {y0 : Int32} {g0 : am_G} {c : Nat} {l1 l2 l3 l4 : Option Value} (ok : FOK F) (J : JM g F) (s0 : g 22 20 = y0) (M : MK g0 g c 0) (h : ∀ g', MK g0 g' c 40 → fL g g' → (∀ i, i ≠ 20 → g' 22 i = g 22 i) → (∀ q, q < 4 → ∀ t, t < 10 → g' 34 (10 * q + t) = nI (wS F (xQ F y0 q) t).2) → g' 22 20 = xQ F y0 4 → Q none LY g') : am (d + 1) 132 0 [some (.ref 22), l1, l2, l3, l4] [] LY g 0 0 none Q := by
  have inn : ∀ (f : Nat) (hf : f < 4) (nx : ∀ g2 l3 l4, MK g0 g2 c (10 * (f + 1)) → fL g g2 → (∀ i, i ≠ 20 → g2 22 i = g 22 i) → (∀ q, q < f + 1 → ∀ t, t < 10 → g2 34 (10 * q + t) = nI (wS F (xQ F y0 q) t).2) → g2 22 20 = xQ F y0 (f + 1) → am (d + 1) 132 105 [some (.ref 22), some (.int (nI f)), some (.int (nI 10)), l3, l4] [] LY g2 0 0 none Q), ∀ (m t : Nat) (x : Int32) (l3 l4 : Option Value) (g1 : am_G), t + 1 + m = 10 → x = nI (t + 1) → MK g0 g1 c (10 * f + (t + 1)) → fL g g1 → (∀ i, i ≠ 20 → g1 22 i = g 22 i) → (∀ q, q < f → ∀ t, t < 10 → g1 34 (10 * q + t) = nI (wS F (xQ F y0 q) t).2) → (∀ j, j < t + 1 → g1 34 (10 * f + j) = nI (wS F (xQ F y0 f) j).2) → g1 22 20 = (wS F (xQ F y0 f) t).1 → am (d + 1) 132 24 [some (.ref 22), some (.int (nI f)), some (.int x), l3, l4] [] LY g1 0 0 none Q := by
    intro f hf nx m
    induction m with
    | zero =>
      intro t x l3 l4 g1 ht hx M1 L1 o1 r1 r2 s1
      have ht : t = 9 := by omega
      subst ht; subst hx
      refine am_run_k 3 (And.intro (fun h6 => ?_) (fun hx => absurd ((show nI 10 ≤ nI (9 + 1) from nI_le (Nat.le_refl 10) (by decide))) hx))
      refine nx g1 _ _ M1 L1 o1 (fun q hq t ht => ?_) (by rw [s1, xQ, wX])
      rcases Nat.lt_succ_iff_lt_or_eq.mp hq with z | z
      · exact r1 q z t ht
      · rw [z]; exact r2 t ht
    | succ m ih =>
      intro t x l3 l4 g1 ht hx M1 L1 o1 r1 r2 s1
      subst hx
      refine am_run_k 3 (And.intro (fun hx => absurd hx ((nI_ge (b := 10) (by omega) (by decide)))) (fun h6 => ?_))
      have ei : (10 : Int32) * nI f + nI (t + 1) - 1 = nI (10 * f + t) := by
        rw [ix10t, show 10 * f + (t + 1) = (10 * f + t) + 1 by omega]
        exact nI_pred _
      have hz : (wS F (xQ F y0 f) t).2 < 8 := wS_lt t
      have ez := r2 t (by omega)
      have ew : wS F (xQ F y0 f) (t + 1) = wst F (wS F (xQ F y0 f) t) := by rw [wS]
      refine am_run_k 10 (And.intro (vpe ei (by omega)) ?_)
      rw [cle ei (by omega), ez]
      refine am_run_k 4 (am_cl ?_)
      refine m_draw_y (k := 3) (by decide) (by decide) (fun j hj ej => ?_)
      rw [s1] at ej
      have s98 : ∀ (y : Nat) (g2 : am_G) (l4 : Option Value), y = (wS F (xQ F y0 f) (t + 1)).2 → MK g0 g2 c (10 * f + (t + 1)) → (∀ k, k ≠ 22 → g2 k = g1 k) → (∀ i, i ≠ 20 → g2 22 i = g1 22 i) → g2 22 20 = (wS F (xQ F y0 f) (t + 1)).1 → am (d + 1) 132 98 [some (.ref 22), some (.int (nI f)), some (.int (nI (t + 1))), some (.int (nI (wS F (xQ F y0 f) t).2)), l4] [.int (nI y), .int ((10 : Int32) * nI f + nI (t + 1)), .ref 34] LY g2 0 0 none Q := by
        intro y g2 l4 hy M2 q1 q2 q3
        have hy8 : y < 8 := by rw [hy]; exact wS_lt _
        refine am_run_k 1 (And.intro (vpe ix10t (by omega)) ?_)
        rw [cle ix10t (by omega)]
        refine am_run_k 2 ?_
        refine ih (t + 1) _ _ _ _ (by omega) (nI_1 (t + 1)) (M2.next hy8) (L1.tr ((show fL g1 g2 from ⟨fun k a _ _ _ _ => q1 k a, fun i a _ _ _ _ => q2 i a⟩).tr fL.way)) (fun i hi => by rw [am_up_ne (by decide), q2 i hi]; exact o1 i hi) (fun q hq t ht => by rw [am_up_un (by omega), q1 34 (by decide)]; exact r1 q hq t ht) (fun j hj => ?_) (by rw [am_up_ne (by decide)]; exact q3)
        by_cases e : j = t + 1
        · rw [e, am_up_us, hy]
        · rw [am_up_un (by omega), q1 34 (by decide)]; exact r2 j (by omega)
      have M1' := M1.u22 (i := 20) (y := am_lcg (g1 22 20)) (Or.inl rfl)
      refine am_run_k 1 (And.intro (fun h7 => ?_) (fun h7 => ?_))
      · have hj0 : ¬ j = 0 := by
          intro z; subst z
          first
            | exact h7 rfl
            | exact absurd h7 (by decide)
        refine am_run_k 1 ?_
        refine am_run_k 10 (And.intro (fun h8 => ?_) (fun hx => absurd ((by decide)) hx))
        refine am_run_k 7 (And.intro (vpn hz) ?_)
        rw [ncl (by omega)]
        refine am_run_k 1 (am_cl ?_)
        refine m_many ?_
        refine am_run_k 3 (am_cl ?_)
        have M2 := M1'
        have J2 : JM (am_up g1 22 20 (am_lcg (g1 22 20))) F := J.of (by rw [am_up_ne (by decide)]; exact L1.1 23 (by decide) (by decide) (by decide) (by decide) (by decide))
        have ed : bcN (am_up g1 22 20 (am_lcg (g1 22 20)) 23 (wS F (xQ F y0 f) t).2) 20 = degF F (wS F (xQ F y0 f) t).2 + 1 := by
          rw [M2.2.1.cnt hz, J2 _ hz, nbC_F hz (ok _ hz).1 8 (by omega), degF]
        rw [ed, nI_pred]
        refine m_draw_y (ok.deg hz).2.1 (by have := (ok.deg hz).2.2; omega) (fun k hk ek => ?_)
        rw [am_up_us, s1] at ek
        refine am_run_k 1 (am_cl ?_)
        refine m_joinedTo_x (F := F) (J2.of (am_up_ne (by decide))) ok hz hk ?_
        have ew2 : wS F (xQ F y0 f) (t + 1) = (am_lcg (am_lcg (wS F (xQ F y0 f) t).1), nthF F (wS F (xQ F y0 f) t).2 k) := by
          rw [ew, wst, ← ej, decide_eq_false hj0, ek]; rfl
        exact s98 _ _ _ (by rw [ew2]) (M2.u22 (Or.inl rfl)) (fun k hk => by rw [am_up_ne hk, am_up_ne hk]) (fun i hi => by rw [am_up_un hi, am_up_un hi]) (by rw [ew2, am_up_us, am_up_us, s1])
      · have hj0 : j = 0 := by
          first
            | exact (nI_eq (by omega) (by decide)).mp (show nI j = nI 0 from h7)
            | exact (nI_eq (by omega) (by decide)).mp (show nI j = nI 0 from rdr h7)
        refine am_run_k 2 ?_
        refine am_run_k 10 (And.intro (fun hx => absurd hx ((by decide))) (fun h8 => ?_))
        refine am_run_k 2 ?_
        have ew2 : wS F (xQ F y0 f) (t + 1) = (am_lcg (wS F (xQ F y0 f) t).1, (wS F (xQ F y0 f) t).2) := by
          rw [ew, wst, ← ej, decide_eq_true hj0]; rfl
        exact s98 _ _ _ (by rw [ew2]) M1' (fun k hk => am_up_ne hk) (fun i hi => am_up_un hi) (by rw [ew2, am_up_us, s1])
  have out : ∀ (m f : Nat) (x : Int32) (l2 l3 l4 : Option Value) (g1 : am_G), f + m = 4 → x = nI f → MK g0 g1 c (10 * f) → fL g g1 → (∀ i, i ≠ 20 → g1 22 i = g 22 i) → (∀ q, q < f → ∀ t, t < 10 → g1 34 (10 * q + t) = nI (wS F (xQ F y0 q) t).2) → g1 22 20 = xQ F y0 f → am (d + 1) 132 2 [some (.ref 22), some (.int x), l2, l3, l4] [] LY g1 0 0 none Q := by
    intro m
    induction m with
    | zero =>
      intro f x l2 l3 l4 g1 hf hx M1 L1 o1 r1 s1
      have hf : f = 4 := by omega
      subst hf; subst hx
      refine am_run_k 3 (And.intro (fun h6 => ?_) (fun hx => absurd ((show nI 4 ≤ nI 4 from nI_le (Nat.le_refl 4) (by decide))) hx))
      refine am_run_k 1 ?_
      exact h g1 M1 L1 o1 r1 s1
    | succ m ih =>
      intro f x l2 l3 l4 g1 hf hx M1 L1 o1 r1 s1
      subst hx
      refine am_run_k 3 (And.intro (fun hx => absurd hx ((nI_ge (b := 4) (by omega) (by decide)))) (fun h6 => ?_))
      refine am_run_k 8 (am_cl ?_)
      refine m_draw_y (k := 8) (by decide) (by decide) (fun j hj ej => ?_)
      rw [s1] at ej
      have ew : wS F (xQ F y0 f) 0 = (am_lcg (xQ F y0 f), j) := by rw [wS, ej]
      refine am_run_k 1 (And.intro (vpe (nIt10 f) (by omega)) ?_)
      rw [cle (nIt10 f) (by omega)]
      refine am_run_k 2 ?_
      refine inn f (by omega) (fun g2 l3 l4 M2 L2 o2 r2 s2 => ?_) 9 0 _ _ _ _ rfl rfl ((M1.u22 (Or.inl rfl)).next hj) (L1.tr ((fL.u22 (Or.inl rfl)).tr fL.way)) (fun i hi => by rw [am_up_ne (by decide), am_up_un hi]; exact o1 i hi) (fun q hq t ht => by rw [am_up_un (by omega), am_up_ne (by decide)]; exact r1 q hq t ht) (fun j2 hj2 => ?_) ?_
      · refine am_run_k 2 ?_
        exact ih (f + 1) _ _ _ _ g2 (by omega) (nI_1 f) M2 L2 o2 r2 s2
      · have e : j2 = 0 := by omega
        subst e
        rw [ew]; exact am_up_us
      · rw [am_up_ne (by decide), am_up_us, s1, ew]
  refine am_run_k 2 ?_
  exact out 4 0 _ _ _ _ g rfl rfl M fL.rf (fun i _ => rfl) (fun q hq => absurd hq (by omega)) (by rw [s0, xQ])
end MMA
