section MAK
variable {d : Nat} {L : am_L} {g : am_G} {bc bs : Nat} {sx : am_S} {Q : am_Q}
def am_lcg (x : Int32) : Int32 := x * 1103515245 + 12345
def am_hi (x : Int32) : Int32 := (x.toUInt32 >>> ((16 : Int32).toUInt32 &&& Int32.toUInt32 31)).toInt32
theorem am_hi_nI (x : Int32) : ∃ q, q < 65536 ∧ am_hi x = nI q := by
  have h := pk_ushr x 16 16 (by decide)
  have hx := x.toBitVec.isLt
  refine ⟨x.toBitVec.toNat / 2 ^ 16, by omega, ?_⟩
  unfold am_hi
  apply Int32.toBitVec_inj.mp
  apply BitVec.eq_of_toNat_eq
  rw [h, pk_tn (by omega)]
theorem am_dr_nI {x : Int32} {k : Nat} (h0 : 0 < k) (hk : k < 2 ^ 31) : ∃ j, j < k ∧ am_hi x - am_hi x / nI k * nI k = nI j := by
  obtain ⟨q, hq, e⟩ := am_hi_nI x
  rw [e, pk_rem (by omega) h0 hk]
  exact ⟨q % k, Nat.mod_lt _ h0, rfl⟩
theorem w_draw {k : Nat} (h0 : 0 < k) (hk : k < 2 ^ 31) (h : ∀ j, j < k → am_hi (am_lcg (g 15 1)) - am_hi (am_lcg (g 15 1)) / nI k * nI k = nI j → Q (some (.int (nI j))) LY (am_up g 15 1 (am_lcg (g 15 1)))) : am d 10 0 [some (.ref 15), some (.int (nI k))] [] LY g 0 0 none Q := by
  refine am_run_k 10 (And.intro (fun hx => absurd hx ((nI_nle h0 hk))) (fun h6 => ?_))
  refine am_run_k 6 (And.intro (nI_ne0 h0 hk) ?_)
  refine am_run_k 2 ?_
  obtain ⟨j, hj, e⟩ := am_dr_nI (x := am_lcg (g 15 1)) h0 hk
  have hh := h j hj e
  rw [← e] at hh
  refine am_fin hh rfl ?_
  rw [am_up_us]
  rfl
theorem w_drawA {m : Int32} (h : ∀ r, Q (some (.int r)) LY (am_up g 15 1 (am_lcg (g 15 1)))) : am d 10 0 [some (.ref 15), some (.int m)] [] LY g 0 0 none Q := by
  refine am_run_k 10 (And.intro (fun h6 => ?_) (fun h6 => ?_))
  · refine am_run_k 2 ?_
    exact h _
  · refine am_run_k 6 (And.intro (fun q => h6 (by rw [q]; decide)) ?_)
    refine am_run_k 2 ?_
    exact h _
theorem w_at {i t : Nat} (hi : i < 4) (ht : t < 10) (h : Q (some (.int (g 16 (i * 10 + t)))) LY g) : am d 11 0 [some (.ref 15), some (.int (nI i)), some (.int (nI t))] [] LY g 0 0 none Q := by
  refine am_run_k 8 (And.intro (vpe nIx10 (by omega)) ?_)
  refine am_run_k 1 ?_
  rw [cle nIx10 (by omega)]
  exact h
def P8 (g : am_G) (i : Nat) : Prop := ∃ p, p < 8 ∧ g 16 i = nI p
theorem P8.up {i j p : Nat} (h : P8 g i) (hp : p < 8) : P8 (am_up g 16 j (nI p)) i := by
  by_cases e : i = j
  · exact ⟨p, hp, by rw [e, am_up_us]⟩
  · obtain ⟨q, hq, eq⟩ := h
    exact ⟨q, hq, by rw [am_up_un e]; exact eq⟩
theorem P8.new {j p : Nat} (hp : p < 8) : P8 (am_up g 16 j (nI p)) j := ⟨p, hp, am_up_us⟩
theorem P8.ne {k i j : Nat} {x : Int32} (hk : k ≠ 16) (h : P8 g i) : P8 (am_up g k j x) i := by
  obtain ⟨q, hq, eq⟩ := h
  exact ⟨q, hq, by rw [am_up_ne (Ne.symm hk)]; exact eq⟩
theorem P8.of {g' : am_G} {i : Nat} (h : P8 g i) (e : g' 16 = g 16) : P8 g' i := by unfold P8; rw [e]; exact h
theorem nbF_in {a : Int32} (ha : ∃ p, p < 8 ∧ a = nI p) : ∀ (n o : Nat) (left : Int32), o + n = 8 → ∃ p, p < 8 ∧ nbF g a n o left = nI p
  | 0, _, _, _ => ha
  | n + 1, o, left, h => by
    rw [nbF]
    cases am_hs (g 3 a.toNatClampNeg) (nI o) with
    | true =>
      cases decide (left = 0) with
      | true => exact ⟨o, by omega, rfl⟩
      | false => exact nbF_in ha n (o + 1) _ (by omega)
    | false => exact nbF_in ha n (o + 1) _ (by omega)
theorem spF_in {a b far : Int32} (ha : ∃ p, p < 8 ∧ a = nI p) : ∀ (n o : Nat), o + n = 8 → ∃ p, p < 8 ∧ spF g a b far n o = nI p
  | 0, _, _ => ha
  | n + 1, o, h => by
    rw [spF]
    cases am_hs (g 3 a.toNatClampNeg) (nI o) && decide (dbw g (nI o) b < far) with
    | true => exact ⟨o, by omega, rfl⟩
    | false => exact spF_in ha n (o + 1) (by omega)
theorem rem8 (a : Nat) (ha : a < 2 ^ 31) : nI a - nI a / 8 * 8 = nI (a % 8) := pk_rem (d := 8) ha (by decide) (by decide)
theorem l_12_31 {g0 : am_G} (h : ∀ g', (∀ k, k ≠ 2 → k ≠ 3 → k ≠ 4 → k ≠ 15 → g' k = g0 k) → Q none LY g') : ∀ (n k : Nat) (x : Int32) (a b : Option Value) (g : am_G), k + n = 2 → x = nI k → (∀ k, k ≠ 2 → k ≠ 3 → k ≠ 4 → k ≠ 15 → g k = g0 k) → am (d + 2) 12 31 [some (.ref 15), some (.ref 2), some (.int x), a, b] [] LY g 0 0 none Q := by
  intro n
  induction n with
  | zero =>
    intro k x a b g hk hx hg
    have hk : k = 2 := by omega
    subst hk; subst hx
    refine am_run_k 3 (And.intro (fun h6 => ?_) (fun hx => absurd ((show nI 2 ≤ nI 2 from nI_le (Nat.le_refl 2) (by decide))) hx))
    refine am_run_k 1 ?_
    exact h g hg
  | succ n ih =>
    intro k x a b g hk hx hg
    subst hx
    refine am_run_k 3 (And.intro (fun hx => absurd hx ((nI_ge (b := 2) (by omega) (by decide)))) (fun h6 => ?_))
    refine am_run_k 3 (am_cl ?_)
    refine w_draw (k := 8) (by decide) (by decide) (fun i hi _ => ?_)
    refine am_run_k 7 (am_cl ?_)
    refine w_draw (k := 5) (by decide) (by decide) (fun j hj _ => ?_)
    refine am_run_k 3 (And.intro (by decide) ?_)
    have e : nI i + 2 + nI j = nI (i + 2 + j) := by rw [nIp2]; exact nI_add _ _
    rw [e]
    have e2 := rem8 (i + 2 + j) (by omega)
    have hg2 : ∀ k, k ≠ 2 → k ≠ 3 → k ≠ 4 → k ≠ 15 → (am_up (am_up g 15 1 (am_lcg (g 15 1))) 15 1 (am_lcg (am_up g 15 1 (am_lcg (g 15 1)) 15 1))) k = g0 k := fun k h2 h3 h4 h15 => by rw [am_up_ne h15, am_up_ne h15]; exact hg k h2 h3 h4 h15
    refine am_run_k 5 (am_cl ?_)
    rw [show nI (i + 2 + j) - nI (i + 2 + j) / 8 * 8 = nI ((i + 2 + j) % 8) from e2]
    refine w_joined (vpn hi) ?_
    refine am_run_k 1 (And.intro (fun h7 => ?_) (fun h7 => ?_))
    · refine am_run_k 2 ?_
      exact ih (k + 1) _ _ _ _ (by omega) (nI_1 k) hg2
    · refine am_run_k 4 (am_cl ?_)
      refine w_join hi (Nat.mod_lt _ (by decide)) (fun g1 q1 q2 q3 q4 q5 => ?_)
      refine am_run_k 2 ?_
      exact ih (k + 1) _ _ _ g1 (by omega) (nI_1 k) (fun k h2 h3 h4 h15 => by rw [q1 k h2 h3 h4]; exact hg2 k h2 h3 h4 h15)
theorem l_12_6 {g0 : am_G} (h : ∀ (g' : am_G) (x : Int32), (∀ k, k ≠ 2 → k ≠ 3 → k ≠ 4 → k ≠ 15 → g' k = g0 k) → am (d + 2) 12 29 [some (.ref 15), some (.ref 2), some (.int x), none, none] [] LY g' 0 0 none Q) : ∀ (n k : Nat) (x : Int32) (g : am_G), k + n = 8 → x = nI k → (∀ k, k ≠ 2 → k ≠ 3 → k ≠ 4 → k ≠ 15 → g k = g0 k) → am (d + 2) 12 6 [some (.ref 15), some (.ref 2), some (.int x), none, none] [] LY g 0 0 none Q := by
  intro n
  induction n with
  | zero =>
    intro k x g hk hx hg
    have hk : k = 8 := by omega
    subst hk; subst hx
    refine am_run_k 3 (And.intro (fun h6 => ?_) (fun hx => absurd ((show nI 8 ≤ nI 8 from nI_le (Nat.le_refl 8) (by decide))) hx))
    exact h g _ hg
  | succ n ih =>
    intro k x g hk hx hg
    subst hx
    refine am_run_k 3 (And.intro (fun hx => absurd hx ((nI_ge (b := 8) (by omega) (by decide)))) (fun h6 => ?_))
    refine am_run_k 7 (And.intro (by decide) ?_)
    rw [nI_1]
    have e2 := rem8 (k + 1) (by omega)
    refine am_run_k 1 (am_cl ?_)
    rw [show nI (k + 1) - nI (k + 1) / 8 * 8 = nI ((k + 1) % 8) from e2]
    refine w_join (i := k) (by omega) (Nat.mod_lt _ (by decide)) (fun g1 q1 q2 q3 q4 q5 => ?_)
    refine am_run_k 2 ?_
    exact ih (k + 1) _ g1 (by omega) (nI_1 k) (fun k h2 h3 h4 h15 => by rw [q1 k h2 h3 h4]; exact hg k h2 h3 h4 h15)
theorem w_build (h : ∀ g', (∀ k, k ≠ 2 → k ≠ 3 → k ≠ 4 → k ≠ 15 → g' k = g k) → Q none LY g') : am (d + 2) 12 0 [some (.ref 15), some (.ref 2), none, none, none] [] LY g 0 0 none Q := by
  refine am_run_k 2 (am_cl ?_)
  refine w_clearDoors_LY (fun g1 q1 q2 q3 q4 => ?_)
  refine am_run_k 2 ?_
  refine l_12_6 (g0 := g) (fun g2 x2 hg2 => ?_) 8 0 0 g1 rfl rfl (fun k h2 h3 h4 _ => q1 k h2 h3 h4)
  refine am_run_k 2 ?_
  exact l_12_31 (g0 := g) h 2 0 0 _ _ g2 rfl rfl hg2
theorem l_13_20 {w : Nat} {g0 : am_G} (hw : w < 4) (h : ∀ g', (∀ k, k ≠ 15 → k ≠ 16 → g' k = g0 k) → (∀ i, P8 g0 i → P8 g' i) → (∀ j, j < 10 → P8 g' (w * 10 + j)) → Q none LY g') : ∀ (n t : Nat) (x pl : Int32) (g : am_G), t + n = 10 → x = nI t → (∃ p, p < 8 ∧ pl = nI p) → (∀ k, k ≠ 15 → k ≠ 16 → g k = g0 k) → (∀ i, P8 g0 i → P8 g i) → (∀ j, j < t → P8 g (w * 10 + j)) → am (d + 3) 13 20 [some (.ref 15), some (.ref 2), some (.int (nI w)), some (.int pl), some (.int x)] [] LY g 0 0 none Q := by
  intro n
  induction n with
  | zero =>
    intro t x pl g ht hx hp h1 h2 h3
    have ht : t = 10 := by omega
    subst ht; subst hx
    refine am_run_k 3 (And.intro (fun h6 => ?_) (fun hx => absurd ((show nI 10 ≤ nI 10 from nI_le (Nat.le_refl 10) (by decide))) hx))
    refine am_run_k 1 ?_
    exact h g h1 h2 h3
  | succ n ih =>
    intro t x pl g ht hx hp h1 h2 h3
    subst hx
    refine am_run_k 3 (And.intro (fun hx => absurd hx ((nI_ge (b := 10) (by omega) (by decide)))) (fun h6 => ?_))
    have tail : ∀ (pl2 : Int32) (g1 : am_G), (∃ p, p < 8 ∧ pl2 = nI p) → (∀ k, k ≠ 15 → g1 k = g k) → am (d + 3) 13 54 [some (.ref 15), some (.ref 2), some (.int (nI w)), some (.int pl2), some (.int (nI t))] [] LY g1 0 0 none Q := by
      intro pl2 g1 hp2 hg1
      refine am_run_k 9 (And.intro (vpe nIx10 (by omega)) ?_)
      refine am_run_k 2 ?_
      rw [cle nIx10 (by omega)]
      obtain ⟨p, hp, rfl⟩ := hp2
      refine ih (t + 1) _ _ _ (by omega) (nI_1 t) ⟨p, hp, rfl⟩ (fun k h15 h16 => ?_) (fun i hi => ?_) (fun j hj => ?_)
      · rw [am_up_ne h16, hg1 k h15]; exact h1 k h15 h16
      · exact ((h2 i hi).of (hg1 16 (by decide))).up hp
      · by_cases e : j = t
        · rw [e]; exact P8.new hp
        · exact ((h3 j (by omega)).of (hg1 16 (by decide))).up hp
    refine am_run_k 3 (am_cl ?_)
    refine w_draw (k := 3) (by decide) (by decide) (fun j hj _ => ?_)
    refine am_run_k 1 (And.intro (fun h7 => ?_) (fun h7 => ?_))
    · exact tail pl _ hp (fun k hk => am_up_ne hk)
    · obtain ⟨p, hp8, ep⟩ := id hp
      refine am_run_k 7 (And.intro (vpe ep (by omega)) ?_)
      refine am_run_k 1 (am_cl ?_)
      refine w_bitCount ?_
      refine am_run_k 1 (am_cl ?_)
      refine w_drawA (fun r => ?_)
      refine am_run_k 1 (am_cl ?_)
      refine w_neighbour (vpe ep hp8) ?_
      refine am_run_k 1 ?_
      exact tail _ _ (nbF_in hp 8 0 r rfl) (fun k hk => by rw [am_up_ne hk, am_up_ne hk])
theorem w_wander {w : Nat} (hw : w < 4) (h : ∀ g', (∀ k, k ≠ 15 → k ≠ 16 → g' k = g k) → (∀ i, P8 g i → P8 g' i) → (∀ j, j < 10 → P8 g' (w * 10 + j)) → Q none LY g') : am (d + 3) 13 0 [some (.ref 15), some (.ref 2), some (.int (nI w)), none, none] [] LY g 0 0 none Q := by
  refine am_run_k 3 (am_cl ?_)
  refine w_draw (k := 8) (by decide) (by decide) (fun p hp _ => ?_)
  refine am_run_k 8 (And.intro (vpe (nIm10 w) (by omega)) ?_)
  refine am_run_k 2 ?_
  rw [cle (nIm10 w) (by omega)]
  refine l_13_20 (g0 := g) hw h 9 1 _ _ _ rfl rfl ⟨p, hp, rfl⟩ (fun k h15 h16 => by rw [am_up_ne h16, am_up_ne h15]) (fun i hi => (hi.ne (by decide)).up hp) (fun j hj => ?_)
  have e : j = 0 := by omega
  subst e
  exact P8.new hp
theorem l_14_22 {w th : Nat} {g0 : am_G} (hw : w < 4) (h : ∀ g', (∀ k, k ≠ 16 → g' k = g0 k) → (∀ i, P8 g0 i → P8 g' i) → Q none LY g') : ∀ (n t : Nat) (x pl : Int32) (g : am_G), t + n = 10 → x = nI t → (∃ p, p < 8 ∧ pl = nI p) → (∀ k, k ≠ 16 → g k = g0 k) → (∀ i, P8 g0 i → P8 g i) → am (d + 3) 14 22 [some (.ref 15), some (.ref 1), some (.int (nI w)), some (.int (nI th)), some (.int pl), some (.int x)] [] LY g 0 0 none Q := by
  intro n
  induction n with
  | zero =>
    intro t x pl g ht hx hp h1 h2
    have ht : t = 10 := by omega
    subst ht; subst hx
    refine am_run_k 3 (And.intro (fun h6 => ?_) (fun hx => absurd ((show nI 10 ≤ nI 10 from nI_le (Nat.le_refl 10) (by decide))) hx))
    refine am_run_k 1 ?_
    exact h g h1 h2
  | succ n ih =>
    intro t x pl g ht hx hp h1 h2
    subst hx
    refine am_run_k 3 (And.intro (fun hx => absurd hx ((nI_ge (b := 10) (by omega) (by decide)))) (fun h6 => ?_))
    obtain ⟨p, hp8, ep⟩ := id hp
    refine am_run_k 6 (am_cl ?_)
    refine w_stepTowards (vpe ep hp8) ?_
    refine am_run_k 10 (And.intro (vpe nIx10 (by omega)) ?_)
    refine am_run_k 2 ?_
    rw [cle nIx10 (by omega)]
    obtain ⟨p2, hp2, ep2⟩ := spF_in (g := g) (b := g 1 4) (far := dbw g pl (g 1 4)) hp 8 0 rfl
    have ep3 : spw g pl (g 1 4) = nI p2 := ep2
    rw [ep3]
    exact ih (t + 1) _ _ _ (by omega) (nI_1 t) ⟨p2, hp2, rfl⟩ (fun k h16 => by rw [am_up_ne h16]; exact h1 k h16) (fun i hi => (h2 i hi).up hp2)
theorem w_approach {w th : Nat} (hw : w < 4) (hth : th < 3) (hly : ∃ p, p < 8 ∧ g 8 th = nI p) (h : ∀ g', (∀ k, k ≠ 16 → g' k = g k) → (∀ i, P8 g i → P8 g' i) → Q none LY g') : am (d + 3) 14 0 [some (.ref 15), some (.ref 1), some (.int (nI w)), some (.int (nI th)), none, none] [] LY g 0 0 none Q := by
  obtain ⟨p, hp, ep⟩ := id hly
  refine am_run_k 4 (And.intro (vpn hth) ?_)
  rw [ncl (by omega)]
  refine am_run_k 8 (And.intro (vpe (nIm10 w) (by omega)) ?_)
  refine am_run_k 2 ?_
  rw [cle (nIm10 w) (by omega)]
  refine l_14_22 (g0 := g) hw h 9 1 _ _ _ rfl rfl hly (fun k h16 => am_up_ne h16) (fun i hi => ?_)
  rw [ep]
  exact hi.up hp
theorem l_15_44 {w : Nat} {aw : Int32} {t1 : Int32} {g0 : am_G} (hw : w < 4) (haw : ∃ p, p < 8 ∧ aw = nI p) (h : ∀ g', (∀ k, k ≠ 16 → g' k = g0 k) → (∀ i, P8 g0 i → P8 g' i) → Q none LY g') : ∀ (n t : Nat) (x : Int32) (g : am_G), t + n = 10 → x = nI t → (∀ k, k ≠ 16 → g k = g0 k) → (∀ i, P8 g0 i → P8 g i) → am (d + 3) 15 44 [some (.ref 15), some (.ref 1), some (.int (nI w)), some (.int t1), some (.int aw), some (.int x)] [] LY g 0 0 none Q := by
  intro n
  induction n with
  | zero =>
    intro t x g ht hx h1 h2
    have ht : t = 10 := by omega
    subst ht; subst hx
    refine am_run_k 3 (And.intro (fun h6 => ?_) (fun hx => absurd ((show nI 10 ≤ nI 10 from nI_le (Nat.le_refl 10) (by decide))) hx))
    refine am_run_k 1 ?_
    exact h g h1 h2
  | succ n ih =>
    intro t x g ht hx h1 h2
    subst hx
    refine am_run_k 3 (And.intro (fun hx => absurd hx ((nI_ge (b := 10) (by omega) (by decide)))) (fun h6 => ?_))
    refine am_run_k 9 (And.intro (vpe nIx10 (by omega)) ?_)
    refine am_run_k 2 ?_
    rw [cle nIx10 (by omega)]
    obtain ⟨p, hp, rfl⟩ := id haw
    exact ih (t + 1) _ _ (by omega) (nI_1 t) (fun k h16 => by rw [am_up_ne h16]; exact h1 k h16) (fun i hi => (h2 i hi).up hp)
theorem w_turnAway {w t : Nat} (hw : w < 4) (ht0 : 0 < t) (ht : t < 10) (e15 : g 1 5 = nI t) (e14 : ∃ p, p < 8 ∧ g 1 4 = nI p) (h8 : ∀ i, i < 40 → P8 g i) (h : ∀ g', (∀ k, k ≠ 16 → g' k = g k) → (∀ i, P8 g i → P8 g' i) → Q none LY g') : am (d + 3) 15 0 [some (.ref 15), some (.ref 1), some (.int (nI w)), none, none, none] [] LY g 0 0 none Q := by
  obtain ⟨t', rfl⟩ : ∃ t', t = t' + 1 := ⟨t - 1, by omega⟩
  refine am_run_k 7 (am_cl ?_)
  rw [e15, show nI (t' + 1) - 1 = nI t' from nI_pred t']
  refine w_at hw (by omega) ?_
  have tail : ∀ (a b : Int32), (∃ p, p < 8 ∧ b = nI p) → am (d + 3) 15 36 [some (.ref 15), some (.ref 1), some (.int (nI w)), some (.int a), none, none] [.int b] LY g 0 0 none Q := by
    intro a b hb
    refine am_run_k 4 ?_
    exact l_15_44 (g0 := g) hw hb h (10 - (t' + 1)) (t' + 1) _ g (by omega) e15 (fun k _ => rfl) (fun i hi => hi)
  refine am_run_k 5 (And.intro (fun h1 => ?_) (fun h1 => ?_))
  · obtain ⟨p, hp, ep⟩ := id e14
    refine am_run_k 6 (am_cl ?_)
    refine w_neighbour (vpe ep hp) ?_
    exact tail _ _ (nbF_in e14 8 0 0 rfl)
  · refine am_run_k 2 ?_
    exact tail _ _ (h8 _ (by omega))
theorem w_writePlace {kd : Int32} {w n : Nat} (hw : w < 4) (hkd : kd = 0 ∨ kd = 5) (hn : n < 20) (v : VC g) (e51 : g 5 1 = nI n) (h8 : ∀ i, i < 40 → P8 g i) (h : ∀ g', VC g' → g' 5 1 = nI (n + 1) → (∀ k, k ≠ 5 → k ≠ 6 → k ≠ 15 → g' k = g k) → Q none LY g') : am (d + 2) 18 0 [some (.ref 15), some (.ref 5), some (.int kd), some (.int (nI w)), none] [] LY g 0 0 none Q := by
  refine am_run_k 3 (am_cl ?_)
  refine w_draw (k := 10) (by decide) (by decide) (fun t ht _ => ?_)
  refine am_run_k 8 (am_cl ?_)
  refine w_at hw ht ?_
  refine am_run_k 3 (am_cl ?_)
  have v2 : VC (am_up g 15 1 (am_lcg (g 15 1))) := v.of (am_up_ne (by decide)) (am_up_ne (by decide)) (am_up_ne (by decide)) (am_up_ne (by decide))
  have f51 : (am_up g 15 1 (am_lcg (g 15 1))) 5 1 = nI n := by rw [am_up_ne (by decide)]; exact e51
  refine w_add hn f51 ?_
  refine am_run_k 1 ?_
  obtain ⟨p, hp, ep⟩ := h8 (w * 10 + t) (by omega)
  rw [am_up_ne (show 16 ≠ 15 by decide), ep]
  refine h _ (v2.add hn f51 ?_) (by unfold am_add; rw [am_up_us]) (fun k h5 h6 h15 => by rw [am_add_ne h5 h6, am_up_ne h15])
  have nm : am_nm kd = 3 := by rcases hkd with e | e <;> rw [e] <;> decide
  refine Or.inr (Or.inr (Or.inr ⟨by rcases hkd with e | e <;> rw [e] <;> simp, ⟨w, by omega, rfl⟩, ⟨p, hp, ?_⟩, ⟨t, ht, ?_⟩⟩))
  · unfold am_kb; rw [nm, if_neg (by decide)]
  · unfold am_kc; rw [nm, if_neg (by decide)]
end MAK
