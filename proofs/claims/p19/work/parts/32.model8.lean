section MOK
variable {d : Nat} {L : am_L} {g : am_G} {bc bs : Nat} {sx : am_S} {Q : am_Q}
theorem m_draw {k : Nat} (h0 : 0 < k) (hk : k < 2 ^ 31) (h : ∀ j, j < k → am_hi (am_lcg (g 22 20)) - am_hi (am_lcg (g 22 20)) / nI k * nI k = nI j → Q (some (.int (nI j))) LY (am_up g 22 20 (am_lcg (g 22 20)))) : am d 128 0 [some (.ref 22), some (.int (nI k))] [] LY g 0 0 none Q := by
  refine am_run_k 14 (And.intro (nI_ne0 h0 hk) ?_)
  refine am_run_k 1 ?_
  obtain ⟨j, hj, e⟩ := am_dr_nI (x := am_lcg (g 22 20)) h0 hk
  have hh := h j hj e
  rw [← e] at hh
  refine am_fin hh rfl ?_
  rw [am_up_us]
  rfl
/-- the places joined to a place, itself left out, counted -/
def nbC (x : Int32) (p : Nat) : Nat → Nat
  | 0 => 0
  | q + 1 => nbC x p q + (if q ≠ p ∧ bt x q = true then 1 else 0)
theorem nbC_mono {x : Int32} {p : Nat} : ∀ {a b : Nat}, a ≤ b → nbC x p a ≤ nbC x p b := by
  intro a b h
  induction h with
  | refl => exact Nat.le_refl _
  | step _ ih => exact Nat.le_trans ih (by rw [nbC]; omega)
theorem nbC_lt {x : Int32} {p a b : Nat} (h : a < b) (h1 : a ≠ p) (h2 : bt x a = true) : nbC x p a < nbC x p b := by
  have := nbC_mono (x := x) (p := p) (show a + 1 ≤ b from h)
  rw [nbC, if_pos ⟨h1, h2⟩] at this
  omega
theorem m_joinedTo {p k : Nat} (hp : p < 8) (hk : k < nbC (g 23 p) p 8) (h : ∀ q, q < 8 → q ≠ p → bt (g 23 p) q = true → nbC (g 23 p) p q = k → Q (some (.int (nI q))) LY g) {l3 l4 : Option Value} : am d 129 0 [some (.ref 22), some (.int (nI p)), some (.int (nI k)), l3, l4] [] LY g 0 0 none Q := by
  have hk8 : k < 8 := by
    have : ∀ n, nbC (g 23 p) p n ≤ n := by
      intro n
      induction n with
      | zero => exact Nat.le_refl 0
      | succ n ih => rw [nbC]; split <;> omega
    have := this 8
    omega
  have lp : ∀ (m q : Nat) (x left : Int32), q + m = 8 → x = nI q → nbC (g 23 p) p q ≤ k → left = nI (k - nbC (g 23 p) p q) → am d 129 5 [some (.ref 22), some (.int (nI p)), some (.int (nI k)), some (.int left), some (.int x)] [] LY g 0 0 none Q := by
    intro m
    induction m with
    | zero =>
      intro q x left hq hx hle hl
      have hq : q = 8 := by omega
      subst hq
      omega
    | succ m ih =>
      intro q x left hq hx hle hl
      subst hx; subst hl
      refine am_run_k 3 (And.intro (fun hx => absurd hx ((nI_ge (b := 8) (by omega) (by decide)))) (fun h6 => ?_))
      refine am_run_k 3 (And.intro (fun h1 => ?_) (fun h1 => ?_))
      · refine am_run_k 2 ?_
        have hqp : q = p := (nI_eq (by omega) (by omega)).mp h1
        have e : nbC (g 23 p) p (q + 1) = nbC (g 23 p) p q := by rw [nbC, if_neg (fun z => z.1 hqp), Nat.add_zero]
        exact ih (q + 1) _ _ (by omega) (nI_1 q) (by rw [e]; exact hle) (by rw [e])
      · have hqp : q ≠ p := fun e => h1 (by rw [e])
        refine am_run_k 4 (And.intro (vpn hp) ?_)
        rw [ncl (by omega)]
        refine am_run_k 6 (And.intro (fun h2 => ?_) (fun h2 => ?_))
        · rw [bit01 (by omega)] at h2
          refine am_run_k 2 ?_
          have e : nbC (g 23 p) p (q + 1) = nbC (g 23 p) p q := by
            rw [nbC, if_neg (fun z => h2 (by rw [z.2]; rfl)), Nat.add_zero]
          exact ih (q + 1) _ _ (by omega) (nI_1 q) (by rw [e]; exact hle) (by rw [e])
        · rw [bit01 (by omega)] at h2
          have hbt : bt (g 23 p) q = true := by
            cases hb : bt (g 23 p) q with
            | true => rfl
            | false => rw [hb] at h2; first | exact absurd h2 (by decide) | exact absurd (Classical.not_not.mp h2) (by decide)
          have e : nbC (g 23 p) p (q + 1) = nbC (g 23 p) p q + 1 := by rw [nbC, if_pos ⟨hqp, hbt⟩]
          refine am_run_k 2 (And.intro (fun h3 => ?_) (fun h3 => ?_))
          · have hne : nbC (g 23 p) p q ≠ k := fun z => h3 (by rw [z, Nat.sub_self]; rfl)
            refine am_run_k 3 ?_
            refine ih (q + 1) _ _ (by omega) (nI_1 q) (by omega) ?_
            rw [e, show k - nbC (g 23 p) p q = (k - (nbC (g 23 p) p q + 1)) + 1 by omega, ← Int32.sub_eq_add_neg, nI_pred]
          · refine am_run_k 2 ?_
            have h3 : nI (k - nbC (g 23 p) p q) = 0 := by first | exact h3 | exact Classical.not_not.mp h3
            have : k - nbC (g 23 p) p q = 0 := (nI_eq (by omega) (by decide)).mp (show nI (k - nbC (g 23 p) p q) = nI 0 from h3)
            exact h q (by omega) hqp hbt (by omega)
  refine am_run_k 4 ?_
  exact lp 8 0 _ _ rfl rfl (Nat.zero_le k) rfl
/-- reached by that many doors, with a stay in each -/
def bl (g : am_G) : Nat → Nat → Nat → Prop
  | 0, a, b => a = b
  | n + 1, a, b => ∃ p, p < 8 ∧ bl g n a p ∧ bt (g 23 p) b = true
theorem bl_first {a : Nat} : ∀ {n c : Nat}, c < 8 → bl g (n + 1) a c → ∃ b, b < 8 ∧ bt (g 23 a) b = true ∧ bl g n b c := by
  intro n
  induction n with
  | zero =>
    intro c hc h
    obtain ⟨p, hp, h1, h2⟩ := h
    exact ⟨c, hc, by rw [show a = p from h1]; exact h2, rfl⟩
  | succ n ih =>
    intro c hc h
    obtain ⟨p, hp, h1, h2⟩ := h
    obtain ⟨b, hb, h3, h4⟩ := ih hp h1
    exact ⟨b, hb, h3, p, hp, h4, h2⟩
/-- the house as made: each place with itself, by a ring, and no more than eight of them -/
def HB (g : am_G) (k : Nat) : Prop := JN g ∧ (∀ p, p < 8 → bt (g 23 p) p = true) ∧ (∀ p, p < 8 → ∀ q, 8 ≤ q → q < 32 → bt (g 23 p) q = false) ∧ ∀ p, p < k → bt (g 23 p) ((p + 1) % 8) = true
theorem HB.of {g' : am_G} {k : Nat} (h : HB g k) (e : g' 23 = g 23) : HB g' k := by unfold HB JN at *; rw [e]; exact h
theorem bl_ring (H : HB g 8) {a : Nat} (ha : a < 8) : ∀ i, bl g i a ((a + i) % 8) := by
  intro i
  induction i with
  | zero => exact (Nat.mod_eq_of_lt ha).symm
  | succ i ih =>
    refine ⟨(a + i) % 8, Nat.mod_lt _ (by decide), ih, ?_⟩
    have := H.2.2.2 ((a + i) % 8) (Nat.mod_lt _ (by decide))
    rw [show ((a + i) % 8 + 1) % 8 = (a + (i + 1)) % 8 by omega] at this
    exact this
theorem bl_ex (H : HB g 8) {a b : Nat} (ha : a < 8) (hb : b < 8) : ∃ i, i < 8 ∧ bl g i a b := by
  refine ⟨(b + 8 - a) % 8, Nat.mod_lt _ (by decide), ?_⟩
  have := bl_ring H ha ((b + 8 - a) % 8)
  rw [show (a + (b + 8 - a) % 8) % 8 = b by omega] at this
  exact this
theorem m_doorsFrom {a b i0 : Nat} (ha : a < 8) (hb : b < 8) (hi : bl g i0 a b) (hi0 : i0 < 100) (h : ∀ n, n ≤ i0 → bl g n a b → (∀ m, m < n → ¬ bl g m a b) → Q (some (.int (nI n))) LY g) {l3 l4 : Option Value} : am (d + 1) 130 0 [some (.ref 22), some (.int (nI a)), some (.int (nI b)), l3, l4] [] LY g 0 0 none Q := by
  have lp : ∀ (m n : Nat) (x set : Int32), n + m = i0 → x = nI n → (∀ q, q < 32 → (bt set q = true ↔ bl g n a q)) → (∀ j, j < n → ¬ bl g j a b) → am (d + 1) 130 7 [some (.ref 22), some (.int (nI a)), some (.int (nI b)), some (.int set), some (.int x)] [] LY g 0 0 none Q := by
    intro m
    induction m with
    | zero =>
      intro n x set hn hx hs hj
      have hn : n = i0 := by omega
      subst hn; subst hx
      have hbt := (hs b (by omega)).mpr hi
      refine am_run_k 6 (And.intro (fun h6 => ?_) (fun hx => absurd hx ((fun z => absurd ((bt_z (by omega)).mp z) (by rw [hbt]; decide)))))
      refine am_run_k 2 ?_
      exact h n (Nat.le_refl n) hi hj
    | succ m ih =>
      intro n x set hn hx hs hj
      subst hx
      refine am_run_k 6 (And.intro (fun h6 => ?_) (fun h6 => ?_))
      · refine am_run_k 2 ?_
        rw [bt_z (by omega)] at h6
        have hbt : bt set b = true := by simpa using h6
        exact h n (by omega) ((hs b (by omega)).mp hbt) hj
      · have h6 : (set >>> (nI b &&& 31)) &&& 1 = 0 := by first | exact h6 | exact Classical.not_not.mp h6
        have hbf := (bt_z (by omega)).mp h6
        refine am_run_k 3 (am_cl ?_)
        refine m_around (fun r hr => ?_)
        refine am_run_k 3 ?_
        refine ih (n + 1) _ _ (by omega) (nI_1 n) (fun q hq => ?_) (fun j hjn => ?_)
        · rw [hr q hq]
          constructor
          · rintro ⟨p, hp, h1, h2⟩; exact ⟨p, hp, (hs p (by omega)).mp h1, h2⟩
          · rintro ⟨p, hp, h1, h2⟩; exact ⟨p, hp, (hs p (by omega)).mpr h1, h2⟩
        · rcases Nat.lt_succ_iff_lt_or_eq.mp hjn with e | e
          · exact hj j e
          · subst e
            intro z
            rw [(hs b (by omega)).mpr z] at hbf
            exact absurd hbf (by decide)
  refine am_run_k 6 ?_
  refine lp i0 0 _ _ (by omega) rfl (fun q hq => ?_) (fun j hj => absurd hj (by omega))
  show bt (am_sh (nI a)) q = true ↔ a = q
  rw [b_sh hq (by omega), decide_eq_true_iff]
  exact ⟨Eq.symm, Eq.symm⟩
theorem HB.join {a b k : Nat} (H : HB g k) (hk : k ≤ 8) (ha : a < 8) (hb : b < 8) (hab : a ≠ b) : HB (jnA g a b) k := by
  refine ⟨jnA_JN ha hb hab H.1, fun p hp => ?_, fun p hp q h1 h2 => ?_, fun p hp => ?_⟩
  · rw [jnA_bt ha hb (by omega) hab, H.2.1 p hp]; rfl
  · rw [jnA_bt ha hb h2 hab, H.2.2.1 p hp q h1 h2, decide_eq_false (show ¬ q = b by omega), decide_eq_false (show ¬ q = a by omega)]
    simp
  · rw [jnA_bt ha hb (by omega) hab, H.2.2.2 p hp]; rfl
theorem HB.ring {k : Nat} (H : HB g k) (hk : k < 8) : HB (jnA g k ((k + 1) % 8)) (k + 1) := by
  have h1 := H.join (by omega) (show k < 8 from hk) (show (k + 1) % 8 < 8 by omega) (show k ≠ (k + 1) % 8 by omega)
  refine ⟨h1.1, h1.2.1, h1.2.2.1, fun p hp => ?_⟩
  rcases Nat.lt_succ_iff_lt_or_eq.mp hp with e | e
  · exact h1.2.2.2 p e
  · subst e
    rw [jnA_bt hk (by omega) (by omega) (by omega)]
    simp
/-- what makeHouse leaves as it was -/
def fr3 (g0 g : am_G) : Prop := (∀ k, k ≠ 22 → k ≠ 23 → k ≠ 24 → g k = g0 k) ∧ ∀ i, i ≠ 0 → i ≠ 1 → i ≠ 20 → g 22 i = g0 22 i
theorem fr3.rf : fr3 g g := ⟨fun _ _ _ _ => rfl, fun _ _ _ _ => rfl⟩
theorem fr3.tr {g0 g1 g2 : am_G} (h : fr3 g0 g1) (h2 : fr3 g1 g2) : fr3 g0 g2 := ⟨fun k a b c => (h2.1 k a b c).trans (h.1 k a b c), fun i a b c => (h2.2 i a b c).trans (h.2 i a b c)⟩
theorem fr3.u23 {i : Nat} {x : Int32} : fr3 g (am_up g 23 i x) := ⟨fun k _ b _ => am_up_ne b, fun i _ _ _ => by rw [am_up_ne (by decide)]⟩
theorem fr3.u24 {i : Nat} {x : Int32} : fr3 g (am_up g 24 i x) := ⟨fun k _ _ c => am_up_ne c, fun i _ _ _ => by rw [am_up_ne (by decide)]⟩
theorem fr3.u22 {i : Nat} {x : Int32} (h : i = 0 ∨ i = 1 ∨ i = 20) : fr3 g (am_up g 22 i x) := ⟨fun k a _ _ => am_up_ne a, fun j _ _ _ => am_up_un (by omega)⟩
theorem fr3.jn {a b : Nat} : fr3 g (jnA g a b) := ⟨fun k a b _ => jnA_ne a b, fun i _ b _ => jnA_22 b⟩
theorem m_makeHouse {l1 l2 l3 : Option Value} (h : ∀ g', fr3 g g' → HB g' 8 → TH g' → g' 22 0 = nI 4 → Q none LY g') : am (d + 1) 131 0 [some (.ref 22), l1, l2, l3] [] LY g 0 0 none Q := by
  -- the things
  have things : ∀ (m k : Nat) (x : Int32) (l2 l3 : Option Value) (g1 : am_G), k + m = 3 → x = nI k → fr3 g g1 → HB g1 8 → g1 22 0 = nI 4 → (∀ w, w < k → ∃ z, z < 8 ∧ g1 24 w = nI z) → am (d + 1) 131 112 [some (.ref 22), some (.int x), l2, l3] [] LY g1 0 0 none Q := by
    intro m
    induction m with
    | zero =>
      intro k x l2 l3 g1 hk hx f H e0 ht
      have hk : k = 3 := by omega
      subst hk; subst hx
      refine am_run_k 3 (And.intro (fun h6 => ?_) (fun hx => absurd ((show nI 3 ≤ nI 3 from nI_le (Nat.le_refl 3) (by decide))) hx))
      refine am_run_k 1 ?_
      exact h g1 f H ht e0
    | succ m ih =>
      intro k x l2 l3 g1 hk hx f H e0 ht
      subst hx
      refine am_run_k 3 (And.intro (fun hx => absurd hx ((nI_ge (b := 3) (by omega) (by decide)))) (fun h6 => ?_))
      refine am_run_k 6 (am_cl ?_)
      refine m_draw (k := 8) (by decide) (by decide) (fun j hj _ => ?_)
      refine am_run_k 1 (And.intro (vpn (by omega)) ?_)
      rw [ncl (by omega)]
      refine am_run_k 2 ?_
      refine ih (k + 1) _ _ _ _ (by omega) (nI_1 k) ((f.tr (fr3.u22 (Or.inr (Or.inr rfl)))).tr fr3.u24) (H.of (by rw [am_up_ne (by decide), am_up_ne (by decide)])) (by rw [am_up_ne (by decide), am_up_un (by decide)]; exact e0) (fun w hw => ?_)
      by_cases e : w = k
      · exact ⟨j, hj, by rw [e, am_up_us]⟩
      · obtain ⟨z, hz, ez⟩ := ht w (by omega)
        exact ⟨z, hz, by rw [am_up_un e, am_up_ne (by decide)]; exact ez⟩
  -- the further doors
  have doors : ∀ (m k : Nat) (x : Int32) (l2 l3 : Option Value) (g1 : am_G), k + m = 2 → x = nI k → fr3 g g1 → HB g1 8 → g1 22 0 = nI 4 → am (d + 1) 131 60 [some (.ref 22), some (.int x), l2, l3] [] LY g1 0 0 none Q := by
    intro m
    induction m with
    | zero =>
      intro k x l2 l3 g1 hk hx f H e0
      have hk : k = 2 := by omega
      subst hk; subst hx
      refine am_run_k 3 (And.intro (fun h6 => ?_) (fun hx => absurd ((show nI 2 ≤ nI 2 from nI_le (Nat.le_refl 2) (by decide))) hx))
      refine am_run_k 2 ?_
      exact things 3 0 _ _ _ g1 rfl rfl f H e0 (fun w hw => absurd hw (by omega))
    | succ m ih =>
      intro k x l2 l3 g1 hk hx f H e0
      subst hx
      refine am_run_k 3 (And.intro (fun hx => absurd hx ((nI_ge (b := 2) (by omega) (by decide)))) (fun h6 => ?_))
      refine am_run_k 3 (am_cl ?_)
      refine m_draw (k := 8) (by decide) (by decide) (fun p hp _ => ?_)
      refine am_run_k 7 (am_cl ?_)
      refine m_draw (k := 5) (by decide) (by decide) (fun j hj _ => ?_)
      have e2 : nI p + 2 + nI j = nI (p + 2 + j) := by rw [nIp2]; exact nI_add _ _
      refine am_run_k 3 (And.intro (show ¬ (8 : Int32) = 0 by decide) ?_)
      rw [e2, rem8 _ (by omega)]
      have H2 : HB (am_up (am_up g1 22 20 (am_lcg (g1 22 20))) 22 20 (am_lcg (am_up g1 22 20 (am_lcg (g1 22 20)) 22 20))) 8 := H.of (by rw [am_up_ne (by decide), am_up_ne (by decide)])
      have f2 : fr3 g (am_up (am_up g1 22 20 (am_lcg (g1 22 20))) 22 20 (am_lcg (am_up g1 22 20 (am_lcg (g1 22 20)) 22 20))) := (f.tr (fr3.u22 (Or.inr (Or.inr rfl)))).tr (fr3.u22 (Or.inr (Or.inr rfl)))
      have e02 : am_up (am_up g1 22 20 (am_lcg (g1 22 20))) 22 20 (am_lcg (am_up g1 22 20 (am_lcg (g1 22 20)) 22 20)) 22 0 = nI 4 := by rw [am_up_un (by decide), am_up_un (by decide)]; exact e0
      refine am_run_k 5 (And.intro (vpn hp) ?_)
      rw [ncl (by omega)]
      refine am_run_k 5 (And.intro (fun h7 => ?_) (fun h7 => ?_))
      · refine am_run_k 2 ?_
        exact ih (k + 1) _ _ _ _ (by omega) (nI_1 k) f2 H2 e02
      · have h7 : ((am_up (am_up g1 22 20 (am_lcg (g1 22 20))) 22 20 (am_lcg (am_up g1 22 20 (am_lcg (g1 22 20)) 22 20)) 23 p) >>> (nI ((p + 2 + j) % 8) &&& 31)) &&& 1 = 0 := by first | exact h7 | exact Classical.not_not.mp h7
        have hne : p ≠ (p + 2 + j) % 8 := by
          intro e
          have hb := (bt_z (by omega)).mp h7
          rw [← e, H2.2.1 p hp] at hb
          exact absurd hb (by decide)
        refine am_run_k 4 (am_cl ?_)
        refine m_join hp (by omega) ?_
        refine am_run_k 2 ?_
        exact ih (k + 1) _ _ _ _ (by omega) (nI_1 k) (f2.tr fr3.jn) (H2.join (by omega) hp (by omega) hne) (by rw [jnA_22 (by decide)]; exact e02)
  -- the ring
  have ring : ∀ (m k : Nat) (x : Int32) (l2 l3 : Option Value) (g1 : am_G), k + m = 8 → x = nI k → fr3 g g1 → HB g1 k → g1 22 0 = nI 4 → am (d + 1) 131 35 [some (.ref 22), some (.int x), l2, l3] [] LY g1 0 0 none Q := by
    intro m
    induction m with
    | zero =>
      intro k x l2 l3 g1 hk hx f H e0
      have hk : k = 8 := by omega
      subst hk; subst hx
      refine am_run_k 3 (And.intro (fun h6 => ?_) (fun hx => absurd ((show nI 8 ≤ nI 8 from nI_le (Nat.le_refl 8) (by decide))) hx))
      refine am_run_k 2 ?_
      exact doors 2 0 _ _ _ g1 rfl rfl f H e0
    | succ m ih =>
      intro k x l2 l3 g1 hk hx f H e0
      subst hx
      refine am_run_k 3 (And.intro (fun hx => absurd hx ((nI_ge (b := 8) (by omega) (by decide)))) (fun h6 => ?_))
      refine am_run_k 7 (And.intro (show ¬ (8 : Int32) = 0 by decide) ?_)
      rw [nI_1, rem8 _ (by omega)]
      refine am_run_k 1 (am_cl ?_)
      refine m_join (by omega) (by omega) ?_
      refine am_run_k 2 ?_
      exact ih (k + 1) _ _ _ _ (by omega) (nI_1 k) (f.tr fr3.jn) (H.ring (by omega)) (by rw [jnA_22 (by decide)]; exact e0)
  -- the places, each alone
  have alone : ∀ (m k : Nat) (x : Int32) (l2 l3 : Option Value) (g1 : am_G), k + m = 8 → x = nI k → fr3 g g1 → g1 22 0 = nI 4 → (∀ p, p < k → g1 23 p = am_sh (nI p)) → am (d + 1) 131 12 [some (.ref 22), some (.int x), l2, l3] [] LY g1 0 0 none Q := by
    intro m
    induction m with
    | zero =>
      intro k x l2 l3 g1 hk hx f e0 hs
      have hk : k = 8 := by omega
      subst hk; subst hx
      refine am_run_k 3 (And.intro (fun h6 => ?_) (fun hx => absurd ((show nI 8 ≤ nI 8 from nI_le (Nat.le_refl 8) (by decide))) hx))
      refine am_run_k 2 ?_
      refine ring 8 0 _ _ _ g1 rfl rfl f ⟨fun p q hp hq e => ?_, fun p hp => ?_, fun p hp q h1 h2 => ?_, fun p hp => absurd hp (by omega)⟩ e0
      · rw [hs p hp, b_sh (by omega) (by omega), decide_eq_true_iff] at e
        rw [hs q hq, b_sh (by omega) (by omega), decide_eq_true_iff]
        exact e.symm
      · rw [hs p hp, b_sh (by omega) (by omega)]; simp
      · rw [hs p hp, b_sh (by omega) (by omega)]; exact decide_eq_false (by omega)
    | succ m ih =>
      intro k x l2 l3 g1 hk hx f e0 hs
      subst hx
      refine am_run_k 3 (And.intro (fun hx => absurd hx ((nI_ge (b := 8) (by omega) (by decide)))) (fun h6 => ?_))
      refine am_run_k 7 (And.intro (vpn (by omega)) ?_)
      rw [ncl (by omega)]
      refine am_run_k 2 ?_
      refine ih (k + 1) _ _ _ _ (by omega) (nI_1 k) (f.tr fr3.u23) (by rw [am_up_ne (by decide)]; exact e0) (fun p hp => ?_)
      by_cases e : p = k
      · rw [e, am_up_us]; rfl
      · rw [am_up_un e]; exact hs p (by omega)
  refine am_run_k 8 ?_
  refine alone 8 0 _ _ _ _ rfl rfl ((fr3.u22 (Or.inl rfl)).tr (fr3.u22 (Or.inr (Or.inl rfl)))) ?_ (fun p hp => absurd hp (by omega))
  rw [am_up_un (by decide), am_up_us]; rfl
end MOK
