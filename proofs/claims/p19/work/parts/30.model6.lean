section MOI
variable {d : Nat} {L : am_L} {g : am_G} {bc bs : Nat} {sx : am_S} {Q : am_Q}
theorem ix60 {j p : Nat} : (60 : Int32) * nI j + nI p = nI (60 * j + p) := by rw [nIt60]; exact nI_add _ _
theorem SM.up {j m : Nat} {x : Int32} (s : SM g) (hm : m ≤ 60) (e : x = nI m) : SM (am_up g 29 j x) := by
  intro i hi
  by_cases q : i = j
  · exact ⟨m, hm, by rw [q, am_up_us]; exact e⟩
  · rw [am_up_un q]; exact s i hi
theorem in2_idx60 {v : Int32} {c : Nat} (hc : c ≤ 60) (h : am_in2 v 0 (nI c - 1) = true) : ∃ k, k < c ∧ v = nI k := by
  cases c with
  | zero => exact in2_idx (c := 0) (by omega) h
  | succ c =>
    rw [nI_pred, in_ir (by omega)] at h
    exact am_ir_nI (by omega) h
theorem m_sheet {a b n : Int32} {l4 : Option Value} (I : IM g) (h0 : ∀ r, r = shA n a b → r < 0 → Q (some (.int r)) LY g) (h1 : ∀ (m j l : Nat) (g' : am_G), m ≤ 60 → n = nI m → j < 2 → a = nI j → l < 2 → b = nI l → shA n a b = n → IM g' → (∀ k, k < 22 → g' k = g k) → (∀ i, g' 28 i = if i = j then b else g 28 i) → (∀ i, g' 29 i = if i = j then n else g 29 i) → Q (some (.int n)) LY g') : am (d + 2) 101 0 [some (.ref 22), some (.int a), some (.int b), some (.int n), l4] [] LY g 0 0 none Q := by
  refine am_run_k 2 (am_cl ?_)
  refine m_isSheet ?_
  refine am_run_k 1 (And.intro (fun e1 => ?_) (fun e1 => ?_))
  · refine am_run_k 2 ?_
    refine h0 _ ?_ (by decide)
    unfold shA; rw [bi_f e1]; rfl
  · refine am_run_k 4 (am_cl ?_)
    refine w_in ?_
    rw [show am_in2 b 0 1 = am_ir b 2 from in_ir (k := 1) (by decide)]
    refine am_run_k 1 (And.intro (fun e2 => ?_) (fun e2 => ?_))
    · refine am_run_k 2 ?_
      refine h0 _ ?_ (by decide)
      unfold shA; rw [bi_t e1, bi_f e2]; rfl
    · refine am_run_k 3 (And.intro (fun e3 => ?_) (fun e3 => ?_))
      · refine am_run_k 2 (And.intro (fun e4 => ?_) (fun e4 => ?_))
        · obtain ⟨m, hm1, hm2, en⟩ := nI_rng (a := 0) (b := 60) e4 e3
          have hs : shA n a b = n := by
            unfold shA; rw [bi_t e1, bi_t e2, decide_eq_true e3, if_neg (fa_nlt.mpr e4)]; rfl
          obtain ⟨l, hl, eb⟩ := am_ir_nI (k := 2) (by decide) (bi_t e2)
          obtain ⟨j, hj, ea⟩ := am_ir_nI (k := 2) (by decide) (bi_t e1)
          subst ea
          refine am_run_k 5 (And.intro (vpn hj) ?_)
          refine am_run_k 5 (And.intro (vpn hj) ?_)
          rw [ncl (by omega)]
          have lp : ∀ (q k : Nat) (x : Int32) (g1 : am_G), k + q = 60 → x = nI k → (∀ i, i ≠ 30 → g1 i = am_up (am_up g 28 j b) 29 j n i) → am (d + 2) 101 48 [some (.ref 22), some (.int (nI j)), some (.int b), some (.int n), some (.int x)] [] LY g1 0 0 none Q := by
            intro q
            induction q with
            | zero =>
              intro k x g1 hk hx hg
              have hk : k = 60 := by omega
              subst hk; subst hx
              refine am_run_k 3 (And.intro (fun h6 => ?_) (fun hx => absurd ((show nI 60 ≤ nI 60 from nI_le (Nat.le_refl 60) (by decide))) hx))
              refine am_run_k 2 ?_
              have he : ∀ i, i ≠ 28 → i ≠ 29 → i ≠ 30 → g1 i = g i := fun i h8 h9 h30 => by rw [hg i h30, am_up_ne h9, am_up_ne h8]
              refine h1 m j l g1 hm2 en hj rfl hl eb hs ⟨I.1.of (by rw [he 22 (by decide) (by decide) (by decide)]) (by rw [he 22 (by decide) (by decide) (by decide)]) (by rw [he 22 (by decide) (by decide) (by decide)]) (he 25 (by decide) (by decide) (by decide)) (he 26 (by decide) (by decide) (by decide)), I.2.1.of (he 23 (by decide) (by decide) (by decide)), I.2.2.1.of (he 24 (by decide) (by decide) (by decide)), ?_⟩ (fun k hk => he k (by omega) (by omega) (by omega)) (fun i => ?_) (fun i => ?_)
              · refine SM.of (g := am_up (am_up g 28 j b) 29 j n) (SM.up (SM.of I.2.2.2 (am_up_ne (by decide))) hm2 en) (hg 29 (by decide))
              · rw [hg 28 (by decide), am_up_ne (by decide)]
                rfl
              · rw [hg 29 (by decide)]
                split
                · rename_i q; rw [q, am_up_us]
                · rename_i q; rw [am_up_un q, am_up_ne (by decide)]
            | succ q ih =>
              intro k x g1 hk hx hg
              subst hx
              refine am_run_k 3 (And.intro (fun hx => absurd hx ((nI_ge (b := 60) (by omega) (by decide)))) (fun h6 => ?_))
              refine am_run_k 9 (And.intro (vpe ix60 (by omega)) ?_)
              refine am_run_k 2 ?_
              exact ih (k + 1) _ _ (by omega) (nI_1 k) (fun i hi => by rw [am_up_ne hi]; exact hg i hi)
          refine am_run_k 2 ?_
          exact lp 60 0 _ _ rfl rfl (fun i _ => rfl)
        · refine am_run_k 2 ?_
          refine h0 _ ?_ (by decide)
          unfold shA; rw [bi_t e1, bi_t e2, decide_eq_true e3, if_pos (fa_nle.mp e4)]; rfl
      · refine am_run_k 2 ?_
        refine h0 _ ?_ (by decide)
        unfold shA; rw [bi_t e1, bi_t e2, decide_eq_false e3]; rfl
theorem m_drop {a : Int32} (I : IM g) (h0 : am_ir a 2 = false → Q (some (.int (-1))) LY g) (h1 : ∀ j, j < 2 → a = nI j → g 28 j < 0 → Q (some (.int (-11))) LY g) (h2 : ∀ (j : Nat), j < 2 → a = nI j → ¬ g 28 j < 0 → IM (am_up g 28 j (-1)) → Q (some (.int (g 29 j))) LY (am_up g 28 j (-1))) : am (d + 2) 102 0 [some (.ref 22), some (.int a)] [] LY g 0 0 none Q := by
  refine am_run_k 2 (am_cl ?_)
  refine m_isSheet ?_
  refine am_run_k 1 (And.intro (fun e1 => ?_) (fun e1 => ?_))
  · obtain ⟨j, hj, ea⟩ := am_ir_nI (k := 2) (by decide) (bi_t e1)
    subst ea
    refine am_run_k 4 (And.intro (vpn hj) ?_)
    rw [ncl (by omega)]
    refine am_run_k 1 (And.intro (fun e2 => ?_) (fun e2 => ?_))
    · refine am_run_k 5 (And.intro (vpn hj) ?_)
      refine am_run_k 4 (And.intro (vpn hj) ?_)
      rw [ncl (by omega)]
      refine am_run_k 1 ?_
      rw [am_up_ne (show 29 ≠ 28 by decide)]
      exact h2 j hj rfl (fa_nlt.mpr e2) ⟨I.1.of (by rw [am_up_ne (by decide)]) (by rw [am_up_ne (by decide)]) (by rw [am_up_ne (by decide)]) (am_up_ne (by decide)) (am_up_ne (by decide)), I.2.1.of (am_up_ne (by decide)), I.2.2.1.of (am_up_ne (by decide)), I.2.2.2.of (am_up_ne (by decide))⟩
    · refine am_run_k 2 ?_
      exact h1 j hj rfl (fa_nle.mp e2)
  · refine am_run_k 2 ?_
    exact h0 (bi_f e1)
theorem m_item {a b i v : Int32} (I : IM g) (hl : ∀ j, j < 2 → ¬ g 28 j < 0 ∨ g 28 j = -1) (h0 : (am_ir a 2 && am_ir b 2) = false → Q (some (.int (-1))) LY g) (h1 : ∀ (j : Nat) (g' : am_G), j < 2 → a = nI j → am_ir b 2 = true → IM g' → (∀ k, k ≠ 30 → g' k = g k) → Q (some (.int (itA b i (g 28 j) (g 29 j)))) LY g') : am (d + 2) 103 0 [some (.ref 22), some (.int a), some (.int b), some (.int i), some (.int v)] [] LY g 0 0 none Q := by
  refine am_run_k 2 (am_cl ?_)
  refine m_isSheet ?_
  refine am_run_k 1 (And.intro (fun e1 => ?_) (fun e1 => ?_))
  · refine am_run_k 2 ?_
    refine h0 ?_
    rw [bi_f e1]; rfl
  · refine am_run_k 4 (am_cl ?_)
    refine w_in ?_
    rw [show am_in2 b 0 1 = am_ir b 2 from in_ir (k := 1) (by decide)]
    refine am_run_k 1 (And.intro (fun e2 => ?_) (fun e2 => ?_))
    · obtain ⟨j, hj, ea⟩ := am_ir_nI (k := 2) (by decide) (bi_t e1)
      subst ea
      obtain ⟨ms, hms, es⟩ := I.2.2.2 j hj
      have hh := h1 j g hj rfl (bi_t e2) I (fun _ _ => rfl)
      refine am_run_k 4 (And.intro (vpn hj) ?_)
      rw [ncl (by omega)]
      refine am_run_k 1 (And.intro (fun e3 => ?_) (fun e3 => ?_))
      · have hn1 : ¬ g 28 j = -1 := fun e => by rw [e] at e3; exact absurd e3 (by decide)
        refine am_run_k 4 (And.intro (vpn hj) ?_)
        rw [ncl (by omega)]
        refine am_run_k 2 (And.intro (fun e4 => ?_) (fun e4 => ?_))
        · have htk : tkA (g 28 j) b = 0 := by unfold tkA; rw [if_neg hn1, if_pos e4]
          refine am_run_k 6 (And.intro (vpn hj) ?_)
          rw [ncl (by omega)]
          refine am_run_k 3 (am_cl ?_)
          refine w_in ?_
          refine am_run_k 1 (And.intro (fun e5 => ?_) (fun e5 => ?_))
          · have hb := bi_t e5
            rw [es] at hb
            obtain ⟨p, hp, ei⟩ := in2_idx60 hms hb
            subst ei
            have fin : ∀ u : Int32, am (d + 2) 103 84 [some (.ref 22), some (.int (nI j)), some (.int b), some (.int (nI p)), some (.int v)] [.int u, .int ((60 : Int32) * nI j + nI p), .ref 30] LY g 0 0 none Q := by
              intro u
              refine am_run_k 1 (And.intro (vpe ix60 (by omega)) ?_)
              refine am_run_k 2 ?_
              have hh2 := h1 j (am_up g 30 ((60 : Int32) * nI j + nI p).toNatClampNeg u) hj rfl (bi_t e2) ⟨I.1.of (by rw [am_up_ne (by decide)]) (by rw [am_up_ne (by decide)]) (by rw [am_up_ne (by decide)]) (am_up_ne (by decide)) (am_up_ne (by decide)), I.2.1.of (am_up_ne (by decide)), I.2.2.1.of (am_up_ne (by decide)), I.2.2.2.of (am_up_ne (by decide))⟩ (fun k hk => am_up_ne hk)
              unfold itA at hh2
              rw [htk, if_neg (by decide), if_neg (show ¬ nI p < 0 from nI_pos (by omega)), if_pos (by rw [es]; exact nI_lt' hp)] at hh2
              exact hh2
            refine am_run_k 9 (And.intro (fun e6 => ?_) (fun e6 => ?_))
            · refine am_run_k 1 ?_
              exact fin _
            · refine am_run_k 3 ?_
              exact fin _
          · refine am_run_k 2 ?_
            unfold itA at hh
            rw [htk, if_neg (by decide)] at hh
            have hb := bi_f e5
            split at hh
            · exact hh
            · rename_i hge
              rw [if_neg ?_] at hh
              · exact hh
              · intro hlt
                obtain ⟨p, hp, ei⟩ := nI_of hge
                subst ei
                rw [es] at hlt
                have hpm : p < ms := (nI_ltI hp (by omega)).mp hlt
                obtain ⟨ms', rfl⟩ : ∃ n', ms = n' + 1 := ⟨ms - 1, by omega⟩
                rw [es, nI_pred, in_ir (by omega)] at hb
                rw [am_ir_t (fa_nlt.mp (nI_pos (by omega))) (nI_lt' hpm)] at hb
                exact absurd hb (by decide)
        · refine am_run_k 2 ?_
          unfold itA at hh
          have htk : tkA (g 28 j) b = -12 := by unfold tkA; rw [if_neg hn1, if_neg e4]
          rw [htk, if_pos (by decide)] at hh
          exact hh
      · refine am_run_k 2 ?_
        have e3 := fa_nle.mp e3
        have hl1 : g 28 j = -1 := (hl j hj).resolve_left (fun z => z e3)
        unfold itA at hh
        have htk : tkA (g 28 j) b = -11 := by unfold tkA; rw [if_pos hl1]
        rw [htk, if_pos (by decide)] at hh
        exact hh
    · refine am_run_k 2 ?_
      refine h0 ?_
      rw [bi_f e2]; simp
theorem lg_room {x y z : Int32} {i m s : Nat} (hx : x = nI i) (hi : i < 2 ^ 31) (hy : y = nI m) (hm : m < 2 ^ 31) (hz : z = nI s) (hs : s < 2 ^ 31) (h : x.toInt64 + y.toInt64 ≤ z.toInt64) : i + m ≤ s := by
  subst hx; subst hy; subst hz
  rw [Int64.le_iff_toInt_le, Int64.toInt_add, Int32.toInt_toInt64, Int32.toInt_toInt64, Int32.toInt_toInt64, nI_toInt hi, nI_toInt hm, nI_toInt hs, Int.bmod_def] at h
  split at h <;> omega
/-- the k-th row of an item's sheet is a find -/
def mgd (n : Int32) (it : Nat → Int32) (s k : Nat) : Bool := fdB n (it (s + 5 * k)) (it (s + 5 * k + 1)) (it (s + 5 * k + 2)) (it (s + 5 * k + 3)) (it (s + 5 * k + 4))
theorem mx5 {s k : Nat} : nI s + (5 : Int32) * nI k = nI (s + 5 * k) := by rw [nIt5]; exact nI_add _ _
theorem mx51 {s k : Nat} : nI s + (5 : Int32) * nI k + 1 = nI (s + 5 * k + 1) := by rw [mx5]; exact nI_1 _
theorem mx52 {s k : Nat} : nI s + (5 : Int32) * nI k + 2 = nI (s + 5 * k + 2) := by rw [mx5]; exact nIp2 _
theorem mx53 {s k : Nat} : nI s + (5 : Int32) * nI k + 3 = nI (s + 5 * k + 3) := by rw [mx5]; exact nIp3 _
theorem mx54 {s k : Nat} : nI s + (5 : Int32) * nI k + 4 = nI (s + 5 * k + 4) := by rw [mx5]; exact nIp4 _
theorem l_104_184 {a b c : Int32} {s cnt c0 : Nat} {g0 : am_G} (hs : s + 5 * cnt ≤ 120) (hcn : c0 + cnt ≤ 20) (hok : ∀ k, k < cnt → mgd (g0 22 0) (g0 30) s k = true) (h : ∀ r g', IM g' → frM g0 g' → Q (some (.int r)) LY g') : ∀ (m k : Nat) (x : Int32) (l7 : Option Value) (g : am_G), k + m = cnt → x = nI k → IM g → frM g0 g → g 22 7 = nI (c0 + k) → g 22 0 = g0 22 0 → g 30 = g0 30 → am (d + 3) 104 184 [some (.ref 22), some (.int a), some (.int b), some (.int c), some (.int (nI cnt)), some (.int (nI s)), some (.int x), l7] [] LY g 0 0 none Q := by
  intro m
  induction m with
  | zero =>
    intro k x l7 g hk hx I fr e7 e0 e30
    have hk : k = cnt := by omega
    subst hk; subst hx
    refine am_run_k 3 (And.intro (fun h6 => ?_) (fun hx => absurd ((nI_le (Nat.le_refl k) (by omega))) hx))
    refine am_run_k 3 ?_
    exact h _ g I fr
  | succ m ih =>
    intro k x l7 g hk hx I fr e7 e0 e30
    subst hx
    refine am_run_k 3 (And.intro (fun hx => absurd hx ((nI_ge (by omega) (by omega)))) (fun h6 => ?_))
    refine am_run_k 11 (And.intro (vpe mx5 (by omega)) ?_)
    refine am_run_k 6 (And.intro (vpe mx51 (by omega)) ?_)
    refine am_run_k 6 (And.intro (vpe mx52 (by omega)) ?_)
    refine am_run_k 6 (And.intro (vpe mx53 (by omega)) ?_)
    refine am_run_k 6 (And.intro (vpe mx54 (by omega)) ?_)
    rw [cle mx5 (by omega), cle mx51 (by omega), cle mx52 (by omega), cle mx53 (by omega), cle mx54 (by omega)]
    refine am_run_k 1 (am_cl ?_)
    refine m_put (n := c0 + k) (by omega) e7 ?_
    refine am_run_k 2 ?_
    obtain ⟨⟨np, hn1, hn2, en⟩, -⟩ := id I.1
    have hf := hok k (by omega)
    unfold mgd at hf
    rw [← e30, ← e0, en] at hf
    refine ih (k + 1) _ _ _ (by omega) (nI_1 k) (I.add (by omega) e7 (rowOK_of hn2 hf)) (fr.tr frM.add) ?_ (by rw [mput_22 (by decide)]; exact e0) (by rw [mput_ne (by decide) (by decide) (by decide) (by decide)]; exact e30)
    unfold am_mput; rw [am_up_us]; rfl
theorem l_104_91 {a b c y : Int32} {s cnt c0 np : Nat} (hy : y = nI s) (hs : s + 5 * cnt ≤ 120) (hc0 : c0 ≤ 20) (e7 : g 22 7 = nI c0) (hn : 1 ≤ np ∧ np ≤ 6) (en : g 22 0 = nI np) (I : IM g) (h : ∀ r g', IM g' → frM g g' → Q (some (.int r)) LY g') : ∀ (m k : Nat) (x : Int32) (l7 : Option Value), k + m = cnt → x = nI k → (∀ p, p < k → mgd (g 22 0) (g 30) s p = true) → am (d + 3) 104 91 [some (.ref 22), some (.int a), some (.int b), some (.int c), some (.int (nI cnt)), some (.int y), some (.int x), l7] [] LY g 0 0 none Q := by
  subst hy
  intro m
  induction m with
  | zero =>
    intro k x l7 hk hx hp
    have hk : k = cnt := by omega
    subst hk; subst hx
    refine am_run_k 3 (And.intro (fun h6 => ?_) (fun hx => absurd ((nI_le (Nat.le_refl k) (by omega))) hx))
    refine am_run_k 6 (And.intro (fun h7 => ?_) (fun h7 => ?_))
    · refine am_run_k 2 ?_
      have h7 : g 22 7 + nI k ≤ nI 20 := h7
      rw [e7, nI_add] at h7
      have hroom : c0 + k ≤ 20 := by
        rcases Nat.lt_or_ge 20 (c0 + k) with e | e
        · exact absurd h7 (nI_ge e (by omega))
        · exact e
      exact l_104_184 (g0 := g) (by omega) hroom hp h k 0 _ _ g (by omega) rfl I frM.rf e7 rfl rfl
    · refine am_run_k 2 ?_
      exact h _ g I frM.rf
  | succ m ih =>
    intro k x l7 hk hx hp
    subst hx
    refine am_run_k 3 (And.intro (fun hx => absurd hx ((nI_ge (by omega) (by omega)))) (fun h6 => ?_))
    refine am_run_k 11 (And.intro (vpe mx5 (by omega)) ?_)
    refine am_run_k 6 (And.intro (vpe mx51 (by omega)) ?_)
    refine am_run_k 6 (And.intro (vpe mx52 (by omega)) ?_)
    refine am_run_k 6 (And.intro (vpe mx53 (by omega)) ?_)
    refine am_run_k 6 (And.intro (vpe mx54 (by omega)) ?_)
    rw [cle mx5 (by omega), cle mx51 (by omega), cle mx52 (by omega), cle mx53 (by omega), cle mx54 (by omega)]
    refine am_run_k 1 (am_cl ?_)
    refine m_isGood hn en ?_
    refine am_run_k 1 (And.intro (fun h7 => ?_) (fun h7 => ?_))
    · refine am_run_k 2 ?_
      refine ih (k + 1) _ _ (by omega) (nI_1 k) (fun p hpk => ?_)
      rcases Nat.lt_succ_iff_lt_or_eq.mp hpk with q | q
      · exact hp p q
      · subst q; unfold mgd; rw [en]; exact bi_t h7
    · refine am_run_k 2 ?_
      exact h _ g I frM.rf
theorem m_finds {a b c e : Int32} {l5 l6 l7 : Option Value} (I : IM g) (h : ∀ r g', IM g' → frM g g' → Q (some (.int r)) LY g') : am (d + 3) 104 0 [some (.ref 22), some (.int a), some (.int b), some (.int c), some (.int e), l5, l6, l7] [] LY g 0 0 none Q := by
  obtain ⟨⟨np, hn1, hn2, en⟩, -, c0, hc0, e7, -⟩ := id I.1
  refine am_run_k 2 (am_cl ?_)
  refine m_isSheet ?_
  refine am_run_k 1 (And.intro (fun h1 => ?_) (fun h1 => ?_))
  · refine am_run_k 2 ?_
    exact h _ g I frM.rf
  · refine am_run_k 4 (am_cl ?_)
    refine w_in ?_
    refine am_run_k 1 (And.intro (fun h2 => ?_) (fun h2 => ?_))
    · refine am_run_k 2 ?_
      exact h _ g I frM.rf
    · refine am_run_k 4 (am_cl ?_)
      refine w_in ?_
      refine am_run_k 1 (And.intro (fun h3 => ?_) (fun h3 => ?_))
      · obtain ⟨j, hj, ea⟩ := am_ir_nI (k := 2) (by decide) (bi_t h1)
        obtain ⟨cnt, -, hcnt, ee⟩ := in2_rng (a := 0) (b := 12) (by decide) (by decide) (bi_t h3)
        obtain ⟨ms, hms, es⟩ := I.2.2.2 j hj
        subst ea; subst ee
        refine am_run_k 4 (And.intro (vpn hj) ?_)
        refine am_run_k 1 (And.intro (fun h4 => ?_) (fun h4 => ?_))
        · refine am_run_k 4 (And.intro (vpn hj) ?_)
          refine am_run_k 2 (And.intro (fun h5 => ?_) (fun h5 => ?_))
          · refine am_run_k 2 (And.intro (fun h6 => ?_) (fun h6 => ?_))
            · refine am_run_k 2 ?_
              exact h _ g I frM.rf
            · obtain ⟨i, hi, ei⟩ := nI_of h6
              subst ei
              refine am_run_k 11 (And.intro (vpn hj) ?_)
              rw [ncl (by omega), es]
              refine am_run_k 3 (And.intro (fun h7 => ?_) (fun h7 => ?_))
              · have hroom : i + 5 * cnt ≤ ms := lg_room (x := nI i) (y := (5 : Int32) * nI cnt) (z := nI ms) rfl hi (nIt5 cnt) (by omega) rfl (by omega) ((lg_cmp_le _ _).mp h7)
                refine am_run_k 8 ?_
                exact l_104_91 (s := 60 * j + i) ix60 (by omega) hc0 e7 ⟨by omega, hn2⟩ en I h cnt 0 _ _ (by omega) rfl (fun p hp => absurd hp (by omega))
              · refine am_run_k 2 ?_
                exact h _ g I frM.rf
          · refine am_run_k 2 ?_
            exact h _ g I frM.rf
        · refine am_run_k 2 ?_
          exact h _ g I frM.rf
      · refine am_run_k 2 ?_
        exact h _ g I frM.rf
end MOI
