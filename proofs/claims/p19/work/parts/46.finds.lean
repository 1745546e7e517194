section OPX
variable {d : Nat} {g : am_G} {Q : am_Q} {B c f : Nat}
/-- a row of finds as laid from items: the class's, the model's -/
def rwC (R it : Nat → Int32) (k j : Nat) : Prop := R (k * 5) = it j ∧ R (k * 5 + 1) = it (j + 1) ∧ R (k * 5 + 2) = am_kb (it j) (it (j + 2)) ∧ R (k * 5 + 3) = am_kc (it j) (it (j + 3)) ∧ R (k * 5 + 4) = am_kx (it j) (it (j + 4))
def rwM (K R it : Nat → Int32) (k j : Nat) : Prop := K k = it j ∧ R (4 * k) = it (j + 1) ∧ R (4 * k + 1) = am_kb (it j) (it (j + 2)) ∧ R (4 * k + 2) = am_kc (it j) (it (j + 3)) ∧ R (4 * k + 3) = am_kx (it j) (it (j + 4))
/-- the class's finds, as laid -/
def laidC (g0 g1 : am_G) (it : Nat → Int32) (c0 n i : Nat) : Prop := (∀ k, k ≠ 5 → k ≠ 6 → g1 k = g0 k) ∧ (∀ j, j ≠ 1 → g1 5 j = g0 5 j) ∧ g1 5 1 = nI (c0 + n) ∧ (∀ k j, k < c0 → j < 5 → g1 6 (k * 5 + j) = g0 6 (k * 5 + j)) ∧ ∀ k, k < n → rwC (g1 6) it (c0 + k) (i + k * 5)
theorem laidC.next {g0 g1 : am_G} {it : Nat → Int32} {c0 k i : Nat} (h : laidC g0 g1 it c0 k i) : laidC g0 (am_add g1 (c0 + k) (it (i + k * 5)) (it (i + k * 5 + 1)) (it (i + k * 5 + 2)) (it (i + k * 5 + 3)) (it (i + k * 5 + 4))) it c0 (k + 1) i := by
  obtain ⟨h1, h2, h3, h4, h5⟩ := h
  refine ⟨fun j h5 h6 => (am_add_ne h5 h6).trans (h1 j h5 h6), fun j hj => (am_add_5 hj).trans (h2 j hj), ?_, fun k' j hk hj => (am_add_row (by omega) hj).trans (h4 k' j hk hj), fun k' hk => ?_⟩
  · unfold am_add; rw [am_up_us]; rfl
  · rcases Nat.lt_succ_iff_lt_or_eq.mp hk with e | e
    · obtain ⟨q0, q1, q2, q3, q4⟩ := h5 k' e
      have h0 := am_add_row (g := g1) (n := c0 + k) (kd := it (i + k * 5)) (a := it (i + k * 5 + 1)) (b := it (i + k * 5 + 2)) (c := it (i + k * 5 + 3)) (x := it (i + k * 5 + 4)) (k := c0 + k') (j := 0) (by omega) (by omega)
      rw [Nat.add_zero] at h0
      exact ⟨h0.trans q0, (am_add_row (by omega) (by omega)).trans q1, (am_add_row (by omega) (by omega)).trans q2, (am_add_row (by omega) (by omega)).trans q3, (am_add_row (by omega) (by omega)).trans q4⟩
    · subst e
      exact am_add_new
theorem l_80_3_19x {i n : Nat} (hn : i + n * 5 ≤ 60) (h0 : (∃ k, k < n ∧ fdA (g 1 3) (g 19) (i + k * 5) = false) → Q (some (.int 0)) LY g) (h1 : (∀ k, k < n → fdA (g 1 3) (g 19) (i + k * 5) = true) → Q (some (.int 1)) LY g) : am (d + 2) 80 0 [some (.ref 0), some (.ref 19), some (.int (nI i)), some (.int (nI n)), none, none] [] LY g 0 0 none Q := w_areFinds_19 hn h0 h1
theorem l_81_3_19x {i n c0 : Nat} {g0 : am_G} (hn : i + n * 5 ≤ 60) (hc : c0 + n ≤ 20) (hok : ∀ k, k < n → fdA (g0 1 3) (g0 19) (i + k * 5) = true) (h : ∀ g', VC g' → laidC g0 g' (g0 19) c0 n i → Q none LY g') : ∀ (m k : Nat) (x : Int32) (lz : Option Value) (g : am_G), k + m = n → x = nI k → VC g → laidC g0 g (g0 19) c0 k i → am (d + 2) 81 3 [some (.ref 0), some (.ref 19), some (.int (nI i)), some (.int (nI n)), some (.int x), lz] [] LY g 0 0 none Q := by
  intro m
  induction m with
  | zero =>
    intro k x lz g hk hx v he
    have hk : k = n := by omega
    subst hk; subst hx
    refine am_run_k 3 (And.intro (fun h6 => ?_) (fun hx => absurd ((nI_le (Nat.le_refl k) (by omega))) hx))
    refine am_run_k 1 ?_
    exact h g v he
  | succ m ih =>
    intro k x lz g hk hx v he
    subst hx
    refine am_run_k 3 (And.intro (fun hx => absurd hx ((nI_ge (by omega) (by omega)))) (fun h6 => ?_))
    refine am_run_k 12 (And.intro (vpe ix5 (by omega)) ?_)
    refine am_run_k 5 (And.intro (vpe ix51 (by omega)) ?_)
    refine am_run_k 5 (And.intro (vpe ix52 (by omega)) ?_)
    refine am_run_k 5 (And.intro (vpe ix53 (by omega)) ?_)
    refine am_run_k 5 (And.intro (vpe ix54 (by omega)) ?_)
    rw [cle ix5 (by omega), cle ix51 (by omega), cle ix52 (by omega), cle ix53 (by omega), cle ix54 (by omega), he.1 19 (by decide) (by decide)]
    refine am_run_k 1 (am_cl ?_)
    refine w_add (n := c0 + k) (by omega) he.2.2.1 ?_
    refine am_run_k 2 ?_
    obtain ⟨np, hn1, hn2, e13⟩ := id v.1
    have hf := hok k (by omega)
    rw [← he.1 1 (by decide) (by decide), e13] at hf
    exact ih (k + 1) _ _ _ (by omega) (nI_1 k) (v.add (by omega) he.2.2.1 (rowOK_of hn2 hf)) he.next
theorem w_layFinds_19x {i n c0 : Nat} (hn : i + n * 5 ≤ 60) (hc : c0 + n ≤ 20) (v : VC g) (e51 : g 5 1 = nI c0) (hok : ∀ k, k < n → fdA (g 1 3) (g 19) (i + k * 5) = true) (h : ∀ g', VC g' → laidC g g' (g 19) c0 n i → Q none LY g') : am (d + 2) 81 0 [some (.ref 0), some (.ref 19), some (.int (nI i)), some (.int (nI n)), none, none] [] LY g 0 0 none Q := by
  refine am_run_k 2 ?_
  exact l_81_3_19x (g0 := g) hn hc hok h n 0 0 _ g (Nat.zero_add n) rfl v ⟨fun _ _ _ => rfl, fun _ _ => rfl, e51, fun _ _ _ _ => rfl, fun k hk => absurd hk (by omega)⟩
theorem l_80_3_21x {i n : Nat} (hn : i + n * 5 ≤ 60) (h0 : (∃ k, k < n ∧ fdA (g 1 3) (g 21) (i + k * 5) = false) → Q (some (.int 0)) LY g) (h1 : (∀ k, k < n → fdA (g 1 3) (g 21) (i + k * 5) = true) → Q (some (.int 1)) LY g) : am (d + 2) 80 0 [some (.ref 0), some (.ref 21), some (.int (nI i)), some (.int (nI n)), none, none] [] LY g 0 0 none Q := w_areFinds_21 hn h0 h1
theorem l_81_3_21x {i n c0 : Nat} {g0 : am_G} (hn : i + n * 5 ≤ 60) (hc : c0 + n ≤ 20) (hok : ∀ k, k < n → fdA (g0 1 3) (g0 21) (i + k * 5) = true) (h : ∀ g', VC g' → laidC g0 g' (g0 21) c0 n i → Q none LY g') : ∀ (m k : Nat) (x : Int32) (lz : Option Value) (g : am_G), k + m = n → x = nI k → VC g → laidC g0 g (g0 21) c0 k i → am (d + 2) 81 3 [some (.ref 0), some (.ref 21), some (.int (nI i)), some (.int (nI n)), some (.int x), lz] [] LY g 0 0 none Q := by
  intro m
  induction m with
  | zero =>
    intro k x lz g hk hx v he
    have hk : k = n := by omega
    subst hk; subst hx
    refine am_run_k 3 (And.intro (fun h6 => ?_) (fun hx => absurd ((nI_le (Nat.le_refl k) (by omega))) hx))
    refine am_run_k 1 ?_
    exact h g v he
  | succ m ih =>
    intro k x lz g hk hx v he
    subst hx
    refine am_run_k 3 (And.intro (fun hx => absurd hx ((nI_ge (by omega) (by omega)))) (fun h6 => ?_))
    refine am_run_k 12 (And.intro (vpe ix5 (by omega)) ?_)
    refine am_run_k 5 (And.intro (vpe ix51 (by omega)) ?_)
    refine am_run_k 5 (And.intro (vpe ix52 (by omega)) ?_)
    refine am_run_k 5 (And.intro (vpe ix53 (by omega)) ?_)
    refine am_run_k 5 (And.intro (vpe ix54 (by omega)) ?_)
    rw [cle ix5 (by omega), cle ix51 (by omega), cle ix52 (by omega), cle ix53 (by omega), cle ix54 (by omega), he.1 21 (by decide) (by decide)]
    refine am_run_k 1 (am_cl ?_)
    refine w_add (n := c0 + k) (by omega) he.2.2.1 ?_
    refine am_run_k 2 ?_
    obtain ⟨np, hn1, hn2, e13⟩ := id v.1
    have hf := hok k (by omega)
    rw [← he.1 1 (by decide) (by decide), e13] at hf
    exact ih (k + 1) _ _ _ (by omega) (nI_1 k) (v.add (by omega) he.2.2.1 (rowOK_of hn2 hf)) he.next
theorem w_layFinds_21x {i n c0 : Nat} (hn : i + n * 5 ≤ 60) (hc : c0 + n ≤ 20) (v : VC g) (e51 : g 5 1 = nI c0) (hok : ∀ k, k < n → fdA (g 1 3) (g 21) (i + k * 5) = true) (h : ∀ g', VC g' → laidC g g' (g 21) c0 n i → Q none LY g') : am (d + 2) 81 0 [some (.ref 0), some (.ref 21), some (.int (nI i)), some (.int (nI n)), none, none] [] LY g 0 0 none Q := by
  refine am_run_k 2 ?_
  exact l_81_3_21x (g0 := g) hn hc hok h n 0 0 _ g (Nat.zero_add n) rfl v ⟨fun _ _ _ => rfl, fun _ _ => rfl, e51, fun _ _ _ _ => rfl, fun k hk => absurd hk (by omega)⟩
/-- finds -/
def MFinds (g : am_G) (c : Nat) (a b i n r : Int32) (g1 : am_G) : Prop := ((am_ir a 2 && (am_ir b 2 && am_in2 n 0 12)) = false ∧ r = -1 ∧ g1 = g) ∨ ∃ j cnt ms, (j < 2 ∧ a = nI j ∧ am_ir b 2 = true ∧ cnt ≤ 12 ∧ n = nI cnt ∧ ms ≤ 60 ∧ g 29 j = nI ms) ∧ ((tkA (g 28 j) b < 0 ∧ r = tkA (g 28 j) b ∧ g1 = g) ∨ (tkA (g 28 j) b = 0 ∧ (((∀ i', i = nI i' → i' < 2 ^ 31 → ms < i' + 5 * cnt) ∧ r = -13 ∧ g1 = g) ∨ ∃ i', i = nI i' ∧ i' + 5 * cnt ≤ ms ∧ (((∃ k, k < cnt ∧ mgd (g 22 0) (g 30) (60 * j + i') k = false) ∧ r = -2 ∧ g1 = g) ∨ ((∀ k, k < cnt → mgd (g 22 0) (g 30) (60 * j + i') k = true) ∧ ((20 < c + cnt ∧ r = -3 ∧ g1 = g) ∨ (c + cnt ≤ 20 ∧ r = nI (c + cnt) ∧ IC g1 ∧ laidC g g1 (g (19 + 2 * j)) c cnt i')))))))
theorem rm_lt {ml n i : Nat} {x : Int32} (hm : ml ≤ 60) (hn : n ≤ 60) (hx : x = nI i) (hi : i < 2 ^ 31) (h : nI ml - nI n < x) : ml < i + n := by
  subst hx
  rw [Int32.lt_iff_toInt_lt, pk_sub_toInt (by omega) (by omega), nI_toInt hi] at h
  omega
theorem l_56_36_0x {n : Nat} {b i : Int32} (hn : n ≤ 12) (t : T g B c f) (hb : am_ir b 2 = true) (h : ∀ r g1, MFinds g c 0 b i (nI n) r g1 → Q (some (.int r)) LY g1) : am (d + 3) 56 36 [some (.ref 0), some (.int 0), some (.int b), some (.int i), some (.int (nI n)), some (.ref 18), none] [] LY g 0 0 none Q := by
  obtain ⟨⟨hc, hf, e51, e54⟩, ⟨I, I2⟩, ⟨⟨a0, -⟩, -⟩, -, -, -, -, -, ts, ti⟩ := id t
  obtain ⟨ml, hml, el⟩ := I.2.1
  obtain ⟨s1, s2, s3⟩ := ts 0 (by decide)
  change g 18 1 = g 28 0 at s1
  change g 18 2 = g 29 0 at s2
  have es : g 29 0 = nI ml := s2.symm.trans el
  have it : ∀ p, p < ml → g 19 p = g 30 (60 * 0 + p) := fun p hp => ti 0 p ml (by decide) es hml hp
  have fdm : ∀ i' k, i' + 5 * n ≤ ml → k < n → fdA (g 1 3) (g 19) (i' + k * 5) = mgd (g 22 0) (g 30) (60 * 0 + i') k := by
    intro i' k h1 h2
    unfold fdA mgd
    rw [a0, it _ (show i' + k * 5 < ml by omega), it _ (show i' + k * 5 + 1 < ml by omega), it _ (show i' + k * 5 + 2 < ml by omega), it _ (show i' + k * 5 + 3 < ml by omega), it _ (show i' + k * 5 + 4 < ml by omega)]
    have e : 60 * 0 + (i' + k * 5) = 60 * 0 + i' + 5 * k := by omega
    rw [← e]; rfl
  have pack : ∀ r g1, ((tkA (g 28 0) b < 0 ∧ r = tkA (g 28 0) b ∧ g1 = g) ∨ (tkA (g 28 0) b = 0 ∧ (((∀ i', i = nI i' → i' < 2 ^ 31 → ml < i' + 5 * n) ∧ r = -13 ∧ g1 = g) ∨ ∃ i', i = nI i' ∧ i' + 5 * n ≤ ml ∧ (((∃ k, k < n ∧ mgd (g 22 0) (g 30) (60 * 0 + i') k = false) ∧ r = -2 ∧ g1 = g) ∨ ((∀ k, k < n → mgd (g 22 0) (g 30) (60 * 0 + i') k = true) ∧ ((20 < c + n ∧ r = -3 ∧ g1 = g) ∨ (c + n ≤ 20 ∧ r = nI (c + n) ∧ IC g1 ∧ laidC g g1 (g 19) c n i'))))))) → Q (some (.int r)) LY g1 := fun r g1 z => h r g1 (Or.inr ⟨0, n, ml, ⟨by decide, rfl, hb, hn, rfl, hml, es⟩, z⟩)
  refine am_run_k 3 (am_cl ?_)
  refine w_takenAs0 ?_
  have tk : (if g 18 1 = -1 then -11 else if g 18 1 = b then 0 else -12) = tkA (g 28 0) b := by rw [s1]; rfl
  rw [tk]
  refine am_run_k 3 (And.intro (fun h1 => ?_) (fun h1 => ?_))
  · have tk0 : tkA (g 28 0) b = 0 := (tkA_cases _ _).resolve_left (fa_nlt.mpr h1)
    refine am_run_k 2 (And.intro (fun h2 => ?_) (fun h2 => ?_))
    · refine am_run_k 2 ?_
      refine pack _ _ (Or.inr ⟨tk0, Or.inl ⟨fun i' ei hi => ?_, rfl, rfl⟩⟩)
      rw [ei] at h2
      exact absurd h2 (nI_pos hi)
    · obtain ⟨i', hi, ei⟩ := nI_of (fa_nlt.mpr (fa_nlt.mp h2))
      subst ei
      have e5 : nI n * 5 = nI (n * 5) := nIm5 n
      refine am_run_k 8 (And.intro (fun h3 => ?_) (fun h3 => ?_))
      · refine am_run_k 6 (am_cl ?_)
        have hroom : i' + n * 5 ≤ ml := by
          refine nI_sub_lt (m := ml) (n := n * 5) (by omega) (by omega) rfl hi ?_
          rw [← el, ← e5]
          exact fa_nlt.mpr h3
        refine w_areFinds_19 (i := i') (n := n) (by omega) (fun hz => ?_) (fun hz => ?_)
        · refine am_run_k 1 (And.intro (fun hx => absurd hx ((by decide))) (fun h4 => ?_))
          refine am_run_k 2 ?_
          obtain ⟨k, hk, ek⟩ := hz
          exact pack _ _ (Or.inr ⟨tk0, Or.inr ⟨i', rfl, by omega, Or.inl ⟨⟨k, hk, by rw [← fdm i' k (by omega) hk]; exact ek⟩, rfl, rfl⟩⟩⟩)
        · have hz2 : ∀ k, k < n → mgd (g 22 0) (g 30) (60 * 0 + i') k = true := fun k hk => by rw [← fdm i' k (by omega) hk]; exact hz k hk
          refine am_run_k 1 (And.intro (fun h4 => ?_) (fun hx => absurd hx ((by decide))))
          refine am_run_k 8 (And.intro (fun h5 => ?_) (fun h5 => ?_))
          · refine am_run_k 6 (am_cl ?_)
            have h5 : g 5 1 + nI n ≤ 20 := h5
            rw [e51, nI_add] at h5
            have hcn : c + n ≤ 20 := (nI_leI (by omega) (by decide)).mp h5
            refine w_layFinds_19x (i := i') (n := n) (c0 := c) (by omega) hcn I.1 e51 hz (fun g1 v1 L1 => ?_)
            refine am_run_k 5 ?_
            have fr : frC g g1 := fun k hk => L1.1 k (by omega) (by omega)
            have hh := pack (nI (c + n)) g1 (Or.inr ⟨tk0, Or.inr ⟨i', rfl, by omega, Or.inr ⟨hz2, Or.inr ⟨hcn, rfl, ⟨v1, I.2.fr fr⟩, L1⟩⟩⟩⟩)
            rw [← L1.2.2.1] at hh
            exact hh
          · refine am_run_k 2 ?_
            refine pack _ _ (Or.inr ⟨tk0, Or.inr ⟨i', rfl, by omega, Or.inr ⟨hz2, Or.inl ⟨?_, rfl, rfl⟩⟩⟩⟩)
            have h5 : ¬ g 5 1 + nI n ≤ 20 := h5
            rw [e51, nI_add] at h5
            rcases Nat.lt_or_ge 20 (c + n) with q | q
            · exact q
            · exact absurd (show nI (c + n) ≤ nI 20 from nI_le q (by decide)) h5
      · refine am_run_k 2 ?_
        refine pack _ _ (Or.inr ⟨tk0, Or.inl ⟨fun i'' ei hi2 => ?_, rfl, rfl⟩⟩)
        have h3 : g 18 2 - nI n * 5 < nI i' := fa_nle.mp h3
        rw [el, e5] at h3
        have := rm_lt hml (by omega) rfl hi h3
        have e2 := (nI_eq hi hi2).mp ei
        omega
  · refine am_run_k 2 ?_
    exact pack _ _ (Or.inl ⟨fa_nle.mp h1, rfl, rfl⟩)
theorem l_56_36_1x {n : Nat} {b i : Int32} (hn : n ≤ 12) (t : T g B c f) (hb : am_ir b 2 = true) (h : ∀ r g1, MFinds g c 1 b i (nI n) r g1 → Q (some (.int r)) LY g1) : am (d + 3) 56 36 [some (.ref 0), some (.int 1), some (.int b), some (.int i), some (.int (nI n)), some (.ref 20), none] [] LY g 0 0 none Q := by
  obtain ⟨⟨hc, hf, e51, e54⟩, ⟨I, I2⟩, ⟨⟨a0, -⟩, -⟩, -, -, -, -, -, ts, ti⟩ := id t
  obtain ⟨ml, hml, el⟩ := I.2.2
  obtain ⟨s1, s2, s3⟩ := ts 1 (by decide)
  change g 20 1 = g 28 1 at s1
  change g 20 2 = g 29 1 at s2
  have es : g 29 1 = nI ml := s2.symm.trans el
  have it : ∀ p, p < ml → g 21 p = g 30 (60 * 1 + p) := fun p hp => ti 1 p ml (by decide) es hml hp
  have fdm : ∀ i' k, i' + 5 * n ≤ ml → k < n → fdA (g 1 3) (g 21) (i' + k * 5) = mgd (g 22 0) (g 30) (60 * 1 + i') k := by
    intro i' k h1 h2
    unfold fdA mgd
    rw [a0, it _ (show i' + k * 5 < ml by omega), it _ (show i' + k * 5 + 1 < ml by omega), it _ (show i' + k * 5 + 2 < ml by omega), it _ (show i' + k * 5 + 3 < ml by omega), it _ (show i' + k * 5 + 4 < ml by omega)]
    have e : 60 * 1 + (i' + k * 5) = 60 * 1 + i' + 5 * k := by omega
    rw [← e]; rfl
  have pack : ∀ r g1, ((tkA (g 28 1) b < 0 ∧ r = tkA (g 28 1) b ∧ g1 = g) ∨ (tkA (g 28 1) b = 0 ∧ (((∀ i', i = nI i' → i' < 2 ^ 31 → ml < i' + 5 * n) ∧ r = -13 ∧ g1 = g) ∨ ∃ i', i = nI i' ∧ i' + 5 * n ≤ ml ∧ (((∃ k, k < n ∧ mgd (g 22 0) (g 30) (60 * 1 + i') k = false) ∧ r = -2 ∧ g1 = g) ∨ ((∀ k, k < n → mgd (g 22 0) (g 30) (60 * 1 + i') k = true) ∧ ((20 < c + n ∧ r = -3 ∧ g1 = g) ∨ (c + n ≤ 20 ∧ r = nI (c + n) ∧ IC g1 ∧ laidC g g1 (g 21) c n i'))))))) → Q (some (.int r)) LY g1 := fun r g1 z => h r g1 (Or.inr ⟨1, n, ml, ⟨by decide, rfl, hb, hn, rfl, hml, es⟩, z⟩)
  refine am_run_k 3 (am_cl ?_)
  refine w_takenAs1 ?_
  have tk : (if g 20 1 = -1 then -11 else if g 20 1 = b then 0 else -12) = tkA (g 28 1) b := by rw [s1]; rfl
  rw [tk]
  refine am_run_k 3 (And.intro (fun h1 => ?_) (fun h1 => ?_))
  · have tk0 : tkA (g 28 1) b = 0 := (tkA_cases _ _).resolve_left (fa_nlt.mpr h1)
    refine am_run_k 2 (And.intro (fun h2 => ?_) (fun h2 => ?_))
    · refine am_run_k 2 ?_
      refine pack _ _ (Or.inr ⟨tk0, Or.inl ⟨fun i' ei hi => ?_, rfl, rfl⟩⟩)
      rw [ei] at h2
      exact absurd h2 (nI_pos hi)
    · obtain ⟨i', hi, ei⟩ := nI_of (fa_nlt.mpr (fa_nlt.mp h2))
      subst ei
      have e5 : nI n * 5 = nI (n * 5) := nIm5 n
      refine am_run_k 8 (And.intro (fun h3 => ?_) (fun h3 => ?_))
      · refine am_run_k 6 (am_cl ?_)
        have hroom : i' + n * 5 ≤ ml := by
          refine nI_sub_lt (m := ml) (n := n * 5) (by omega) (by omega) rfl hi ?_
          rw [← el, ← e5]
          exact fa_nlt.mpr h3
        refine w_areFinds_21 (i := i') (n := n) (by omega) (fun hz => ?_) (fun hz => ?_)
        · refine am_run_k 1 (And.intro (fun hx => absurd hx ((by decide))) (fun h4 => ?_))
          refine am_run_k 2 ?_
          obtain ⟨k, hk, ek⟩ := hz
          exact pack _ _ (Or.inr ⟨tk0, Or.inr ⟨i', rfl, by omega, Or.inl ⟨⟨k, hk, by rw [← fdm i' k (by omega) hk]; exact ek⟩, rfl, rfl⟩⟩⟩)
        · have hz2 : ∀ k, k < n → mgd (g 22 0) (g 30) (60 * 1 + i') k = true := fun k hk => by rw [← fdm i' k (by omega) hk]; exact hz k hk
          refine am_run_k 1 (And.intro (fun h4 => ?_) (fun hx => absurd hx ((by decide))))
          refine am_run_k 8 (And.intro (fun h5 => ?_) (fun h5 => ?_))
          · refine am_run_k 6 (am_cl ?_)
            have h5 : g 5 1 + nI n ≤ 20 := h5
            rw [e51, nI_add] at h5
            have hcn : c + n ≤ 20 := (nI_leI (by omega) (by decide)).mp h5
            refine w_layFinds_21x (i := i') (n := n) (c0 := c) (by omega) hcn I.1 e51 hz (fun g1 v1 L1 => ?_)
            refine am_run_k 5 ?_
            have fr : frC g g1 := fun k hk => L1.1 k (by omega) (by omega)
            have hh := pack (nI (c + n)) g1 (Or.inr ⟨tk0, Or.inr ⟨i', rfl, by omega, Or.inr ⟨hz2, Or.inr ⟨hcn, rfl, ⟨v1, I.2.fr fr⟩, L1⟩⟩⟩⟩)
            rw [← L1.2.2.1] at hh
            exact hh
          · refine am_run_k 2 ?_
            refine pack _ _ (Or.inr ⟨tk0, Or.inr ⟨i', rfl, by omega, Or.inr ⟨hz2, Or.inl ⟨?_, rfl, rfl⟩⟩⟩⟩)
            have h5 : ¬ g 5 1 + nI n ≤ 20 := h5
            rw [e51, nI_add] at h5
            rcases Nat.lt_or_ge 20 (c + n) with q | q
            · exact q
            · exact absurd (show nI (c + n) ≤ nI 20 from nI_le q (by decide)) h5
      · refine am_run_k 2 ?_
        refine pack _ _ (Or.inr ⟨tk0, Or.inl ⟨fun i'' ei hi2 => ?_, rfl, rfl⟩⟩)
        have h3 : g 20 2 - nI n * 5 < nI i' := fa_nle.mp h3
        rw [el, e5] at h3
        have := rm_lt hml (by omega) rfl hi h3
        have e2 := (nI_eq hi hi2).mp ei
        omega
  · refine am_run_k 2 ?_
    exact pack _ _ (Or.inl ⟨fa_nle.mp h1, rfl, rfl⟩)
theorem x_finds {a b i n : Int32} (t : T g B c f) (h : ∀ r g1, MFinds g c a b i n r g1 → Q (some (.int r)) LY g1) : am (d + 3) 56 0 [some (.ref 0), some (.int a), some (.int b), some (.int i), some (.int n), none, none] [] LY g 0 0 none Q := by
  refine am_run_k 2 (am_cl ?_)
  refine w_isSheet ?_
  refine am_run_k 1 (And.intro (fun h1 => ?_) (fun h1 => ?_))
  · refine am_run_k 2 ?_
    exact h _ g (Or.inl ⟨by rw [bi_f h1]; rfl, rfl, rfl⟩)
  · obtain ⟨j, hj, ea⟩ := am_ir_nI (k := 2) (by decide) (bi_t h1)
    refine am_run_k 2 (am_cl ?_)
    refine w_isLane ?_
    refine am_run_k 1 (And.intro (fun h2 => ?_) (fun h2 => ?_))
    · refine am_run_k 2 ?_
      exact h _ g (Or.inl ⟨by rw [bi_f h2]; simp, rfl, rfl⟩)
    · refine am_run_k 2 (And.intro (fun h3 => ?_) (fun h3 => ?_))
      · refine am_run_k 2 ?_
        refine h _ g (Or.inl ⟨?_, rfl, rfl⟩)
        unfold am_in2
        rw [decide_eq_false (p := (0 : Int32) ≤ n) (fa_nle.mpr h3)]; simp
      · refine am_run_k 3 (And.intro (fun h4 => ?_) (fun h4 => ?_))
        · obtain ⟨m, hm1, hm2, en⟩ := nI_rng (a := 0) (b := 12) (fa_nlt.mp h3) h4
          subst en
          rcases (show j = 0 ∨ j = 1 by omega) with q | q
          · subst q; subst ea
            refine am_run_k 4 (And.intro (vpe (n := 0) rfl (by decide)) ?_)
            refine am_run_k 1 ?_
            exact l_56_36_0x hm2 t (bi_t h2) h
          · subst q; subst ea
            refine am_run_k 4 (And.intro (vpe (n := 1) rfl (by decide)) ?_)
            refine am_run_k 1 ?_
            exact l_56_36_1x hm2 t (bi_t h2) h
        · refine am_run_k 2 ?_
          refine h _ g (Or.inl ⟨?_, rfl, rfl⟩)
          unfold am_in2
          rw [decide_eq_false (p := n ≤ (12 : Int32)) h4]; simp
/-- the model's finds, as laid -/
def laidM (g0 g1 : am_G) (it : Nat → Int32) (c0 n s : Nat) : Prop := (∀ k, k ≠ 22 → k ≠ 25 → k ≠ 26 → k ≠ 27 → g1 k = g0 k) ∧ (∀ j, j ≠ 7 → g1 22 j = g0 22 j) ∧ g1 22 7 = nI (c0 + n) ∧ (∀ k, k < c0 → g1 25 k = g0 25 k ∧ (∀ j, j < 4 → g1 26 (4 * k + j) = g0 26 (4 * k + j)) ∧ g1 27 k = g0 27 k) ∧ ∀ k, k < n → rwM (g1 25) (g1 26) it (c0 + k) (s + 5 * k) ∧ g1 27 (c0 + k) = 0
theorem laidM.next {g0 g1 : am_G} {it : Nat → Int32} {c0 k s : Nat} (h : laidM g0 g1 it c0 k s) : laidM g0 (am_mput g1 (c0 + k) (it (s + 5 * k)) (it (s + 5 * k + 1)) (it (s + 5 * k + 2)) (it (s + 5 * k + 3)) (it (s + 5 * k + 4))) it c0 (k + 1) s := by
  obtain ⟨h1, h2, h3, h4, h5⟩ := h
  refine ⟨fun j q1 q2 q3 q4 => (mput_ne q1 q2 q3 q4).trans (h1 j q1 q2 q3 q4), fun j hj => (mput_22 hj).trans (h2 j hj), ?_, fun k' hk => ⟨(mput_25 (by omega)).trans (h4 k' hk).1, fun j hj => (mput_26 (by omega)).trans ((h4 k' hk).2.1 j hj), (mput_27 (by omega)).trans (h4 k' hk).2.2⟩, fun k' hk => ?_⟩
  · unfold am_mput; rw [am_up_us]; rfl
  · rcases Nat.lt_succ_iff_lt_or_eq.mp hk with e | e
    · obtain ⟨⟨q0, q1, q2, q3, q4⟩, q5⟩ := h5 k' e
      exact ⟨⟨(mput_25 (by omega)).trans q0, (mput_26 (by omega)).trans q1, (mput_26 (by omega)).trans q2, (mput_26 (by omega)).trans q3, (mput_26 (by omega)).trans q4⟩, (mput_27 (by omega)).trans q5⟩
    · subst e
      exact ⟨⟨mput_25s, mput_260, mput_261, mput_262, mput_263⟩, mput_27s⟩
theorem l_104_184x {a b i : Int32} {s cnt c0 : Nat} {g0 : am_G} (hs : s + 5 * cnt ≤ 120) (hcn : c0 + cnt ≤ 20) (hok : ∀ k, k < cnt → mgd (g0 22 0) (g0 30) s k = true) (h : ∀ g', IM g' → laidM g0 g' (g0 30) c0 cnt s → Q (some (.int (nI (c0 + cnt)))) LY g') : ∀ (m k : Nat) (x : Int32) (l7 : Option Value) (g : am_G), k + m = cnt → x = nI k → IM g → laidM g0 g (g0 30) c0 k s → am (d + 3) 104 184 [some (.ref 22), some (.int a), some (.int b), some (.int i), some (.int (nI cnt)), some (.int (nI s)), some (.int x), l7] [] LY g 0 0 none Q := by
  intro m
  induction m with
  | zero =>
    intro k x l7 g hk hx I L
    have hk : k = cnt := by omega
    subst hk; subst hx
    refine am_run_k 3 (And.intro (fun h6 => ?_) (fun hx => absurd ((nI_le (Nat.le_refl k) (by omega))) hx))
    refine am_run_k 3 ?_
    have hh := h g I L
    rw [← L.2.2.1] at hh
    exact hh
  | succ m ih =>
    intro k x l7 g hk hx I L
    subst hx
    refine am_run_k 3 (And.intro (fun hx => absurd hx ((nI_ge (by omega) (by omega)))) (fun h6 => ?_))
    refine am_run_k 11 (And.intro (vpe mx5 (by omega)) ?_)
    refine am_run_k 6 (And.intro (vpe mx51 (by omega)) ?_)
    refine am_run_k 6 (And.intro (vpe mx52 (by omega)) ?_)
    refine am_run_k 6 (And.intro (vpe mx53 (by omega)) ?_)
    refine am_run_k 6 (And.intro (vpe mx54 (by omega)) ?_)
    rw [cle mx5 (by omega), cle mx51 (by omega), cle mx52 (by omega), cle mx53 (by omega), cle mx54 (by omega), L.1 30 (by decide) (by decide) (by decide) (by decide)]
    refine am_run_k 1 (am_cl ?_)
    refine m_put (n := c0 + k) (by omega) L.2.2.1 ?_
    refine am_run_k 2 ?_
    obtain ⟨⟨np, hn1, hn2, en⟩, -⟩ := id I.1
    have hf := hok k (by omega)
    unfold mgd at hf
    rw [← L.2.1 0 (by decide), en] at hf
    exact ih (k + 1) _ _ _ (by omega) (nI_1 k) (I.add (by omega) L.2.2.1 (rowOK_of hn2 hf)) L.next
theorem lg_room2 {x y z : Int32} {i m s : Nat} (hx : x = nI i) (hi : i < 2 ^ 30) (hy : y = nI m) (hm : m < 2 ^ 30) (hz : z = nI s) (hs : s < 2 ^ 30) (h : i + m ≤ s) : x.toInt64 + y.toInt64 ≤ z.toInt64 := by
  subst hx; subst hy; subst hz
  rw [Int64.le_iff_toInt_le, Int64.toInt_add, Int32.toInt_toInt64, Int32.toInt_toInt64, Int32.toInt_toInt64, nI_toInt (by omega), nI_toInt (by omega), nI_toInt (by omega), Int.bmod_def]
  split <;> omega
theorem l_104_91x {a b i y : Int32} {s cnt c0 np : Nat} (hy : y = nI s) (hs : s + 5 * cnt ≤ 120) (hc0 : c0 ≤ 20) (e7 : g 22 7 = nI c0) (hn : 1 ≤ np ∧ np ≤ 6) (en : g 22 0 = nI np) (I : IM g) (h2 : (∃ k, k < cnt ∧ mgd (g 22 0) (g 30) s k = false) → Q (some (.int (-2))) LY g) (h3 : (∀ k, k < cnt → mgd (g 22 0) (g 30) s k = true) → 20 < c0 + cnt → Q (some (.int (-3))) LY g) (h : (∀ k, k < cnt → mgd (g 22 0) (g 30) s k = true) → c0 + cnt ≤ 20 → ∀ g', IM g' → laidM g g' (g 30) c0 cnt s → Q (some (.int (nI (c0 + cnt)))) LY g') : ∀ (m k : Nat) (x : Int32) (l7 : Option Value), k + m = cnt → x = nI k → (∀ p, p < k → mgd (g 22 0) (g 30) s p = true) → am (d + 3) 104 91 [some (.ref 22), some (.int a), some (.int b), some (.int i), some (.int (nI cnt)), some (.int y), some (.int x), l7] [] LY g 0 0 none Q := by
  subst hy
  intro m
  induction m with
  | zero =>
    intro k x l7 hk hx hp
    have hk : k = cnt := by omega
    subst hk; subst hx
    refine am_run_k 3 (And.intro (fun h6 => ?_) (fun hx => absurd ((nI_le (Nat.le_refl k) (by omega))) hx))
    refine am_run_k 6 (And.intro (fun h7 => ?_) (fun h7 => ?_))
    · refine am_run_k 2 ?_
      have h7 : g 22 7 + nI k ≤ nI 20 := h7
      rw [e7, nI_add] at h7
      have hroom : c0 + k ≤ 20 := by
        rcases Nat.lt_or_ge 20 (c0 + k) with e | e
        · exact absurd h7 (nI_ge e (by omega))
        · exact e
      exact l_104_184x (g0 := g) (by omega) hroom hp (h hp hroom) k 0 _ _ g (by omega) rfl I ⟨fun _ _ _ _ _ => rfl, fun _ _ => rfl, e7, fun _ _ => ⟨rfl, fun _ _ => rfl, rfl⟩, fun k hk => absurd hk (by omega)⟩
    · refine am_run_k 2 ?_
      refine h3 hp ?_
      have h7 : ¬ g 22 7 + nI k ≤ nI 20 := h7
      rw [e7, nI_add] at h7
      rcases Nat.lt_or_ge 20 (c0 + k) with e | e
      · exact e
      · exact absurd (nI_le e (by decide)) h7
  | succ m ih =>
    intro k x l7 hk hx hp
    subst hx
    refine am_run_k 3 (And.intro (fun hx => absurd hx ((nI_ge (by omega) (by omega)))) (fun h6 => ?_))
    refine am_run_k 11 (And.intro (vpe mx5 (by omega)) ?_)
    refine am_run_k 6 (And.intro (vpe mx51 (by omega)) ?_)
    refine am_run_k 6 (And.intro (vpe mx52 (by omega)) ?_)
    refine am_run_k 6 (And.intro (vpe mx53 (by omega)) ?_)
    refine am_run_k 6 (And.intro (vpe mx54 (by omega)) ?_)
    rw [cle mx5 (by omega), cle mx51 (by omega), cle mx52 (by omega), cle mx53 (by omega), cle mx54 (by omega)]
    refine am_run_k 1 (am_cl ?_)
    refine m_isGood hn en ?_
    refine am_run_k 1 (And.intro (fun h7 => ?_) (fun h7 => ?_))
    · refine am_run_k 2 ?_
      refine ih (k + 1) _ _ (by omega) (nI_1 k) (fun p hpk => ?_)
      rcases Nat.lt_succ_iff_lt_or_eq.mp hpk with q | q
      · exact hp p q
      · subst q; unfold mgd; rw [en]; exact bi_t h7
    · refine am_run_k 2 ?_
      refine h2 ⟨k, by omega, ?_⟩
      unfold mgd; rw [en]; exact bi_f h7
theorem m_finds_x {a b i n : Int32} {c0 : Nat} {l5 l6 l7 : Option Value} (I : IM g) (hc0 : c0 ≤ 20) (e7 : g 22 7 = nI c0) (hl : ∀ j, j < 2 → ¬ g 28 j < 0 ∨ g 28 j = -1) (h0 : (am_ir a 2 && (am_ir b 2 && am_in2 n 0 12)) = false → Q (some (.int (-1))) LY g) (h1 : ∀ j, j < 2 → a = nI j → am_ir b 2 = true → am_in2 n 0 12 = true → tkA (g 28 j) b < 0 → Q (some (.int (tkA (g 28 j) b))) LY g) (h2 : ∀ j cnt ms, j < 2 → a = nI j → am_ir b 2 = true → cnt ≤ 12 → n = nI cnt → ms ≤ 60 → g 29 j = nI ms → tkA (g 28 j) b = 0 → (∀ i', i = nI i' → i' < 2 ^ 31 → ms < i' + 5 * cnt) → Q (some (.int (-13))) LY g) (h3 : ∀ j cnt ms i', j < 2 → a = nI j → am_ir b 2 = true → cnt ≤ 12 → n = nI cnt → ms ≤ 60 → g 29 j = nI ms → tkA (g 28 j) b = 0 → i = nI i' → i' + 5 * cnt ≤ ms → ((∃ k, k < cnt ∧ mgd (g 22 0) (g 30) (60 * j + i') k = false) → Q (some (.int (-2))) LY g) ∧ ((∀ k, k < cnt → mgd (g 22 0) (g 30) (60 * j + i') k = true) → 20 < c0 + cnt → Q (some (.int (-3))) LY g) ∧ ((∀ k, k < cnt → mgd (g 22 0) (g 30) (60 * j + i') k = true) → c0 + cnt ≤ 20 → ∀ g', IM g' → laidM g g' (g 30) c0 cnt (60 * j + i') → Q (some (.int (nI (c0 + cnt)))) LY g')) : am (d + 3) 104 0 [some (.ref 22), some (.int a), some (.int b), some (.int i), some (.int n), l5, l6, l7] [] LY g 0 0 none Q := by
  obtain ⟨⟨np, hn1, hn2, en⟩, -⟩ := id I.1
  refine am_run_k 2 (am_cl ?_)
  refine m_isSheet ?_
  refine am_run_k 1 (And.intro (fun e1 => ?_) (fun e1 => ?_))
  · refine am_run_k 2 ?_
    exact h0 (by rw [bi_f e1]; rfl)
  · refine am_run_k 4 (am_cl ?_)
    refine w_in ?_
    rw [show am_in2 b 0 1 = am_ir b 2 from in_ir (k := 1) (by decide)]
    refine am_run_k 1 (And.intro (fun e2 => ?_) (fun e2 => ?_))
    · refine am_run_k 2 ?_
      exact h0 (by rw [bi_f e2]; simp)
    · refine am_run_k 4 (am_cl ?_)
      refine w_in ?_
      refine am_run_k 1 (And.intro (fun e3 => ?_) (fun e3 => ?_))
      · obtain ⟨j, hj, ea⟩ := am_ir_nI (k := 2) (by decide) (bi_t e1)
        obtain ⟨cnt, -, hcnt, ee⟩ := in2_rng (a := 0) (b := 12) (by decide) (by decide) (bi_t e3)
        obtain ⟨ms, hms, es⟩ := I.2.2.2 j hj
        have hin := bi_t e3
        have g1 := h1 j hj ea (bi_t e2) hin
        have g2 := h2 j cnt ms hj ea (bi_t e2) hcnt ee hms es
        have g3 := fun i' => h3 j cnt ms i' hj ea (bi_t e2) hcnt ee hms es
        subst ea; subst ee
        refine am_run_k 4 (And.intro (vpn hj) ?_)
        rw [ncl (by omega)]
        refine am_run_k 1 (And.intro (fun h4 => ?_) (fun h4 => ?_))
        · have hn1' : ¬ g 28 j = -1 := fun e => by rw [e] at h4; exact absurd h4 (by decide)
          refine am_run_k 4 (And.intro (vpn hj) ?_)
          rw [ncl (by omega)]
          refine am_run_k 2 (And.intro (fun h5 => ?_) (fun h5 => ?_))
          · have h5 : g 28 j = b := by first | exact h5 | exact rdr h5
            have tk0 : tkA (g 28 j) b = 0 := by unfold tkA; rw [if_neg hn1', if_pos h5]
            refine am_run_k 2 (And.intro (fun h6 => ?_) (fun h6 => ?_))
            · refine am_run_k 2 ?_
              refine g2 tk0 (fun i' ei hi => ?_)
              rw [ei] at h6
              exact absurd h6 (nI_pos hi)
            · obtain ⟨i', hi, ei⟩ := nI_of h6
              subst ei
              refine am_run_k 11 (And.intro (vpn hj) ?_)
              rw [ncl (by omega), es]
              refine am_run_k 3 (And.intro (fun h7 => ?_) (fun h7 => ?_))
              · have hroom : i' + 5 * cnt ≤ ms := lg_room (x := nI i') (y := (5 : Int32) * nI cnt) (z := nI ms) rfl hi (nIt5 cnt) (by omega) rfl (by omega) ((lg_cmp_le _ _).mp h7)
                obtain ⟨k1, k2, k3⟩ := g3 i' tk0 rfl hroom
                refine am_run_k 8 ?_
                exact l_104_91x (s := 60 * j + i') ix60 (by omega) hc0 e7 ⟨by omega, hn2⟩ en I k1 k2 k3 cnt 0 _ _ (by omega) rfl (fun p hp => absurd hp (by omega))
              · refine am_run_k 2 ?_
                refine g2 tk0 (fun i'' ei hi2 => ?_)
                have e2 := (nI_eq hi hi2).mp ei
                subst e2
                rcases Nat.lt_or_ge ms (i' + 5 * cnt) with q | q
                · exact q
                · exact absurd ((lg_cmp_le _ _).mpr (lg_room2 (x := nI i') (y := (5 : Int32) * nI cnt) (z := nI ms) rfl (by omega) (nIt5 cnt) (by omega) rfl (by omega) q)) h7
          · refine am_run_k 2 ?_
            have htk : tkA (g 28 j) b = -12 := by unfold tkA; rw [if_neg hn1', if_neg h5]
            rw [htk] at g1
            exact g1 (by decide)
        · refine am_run_k 2 ?_
          have hl1 : g 28 j = -1 := (hl j hj).resolve_left (fun z => z (fa_nle.mp h4))
          have htk : tkA (g 28 j) b = -11 := by unfold tkA; rw [if_pos hl1]
          rw [htk] at g1
          exact g1 (by decide)
      · refine am_run_k 2 ?_
        exact h0 (by rw [bi_f e3]; simp)
/-- the tie after finds are laid -/
theorem T.laid {g1 g2 : am_G} {n i j ms : Nat} (t : T g B c f) (hn : c + n ≤ 20) (hj : j < 2) (hms : ms ≤ 60) (es : g 29 j = nI ms) (hi : i + 5 * n ≤ ms) (J : IC g1) (J2 : IM g2) (L1 : laidC g g1 (g (19 + 2 * j)) c n i) (L2 : laidM g1 g2 (g1 30) c n (60 * j + i)) : T g2 B (c + n) f := by
  obtain ⟨⟨hc, hf, e51, e54⟩, ⟨I, I2⟩, ⟨⟨a0, a1, a2, a3, a4, a5⟩, ta2, ta3⟩, tj, tl, tr, tf, ⟨cj, hcj, ecj, tc⟩, ts⟩ := id t
  obtain ⟨h1, h2, h3, h4, h5⟩ := L1
  obtain ⟨m1, m2, m3, m4, m5⟩ := L2
  have d1 : ∀ k, k ≠ 5 → k ≠ 6 → k ≠ 22 → k ≠ 25 → k ≠ 26 → k ≠ 27 → g2 k = g k := fun k h5 h6 h22 h25 h26 h27 => (m1 k h22 h25 h26 h27).trans (h1 k h5 h6)
  have q22 : ∀ i, i ≠ 7 → g2 22 i = g 22 i := fun i hi => (m2 i hi).trans (congrFun (h1 22 (by decide) (by decide)) i)
  have e5 : g2 5 = g1 5 := m1 5 (by decide) (by decide) (by decide) (by decide)
  have e6 : g2 6 = g1 6 := m1 6 (by decide) (by decide) (by decide) (by decide)
  have it : ∀ p, p < ms → g (19 + 2 * j) p = g1 30 (60 * j + p) := fun p hp => by rw [h1 30 (by decide) (by decide)]; exact ts.2 j p ms hj es hms hp
  refine ⟨⟨hn, hf, by rw [e5]; exact h3, by rw [e5, h2 4 (by decide)]; exact e54⟩, ⟨J.lo (fun k hk => m1 k (by omega) (by omega) (by omega) (by omega)), J2⟩, ⟨⟨?_, ?_, ?_, ?_, ?_, ?_⟩, ?_, ?_, ?_⟩, tj.of (d1 3 (by decide) (by decide) (by decide) (by decide) (by decide) (by decide)) (d1 4 (by decide) (by decide) (by decide) (by decide) (by decide) (by decide)) (d1 23 (by decide) (by decide) (by decide) (by decide) (by decide) (by decide)), tl.of (d1 8 (by decide) (by decide) (by decide) (by decide) (by decide) (by decide)) (d1 24 (by decide) (by decide) (by decide) (by decide) (by decide) (by decide)), fun k hk => ?_, ⟨fun k hk => ?_, tf.2.of (by rw [e5, h2 2 (by decide)]) (d1 7 (by decide) (by decide) (by decide) (by decide) (by decide) (by decide))⟩, ⟨cj, hcj, by rw [q22 11 (by decide)]; exact ecj, fun k hk => ?_⟩, ⟨ts.1.of (d1 18 (by decide) (by decide) (by decide) (by decide) (by decide) (by decide)) (d1 20 (by decide) (by decide) (by decide) (by decide) (by decide) (by decide)) (d1 28 (by decide) (by decide) (by decide) (by decide) (by decide) (by decide)) (d1 29 (by decide) (by decide) (by decide) (by decide) (by decide) (by decide)), ts.2.of (d1 19 (by decide) (by decide) (by decide) (by decide) (by decide) (by decide)) (d1 21 (by decide) (by decide) (by decide) (by decide) (by decide) (by decide)) (d1 29 (by decide) (by decide) (by decide) (by decide) (by decide) (by decide)) (d1 30 (by decide) (by decide) (by decide) (by decide) (by decide) (by decide))⟩⟩
  · rw [d1 1 (by decide) (by decide) (by decide) (by decide) (by decide) (by decide), q22 0 (by decide)]; exact a0
  · rw [d1 2 (by decide) (by decide) (by decide) (by decide) (by decide) (by decide), q22 1 (by decide)]; exact a1
  · rw [d1 1 (by decide) (by decide) (by decide) (by decide) (by decide) (by decide), q22 4 (by decide)]; exact a2
  · rw [d1 1 (by decide) (by decide) (by decide) (by decide) (by decide) (by decide), q22 5 (by decide)]; exact a3
  · rw [d1 1 (by decide) (by decide) (by decide) (by decide) (by decide) (by decide), q22 6 (by decide)]; exact a4
  · rw [e5, h3, m3]
  · rw [q22 1 (by decide)]; exact ta2
  · rw [q22 6 (by decide)]; exact ta3.1
  · rw [q22 4 (by decide)]; exact ta3.2
  · rw [e6]
    rcases Nat.lt_or_ge k c with e | e
    · obtain ⟨k1, k2, k3⟩ := m4 k e
      have r0 := h4 k 0 e (by omega)
      have s0 := k2 0 (by omega)
      rw [Nat.add_zero] at r0 s0
      rw [r0, h4 k 1 e (by omega), h4 k 2 e (by omega), h4 k 3 e (by omega), h4 k 4 e (by omega), k1, s0, k2 1 (by omega), k2 2 (by omega), k2 3 (by omega), h1 25 (by decide) (by decide), h1 26 (by decide) (by decide)]
      exact tr k e
    · obtain ⟨k', rfl⟩ : ∃ k', k = c + k' := ⟨k - c, by omega⟩
      obtain ⟨b0, b1, b2, b3, b4⟩ := h5 k' (by omega)
      obtain ⟨⟨c0, c1, c2, c3, c4⟩, -⟩ := m5 k' (by omega)
      have ej : 60 * j + (i + k' * 5) = 60 * j + i + 5 * k' := by omega
      have i0 := it (i + k' * 5) (by omega)
      have i1 := it (i + k' * 5 + 1) (by omega)
      have i2 := it (i + k' * 5 + 2) (by omega)
      have i3 := it (i + k' * 5 + 3) (by omega)
      have i4 := it (i + k' * 5 + 4) (by omega)
      rw [show 60 * j + (i + k' * 5) = 60 * j + i + 5 * k' by omega] at i0
      rw [show 60 * j + (i + k' * 5 + 1) = 60 * j + i + 5 * k' + 1 by omega] at i1
      rw [show 60 * j + (i + k' * 5 + 2) = 60 * j + i + 5 * k' + 2 by omega] at i2
      rw [show 60 * j + (i + k' * 5 + 3) = 60 * j + i + 5 * k' + 3 by omega] at i3
      rw [show 60 * j + (i + k' * 5 + 4) = 60 * j + i + 5 * k' + 4 by omega] at i4
      rw [b0, b1, b2, b3, b4, c0, c1, c2, c3, c4, i0, i1, i2, i3, i4]
      exact ⟨rfl, rfl, rfl, rfl, rfl⟩
  · rw [e5, h2 2 (by decide), tf.1 k hk]
    have key : (decide (k < c) && decide (0 < g 27 k)) = (decide (k < c + n) && decide (0 < g2 27 k)) := by
      rcases Nat.lt_or_ge k c with e | e
      · have e1 : g2 27 k = g 27 k := (m4 k e).2.2.trans (congrFun (h1 27 (by decide) (by decide)) k)
        have e2 : k < c + n := Nat.lt_add_right n e
        rw [e1, decide_eq_true e, decide_eq_true e2]
      · have e1 : ¬ k < c := Nat.not_lt.mpr e
        rw [decide_eq_false e1, Bool.false_and]
        rcases Nat.lt_or_ge k (c + n) with e2 | e2
        · have e3 := (m5 (k - c) (by omega)).2
          rw [Nat.add_sub_cancel' e] at e3
          have e4 : ¬ (0 : Int32) < g2 27 k := by rw [e3]; decide
          rw [decide_eq_false e4, Bool.and_false]
        · rw [decide_eq_false (Nat.not_lt.mpr e2), Bool.false_and]
    exact key
  · rcases Nat.lt_or_ge k c with e | e
    · have e1 : g2 27 k = g 27 k := (m4 k e).2.2.trans (congrFun (h1 27 (by decide) (by decide)) k)
      rw [e1]; exact tc k e
    · have e3 := (m5 (k - c) (by omega)).2
      rw [Nat.add_sub_cancel' e] at e3
      exact ⟨0, Nat.zero_le cj, e3⟩
theorem y_finds {a b i n r : Int32} {g1 : am_G} {l5 l6 l7 : Option Value} (t : T g B c f) (m : MFinds g c a b i n r g1) (h : ∀ g2 c' f', T g2 B c' f' → Q (some (.int r)) LY g2) : am (d + 3) 104 0 [some (.ref 22), some (.int a), some (.int b), some (.int i), some (.int n), l5, l6, l7] [] LY g1 0 0 none Q := by
  obtain ⟨⟨hc, -⟩, ⟨I, I2⟩, -, -, -, -, -, -, ts, ti⟩ := id t
  have hl : ∀ j, j < 2 → ¬ g 28 j < 0 ∨ g 28 j = -1 := fun j hj => (ts j hj).2.2
  have inc : ∀ cnt, cnt ≤ 12 → am_in2 (nI cnt) 0 12 = true := fun cnt hcnt => by
    rw [show am_in2 (nI cnt) 0 12 = am_ir (nI cnt) 13 from in_ir (k := 12) (by decide)]
    exact am_ir_in (k := 13) (by omega) (by decide)
  rcases m with ⟨e, hr, hg⟩ | ⟨j, cnt, ms, ⟨hj, ej, eb, hcnt, en, hms, es⟩, m⟩
  · subst hr; subst hg
    refine m_finds_x I2 hc t.c7 hl (fun _ => h _ _ _ t) (fun j hj ej eb en _ => ?_) (fun j cnt ms hj ej eb hcnt en _ _ _ _ => ?_) (fun j cnt ms i' hj ej eb hcnt en _ _ _ _ _ => ?_)
    · rw [ej, ir2 hj, eb, en] at e; cases e
    · rw [ej, ir2 hj, eb, en, inc cnt hcnt] at e; cases e
    · rw [ej, ir2 hj, eb, en, inc cnt hcnt] at e; cases e
  · have bad : ¬ (am_ir a 2 && (am_ir b 2 && am_in2 n 0 12)) = false := by
      rw [ej, ir2 hj, eb, en, inc cnt hcnt]; decide
    have sj : ∀ j', j' < 2 → a = nI j' → j = j' := fun j' hj' ej' => nI_inj2 hj hj' (ej.symm.trans ej')
    have sn : ∀ cnt', cnt' ≤ 12 → n = nI cnt' → cnt = cnt' := fun cnt' h1 h2 => (nI_eq (by omega) (by omega)).mp (en.symm.trans h2)
    rcases m with ⟨tk, hr, hg⟩ | ⟨tk, ⟨hi, hr, hg⟩ | ⟨i', ei, hi', ⟨⟨k, hk, ek⟩, hr, hg⟩ | ⟨hall, ⟨hfull, hr, hg⟩ | ⟨hroom, hr, J, L1⟩⟩⟩⟩
    · subst hr; subst hg
      refine m_finds_x I2 hc t.c7 hl (fun z => absurd z bad) (fun j' hj' ej' _ _ _ => ?_) (fun j' cnt' ms' hj' ej' _ _ _ _ _ tk' _ => ?_) (fun j' cnt' ms' i' hj' ej' _ _ _ _ _ tk' _ _ => ?_)
      · have := sj j' hj' ej'; subst this; exact h _ _ _ t
      · have := sj j' hj' ej'; subst this; rw [tk'] at tk; exact absurd tk (by decide)
      · have := sj j' hj' ej'; subst this; rw [tk'] at tk; exact absurd tk (by decide)
    · subst hr; subst hg
      refine m_finds_x I2 hc t.c7 hl (fun z => absurd z bad) (fun j' hj' ej' _ _ tk' => ?_) (fun j' cnt' ms' hj' ej' _ _ _ _ _ tk' _ => h _ _ _ t) (fun j' cnt' ms' i' hj' ej' _ hc' en' hms' es' tk' ei' hi' => ?_)
      · have := sj j' hj' ej'; subst this; rw [tk] at tk'; exact absurd tk' (by decide)
      · have := sj j' hj' ej'; subst this
        have := sn cnt' hc' en'; subst this
        have q := (nI_eq (by omega) (by omega)).mp (es.symm.trans es')
        have := hi i' ei' (by omega)
        omega
    · subst hr; subst hg
      refine m_finds_x I2 hc t.c7 hl (fun z => absurd z bad) (fun j' hj' ej' _ _ tk' => ?_) (fun j' cnt' ms' hj' ej' _ hc' en' hms' es' tk' hi2 => ?_) (fun j' cnt' ms' i2 hj' ej' _ hc' en' hms' es' tk' ei' hi2 => ⟨fun _ => h _ _ _ t, fun z => ?_, fun z => ?_⟩)
      · have := sj j' hj' ej'; subst this; rw [tk] at tk'; exact absurd tk' (by decide)
      · have := sj j' hj' ej'; subst this
        have := sn cnt' hc' en'; subst this
        have q := (nI_eq (by omega) (by omega)).mp (es.symm.trans es')
        have := hi2 i' ei (by omega)
        omega
      · have := sj j' hj' ej'; subst this
        have := sn cnt' hc' en'; subst this
        have q := (nI_eq (by omega) (by omega)).mp (ei.symm.trans ei')
        subst q
        rw [z k hk] at ek; cases ek
      · have := sj j' hj' ej'; subst this
        have := sn cnt' hc' en'; subst this
        have q := (nI_eq (by omega) (by omega)).mp (ei.symm.trans ei')
        subst q
        rw [z k hk] at ek; cases ek
    · subst hr; subst hg
      refine m_finds_x I2 hc t.c7 hl (fun z => absurd z bad) (fun j' hj' ej' _ _ tk' => ?_) (fun j' cnt' ms' hj' ej' _ hc' en' hms' es' tk' hi2 => ?_) (fun j' cnt' ms' i2 hj' ej' _ hc' en' hms' es' tk' ei' hi2 => ⟨fun z => ?_, fun _ _ => h _ _ _ t, fun _ hr' => ?_⟩)
      · have := sj j' hj' ej'; subst this; rw [tk] at tk'; exact absurd tk' (by decide)
      · have := sj j' hj' ej'; subst this
        have := sn cnt' hc' en'; subst this
        have q := (nI_eq (by omega) (by omega)).mp (es.symm.trans es')
        have := hi2 i' ei (by omega)
        omega
      · have := sj j' hj' ej'; subst this
        have := sn cnt' hc' en'; subst this
        have q := (nI_eq (by omega) (by omega)).mp (ei.symm.trans ei')
        subst q
        obtain ⟨k, hk, ek⟩ := z
        rw [hall k hk] at ek; cases ek
      · have := sn cnt' hc' en'; subst this
        omega
    · subst hr
      have o : ∀ k, 22 ≤ k → g1 k = g k := fun k hk => L1.1 k (by omega) (by omega)
      refine m_finds_x (I2.hi o) hc (by rw [o 22 (by decide)]; exact t.c7) (by rw [o 28 (by decide)]; exact hl) (fun z => absurd z bad) (fun j' hj' ej' _ _ tk' => ?_) (fun j' cnt' ms' hj' ej' _ hc' en' hms' es' tk' hi2 => ?_) (fun j' cnt' ms' i2 hj' ej' _ hc' en' hms' es' tk' ei' hi2 => ⟨fun z => ?_, fun _ hr' => ?_, fun _ _ g2 J2 L2 => ?_⟩)
      · have := sj j' hj' ej'; subst this; rw [o 28 (by decide), tk] at tk'; exact absurd tk' (by decide)
      · have := sj j' hj' ej'; subst this
        have := sn cnt' hc' en'; subst this
        rw [o 29 (by decide)] at es'
        have q := (nI_eq (by omega) (by omega)).mp (es.symm.trans es')
        have := hi2 i' ei (by omega)
        omega
      · have := sj j' hj' ej'; subst this
        have := sn cnt' hc' en'; subst this
        have q := (nI_eq (by omega) (by omega)).mp (ei.symm.trans ei')
        subst q
        obtain ⟨k, hk, ek⟩ := z
        rw [o 22 (by decide), o 30 (by decide), hall k hk] at ek; cases ek
      · have := sn cnt' hc' en'; subst this
        omega
      · have := sj j' hj' ej'; subst this
        have := sn cnt' hc' en'; subst this
        have q := (nI_eq (by omega) (by omega)).mp (ei.symm.trans ei')
        subst q
        exact h _ _ _ (t.laid hroom hj hms es hi' J J2 L1 L2)
end OPX
