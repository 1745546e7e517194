section MOG
variable {d : Nat} {L : am_L} {g : am_G} {bc bs : Nat} {sx : am_S} {Q : am_Q}
theorem nI_lt' {a b : Nat} (h : a < b) (hb : b < 2 ^ 31 := by omega) : nI a < nI b := by
  rw [Int32.lt_iff_toInt_lt, nI_toInt (by omega), nI_toInt hb]
  omega
def bcN (x : Int32) : Nat → Nat
  | 0 => 0
  | k + 1 => bcN x k + (bt x k).toNat
theorem bit01 {x : Int32} {k : Nat} (hk : k < 32) : (x >>> (nI k &&& 31)) &&& 1 = nI (bt x k).toNat := by
  cases hb : bt x k with
  | false => exact (bt_z hk).mpr hb
  | true =>
    have := hs_bt (x := x) hk
    rw [hb] at this
    exact of_decide_eq_true this
theorem bcN_pos {x : Int32} : ∀ {k : Nat}, 0 < bcN x k → ∃ i, i < k ∧ bt x i = true := by
  intro k
  induction k with
  | zero => intro h; exact absurd h (Nat.lt_irrefl 0)
  | succ k ih =>
    intro h
    cases hb : bt x k with
    | true => exact ⟨k, by omega, hb⟩
    | false =>
      unfold bcN at h
      rw [hb] at h
      obtain ⟨i, hi, e⟩ := ih h
      exact ⟨i, by omega, e⟩
theorem bcN_le (x : Int32) : ∀ k : Nat, bcN x k ≤ k := by
  intro k
  induction k with
  | zero => exact Nat.le_refl 0
  | succ k ih =>
    unfold bcN
    have := Bool.toNat_le (bt x k)
    omega
theorem m_many {x : Int32} {l1 l2 : Option Value} (h : Q (some (.int (nI (bcN x 20)))) L g) : am d 115 0 [some (.int x), l1, l2] [] L g 0 0 none Q := by
  have lp : ∀ (m k : Nat) (a z : Int32), k + m = 20 → z = nI k → a = nI (bcN x k) → am d 115 4 [some (.int x), some (.int a), some (.int z)] [] L g 0 0 none Q := by
    intro m
    induction m with
    | zero =>
      intro k a z hk hz ha
      have hk : k = 20 := by omega
      subst hk; subst hz; subst ha
      refine am_run_k 3 (And.intro (fun h6 => ?_) (fun hx => absurd ((show nI 20 ≤ nI 20 from nI_le (Nat.le_refl 20) (by decide))) hx))
      refine am_run_k 2 ?_
      exact h
    | succ m ih =>
      intro k a z hk hz ha
      subst hz
      refine am_run_k 3 (And.intro (fun hx => absurd hx ((nI_ge (b := 20) (by omega) (by decide)))) (fun h6 => ?_))
      refine am_run_k 10 ?_
      refine ih (k + 1) _ _ (by omega) (nI_1 k) ?_
      rw [ha, bit01 (by omega)]
      exact nI_add _ _
  refine am_run_k 4 ?_
  exact lp 20 0 _ _ rfl rfl rfl
theorem m_first {x : Int32} {l1 : Option Value} (hx : ∃ i, i < 32 ∧ bt x i = true) (h : ∀ p, p < 32 → bt x p = true → Q (some (.int (nI p))) L g) : am d 119 0 [some (.int x), l1] [] L g 0 0 none Q := by
  obtain ⟨i, hi, hb⟩ := hx
  have lp : ∀ (m k : Nat) (z : Int32), k + m = i → z = nI k → am d 119 2 [some (.int x), some (.int z)] [] L g 0 0 none Q := by
    intro m
    induction m with
    | zero =>
      intro k z hk hz
      have hk : k = i := by omega
      subst hk; subst hz
      refine am_run_k 6 (And.intro (fun h6 => ?_) (fun hx => absurd hx ((fun z => absurd ((bt_z hi).mp z) (by rw [hb]; decide)))))
      refine am_run_k 2 ?_
      exact h k hi hb
    | succ m ih =>
      intro k z hk hz
      subst hz
      refine am_run_k 6 (And.intro (fun h6 => ?_) (fun h6 => ?_))
      · refine am_run_k 2 ?_
        refine h k (by omega) ?_
        rw [bt_z (by omega)] at h6
        simpa using h6
      · refine am_run_k 2 ?_
        exact ih (k + 1) _ (by omega) (nI_1 k)
  refine am_run_k 2 ?_
  exact lp i 0 _ (by omega) rfl
theorem m_only {x : Int32} (h : ∀ r, Q (some (.int r)) L g) : am (d + 1) 121 0 [some (.int x)] [] L g 0 0 none Q := by
  refine am_run_k 2 (am_cl ?_)
  refine m_many ?_
  refine am_run_k 2 (And.intro (fun h1 => ?_) (fun h1 => ?_))
  · refine am_run_k 2 ?_
    exact h _
  · have h1 : nI (bcN x 20) = 1 := by first | exact h1 | exact Classical.not_not.mp h1
    have h2 : bcN x 20 = 1 := (nI_eq (by have := bcN_le x 20; omega) (by decide)).mp (show nI (bcN x 20) = nI 1 from h1)
    obtain ⟨i, hi, hb⟩ := bcN_pos (x := x) (k := 20) (by omega)
    refine am_run_k 2 (am_cl ?_)
    refine m_first ⟨i, by omega, hb⟩ (fun p _ _ => ?_)
    refine am_run_k 2 ?_
    exact h _
theorem in2_idx {v : Int32} {c : Nat} (hc : c ≤ 20) (h : am_in2 v 0 (nI c - 1) = true) : ∃ k, k < c ∧ v = nI k := by
  cases c with
  | zero =>
    unfold am_in2 at h
    rw [Bool.and_eq_true, decide_eq_true_iff, decide_eq_true_iff, Int32.le_iff_toInt_le, Int32.le_iff_toInt_le] at h
    have e : (nI 0 - 1 : Int32).toInt = -1 := by decide
    have e0 : (0 : Int32).toInt = 0 := by decide
    omega
  | succ c =>
    rw [nI_pred, in_ir (by omega)] at h
    exact am_ir_nI (by omega) h
theorem rowOK_q {kd a b c x : Int32} (h : rowOK kd a b c x) (h5 : (5 : Int32) ≤ kd) : ∃ q, q < 6 ∧ a = nI q := by
  rcases h with ⟨h23, -⟩ | ⟨h4, -⟩ | ⟨-, h1, -⟩ | ⟨-, h1, -⟩
  · rcases h23 with e | e <;> rw [e] at h5 <;> exact absurd h5 (by decide)
  · rw [h4] at h5; exact absurd h5 (by decide)
  · exact h1
  · exact h1
theorem rowOK_q7 {kd a b c x : Int32} (h : rowOK kd a b c x) (h7 : kd = 7) : ∃ q, q < 6 ∧ b = nI q := by
  rcases h with ⟨h23, -⟩ | ⟨h4, -⟩ | ⟨-, -, h1, -⟩ | ⟨h0, -⟩
  · rcases h23 with e | e <;> rw [e] at h7 <;> exact absurd h7 (by decide)
  · rw [h4] at h7; exact absurd h7 (by decide)
  · exact h1
  · rcases h0 with e | e | e | e <;> rw [e] at h7 <;> exact absurd h7 (by decide)
theorem m_denied {a : Int32} {l2 : Option Value} (I : VM g) (h : ∀ r g', scM g g' → Q (some (.int r)) LY g') : am (d + 2) 116 0 [some (.ref 22), some (.int a), l2] [] LY g 0 0 none Q := by
  obtain ⟨-, -, c, hc, ec, hr⟩ := id I
  refine am_run_k 7 (am_cl ?_)
  refine w_in ?_
  rw [ec]
  refine am_run_k 1 (And.intro (fun h1 => ?_) (fun h1 => ?_))
  · obtain ⟨k, hk, ea⟩ := in2_idx hc (bi_t h1)
    subst ea
    refine am_run_k 4 (And.intro (vpn (by omega)) ?_)
    rw [ncl (by omega)]
    refine am_run_k 2 (And.intro (fun h2 => ?_) (fun h2 => ?_))
    · obtain ⟨q, hq, eq⟩ := rowOK_q (hr k hk) h2
      refine am_run_k 2 (am_cl ?_)
      refine m_free (fun g1 f1 m1 => ?_)
      have fin : ∀ (g' : am_G), scM g g' → M8 g' → am (d + 2) 116 73 [some (.ref 22), some (.int (nI k)), some (.int (nI c))] [] LY g' 0 0 none Q := by
        intro g' s m
        have rk := hr k hk
        rw [← s.1 25 (by decide) (by decide) (by decide) (by decide), ← s.1 26 (by decide) (by decide) (by decide) (by decide)] at rk
        have s126 : ∀ (u : Int32) (l2 : Option Value) (g2 : am_G), scM g g2 → am (d + 2) 116 126 [some (.ref 22), some (.int (nI k)), l2] [.int u] LY g2 0 0 none Q := by
          intro u l2 g2 s2
          refine am_run_k 3 (And.intro (fun h3 => ?_) (fun h3 => ?_))
          · refine am_run_k 2 ?_
            exact h _ _ s2
          · refine am_run_k 3 ?_
            exact h _ _ s2
        refine am_run_k 3 (am_cl ?_)
        refine m_bind (by omega) rk m (fun g2 f2 m2 => ?_)
        have s2 : scM g g2 := s.tr (scM.o31 f2)
        have e25 : g2 25 = g 25 := s2.1 25 (by decide) (by decide) (by decide) (by decide)
        have e26 : g2 26 = g 26 := s2.1 26 (by decide) (by decide) (by decide) (by decide)
        refine am_run_k 7 (And.intro (vpe (nIm4 k) (by omega)) ?_)
        rw [e26, cle (nIm4 k) (by omega), eq]
        refine am_run_k 1 (am_cl ?_)
        refine m_hasWay hq (fun r _ => ?_)
        refine am_run_k 1 (And.intro (fun h3 => ?_) (fun h3 => ?_))
        · refine am_run_k 1 ?_
          exact s126 _ _ g2 s2
        · refine am_run_k 4 (And.intro (vpn (by omega)) ?_)
          rw [e25, ncl (by omega)]
          refine am_run_k 2 (And.intro (fun h4 => ?_) (fun h4 => ?_))
          · refine am_run_k 2 ?_
            exact s126 _ _ g2 s2
          · have h4 : g 25 k = 7 := by first | exact h4 | exact Classical.not_not.mp h4
            obtain ⟨q2, hq2, eq2⟩ := rowOK_q7 (hr k hk) h4
            refine am_run_k 9 (And.intro (vpe (nI41 k) (by omega)) ?_)
            rw [e26, cle (nI41 k) (by omega), eq2]
            refine am_run_k 1 (am_cl ?_)
            refine m_hasWay hq2 (fun r _ => ?_)
            refine am_run_k 1 (And.intro (fun h5 => ?_) (fun h5 => ?_))
            · refine am_run_k 1 ?_
              exact s126 _ _ g2 s2
            · refine am_run_k 2 ?_
              exact s126 _ _ g2 s2
      have lp : ∀ (m f : Nat) (x : Int32) (g' : am_G), f + m = c → x = nI f → scM g g' → M8 g' → am (d + 2) 116 35 [some (.ref 22), some (.int (nI k)), some (.int x)] [] LY g' 0 0 none Q := by
        intro m
        induction m with
        | zero =>
          intro f x g' hf hx s m8
          have hf : f = c := by omega
          subst hf; subst hx
          refine am_run_k 4 (And.intro (fun h6 => ?_) (fun hx => absurd ((show g' 22 7 ≤ nI f by rw [s.2 7 (by decide) (by decide), ec]; exact nI_le (Nat.le_refl f) (by omega))) hx))
          exact fin g' s m8
        | succ m ih =>
          intro f x g' hf hx s m8
          subst hx
          refine am_run_k 4 (And.intro (fun hx => absurd hx ((show ¬ g' 22 7 ≤ nI f by rw [s.2 7 (by decide) (by decide), ec]; exact nI_ge (by omega) (by omega)))) (fun h6 => ?_))
          have nx : ∀ g'', scM g g'' → M8 g'' → am (d + 2) 116 67 [some (.ref 22), some (.int (nI k)), some (.int (nI f))] [] LY g'' 0 0 none Q := by
            intro g'' s' m'
            refine am_run_k 2 ?_
            exact ih (f + 1) _ _ (by omega) (nI_1 f) s' m'
          refine am_run_k 4 (And.intro (vpn (by omega)) ?_)
          refine am_run_k 2 (And.intro (fun h3 => ?_) (fun h3 => ?_))
          · exact nx g' s m8
          · refine am_run_k 4 (And.intro (vpn (by omega)) ?_)
            refine am_run_k 1 (And.intro (fun h4 => ?_) (fun h4 => ?_))
            · exact nx g' s m8
            · refine am_run_k 3 (am_cl ?_)
              have rk := hr f (by omega)
              rw [← s.1 25 (by decide) (by decide) (by decide) (by decide), ← s.1 26 (by decide) (by decide) (by decide) (by decide)] at rk
              exact m_bind (by omega) rk m8 (fun g2 f2 m2 => nx g2 (s.tr (scM.o31 f2)) m2)
      refine am_run_k 2 ?_
      exact lp c 0 _ g1 (by omega) rfl (scM.o31 f1) m1
    · refine am_run_k 2 ?_
      exact h _ g scM.rf
  · refine am_run_k 2 ?_
    exact h _ g scM.rf
theorem m_suspects (I : VM g) (h : ∀ r g', scM g g' → Q (some (.int r)) LY g') : am (d + 5) 117 0 [some (.ref 22)] [] LY g 0 0 none Q := by
  refine am_run_k 3 (am_cl ?_)
  refine m_foundBits I (fun r => ?_)
  refine am_run_k 1 (am_cl ?_)
  refine m_suspectsBy I (fun r g1 s => ?_)
  refine am_run_k 1 ?_
  exact h _ _ s
theorem m_with {a : Int32} {l2 l3 : Option Value} (I : VM g) (h : ∀ r g', scM g g' → Q (some (.int r)) LY g') : am (d + 3) 118 0 [some (.ref 22), some (.int a), l2, l3] [] LY g 0 0 none Q := by
  obtain ⟨⟨n, hn1, hn2, en⟩, -, -⟩ := id I
  refine am_run_k 3 (am_cl ?_)
  refine m_isOne ⟨by omega, hn2⟩ en ?_
  refine am_run_k 1 (And.intro (fun h1 => ?_) (fun h1 => ?_))
  · obtain ⟨q, hq, ea⟩ := am_ir_nI (by omega) (bi_t h1)
    subst ea
    have lp : ∀ (m k : Nat) (x acc : Int32) (g1 : am_G), k + m = 3 → x = nI k → scM g g1 → am (d + 3) 118 14 [some (.ref 22), some (.int (nI q)), some (.int acc), some (.int x)] [] LY g1 0 0 none Q := by
      intro m
      induction m with
      | zero =>
        intro k x acc g1 hk hx s
        have hk : k = 3 := by omega
        subst hk; subst hx
        refine am_run_k 3 (And.intro (fun h6 => ?_) (fun hx => absurd ((show nI 3 ≤ nI 3 from nI_le (Nat.le_refl 3) (by decide))) hx))
        refine am_run_k 2 ?_
        exact h acc g1 s
      | succ m ih =>
        intro k x acc g1 hk hx s
        subst hx
        refine am_run_k 3 (And.intro (fun hx => absurd hx ((nI_ge (b := 3) (by omega) (by decide)))) (fun h6 => ?_))
        refine am_run_k 6 (am_cl ?_)
        refine m_foundBits (I.sc s) (fun r => ?_)
        refine am_run_k 1 (am_cl ?_)
        refine m_could (I.sc s) (by omega) (by omega) (fun r g2 _ s2 _ => ?_)
        refine am_run_k 1 (And.intro (fun h2 => ?_) (fun h2 => ?_))
        · refine am_run_k 5 ?_
          exact ih (k + 1) _ _ _ (by omega) (nI_1 k) (s.tr s2)
        · refine am_run_k 8 ?_
          exact ih (k + 1) _ _ _ (by omega) (nI_1 k) (s.tr s2)
    refine am_run_k 4 ?_
    exact lp 3 0 _ _ g rfl rfl scM.rf
  · refine am_run_k 2 ?_
    exact h _ g scM.rf
theorem m_doer (I : VM g) (h : ∀ r g', scM g g' → Q (some (.int r)) LY g') : am (d + 6) 122 0 [some (.ref 22)] [] LY g 0 0 none Q := by
  refine am_run_k 2 (am_cl ?_)
  refine m_suspects I (fun r g1 s => ?_)
  refine am_run_k 1 (am_cl ?_)
  refine m_only (fun r => ?_)
  refine am_run_k 1 ?_
  exact h _ _ s
theorem m_next {l1 l2 l3 l4 l5 : Option Value} (I : VM g) (h : ∀ r g', scM g g' → Q (some (.int r)) LY g') : am (d + 5) 123 0 [some (.ref 22), l1, l2, l3, l4, l5] [] LY g 0 0 none Q := by
  obtain ⟨-, -, c, hc, ec, hr⟩ := id I
  refine am_run_k 2 (am_cl ?_)
  refine m_foundBits I (fun bits => ?_)
  have lp : ∀ (m k : Nat) (x b2 b3 : Int32) (l5 : Option Value) (g1 : am_G), k + m = c → x = nI k → scM g g1 → am (d + 5) 123 14 [some (.ref 22), some (.int bits), some (.int b2), some (.int b3), some (.int x), l5] [] LY g1 0 0 none Q := by
    intro m
    induction m with
    | zero =>
      intro k x b2 b3 l5 g1 hk hx s
      have hk : k = c := by omega
      subst hk; subst hx
      refine am_run_k 4 (And.intro (fun h6 => ?_) (fun hx => absurd ((show g1 22 7 ≤ nI k by rw [s.2 7 (by decide) (by decide), ec]; exact nI_le (Nat.le_refl k) (by omega))) hx))
      refine am_run_k 2 ?_
      exact h _ g1 s
    | succ m ih =>
      intro k x b2 b3 l5 g1 hk hx s
      subst hx
      refine am_run_k 4 (And.intro (fun hx => absurd hx ((show ¬ g1 22 7 ≤ nI k by rw [s.2 7 (by decide) (by decide), ec]; exact nI_ge (by omega) (by omega)))) (fun h6 => ?_))
      have nx : ∀ (b2 b3 : Int32) (l5 : Option Value) (g2 : am_G), scM g g2 → am (d + 5) 123 65 [some (.ref 22), some (.int bits), some (.int b2), some (.int b3), some (.int (nI k)), l5] [] LY g2 0 0 none Q := by
        intro b2 b3 l5 g2 s2
        refine am_run_k 2 ?_
        exact ih (k + 1) _ _ _ _ g2 (by omega) (nI_1 k) s2
      refine am_run_k 4 (And.intro (vpn (by omega)) ?_)
      refine am_run_k 1 (And.intro (fun h1 => ?_) (fun h1 => ?_))
      · exact nx _ _ _ g1 s
      · refine am_run_k 7 (am_cl ?_)
        refine m_suspectsBy (I.sc s) (fun r g2 s2 => ?_)
        refine am_run_k 1 (am_cl ?_)
        refine m_many ?_
        refine am_run_k 3 (And.intro (fun h2 => ?_) (fun h2 => ?_))
        · exact nx _ _ _ g2 (s.tr s2)
        · refine am_run_k 3 (And.intro (fun h3 => ?_) (fun h3 => ?_))
          · exact nx _ _ _ g2 (s.tr s2)
          · refine am_run_k 4 ?_
            exact nx _ _ _ g2 (s.tr s2)
  refine am_run_k 7 ?_
  exact lp c 0 _ _ _ _ g (by omega) rfl scM.rf
theorem sh_pow : ∀ c, c ≤ 12 → am_sh (nI c) = nI (2 ^ c) := by decide +kernel
theorem m_leastSet {l1 l2 : Option Value} (I : VM g) (h : ∀ r g', scM g g' → Q (some (.int r)) LY g') : am (d + 5) 124 0 [some (.ref 22), l1, l2] [] LY g 0 0 none Q := by
  obtain ⟨-, -, c, hc, ec, hr⟩ := id I
  refine am_run_k 4 (And.intro (fun h1 => ?_) (fun h1 => ?_))
  · have hc12 : c ≤ 12 := by
      have h1 : g 22 7 ≤ nI 12 := h1
      rw [ec] at h1
      rcases Nat.lt_or_ge 12 c with e | e
      · exact absurd h1 (nI_ge e (by omega))
      · exact e
    have hp : 2 ^ c ≤ 4096 := (by have := Nat.pow_le_pow_right (n := 2) (by decide) hc12; exact this)
    have out : ∀ (m k : Nat) (x : Int32) (l2 : Option Value) (g1 : am_G), k + m = c + 1 → x = nI k → scM g g1 → am (d + 5) 124 14 [some (.ref 22), some (.int x), l2] [] LY g1 0 0 none Q := by
      intro m
      induction m with
      | zero =>
        intro k x l2 g1 hk hx s
        have hk : k = c + 1 := by omega
        subst hk; subst hx
        refine am_run_k 4 (And.intro (fun h6 => ?_) (fun hx => absurd ((show g1 22 7 < nI (c + 1) by rw [s.2 7 (by decide) (by decide), ec]; exact nI_lt' (by omega))) hx))
        refine am_run_k 2 ?_
        exact h _ g1 s
      | succ m ih =>
        intro k x l2 g1 hk hx s
        subst hx
        refine am_run_k 4 (And.intro (fun hx => absurd hx ((show ¬ g1 22 7 < nI k by rw [s.2 7 (by decide) (by decide), ec, fa_nlt]; exact nI_le (by omega) (by omega)))) (fun h6 => ?_))
        have inn : ∀ (m2 j : Nat) (y : Int32) (g2 : am_G), j + m2 = 2 ^ c → y = nI j → scM g g2 → am (d + 5) 124 24 [some (.ref 22), some (.int (nI k)), some (.int y)] [] LY g2 0 0 none Q := by
          intro m2
          induction m2 with
          | zero =>
            intro j y g2 hj hy s2
            have hj : j = 2 ^ c := by omega
            subst hj; subst hy
            have e : am_sh (g2 22 7) = nI (2 ^ c) := by rw [s2.2 7 (by decide) (by decide), ec]; exact sh_pow c hc12
            refine am_run_k 6 (And.intro (fun h6 => ?_) (fun hx => absurd ((show am_sh (g2 22 7) ≤ nI (2 ^ c) by rw [e]; exact nI_le (Nat.le_refl _) (by omega))) hx))
            refine am_run_k 2 ?_
            exact ih (k + 1) _ _ g2 (by omega) (nI_1 k) s2
          | succ m2 ih2 =>
            intro j y g2 hj hy s2
            subst hy
            have e : am_sh (g2 22 7) = nI (2 ^ c) := by rw [s2.2 7 (by decide) (by decide), ec]; exact sh_pow c hc12
            refine am_run_k 6 (And.intro (fun hx => absurd hx ((show ¬ am_sh (g2 22 7) ≤ nI j by rw [e]; exact nI_ge (by omega) (by omega)))) (fun h6 => ?_))
            have nx : ∀ (g3 : am_G), scM g g3 → am (d + 5) 124 57 [some (.ref 22), some (.int (nI k)), some (.int (nI j))] [] LY g3 0 0 none Q := by
              intro g3 s3
              refine am_run_k 2 ?_
              exact ih2 (j + 1) _ g3 (by omega) (nI_1 j) s3
            refine am_run_k 2 (am_cl ?_)
            refine m_many ?_
            refine am_run_k 2 (And.intro (fun h2 => ?_) (fun h2 => ?_))
            · exact nx g2 s2
            · refine am_run_k 3 (am_cl ?_)
              refine m_suspectsBy (I.sc s2) (fun r g3 s3 => ?_)
              refine am_run_k 1 (am_cl ?_)
              refine m_only (fun r => ?_)
              refine am_run_k 2 (And.intro (fun h3 => ?_) (fun h3 => ?_))
              · exact nx g3 (s2.tr s3)
              · refine am_run_k 2 ?_
                exact h _ g3 (s2.tr s3)
        refine am_run_k 2 ?_
        exact inn (2 ^ c) 0 _ g1 (by omega) rfl s
    refine am_run_k 2 ?_
    exact out (c + 1) 0 _ _ g (by omega) rfl scM.rf
  · refine am_run_k 2 ?_
    exact h _ g scM.rf
theorem m_fewest {l1 : Option Value} (I : VM g) (h : ∀ r g', scM g g' → Q (some (.int r)) LY g') : am (d + 6) 125 0 [some (.ref 22), l1] [] LY g 0 0 none Q := by
  refine am_run_k 2 (am_cl ?_)
  refine m_leastSet I (fun r g1 s => ?_)
  refine am_run_k 3 (And.intro (fun h1 => ?_) (fun h1 => ?_))
  · refine am_run_k 2 (am_cl ?_)
    refine m_many ?_
    refine am_run_k 1 ?_
    exact h _ _ s
  · refine am_run_k 3 ?_
    exact h _ _ s
theorem m_least (I : VM g) (h : ∀ r g', scM g g' → Q (some (.int r)) LY g') : am (d + 6) 126 0 [some (.ref 22)] [] LY g 0 0 none Q := by
  refine am_run_k 2 (am_cl ?_)
  refine m_leastSet I (fun r g1 s => ?_)
  refine am_run_k 1 ?_
  exact h _ _ s
end MOG
