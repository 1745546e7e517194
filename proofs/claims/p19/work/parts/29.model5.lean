section MOH
variable {d : Nat} {L : am_L} {g : am_G} {bc bs : Nat} {sx : am_S} {Q : am_Q}
def JN (g : am_G) : Prop := ∀ p q, p < 8 → q < 8 → bt (g 23 p) q = true → bt (g 23 q) p = true
def TH (g : am_G) : Prop := ∀ w, w < 3 → ∃ z, z < 8 ∧ g 24 w = nI z
def SM (g : am_G) : Prop := ∀ j, j < 2 → ∃ m, m ≤ 60 ∧ g 29 j = nI m
/-- the model's state, as far as its calls stand on it -/
def IM (g : am_G) : Prop := VM g ∧ JN g ∧ TH g ∧ SM g
def frM (g g' : am_G) : Prop := ∀ k, (k < 22 ∨ k = 28 ∨ k = 29) → g' k = g k
theorem frM.rf {g : am_G} : frM g g := fun _ _ => rfl
theorem frM.tr {g g1 g2 : am_G} (h : frM g g1) (h2 : frM g1 g2) : frM g g2 := fun k hk => (h2 k hk).trans (h k hk)
theorem frM.up {g : am_G} {k i : Nat} {x : Int32} (hk : 22 ≤ k ∧ k ≠ 28 ∧ k ≠ 29) : frM g (am_up g k i x) := fun j hj => am_up_ne (by omega)
theorem frM.sc {g g' : am_G} (s : scM g g') : frM g g' := fun k hk => s.1 k (by omega) (by omega) (by omega) (by omega)
theorem VM.of {g g' : am_G} (h : VM g) (e0 : g' 22 0 = g 22 0) (e5 : g' 22 5 = g 22 5) (e7 : g' 22 7 = g 22 7) (e25 : g' 25 = g 25) (e26 : g' 26 = g 26) : VM g' := by
  unfold VM rowsM at *; rw [e0, e5, e7, e25, e26]; exact h
theorem JN.of {g g' : am_G} (h : JN g) (e : g' 23 = g 23) : JN g' := by unfold JN; rw [e]; exact h
theorem TH.of {g g' : am_G} (h : TH g) (e : g' 24 = g 24) : TH g' := by unfold TH; rw [e]; exact h
theorem SM.of {g g' : am_G} (h : SM g) (e : g' 29 = g 29) : SM g' := by unfold SM; rw [e]; exact h
theorem IM.sc {g g' : am_G} (I : IM g) (s : scM g g') : IM g' := ⟨I.1.sc s, I.2.1.of (s.1 23 (by decide) (by decide) (by decide) (by decide)), I.2.2.1.of (s.1 24 (by decide) (by decide) (by decide) (by decide)), I.2.2.2.of (s.1 29 (by decide) (by decide) (by decide) (by decide))⟩
theorem in2_rng {v : Int32} {a b : Nat} (hb : b + 1 < 2 ^ 31) (ha : a < 2 ^ 31) (h : am_in2 v (nI a) (nI b) = true) : ∃ m, a ≤ m ∧ m ≤ b ∧ v = nI m := by
  unfold am_in2 at h
  rw [Bool.and_eq_true, decide_eq_true_iff, decide_eq_true_iff] at h
  exact nI_rng h.1 h.2 hb ha
theorem m_people {v : Int32} {l2 l3 l4 : Option Value} (I : IM g) (h : ∀ r g', IM g' → frM g g' → Q (some (.int r)) LY g') : am (d + 2) 88 0 [some (.ref 22), some (.int v), l2, l3, l4] [] LY g 0 0 none Q := by
  obtain ⟨-, ht, c, hc, ec, hr⟩ := id I.1
  refine am_run_k 4 (am_cl ?_)
  refine w_in ?_
  refine am_run_k 1 (And.intro (fun h1 => ?_) (fun h1 => ?_))
  · obtain ⟨n, hn1, hn2, ev⟩ := in2_rng (a := 2) (b := 6) (by decide) (by decide) (bi_t h1)
    have lp : ∀ (m k : Nat) (x b : Int32) (l4 : Option Value), k + m = c → x = nI k → am (d + 2) 88 28 [some (.ref 22), some (.int v), some (.int b), some (.int x), l4] [] LY g 0 0 none Q := by
      intro m
      induction m with
      | zero =>
        intro k x b l4 hk hx
        have hk : k = c := by omega
        subst hk; subst hx
        refine am_run_k 4 (And.intro (fun h6 => ?_) (fun hx => absurd ((show g 22 7 ≤ nI k by rw [ec]; exact nI_le (Nat.le_refl k) (by omega))) hx))
        refine am_run_k 2 (And.intro (fun h2 => ?_) (fun h2 => ?_))
        · refine am_run_k 8 ?_
          refine h _ _ ⟨⟨⟨n, hn1, hn2, ?_⟩, ?_, k, hc, ?_, ?_⟩, I.2.1.of (am_up_ne (by decide)), I.2.2.1.of (am_up_ne (by decide)), I.2.2.2.of (am_up_ne (by decide))⟩ (frM.up (by decide))
          · rw [am_up_us]; exact ev
          · rw [am_up_un (by decide)]; exact ht
          · rw [am_up_un (by decide)]; exact ec
          · unfold rowsM; rw [am_up_ne (by decide), am_up_ne (by decide)]; exact hr
        · refine am_run_k 2 ?_
          exact h _ g I frM.rf
      | succ m ih =>
        intro k x b l4 hk hx
        subst hx
        refine am_run_k 4 (And.intro (fun hx => absurd hx ((show ¬ g 22 7 ≤ nI k by rw [ec]; exact nI_ge (by omega) (by omega)))) (fun h6 => ?_))
        have s114 : ∀ (u b w : Int32), am (d + 2) 88 114 [some (.ref 22), some (.int v), some (.int b), some (.int (nI k)), some (.int w)] [.int u] LY g 0 0 none Q := by
          intro u b w
          refine am_run_k 3 ?_
          exact ih (k + 1) _ _ _ (by omega) (nI_1 k)
        have s109 : ∀ (b w : Int32), am (d + 2) 88 109 [some (.ref 22), some (.int v), some (.int b), some (.int (nI k)), some (.int w)] [] LY g 0 0 none Q := by
          intro b w
          refine am_run_k 2 ?_
          exact s114 _ _ _
        have s113 : ∀ (b w : Int32), am (d + 2) 88 113 [some (.ref 22), some (.int v), some (.int b), some (.int (nI k)), some (.int w)] [] LY g 0 0 none Q := by
          intro b w
          refine am_run_k 1 ?_
          exact s114 _ _ _
        have s84 : ∀ (b w : Int32), am (d + 2) 88 84 [some (.ref 22), some (.int v), some (.int b), some (.int (nI k)), some (.int w)] [] LY g 0 0 none Q := by
          intro b w
          refine am_run_k 4 (And.intro (vpn (by omega)) ?_)
          refine am_run_k 2 (And.intro (fun h2 => ?_) (fun h2 => ?_))
          · exact s113 b w
          · refine am_run_k 8 (And.intro (vpe (nI41 k) (by omega)) ?_)
            refine am_run_k 2 (And.intro (fun h3 => ?_) (fun h3 => ?_))
            · exact s113 b w
            · exact s109 b w
        have s61 : ∀ (u : Int32) (l4 : Option Value), am (d + 2) 88 61 [some (.ref 22), some (.int v), some (.int b), some (.int (nI k)), l4] [.int u] LY g 0 0 none Q := by
          intro u l4
          refine am_run_k 3 (And.intro (fun h2 => ?_) (fun h2 => ?_))
          · exact s109 b _
          · refine am_run_k 2 (And.intro (fun h3 => ?_) (fun h3 => ?_))
            · exact s84 b _
            · refine am_run_k 6 (And.intro (vpe (nIm4 k) (by omega)) ?_)
              refine am_run_k 2 (And.intro (fun h4 => ?_) (fun h4 => ?_))
              · exact s109 b _
              · exact s84 b _
        refine am_run_k 4 (And.intro (vpn (by omega)) ?_)
        refine am_run_k 2 (And.intro (fun h2 => ?_) (fun h2 => ?_))
        · refine am_run_k 1 ?_
          exact s61 _ _
        · refine am_run_k 4 (And.intro (vpn (by omega)) ?_)
          refine am_run_k 2 (And.intro (fun h3 => ?_) (fun h3 => ?_))
          · refine am_run_k 1 ?_
            exact s61 _ _
          · refine am_run_k 2 ?_
            exact s61 _ _
    have s25 : ∀ (u : Int32), am (d + 2) 88 25 [some (.ref 22), some (.int v), l2, l3, l4] [.int u] LY g 0 0 none Q := by
      intro u
      refine am_run_k 3 ?_
      exact lp c 0 _ _ _ (by omega) rfl
    refine am_run_k 4 (And.intro (fun h2 => ?_) (fun h2 => ?_))
    · refine am_run_k 1 ?_
      exact s25 _
    · refine am_run_k 2 ?_
      exact s25 _
  · refine am_run_k 2 ?_
    exact h _ g I frM.rf
/-- a door's two bits -/
def jnA (g : am_G) (a b : Nat) : am_G := am_up (am_up (am_up g 23 a (g 23 a ||| am_sh (nI b))) 23 b (am_up g 23 a (g 23 a ||| am_sh (nI b)) 23 b ||| am_sh (nI a))) 22 1 (g 22 1 + 1)
theorem jnA_bt {a b p q : Nat} (ha : a < 8) (hb : b < 8) (hq : q < 32) (hab : a ≠ b) : bt (jnA g a b 23 p) q = (bt (g 23 p) q || (decide (p = a) && decide (q = b) || decide (p = b) && decide (q = a))) := by
  unfold jnA
  rw [am_up_ne (by decide)]
  by_cases e : p = b
  · subst e
    rw [am_up_us, am_up_un (Ne.symm hab), b_or, b_sh hq (by omega)]
    simp [Ne.symm hab]
  · rw [am_up_un e]
    by_cases e2 : p = a
    · subst e2
      rw [am_up_us, b_or, b_sh hq (by omega)]
      simp [e]
    · rw [am_up_un e2]
      simp [e, e2]
theorem m_join {a b : Nat} (ha : a < 8) (hb : b < 8) (h : Q none LY (jnA g a b)) : am d 90 0 [some (.ref 22), some (.int (nI a)), some (.int (nI b))] [] LY g 0 0 none Q := by
  refine am_run_k 5 (And.intro (vpn ha) ?_)
  refine am_run_k 5 (And.intro (vpn ha) ?_)
  refine am_run_k 5 (And.intro (vpn hb) ?_)
  refine am_run_k 5 (And.intro (vpn hb) ?_)
  rw [ncl (by omega), ncl (by omega)]
  refine am_run_k 7 ?_
  exact h
theorem jnA_JN {a b : Nat} (ha : a < 8) (hb : b < 8) (hab : a ≠ b) (j : JN g) : JN (jnA g a b) := by
  intro p q hp hq e
  rw [jnA_bt ha hb (by omega) hab] at e ⊢
  simp only [Bool.or_eq_true, Bool.and_eq_true, decide_eq_true_iff] at e ⊢
  rcases e with e | ⟨e1, e2⟩ | ⟨e1, e2⟩
  · exact Or.inl (j p q hp hq e)
  · exact Or.inr (Or.inr ⟨e2, e1⟩)
  · exact Or.inr (Or.inl ⟨e2, e1⟩)
theorem jnA_ne {a b k : Nat} (h2 : k ≠ 22) (h3 : k ≠ 23) : jnA g a b k = g k := by
  unfold jnA; rw [am_up_ne h2, am_up_ne h3, am_up_ne h3]
theorem jnA_22 {a b i : Nat} (h2 : i ≠ 1) : jnA g a b 22 i = g 22 i := by
  unfold jnA; rw [am_up_un h2, am_up_ne (by decide), am_up_ne (by decide)]
theorem m_door {a b : Int32} (I : IM g) (h : ∀ r g', IM g' → frM g g' → Q (some (.int r)) LY g') : am (d + 2) 89 0 [some (.ref 22), some (.int a), some (.int b)] [] LY g 0 0 none Q := by
  refine am_run_k 2 (am_cl ?_)
  refine m_isPlace ?_
  refine am_run_k 1 (And.intro (fun h1 => ?_) (fun h1 => ?_))
  · refine am_run_k 2 ?_
    exact h _ g I frM.rf
  · refine am_run_k 2 (am_cl ?_)
    refine m_isPlace ?_
    refine am_run_k 1 (And.intro (fun h2 => ?_) (fun h2 => ?_))
    · refine am_run_k 2 ?_
      exact h _ g I frM.rf
    · obtain ⟨i, hi, ea⟩ := am_ir_nI (k := 8) (by decide) (bi_t h1)
      obtain ⟨j, hj, eb⟩ := am_ir_nI (k := 8) (by decide) (bi_t h2)
      subst ea; subst eb
      refine am_run_k 3 (And.intro (fun h3 => ?_) (fun h3 => ?_))
      · have hij : i ≠ j := fun e => h3 (by rw [e])
        refine am_run_k 4 (And.intro (vpn hi) ?_)
        refine am_run_k 6 (And.intro (fun h4 => ?_) (fun h4 => ?_))
        · refine am_run_k 4 (And.intro (fun h5 => ?_) (fun h5 => ?_))
          · refine am_run_k 4 (am_cl ?_)
            refine m_join hi hj ?_
            refine am_run_k 3 ?_
            refine h _ _ ⟨I.1.of (jnA_22 (by decide)) (jnA_22 (by decide)) (jnA_22 (by decide)) (jnA_ne (by decide) (by decide)) (jnA_ne (by decide) (by decide)), jnA_JN hi hj hij I.2.1, I.2.2.1.of (jnA_ne (by decide) (by decide)), I.2.2.2.of (jnA_ne (by decide) (by decide))⟩ (fun k hk => jnA_ne (by omega) (by omega))
          · refine am_run_k 2 ?_
            exact h _ g I frM.rf
        · refine am_run_k 2 ?_
          exact h _ g I frM.rf
      · refine am_run_k 2 ?_
        exact h _ g I frM.rf
theorem m_lies {a b : Int32} {l3 : Option Value} (I : IM g) (h : ∀ r g', IM g' → frM g g' → Q (some (.int r)) LY g') : am (d + 2) 91 0 [some (.ref 22), some (.int a), some (.int b), l3] [] LY g 0 0 none Q := by
  refine am_run_k 4 (am_cl ?_)
  refine w_in ?_
  refine am_run_k 1 (And.intro (fun h1 => ?_) (fun h1 => ?_))
  · refine am_run_k 2 ?_
    exact h _ g I frM.rf
  · obtain ⟨w, -, hw, ea⟩ := in2_rng (a := 0) (b := 2) (by decide) (by decide) (bi_t h1)
    subst ea
    refine am_run_k 2 (am_cl ?_)
    refine m_isPlace ?_
    refine am_run_k 1 (And.intro (fun h2 => ?_) (fun h2 => ?_))
    · obtain ⟨z, hz, eb⟩ := am_ir_nI (k := 8) (by decide) (bi_t h2)
      subst eb
      refine am_run_k 4 (And.intro (vpn (by omega)) ?_)
      refine am_run_k 6 (And.intro (vpn (by omega)) ?_)
      refine am_run_k 2 ?_
      rw [ncl (by omega)]
      refine h _ _ ⟨I.1.of (by rw [am_up_ne (by decide)]) (by rw [am_up_ne (by decide)]) (by rw [am_up_ne (by decide)]) (am_up_ne (by decide)) (am_up_ne (by decide)), I.2.1.of (am_up_ne (by decide)), fun u hu => ?_, I.2.2.2.of (am_up_ne (by decide))⟩ (frM.up (by decide))
      by_cases e : u = w
      · exact ⟨z, hz, by rw [e, am_up_us]⟩
      · rw [am_up_un e]; exact I.2.2.1 u hu
    · refine am_run_k 2 ?_
      exact h _ g I frM.rf
theorem m_deed {a b c : Int32} (I : IM g) (h : ∀ r g', IM g' → frM g g' → Q (some (.int r)) LY g') : am (d + 2) 92 0 [some (.ref 22), some (.int a), some (.int b), some (.int c)] [] LY g 0 0 none Q := by
  refine am_run_k 2 (am_cl ?_)
  refine m_isPlace ?_
  refine am_run_k 1 (And.intro (fun h1 => ?_) (fun h1 => ?_))
  · refine am_run_k 2 ?_
    exact h _ g I frM.rf
  · refine am_run_k 2 (am_cl ?_)
    refine m_isTick ?_
    refine am_run_k 1 (And.intro (fun h2 => ?_) (fun h2 => ?_))
    · refine am_run_k 2 ?_
      exact h _ g I frM.rf
    · obtain ⟨t, ht, eb⟩ := am_ir_nI (k := 10) (by decide) (bi_t h2)
      refine am_run_k 7 (am_cl ?_)
      refine w_in ?_
      refine am_run_k 1 (And.intro (fun h3 => ?_) (fun h3 => ?_))
      · refine am_run_k 11 ?_
        obtain ⟨v1, -, v3⟩ := id I.1
        refine h _ _ ⟨⟨?_, ⟨t, ht, ?_⟩, ?_⟩, I.2.1.of ?_, I.2.2.1.of ?_, I.2.2.2.of ?_⟩ (((frM.up (by decide)).tr (frM.up (by decide))).tr (frM.up (by decide)))
        · rw [am_up_un (by decide), am_up_un (by decide), am_up_un (by decide)]; exact v1
        · rw [am_up_un (by decide), am_up_us]; exact eb
        · unfold rowsM
          rw [am_up_un (by decide), am_up_un (by decide), am_up_un (by decide), am_up_ne (by decide), am_up_ne (by decide), am_up_ne (by decide), am_up_ne (by decide), am_up_ne (by decide), am_up_ne (by decide)]
          exact v3
        · rw [am_up_ne (by decide), am_up_ne (by decide), am_up_ne (by decide)]
        · rw [am_up_ne (by decide), am_up_ne (by decide), am_up_ne (by decide)]
        · rw [am_up_ne (by decide), am_up_ne (by decide), am_up_ne (by decide)]
      · refine am_run_k 2 ?_
        exact h _ g I frM.rf
theorem m_told {a : Int32} (h : ∀ r, Q (some (.int r)) LY g) : am d 93 0 [some (.ref 22), some (.int a)] [] LY g 0 0 none Q := by
  refine am_run_k 2 (And.intro (fun h1 => ?_) (fun h1 => And.intro (fun h2 => ?_) (fun h2 => And.intro (fun h3 => ?_) (fun h3 => And.intro (fun h4 => ?_) (fun h4 => And.intro (fun h5 => ?_) (fun h5 => ?_))))))
  · refine am_run_k 3 ?_
    exact h _
  · refine am_run_k 3 ?_
    exact h _
  · refine am_run_k 3 (And.intro (fun h6 => ?_) (fun h6 => ?_))
    · refine am_run_k 3 ?_
      exact h _
    · refine am_run_k 3 ?_
      exact h _
  · refine am_run_k 3 ?_
    exact h _
  · refine am_run_k 3 ?_
    exact h _
  · refine am_run_k 2 ?_
    exact h _
theorem mput_ne {n k : Nat} {kd a b c x : Int32} (h1 : k ≠ 22) (h2 : k ≠ 25) (h3 : k ≠ 26) (h4 : k ≠ 27) : am_mput g n kd a b c x k = g k := by
  unfold am_mput
  rw [am_up_ne h1, am_up_ne h4, am_up_ne h3, am_up_ne h3, am_up_ne h3, am_up_ne h3, am_up_ne h2]
theorem mput_22 {n k : Nat} {kd a b c x : Int32} (h1 : k ≠ 7) : am_mput g n kd a b c x 22 k = g 22 k := by
  unfold am_mput
  rw [am_up_un h1, am_up_ne (by decide), am_up_ne (by decide), am_up_ne (by decide), am_up_ne (by decide), am_up_ne (by decide), am_up_ne (by decide)]
theorem mput_25 {n k : Nat} {kd a b c x : Int32} (h1 : k ≠ n) : am_mput g n kd a b c x 25 k = g 25 k := by
  unfold am_mput
  rw [am_up_ne (by decide), am_up_ne (by decide), am_up_ne (by decide), am_up_ne (by decide), am_up_ne (by decide), am_up_ne (by decide), am_up_un h1]
theorem mput_25s {n : Nat} {kd a b c x : Int32} : am_mput g n kd a b c x 25 n = kd := by
  unfold am_mput
  rw [am_up_ne (by decide), am_up_ne (by decide), am_up_ne (by decide), am_up_ne (by decide), am_up_ne (by decide), am_up_ne (by decide), am_up_us]
theorem mput_26 {n k : Nat} {kd a b c x : Int32} (h1 : k < 4 * n) : am_mput g n kd a b c x 26 k = g 26 k := by
  unfold am_mput
  rw [am_up_ne (by decide), am_up_ne (by decide), am_up_un (by omega), am_up_un (by omega), am_up_un (by omega), am_up_un (by omega), am_up_ne (by decide)]
theorem mput_260 {n : Nat} {kd a b c x : Int32} : am_mput g n kd a b c x 26 (4 * n) = a := by
  unfold am_mput
  rw [am_up_ne (by decide), am_up_ne (by decide), am_up_un (by omega), am_up_un (by omega), am_up_un (by omega), am_up_us]
theorem mput_261 {n : Nat} {kd a b c x : Int32} : am_mput g n kd a b c x 26 (4 * n + 1) = am_kb kd b := by
  unfold am_mput
  rw [am_up_ne (by decide), am_up_ne (by decide), am_up_un (by omega), am_up_un (by omega), am_up_us]
theorem mput_262 {n : Nat} {kd a b c x : Int32} : am_mput g n kd a b c x 26 (4 * n + 2) = am_kc kd c := by
  unfold am_mput
  rw [am_up_ne (by decide), am_up_ne (by decide), am_up_un (by omega), am_up_us]
theorem mput_263 {n : Nat} {kd a b c x : Int32} : am_mput g n kd a b c x 26 (4 * n + 3) = am_kx kd x := by
  unfold am_mput
  rw [am_up_ne (by decide), am_up_ne (by decide), am_up_us]
theorem VM.add {n : Nat} {kd a b c x : Int32} (v : VM g) (hn : n < 20) (e : g 22 7 = nI n) (hr : rowOK kd a (am_kb kd b) (am_kc kd c) (am_kx kd x)) : VM (am_mput g n kd a b c x) := by
  obtain ⟨v1, v2, c0, hc, e0, hrow⟩ := v
  have hcn : c0 = n := (nI_eq (by omega) (by omega)).mp (e0.symm.trans e)
  subst hcn
  refine ⟨by rw [mput_22 (by decide)]; exact v1, by rw [mput_22 (by decide)]; exact v2, c0 + 1, by omega, by unfold am_mput; rw [am_up_us], fun k hk => ?_⟩
  rcases Nat.lt_succ_iff_lt_or_eq.mp hk with q | q
  · rw [mput_25 (by omega), mput_26 (by omega), mput_26 (by omega), mput_26 (by omega), mput_26 (by omega)]
    exact hrow k q
  · subst q
    rw [mput_25s, mput_260, mput_261, mput_262, mput_263]
    exact hr
theorem IM.add {n : Nat} {kd a b c x : Int32} (I : IM g) (hn : n < 20) (e : g 22 7 = nI n) (hr : rowOK kd a (am_kb kd b) (am_kc kd c) (am_kx kd x)) : IM (am_mput g n kd a b c x) :=
  ⟨I.1.add hn e hr, I.2.1.of (mput_ne (by decide) (by decide) (by decide) (by decide)), I.2.2.1.of (mput_ne (by decide) (by decide) (by decide) (by decide)), I.2.2.2.of (mput_ne (by decide) (by decide) (by decide) (by decide))⟩
theorem frM.add {n : Nat} {kd a b c x : Int32} : frM g (am_mput g n kd a b c x) := fun k hk => mput_ne (by omega) (by omega) (by omega) (by omega)
theorem m_find {kd a b c x : Int32} (I : IM g) (h : ∀ r g', IM g' → frM g g' → Q (some (.int r)) LY g') : am (d + 3) 96 0 [some (.ref 22), some (.int kd), some (.int a), some (.int b), some (.int c), some (.int x)] [] LY g 0 0 none Q := by
  obtain ⟨⟨n, hn1, hn2, en⟩, -, cc, hc, ec, -⟩ := id I.1
  refine am_run_k 7 (am_cl ?_)
  refine m_isGood ⟨by omega, hn2⟩ en ?_
  refine am_run_k 1 (And.intro (fun h1 => ?_) (fun h1 => ?_))
  · refine am_run_k 4 (And.intro (fun h2 => ?_) (fun h2 => ?_))
    · have hcc : cc < 20 := by
        rcases Nat.lt_or_ge cc 20 with e | e
        · exact e
        · exact absurd (show g 22 7 = 20 by rw [ec, show cc = 20 by omega]; rfl) h2
      refine am_run_k 7 (am_cl ?_)
      refine m_put hcc ec ?_
      refine am_run_k 5 ?_
      exact h _ _ (I.add hcc ec (rowOK_of hn2 (bi_t h1))) frM.add
    · refine am_run_k 2 ?_
      exact h _ g I frM.rf
  · refine am_run_k 2 ?_
    exact h _ g I frM.rf
theorem m_found {a b : Int32} {l3 : Option Value} (I : IM g) (h : ∀ r g', IM g' → frM g g' → Q (some (.int r)) LY g') : am (d + 2) 97 0 [some (.ref 22), some (.int a), some (.int b), l3] [] LY g 0 0 none Q := by
  obtain ⟨-, -, c, hc, ec, -⟩ := id I.1
  refine am_run_k 7 (am_cl ?_)
  refine w_in ?_
  rw [ec]
  refine am_run_k 1 (And.intro (fun h1 => ?_) (fun h1 => ?_))
  · obtain ⟨k, hk, ea⟩ := in2_idx hc (bi_t h1)
    subst ea
    have upI : ∀ (g1 : am_G) (y : Int32), IM g1 → IM (am_up g1 27 k y) := fun g1 y I1 => ⟨I1.1.of (by rw [am_up_ne (by decide)]) (by rw [am_up_ne (by decide)]) (by rw [am_up_ne (by decide)]) (am_up_ne (by decide)) (am_up_ne (by decide)), I1.2.1.of (am_up_ne (by decide)), I1.2.2.1.of (am_up_ne (by decide)), I1.2.2.2.of (am_up_ne (by decide))⟩
    have s70 : ∀ (g1 : am_G) (u w : Int32), IM g1 → frM g g1 → am (d + 2) 97 70 [some (.ref 22), some (.int (nI k)), some (.int b), some (.int w)] [.int u, .int (nI k), .ref 27] LY g1 0 0 none Q := by
      intro g1 u w I1 f1
      refine am_run_k 1 (And.intro (vpn (by omega)) ?_)
      rw [ncl (by omega)]
      refine am_run_k 2 (And.intro (fun h2 => ?_) (fun h2 => ?_))
      · refine am_run_k 2 ?_
        exact h _ _ (upI _ _ I1) (f1.tr (frM.up (by decide)))
      · refine am_run_k 3 ?_
        exact h _ _ (upI _ _ I1) (f1.tr (frM.up (by decide)))
    have s51 : ∀ (g1 : am_G) (w : Int32), IM g1 → frM g g1 → am (d + 2) 97 51 [some (.ref 22), some (.int (nI k)), some (.int b), some (.int w)] [] LY g1 0 0 none Q := by
      intro g1 w I1 f1
      refine am_run_k 5 (And.intro (fun h2 => ?_) (fun h2 => ?_))
      · refine am_run_k 1 ?_
        exact s70 g1 _ _ I1 f1
      · refine am_run_k 4 (And.intro (vpn (by omega)) ?_)
        refine am_run_k 1 ?_
        exact s70 g1 _ _ I1 f1
    refine am_run_k 4 (And.intro (vpn (by omega)) ?_)
    refine am_run_k 3 (And.intro (fun h2 => ?_) (fun h2 => ?_))
    · exact s51 g _ I frM.rf
    · refine am_run_k 2 (And.intro (fun h3 => ?_) (fun h3 => ?_))
      · exact s51 g _ I frM.rf
      · refine am_run_k 12 (And.intro (vpn (by omega)) ?_)
        rw [ncl (by omega)]
        refine s51 _ _ (upI _ _ ?_) ((frM.up (by decide)).tr (frM.up (by decide)))
        exact ⟨I.1.of (am_up_un (by decide)) (am_up_un (by decide)) (am_up_un (by decide)) (am_up_ne (by decide)) (am_up_ne (by decide)), I.2.1.of (am_up_ne (by decide)), I.2.2.1.of (am_up_ne (by decide)), I.2.2.2.of (am_up_ne (by decide))⟩
  · refine am_run_k 2 ?_
    exact h _ g I frM.rf
theorem m_about {a b : Int32} (I : IM g) (h : ∀ r, Q (some (.int r)) LY g) : am (d + 2) 98 0 [some (.ref 22), some (.int a), some (.int b)] [] LY g 0 0 none Q := by
  obtain ⟨-, -, c, hc, ec, -⟩ := id I.1
  refine am_run_k 7 (am_cl ?_)
  refine w_in ?_
  rw [ec]
  refine am_run_k 1 (And.intro (fun h1 => ?_) (fun h1 => ?_))
  · refine am_run_k 2 ?_
    exact h _
  · obtain ⟨k, hk, ea⟩ := in2_idx hc (bi_t h1)
    subst ea
    refine am_run_k 4 (am_cl ?_)
    refine w_in ?_
    refine am_run_k 1 (And.intro (fun h2 => ?_) (fun h2 => ?_))
    · obtain ⟨m, -, hm, eb⟩ := in2_rng (a := 0) (b := 5) (by decide) (by decide) (bi_t h2)
      subst eb
      refine am_run_k 2 (And.intro (fun h3 => ?_) (fun h3 => ?_))
      · have hm0 : m ≠ 0 := fun e => h3 (by rw [e]; rfl)
        refine am_run_k 3 (And.intro (fun h4 => ?_) (fun h4 => ?_))
        · refine am_run_k 4 (And.intro (vpn (by omega)) ?_)
          refine am_run_k 1 (And.intro (fun h5 => ?_) (fun h5 => ?_))
          · refine am_run_k 2 ?_
            exact h _
          · refine am_run_k 3 ?_
            exact h _
        · have hm5 : m < 5 := by
            rcases Nat.lt_or_ge m 5 with e | e
            · exact e
            · exact absurd (show (5 : Int32) ≤ nI m from (show m = 5 by omega) ▸ nI_le (Nat.le_refl 5) (by decide)) h4
          have ei : (4 : Int32) * nI k + nI m - 1 = nI (4 * k + (m - 1)) := by
            rw [nIm4, nI_add, show 4 * k + m = (4 * k + (m - 1)) + 1 by omega]
            exact nI_pred _
          refine am_run_k 10 (And.intro (vpe ei (by omega)) ?_)
          refine am_run_k 2 ?_
          exact h _
      · refine am_run_k 4 (And.intro (vpn (by omega)) ?_)
        refine am_run_k 2 ?_
        exact h _
    · refine am_run_k 2 ?_
      exact h _
theorem m_clear {l1 : Option Value} (I : IM g) (h : ∀ r g', IM g' → frM g g' → Q (some (.int r)) LY g') : am d 99 0 [some (.ref 22), l1] [] LY g 0 0 none Q := by
  refine am_run_k 8 ?_
  obtain ⟨v1, v2, -⟩ := id I.1
  refine h _ _ ⟨⟨?_, ?_, 0, by omega, am_up_us, fun k hk => absurd hk (by omega)⟩, I.2.1.of (am_up_ne (by decide)), I.2.2.1.of (am_up_ne (by decide)), I.2.2.2.of (am_up_ne (by decide))⟩ (frM.up (by decide))
  · rw [am_up_un (by decide)]; exact v1
  · rw [am_up_un (by decide)]; exact v2
end MOH
