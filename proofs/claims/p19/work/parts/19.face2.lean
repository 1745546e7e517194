section FAD
variable {d : Nat} {L : am_L} {g : am_G} {bc bs : Nat} {sx : am_S} {Q : am_Q}
theorem nI_rng {x : Int32} {a b : Nat} (h1 : nI a ≤ x) (h2 : x ≤ nI b) (hb : b + 1 < 2 ^ 31 := by decide) (ha : a < 2 ^ 31 := by decide) : ∃ m, a ≤ m ∧ m ≤ b ∧ x = nI m := by
  have e1 := Int32.le_iff_toInt_le.mp h1
  have e2 := Int32.le_iff_toInt_le.mp h2
  rw [nI_toInt ha] at e1
  rw [nI_toInt (by omega)] at e2
  have h3 : vp_in x (b + 1) := vp_in_iff.mpr ⟨by omega, by omega⟩
  obtain ⟨j, hj, e⟩ := vp_in_of h3 hb
  subst e
  rw [nI_toInt (by omega)] at e1
  exact ⟨j, by omega, by omega, rfl⟩
/-- the class's state, as far as its calls stand on it -/
def SL (g : am_G) : Prop := (∃ m, m ≤ 60 ∧ g 18 2 = nI m) ∧ ∃ m, m ≤ 60 ∧ g 20 2 = nI m
def IC (g : am_G) : Prop := VC g ∧ SL g
def frC (g g' : am_G) : Prop := ∀ k, 17 ≤ k → g' k = g k
theorem frC.rf {g : am_G} : frC g g := fun _ _ => rfl
theorem IC.sc {g g' : am_G} (h : IC g) (s : scC g g') : IC g' := ⟨h.1.sc s, by unfold SL; rw [s 18 (by omega), s 20 (by omega)]; exact h.2⟩
theorem frC.sc {g g' : am_G} (s : scC g g') : frC g g' := fun k hk => s k (by omega)
theorem frC.up {g : am_G} {k i : Nat} {x : Int32} (hk : k < 17) : frC g (am_up g k i x) := fun j hj => am_up_ne (by omega)
theorem frC.tr {g g1 g2 : am_G} (h : frC g g1) (h2 : frC g1 g2) : frC g g2 := fun k hk => (h2 k hk).trans (h k hk)
theorem SL.fr {g g' : am_G} (h : SL g) (s : frC g g') : SL g' := by unfold SL; rw [s 18 (by omega), s 20 (by omega)]; exact h
theorem VC.of {g g' : am_G} (h : VC g) (e1 : g' 1 = g 1) (e5 : g' 5 = g 5) (e6 : g' 6 = g 6) (e7 : g' 7 = g 7) : VC g' := by
  unfold VC rowsC ordC at *
  rw [e1, e5, e6, e7]
  exact h
theorem f_people {n : Int32} (I : IC g) (h : ∀ r g', IC g' → frC g g' → Q (some (.int r)) LY g') : am (d + 2) 50 0 [some (.ref 0), some (.int n), none] [] LY g 0 0 none Q := by
  obtain ⟨c, hc, e51, hr, hrest⟩ := id I.1.2.2
  refine am_run_k 3 (And.intro (fun h1 => ?_) (fun h1 => ?_))
  · refine am_run_k 2 ?_
    exact h _ g I frC.rf
  · refine am_run_k 3 (And.intro (fun h2 => ?_) (fun h2 => ?_))
    · refine am_run_k 5 (And.intro (fun h3 => ?_) (fun h3 => ?_))
      · refine am_run_k 2 ?_
        exact h _ g I frC.rf
      · refine am_run_k 5 (am_cl ?_)
        refine w_nameOneFrom hc e51 ?_
        refine am_run_k 1 (And.intro (fun h4 => ?_) (fun h4 => ?_))
        · refine am_run_k 10 ?_
          obtain ⟨m, hm1, hm2, e⟩ := nI_rng (a := 2) (b := 6) (fa_nlt.mp h1) h2
          refine h _ _ ⟨⟨⟨m, hm1, hm2, ?_⟩, ?_, c, hc, ?_, ?_, ?_⟩, I.2.fr (frC.up (by decide))⟩ (frC.up (by decide))
          · rw [am_up_us]; exact e
          · obtain ⟨t, ht, et⟩ := I.1.2.1
            exact ⟨t, ht, by rw [am_up_un (by decide)]; exact et⟩
          · rw [am_up_ne (by decide)]; exact e51
          · unfold rowsC; rw [am_up_ne (by decide)]; exact hr
          · unfold ordC; rw [am_up_ne (by decide), am_up_ne (by decide)]; exact hrest
        · refine am_run_k 2 ?_
          exact h _ g I frC.rf
    · refine am_run_k 2 ?_
      exact h _ g I frC.rf
theorem f_door {a b : Int32} (I : IC g) (h : ∀ r g', IC g' → frC g g' → Q (some (.int r)) LY g') : am (d + 2) 51 0 [some (.ref 0), some (.int a), some (.int b)] [] LY g 0 0 none Q := by
  refine am_run_k 2 (am_cl ?_)
  refine w_isPlace ?_
  refine am_run_k 1 (And.intro (fun h1 => ?_) (fun h1 => ?_))
  · refine am_run_k 2 ?_
    exact h _ g I frC.rf
  · refine am_run_k 2 (am_cl ?_)
    refine w_isPlace ?_
    refine am_run_k 1 (And.intro (fun h2 => ?_) (fun h2 => ?_))
    · refine am_run_k 2 ?_
      exact h _ g I frC.rf
    · refine am_run_k 3 (And.intro (fun h3 => ?_) (fun h3 => ?_))
      · obtain ⟨i, hi, ea⟩ := am_ir_nI (k := 8) (by decide) (bi_t h1)
        obtain ⟨j, hj, eb⟩ := am_ir_nI (k := 8) (by decide) (bi_t h2)
        subst ea; subst eb
        refine am_run_k 6 (am_cl ?_)
        refine w_joined (vpn hi) ?_
        refine am_run_k 1 (And.intro (fun h4 => ?_) (fun h4 => ?_))
        · refine am_run_k 6 (And.intro (fun h5 => ?_) (fun h5 => ?_))
          · refine am_run_k 6 (am_cl ?_)
            refine w_join hi hj (fun g1 e1 e2 e3 e4 e5 => ?_)
            refine am_run_k 5 ?_
            have fr : frC g g1 := fun k hk => e1 k (by omega) (by omega) (by omega)
            exact h _ g1 ⟨I.1.of (e1 1 (by decide) (by decide) (by decide)) (e1 5 (by decide) (by decide) (by decide)) (e1 6 (by decide) (by decide) (by decide)) (e1 7 (by decide) (by decide) (by decide)), I.2.fr fr⟩ fr
          · refine am_run_k 2 ?_
            exact h _ g I frC.rf
        · refine am_run_k 2 ?_
          exact h _ g I frC.rf
      · refine am_run_k 2 ?_
        exact h _ g I frC.rf
theorem f_lies {a b : Int32} (I : IC g) (h : ∀ r g', IC g' → frC g g' → Q (some (.int r)) LY g') : am (d + 2) 52 0 [some (.ref 0), some (.int a), some (.int b), none] [] LY g 0 0 none Q := by
  refine am_run_k 2 (am_cl ?_)
  refine w_isThing ?_
  refine am_run_k 1 (And.intro (fun h1 => ?_) (fun h1 => ?_))
  · refine am_run_k 2 ?_
    exact h _ g I frC.rf
  · obtain ⟨i, hi, ea⟩ := am_ir_nI (k := 3) (by decide) (bi_t h1)
    subst ea
    refine am_run_k 2 (am_cl ?_)
    refine w_isPlace ?_
    refine am_run_k 1 (And.intro (fun h2 => ?_) (fun h2 => ?_))
    · refine am_run_k 5 (And.intro (vpn hi) ?_)
      refine am_run_k 7 (And.intro (vpn hi) ?_)
      refine am_run_k 2 ?_
      exact h _ _ ⟨I.1.of (am_up_ne (by decide)) (am_up_ne (by decide)) (am_up_ne (by decide)) (am_up_ne (by decide)), I.2.fr (frC.up (by decide))⟩ (frC.up (by decide))
    · refine am_run_k 2 ?_
      exact h _ g I frC.rf
theorem f_deed {a b c : Int32} (I : IC g) (h : ∀ r g', IC g' → frC g g' → Q (some (.int r)) LY g') : am (d + 2) 53 0 [some (.ref 0), some (.int a), some (.int b), some (.int c)] [] LY g 0 0 none Q := by
  refine am_run_k 2 (am_cl ?_)
  refine w_isPlace ?_
  refine am_run_k 1 (And.intro (fun h1 => ?_) (fun h1 => ?_))
  · refine am_run_k 2 ?_
    exact h _ g I frC.rf
  · refine am_run_k 2 (am_cl ?_)
    refine w_isTick ?_
    refine am_run_k 1 (And.intro (fun h2 => ?_) (fun h2 => ?_))
    · refine am_run_k 2 ?_
      exact h _ g I frC.rf
    · obtain ⟨t, ht, eb⟩ := am_ir_nI (k := 10) (by decide) (bi_t h2)
      subst eb
      have go : am (d + 2) 53 32 [some (.ref 0), some (.int a), some (.int (nI t)), some (.int c)] [] LY g 0 0 none Q := by
        refine am_run_k 14 ?_
        have fr : frC g (am_up (am_up (am_up g 1 4 a) 1 5 (nI t)) 1 6 c) := ((frC.up (by decide)).tr (frC.up (by decide))).tr (frC.up (by decide))
        refine h _ _ ⟨⟨?_, ⟨t, ht, ?_⟩, ?_⟩, I.2.fr fr⟩ fr
        · obtain ⟨n, hn1, hn2, en⟩ := I.1.1
          exact ⟨n, hn1, hn2, by rw [am_up_un (by decide), am_up_un (by decide), am_up_un (by decide)]; exact en⟩
        · rw [am_up_un (by decide), am_up_us]
        · have := I.1.2.2
          unfold rowsC ordC at *
          rw [am_up_ne (by decide), am_up_ne (by decide), am_up_ne (by decide), am_up_ne (by decide), am_up_ne (by decide), am_up_ne (by decide), am_up_ne (by decide), am_up_ne (by decide), am_up_ne (by decide)]
          exact this
      refine am_run_k 3 (And.intro (fun h3 => ?_) (fun h3 => ?_))
      · exact go
      · refine am_run_k 4 (am_cl ?_)
        refine w_isPerson ?_
        refine am_run_k 1 (And.intro (fun h4 => ?_) (fun h4 => ?_))
        · exact go
        · refine am_run_k 2 ?_
          exact h _ g I frC.rf
theorem f_told {a : Int32} (h : ∀ r, Q (some (.int r)) LY g) : am d 54 0 [some (.ref 0), some (.int a)] [] LY g 0 0 none Q := by
  refine am_run_k 2 (And.intro (fun h1 => ?_) (fun h1 => And.intro (fun h2 => ?_) (fun h2 => And.intro (fun h3 => ?_) (fun h3 => And.intro (fun h4 => ?_) (fun h4 => And.intro (fun h5 => ?_) (fun h5 => ?_))))))
  · refine am_run_k 4 ?_
    exact h _
  · refine am_run_k 4 ?_
    exact h _
  · refine am_run_k 5 (And.intro (fun h6 => ?_) (fun h6 => ?_))
    · refine am_run_k 4 ?_
      exact h _
    · refine am_run_k 3 ?_
      exact h _
  · refine am_run_k 4 ?_
    exact h _
  · refine am_run_k 5 ?_
    exact h _
  · refine am_run_k 2 ?_
    exact h _
theorem rowOK_of {n : Nat} {kd a b c x : Int32} (hn : n ≤ 6) (h : fdB (nI n) kd a b c x = true) : rowOK kd a (am_kb kd b) (am_kc kd c) (am_kx kd x) := by
  unfold fdB at h
  have big : ∀ {y : Int32} {k m : Nat}, k ≤ m → k < 2 ^ 31 → am_ir y (nI k) = true → ∃ j, j < m ∧ y = nI j := fun hk hk2 hy => by
    obtain ⟨j, hj, e⟩ := am_ir_nI hk2 hy
    exact ⟨j, by omega, e⟩
  split at h
  · rename_i h23
    simp only [fd2, Bool.and_eq_true] at h
    refine Or.inl ⟨h23, am_ir_nI (k := 3) (by decide) h.1, ?_⟩
    obtain ⟨t, ht, e⟩ := am_ir_nI (k := 10) (by decide) h.2
    refine ⟨t, ht, ?_⟩
    unfold am_kb
    rw [if_neg (by rcases h23 with e | e <;> rw [e] <;> decide)]
    exact e
  · split at h
    · rename_i h4
      exact Or.inr (Or.inl ⟨h4, big hn (by omega) h⟩)
    · split at h
      · rename_i h7
        simp only [fd7, Bool.and_eq_true] at h
        refine Or.inr (Or.inr (Or.inl ⟨h7, big hn (by omega) h.1, ?_, ?_, ?_⟩))
        · unfold am_kb
          rw [if_neg (by rw [h7]; decide)]
          exact big hn (by omega) h.2.1
        · unfold am_kc
          rw [if_neg (by rw [h7]; decide)]
          exact am_ir_nI (k := 8) (by decide) h.2.2.2.1
        · unfold am_kx
          rw [if_neg (by rw [h7]; decide)]
          exact am_ir_nI (k := 10) (by decide) h.2.2.2.2
      · rename_i n23 n4 n7
        simp only [fd0, Bool.and_eq_true] at h
        have hk : kd = 0 ∨ kd = 1 ∨ kd = 5 ∨ kd = 6 := by
          obtain ⟨j, hj, e⟩ := am_ir_nI (k := 8) (by decide) h.1
          rcases (show j = 0 ∨ j = 1 ∨ j = 2 ∨ j = 3 ∨ j = 4 ∨ j = 5 ∨ j = 6 ∨ j = 7 by omega) with q | q | q | q | q | q | q | q <;> subst q
          · exact Or.inl e
          · exact Or.inr (Or.inl e)
          · exact absurd (Or.inl e) n23
          · exact absurd (Or.inr e) n23
          · exact absurd e n4
          · exact Or.inr (Or.inr (Or.inl e))
          · exact Or.inr (Or.inr (Or.inr e))
          · exact absurd e n7
        have nm : am_nm kd = 3 := by rcases hk with e | e | e | e <;> rw [e] <;> decide
        refine Or.inr (Or.inr (Or.inr ⟨hk, big hn (by omega) h.2.1, ?_, ?_⟩))
        · unfold am_kb
          rw [nm, if_neg (by decide)]
          exact am_ir_nI (k := 8) (by decide) h.2.2.1
        · unfold am_kc
          rw [nm, if_neg (by decide)]
          exact am_ir_nI (k := 10) (by decide) h.2.2.2
theorem am_add_row {n : Nat} {kd a b c x : Int32} {k j : Nat} (hk : k < n) (hj : j < 5) : am_add g n kd a b c x 6 (k * 5 + j) = g 6 (k * 5 + j) := by
  unfold am_add
  rw [am_up_ne (by decide), am_up_un (by omega), am_up_un (by omega), am_up_un (by omega), am_up_un (by omega), am_up_un (by omega)]
theorem am_add_ne {n : Nat} {kd a b c x : Int32} {k : Nat} (h5 : k ≠ 5) (h6 : k ≠ 6) : am_add g n kd a b c x k = g k := by
  unfold am_add
  rw [am_up_ne h5, am_up_ne h6, am_up_ne h6, am_up_ne h6, am_up_ne h6, am_up_ne h6]
theorem am_add_5 {n : Nat} {kd a b c x : Int32} {j : Nat} (hj : j ≠ 1) : am_add g n kd a b c x 5 j = g 5 j := by
  unfold am_add
  rw [am_up_un hj, am_up_ne (by decide), am_up_ne (by decide), am_up_ne (by decide), am_up_ne (by decide), am_up_ne (by decide)]
theorem am_add_new {n : Nat} {kd a b c x : Int32} : am_add g n kd a b c x 6 (n * 5) = kd ∧ am_add g n kd a b c x 6 (n * 5 + 1) = a ∧ am_add g n kd a b c x 6 (n * 5 + 2) = am_kb kd b ∧ am_add g n kd a b c x 6 (n * 5 + 3) = am_kc kd c ∧ am_add g n kd a b c x 6 (n * 5 + 4) = am_kx kd x := by
  unfold am_add
  refine ⟨?_, ?_, ?_, ?_, ?_⟩
  · rw [am_up_ne (by decide), am_up_un (by omega), am_up_un (by omega), am_up_un (by omega), am_up_un (by omega), am_up_us]
  · rw [am_up_ne (by decide), am_up_un (by omega), am_up_un (by omega), am_up_un (by omega), am_up_us]
  · rw [am_up_ne (by decide), am_up_un (by omega), am_up_un (by omega), am_up_us]
  · rw [am_up_ne (by decide), am_up_un (by omega), am_up_us]
  · rw [am_up_ne (by decide), am_up_us]
theorem VC.add {n : Nat} {kd a b c x : Int32} (v : VC g) (hn : n < 20) (e51 : g 5 1 = nI n) (hr : rowOK kd a (am_kb kd b) (am_kc kd c) (am_kx kd x)) : VC (am_add g n kd a b c x) := by
  obtain ⟨v1, v2, c0, hc, e, hrow, f, hf, e54, ho⟩ := v
  have hcn : c0 = n := (nI_eq (by omega) (by omega)).mp (e.symm.trans e51)
  subst hcn
  refine ⟨by rw [am_add_ne (by decide) (by decide)]; exact v1, by rw [am_add_ne (by decide) (by decide)]; exact v2, c0 + 1, by omega, by unfold am_add; rw [am_up_us], ?_, f, hf, by rw [am_add_5 (by decide)]; exact e54, ?_⟩
  · intro k hk
    rcases Nat.lt_succ_iff_lt_or_eq.mp hk with q | q
    · have h0 := am_add_row (g := g) (n := c0) (kd := kd) (a := a) (b := b) (c := c) (x := x) (k := k) (j := 0) q (by omega)
      rw [Nat.add_zero] at h0
      rw [h0, am_add_row q (by omega), am_add_row q (by omega), am_add_row q (by omega), am_add_row q (by omega)]
      exact hrow k q
    · subst q
      obtain ⟨n0, n1, n2, n3, n4⟩ := am_add_new (g := g) (n := k) (kd := kd) (a := a) (b := b) (c := c) (x := x)
      rw [n0, n1, n2, n3, n4]
      exact hr
  · unfold ordC at *
    rw [am_add_ne (by decide) (by decide)]
    refine ⟨fun i hi => ?_, ho.2⟩
    obtain ⟨q, hq, eq⟩ := ho.1 i hi
    exact ⟨q, by omega, eq⟩
theorem frC.add {n : Nat} {kd a b c x : Int32} : frC g (am_add g n kd a b c x) := fun k hk => am_add_ne (by omega) (by omega)
theorem cnt_lt {n : Nat} {m : Nat} {x : Int32} (e : x = nI n) (hn : n < 2 ^ 31) (hm : m < 2 ^ 31 := by decide) (h : x < nI m) : n < m := by subst e; exact (nI_ltI hn hm).mp h
theorem f_find {kd a b c x : Int32} (I : IC g) (h : ∀ r g', IC g' → frC g g' → Q (some (.int r)) LY g') : am (d + 2) 55 0 [some (.ref 0), some (.int kd), some (.int a), some (.int b), some (.int c), some (.int x)] [] LY g 0 0 none Q := by
  obtain ⟨n, hn1, hn2, e13⟩ := id I.1.1
  obtain ⟨cc, hc, e51, -⟩ := id I.1.2.2
  refine am_run_k 8 (am_cl ?_)
  refine w_isFind ?_
  refine am_run_k 1 (And.intro (fun h1 => ?_) (fun h1 => ?_))
  · refine am_run_k 6 (And.intro (fun h2 => ?_) (fun h2 => ?_))
    · refine am_run_k 9 (am_cl ?_)
      have hcc : cc < 20 := cnt_lt (m := 20) e51 (by omega) (by decide) h2
      refine w_add hcc e51 ?_
      refine am_run_k 7 ?_
      have hb := bi_t h1
      rw [e13] at hb
      exact h _ _ ⟨I.1.add hcc e51 (rowOK_of hn2 hb), I.2.fr frC.add⟩ frC.add
    · refine am_run_k 2 ?_
      exact h _ g I frC.rf
  · refine am_run_k 2 ?_
    exact h _ g I frC.rf
theorem f_clear (I : IC g) (h : ∀ r g', IC g' → frC g g' → Q (some (.int r)) LY g') : am (d + 2) 59 0 [some (.ref 0), none] [] LY g 0 0 none Q := by
  refine am_run_k 9 (am_cl ?_)
  refine w_forget ?_
  refine am_run_k 2 ?_
  have fr : frC g (am_fgt g) := ((frC.up (by decide)).tr (frC.up (by decide))).tr (frC.up (by decide))
  refine h _ _ ⟨⟨?_, ?_, 0, by omega, ?_, fun k hk => absurd hk (by omega), 0, by omega, ?_, fun i hi => absurd hi (by omega), fun i j hi hj => absurd hj (by omega)⟩, I.2.fr fr⟩ fr
  · unfold am_fgt; rw [am_up_ne (by decide), am_up_ne (by decide), am_up_ne (by decide)]; exact I.1.1
  · unfold am_fgt; rw [am_up_ne (by decide), am_up_ne (by decide), am_up_ne (by decide)]; exact I.1.2.1
  · unfold am_fgt; rw [am_up_un (by decide), am_up_un (by decide), am_up_us]; rfl
  · unfold am_fgt; rw [am_up_us]; rfl
theorem l_29_5 {find : Int32} {b : Int32} {c f : Nat} {g0 : am_G} (hc : c ≤ 20) (hf : f ≤ 20) (e54 : g0 5 4 = nI f) (ho : ordC g0 c f) (K : ∀ (j : Nat) (x : Int32) (g : am_G), j ≤ f → (∀ k, k ≠ 7 → g k = g0 k) → ordC g c j → (∀ i, i < j → g 7 i ≠ find) → am (d + 1) 29 47 [some (.ref 5), some (.int find), some (.int b), some (.int (nI j)), some (.int x)] [] LY g 0 0 none Q) : ∀ (n i j : Nat) (x y : Int32) (g : am_G), i + n = f → j ≤ i → x = nI j → y = nI i → (∀ k, k ≠ 7 → g k = g0 k) → (∀ p, i ≤ p → g 7 p = g0 7 p) → (∃ m : Nat → Nat, (∀ a, a < j → m a < i ∧ g 7 a = g0 7 (m a)) ∧ ∀ a a2, a < a2 → a2 < j → m a < m a2) → (∀ a, a < j → g 7 a ≠ find) → am (d + 1) 29 5 [some (.ref 5), some (.int find), some (.int b), some (.int x), some (.int y)] [] LY g 0 0 none Q := by
  intro n
  induction n with
  | zero =>
    intro i j x y g hi hj hx hy h1 h2 h3 h4
    have hi : i = f := by omega
    subst hi; subst hx; subst hy
    have f54 : g 5 4 = nI i := by rw [h1 5 (by decide)]; exact e54
    refine am_run_k 4 (And.intro (fun h6 => ?_) (fun hx => absurd ((show g 5 4 ≤ nI i by rw [f54]; exact nI_le (Nat.le_refl i) (by omega))) hx))
    obtain ⟨m, hm1, hm2⟩ := h3
    refine K j _ g hj h1 ⟨fun a ha => ?_, fun a a2 ha ha2 => ?_⟩ h4
    · rw [(hm1 a ha).2]; exact ho.1 _ (hm1 a ha).1
    · rw [(hm1 a (by omega)).2, (hm1 a2 ha2).2]; exact ho.2 _ _ (hm2 a a2 ha ha2) (hm1 a2 ha2).1
  | succ n ih =>
    intro i j x y g hi hj hx hy h1 h2 h3 h4
    subst hx; subst hy
    have f54 : g 5 4 = nI f := by rw [h1 5 (by decide)]; exact e54
    refine am_run_k 4 (And.intro (fun hx => absurd hx ((show ¬ g 5 4 ≤ nI i by rw [f54]; exact nI_ge (by omega) (by omega)))) (fun h6 => ?_))
    refine am_run_k 4 (And.intro (vpn (by omega)) ?_)
    obtain ⟨m, hm1, hm2⟩ := h3
    refine am_run_k 2 (And.intro (fun h7 => ?_) (fun h7 => ?_))
    · refine am_run_k 2 ?_
      exact ih (i + 1) j _ _ g (by omega) (by omega) rfl (nI_1 i) h1 (fun p hp => h2 p (by omega)) ⟨m, fun a ha => ⟨Nat.lt_succ_of_lt (hm1 a ha).1, (hm1 a ha).2⟩, hm2⟩ h4
    · refine am_run_k 7 (And.intro (vpn (by omega)) ?_)
      refine am_run_k 1 (And.intro (vpn (by omega)) ?_)
      refine am_run_k 3 ?_
      rw [ncl (by omega)] at h7
      have ex : (nI i).toNatClampNeg = i := ncl (by omega)
      have ej : (nI j).toNatClampNeg = j := ncl (by omega)
      rw [ex, ej]
      refine ih (i + 1) (j + 1) _ _ _ (by omega) (by omega) (nI_1 j) (nI_1 i) (fun k hk => by rw [am_up_ne hk]; exact h1 k hk) (fun p hp => by rw [am_up_un (by omega)]; exact h2 p (by omega)) ⟨fun a => if a = j then i else m a, fun a ha => ?_, fun a a2 ha ha2 => ?_⟩ (fun a ha => ?_)
      · dsimp only
        by_cases e : a = j
        · subst e
          rw [if_pos rfl, am_up_us]
          exact ⟨by omega, h2 i (Nat.le_refl i)⟩
        · rw [if_neg e, am_up_un e]
          exact ⟨Nat.lt_succ_of_lt (hm1 a (by omega)).1, (hm1 a (by omega)).2⟩
      · dsimp only
        by_cases e : a2 = j
        · subst e
          rw [if_pos rfl, if_neg (by omega)]
          exact (hm1 a (by omega)).1
        · rw [if_neg e, if_neg (by omega)]
          exact hm2 a a2 ha (by omega)
      · by_cases e : a = j
        · subst e
          rw [am_up_us]; exact h7
        · rw [am_up_un e]; exact h4 a (by omega)
theorem ordC.room {c j find : Nat} (ho : ordC g c j) (hc : c ≤ 20) (hfind : find < c) (hn : ∀ i, i < j → g 7 i ≠ nI find) : j + 1 ≤ c := by
  have hv : ∀ i, i < j → (g 7 i).toNatClampNeg < c ∧ g 7 i = nI (g 7 i).toNatClampNeg := by
    intro i hi
    obtain ⟨q, hq, e⟩ := ho.1 i hi
    rw [e, ncl (by omega)]
    exact ⟨hq, rfl⟩
  refine fb_holes c (j + 1) (fun i => if i = j then find else (g 7 i).toNatClampNeg) (fun i hi => ?_) (fun i i2 hi hi2 => ?_)
  · split
    · exact hfind
    · exact (hv i (by omega)).1
  · rw [if_neg (by omega)]
    split
    · intro e
      exact hn i (by omega) (by rw [(hv i (by omega)).2, e])
    · intro e
      exact ho.2 i i2 hi (by omega) (by rw [(hv i (by omega)).2, (hv i2 (by omega)).2, e])
theorem w_setFound {fd c f : Nat} {b : Int32} (hc : c ≤ 20) (hf : f ≤ 20) (hfd : fd < c) (e54 : g 5 4 = nI f) (ho : ordC g c f) (h : ∀ (g' : am_G) (f' : Nat), (∀ k, k ≠ 5 → k ≠ 7 → g' k = g k) → (∀ j, j ≠ 2 → j ≠ 4 → g' 5 j = g 5 j) → f' ≤ 20 → g' 5 4 = nI f' → ordC g' c f' → Q none LY g') : am (d + 1) 29 0 [some (.ref 5), some (.int (nI fd)), some (.int b), none, none] [] LY g 0 0 none Q := by
  refine am_run_k 4 ?_
  refine l_29_5 (g0 := g) hc hf e54 ho (fun j x g1 hj h1 h2 h3 => ?_) f 0 0 _ _ g (Nat.zero_add f) (Nat.le_refl 0) rfl rfl (fun k _ => rfl) (fun p _ => rfl) ⟨fun a => a, fun a ha => absurd ha (by omega), fun a a2 ha ha2 => absurd ha2 (by omega)⟩ (fun a ha => absurd ha (by omega))
  have hroom := h2.room hc hfd h3
  refine am_run_k 15 (And.intro (fun h4 => ?_) (fun h4 => ?_))
  · refine am_run_k 1 ?_
    refine h _ j (fun k h5 h7 => ?_) (fun i hi2 hi4 => ?_) (by omega) ?_ ?_
    · rw [am_up_ne h5, am_up_ne h5]; exact h1 k h7
    · rw [am_up_un hi2, am_up_un hi4]; rw [h1 5 (by decide)]
    · rw [am_up_un (by decide), am_up_us]
    · unfold ordC; rw [am_up_ne (by decide), am_up_ne (by decide)]; exact h2
  · refine am_run_k 6 (And.intro (vpe (n := j) (by rw [am_up_un (by decide), am_up_us]) (by omega)) ?_)
    refine am_run_k 15 ?_
    have ej : (am_up (am_up g1 5 4 (nI j)) 5 2 (g1 5 2 &&& (am_sh (nI fd) ^^^ (-1))) 5 4) = nI j := by rw [am_up_un (by decide), am_up_us]
    refine h _ (j + 1) (fun k h5 h7 => ?_) (fun i hi2 hi4 => ?_) (by omega) ?_ ?_
    · rw [am_up_ne h5, am_up_ne h5, am_up_ne h7, am_up_ne h5, am_up_ne h5]; exact h1 k h7
    · rw [am_up_un hi2, am_up_un hi4, am_up_ne (by decide), am_up_un hi2, am_up_un hi4]; rw [h1 5 (by decide)]
    · rw [am_up_un (by decide), am_up_us, am_up_ne (by decide), am_up_un (by decide), am_up_us]; exact nI_1 j
    · unfold ordC
      rw [am_up_ne (by decide), am_up_ne (by decide)]
      rw [am_up_un (k := 5) (i := 2) (j := 4) (by decide), am_up_us, ncl (by omega)]
      rw [am_up_at, am_up_ne (by decide), am_up_ne (by decide)]
      refine ⟨fun i hi => ?_, fun i i2 hi hi2 => ?_⟩
      · by_cases e : i = j
        · exact ⟨fd, hfd, by simp [upd, e]⟩
        · obtain ⟨q, hq, eq⟩ := h2.1 i (by omega)
          exact ⟨q, hq, by simp [upd, e]; exact eq⟩
      · have n1 : i ≠ j := by omega
        by_cases e : i2 = j
        · simp [upd, e, n1]; exact h3 i (by omega)
        · simp [upd, e, n1]; exact h2.2 i i2 hi (by omega)
theorem f_found {a b : Int32} (I : IC g) (h : ∀ r g', IC g' → frC g g' → Q (some (.int r)) LY g') : am (d + 2) 57 0 [some (.ref 0), some (.int a), some (.int b), none] [] LY g 0 0 none Q := by
  obtain ⟨c, hc, e51, hr, f, hf, e54, ho⟩ := id I.1.2.2
  refine am_run_k 5 (am_cl ?_)
  refine w_holds ?_
  refine am_run_k 1 (And.intro (fun h1 => ?_) (fun h1 => ?_))
  · have hb := bi_t h1
    rw [e51] at hb
    obtain ⟨fd, hfd, ea⟩ := am_ir_nI (by omega) hb
    subst ea
    refine am_run_k 5 (am_cl ?_)
    refine w_isFound ?_
    have fin : ∀ u : Int32, am (d + 2) 57 35 [some (.ref 0), some (.int (nI fd)), some (.int b), none] [.int u] LY g 0 0 none Q := by
      intro u
      refine am_run_k 7 (am_cl ?_)
      refine w_setFound hc hf hfd e54 ho (fun g1 f1 q1 q2 q3 q4 q5 => ?_)
      refine am_run_k 2 ?_
      have fr : frC g g1 := fun k hk => q1 k (by omega) (by omega)
      refine h _ g1 ⟨⟨by rw [q1 1 (by decide) (by decide)]; exact I.1.1, by rw [q1 1 (by decide) (by decide)]; exact I.1.2.1, c, hc, by rw [q2 1 (by decide) (by decide)]; exact e51, ?_, f1, q3, q4, q5⟩, I.2.fr fr⟩ fr
      unfold rowsC; rw [q1 6 (by decide) (by decide)]; exact hr
    refine am_run_k 1 (And.intro (fun h2 => ?_) (fun h2 => ?_))
    · refine am_run_k 1 ?_
      exact fin _
    · refine am_run_k 2 ?_
      exact fin _
  · refine am_run_k 2 ?_
    exact h _ g I frC.rf
theorem f_about {a b : Int32} (I : IC g) (h : ∀ r, Q (some (.int r)) LY g) : am (d + 2) 58 0 [some (.ref 0), some (.int a), some (.int b)] [] LY g 0 0 none Q := by
  obtain ⟨c, hc, e51, -⟩ := id I.1.2.2
  refine am_run_k 5 (am_cl ?_)
  refine w_holds ?_
  refine am_run_k 1 (And.intro (fun h1 => ?_) (fun h1 => ?_))
  · refine am_run_k 2 ?_
    exact h _
  · have hb := bi_t h1
    rw [e51] at hb
    obtain ⟨fd, hfd, ea⟩ := am_ir_nI (by omega) hb
    subst ea
    refine am_run_k 2 (And.intro (fun h2 => ?_) (fun h2 => ?_))
    · refine am_run_k 2 ?_
      exact h _
    · refine am_run_k 3 (And.intro (fun h3 => ?_) (fun h3 => ?_))
      · refine am_run_k 3 (And.intro (fun h4 => ?_) (fun h4 => ?_))
        · obtain ⟨m, hm1, hm2, eb⟩ := nI_rng (a := 0) (b := 5) (fa_nlt.mp h2) h3
          subst eb
          have hm5 : m ≠ 5 := fun q => h4 (by rw [q]; rfl)
          have ei : nI fd * 5 + nI m = nI (fd * 5 + m) := by rw [nIm5]; exact nI_add _ _
          refine am_run_k 10 (And.intro (vpe ei (by omega)) ?_)
          refine am_run_k 1 ?_
          exact h _
        · refine am_run_k 5 (am_cl ?_)
          refine w_isFound ?_
          refine am_run_k 1 (And.intro (fun h5 => ?_) (fun h5 => ?_))
          · refine am_run_k 2 ?_
            exact h _
          · refine am_run_k 3 ?_
            exact h _
      · refine am_run_k 2 ?_
        exact h _
end FAD
