section WAY
variable {d : Nat} {L : am_L} {g : am_G} {bc bs : Nat} {sx : am_S} {Q : am_Q}
def fd2 (a b : Int32) : Bool := am_ir a 3 && am_ir b 10
def fd7 (n a b c x : Int32) : Bool := am_ir a n && (am_ir b n && (!decide (a = b) && (am_ir c 8 && am_ir x 10)))
def fd0 (n kd a b c : Int32) : Bool := am_ir kd 8 && (am_ir a n && (am_ir b 8 && am_ir c 10))
def fdB (n kd a b c x : Int32) : Bool := if kd = 2 ∨ kd = 3 then fd2 a b else if kd = 4 then am_ir a n else if kd = 7 then fd7 n a b c x else fd0 n kd a b c
theorem l_34_40 {kd a b c x : Int32} (h : Q (some (.int (am_bi (fd2 a b)))) LY g) : am (d + 1) 34 40 [some (.ref 1), some (.int kd), some (.int a), some (.int b), some (.int c), some (.int x)] [] LY g 0 0 none Q := by
  unfold fd2 at h
  refine am_run_k 2 (am_cl ?_)
  refine w_isThing ?_
  refine am_run_k 1 (And.intro (fun h1 => ?_) (fun h1 => ?_))
  · refine am_run_k 2 (And.intro (Or.inl rfl) ?_)
    rw [bi_f h1] at h
    exact h
  · refine am_run_k 2 (am_cl ?_)
    refine w_isTick ?_
    refine am_run_k 1 (And.intro (fun h2 => ?_) (fun h2 => ?_))
    · refine am_run_k 2 (And.intro (Or.inl rfl) ?_)
      rw [bi_t h1, bi_f h2] at h
      exact h
    · refine am_run_k 3 (And.intro (Or.inr rfl) ?_)
      rw [bi_t h1, bi_t h2] at h
      exact h
theorem l_34_109 {kd a b c x : Int32} (h : Q (some (.int (am_bi (fd0 (g 1 3) kd a b c)))) LY g) : am (d + 1) 34 109 [some (.ref 1), some (.int kd), some (.int a), some (.int b), some (.int c), some (.int x)] [] LY g 0 0 none Q := by
  unfold fd0 at h
  refine am_run_k 2 (And.intro (fun h6 => ?_) (fun h6 => ?_))
  · refine am_run_k 2 (And.intro (Or.inl rfl) ?_)
    rw [am_ir_f1 (fa_nle.mpr h6)] at h
    exact h
  · refine am_run_k 3 (And.intro (fun h7 => ?_) (fun h7 => ?_))
    · refine am_run_k 2 (And.intro (Or.inl rfl) ?_)
      rw [am_ir_f2 (fa_nlt.mpr h7)] at h
      exact h
    · rw [am_ir_t (fa_nlt.mp h6) (fa_nle.mp h7)] at h
      refine am_run_k 3 (am_cl ?_)
      refine w_isPerson ?_
      refine am_run_k 1 (And.intro (fun h1 => ?_) (fun h1 => ?_))
      · refine am_run_k 2 (And.intro (Or.inl rfl) ?_)
        rw [bi_f h1] at h
        exact h
      · refine am_run_k 2 (am_cl ?_)
        refine w_isPlace ?_
        refine am_run_k 1 (And.intro (fun h2 => ?_) (fun h2 => ?_))
        · refine am_run_k 2 (And.intro (Or.inl rfl) ?_)
          rw [bi_t h1, bi_f h2] at h
          exact h
        · refine am_run_k 2 (am_cl ?_)
          refine w_isTick ?_
          refine am_run_k 1 (And.intro (fun h3 => ?_) (fun h3 => ?_))
          · refine am_run_k 2 (And.intro (Or.inl rfl) ?_)
            rw [bi_t h1, bi_t h2, bi_f h3] at h
            exact h
          · refine am_run_k 3 (And.intro (Or.inr rfl) ?_)
            rw [bi_t h1, bi_t h2, bi_t h3] at h
            exact h
theorem l_34_66 {kd a b c x : Int32} (h : Q (some (.int (am_bi (fd7 (g 1 3) a b c x)))) LY g) : am (d + 1) 34 66 [some (.ref 1), some (.int kd), some (.int a), some (.int b), some (.int c), some (.int x)] [] LY g 0 0 none Q := by
  unfold fd7 at h
  refine am_run_k 3 (am_cl ?_)
  refine w_isPerson ?_
  refine am_run_k 1 (And.intro (fun h1 => ?_) (fun h1 => ?_))
  · refine am_run_k 2 (And.intro (Or.inl rfl) ?_)
    rw [bi_f h1] at h
    exact h
  · refine am_run_k 3 (am_cl ?_)
    refine w_isPerson ?_
    refine am_run_k 1 (And.intro (fun h2 => ?_) (fun h2 => ?_))
    · refine am_run_k 2 (And.intro (Or.inl rfl) ?_)
      rw [bi_t h1, bi_f h2] at h
      exact h
    · refine am_run_k 3 (And.intro (fun h3 => ?_) (fun h3 => ?_))
      · refine am_run_k 2 (And.intro (Or.inl rfl) ?_)
        rw [bi_t h1, bi_t h2, decide_eq_true h3] at h
        exact h
      · refine am_run_k 2 (am_cl ?_)
        refine w_isPlace ?_
        refine am_run_k 1 (And.intro (fun h4 => ?_) (fun h4 => ?_))
        · refine am_run_k 2 (And.intro (Or.inl rfl) ?_)
          rw [bi_t h1, bi_t h2, decide_eq_false h3, bi_f h4] at h
          exact h
        · refine am_run_k 2 (am_cl ?_)
          refine w_isTick ?_
          refine am_run_k 1 (And.intro (fun h5 => ?_) (fun h5 => ?_))
          · refine am_run_k 2 (And.intro (Or.inl rfl) ?_)
            rw [bi_t h1, bi_t h2, decide_eq_false h3, bi_t h4, bi_f h5] at h
            exact h
          · refine am_run_k 3 (And.intro (Or.inr rfl) ?_)
            rw [bi_t h1, bi_t h2, decide_eq_false h3, bi_t h4, bi_t h5] at h
            exact h
theorem w_isFind {kd a b c x : Int32} (h : Q (some (.int (am_bi (fdB (g 1 3) kd a b c x)))) LY g) : am (d + 1) 34 0 [some (.ref 1), some (.int kd), some (.int a), some (.int b), some (.int c), some (.int x)] [] LY g 0 0 none Q := by
  unfold fdB at h
  refine am_run_k 2 (And.intro (fun h1 => ?_) (fun h1 => And.intro (fun h2 => ?_) (fun h2 => And.intro (fun h3 => ?_) (fun h3 => And.intro (fun h4 => ?_) (fun h4 => And.intro (fun h5 => ?_) (fun h5 => And.intro (fun h6 => ?_) (fun h6 => ?_)))))))
  · rw [if_pos (Or.inl h1)] at h
    exact l_34_40 h
  · rw [if_pos (Or.inr h2)] at h
    exact l_34_40 h
  · rw [if_neg (fun q => q.elim h1 h2), if_pos h3] at h
    refine am_run_k 3 (am_cl ?_)
    refine w_isPerson ?_
    refine am_run_k 1 (And.intro (bi_01 _) ?_)
    exact h
  · rw [if_neg (fun q => q.elim h1 h2), if_neg h3, if_neg (by rw [h4]; decide)] at h
    exact l_34_109 h
  · rw [if_neg (fun q => q.elim h1 h2), if_neg h3, if_neg (by rw [h5]; decide)] at h
    exact l_34_109 h
  · rw [if_neg (fun q => q.elim h1 h2), if_neg h3, if_pos h6] at h
    exact l_34_66 h
  · rw [if_neg (fun q => q.elim h1 h2), if_neg h3, if_neg h6] at h
    exact l_34_109 h
/-- a find as told, by numbers -/
def rowOK (kd a b c x : Int32) : Prop := ((kd = 2 ∨ kd = 3) ∧ (∃ w, w < 3 ∧ a = nI w) ∧ ∃ t, t < 10 ∧ b = nI t) ∨ (kd = 4 ∧ ∃ q, q < 6 ∧ a = nI q) ∨ (kd = 7 ∧ (∃ q, q < 6 ∧ a = nI q) ∧ (∃ q, q < 6 ∧ b = nI q) ∧ (∃ p, p < 8 ∧ c = nI p) ∧ ∃ t, t < 10 ∧ x = nI t) ∨ ((kd = 0 ∨ kd = 1 ∨ kd = 5 ∨ kd = 6) ∧ (∃ q, q < 6 ∧ a = nI q) ∧ (∃ p, p < 8 ∧ b = nI p) ∧ ∃ t, t < 10 ∧ c = nI t)
def rowsC (g : am_G) (c : Nat) : Prop := ∀ k, k < c → rowOK (g 6 (k * 5)) (g 6 (k * 5 + 1)) (g 6 (k * 5 + 2)) (g 6 (k * 5 + 3)) (g 6 (k * 5 + 4))
def ordC (g : am_G) (c f : Nat) : Prop := (∀ i, i < f → ∃ q, q < c ∧ g 7 i = nI q) ∧ ∀ i j, i < j → j < f → g 7 i ≠ g 7 j
/-- what the class's questions stand on -/
def VC (g : am_G) : Prop := (∃ n, 2 ≤ n ∧ n ≤ 6 ∧ g 1 3 = nI n) ∧ (∃ t, t < 10 ∧ g 1 5 = nI t) ∧ ∃ c, c ≤ 20 ∧ g 5 1 = nI c ∧ rowsC g c ∧ ∃ f, f ≤ 20 ∧ g 5 4 = nI f ∧ ordC g c f
def scC (g g' : am_G) : Prop := ∀ k, (k < 9 ∨ 14 < k) → g' k = g k
theorem scC.rf {g : am_G} : scC g g := fun _ _ => rfl
theorem scC.tr {g g1 g2 : am_G} (h : scC g g1) (h2 : scC g1 g2) : scC g g2 := fun k hk => (h2 k hk).trans (h k hk)
theorem scC.up {g g1 : am_G} {k i : Nat} {x : Int32} (h : scC g g1) (h2 : 9 ≤ k ∧ k ≤ 14) : scC g (am_up g1 k i x) := fun j hj => by rw [am_up_ne (by omega)]; exact h j hj
theorem VC.sc {g g' : am_G} (h : VC g) (s : scC g g') : VC g' := by
  have e1 := s 1 (by omega)
  have e5 := s 5 (by omega)
  have e6 := s 6 (by omega)
  have e7 := s 7 (by omega)
  unfold VC rowsC ordC at *
  rw [e1, e5, e6, e7]
  exact h
theorem w_cbt {w t : Int32} (hw : vp_in w 3) (h : ∀ r, r = 0 ∨ r = 1 → Q (some (.int r)) LY g) : am d 48 0 [some (.ref 9), some (.int w), some (.int t)] [] LY g 0 0 none Q := by
  refine am_run_k 5 (And.intro (hw) ?_)
  refine am_run_k 1 (And.intro (fun h1 => ?_) (fun h1 => ?_))
  · refine am_run_k 2 (And.intro (Or.inl rfl) ?_)
    exact h _ (Or.inl rfl)
  · refine am_run_k 5 (And.intro (hw) ?_)
    refine am_run_k 1 (And.intro (fun h2 => ?_) (fun h2 => ?_))
    · refine am_run_k 2 (And.intro (Or.inl rfl) ?_)
      exact h _ (Or.inl rfl)
    · refine am_run_k 3 (And.intro (Or.inr rfl) ?_)
      exact h _ (Or.inr rfl)
theorem nIx10 {q t : Nat} : nI q * 10 + nI t = nI (q * 10 + t) := by rw [nIm10]; exact nI_add _ _
theorem l_46_7 {q : Nat} (hq : q < 6) (h : ∀ r, r = 0 ∨ r = 1 → Q (some (.int r)) LY g) : ∀ (n t : Nat) (x s : Int32), t + n = 10 → x = nI t → am (d + 1) 46 7 [some (.ref 9), some (.ref 2), some (.int (nI q)), some (.int s), some (.int x)] [] LY g 0 0 none Q := by
  intro n
  induction n with
  | zero =>
    intro t x s hs hx
    have hs : t = 10 := by omega
    subst hs; subst hx
    refine am_run_k 3 (And.intro (fun h6 => ?_) (fun hx => absurd ((show nI 10 ≤ nI 10 from nI_le (Nat.le_refl 10) (by decide))) hx))
    refine am_run_k 2 (And.intro (fun h7 => ?_) (fun h7 => ?_))
    · refine am_run_k 2 (And.intro (Or.inl rfl) ?_)
      exact h _ (Or.inl rfl)
    · refine am_run_k 3 (And.intro (Or.inr rfl) ?_)
      exact h _ (Or.inr rfl)
  | succ n ih =>
    intro t x s hs hx
    subst hx
    refine am_run_k 3 (And.intro (fun hx => absurd hx ((nI_ge (b := 10) (by omega) (by decide)))) (fun h6 => ?_))
    refine am_run_k 3 (am_cl ?_)
    refine w_reached ?_
    refine am_run_k 8 (And.intro (vpe nIx10 (by omega)) ?_)
    refine am_run_k 4 ?_
    exact ih (t + 1) _ _ (by omega) (nI_1 t)
theorem w_fits {q : Nat} (hq : q < 6) (h : ∀ r, r = 0 ∨ r = 1 → Q (some (.int r)) LY g) : am (d + 1) 46 0 [some (.ref 9), some (.ref 2), some (.int (nI q)), none, none] [] LY g 0 0 none Q := by
  refine am_run_k 4 ?_
  exact l_46_7 hq h 10 0 0 _ rfl rfl
theorem l_47_12 {q : Nat} {w : Int32} {g0 : am_G} (hq : q < 6) (hw : vp_in w 3) (h : ∀ g', scC g0 g' → Q none LY g') : ∀ (n : Nat) (x s1 s2 : Int32) (g : am_G), n ≤ 10 → x = nI n - 1 → scC g0 g → am (d + 1) 47 12 [some (.ref 9), some (.ref 1), some (.int (nI q)), some (.int w), some (.int s1), some (.int s2), some (.int x)] [] LY g 0 0 none Q := by
  intro n
  induction n with
  | zero =>
    intro x s1 s2 g hn hx hg
    subst hx
    refine am_run_k 2 (And.intro (fun h6 => ?_) (fun hx => absurd ((show nI 0 - 1 < 0 by decide)) hx))
    refine am_run_k 1 ?_
    exact h g hg
  | succ n ih =>
    intro x s1 s2 g hn hx hg
    rw [nI_pred] at hx
    subst hx
    refine am_run_k 2 (And.intro (fun hx => absurd hx ((nI_pos (by omega)))) (fun h6 => ?_))
    refine am_run_k 12 (And.intro (vpe nIx10 (by omega)) ?_)
    refine am_run_k 2 (And.intro (vpn (by omega)) ?_)
    refine am_run_k 12 (And.intro (vpe nIx10 (by omega)) ?_)
    refine am_run_k 2 (And.intro (vpn (by omega)) ?_)
    refine am_run_k 4 (am_cl ?_)
    refine w_cbt hw (fun r hr => ?_)
    have tail : ∀ g1, scC g0 g1 → am (d + 1) 47 97 [some (.ref 9), some (.ref 1), some (.int (nI q)), some (.int w), some (.int s1), some (.int s2), some (.int (nI n))] [] LY g1 0 0 none Q := by
      intro g1 hg1
      refine am_run_k 6 (And.intro (vpn (by omega)) ?_)
      refine am_run_k 1 (am_cl ?_)
      refine w_reached ?_
      refine am_run_k 7 (And.intro (vpn (by omega)) ?_)
      refine am_run_k 1 (am_cl ?_)
      refine w_reached ?_
      refine am_run_k 3 ?_
      refine ih _ _ _ g1 (by omega) ?_ hg1
      exact (Int32.sub_eq_add_neg (nI n) 1).symm
    refine am_run_k 1 (And.intro (fun h7 => ?_) (fun h7 => ?_))
    · exact tail _ ((hg.up (by decide)).up (by decide))
    · refine am_run_k 5 (And.intro (vpn (by omega)) ?_)
      refine am_run_k 4 (And.intro (vpn (by omega)) ?_)
      refine am_run_k 5 (And.intro (hw) ?_)
      refine am_run_k 4 (And.intro (vpn (by omega)) ?_)
      exact tail _ (((hg.up (by decide)).up (by decide)).up (by decide))
theorem w_trace {q : Nat} {w : Int32} (hq : q < 6) (hw : vp_in w 3) (h : ∀ g', scC g g' → Q none LY g') : am (d + 1) 47 0 [some (.ref 9), some (.ref 1), some (.int (nI q)), some (.int w), none, none, none] [] LY g 0 0 none Q := by
  refine am_run_k 6 ?_
  exact l_47_12 hq hw h 10 _ _ _ g (by omega) rfl scC.rf
theorem l_45_10 {q n t : Nat} {y : Int32} {g0 : am_G} (hn : n ≤ 6) (ht : t < 10) (e13 : g0 1 3 = nI n) (e15 : g0 1 5 = nI t) (h : ∀ g', scC g0 g' → Q none LY g') : ∀ (m i : Nat) (x z : Int32) (lz : Option Value) (g : am_G), i + m = n → x = nI i → scC g0 g → am d 45 10 [some (.ref 9), some (.ref 1), some (.int (nI q)), some (.int y), some (.int x), lz] [] LY g 0 0 none Q := by
  intro m
  induction m with
  | zero =>
    intro i x z lz g hi hx hg
    have f13 : g 1 3 = nI n := by rw [hg 1 (by omega)]; exact e13
    have hi : i = n := by omega
    subst hi; subst hx
    refine am_run_k 4 (And.intro (fun h6 => ?_) (fun hx => absurd ((show g 1 3 ≤ nI i by rw [f13]; exact nI_le (Nat.le_refl i) (by omega))) hx))
    refine am_run_k 1 ?_
    exact h g hg
  | succ m ih =>
    intro i x z lz g hi hx hg
    subst hx
    have f13 : g 1 3 = nI n := by rw [hg 1 (by omega)]; exact e13
    have f15 : g 1 5 = nI t := by rw [hg 1 (by omega)]; exact e15
    have ei : nI i * 10 + g 1 5 = nI (i * 10 + t) := by rw [f15]; exact nIx10
    refine am_run_k 4 (And.intro (fun hx => absurd hx ((show ¬ g 1 3 ≤ nI i by rw [f13]; exact nI_ge (by omega) (by omega)))) (fun h6 => ?_))
    have tail : ∀ u : Int32, am d 45 41 [some (.ref 9), some (.ref 1), some (.int (nI q)), some (.int y), some (.int (nI i)), some (.int u)] [] LY g 0 0 none Q := by
      intro u
      refine am_run_k 10 (And.intro (vpe ei (by omega)) ?_)
      refine am_run_k 2 (And.intro (fun h7 => ?_) (fun h7 => ?_))
      · refine am_run_k 5 (And.intro (vpe ei (by omega)) ?_)
        refine am_run_k 2 ?_
        exact ih (i + 1) _ 0 _ _ (by omega) (nI_1 i) (hg.up (by decide))
      · refine am_run_k 4 (And.intro (vpe ei (by omega)) ?_)
        refine am_run_k 2 ?_
        exact ih (i + 1) _ 0 _ _ (by omega) (nI_1 i) (hg.up (by decide))
    refine am_run_k 3 (And.intro (fun h8 => ?_) (fun h8 => ?_))
    · refine am_run_k 3 ?_
      exact tail 1
    · refine am_run_k 4 (And.intro (fun h9 => ?_) (fun h9 => ?_))
      · refine am_run_k 2 ?_
        exact tail 0
      · refine am_run_k 3 ?_
        exact tail 1
theorem w_gather {q : Nat} (v : VC g) (h : ∀ g', scC g g' → Q none LY g') : am d 45 0 [some (.ref 9), some (.ref 1), some (.int (nI q)), none, none, none] [] LY g 0 0 none Q := by
  obtain ⟨⟨n, hn1, hn2, e13⟩, ⟨t, ht, e15⟩, -⟩ := v
  refine am_run_k 7 ?_
  exact l_45_10 hn2 ht e13 e15 h n 0 _ 0 _ g (by omega) rfl scC.rf
theorem nIk10 {q t : Nat} {a b : Int32} (ha : a = nI q) (hb : b = nI t) : a * 10 + b = nI (q * 10 + t) := by rw [ha, hb]; exact nIx10
theorem w_hear {k : Nat} (hk : k < 20) (hr : rowOK (g 6 (k * 5)) (g 6 (k * 5 + 1)) (g 6 (k * 5 + 2)) (g 6 (k * 5 + 3)) (g 6 (k * 5 + 4))) (h : ∀ g', scC g g' → Q none LY g') : am (d + 1) 44 0 [some (.ref 9), some (.ref 6), some (.int (nI k * 5)), none, none, none, none] [] LY g 0 0 none Q := by
  have e0 := cle (nIm5 k) (show k * 5 < 2 ^ 31 by omega)
  have e1 := cle (nI51 k) (show k * 5 + 1 < 2 ^ 31 by omega)
  have e2 := cle (nI52 k) (show k * 5 + 2 < 2 ^ 31 by omega)
  have e3 := cle (nI53 k) (show k * 5 + 3 < 2 ^ 31 by omega)
  have e4 := cle (nI54 k) (show k * 5 + 4 < 2 ^ 31 by omega)
  refine am_run_k 5 (And.intro (vpe (nI51 k) (by omega)) ?_)
  refine am_run_k 6 (And.intro (vpe (nI52 k) (by omega)) ?_)
  refine am_run_k 6 (And.intro (vpe (nI53 k) (by omega)) ?_)
  refine am_run_k 6 (And.intro (vpe (nI54 k) (by omega)) ?_)
  refine am_run_k 4 (And.intro (vpe (nIm5 k) (by omega)) ?_)
  rw [e0, e1, e2, e3, e4]
  generalize g 6 (k * 5) = kd at hr
  generalize g 6 (k * 5 + 1) = a at hr
  generalize g 6 (k * 5 + 2) = b at hr
  generalize g 6 (k * 5 + 3) = c at hr
  generalize g 6 (k * 5 + 4) = x at hr
  have s1 : scC g g := scC.rf
  rcases hr with ⟨h23, ⟨w, hw, rfl⟩, t, ht, rfl⟩ | ⟨rfl, q, hq, rfl⟩ | ⟨rfl, ⟨q, hq, rfl⟩, ⟨q2, hq2, rfl⟩, ⟨p, hp, rfl⟩, t, ht, rfl⟩ | ⟨h0, ⟨q, hq, rfl⟩, ⟨p, hp, rfl⟩, t, ht, rfl⟩
  · rcases h23 with rfl | rfl
    · refine am_run_k 1 (And.intro (fun h1 => absurd h1 (by decide)) (fun h1 => And.intro (fun h2 => ?_) (fun h2 => absurd rfl h2)))
      refine am_run_k 7 (And.intro (vpn hw) ?_)
      refine am_run_k 3 (And.intro (vpn hw) ?_)
      refine am_run_k 2 ?_
      exact h _ (s1.up (by decide))
    · refine am_run_k 1 (And.intro (fun h1 => absurd h1 (by decide)) (fun h1 => And.intro (fun h2 => absurd h2 (by decide)) (fun h2 => And.intro (fun h3 => ?_) (fun h3 => absurd rfl h3))))
      refine am_run_k 7 (And.intro (vpn hw) ?_)
      refine am_run_k 5 (And.intro (vpn hw) ?_)
      refine am_run_k 2 ?_
      exact h _ (s1.up (by decide))
  · refine am_run_k 1 (And.intro (fun h1 => absurd h1 (by decide)) (fun h1 => And.intro (fun h2 => absurd h2 (by decide)) (fun h2 => And.intro (fun h3 => absurd h3 (by decide)) (fun h3 => And.intro (fun h4 => ?_) (fun h4 => absurd rfl h4)))))
    refine am_run_k 10 ?_
    exact h _ (s1.up (by decide))
  · refine am_run_k 1 (And.intro (fun h1 => absurd h1 (by decide)) (fun h1 => And.intro (fun h2 => absurd h2 (by decide)) (fun h2 => And.intro (fun h3 => absurd h3 (by decide)) (fun h3 => And.intro (fun h4 => absurd h4 (by decide)) (fun h4 => And.intro (fun h5 => absurd h5 (by decide)) (fun h5 => And.intro (fun h6 => absurd h6 (by decide)) (fun h6 => And.intro (fun h7 => ?_) (fun h7 => absurd rfl h7))))))))
    refine am_run_k 9 (And.intro (vpe nIx10 (by omega)) ?_)
    refine am_run_k 5 (And.intro (vpe nIx10 (by omega)) ?_)
    refine am_run_k 9 (And.intro (vpe nIx10 (by omega)) ?_)
    refine am_run_k 5 (And.intro (vpe nIx10 (by omega)) ?_)
    refine am_run_k 2 ?_
    exact h _ ((s1.up (by decide)).up (by decide))
  · have b129 : am (d + 1) 44 129 [some (.ref 9), some (.ref 6), some (.int (nI k * 5)), some (.int (nI q)), some (.int (nI p)), some (.int (nI t)), some (.int x)] [] LY g 0 0 none Q := by
      refine am_run_k 9 (And.intro (vpe nIx10 (by omega)) ?_)
      refine am_run_k 7 (And.intro (vpe nIx10 (by omega)) ?_)
      refine am_run_k 2 ?_
      exact h _ (s1.up (by decide))
    have b195 : am (d + 1) 44 195 [some (.ref 9), some (.ref 6), some (.int (nI k * 5)), some (.int (nI q)), some (.int (nI p)), some (.int (nI t)), some (.int x)] [] LY g 0 0 none Q := by
      refine am_run_k 9 (And.intro (vpe nIx10 (by omega)) ?_)
      refine am_run_k 5 (And.intro (vpe nIx10 (by omega)) ?_)
      refine am_run_k 1 ?_
      exact h _ (s1.up (by decide))
    rcases h0 with rfl | rfl | rfl | rfl
    · refine am_run_k 1 (And.intro (fun h1 => absurd h1 (by decide)) (fun h1 => And.intro (fun h2 => absurd h2 (by decide)) (fun h2 => And.intro (fun h3 => absurd h3 (by decide)) (fun h3 => And.intro (fun h4 => absurd h4 (by decide)) (fun h4 => And.intro (fun h5 => absurd h5 (by decide)) (fun h5 => And.intro (fun h6 => absurd h6 (by decide)) (fun h6 => And.intro (fun h7 => absurd h7 (by decide)) (fun h7 => b195))))))))
    · exact am_run_k 1 (And.intro (fun h1 => b129) (fun h1 => absurd rfl h1))
    · refine am_run_k 1 (And.intro (fun h1 => absurd h1 (by decide)) (fun h1 => And.intro (fun h2 => absurd h2 (by decide)) (fun h2 => And.intro (fun h3 => absurd h3 (by decide)) (fun h3 => And.intro (fun h4 => absurd h4 (by decide)) (fun h4 => And.intro (fun h5 => b195) (fun h5 => absurd rfl h5))))))
    · refine am_run_k 1 (And.intro (fun h1 => absurd h1 (by decide)) (fun h1 => And.intro (fun h2 => absurd h2 (by decide)) (fun h2 => And.intro (fun h3 => absurd h3 (by decide)) (fun h3 => And.intro (fun h4 => absurd h4 (by decide)) (fun h4 => And.intro (fun h5 => absurd h5 (by decide)) (fun h5 => And.intro (fun h6 => b129) (fun h6 => absurd rfl h6)))))))
end WAY
