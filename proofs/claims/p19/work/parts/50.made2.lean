section MDB
variable {d : Nat} {g : am_G} {Q : am_Q}
def rwX (g : am_G) (k : Nat) (r : cRow) : Prop := g 6 (k * 5) = r.1 ∧ g 6 (k * 5 + 1) = r.2.1 ∧ g 6 (k * 5 + 2) = am_kb r.1 r.2.2.1 ∧ g 6 (k * 5 + 3) = am_kc r.1 r.2.2.2.1 ∧ g 6 (k * 5 + 4) = am_kx r.1 r.2.2.2.2
theorem add_old {n i : Nat} {kd a b c x : Int32} (hi : i < n * 5) : am_add g n kd a b c x 6 i = g 6 i := by
  unfold am_add
  rw [am_up_ne (by decide), am_up_un (by omega), am_up_un (by omega), am_up_un (by omega), am_up_un (by omega), am_up_un (by omega)]
theorem rwX.old {n k : Nat} {r : cRow} {kd a b c x : Int32} (hk : k < n) (h : rwX g k r) : rwX (am_add g n kd a b c x) k r := by
  obtain ⟨h1, h2, h3, h4, h5⟩ := h
  refine ⟨?_, ?_, ?_, ?_, ?_⟩
  · rw [add_old (by omega)]; exact h1
  · rw [add_old (by omega)]; exact h2
  · rw [add_old (by omega)]; exact h3
  · rw [add_old (by omega)]; exact h4
  · rw [add_old (by omega)]; exact h5
theorem rwX.of {g' : am_G} {k : Nat} {r : cRow} (h : rwX g k r) (e : g' 6 = g 6) : rwX g' k r := by unfold rwX at *; rw [e]; exact h
/-- the rows written so far -/
def NR (x : Int32) (g : am_G) (n : Nat) : Prop := g 5 1 = nI n ∧ g 5 2 = 0 ∧ g 5 4 = 0 ∧ ∀ k, k < n → rwX g k (mkR x k)
theorem NR.add {y : Int32} {n : Nat} {kd a b c x : Int32} (h : NR y g n) (e : mkR y n = (kd, a, b, c, x)) : NR y (am_add g n kd a b c x) (n + 1) := by
  obtain ⟨h1, h2, h3, h4⟩ := h
  refine ⟨by unfold am_add; rw [am_up_us], ?_, ?_, fun k hk => ?_⟩
  · unfold am_add
    rw [am_up_un (by decide), am_up_ne (by decide), am_up_ne (by decide), am_up_ne (by decide), am_up_ne (by decide), am_up_ne (by decide)]; exact h2
  · unfold am_add
    rw [am_up_un (by decide), am_up_ne (by decide), am_up_ne (by decide), am_up_ne (by decide), am_up_ne (by decide), am_up_ne (by decide)]; exact h3
  · rcases Nat.lt_succ_iff_lt_or_eq.mp hk with q | q
    · exact (h4 k q).old q
    · subst q; rw [e]; exact am_add_new
theorem NR.of {y : Int32} {n : Nat} {g' : am_G} (h : NR y g n) (e5 : g' 5 = g 5) (e6 : g' 6 = g 6) : NR y g' n := by
  obtain ⟨h1, h2, h3, h4⟩ := h
  exact ⟨by rw [e5]; exact h1, by rw [e5]; exact h2, by rw [e5]; exact h3, fun k hk => (h4 k hk).of e6⟩
theorem NR.fgt {y : Int32} : NR y (am_fgt g) 0 := by
  refine ⟨?_, ?_, ?_, fun k hk => absurd hk (by omega)⟩
  · unfold am_fgt; rw [am_up_un (by decide), am_up_un (by decide), am_up_us]; rfl
  · unfold am_fgt; rw [am_up_un (by decide), am_up_us]
  · unfold am_fgt; rw [am_up_us]
theorem mkR_p {x : Int32} {k : Nat} (hk : k < 4) : mkR x k = (0, nI k, nI (mkW2 x k (mkE x k)), nI (mkE x k), 0) := by rw [mkR, mkR0, decide_eq_true hk, cond_true]
theorem mkR_4 {x : Int32} : mkR x 4 = (4, mkB x, 0, 0, 0) := by rw [mkR, mkR4, decide_eq_false (by decide), cond_false, decide_eq_true rfl, cond_true]
theorem mkR_5 {x : Int32} : mkR x 5 = (2, nI (mkO x), 0, 0, 0) := by rw [mkR, mkR5, decide_eq_false (by decide), cond_false, decide_eq_false (by decide), cond_false, decide_eq_true rfl, cond_true]
theorem mkR_6 {x : Int32} : mkR x 6 = (3, nI (mkO x), nI (mkT x + 1), 0, 0) := by rw [mkR, mkR6, decide_eq_false (by decide), cond_false, decide_eq_false (by decide), cond_false, decide_eq_false (by decide), cond_false, decide_eq_true rfl, cond_true]
theorem mkR_s {x : Int32} {q i : Nat} (hq : 0 < q) (hi : i < 3) : mkR x (4 + 3 * q + i) = mkS x q i := by
  rw [mkR, decide_eq_false (by omega), cond_false, decide_eq_false (by omega), cond_false, decide_eq_false (by omega), cond_false, decide_eq_false (by omega), cond_false, show (4 + 3 * q + i - 7) / 3 + 1 = q by omega, show (4 + 3 * q + i - 7) % 3 = i by omega]
theorem mkS_p {x : Int32} {q i : Nat} (hi : i < 2) : mkS x q i = (5, nI q, nI (mkW2 x q (mkE x (4 + 2 * (q - 1) + i))), nI (mkE x (4 + 2 * (q - 1) + i)), 0) := by rw [mkS, decide_eq_true hi, cond_true]
theorem mkS_7 {x : Int32} {q : Nat} (h : mkW2 x q 0 = mkW2 x 0 0) : mkS x q 2 = (7, nI q, 0, nI (mkW2 x q 0), 0) := by rw [mkS, decide_eq_false (by decide), cond_false, decide_eq_true h, cond_true]
theorem mkS_6 {x : Int32} {q : Nat} (h : ¬ mkW2 x q 0 = mkW2 x 0 0) : mkS x q 2 = (6, nI q, nI (mkP x), nI (mkT x), 0) := by rw [mkS, decide_eq_false (by decide), cond_false, decide_eq_false h, cond_false]
/-- the ways as told -/
def WW (g : am_G) (x : Int32) : Prop := ∀ q, q < 4 → ∀ t, t < 10 → g 16 (q * 10 + t) = nI (mkW2 x q t)
theorem WW.P {x : Int32} (h : WW g x) : ∀ i, i < 40 → P8 g i := fun i hi => ⟨mkW2 x (i / 10) (i % 10), mkW2_lt, by
  have := h (i / 10) (by omega) (i % 10) (by omega)
  rw [show i / 10 * 10 + i % 10 = i by omega] at this
  exact this⟩
theorem WW.of {x : Int32} {g' : am_G} (h : WW g x) (e : g' 16 = g 16) : WW g' x := by unfold WW at *; rw [e]; exact h
theorem kpN.W {x : Int32} {g' : am_G} (k : kpN g g') (h : WW g x) : WW g' x := h.of (k 16 (by decide) (by decide) (by decide))
theorem w_writePlace_x {x kd : Int32} {w n i : Nat} (hw : w < 4) (hkd : kd = 0 ∨ kd = 5) (hn : n < 20) (v : VC g) (nr : NR x g n) (eR : mkR x n = (kd, nI w, nI (mkW2 x w (mkE x i)), nI (mkE x i), 0)) (e15 : g 15 1 = lcN i (mkX4 x)) (ww : WW g x) (h : ∀ g', VC g' → NR x g' (n + 1) → g' 15 1 = lcN (i + 1) (mkX4 x) → kpN g g' → Q none LY g') : am (d + 2) 18 0 [some (.ref 15), some (.ref 5), some (.int kd), some (.int (nI w)), none] [] LY g 0 0 none Q := by
  refine am_run_k 3 (am_cl ?_)
  refine w_draw_y (k := 10) (by decide) (by decide) (fun t ht et => ?_)
  have et2 : t = mkE x i := by rw [et, e15]; rw [mkE]
  refine am_run_k 8 (am_cl ?_)
  refine w_at hw ht ?_
  refine am_run_k 3 (am_cl ?_)
  have v2 : VC (am_up g 15 1 (am_lcg (g 15 1))) := v.of (am_up_ne (by decide)) (am_up_ne (by decide)) (am_up_ne (by decide)) (am_up_ne (by decide))
  have f51 : (am_up g 15 1 (am_lcg (g 15 1))) 5 1 = nI n := by rw [am_up_ne (by decide)]; exact nr.1
  refine w_add hn f51 ?_
  refine am_run_k 1 ?_
  rw [am_up_ne (show 16 ≠ 15 by decide), ww w hw t ht]
  have nm : am_nm kd = 3 := by rcases hkd with e | e <;> rw [e] <;> decide
  refine h _ (v2.add hn f51 ?_) (NR.add (nr.of (am_up_ne (by decide)) (am_up_ne (by decide))) (by rw [eR, et2])) ?_ (fun k h5 h6 h15 => by rw [am_add_ne h5 h6, am_up_ne h15])
  · refine Or.inr (Or.inr (Or.inr ⟨by rcases hkd with e | e <;> rw [e] <;> simp, ⟨w, by omega, rfl⟩, ⟨mkW2 x w t, mkW2_lt, ?_⟩, ⟨t, ht, ?_⟩⟩))
    · unfold am_kb; rw [nm, if_neg (by decide)]
    · unfold am_kc; rw [nm, if_neg (by decide)]
  · rw [am_add_ne (by decide) (by decide), am_up_us, e15, lcN]
theorem l_16_10_x {dd th x0 : Int32} {g0 : am_G} (ww : WW g0 x0) (h : ∀ (g' : am_G) (x : Int32), VC g' → NR x0 g' 4 → g' 15 1 = lcN 4 (mkX4 x0) → kpN g0 g' → am (d + 3) 16 33 [some (.ref 15), some (.ref 1), some (.int dd), some (.int th), some (.int x)] [] LY g' 0 0 none Q) : ∀ (n k : Nat) (x : Int32) (g : am_G), k + n = 4 → x = nI k → VC g → NR x0 g k → g 15 1 = lcN k (mkX4 x0) → kpN g0 g → am (d + 3) 16 10 [some (.ref 15), some (.ref 1), some (.int dd), some (.int th), some (.int x)] [] LY g 0 0 none Q := by
  intro n
  induction n with
  | zero =>
    intro k x g hk hx v nr e15 hg
    have hk : k = 4 := by omega
    subst hk; subst hx
    refine am_run_k 3 (And.intro (fun h6 => ?_) (fun hx => absurd ((show nI 4 ≤ nI 4 from nI_le (Nat.le_refl 4) (by decide))) hx))
    exact h g _ v nr e15 hg
  | succ n ih =>
    intro k x g hk hx v nr e15 hg
    subst hx
    refine am_run_k 3 (And.intro (fun hx => absurd hx ((nI_ge (b := 4) (by omega) (by decide)))) (fun h6 => ?_))
    refine am_run_k 6 (am_cl ?_)
    refine w_writePlace_x (x := x0) (w := k) (n := k) (i := k) (by omega) (Or.inl rfl) (by omega) v nr (mkR_p (by omega)) e15 (hg.W ww) (fun g1 v1 e1 e15' f1 => ?_)
    refine am_run_k 2 ?_
    exact ih (k + 1) _ g1 (by omega) (nI_1 k) v1 e1 e15' (hg.tr f1)
theorem w_writeClues_x {x0 : Int32} (h13 : ∃ n, 2 ≤ n ∧ n ≤ 6 ∧ g 1 3 = nI n) (e1 : g 1 5 = nI (mkT x0)) (e15 : g 15 1 = mkX4 x0) (ww : WW g x0) (h : ∀ g', VC g' → NR x0 g' 7 → g' 15 1 = lcN 4 (mkX4 x0) → kpN g g' → Q none LY g') : am (d + 3) 16 0 [some (.ref 15), some (.ref 1), some (.int (nI (mkD x0))), some (.int (nI (mkO x0))), none] [] LY g 0 0 none Q := by
  have hO := mkO_lt (x := x0)
  have hT := mkT_rg (x := x0)
  have hD := mkD_rg (x := x0)
  refine am_run_k 3 (am_cl ?_)
  refine w_forget ?_
  refine am_run_k 2 ?_
  have f0 : kpN g (am_fgt g) := fun k h5 _ _ => am_fgt_ne h5
  refine l_16_10_x (x0 := x0) (g0 := g) ww (fun g1 x1 v1 n1 e15' k1 => ?_) 4 0 0 _ rfl rfl (VC.fgt h13 ⟨mkT x0, by omega, e1⟩) NR.fgt (by rw [am_fgt_ne (by decide), e15, lcN]) f0
  have tail : ∀ (a : Nat), a < 6 → nI a = mkB x0 → am (d + 3) 16 54 [some (.ref 15), some (.ref 1), some (.int (nI (mkD x0))), some (.int (nI (mkO x0))), some (.int x1)] [] LY (am_add g1 4 4 (nI a) 0 0 0) 0 0 none Q := by
    intro a ha ea
    have v2 := v1.add (by omega) n1.1 (rowOK_4 ha)
    have n2 := n1.add (kd := 4) (a := nI a) (b := 0) (c := 0) (x := 0) (by rw [mkR_4, ea])
    refine am_run_k 8 (am_cl ?_)
    refine w_add (n := 5) (by omega) n2.1 ?_
    have v3 := v2.add (by omega) n2.1 (rowOK_23 (kd := 2) (w := mkO x0) (t := 0) (c := 0) (x := 0) (Or.inl rfl) hO (by omega))
    have n3 := n2.add (kd := 2) (a := nI (mkO x0)) (b := 0) (c := 0) (x := 0) mkR_5
    refine am_run_k 11 (am_cl ?_)
    have k3 : kpN g (am_add (am_add g1 4 4 (nI a) 0 0 0) 5 2 (nI (mkO x0)) 0 0 0) := (k1.tr kpN.add).tr kpN.add
    have f15 : am_add (am_add g1 4 4 (nI a) 0 0 0) 5 2 (nI (mkO x0)) 0 0 0 1 5 = nI (mkT x0) := by rw [k3 1 (by decide) (by decide) (by decide)]; exact e1
    rw [f15, nI_1]
    refine w_add (n := 6) (by omega) n3.1 ?_
    refine am_run_k 1 ?_
    have r4 : rowOK 3 (nI (mkO x0)) (am_kb 3 (nI (mkT x0 + 1))) (am_kc 3 0) (am_kx 3 0) := rowOK_23 (Or.inr rfl) hO (by omega)
    refine h _ (v3.add (by omega) n3.1 r4) (n3.add mkR_6) ?_ (k3.tr kpN.add)
    rw [am_add_ne (by decide) (by decide), am_add_ne (by decide) (by decide), am_add_ne (by decide) (by decide)]; exact e15'
  refine am_run_k 6 (And.intro (fun h1 => ?_) (fun h1 => ?_))
  · have hd : ¬ mkD x0 = 1 := fun z => h1 (by rw [z]; rfl)
    refine am_run_k 5 (am_cl ?_)
    refine w_add (n := 4) (by omega) n1.1 ?_
    exact tail 1 (by omega) (by rw [mkB, decide_eq_false hd]; rfl)
  · have hd : mkD x0 = 1 := by
      first
        | exact (nI_eq (by omega) (by decide)).mp (show nI (mkD x0) = nI 1 from h1)
        | exact (nI_eq (by omega) (by decide)).mp (show nI (mkD x0) = nI 1 from rdr h1)
    refine am_run_k 6 (am_cl ?_)
    refine w_add (n := 4) (by omega) n1.1 ?_
    exact tail 2 (by omega) (by rw [mkB, decide_eq_true hd]; rfl)
theorem l_17_2_x {x0 : Int32} {g0 : am_G} (e1 : g0 1 5 = nI (mkT x0)) (e14 : g0 1 4 = nI (mkP x0)) (ww : WW g0 x0) (h : ∀ g', VC g' → NR x0 g' 16 → kpN g0 g' → Q none LY g') : ∀ (n w : Nat) (x : Int32) (g : am_G), w + n = 4 → 0 < w → x = nI w → VC g → NR x0 g (4 + 3 * w) → g 15 1 = lcN (4 + 2 * (w - 1)) (mkX4 x0) → kpN g0 g → am (d + 3) 17 2 [some (.ref 15), some (.ref 1), some (.int x)] [] LY g 0 0 none Q := by
  have hT := mkT_rg (x := x0)
  intro n
  induction n with
  | zero =>
    intro w x g hw hw0 hx v nr e15 hg
    have hw : w = 4 := by omega
    subst hw; subst hx
    refine am_run_k 3 (And.intro (fun h6 => ?_) (fun hx => absurd ((show nI 4 ≤ nI 4 from nI_le (Nat.le_refl 4) (by decide))) hx))
    refine am_run_k 1 ?_
    exact h g v nr hg
  | succ n ih =>
    intro w x g hw hw0 hx v nr e15 hg
    subst hx
    refine am_run_k 3 (And.intro (fun hx => absurd hx ((nI_ge (b := 4) (by omega) (by decide)))) (fun h6 => ?_))
    refine am_run_k 6 (am_cl ?_)
    refine w_writePlace_x (x := x0) (w := w) (n := 4 + 3 * w) (i := 4 + 2 * (w - 1)) (by omega) (Or.inr rfl) (by omega) v nr ((mkR_s (i := 0) hw0 (by omega)).trans (mkS_p (by omega))) e15 (hg.W ww) (fun g1 v1 n1 e1' f1 => ?_)
    refine am_run_k 6 (am_cl ?_)
    refine w_writePlace_x (x := x0) (w := w) (n := 4 + 3 * w + 1) (i := 4 + 2 * (w - 1) + 1) (by omega) (Or.inr rfl) (by omega) v1 n1 ((mkR_s (i := 1) hw0 (by omega)).trans (mkS_p (by omega))) e1' ((hg.tr f1).W ww) (fun g2 v2 n2 e2' f2 => ?_)
    have k2 := (hg.tr f1).tr f2
    have w8 := k2.W ww
    refine am_run_k 4 (am_cl ?_)
    refine w_at (i := w) (t := 0) (by omega) (by omega) ?_
    rw [w8 w (by omega) 0 (by omega)]
    refine am_run_k 4 (am_cl ?_)
    refine w_at (i := 0) (t := 0) (by omega) (by omega) ?_
    rw [w8 0 (by omega) 0 (by omega)]
    have hl1 : mkW2 x0 w 0 < 8 := mkW2_lt
    have hl2 : mkW2 x0 0 0 < 8 := mkW2_lt
    have nxt : ∀ g3, VC g3 → NR x0 g3 (4 + 3 * w + 1 + 1 + 1) → g3 15 1 = g2 15 1 → kpN g0 g3 → am (d + 3) 17 82 [some (.ref 15), some (.ref 1), some (.int (nI w))] [] LY g3 0 0 none Q := by
      intro g3 v3 n3 e3 k3
      refine am_run_k 2 ?_
      refine ih (w + 1) _ g3 (by omega) (by omega) (nI_1 w) v3 (by rw [show 4 + 3 * (w + 1) = 4 + 3 * w + 1 + 1 + 1 by omega]; exact n3) ?_ k3
      rw [e3, e2']
      exact congrArg (fun z => lcN z (mkX4 x0)) (by omega)
    have eS : mkR x0 (4 + 3 * w + 2) = mkS x0 w 2 := mkR_s hw0 (by omega)
    refine am_run_k 1 (And.intro (fun h7 => ?_) (fun h7 => ?_))
    · have hne : ¬ mkW2 x0 w 0 = mkW2 x0 0 0 := fun z => h7 (by rw [z])
      refine am_run_k 10 (am_cl ?_)
      rw [k2 1 (by decide) (by decide) (by decide), e14, e1]
      refine w_add (n := 4 + 3 * w + 1 + 1) (by omega) n2.1 ?_
      refine nxt _ (v2.add (by omega) n2.1 (Or.inr (Or.inr (Or.inr ⟨Or.inr (Or.inr (Or.inr rfl)), ⟨w, by omega, rfl⟩, ⟨mkP x0, mkP_lt, ?_⟩, mkT x0, by omega, ?_⟩)))) (n2.add ?_) (congrFun (am_add_ne (k := 15) (by decide) (by decide)) 1) (k2.tr kpN.add)
      · unfold am_kb; rw [if_neg (by decide)]
      · unfold am_kc; rw [if_neg (by decide)]
      · rw [show 4 + 3 * w + 1 + 1 = 4 + 3 * w + 2 from rfl, eS]; exact mkS_6 hne
    · have heq : mkW2 x0 w 0 = mkW2 x0 0 0 := by
        first
          | exact (nI_eq (by omega) (by omega)).mp h7
          | exact (nI_eq (by omega) (by omega)).mp (rdr h7)
      refine am_run_k 9 (am_cl ?_)
      refine w_at (i := w) (t := 0) (by omega) (by omega) ?_
      rw [w8 w (by omega) 0 (by omega)]
      refine am_run_k 2 (am_cl ?_)
      refine w_add (n := 4 + 3 * w + 1 + 1) (by omega) n2.1 ?_
      refine am_run_k 1 ?_
      refine nxt _ (v2.add (by omega) n2.1 (Or.inr (Or.inr (Or.inl ⟨rfl, ⟨w, by omega, rfl⟩, ⟨0, by omega, ?_⟩, ⟨mkW2 x0 w 0, mkW2_lt, ?_⟩, 0, by omega, ?_⟩)))) (n2.add ?_) (congrFun (am_add_ne (k := 15) (by decide) (by decide)) 1) (k2.tr kpN.add)
      · unfold am_kb; rw [if_neg (by decide)]; rfl
      · unfold am_kc; rw [if_neg (by decide)]
      · unfold am_kx; rw [if_neg (by decide)]; rfl
      · rw [show 4 + 3 * w + 1 + 1 = 4 + 3 * w + 2 from rfl, eS]; exact mkS_7 heq
theorem w_writeSayings_x {x0 : Int32} (v : VC g) (nr : NR x0 g 7) (e1 : g 1 5 = nI (mkT x0)) (e14 : g 1 4 = nI (mkP x0)) (e15 : g 15 1 = lcN 4 (mkX4 x0)) (ww : WW g x0) (h : ∀ g', VC g' → NR x0 g' 16 → kpN g g' → Q none LY g') : am (d + 3) 17 0 [some (.ref 15), some (.ref 1), none] [] LY g 0 0 none Q := by
  refine am_run_k 2 ?_
  exact l_17_2_x (x0 := x0) (g0 := g) e1 e14 ww h 3 1 1 g rfl (by omega) rfl v nr e15 (fun k _ _ _ => rfl)
/-- the class as a made case leaves it -/
def CM (x : Int32) (g : am_G) : Prop := (g 1 3 = nI 4 ∧ g 1 4 = nI (mkP x) ∧ g 1 5 = nI (mkT x) ∧ g 1 6 = 0 ∧ g 2 2 = nI (dst x 2).2.2) ∧ HC g (mkF x) ∧ (∀ w, w < 3 → g 8 w = nI (mkL x w)) ∧ NR x g 16
theorem mkW2_0 {x : Int32} {t : Nat} : mkW2 x 0 t = mkW1 x 0 t := by rw [mkW2, if_neg (fun z => absurd z.1.1 (by decide))]
/-- who isn't turned away, and who is -/
theorem mkW2_s {x : Int32} {q t : Nat} (h : q = mkD x ∨ mkW1 x q (mkT x) ≠ mkP x) : mkW2 x q t = mkW1 x q t := by
  rw [mkW2]
  rw [if_neg]
  rintro ⟨⟨h1, h2, h3⟩, h4⟩
  rcases h with h | h
  · exact h2 h
  · exact h h3
theorem mkW2_b {x : Int32} {q t : Nat} (h : t < mkT x) : mkW2 x q t = mkW1 x q t := by
  rw [mkW2]
  rw [if_neg]
  rintro ⟨-, h4⟩
  omega
theorem mkW2_a {x : Int32} {q t : Nat} (h1 : 1 ≤ q) (h2 : q ≠ mkD x) (h3 : mkW1 x q (mkT x) = mkP x) (h4 : mkT x ≤ t) : mkW2 x q t = mkA x q := by
  rw [mkW2]
  rw [if_pos ⟨⟨h1, h2, h3⟩, h4⟩]
theorem l_9_120_x {nu x0 : Int32} {g0 : am_G} (e13 : g0 1 3 = nI 4) (e1 : g0 1 5 = nI (mkT x0)) (e14 : g0 1 4 = nI (mkP x0)) (e16 : g0 1 6 = 0) (e2 : g0 2 2 = nI (dst x0 2).2.2) (hc : HC g0 (mkF x0)) (hl : ∀ w, w < 3 → g0 8 w = nI (mkL x0 w)) (e15 : g0 15 1 = mkX4 x0) (h : ∀ g', VC g' → CM x0 g' → (∀ k, 17 ≤ k → g' k = g0 k) → Q (some (.int (nI (mkD x0)))) LY g') : ∀ (n w : Nat) (x : Int32) (g : am_G), w + n = 4 → 0 < w → x = nI w → (∀ k, k ≠ 16 → g k = g0 k) → (∀ q, q < 4 → ∀ t, t < 10 → g 16 (q * 10 + t) = nI (if q < w then mkW2 x0 q t else mkW1 x0 q t)) → am (d + 4) 9 120 [some (.ref 15), some (.ref 1), some (.int nu), some (.int (nI (mkD x0))), some (.int (nI (mkO x0))), some (.int x)] [] LY g 0 0 none Q := by
  have hT := mkT_rg (x := x0)
  have hD := mkD_rg (x := x0)
  intro n
  induction n with
  | zero =>
    intro w x g hw hw0 hx hg h8
    have hw : w = 4 := by omega
    subst hw; subst hx
    refine am_run_k 3 (And.intro (fun h6 => ?_) (fun hx => absurd ((show nI 4 ≤ nI 4 from nI_le (Nat.le_refl 4) (by decide))) hx))
    have f1 : g 1 = g0 1 := hg 1 (by decide)
    have ww : WW g x0 := fun q hq t ht => by rw [h8 q hq t ht, if_pos hq]
    refine am_run_k 5 (am_cl ?_)
    refine w_writeClues_x (x0 := x0) ⟨4, by omega, by omega, by rw [f1]; exact e13⟩ (by rw [f1]; exact e1) (by rw [hg 15 (by decide)]; exact e15) ww (fun g1 v1 n1 q15 k1 => ?_)
    refine am_run_k 3 (am_cl ?_)
    have f2 : g1 1 = g0 1 := by rw [k1 1 (by decide) (by decide) (by decide)]; exact f1
    refine w_writeSayings_x (x0 := x0) v1 n1 (by rw [f2]; exact e1) (by rw [f2]; exact e14) q15 (k1.W ww) (fun g2 v2 n2 k2 => ?_)
    refine am_run_k 2 ?_
    have o : ∀ k, k ≠ 5 → k ≠ 6 → k ≠ 15 → k ≠ 16 → g2 k = g0 k := fun k a b c d => by rw [k2 k a b c, k1 k a b c]; exact hg k d
    have o1 := o 1 (by decide) (by decide) (by decide) (by decide)
    refine h g2 v2 ⟨⟨by rw [o1]; exact e13, by rw [o1]; exact e14, by rw [o1]; exact e1, by rw [o1]; exact e16, by rw [o 2 (by decide) (by decide) (by decide) (by decide)]; exact e2⟩, hc.of (o 3 (by decide) (by decide) (by decide) (by decide)) (o 4 (by decide) (by decide) (by decide) (by decide)), fun w hw => by rw [o 8 (by decide) (by decide) (by decide) (by decide)]; exact hl w hw, n2⟩ (fun k hk => o k (by omega) (by omega) (by omega) (by omega))
  | succ n ih =>
    intro w x g hw hw0 hx hg h8
    subst hx
    have f1 : g 1 = g0 1 := hg 1 (by decide)
    refine am_run_k 3 (And.intro (fun hx => absurd hx ((nI_ge (b := 4) (by omega) (by decide)))) (fun h6 => ?_))
    have nxt : ∀ g1, (∀ k, k ≠ 16 → g1 k = g0 k) → (∀ q, q < 4 → ∀ t, t < 10 → g1 16 (q * 10 + t) = nI (if q < w + 1 then mkW2 x0 q t else mkW1 x0 q t)) → am (d + 4) 9 156 [some (.ref 15), some (.ref 1), some (.int nu), some (.int (nI (mkD x0))), some (.int (nI (mkO x0))), some (.int (nI w))] [] LY g1 0 0 none Q := by
      intro g1 q1 q2
      refine am_run_k 2 ?_
      exact ih (w + 1) _ g1 (by omega) (by omega) (nI_1 w) q1 q2
    have same : (w = mkD x0 ∨ mkW1 x0 w (mkT x0) ≠ mkP x0) → ∀ q, q < 4 → ∀ t, t < 10 → g 16 (q * 10 + t) = nI (if q < w + 1 then mkW2 x0 q t else mkW1 x0 q t) := by
      intro hs q hq t ht
      rw [h8 q hq t ht]
      rcases Nat.lt_trichotomy q w with z | z | z
      · rw [if_pos z, if_pos (by omega)]
      · rw [if_neg (by omega), if_pos (by omega), z, mkW2_s hs]
      · rw [if_neg (by omega), if_neg (by omega)]
    have hww : ∀ t, t < 10 → g 16 (w * 10 + t) = nI (mkW1 x0 w t) := fun t ht => by rw [h8 w (by omega) t ht, if_neg (by omega)]
    refine am_run_k 3 (And.intro (fun h7 => ?_) (fun h7 => ?_))
    · have hd : w = mkD x0 := by
        first
          | exact (nI_eq (by omega) (by omega)).mp h7
          | exact (nI_eq (by omega) (by omega)).mp (rdr h7)
      exact nxt g hg (same (Or.inl hd))
    · have hd : ¬ w = mkD x0 := fun z => h7 (by rw [← z])
      refine am_run_k 5 (am_cl ?_)
      rw [f1, e1]
      refine w_at (i := w) (by omega) (by omega) ?_
      rw [hww _ (by omega)]
      have hl1 : mkW1 x0 w (mkT x0) < 8 := mkW1_lt
      have hl2 : mkP x0 < 8 := mkP_lt
      refine am_run_k 3 (And.intro (fun h9 => ?_) (fun h9 => ?_))
      · have hp : mkW1 x0 w (mkT x0) ≠ mkP x0 := fun z => h9 (by rw [f1, e14, z])
        exact nxt g hg (same (Or.inr hp))
      · have hp : mkW1 x0 w (mkT x0) = mkP x0 := by
          rw [f1, e14] at h9
          first
            | exact (nI_eq (by omega) (by omega)).mp h9
            | exact (nI_eq (by omega) (by omega)).mp (rdr h9)
        refine am_run_k 4 (am_cl ?_)
        refine w_turnAway_x (w := w) (t := mkT x0) (P := mkP x0) (b := mkW1 x0 w (mkT x0 - 1)) (F := mkF x0) (by omega) (by omega) (by omega) (by rw [f1]; exact e1) mkP_lt (by rw [f1]; exact e14) (hc.of (hg 3 (by decide)) (hg 4 (by decide))) mkW1_lt (hww _ (by omega)) (fun g1 q1 q2 q3 => ?_)
        refine nxt g1 (fun k hk => (q1 k hk).trans (hg k hk)) (fun q hq t ht => ?_)
        rcases Nat.lt_trichotomy q w with z | z | z
        · rw [q2 _ (by omega), h8 q hq t ht, if_pos z, if_pos (by omega)]
        · rw [if_pos (by omega), z]
          rcases Nat.lt_or_ge t (mkT x0) with y | y
          · rw [q2 _ (by omega), hww t ht, mkW2_b y]
          · rw [q3 t y ht, mkW2_a (by omega) hd hp y, mkA]
        · rw [q2 _ (by omega), h8 q hq t ht, if_neg (by omega), if_neg (by omega)]
theorem l_9_45_x {nu y0 : Int32} {F : Nat → Int32} {g0 : am_G} (ok : FOK F) (hc : HC g0 F) (K : ∀ (g' : am_G) (x : Int32), (∀ k, k ≠ 15 → k ≠ 16 → g' k = g0 k) → (∀ q, q < 4 → ∀ t, t < 10 → g' 16 (q * 10 + t) = nI (wS F (xQ F y0 q) t).2) → g' 15 1 = xQ F y0 4 → am (d + 4) 9 65 [some (.ref 15), some (.ref 1), some (.int nu), some (.int x), none, none] [] LY g' 0 0 none Q) : ∀ (n w : Nat) (x : Int32) (g : am_G), w + n = 4 → x = nI w → (∀ k, k ≠ 15 → k ≠ 16 → g k = g0 k) → (∀ q, q < w → ∀ t, t < 10 → g 16 (q * 10 + t) = nI (wS F (xQ F y0 q) t).2) → g 15 1 = xQ F y0 w → am (d + 4) 9 45 [some (.ref 15), some (.ref 1), some (.int nu), some (.int x), none, none] [] LY g 0 0 none Q := by
  intro n
  induction n with
  | zero =>
    intro w x g hw hx hg h8 e15
    have hw : w = 4 := by omega
    subst hw; subst hx
    refine am_run_k 3 (And.intro (fun h6 => ?_) (fun hx => absurd ((show nI 4 ≤ nI 4 from nI_le (Nat.le_refl 4) (by decide))) hx))
    exact K g _ hg h8 e15
  | succ n ih =>
    intro w x g hw hx hg h8 e15
    subst hx
    refine am_run_k 3 (And.intro (fun hx => absurd hx ((nI_ge (b := 4) (by omega) (by decide)))) (fun h6 => ?_))
    refine am_run_k 5 (am_cl ?_)
    refine w_wander_x (w := w) (F := F) (x0 := xQ F y0 w) (by omega) ok (hc.of (hg 3 (by decide) (by decide)) (hg 4 (by decide) (by decide))) e15 (fun g1 q1 q2 q3 q4 => ?_)
    refine am_run_k 2 ?_
    refine ih (w + 1) _ g1 (by omega) (nI_1 w) (fun k h15 h16 => (q1 k h15 h16).trans (hg k h15 h16)) (fun q hq t ht => ?_) (by rw [q4, xQ, wX])
    rcases Nat.lt_succ_iff_lt_or_eq.mp hq with z | z
    · rw [q2 _ (by omega)]; exact h8 q z t ht
    · rw [z]; exact q3 t ht
theorem l_9_20_x {nu y0 : Int32} {g0 : am_G} (K : ∀ (g' : am_G) (x : Int32), (∀ k, k ≠ 8 → k ≠ 15 → g' k = g0 k) → (∀ w, w < 3 → g' 8 w = nI (drN 8 (lcN w y0))) → g' 15 1 = lcN 3 y0 → am (d + 4) 9 43 [some (.ref 15), some (.ref 1), some (.int nu), some (.int x), none, none] [] LY g' 0 0 none Q) : ∀ (n w : Nat) (x : Int32) (g : am_G), w + n = 3 → x = nI w → (∀ k, k ≠ 8 → k ≠ 15 → g k = g0 k) → (∀ i, i < w → g 8 i = nI (drN 8 (lcN i y0))) → g 15 1 = lcN w y0 → am (d + 4) 9 20 [some (.ref 15), some (.ref 1), some (.int nu), some (.int x), none, none] [] LY g 0 0 none Q := by
  intro n
  induction n with
  | zero =>
    intro w x g hw hx hg h8 e15
    have hw : w = 3 := by omega
    subst hw; subst hx
    refine am_run_k 3 (And.intro (fun h6 => ?_) (fun hx => absurd ((show nI 3 ≤ nI 3 from nI_le (Nat.le_refl 3) (by decide))) hx))
    exact K g _ hg h8 e15
  | succ n ih =>
    intro w x g hw hx hg h8 e15
    subst hx
    refine am_run_k 3 (And.intro (fun hx => absurd hx ((nI_ge (b := 3) (by omega) (by decide)))) (fun h6 => ?_))
    refine am_run_k 6 (am_cl ?_)
    refine w_draw_y (k := 8) (by decide) (by decide) (fun p hp ep => ?_)
    rw [e15] at ep
    refine am_run_k 1 (And.intro (vpn (by omega)) ?_)
    refine am_run_k 2 ?_
    rw [ncl (by omega)]
    refine ih (w + 1) _ _ (by omega) (nI_1 w) (fun k h8 h15 => by rw [am_up_ne h8, am_up_ne h15]; exact hg k h8 h15) (fun i hi => ?_) (by rw [am_up_ne (by decide), am_up_us, e15, lcN])
    by_cases e : i = w
    · rw [e, am_up_us, ep]
    · rw [am_up_un e, am_up_ne (by decide)]; exact h8 i (by omega)
theorem w_fill_x {nu : Int32} (h : ∀ g', VC g' → CM nu g' → (∀ k, 17 ≤ k → g' k = g k) → Q (some (.int (nI (mkD nu)))) LY g') : am (d + 4) 9 0 [some (.ref 15), some (.ref 1), some (.int nu), none, none, none] [] LY g 0 0 none Q := by
  have hT := mkT_rg (x := nu)
  have hD := mkD_rg (x := nu)
  refine am_run_k 10 (am_cl ?_)
  refine w_build_x (x0 := nu) (by rw [am_up_ne (by decide), am_up_us]) (fun g1 q1 b1 => ?_)
  refine am_run_k 2 ?_
  refine l_9_20_x (y0 := (dst nu 2).1) (g0 := g1) (fun g2 x2 q2 hl e15b => ?_) 3 0 0 g1 rfl rfl (fun k _ _ => rfl) (fun i hi => absurd hi (by omega)) (by rw [b1.1, lcN])
  refine am_run_k 2 ?_
  have hc2 : HC g2 (mkF nu) := by rw [mkF]; exact b1.2.1.of (q2 3 (by decide) (by decide)) (q2 4 (by decide) (by decide))
  refine l_9_45_x (F := mkF nu) (y0 := mkX2 nu) (g0 := g2) FOK_mk hc2 (fun g3 x3 q3 h8 e15c => ?_) 4 0 0 g2 rfl rfl (fun k _ _ => rfl) (fun i hi => absurd hi (by omega)) (by rw [e15b, xQ]; rw [mkX2])
  have e15d : g3 15 1 = mkX3 nu := by rw [e15c]; rw [mkX3]
  refine am_run_k 8 (am_cl ?_)
  refine w_draw_y (k := 4) (by decide) (by decide) (fun j hj ej => ?_)
  rw [am_up_ne (by decide), e15d] at ej
  have e5j : (5 : Int32) + nI j = nI (5 + j) := nI_add 5 j
  have eT : 5 + j = mkT nu := by rw [mkT, ej]
  have ep : g3 16 (5 + j) = nI (mkP nu) := by
    have := h8 0 (by omega) (5 + j) (by omega)
    rw [show 0 * 10 + (5 + j) = 5 + j by omega] at this
    rw [this, eT]; rw [mkP, mkW]
  refine am_run_k 8 (And.intro (vpe (n := 5 + j) (by rw [am_up_us]; exact e5j) (by omega)) ?_)
  rw [e5j]
  rw [am_up_us, ncl (by omega), am_up_ne (show 16 ≠ 1 by decide), am_up_ne (show 16 ≠ 15 by decide), am_up_ne (show 16 ≠ 1 by decide), ep]
  obtain ⟨g3a, eg3a⟩ : ∃ g3a : am_G, g3a = (am_up (am_up (am_up (am_up g3 1 6 0) 15 1 (am_lcg (am_up g3 1 6 0 15 1))) 1 5 (nI (5 + j))) 1 4 (nI (mkP nu))) := ⟨_, rfl⟩
  have oa : ∀ k, k ≠ 1 → k ≠ 15 → g3a k = g3 k := fun k h1 h15 => by rw [eg3a, am_up_ne h1, am_up_ne h1, am_up_ne h15, am_up_ne h1]
  have oa15 : g3a 15 1 = lcN 1 (mkX3 nu) := by rw [eg3a, am_up_ne (by decide), am_up_ne (by decide), am_up_us, am_up_ne (by decide), e15d, lcN, lcN]
  have oa1 : g3a 1 4 = nI (mkP nu) ∧ g3a 1 5 = nI (mkT nu) ∧ g3a 1 6 = 0 ∧ g3a 1 3 = nI 4 := by
    rw [eg3a]
    refine ⟨am_up_us, ?_, ?_, ?_⟩
    · rw [am_up_un (by decide), am_up_us, eT]
    · rw [am_up_un (by decide), am_up_un (by decide), am_up_ne (by decide), am_up_us]
    · rw [am_up_un (by decide), am_up_un (by decide), am_up_ne (by decide), am_up_un (by decide), q3 1 (by decide) (by decide), q2 1 (by decide) (by decide), q1 1 (by decide) (by decide) (by decide) (by decide), am_up_us]; rfl
  refine am_run_k 5 (am_cl ?_)
  rw [← eg3a]
  refine w_draw_y (k := 3) (by decide) (by decide) (fun jd hjd ejd => ?_)
  rw [oa15] at ejd
  refine am_run_k 5 (am_cl ?_)
  rw [show (1 : Int32) + nI jd = nI (1 + jd) from nI_add 1 jd]
  have eD : 1 + jd = mkD nu := by rw [mkD, ejd]
  rw [eD]
  refine w_draw_y (k := 3) (by decide) (by decide) (fun th hth eth => ?_)
  rw [am_up_us, oa15] at eth
  have eO : th = mkO nu := by rw [mkO, eth]; rfl
  rw [eO]
  refine am_run_k 6 (am_cl ?_)
  obtain ⟨g4, hg4⟩ : ∃ g4 : am_G, g4 = (am_up (am_up g3a 15 1 (am_lcg (g3a 15 1))) 15 1 (am_lcg ((am_up g3a 15 1 (am_lcg (g3a 15 1))) 15 1))) := ⟨_, rfl⟩
  rw [← hg4]
  have o1 : ∀ k, k ≠ 15 → g4 k = g3a k := fun k h15 => by rw [hg4, am_up_ne h15, am_up_ne h15]
  have o15 : g4 15 1 = mkX4 nu := by rw [hg4, am_up_us, am_up_us, oa15, mkX4]; rfl
  have o11 := o1 1 (by decide)
  have hc4 : HC g4 (mkF nu) := hc2.of (by rw [o1 3 (by decide), oa 3 (by decide) (by decide), q3 3 (by decide) (by decide)]) (by rw [o1 4 (by decide), oa 4 (by decide) (by decide), q3 4 (by decide) (by decide)])
  have hl4 : ∀ w, w < 3 → g4 8 w = nI (mkL nu w) := fun w hw => by
    rw [o1 8 (by decide), oa 8 (by decide) (by decide), q3 8 (by decide) (by decide), hl w hw]; rw [mkL]
  have h84 : ∀ q, q < 4 → ∀ t, t < 10 → g4 16 (q * 10 + t) = nI (mkW nu q t) := fun q hq t ht => by
    rw [o1 16 (by decide), oa 16 (by decide) (by decide), h8 q hq t ht]; rw [mkW]
  refine w_approach_x (w := mkD nu) (x0 := nu) (by omega) hc4 (by rw [o11]; exact oa1.1) (hl4 _ mkO_lt) (fun g5 q5 q6 q7 => ?_)
  refine am_run_k 2 ?_
  have f1 : g5 1 = g3a 1 := by rw [q5 1 (by decide), o11]
  refine l_9_120_x (g0 := g5) (x0 := nu) (by rw [f1]; exact oa1.2.2.2) (by rw [f1]; exact oa1.2.1) (by rw [f1]; exact oa1.1) (by rw [f1]; exact oa1.2.2.1) ?_ (hc4.of (q5 3 (by decide)) (q5 4 (by decide))) (fun w hw => by rw [q5 8 (by decide)]; exact hl4 w hw) (by rw [q5 15 (by decide)]; exact o15) (fun g6 v6 c6 q8 => ?_) 3 1 1 g5 rfl (by omega) rfl (fun k _ => rfl) (fun q hq t ht => ?_)
  · rw [q5 2 (by decide), o1 2 (by decide), oa 2 (by decide) (by decide), q3 2 (by decide) (by decide), q2 2 (by decide) (by decide)]; exact b1.2.2
  · refine h g6 v6 c6 (fun k hk => ?_)
    rw [q8 k hk, q5 k (by omega), o1 k (by omega), oa k (by omega) (by omega), q3 k (by omega) (by omega), q2 k (by omega) (by omega), q1 k (by omega) (by omega) (by omega) (by omega), am_up_ne (by omega), am_up_ne (by omega)]
  · have eW : g5 16 (q * 10 + t) = nI (mkW1 nu q t) := by
      rw [mkW1]
      by_cases e : q = mkD nu
      · rw [if_pos e, e, q7 t ht]
      · rw [if_neg e, q6 _ (by omega), h84 q hq t ht]
    rw [eW]
    by_cases e : q < 1
    · rw [if_pos e, show q = 0 by omega, mkW2_0]
    · rw [if_neg e]
theorem f_make_x {nu : Int32} (I : IC g) (h : ∀ g', IC g' → CM nu g' → frC g g' → Q (some (.int (nI (mkD nu)))) LY g') : am (d + 5) 69 0 [some (.ref 0), some (.int nu)] [] LY g 0 0 none Q := by
  refine am_run_k 6 (am_cl ?_)
  refine w_fill_x (fun g1 v1 c1 f1 => ?_)
  refine am_run_k 1 ?_
  exact h g1 ⟨v1, I.2.fr f1⟩ c1 f1
end MDB
