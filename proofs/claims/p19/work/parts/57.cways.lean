section CWA
variable {d : Nat} {g : am_G} {Q : am_Q}
theorem w_cbt_x {w t : Nat} (hw : w < 3) (h : Q (some (.int (am_bi (decide (g 13 w ≤ nI t) && decide (nI t ≤ g 14 w))))) LY g) : am d 48 0 [some (.ref 9), some (.int (nI w)), some (.int (nI t))] [] LY g 0 0 none Q := by
  refine am_run_k 5 (And.intro (vpn hw) ?_)
  rw [ncl (by omega)]
  refine am_run_k 1 (And.intro (fun h1 => ?_) (fun h1 => ?_))
  · refine am_run_k 2 (And.intro (Or.inl rfl) ?_)
    have z : ¬ g 13 w ≤ nI t := by first | exact h1 | exact fa_nle.mpr h1
    rw [decide_eq_false z] at h
    exact h
  · have z : g 13 w ≤ nI t := by first | exact fa_nlt.mp h1 | exact rdr h1
    refine am_run_k 5 (And.intro (vpn hw) ?_)
    rw [ncl (by omega)]
    refine am_run_k 1 (And.intro (fun h2 => ?_) (fun h2 => ?_))
    · refine am_run_k 2 (And.intro (Or.inl rfl) ?_)
      have z2 : ¬ nI t ≤ g 14 w := by first | exact h2 | exact fa_nle.mpr h2
      rw [decide_eq_true z, decide_eq_false z2] at h
      exact h
    · have z2 : nI t ≤ g 14 w := by first | exact fa_nlt.mp h2 | exact rdr h2
      refine am_run_k 3 (And.intro (Or.inr rfl) ?_)
      rw [decide_eq_true z, decide_eq_true z2] at h
      exact h
/-- the class's steps are the house's -/
def stJ (g : am_G) (J : Nat → Int32) : Prop := ∀ s : Int32, g 4 (s &&& 255).toNatClampNeg = arV J s
theorem stJ.of {g' : am_G} {J : Nat → Int32} (h : stJ g J) (e : g' 4 = g 4) : stJ g' J := by unfold stJ at *; rw [e]; exact h
theorem Tj.stJ (h : Tj g) : stJ g (g 23) := by
  intro s
  obtain ⟨j, hj, ej⟩ := pk_andE s (m := 255) 8 (by decide)
  have h8 : (2 : Nat) ^ 8 = 256 := rfl
  rw [ej, ncl (by omega), h.2 j (by omega), ← ej]
  exact arV_255
theorem l_46_7_x {q : Nat} {J : Nat → Int32} (hq : q < 6) (hJ : stJ g J) (h : Q (some (.int (am_bi (fitV J (g 10) q)))) LY g) : ∀ (n t : Nat) (x s : Int32), t + n = 10 → x = nI t → s = fwC J (g 10) q t → am (d + 1) 46 7 [some (.ref 9), some (.ref 2), some (.int (nI q)), some (.int s), some (.int x)] [] LY g 0 0 none Q := by
  intro n
  induction n with
  | zero =>
    intro t x s hs hx es
    have hs : t = 10 := by omega
    subst hs; subst hx
    refine am_run_k 3 (And.intro (fun h6 => ?_) (fun hx => absurd ((show nI 10 ≤ nI 10 from nI_le (Nat.le_refl 10) (by decide))) hx))
    unfold fitV at h
    rw [← es] at h
    refine am_run_k 2 (And.intro (fun h7 => ?_) (fun h7 => ?_))
    · refine am_run_k 2 (And.intro (Or.inl rfl) ?_)
      have z : s = 0 := by first | exact h7 | exact rdr h7
      rw [decide_eq_true z] at h
      exact h
    · refine am_run_k 3 (And.intro (Or.inr rfl) ?_)
      rw [decide_eq_false h7] at h
      exact h
  | succ n ih =>
    intro t x s hs hx es
    subst hx
    refine am_run_k 3 (And.intro (fun hx => absurd hx ((nI_ge (b := 10) (by omega) (by decide)))) (fun h6 => ?_))
    refine am_run_k 3 (am_cl ?_)
    refine w_reached ?_
    refine am_run_k 8 (And.intro (vpe nIx10 (by omega)) ?_)
    rw [cle nIx10 (by omega), hJ s]
    refine am_run_k 4 ?_
    refine ih (t + 1) _ _ (by omega) (nI_1 t) ?_
    rw [fwC, ← es, Nat.mul_comm 10 q]
theorem w_fits_x {q : Nat} {J : Nat → Int32} (hq : q < 6) (hJ : stJ g J) (h : Q (some (.int (am_bi (fitV J (g 10) q)))) LY g) : am (d + 1) 46 0 [some (.ref 9), some (.ref 2), some (.int (nI q)), none, none] [] LY g 0 0 none Q := by
  refine am_run_k 4 ?_
  exact l_46_7_x hq hJ h 10 0 0 _ rfl rfl (by rw [fwC])
/-- backward tables, m of them -/
def TRC (g0 g : am_G) (J : Nat → Int32) (q : Nat) (cb : Nat → Bool) (z : Int32) (m : Nat) : Prop := (∀ k, k ≠ 11 → k ≠ 12 → g k = g0 k) ∧ ∀ m', m' < m → g 11 (9 - m') = goF J (g0 10) q m' ∧ g 12 (9 - m') = tkV J (g0 10) q cb z m'
theorem TRC.sc {g0 : am_G} {J : Nat → Int32} {q m : Nat} {cb : Nat → Bool} {z : Int32} (h : TRC g0 g J q cb z m) : scC g0 g := fun k hk => h.1 k (by omega) (by omega)
theorem l_47_12_x {q w : Nat} {J : Nat → Int32} {g0 : am_G} (hq : q < 6) (hw : w < 3) (hJ : stJ g0 J) (h : ∀ g', TRC g0 g' J q (fun t => decide (g0 13 w ≤ nI t) && decide (nI t ≤ g0 14 w)) (am_sh (g0 8 w)) 10 → Q none LY g') : ∀ (n m : Nat) (x s1 s2 : Int32) (g : am_G), n + m = 10 → x = nI n - 1 → s1 = ltG J (g0 10) q m → s2 = tkL J (g0 10) q (fun t => decide (g0 13 w ≤ nI t) && decide (nI t ≤ g0 14 w)) (am_sh (g0 8 w)) m → TRC g0 g J q (fun t => decide (g0 13 w ≤ nI t) && decide (nI t ≤ g0 14 w)) (am_sh (g0 8 w)) m → am (d + 1) 47 12 [some (.ref 9), some (.ref 1), some (.int (nI q)), some (.int (nI w)), some (.int s1), some (.int s2), some (.int x)] [] LY g 0 0 none Q := by
  intro n
  induction n with
  | zero =>
    intro m x s1 s2 g hn hx e1 e2 tr
    have hm : m = 10 := by omega
    subst hx; subst hm
    refine am_run_k 2 (And.intro (fun h6 => ?_) (fun hx => absurd ((show nI 0 - 1 < 0 by decide)) hx))
    refine am_run_k 1 ?_
    exact h g tr
  | succ n ih =>
    intro m x s1 s2 g hn hx e1 e2 tr
    rw [nI_pred] at hx
    subst hx
    have hm : 9 - m = n := by omega
    have o10 : g 10 = g0 10 := tr.1 10 (by decide) (by decide)
    have o13 : g 13 = g0 13 := tr.1 13 (by decide) (by decide)
    have o14 : g 14 = g0 14 := tr.1 14 (by decide) (by decide)
    have o8 : g 8 = g0 8 := tr.1 8 (by decide) (by decide)
    refine am_run_k 2 (And.intro (fun hx => absurd hx ((nI_pos (by omega)))) (fun h6 => ?_))
    refine am_run_k 12 (And.intro (vpe nIx10 (by omega)) ?_)
    refine am_run_k 2 (And.intro (vpn (by omega)) ?_)
    refine am_run_k 12 (And.intro (vpe nIx10 (by omega)) ?_)
    refine am_run_k 2 (And.intro (vpn (by omega)) ?_)
    rw [ncl (by omega), cle nIx10 (by omega), am_up_ne (show (10 : Nat) ≠ 11 by decide), o10]
    have eg : s1 &&& g0 10 (q * 10 + n) = goF J (g0 10) q m := by rw [goF, hm, ← e1, Nat.mul_comm q 10]
    rw [eg]
    refine am_run_k 4 (am_cl ?_)
    refine w_cbt_x hw ?_
    rw [am_up_ne (show (13 : Nat) ≠ 12 by decide), am_up_ne (show (13 : Nat) ≠ 11 by decide), am_up_ne (show (14 : Nat) ≠ 12 by decide), am_up_ne (show (14 : Nat) ≠ 11 by decide), o13, o14]
    have tail : ∀ g1 : am_G, TRC g0 g1 J q (fun t => decide (g0 13 w ≤ nI t) && decide (nI t ≤ g0 14 w)) (am_sh (g0 8 w)) (m + 1) → am (d + 1) 47 97 [some (.ref 9), some (.ref 1), some (.int (nI q)), some (.int (nI w)), some (.int s1), some (.int s2), some (.int (nI n))] [] LY g1 0 0 none Q := by
      intro g1 t1
      have z := t1.2 m (by omega)
      rw [hm] at z
      have hJ1 : stJ g1 J := hJ.of (t1.1 4 (by decide) (by decide))
      refine am_run_k 6 (And.intro (vpn (by omega)) ?_)
      refine am_run_k 1 (am_cl ?_)
      refine w_reached ?_
      refine am_run_k 7 (And.intro (vpn (by omega)) ?_)
      refine am_run_k 1 (am_cl ?_)
      refine w_reached ?_
      refine am_run_k 3 ?_
      rw [ncl (by omega), z.1, z.2, hJ1, hJ1]
      refine ih (m + 1) _ _ _ g1 (by omega) ?_ ?_ ?_ t1
      · exact (Int32.sub_eq_add_neg (nI n) 1).symm
      · rw [ltG]; rfl
      · rw [tkL]; rfl
    have old : ∀ (g1 : am_G) (v : Int32), (∀ k, k ≠ 11 → k ≠ 12 → g1 k = g k) → g1 11 = upd (g 11) n (goF J (g0 10) q m) → (∀ i, i ≠ n → g1 12 i = g 12 i) → g1 12 n = tkV J (g0 10) q (fun t => decide (g0 13 w ≤ nI t) && decide (nI t ≤ g0 14 w)) (am_sh (g0 8 w)) m → TRC g0 g1 J q (fun t => decide (g0 13 w ≤ nI t) && decide (nI t ≤ g0 14 w)) (am_sh (g0 8 w)) (m + 1) := by
      intro g1 v a1 a2 a3 a4
      refine ⟨fun k h1 h2 => (a1 k h1 h2).trans (tr.1 k h1 h2), fun m' hm' => ?_⟩
      rcases Nat.lt_succ_iff_lt_or_eq.mp hm' with z | z
      · have zz := tr.2 m' z
        rw [a2, pk_un (show 9 - m' ≠ n by omega), a3 _ (show 9 - m' ≠ n by omega)]
        exact zz
      · subst z
        rw [hm, a2, pk_us]
        exact ⟨rfl, a4⟩
    refine am_run_k 1 (And.intro (fun h7 => ?_) (fun h7 => ?_))
    · have hc := bi_f h7
      refine tail _ (old _ 0 (fun k h1 h2 => by rw [am_up_ne h2, am_up_ne h1]) ?_ (fun i hi => ?_) ?_)
      · rw [am_up_ne (by decide), am_up_at]
      · rw [am_up_un hi, am_up_ne (by decide)]
      · rw [am_up_us, tkV, tkZ, hm, hc, cond_false, ← e2, Nat.mul_comm q 10]
    · have hc := bi_t h7
      refine am_run_k 5 (And.intro (vpn (by omega)) ?_)
      refine am_run_k 4 (And.intro (vpn (by omega)) ?_)
      refine am_run_k 5 (And.intro (vpn hw) ?_)
      refine am_run_k 4 (And.intro (vpn (by omega)) ?_)
      rw [ncl (by omega), ncl (by omega)]
      refine tail _ (old _ 0 (fun k h1 h2 => by rw [am_up_ne h2, am_up_ne h2, am_up_ne h1]) ?_ (fun i hi => ?_) ?_)
      · rw [am_up_ne (by decide), am_up_ne (by decide), am_up_at]
      · rw [am_up_un hi, am_up_un hi, am_up_ne (by decide)]
      · rw [am_up_us, am_up_us, am_up_ne (show (11 : Nat) ≠ 12 by decide), am_up_us, am_up_ne (show (8 : Nat) ≠ 12 by decide), am_up_ne (show (8 : Nat) ≠ 11 by decide), o8, tkV, tkZ, hm, hc, cond_true, ← e2, Nat.mul_comm q 10]
        rfl
theorem w_trace_x {q w : Nat} {J : Nat → Int32} (hq : q < 6) (hw : w < 3) (hJ : stJ g J) (h : ∀ g', TRC g g' J q (fun t => decide (g 13 w ≤ nI t) && decide (nI t ≤ g 14 w)) (am_sh (g 8 w)) 10 → Q none LY g') : am (d + 1) 47 0 [some (.ref 9), some (.ref 1), some (.int (nI q)), some (.int (nI w)), none, none, none] [] LY g 0 0 none Q := by
  refine am_run_k 6 ?_
  exact l_47_12_x hq hw hJ h 10 0 _ _ _ g (by omega) rfl (by rw [ltG]) (by rw [tkL]) ⟨fun _ _ _ => rfl, fun m' hm' => absurd hm' (by omega)⟩
theorem l_45_10_x {q n t : Nat} {y : Int32} {g0 : am_G} (hq : q < 6) (hn : n ≤ 6) (ht : t < 10) (e13 : g0 1 3 = nI n) (e15 : g0 1 5 = nI t) (ey : y = am_sh (g0 1 4)) (h : ∀ g', (∀ k, k ≠ 10 → g' k = g0 k) → g' 10 = gaM n t (g0 1 4) (nI q) (g0 1 6) (g0 10) → Q none LY g') : ∀ (m i : Nat) (x z : Int32) (lz : Option Value) (g : am_G), i + m = n → x = nI i → (∀ k, k ≠ 10 → g k = g0 k) → g 10 = gaM i t (g0 1 4) (nI q) (g0 1 6) (g0 10) → am d 45 10 [some (.ref 9), some (.ref 1), some (.int (nI q)), some (.int y), some (.int x), lz] [] LY g 0 0 none Q := by
  intro m
  induction m with
  | zero =>
    intro i x z lz g hi hx hg h10
    have f13 : g 1 3 = nI n := by rw [hg 1 (by omega)]; exact e13
    have hi : i = n := by omega
    subst hi; subst hx
    refine am_run_k 4 (And.intro (fun h6 => ?_) (fun hx => absurd ((show g 1 3 ≤ nI i by rw [f13]; exact nI_le (Nat.le_refl i) (by omega))) hx))
    refine am_run_k 1 ?_
    exact h g hg h10
  | succ m ih =>
    intro i x z lz g hi hx hg h10
    subst hx
    have f13 : g 1 3 = nI n := by rw [hg 1 (by omega)]; exact e13
    have f15 : g 1 5 = nI t := by rw [hg 1 (by omega)]; exact e15
    have f16 : g 1 6 = g0 1 6 := by rw [hg 1 (by omega)]
    have ei : nI i * 10 + g 1 5 = nI (i * 10 + t) := by rw [f15]; exact nIx10
    refine am_run_k 4 (And.intro (fun hx => absurd hx ((show ¬ g 1 3 ≤ nI i by rw [f13]; exact nI_ge (by omega) (by omega)))) (fun h6 => ?_))
    have fin : ∀ v : Int32, v = (bif prS (nI q) (g0 1 6) i then am_sh (g0 1 4) else am_sh (g0 1 4) ^^^ -1) → am d 45 10 [some (.ref 9), some (.ref 1), some (.int (nI q)), some (.int y), some (.int (nI i + 1)), some (.int (am_bi (prS (nI q) (g0 1 6) i)))] [] LY (am_up g 10 (i * 10 + t) (g 10 (i * 10 + t) &&& v)) 0 0 none Q := by
      intro v ev
      refine ih (i + 1) _ 0 _ _ (by omega) (nI_1 i) (fun k hk => by rw [am_up_ne hk]; exact hg k hk) ?_
      funext j
      rw [gaM_s ht, am_up_at, h10, Nat.mul_comm i 10, ev]
    have tail : am d 45 41 [some (.ref 9), some (.ref 1), some (.int (nI q)), some (.int y), some (.int (nI i)), some (.int (am_bi (prS (nI q) (g0 1 6) i)))] [] LY g 0 0 none Q := by
      refine am_run_k 10 (And.intro (vpe ei (by omega)) ?_)
      refine am_run_k 2 (And.intro (fun h7 => ?_) (fun h7 => ?_))
      · have hb := bi_f h7
        refine am_run_k 5 (And.intro (vpe ei (by omega)) ?_)
        rw [cle ei (by omega)]
        refine am_run_k 2 ?_
        rw [hb]
        have := fin (am_sh (g0 1 4) ^^^ -1) (by rw [hb]; rfl)
        rw [hb] at this
        subst ey
        exact this
      · have hb := bi_t h7
        refine am_run_k 4 (And.intro (vpe ei (by omega)) ?_)
        rw [cle ei (by omega)]
        refine am_run_k 2 ?_
        rw [hb]
        have := fin (am_sh (g0 1 4)) (by rw [hb]; rfl)
        rw [hb] at this
        subst ey
        exact this
    have b2 : ∀ b : Bool, b = prS (nI q) (g0 1 6) i → am d 45 41 [some (.ref 9), some (.ref 1), some (.int (nI q)), some (.int y), some (.int (nI i)), some (.int (am_bi b))] [] LY g 0 0 none Q := by
      intro b eb; subst eb; exact tail
    refine am_run_k 3 (And.intro (fun h8 => ?_) (fun h8 => ?_))
    · refine am_run_k 3 ?_
      have z : nI i = nI q := by first | exact h8 | exact rdr h8
      exact b2 true (by unfold prS; rw [decide_eq_true z]; rfl)
    · have z : ¬ nI i = nI q := h8
      refine am_run_k 4 (And.intro (fun h9 => ?_) (fun h9 => ?_))
      · refine am_run_k 2 ?_
        have z2 : ¬ nI i = g0 1 6 := by rw [← f16]; exact h9
        exact b2 false (by unfold prS; rw [decide_eq_false z, decide_eq_false z2]; rfl)
      · refine am_run_k 3 ?_
        have z2 : nI i = g0 1 6 := by rw [← f16]; first | exact h9 | exact rdr h9
        exact b2 true (by unfold prS; rw [decide_eq_false z, decide_eq_true z2]; rfl)
theorem w_gather_x {q n t : Nat} (hq : q < 6) (hn : n ≤ 6) (ht : t < 10) (e13 : g 1 3 = nI n) (e15 : g 1 5 = nI t) (h : ∀ g', (∀ k, k ≠ 10 → g' k = g k) → g' 10 = gaM n t (g 1 4) (nI q) (g 1 6) (g 10) → Q none LY g') : am d 45 0 [some (.ref 9), some (.ref 1), some (.int (nI q)), none, none, none] [] LY g 0 0 none Q := by
  refine am_run_k 7 ?_
  exact l_45_10_x hq hn ht e13 e15 rfl h n 0 _ 0 _ g (by omega) rfl (fun _ _ => rfl) gaM_0.symm
end CWA
