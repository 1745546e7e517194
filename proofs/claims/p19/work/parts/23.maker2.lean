section MAL
variable {d : Nat} {L : am_L} {g : am_G} {bc bs : Nat} {sx : am_S} {Q : am_Q}
theorem VC.fgt (h1 : ∃ n, 2 ≤ n ∧ n ≤ 6 ∧ g 1 3 = nI n) (h2 : ∃ t, t < 10 ∧ g 1 5 = nI t) : VC (am_fgt g) := by
  refine ⟨?_, ?_, 0, by omega, ?_, fun k hk => absurd hk (by omega), 0, by omega, ?_, fun i hi => absurd hi (by omega), fun i j hi hj => absurd hj (by omega)⟩
  · unfold am_fgt; rw [am_up_ne (by decide), am_up_ne (by decide), am_up_ne (by decide)]; exact h1
  · unfold am_fgt; rw [am_up_ne (by decide), am_up_ne (by decide), am_up_ne (by decide)]; exact h2
  · unfold am_fgt; rw [am_up_un (by decide), am_up_un (by decide), am_up_us]; rfl
  · unfold am_fgt; rw [am_up_us]; rfl
theorem am_fgt_ne {k : Nat} (h : k ≠ 5) : am_fgt g k = g k := by unfold am_fgt; rw [am_up_ne h, am_up_ne h, am_up_ne h]
/-- what a case's writing keeps -/
def kpN (g g' : am_G) : Prop := ∀ k, k ≠ 5 → k ≠ 6 → k ≠ 15 → g' k = g k
theorem kpN.tr {g g1 g2 : am_G} (h : kpN g g1) (h2 : kpN g1 g2) : kpN g g2 := fun k a b c => (h2 k a b c).trans (h k a b c)
theorem kpN.P {g g' : am_G} (h : kpN g g') (h8 : ∀ i, i < 40 → P8 g i) : ∀ i, i < 40 → P8 g' i := fun i hi => (h8 i hi).of (h 16 (by decide) (by decide) (by decide))
theorem kpN.add {g : am_G} {n : Nat} {kd a b c x : Int32} : kpN g (am_add g n kd a b c x) := fun k h5 h6 _ => am_add_ne h5 h6
theorem l_16_10 {dd th : Nat} {g0 : am_G} (h8 : ∀ i, i < 40 → P8 g0 i) (h : ∀ (g' : am_G) (x : Int32), VC g' → g' 5 1 = nI 4 → kpN g0 g' → am (d + 3) 16 33 [some (.ref 15), some (.ref 1), some (.int (nI dd)), some (.int (nI th)), some (.int x)] [] LY g' 0 0 none Q) : ∀ (n k : Nat) (x : Int32) (g : am_G), k + n = 4 → x = nI k → VC g → g 5 1 = nI k → kpN g0 g → am (d + 3) 16 10 [some (.ref 15), some (.ref 1), some (.int (nI dd)), some (.int (nI th)), some (.int x)] [] LY g 0 0 none Q := by
  intro n
  induction n with
  | zero =>
    intro k x g hk hx v e hg
    have hk : k = 4 := by omega
    subst hk; subst hx
    refine am_run_k 3 (And.intro (fun h6 => ?_) (fun hx => absurd ((show nI 4 ≤ nI 4 from nI_le (Nat.le_refl 4) (by decide))) hx))
    exact h g _ v e hg
  | succ n ih =>
    intro k x g hk hx v e hg
    subst hx
    refine am_run_k 3 (And.intro (fun hx => absurd hx ((nI_ge (b := 4) (by omega) (by decide)))) (fun h6 => ?_))
    refine am_run_k 6 (am_cl ?_)
    refine w_writePlace (w := k) (n := k) (by omega) (Or.inl rfl) (by omega) v e (hg.P h8) (fun g1 v1 e1 f1 => ?_)
    refine am_run_k 2 ?_
    exact ih (k + 1) _ g1 (by omega) (nI_1 k) v1 e1 (hg.tr f1)
theorem rowOK_4 {a : Nat} (ha : a < 6) : rowOK 4 (nI a) (am_kb 4 0) (am_kc 4 0) (am_kx 4 0) := Or.inr (Or.inl ⟨rfl, a, ha, rfl⟩)
theorem rowOK_23 {kd : Int32} {w t : Nat} {c x : Int32} (hk : kd = 2 ∨ kd = 3) (hw : w < 3) (ht : t < 10) : rowOK kd (nI w) (am_kb kd (nI t)) (am_kc kd c) (am_kx kd x) := Or.inl ⟨hk, ⟨w, hw, rfl⟩, t, ht, by unfold am_kb; rw [if_neg (by rcases hk with e | e <;> rw [e] <;> decide)]⟩
theorem w_writeClues {dd th t : Nat} (hth : th < 3) (ht : t + 1 < 10) (h13 : ∃ n, 2 ≤ n ∧ n ≤ 6 ∧ g 1 3 = nI n) (e15 : g 1 5 = nI t) (h8 : ∀ i, i < 40 → P8 g i) (h : ∀ g', VC g' → g' 5 1 = nI 7 → kpN g g' → Q none LY g') : am (d + 3) 16 0 [some (.ref 15), some (.ref 1), some (.int (nI dd)), some (.int (nI th)), none] [] LY g 0 0 none Q := by
  refine am_run_k 3 (am_cl ?_)
  refine w_forget ?_
  refine am_run_k 2 ?_
  have f0 : kpN g (am_fgt g) := fun k h5 _ _ => am_fgt_ne h5
  refine l_16_10 (g0 := g) h8 (fun g1 x1 v1 e1 k1 => ?_) 4 0 0 _ rfl rfl (VC.fgt h13 ⟨t, by omega, e15⟩) (by unfold am_fgt; rw [am_up_un (by decide), am_up_un (by decide), am_up_us]; rfl) f0
  have tail : ∀ a : Nat, a < 6 → am (d + 3) 16 54 [some (.ref 15), some (.ref 1), some (.int (nI dd)), some (.int (nI th)), some (.int x1)] [] LY (am_add g1 4 4 (nI a) 0 0 0) 0 0 none Q := by
    intro a ha
    have v2 := v1.add (by omega) e1 (rowOK_4 ha)
    refine am_run_k 8 (am_cl ?_)
    have e2 : am_add g1 4 4 (nI a) 0 0 0 5 1 = nI 5 := by unfold am_add; rw [am_up_us]
    refine w_add (n := 5) (by omega) e2 ?_
    have r3 : rowOK 2 (nI th) (am_kb 2 0) (am_kc 2 0) (am_kx 2 0) := rowOK_23 (t := 0) (Or.inl rfl) hth (by omega)
    have v3 := v2.add (by omega) e2 r3
    refine am_run_k 11 (am_cl ?_)
    have e3 : am_add (am_add g1 4 4 (nI a) 0 0 0) 5 2 (nI th) 0 0 0 5 1 = nI 6 := by unfold am_add; rw [am_up_us]
    have k3 : kpN g (am_add (am_add g1 4 4 (nI a) 0 0 0) 5 2 (nI th) 0 0 0) := (k1.tr kpN.add).tr kpN.add
    have f15 : am_add (am_add g1 4 4 (nI a) 0 0 0) 5 2 (nI th) 0 0 0 1 5 = nI t := by rw [k3 1 (by decide) (by decide) (by decide)]; exact e15
    rw [f15, nI_1]
    refine w_add (n := 6) (by omega) e3 ?_
    refine am_run_k 1 ?_
    exact h _ (v3.add (by omega) e3 (rowOK_23 (Or.inr rfl) hth ht)) (by unfold am_add; rw [am_up_us]) (k3.tr kpN.add)
  refine am_run_k 6 (And.intro (fun h1 => ?_) (fun h1 => ?_))
  · refine am_run_k 5 (am_cl ?_)
    refine w_add (n := 4) (by omega) e1 ?_
    exact tail 1 (by omega)
  · refine am_run_k 6 (am_cl ?_)
    refine w_add (n := 4) (by omega) e1 ?_
    exact tail 2 (by omega)
theorem l_17_2 {t : Nat} {g0 : am_G} (ht : t < 10) (e15 : g0 1 5 = nI t) (e14 : ∃ p, p < 8 ∧ g0 1 4 = nI p) (h8 : ∀ i, i < 40 → P8 g0 i) (h : ∀ g', VC g' → kpN g0 g' → Q none LY g') : ∀ (n w : Nat) (x : Int32) (g : am_G), w + n = 4 → 0 < w → x = nI w → VC g → g 5 1 = nI (4 + 3 * w) → kpN g0 g → am (d + 3) 17 2 [some (.ref 15), some (.ref 1), some (.int x)] [] LY g 0 0 none Q := by
  intro n
  induction n with
  | zero =>
    intro w x g hw hw0 hx v e hg
    have hw : w = 4 := by omega
    subst hw; subst hx
    refine am_run_k 3 (And.intro (fun h6 => ?_) (fun hx => absurd ((show nI 4 ≤ nI 4 from nI_le (Nat.le_refl 4) (by decide))) hx))
    refine am_run_k 1 ?_
    exact h g v hg
  | succ n ih =>
    intro w x g hw hw0 hx v e hg
    subst hx
    refine am_run_k 3 (And.intro (fun hx => absurd hx ((nI_ge (b := 4) (by omega) (by decide)))) (fun h6 => ?_))
    refine am_run_k 6 (am_cl ?_)
    refine w_writePlace (w := w) (n := 4 + 3 * w) (by omega) (Or.inr rfl) (by omega) v e (hg.P h8) (fun g1 v1 e1 f1 => ?_)
    refine am_run_k 6 (am_cl ?_)
    refine w_writePlace (w := w) (n := 4 + 3 * w + 1) (by omega) (Or.inr rfl) (by omega) v1 e1 ((hg.tr f1).P h8) (fun g2 v2 e2 f2 => ?_)
    have k2 := (hg.tr f1).tr f2
    have w8 := k2.P h8
    refine am_run_k 4 (am_cl ?_)
    refine w_at (i := w) (t := 0) (by omega) (by omega) ?_
    refine am_run_k 4 (am_cl ?_)
    refine w_at (i := 0) (t := 0) (by omega) (by omega) ?_
    have nxt : ∀ g3, VC g3 → g3 5 1 = nI (4 + 3 * w + 1 + 1 + 1) → kpN g0 g3 → am (d + 3) 17 82 [some (.ref 15), some (.ref 1), some (.int (nI w))] [] LY g3 0 0 none Q := by
      intro g3 v3 e3 k3
      refine am_run_k 2 ?_
      exact ih (w + 1) _ g3 (by omega) (by omega) (nI_1 w) v3 (by rw [e3, show 4 + 3 * (w + 1) = 4 + 3 * w + 1 + 1 + 1 by omega]) k3
    refine am_run_k 1 (And.intro (fun h7 => ?_) (fun h7 => ?_))
    · obtain ⟨p, hp, ep⟩ := id e14
      refine am_run_k 10 (am_cl ?_)
      rw [k2 1 (by decide) (by decide) (by decide), ep, e15]
      refine w_add (n := 4 + 3 * w + 1 + 1) (by omega) e2 ?_
      refine nxt _ (v2.add (by omega) e2 (Or.inr (Or.inr (Or.inr ⟨Or.inr (Or.inr (Or.inr rfl)), ⟨w, by omega, rfl⟩, ⟨p, hp, ?_⟩, t, ht, ?_⟩)))) (by unfold am_add; rw [am_up_us]) (k2.tr kpN.add)
      · unfold am_kb; rw [if_neg (by decide)]
      · unfold am_kc; rw [if_neg (by decide)]
    · refine am_run_k 9 (am_cl ?_)
      refine w_at (i := w) (t := 0) (by omega) (by omega) ?_
      refine am_run_k 2 (am_cl ?_)
      obtain ⟨p, hp, ep⟩ := w8 (w * 10 + 0) (by omega)
      rw [ep]
      refine w_add (n := 4 + 3 * w + 1 + 1) (by omega) e2 ?_
      refine am_run_k 1 ?_
      refine nxt _ (v2.add (by omega) e2 (Or.inr (Or.inr (Or.inl ⟨rfl, ⟨w, by omega, rfl⟩, ⟨0, by omega, ?_⟩, ⟨p, hp, ?_⟩, 0, by omega, ?_⟩)))) (by unfold am_add; rw [am_up_us]) (k2.tr kpN.add)
      · unfold am_kb; rw [if_neg (by decide)]; rfl
      · unfold am_kc; rw [if_neg (by decide)]
      · unfold am_kx; rw [if_neg (by decide)]; rfl
theorem w_writeSayings {t : Nat} (ht : t < 10) (v : VC g) (e51 : g 5 1 = nI 7) (e15 : g 1 5 = nI t) (e14 : ∃ p, p < 8 ∧ g 1 4 = nI p) (h8 : ∀ i, i < 40 → P8 g i) (h : ∀ g', VC g' → kpN g g' → Q none LY g') : am (d + 3) 17 0 [some (.ref 15), some (.ref 1), none] [] LY g 0 0 none Q := by
  refine am_run_k 2 ?_
  exact l_17_2 (g0 := g) ht e15 e14 h8 h 3 1 1 g rfl (by omega) rfl v e51 (fun k _ _ _ => rfl)
/-- what a case's making leaves alone -/
def kpM (g g' : am_G) : Prop := ∀ k, 17 ≤ k → g' k = g k
theorem l_9_120 {dd th t : Nat} {nu : Int32} {g0 : am_G} (hth : th < 3) (ht0 : 0 < t) (ht : t + 1 < 10) (h13 : ∃ n, 2 ≤ n ∧ n ≤ 6 ∧ g0 1 3 = nI n) (e15 : g0 1 5 = nI t) (e14 : ∃ p, p < 8 ∧ g0 1 4 = nI p) (h : ∀ g', VC g' → (∀ k, 17 ≤ k → g' k = g0 k) → Q (some (.int (nI dd))) LY g') : ∀ (n w : Nat) (x : Int32) (g : am_G), w + n = 4 → 0 < w → x = nI w → (∀ k, k ≠ 16 → g k = g0 k) → (∀ i, i < 40 → P8 g i) → am (d + 4) 9 120 [some (.ref 15), some (.ref 1), some (.int nu), some (.int (nI dd)), some (.int (nI th)), some (.int x)] [] LY g 0 0 none Q := by
  intro n
  induction n with
  | zero =>
    intro w x g hw hw0 hx hg h8
    have hw : w = 4 := by omega
    subst hw; subst hx
    refine am_run_k 3 (And.intro (fun h6 => ?_) (fun hx => absurd ((show nI 4 ≤ nI 4 from nI_le (Nat.le_refl 4) (by decide))) hx))
    have f1 : g 1 = g0 1 := hg 1 (by decide)
    refine am_run_k 5 (am_cl ?_)
    refine w_writeClues hth ht (by rw [f1]; exact h13) (by rw [f1]; exact e15) h8 (fun g1 v1 e1 k1 => ?_)
    refine am_run_k 3 (am_cl ?_)
    have f2 : g1 1 = g0 1 := by rw [k1 1 (by decide) (by decide) (by decide)]; exact f1
    refine w_writeSayings (t := t) (by omega) v1 e1 (by rw [f2]; exact e15) (by rw [f2]; exact e14) (k1.P h8) (fun g2 v2 k2 => ?_)
    refine am_run_k 2 ?_
    refine h g2 v2 (fun k hk => ?_)
    rw [k2 k (by omega) (by omega) (by omega), k1 k (by omega) (by omega) (by omega)]
    exact hg k (by omega)
  | succ n ih =>
    intro w x g hw hw0 hx hg h8
    subst hx
    have f1 : g 1 = g0 1 := hg 1 (by decide)
    refine am_run_k 3 (And.intro (fun hx => absurd hx ((nI_ge (b := 4) (by omega) (by decide)))) (fun h6 => ?_))
    have nxt : ∀ g1, (∀ k, k ≠ 16 → g1 k = g0 k) → (∀ i, i < 40 → P8 g1 i) → am (d + 4) 9 156 [some (.ref 15), some (.ref 1), some (.int nu), some (.int (nI dd)), some (.int (nI th)), some (.int (nI w))] [] LY g1 0 0 none Q := by
      intro g1 q1 q2
      refine am_run_k 2 ?_
      exact ih (w + 1) _ g1 (by omega) (by omega) (nI_1 w) q1 q2
    refine am_run_k 3 (And.intro (fun h7 => ?_) (fun h7 => ?_))
    · exact nxt g hg h8
    · refine am_run_k 5 (am_cl ?_)
      rw [f1, e15]
      refine w_at (i := w) (by omega) (by omega) ?_
      refine am_run_k 3 (And.intro (fun h9 => ?_) (fun h9 => ?_))
      · exact nxt g hg h8
      · refine am_run_k 4 (am_cl ?_)
        refine w_turnAway (w := w) (t := t) (by omega) ht0 (by omega) (by rw [f1]; exact e15) (by rw [f1]; exact e14) h8 (fun g1 q1 q2 => ?_)
        exact nxt g1 (fun k hk => (q1 k hk).trans (hg k hk)) (fun i hi => q2 i (h8 i hi))
theorem l_9_45 {nu : Int32} {g0 : am_G} (K : ∀ (g' : am_G) (x : Int32), (∀ k, k ≠ 15 → k ≠ 16 → g' k = g0 k) → (∀ i, i < 40 → P8 g' i) → am (d + 4) 9 65 [some (.ref 15), some (.ref 1), some (.int nu), some (.int x), none, none] [] LY g' 0 0 none Q) : ∀ (n w : Nat) (x : Int32) (g : am_G), w + n = 4 → x = nI w → (∀ k, k ≠ 15 → k ≠ 16 → g k = g0 k) → (∀ i, i < w * 10 → P8 g i) → am (d + 4) 9 45 [some (.ref 15), some (.ref 1), some (.int nu), some (.int x), none, none] [] LY g 0 0 none Q := by
  intro n
  induction n with
  | zero =>
    intro w x g hw hx hg h8
    have hw : w = 4 := by omega
    subst hw; subst hx
    refine am_run_k 3 (And.intro (fun h6 => ?_) (fun hx => absurd ((show nI 4 ≤ nI 4 from nI_le (Nat.le_refl 4) (by decide))) hx))
    exact K g _ hg h8
  | succ n ih =>
    intro w x g hw hx hg h8
    subst hx
    refine am_run_k 3 (And.intro (fun hx => absurd hx ((nI_ge (b := 4) (by omega) (by decide)))) (fun h6 => ?_))
    refine am_run_k 5 (am_cl ?_)
    refine w_wander (w := w) (by omega) (fun g1 q1 q2 q3 => ?_)
    refine am_run_k 2 ?_
    refine ih (w + 1) _ g1 (by omega) (nI_1 w) (fun k h15 h16 => (q1 k h15 h16).trans (hg k h15 h16)) (fun i hi => ?_)
    rcases Nat.lt_or_ge i (w * 10) with q | q
    · exact q2 i (h8 i q)
    · have := q3 (i - w * 10) (by omega)
      rw [show w * 10 + (i - w * 10) = i by omega] at this
      exact this
theorem l_9_20 {nu : Int32} {g0 : am_G} (K : ∀ (g' : am_G) (x : Int32), (∀ k, k ≠ 8 → k ≠ 15 → g' k = g0 k) → (∀ w, w < 3 → ∃ p, p < 8 ∧ g' 8 w = nI p) → am (d + 4) 9 43 [some (.ref 15), some (.ref 1), some (.int nu), some (.int x), none, none] [] LY g' 0 0 none Q) : ∀ (n w : Nat) (x : Int32) (g : am_G), w + n = 3 → x = nI w → (∀ k, k ≠ 8 → k ≠ 15 → g k = g0 k) → (∀ i, i < w → ∃ p, p < 8 ∧ g 8 i = nI p) → am (d + 4) 9 20 [some (.ref 15), some (.ref 1), some (.int nu), some (.int x), none, none] [] LY g 0 0 none Q := by
  intro n
  induction n with
  | zero =>
    intro w x g hw hx hg h8
    have hw : w = 3 := by omega
    subst hw; subst hx
    refine am_run_k 3 (And.intro (fun h6 => ?_) (fun hx => absurd ((show nI 3 ≤ nI 3 from nI_le (Nat.le_refl 3) (by decide))) hx))
    exact K g _ hg h8
  | succ n ih =>
    intro w x g hw hx hg h8
    subst hx
    refine am_run_k 3 (And.intro (fun hx => absurd hx ((nI_ge (b := 3) (by omega) (by decide)))) (fun h6 => ?_))
    refine am_run_k 6 (am_cl ?_)
    refine w_draw (k := 8) (by decide) (by decide) (fun p hp _ => ?_)
    refine am_run_k 1 (And.intro (vpn (by omega)) ?_)
    refine am_run_k 2 ?_
    rw [ncl (by omega)]
    refine ih (w + 1) _ _ (by omega) (nI_1 w) (fun k h8 h15 => by rw [am_up_ne h8, am_up_ne h15]; exact hg k h8 h15) (fun i hi => ?_)
    by_cases e : i = w
    · exact ⟨p, hp, by rw [e, am_up_us]⟩
    · obtain ⟨q, hq, eq⟩ := h8 i (by omega)
      exact ⟨q, hq, by rw [am_up_un e, am_up_ne (by decide)]; exact eq⟩
theorem w_fill {nu : Int32} (h : ∀ r g', VC g' → (∀ k, 17 ≤ k → g' k = g k) → Q (some (.int r)) LY g') : am (d + 4) 9 0 [some (.ref 15), some (.ref 1), some (.int nu), none, none, none] [] LY g 0 0 none Q := by
  refine am_run_k 10 (am_cl ?_)
  refine w_build (fun g1 q1 => ?_)
  refine am_run_k 2 ?_
  refine l_9_20 (g0 := g1) (fun g2 x2 q2 hl => ?_) 3 0 0 g1 rfl rfl (fun k _ _ => rfl) (fun i hi => absurd hi (by omega))
  refine am_run_k 2 ?_
  refine l_9_45 (g0 := g2) (fun g3 x3 q3 h8 => ?_) 4 0 0 g2 rfl rfl (fun k _ _ => rfl) (fun i hi => absurd hi (by omega))
  refine am_run_k 8 (am_cl ?_)
  refine w_draw (k := 4) (by decide) (by decide) (fun j hj _ => ?_)
  have e5j : (5 : Int32) + nI j = nI (5 + j) := nI_add 5 j
  have hway : ∃ p, p < 8 ∧ (am_up (am_up (am_up g3 1 6 0) 15 1 (am_lcg (am_up g3 1 6 0 15 1))) 1 5 (nI (5 + j))) 16 (5 + j) = nI p := by
    obtain ⟨p, hp, ep⟩ := h8 (5 + j) (by omega)
    exact ⟨p, hp, by rw [am_up_ne (by decide), am_up_ne (by decide), am_up_ne (by decide)]; exact ep⟩
  obtain ⟨p, hp, ep⟩ := hway
  refine am_run_k 8 (And.intro (vpe (n := 5 + j) (by rw [am_up_us]; exact e5j) (by omega)) ?_)
  rw [e5j]
  rw [am_up_us, ncl (by omega), ep]
  refine am_run_k 5 (am_cl ?_)
  refine w_draw (k := 3) (by decide) (by decide) (fun jd hjd _ => ?_)
  refine am_run_k 5 (am_cl ?_)
  rw [show (1 : Int32) + nI jd = nI (1 + jd) from nI_add 1 jd]
  refine w_draw (k := 3) (by decide) (by decide) (fun th hth _ => ?_)
  refine am_run_k 6 (am_cl ?_)
  obtain ⟨g4, hg4⟩ : ∃ g4 : am_G, g4 = (am_up (am_up (am_up (am_up (am_up (am_up g3 1 6 0) 15 1 (am_lcg (am_up g3 1 6 0 15 1))) 1 5 (nI (5 + j))) 1 4 (nI p)) 15 1 (am_lcg ((am_up (am_up (am_up (am_up g3 1 6 0) 15 1 (am_lcg (am_up g3 1 6 0 15 1))) 1 5 (nI (5 + j))) 1 4 (nI p)) 15 1))) 15 1 (am_lcg ((am_up (am_up (am_up (am_up (am_up g3 1 6 0) 15 1 (am_lcg (am_up g3 1 6 0 15 1))) 1 5 (nI (5 + j))) 1 4 (nI p)) 15 1 (am_lcg ((am_up (am_up (am_up (am_up g3 1 6 0) 15 1 (am_lcg (am_up g3 1 6 0 15 1))) 1 5 (nI (5 + j))) 1 4 (nI p)) 15 1))) 15 1))) := ⟨_, rfl⟩
  rw [← hg4]
  have o1 : ∀ k, k ≠ 1 → k ≠ 15 → g4 k = g3 k := fun k h1 h15 => by rw [hg4, am_up_ne h15, am_up_ne h15, am_up_ne h1, am_up_ne h1, am_up_ne h15, am_up_ne h1]
  have o15 : g4 1 5 = nI (5 + j) := by rw [hg4, am_up_ne (by decide), am_up_ne (by decide), am_up_un (by decide), am_up_us]
  have o14 : g4 1 4 = nI p := by rw [hg4, am_up_ne (by decide), am_up_ne (by decide), am_up_us]
  have o13 : g4 1 3 = 4 := by
    rw [hg4, am_up_ne (by decide), am_up_ne (by decide), am_up_un (by decide), am_up_un (by decide), am_up_ne (by decide), am_up_un (by decide), q3 1 (by decide) (by decide), q2 1 (by decide) (by decide), q1 1 (by decide) (by decide) (by decide) (by decide), am_up_us]
  have oly : ∃ p, p < 8 ∧ g4 8 th = nI p := by
    rw [o1 8 (by decide) (by decide), q3 8 (by decide) (by decide)]
    exact hl th hth
  have o8 : ∀ i, i < 40 → P8 g4 i := fun i hi => (h8 i hi).of (o1 16 (by decide) (by decide))
  refine w_approach (w := 1 + jd) (by omega) hth oly (fun g5 q5 q6 => ?_)
  refine am_run_k 2 ?_
  have f1 : g5 1 = g4 1 := q5 1 (by decide)
  refine l_9_120 (g0 := g5) (dd := 1 + jd) (th := th) (t := 5 + j) hth (by omega) (by omega) ⟨4, by omega, by omega, by rw [f1]; exact o13⟩ (by rw [f1]; exact o15) ⟨p, hp, by rw [f1]; exact o14⟩ (fun g6 v6 q7 => ?_) 3 1 1 g5 rfl (by omega) rfl (fun k _ => rfl) (fun i hi => q6 i (o8 i hi))
  refine h _ g6 v6 (fun k hk => ?_)
  rw [q7 k hk, q5 k (by omega), o1 k (by omega) (by omega), q3 k (by omega) (by omega), q2 k (by omega) (by omega), q1 k (by omega) (by omega) (by omega) (by omega), am_up_ne (by omega), am_up_ne (by omega)]
theorem f_make {nu : Int32} (I : IC g) (h : ∀ r g', IC g' → frC g g' → Q (some (.int r)) LY g') : am (d + 5) 69 0 [some (.ref 0), some (.int nu)] [] LY g 0 0 none Q := by
  refine am_run_k 6 (am_cl ?_)
  refine w_fill (fun r g1 v1 f1 => ?_)
  refine am_run_k 1 ?_
  exact h r g1 ⟨v1, I.2.fr f1⟩ f1
end MAL
