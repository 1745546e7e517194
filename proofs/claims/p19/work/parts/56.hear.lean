section HEA
variable {d : Nat} {g : am_G} {Q : am_Q}
theorem dK_t {kd kd2 b c x : Int32} {w w' : Nat} (h : kd = kd2) (e : w = w') : dK (kd, nI w, b, c, x) kd2 w' = true := by
  unfold dK; subst h; subst e; rw [decide_eq_true rfl, decide_eq_true rfl]; rfl
theorem dK_f1 {kd kd2 a b c x : Int32} {w' : Nat} (h : ¬ kd = kd2) : dK (kd, a, b, c, x) kd2 w' = false := by
  unfold dK; rw [decide_eq_false h]; rfl
theorem dK_f2 {kd kd2 b c x : Int32} {w w' : Nat} (hw : w < 3) (hw' : w' < 3) (e : ¬ w = w') : dK (kd, nI w, b, c, x) kd2 w' = false := by
  unfold dK; rw [decide_eq_false (fun z => e ((nI_eq (by omega) (by omega)).mp z)), Bool.and_false]
theorem heS_n {kd a b c x s : Int32} {w : Nat} (h : ¬ kd = 2) : heS (kd, a, b, c, x) w s = s := by unfold heS; rw [dK_f1 h]; rfl
theorem heL_n {kd a b c x s : Int32} {w : Nat} (h : ¬ kd = 3) : heL (kd, a, b, c, x) w s = s := by unfold heL; rw [dK_f1 h]; rfl
theorem heC_n {kd a b c x s : Int32} (h : ¬ kd = 4) : heC (kd, a, b, c, x) s = s := by unfold heC; rw [decide_eq_false h]; rfl
theorem ixE {q t : Nat} (hq : q < 6) (ht : t < 10) : ixR (nI q) (nI t) = q * 10 + t := by
  unfold ixR; rw [ncl (by omega), ncl (by omega)]; omega
theorem w_hear_x {k : Nat} {r : cRow} (hk : k < 20) (e : g 6 (k * 5) = r.1 ∧ g 6 (k * 5 + 1) = r.2.1 ∧ g 6 (k * 5 + 2) = r.2.2.1 ∧ g 6 (k * 5 + 3) = r.2.2.2.1 ∧ g 6 (k * 5 + 4) = r.2.2.2.2) (hr : okR r) (h : ∀ g', scC g g' → g' 10 = heMay r (g 10) → (∀ w, w < 3 → g' 13 w = heS r w (g 13 w)) → (∀ w, w < 3 → g' 14 w = heL r w (g 14 w)) → g' 9 5 = heC r (g 9 5) → Q none LY g') : am (d + 1) 44 0 [some (.ref 9), some (.ref 6), some (.int (nI k * 5)), none, none, none, none] [] LY g 0 0 none Q := by
  obtain ⟨kd, a, b, c, x⟩ := r
  obtain ⟨r0, r1, r2, r3, r4⟩ : g 6 (k * 5) = kd ∧ g 6 (k * 5 + 1) = a ∧ g 6 (k * 5 + 2) = b ∧ g 6 (k * 5 + 3) = c ∧ g 6 (k * 5 + 4) = x := e
  have e0 := cle (nIm5 k) (show k * 5 < 2 ^ 31 by omega)
  have e1 := cle (nI51 k) (show k * 5 + 1 < 2 ^ 31 by omega)
  have e2 := cle (nI52 k) (show k * 5 + 2 < 2 ^ 31 by omega)
  have e3 := cle (nI53 k) (show k * 5 + 3 < 2 ^ 31 by omega)
  have e4 := cle (nI54 k) (show k * 5 + 4 < 2 ^ 31 by omega)
  refine am_run_k 5 (And.intro (vpe (nI51 k) (by omega)) ?_)
  refine am_run_k 6 (And.intro (vpe (nI52 k) (by omega)) ?_)
  refine am_run_k 6 (And.intro (vpe (nI53 k) (by omega)) ?_)
  refine am_run_k 6 (And.intro (vpe (nI54 k) (by omega)) ?_)
  refine am_run_k 4 (And.intro (vpe (nIm5 k) (by omega)) ?_)
  rw [e0, e1, e2, e3, e4, r0, r1, r2, r3, r4]
  have s1 : scC g g := scC.rf
  have hr : rowOK kd a b c x := hr
  clear r0 r1 r2 r3 r4
  rcases hr with ⟨h23, ⟨w, hw, rfl⟩, t, ht, rfl⟩ | ⟨rfl, q, hq, rfl⟩ | ⟨rfl, ⟨q, hq, rfl⟩, ⟨q2, hq2, rfl⟩, ⟨p, hp, rfl⟩, t, ht, rfl⟩ | ⟨h0, ⟨q, hq, rfl⟩, ⟨p, hp, rfl⟩, t, ht, rfl⟩
  · rcases h23 with rfl | rfl
    · refine am_run_k 1 (And.intro (fun h1 => absurd h1 (by decide)) (fun h1 => And.intro (fun h2 => ?_) (fun h2 => absurd rfl h2)))
      refine am_run_k 7 (And.intro (vpn hw) ?_)
      refine am_run_k 3 (And.intro (vpn hw) ?_)
      refine am_run_k 2 ?_
      rw [ncl (by omega)]
      refine h _ (s1.up (by decide)) (am_up_ne (by decide)) (fun w' hw' => ?_) (fun w' hw' => ?_) ?_
      · unfold heS
        by_cases z : w = w'
        · rw [dK_t rfl z, ← z, am_up_us]; rfl
        · rw [dK_f2 hw hw' z, am_up_un (Ne.symm z)]; rfl
      · rw [heL_n (by decide), am_up_ne (by decide)]
      · rw [heC_n (by decide), am_up_ne (by decide)]
    · refine am_run_k 1 (And.intro (fun h1 => absurd h1 (by decide)) (fun h1 => And.intro (fun h2 => absurd h2 (by decide)) (fun h2 => And.intro (fun h3 => ?_) (fun h3 => absurd rfl h3))))
      refine am_run_k 7 (And.intro (vpn hw) ?_)
      refine am_run_k 5 (And.intro (vpn hw) ?_)
      refine am_run_k 2 ?_
      rw [ncl (by omega)]
      refine h _ (s1.up (by decide)) (am_up_ne (by decide)) (fun w' hw' => ?_) (fun w' hw' => ?_) ?_
      · rw [heS_n (by decide), am_up_ne (by decide)]
      · unfold heL
        by_cases z : w = w'
        · rw [dK_t rfl z, ← z, am_up_us]; rfl
        · rw [dK_f2 hw hw' z, am_up_un (Ne.symm z)]; rfl
      · rw [heC_n (by decide), am_up_ne (by decide)]
  · refine am_run_k 1 (And.intro (fun h1 => absurd h1 (by decide)) (fun h1 => And.intro (fun h2 => absurd h2 (by decide)) (fun h2 => And.intro (fun h3 => absurd h3 (by decide)) (fun h3 => And.intro (fun h4 => ?_) (fun h4 => absurd rfl h4)))))
    refine am_run_k 10 ?_
    refine h _ (s1.up (by decide)) (am_up_ne (by decide)) (fun w' hw' => ?_) (fun w' hw' => ?_) ?_
    · rw [heS_n (by decide), am_up_ne (by decide)]
    · rw [heL_n (by decide), am_up_ne (by decide)]
    · rw [am_up_us]; rfl
  · refine am_run_k 1 (And.intro (fun h1 => absurd h1 (by decide)) (fun h1 => And.intro (fun h2 => absurd h2 (by decide)) (fun h2 => And.intro (fun h3 => absurd h3 (by decide)) (fun h3 => And.intro (fun h4 => absurd h4 (by decide)) (fun h4 => And.intro (fun h5 => absurd h5 (by decide)) (fun h5 => And.intro (fun h6 => absurd h6 (by decide)) (fun h6 => And.intro (fun h7 => ?_) (fun h7 => absurd rfl h7))))))))
    refine am_run_k 9 (And.intro (vpe nIx10 (by omega)) ?_)
    refine am_run_k 5 (And.intro (vpe nIx10 (by omega)) ?_)
    refine am_run_k 9 (And.intro (vpe nIx10 (by omega)) ?_)
    refine am_run_k 5 (And.intro (vpe nIx10 (by omega)) ?_)
    refine am_run_k 2 ?_
    rw [cle nIx10 (by omega), cle nIx10 (by omega)]
    refine h _ ((s1.up (by decide)).up (by decide)) ?_ (fun w' hw' => ?_) (fun w' hw' => ?_) ?_
    · rw [am_up_at, am_up_at]
      show _ = heY (nI q2) (nI p) (nI t) (heY (nI q) (nI p) (nI t) (g 10))
      unfold heY
      rw [ixE hq2 ht, ixE hq ht]; rfl
    · rw [heS_n (by decide), am_up_ne (by decide), am_up_ne (by decide)]
    · rw [heL_n (by decide), am_up_ne (by decide), am_up_ne (by decide)]
    · rw [heC_n (by decide), am_up_ne (by decide), am_up_ne (by decide)]
  · have b129 : kd = 1 ∨ kd = 6 → am (d + 1) 44 129 [some (.ref 9), some (.ref 6), some (.int (nI k * 5)), some (.int (nI q)), some (.int (nI p)), some (.int (nI t)), some (.int x)] [] LY g 0 0 none Q := by
      intro h16
      refine am_run_k 9 (And.intro (vpe nIx10 (by omega)) ?_)
      refine am_run_k 7 (And.intro (vpe nIx10 (by omega)) ?_)
      refine am_run_k 2 ?_
      rw [cle nIx10 (by omega)]
      refine h _ (s1.up (by decide)) ?_ (fun w' hw' => ?_) (fun w' hw' => ?_) ?_
      · have e5 : heMay (kd, nI q, nI p, nI t, x) (g 10) = heN (nI q) (nI p) (nI t) (g 10) := by rcases h16 with rfl | rfl <;> rfl
        rw [e5, am_up_at]
        unfold heN
        rw [ixE hq ht]; rfl
      · rw [heS_n (by rcases h16 with rfl | rfl <;> decide), am_up_ne (by decide)]
      · rw [heL_n (by rcases h16 with rfl | rfl <;> decide), am_up_ne (by decide)]
      · rw [heC_n (by rcases h16 with rfl | rfl <;> decide), am_up_ne (by decide)]
    have b195 : kd = 0 ∨ kd = 5 → am (d + 1) 44 195 [some (.ref 9), some (.ref 6), some (.int (nI k * 5)), some (.int (nI q)), some (.int (nI p)), some (.int (nI t)), some (.int x)] [] LY g 0 0 none Q := by
      intro h05
      refine am_run_k 9 (And.intro (vpe nIx10 (by omega)) ?_)
      refine am_run_k 5 (And.intro (vpe nIx10 (by omega)) ?_)
      refine am_run_k 1 ?_
      rw [cle nIx10 (by omega)]
      refine h _ (s1.up (by decide)) ?_ (fun w' hw' => ?_) (fun w' hw' => ?_) ?_
      · have e5 : heMay (kd, nI q, nI p, nI t, x) (g 10) = heY (nI q) (nI p) (nI t) (g 10) := by rcases h05 with rfl | rfl <;> rfl
        rw [e5, am_up_at]
        unfold heY
        rw [ixE hq ht]; rfl
      · rw [heS_n (by rcases h05 with rfl | rfl <;> decide), am_up_ne (by decide)]
      · rw [heL_n (by rcases h05 with rfl | rfl <;> decide), am_up_ne (by decide)]
      · rw [heC_n (by rcases h05 with rfl | rfl <;> decide), am_up_ne (by decide)]
    rcases h0 with rfl | rfl | rfl | rfl
    · refine am_run_k 1 (And.intro (fun h1 => absurd h1 (by decide)) (fun h1 => And.intro (fun h2 => absurd h2 (by decide)) (fun h2 => And.intro (fun h3 => absurd h3 (by decide)) (fun h3 => And.intro (fun h4 => absurd h4 (by decide)) (fun h4 => And.intro (fun h5 => absurd h5 (by decide)) (fun h5 => And.intro (fun h6 => absurd h6 (by decide)) (fun h6 => And.intro (fun h7 => absurd h7 (by decide)) (fun h7 => b195 (Or.inl rfl)))))))))
    · exact am_run_k 1 (And.intro (fun h1 => b129 (Or.inl rfl)) (fun h1 => absurd rfl h1))
    · refine am_run_k 1 (And.intro (fun h1 => absurd h1 (by decide)) (fun h1 => And.intro (fun h2 => absurd h2 (by decide)) (fun h2 => And.intro (fun h3 => absurd h3 (by decide)) (fun h3 => And.intro (fun h4 => absurd h4 (by decide)) (fun h4 => And.intro (fun h5 => b195 (Or.inr rfl)) (fun h5 => absurd rfl h5))))))
    · refine am_run_k 1 (And.intro (fun h1 => absurd h1 (by decide)) (fun h1 => And.intro (fun h2 => absurd h2 (by decide)) (fun h2 => And.intro (fun h3 => absurd h3 (by decide)) (fun h3 => And.intro (fun h4 => absurd h4 (by decide)) (fun h4 => And.intro (fun h5 => absurd h5 (by decide)) (fun h5 => And.intro (fun h6 => b129 (Or.inr rfl)) (fun h6 => absurd rfl h6)))))))
/-- what is heard of k finds -/
def LIS (g0 g : am_G) (sel : Nat → Bool) (k : Nat) : Prop := scC g0 g ∧ eq60 (g 10) (mayF (rwO g0) sel k) ∧ (∀ w, w < 3 → g 13 w = sooF (rwO g0) sel w k) ∧ (∀ w, w < 3 → g 14 w = latF (g0 1 5) (rwO g0) sel w k) ∧ g 9 5 = clrF (rwO g0) sel k
theorem LIS.skip {g0 : am_G} {sel : Nat → Bool} {k : Nat} (l : LIS g0 g sel k) (h : sel k = false) : LIS g0 g sel (k + 1) := by
  obtain ⟨l1, l2, l3, l4, l5⟩ := l
  refine ⟨l1, ?_, fun w hw => ?_, fun w hw => ?_, ?_⟩
  · rw [mayF, h]; exact l2
  · rw [sooF, h]; exact l3 w hw
  · rw [latF, h]; exact l4 w hw
  · rw [clrF, h]; exact l5
theorem LIS.hear {g0 g' : am_G} {sel : Nat → Bool} {k : Nat} (l : LIS g0 g sel k) (h : sel k = true) (s : scC g g') (h10 : g' 10 = heMay (rwO g0 k) (g 10)) (h13 : ∀ w, w < 3 → g' 13 w = heS (rwO g0 k) w (g 13 w)) (h14 : ∀ w, w < 3 → g' 14 w = heL (rwO g0 k) w (g 14 w)) (h9 : g' 9 5 = heC (rwO g0 k) (g 9 5)) : LIS g0 g' sel (k + 1) := by
  obtain ⟨l1, l2, l3, l4, l5⟩ := l
  refine ⟨l1.tr s, ?_, fun w hw => ?_, fun w hw => ?_, ?_⟩
  · rw [mayF, h, h10]; exact l2.he
  · rw [sooF, h, h13 w hw, l3 w hw]; rfl
  · rw [latF, h, h14 w hw, l4 w hw]; rfl
  · rw [clrF, h, h9, l5]; rfl
/-- which finds are heard -/
def selB (g : am_G) (set who : Int32) (k : Nat) : Bool := bt set k && !(decide (5 ≤ g 25 k) && decide (g 26 (4 * k) = who))
theorem l_43_71_x {cc : Nat} {set who : Int32} {g0 : am_G} (hcc : cc ≤ 20) (e51 : g0 5 1 = nI cc) (hr : rowsC g0 cc) (tr : Tr g0 cc) (h : ∀ g', LIS g0 g' (selB g0 set who) cc → Q none LY g') : ∀ (n k : Nat) (x : Int32) (lz : Option Value) (g : am_G), k + n = cc → x = nI k → LIS g0 g (selB g0 set who) k → am (d + 2) 43 71 [some (.ref 9), some (.ref 1), some (.int set), some (.int who), some (.int x), lz] [] LY g 0 0 none Q := by
  intro n
  induction n with
  | zero =>
    intro k x lz g hk hx l
    have hk : k = cc := by omega
    subst hk; subst hx
    have f51 : g 5 1 = nI k := by rw [l.1 5 (by omega)]; exact e51
    refine am_run_k 5 (And.intro (fun h6 => ?_) (fun hx => absurd ((show g 5 1 ≤ nI k by rw [f51]; exact nI_le (Nat.le_refl k) (by omega))) hx))
    refine am_run_k 1 ?_
    exact h g l
  | succ n ih =>
    intro k x lz g hk hx l
    subst hx
    have f51 : g 5 1 = nI cc := by rw [l.1 5 (by omega)]; exact e51
    have e6 : g 6 = g0 6 := l.1 6 (by omega)
    obtain ⟨a0, a1, a2, a3, a4⟩ := tr k (by omega)
    refine am_run_k 5 (And.intro (fun hx => absurd hx ((show ¬ g 5 1 ≤ nI k by rw [f51]; exact nI_ge (by omega) (by omega)))) (fun h6 => ?_))
    refine am_run_k 4 (am_cl ?_)
    refine w_kind (k := k) (by omega) ?_
    have nxt : ∀ (lz : Option Value) g1, LIS g0 g1 (selB g0 set who) (k + 1) → am (d + 2) 43 145 [some (.ref 9), some (.ref 1), some (.int set), some (.int who), some (.int (nI k)), lz] [] LY g1 0 0 none Q := by
      intro lz g1 hg1
      refine am_run_k 2 ?_
      exact ih (k + 1) _ _ _ (by omega) (nI_1 k) hg1
    have tail : ∀ b : Bool, b = (decide (5 ≤ g0 25 k) && decide (g0 26 (4 * k) = who)) → am (d + 2) 43 114 [some (.ref 9), some (.ref 1), some (.int set), some (.int who), some (.int (nI k)), lz] [.int (am_bi b)] LY g 0 0 none Q := by
      intro b eb
      have es : selB g0 set who k = (bt set k && !b) := by rw [eb]; rfl
      refine am_run_k 4 (am_cl ?_)
      refine w_has ?_
      rw [hs_bt (by omega)]
      refine am_run_k 1 (And.intro (fun h7 => ?_) (fun h7 => ?_))
      · have hb := bi_f h7
        rw [hb] at es
        exact nxt _ g (l.skip es)
      · have hb := bi_t h7
        rw [hb] at es
        refine am_run_k 2 (And.intro (fun h8 => ?_) (fun h8 => ?_))
        · have hb2 : b = true := bi_t h8
          rw [hb2] at es
          exact nxt _ g (l.skip es)
        · have hb2 : b = false := bi_f h8
          rw [hb2] at es
          refine am_run_k 8 (am_cl ?_)
          refine w_hear_x (k := k) (r := rwO g0 k) (by omega) ⟨by rw [e6]; exact a0, by rw [e6]; exact a1, by rw [e6]; exact a2, by rw [e6]; exact a3, by rw [e6]; exact a4⟩ ?_ (fun g' s' h10 h13 h14 h9 => ?_)
          · have := hr k (by omega)
            rw [a0, a1, a2, a3, a4] at this
            exact this
          · exact nxt _ g' (l.hear es s' h10 h13 h14 h9)
    refine am_run_k 2 (And.intro (fun h9 => ?_) (fun h9 => ?_))
    · refine am_run_k 1 ?_
      have z : ¬ (5 : Int32) ≤ g0 25 k := by rw [← a0, ← e6]; first | exact h9 | exact fa_nle.mpr h9 | exact fun y => absurd y (fa_nle.mpr h9)
      exact tail false (by rw [decide_eq_false z]; rfl)
    · have z : (5 : Int32) ≤ g0 25 k := by rw [← a0, ← e6]; first | exact h9 | exact fa_nlt.mp h9 | exact rdr h9
      refine am_run_k 4 (am_cl ?_)
      refine w_who (k := k) (by omega) ?_
      refine am_run_k 2 (And.intro (fun h10 => ?_) (fun h10 => ?_))
      · refine am_run_k 1 ?_
        have z2 : ¬ g0 26 (4 * k) = who := by rw [← a1, ← e6]; exact h10
        exact tail false (by rw [decide_eq_true z, decide_eq_false z2]; rfl)
      · refine am_run_k 2 ?_
        have z2 : g0 26 (4 * k) = who := by rw [← a1, ← e6]; first | exact h10 | exact rdr h10
        exact tail true (by rw [decide_eq_true z, decide_eq_true z2]; rfl)
theorem l_43_32_x {set who : Int32} {g0 : am_G} (h : ∀ (g' : am_G) (x : Int32), scC g0 g' → (∀ i, i < 60 → g' 10 i = 255) → (∀ w, w < 3 → g' 13 w = 0 ∧ g' 14 w = g0 1 5) → am (d + 2) 43 63 [some (.ref 9), some (.ref 1), some (.int set), some (.int who), some (.int x), none] [] LY g' 0 0 none Q) : ∀ (n k : Nat) (x : Int32) (g : am_G), k + n = 3 → x = nI k → scC g0 g → (∀ i, i < 60 → g 10 i = 255) → (∀ w, w < k → g 13 w = 0 ∧ g 14 w = g0 1 5) → am (d + 2) 43 32 [some (.ref 9), some (.ref 1), some (.int set), some (.int who), some (.int x), none] [] LY g 0 0 none Q := by
  intro n
  induction n with
  | zero =>
    intro k x g hk hx hg h10 h3
    have hk : k = 3 := by omega
    subst hk; subst hx
    refine am_run_k 3 (And.intro (fun h6 => ?_) (fun hx => absurd ((show nI 3 ≤ nI 3 from nI_le (Nat.le_refl 3) (by decide))) hx))
    exact h g _ hg h10 h3
  | succ n ih =>
    intro k x g hk hx hg h10 h3
    subst hx
    refine am_run_k 3 (And.intro (fun hx => absurd hx ((nI_ge (b := 3) (by omega) (by decide)))) (fun h6 => ?_))
    refine am_run_k 5 (And.intro (vpn (by omega)) ?_)
    refine am_run_k 6 (And.intro (vpn (by omega)) ?_)
    refine am_run_k 2 ?_
    rw [ncl (by omega)]
    refine ih (k + 1) _ _ (by omega) (nI_1 k) ((hg.up (by decide)).up (by decide)) (fun i hi => by rw [am_up_ne (by decide), am_up_ne (by decide)]; exact h10 i hi) (fun w hw => ?_)
    by_cases e : w = k
    · rw [e]
      refine ⟨by rw [am_up_ne (by decide), am_up_us], ?_⟩
      rw [am_up_us]
      first | exact congrFun (hg 1 (by omega)) 5 | (rw [am_up_ne (by decide)]; exact congrFun (hg 1 (by omega)) 5)
    · rw [am_up_ne (by decide), am_up_un e, am_up_un e, am_up_ne (by decide)]
      exact h3 w (by omega)
theorem l_43_3_x {set who : Int32} {g0 : am_G} (h : ∀ (g' : am_G) (x : Int32), scC g0 g' → (∀ i, i < 60 → g' 10 i = 255) → am (d + 2) 43 29 [some (.ref 9), some (.ref 1), some (.int set), some (.int who), some (.int x), none] [] LY g' 0 0 none Q) : ∀ (n k : Nat) (x : Int32) (g : am_G), k + n = 60 → x = nI k → scC g0 g → (∀ i, i < k → g 10 i = 255) → am (d + 2) 43 3 [some (.ref 9), some (.ref 1), some (.int set), some (.int who), some (.int x), none] [] LY g 0 0 none Q := by
  intro n
  induction n with
  | zero =>
    intro k x g hk hx hg h10
    have hk : k = 60 := by omega
    subst hk; subst hx
    refine am_run_k 5 (And.intro (fun h6 => ?_) (fun hx => absurd ((show nI 60 ≤ nI 60 from nI_le (Nat.le_refl 60) (by decide))) hx))
    exact h g _ hg h10
  | succ n ih =>
    intro k x g hk hx hg h10
    subst hx
    refine am_run_k 5 (And.intro (fun hx => absurd hx ((nI_ge (b := 60) (by omega) (by decide)))) (fun h6 => ?_))
    refine am_run_k 5 (And.intro (vpn (by omega)) ?_)
    refine am_run_k 2 ?_
    rw [ncl (by omega)]
    refine ih (k + 1) _ _ (by omega) (nI_1 k) (hg.up (by decide)) (fun i hi => ?_)
    by_cases e : i = k
    · rw [e, am_up_us]
    · rw [am_up_un e]; exact h10 i (by omega)
theorem w_listen_x {set who : Int32} {c : Nat} (hc : c ≤ 20) (e51 : g 5 1 = nI c) (hr : rowsC g c) (tr : Tr g c) (h : ∀ g', LIS g g' (selB g set who) c → Q none LY g') : am (d + 2) 43 0 [some (.ref 9), some (.ref 1), some (.int set), some (.int who), none, none] [] LY g 0 0 none Q := by
  refine am_run_k 2 ?_
  refine l_43_3_x (g0 := g) (fun g1 x1 hg1 h10 => ?_) 60 0 0 g rfl rfl scC.rf (fun i hi => absurd hi (by omega))
  refine am_run_k 2 ?_
  refine l_43_32_x (g0 := g) (fun g2 x2 hg2 h10b h3 => ?_) 3 0 0 g1 rfl rfl hg1 h10 (fun w hw => absurd hw (by omega))
  refine am_run_k 5 ?_
  refine l_43_71_x (g0 := g) hc e51 hr tr h c 0 0 none _ (Nat.zero_add c) rfl ⟨hg2.up (by decide), fun i hi => ?_, fun w hw => ?_, fun w hw => ?_, ?_⟩
  · rw [am_up_ne (by decide), h10b i hi, mayF]
  · rw [am_up_ne (by decide), (h3 w hw).1, sooF]
  · rw [am_up_ne (by decide), (h3 w hw).2, latF]
  · rw [am_up_us, clrF]
end HEA
