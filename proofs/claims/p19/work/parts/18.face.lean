section FAC
variable {d : Nat} {L : am_L} {g : am_G} {bc bs : Nat} {sx : am_S} {Q : am_Q}
def am_bc (x : Int32) : Int32 :=
  let a := x - ((x.toUInt32 >>> ((1 : Int32).toUInt32 &&& Int32.toUInt32 31)).toInt32 &&& 1431655765)
  let b := (a &&& 858993459) + ((a.toUInt32 >>> ((2 : Int32).toUInt32 &&& Int32.toUInt32 31)).toInt32 &&& 858993459)
  let c := (b + (b.toUInt32 >>> ((4 : Int32).toUInt32 &&& Int32.toUInt32 31)).toInt32) &&& 252645135
  let e := c + (c.toUInt32 >>> ((8 : Int32).toUInt32 &&& Int32.toUInt32 31)).toInt32
  let f := e + (e.toUInt32 >>> ((16 : Int32).toUInt32 &&& Int32.toUInt32 31)).toInt32
  f &&& 63
theorem w_bitCount {x : Int32} (h : Q (some (.int (am_bc x))) L g) : am d 136 0 [some (.int x)] [] L g 0 0 none Q := by
  refine am_run_k 42 ?_
  exact h
theorem w_search : ∀ (b : Nat) {d : Nat} {ch those best : Int32} {g : am_G} {Q : am_Q}, b ≤ 40 → VC g → (∀ r g', scC g g' → Q (some (.int r)) LY g') → am (d + b + 5) 82 0 [some (.ref 1), some (.ref 9), some (.int (nI b)), some (.int ch), some (.int those), some (.int best), none, none, none, none] [] LY g 0 0 none Q := by
  intro b
  induction b with
  | zero =>
    intro d ch those best g Q hb v h
    refine am_run_k 2 (am_cl ?_)
    refine w_bitCount ?_
    refine am_run_k 3 (am_cl ?_)
    refine w_bitCount ?_
    refine am_run_k 4 (And.intro (fun h1 => ?_) (fun h1 => ?_))
    · refine am_run_k 2 (And.intro (fun h2 => ?_) (fun h2 => ?_))
      · refine am_run_k 2 ?_
        exact h _ g scC.rf
      · refine am_run_k 2 (And.intro (fun h3 => ?_) (fun hx => absurd ((show nI 0 ≤ 0 from Int32.le_refl 0)) hx))
        refine am_run_k 2 ?_
        exact h _ g scC.rf
    · refine am_run_k 3 (And.intro (fun h2 => ?_) (fun h2 => ?_))
      · refine am_run_k 3 ?_
        exact h _ g scC.rf
      · refine am_run_k 3 (am_cl ?_)
        refine w_bitCount ?_
        refine am_run_k 1 (And.intro (fun h3 => ?_) (fun h3 => ?_))
        · refine am_run_k 2 ?_
          exact h _ g scC.rf
        · refine am_run_k 3 ?_
          exact h _ g scC.rf
  | succ b ih =>
    intro d ch those best g Q hb v h
    refine am_run_k 2 (am_cl ?_)
    refine w_bitCount ?_
    refine am_run_k 3 (am_cl ?_)
    refine w_bitCount ?_
    refine am_run_k 4 (And.intro (fun h1 => ?_) (fun h1 => ?_))
    · refine am_run_k 2 (And.intro (fun h2 => ?_) (fun h2 => ?_))
      · refine am_run_k 2 ?_
        exact h _ g scC.rf
      · refine am_run_k 2 (And.intro (fun hx => absurd hx ((nI_nle (by omega) (by omega)))) (fun h3 => ?_))
        have go : am (d + (b + 1) + 5) 82 74 [some (.ref 1), some (.ref 9), some (.int (nI (b + 1))), some (.int ch), some (.int those), some (.int best), some (.int (am_bc those)), some (.int (am_bc ch)), none, none] [] LY g 0 0 none Q := by
          refine am_run_k 11 (am_cl ?_)
          refine w_suspectsOf v (fun r1 g1 hg1 => ?_)
          refine am_run_k 1 (am_cl ?_)
          refine w_bitCount ?_
          refine am_run_k 2 (And.intro (fun h5 => ?_) (fun h5 => ?_))
          · refine am_run_k 9 (am_cl ?_)
            show am (d + b + 5) 82 0 [some (.ref 1), some (.ref 9), some (.int (nI (b + 1) - 1)), some (.int ch), some (.int those), some (.int best), none, none, none, none] [] LY g1 0 0 none _
            rw [nI_pred]
            refine ih (by omega) (v.sc hg1) (fun r2 g2 hg2 => ?_)
            refine am_run_k 20 (am_cl ?_)
            refine w_suspectsOf ((v.sc hg1).sc hg2) (fun r3 g3 hg3 => ?_)
            refine am_run_k 2 (am_cl ?_)
            show am (d + b + 5) 82 0 [some (.ref 1), some (.ref 9), some (.int (nI (b + 1) - 1)), some (.int _), some (.int r3), some (.int r2), none, none, none, none] [] LY g3 0 0 none _
            rw [nI_pred]
            refine ih (by omega) (((v.sc hg1).sc hg2).sc hg3) (fun r4 g4 hg4 => ?_)
            refine am_run_k 1 ?_
            exact h r4 g4 (((hg1.tr hg2).tr hg3).tr hg4)
          · refine am_run_k 2 ?_
            exact h _ g1 hg1
        refine am_run_k 3 (And.intro (fun h4 => ?_) (fun h4 => ?_))
        · exact go
        · refine am_run_k 5 (am_cl ?_)
          refine w_bitCount ?_
          refine am_run_k 1 (And.intro (fun h5 => ?_) (fun h5 => ?_))
          · exact go
          · refine am_run_k 2 ?_
            exact h _ g scC.rf
    · refine am_run_k 3 (And.intro (fun h2 => ?_) (fun h2 => ?_))
      · refine am_run_k 3 ?_
        exact h _ g scC.rf
      · refine am_run_k 3 (am_cl ?_)
        refine w_bitCount ?_
        refine am_run_k 1 (And.intro (fun h3 => ?_) (fun h3 => ?_))
        · refine am_run_k 2 ?_
          exact h _ g scC.rf
        · refine am_run_k 3 ?_
          exact h _ g scC.rf
def nm1 (g : am_G) (n : Int32) (k : Nat) : Bool := (!(decide (g 6 (k * 5) = 2) || decide (g 6 (k * 5) = 3)) && decide (n ≤ g 6 (k * 5 + 1))) || (decide (g 6 (k * 5) = 7) && decide (n ≤ g 6 (k * 5 + 2)))
def nmF (g : am_G) (n : Int32) : Nat → Nat → Bool
  | 0, _ => false
  | m + 1, k => bif nm1 g n k then true else nmF g n m (k + 1)
theorem l_27_2 {n : Int32} {c : Nat} (hc : c ≤ 20) (e51 : g 5 1 = nI c) : ∀ (m k : Nat) (x : Int32) (a b : Option Value), k + m = c → x = nI k → Q (some (.int (am_bi (nmF g n m k)))) LY g → am (d + 1) 27 2 [some (.ref 5), some (.int n), some (.int x), a, b] [] LY g 0 0 none Q := by
  intro m
  induction m with
  | zero =>
    intro k x a b hk hx h
    have hk : k = c := by omega
    subst hk; subst hx
    refine am_run_k 4 (And.intro (fun h6 => ?_) (fun hx => absurd ((show g 5 1 ≤ nI k by rw [e51]; exact nI_le (Nat.le_refl k) (by omega))) hx))
    refine am_run_k 2 (And.intro (Or.inl rfl) ?_)
    exact h
  | succ m ih =>
    intro k x a b hk hx h
    subst hx
    refine am_run_k 4 (And.intro (fun hx => absurd hx ((show ¬ g 5 1 ≤ nI k by rw [e51]; exact nI_ge (by omega) (by omega)))) (fun h6 => ?_))
    refine am_run_k 3 (am_cl ?_)
    refine w_kind (k := k) (by omega) ?_
    rw [nmF] at h
    have nxt : ∀ (a b : Option Value), nm1 g n k = false → am (d + 1) 27 64 [some (.ref 5), some (.int n), some (.int (nI k)), a, b] [] LY g 0 0 none Q := by
      intro a b e
      rw [e] at h
      refine am_run_k 2 ?_
      exact ih (k + 1) _ _ _ (by omega) (nI_1 k) h
    have yes : ∀ (a b : Option Value), nm1 g n k = true → am (d + 1) 27 62 [some (.ref 5), some (.int n), some (.int (nI k)), a, b] [] LY g 0 0 none Q := by
      intro a b e
      rw [e] at h
      refine am_run_k 2 (And.intro (Or.inr rfl) ?_)
      exact h
    have t47 : ∀ (b : Option Value), (!(decide (g 6 (k * 5) = 2) || decide (g 6 (k * 5) = 3)) && decide (n ≤ g 6 (k * 5 + 1))) = false → am (d + 1) 27 47 [some (.ref 5), some (.int n), some (.int (nI k)), some (.int (g 6 (k * 5))), b] [] LY g 0 0 none Q := by
      intro b e
      refine am_run_k 3 (And.intro (fun h7 => ?_) (fun h7 => ?_))
      · exact nxt _ _ (by unfold nm1; rw [e, decide_eq_false h7]; rfl)
      · refine am_run_k 3 (am_cl ?_)
        refine w_other (k := k) (by omega) ?_
        refine am_run_k 2 (And.intro (fun h8 => ?_) (fun h8 => ?_))
        · exact nxt _ _ (by unfold nm1; rw [e, decide_eq_true h7, decide_eq_false (fa_nle.mpr h8)]; rfl)
        · exact yes _ _ (by unfold nm1; rw [e, decide_eq_true h7, decide_eq_true (fa_nlt.mp h8)]; rfl)
    have f26 : (decide (g 6 (k * 5) = 2) || decide (g 6 (k * 5) = 3)) = true → am (d + 1) 27 26 [some (.ref 5), some (.int n), some (.int (nI k)), some (.int (g 6 (k * 5))), b] [] LY g 0 0 none Q := by
      intro e
      refine am_run_k 5 (And.intro (fun h9 => ?_) (fun hx => absurd hx ((by decide))))
      exact t47 _ (by rw [e]; rfl)
    refine am_run_k 4 (And.intro (fun h7 => ?_) (fun h7 => ?_))
    · exact f26 (by rw [decide_eq_true h7]; rfl)
    · refine am_run_k 3 (And.intro (fun h8 => ?_) (fun h8 => ?_))
      · refine am_run_k 4 (And.intro (fun hx => absurd hx ((by decide))) (fun h9 => ?_))
        refine am_run_k 3 (am_cl ?_)
        refine w_who (k := k) (by omega) ?_
        refine am_run_k 2 (And.intro (fun h9 => ?_) (fun h9 => ?_))
        · exact yes _ _ (by unfold nm1; rw [decide_eq_false h7, decide_eq_false h8, decide_eq_true h9]; rfl)
        · exact t47 _ (by rw [decide_eq_false h7, decide_eq_false h8, decide_eq_false h9]; rfl)
      · exact f26 (by rw [decide_eq_true h8]; simp)
theorem w_nameOneFrom {n : Int32} {c : Nat} (hc : c ≤ 20) (e51 : g 5 1 = nI c) (h : Q (some (.int (am_bi (nmF g n c 0)))) LY g) : am (d + 1) 27 0 [some (.ref 5), some (.int n), none, none, none] [] LY g 0 0 none Q := by
  refine am_run_k 2 ?_
  exact l_27_2 hc e51 c 0 0 _ _ (Nat.zero_add c) rfl h
end FAC
