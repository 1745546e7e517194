section MOD
variable {d : Nat} {L : am_L} {g : am_G} {bc bs : Nat} {sx : am_S} {Q : am_Q}
def am_in2 (v lo hi : Int32) : Bool := decide (lo ≤ v) && decide (v ≤ hi)
theorem w_in {v lo hi : Int32} (h : Q (some (.int (am_bi (am_in2 v lo hi)))) L g) : am d 83 0 [some (.int v), some (.int lo), some (.int hi)] [] L g 0 0 none Q := by
  unfold am_in2 at h
  refine am_run_k 3 (And.intro (fun h1 => ?_) (fun h1 => ?_))
  · refine am_run_k 2 (And.intro (Or.inl rfl) ?_)
    rw [decide_eq_false (fa_nle.mpr h1)] at h
    exact h
  · refine am_run_k 3 (And.intro (fun h2 => ?_) (fun h2 => ?_))
    · refine am_run_k 2 (And.intro (Or.inl rfl) ?_)
      rw [decide_eq_false (p := v ≤ hi) (fa_nle.mpr h2)] at h
      simp only [Bool.and_false] at h
      exact h
    · refine am_run_k 3 (And.intro (Or.inr rfl) ?_)
      rw [decide_eq_true (fa_nlt.mp h1), decide_eq_true (fa_nlt.mp h2)] at h
      exact h
theorem in_ir {v : Int32} {k : Nat} (hk : k + 1 < 2 ^ 31) : am_in2 v 0 (nI k) = am_ir v (nI (k + 1)) := by
  unfold am_in2 am_ir
  congr 1
  apply decide_eq_decide.mpr
  rw [Int32.le_iff_toInt_le, Int32.lt_iff_toInt_lt, nI_toInt (by omega), nI_toInt hk]
  omega
theorem m_isPlace {n : Int32} (h : Q (some (.int (am_bi (am_ir n 8)))) L g) : am (d + 1) 85 0 [some (.int n)] [] L g 0 0 none Q := by
  refine am_run_k 4 (am_cl ?_)
  refine w_in ?_
  refine am_run_k 1 (And.intro (bi_01 _) ?_)
  rw [show am_in2 n 0 7 = am_ir n 8 from in_ir (k := 7) (by decide)]
  exact h
theorem m_isTick {n : Int32} (h : Q (some (.int (am_bi (am_ir n 10)))) L g) : am (d + 1) 86 0 [some (.int n)] [] L g 0 0 none Q := by
  refine am_run_k 4 (am_cl ?_)
  refine w_in ?_
  refine am_run_k 1 (And.intro (bi_01 _) ?_)
  rw [show am_in2 n 0 9 = am_ir n 10 from in_ir (k := 9) (by decide)]
  exact h
theorem m_isSheet {n : Int32} (h : Q (some (.int (am_bi (am_ir n 2)))) L g) : am (d + 1) 100 0 [some (.int n)] [] L g 0 0 none Q := by
  refine am_run_k 4 (am_cl ?_)
  refine w_in ?_
  refine am_run_k 1 (And.intro (bi_01 _) ?_)
  rw [show am_in2 n 0 1 = am_ir n 2 from in_ir (k := 1) (by decide)]
  exact h
theorem m_isOne {q : Int32} {n : Nat} (hn : 1 ≤ n ∧ n ≤ 6) (e : g 22 0 = nI n) (h : Q (some (.int (am_bi (am_ir q (nI n))))) LY g) : am (d + 1) 87 0 [some (.ref 22), some (.int q)] [] LY g 0 0 none Q := by
  refine am_run_k 7 (am_cl ?_)
  refine w_in ?_
  refine am_run_k 1 (And.intro (bi_01 _) ?_)
  obtain ⟨n', rfl⟩ : ∃ n', n = n' + 1 := ⟨n - 1, by omega⟩
  rw [e, nI_pred, in_ir (by omega)]
  exact h
theorem m_isGood {kd a b c x : Int32} {n : Nat} (hn : 1 ≤ n ∧ n ≤ 6) (e : g 22 0 = nI n) (h : Q (some (.int (am_bi (fdB (nI n) kd a b c x)))) LY g) : am (d + 2) 94 0 [some (.ref 22), some (.int kd), some (.int a), some (.int b), some (.int c), some (.int x)] [] LY g 0 0 none Q := by
  unfold fdB at h
  have s10 : (kd = 2 ∨ kd = 3) → am (d + 2) 94 10 [some (.ref 22), some (.int kd), some (.int a), some (.int b), some (.int c), some (.int x)] [] LY g 0 0 none Q := by
    intro h23
    rw [if_pos h23] at h
    unfold fd2 at h
    refine am_run_k 4 (am_cl ?_)
    refine w_in ?_
    rw [show am_in2 a 0 2 = am_ir a 3 from in_ir (k := 2) (by decide)]
    refine am_run_k 1 (And.intro (fun h1 => ?_) (fun h1 => ?_))
    · refine am_run_k 2 (And.intro (Or.inl rfl) ?_)
      rw [bi_f h1] at h
      exact h
    · refine am_run_k 2 (am_cl ?_)
      refine m_isTick ?_
      refine am_run_k 1 (And.intro (fun h2 => ?_) (fun h2 => ?_))
      · refine am_run_k 2 (And.intro (Or.inl rfl) ?_)
        rw [bi_t h1, bi_f h2] at h
        exact h
      · refine am_run_k 3 (And.intro (Or.inr rfl) ?_)
        rw [bi_t h1, bi_t h2] at h
        exact h
  refine am_run_k 3 (And.intro (fun h1 => ?_) (fun h1 => ?_))
  · exact s10 (Or.inl h1)
  · refine am_run_k 3 (And.intro (fun h2 => ?_) (fun h2 => ?_))
    · rw [if_neg (fun q => q.elim h1 h2)] at h
      refine am_run_k 3 (And.intro (fun h3 => ?_) (fun h3 => ?_))
      · rw [if_neg h3] at h
        refine am_run_k 3 (And.intro (fun h4 => ?_) (fun h4 => ?_))
        · rw [if_neg h4] at h
          unfold fd0 at h
          refine am_run_k 4 (am_cl ?_)
          refine w_in ?_
          rw [show am_in2 kd 0 7 = am_ir kd 8 from in_ir (k := 7) (by decide)]
          refine am_run_k 1 (And.intro (fun h5 => ?_) (fun h5 => ?_))
          · refine am_run_k 2 (And.intro (Or.inl rfl) ?_)
            rw [bi_f h5] at h
            exact h
          · refine am_run_k 3 (am_cl ?_)
            refine m_isOne hn e ?_
            refine am_run_k 1 (And.intro (fun h6 => ?_) (fun h6 => ?_))
            · refine am_run_k 2 (And.intro (Or.inl rfl) ?_)
              rw [bi_t h5, bi_f h6] at h
              exact h
            · refine am_run_k 2 (am_cl ?_)
              refine m_isPlace ?_
              refine am_run_k 1 (And.intro (fun h7 => ?_) (fun h7 => ?_))
              · refine am_run_k 2 (And.intro (Or.inl rfl) ?_)
                rw [bi_t h5, bi_t h6, bi_f h7] at h
                exact h
              · refine am_run_k 2 (am_cl ?_)
                refine m_isTick ?_
                refine am_run_k 1 (And.intro (fun h8 => ?_) (fun h8 => ?_))
                · refine am_run_k 2 (And.intro (Or.inl rfl) ?_)
                  rw [bi_t h5, bi_t h6, bi_t h7, bi_f h8] at h
                  exact h
                · refine am_run_k 3 (And.intro (Or.inr rfl) ?_)
                  rw [bi_t h5, bi_t h6, bi_t h7, bi_t h8] at h
                  exact h
        · have h4 : kd = 7 := h4
          rw [if_pos h4] at h
          unfold fd7 at h
          refine am_run_k 3 (am_cl ?_)
          refine m_isOne hn e ?_
          refine am_run_k 1 (And.intro (fun h5 => ?_) (fun h5 => ?_))
          · refine am_run_k 2 (And.intro (Or.inl rfl) ?_)
            rw [bi_f h5] at h
            exact h
          · refine am_run_k 3 (am_cl ?_)
            refine m_isOne hn e ?_
            refine am_run_k 1 (And.intro (fun h6 => ?_) (fun h6 => ?_))
            · refine am_run_k 2 (And.intro (Or.inl rfl) ?_)
              rw [bi_t h5, bi_f h6] at h
              exact h
            · refine am_run_k 3 (And.intro (fun h7 => ?_) (fun h7 => ?_))
              · refine am_run_k 2 (And.intro (Or.inl rfl) ?_)
                rw [bi_t h5, bi_t h6, decide_eq_true h7] at h
                exact h
              · refine am_run_k 2 (am_cl ?_)
                refine m_isPlace ?_
                refine am_run_k 1 (And.intro (fun h8 => ?_) (fun h8 => ?_))
                · refine am_run_k 2 (And.intro (Or.inl rfl) ?_)
                  rw [bi_t h5, bi_t h6, decide_eq_false h7, bi_f h8] at h
                  exact h
                · refine am_run_k 2 (am_cl ?_)
                  refine m_isTick ?_
                  refine am_run_k 1 (And.intro (fun h9 => ?_) (fun h9 => ?_))
                  · refine am_run_k 2 (And.intro (Or.inl rfl) ?_)
                    rw [bi_t h5, bi_t h6, decide_eq_false h7, bi_t h8, bi_f h9] at h
                    exact h
                  · refine am_run_k 3 (And.intro (Or.inr rfl) ?_)
                    rw [bi_t h5, bi_t h6, decide_eq_false h7, bi_t h8, bi_t h9] at h
                    exact h
      · rw [if_pos h3] at h
        refine am_run_k 3 (am_cl ?_)
        refine m_isOne hn e ?_
        refine am_run_k 1 (And.intro (bi_01 _) ?_)
        exact h
    · exact s10 (Or.inr h2)
/-- a find's row, the reference's -/
def am_mput (g : am_G) (n : Nat) (kd a b c x : Int32) : am_G := am_up (am_up (am_up (am_up (am_up (am_up (am_up g 25 n kd) 26 (4 * n) a) 26 (4 * n + 1) (am_kb kd b)) 26 (4 * n + 2) (am_kc kd c)) 26 (4 * n + 3) (am_kx kd x)) 27 n 0) 22 7 (nI (n + 1))
theorem m_put {n : Nat} {kd a b c x : Int32} (hn : n < 20) (hc : g 22 7 = nI n) (h : Q none LY (am_mput g n kd a b c x)) : am d 95 0 [some (.ref 22), some (.int kd), some (.int a), some (.int b), some (.int c), some (.int x), none] [] LY g 0 0 none Q := by
  have i0 : (4 : Int32) * g 22 7 = nI (4 * n) := by rw [hc]; exact nIm4 n
  have i1 : (4 : Int32) * g 22 7 + 1 = nI (4 * n + 1) := by rw [i0]; exact nI_1 _
  have i2 : (4 : Int32) * g 22 7 + 2 = nI (4 * n + 2) := by rw [i0]; exact nIp2 _
  have i3 : (4 : Int32) * g 22 7 + 3 = nI (4 * n + 3) := by rw [i0]; exact nIp3 _
  have st5 : ∀ (vb vc vx : Int32), vb = am_kb kd b → vc = am_kc kd c → vx = am_kx kd x → am d 95 132 [some (.ref 22), some (.int kd), some (.int a), some (.int b), some (.int c), some (.int x), some (.int (am_nm kd))] [] LY (am_up (am_up (am_up (am_up (am_up g 25 (g 22 7).toNatClampNeg kd) 26 (4 * g 22 7).toNatClampNeg a) 26 (4 * g 22 7 + 1).toNatClampNeg vb) 26 (4 * g 22 7 + 2).toNatClampNeg vc) 26 (4 * g 22 7 + 3).toNatClampNeg vx) 0 0 none Q := by
    intro vb vc vx e1 e2 e3
    refine am_run_k 6 (And.intro (vpe hc (by omega)) ?_)
    refine am_run_k 7 ?_
    refine am_fin h ?_
    rw [cle hc (by omega), cle i0 (by omega), cle i1 (by omega), cle i2 (by omega), cle i3 (by omega), e1, e2, e3]
    unfold am_mput
    congr 1
    · congr 1
      exact cle (show _ = nI n from hc) (by omega)
    · rw [← nI_1, ← hc]
      rfl
  have st4 : ∀ (vb vc : Int32), vb = am_kb kd b → vc = am_kc kd c → am d 95 107 [some (.ref 22), some (.int kd), some (.int a), some (.int b), some (.int c), some (.int x), some (.int (am_nm kd))] [] LY (am_up (am_up (am_up (am_up g 25 (g 22 7).toNatClampNeg kd) 26 (4 * g 22 7).toNatClampNeg a) 26 (4 * g 22 7 + 1).toNatClampNeg vb) 26 (4 * g 22 7 + 2).toNatClampNeg vc) 0 0 none Q := by
    intro vb vc e1 e2
    refine am_run_k 11 (And.intro (fun h1 => ?_) (fun h1 => ?_))
    · refine am_run_k 2 (And.intro (vpe i3 (by omega)) ?_)
      exact st5 _ _ _ e1 e2 (by unfold am_kx; rw [if_pos h1])
    · refine am_run_k 3 (And.intro (vpe i3 (by omega)) ?_)
      exact st5 _ _ _ e1 e2 (by unfold am_kx; rw [if_neg h1])
  have st3 : ∀ (vb : Int32), vb = am_kb kd b → am d 95 82 [some (.ref 22), some (.int kd), some (.int a), some (.int b), some (.int c), some (.int x), some (.int (am_nm kd))] [] LY (am_up (am_up (am_up g 25 (g 22 7).toNatClampNeg kd) 26 (4 * g 22 7).toNatClampNeg a) 26 (4 * g 22 7 + 1).toNatClampNeg vb) 0 0 none Q := by
    intro vb e1
    refine am_run_k 11 (And.intro (fun h1 => ?_) (fun h1 => ?_))
    · refine am_run_k 2 (And.intro (vpe i2 (by omega)) ?_)
      exact st4 _ _ e1 (by unfold am_kc; rw [if_pos h1])
    · refine am_run_k 3 (And.intro (vpe i2 (by omega)) ?_)
      exact st4 _ _ e1 (by unfold am_kc; rw [if_neg h1])
  have st2 : ∀ (u : Int32), u = am_nm kd → am d 95 34 [some (.ref 22), some (.int kd), some (.int a), some (.int b), some (.int c), some (.int x), none] [.int u] LY g 0 0 none Q := by
    intro u hu
    subst hu
    refine am_run_k 7 (And.intro (vpe hc (by omega)) ?_)
    refine am_run_k 8 (And.intro (vpe i0 (by omega)) ?_)
    refine am_run_k 11 (And.intro (fun h1 => ?_) (fun h1 => ?_))
    · refine am_run_k 2 (And.intro (vpe i1 (by omega)) ?_)
      exact st3 _ (by unfold am_kb; rw [if_pos h1])
    · refine am_run_k 3 (And.intro (vpe i1 (by omega)) ?_)
      exact st3 _ (by unfold am_kb; rw [if_neg h1])
  refine am_run_k 3 (And.intro (fun h1 => ?_) (fun h1 => ?_))
  · refine am_run_k 3 (And.intro (fun h2 => ?_) (fun h2 => ?_))
    · refine am_run_k 2 ?_
      exact st2 _ (by unfold am_nm; rw [if_pos h2])
    · refine am_run_k 3 (And.intro (fun h3 => ?_) (fun h3 => ?_))
      · refine am_run_k 3 (And.intro (fun h4 => ?_) (fun h4 => ?_))
        · refine am_run_k 1 ?_
          exact st2 _ (by unfold am_nm; rw [if_neg h2, if_neg h3, if_neg h1, if_neg h4])
        · refine am_run_k 2 ?_
          exact st2 _ (by unfold am_nm; rw [if_neg h2, if_neg h3, if_neg h1, if_pos h4])
      · refine am_run_k 2 ?_
        exact st2 _ (by unfold am_nm; rw [if_neg h2, if_pos h3])
  · refine am_run_k 2 ?_
    exact st2 _ (by unfold am_nm; rw [if_neg (by rw [h1]; decide), if_neg (by rw [h1]; decide), if_pos h1])
end MOD
