section MOW
variable {d : Nat} {L : am_L} {g : am_G} {bc bs : Nat} {sx : am_S} {Q : am_Q}
def deM (g : am_G) (a b c : Int32) : Bool := am_ir a 8 && (am_ir b 10 && am_in2 c (-1) (g 22 0 - 1))
theorem m_deed_x {a b c : Int32} (I : IM g) (h0 : deM g a b c = false → Q (some (.int (-1))) LY g) (h1 : deM g a b c = true → IM (am_up (am_up (am_up g 22 4 a) 22 5 b) 22 6 c) → Q (some (.int 1)) LY (am_up (am_up (am_up g 22 4 a) 22 5 b) 22 6 c)) : am (d + 2) 92 0 [some (.ref 22), some (.int a), some (.int b), some (.int c)] [] LY g 0 0 none Q := by
  unfold deM at h0 h1
  refine am_run_k 2 (am_cl ?_)
  refine m_isPlace ?_
  refine am_run_k 1 (And.intro (fun e1 => ?_) (fun e1 => ?_))
  · refine am_run_k 2 ?_
    exact h0 (by rw [bi_f e1]; rfl)
  · refine am_run_k 2 (am_cl ?_)
    refine m_isTick ?_
    refine am_run_k 1 (And.intro (fun e2 => ?_) (fun e2 => ?_))
    · refine am_run_k 2 ?_
      exact h0 (by rw [bi_t e1, bi_f e2]; rfl)
    · obtain ⟨t, ht, eb⟩ := am_ir_nI (k := 10) (by decide) (bi_t e2)
      refine am_run_k 7 (am_cl ?_)
      refine w_in ?_
      refine am_run_k 1 (And.intro (fun e3 => ?_) (fun e3 => ?_))
      · refine am_run_k 11 ?_
        obtain ⟨v1, -, v3⟩ := id I.1
        refine h1 (by rw [bi_t e1, bi_t e2, bi_t e3]; rfl) ⟨⟨?_, ⟨t, ht, ?_⟩, ?_⟩, I.2.1.of ?_, I.2.2.1.of ?_, I.2.2.2.of ?_⟩
        · rw [am_up_un (by decide), am_up_un (by decide), am_up_un (by decide)]; exact v1
        · rw [am_up_un (by decide), am_up_us]; exact eb
        · unfold rowsM
          rw [am_up_un (by decide), am_up_un (by decide), am_up_un (by decide), am_up_ne (by decide), am_up_ne (by decide), am_up_ne (by decide), am_up_ne (by decide), am_up_ne (by decide), am_up_ne (by decide)]
          exact v3
        · rw [am_up_ne (by decide), am_up_ne (by decide), am_up_ne (by decide)]
        · rw [am_up_ne (by decide), am_up_ne (by decide), am_up_ne (by decide)]
        · rw [am_up_ne (by decide), am_up_ne (by decide), am_up_ne (by decide)]
      · refine am_run_k 2 ?_
        exact h0 (by rw [bi_t e1, bi_t e2, bi_f e3]; rfl)
theorem deM_deB {a b c : Int32} {n : Nat} (hn : 2 ≤ n ∧ n ≤ 6) (e1 : g 1 3 = nI n) (e2 : g 22 0 = nI n) : deM g a b c = deB g a b c := by
  unfold deM deB
  rw [e1, e2]
  congr 2
  obtain ⟨m, rfl⟩ : ∃ m, n = m + 1 := ⟨n - 1, by omega⟩
  rw [nI_pred]
  unfold am_in2 am_ir
  rw [Bool.eq_iff_iff]
  simp only [Bool.and_eq_true, Bool.or_eq_true, decide_eq_true_iff, Int32.le_iff_toInt_le, Int32.lt_iff_toInt_lt, ← Int32.toInt_inj]
  rw [nI_toInt (show m < 2 ^ 31 by omega), nI_toInt (show m + 1 < 2 ^ 31 by omega)]
  have k1 : (-1 : Int32).toInt = -1 := by decide
  have k0 : (0 : Int32).toInt = 0 := by decide
  rw [k1, k0]
  omega
theorem m_clear_x {l1 : Option Value} (I : IM g) (h : IM (am_up g 22 7 0) → Q (some (.int (g 22 7))) LY (am_up g 22 7 0)) : am d 99 0 [some (.ref 22), l1] [] LY g 0 0 none Q := by
  refine am_run_k 8 ?_
  obtain ⟨v1, v2, -⟩ := id I.1
  refine h ⟨⟨?_, ?_, 0, by omega, am_up_us, fun k hk => absurd hk (by omega)⟩, I.2.1.of (am_up_ne (by decide)), I.2.2.1.of (am_up_ne (by decide)), I.2.2.2.of (am_up_ne (by decide))⟩
  · rw [am_up_un (by decide)]; exact v1
  · rw [am_up_un (by decide)]; exact v2
end MOW
