section MOZ
variable {d : Nat} {L : am_L} {g : am_G} {bc bs : Nat} {sx : am_S} {Q : am_Q}
theorem f_people_x {n : Int32} {c : Nat} (I : IC g) (hc : c ≤ 20) (e51 : g 5 1 = nI c) (h0 : am_in2 n 2 6 = false → Q (some (.int (-1))) LY g) (h1 : am_in2 n 2 6 = true → (decide (n ≤ g 1 6) || nmF g n c 0) = true → Q (some (.int (-2))) LY g) (h2 : am_in2 n 2 6 = true → (decide (n ≤ g 1 6) || nmF g n c 0) = false → IC (am_up g 1 3 n) → Q (some (.int (g 1 3))) LY (am_up g 1 3 n)) : am (d + 2) 50 0 [some (.ref 0), some (.int n), none] [] LY g 0 0 none Q := by
  obtain ⟨c', hc', ec', hr, hrest⟩ := id I.1.2.2
  have hcc : c' = c := (nI_eq (by omega) (by omega)).mp (ec'.symm.trans e51)
  subst hcc
  unfold am_in2 at h0 h1 h2
  refine am_run_k 3 (And.intro (fun e1 => ?_) (fun e1 => ?_))
  · refine am_run_k 2 ?_
    exact h0 (by rw [decide_eq_false (p := (2 : Int32) ≤ n) (fa_nle.mpr e1)]; rfl)
  · have f1 : decide ((2 : Int32) ≤ n) = true := decide_eq_true (fa_nlt.mp e1)
    refine am_run_k 3 (And.intro (fun e2 => ?_) (fun e2 => ?_))
    · have f2 : decide (n ≤ (6 : Int32)) = true := decide_eq_true e2
      refine am_run_k 5 (And.intro (fun e3 => ?_) (fun e3 => ?_))
      · refine am_run_k 2 ?_
        exact h1 (by rw [f1, f2]; rfl) (by rw [decide_eq_true (p := n ≤ g 1 6) e3]; rfl)
      · have f3 : decide (n ≤ g 1 6) = false := decide_eq_false e3
        refine am_run_k 5 (am_cl ?_)
        refine w_nameOneFrom hc e51 ?_
        refine am_run_k 1 (And.intro (fun e4 => ?_) (fun e4 => ?_))
        · refine am_run_k 10 ?_
          obtain ⟨m, hm1, hm2, e⟩ := nI_rng (a := 2) (b := 6) (fa_nlt.mp e1) e2
          refine h2 (by rw [f1, f2]; rfl) (by rw [f3, bi_f e4]; rfl) ⟨⟨⟨m, hm1, hm2, ?_⟩, ?_, c', hc, ?_, ?_, ?_⟩, I.2.fr (frC.up (by decide))⟩
          · rw [am_up_us]; exact e
          · obtain ⟨t, ht, et⟩ := I.1.2.1
            exact ⟨t, ht, by rw [am_up_un (by decide)]; exact et⟩
          · rw [am_up_ne (by decide)]; exact e51
          · unfold rowsC; rw [am_up_ne (by decide)]; exact hr
          · unfold ordC; rw [am_up_ne (by decide), am_up_ne (by decide)]; exact hrest
        · refine am_run_k 2 ?_
          exact h1 (by rw [f1, f2]; rfl) (by rw [bi_t e4, Bool.or_true])
    · refine am_run_k 2 ?_
      exact h0 (by rw [f1, decide_eq_false (p := n ≤ (6 : Int32)) e2]; rfl)
theorem m_find_x {kd a b c x : Int32} {cc : Nat} (I : IM g) (hcc : cc ≤ 20) (ec : g 22 7 = nI cc) (h0 : fdB (g 22 0) kd a b c x = false → Q (some (.int (-1))) LY g) (h1 : fdB (g 22 0) kd a b c x = true → cc = 20 → Q (some (.int (-3))) LY g) (h2 : fdB (g 22 0) kd a b c x = true → cc < 20 → IM (am_mput g cc kd a b c x) → Q (some (.int (nI cc))) LY (am_mput g cc kd a b c x)) : am (d + 3) 96 0 [some (.ref 22), some (.int kd), some (.int a), some (.int b), some (.int c), some (.int x)] [] LY g 0 0 none Q := by
  obtain ⟨⟨n, hn1, hn2, en⟩, -⟩ := id I.1
  rw [en] at h0 h1 h2
  refine am_run_k 7 (am_cl ?_)
  refine m_isGood ⟨by omega, hn2⟩ en ?_
  refine am_run_k 1 (And.intro (fun e1 => ?_) (fun e1 => ?_))
  · refine am_run_k 4 (And.intro (fun e2 => ?_) (fun e2 => ?_))
    · have hlt : cc < 20 := by
        rcases Nat.lt_or_ge cc 20 with e | e
        · exact e
        · exact absurd (show g 22 7 = 20 by rw [ec, show cc = 20 by omega]; rfl) e2
      refine am_run_k 7 (am_cl ?_)
      refine m_put hlt ec ?_
      refine am_run_k 5 ?_
      refine am_fin (h2 (bi_t e1) hlt (I.add hlt ec (rowOK_of hn2 (bi_t e1)))) rfl ?_
      unfold am_mput
      rw [am_up_us]
      show some (Value.int (nI (cc + 1) - 1)) = some (Value.int (nI cc))
      rw [nI_pred]
    · refine am_run_k 2 ?_
      refine h1 (bi_t e1) ?_
      have e2 : g 22 7 = 20 := by first | exact e2 | exact Classical.not_not.mp e2
      exact (nI_eq (by omega) (by decide)).mp (show nI cc = nI 20 from ec.symm.trans e2)
  · refine am_run_k 2 ?_
    exact h0 (bi_f e1)
end MOZ
