section FAX
variable {d : Nat} {L : am_L} {g : am_G} {bc bs : Nat} {sx : am_S} {Q : am_Q}
theorem f_door_x {a b : Int32} (I : IC g) (h : ∀ r g', IC g' → frC g g' → (∀ k, k ≠ 2 → k ≠ 3 → k ≠ 4 → g' k = g k) → Q (some (.int r)) LY g') : am (d + 2) 51 0 [some (.ref 0), some (.int a), some (.int b)] [] LY g 0 0 none Q := by
  refine am_run_k 2 (am_cl ?_)
  refine w_isPlace ?_
  refine am_run_k 1 (And.intro (fun h1 => ?_) (fun h1 => ?_))
  · refine am_run_k 2 ?_
    exact h _ g I frC.rf (fun _ _ _ _ => rfl)
  · refine am_run_k 2 (am_cl ?_)
    refine w_isPlace ?_
    refine am_run_k 1 (And.intro (fun h2 => ?_) (fun h2 => ?_))
    · refine am_run_k 2 ?_
      exact h _ g I frC.rf (fun _ _ _ _ => rfl)
    · refine am_run_k 3 (And.intro (fun h3 => ?_) (fun h3 => ?_))
      · obtain ⟨i, hi, ea⟩ := am_ir_nI (k := 8) (by decide) (bi_t h1)
        obtain ⟨j, hj, eb⟩ := am_ir_nI (k := 8) (by decide) (bi_t h2)
        subst ea; subst eb
        refine am_run_k 6 (am_cl ?_)
        refine w_joined (vpn hi) ?_
        refine am_run_k 1 (And.intro (fun h4 => ?_) (fun h4 => ?_))
        · refine am_run_k 6 (And.intro (fun h5 => ?_) (fun h5 => ?_))
          · refine am_run_k 6 (am_cl ?_)
            refine w_join hi hj (fun g1 e1 e2 e3 e4 e5 => ?_)
            refine am_run_k 5 ?_
            have fr : frC g g1 := fun k hk => e1 k (by omega) (by omega) (by omega)
            exact h _ g1 ⟨I.1.of (e1 1 (by decide) (by decide) (by decide)) (e1 5 (by decide) (by decide) (by decide)) (e1 6 (by decide) (by decide) (by decide)) (e1 7 (by decide) (by decide) (by decide)), I.2.fr fr⟩ fr (fun k h2 h3 h4 => e1 k h2 h3 h4)
          · refine am_run_k 2 ?_
            exact h _ g I frC.rf (fun _ _ _ _ => rfl)
        · refine am_run_k 2 ?_
          exact h _ g I frC.rf (fun _ _ _ _ => rfl)
      · refine am_run_k 2 ?_
        exact h _ g I frC.rf (fun _ _ _ _ => rfl)

theorem f_lies_x {a b : Int32} (I : IC g) (h : ∀ r g', IC g' → frC g g' → (∀ k, k ≠ 8 → g' k = g k) → Q (some (.int r)) LY g') : am (d + 2) 52 0 [some (.ref 0), some (.int a), some (.int b), none] [] LY g 0 0 none Q := by
  refine am_run_k 2 (am_cl ?_)
  refine w_isThing ?_
  refine am_run_k 1 (And.intro (fun h1 => ?_) (fun h1 => ?_))
  · refine am_run_k 2 ?_
    exact h _ g I frC.rf (fun _ _ => rfl)
  · obtain ⟨i, hi, ea⟩ := am_ir_nI (k := 3) (by decide) (bi_t h1)
    subst ea
    refine am_run_k 2 (am_cl ?_)
    refine w_isPlace ?_
    refine am_run_k 1 (And.intro (fun h2 => ?_) (fun h2 => ?_))
    · refine am_run_k 5 (And.intro (vpn hi) ?_)
      refine am_run_k 7 (And.intro (vpn hi) ?_)
      refine am_run_k 2 ?_
      exact h _ _ ⟨I.1.of (am_up_ne (by decide)) (am_up_ne (by decide)) (am_up_ne (by decide)) (am_up_ne (by decide)), I.2.fr (frC.up (by decide))⟩ (frC.up (by decide)) (fun k hk => am_up_ne hk)
    · refine am_run_k 2 ?_
      exact h _ g I frC.rf (fun _ _ => rfl)

def deB (g : am_G) (a b c : Int32) : Bool := am_ir a 8 && (am_ir b 10 && (decide (c = -1) || am_ir c (g 1 3)))
theorem f_deed_x {a b c : Int32} (I : IC g) (h0 : deB g a b c = false → Q (some (.int (-1))) LY g) (h1 : deB g a b c = true → ∀ g', IC g' → frC g g' → (∀ k, k ≠ 1 → g' k = g k) → (∀ i, i ≠ 4 → i ≠ 5 → i ≠ 6 → g' 1 i = g 1 i) → g' 1 4 = a → g' 1 5 = b → g' 1 6 = c → Q (some (.int 1)) LY g') : am (d + 2) 53 0 [some (.ref 0), some (.int a), some (.int b), some (.int c)] [] LY g 0 0 none Q := by
  unfold deB at h0 h1
  refine am_run_k 2 (am_cl ?_)
  refine w_isPlace ?_
  refine am_run_k 1 (And.intro (fun e1 => ?_) (fun e1 => ?_))
  · refine am_run_k 2 ?_
    exact h0 (by rw [bi_f e1]; rfl)
  · refine am_run_k 2 (am_cl ?_)
    refine w_isTick ?_
    refine am_run_k 1 (And.intro (fun e2 => ?_) (fun e2 => ?_))
    · refine am_run_k 2 ?_
      exact h0 (by rw [bi_t e1, bi_f e2]; rfl)
    · obtain ⟨t, ht, eb⟩ := am_ir_nI (k := 10) (by decide) (bi_t e2)
      have go : (decide (c = -1) || am_ir c (g 1 3)) = true → am (d + 2) 53 32 [some (.ref 0), some (.int a), some (.int b), some (.int c)] [] LY g 0 0 none Q := by
        intro hc
        refine am_run_k 14 ?_
        have fr : frC g (am_up (am_up (am_up g 1 4 a) 1 5 b) 1 6 c) := ((frC.up (by decide)).tr (frC.up (by decide))).tr (frC.up (by decide))
        refine h1 (by rw [bi_t e1, bi_t e2, hc]; rfl) _ ⟨⟨?_, ⟨t, ht, ?_⟩, ?_⟩, I.2.fr fr⟩ fr (fun k hk => by rw [am_up_ne hk, am_up_ne hk, am_up_ne hk]) (fun i h4 h5 h6 => by rw [am_up_un h6, am_up_un h5, am_up_un h4]) (by rw [am_up_un (by decide), am_up_un (by decide), am_up_us]) (by rw [am_up_un (by decide), am_up_us]) am_up_us
        · obtain ⟨n, hn1, hn2, en⟩ := I.1.1
          exact ⟨n, hn1, hn2, by rw [am_up_un (by decide), am_up_un (by decide), am_up_un (by decide)]; exact en⟩
        · rw [am_up_un (by decide), am_up_us]; exact eb
        · have := I.1.2.2
          unfold rowsC ordC at *
          rw [am_up_ne (by decide), am_up_ne (by decide), am_up_ne (by decide), am_up_ne (by decide), am_up_ne (by decide), am_up_ne (by decide), am_up_ne (by decide), am_up_ne (by decide), am_up_ne (by decide)]
          exact this
      refine am_run_k 3 (And.intro (fun e3 => ?_) (fun e3 => ?_))
      · refine go ?_
        rw [show decide (c = -1) = true from decide_eq_true e3]; rfl
      · refine am_run_k 4 (am_cl ?_)
        refine w_isPerson ?_
        refine am_run_k 1 (And.intro (fun e4 => ?_) (fun e4 => ?_))
        · refine go ?_
          rw [bi_t e4, Bool.or_true]
        · refine am_run_k 2 ?_
          refine h0 ?_
          rw [show decide (c = -1) = false from decide_eq_false e3, bi_f e4]; simp
theorem f_find_x {kd a b c x : Int32} {cc : Nat} (I : IC g) (hcc : cc ≤ 20) (e51 : g 5 1 = nI cc) (h0 : fdB (g 1 3) kd a b c x = false → Q (some (.int (-1))) LY g) (h1 : fdB (g 1 3) kd a b c x = true → cc = 20 → Q (some (.int (-3))) LY g) (h2 : fdB (g 1 3) kd a b c x = true → cc < 20 → IC (am_add g cc kd a b c x) → Q (some (.int (nI cc))) LY (am_add g cc kd a b c x)) : am (d + 2) 55 0 [some (.ref 0), some (.int kd), some (.int a), some (.int b), some (.int c), some (.int x)] [] LY g 0 0 none Q := by
  obtain ⟨n, hn1, hn2, e13⟩ := id I.1.1
  refine am_run_k 8 (am_cl ?_)
  refine w_isFind ?_
  refine am_run_k 1 (And.intro (fun e1 => ?_) (fun e1 => ?_))
  · refine am_run_k 6 (And.intro (fun e2 => ?_) (fun e2 => ?_))
    · refine am_run_k 9 (am_cl ?_)
      have hlt : cc < 20 := cnt_lt (m := 20) e51 (by omega) (by decide) e2
      refine w_add hlt e51 ?_
      refine am_run_k 7 ?_
      have hb := bi_t e1
      have hb2 := hb
      rw [e13] at hb2
      have hh := h2 hb hlt ⟨I.1.add hlt e51 (rowOK_of hn2 hb2), I.2.fr frC.add⟩
      refine am_fin hh rfl ?_
      unfold am_add
      rw [am_up_us]
      show some (Value.int (nI (cc + 1) - 1)) = some (Value.int (nI cc))
      rw [nI_pred]
    · refine am_run_k 2 ?_
      refine h1 (bi_t e1) ?_
      rcases Nat.lt_or_ge cc 20 with q | q
      · exact absurd (show g 5 1 < nI 20 by rw [e51]; exact nI_lt' q) e2
      · omega
  · refine am_run_k 2 ?_
    exact h0 (bi_f e1)
end FAX
