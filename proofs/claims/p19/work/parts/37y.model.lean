section MOX
variable {d : Nat} {L : am_L} {g : am_G} {bc bs : Nat} {sx : am_S} {Q : am_Q}
/-- a row names a person that a house of n hasn't: the model's -/
def nm1M (g : am_G) (n : Int32) (k : Nat) : Bool := (!(decide (g 25 k = 2) || decide (g 25 k = 3)) && decide (n ≤ g 26 (4 * k))) || (decide (g 25 k = 7) && decide (n ≤ g 26 (4 * k + 1)))
def nmM (g : am_G) (n : Int32) : Nat → Bool
  | 0 => false
  | k + 1 => nmM g n k || nm1M g n k
theorem m_people_x {v : Int32} {c : Nat} {l2 l3 l4 : Option Value} (I : IM g) (hc : c ≤ 20) (ec : g 22 7 = nI c) (h0 : am_in2 v 2 6 = false → Q (some (.int (-1))) LY g) (h1 : am_in2 v 2 6 = true → (decide (v ≤ g 22 6) || nmM g v c) = true → Q (some (.int (-2))) LY g) (h2 : am_in2 v 2 6 = true → (decide (v ≤ g 22 6) || nmM g v c) = false → IM (am_up g 22 0 v) → Q (some (.int (g 22 0))) LY (am_up g 22 0 v)) : am (d + 2) 88 0 [some (.ref 22), some (.int v), l2, l3, l4] [] LY g 0 0 none Q := by
  obtain ⟨-, ht, c', hc', ec', hr⟩ := id I.1
  have hcc : c' = c := (nI_eq (by omega) (by omega)).mp (ec'.symm.trans ec)
  subst hcc
  refine am_run_k 4 (am_cl ?_)
  refine w_in ?_
  refine am_run_k 1 (And.intro (fun e1 => ?_) (fun e1 => ?_))
  · obtain ⟨n, hn1, hn2, ev⟩ := in2_rng (a := 2) (b := 6) (by decide) (by decide) (bi_t e1)
    have lp : ∀ (m k : Nat) (x : Int32) (l4 : Option Value), k + m = c' → x = nI k → am (d + 2) 88 28 [some (.ref 22), some (.int v), some (.int (am_bi (decide (v ≤ g 22 6) || nmM g v k))), some (.int x), l4] [] LY g 0 0 none Q := by
      intro m
      induction m with
      | zero =>
        intro k x l4 hk hx
        have hk : k = c' := by omega
        subst hk; subst hx
        refine am_run_k 4 (And.intro (fun h6 => ?_) (fun hx => absurd ((show g 22 7 ≤ nI k by rw [ec]; exact nI_le (Nat.le_refl k) (by omega))) hx))
        refine am_run_k 2 (And.intro (fun e2 => ?_) (fun e2 => ?_))
        · refine am_run_k 8 ?_
          refine h2 (bi_t e1) (bi_f e2) ⟨⟨⟨n, hn1, hn2, ?_⟩, ?_, k, hc, ?_, ?_⟩, I.2.1.of (am_up_ne (by decide)), I.2.2.1.of (am_up_ne (by decide)), I.2.2.2.of (am_up_ne (by decide))⟩
          · rw [am_up_us]; exact ev
          · rw [am_up_un (by decide)]; exact ht
          · rw [am_up_un (by decide)]; exact ec
          · unfold rowsM; rw [am_up_ne (by decide), am_up_ne (by decide)]; exact hr
        · refine am_run_k 2 ?_
          exact h1 (bi_t e1) (bi_t e2)
      | succ m ih =>
        intro k x l4 hk hx
        subst hx
        refine am_run_k 4 (And.intro (fun hx => absurd hx ((show ¬ g 22 7 ≤ nI k by rw [ec]; exact nI_ge (by omega) (by omega)))) (fun h6 => ?_))
        have s114 : ∀ (u : Int32) (w : Int32), u = am_bi (decide (v ≤ g 22 6) || nmM g v (k + 1)) → am (d + 2) 88 114 [some (.ref 22), some (.int v), some (.int (am_bi (decide (v ≤ g 22 6) || nmM g v k))), some (.int (nI k)), some (.int w)] [.int u] LY g 0 0 none Q := by
          intro u w hu
          subst hu
          refine am_run_k 3 ?_
          exact ih (k + 1) _ _ (by omega) (nI_1 k)
        have s109 : ∀ (w : Int32), (decide (v ≤ g 22 6) || (nmM g v k || nm1M g v k)) = true → am (d + 2) 88 109 [some (.ref 22), some (.int v), some (.int (am_bi (decide (v ≤ g 22 6) || nmM g v k))), some (.int (nI k)), some (.int w)] [] LY g 0 0 none Q := by
          intro w hw
          refine am_run_k 2 ?_
          refine s114 _ _ ?_
          rw [nmM, hw]; rfl
        have s113 : ∀ (w : Int32), (decide (v ≤ g 22 6) || (nmM g v k || nm1M g v k)) = false → am (d + 2) 88 113 [some (.ref 22), some (.int v), some (.int (am_bi (decide (v ≤ g 22 6) || nmM g v k))), some (.int (nI k)), some (.int w)] [] LY g 0 0 none Q := by
          intro w hw
          refine am_run_k 1 ?_
          refine s114 _ _ ?_
          rw [nmM, hw]; rfl
        have s84 : ∀ (w : Int32), (decide (v ≤ g 22 6) || nmM g v k) = false → (!(decide (g 25 k = 2) || decide (g 25 k = 3)) && decide (v ≤ g 26 (4 * k))) = false → am (d + 2) 88 84 [some (.ref 22), some (.int v), some (.int (am_bi (decide (v ≤ g 22 6) || nmM g v k))), some (.int (nI k)), some (.int w)] [] LY g 0 0 none Q := by
          intro w hb hA
          have hor := Bool.or_eq_false_iff.mp hb
          refine am_run_k 4 (And.intro (vpn (by omega)) ?_)
          rw [ncl (by omega)]
          refine am_run_k 2 (And.intro (fun e3 => ?_) (fun e3 => ?_))
          · refine s113 w ?_
            rw [hor.1, hor.2]; unfold nm1M
            rw [hA, decide_eq_false e3]; rfl
          · have e3 : g 25 k = 7 := by first | exact e3 | exact Classical.not_not.mp e3
            refine am_run_k 8 (And.intro (vpe (nI41 k) (by omega)) ?_)
            rw [cle (nI41 k) (by omega)]
            refine am_run_k 2 (And.intro (fun e4 => ?_) (fun e4 => ?_))
            · refine s113 w ?_
              rw [hor.1, hor.2]; unfold nm1M
              rw [hA, decide_eq_false (p := v ≤ g 26 (4 * k + 1)) (fa_nle.mpr e4)]; simp
            · refine s109 w ?_
              unfold nm1M
              rw [decide_eq_true e3, decide_eq_true (p := v ≤ g 26 (4 * k + 1)) (fa_nlt.mp e4)]; simp
        have s61 : ∀ (u : Int32) (l4 : Option Value), u = am_bi (!(decide (g 25 k = 2) || decide (g 25 k = 3))) → am (d + 2) 88 61 [some (.ref 22), some (.int v), some (.int (am_bi (decide (v ≤ g 22 6) || nmM g v k))), some (.int (nI k)), l4] [.int u] LY g 0 0 none Q := by
          intro u l4 hu
          subst hu
          refine am_run_k 3 (And.intro (fun e2 => ?_) (fun e2 => ?_))
          · refine s109 _ ?_
            have := bi_t e2
            rw [← Bool.or_assoc, this]; rfl
          · have e2 := bi_f (by first | exact e2 | exact Classical.not_not.mp e2)
            refine am_run_k 2 (And.intro (fun e3 => ?_) (fun e3 => ?_))
            · refine s84 _ e2 ?_
              rw [bi_f e3]; rfl
            · refine am_run_k 6 (And.intro (vpe (nIm4 k) (by omega)) ?_)
              rw [cle (nIm4 k) (by omega)]
              refine am_run_k 2 (And.intro (fun e4 => ?_) (fun e4 => ?_))
              · refine s109 _ ?_
                unfold nm1M
                rw [bi_t e3, decide_eq_true (p := v ≤ g 26 (4 * k)) e4]; simp
              · refine s84 _ e2 ?_
                rw [decide_eq_false (p := v ≤ g 26 (4 * k)) e4, Bool.and_false]
        refine am_run_k 4 (And.intro (vpn (by omega)) ?_)
        rw [ncl (by omega)]
        refine am_run_k 2 (And.intro (fun e2 => ?_) (fun e2 => ?_))
        · refine am_run_k 1 ?_
          exact s61 0 _ (by rw [decide_eq_true e2]; rfl)
        · refine am_run_k 4 (And.intro (vpn (by omega)) ?_)
          rw [ncl (by omega)]
          refine am_run_k 2 (And.intro (fun e3 => ?_) (fun e3 => ?_))
          · refine am_run_k 1 ?_
            exact s61 0 _ (by rw [decide_eq_true e3, Bool.or_true]; rfl)
          · refine am_run_k 2 ?_
            exact s61 1 _ (by rw [decide_eq_false e2, decide_eq_false e3]; rfl)
    have s25 : ∀ (u : Int32), u = am_bi (decide (v ≤ g 22 6) || nmM g v 0) → am (d + 2) 88 25 [some (.ref 22), some (.int v), l2, l3, l4] [.int u] LY g 0 0 none Q := by
      intro u hu
      subst hu
      refine am_run_k 3 ?_
      exact lp c' 0 _ _ (by omega) rfl
    refine am_run_k 4 (And.intro (fun e2 => ?_) (fun e2 => ?_))
    · refine am_run_k 1 ?_
      exact s25 0 (by rw [decide_eq_false (p := v ≤ g 22 6) (fa_nle.mpr e2)]; rfl)
    · refine am_run_k 2 ?_
      exact s25 1 (by rw [decide_eq_true (p := v ≤ g 22 6) (fa_nlt.mp e2)]; rfl)
  · refine am_run_k 2 ?_
    exact h0 (bi_f e1)
end MOX
