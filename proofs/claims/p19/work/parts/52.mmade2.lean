section MMB
variable {d : Nat} {g : am_G} {Q : am_Q}
theorem m_goTo_x {x0 : Int32} {g0 : am_G} {c f : Nat} {l3 l4 l5 l6 : Option Value} (J : JM g (mkF x0)) (M : MK g0 g c 40) (hf : f < 4) (ep : g 22 4 = nI (mkP x0)) (h : ∀ g', MK g0 g' c 40 → fL g g' → g' 22 = g 22 → (∀ i, i < 10 * f ∨ 10 * f + 10 ≤ i → g' 34 i = g 34 i) → (∀ j, j < 10 → g' 34 (10 * f + j) = nI (apP x0 j)) → Q none LY g') : am (d + 2) 133 0 [some (.ref 22), some (.int (nI f)), some (.int (nI (mkL x0 (mkO x0)))), l3, l4, l5, l6] [] LY g 0 0 none Q := by
  have hzp : mkP x0 < 8 := mkP_lt
  have hto : mkL x0 (mkO x0) < 8 := mkL_lt
  have ok : FOK (mkF x0) := FOK_mk
  have lp : ∀ (m t : Nat) (x : Int32) (l5 l6 : Option Value) (g1 : am_G), t + 1 + m = 10 → x = nI (t + 1) → MK g0 g1 c 40 → fL g g1 → g1 22 = g 22 → (∀ i, i < 10 * f ∨ 10 * f + 10 ≤ i → g1 34 i = g 34 i) → (∀ j, j < t + 1 → g1 34 (10 * f + j) = nI (apP x0 j)) → am (d + 2) 133 15 [some (.ref 22), some (.int (nI f)), some (.int (nI (mkL x0 (mkO x0)))), some (.int (nI (apP x0 t))), some (.int x), l5, l6] [] LY g1 0 0 none Q := by
    intro m
    induction m with
    | zero =>
      intro t x l5 l6 g1 ht hx M1 L1 e22 r1 r2
      have ht : t = 9 := by omega
      subst ht; subst hx
      refine am_run_k 3 (And.intro (fun h6 => ?_) (fun hx => absurd ((show nI 10 ≤ nI (9 + 1) from nI_le (Nat.le_refl 10) (by decide))) hx))
      refine am_run_k 1 ?_
      exact h g1 M1 L1 e22 r1 r2
    | succ m ih =>
      intro t x l5 l6 g1 ht hx M1 L1 e22 r1 r2
      subst hx
      have hz : apP x0 t < 8 := apP_lt t
      have J1 : JM g1 (mkF x0) := J.of (L1.1 23 (by decide) (by decide) (by decide) (by decide) (by decide))
      have ep1 : g1 22 4 = nI (mkP x0) := by rw [e22]; exact ep
      obtain ⟨i0, hi0, hbl⟩ := bl_ex M1.2.1 hz hzp
      refine am_run_k 3 (And.intro (fun hx => absurd hx ((nI_ge (b := 10) (by omega) (by decide)))) (fun h6 => ?_))
      refine am_run_k 7 (am_cl ?_)
      rw [ep1]
      refine m_doorsFrom hz hzp hbl (by omega) (fun n hn hbn hmin => ?_)
      have hds : dsN (jF (mkF x0)) (apP x0 t) (mkP x0) = n := bl_ds J1 hz hzp (by omega) hbn hmin
      refine am_run_k 1 ?_
      have s83 : ∀ (y : Nat) (l5 l6 : Option Value), y = apP x0 (t + 1) → am (d + 2) 133 83 [some (.ref 22), some (.int (nI f)), some (.int (nI (mkL x0 (mkO x0)))), some (.int (nI (apP x0 t))), some (.int (nI (t + 1))), l5, l6] [.int (nI y)] LY g1 0 0 none Q := by
        intro y l5 l6 hy
        subst hy
        refine am_run_k 10 (And.intro (vpe ix10t (by omega)) ?_)
        refine am_run_k 2 ?_
        rw [cle ix10t (by omega)]
        refine ih (t + 1) _ _ _ _ (by omega) (nI_1 (t + 1)) (M1.way (apP_lt _)) (L1.tr fL.way) (by rw [am_up_ne (by decide)]; exact e22) (fun i hi => by rw [am_up_un (by omega)]; exact r1 i hi) (fun j hj => ?_)
        by_cases e : j = t + 1
        · rw [e]; exact am_up_us
        · rw [am_up_un (by omega)]; exact r2 j (by omega)
      have s67 : ∀ (k : Nat), (n = 0 ∨ (k < degF (mkF x0) (apP x0 t) ∧ nthF (mkF x0) (apP x0 t) k = apP x0 (t + 1))) → am (d + 2) 133 67 [some (.ref 22), some (.int (nI f)), some (.int (nI (mkL x0 (mkO x0)))), some (.int (nI (apP x0 t))), some (.int (nI (t + 1))), some (.int (nI k)), some (.int (nI n))] [] LY g1 0 0 none Q := by
        intro k hk
        refine am_run_k 2 (And.intro (fun h7 => ?_) (fun h7 => ?_))
        · have hn0 : n ≠ 0 := fun e => h7 (by rw [e]; rfl)
          have hk2 := hk.resolve_left hn0
          refine am_run_k 4 (am_cl ?_)
          refine m_joinedTo_x J1 ok hz hk2.1 ?_
          exact s83 _ _ _ hk2.2
        · have hn0 : n = 0 := by
            first
              | exact (nI_eq (by omega) (by decide)).mp (show nI n = nI 0 from h7)
              | exact (nI_eq (by omega) (by decide)).mp (show nI n = nI 0 from rdr h7)
              | exact Nat.le_zero.mp ((nI_leI (by omega) (by decide)).mp (show nI n ≤ nI 0 from h7))
              | exact Nat.le_zero.mp ((nI_leI (by omega) (by decide)).mp (show nI n ≤ nI 0 from fa_nlt.mp h7))
          refine am_run_k 2 ?_
          refine s83 _ _ _ ?_
          rw [apP, stp, hds, hn0, stpF_0]
      rcases Nat.eq_zero_or_pos n with hn0 | hn0
      · subst hn0
        refine am_run_k 2 (And.intro (fun h7 => ?_) (fun hx => absurd ((show nI 0 ≤ 0 by decide)) hx))
        exact s67 0 (Or.inl rfl)
      · obtain ⟨n1, rfl⟩ : ∃ n1, n = n1 + 1 := ⟨n - 1, by omega⟩
        obtain ⟨b, hb, hb1, hb2⟩ := bl_first hzp hbn
        have hbz : b ≠ apP x0 t := fun e => hmin n1 (by omega) (by rw [e] at hb2; exact hb2)
        have ok1 := (ok _ hz).1
        have eJ := J1 _ hz
        have hkb : nbC (g1 23 (apP x0 t)) (apP x0 t) b < nbC (g1 23 (apP x0 t)) (apP x0 t) 8 := nbC_lt hb hbz hb1
        have hdeg : nbC (g1 23 (apP x0 t)) (apP x0 t) 8 = degF (mkF x0) (apP x0 t) := by rw [eJ, nbC_F hz ok1 8 (by omega), degF]
        have nof : ∀ y, y < 8 → bt (mkF x0 (apP x0 t)) y = true → y ≠ apP x0 t ∧ bt (g1 23 (apP x0 t)) y = true := by
          intro y hy hby
          refine ⟨fun e => ?_, ?_⟩
          · rw [e, ok1] at hby; cases hby
          · rw [eJ, jF_bt (by omega) hz, hby]; rfl
        have il : ∀ (m2 k : Nat) (x : Int32), k + m2 = nbC (g1 23 (apP x0 t)) (apP x0 t) b → x = nI k → (∀ q, q < 8 → q ≠ apP x0 t → bt (g1 23 (apP x0 t)) q = true → nbC (g1 23 (apP x0 t)) (apP x0 t) q < k → n1 + 1 ≤ dsN (jF (mkF x0)) q (mkP x0)) → am (d + 2) 133 36 [some (.ref 22), some (.int (nI f)), some (.int (nI (mkL x0 (mkO x0)))), some (.int (nI (apP x0 t))), some (.int (nI (t + 1))), some (.int x), some (.int (nI (n1 + 1)))] [] LY g1 0 0 none Q := by
          intro m2
          induction m2 with
          | zero =>
            intro k x hk hx hq
            subst hx
            refine am_run_k 2 (And.intro (fun hx => absurd hx ((show ¬ nI (n1 + 1) ≤ nI 0 from nI_ge (by omega) (by omega)))) (fun h7 => ?_))
            refine am_run_k 5 (am_cl ?_)
            refine m_joinedTo hz (by omega) (fun y hy hyz hyb hyc => ?_)
            have hyb2 : y = b := nbC_inj hyz hbz hyb hb1 (by omega)
            subst hyb2
            have ny : nthF (mkF x0) (apP x0 t) k = y := by
              rw [eJ] at hyb hyc
              exact nth_of hz ok1 hy hyz hyb hyc
            have hyF : bt (mkF x0 (apP x0 t)) y = true := by
              rw [eJ, jF_bt (by omega) hz, decide_eq_false hyz, Bool.or_false] at hyb; exact hyb
            refine am_run_k 3 (am_cl ?_)
            rw [ep1]
            refine m_doorsFrom hy hzp hb2 (by omega) (fun n2 hn2 hbn2 hmin2 => ?_)
            have hd2 : dsN (jF (mkF x0)) y (mkP x0) = n2 := bl_ds J1 hy hzp (by omega) hbn2 hmin2
            refine am_run_k 2 (And.intro (fun h8 => ?_) (fun hx => absurd ((show nI n2 < nI (n1 + 1) from nI_lt' (by omega))) hx))
            refine s67 k (Or.inr ⟨by omega, ?_⟩)
            rw [ny, apP, stp, hds]
            refine (stpF_eq hyF (by omega) (fun q hq2 hbq => ?_) 8 0 rfl (Nat.zero_le _) hy).symm
            obtain ⟨z1, z2⟩ := nof q (by omega) hbq
            exact hq q (by omega) z1 z2 (by rw [← hyc]; exact nbC_lt hq2 z1 z2)
          | succ m2 ih2 =>
            intro k x hk hx hq
            subst hx
            refine am_run_k 2 (And.intro (fun hx => absurd hx ((show ¬ nI (n1 + 1) ≤ nI 0 from nI_ge (by omega) (by omega)))) (fun h7 => ?_))
            refine am_run_k 5 (am_cl ?_)
            refine m_joinedTo hz (by omega) (fun y hy hyz hyb hyc => ?_)
            have hyb0 := hyb
            have hyc0 := hyc
            have ny : nthF (mkF x0) (apP x0 t) k = y := by
              rw [eJ] at hyb hyc
              exact nth_of hz ok1 hy hyz hyb hyc
            have hyF : bt (mkF x0 (apP x0 t)) y = true := by
              rw [eJ, jF_bt (by omega) hz, decide_eq_false hyz, Bool.or_false] at hyb; exact hyb
            obtain ⟨i1, hi1, hbl1⟩ := bl_ex M1.2.1 hy hzp
            refine am_run_k 3 (am_cl ?_)
            rw [ep1]
            refine m_doorsFrom hy hzp hbl1 (by omega) (fun n2 hn2 hbn2 hmin2 => ?_)
            have hd2 : dsN (jF (mkF x0)) y (mkP x0) = n2 := bl_ds J1 hy hzp (by omega) hbn2 hmin2
            refine am_run_k 2 (And.intro (fun h8 => ?_) (fun h8 => ?_))
            · have hlt : n2 < n1 + 1 := (nI_ltI (by omega) (by omega)).mp h8
              refine s67 k (Or.inr ⟨by omega, ?_⟩)
              rw [ny, apP, stp, hds]
              refine (stpF_eq hyF (by omega) (fun q hq2 hbq => ?_) 8 0 rfl (Nat.zero_le _) hy).symm
              obtain ⟨z1, z2⟩ := nof q (by omega) hbq
              exact hq q (by omega) z1 z2 (by rw [← hyc0]; exact nbC_lt hq2 z1 z2)
            · have hge : n1 + 1 ≤ n2 := Nat.not_lt.mp (fun z => h8 (nI_lt' z (by omega)))
              refine am_run_k 2 ?_
              refine ih2 (k + 1) _ (by omega) (nI_1 k) (fun q hq2 hqz hqb hqc => ?_)
              rcases Nat.lt_succ_iff_lt_or_eq.mp hqc with z | z
              · exact hq q hq2 hqz hqb z
              · have : q = y := nbC_inj hqz hyz hqb hyb0 (by omega)
                rw [this, hd2]; exact hge
        exact il _ 0 _ (Nat.zero_add _) rfl (fun q _ _ _ z => absurd z (by omega))
  refine am_run_k 9 (And.intro (vpe (nIt10 f) (by omega)) ?_)
  rw [cle (nIt10 f) (by omega)]
  refine am_run_k 2 ?_
  have e0 : apP x0 0 = mkL x0 (mkO x0) := by rw [apP]
  have lp0 := fun l5 l6 => lp 9 0 _ l5 l6 (am_up g 34 (10 * f) (nI (mkL x0 (mkO x0)))) rfl rfl (M.way hto) fL.way (am_up_ne (by decide)) (fun i hi => am_up_un (by omega)) (fun j hj => by
    have e : j = 0 := by omega
    subst e
    rw [e0]; exact am_up_us)
  rw [e0] at lp0
  exact lp0 _ _
/-- the rows written, model -/
def rwN (g : am_G) (k : Nat) (r : cRow) : Prop := g 25 k = r.1 ∧ g 26 (4 * k) = r.2.1 ∧ g 26 (4 * k + 1) = am_kb r.1 r.2.2.1 ∧ g 26 (4 * k + 2) = am_kc r.1 r.2.2.2.1 ∧ g 26 (4 * k + 3) = am_kx r.1 r.2.2.2.2
def MR (x : Int32) (g : am_G) (n : Nat) : Prop := g 22 7 = nI n ∧ (∀ k, k < n → rwN g k (mkR x k)) ∧ ∀ k, k < n → g 27 k = 0
theorem MR.put {y : Int32} {n : Nat} {kd a b c x : Int32} (h : MR y g n) (e : mkR y n = (kd, a, b, c, x)) : MR y (am_mput g n kd a b c x) (n + 1) := by
  obtain ⟨h1, h2, h3⟩ := h
  refine ⟨by unfold am_mput; rw [am_up_us], fun k hk => ?_, fun k hk => ?_⟩
  · rcases Nat.lt_succ_iff_lt_or_eq.mp hk with q | q
    · obtain ⟨a1, a2, a3, a4, a5⟩ := h2 k q
      refine ⟨?_, ?_, ?_, ?_, ?_⟩
      · rw [mput_25 (by omega)]; exact a1
      · rw [mput_26 (by omega)]; exact a2
      · rw [mput_26 (by omega)]; exact a3
      · rw [mput_26 (by omega)]; exact a4
      · rw [mput_26 (by omega)]; exact a5
    · subst q
      rw [e]
      exact ⟨mput_25s, mput_260, mput_261, mput_262, mput_263⟩
  · rcases Nat.lt_succ_iff_lt_or_eq.mp hk with q | q
    · rw [mput_27 (by omega)]; exact h3 k q
    · subst q; exact mput_27s
theorem MR.of {y : Int32} {n : Nat} {g' : am_G} (h : MR y g n) (e7 : g' 22 7 = g 22 7) (e25 : g' 25 = g 25) (e26 : g' 26 = g 26) (e27 : g' 27 = g 27) : MR y g' n := by
  unfold MR rwN at *
  rw [e7, e25, e26, e27]; exact h
theorem MR.dr {x y : Int32} {n : Nat} (h : MR x g n) : MR x (am_up g 22 20 y) n := h.of (am_up_un (by decide)) (am_up_ne (by decide)) (am_up_ne (by decide)) (am_up_ne (by decide))
def WM (x : Int32) (g : am_G) : Prop := ∀ q, q < 4 → ∀ t, t < 10 → g 34 (10 * q + t) = nI (mkW2 x q t)
theorem WM.of {x : Int32} {g' : am_G} (h : WM x g) (e : g' 34 = g 34) : WM x g' := by unfold WM at *; rw [e]; exact h
theorem WM.put {x0 : Int32} {n : Nat} {kd a b c x : Int32} (h : WM x0 g) : WM x0 (am_mput g n kd a b c x) := h.of (mput_ne (by decide) (by decide) (by decide) (by decide))
theorem put20 {n : Nat} {kd a b c x : Int32} : am_mput g n kd a b c x 22 20 = g 22 20 := mput_22 (by decide)
/-- the state while the rows are written -/
def SS (x : Int32) (g0 g : am_G) (n i : Nat) : Prop := MK g0 g n 40 ∧ PTK g (mkP x) (mkT x) ∧ MR x g n ∧ WM x g ∧ g 22 20 = lcN i (mkX4 x) ∧ g 22 6 = 0
theorem SS.put {x0 : Int32} {g0 : am_G} {n i : Nat} {kd a b c x : Int32} (h : SS x0 g0 g n i) (hn : n < 20) (hr : rowOK kd a (am_kb kd b) (am_kc kd c) (am_kx kd x)) (e : mkR x0 n = (kd, a, b, c, x)) : SS x0 g0 (am_mput g n kd a b c x) (n + 1) i :=
  ⟨h.1.put hn hr, h.2.1.put, h.2.2.1.put e, h.2.2.2.1.put, put20.trans h.2.2.2.2.1, (mput_22 (by decide)).trans h.2.2.2.2.2⟩
theorem SS.dr {x0 : Int32} {g0 : am_G} {n i : Nat} (h : SS x0 g0 g n i) : SS x0 g0 (am_up g 22 20 (am_lcg (g 22 20))) n (i + 1) :=
  ⟨h.1.dr, h.2.1.dr, h.2.2.1.dr, h.2.2.2.1.of (am_up_ne (by decide)), by rw [am_up_us, h.2.2.2.2.1, lcN], by rw [am_up_un (by decide)]; exact h.2.2.2.2.2⟩
theorem m_makeSayings_x {x0 : Int32} {g0 : am_G} {f : Nat} {l2 l3 : Option Value} (S : SS x0 g0 g (4 + 3 * f) (4 + 2 * (f - 1))) (hf0 : 0 < f) (hf : f < 4) (h : ∀ g', SS x0 g0 g' (4 + 3 * f + 3) (4 + 2 * (f - 1) + 2) → fL g g' → Q none LY g') : am (d + 1) 134 0 [some (.ref 22), some (.int (nI f)), l2, l3] [] LY g 0 0 none Q := by
  have hT := mkT_rg (x := x0)
  have hP : mkP x0 < 8 := mkP_lt
  have lp : ∀ (m k : Nat) (x : Int32) (l3 : Option Value) (g1 : am_G), k + m = 2 → x = nI k → SS x0 g0 g1 (4 + 3 * f + k) (4 + 2 * (f - 1) + k) → fL g g1 → am (d + 1) 134 2 [some (.ref 22), some (.int (nI f)), some (.int x), l3] [] LY g1 0 0 none Q := by
    intro m
    induction m with
    | zero =>
      intro k x l3 g1 hk hx S1 L1
      have hk : k = 2 := by omega
      subst hk; subst hx
      have e1 := S1.2.2.2.1 f hf 0 (by omega)
      have e2 := S1.2.2.2.1 0 (by omega) 0 (by omega)
      have hw1 : mkW2 x0 f 0 < 8 := mkW2_lt
      have hw2 : mkW2 x0 0 0 < 8 := mkW2_lt
      have eS : mkR x0 (4 + 3 * f + 2) = mkS x0 f 2 := mkR_s hf0 (by omega)
      rw [show 10 * f + 0 = 10 * f from rfl] at e1
      rw [show 10 * 0 + 0 = 0 from rfl] at e2
      refine am_run_k 3 (And.intro (fun h6 => ?_) (fun hx => absurd ((show nI 2 ≤ nI 2 from nI_le (Nat.le_refl 2) (by decide))) hx))
      refine am_run_k 6 (And.intro (vpe (nIt10 f) (by omega)) ?_)
      refine am_run_k 4 (And.intro (vpe (n := 0) rfl (by decide)) ?_)
      rw [cle (nIt10 f) (by omega), e1, show (0 : Int32).toNatClampNeg = 0 from rfl, e2]
      refine am_run_k 1 (And.intro (fun h7 => ?_) (fun h7 => ?_))
      · have hne : ¬ mkW2 x0 f 0 = mkW2 x0 0 0 := fun z => h7 (by rw [z])
        refine am_run_k 9 (am_cl ?_)
        rw [S1.2.1.1, S1.2.1.2]
        refine m_put (n := 4 + 3 * f + 2) (by omega) S1.1.2.2.2.1 ?_
        refine am_run_k 1 ?_
        exact h _ (S1.put (by omega) (rowOK_0 (Or.inr (Or.inr rfl)) (by omega) hP (by omega)) (by rw [eS]; exact mkS_6 hne)) (L1.tr fL.put)
      · have heq : mkW2 x0 f 0 = mkW2 x0 0 0 := by
          first
            | exact (nI_eq (by omega) (by omega)).mp h7
            | exact (nI_eq (by omega) (by omega)).mp (rdr h7)
        refine am_run_k 8 (And.intro (vpe (n := 0) rfl (by decide)) ?_)
        rw [show (0 : Int32).toNatClampNeg = 0 from rfl, e2]
        refine am_run_k 2 (am_cl ?_)
        refine m_put (n := 4 + 3 * f + 2) (by omega) S1.1.2.2.2.1 ?_
        refine am_run_k 1 ?_
        refine am_run_k 1 ?_
        exact h _ (S1.put (by omega) (Or.inr (Or.inr (Or.inl ⟨rfl, ⟨f, by omega, rfl⟩, ⟨0, by omega, rfl⟩, ⟨mkW2 x0 0 0, hw2, rfl⟩, 0, by omega, rfl⟩))) (by rw [eS, mkS_7 heq, heq])) (L1.tr fL.put)
    | succ m ih =>
      intro k x l3 g1 hk hx S1 L1
      subst hx
      refine am_run_k 3 (And.intro (fun hx => absurd hx ((nI_ge (b := 2) (by omega) (by decide)))) (fun h6 => ?_))
      refine am_run_k 3 (am_cl ?_)
      refine m_draw_y (k := 10) (by decide) (by decide) (fun j hj ej => ?_)
      have S2 := S1.dr
      have ej2 : j = mkE x0 (4 + 2 * (f - 1) + k) := by rw [ej, S1.2.2.2.2.1, mkE]
      refine am_run_k 12 (And.intro (vpe ix10t (by omega)) ?_)
      rw [cle ix10t (by omega), S2.2.2.2.1 f hf j hj]
      refine am_run_k 3 (am_cl ?_)
      refine m_put (n := 4 + 3 * f + k) (by omega) S2.1.2.2.2.1 ?_
      refine am_run_k 2 ?_
      exact ih (k + 1) _ _ _ (by omega) (nI_1 k) (S2.put (by omega) (rowOK_0 (Or.inr (Or.inl rfl)) (by omega) mkW2_lt hj) (by rw [mkR_s hf0 (by omega), mkS_p (by omega), ej2])) (L1.tr ((fL.u22 (Or.inl rfl)).tr fL.put))
  refine am_run_k 2 ?_
  exact lp 2 0 _ _ g rfl rfl S fL.rf
/-- the model as a made case leaves it -/
def MM (x : Int32) (g : am_G) : Prop := XH x g ∧ PTK g (mkP x) (mkT x) ∧ g 22 6 = 0 ∧ MR x g 16
theorem l_135_283_x {x0 a sd : Int32} {g0 g00 : am_G} {l3 l5 l6 l7 : Option Value} (h : ∀ g', SS x0 g0 g' 16 10 → fL g00 g' → Q (some (.int a)) LY g') : ∀ (m k : Nat) (x : Int32) (g : am_G), k + m = 3 → x = nI (k + 1) → SS x0 g0 g (7 + 3 * k) (4 + 2 * k) → fL g00 g → am (d + 3) 135 283 [some (.ref 22), some (.int sd), some (.int a), l3, some (.int x), l5, l6, l7] [] LY g 0 0 none Q := by
  intro m
  induction m with
  | zero =>
    intro k x g hk hx S L
    have hk : k = 3 := by omega
    subst hk; subst hx
    refine am_run_k 3 (And.intro (fun h6 => ?_) (fun hx => absurd ((show nI 4 ≤ nI (3 + 1) from nI_le (Nat.le_refl 4) (by decide))) hx))
    refine am_run_k 2 ?_
    exact h g S L
  | succ m ih =>
    intro k x g hk hx S L
    subst hx
    refine am_run_k 3 (And.intro (fun hx => absurd hx ((nI_ge (b := 4) (by omega) (by decide)))) (fun h6 => ?_))
    refine am_run_k 3 (am_cl ?_)
    have e1 : 7 + 3 * k = 4 + 3 * (k + 1) := by omega
    rw [e1] at S
    refine m_makeSayings_x (f := k + 1) S (by omega) (by omega) (fun g1 S1 L1 => ?_)
    refine am_run_k 2 ?_
    have e2 : 4 + 3 * (k + 1) + 3 = 7 + 3 * (k + 1) := by omega
    have e3 : 4 + 2 * (k + 1 - 1) + 2 = 4 + 2 * (k + 1) := by omega
    rw [e2, e3] at S1
    exact ih (k + 1) _ g1 (by omega) (nI_1 (k + 1)) S1 (L.tr L1)
theorem l_135_239_x {x0 sd : Int32} {g0 g00 : am_G} {l4 l5 l6 l7 : Option Value} (h : ∀ g', SS x0 g0 g' 16 10 → fL g00 g' → Q (some (.int (nI (mkD x0)))) LY g') (S : SS x0 g0 g 4 4) (L : fL g00 g) : am (d + 3) 135 239 [some (.ref 22), some (.int sd), some (.int (nI (mkD x0))), some (.int (nI (mkO x0))), l4, l5, l6, l7] [] LY g 0 0 none Q := by
  have hT := mkT_rg (x := x0)
  have hO := mkO_lt (x := x0)
  have hD := mkD_rg (x := x0)
  have s251 : ∀ (u : Nat), u < 6 → nI u = mkB x0 → am (d + 3) 135 251 [some (.ref 22), some (.int sd), some (.int (nI (mkD x0))), some (.int (nI (mkO x0))), l4, l5, l6, l7] [.int (nI u), .int 4, .ref 22] LY g 0 0 none Q := by
    intro u hu eu
    refine am_run_k 4 (am_cl ?_)
    refine m_put (n := 4) (by omega) S.1.2.2.2.1 ?_
    have S1 := S.put (kd := 4) (a := nI u) (b := 0) (c := 0) (x := 0) (by omega) (Or.inr (Or.inl ⟨rfl, u, hu, rfl⟩)) (by rw [mkR_4, eu])
    refine am_run_k 7 (am_cl ?_)
    refine m_put (n := 5) (by omega) S1.1.2.2.2.1 ?_
    have S2 := S1.put (kd := 2) (a := nI (mkO x0)) (b := 0) (c := 0) (x := 0) (by omega) (Or.inl ⟨Or.inl rfl, ⟨mkO x0, hO, rfl⟩, 0, by omega, rfl⟩) mkR_5
    refine am_run_k 10 (am_cl ?_)
    rw [S2.2.1.2, nI_1]
    refine m_put (n := 6) (by omega) S2.1.2.2.2.1 ?_
    have S3 := S2.put (kd := 3) (a := nI (mkO x0)) (b := nI (mkT x0 + 1)) (c := 0) (x := 0) (by omega) (Or.inl ⟨Or.inr rfl, ⟨mkO x0, hO, rfl⟩, mkT x0 + 1, by omega, rfl⟩) mkR_6
    refine am_run_k 2 ?_
    exact l_135_283_x (x0 := x0) h 3 0 _ _ rfl rfl S3 (L.tr ((fL.put.tr fL.put).tr fL.put))
  refine am_run_k 5 (And.intro (fun h1 => ?_) (fun h1 => ?_))
  · have hd : ¬ mkD x0 = 1 := fun z => h1 (by rw [z]; rfl)
    refine am_run_k 1 ?_
    exact s251 1 (by omega) (by rw [mkB, decide_eq_false hd]; rfl)
  · have hd : mkD x0 = 1 := by
      first
        | exact (nI_eq (by omega) (by decide)).mp (show nI (mkD x0) = nI 1 from h1)
        | exact (nI_eq (by omega) (by decide)).mp (show nI (mkD x0) = nI 1 from rdr h1)
    refine am_run_k 2 ?_
    exact s251 2 (by omega) (by rw [mkB, decide_eq_true hd]; rfl)
theorem l_135_196_x {x0 sd : Int32} {g0 g00 : am_G} {l6 l7 : Option Value} (h : ∀ g', SS x0 g0 g' 16 10 → fL g00 g' → Q (some (.int (nI (mkD x0)))) LY g') : ∀ (m k : Nat) (x : Int32) (l5 : Option Value) (g : am_G), k + m = 4 → x = nI k → SS x0 g0 g k k → fL g00 g → am (d + 3) 135 196 [some (.ref 22), some (.int sd), some (.int (nI (mkD x0))), some (.int (nI (mkO x0))), some (.int x), l5, l6, l7] [] LY g 0 0 none Q := by
  intro m
  induction m with
  | zero =>
    intro k x l5 g hk hx S L
    have hk : k = 4 := by omega
    subst hk; subst hx
    refine am_run_k 3 (And.intro (fun h6 => ?_) (fun hx => absurd ((show nI 4 ≤ nI 4 from nI_le (Nat.le_refl 4) (by decide))) hx))
    exact l_135_239_x h S L
  | succ m ih =>
    intro k x l5 g hk hx S L
    subst hx
    refine am_run_k 3 (And.intro (fun hx => absurd hx ((nI_ge (b := 4) (by omega) (by decide)))) (fun h6 => ?_))
    refine am_run_k 3 (am_cl ?_)
    refine m_draw_y (k := 10) (by decide) (by decide) (fun j hj ej => ?_)
    have S1 := S.dr
    have ej2 : j = mkE x0 k := by rw [ej, S.2.2.2.2.1, mkE]
    refine am_run_k 12 (And.intro (vpe ix10t (by omega)) ?_)
    rw [cle ix10t (by omega), S1.2.2.2.1 k (by omega) j hj]
    refine am_run_k 3 (am_cl ?_)
    refine m_put (n := k) (by omega) S1.1.2.2.2.1 ?_
    refine am_run_k 2 ?_
    exact ih (k + 1) _ _ _ (by omega) (nI_1 k) (S1.put (by omega) (rowOK_0 (Or.inl rfl) (by omega) mkW2_lt hj) (by rw [mkR_p (by omega), ej2])) (L.tr ((fL.u22 (Or.inl rfl)).tr fL.put))
/-- the state while ways are turned away -/
def SW (x : Int32) (g0 g : am_G) (m : Nat) : Prop := MK g0 g 0 40 ∧ PTK g (mkP x) (mkT x) ∧ JM g (mkF x) ∧ (g 22 20 = mkX4 x ∧ g 22 6 = 0) ∧ ∀ q, q < 4 → ∀ t, t < 10 → g 34 (10 * q + t) = nI (if q < m then mkW2 x q t else mkW1 x q t)
theorem l_135_159_x {x0 sd : Int32} {o : Nat} {g0 g00 : am_G} {l5 : Option Value} (ho : o < 4) (ho1 : 1 ≤ o) (hoD : o ≠ mkD x0) (hoP : mkW1 x0 o (mkT x0) = mkP x0) (nx : ∀ g' l5 l6 l7, SW x0 g0 g' (o + 1) → fL g00 g' → am (d + 3) 135 187 [some (.ref 22), some (.int sd), some (.int (nI (mkD x0))), some (.int (nI (mkO x0))), some (.int (nI o)), l5, l6, l7] [] LY g' 0 0 none Q) : ∀ (m t : Nat) (x : Int32) (g : am_G), t + m = 10 → mkT x0 ≤ t → x = nI t → MK g0 g 0 40 → PTK g (mkP x0) (mkT x0) → JM g (mkF x0) → (g 22 20 = mkX4 x0 ∧ g 22 6 = 0) → fL g00 g → (∀ q, q < 4 → ∀ j, j < 10 → g 34 (10 * q + j) = nI (if q < o ∨ (q = o ∧ j < t) then mkW2 x0 q j else mkW1 x0 q j)) → am (d + 3) 135 159 [some (.ref 22), some (.int sd), some (.int (nI (mkD x0))), some (.int (nI (mkO x0))), some (.int (nI o)), l5, some (.int (nI (mkA x0 o))), some (.int x)] [] LY g 0 0 none Q := by
  intro m
  induction m with
  | zero =>
    intro t x g ht hT hx M P J s20 L r
    have ht : t = 10 := by omega
    subst ht; subst hx
    refine am_run_k 3 (And.intro (fun h6 => ?_) (fun hx => absurd ((show nI 10 ≤ nI 10 from nI_le (Nat.le_refl 10) (by decide))) hx))
    refine nx g _ _ _ ⟨M, P, J, s20, fun q hq j hj => ?_⟩ L
    rw [r q hq j hj]
    by_cases e : q < o + 1
    · rw [if_pos e, if_pos (by omega)]
    · rw [if_neg e, if_neg (by omega)]
  | succ m ih =>
    intro t x g ht hT hx M P J s20 L r
    subst hx
    refine am_run_k 3 (And.intro (fun hx => absurd hx ((nI_ge (b := 10) (by omega) (by decide)))) (fun h6 => ?_))
    refine am_run_k 9 (And.intro (vpe ix10t (by omega)) ?_)
    rw [cle ix10t (by omega)]
    refine am_run_k 2 ?_
    refine ih (t + 1) _ _ (by omega) (by omega) (nI_1 t) (M.way mkA_lt) P.way (J.of (am_up_ne (by decide))) (by rw [am_up_ne (by decide)]; exact s20) (L.tr fL.way) (fun q hq j hj => ?_)
    by_cases e : q = o ∧ j = t
    · obtain ⟨e1, e2⟩ := e
      subst e1; subst e2
      rw [am_up_us, if_pos (Or.inr ⟨rfl, Nat.lt_succ_self _⟩), mkW2_a ho1 hoD hoP hT]
    · rw [am_up_un (by omega), r q hq j hj]
      by_cases e2 : q < o ∨ (q = o ∧ j < t)
      · rw [if_pos e2, if_pos (by omega)]
      · rw [if_neg e2, if_neg (by omega)]
theorem l_135_75_x {x0 sd : Int32} {g0 g00 : am_G} (h : ∀ g', SS x0 g0 g' 16 10 → fL g00 g' → Q (some (.int (nI (mkD x0)))) LY g') : ∀ (m k : Nat) (x : Int32) (l5 l6 l7 : Option Value) (g : am_G), k + m = 4 → 0 < k → x = nI k → SW x0 g0 g k → fL g00 g → am (d + 3) 135 75 [some (.ref 22), some (.int sd), some (.int (nI (mkD x0))), some (.int (nI (mkO x0))), some (.int x), l5, l6, l7] [] LY g 0 0 none Q := by
  have hT := mkT_rg (x := x0)
  have hD := mkD_rg (x := x0)
  have hP : mkP x0 < 8 := mkP_lt
  have ok : FOK (mkF x0) := FOK_mk
  intro m
  induction m with
  | zero =>
    intro k x l5 l6 l7 g hk hk0 hx S L
    have hk : k = 4 := by omega
    subst hk; subst hx
    obtain ⟨M, P, J, s20, r⟩ := S
    refine am_run_k 3 (And.intro (fun h6 => ?_) (fun hx => absurd ((show nI 4 ≤ nI 4 from nI_le (Nat.le_refl 4) (by decide))) hx))
    refine am_run_k 2 ?_
    refine l_135_196_x (x0 := x0) h 4 0 _ _ g rfl rfl ⟨M, P, ⟨M.2.2.2.1, fun k hk => absurd hk (by omega), fun k hk => absurd hk (by omega)⟩, fun q hq t ht => ?_, by rw [s20.1, lcN], s20.2⟩ L
    rw [r q hq t ht, if_pos hq]
  | succ m ih =>
    intro k x l5 l6 l7 g hk hk0 hx S L
    subst hx
    obtain ⟨M, P, J, s20, r⟩ := S
    refine am_run_k 3 (And.intro (fun hx => absurd hx ((nI_ge (b := 4) (by omega) (by decide)))) (fun h6 => ?_))
    have nx : ∀ g' l5 l6 l7, SW x0 g0 g' (k + 1) → fL g00 g' → am (d + 3) 135 187 [some (.ref 22), some (.int sd), some (.int (nI (mkD x0))), some (.int (nI (mkO x0))), some (.int (nI k)), l5, l6, l7] [] LY g' 0 0 none Q := by
      intro g' l5 l6 l7 S' L'
      refine am_run_k 2 ?_
      exact ih (k + 1) _ _ _ _ g' (by omega) (by omega) (nI_1 k) S' L'
    have same : (k = mkD x0 ∨ mkW1 x0 k (mkT x0) ≠ mkP x0) → SW x0 g0 g (k + 1) := by
      intro hs
      refine ⟨M, P, J, s20, fun q hq t ht => ?_⟩
      rw [r q hq t ht]
      rcases Nat.lt_trichotomy q k with z | z | z
      · rw [if_pos z, if_pos (by omega)]
      · rw [if_neg (by omega), if_pos (by omega), z, mkW2_s hs]
      · rw [if_neg (by omega), if_neg (by omega)]
    have hww : ∀ t, t < 10 → g 34 (10 * k + t) = nI (mkW1 x0 k t) := fun t ht => by rw [r k (by omega) t ht, if_neg (by omega)]
    have e1 : (10 : Int32) * nI k + g 22 5 = nI (10 * k + mkT x0) := by rw [P.2]; exact ix10t
    have e2 : (10 : Int32) * nI k + g 22 5 - 1 = nI (10 * k + (mkT x0 - 1)) := by
      rw [e1, show 10 * k + mkT x0 = (10 * k + (mkT x0 - 1)) + 1 by omega]
      exact nI_pred _
    have hl1 : mkW1 x0 k (mkT x0) < 8 := mkW1_lt
    have hl2 : mkW1 x0 k (mkT x0 - 1) < 8 := mkW1_lt
    refine am_run_k 3 (And.intro (fun h1 => ?_) (fun h1 => ?_))
    · have hd : k = mkD x0 := by
        first
          | exact (nI_eq (by omega) (by omega)).mp h1
          | exact (nI_eq (by omega) (by omega)).mp (rdr h1)
      exact nx g _ _ _ (same (Or.inl hd)) L
    · have hd : ¬ k = mkD x0 := fun z => h1 (by rw [← z])
      refine am_run_k 9 (And.intro (vpe e1 (by omega)) ?_)
      rw [cle e1 (by omega), hww _ (by omega)]
      refine am_run_k 3 (And.intro (fun h2 => ?_) (fun h2 => ?_))
      · rw [P.1] at h2
        have hp : mkW1 x0 k (mkT x0) ≠ mkP x0 := fun z => h2 (by rw [z])
        exact nx g _ _ _ (same (Or.inr hp)) L
      · rw [P.1] at h2
        have hp : mkW1 x0 k (mkT x0) = mkP x0 := by
          first
            | exact (nI_eq (by omega) (by omega)).mp h2
            | exact (nI_eq (by omega) (by omega)).mp (rdr h2)
        have s151 : ∀ (l5 l6 l7 : Option Value), am (d + 3) 135 151 [some (.ref 22), some (.int sd), some (.int (nI (mkD x0))), some (.int (nI (mkO x0))), some (.int (nI k)), l5, l6, l7] [.int (nI (mkA x0 k))] LY g 0 0 none Q := by
          intro l5 l6 l7
          refine am_run_k 4 ?_
          refine l_135_159_x (x0 := x0) (by omega) (by omega) hd hp nx (10 - mkT x0) (mkT x0) _ g (by omega) (Nat.le_refl _) P.2 M P J s20 L (fun q hq j hj => ?_)
          rw [r q hq j hj]
          by_cases e : q < k
          · rw [if_pos e, if_pos (Or.inl e)]
          · rw [if_neg e]
            by_cases e3 : q = k ∧ j < mkT x0
            · rw [if_pos (Or.inr e3), mkW2_b e3.2]
            · rw [if_neg (by omega)]
        refine am_run_k 11 (And.intro (vpe e2 (by omega)) ?_)
        rw [cle e2 (by omega), hww _ (by omega)]
        refine am_run_k 5 (And.intro (fun h3 => ?_) (fun h3 => ?_))
        · rw [P.1] at h3
          have hq : mkW1 x0 k (mkT x0 - 1) = mkP x0 := by
            first
              | exact (nI_eq (by omega) (by omega)).mp h3
              | exact (nI_eq (by omega) (by omega)).mp (rdr h3)
          refine am_run_k 5 (am_cl ?_)
          rw [P.1]
          refine m_joinedTo_x (k := 0) J ok hP (ok.deg hP).2.1 ?_
          have eA : mkA x0 k = nthF (mkF x0) (mkP x0) 0 := by rw [mkA, if_pos hq]
          rw [← eA]
          exact s151 _ _ _
        · rw [P.1] at h3
          have hq : ¬ mkW1 x0 k (mkT x0 - 1) = mkP x0 := fun z => h3 (by rw [z])
          have eA : mkA x0 k = mkW1 x0 k (mkT x0 - 1) := by rw [mkA, if_neg hq]
          refine am_run_k 2 ?_
          rw [← eA]
          exact s151 _ _ _
theorem m_make_x {sd : Int32} {l2 l3 l4 l5 l6 l7 : Option Value} (I : IM g) (h : ∀ g', IM g' → MM sd g' → frM g g' → g' 30 = g 30 → g' 22 11 = g 22 11 → Q (some (.int (nI (mkD sd)))) LY g') : am (d + 3) 135 0 [some (.ref 22), some (.int sd), l2, l3, l4, l5, l6, l7] [] LY g 0 0 none Q := by
  have hT := mkT_rg (x := sd)
  have hD := mkD_rg (x := sd)
  have hO := mkO_lt (x := sd)
  have hP : mkP sd < 8 := mkP_lt
  obtain ⟨v1, v2, -⟩ := id I.1
  refine am_run_k 8 (am_cl ?_)
  refine m_makeHouse_x (x0 := sd) (by first | exact am_up_us | (rw [am_up_un (by decide), am_up_us])) (fun g1 f1 H1 T1 X1 s1 => ?_)
  have fr1 : frM g g1 := fun k hk => by rw [f1.1 k (by omega) (by omega) (by omega), am_up_ne (by omega), am_up_ne (by omega)]
  have e30 : g1 30 = g 30 := by rw [f1.1 30 (by omega) (by omega) (by omega), am_up_ne (by omega), am_up_ne (by omega)]
  have e11 : g1 22 11 = g 22 11 := by rw [f1.2 11 (by decide) (by decide) (by decide), am_up_un (by decide), am_up_un (by decide)]
  have M1 : MK g g1 0 0 := by
    refine ⟨⟨⟨⟨4, by decide, by decide, X1.1⟩, ?_, 0, by decide, ?_, fun k hk => absurd hk (by omega)⟩, H1.1, T1, I.2.2.2.of (fr1 29 (by decide))⟩, H1, fr1, ?_, fun i hi => absurd hi (by omega)⟩
    · rw [f1.2 5 (by decide) (by decide) (by decide), am_up_un (by decide), am_up_un (by decide)]; exact v2
    · rw [f1.2 7 (by decide) (by decide) (by decide), am_up_us]; rfl
    · rw [f1.2 7 (by decide) (by decide) (by decide), am_up_us]; rfl
  refine am_run_k 2 (am_cl ?_)
  refine m_makeWays_x (F := mkF sd) (y0 := mkX2 sd) FOK_mk X1.2.2.1 s1 M1 (fun g2 M2 L2 o2 w2 s2 => ?_)
  have s2b : g2 22 20 = mkX3 sd := by rw [s2, mkX3]
  have w2b : ∀ q, q < 4 → ∀ t, t < 10 → g2 34 (10 * q + t) = nI (mkW sd q t) := fun q hq t ht => by rw [w2 q hq t ht, mkW]
  refine am_run_k 8 (am_cl ?_)
  refine m_draw_y (k := 4) (by decide) (by decide) (fun jt hjt ejt => ?_)
  rw [am_up_un (by decide), s2b] at ejt
  have M3 := (M2.u22 (i := 6) (y := 0) (Or.inr (Or.inl rfl))).dr (y := am_lcg (am_up g2 22 6 0 22 20))
  obtain ⟨g3, hg3⟩ : ∃ g3 : am_G, g3 = am_up (am_up g2 22 6 0) 22 20 (am_lcg (am_up g2 22 6 0 22 20)) := ⟨_, rfl⟩
  rw [← hg3] at M3
  have o3 : ∀ k, k ≠ 22 → g3 k = g2 k := fun k hk => by rw [hg3, am_up_ne hk, am_up_ne hk]
  have o36 : g3 22 6 = 0 := by rw [hg3, am_up_un (by decide), am_up_us]
  have s3 : g3 22 20 = lcN 1 (mkX3 sd) := by rw [hg3, am_up_us, am_up_un (by decide), s2b]; rfl
  have L3 : fL g2 g3 := by rw [hg3]; exact (fL.u22 (by omega)).tr (fL.u22 (by omega))
  have et5 : (5 : Int32) + nI jt = nI (5 + jt) := nI_add 5 jt
  have eT : 5 + jt = mkT sd := by rw [mkT, ejt]
  have M4 := M3.u5 (t := 5 + jt) (by omega)
  rw [← et5] at M4
  have e5 : am_up g3 22 5 ((5 : Int32) + nI jt) 22 5 = nI (5 + jt) := by rw [am_up_us]; exact et5
  have ezp : am_up g3 22 5 ((5 : Int32) + nI jt) 34 (5 + jt) = nI (mkP sd) := by
    rw [am_up_ne (by decide), o3 34 (by decide)]
    have := w2b 0 (by omega) (5 + jt) (by omega)
    rw [show 10 * 0 + (5 + jt) = 5 + jt by omega] at this
    rw [this, eT, mkP]
  rw [← hg3]
  refine am_run_k 8 (And.intro (vpe e5 (by omega)) ?_)
  rw [cle e5 (by omega), ezp]
  obtain ⟨g4, hg4⟩ : ∃ g4 : am_G, g4 = am_up g3 22 5 ((5 : Int32) + nI jt) := ⟨_, rfl⟩
  rw [← hg4] at M4 e5
  have o4 : ∀ k, k ≠ 22 → g4 k = g3 k := fun k hk => by rw [hg4, am_up_ne hk]
  have o42 : ∀ i, i ≠ 5 → g4 22 i = g3 22 i := fun i hi => by rw [hg4, am_up_un hi]
  have L4 : fL g3 g4 := by rw [hg4]; exact fL.u22 (by omega)
  rw [← hg4]
  refine am_run_k 5 (am_cl ?_)
  refine m_draw_y (k := 3) (by decide) (by decide) (fun ja hja eja => ?_)
  rw [am_up_un (by decide), o42 20 (by decide), s3] at eja
  have eD : 1 + ja = mkD sd := by rw [mkD, eja]
  have M5 := (M4.u22 (i := 4) (y := nI (mkP sd)) (Or.inr (Or.inr rfl))).dr (y := am_lcg (am_up g4 22 4 (nI (mkP sd)) 22 20))
  have P5 : PTK (am_up (am_up g4 22 4 (nI (mkP sd))) 22 20 (am_lcg (am_up g4 22 4 (nI (mkP sd)) 22 20))) (mkP sd) (mkT sd) := PTK.dr ⟨am_up_us, by rw [am_up_un (by decide), ← eT]; exact e5⟩
  obtain ⟨g5, hg5⟩ : ∃ g5 : am_G, g5 = am_up (am_up g4 22 4 (nI (mkP sd))) 22 20 (am_lcg (am_up g4 22 4 (nI (mkP sd)) 22 20)) := ⟨_, rfl⟩
  rw [← hg5] at M5 P5
  have o5 : ∀ k, k ≠ 22 → g5 k = g4 k := fun k hk => by rw [hg5, am_up_ne hk, am_up_ne hk]
  have o56 : g5 22 6 = 0 := by rw [hg5, am_up_un (by decide), am_up_un (by decide), o42 6 (by decide), o36]
  have s5 : g5 22 20 = lcN 2 (mkX3 sd) := by rw [hg5, am_up_us, am_up_un (by decide), o42 20 (by decide), s3]; rfl
  have L5 : fL g4 g5 := by rw [hg5]; exact (fL.u22 (by omega)).tr (fL.u22 (by omega))
  rw [← hg5]
  refine am_run_k 5 (am_cl ?_)
  refine m_draw_y (k := 3) (by decide) (by decide) (fun w hw ew => ?_)
  rw [s5] at ew
  have eO : w = mkO sd := by rw [mkO, ew]
  have M6 := M5.dr (y := am_lcg (g5 22 20))
  have P6 := P5.dr (y := am_lcg (g5 22 20))
  obtain ⟨g6, hg6⟩ : ∃ g6 : am_G, g6 = am_up g5 22 20 (am_lcg (g5 22 20)) := ⟨_, rfl⟩
  rw [← hg6] at M6 P6
  have o6 : ∀ k, k ≠ 22 → g6 k = g5 k := fun k hk => by rw [hg6, am_up_ne hk]
  have o66 : g6 22 6 = 0 := by rw [hg6, am_up_un (by decide), o56]
  have s6 : g6 22 20 = mkX4 sd := by rw [hg6, am_up_us, s5]; rfl
  have L6 : fL g5 g6 := by rw [hg6]; exact fL.u22 (by omega)
  have L26 : fL g2 g6 := ((L3.tr L4).tr L5).tr L6
  have X6 : XH sd g6 := (X1.of L2).of L26
  subst eO
  rw [← hg6]
  refine am_run_k 7 (And.intro (vpn hw) ?_)
  rw [ncl (by omega), X6.2.2.2 _ hw, show (1 : Int32) + nI ja = nI (1 + ja) from nI_add 1 ja, eD]
  refine am_run_k 1 (am_cl ?_)
  refine m_goTo_x (x0 := sd) X6.2.2.1 M6 (by omega) P6.1 (fun g7 M7 L7 e22 r1 r2 => ?_)
  have w7 : ∀ q, q < 4 → ∀ t, t < 10 → g7 34 (10 * q + t) = nI (mkW1 sd q t) := by
    intro q hq t ht
    rw [mkW1]
    by_cases e : q = mkD sd
    · rw [if_pos e, e, r2 t ht]
    · rw [if_neg e, r1 _ (by omega), o6 34 (by decide), o5 34 (by decide), o4 34 (by decide), o3 34 (by decide), w2b q hq t ht]
  refine am_run_k 2 ?_
  refine l_135_75_x (x0 := sd) (g0 := g) (g00 := g7) (fun g8 S8 L8 => ?_) 3 1 1 _ _ _ g7 rfl (by omega) rfl ⟨M7, ⟨by rw [e22]; exact P6.1, by rw [e22]; exact P6.2⟩, X6.2.2.1.of (L7.1 23 (by decide) (by decide) (by decide) (by decide) (by decide)), ⟨by rw [e22]; exact s6, by rw [e22]; exact o66⟩, fun q hq t ht => ?_⟩ fL.rf
  · have LL : fL g1 g8 := ((L2.tr L26).tr L7).tr L8
    have e68 : g8 22 6 = 0 := S8.2.2.2.2.2
    refine h g8 S8.1.1 ⟨X1.of LL, S8.2.1, e68, S8.2.2.1⟩ S8.1.2.2.1 ?_ ?_
    · rw [LL.1 30 (by decide) (by decide) (by decide) (by decide) (by decide), e30]
    · rw [LL.2 11 (by decide) (by decide) (by decide) (by decide) (by decide), e11]
  · rw [w7 q hq t ht]
    by_cases e : q < 1
    · rw [if_pos e, show q = 0 by omega, mkW2_0]
    · rw [if_neg e]
end MMB
