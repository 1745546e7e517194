section MOL
variable {d : Nat} {L : am_L} {g : am_G} {bc bs : Nat} {sx : am_S} {Q : am_Q}
def WYn (g : am_G) (n : Nat) : Prop := ∀ i, i < n → ∃ z, z < 8 ∧ g 34 i = nI z
/-- the state while a story is made -/
def MK (g0 g : am_G) (c w : Nat) : Prop := IM g ∧ HB g 8 ∧ frM g0 g ∧ g 22 7 = nI c ∧ WYn g w
theorem MK.u22 {g0 : am_G} {c w i : Nat} {y : Int32} (h : MK g0 g c w) (hi : i = 20 ∨ i = 6 ∨ i = 4) : MK g0 (am_up g 22 i y) c w := by
  obtain ⟨I, H, f, e, W⟩ := h
  refine ⟨⟨I.1.of (am_up_un (by omega)) (am_up_un (by omega)) (am_up_un (by omega)) (am_up_ne (by decide)) (am_up_ne (by decide)), I.2.1.of (am_up_ne (by decide)), I.2.2.1.of (am_up_ne (by decide)), I.2.2.2.of (am_up_ne (by decide))⟩, H.of (am_up_ne (by decide)), f.tr (frM.up (by decide)), by rw [am_up_un (by omega)]; exact e, ?_⟩
  unfold WYn; rw [am_up_ne (by decide)]; exact W
theorem MK.u5 {g0 : am_G} {c w t : Nat} (h : MK g0 g c w) (ht : t < 10) : MK g0 (am_up g 22 5 (nI t)) c w := by
  obtain ⟨I, H, f, e, W⟩ := h
  obtain ⟨v1, -, v3⟩ := id I.1
  refine ⟨⟨⟨by rw [am_up_un (by omega)]; exact v1, ⟨t, ht, am_up_us⟩, by unfold rowsM; rw [am_up_un (by omega), am_up_ne (by decide), am_up_ne (by decide)]; exact v3⟩, I.2.1.of (am_up_ne (by decide)), I.2.2.1.of (am_up_ne (by decide)), I.2.2.2.of (am_up_ne (by decide))⟩, H.of (am_up_ne (by decide)), f.tr (frM.up (by decide)), by rw [am_up_un (by omega)]; exact e, ?_⟩
  unfold WYn; rw [am_up_ne (by decide)]; exact W
theorem MK.way {g0 : am_G} {c w i z : Nat} (h : MK g0 g c w) (hz : z < 8) : MK g0 (am_up g 34 i (nI z)) c w := by
  obtain ⟨I, H, f, e, W⟩ := h
  refine ⟨⟨I.1.of (by rw [am_up_ne (by decide)]) (by rw [am_up_ne (by decide)]) (by rw [am_up_ne (by decide)]) (am_up_ne (by decide)) (am_up_ne (by decide)), I.2.1.of (am_up_ne (by decide)), I.2.2.1.of (am_up_ne (by decide)), I.2.2.2.of (am_up_ne (by decide))⟩, H.of (am_up_ne (by decide)), f.tr (frM.up (by decide)), by rw [am_up_ne (by decide)]; exact e, fun j hj => ?_⟩
  by_cases q : j = i
  · exact ⟨z, hz, by rw [q, am_up_us]⟩
  · rw [am_up_un q]; exact W j hj
theorem MK.next {g0 : am_G} {c w z : Nat} (h : MK g0 g c w) (hz : z < 8) : MK g0 (am_up g 34 w (nI z)) c (w + 1) := by
  obtain ⟨I, H, f, e, W⟩ := h.way (i := w) hz
  refine ⟨I, H, f, e, fun j hj => ?_⟩
  rcases Nat.lt_succ_iff_lt_or_eq.mp hj with q | q
  · exact W j q
  · exact ⟨z, hz, by rw [q, am_up_us]⟩
theorem MK.put {g0 : am_G} {c w : Nat} {kd a b cc x : Int32} (h : MK g0 g c w) (hc : c < 20) (hr : rowOK kd a (am_kb kd b) (am_kc kd cc) (am_kx kd x)) : MK g0 (am_mput g c kd a b cc x) (c + 1) w := by
  obtain ⟨I, H, f, e, W⟩ := h
  refine ⟨I.add hc e hr, H.of (mput_ne (by decide) (by decide) (by decide) (by decide)), f.tr frM.add, by unfold am_mput; rw [am_up_us], ?_⟩
  unfold WYn; rw [mput_ne (by decide) (by decide) (by decide) (by decide)]; exact W
theorem bcN_nb {x : Int32} {p : Nat} (hp : bt x p = true) : ∀ n, bcN x n = nbC x p n + (if p < n then 1 else 0) := by
  intro n
  induction n with
  | zero => rfl
  | succ n ih =>
    rw [bcN, nbC, ih]
    by_cases e : n = p
    · subst e
      simp [hp]
    · have e2 : (if p < n + 1 then 1 else 0) = (if p < n then 1 else 0) := by
        by_cases q : p < n
        · rw [if_pos q, if_pos (by omega)]
        · rw [if_neg q, if_neg (by omega)]
      rw [e2]
      cases hb : bt x n with
      | true => simp [e]; omega
      | false => simp
theorem nb_hi {x : Int32} {p : Nat} (hh : ∀ q, 8 ≤ q → q < 32 → bt x q = false) : ∀ m, m ≤ 24 → nbC x p (8 + m) = nbC x p 8 := by
  intro m
  induction m with
  | zero => intro _; rfl
  | succ m ih =>
    intro hm
    show nbC x p ((8 + m) + 1) = _
    rw [nbC, ih (by omega), hh (8 + m) (by omega) (by omega), if_neg (fun z => absurd z.2 (by decide)), Nat.add_zero]
theorem HB.cnt {p : Nat} (H : HB g 8) (hp : p < 8) : bcN (g 23 p) 20 = nbC (g 23 p) p 8 + 1 := by
  rw [bcN_nb (H.2.1 p hp), if_pos (by omega), show (20 : Nat) = 8 + 12 from rfl, nb_hi (H.2.2.1 p hp) 12 (by decide)]
theorem HB.pos {p : Nat} (H : HB g 8) (hp : p < 8) : 0 < nbC (g 23 p) p 8 := by
  have h1 := H.2.2.2 p hp
  have h2 := nbC_lt (x := g 23 p) (p := p) (show (p + 1) % 8 < 8 by omega) (by omega) h1
  omega
theorem m_makeWays {g0 : am_G} {c : Nat} {l1 l2 l3 l4 : Option Value} (M : MK g0 g c 0) (h : ∀ g', MK g0 g' c 40 → Q none LY g') : am (d + 1) 132 0 [some (.ref 22), l1, l2, l3, l4] [] LY g 0 0 none Q := by
  have inn : ∀ (f : Nat) (hf : f < 4) (nx : ∀ g2 l3 l4, MK g0 g2 c (10 * (f + 1)) → am (d + 1) 132 105 [some (.ref 22), some (.int (nI f)), some (.int (nI 10)), l3, l4] [] LY g2 0 0 none Q), ∀ (m t : Nat) (x : Int32) (l3 l4 : Option Value) (g1 : am_G), t + m = 10 → 1 ≤ t → x = nI t → MK g0 g1 c (10 * f + t) → am (d + 1) 132 24 [some (.ref 22), some (.int (nI f)), some (.int x), l3, l4] [] LY g1 0 0 none Q := by
    intro f hf nx m
    induction m with
    | zero =>
      intro t x l3 l4 g1 ht h1 hx M1
      have ht : t = 10 := by omega
      subst ht; subst hx
      refine am_run_k 3 (And.intro (fun h6 => ?_) (fun hx => absurd ((show nI 10 ≤ nI 10 from nI_le (Nat.le_refl 10) (by decide))) hx))
      exact nx g1 _ _ M1
    | succ m ih =>
      intro t x l3 l4 g1 ht h1 hx M1
      subst hx
      refine am_run_k 3 (And.intro (fun hx => absurd hx ((nI_ge (b := 10) (by omega) (by decide)))) (fun h6 => ?_))
      have ei : (10 : Int32) * nI f + nI t - 1 = nI (10 * f + t - 1) := by
        rw [ix10t, show 10 * f + t = (10 * f + t - 1) + 1 by omega]
        exact nI_pred _
      obtain ⟨z, hz, ez⟩ := M1.2.2.2.2 (10 * f + t - 1) (by omega)
      refine am_run_k 10 (And.intro (vpe ei (by omega)) ?_)
      rw [cle ei (by omega), ez]
      refine am_run_k 4 (am_cl ?_)
      refine m_draw (k := 3) (by decide) (by decide) (fun j hj _ => ?_)
      have s98 : ∀ (y : Nat) (g2 : am_G) (l4 : Option Value), y < 8 → MK g0 g2 c (10 * f + t) → am (d + 1) 132 98 [some (.ref 22), some (.int (nI f)), some (.int (nI t)), some (.int (nI z)), l4] [.int (nI y), .int ((10 : Int32) * nI f + nI t), .ref 34] LY g2 0 0 none Q := by
        intro y g2 l4 hy M2
        refine am_run_k 1 (And.intro (vpe ix10t (by omega)) ?_)
        rw [cle ix10t (by omega)]
        refine am_run_k 2 ?_
        exact ih (t + 1) _ _ _ _ (by omega) (by omega) (nI_1 t) (M2.next hy)
      have s57 : ∀ (u : Int32) (g2 : am_G) (l4 : Option Value), MK g0 g2 c (10 * f + t) → am (d + 1) 132 57 [some (.ref 22), some (.int (nI f)), some (.int (nI t)), some (.int (nI z)), l4] [.int u] LY g2 0 0 none Q := by
        intro u g2 l4 M2
        refine am_run_k 10 (And.intro (fun h7 => ?_) (fun h7 => ?_))
        · refine am_run_k 7 (And.intro (vpn hz) ?_)
          rw [ncl (by omega)]
          refine am_run_k 1 (am_cl ?_)
          refine m_many ?_
          refine am_run_k 3 (am_cl ?_)
          rw [M2.2.1.cnt hz, nI_pred]
          refine m_draw (M2.2.1.pos hz) (by have := bcN_le (g2 23 z) 20; rw [M2.2.1.cnt hz] at this; omega) (fun k hk _ => ?_)
          refine am_run_k 1 (am_cl ?_)
          refine m_joinedTo hz (by rw [am_up_ne (by decide)]; exact hk) (fun y hy _ _ _ => ?_)
          exact s98 y _ _ hy (M2.u22 (Or.inl rfl))
        · refine am_run_k 2 ?_
          exact s98 z g2 _ hz M2
      refine am_run_k 1 (And.intro (fun h7 => ?_) (fun h7 => ?_))
      · refine am_run_k 1 ?_
        exact s57 0 _ _ (M1.u22 (Or.inl rfl))
      · refine am_run_k 2 ?_
        exact s57 1 _ _ (M1.u22 (Or.inl rfl))
  have out : ∀ (m f : Nat) (x : Int32) (l2 l3 l4 : Option Value) (g1 : am_G), f + m = 4 → x = nI f → MK g0 g1 c (10 * f) → am (d + 1) 132 2 [some (.ref 22), some (.int x), l2, l3, l4] [] LY g1 0 0 none Q := by
    intro m
    induction m with
    | zero =>
      intro f x l2 l3 l4 g1 hf hx M1
      have hf : f = 4 := by omega
      subst hf; subst hx
      refine am_run_k 3 (And.intro (fun h6 => ?_) (fun hx => absurd ((show nI 4 ≤ nI 4 from nI_le (Nat.le_refl 4) (by decide))) hx))
      refine am_run_k 1 ?_
      exact h g1 M1
    | succ m ih =>
      intro f x l2 l3 l4 g1 hf hx M1
      subst hx
      refine am_run_k 3 (And.intro (fun hx => absurd hx ((nI_ge (b := 4) (by omega) (by decide)))) (fun h6 => ?_))
      refine am_run_k 8 (am_cl ?_)
      refine m_draw (k := 8) (by decide) (by decide) (fun j hj _ => ?_)
      refine am_run_k 1 (And.intro (vpe (nIt10 f) (by omega)) ?_)
      rw [cle (nIt10 f) (by omega)]
      refine am_run_k 2 ?_
      refine inn f (by omega) (fun g2 l3 l4 M2 => ?_) 9 1 _ _ _ _ rfl (Nat.le_refl 1) rfl ((M1.u22 (Or.inl rfl)).next hj)
      refine am_run_k 2 ?_
      exact ih (f + 1) _ _ _ _ g2 (by omega) (nI_1 f) M2
  refine am_run_k 2 ?_
  exact out 4 0 _ _ _ _ g rfl rfl M
theorem nbC_inj {x : Int32} {p a b : Nat} (ha : a ≠ p) (hb : b ≠ p) (h1 : bt x a = true) (h2 : bt x b = true) (e : nbC x p a = nbC x p b) : a = b := by
  rcases Nat.lt_trichotomy a b with q | q | q
  · have := nbC_lt q ha h1; omega
  · exact q
  · have := nbC_lt q hb h2; omega
theorem m_goTo {g0 : am_G} {c f to zp : Nat} {l3 l4 l5 l6 : Option Value} (M : MK g0 g c 40) (hf : f < 4) (hto : to < 8) (hzp : zp < 8) (ep : g 22 4 = nI zp) (h : ∀ g', MK g0 g' c 40 → g' 22 = g 22 → Q none LY g') : am (d + 2) 133 0 [some (.ref 22), some (.int (nI f)), some (.int (nI to)), l3, l4, l5, l6] [] LY g 0 0 none Q := by
  have lp : ∀ (m t z : Nat) (x : Int32) (l5 l6 : Option Value) (g1 : am_G), t + m = 10 → x = nI t → z < 8 → MK g0 g1 c 40 → g1 22 = g 22 → am (d + 2) 133 15 [some (.ref 22), some (.int (nI f)), some (.int (nI to)), some (.int (nI z)), some (.int x), l5, l6] [] LY g1 0 0 none Q := by
    intro m
    induction m with
    | zero =>
      intro t z x l5 l6 g1 ht hx hz M1 e22
      have ht : t = 10 := by omega
      subst ht; subst hx
      refine am_run_k 3 (And.intro (fun h6 => ?_) (fun hx => absurd ((show nI 10 ≤ nI 10 from nI_le (Nat.le_refl 10) (by decide))) hx))
      refine am_run_k 1 ?_
      exact h g1 M1 e22
    | succ m ih =>
      intro t z x l5 l6 g1 ht hx hz M1 e22
      subst hx
      have ep1 : g1 22 4 = nI zp := by rw [e22]; exact ep
      obtain ⟨i0, hi0, hbl⟩ := bl_ex M1.2.1 hz hzp
      refine am_run_k 3 (And.intro (fun hx => absurd hx ((nI_ge (b := 10) (by omega) (by decide)))) (fun h6 => ?_))
      refine am_run_k 7 (am_cl ?_)
      rw [ep1]
      refine m_doorsFrom hz hzp hbl (by omega) (fun n hn hbn hmin => ?_)
      refine am_run_k 1 ?_
      have s83 : ∀ (y : Nat) (l5 l6 : Option Value), y < 8 → am (d + 2) 133 83 [some (.ref 22), some (.int (nI f)), some (.int (nI to)), some (.int (nI z)), some (.int (nI t)), l5, l6] [.int (nI y)] LY g1 0 0 none Q := by
        intro y l5 l6 hy
        refine am_run_k 10 (And.intro (vpe ix10t (by omega)) ?_)
        refine am_run_k 2 ?_
        exact ih (t + 1) y _ _ _ _ (by omega) (nI_1 t) hy (M1.way hy) (by rw [am_up_ne (by decide)]; exact e22)
      have s67 : ∀ (k : Nat), (n = 0 ∨ k < nbC (g1 23 z) z 8) → am (d + 2) 133 67 [some (.ref 22), some (.int (nI f)), some (.int (nI to)), some (.int (nI z)), some (.int (nI t)), some (.int (nI k)), some (.int (nI n))] [] LY g1 0 0 none Q := by
        intro k hk
        refine am_run_k 2 (And.intro (fun h7 => ?_) (fun h7 => ?_))
        · have hn0 : n ≠ 0 := fun e => h7 (by rw [e]; rfl)
          refine am_run_k 4 (am_cl ?_)
          refine m_joinedTo hz (hk.resolve_left hn0) (fun y hy _ _ _ => ?_)
          exact s83 y _ _ hy
        · refine am_run_k 2 ?_
          exact s83 z _ _ hz
      rcases Nat.eq_zero_or_pos n with hn0 | hn0
      · subst hn0
        refine am_run_k 2 (And.intro (fun h7 => ?_) (fun hx => absurd ((show nI 0 ≤ 0 by decide)) hx))
        exact s67 0 (Or.inl rfl)
      · obtain ⟨n1, rfl⟩ : ∃ n1, n = n1 + 1 := ⟨n - 1, by omega⟩
        obtain ⟨b, hb, hb1, hb2⟩ := bl_first hzp hbn
        have hbz : b ≠ z := fun e => hmin n1 (by omega) (by rw [e] at hb2; exact hb2)
        have hkb : nbC (g1 23 z) z b < nbC (g1 23 z) z 8 := nbC_lt hb hbz hb1
        have il : ∀ (m2 k : Nat) (x : Int32), k + m2 = nbC (g1 23 z) z b → x = nI k → am (d + 2) 133 36 [some (.ref 22), some (.int (nI f)), some (.int (nI to)), some (.int (nI z)), some (.int (nI t)), some (.int x), some (.int (nI (n1 + 1)))] [] LY g1 0 0 none Q := by
          intro m2
          induction m2 with
          | zero =>
            intro k x hk hx
            subst hx
            refine am_run_k 2 (And.intro (fun hx => absurd hx ((show ¬ nI (n1 + 1) ≤ nI 0 from nI_ge (by omega) (by omega)))) (fun h7 => ?_))
            refine am_run_k 5 (am_cl ?_)
            refine m_joinedTo hz (by omega) (fun y hy hyz hyb hyc => ?_)
            have hyb2 : y = b := nbC_inj hyz hbz hyb hb1 (by omega)
            subst hyb2
            refine am_run_k 3 (am_cl ?_)
            rw [ep1]
            refine m_doorsFrom hy hzp hb2 (by omega) (fun n2 hn2 _ _ => ?_)
            refine am_run_k 2 (And.intro (fun h8 => ?_) (fun hx => absurd ((show nI n2 < nI (n1 + 1) from nI_lt' (by omega))) hx))
            exact s67 k (Or.inr (by omega))
          | succ m2 ih2 =>
            intro k x hk hx
            subst hx
            refine am_run_k 2 (And.intro (fun hx => absurd hx ((show ¬ nI (n1 + 1) ≤ nI 0 from nI_ge (by omega) (by omega)))) (fun h7 => ?_))
            refine am_run_k 5 (am_cl ?_)
            refine m_joinedTo hz (by omega) (fun y hy hyz hyb hyc => ?_)
            obtain ⟨i1, hi1, hbl1⟩ := bl_ex M1.2.1 hy hzp
            refine am_run_k 3 (am_cl ?_)
            rw [ep1]
            refine m_doorsFrom hy hzp hbl1 (by omega) (fun n2 hn2 _ _ => ?_)
            refine am_run_k 2 (And.intro (fun h8 => ?_) (fun h8 => ?_))
            · exact s67 k (Or.inr (by omega))
            · refine am_run_k 2 ?_
              exact ih2 (k + 1) _ (by omega) (nI_1 k)
        exact il _ 0 _ (Nat.zero_add _) rfl
  refine am_run_k 9 (And.intro (vpe (nIt10 f) (by omega)) ?_)
  refine am_run_k 2 ?_
  exact lp 9 1 to _ _ _ _ rfl rfl hto (M.way hto) (am_up_ne (by decide))
theorem rowOK_0 {kd x : Int32} {q p t : Nat} (h : kd = 0 ∨ kd = 5 ∨ kd = 6) (hq : q < 6) (hp : p < 8) (ht : t < 10) : rowOK kd (nI q) (am_kb kd (nI p)) (am_kc kd (nI t)) (am_kx kd x) := by
  rcases h with e | e | e <;> subst e
  · exact Or.inr (Or.inr (Or.inr ⟨Or.inl rfl, ⟨q, hq, rfl⟩, ⟨p, hp, rfl⟩, t, ht, rfl⟩))
  · exact Or.inr (Or.inr (Or.inr ⟨Or.inr (Or.inr (Or.inl rfl)), ⟨q, hq, rfl⟩, ⟨p, hp, rfl⟩, t, ht, rfl⟩))
  · exact Or.inr (Or.inr (Or.inr ⟨Or.inr (Or.inr (Or.inr rfl)), ⟨q, hq, rfl⟩, ⟨p, hp, rfl⟩, t, ht, rfl⟩))
theorem m_makeSayings {g0 : am_G} {c f zp tk : Nat} {l2 l3 : Option Value} (M : MK g0 g c 40) (hc : c + 3 ≤ 20) (hf : f < 4) (hzp : zp < 8) (ep : g 22 4 = nI zp) (htk : tk < 10) (et : g 22 5 = nI tk) (h : ∀ g', MK g0 g' (c + 3) 40 → g' 22 4 = nI zp → g' 22 5 = nI tk → Q none LY g') : am (d + 1) 134 0 [some (.ref 22), some (.int (nI f)), l2, l3] [] LY g 0 0 none Q := by
  have lp : ∀ (m k : Nat) (x : Int32) (l3 : Option Value) (g1 : am_G), k + m = 2 → x = nI k → MK g0 g1 (c + k) 40 → g1 22 4 = nI zp → g1 22 5 = nI tk → am (d + 1) 134 2 [some (.ref 22), some (.int (nI f)), some (.int x), l3] [] LY g1 0 0 none Q := by
    intro m
    induction m with
    | zero =>
      intro k x l3 g1 hk hx M1 ep1 et1
      have hk : k = 2 := by omega
      subst hk; subst hx
      obtain ⟨z0, hz0, ez0⟩ := M1.2.2.2.2 0 (by omega)
      refine am_run_k 3 (And.intro (fun h6 => ?_) (fun hx => absurd ((show nI 2 ≤ nI 2 from nI_le (Nat.le_refl 2) (by decide))) hx))
      refine am_run_k 6 (And.intro (vpe (nIt10 f) (by omega)) ?_)
      refine am_run_k 4 (And.intro (vpe (n := 0) rfl (by decide)) ?_)
      refine am_run_k 1 (And.intro (fun h7 => ?_) (fun h7 => ?_))
      · refine am_run_k 9 (am_cl ?_)
        rw [ep1, et1]
        refine m_put (n := c + 2) (by omega) M1.2.2.2.1 ?_
        refine am_run_k 1 ?_
        exact h _ (M1.put (by omega) (rowOK_0 (Or.inr (Or.inr rfl)) (by omega) hzp htk)) (by rw [mput_22 (by decide)]; exact ep1) (by rw [mput_22 (by decide)]; exact et1)
      · refine am_run_k 8 (And.intro (vpe (n := 0) rfl (by decide)) ?_)
        rw [show (0 : Int32).toNatClampNeg = 0 from rfl, ez0]
        refine am_run_k 2 (am_cl ?_)
        refine m_put (n := c + 2) (by omega) M1.2.2.2.1 ?_
        refine am_run_k 1 ?_
        refine am_run_k 1 ?_
        exact h _ (M1.put (by omega) (Or.inr (Or.inr (Or.inl ⟨rfl, ⟨f, by omega, rfl⟩, ⟨0, by omega, rfl⟩, ⟨z0, hz0, rfl⟩, 0, by omega, rfl⟩)))) (by rw [mput_22 (by decide)]; exact ep1) (by rw [mput_22 (by decide)]; exact et1)
    | succ m ih =>
      intro k x l3 g1 hk hx M1 ep1 et1
      subst hx
      refine am_run_k 3 (And.intro (fun hx => absurd hx ((nI_ge (b := 2) (by omega) (by decide)))) (fun h6 => ?_))
      refine am_run_k 3 (am_cl ?_)
      refine m_draw (k := 10) (by decide) (by decide) (fun j hj _ => ?_)
      have M2 := M1.u22 (i := 20) (y := am_lcg (g1 22 20)) (Or.inl rfl)
      obtain ⟨z, hz, ez⟩ := M2.2.2.2.2 (10 * f + j) (by omega)
      refine am_run_k 12 (And.intro (vpe ix10t (by omega)) ?_)
      rw [cle ix10t (by omega), ez]
      refine am_run_k 3 (am_cl ?_)
      refine m_put (n := c + k) (by omega) M2.2.2.2.1 ?_
      refine am_run_k 2 ?_
      exact ih (k + 1) _ _ _ (by omega) (nI_1 k) (M2.put (by omega) (rowOK_0 (Or.inr (Or.inl rfl)) (by omega) hz hj)) (by rw [mput_22 (by decide), am_up_un (by decide)]; exact ep1) (by rw [mput_22 (by decide), am_up_un (by decide)]; exact et1)
  refine am_run_k 2 ?_
  exact lp 2 0 _ _ g rfl rfl M ep et
end MOL
