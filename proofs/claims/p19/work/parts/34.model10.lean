section MOM
variable {d : Nat} {L : am_L} {g : am_G} {bc bs : Nat} {sx : am_S} {Q : am_Q}
theorem MK.dr {g0 : am_G} {c w : Nat} {y : Int32} (h : MK g0 g c w) : MK g0 (am_up g 22 20 y) c w := h.u22 (Or.inl rfl)
def PTK (g : am_G) (zp tk : Nat) : Prop := g 22 4 = nI zp ∧ g 22 5 = nI tk
theorem PTK.dr {zp tk : Nat} {y : Int32} (h : PTK g zp tk) : PTK (am_up g 22 20 y) zp tk := ⟨by rw [am_up_un (by decide)]; exact h.1, by rw [am_up_un (by decide)]; exact h.2⟩
theorem PTK.way {zp tk i : Nat} {y : Int32} (h : PTK g zp tk) : PTK (am_up g 34 i y) zp tk := ⟨by rw [am_up_ne (by decide)]; exact h.1, by rw [am_up_ne (by decide)]; exact h.2⟩
theorem PTK.put {zp tk n : Nat} {kd a b c x : Int32} (h : PTK g zp tk) : PTK (am_mput g n kd a b c x) zp tk := ⟨by rw [mput_22 (by decide)]; exact h.1, by rw [mput_22 (by decide)]; exact h.2⟩
theorem l_135_283 {a sd : Int32} {zp tk c : Nat} {g0 : am_G} {l3 l5 l6 l7 : Option Value} (hzp : zp < 8) (htk : tk < 10) (hc : c ≤ 11) (h : ∀ r g', IM g' → frM g0 g' → Q (some (.int r)) LY g') : ∀ (m k : Nat) (x : Int32) (g : am_G), k + m = 3 → x = nI (k + 1) → MK g0 g (c + 3 * k) 40 → PTK g zp tk → am (d + 3) 135 283 [some (.ref 22), some (.int sd), some (.int a), l3, some (.int x), l5, l6, l7] [] LY g 0 0 none Q := by
  intro m
  induction m with
  | zero =>
    intro k x g hk hx M P
    have hk : k = 3 := by omega
    subst hk; subst hx
    refine am_run_k 3 (And.intro (fun h6 => ?_) (fun hx => absurd ((show nI 4 ≤ nI (3 + 1) from nI_le (Nat.le_refl 4) (by decide))) hx))
    refine am_run_k 2 ?_
    exact h _ g M.1 M.2.2.1
  | succ m ih =>
    intro k x g hk hx M P
    subst hx
    refine am_run_k 3 (And.intro (fun hx => absurd hx ((nI_ge (b := 4) (by omega) (by decide)))) (fun h6 => ?_))
    refine am_run_k 3 (am_cl ?_)
    refine m_makeSayings (f := k + 1) M (by omega) (by omega) hzp P.1 htk P.2 (fun g1 M1 e4 e5 => ?_)
    refine am_run_k 2 ?_
    exact ih (k + 1) _ g1 (by omega) (nI_1 (k + 1)) M1 ⟨e4, e5⟩
theorem l_135_239 {sd : Int32} {a w zp tk c : Nat} {g0 : am_G} {l4 l5 l6 l7 : Option Value} (hw : w < 3) (hzp : zp < 8) (htk : tk < 9) (hc : c ≤ 8) (h : ∀ r g', IM g' → frM g0 g' → Q (some (.int r)) LY g') (M : MK g0 g c 40) (P : PTK g zp tk) : am (d + 3) 135 239 [some (.ref 22), some (.int sd), some (.int (nI a)), some (.int (nI w)), l4, l5, l6, l7] [] LY g 0 0 none Q := by
  have s251 : ∀ (u : Nat), u < 6 → am (d + 3) 135 251 [some (.ref 22), some (.int sd), some (.int (nI a)), some (.int (nI w)), l4, l5, l6, l7] [.int (nI u), .int 4, .ref 22] LY g 0 0 none Q := by
    intro u hu
    refine am_run_k 4 (am_cl ?_)
    refine m_put (n := c) (by omega) M.2.2.2.1 ?_
    have M1 := M.put (kd := 4) (a := nI u) (b := 0) (cc := 0) (x := 0) (by omega) (Or.inr (Or.inl ⟨rfl, u, hu, rfl⟩))
    have P1 : PTK (am_mput g c 4 (nI u) 0 0 0) zp tk := P.put
    refine am_run_k 7 (am_cl ?_)
    refine m_put (n := c + 1) (by omega) M1.2.2.2.1 ?_
    have M2 := M1.put (kd := 2) (a := nI w) (b := 0) (cc := 0) (x := 0) (by omega) (Or.inl ⟨Or.inl rfl, ⟨w, hw, rfl⟩, 0, by omega, rfl⟩)
    have P2 := P1.put (n := c + 1) (kd := 2) (a := nI w) (b := 0) (c := 0) (x := 0)
    refine am_run_k 10 (am_cl ?_)
    rw [P2.2]
    refine m_put (n := c + 2) (by omega) M2.2.2.2.1 ?_
    have et : nI tk + 1 = nI (tk + 1) := nI_1 tk
    have M3 := M2.put (kd := 3) (a := nI w) (b := nI tk + 1) (cc := 0) (x := 0) (by omega) (Or.inl ⟨Or.inr rfl, ⟨w, hw, rfl⟩, tk + 1, by omega, et⟩)
    have P3 := P2.put (n := c + 2) (kd := 3) (a := nI w) (b := nI tk + 1) (c := 0) (x := 0)
    refine am_run_k 2 ?_
    exact l_135_283 (c := c + 3) hzp (by omega) (by omega) h 3 0 _ _ rfl rfl M3 P3
  refine am_run_k 5 (And.intro (fun h1 => ?_) (fun h1 => ?_))
  · refine am_run_k 1 ?_
    exact s251 1 (by omega)
  · refine am_run_k 2 ?_
    exact s251 2 (by omega)
theorem l_135_196 {sd : Int32} {a w zp tk : Nat} {g0 : am_G} {l6 l7 : Option Value} (hw : w < 3) (hzp : zp < 8) (htk : tk < 9) (h : ∀ r g', IM g' → frM g0 g' → Q (some (.int r)) LY g') : ∀ (m k : Nat) (x : Int32) (l5 : Option Value) (g : am_G), k + m = 4 → x = nI k → MK g0 g k 40 → PTK g zp tk → am (d + 3) 135 196 [some (.ref 22), some (.int sd), some (.int (nI a)), some (.int (nI w)), some (.int x), l5, l6, l7] [] LY g 0 0 none Q := by
  intro m
  induction m with
  | zero =>
    intro k x l5 g hk hx M P
    have hk : k = 4 := by omega
    subst hk; subst hx
    refine am_run_k 3 (And.intro (fun h6 => ?_) (fun hx => absurd ((show nI 4 ≤ nI 4 from nI_le (Nat.le_refl 4) (by decide))) hx))
    exact l_135_239 hw hzp htk (by omega) h M P
  | succ m ih =>
    intro k x l5 g hk hx M P
    subst hx
    refine am_run_k 3 (And.intro (fun hx => absurd hx ((nI_ge (b := 4) (by omega) (by decide)))) (fun h6 => ?_))
    refine am_run_k 3 (am_cl ?_)
    refine m_draw (k := 10) (by decide) (by decide) (fun j hj _ => ?_)
    have M1 := M.dr (y := am_lcg (g 22 20))
    obtain ⟨z, hz, ez⟩ := M1.2.2.2.2 (10 * k + j) (by omega)
    refine am_run_k 12 (And.intro (vpe ix10t (by omega)) ?_)
    rw [cle ix10t (by omega), ez]
    refine am_run_k 3 (am_cl ?_)
    refine m_put (n := k) (by omega) M1.2.2.2.1 ?_
    refine am_run_k 2 ?_
    exact ih (k + 1) _ _ _ (by omega) (nI_1 k) (M1.put (by omega) (rowOK_0 (Or.inl rfl) (by omega) hz hj)) P.dr.put
theorem l_135_159 {sd : Int32} {a w zp tk o y : Nat} {g0 : am_G} {l5 : Option Value} (ho : o < 4) (hy : y < 8) (nx : ∀ g' l5 l6 l7, MK g0 g' 0 40 → PTK g' zp tk → am (d + 3) 135 187 [some (.ref 22), some (.int sd), some (.int (nI a)), some (.int (nI w)), some (.int (nI o)), l5, l6, l7] [] LY g' 0 0 none Q) : ∀ (m t : Nat) (x : Int32) (g : am_G), t + m = 10 → x = nI t → MK g0 g 0 40 → PTK g zp tk → am (d + 3) 135 159 [some (.ref 22), some (.int sd), some (.int (nI a)), some (.int (nI w)), some (.int (nI o)), l5, some (.int (nI y)), some (.int x)] [] LY g 0 0 none Q := by
  intro m
  induction m with
  | zero =>
    intro t x g ht hx M P
    have ht : t = 10 := by omega
    subst ht; subst hx
    refine am_run_k 3 (And.intro (fun h6 => ?_) (fun hx => absurd ((show nI 10 ≤ nI 10 from nI_le (Nat.le_refl 10) (by decide))) hx))
    exact nx g _ _ _ M P
  | succ m ih =>
    intro t x g ht hx M P
    subst hx
    refine am_run_k 3 (And.intro (fun hx => absurd hx ((nI_ge (b := 10) (by omega) (by decide)))) (fun h6 => ?_))
    refine am_run_k 9 (And.intro (vpe ix10t (by omega)) ?_)
    refine am_run_k 2 ?_
    exact ih (t + 1) _ _ (by omega) (nI_1 t) (M.way hy) P.way
theorem l_135_75 {sd : Int32} {a w zp tk : Nat} {g0 : am_G} (hw : w < 3) (hzp : zp < 8) (ht0 : 0 < tk) (htk : tk < 9) (h : ∀ r g', IM g' → frM g0 g' → Q (some (.int r)) LY g') : ∀ (m k : Nat) (x : Int32) (l5 l6 l7 : Option Value) (g : am_G), k + m = 4 → x = nI k → MK g0 g 0 40 → PTK g zp tk → am (d + 3) 135 75 [some (.ref 22), some (.int sd), some (.int (nI a)), some (.int (nI w)), some (.int x), l5, l6, l7] [] LY g 0 0 none Q := by
  intro m
  induction m with
  | zero =>
    intro k x l5 l6 l7 g hk hx M P
    have hk : k = 4 := by omega
    subst hk; subst hx
    refine am_run_k 3 (And.intro (fun h6 => ?_) (fun hx => absurd ((show nI 4 ≤ nI 4 from nI_le (Nat.le_refl 4) (by decide))) hx))
    refine am_run_k 2 ?_
    exact l_135_196 hw hzp htk h 4 0 _ _ g rfl rfl M P
  | succ m ih =>
    intro k x l5 l6 l7 g hk hx M P
    subst hx
    refine am_run_k 3 (And.intro (fun hx => absurd hx ((nI_ge (b := 4) (by omega) (by decide)))) (fun h6 => ?_))
    have nx : ∀ g' l5 l6 l7, MK g0 g' 0 40 → PTK g' zp tk → am (d + 3) 135 187 [some (.ref 22), some (.int sd), some (.int (nI a)), some (.int (nI w)), some (.int (nI k)), l5, l6, l7] [] LY g' 0 0 none Q := by
      intro g' l5 l6 l7 M' P'
      refine am_run_k 2 ?_
      exact ih (k + 1) _ _ _ _ g' (by omega) (nI_1 k) M' P'
    have e1 : (10 : Int32) * nI k + g 22 5 = nI (10 * k + tk) := by rw [P.2]; exact ix10t
    have e2 : (10 : Int32) * nI k + g 22 5 - 1 = nI (10 * k + (tk - 1)) := by
      rw [e1, show 10 * k + tk = (10 * k + (tk - 1)) + 1 by omega]
      exact nI_pred _
    have s151 : ∀ (y : Nat) (l5 l6 l7 : Option Value), y < 8 → am (d + 3) 135 151 [some (.ref 22), some (.int sd), some (.int (nI a)), some (.int (nI w)), some (.int (nI k)), l5, l6, l7] [.int (nI y)] LY g 0 0 none Q := by
      intro y l5 l6 l7 hy
      refine am_run_k 4 ?_
      exact l_135_159 (by omega) hy nx (10 - tk) tk _ g (by omega) P.2 M P
    refine am_run_k 3 (And.intro (fun h1 => ?_) (fun h1 => ?_))
    · exact nx g _ _ _ M P
    · refine am_run_k 9 (And.intro (vpe e1 (by omega)) ?_)
      refine am_run_k 3 (And.intro (fun h2 => ?_) (fun h2 => ?_))
      · exact nx g _ _ _ M P
      · obtain ⟨z, hz, ez⟩ := M.2.2.2.2 (10 * k + (tk - 1)) (by omega)
        refine am_run_k 11 (And.intro (vpe e2 (by omega)) ?_)
        rw [cle e2 (by omega), ez]
        refine am_run_k 5 (And.intro (fun h3 => ?_) (fun h3 => ?_))
        · refine am_run_k 5 (am_cl ?_)
          rw [P.1]
          refine m_joinedTo (k := 0) hzp (M.2.1.pos hzp) (fun y hy _ _ _ => ?_)
          exact s151 y _ _ _ hy
        · refine am_run_k 2 ?_
          exact s151 z _ _ _ hz
theorem m_make {sd : Int32} {l2 l3 l4 l5 l6 l7 : Option Value} (I : IM g) (h : ∀ r g', IM g' → frM g g' → Q (some (.int r)) LY g') : am (d + 3) 135 0 [some (.ref 22), some (.int sd), l2, l3, l4, l5, l6, l7] [] LY g 0 0 none Q := by
  obtain ⟨v1, v2, -⟩ := id I.1
  refine am_run_k 8 (am_cl ?_)
  refine m_makeHouse (fun g1 f1 H1 T1 e0 => ?_)
  have fr1 : frM g g1 := fun k hk => by rw [f1.1 k (by omega) (by omega) (by omega), am_up_ne (by omega), am_up_ne (by omega)]
  have M1 : MK g g1 0 0 := by
    refine ⟨⟨⟨⟨4, by decide, by decide, e0⟩, ?_, 0, by decide, ?_, fun k hk => absurd hk (by omega)⟩, H1.1, T1, I.2.2.2.of (fr1 29 (by decide))⟩, H1, fr1, ?_, fun i hi => absurd hi (by omega)⟩
    · rw [f1.2 5 (by decide) (by decide) (by decide), am_up_un (by decide), am_up_un (by decide)]; exact v2
    · rw [f1.2 7 (by decide) (by decide) (by decide), am_up_us]; rfl
    · rw [f1.2 7 (by decide) (by decide) (by decide), am_up_us]; rfl
  refine am_run_k 2 (am_cl ?_)
  refine m_makeWays M1 (fun g2 M2 => ?_)
  refine am_run_k 8 (am_cl ?_)
  refine m_draw (k := 4) (by decide) (by decide) (fun jt hjt _ => ?_)
  have M3 := (M2.u22 (i := 6) (y := 0) (Or.inr (Or.inl rfl))).dr (y := am_lcg (am_up g2 22 6 0 22 20))
  generalize hg3 : am_up (am_up g2 22 6 0) 22 20 (am_lcg (am_up g2 22 6 0 22 20)) = g3 at M3
  have et5 : (5 : Int32) + nI jt = nI (5 + jt) := nI_add 5 jt
  have M4 := M3.u5 (t := 5 + jt) (by omega)
  obtain ⟨zp, hzp, ezp⟩ := M4.2.2.2.2 (5 + jt) (by omega)
  have e5 : am_up g3 22 5 ((5 : Int32) + nI jt) 22 5 = nI (5 + jt) := by rw [am_up_us]; exact et5
  rw [← et5] at M4 ezp
  refine am_run_k 8 (And.intro (vpe e5 (by omega)) ?_)
  rw [cle e5 (by omega), ezp]
  generalize hg4 : am_up g3 22 5 ((5 : Int32) + nI jt) = g4 at M4 e5
  refine am_run_k 5 (am_cl ?_)
  refine m_draw (k := 3) (by decide) (by decide) (fun ja hja _ => ?_)
  have M5 := (M4.u22 (i := 4) (y := nI zp) (Or.inr (Or.inr rfl))).dr (y := am_lcg (am_up g4 22 4 (nI zp) 22 20))
  have P5 : PTK (am_up (am_up g4 22 4 (nI zp)) 22 20 (am_lcg (am_up g4 22 4 (nI zp) 22 20))) zp (5 + jt) := PTK.dr ⟨am_up_us, by rw [am_up_un (by decide)]; exact e5⟩
  generalize hg5 : am_up (am_up g4 22 4 (nI zp)) 22 20 (am_lcg (am_up g4 22 4 (nI zp) 22 20)) = g5 at M5 P5
  refine am_run_k 5 (am_cl ?_)
  refine m_draw (k := 3) (by decide) (by decide) (fun w hw _ => ?_)
  have M6 := M5.dr (y := am_lcg (g5 22 20))
  have P6 := P5.dr (y := am_lcg (g5 22 20))
  obtain ⟨zt, hzt, ezt⟩ := M6.1.2.2.1 w hw
  refine am_run_k 7 (And.intro (vpn hw) ?_)
  rw [ncl (by omega), ezt, show (1 : Int32) + nI ja = nI (1 + ja) from nI_add 1 ja]
  refine am_run_k 1 (am_cl ?_)
  refine m_goTo M6 (by omega) hzt hzp P6.1 (fun g7 M7 e22 => ?_)
  refine am_run_k 2 ?_
  exact l_135_75 hw hzp (by omega) (show 5 + jt < 9 by omega) h 3 1 _ _ _ _ g7 rfl rfl M7 ⟨by rw [e22]; exact P6.1, by rw [e22]; exact P6.2⟩
end MOM
