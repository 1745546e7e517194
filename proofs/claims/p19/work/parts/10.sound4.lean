set_option maxRecDepth 100000 in
theorem am_wob_in : Cond.instanceMethod objectInit ∈ am_TG ∧ Cond.code objectInit ⟨#[0xb1]⟩ 1 none ∈ am_TG := ⟨am_good_of (q := am_wob1) (by decide +kernel), List.mem_filter.mpr ⟨List.mem_of_getElem? (i := am_wob2) rfl, rfl⟩⟩
set_option maxRecDepth 100000 in
theorem am_wmx_in : Cond.static Lib.Math.max.name ∈ am_TG ∧ Cond.code Lib.Math.max.name Lib.Math.max.code 2 (some .int) ∈ am_TG := ⟨am_good_of (q := am_wmx1) (by decide +kernel), List.mem_filter.mpr ⟨List.mem_of_getElem? (i := am_wmx2) rfl, rfl⟩⟩
set_option maxRecDepth 100000 in
theorem am_wmn_in : Cond.static Lib.Math.min.name ∈ am_TG ∧ Cond.code Lib.Math.min.name Lib.Math.min.code 2 (some .int) ∈ am_TG := ⟨am_good_of (q := am_wmn1) (by decide +kernel), List.mem_filter.mpr ⟨List.mem_of_getElem? (i := am_wmn2) rfl, rfl⟩⟩
set_option maxRecDepth 100000 in
theorem am_wmi_in : Cond.initialized "java/lang/Math" ∈ am_TG ∧ Cond.arrayClass .int ∈ am_TG := ⟨am_good_of (q := am_wmi) (by decide +kernel), am_good_of (q := am_wac) (by decide +kernel)⟩
section AMW
variable {d mi pc nx a b : Nat} {sw : List (Int32 × Nat)} {lv : am_V} {st : List Value} {L : am_L} {g : am_G} {bc bs : Nat} {sx : am_S} {Q : am_Q}
variable {p : Program} {l : Launch} {e : Env} {R : Room} {s : State} {m : MethodId} {args : Array Value} {below : List Frame} {meth : Method} {c : Code} {H : Heap} {locs : List Loc} {cells slots : Nat} {Z : State → Prop} {ls : Array Slot} {D : va_G} {A : Nat → Prop} {cI cR : ClassId} {ad : Nat → Nat}
theorem am_Sx.eq {ad' : Nat → Nat} (h : am_Sx sx ad A s) (ha : ad' am_scr = ad am_scr) : am_Sx sx ad' A s := by
  cases sx with
  | none => trivial
  | some q => obtain ⟨n, xs⟩ := q; unfold am_Sx at h ⊢; dsimp only at h ⊢; rw [ha]; exact h
theorem am_Rt.next {ad' : Nat → Nat} {n0 n1 mc ms : Nat} (h : am_Rt p l e R s m args below meth c mi D A cI cR ad n0 bc bs cells slots Q Z) (hn : n0 ≤ n1) (ha : ∀ k, k < n0 ∨ k = am_scr → ad' k = ad k) (h0 : mc = 0 → ad' = ad) (h1 : mc ≤ bc) (h2 : ms ≤ bs) : am_Rt p l e R s m args below meth c mi D A cI cR ad' n1 (bc - mc) (bs - ms) (cells + mc) (slots + ms) Q Z := by
  intro r L' g' ad'' H' locs' c' s' pc' ls' hQ hW hl hag hbc hc hs hE
  refine h r L' g' ad'' H' locs' c' s' pc' ls' hQ hW (Nat.le_trans hn hl) (fun k hk => ?_) (fun hb => ?_) (by omega) (by omega) hE
  · rw [hag k (hk.imp (fun q => Nat.lt_of_lt_of_le q hn) id)]
    exact ha k hk
  · rw [hbc (by omega)]
    exact h0 (by omega)
theorem am_Cx.next {mc ms : Nat} (h : am_Cx p R s m args meth c mi d bc bs cells slots) (h1 : mc ≤ bc) (h2 : ms ≤ bs) : am_Cx p R s m args meth c mi d (bc - mc) (bs - ms) (cells + mc) (slots + ms) := by
  obtain ⟨hx, hb, hml, hown, hts, hN, hAO, hin, hfr, hlo, hce, hsl⟩ := h
  exact ⟨hx, hb, hml, hown, hts, hN, hAO, hin, hfr, hlo, by omega, by omega⟩
theorem am_s_call {i : Nat} (ha : a < 137) (hcl : am_v1 sw (fun v q => match decide (v = 0) with
    | true => am_good q (.methodLink (am_own mi) i (am_yy a))
    | false => am_has q (.methodLinkNest (am_own mi) i (am_yy a) am_host)) = true) (hdg : decode (am_by mi) pc = .ok ((match am_kd a with | 0 => .invokestatic i | 1 => .invokevirtual i | _ => .invokespecial i), 3))
    (h : am_call am_Sd d mi (pc + 3) a lv st L g bc bs sx Q) : am_Sd d mi pc lv st L g bc bs sx Q := by
  obtain ⟨hok, h'⟩ := am_b_of h
  clear h
  cases d with
  | zero => exact h'.elim
  | succ d' =>
    obtain ⟨Q1, h1, h2⟩ := h'
    intro p l e R s m args below meth c H locs cells slots D A cI cR ad Z ls hC hW hL hS hR
    obtain ⟨a0, hrun⟩ := am_run ha hcl hdg hok h1 hC hW hL
    have hok' := hok
    simp only [am_cok, Bool.and_eq_true] at hok'
    obtain ⟨⟨⟨⟨⟨⟨k1, k2⟩, k3⟩, k4⟩, k5⟩, k6⟩, k7⟩ := hok'
    have k4 := Nat.le_of_ble_eq_true k4
    have k5 := Nat.le_of_ble_eq_true k5
    refine am_callg hrun hW.2.2.2.1 (am_world_free hW) (fun r L' g' ad' H1 locs1 hQ1 hn hag hbc hP1 hD1 hS1 => ?_)
    have hkeep : (st.drop (am_na a)).map (am_tr ad) = (st.drop (am_na a)).map (am_tr ad') ∧ am_Lo ad' ls (am_nl mi) lv := by
      simp only [Bool.or_eq_true] at k6
      rcases k6 with k6 | k6
      · have := hbc (Nat.eq_of_beq_eq_true k6)
        subst this
        exact ⟨rfl, hL⟩
      · simp only [am_fresh, Bool.and_eq_true] at k6
        exact ⟨(am_st_eq _ k6.2 hag).symm, hL.eq k6.1 hag⟩
    rw [hkeep.1]
    have e2 : (r.map (am_tr ad')).toList ++ (st.drop (am_na a)).map (am_tr ad') = (r.toList ++ st.drop (am_na a)).map (am_tr ad') := by
      rw [List.map_append]; cases r <;> rfl
    rw [e2]
    exact h2 r L' g' hQ1 p l e R s m args below meth c H1 locs1 (cells + am_mc a) (slots + am_ms a) D A cI cR ad' Z ls (hC.next k4 k5) ⟨hW.1, hP1, hD1.weaken (fun _ q _ hq => am_world_free hW q.1 hq), hS1, hW.2.2.2.2⟩ hkeep.2 (hS.eq (hag _ (Or.inr rfl))) (hR.next hn hag hbc k4 k5)
theorem am_cll_of {i k : Nat} (h : am_cll mi i a k sw = true) : a < 137 ∧ am_kd a = k ∧ am_v1 sw (fun v q => match decide (v = 0) with
    | true => am_good q (.methodLink (am_own mi) i (am_yy a))
    | false => am_has q (.methodLinkNest (am_own mi) i (am_yy a) am_host)) = true := by
  simp only [am_cll, Bool.and_eq_true, Nat.blt_eq] at h
  exact ⟨h.1.1, Nat.eq_of_beq_eq_true h.1.2, h.2⟩
theorem am_inv_lt {X : am_X} (ha : a < 137) (h : am_inv X d mi nx a lv st L g bc bs sx Q) : am_call X d mi nx a lv st L g bc bs sx Q := by
  unfold am_inv at h
  rw [show Nat.blt a 997 = true by rw [Nat.blt_eq]; omega] at h
  exact h
theorem am_s_invokevirtual {i : Nat} (ok : am_okE mi pc (.invokevirtual i, nx, a, b, sw) = true) (h : am_inv am_Sd d mi nx a lv st L g bc bs sx Q) : am_Sd d mi pc lv st L g bc bs sx Q := by
  obtain ⟨hd, hI⟩ := am_dec_of ok (by intro q; cases q)
  simp only [am_okI, Bool.and_eq_true] at hI
  have hn := Nat.eq_of_beq_eq_true hI.1
  subst hn
  rw [Nat.add_sub_cancel_left] at hd
  obtain ⟨h1, h2, h3⟩ := am_cll_of hI.2
  exact am_s_call h1 h3 (by rw [h2]; exact hd) (am_inv_lt h1 h)
theorem am_s_invokespecial {i : Nat} (ok : am_okE mi pc (.invokespecial i, nx, a, b, sw) = true) (h : am_inv am_Sd d mi nx a lv st L g bc bs sx Q) : am_Sd d mi pc lv st L g bc bs sx Q := by
  obtain ⟨hd, hI⟩ := am_dec_of ok (by intro q; cases q)
  simp only [am_okI, Bool.and_eq_true] at hI
  obtain ⟨hn, hI⟩ := hI
  have hn := Nat.eq_of_beq_eq_true hn
  subst hn
  rw [Nat.add_sub_cancel_left] at hd
  split at hI
  · rename_i ha
    have ha := Nat.eq_of_beq_eq_true ha
    subst ha
    obtain ⟨w, q, rfl, hw⟩ := am_v1_of hI
    obtain ⟨hc, h'⟩ := am_b_of (show am_b _ _ from h)
    clear h
    simp only [Bool.and_eq_true, Nat.blt_eq] at hc
    obtain ⟨k, r, rfl, h⟩ := am_r1_of (show am_r1 st _ from h')
    clear h'
    intro p l e R s m args below meth c H locs cells slots D A cI cR ad Z ls hC hW hL hS hR
    obtain ⟨hx, hb, hml, hown, hts, hN, hAO, hin, hfr, hlo, hce, hsl⟩ := id hC
    refine W.objInit (g := F0 m pc ls (.ref (ad k) :: r.map (am_tr ad))) hx hb hown (hts _ (am_good_of hw)) (hts _ am_wob_in.1) (hts _ am_wob_in.2) rfl (by rw [hml]; exact hL.1.1) (rest := r.map (am_tr ad)) rfl hd (by omega) ?_ (h p l e R s m args below meth c H locs cells slots D A cI cR ad Z ls hC hW hL hS hR)
    have hr : ((r.map (am_tr ad)).map fun v => v.category).sum ≤ 8 := by
      rw [am_words_map]
      have := Nat.le_of_ble_eq_true hc.2
      rw [show am_words (Value.ref k :: r) = 1 + am_words r from rfl] at this
      omega
    have := lv_room (m := m) (pc := pc) (ls := ls) (rest := .ref (ad k) :: r.map (am_tr ad)) hr
    omega
  · obtain ⟨h1, h2, h3⟩ := am_cll_of hI
    exact am_s_call h1 h3 (by rw [h2]; exact hd) (am_inv_lt h1 h)
theorem am_s_invokestatic {i : Nat} (ok : am_okE mi pc (.invokestatic i, nx, a, b, sw) = true) (h : am_inv am_Sd d mi nx a lv st L g bc bs sx Q) : am_Sd d mi pc lv st L g bc bs sx Q := by
  obtain ⟨hd, hI⟩ := am_dec_of ok (by intro q; cases q)
  simp only [am_okI, Bool.and_eq_true] at hI
  obtain ⟨hn, hI⟩ := hI
  have hn := Nat.eq_of_beq_eq_true hn
  subst hn
  rw [Nat.add_sub_cancel_left] at hd
  split at hI
  · rename_i ha
    have ha := Nat.eq_of_beq_eq_true ha
    subst ha
    obtain ⟨w, q, rfl, hw⟩ := am_v1_of hI
    obtain ⟨hc, h'⟩ := am_b_of (show am_b _ _ from h)
    clear h
    simp only [Bool.and_eq_true, Nat.blt_eq] at hc
    obtain ⟨x, y, r, rfl, h⟩ := am_i2_of (show am_i2 st _ from h')
    clear h'
    intro p l e R s m args below meth c H locs cells slots D A cI cR ad Z ls hC hW hL hS hR
    obtain ⟨hx, hb, hml, hown, hts, hN, hAO, hin, hfr, hlo, hce, hsl⟩ := id hC
    have hw8 := Nat.le_of_ble_eq_true hc.2
    rw [show am_words (Value.int y :: Value.int x :: r) = 1 + (1 + am_words r) from rfl] at hw8
    exact va_mmax (rest := r.map (am_tr ad)) hx hb (by rw [hml]; exact hL.1.1.symm) hown (hts _ (am_good_of hw)) (hts _ am_wmx_in.1) (hts _ am_wmi_in.1) (hts _ am_wmx_in.2) (by omega) (by rw [am_words_map]; omega) (by omega) (by omega) hd (h p l e R s m args below meth c H locs cells slots D A cI cR ad Z ls hC hW hL hS hR)
  · split at hI
    · rename_i ha0 ha
      have ha := Nat.eq_of_beq_eq_true ha
      subst ha
      obtain ⟨w, q, rfl, hw⟩ := am_v1_of hI
      obtain ⟨hc, h'⟩ := am_b_of (show am_b _ _ from h)
      clear h
      simp only [Bool.and_eq_true, Nat.blt_eq] at hc
      obtain ⟨x, y, r, rfl, h⟩ := am_i2_of (show am_i2 st _ from h')
      clear h'
      intro p l e R s m args below meth c H locs cells slots D A cI cR ad Z ls hC hW hL hS hR
      obtain ⟨hx, hb, hml, hown, hts, hN, hAO, hin, hfr, hlo, hce, hsl⟩ := id hC
      have hw8 := Nat.le_of_ble_eq_true hc.2
      rw [show am_words (Value.int y :: Value.int x :: r) = 1 + (1 + am_words r) from rfl] at hw8
      exact va_mmin (rest := r.map (am_tr ad)) hx hb (by rw [hml]; exact hL.1.1.symm) hown (hts _ (am_good_of hw)) (hts _ am_wmn_in.1) (hts _ am_wmi_in.1) (hts _ am_wmn_in.2) (by omega) (by rw [am_words_map]; omega) (by omega) (by omega) hd (h p l e R s m args below meth c H locs cells slots D A cI cR ad Z ls hC hW hL hS hR)
    · obtain ⟨h1, h2, h3⟩ := am_cll_of hI
      exact am_s_call h1 h3 (by rw [h2]; exact hd) (am_inv_lt h1 h)
theorem am_mk_of {e1 : am_D} (h : am_mk am_Sd d mi nx e1 lv st L g bc bs sx Q) : 1 ≤ bc ∧ e1.2.1 ≤ bs ∧ am_fresh L.length lv st = true ∧ am_lok L.length L = true ∧ L.length < am_scr ∧ am_Sd d mi nx lv (.ref L.length :: st) (L ++ [e1]) (am_upc g L.length (fun _ => 0)) (bc - 1) (bs - e1.2.1) sx Q := by
  obtain ⟨hc, h⟩ := am_b_of h
  simp only [Bool.and_eq_true, Nat.blt_eq] at hc
  obtain ⟨⟨⟨⟨k1, k2⟩, k3⟩, k4⟩, k5⟩ := hc
  exact ⟨Nat.le_of_ble_eq_true k1, Nat.le_of_ble_eq_true k2, k3, k4, k5, h⟩
theorem am_mk_go {t n : Nat} (h : am_mk am_Sd d mi nx (t, n, fun _ => 0) lv st L g bc bs sx Q) (hC : am_Cx p R s m args meth c mi d bc bs cells slots) (hW : am_Wo D A cI cR ad L g s H locs) (hL : am_Lo ad ls (am_nl mi) lv) (hS : am_Sx sx ad A s) (hR : am_Rt p l e R s m args below meth c mi D A cI cR ad L.length bc bs cells slots Q Z)
    (q : Nat) (H1 : Heap) (hP1 : va_P D am_cls (am_wd ad cI cR g 0 L ++ [(q, am_en ad cI cR (t, n, fun _ => 0) (fun _ => 0))]) H1) (hD1 : va_D A (am_wd ad cI cR g 0 L ++ [(q, am_en ad cI cR (t, n, fun _ => 0) (fun _ => 0))])) (hS1 : va_S A s.heap H1 locs) : W p l e R s m args below meth c H1 locs (cells + 1) (slots + n) Z (F0 m nx ls (.ref q :: st.map (am_tr ad))) := by
  obtain ⟨k1, k2, k3, k4, k5, h⟩ := am_mk_of h
  obtain ⟨ad', had⟩ : ∃ f : Nat → Nat, f = fun j => if j = L.length then q else ad j := ⟨_, rfl⟩
  have hq : ad' L.length = q := by rw [had]; simp
  have hag : ∀ k, k < L.length ∨ k = am_scr → ad' k = ad k := by
    intro k hk
    have : k ≠ L.length := by omega
    rw [had]
    simp [this]
  have ew : am_wd ad cI cR g 0 L ++ [(q, am_en ad cI cR (t, n, fun _ => 0) (fun _ => 0))] = am_wd ad' cI cR (am_upc g L.length (fun _ => 0)) 0 (L ++ [(t, n, fun _ => 0)]) := by
    rw [am_wd_app, Nat.zero_add, hq, am_wd_ext (ad := ad) (g := g) (N := L.length) L 0 k4 (fun j hj => hag j (Or.inl hj)) (by omega) (fun j hj => by simp [am_upc, Nat.ne_of_lt hj])]
    congr 3
    rw [show am_upc g L.length (fun _ => 0) L.length = (fun _ => 0) by simp [am_upc]]
    exact (am_en_cong (N := 0) (am_fok0 0 n) (fun j hj => absurd hj (Nat.not_lt_zero j))).symm
  simp only [am_fresh, Bool.and_eq_true] at k3
  rw [ew] at hP1 hD1
  have est : .ref q :: st.map (am_tr ad) = ((Value.ref L.length) :: st).map (am_tr ad') := by
    rw [List.map_cons, am_st_eq st k3.2 hag]
    show _ = Value.ref (ad' L.length) :: _
    rw [hq]
  rw [est]
  refine h p l e R s m args below meth c H1 locs (cells + 1) (slots + n) D A cI cR ad' Z ls (hC.next k1 k2) ⟨hW.1, hP1, hD1, hS1, hW.2.2.2.2⟩ (hL.eq k3.1 hag) (hS.eq (hag _ (Or.inr rfl))) ?_
  refine hR.next (by rw [List.length_append]; omega) hag (fun q => absurd q (by omega)) k1 k2
theorem am_s_new {i : Nat} (ok : am_okE mi pc (.new i, nx, a, b, sw) = true) (h : am_mk am_Sd d mi nx (a + 2, am_nf a, fun _ => 0) lv st L g bc bs sx Q) : am_Sd d mi pc lv st L g bc bs sx Q := by
  obtain ⟨hd, hI⟩ := am_dec_of ok (by intro q; cases q)
  simp only [am_okI, Bool.and_eq_true, Nat.blt_eq] at hI
  obtain ⟨⟨hn, h8⟩, hI⟩ := hI
  have hn := Nat.eq_of_beq_eq_true hn
  subst hn
  rw [Nat.add_sub_cancel_left] at hd
  obtain ⟨w, q, rfl, hw⟩ := am_v1_of hI
  have hk := am_mk_of h
  intro p l e R s m args below meth c H locs cells slots D A cI cR ad Z ls hC hW hL hS hR
  obtain ⟨hx, hb, hml, hown, hts, hN, hAO, hin, hfr, hlo, hce, hsl⟩ := id hC
  have k2 : am_nf a ≤ bs := hk.2.1
  refine va_new (ci := a) (fs := am_fs ad a (am_nf a) (fun _ => 0) (fun _ => 0)) hx hb hts (am_C1 h8) (am_ty a) (am_C2 h8) hown (hts _ (am_good_of hw)) (hts _ (am_C5 h8).1) (hts _ (am_C5 h8).2) hW.1 hW.2.1 hW.2.2.1 hW.2.2.2.1 hW.2.2.2.2 (am_clsAt a h8) (fun j hj => ?_) (by have := hk.1; omega) (by omega) hd (fun q H1 hP1 hD1 hS1 => am_mk_go h hC hW hL hS hR q H1 hP1 hD1 hS1)
  unfold vp_V
  rw [List.getD_eq_getElem?_getD, am_fs_get hj]
  have h3 := am_C3 h8 hj
  cases hr : am_isref a j with
  | true =>
    rcases h3.2 hr with ⟨n, e⟩ | ⟨t, e⟩ <;> rw [e] <;> rfl
  | false => rw [h3.1 hr]; rfl
theorem am_s_newarray {t : ArrayType} (ok : am_okE mi pc (.newarray t, nx, a, b, sw) = true) (h : am_i1 st (fun x r => (¬ x < 0 ∧ x.toNatClampNeg ≤ 4096) ∧ am_mk am_Sd d mi nx (0, x.toNatClampNeg, fun _ => 0) lv r L g bc bs sx Q)) : am_Sd d mi pc lv st L g bc bs sx Q := by
  obtain ⟨hd, hI⟩ := am_dec_of ok (by intro q; cases q)
  simp only [am_okI, Bool.and_eq_true] at hI
  obtain ⟨hn, hI⟩ := hI
  have hn := Nat.eq_of_beq_eq_true hn
  subst hn
  have hI := of_decide_eq_true hI
  subst hI
  rw [Nat.add_sub_cancel_left] at hd
  obtain ⟨x, r, rfl, ⟨h0, h1⟩, h⟩ := am_i1_of h
  have hk := am_mk_of h
  intro p l e R s m args below meth c H locs cells slots D A cI cR ad Z ls hC hW hL hS hR
  obtain ⟨hx, hb, hml, hown, hts, hN, hAO, hin, hfr, hlo, hce, hsl⟩ := id hC
  have k2 : x.toNatClampNeg ≤ bs := hk.2.1
  refine va_newa (atype := .int) (ty := .int) (a0 := (x.toNatClampNeg, .inl (fun _ => 0))) hx hb (hts _ am_wmi_in.2) rfl hW.1 hW.2.1 hW.2.2.1 hW.2.2.2.1 hW.2.2.2.2 (fun _ => rfl) h0 rfl (by show x.toNatClampNeg * 4 ≤ 536870912; omega) (by have := hk.1; omega) (by omega) hd (fun q cA H1 hK1 hP1 hD1 hS1 => ?_)
  have e1 : cA = cI := by
    have f1 : s.vm.findClass _ = some cA := (hK1.2 2 (cA, .int) rfl).2
    have f2 : s.vm.findClass _ = some cI := (hW.1.2 0 (cI, .int) rfl).2
    exact Option.some.inj (f1.symm.trans f2)
  subst e1
  exact am_mk_go h hC hW hL hS hR q H1 hP1 hD1 hS1
theorem am_s_anewarray {i : Nat} (ok : am_okE mi pc (.anewarray i, nx, a, b, sw) = true) (h : am_i1 st (fun x r => (¬ x < 0 ∧ x.toNatClampNeg ≤ 4096) ∧ am_mk am_Sd d mi nx (1, x.toNatClampNeg, fun _ => 0) lv r L g bc bs sx Q)) : am_Sd d mi pc lv st L g bc bs sx Q := by
  obtain ⟨hd, hI⟩ := am_dec_of ok (by intro q; cases q)
  simp only [am_okI, Bool.and_eq_true] at hI
  obtain ⟨hn, hI⟩ := hI
  have hn := Nat.eq_of_beq_eq_true hn
  subst hn
  rw [Nat.add_sub_cancel_left] at hd
  obtain ⟨w, q, rfl, hw⟩ := am_v1_of hI
  obtain ⟨x, r, rfl, ⟨h0, h1⟩, h⟩ := am_i1_of h
  have hk := am_mk_of h
  intro p l e R s m args below meth c H locs cells slots D A cI cR ad Z ls hC hW hL hS hR
  obtain ⟨hx, hb, hml, hown, hts, hN, hAO, hin, hfr, hlo, hce, hsl⟩ := id hC
  have k2 : x.toNatClampNeg ≤ bs := hk.2.1
  refine va_newq hx hb hown (hts _ (am_good_of hw)) hAO hW.1 hW.2.1 hW.2.2.1 hW.2.2.2.1 hW.2.2.2.2 h0 rfl (by omega) (by have := hk.1; omega) (by omega) hd (fun q cA H1 hK1 hP1 hD1 hS1 => ?_)
  have e1 : cA = cR := by
    obtain ⟨kA, comp, -, -, -, f1⟩ := (hK1.2 2 (cA, .object (am_R am_shc)) rfl).2
    obtain ⟨kB, comp2, -, -, -, f2⟩ := (hW.1.2 1 (cR, .object (am_R am_shc)) rfl).2
    exact Option.some.inj (f1.symm.trans f2)
  subst e1
  have e2 : (fun _ => none : Nat → Option Nat) = (fun j => bif Nat.blt j x.toNatClampNeg then am_ro ad 0 else none) := by
    funext j
    cases Nat.blt j x.toNatClampNeg <;> rfl
  rw [e2] at hP1 hD1
  exact am_mk_go h hC hW hL hS hR q H1 hP1 hD1 hS1
theorem am_s_ireturn (ok : am_okE mi pc (.ireturn, nx, a, b, sw) = true) (h : am_ret (am_rk mi) st (fun v => Q (some v) L g)) : am_Sd d mi pc lv st L g bc bs sx Q := by
  obtain ⟨hd, hI⟩ := am_dec_of ok (by intro q; cases q)
  have hn := Nat.eq_of_beq_eq_true (show Nat.beq nx (pc + 1) = true from hI)
  subst hn
  rw [Nat.add_sub_cancel_left] at hd
  unfold am_ret at h
  split at h
  · rename_i v
    intro p l e R s m args below meth c H locs cells slots D A cI cR ad Z ls hC hW hL hS hR
    split at h
    · rename_i hk
      exact hR (some (.int v)) L g ad H locs cells slots pc ls h hW (Nat.le_refl _) (fun _ _ => rfl) (fun _ => rfl) (Nat.le_add_right _ _) (Nat.le_add_right _ _) ⟨v, rfl, by omega, fun q => by omega, hd⟩
    · rename_i hk
      exact hR (some (.int v)) L g ad H locs cells slots pc ls h.2 hW (Nat.le_refl _) (fun _ _ => rfl) (fun _ => rfl) (Nat.le_add_right _ _) (Nat.le_add_right _ _) ⟨v, rfl, by omega, fun q => h.1, hd⟩
    · rename_i hk
      exact hR (some (.int v)) L g ad H locs cells slots pc ls h hW (Nat.le_refl _) (fun _ _ => rfl) (fun _ => rfl) (Nat.le_add_right _ _) (Nat.le_add_right _ _) ⟨v, rfl, by omega, fun q => by omega, hd⟩
    · exact h.elim
  · exact h.elim
theorem am_s_return (ok : am_okE mi pc (.return_, nx, a, b, sw) = true) (h : match st with | [] => am_b (Nat.beq (am_rk mi) 0) (Q none L g) | _ => False) : am_Sd d mi pc lv st L g bc bs sx Q := by
  obtain ⟨hd, hI⟩ := am_dec_of ok (by intro q; cases q)
  have hn := Nat.eq_of_beq_eq_true (show Nat.beq nx (pc + 1) = true from hI)
  subst hn
  rw [Nat.add_sub_cancel_left] at hd
  split at h
  · obtain ⟨hk, h⟩ := am_b_of h
    intro p l e R s m args below meth c H locs cells slots D A cI cR ad Z ls hC hW hL hS hR
    exact hR none L g ad H locs cells slots pc ls h hW (Nat.le_refl _) (fun _ _ => rfl) (fun _ => rfl) (Nat.le_add_right _ _) (Nat.le_add_right _ _) ⟨Nat.eq_of_beq_eq_true hk, hd⟩
  · exact h.elim
theorem am_step (h : am_F am_Sd d mi pc lv st L g bc bs sx Q) : am_Sd d mi pc lv st L g bc bs sx Q := by
  have ok := am_okAt mi pc
  unfold am_F at h
  generalize am_cd mi pc = ent at h ok
  obtain ⟨ins, nx, a, b, sw⟩ := ent
  dsimp only at h
  cases ins with
  | iconst i => exact am_s_iconst ok h
  | bipush i => exact am_s_bipush ok h
  | sipush i => exact am_s_sipush ok h
  | ldc i => exact am_s_ldc ok h
  | ldc_w i => exact am_s_ldc_w ok h
  | iload i => exact am_s_iload ok h
  | iload_n i => exact am_s_iload_n ok h
  | aload i => exact am_s_aload ok h
  | aload_n i => exact am_s_aload_n ok h
  | istore i => exact am_s_istore ok h
  | istore_n i => exact am_s_istore_n ok h
  | astore i => exact am_s_astore ok h
  | astore_n i => exact am_s_astore_n ok h
  | iinc i n => exact am_s_iinc ok h
  | iadd => exact am_s_iadd ok h
  | isub => exact am_s_isub ok h
  | imul => exact am_s_imul ok h
  | irem => exact am_s_irem ok h
  | iand => exact am_s_iand ok h
  | ior => exact am_s_ior ok h
  | ixor => exact am_s_ixor ok h
  | ishl => exact am_s_ishl ok h
  | ishr => exact am_s_ishr ok h
  | iushr => exact am_s_iushr ok h
  | ineg => exact am_s_ineg ok h
  | i2b => exact am_s_i2b ok h
  | i2l => exact am_s_i2l ok h
  | ladd => exact am_s_ladd ok h
  | lcmp => exact am_s_lcmp ok h
  | dup => exact am_s_dup ok h
  | dup_x1 => exact am_s_dup_x1 ok h
  | dup_x2 => exact am_s_dup_x2 ok h
  | dup2 => exact am_s_dup2 ok h
  | pop => exact am_s_pop ok h
  | ifCond c o => exact am_s_ifCond ok h
  | if_icmp c o => exact am_s_if_icmp ok h
  | goto o => exact am_s_goto ok h
  | tableswitch d0 lo hi offs => exact am_s_tableswitch ok h
  | lookupswitch d0 ps => exact am_s_lookupswitch ok h
  | getfield i => exact am_s_getfield ok h
  | putfield i => exact am_s_putfield ok h
  | iaload => exact am_s_iaload ok h
  | iastore => exact am_s_iastore ok h
  | aaload => exact am_s_aaload ok h
  | aastore => exact am_s_aastore ok h
  | arraylength => exact am_s_arraylength ok h
  | new i => exact am_s_new ok h
  | newarray t => exact am_s_newarray ok h
  | anewarray i => exact am_s_anewarray ok h
  | invokespecial i => exact am_s_invokespecial ok h
  | invokevirtual i => exact am_s_invokevirtual ok h
  | invokestatic i => exact am_s_invokestatic ok h
  | ireturn => exact am_s_ireturn ok h
  | return_ => exact am_s_return ok h
  | _ => exact h.elim
/-- THE MACHINE IS SOUND -/
theorem am_sound (h : am d mi pc lv st L g bc bs sx Q) : am_Sd d mi pc lv st L g bc bs sx Q := h am_Sd (fun _ _ _ _ _ _ _ _ _ _ _ h => am_step h)
end AMW
