theorem am_fok0 (N : Nat) : ∀ n, am_fok N (fun _ => 0) n = true
  | 0 => rfl
  | n + 1 => by simp only [am_fok, Bool.and_eq_true]; exact ⟨Nat.ble_eq.mpr (Nat.zero_le N), am_fok0 N n⟩
def am_WS (a : Nat) : List Cond := .code (am_yy a) (am_by a) (am_nl a) (am_rt a) :: am_TG
def am_Pre (D : va_G) (cI cR : ClassId) (ad : Nat → Nat) (L : am_L) (g : am_G) (sz : Nat) : State → Prop := fun U =>
  U.heap.size = sz ∧ va_P D am_cls (am_wd ad cI cR g 0 L) U.heap ∧ va_K D am_cls (am_tys cI cR) U ∧ va_D (fun _ => True) (am_wd ad cI cR g 0 L) ∧ (∀ w ∈ lw_tbl, am_isN w = true → va_Nw w U) ∧ va_AO (am_R am_shc) U
def am_Qc (D : va_G) (cI cR : ClassId) (ad : Nat → Nat) (n0 bc : Nat) (Q1 : am_Q) (A : Nat → Prop) : Array Value → State → Outcome → State → Prop := fun _ st oc t =>
  (∃ (r : Option Value) (L' : am_L) (g' : am_G) (ad' : Nat → Nat), oc = .returned (r.map (am_tr ad')) ∧ Q1 r L' g' ∧ n0 ≤ L'.length ∧ (∀ k, k < n0 ∨ k = am_scr → ad' k = ad k) ∧ (bc = 0 → ad' = ad) ∧ va_P D am_cls (am_wd ad' cI cR g' 0 L') t.heap ∧ va_D A (am_wd ad' cI cR g' 0 L')) ∧ va_F A st t
theorem am_nw_on {w : Cond} (h : am_isN w = true) : w.onTables = true := by
  cases w <;> first | rfl | (simp [am_isN] at h)
theorem am_nw_warm {w : Cond} (h : am_isN w = true) {s U : State} (hW : s.WarmedH U.vm) (hZ : va_Nw w s) : va_Nw w U := by
  cases w <;> first | exact va_Nw.warmF hW hZ | exact va_Nw.warmM hW hZ | (simp [am_isN] at h)
theorem am_Pre_blind {D : va_G} {cI cR : ClassId} {ad : Nat → Nat} {L : am_L} {g : am_G} {sz : Nat} {av : List Value} : FrameBlind (va_Pc av (am_Pre D cI cR ad L g sz)) := by
  intro a U gf mk q
  obtain ⟨q0, q1, qP, qK, qD, qN, qA⟩ := q
  exact ⟨q0, q1, qP, va_K.moved (u := U) (U := U.calling gf mk a) (Vm.Alike.refl U.vm) qK, qD, fun w hw hi => va_Nw.same (am_nw_on hi) (u := U) rfl (qN w hw hi), va_AO.moved (u := U) (U := U.calling gf mk a) (Vm.Alike.refl U.vm) qA⟩
theorem am_args_lo {ad : Nat → Nat} (n : Nat) : ∀ (vs : List Value) (k : Nat), (∀ v ∈ vs, am_cat1 v = true) → ∀ q ∈ am_ps ad k (vs.map some ++ List.replicate n none), q ∈ lv_args k (vs.map (am_tr ad))
  | [], k, _, q, h => by
    obtain ⟨i, v, h1, -⟩ := am_ps_of _ _ h
    exfalso
    revert h1
    simp only [List.map_nil, List.nil_append]
    clear h
    induction n generalizing i with
    | zero => intro h1; simp [am_vat] at h1
    | succ n ih =>
      intro h1
      rw [List.replicate_succ] at h1
      cases i with
      | zero => simp [am_vat] at h1
      | succ i => exact ih i h1
  | v :: vs, k, hc, q, h => by
    rw [List.map_cons, List.cons_append] at h
    rw [List.map_cons]
    have h1 := am_cat1_tr (ad := ad) (hc v List.mem_cons_self)
    rcases List.mem_cons.mp (show q ∈ (k, am_tr ad v) :: am_ps ad (k + 1) _ from h) with h | h
    · rw [h]; exact List.mem_cons_self
    · refine List.mem_cons_of_mem _ ?_
      rw [if_neg (by omega)]
      exact am_args_lo n vs (k + 1) (fun w hw => hc w (List.mem_cons_of_mem _ hw)) q h
theorem am_sl_len {ad : Nat → Nat} : ∀ (vs : List Value), (∀ v ∈ vs, am_cat1 v = true) → (lg_sl (vs.map (am_tr ad))).length = vs.length
  | [], _ => rfl
  | v :: vs, hc => by
    have h1 := am_cat1_tr (ad := ad) (hc v List.mem_cons_self)
    have h2 := am_sl_len (ad := ad) vs (fun w hw => hc w (List.mem_cons_of_mem _ hw))
    simp only [lg_sl, List.map_cons, List.flatMap_cons, List.length_append, List.length_cons] at h2 ⊢
    rw [if_neg (by omega), h2]
    simp
    omega
theorem am_ent_cat : ∀ (vs : List Value) (n i : Nat) (v : Value), (∀ v ∈ vs, am_cat1 v = true) → am_vat (vs.map some ++ List.replicate n none) i = some v → am_cat1 v = true
  | [], n, i, v, _, h => by
    exfalso
    revert h
    simp only [List.map_nil, List.nil_append]
    induction n generalizing i with
    | zero => intro h1; simp [am_vat] at h1
    | succ n ih =>
      intro h1
      rw [List.replicate_succ] at h1
      cases i with
      | zero => simp [am_vat] at h1
      | succ i => exact ih i h1
  | w :: vs, n, 0, v, hc, h => by
    simp only [List.map_cons, List.cons_append, am_vat, Option.some.injEq] at h
    subst h
    exact hc _ List.mem_cons_self
  | w :: vs, n, i + 1, v, hc, h => am_ent_cat vs n i v (fun u hu => hc u (List.mem_cons_of_mem _ hu)) h
theorem am_words_map {ad : Nat → Nat} : ∀ (st : List Value), ((st.map (am_tr ad)).map fun v => v.category).sum = am_words st
  | [] => rfl
  | v :: l => by
    have h : (am_tr ad v).category = v.category := by cases v <;> rfl
    rw [List.map_cons, List.map_cons, List.sum_cons, h, am_words_map l]
    rfl
theorem am_M {a : Nat} (h : a < 137) : am_okM a = true := List.all_eq_true.mp am_ckM a (List.mem_range.mpr h)
set_option maxHeartbeats 4000000 in
theorem am_met {a d' : Nat} {L : am_L} {g : am_G} {Q1 : am_Q} (ha : a < 137) (vs : List Value) (hlen : vs.length ≤ am_nl a) (hcat : ∀ v ∈ vs, am_cat1 v = true) (h : am_Sd d' a 0 (vs.map some ++ List.replicate (am_nl a - vs.length) none) [] L g (am_mc a) (am_ms a) none Q1) (l : Launch) (D : va_G) (cI cR : ClassId) (ad : Nat → Nat) (sz : Nat) :
    Met l (am_yy a) (am_WS a) ({ frames := d', cells := am_mc a, slots := am_ms a, locals := 40 * d' }) (va_Pc (vs.map (am_tr ad)) (am_Pre D cI cR ad L g sz)) (am_Qc D cI cR ad L.length (am_mc a) Q1 (va_A (am_wd ad cI cR g 0 L) sz)) (am_mc a) (am_ms a) (va_A (am_wd ad cI cR g 0 L) sz) := by
  have hM := am_M ha
  simp only [am_okM, Bool.and_eq_true] at hM
  obtain ⟨⟨⟨⟨⟨⟨⟨⟨⟨⟨⟨⟨⟨⟨m1, m2⟩, m3⟩, m4⟩, m5⟩, m6⟩, m7⟩, m8⟩, m9⟩, m10⟩, m11⟩, m12⟩, m13⟩, m14⟩, m15⟩ := hM
  have m4 := of_decide_eq_true m4
  refine Met.ofW (cc := am_by a) (maxL := am_nl a) (ret := am_rt a) m14 rfl ?_
  intro p e s m args below meth c s₁ B hml hv
  obtain ⟨rfl, hsz, hP, hK, hD0, hN, hAO⟩ := hv
  have hx := B.exec
  have hb := B.bytes
  have hr := B.returns
  have hts := atoms_spec (ws := am_WS a) B.pre
  have hown : s.vm.findClass (am_yy a).cls = some m.cls := findClass_of_methodNamed B.named
  have hlocks := B.notSynchronized
  have hin : meth.name = (am_yy a).name := (name_of_methodNamed B.named B.method).1
  subst hsz
  have hD := hD0.self (sz := s.heap.size)
  have hl := lv_entry (vs.map (am_tr ad)) (n := am_nl a) (by rw [am_sl_len vs hcat]; exact hlen)
  rw [lg_entry_eq]
  generalize (lg_sl (vs.map (am_tr ad)) ++ List.replicate (am_nl a - (lg_sl (vs.map (am_tr ad))).length) Slot.unset).toArray = ls at hl ⊢
  refine h p l e _ s m _ below meth c s.heap [] 0 0 D (va_A (am_wd ad cI cR g 0 L) s.heap.size) cI cR ad _ ls ?_ ?_ ?_ ?_ ?_
  · refine ⟨hx, hb, hml, by rw [← m4]; exact hown, fun w hw => hts w (List.mem_cons_of_mem _ hw), hN, hAO, fun hk => ?_, Nat.le_refl _, Nat.le_refl _, by simp [headSpec], by simp [headSpec]⟩
    rw [hk] at m10
    simp only [Bool.and_eq_true] at m10
    rw [hin]
    exact of_decide_eq_true m10.1
  · exact ⟨hK, hP, hD, va_S.rf, fun q hq => Or.inr hq⟩
  · refine ⟨⟨hl.1, hl.2.1, fun q hq => hl.2.2 q (am_args_lo _ vs 0 hcat q hq)⟩, by simp only [List.length_append, List.length_map, List.length_replicate]; omega, fun i v hi => am_ent_cat vs _ i v hcat hi⟩
  · trivial
  · intro r L' g' ad' H' locs' c' s' pc' ls' hQ hW' hlen' hag hbc hc' hs' hE
    refine W.widen (k := am_mc a) (n := am_ms a) (by omega) (by omega) ?_
    cases r with
    | none =>
      obtain ⟨hk, hdg⟩ := hE
      rw [hk] at m11
      have m11 := of_decide_eq_true m11
      exact W.vret hx hb (by rw [hr, m11]) (fun t ht hWm => ⟨⟨none, L', g', ad', rfl, hQ, hlen', hag, hbc, by rw [ht]; exact hW'.2.1, hW'.2.2.1⟩, hW'.2.2.2.1.F ht⟩) hW'.2.2.2.1.2.2 hdg
    | some v =>
      obtain ⟨x, rfl, hk0, hk2, hdg⟩ := hE
      split at m11
      · rename_i hk; exact absurd hk hk0
      · have m11 := of_decide_eq_true m11
        exact W.iret (v := x) hx hb (by rw [hr, m11]) (fun t ht hWm => ⟨⟨some (.int x), L', g', ad', rfl, hQ, hlen', hag, hbc, by rw [ht]; exact hW'.2.1, hW'.2.2.1⟩, hW'.2.2.2.1.F ht⟩) hW'.2.2.2.1.2.2 hdg
      · rename_i hk
        have m11 := of_decide_eq_true m11
        exact W.zret (v := x) (ty := .boolean) hx hb (by rw [hr, m11]) (by rcases hk2 hk with rfl | rfl <;> rfl) (fun t ht hWm => ⟨⟨some (.int x), L', g', ad', rfl, hQ, hlen', hag, hbc, by rw [ht]; exact hW'.2.1, hW'.2.2.1⟩, hW'.2.2.2.1.F ht⟩) hW'.2.2.2.1.2.2 hdg
      · cases m11
section AMU
variable {d mi pc nx a b : Nat} {sw : List (Int32 × Nat)} {lv : am_V} {st : List Value} {L : am_L} {g : am_G} {bc bs : Nat} {sx : am_S} {Q : am_Q}
variable {p : Program} {l : Launch} {e : Env} {R : Room} {s : State} {m : MethodId} {args : Array Value} {below : List Frame} {meth : Method} {c : Code} {H : Heap} {locs : List Loc} {cells slots : Nat} {Z : State → Prop} {ls : Array Slot} {D : va_G} {A : Nat → Prop} {cI cR : ClassId} {ad : Nat → Nat}
theorem am_callg {n0 b1 mc ms : Nat} {rest st0 : List Value} {Q1 : am_Q} {A1 : Nat → Prop} {a0 : Array Value} (hr : va_Run p l e R s m args below meth c H locs cells slots mc ms (F0 m pc ls st0) rest (am_Qc D cI cR ad n0 b1 Q1 A1 a0) A1) (hS : va_S A s.heap H locs) (hA1 : ∀ q, A1 q → A q)
    (kk : ∀ (r : Option Value) (L' : am_L) (g' : am_G) (ad' : Nat → Nat) (H1 : Heap) (locs1 : List Loc), Q1 r L' g' → n0 ≤ L'.length → (∀ k, k < n0 ∨ k = am_scr → ad' k = ad k) → (b1 = 0 → ad' = ad) → va_P D am_cls (am_wd ad' cI cR g' 0 L') H1 → va_D A1 (am_wd ad' cI cR g' 0 L') → va_S A s.heap H1 locs1 → W p l e R s m args below meth c H1 locs1 (cells + mc) (slots + ms) Z (F0 m (pc + 3) ls ((r.map (am_tr ad')).toList ++ rest))) : W p l e R s m args below meth c H locs cells slots Z (F0 m pc ls st0) := by
  intro T hT X
  obtain ⟨v, st₀, t, T', L1, h0, X', hL, e1, e2, ⟨⟨r, L', g', ad', hv, hq, hn, hag, hb1, hP1, hD1⟩, hz, hk⟩, st⟩ := hr T hT X
  cases hv
  rw [h0] at hz hk
  rw [← e1] at hP1
  obtain ⟨t2, a1, b2⟩ := kk r L' g' ad' T'.heap (locs ++ L1) hq hn hag hb1 hP1 hD1
    ⟨Nat.le_trans hS.1 (by rw [e1]; exact hz), fun q h1 h2 => by rw [e1, hk q (Nat.lt_of_lt_of_le h1 hS.1) (fun z => h2 (hA1 q z))]; exact hS.2.1 q h1 h2, fun q hq => by
      rcases List.mem_append.mp hq with h | h
      · exact hS.2.2 q h
      · exact hA1 _ (hL q h)⟩ T' rfl X'
  exact ⟨t2, st t2 a1, b2⟩
theorem am_world_free (hW : am_Wo D A cI cR ad L g s H locs) : ∀ q, va_A (am_wd ad cI cR g 0 L) H.size q → A q := by
  intro q hq
  rcases hq with ⟨k, e1, h⟩ | h
  · exact hW.2.2.1.2 k (q, e1) h
  · exact hW.2.2.2.2 q (Nat.le_trans hW.2.2.2.1.1 h)
theorem am_pre_at {U : State} (hC : am_Cx p R s m args meth c mi d bc bs cells slots) (hW : am_Wo D A cI cR ad L g s H locs) (hU : U.heap = H) (hm : s.WarmedH U.vm) : am_Pre D cI cR ad L g H.size U := by
  obtain ⟨hx, hb, hml, hown, hts, hN, hAO, hC'⟩ := hC
  exact ⟨by rw [hU], by rw [hU]; exact hW.2.1, va_K.moved hm.alike hW.1, hW.2.2.1.weaken (fun _ _ _ _ => trivial), fun w hw hi => am_nw_warm hi hm (hN w hw hi), hAO.moved hm.alike⟩
theorem am_ws_good {args : Array Value} {s : State} (ha : a < 137) (hts : ∀ w ∈ am_TG, w.before args s = true) : ∀ w ∈ am_WS a, ∀ (a' : Array Value) (U : State), s.WarmedH U.vm → w.before a' U = true := by
  refine pay_in hts (fun w hw => ?_)
  rcases List.mem_cons.mp hw with rfl | hw
  · exact ⟨am_code_in ha, Or.inl rfl⟩
  · exact ⟨hw, good_of_word (List.mem_filter.mp hw).2⟩
/-- a call's run, of the three kinds -/
theorem am_run {i d' : Nat} {Q1 : am_Q} (ha : a < 137) (hcl : am_v1 sw (fun v q => match decide (v = 0) with
    | true => am_good q (.methodLink (am_own mi) i (am_yy a))
    | false => am_has q (.methodLinkNest (am_own mi) i (am_yy a) am_host)) = true) (hdg : decode (am_by mi) pc = .ok ((match am_kd a with | 0 => .invokestatic i | 1 => .invokevirtual i | _ => .invokespecial i), 3))
    (hok : am_cok a lv st L bc bs = true) (h : am_Sd d' a 0 (am_ent (am_nl a) (am_na a) st) [] L g (am_mc a) (am_ms a) none Q1)
    (hC : am_Cx p R s m args meth c mi (d' + 1) bc bs cells slots) (hW : am_Wo D A cI cR ad L g s H locs) (hL : am_Lo ad ls (am_nl mi) lv) : ∃ a0, va_Run p l e R s m args below meth c H locs cells slots (am_mc a) (am_ms a) (F0 m pc ls (st.map (am_tr ad))) ((st.drop (am_na a)).map (am_tr ad)) (am_Qc D cI cR ad L.length (am_mc a) Q1 (va_A (am_wd ad cI cR g 0 L) H.size) a0) (va_A (am_wd ad cI cR g 0 L) H.size) := by
  obtain ⟨hx, hb, hml, hown, hts, hN, hAO, hin, hfr, hlo, hce, hsl⟩ := id hC
  have hM := am_M ha
  simp only [am_okM, Bool.and_eq_true] at hM
  obtain ⟨⟨⟨⟨⟨⟨⟨⟨⟨⟨⟨⟨⟨⟨m1, m2⟩, m3⟩, m4⟩, m5⟩, m6⟩, m7⟩, m8⟩, m9⟩, m10⟩, m11⟩, m12⟩, m13⟩, m14⟩, m15⟩ := hM
  have m4 := of_decide_eq_true m4
  have m8 := of_decide_eq_true m8
  have m12 := Nat.le_of_ble_eq_true m12
  have m13 := Nat.le_of_ble_eq_true m13
  simp only [am_cok, Bool.and_eq_true] at hok
  obtain ⟨⟨⟨⟨⟨⟨k1, k2⟩, k3⟩, k4⟩, k5⟩, k6⟩, k7⟩ := hok
  have k1 := Nat.le_of_ble_eq_true k1
  have k3 := Nat.le_of_ble_eq_true k3
  have k4 := Nat.le_of_ble_eq_true k4
  have k5 := Nat.le_of_ble_eq_true k5
  have hvl : ((st.take (am_na a)).reverse).length = am_na a := by rw [List.length_reverse, List.length_take]; omega
  have hcat : ∀ v ∈ (st.take (am_na a)).reverse, am_cat1 v = true := fun v hv => List.all_eq_true.mp k2 v (List.mem_reverse.mp hv)
  have hent : am_ent (am_nl a) (am_na a) st = ((st.take (am_na a)).reverse).map some ++ List.replicate (am_nl a - ((st.take (am_na a)).reverse).length) none := by rw [hvl]; rfl
  rw [hent] at h
  have hMet := am_met ha (st.take (am_na a)).reverse (by rw [hvl]; exact m12) hcat h l D cI cR ad H.size
  have hmapst : st.map (am_tr ad) = (((st.take (am_na a)).reverse).map (am_tr ad)).reverse ++ (st.drop (am_na a)).map (am_tr ad) := by
    rw [← List.map_reverse, List.reverse_reverse, ← List.map_append, List.take_append_drop]
  have hcode := am_code_in ha
  have hsz : ls.size = am_nl mi := hL.1.1
  have hroom : (((st.drop (am_na a)).map (am_tr ad)).map fun v => v.category).sum ≤ 8 := by rw [am_words_map]; exact k3
  have hpre : ∀ U : State, U.heap = H → s.WarmedH U.vm → va_Pc (((st.take (am_na a)).reverse).map (am_tr ad)) (am_Pre D cI cR ad L g H.size) (((st.take (am_na a)).reverse).map (am_tr ad)).toArray U := fun U hU hm => ⟨rfl, am_pre_at hC hW hU hm⟩
  obtain ⟨w, q, rfl, hw⟩ := am_v1_of hcl
  have hf : cells + am_mc a ≤ R.cells ∧ slots + am_ms a ≤ R.slots := ⟨by omega, by omega⟩
  -- the words' part, without the link
  have hB : (∀ (x : (Cond.methodLink (am_own mi) i (am_yy a)).before args s = true) (n : Nat), (∀ sig, parseMethodDescriptor (am_yy a).desc = some sig → n = sig.parameters.length) → CallB R s args (am_own mi) i (am_yy a) (am_by a) (am_nl a) (am_rt a) (am_WS a) ({ frames := d', cells := am_mc a, slots := am_ms a, locals := 40 * d' }) (am_mc a) (am_ms a) n) := fun x n hn => ⟨rfl, rfl, hfr, by show 8 + (am_nl a + 11) + 40 * d' ≤ R.locals; omega, am_ws_good ha hts, List.mem_cons_self, hts _ hcode, hts _ (am_good_of m3), ⟨of_decide_eq_true m6, of_decide_eq_true m7⟩, hn, x⟩
  have hNB : (∀ (x : (Cond.methodLinkNest (am_own mi) i (am_yy a) am_host).before args s = true) (n : Nat), (∀ sig, parseMethodDescriptor (am_yy a).desc = some sig → n = sig.parameters.length) → va_CN R s args (am_own mi) i (am_yy a) am_host (am_by a) (am_nl a) (am_rt a) (am_WS a) ({ frames := d', cells := am_mc a, slots := am_ms a, locals := 40 * d' }) (am_mc a) (am_ms a) n) := fun x n hn => ⟨⟨rfl, rfl, hfr, by show 8 + (am_nl a + 11) + 40 * d' ≤ R.locals; omega, am_ws_good ha hts, List.mem_cons_self⟩, hts _ hcode, hts _ (am_good_of m3), ⟨of_decide_eq_true m6, of_decide_eq_true m7⟩, hn, x⟩
  cases hkd : am_kd a with
  | zero =>
    rw [hkd] at hdg m1 m8
    have hn : ∀ sig, parseMethodDescriptor (am_yy a).desc = some sig → am_na a = sig.parameters.length := fun sig hs => by
      rw [hs, Option.map_some] at m8
      have m8 : some sig.parameters.length = some (am_na a) := m8
      exact (Option.some.inj m8).symm
    refine ⟨(((st.take (am_na a)).reverse).map (am_tr ad)).toArray, ?_⟩
    split at hw
    · exact va_runS (As := ((st.take (am_na a)).reverse).map (am_tr ad)) ⟨hx, hb, hml, hown, hts⟩ hMet ⟨hB (hts _ (am_good_of hw)) (am_na a) hn, hts _ (am_good_of m1)⟩ ⟨am_Pre_blind, hpre⟩ rfl (by rw [List.length_map, hvl]) hsz hmapst (lv_room hroom) hdg hf
    · exact va_runSN (As := ((st.take (am_na a)).reverse).map (am_tr ad)) ⟨hx, hb, hml, hown, hts⟩ hMet ⟨hNB (va_Nw.use rfl (hN _ (am_has_of hw) rfl)) (am_na a) hn, hts _ (am_good_of m1), trivial⟩ ⟨am_Pre_blind, hpre⟩ rfl (by rw [List.length_map, hvl]) hsz hmapst (lv_room hroom) hdg hf
  | succ kd =>
    rw [hkd] at m1 m8 m9 m5
    have m9 : Nat.blt 0 (am_na a) = true := m9
    have m8 : (parseMethodDescriptor (am_yy a).desc).map (fun d => d.parameters.length) = some (am_na a - 1) := m8
    have m5 : (decide ((am_yy a).cls = am_R (am_ci a)) && Nat.blt (am_ci a) 8) = true := m5
    rw [Nat.blt_eq] at m9
    simp only [Bool.or_eq_true] at k7
    have k7 : am_rcv a L ((st.take (am_na a)).getLast?) = true := by
      rcases k7 with k7 | k7
      · rw [hkd] at k7; exact absurd (Nat.eq_of_beq_eq_true k7) (by omega)
      · exact k7
    -- the receiver
    have hne : (st.take (am_na a)).reverse ≠ [] := fun q => by rw [q] at hvl; simp at hvl; omega
    obtain ⟨v0, vr, hv0⟩ := List.exists_cons_of_ne_nil hne
    have hlast : (st.take (am_na a)).getLast? = some v0 := by rw [← List.head?_reverse, hv0]; rfl
    rw [hlast] at k7
    unfold am_rcv at k7
    split at k7
    · rename_i k0 hq0
      have hq0 := Option.some.inj hq0
      subst hq0
      split at k7
      · rename_i d1 hd1
        have ht := Nat.eq_of_beq_eq_true k7
        obtain ⟨t1, n1, rf1⟩ := d1
        dsimp only at ht
        subst ht
        simp only [Bool.and_eq_true, Nat.blt_eq] at m5
        obtain ⟨m5, m5'⟩ := m5
        have m5 := of_decide_eq_true m5
        have he := am_wd_get (ad := ad) (cI := cI) (cR := cR) (g := g) L 0 k0 hd1
        rw [Nat.zero_add] at he
        have hrecv := va_recv hW.1 hW.2.1 (am_clsAt _ m5') he
        have hrecv' : ∃ cell : Cell, H[ad k0]? = some cell ∧ cell.vm.isStatics = false ∧ s.vm.findClass (am_yy a).cls = some cell.cls := by rw [m5]; exact hrecv
        have hvs : ((st.take (am_na a)).reverse).map (am_tr ad) = .ref (ad k0) :: vr.map (am_tr ad) := by rw [hv0]; rfl
        have hvrl : (vr.map (am_tr ad)).length = am_na a - 1 := by
          rw [List.length_map]
          have := hvl
          rw [hv0, List.length_cons] at this
          omega
        have hn : ∀ sig, parseMethodDescriptor (am_yy a).desc = some sig → am_na a - 1 = sig.parameters.length := fun sig hs => by
          rw [hs, Option.map_some] at m8
          exact (Option.some.inj m8).symm
        rw [hvs] at hpre hMet hmapst
        have hst : st.map (am_tr ad) = (vr.map (am_tr ad)).reverse ++ .ref (ad k0) :: (st.drop (am_na a)).map (am_tr ad) := by
          rw [hmapst, List.reverse_cons, List.append_assoc]; rfl
        refine ⟨(Value.ref (ad k0) :: vr.map (am_tr ad)).toArray, ?_⟩
        cases kd with
        | zero =>
          rw [hkd] at hdg m2
          split at hw
          · exact va_runV (C := (am_yy a).cls) ⟨hx, hb, hml, hown, hts⟩ hMet ⟨hB (hts _ (am_good_of hw)) (am_na a - 1) hn, hts _ (am_good_of m1), hts _ (am_good_of m2)⟩ ⟨am_Pre_blind, hrecv', hpre⟩ rfl hvrl hsz hst (lv_room hroom) hdg hf
          · exact va_runVN (C := (am_yy a).cls) ⟨hx, hb, hml, hown, hts⟩ hMet ⟨hNB (va_Nw.use rfl (hN _ (am_has_of hw) rfl)) (am_na a - 1) hn, hts _ (am_good_of m1), hts _ (am_good_of m2)⟩ ⟨am_Pre_blind, hrecv', hpre⟩ rfl hvrl hsz hst (lv_room hroom) hdg hf
        | succ kd =>
          rw [hkd] at hdg m15
          have hk2 : kd = 0 := by rw [Nat.blt_eq] at m15; omega
          subst hk2
          rw [hkd] at m10
          have m10 : (decide ((am_yy a).name = "<init>") && Nat.beq (am_rk a) 0) = true := m10
          simp only [Bool.and_eq_true] at m10
          obtain ⟨m10, m10'⟩ := m10
          have m10 := of_decide_eq_true m10
          rw [Nat.eq_of_beq_eq_true m10'] at m11
          have m11 := of_decide_eq_true m11
          split at hw
          · have hB1 := hB (hts _ (am_good_of hw)) (am_na a - 1) hn
            rw [m11] at hB1
            exact va_runI ⟨hx, hb, hml, hown, hts⟩ hMet ⟨hB1, m10, hts _ (am_good_of m1)⟩ ⟨am_Pre_blind, hpre⟩ rfl hvrl hsz hst (lv_room hroom) hdg hf
          · have hB1 := hNB (va_Nw.use rfl (hN _ (am_has_of hw) rfl)) (am_na a - 1) hn
            rw [m11] at hB1
            exact va_runIN ⟨hx, hb, hml, hown, hts⟩ hMet ⟨hB1, m10, hts _ (am_good_of m1)⟩ ⟨am_Pre_blind, hpre⟩ rfl hvrl hsz hst (lv_room hroom) hdg hf
      · cases k7
    · cases k7
end AMU
