/-! The machine's runs are the kit's runs. -/
def am_TG : List Cond := lw_tbl.filter goodWord
theorem am_has_of {q : Nat} {w : Cond} (h : am_has q w = true) : w ∈ lw_tbl := by
  unfold am_has at h
  cases e : lw_tbl[q]? with
  | none => rw [e] at h; cases h
  | some v =>
    rw [e] at h
    have h1 : v = w := of_decide_eq_true h
    subst h1
    exact List.mem_of_getElem? e
theorem am_good_of {q : Nat} {w : Cond} (h : am_good q w = true) : w ∈ am_TG := by
  simp only [am_good, Bool.and_eq_true] at h
  exact List.mem_filter.mpr ⟨am_has_of h.1, h.2⟩
theorem am_okP_at {mi : Nat} : ∀ (n : Nat), am_okP mi n = true → ∀ j, j < n → am_okE mi j (am_tr0 mi j) = true
  | 0, _, j, hj => absurd hj (Nat.not_lt_zero j)
  | n + 1, h, j, hj => by
    simp only [am_okP, Bool.and_eq_true] at h
    rcases Nat.lt_succ_iff_lt_or_eq.mp hj with q | q
    · exact am_okP_at n h.2 j q
    · subst q; exact h.1
theorem am_rng {f : Nat → Bool} {a n i : Nat} (h : (List.range' a n).all f = true) (h1 : a ≤ i) (h2 : i < a + n) : f i = true := by
  have := List.all_eq_true.mp h i (List.mem_range'_1.mpr ⟨h1, h2⟩)
  exact this
theorem am_ckQ : ∀ k, k < 28 → am_okQ (30 * k) 30 = true
  | 0, _ => am_ckQ0
  | 1, _ => am_ckQ1
  | 2, _ => am_ckQ2
  | 3, _ => am_ckQ3
  | 4, _ => am_ckQ4
  | 5, _ => am_ckQ5
  | 6, _ => am_ckQ6
  | 7, _ => am_ckQ7
  | 8, _ => am_ckQ8
  | 9, _ => am_ckQ9
  | 10, _ => am_ckQ10
  | 11, _ => am_ckQ11
  | 12, _ => am_ckQ12
  | 13, _ => am_ckQ13
  | 14, _ => am_ckQ14
  | 15, _ => am_ckQ15
  | 16, _ => am_ckQ16
  | 17, _ => am_ckQ17
  | 18, _ => am_ckQ18
  | 19, _ => am_ckQ19
  | 20, _ => am_ckQ20
  | 21, _ => am_ckQ21
  | 22, _ => am_ckQ22
  | 23, _ => am_ckQ23
  | 24, _ => am_ckQ24
  | 25, _ => am_ckQ25
  | 26, _ => am_ckQ26
  | 27, _ => am_ckQ27
  | k + 28, h => absurd h (by omega)
theorem am_ckP : ∀ mi, mi < 137 → am_okP mi (am_sz mi) = true := by
  intro mi h
  rcases Nat.lt_or_ge mi 20 with q | q
  · exact am_rng (f := fun i => am_okP i (am_sz i)) am_ckP0 (by omega) (by omega)
  rcases Nat.lt_or_ge mi 40 with q | q
  · exact am_rng (f := fun i => am_okP i (am_sz i)) am_ckP1 (by omega) (by omega)
  rcases Nat.lt_or_ge mi 60 with q | q
  · exact am_rng (f := fun i => am_okP i (am_sz i)) am_ckP2 (by omega) (by omega)
  rcases Nat.lt_or_ge mi 83 with q | q
  · exact am_rng (f := fun i => am_okP i (am_sz i)) am_ckP3 (by omega) (by omega)
  rcases Nat.lt_or_ge mi 100 with q | q
  · exact am_rng (f := fun i => am_okP i (am_sz i)) am_ckP4 (by omega) (by omega)
  rcases Nat.lt_or_ge mi 115 with q | q
  · exact am_rng (f := fun i => am_okP i (am_sz i)) am_ckP5 (by omega) (by omega)
  exact am_rng (f := fun i => am_okP i (am_sz i)) am_ckP6 (by omega) (by omega)
theorem am_sz_law : am_sz 137 ≤ 840 := by decide +kernel
theorem am_okAt (mi pc : Nat) : am_okE mi pc (am_cd mi pc) = true := by
  unfold am_cd
  cases hc : (Nat.blt mi 138 && Nat.blt pc (am_sz mi)) with
  | false => rfl
  | true =>
    simp only [Bool.and_eq_true, Nat.blt_eq] at hc
    obtain ⟨h1, h2⟩ := hc
    show am_okE mi pc (am_tr0 mi pc) = true
    rcases Nat.lt_or_ge mi 137 with q | q
    · exact am_okP_at _ (am_ckP mi q) pc h2
    · have e : mi = 137 := by omega
      subst e
      have h2 := Nat.lt_of_lt_of_le h2 am_sz_law
      exact am_rng (f := fun pc => am_okE 137 pc (am_tr0 137 pc)) (am_ckQ (pc / 30) (by omega)) (by omega) (by omega)
theorem am_dec_of {mi pc nx a b : Nat} {ins : Instr} {sw : List (Int32 × Nat)} (h : am_okE mi pc (ins, nx, a, b, sw) = true) (hn : ins ≠ .nop) : decode (am_by mi) pc = .ok (ins, nx - pc) ∧ am_okI mi pc (ins, nx, a, b, sw) = true := by
  unfold am_okE at h
  dsimp only at h
  split at h
  · exact absurd rfl hn
  · simp only [Bool.and_eq_true] at h
    exact ⟨of_decide_eq_true h.1, h.2⟩
def am_Cx (p : Program) (R : Room) (s : State) (m : MethodId) (args : Array Value) (meth : Method) (c : Code) (mi d bc bs cells slots : Nat) : Prop :=
  p.tables.exec = Jvm.exec ∧ c.code = am_by mi ∧ c.maxLocals = am_nl mi ∧ s.vm.findClass (am_own mi) = some m.cls ∧ (∀ w ∈ am_TG, w.before args s = true) ∧ (∀ w ∈ lw_tbl, am_isN w = true → va_Nw w s) ∧ va_AO (am_R am_shc) s ∧
    (am_kd mi = 2 → meth.name = "<init>") ∧ d ≤ R.frames ∧ 40 * d ≤ R.locals ∧ cells + bc ≤ R.cells ∧ slots + bs ≤ R.slots
def am_tys (cI cR : ClassId) : List (ClassId × FieldType) := [(cI, .int), (cR, .object (am_R am_shc))]
def am_Wo (D : va_G) (A : Nat → Prop) (cI cR : ClassId) (ad : Nat → Nat) (L : am_L) (g : am_G) (s : State) (H : Heap) (locs : List Loc) : Prop :=
  va_K D am_cls (am_tys cI cR) s ∧ va_P D am_cls (am_wd ad cI cR g 0 L) H ∧ va_D A (am_wd ad cI cR g 0 L) ∧ va_S A s.heap H locs ∧ (∀ q, s.heap.size ≤ q → A q)
def am_Sx (sx : am_S) (ad : Nat → Nat) (A : Nat → Prop) (s : State) : Prop := match sx with
  | none => True
  | some (n, xs) => va_X (ad am_scr) n xs s s.heap ∧ ad am_scr < s.heap.size ∧ ¬ A (ad am_scr)
def am_End (mi pc : Nat) : Option Value → Prop
  | none => am_rk mi = 0 ∧ decode (am_by mi) pc = .ok (.return_, 1)
  | some v => ∃ x : Int32, v = .int x ∧ am_rk mi ≠ 0 ∧ (am_rk mi = 2 → x = 0 ∨ x = 1) ∧ decode (am_by mi) pc = .ok (.ireturn, 1)
def am_Rt (p : Program) (l : Launch) (e : Env) (R : Room) (s : State) (m : MethodId) (args : Array Value) (below : List Frame) (meth : Method) (c : Code) (mi : Nat) (D : va_G) (A : Nat → Prop) (cI cR : ClassId) (ad : Nat → Nat) (n0 bc bs cells slots : Nat) (Q : am_Q) (Z : State → Prop) : Prop :=
  ∀ (r : Option Value) (L' : am_L) (g' : am_G) (ad' : Nat → Nat) (H' : Heap) (locs' : List Loc) (c' s' pc' : Nat) (ls' : Array Slot), Q r L' g' → am_Wo D A cI cR ad' L' g' s H' locs' → n0 ≤ L'.length → (∀ k, k < n0 ∨ k = am_scr → ad' k = ad k) → (bc = 0 → ad' = ad) → c' ≤ cells + bc → s' ≤ slots + bs → am_End mi pc' r →
    W p l e R s m args below meth c H' locs' c' s' Z (F0 m pc' ls' (r.map (am_tr ad')).toList)
def am_Sd : am_X := fun d mi pc lv st L g bc bs sx Q =>
  ∀ (p : Program) (l : Launch) (e : Env) (R : Room) (s : State) (m : MethodId) (args : Array Value) (below : List Frame) (meth : Method) (c : Code) (H : Heap) (locs : List Loc) (cells slots : Nat) (D : va_G) (A : Nat → Prop) (cI cR : ClassId) (ad : Nat → Nat) (Z : State → Prop) (ls : Array Slot),
    am_Cx p R s m args meth c mi d bc bs cells slots → am_Wo D A cI cR ad L g s H locs → am_Lo ad ls (am_nl mi) lv → am_Sx sx ad A s →
    am_Rt p l e R s m args below meth c mi D A cI cR ad L.length bc bs cells slots Q Z → W p l e R s m args below meth c H locs cells slots Z (F0 m pc ls (st.map (am_tr ad)))
theorem am_i1_of {st : List Value} {f : Int32 → List Value → Prop} (h : am_i1 st f) : ∃ x r, st = .int x :: r ∧ f x r := by
  unfold am_i1 at h; split at h
  · exact ⟨_, _, rfl, h⟩
  · exact h.elim
theorem am_i2_of {st : List Value} {f : Int32 → Int32 → List Value → Prop} (h : am_i2 st f) : ∃ x y r, st = .int y :: .int x :: r ∧ f x y r := by
  unfold am_i2 at h; split at h
  · exact ⟨_, _, _, rfl, h⟩
  · exact h.elim
theorem am_l2_of {st : List Value} {f : Int64 → Int64 → List Value → Prop} (h : am_l2 st f) : ∃ x y r, st = .long y :: .long x :: r ∧ f x y r := by
  unfold am_l2 at h; split at h
  · exact ⟨_, _, _, rfl, h⟩
  · exact h.elim
theorem am_r1_of {st : List Value} {f : Nat → List Value → Prop} (h : am_r1 st f) : ∃ x r, st = .ref x :: r ∧ f x r := by
  unfold am_r1 at h; split at h
  · exact ⟨_, _, rfl, h⟩
  · exact h.elim
theorem am_ia_of {st : List Value} {f : Nat → Int32 → List Value → Prop} (h : am_ia st f) : ∃ k i r, st = .int i :: .ref k :: r ∧ f k i r := by
  unfold am_ia at h; split at h
  · exact ⟨_, _, _, rfl, h⟩
  · exact h.elim
theorem am_iai_of {st : List Value} {f : Nat → Int32 → Int32 → List Value → Prop} (h : am_iai st f) : ∃ k i x r, st = .int x :: .int i :: .ref k :: r ∧ f k i x r := by
  unfold am_iai at h; split at h
  · exact ⟨_, _, _, _, rfl, h⟩
  · exact h.elim
theorem am_kv_of {sw : List (Int32 × Nat)} {f : Int32 → Prop} (h : am_kv sw f) : ∃ v q l, sw = (v, q) :: l ∧ f v := by
  unfold am_kv at h; split at h
  · exact ⟨_, _, _, rfl, h⟩
  · exact h.elim
theorem am_ld_of {lv : am_V} {i : Nat} {f : Value → Prop} (h : am_ld lv i f) : ∃ v, am_vat lv i = some v ∧ f v := by
  unfold am_ld at h; split at h
  · rename_i v e; exact ⟨v, e, h⟩
  · exact h.elim
theorem am_b_of {c : Bool} {P : Prop} (h : am_b c P) : c = true ∧ P := by
  cases c
  · exact h.elim
  · exact ⟨rfl, h⟩
theorem am_v1_of {sw : List (Int32 × Nat)} {f : Int32 → Nat → Bool} (h : am_v1 sw f = true) : ∃ v q, sw = [(v, q)] ∧ f v q = true := by
  unfold am_v1 at h; split at h
  · exact ⟨_, _, rfl, h⟩
  · cases h
section AMS
variable {d mi pc nx a b : Nat} {sw : List (Int32 × Nat)} {lv : am_V} {st : List Value} {L : am_L} {g : am_G} {bc bs : Nat} {sx : am_S} {Q : am_Q}
theorem am_go {st st' : List Value} (hstep : ∀ {p : Program} {l : Launch} {e : Env} {R : Room} {s : State} {m : MethodId} {args : Array Value} {below : List Frame} {meth : Method} {c : Code} {H : Heap} {locs : List Loc} {cells slots : Nat} {Z : State → Prop} {ls : Array Slot} {ad : Nat → Nat}, p.tables.exec = Jvm.exec → c.code = am_by mi → W p l e R s m args below meth c H locs cells slots Z (F0 m nx ls (st'.map (am_tr ad))) → W p l e R s m args below meth c H locs cells slots Z (F0 m pc ls (st.map (am_tr ad)))) (h : am_Sd d mi nx lv st' L g bc bs sx Q) : am_Sd d mi pc lv st L g bc bs sx Q := by
  intro p l e R s m args below meth c H locs cells slots D A cI cR ad Z ls hC hW hL hS hR
  exact hstep hC.1 hC.2.1 (h p l e R s m args below meth c H locs cells slots D A cI cR ad Z ls hC hW hL hS hR)
theorem am_s_iconst {i : Int} (ok : am_okE mi pc (.iconst i, nx, a, b, sw) = true) (h : am_kv sw (fun v => am_Sd d mi nx lv (.int v :: st) L g bc bs sx Q)) : am_Sd d mi pc lv st L g bc bs sx Q := by
  obtain ⟨hd, hI⟩ := am_dec_of ok (by intro q; cases q)
  simp only [am_okI, Bool.and_eq_true] at hI
  have hn := Nat.eq_of_beq_eq_true hI.1
  subst hn
  obtain ⟨v, q, rfl, hv⟩ := am_v1_of hI.2
  rw [Nat.add_sub_cancel_left] at hd
  exact am_go (fun hx hb k => lv_iconst hx hb hd (of_decide_eq_true hv) k) h
theorem am_s_bipush {i : Int} (ok : am_okE mi pc (.bipush i, nx, a, b, sw) = true) (h : am_kv sw (fun v => am_Sd d mi nx lv (.int v :: st) L g bc bs sx Q)) : am_Sd d mi pc lv st L g bc bs sx Q := by
  obtain ⟨hd, hI⟩ := am_dec_of ok (by intro q; cases q)
  simp only [am_okI, Bool.and_eq_true] at hI
  have hn := Nat.eq_of_beq_eq_true hI.1
  subst hn
  obtain ⟨v, q, rfl, hv⟩ := am_v1_of hI.2
  rw [Nat.add_sub_cancel_left] at hd
  exact am_go (fun hx hb k => lv_bipush hx hb hd (of_decide_eq_true hv) k) h
theorem am_s_sipush {i : Int} (ok : am_okE mi pc (.sipush i, nx, a, b, sw) = true) (h : am_kv sw (fun v => am_Sd d mi nx lv (.int v :: st) L g bc bs sx Q)) : am_Sd d mi pc lv st L g bc bs sx Q := by
  obtain ⟨hd, hI⟩ := am_dec_of ok (by intro q; cases q)
  simp only [am_okI, Bool.and_eq_true] at hI
  have hn := Nat.eq_of_beq_eq_true hI.1
  subst hn
  obtain ⟨v, q, rfl, hv⟩ := am_v1_of hI.2
  rw [Nat.add_sub_cancel_left] at hd
  exact am_go (fun hx hb k => lv_sipush hx hb hd (of_decide_eq_true hv) k) h
theorem am_s_ldc {i : Nat} (ok : am_okE mi pc (.ldc i, nx, a, b, sw) = true) (h : am_kv sw (fun v => am_Sd d mi nx lv (.int v :: st) L g bc bs sx Q)) : am_Sd d mi pc lv st L g bc bs sx Q := by
  obtain ⟨hd, hI⟩ := am_dec_of ok (by intro q; cases q)
  simp only [am_okI, Bool.and_eq_true] at hI
  have hn := Nat.eq_of_beq_eq_true hI.1
  subst hn
  obtain ⟨v, q, rfl, hv⟩ := am_v1_of hI.2
  rw [Nat.add_sub_cancel_left] at hd
  intro p l e R s m args below meth c H locs cells slots D A cI cR ad Z ls hC hW hL hS hR
  obtain ⟨hx, hb, hml, hown, hts, hC'⟩ := id hC
  exact lv_ldc hx hb hown (hts _ (am_good_of hv)) hd (h p l e R s m args below meth c H locs cells slots D A cI cR ad Z ls hC hW hL hS hR)
theorem am_s_ldc_w {i : Nat} (ok : am_okE mi pc (.ldc_w i, nx, a, b, sw) = true) (h : am_kv sw (fun v => am_Sd d mi nx lv (.int v :: st) L g bc bs sx Q)) : am_Sd d mi pc lv st L g bc bs sx Q := by
  obtain ⟨hd, hI⟩ := am_dec_of ok (by intro q; cases q)
  simp only [am_okI, Bool.and_eq_true] at hI
  have hn := Nat.eq_of_beq_eq_true hI.1
  subst hn
  obtain ⟨v, q, rfl, hv⟩ := am_v1_of hI.2
  rw [Nat.add_sub_cancel_left] at hd
  intro p l e R s m args below meth c H locs cells slots D A cI cR ad Z ls hC hW hL hS hR
  obtain ⟨hx, hb, hml, hown, hts, hC'⟩ := id hC
  exact lv_ldcw hx hb hown (hts _ (am_good_of hv)) hd (h p l e R s m args below meth c H locs cells slots D A cI cR ad Z ls hC hW hL hS hR)
theorem am_s_iload {i : Nat} (ok : am_okE mi pc (.iload i, nx, a, b, sw) = true) (h : am_ld lv a (fun v => am_b (am_isi v) (am_Sd d mi nx lv (v :: st) L g bc bs sx Q))) : am_Sd d mi pc lv st L g bc bs sx Q := by
  obtain ⟨hd, hI⟩ := am_dec_of ok (by intro q; cases q)
  simp only [am_okI, Bool.and_eq_true] at hI
  have hn := Nat.eq_of_beq_eq_true hI.1
  have ha := Nat.eq_of_beq_eq_true hI.2
  subst hn; subst ha
  rw [Nat.add_sub_cancel_left] at hd
  obtain ⟨v, hv, h⟩ := am_ld_of h
  obtain ⟨hi, h⟩ := am_b_of h
  cases v <;> first | (simp [am_isi] at hi; done) | skip
  intro p l e R s m args below meth c H locs cells slots D A cI cR ad Z ls hC hW hL hS hR
  exact lv_iload hC.1 hC.2.1 hd (hL.get hv) (h p l e R s m args below meth c H locs cells slots D A cI cR ad Z ls hC hW hL hS hR)
theorem am_s_iload_n {i : Fin 4} (ok : am_okE mi pc (.iload_n i, nx, a, b, sw) = true) (h : am_ld lv a (fun v => am_b (am_isi v) (am_Sd d mi nx lv (v :: st) L g bc bs sx Q))) : am_Sd d mi pc lv st L g bc bs sx Q := by
  obtain ⟨hd, hI⟩ := am_dec_of ok (by intro q; cases q)
  simp only [am_okI, Bool.and_eq_true] at hI
  have hn := Nat.eq_of_beq_eq_true hI.1
  have ha := Nat.eq_of_beq_eq_true hI.2
  subst hn; subst ha
  rw [Nat.add_sub_cancel_left] at hd
  obtain ⟨v, hv, h⟩ := am_ld_of h
  obtain ⟨hi, h⟩ := am_b_of h
  cases v <;> first | (simp [am_isi] at hi; done) | skip
  intro p l e R s m args below meth c H locs cells slots D A cI cR ad Z ls hC hW hL hS hR
  exact lv_iload_n hC.1 hC.2.1 hd rfl (hL.get hv) (h p l e R s m args below meth c H locs cells slots D A cI cR ad Z ls hC hW hL hS hR)
theorem am_s_aload {i : Nat} (ok : am_okE mi pc (.aload i, nx, a, b, sw) = true) (h : am_ld lv a (fun v => am_b (am_isr v) (am_Sd d mi nx lv (v :: st) L g bc bs sx Q))) : am_Sd d mi pc lv st L g bc bs sx Q := by
  obtain ⟨hd, hI⟩ := am_dec_of ok (by intro q; cases q)
  simp only [am_okI, Bool.and_eq_true] at hI
  have hn := Nat.eq_of_beq_eq_true hI.1
  have ha := Nat.eq_of_beq_eq_true hI.2
  subst hn; subst ha
  rw [Nat.add_sub_cancel_left] at hd
  obtain ⟨v, hv, h⟩ := am_ld_of h
  obtain ⟨hi, h⟩ := am_b_of h
  cases v <;> first | (simp [am_isr] at hi; done) | skip
  intro p l e R s m args below meth c H locs cells slots D A cI cR ad Z ls hC hW hL hS hR
  exact lv_aload hC.1 hC.2.1 hd (hL.get hv) (h p l e R s m args below meth c H locs cells slots D A cI cR ad Z ls hC hW hL hS hR)
theorem am_s_aload_n {i : Fin 4} (ok : am_okE mi pc (.aload_n i, nx, a, b, sw) = true) (h : am_ld lv a (fun v => am_b (am_isr v) (am_Sd d mi nx lv (v :: st) L g bc bs sx Q))) : am_Sd d mi pc lv st L g bc bs sx Q := by
  obtain ⟨hd, hI⟩ := am_dec_of ok (by intro q; cases q)
  simp only [am_okI, Bool.and_eq_true] at hI
  have hn := Nat.eq_of_beq_eq_true hI.1
  have ha := Nat.eq_of_beq_eq_true hI.2
  subst hn; subst ha
  rw [Nat.add_sub_cancel_left] at hd
  obtain ⟨v, hv, h⟩ := am_ld_of h
  obtain ⟨hi, h⟩ := am_b_of h
  cases v <;> first | (simp [am_isr] at hi; done) | skip
  intro p l e R s m args below meth c H locs cells slots D A cI cR ad Z ls hC hW hL hS hR
  exact lv_aload_n hC.1 hC.2.1 hd rfl (hL.get hv) (h p l e R s m args below meth c H locs cells slots D A cI cR ad Z ls hC hW hL hS hR)
theorem am_s_istore {i : Nat} (ok : am_okE mi pc (.istore i, nx, a, b, sw) = true) (h : am_i1 st (fun x r => am_b (Nat.blt a lv.length) (am_Sd d mi nx (am_vset lv a (.int x)) r L g bc bs sx Q))) : am_Sd d mi pc lv st L g bc bs sx Q := by
  obtain ⟨hd, hI⟩ := am_dec_of ok (by intro q; cases q)
  simp only [am_okI, Bool.and_eq_true] at hI
  have hn := Nat.eq_of_beq_eq_true hI.1
  have ha := Nat.eq_of_beq_eq_true hI.2
  subst hn; subst ha
  rw [Nat.add_sub_cancel_left] at hd
  obtain ⟨x, r, rfl, h⟩ := am_i1_of h
  obtain ⟨hlt, h⟩ := am_b_of h
  rw [Nat.blt_eq] at hlt
  intro p l e R s m args below meth c H locs cells slots D A cI cR ad Z ls hC hW hL hS hR
  exact lv_istore hC.1 hC.2.1 hd hL.1 (by rw [← hL.2.1]; exact hlt) rfl (fun ls' hl' => h p l e R s m args below meth c H locs cells slots D A cI cR ad Z ls' hC hW (hL.set (v := .int x) rfl hl') hS hR)
theorem am_s_istore_n {i : Fin 4} (ok : am_okE mi pc (.istore_n i, nx, a, b, sw) = true) (h : am_i1 st (fun x r => am_b (Nat.blt a lv.length) (am_Sd d mi nx (am_vset lv a (.int x)) r L g bc bs sx Q))) : am_Sd d mi pc lv st L g bc bs sx Q := by
  obtain ⟨hd, hI⟩ := am_dec_of ok (by intro q; cases q)
  simp only [am_okI, Bool.and_eq_true] at hI
  have hn := Nat.eq_of_beq_eq_true hI.1
  have ha := Nat.eq_of_beq_eq_true hI.2
  subst hn; subst ha
  rw [Nat.add_sub_cancel_left] at hd
  obtain ⟨x, r, rfl, h⟩ := am_i1_of h
  obtain ⟨hlt, h⟩ := am_b_of h
  rw [Nat.blt_eq] at hlt
  intro p l e R s m args below meth c H locs cells slots D A cI cR ad Z ls hC hW hL hS hR
  exact lv_istore_n hC.1 hC.2.1 hd rfl hL.1 (by rw [← hL.2.1]; exact hlt) rfl (fun ls' hl' => h p l e R s m args below meth c H locs cells slots D A cI cR ad Z ls' hC hW (hL.set (v := .int x) rfl hl') hS hR)
theorem am_s_astore {i : Nat} (ok : am_okE mi pc (.astore i, nx, a, b, sw) = true) (h : am_r1 st (fun x r => am_b (Nat.blt a lv.length) (am_Sd d mi nx (am_vset lv a (.ref x)) r L g bc bs sx Q))) : am_Sd d mi pc lv st L g bc bs sx Q := by
  obtain ⟨hd, hI⟩ := am_dec_of ok (by intro q; cases q)
  simp only [am_okI, Bool.and_eq_true] at hI
  have hn := Nat.eq_of_beq_eq_true hI.1
  have ha := Nat.eq_of_beq_eq_true hI.2
  subst hn; subst ha
  rw [Nat.add_sub_cancel_left] at hd
  obtain ⟨x, r, rfl, h⟩ := am_r1_of h
  obtain ⟨hlt, h⟩ := am_b_of h
  rw [Nat.blt_eq] at hlt
  intro p l e R s m args below meth c H locs cells slots D A cI cR ad Z ls hC hW hL hS hR
  exact lv_astore hC.1 hC.2.1 hd hL.1 (by rw [← hL.2.1]; exact hlt) rfl (fun ls' hl' => h p l e R s m args below meth c H locs cells slots D A cI cR ad Z ls' hC hW (hL.set (v := .ref x) rfl hl') hS hR)
theorem am_s_astore_n {i : Fin 4} (ok : am_okE mi pc (.astore_n i, nx, a, b, sw) = true) (h : am_r1 st (fun x r => am_b (Nat.blt a lv.length) (am_Sd d mi nx (am_vset lv a (.ref x)) r L g bc bs sx Q))) : am_Sd d mi pc lv st L g bc bs sx Q := by
  obtain ⟨hd, hI⟩ := am_dec_of ok (by intro q; cases q)
  simp only [am_okI, Bool.and_eq_true] at hI
  have hn := Nat.eq_of_beq_eq_true hI.1
  have ha := Nat.eq_of_beq_eq_true hI.2
  subst hn; subst ha
  rw [Nat.add_sub_cancel_left] at hd
  obtain ⟨x, r, rfl, h⟩ := am_r1_of h
  obtain ⟨hlt, h⟩ := am_b_of h
  rw [Nat.blt_eq] at hlt
  intro p l e R s m args below meth c H locs cells slots D A cI cR ad Z ls hC hW hL hS hR
  exact lv_astore_n hC.1 hC.2.1 hd rfl hL.1 (by rw [← hL.2.1]; exact hlt) rfl (fun ls' hl' => h p l e R s m args below meth c H locs cells slots D A cI cR ad Z ls' hC hW (hL.set (v := .ref x) rfl hl') hS hR)
theorem am_vat_lt : ∀ (lv : am_V) (i : Nat) (v : Value), am_vat lv i = some v → i < lv.length
  | [], i, v, h => by simp [am_vat] at h
  | _ :: _, 0, _, _ => by simp
  | _ :: l, i + 1, v, h => by
    have := am_vat_lt l i v h
    simp only [List.length_cons]; omega
theorem am_s_iinc {i : Nat} {n : Int} (ok : am_okE mi pc (.iinc i n, nx, a, b, sw) = true) (h : am_kv sw (fun c => am_ld lv a (fun v => match v with | .int x => am_Sd d mi nx (am_vset lv a (.int (x + c))) st L g bc bs sx Q | _ => False))) : am_Sd d mi pc lv st L g bc bs sx Q := by
  obtain ⟨hd, hI⟩ := am_dec_of ok (by intro q; cases q)
  simp only [am_okI, Bool.and_eq_true] at hI
  have hn := Nat.eq_of_beq_eq_true hI.1.1
  have ha := Nat.eq_of_beq_eq_true hI.1.2
  subst hn; subst ha
  obtain ⟨v, q, rfl, hv⟩ := am_v1_of hI.2
  rw [Nat.add_sub_cancel_left] at hd
  have hv := of_decide_eq_true hv
  subst hv
  obtain ⟨w, hw, h⟩ := am_ld_of (show am_ld lv a _ from h)
  cases w <;> first | exact h.elim | skip
  rename_i x
  have hlt := am_vat_lt _ _ _ hw
  intro p l e R s m args below meth c H locs cells slots D A cI cR ad Z ls hC hW hL hS hR
  have hin : (a, Value.int x) ∈ am_ps ad 0 lv := by
    have := am_ps_in (ad := ad) lv 0 a hw
    rw [Nat.zero_add] at this
    exact this
  obtain ⟨k, hk⟩ := List.getElem?_of_mem hin
  exact lv_iinc hC.1 hC.2.1 hd hL.1 hk rfl (by rw [← hL.2.1]; exact hlt) rfl (fun ls' hl' => h p l e R s m args below meth c H locs cells slots D A cI cR ad Z ls' hC hW (hL.set (v := .int _) rfl hl') hS hR)
theorem am_s_iadd (ok : am_okE mi pc (.iadd, nx, a, b, sw) = true) (h : am_i2 st (fun x y r => am_Sd d mi nx lv (.int (x + y) :: r) L g bc bs sx Q)) : am_Sd d mi pc lv st L g bc bs sx Q := by
  obtain ⟨hd, hI⟩ := am_dec_of ok (by intro q; cases q)
  have hn := Nat.eq_of_beq_eq_true (show Nat.beq nx (pc + 1) = true from hI)
  subst hn
  rw [Nat.add_sub_cancel_left] at hd
  obtain ⟨x, y, r, rfl, h⟩ := am_i2_of h
  exact am_go (fun hx hb k => lv_iadd hx hb hd k) h
theorem am_s_isub (ok : am_okE mi pc (.isub, nx, a, b, sw) = true) (h : am_i2 st (fun x y r => am_Sd d mi nx lv (.int (x - y) :: r) L g bc bs sx Q)) : am_Sd d mi pc lv st L g bc bs sx Q := by
  obtain ⟨hd, hI⟩ := am_dec_of ok (by intro q; cases q)
  have hn := Nat.eq_of_beq_eq_true (show Nat.beq nx (pc + 1) = true from hI)
  subst hn
  rw [Nat.add_sub_cancel_left] at hd
  obtain ⟨x, y, r, rfl, h⟩ := am_i2_of h
  exact am_go (fun hx hb k => lv_isub hx hb hd k) h
theorem am_s_imul (ok : am_okE mi pc (.imul, nx, a, b, sw) = true) (h : am_i2 st (fun x y r => am_Sd d mi nx lv (.int (x * y) :: r) L g bc bs sx Q)) : am_Sd d mi pc lv st L g bc bs sx Q := by
  obtain ⟨hd, hI⟩ := am_dec_of ok (by intro q; cases q)
  have hn := Nat.eq_of_beq_eq_true (show Nat.beq nx (pc + 1) = true from hI)
  subst hn
  rw [Nat.add_sub_cancel_left] at hd
  obtain ⟨x, y, r, rfl, h⟩ := am_i2_of h
  exact am_go (fun hx hb k => lv_imul hx hb hd k) h
theorem am_s_iand (ok : am_okE mi pc (.iand, nx, a, b, sw) = true) (h : am_i2 st (fun x y r => am_Sd d mi nx lv (.int (x &&& y) :: r) L g bc bs sx Q)) : am_Sd d mi pc lv st L g bc bs sx Q := by
  obtain ⟨hd, hI⟩ := am_dec_of ok (by intro q; cases q)
  have hn := Nat.eq_of_beq_eq_true (show Nat.beq nx (pc + 1) = true from hI)
  subst hn
  rw [Nat.add_sub_cancel_left] at hd
  obtain ⟨x, y, r, rfl, h⟩ := am_i2_of h
  exact am_go (fun hx hb k => lv_iand hx hb hd k) h
theorem am_s_ior (ok : am_okE mi pc (.ior, nx, a, b, sw) = true) (h : am_i2 st (fun x y r => am_Sd d mi nx lv (.int (x ||| y) :: r) L g bc bs sx Q)) : am_Sd d mi pc lv st L g bc bs sx Q := by
  obtain ⟨hd, hI⟩ := am_dec_of ok (by intro q; cases q)
  have hn := Nat.eq_of_beq_eq_true (show Nat.beq nx (pc + 1) = true from hI)
  subst hn
  rw [Nat.add_sub_cancel_left] at hd
  obtain ⟨x, y, r, rfl, h⟩ := am_i2_of h
  exact am_go (fun hx hb k => lv_ior hx hb hd k) h
theorem am_s_ixor (ok : am_okE mi pc (.ixor, nx, a, b, sw) = true) (h : am_i2 st (fun x y r => am_Sd d mi nx lv (.int (x ^^^ y) :: r) L g bc bs sx Q)) : am_Sd d mi pc lv st L g bc bs sx Q := by
  obtain ⟨hd, hI⟩ := am_dec_of ok (by intro q; cases q)
  have hn := Nat.eq_of_beq_eq_true (show Nat.beq nx (pc + 1) = true from hI)
  subst hn
  rw [Nat.add_sub_cancel_left] at hd
  obtain ⟨x, y, r, rfl, h⟩ := am_i2_of h
  exact am_go (fun hx hb k => lv_ixor hx hb hd k) h
theorem am_s_ishl (ok : am_okE mi pc (.ishl, nx, a, b, sw) = true) (h : am_i2 st (fun x y r => am_Sd d mi nx lv (.int (x <<< (y &&& 31)) :: r) L g bc bs sx Q)) : am_Sd d mi pc lv st L g bc bs sx Q := by
  obtain ⟨hd, hI⟩ := am_dec_of ok (by intro q; cases q)
  have hn := Nat.eq_of_beq_eq_true (show Nat.beq nx (pc + 1) = true from hI)
  subst hn
  rw [Nat.add_sub_cancel_left] at hd
  obtain ⟨x, y, r, rfl, h⟩ := am_i2_of h
  exact am_go (fun hx hb k => lv_ishl hx hb hd k) h
theorem am_s_ishr (ok : am_okE mi pc (.ishr, nx, a, b, sw) = true) (h : am_i2 st (fun x y r => am_Sd d mi nx lv (.int (x >>> (y &&& 31)) :: r) L g bc bs sx Q)) : am_Sd d mi pc lv st L g bc bs sx Q := by
  obtain ⟨hd, hI⟩ := am_dec_of ok (by intro q; cases q)
  have hn := Nat.eq_of_beq_eq_true (show Nat.beq nx (pc + 1) = true from hI)
  subst hn
  rw [Nat.add_sub_cancel_left] at hd
  obtain ⟨x, y, r, rfl, h⟩ := am_i2_of h
  exact am_go (fun hx hb k => lv_ishr hx hb hd k) h
theorem am_s_iushr (ok : am_okE mi pc (.iushr, nx, a, b, sw) = true) (h : am_i2 st (fun x y r => am_Sd d mi nx lv (.int (x.toUInt32 >>> (y.toUInt32 &&& Int32.toUInt32 31)).toInt32 :: r) L g bc bs sx Q)) : am_Sd d mi pc lv st L g bc bs sx Q := by
  obtain ⟨hd, hI⟩ := am_dec_of ok (by intro q; cases q)
  have hn := Nat.eq_of_beq_eq_true (show Nat.beq nx (pc + 1) = true from hI)
  subst hn
  rw [Nat.add_sub_cancel_left] at hd
  obtain ⟨x, y, r, rfl, h⟩ := am_i2_of h
  exact am_go (fun hx hb k => lv_iushr hx hb hd rfl k) h
theorem am_s_irem (ok : am_okE mi pc (.irem, nx, a, b, sw) = true) (h : am_i2 st (fun x y r => (¬ y = 0) ∧ am_Sd d mi nx lv (.int (x - x / y * y) :: r) L g bc bs sx Q)) : am_Sd d mi pc lv st L g bc bs sx Q := by
  obtain ⟨hd, hI⟩ := am_dec_of ok (by intro q; cases q)
  have hn := Nat.eq_of_beq_eq_true (show Nat.beq nx (pc + 1) = true from hI)
  subst hn
  rw [Nat.add_sub_cancel_left] at hd
  obtain ⟨x, y, r, rfl, h0, h⟩ := am_i2_of h
  exact am_go (fun hx hb k => lv_irem hx hb hd h0 k) h
theorem am_s_ineg (ok : am_okE mi pc (.ineg, nx, a, b, sw) = true) (h : am_i1 st (fun x r => am_Sd d mi nx lv (.int (-x) :: r) L g bc bs sx Q)) : am_Sd d mi pc lv st L g bc bs sx Q := by
  obtain ⟨hd, hI⟩ := am_dec_of ok (by intro q; cases q)
  have hn := Nat.eq_of_beq_eq_true (show Nat.beq nx (pc + 1) = true from hI)
  subst hn
  rw [Nat.add_sub_cancel_left] at hd
  obtain ⟨x, r, rfl, h⟩ := am_i1_of h
  exact am_go (fun hx hb k => lv_ineg hx hb hd k) h
theorem am_s_i2b (ok : am_okE mi pc (.i2b, nx, a, b, sw) = true) (h : am_i1 st (fun x r => am_Sd d mi nx lv (.int x.toInt8.toInt32 :: r) L g bc bs sx Q)) : am_Sd d mi pc lv st L g bc bs sx Q := by
  obtain ⟨hd, hI⟩ := am_dec_of ok (by intro q; cases q)
  have hn := Nat.eq_of_beq_eq_true (show Nat.beq nx (pc + 1) = true from hI)
  subst hn
  rw [Nat.add_sub_cancel_left] at hd
  obtain ⟨x, r, rfl, h⟩ := am_i1_of h
  exact am_go (fun hx hb k => lv_i2b hx hb hd rfl k) h
theorem am_s_i2l (ok : am_okE mi pc (.i2l, nx, a, b, sw) = true) (h : am_i1 st (fun x r => am_Sd d mi nx lv (.long x.toInt64 :: r) L g bc bs sx Q)) : am_Sd d mi pc lv st L g bc bs sx Q := by
  obtain ⟨hd, hI⟩ := am_dec_of ok (by intro q; cases q)
  have hn := Nat.eq_of_beq_eq_true (show Nat.beq nx (pc + 1) = true from hI)
  subst hn
  rw [Nat.add_sub_cancel_left] at hd
  obtain ⟨x, r, rfl, h⟩ := am_i1_of h
  exact am_go (fun hx hb k => lv_i2l hx hb hd rfl k) h
theorem am_s_ladd (ok : am_okE mi pc (.ladd, nx, a, b, sw) = true) (h : am_l2 st (fun x y r => am_Sd d mi nx lv (.long (x + y) :: r) L g bc bs sx Q)) : am_Sd d mi pc lv st L g bc bs sx Q := by
  obtain ⟨hd, hI⟩ := am_dec_of ok (by intro q; cases q)
  have hn := Nat.eq_of_beq_eq_true (show Nat.beq nx (pc + 1) = true from hI)
  subst hn
  rw [Nat.add_sub_cancel_left] at hd
  obtain ⟨x, y, r, rfl, h⟩ := am_l2_of h
  exact am_go (fun hx hb k => lv_ladd hx hb hd k) h
theorem am_s_lcmp (ok : am_okE mi pc (.lcmp, nx, a, b, sw) = true) (h : am_l2 st (fun x y r => am_Sd d mi nx lv (.int (lg_cmp x y) :: r) L g bc bs sx Q)) : am_Sd d mi pc lv st L g bc bs sx Q := by
  obtain ⟨hd, hI⟩ := am_dec_of ok (by intro q; cases q)
  have hn := Nat.eq_of_beq_eq_true (show Nat.beq nx (pc + 1) = true from hI)
  subst hn
  rw [Nat.add_sub_cancel_left] at hd
  obtain ⟨x, y, r, rfl, h⟩ := am_l2_of h
  exact am_go (fun hx hb k => W.lcmp hx hb hd k) h
theorem am_s_dup (ok : am_okE mi pc (.dup, nx, a, b, sw) = true) (h : match st with | v :: r => am_b (am_cat1 v) (am_Sd d mi nx lv (v :: v :: r) L g bc bs sx Q) | _ => False) : am_Sd d mi pc lv st L g bc bs sx Q := by
  obtain ⟨hd, hI⟩ := am_dec_of ok (by intro q; cases q)
  have hn := Nat.eq_of_beq_eq_true (show Nat.beq nx (pc + 1) = true from hI)
  subst hn
  rw [Nat.add_sub_cancel_left] at hd
  split at h
  · obtain ⟨h1, h⟩ := am_b_of h
    exact am_go (fun hx hb k => lv_dup hx hb hd (am_cat1_tr h1) k) h
  · exact h.elim
theorem am_s_pop (ok : am_okE mi pc (.pop, nx, a, b, sw) = true) (h : match st with | v :: r => am_b (am_cat1 v) (am_Sd d mi nx lv r L g bc bs sx Q) | _ => False) : am_Sd d mi pc lv st L g bc bs sx Q := by
  obtain ⟨hd, hI⟩ := am_dec_of ok (by intro q; cases q)
  have hn := Nat.eq_of_beq_eq_true (show Nat.beq nx (pc + 1) = true from hI)
  subst hn
  rw [Nat.add_sub_cancel_left] at hd
  split at h
  · obtain ⟨h1, h⟩ := am_b_of h
    exact am_go (fun hx hb k => lv_pop hx hb hd (am_cat1_tr h1) k) h
  · exact h.elim
theorem am_s_dup2 (ok : am_okE mi pc (.dup2, nx, a, b, sw) = true) (h : match st with | v :: w :: r => am_b (am_cat1 v && am_cat1 w) (am_Sd d mi nx lv (v :: w :: v :: w :: r) L g bc bs sx Q) | _ => False) : am_Sd d mi pc lv st L g bc bs sx Q := by
  obtain ⟨hd, hI⟩ := am_dec_of ok (by intro q; cases q)
  have hn := Nat.eq_of_beq_eq_true (show Nat.beq nx (pc + 1) = true from hI)
  subst hn
  rw [Nat.add_sub_cancel_left] at hd
  split at h
  · obtain ⟨h1, h⟩ := am_b_of h
    simp only [Bool.and_eq_true] at h1
    exact am_go (fun hx hb k => lv_dup2_11 hx hb hd (am_cat1_tr h1.1) (am_cat1_tr h1.2) k) h
  · exact h.elim
theorem am_s_dup_x1 (ok : am_okE mi pc (.dup_x1, nx, a, b, sw) = true) (h : match st with | v :: w :: r => am_b (am_cat1 v && am_cat1 w) (am_Sd d mi nx lv (v :: w :: v :: r) L g bc bs sx Q) | _ => False) : am_Sd d mi pc lv st L g bc bs sx Q := by
  obtain ⟨hd, hI⟩ := am_dec_of ok (by intro q; cases q)
  have hn := Nat.eq_of_beq_eq_true (show Nat.beq nx (pc + 1) = true from hI)
  subst hn
  rw [Nat.add_sub_cancel_left] at hd
  split at h
  · obtain ⟨h1, h⟩ := am_b_of h
    simp only [Bool.and_eq_true] at h1
    exact am_go (fun hx hb k => lv_dup_x1 hx hb hd (am_cat1_tr h1.1) (am_cat1_tr h1.2) k) h
  · exact h.elim
theorem am_s_dup_x2 (ok : am_okE mi pc (.dup_x2, nx, a, b, sw) = true) (h : match st with | v :: w :: u :: r => am_b (am_cat1 v && am_cat1 w && am_cat1 u) (am_Sd d mi nx lv (v :: w :: u :: v :: r) L g bc bs sx Q) | _ => False) : am_Sd d mi pc lv st L g bc bs sx Q := by
  obtain ⟨hd, hI⟩ := am_dec_of ok (by intro q; cases q)
  have hn := Nat.eq_of_beq_eq_true (show Nat.beq nx (pc + 1) = true from hI)
  subst hn
  rw [Nat.add_sub_cancel_left] at hd
  split at h
  · obtain ⟨h1, h⟩ := am_b_of h
    simp only [Bool.and_eq_true] at h1
    exact am_go (fun hx hb k => lv_dup_x2 hx hb hd (am_cat1_tr h1.1.1) (am_cat1_tr h1.1.2) (am_cat1_tr h1.2) k) h
  · exact h.elim
theorem am_tg_of {off : Int} (h : am_tg pc off a = true) : (pc : Int) + off = (a : Int) := of_decide_eq_true h
theorem am_s_goto {off : Int} (ok : am_okE mi pc (.goto off, nx, a, b, sw) = true) (h : am_Sd d mi a lv st L g bc bs sx Q) : am_Sd d mi pc lv st L g bc bs sx Q := by
  obtain ⟨hd, hI⟩ := am_dec_of ok (by intro q; cases q)
  simp only [am_okI, Bool.and_eq_true] at hI
  have hn := Nat.eq_of_beq_eq_true hI.1
  subst hn
  rw [Nat.add_sub_cancel_left] at hd
  exact am_go (fun hx hb k => lv_goto hx hb hd (am_tg_of hI.2) k) h
theorem am_s_ifCond {co : ClassFile.Cond} {off : Int} (ok : am_okE mi pc (.ifCond co off, nx, a, b, sw) = true) (h : am_i1 st (fun x r => am_if0 co x (am_Sd d mi a lv r L g bc bs sx Q) (am_Sd d mi nx lv r L g bc bs sx Q))) : am_Sd d mi pc lv st L g bc bs sx Q := by
  obtain ⟨hd, hI⟩ := am_dec_of ok (by intro q; cases q)
  simp only [am_okI, Bool.and_eq_true] at hI
  have hn := Nat.eq_of_beq_eq_true hI.1
  subst hn
  rw [Nat.add_sub_cancel_left] at hd
  obtain ⟨x, r, rfl, h⟩ := am_i1_of h
  intro p l e R s m args below meth c H locs cells slots D A cI cR ad Z ls hC hW hL hS hR
  cases co with
  | eq => exact lv_if_eq hC.1 hC.2.1 hd (am_tg_of hI.2) (fun q => h.1 q p l e R s m args below meth c H locs cells slots D A cI cR ad Z ls hC hW hL hS hR) (fun q => h.2 q p l e R s m args below meth c H locs cells slots D A cI cR ad Z ls hC hW hL hS hR)
  | ne => exact lv_if_ne hC.1 hC.2.1 hd (am_tg_of hI.2) (fun q => h.1 q p l e R s m args below meth c H locs cells slots D A cI cR ad Z ls hC hW hL hS hR) (fun q => h.2 q p l e R s m args below meth c H locs cells slots D A cI cR ad Z ls hC hW hL hS hR)
  | lt => exact lv_if_lt hC.1 hC.2.1 hd (am_tg_of hI.2) (fun q => h.1 q p l e R s m args below meth c H locs cells slots D A cI cR ad Z ls hC hW hL hS hR) (fun q => h.2 q p l e R s m args below meth c H locs cells slots D A cI cR ad Z ls hC hW hL hS hR)
  | ge => exact lv_if_ge hC.1 hC.2.1 hd (am_tg_of hI.2) (fun q => h.1 q p l e R s m args below meth c H locs cells slots D A cI cR ad Z ls hC hW hL hS hR) (fun q => h.2 q p l e R s m args below meth c H locs cells slots D A cI cR ad Z ls hC hW hL hS hR)
  | gt => exact lv_if_gt hC.1 hC.2.1 hd (am_tg_of hI.2) (fun q => h.1 q p l e R s m args below meth c H locs cells slots D A cI cR ad Z ls hC hW hL hS hR) (fun q => h.2 q p l e R s m args below meth c H locs cells slots D A cI cR ad Z ls hC hW hL hS hR)
  | le => exact lv_if_le hC.1 hC.2.1 hd (am_tg_of hI.2) (fun q => h.1 q p l e R s m args below meth c H locs cells slots D A cI cR ad Z ls hC hW hL hS hR) (fun q => h.2 q p l e R s m args below meth c H locs cells slots D A cI cR ad Z ls hC hW hL hS hR)
theorem am_s_if_icmp {co : ClassFile.Cond} {off : Int} (ok : am_okE mi pc (.if_icmp co off, nx, a, b, sw) = true) (h : am_i2 st (fun x y r => am_if2 co x y (am_Sd d mi a lv r L g bc bs sx Q) (am_Sd d mi nx lv r L g bc bs sx Q))) : am_Sd d mi pc lv st L g bc bs sx Q := by
  obtain ⟨hd, hI⟩ := am_dec_of ok (by intro q; cases q)
  simp only [am_okI, Bool.and_eq_true] at hI
  have hn := Nat.eq_of_beq_eq_true hI.1
  subst hn
  rw [Nat.add_sub_cancel_left] at hd
  obtain ⟨x, y, r, rfl, h⟩ := am_i2_of h
  intro p l e R s m args below meth c H locs cells slots D A cI cR ad Z ls hC hW hL hS hR
  cases co with
  | eq => exact lv_icmp_eq hC.1 hC.2.1 hd (am_tg_of hI.2) (fun q => h.1 q p l e R s m args below meth c H locs cells slots D A cI cR ad Z ls hC hW hL hS hR) (fun q => h.2 q p l e R s m args below meth c H locs cells slots D A cI cR ad Z ls hC hW hL hS hR)
  | ne => exact lv_icmp_ne hC.1 hC.2.1 hd (am_tg_of hI.2) (fun q => h.1 q p l e R s m args below meth c H locs cells slots D A cI cR ad Z ls hC hW hL hS hR) (fun q => h.2 q p l e R s m args below meth c H locs cells slots D A cI cR ad Z ls hC hW hL hS hR)
  | lt => exact lv_icmp_lt hC.1 hC.2.1 hd (am_tg_of hI.2) (fun q => h.1 q p l e R s m args below meth c H locs cells slots D A cI cR ad Z ls hC hW hL hS hR) (fun q => h.2 q p l e R s m args below meth c H locs cells slots D A cI cR ad Z ls hC hW hL hS hR)
  | ge => exact lv_icmp_ge hC.1 hC.2.1 hd (am_tg_of hI.2) (fun q => h.1 q p l e R s m args below meth c H locs cells slots D A cI cR ad Z ls hC hW hL hS hR) (fun q => h.2 q p l e R s m args below meth c H locs cells slots D A cI cR ad Z ls hC hW hL hS hR)
  | gt => exact lv_icmp_gt hC.1 hC.2.1 hd (am_tg_of hI.2) (fun q => h.1 q p l e R s m args below meth c H locs cells slots D A cI cR ad Z ls hC hW hL hS hR) (fun q => h.2 q p l e R s m args below meth c H locs cells slots D A cI cR ad Z ls hC hW hL hS hR)
  | le => exact lv_icmp_le hC.1 hC.2.1 hd (am_tg_of hI.2) (fun q => h.1 q p l e R s m args below meth c H locs cells slots D A cI cR ad Z ls hC hW hL hS hR) (fun q => h.2 q p l e R s m args below meth c H locs cells slots D A cI cR ad Z ls hC hW hL hS hR)
theorem am_s_tableswitch {df lo hi : Int} {offs : Array Int} (ok : am_okE mi pc (.tableswitch df lo hi offs, nx, a, b, sw) = true) (h : am_i1 st (fun x r => am_sw x (fun t => am_Sd d mi t lv r L g bc bs sx Q) a sw)) : am_Sd d mi pc lv st L g bc bs sx Q := by
  obtain ⟨hd, hI⟩ := am_dec_of ok (by intro q; cases q)
  simp only [am_okI, Bool.and_eq_true] at hI
  obtain ⟨⟨hI1, hI2⟩, hI3⟩ := hI
  have hI3 := of_decide_eq_true hI3
  obtain ⟨x, r, rfl, h⟩ := am_i1_of h
  intro p l e R s m args below meth c H locs cells slots D A cI cR ad Z ls hC hW hL hS hR
  have key : ∀ (l1 : List (Int32 × Nat)) (i : Nat), am_swT pc lo offs i l1 = true → am_sw x (fun t => am_Sd d mi t lv r L g bc bs sx Q) a l1 → (x.toInt < lo + (i : Int) → x.toInt < lo) → hi = lo + (i : Int) + (l1.length : Int) - 1 → W p l e R s m args below meth c H locs cells slots Z (F0 m pc ls (.int x :: r.map (am_tr ad))) := by
    intro l1
    induction l1 with
    | nil =>
      intro i _ h hlo hhi
      refine lv_tableOut hC.1 hC.2.1 hd ?_ (am_tg_of hI1) (h p l e R s m args below meth c H locs cells slots D A cI cR ad Z ls hC hW hL hS hR)
      simp only [List.length_nil] at hhi
      rcases Int.lt_or_le x.toInt (lo + (i : Int)) with q | q
      · exact Or.inl (hlo q)
      · exact Or.inr (by omega)
    | cons vt l1 ih =>
      obtain ⟨v, t⟩ := vt
      intro i hok h hlo hhi
      simp only [am_swT, Bool.and_eq_true] at hok
      obtain ⟨⟨h1, h2⟩, h3⟩ := hok
      have h1 := of_decide_eq_true h1
      by_cases hx : x = v
      · subst hx
        cases ho : offs[i]? with
        | none => rw [ho] at h2; cases h2
        | some o1 =>
          rw [ho] at h2
          simp only [List.length_cons] at hhi
          refine lv_tableIn hC.1 hC.2.1 hd (by omega) (by omega) (off := o1) ?_ (am_tg_of h2) (h.1 rfl p l e R s m args below meth c H locs cells slots D A cI cR ad Z ls hC hW hL hS hR)
          rw [h1, show (lo + (i : Int) - lo).toNat = i by omega]
          exact ho
      · refine ih (i + 1) h3 (h.2 hx) (fun q => ?_) (by simp only [List.length_cons] at hhi; omega)
        have hne : x.toInt ≠ lo + (i : Int) := fun q2 => hx (Int32.toInt_inj.mp (by rw [q2, h1]))
        exact hlo (by omega)
  exact key sw 0 hI2 h (fun q => by omega) (by omega)
theorem am_s_lookupswitch {df : Int} {ps : Array (Int × Int)} (ok : am_okE mi pc (.lookupswitch df ps, nx, a, b, sw) = true) (h : am_i1 st (fun x r => am_sw x (fun t => am_Sd d mi t lv r L g bc bs sx Q) a sw)) : am_Sd d mi pc lv st L g bc bs sx Q := by
  obtain ⟨hd, hI⟩ := am_dec_of ok (by intro q; cases q)
  simp only [am_okI, Bool.and_eq_true] at hI
  obtain ⟨⟨hI1, hI2⟩, hI3⟩ := hI
  obtain ⟨x, r, rfl, h⟩ := am_i1_of h
  intro p l e R s m args below meth c H locs cells slots D A cI cR ad Z ls hC hW hL hS hR
  have key : ∀ (pl : List (Int × Int)) (l1 : List (Int32 × Nat)), am_swL pc pl l1 = true → am_sw x (fun t => am_Sd d mi t lv r L g bc bs sx Q) a l1 → ∃ (off : Int) (tgt : Nat), Op.lookupswitch.offset pl df x.toInt = off ∧ (pc : Int) + off = (tgt : Int) ∧ am_Sd d mi tgt lv r L g bc bs sx Q := by
    intro pl
    induction pl with
    | nil =>
      intro l1 hok h
      cases l1 with
      | nil => exact ⟨df, a, rfl, am_tg_of hI1, h⟩
      | cons _ _ => cases hok
    | cons ko pl ih =>
      intro l1 hok h
      obtain ⟨k, o1⟩ := ko
      cases l1 with
      | nil => cases hok
      | cons vt l1 =>
        obtain ⟨v, t⟩ := vt
        simp only [am_swL, Bool.and_eq_true] at hok
        obtain ⟨⟨h1, h2⟩, h3⟩ := hok
        have h1 := of_decide_eq_true h1
        by_cases hx : x = v
        · subst hx
          exact ⟨o1, t, by rw [Op.lookupswitch.offset_cons, if_pos h1.symm], am_tg_of h2, h.1 rfl⟩
        · obtain ⟨off, tgt, e1, e2, e3⟩ := ih l1 h3 (h.2 hx)
          exact ⟨off, tgt, by rw [lv_osw hx h1]; exact e1, e2, e3⟩
  obtain ⟨off, tgt, e1, e2, e3⟩ := key ps.toList sw hI2 h
  refine lv_lookup hC.1 hC.2.1 hd ?_ e1 e2 (e3 p l e R s m args below meth c H locs cells slots D A cI cR ad Z ls hC hW hL hS hR)
  rw [List.all_eq_true] at hI3 ⊢
  intro q hq
  exact hI3 q hq
end AMS
