/-! The machine is sound: cells, fields, arrays. -/
theorem am_clsAt : ∀ a, a < 8 → am_cls[a]? = some (am_R a, am_T a, am_nf a)
  | 0, _ => rfl
  | 1, _ => rfl
  | 2, _ => rfl
  | 3, _ => rfl
  | 4, _ => rfl
  | 5, _ => rfl
  | 6, _ => rfl
  | 7, _ => rfl
  | a + 8, h => absurd h (by omega)
theorem am_okC_at {a : Nat} (h : a < 8) : am_okC a = true := List.all_eq_true.mp am_ckC a (List.mem_range.mpr h)
theorem am_C1 {a : Nat} (h : a < 8) : ∀ w ∈ u_ws (am_R a) (am_T a) (am_nf a), w ∈ am_TG := by
  have h1 := am_okC_at h
  simp only [am_okC, Bool.and_eq_true] at h1
  intro w hw
  have h2 := List.all_eq_true.mp h1.1.1.1.1.1 w hw
  simp only [Bool.and_eq_true] at h2
  exact List.mem_filter.mpr ⟨of_decide_eq_true h2.1, h2.2⟩
theorem am_C2 {a : Nat} (h : a < 8) : ∀ k, k < am_nf a → parseFieldDescriptor (am_T a k).2.2.1 = some (am_ty a k) := by
  have h1 := am_okC_at h
  simp only [am_okC, Bool.and_eq_true] at h1
  intro k hk
  have h2 := List.all_eq_true.mp h1.1.1.1.1.2 k (List.mem_range.mpr hk)
  simp only [Bool.and_eq_true] at h2
  exact of_decide_eq_true h2.1
theorem am_C3 {a : Nat} (h : a < 8) {k : Nat} (hk : k < am_nf a) : (am_isref a k = false → am_ty a k = .int) ∧ (am_isref a k = true → (∃ n, am_ty a k = .object n) ∨ ∃ t, am_ty a k = .array t) := by
  have h1 := am_okC_at h
  simp only [am_okC, Bool.and_eq_true] at h1
  have h2 := List.all_eq_true.mp h1.1.1.1.1.2 k (List.mem_range.mpr hk)
  simp only [Bool.and_eq_true] at h2
  have h3 := h2.2
  refine ⟨fun e => ?_, fun e => ?_⟩
  · rw [e] at h3; exact of_decide_eq_true h3
  · rw [e] at h3
    dsimp only at h3
    split at h3
    · rename_i n e2; exact Or.inl ⟨n, e2⟩
    · rename_i t e2; exact Or.inr ⟨t, e2⟩
    · cases h3
theorem am_C4 {a : Nat} (h : a < 8) : ∀ x, x < am_nf a → ∀ y, y < am_nf a → x ≠ y → (am_T a x).2.1 ≠ (am_T a y).2.1 := by
  have h1 := am_okC_at h
  simp only [am_okC, Bool.and_eq_true] at h1
  intro x hx y hy hne
  have h2 := List.all_eq_true.mp (List.all_eq_true.mp h1.1.1.1.2 x (List.mem_range.mpr hx)) y (List.mem_range.mpr hy)
  simp only [Bool.or_eq_true] at h2
  rcases h2 with h2 | h2
  · exact absurd (Nat.eq_of_beq_eq_true h2) hne
  · exact of_decide_eq_true h2
theorem am_C5 {a : Nat} (h : a < 8) : Cond.instantiable (am_R a) (am_nf a) ∈ am_TG ∧ Cond.initialized (am_R a) ∈ am_TG := by
  have h1 := am_okC_at h
  simp only [am_okC, Bool.and_eq_true] at h1
  exact ⟨am_good_of h1.1.1.2, am_good_of h1.1.2⟩
section AMT
variable {d mi pc nx a b : Nat} {sw : List (Int32 × Nat)} {lv : am_V} {st : List Value} {L : am_L} {g : am_G} {bc bs : Nat} {sx : am_S} {Q : am_Q}
variable {p : Program} {l : Launch} {e : Env} {R : Room} {s : State} {m : MethodId} {args : Array Value} {below : List Frame} {meth : Method} {c : Code} {H : Heap} {locs : List Loc} {cells slots : Nat} {Z : State → Prop} {ls : Array Slot} {D : va_G} {A : Nat → Prop} {cI cR : ClassId} {ad : Nat → Nat}
theorem am_getrow {i k n : Nat} {rf : Nat → Nat} {v : Value} {rest : List Value} (hC : am_Cx p R s m args meth c mi d bc bs cells slots) (hW : am_Wo D A cI cR ad L g s H locs) (hd : decode (am_by mi) pc = .ok (.getfield i, 3)) (hf : am_fld mi i a b sw = true) (hk : am_at L k = some (a + 2, n, rf)) (hbn : b < n) (hv : (am_fs ad a n rf (g k))[b]? = some v)
    (kk : W p l e R s m args below meth c H locs cells slots Z (F0 m (pc + 3) ls (v :: rest))) : W p l e R s m args below meth c H locs cells slots Z (F0 m pc ls (.ref (ad k) :: rest)) := by
  obtain ⟨hx, hb, hml, hown, hts, hN, hC'⟩ := hC
  obtain ⟨hK, hP, hD, hS, hA⟩ := hW
  simp only [am_fld, Bool.and_eq_true, Nat.blt_eq] at hf
  obtain ⟨⟨h8, hb'⟩, hf⟩ := hf
  obtain ⟨w, q, rfl, hw⟩ := am_v1_of hf
  have he := am_wd_get (ad := ad) (cI := cI) (cR := cR) (g := g) L 0 k hk
  rw [Nat.zero_add] at he
  split at hw
  · exact va_get (ref := (am_T a b).1) hx hb hts (am_C1 h8) hown hK hP k he (am_clsAt a h8) b hb' (hts _ (am_good_of hw)) (fun _ h9 => h9) hv hd kk
  · exact va_getN (ref := (am_T a b).1) hx hb hts (am_C1 h8) hown hK hP k he (am_clsAt a h8) b hb' (va_Nw.use rfl (hN _ (am_has_of hw) rfl)) (fun _ h9 => h9) hv hd kk
theorem am_s_getfield {i : Nat} (ok : am_okE mi pc (.getfield i, nx, a, b, sw) = true) (h : am_getf am_Sd d mi nx a b lv st L g bc bs sx Q) : am_Sd d mi pc lv st L g bc bs sx Q := by
  obtain ⟨hd, hI⟩ := am_dec_of ok (by intro q; cases q)
  simp only [am_okI, Bool.and_eq_true] at hI
  have hn := Nat.eq_of_beq_eq_true hI.1
  subst hn
  rw [Nat.add_sub_cancel_left] at hd
  obtain ⟨k, r, rfl, h'⟩ := am_r1_of h
  clear h
  have h := h'
  clear h'
  split at h
  · rename_i t n rf hk
    obtain ⟨hc, h'⟩ := am_b_of h
    clear h
    have h := h'
    clear h'
    simp only [Bool.and_eq_true, Nat.blt_eq] at hc
    obtain ⟨hc1, hc2⟩ := hc
    have hc1 := Nat.eq_of_beq_eq_true hc1
    subst hc1
    intro p l e R s m args below meth c H locs cells slots D A cI cR ad Z ls hC hW hL hS hR
    refine am_getrow hC hW hd hI.2 hk hc2 (am_fs_get hc2) ?_
    split at h
    · rename_i hr
      split at h
      · rename_i hz
        rw [hr, hz]
        exact h p l e R s m args below meth c H locs cells slots D A cI cR ad Z ls hC hW hL hS hR
      · rename_i v hz
        rw [hr, hz]
        exact h p l e R s m args below meth c H locs cells slots D A cI cR ad Z ls hC hW hL hS hR
    · rename_i hr
      rw [hr]
      exact h p l e R s m args below meth c H locs cells slots D A cI cR ad Z ls hC hW hL hS hR
  · exact h.elim
theorem am_putrow {i k n : Nat} {rf : Nat → Nat} {v : Value} {rest : List Value} (hC : am_Cx p R s m args meth c mi d bc bs cells slots) (hW : am_Wo D A cI cR ad L g s H locs) (hd : decode (am_by mi) pc = .ok (.putfield i, 3)) (hf : am_fld mi i a b sw = true) (hp : am_pfl mi a b sw = true) (hk : am_at L k = some (a + 2, n, rf)) (hbn : b < n) (hn : narrow (am_ty a b) v = v) (hfit : fits (am_ty a b) v = true)
    (kk : ∀ (H1 : Heap) (locs1 : List Loc), va_P D am_cls ((am_wd ad cI cR g 0 L).set k (ad k, .inr (a, (am_fs ad a n rf (g k)).set b v))) H1 → va_D A ((am_wd ad cI cR g 0 L).set k (ad k, .inr (a, (am_fs ad a n rf (g k)).set b v))) → va_S A s.heap H1 locs1 → W p l e R s m args below meth c H1 locs1 cells slots Z (F0 m (pc + 3) ls rest)) : W p l e R s m args below meth c H locs cells slots Z (F0 m pc ls (v :: .ref (ad k) :: rest)) := by
  obtain ⟨hx, hb, hml, hown, hts, hN, hAO, hin, hC'⟩ := hC
  obtain ⟨hK, hP, hD, hS, hA⟩ := hW
  simp only [am_fld, Bool.and_eq_true, Nat.blt_eq] at hf
  obtain ⟨⟨h8, hb'⟩, hf⟩ := hf
  obtain ⟨w, q, rfl, hw⟩ := am_v1_of hf
  have he := am_wd_get (ad := ad) (cI := cI) (cR := cR) (g := g) L 0 k hk
  rw [Nat.zero_add] at he
  have hl : b < (am_fs ad a n rf (g k)).length := by rw [am_fs_len]; exact hbn
  unfold am_pfl at hp
  split at hp
  · rename_i hfin
    split at hw
    · exact va_put (ref := (am_T a b).1) hx hb hts (am_C1 h8) (am_ty a) (am_C2 h8) (am_C4 h8) hown hK hP hD hS k he (am_clsAt a h8) b hb' (hts _ (am_good_of hw)) (fun _ h9 => h9) hfin (am_C2 h8 b hb') hn hfit hl hd kk
    · exact va_putN (ref := (am_T a b).1) hx hb hts (am_C1 h8) (am_ty a) (am_C2 h8) (am_C4 h8) hown hK hP hD hS k he (am_clsAt a h8) b hb' (va_Nw.use rfl (hN _ (am_has_of hw) rfl)) (fun _ h9 => h9) hfin (am_C2 h8 b hb') hn hfit hl hd kk
  · rename_i hfin
    simp only [Bool.and_eq_true] at hp
    obtain ⟨⟨hp1, hp2⟩, hp3⟩ := hp
    have hp2 := of_decide_eq_true hp2
    have hw0 : decide (w = 0) = true := hp3
    rw [hw0] at hw
    exact va_putF (ref := (am_T a b).1) hx hb hts (am_C1 h8) (am_ty a) (am_C2 h8) (am_C4 h8) hown hK hP hD hS k he (am_clsAt a h8) b hb' (hts _ (am_good_of hw)) (fun _ h9 => h9) hfin (hin (Nat.eq_of_beq_eq_true hp1)) hp2 (am_C2 h8 b hb') hn hfit hl hd kk
theorem am_up_at {g : am_G} {k i : Nat} {x : Int32} : am_up g k i x k = upd (g k) i x := by simp [am_up]
theorem am_up_ne {g : am_G} {k i j : Nat} {x : Int32} (h : j ≠ k) : am_up g k i x j = g j := by simp [am_up, h]
theorem am_fld_of {i : Nat} (hf : am_fld mi i a b sw = true) : a < 8 ∧ b < am_nf a := by
  simp only [am_fld, Bool.and_eq_true, Nat.blt_eq] at hf
  exact hf.1
theorem am_s_putfield {i : Nat} (ok : am_okE mi pc (.putfield i, nx, a, b, sw) = true) (h : am_putf am_Sd d mi nx a b lv st L g bc bs sx Q) : am_Sd d mi pc lv st L g bc bs sx Q := by
  obtain ⟨hd, hI⟩ := am_dec_of ok (by intro q; cases q)
  simp only [am_okI, Bool.and_eq_true] at hI
  obtain ⟨⟨hn, hf⟩, hp⟩ := hI
  have hn := Nat.eq_of_beq_eq_true hn
  subst hn
  rw [Nat.add_sub_cancel_left] at hd
  have h8 := (am_fld_of hf).1
  have hb' := (am_fld_of hf).2
  unfold am_putf at h
  split at h
  · rename_i x k r
    split at h
    · rename_i t n rf hk
      obtain ⟨hc, h'⟩ := am_b_of h
      clear h
      have h := h'
      clear h'
      simp only [Bool.and_eq_true, Nat.blt_eq, Bool.not_eq_true'] at hc
      obtain ⟨⟨hc1, hc2⟩, hr⟩ := hc
      have hc1 := Nat.eq_of_beq_eq_true hc1
      subst hc1
      have hty := (am_C3 h8 hb').1 hr
      intro p l e R s m args below meth c H locs cells slots D A cI cR ad Z ls hC hW hL hS hR
      refine am_putrow hC hW hd hf hp hk hc2 (v := .int x) (by rw [hty]; rfl) (by rw [hty]; rfl) (fun H1 locs1 hP1 hD1 hS1 => ?_)
      have ew : (am_wd ad cI cR g 0 L).set k (ad k, .inr (a, (am_fs ad a n rf (g k)).set b (.int x))) = am_wd ad cI cR (am_up g k b x) 0 L := by
        have h1 := am_wd_set (ad := ad) (cI := cI) (cR := cR) (g := g) (g' := am_up g k b x) (d' := (a + 2, n, rf)) L 0 k hk (fun j hj => am_up_ne (by omega))
        rw [am_put_self L k hk, Nat.zero_add] at h1
        rw [← h1, am_up_at, am_fs_set_i hr]
        rfl
      rw [ew] at hP1 hD1
      exact h p l e R s m args below meth c H1 locs1 cells slots D A cI cR ad Z ls hC ⟨hW.1, hP1, hD1, hS1, hW.2.2.2.2⟩ hL hS hR
    · exact h.elim
  · rename_i v k r
    split at h
    · rename_i t n rf hk
      obtain ⟨hc, h'⟩ := am_b_of h
      clear h
      have h := h'
      clear h'
      simp only [Bool.and_eq_true, Nat.blt_eq] at hc
      obtain ⟨⟨hc1, hc2⟩, hr⟩ := hc
      have hc1 := Nat.eq_of_beq_eq_true hc1
      subst hc1
      have hty := (am_C3 h8 hb').2 hr
      intro p l e R s m args below meth c H locs cells slots D A cI cR ad Z ls hC hW hL hS hR
      refine am_putrow hC hW hd hf hp hk hc2 (v := .ref (ad v)) (by rcases hty with ⟨n, e⟩ | ⟨t, e⟩ <;> rw [e] <;> rfl) (by rcases hty with ⟨n, e⟩ | ⟨t, e⟩ <;> rw [e] <;> rfl) (fun H1 locs1 hP1 hD1 hS1 => ?_)
      have ew : (am_wd ad cI cR g 0 L).set k (ad k, .inr (a, (am_fs ad a n rf (g k)).set b (.ref (ad v)))) = am_wd ad cI cR g 0 (am_put L k (a + 2, n, fun j => if j = b then v + 1 else rf j)) := by
        have h1 := am_wd_set (ad := ad) (cI := cI) (cR := cR) (g := g) (g' := g) (d' := (a + 2, n, fun j => if j = b then v + 1 else rf j)) L 0 k hk (fun j hj => rfl)
        rw [Nat.zero_add] at h1
        rw [← h1, am_fs_set_r hr]
        rfl
      rw [ew] at hP1 hD1
      refine h p l e R s m args below meth c H1 locs1 cells slots D A cI cR ad Z ls hC ⟨hW.1, hP1, hD1, hS1, hW.2.2.2.2⟩ hL hS ?_
      rw [am_put_len]
      exact hR
    · exact h.elim
  · exact h.elim
theorem am_s_iaload (ok : am_okE mi pc (.iaload, nx, a, b, sw) = true) (h : am_iald am_Sd d mi nx lv st L g bc bs sx Q) : am_Sd d mi pc lv st L g bc bs sx Q := by
  obtain ⟨hd, hI⟩ := am_dec_of ok (by intro q; cases q)
  have hn := Nat.eq_of_beq_eq_true (show Nat.beq nx (pc + 1) = true from hI)
  subst hn
  rw [Nat.add_sub_cancel_left] at hd
  obtain ⟨k, i, r, rfl, h'⟩ := am_ia_of h
  clear h
  have h := h'
  clear h'
  split at h
  · rename_i hk
    have hk := Nat.eq_of_beq_eq_true hk
    subst hk
    split at h
    · rename_i n xs
      intro p l e R s m args below meth c H locs cells slots D A cI cR ad Z ls hC hW hL hS hR
      exact va_sld hC.1 hC.2.1 hS.1 hS.2.1 hS.2.2 hW.2.2.2.1 h.1 hd (h.2 p l e R s m args below meth c H locs cells slots D A cI cR ad Z ls hC hW hL hS hR)
    · exact h.elim
  · split at h
    · rename_i n rf hk
      intro p l e R s m args below meth c H locs cells slots D A cI cR ad Z ls hC hW hL hS hR
      have he := am_wd_get (ad := ad) (cI := cI) (cR := cR) (g := g) L 0 k hk
      rw [Nat.zero_add] at he
      exact va_iald hC.1 hC.2.1 hW.1 hW.2.1 k 0 he rfl h.1 hd (h.2 p l e R s m args below meth c H locs cells slots D A cI cR ad Z ls hC hW hL hS hR)
    · exact h.elim
theorem am_s_iastore (ok : am_okE mi pc (.iastore, nx, a, b, sw) = true) (h : am_iast am_Sd d mi nx lv st L g bc bs sx Q) : am_Sd d mi pc lv st L g bc bs sx Q := by
  obtain ⟨hd, hI⟩ := am_dec_of ok (by intro q; cases q)
  have hn := Nat.eq_of_beq_eq_true (show Nat.beq nx (pc + 1) = true from hI)
  subst hn
  rw [Nat.add_sub_cancel_left] at hd
  obtain ⟨k, i, x, r, rfl, h'⟩ := am_iai_of h
  clear h
  have h := h'
  clear h'
  split at h
  · rename_i n rf hk
    intro p l e R s m args below meth c H locs cells slots D A cI cR ad Z ls hC hW hL hS hR
    have he := am_wd_get (ad := ad) (cI := cI) (cR := cR) (g := g) L 0 k hk
    rw [Nat.zero_add] at he
    refine va_iast hC.1 hC.2.1 hW.1 hW.2.1 hW.2.2.1 hW.2.2.2.1 k 0 he rfl h.1 hd (fun H1 locs1 hP1 hD1 hS1 => ?_)
    have ew : (am_wd ad cI cR g 0 L).set k (ad k, .inl (cI, n, .inl (upd (g k) i.toNatClampNeg x))) = am_wd ad cI cR (am_up g k i.toNatClampNeg x) 0 L := by
      have h1 := am_wd_set (ad := ad) (cI := cI) (cR := cR) (g := g) (g' := am_up g k i.toNatClampNeg x) (d' := (0, n, rf)) L 0 k hk (fun j hj => am_up_ne (by omega))
      rw [am_put_self L k hk, Nat.zero_add] at h1
      rw [← h1, am_up_at]
      rfl
    rw [ew] at hP1 hD1
    exact h.2 p l e R s m args below meth c H1 locs1 cells slots D A cI cR ad Z ls hC ⟨hW.1, hP1, hD1, hS1, hW.2.2.2.2⟩ hL hS hR
  · exact h.elim
theorem am_s_aaload (ok : am_okE mi pc (.aaload, nx, a, b, sw) = true) (h : am_aald am_Sd d mi nx lv st L g bc bs sx Q) : am_Sd d mi pc lv st L g bc bs sx Q := by
  obtain ⟨hd, hI⟩ := am_dec_of ok (by intro q; cases q)
  have hn := Nat.eq_of_beq_eq_true (show Nat.beq nx (pc + 1) = true from hI)
  subst hn
  rw [Nat.add_sub_cancel_left] at hd
  obtain ⟨k, i, r, rfl, h'⟩ := am_ia_of h
  clear h
  have h := h'
  clear h'
  split at h
  · rename_i n rf hk
    intro p l e R s m args below meth c H locs cells slots D A cI cR ad Z ls hC hW hL hS hR
    have he := am_wd_get (ad := ad) (cI := cI) (cR := cR) (g := g) L 0 k hk
    rw [Nat.zero_add] at he
    refine va_aldq hC.1 hC.2.1 hW.1 hW.2.1 k 1 he rfl h.1 hd ?_
    have hlt : i.toNatClampNeg < n := Nat.not_le.mp fun q => h.1 (Or.inr q)
    have hlt' : Nat.blt i.toNatClampNeg n = true := by rw [Nat.blt_eq]; exact hlt
    have h2 := h.2
    split at h2
    · rename_i hz
      rw [hlt', hz]
      exact h2 p l e R s m args below meth c H locs cells slots D A cI cR ad Z ls hC hW hL hS hR
    · rename_i v hz
      rw [hlt', hz]
      exact h2 p l e R s m args below meth c H locs cells slots D A cI cR ad Z ls hC hW hL hS hR
  · exact h.elim
theorem am_s_aastore (ok : am_okE mi pc (.aastore, nx, a, b, sw) = true) (h : am_aast am_Sd d mi nx lv st L g bc bs sx Q) : am_Sd d mi pc lv st L g bc bs sx Q := by
  obtain ⟨hd, hI⟩ := am_dec_of ok (by intro q; cases q)
  have hn := Nat.eq_of_beq_eq_true (show Nat.beq nx (pc + 1) = true from hI)
  subst hn
  rw [Nat.add_sub_cancel_left] at hd
  unfold am_aast at h
  split at h
  · rename_i v i k r
    split at h
    · rename_i n rf t n2 rf2 hk hv
      obtain ⟨hc, h'⟩ := am_b_of h
      clear h
      have h := h'
      clear h'
      have hc := Nat.eq_of_beq_eq_true hc
      subst hc
      intro p l e R s m args below meth c H locs cells slots D A cI cR ad Z ls hC hW hL hS hR
      have he := am_wd_get (ad := ad) (cI := cI) (cR := cR) (g := g) L 0 k hk
      have hev := am_wd_get (ad := ad) (cI := cI) (cR := cR) (g := g) L 0 v hv
      rw [Nat.zero_add] at he hev
      have hlt : i.toNatClampNeg < n := Nat.not_le.mp fun q => h.1 (Or.inr q)
      refine va_astq hC.1 hC.2.1 hW.1 hW.2.1 hW.2.2.1 hW.2.2.2.1 k 1 v am_shc (r := (am_R am_shc, am_T am_shc, am_nf am_shc)) he rfl hev (am_clsAt am_shc (by decide)) h.1 hd (fun H1 locs1 hP1 hD1 hS1 => ?_)
      have ef : (va_up (fun j => bif Nat.blt j n then am_ro ad (rf j) else none) i.toNatClampNeg (some (ad v))) = (fun j => bif Nat.blt j n then am_ro ad (if j = i.toNatClampNeg then v + 1 else rf j) else none) := by
        funext j
        by_cases hj : j = i.toNatClampNeg
        · have : Nat.blt j n = true := by rw [Nat.blt_eq, hj]; exact hlt
          simp [va_up, hj, am_ro]
          subst hj
          simp [this]
        · simp [va_up, hj]
      have ew : (am_wd ad cI cR g 0 L).set k (ad k, .inl (cR, n, .inr (.inr (.inr (.inr (va_up (fun j => bif Nat.blt j n then am_ro ad (rf j) else none) i.toNatClampNeg (some (ad v)))))))) = am_wd ad cI cR g 0 (am_put L k (1, n, fun j => if j = i.toNatClampNeg then v + 1 else rf j)) := by
        have h1 := am_wd_set (ad := ad) (cI := cI) (cR := cR) (g := g) (g' := g) (d' := (1, n, fun j => if j = i.toNatClampNeg then v + 1 else rf j)) L 0 k hk (fun j hj => rfl)
        rw [Nat.zero_add] at h1
        rw [← h1, ef]
        rfl
      rw [ew] at hP1 hD1
      refine h.2 p l e R s m args below meth c H1 locs1 cells slots D A cI cR ad Z ls hC ⟨hW.1, hP1, hD1, hS1, hW.2.2.2.2⟩ hL hS ?_
      rw [am_put_len]
      exact hR
    · exact h.elim
  · exact h.elim
theorem am_s_arraylength (ok : am_okE mi pc (.arraylength, nx, a, b, sw) = true) (h : am_alen am_Sd d mi nx lv st L g bc bs sx Q) : am_Sd d mi pc lv st L g bc bs sx Q := by
  obtain ⟨hd, hI⟩ := am_dec_of ok (by intro q; cases q)
  have hn := Nat.eq_of_beq_eq_true (show Nat.beq nx (pc + 1) = true from hI)
  subst hn
  rw [Nat.add_sub_cancel_left] at hd
  obtain ⟨k, r, rfl, h'⟩ := am_r1_of h
  clear h
  have h := h'
  clear h'
  split at h
  · rename_i hk
    have hk := Nat.eq_of_beq_eq_true hk
    subst hk
    split at h
    · intro p l e R s m args below meth c H locs cells slots D A cI cR ad Z ls hC hW hL hS hR
      exact va_slen hC.1 hC.2.1 hS.1 hS.2.1 hS.2.2 hW.2.2.2.1 hd (h p l e R s m args below meth c H locs cells slots D A cI cR ad Z ls hC hW hL hS hR)
    · exact h.elim
  · split at h
    · rename_i n rf hk
      intro p l e R s m args below meth c H locs cells slots D A cI cR ad Z ls hC hW hL hS hR
      have he := am_wd_get (ad := ad) (cI := cI) (cR := cR) (g := g) L 0 k hk
      rw [Nat.zero_add] at he
      exact va_alen hC.1 hC.2.1 hW.1 hW.2.1 k 0 he rfl rfl hd (h p l e R s m args below meth c H locs cells slots D A cI cR ad Z ls hC hW hL hS hR)
    · rename_i n rf hk
      intro p l e R s m args below meth c H locs cells slots D A cI cR ad Z ls hC hW hL hS hR
      have he := am_wd_get (ad := ad) (cI := cI) (cR := cR) (g := g) L 0 k hk
      rw [Nat.zero_add] at he
      exact va_alen hC.1 hC.2.1 hW.1 hW.2.1 k 1 he rfl rfl hd (h p l e R s m args below meth c H locs cells slots D A cI cR ad Z ls hC hW hL hS hR)
    · exact h.elim
end AMT
