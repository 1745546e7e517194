/-! The machine's worlds as the kit's worlds. -/
def am_tr (ad : Nat → Nat) : Value → Value
  | .ref k => .ref (ad k)
  | v => v
def am_rf (ad : Nat → Nat) : Nat → Value
  | 0 => .null
  | k + 1 => .ref (ad k)
def am_ro (ad : Nat → Nat) : Nat → Option Nat
  | 0 => none
  | k + 1 => some (ad k)
def am_fs (ad : Nat → Nat) (ci n : Nat) (rf : Nat → Nat) (g : Nat → Int32) : List Value := (List.range n).map (fun j => match am_isref ci j with | true => am_rf ad (rf j) | false => .int (g j))
def am_en (ad : Nat → Nat) (cI cR : ClassId) (d : am_D) (g : Nat → Int32) : va_E := match d with
  | (0, n, _) => .inl (cI, n, .inl g)
  | (1, n, rf) => .inl (cR, n, .inr (.inr (.inr (.inr (fun j => bif Nat.blt j n then am_ro ad (rf j) else none)))))
  | (c + 2, n, rf) => .inr (c, am_fs ad c n rf g)
def am_wd (ad : Nat → Nat) (cI cR : ClassId) (g : am_G) : Nat → am_L → va_W
  | _, [] => []
  | k, d :: l => (ad k, am_en ad cI cR d (g k)) :: am_wd ad cI cR g (k + 1) l
theorem am_wd_get {ad : Nat → Nat} {cI cR : ClassId} {g : am_G} {d : am_D} : ∀ (L : am_L) (k i : Nat), am_at L i = some d → (am_wd ad cI cR g k L)[i]? = some (ad (k + i), am_en ad cI cR d (g (k + i)))
  | [], k, i, h => by simp [am_at] at h
  | e :: L, k, 0, h => by
    simp only [am_at, Option.some.injEq] at h
    subst h
    rfl
  | e :: L, k, i + 1, h => by
    have h1 := am_wd_get (ad := ad) (cI := cI) (cR := cR) (g := g) L (k + 1) i h
    rw [show am_wd ad cI cR g k (e :: L) = (ad k, am_en ad cI cR e (g k)) :: am_wd ad cI cR g (k + 1) L from rfl, List.getElem?_cons_succ, h1, show k + 1 + i = k + (i + 1) by omega]
theorem am_wd_in {ad : Nat → Nat} {cI cR : ClassId} {g : am_G} : ∀ (L : am_L) (k i : Nat) (q : Nat × va_E), (am_wd ad cI cR g k L)[i]? = some q → ∃ d, am_at L i = some d ∧ q = (ad (k + i), am_en ad cI cR d (g (k + i)))
  | [], k, i, q, h => by simp [am_wd] at h
  | e :: L, k, 0, q, h => by
    rw [show am_wd ad cI cR g k (e :: L) = (ad k, am_en ad cI cR e (g k)) :: am_wd ad cI cR g (k + 1) L from rfl, List.getElem?_cons_zero] at h
    cases h
    exact ⟨e, rfl, rfl⟩
  | e :: L, k, i + 1, q, h => by
    rw [show am_wd ad cI cR g k (e :: L) = (ad k, am_en ad cI cR e (g k)) :: am_wd ad cI cR g (k + 1) L from rfl, List.getElem?_cons_succ] at h
    obtain ⟨d, h1, h2⟩ := am_wd_in L (k + 1) i q h
    exact ⟨d, h1, by rw [h2, show k + 1 + i = k + (i + 1) by omega]⟩
theorem am_wd_cong {ad : Nat → Nat} {cI cR : ClassId} {g g' : am_G} : ∀ (L : am_L) (k : Nat), (∀ j, k ≤ j → j < k + L.length → g' j = g j) → am_wd ad cI cR g' k L = am_wd ad cI cR g k L
  | [], k, h => rfl
  | e :: L, k, h => by
    show (ad k, am_en ad cI cR e (g' k)) :: am_wd ad cI cR g' (k + 1) L = (ad k, am_en ad cI cR e (g k)) :: am_wd ad cI cR g (k + 1) L
    rw [h k (Nat.le_refl k) (by simp), am_wd_cong L (k + 1) (fun j h1 h2 => h j (by omega) (by simp only [List.length_cons]; omega))]
theorem am_wd_set {ad : Nat → Nat} {cI cR : ClassId} {g g' : am_G} {d d' : am_D} : ∀ (L : am_L) (k i : Nat), am_at L i = some d → (∀ j, j ≠ k + i → g' j = g j) → (am_wd ad cI cR g k L).set i (ad (k + i), am_en ad cI cR d' (g' (k + i))) = am_wd ad cI cR g' k (am_put L i d')
  | [], k, i, h, _ => by simp [am_at] at h
  | e :: L, k, 0, h, hg => by
    show (ad k, am_en ad cI cR d' (g' k)) :: am_wd ad cI cR g (k + 1) L = (ad k, am_en ad cI cR d' (g' k)) :: am_wd ad cI cR g' (k + 1) L
    rw [am_wd_cong (g := g) (g' := g') L (k + 1) (fun j h1 _ => hg j (by omega))]
  | e :: L, k, i + 1, h, hg => by
    have h1 := am_wd_set (ad := ad) (cI := cI) (cR := cR) (g := g) (g' := g') (d' := d') L (k + 1) i h (fun j hj => hg j (by omega))
    show (ad k, am_en ad cI cR e (g k)) :: (am_wd ad cI cR g (k + 1) L).set i _ = (ad k, am_en ad cI cR e (g' k)) :: am_wd ad cI cR g' (k + 1) (am_put L i d')
    rw [hg k (by omega), show k + (i + 1) = k + 1 + i by omega, h1]
theorem am_put_self {d : am_D} : ∀ (L : am_L) (i : Nat), am_at L i = some d → am_put L i d = L
  | [], i, h => by simp [am_at] at h
  | e :: L, 0, h => by simp only [am_at, Option.some.injEq] at h; subst h; rfl
  | e :: L, i + 1, h => by show e :: am_put L i d = e :: L; rw [am_put_self L i h]
theorem am_put_len : ∀ (L : am_L) (i : Nat) (d : am_D), (am_put L i d).length = L.length
  | [], _, _ => rfl
  | _ :: _, 0, _ => rfl
  | _ :: L, i + 1, d => by show (am_put L i d).length + 1 = L.length + 1; rw [am_put_len]
theorem am_at_lt : ∀ (L : am_L) (i : Nat) (d : am_D), am_at L i = some d → i < L.length
  | [], i, d, h => by simp [am_at] at h
  | _ :: _, 0, _, _ => by simp
  | _ :: L, i + 1, d, h => by
    have := am_at_lt L i d h
    simp only [List.length_cons]; omega
theorem am_wd_app {ad : Nat → Nat} {cI cR : ClassId} {g : am_G} {d : am_D} : ∀ (L : am_L) (k : Nat), am_wd ad cI cR g k (L ++ [d]) = am_wd ad cI cR g k L ++ [(ad (k + L.length), am_en ad cI cR d (g (k + L.length)))]
  | [], k => rfl
  | e :: L, k => by
    show (ad k, _) :: am_wd ad cI cR g (k + 1) (L ++ [d]) = (ad k, _) :: (am_wd ad cI cR g (k + 1) L ++ _)
    rw [am_wd_app L (k + 1), List.length_cons, show k + 1 + L.length = k + (L.length + 1) by omega]
theorem am_rf_cong {ad ad' : Nat → Nat} {n v : Nat} (h : v ≤ n) (ha : ∀ j, j < n → ad' j = ad j) : am_rf ad' v = am_rf ad v := by
  cases v with
  | zero => rfl
  | succ v => show Value.ref (ad' v) = Value.ref (ad v); rw [ha v (by omega)]
theorem am_ro_cong {ad ad' : Nat → Nat} {n v : Nat} (h : v ≤ n) (ha : ∀ j, j < n → ad' j = ad j) : am_ro ad' v = am_ro ad v := by
  cases v with
  | zero => rfl
  | succ v => show some (ad' v) = some (ad v); rw [ha v (by omega)]
theorem am_fok_at {n : Nat} {rf : Nat → Nat} : ∀ (m : Nat), am_fok n rf m = true → ∀ j, j < m → rf j ≤ n
  | 0, _, j, hj => absurd hj (Nat.not_lt_zero j)
  | m + 1, h, j, hj => by
    simp only [am_fok, Bool.and_eq_true] at h
    rcases Nat.lt_succ_iff_lt_or_eq.mp hj with q | q
    · exact am_fok_at m h.2 j q
    · subst q; exact Nat.le_of_ble_eq_true h.1
theorem am_fs_cong {ad ad' : Nat → Nat} {ci n N : Nat} {rf : Nat → Nat} {g : Nat → Int32} (h : am_fok N rf n = true) (ha : ∀ j, j < N → ad' j = ad j) : am_fs ad' ci n rf g = am_fs ad ci n rf g := by
  refine List.map_congr_left (fun j hj => ?_)
  have h1 := am_fok_at n h j (List.mem_range.mp hj)
  cases am_isref ci j with
  | true => exact am_rf_cong h1 ha
  | false => rfl
theorem am_en_cong {ad ad' : Nat → Nat} {cI cR : ClassId} {N : Nat} {d : am_D} {g : Nat → Int32} (h : am_fok N d.2.2 d.2.1 = true) (ha : ∀ j, j < N → ad' j = ad j) : am_en ad' cI cR d g = am_en ad cI cR d g := by
  obtain ⟨t, n, rf⟩ := d
  match t with
  | 0 => rfl
  | 1 =>
    have e : (fun j => bif Nat.blt j n then am_ro ad' (rf j) else none) = (fun j => bif Nat.blt j n then am_ro ad (rf j) else none) := by
      funext j
      cases hj : Nat.blt j n with
      | true => exact am_ro_cong (am_fok_at n h j (by simpa [Nat.blt_eq] using hj)) ha
      | false => rfl
    show Sum.inl (cR, n, Sum.inr (Sum.inr (Sum.inr (Sum.inr _)))) = Sum.inl (cR, n, Sum.inr (Sum.inr (Sum.inr (Sum.inr _))))
    rw [e]
  | c + 2 =>
    show Sum.inr (c, am_fs ad' c n rf g) = Sum.inr (c, am_fs ad c n rf g)
    rw [am_fs_cong h ha]
theorem am_wd_ext {ad ad' : Nat → Nat} {cI cR : ClassId} {g g' : am_G} {N : Nat} : ∀ (L : am_L) (k : Nat), am_lok N L = true → (∀ j, j < N → ad' j = ad j) → k + L.length ≤ N → (∀ j, j < N → g' j = g j) → am_wd ad' cI cR g' k L = am_wd ad cI cR g k L
  | [], k, _, _, _, _ => rfl
  | e :: L, k, h, ha, hk, hg => by
    simp only [am_lok, Bool.and_eq_true] at h
    simp only [List.length_cons] at hk
    show (ad' k, am_en ad' cI cR e (g' k)) :: am_wd ad' cI cR g' (k + 1) L = (ad k, am_en ad cI cR e (g k)) :: am_wd ad cI cR g (k + 1) L
    rw [ha k (by omega), hg k (by omega), am_en_cong h.1 ha, am_wd_ext L (k + 1) h.2 ha (by omega) hg]
theorem am_fs_set_i {ad : Nat → Nat} {ci n b : Nat} {rf : Nat → Nat} {g : Nat → Int32} {x : Int32} (h : am_isref ci b = false) : (am_fs ad ci n rf g).set b (.int x) = am_fs ad ci n rf (upd g b x) := by
  apply List.ext_getElem?
  intro j
  simp only [am_fs, List.getElem?_set, List.getElem?_map, List.getElem?_range', List.length_map, List.length_range]
  by_cases hj : b = j
  · subst hj
    rcases Nat.lt_or_ge b n with q | q
    · simp [q, h, upd]
    · simp [q, Nat.not_lt.mpr q]
  · rw [if_neg hj]
    rcases Nat.lt_or_ge j n with q | q
    · simp [q, upd, Ne.symm hj]
    · simp [q, Nat.not_lt.mpr q]
theorem am_fs_set_r {ad : Nat → Nat} {ci n b v : Nat} {rf : Nat → Nat} {g : Nat → Int32} (h : am_isref ci b = true) : (am_fs ad ci n rf g).set b (.ref (ad v)) = am_fs ad ci n (fun j => if j = b then v + 1 else rf j) g := by
  apply List.ext_getElem?
  intro j
  simp only [am_fs, List.getElem?_set, List.getElem?_map, List.length_map, List.length_range]
  by_cases hj : b = j
  · subst hj
    rcases Nat.lt_or_ge b n with q | q
    · simp [q, h, am_rf]
    · simp [q, Nat.not_lt.mpr q]
  · rw [if_neg hj]
    rcases Nat.lt_or_ge j n with q | q
    · simp [q, Ne.symm hj]
    · simp [q, Nat.not_lt.mpr q]
theorem am_fs_get {ad : Nat → Nat} {ci n b : Nat} {rf : Nat → Nat} {g : Nat → Int32} (h : b < n) : (am_fs ad ci n rf g)[b]? = some (match am_isref ci b with | true => am_rf ad (rf b) | false => .int (g b)) := by
  simp [am_fs, h]
theorem am_fs_len {ad : Nat → Nat} {ci n : Nat} {rf : Nat → Nat} {g : Nat → Int32} : (am_fs ad ci n rf g).length = n := by simp [am_fs]
/-- the locals -/
def am_ps (ad : Nat → Nat) : Nat → am_V → List (Nat × Value)
  | _, [] => []
  | k, none :: l => am_ps ad (k + 1) l
  | k, some v :: l => (k, am_tr ad v) :: am_ps ad (k + 1) l
theorem am_ps_in {ad : Nat → Nat} {v : Value} : ∀ (lv : am_V) (k i : Nat), am_vat lv i = some v → (k + i, am_tr ad v) ∈ am_ps ad k lv
  | [], k, i, h => by simp [am_vat] at h
  | none :: l, k, 0, h => by simp [am_vat] at h
  | some w :: l, k, 0, h => by
    simp only [am_vat, Option.some.injEq] at h
    subst h
    exact List.mem_cons_self
  | none :: l, k, i + 1, h => by
    have := am_ps_in (ad := ad) l (k + 1) i h
    rw [show k + (i + 1) = k + 1 + i by omega]; exact this
  | some w :: l, k, i + 1, h => by
    have := am_ps_in (ad := ad) l (k + 1) i h
    rw [show k + (i + 1) = k + 1 + i by omega]; exact List.mem_cons_of_mem _ this
theorem am_ps_of {ad : Nat → Nat} {q : Nat × Value} : ∀ (lv : am_V) (k : Nat), q ∈ am_ps ad k lv → ∃ i v, am_vat lv i = some v ∧ q = (k + i, am_tr ad v)
  | [], k, h => by cases h
  | none :: l, k, h => by
    obtain ⟨i, v, h1, h2⟩ := am_ps_of l (k + 1) h
    exact ⟨i + 1, v, h1, by rw [h2, show k + 1 + i = k + (i + 1) by omega]⟩
  | some w :: l, k, h => by
    rcases List.mem_cons.mp h with h | h
    · exact ⟨0, w, rfl, h⟩
    · obtain ⟨i, v, h1, h2⟩ := am_ps_of l (k + 1) h
      exact ⟨i + 1, v, h1, by rw [h2, show k + 1 + i = k + (i + 1) by omega]⟩
theorem am_vset_len : ∀ (lv : am_V) (i : Nat) (v : Value), (am_vset lv i v).length = lv.length
  | [], _, _ => rfl
  | _ :: _, 0, _ => rfl
  | _ :: l, i + 1, v => by show (am_vset l i v).length + 1 = l.length + 1; rw [am_vset_len]
theorem am_vset_at {v w : Value} : ∀ (lv : am_V) (i j : Nat), am_vat (am_vset lv i v) j = some w → (j = i ∧ w = v) ∨ (j ≠ i ∧ am_vat lv j = some w)
  | [], i, j, h => by simp [am_vset, am_vat] at h
  | u :: l, 0, 0, h => by simp only [am_vset, am_vat, Option.some.injEq] at h; exact Or.inl ⟨rfl, h.symm⟩
  | u :: l, 0, j + 1, h => Or.inr ⟨by omega, h⟩
  | u :: l, i + 1, 0, h => Or.inr ⟨by omega, h⟩
  | u :: l, i + 1, j + 1, h => by
    rcases am_vset_at l i j h with ⟨a, b⟩ | ⟨a, b⟩
    · exact Or.inl ⟨by omega, b⟩
    · exact Or.inr ⟨by omega, b⟩
def am_Lo (ad : Nat → Nat) (ls : Array Slot) (n : Nat) (lv : am_V) : Prop := lv_has ls n (am_ps ad 0 lv) ∧ lv.length = n ∧ ∀ i v, am_vat lv i = some v → am_cat1 v = true
theorem am_cat1_tr {ad : Nat → Nat} {v : Value} (h : am_cat1 v = true) : (am_tr ad v).category = 1 := by
  cases v <;> first | rfl | (simp [am_cat1] at h)
theorem am_Lo.get {ad : Nat → Nat} {ls : Array Slot} {n i : Nat} {lv : am_V} {v : Value} (h : am_Lo ad ls n lv) (hv : am_vat lv i = some v) : ls[i]? = some (.val (am_tr ad v)) := by
  have h1 := h.1.2.2 _ (am_ps_in (ad := ad) lv 0 i hv)
  rw [Nat.zero_add] at h1
  exact h1
theorem am_Lo.set {ad : Nat → Nat} {ls ls' : Array Slot} {n i : Nat} {lv : am_V} {v : Value} (h : am_Lo ad ls n lv) (hc : am_cat1 v = true) (h' : lv_has ls' n ((i, am_tr ad v) :: (am_ps ad 0 lv).filter (fun q => !(q.1 == i) && !(q.1 + 1 == i && q.2.category == 2)))) : am_Lo ad ls' n (am_vset lv i v) := by
  refine ⟨⟨h'.1, h'.2.1, fun q hq => ?_⟩, by rw [am_vset_len]; exact h.2.1, fun j w hw => ?_⟩
  · obtain ⟨j, w, h1, rfl⟩ := am_ps_of _ _ hq
    rw [Nat.zero_add]
    rcases am_vset_at lv i j h1 with ⟨rfl, rfl⟩ | ⟨a, b⟩
    · exact h'.2.2 _ List.mem_cons_self
    · refine h'.2.2 (j, am_tr ad w) (List.mem_cons_of_mem _ (List.mem_filter.mpr ⟨?_, ?_⟩))
      · have := am_ps_in (ad := ad) lv 0 j b
        rw [Nat.zero_add] at this
        exact this
      · have hc1 := am_cat1_tr (ad := ad) (h.2.2 j w b)
        simp [a, hc1]
  · rcases am_vset_at lv i j hw with ⟨-, rfl⟩ | ⟨-, b⟩
    · exact hc
    · exact h.2.2 j w b
theorem am_tr_eq {ad ad' : Nat → Nat} {n : Nat} {v : Value} (h : am_rok n v = true) (ha : ∀ k, k < n ∨ k = am_scr → ad' k = ad k) : am_tr ad' v = am_tr ad v := by
  cases v with
  | ref k =>
    show Value.ref (ad' k) = Value.ref (ad k)
    simp only [am_rok, Bool.or_eq_true] at h
    rw [ha k]
    rcases h with h | h
    · exact Or.inl (by simpa [Nat.blt_eq] using h)
    · exact Or.inr (Nat.eq_of_beq_eq_true h)
  | _ => rfl
theorem am_st_eq {ad ad' : Nat → Nat} {n : Nat} : ∀ (st : List Value), am_sok n st = true → (∀ k, k < n ∨ k = am_scr → ad' k = ad k) → st.map (am_tr ad') = st.map (am_tr ad)
  | [], _, _ => rfl
  | v :: l, h, ha => by
    simp only [am_sok, Bool.and_eq_true] at h
    rw [List.map_cons, List.map_cons, am_tr_eq h.1 ha, am_st_eq l h.2 ha]
theorem am_ps_eq {ad ad' : Nat → Nat} {n : Nat} : ∀ (lv : am_V) (k : Nat), am_vok n lv = true → (∀ k, k < n ∨ k = am_scr → ad' k = ad k) → am_ps ad' k lv = am_ps ad k lv
  | [], _, _, _ => rfl
  | none :: l, k, h, ha => am_ps_eq l (k + 1) h ha
  | some v :: l, k, h, ha => by
    simp only [am_vok, Bool.and_eq_true] at h
    show (k, am_tr ad' v) :: am_ps ad' (k + 1) l = (k, am_tr ad v) :: am_ps ad (k + 1) l
    rw [am_tr_eq h.1 ha, am_ps_eq l (k + 1) h.2 ha]
theorem am_Lo.eq {ad ad' : Nat → Nat} {ls : Array Slot} {n N : Nat} {lv : am_V} (h : am_Lo ad ls n lv) (hk : am_vok N lv = true) (ha : ∀ k, k < N ∨ k = am_scr → ad' k = ad k) : am_Lo ad' ls n lv := ⟨by rw [am_ps_eq lv 0 hk ha]; exact h.1, h.2⟩
