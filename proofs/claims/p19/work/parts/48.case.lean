section CAS
variable {d : Nat} {g : am_G} {Q : am_Q}
/-- a draw's number -/
theorem drN_ex : ∃ f : Nat → Int32 → Nat, ∀ k x, f k x = (am_hi (am_lcg x)).toNatClampNeg % k := ⟨_, fun _ _ => rfl⟩
noncomputable def drN : Nat → Int32 → Nat := Classical.choose drN_ex
theorem drN_eq (k : Nat) (x : Int32) : drN k x = (am_hi (am_lcg x)).toNatClampNeg % k := Classical.choose_spec drN_ex k x
theorem drN_lt {k : Nat} {x : Int32} (h : 0 < k) : drN k x < k := by rw [drN_eq]; exact Nat.mod_lt _ h
theorem dr_eq {k j : Nat} {x : Int32} (h0 : 0 < k) (hk : k < 2 ^ 31) (hj : j < k) (e : am_hi (am_lcg x) - am_hi (am_lcg x) / nI k * nI k = nI j) : j = drN k x := by
  obtain ⟨q, hq, eq⟩ := am_hi_nI (am_lcg x)
  rw [drN_eq]
  rw [eq, pk_rem (by omega) h0 hk] at e
  rw [eq, ncl (by omega)]
  have := Nat.mod_lt q h0
  exact ((nI_eq (by omega) (by omega)).mp e).symm
theorem w_draw_x {k : Nat} (h0 : 0 < k) (hk : k < 2 ^ 31) (h : Q (some (.int (nI (drN k (g 15 1))))) LY (am_up g 15 1 (am_lcg (g 15 1)))) : am d 10 0 [some (.ref 15), some (.int (nI k))] [] LY g 0 0 none Q :=
  w_draw h0 hk (fun j hj e => by rw [dr_eq h0 hk hj e]; exact h)
theorem m_draw_x {k : Nat} (h0 : 0 < k) (hk : k < 2 ^ 31) (h : Q (some (.int (nI (drN k (g 22 20))))) LY (am_up g 22 20 (am_lcg (g 22 20)))) : am d 128 0 [some (.ref 22), some (.int (nI k))] [] LY g 0 0 none Q :=
  m_draw h0 hk (fun j hj e => by rw [dr_eq h0 hk hj e]; exact h)
/-- the n-th place joined -/
def ntF (y : Int32) (p : Nat) : Nat → Nat → Nat → Nat
  | 0, _, _ => p
  | n + 1, o, l => bif bt y o then (bif decide (l = 0) then o else ntF y p n (o + 1) (l - 1)) else ntF y p n (o + 1) l
theorem ntF_lt {y : Int32} {p : Nat} (hp : p < 8) : ∀ (n o l : Nat), o + n = 8 → ntF y p n o l < 8
  | 0, _, _, _ => hp
  | n + 1, o, l, h => by
    rw [ntF]
    cases bt y o with
    | true =>
      cases decide (l = 0) with
      | true => show o < 8; omega
      | false => exact ntF_lt hp n (o + 1) (l - 1) (by omega)
    | false => exact ntF_lt hp n (o + 1) l (by omega)
theorem ntF_eq {y : Int32} {p q : Nat} (hq : q < 8) (hb : bt y q = true) : ∀ (n o l : Nat), o + n = 8 → o ≤ q → bcN y q = bcN y o + l → ntF y p n o l = q
  | 0, _, _, h, h2, _ => by omega
  | n + 1, o, l, h, h2, h3 => by
    rw [ntF]
    rcases Nat.lt_or_ge o q with e | e
    · have m : ∀ a b, a ≤ b → bcN y a ≤ bcN y b := by
        intro a b hab
        induction hab with
        | refl => exact Nat.le_refl _
        | step _ ih => exact Nat.le_trans ih (by rw [bcN]; omega)
      have m1 := m (o + 1) q e
      rw [bcN] at m1
      cases hbo : bt y o with
      | true =>
        rw [hbo] at m1
        change bcN y o + 1 ≤ _ at m1
        rw [decide_eq_false (show ¬ l = 0 by omega)]
        exact ntF_eq hq hb n (o + 1) (l - 1) (by omega) e (by rw [bcN, hbo]; show bcN y q = bcN y o + 1 + (l - 1); omega)
      | false => exact ntF_eq hq hb n (o + 1) l (by omega) e (by rw [bcN, hbo]; exact h3)
    · have e2 : o = q := by omega
      subst e2
      rw [hb, decide_eq_true (show l = 0 by omega)]
      rfl
theorem nbF_nt {y : Int32} {p : Nat} (hp : p < 8) (ey : g 3 p = y) : ∀ (n o l : Nat), o + n = 8 → l < 2 ^ 31 → nbF g (nI p) n o (nI l) = nI (ntF y p n o l) := by
  intro n
  induction n with
  | zero => intro o l _ _; rw [nbF, ntF]
  | succ n ih =>
    intro o l h hl
    rw [nbF, ntF, ncl (show p < 2 ^ 31 by omega), ey, hs_bt (show o < 32 by omega)]
    cases bt y o with
    | true =>
      rw [cond_true, cond_true]
      by_cases e : l = 0
      · rw [decide_eq_true e, cond_true, e, decide_eq_true (show nI 0 = 0 from rfl), cond_true]
      · rw [decide_eq_false e, decide_eq_false (nI_ne0 (by omega) hl), cond_false, cond_false]
        obtain ⟨l', rfl⟩ : ∃ l', l = l' + 1 := ⟨l - 1, by omega⟩
        rw [pk_m1, ih (o + 1) l' (by omega) (by omega), show l' + 1 - 1 = l' from rfl]
    | false =>
      rw [cond_false, cond_false]
      exact ih (o + 1) l (by omega) hl
/-- the house as it is made: near by near -/
def ringF : Nat → Nat → Int32
  | 0 => fun _ => 0
  | k + 1 => nrF (ringF k) k ((k + 1) % 8)
noncomputable def dA (x : Int32) : Nat := drN 8 x
noncomputable def dB (x : Int32) : Nat := (drN 8 x + 2 + drN 5 (am_lcg x)) % 8
noncomputable def addD (x : Int32) (F : Nat → Int32) : Nat → Int32 := bif bt (F (dA x)) (dB x) then F else nrF F (dA x) (dB x)
noncomputable def cntD (x : Int32) (F : Nat → Int32) (n : Nat) : Nat := bif bt (F (dA x)) (dB x) then n else n + 1
noncomputable def dst (x : Int32) : Nat → Int32 × (Nat → Int32) × Nat
  | 0 => (x, ringF 8, 8)
  | k + 1 => (am_lcg (am_lcg (dst x k).1), addD (dst x k).1 (dst x k).2.1, cntD (dst x k).1 (dst x k).2.1 (dst x k).2.2)
theorem dA_lt {x : Int32} : dA x < 8 := by rw [dA]; exact drN_lt (by decide)
theorem dB_lt {x : Int32} : dB x < 8 := by rw [dB]; exact Nat.mod_lt _ (by decide)
theorem dAB {x : Int32} : dA x ≠ dB x := by
  unfold dA dB
  have h1 : drN 8 x < 8 := drN_lt (by decide)
  have h2 : drN 5 (am_lcg x) < 5 := drN_lt (by decide)
  omega
/-- a house with doors between others alone, some from each place -/
def FOK (F : Nat → Int32) : Prop := ∀ p, p < 8 → bt (F p) p = false ∧ (∀ q, q < 32 → 8 ≤ q → bt (F p) q = false) ∧ ∃ q, q < 8 ∧ bt (F p) q = true
theorem FOK.join {F : Nat → Int32} {i j : Nat} (h : FOK F) (hi : i < 8) (hj : j < 8) (hij : i ≠ j) : FOK (nrF F i j) := by
  intro p hp
  obtain ⟨h1, h2, q, hq, h3⟩ := h p hp
  refine ⟨?_, fun q hq h8 => ?_, q, hq, ?_⟩
  · rw [nrF_bt hi hj (by omega) hij, h1]
    by_cases e : p = i
    · have : ¬ p = j := fun z => hij (e.symm.trans z)
      simp [this]
    · simp [e]
  · rw [nrF_bt hi hj hq hij, h2 q hq h8, decide_eq_false (show ¬ q = j by omega), decide_eq_false (show ¬ q = i by omega)]
    simp
  · rw [nrF_bt hi hj (by omega) hij, h3]; rfl
theorem FOK.ring : FOK (ringF 8) := by
  have h : ∀ p, p < 8 → bt (ringF 8 p) p = false ∧ (∀ q, q < 32 → 8 ≤ q → bt (ringF 8 p) q = false) ∧ bt (ringF 8 p) ((p + 1) % 8) = true := by decide +kernel
  exact fun p hp => ⟨(h p hp).1, (h p hp).2.1, (p + 1) % 8, by omega, (h p hp).2.2⟩
theorem FOK_addD {x : Int32} {F : Nat → Int32} (h : FOK F) : FOK (addD x F) := by
  unfold addD
  cases bt (F (dA x)) (dB x) with
  | true => exact h
  | false => exact h.join dA_lt dB_lt dAB
theorem FOK_dst {x : Int32} (k : Nat) : FOK (dst x k).2.1 := by
  induction k with
  | zero => exact FOK.ring
  | succ k ih => rw [dst]; exact FOK_addD ih
theorem cntD_le {x : Int32} {F : Nat → Int32} {n : Nat} : cntD x F n ≤ n + 1 := by
  unfold cntD
  cases bt (F (dA x)) (dB x) with
  | true => rw [cond_true]; omega
  | false => rw [cond_false]; omega
theorem dst_cnt {x : Int32} (k : Nat) : (dst x k).2.2 ≤ 8 + k := by
  induction k with
  | zero => rw [dst]; exact Nat.le_refl 8
  | succ k ih =>
    rw [dst]
    have := @cntD_le (dst x k).1 (dst x k).2.1 (dst x k).2.2
    exact Nat.le_trans this (by omega)
theorem b_small {y : Int32} (h : ∀ q, q < 32 → 8 ≤ q → bt y q = false) : ∃ s, s < 256 ∧ y = nI s := by
  have e : y &&& 255 = y := b_ext (fun i hi => by
    rw [b_and, b_255]
    rcases Nat.lt_or_ge i 8 with q | q
    · rw [decide_eq_true q, Bool.and_true]
    · rw [h i hi q]; rfl)
  obtain ⟨j, hj, ej⟩ := pk_andE y (m := 255) 8 (by decide)
  exact ⟨j, hj, e.symm.trans ej⟩
theorem bc_tab : ∀ s, s < 256 → am_bc (nI s) = nI (bcN (nI s) 8) := by decide +kernel
/-- how many places are joined to one -/
def degF (F : Nat → Int32) (p : Nat) : Nat := bcN (F p) 8
theorem FOK.deg {F : Nat → Int32} {p : Nat} (h : FOK F) (hp : p < 8) : am_bc (F p) = nI (degF F p) ∧ 0 < degF F p ∧ degF F p ≤ 8 := by
  obtain ⟨h1, h2, q, hq, h3⟩ := h p hp
  obtain ⟨s, hs, es⟩ := b_small h2
  refine ⟨by unfold degF; rw [es]; exact bc_tab s hs, ?_, bcN_le _ _⟩
  have m : ∀ a b, a ≤ b → bcN (F p) a ≤ bcN (F p) b := by
    intro a b hab
    induction hab with
    | refl => exact Nat.le_refl _
    | step _ ih => exact Nat.le_trans ih (by rw [bcN]; omega)
  have := m (q + 1) 8 hq
  rw [bcN, h3] at this
  change bcN (F p) q + 1 ≤ _ at this
  unfold degF
  omega
def nthF (F : Nat → Int32) (p k : Nat) : Nat := ntF (F p) p 8 0 k
theorem nthF_lt {F : Nat → Int32} {p k : Nat} (hp : p < 8) : nthF F p k < 8 := ntF_lt hp 8 0 k rfl
/-- steps on the house -/
def jF (F : Nat → Int32) (p : Nat) : Int32 := F p ||| am_sh (nI p)
def stN (J : Nat → Int32) (a : Nat) : Nat → Int32
  | 0 => am_sh (nI a)
  | n + 1 => arV J (stN J a n)
def dsF (J : Nat → Int32) (a b : Nat) : Nat → Nat → Nat
  | 0, _ => 8
  | n + 1, k => bif bt (stN J a k) b then k else dsF J a b n (k + 1)
def dsN (J : Nat → Int32) (a b : Nat) : Nat := dsF J a b 8 0
theorem dsF_eq {J : Nat → Int32} {a b m : Nat} (h : bt (stN J a m) b = true) (hl : ∀ k, k < m → bt (stN J a k) b = false) : ∀ (n k : Nat), k + n = 8 → k ≤ m → m < 8 → dsF J a b n k = m
  | 0, _, h1, h2, h3 => by omega
  | n + 1, k, h1, h2, h3 => by
    rw [dsF]
    rcases Nat.lt_or_ge k m with e | e
    · rw [hl k e]; exact dsF_eq h hl n (k + 1) (by omega) e h3
    · have : k = m := by omega
      subst this
      rw [h]; rfl
theorem stN_J {J K : Nat → Int32} {a : Nat} (h : ∀ p, p < 8 → J p = K p) : ∀ n, stN J a n = stN K a n
  | 0 => rfl
  | n + 1 => by rw [stN, stN, stN_J h n]; exact arV_J h
theorem dsF_J {J K : Nat → Int32} {a b : Nat} (h : ∀ p, p < 8 → J p = K p) : ∀ n k, dsF J a b n k = dsF K a b n k
  | 0, _ => rfl
  | n + 1, k => by rw [dsF, dsF, stN_J h k, dsF_J h n]
/-- the class's house -/
def HC (g : am_G) (F : Nat → Int32) : Prop := (∀ p, p < 8 → g 3 p = F p) ∧ ∀ s, s < 256 → g 4 s = arV (jF F) (nI s)
theorem HC.of {F : Nat → Int32} {g' : am_G} (h : HC g F) (e3 : g' 3 = g 3) (e4 : g' 4 = g 4) : HC g' F := by unfold HC at *; rw [e3, e4]; exact h
theorem nrF_8 {F K : Nat → Int32} {i j : Nat} (hi : i < 8) (hj : j < 8) (h : ∀ p, p < 8 → F p = K p) : ∀ p, p < 8 → nrF F i j p = nrF K i j p := by
  intro p hp
  unfold nrF
  by_cases e : p = j
  · subst e
    rw [pk_us, pk_us]
    by_cases e2 : p = i
    · subst e2; rw [pk_us, pk_us, h p hp]
    · rw [pk_un e2, pk_un e2, h p hp]
  · rw [pk_un e, pk_un e]
    by_cases e2 : p = i
    · subst e2; rw [pk_us, pk_us, h p hp]
    · rw [pk_un e2, pk_un e2, h p hp]
theorem HC.join {F : Nat → Int32} {g' : am_G} {i j : Nat} (h : HC g F) (hi : i < 8) (hj : j < 8) (hij : i ≠ j) (e3 : g' 3 = nrF (g 3) i j) (e4 : ∀ s, s < 256 → g' 4 s = stF i j s (g 4 s)) : HC g' (nrF F i j) := by
  refine ⟨fun p hp => by rw [e3]; exact nrF_8 hi hj h.1 p hp, fun s hs => ?_⟩
  rw [e4 s hs, h.2 s hs]
  refine b_eq (fun q hq => ?_)
  rw [stF_bt hi hj hq]
  simp only [Bool.or_eq_true, Bool.and_eq_true, decide_eq_true_iff]
  rw [arV_bt, arV_bt]
  have jb : ∀ p, bt (jF (nrF F i j) p) q = (bt (jF F p) q || (decide (p = i) && decide (q = j) || decide (p = j) && decide (q = i))) := by
    intro p
    unfold jF
    rw [b_or, b_or, nrF_bt hi hj hq hij]
    cases bt (F p) q <;> cases bt (am_sh (nI p)) q <;> simp
  constructor
  · rintro ((⟨p, hp, h1, h2⟩ | ⟨h1, h2⟩) | ⟨h1, h2⟩)
    · exact ⟨p, hp, h1, by rw [jb, h2]; rfl⟩
    · exact ⟨i, hi, h1, by rw [jb]; simp [h2]⟩
    · exact ⟨j, hj, h1, by rw [jb]; simp [h2]⟩
  · rintro ⟨p, hp, h1, h2⟩
    rw [jb] at h2
    simp only [Bool.or_eq_true, Bool.and_eq_true, decide_eq_true_iff] at h2
    rcases h2 with h2 | ⟨h2, h3⟩ | ⟨h2, h3⟩
    · exact Or.inl (Or.inl ⟨p, hp, h1, h2⟩)
    · subst h2; exact Or.inl (Or.inr ⟨h1, h3⟩)
    · subst h2; exact Or.inr ⟨h1, h3⟩
theorem HC.step {F : Nat → Int32} {s : Int32} (h : HC g F) : g 4 (s &&& 255).toNatClampNeg = arV (jF F) s := by
  obtain ⟨j, hj, ej⟩ := pk_andE s (m := 255) 8 (by decide)
  rw [ej, ncl (show j < 2 ^ 31 by have : (2 : Nat) ^ 8 = 256 := rfl; omega), h.2 j hj, ← ej]
  exact arV_255
theorem dbF_ds {F : Nat → Int32} {a b : Nat} (h : HC g F) (hb : b < 8) : ∀ (n k : Nat), k + n = 8 → dbF g (nI b) n k (stN (jF F) a k) = nI (dsF (jF F) a b n k)
  | 0, _, _ => rfl
  | n + 1, k, hk => by
    rw [dbF, dsF, hs_bt (show b < 32 by omega)]
    cases bt (stN (jF F) a k) b with
    | true => rfl
    | false =>
      show dbF g (nI b) n (k + 1) (g 4 (stN (jF F) a k &&& 255).toNatClampNeg) = nI (dsF (jF F) a b n (k + 1))
      rw [h.step]
      exact dbF_ds h hb n (k + 1) (by omega)
theorem dbw_ds {F : Nat → Int32} {a b : Nat} (h : HC g F) (hb : b < 8) : dbw g (nI a) (nI b) = nI (dsN (jF F) a b) := dbF_ds h hb 8 0 rfl
theorem dsF_le {J : Nat → Int32} {a b : Nat} : ∀ (n k : Nat), k + n = 8 → dsF J a b n k ≤ 8
  | 0, _, _ => Nat.le_refl 8
  | n + 1, k, h => by
    rw [dsF]
    cases bt (stN J a k) b with
    | true => show k ≤ 8; omega
    | false => exact dsF_le n (k + 1) (by omega)
/-- the least place joined that is fewer doors away -/
def stpF (F : Nat → Int32) (a b far : Nat) : Nat → Nat → Nat
  | 0, _ => a
  | n + 1, p => bif bt (F a) p && decide (dsN (jF F) p b < far) then p else stpF F a b far n (p + 1)
def stp (F : Nat → Int32) (a b : Nat) : Nat := stpF F a b (dsN (jF F) a b) 8 0
theorem stpF_lt {F : Nat → Int32} {a b far : Nat} (ha : a < 8) : ∀ (n p : Nat), p + n = 8 → stpF F a b far n p < 8
  | 0, _, _ => ha
  | n + 1, p, h => by
    rw [stpF]
    cases bt (F a) p && decide (dsN (jF F) p b < far) with
    | true => show p < 8; omega
    | false => exact stpF_lt ha n (p + 1) (by omega)
theorem stp_lt {F : Nat → Int32} {a b : Nat} (ha : a < 8) : stp F a b < 8 := stpF_lt ha 8 0 rfl
theorem stpF_0 {F : Nat → Int32} {a b : Nat} : ∀ (n p : Nat), stpF F a b 0 n p = a
  | 0, _ => rfl
  | n + 1, p => by rw [stpF, decide_eq_false (Nat.not_lt_zero _), Bool.and_false]; exact stpF_0 n (p + 1)
theorem stpF_eq {F : Nat → Int32} {a b far y : Nat} (hb : bt (F a) y = true) (hd : dsN (jF F) y b < far) (hl : ∀ q, q < y → bt (F a) q = true → far ≤ dsN (jF F) q b) : ∀ (n p : Nat), p + n = 8 → p ≤ y → y < 8 → stpF F a b far n p = y
  | 0, _, h1, h2, h3 => by omega
  | n + 1, p, h1, h2, h3 => by
    rw [stpF]
    rcases Nat.lt_or_ge p y with e | e
    · have e1 : (bt (F a) p && decide (dsN (jF F) p b < far)) = false := by
        cases hbp : bt (F a) p with
        | false => rfl
        | true => rw [decide_eq_false (Nat.not_lt.mpr (hl p e hbp))]; rfl
      rw [e1]
      exact stpF_eq hb hd hl n (p + 1) (by omega) e h3
    · have : p = y := by omega
      subst this
      rw [hb, decide_eq_true hd]; rfl
theorem spF_stp {F : Nat → Int32} {a b far : Nat} (h : HC g F) (ha : a < 8) (hb : b < 8) (hf : far ≤ 8) : ∀ (n p : Nat), p + n = 8 → spF g (nI a) (nI b) (nI far) n p = nI (stpF F a b far n p)
  | 0, _, _ => rfl
  | n + 1, p, hp => by
    rw [spF, stpF, ncl (show a < 2 ^ 31 by omega), h.1 a ha, hs_bt (show p < 32 by omega), dbw_ds h hb]
    have hd : dsN (jF F) p b ≤ 8 := dsF_le 8 0 rfl
    rw [show decide (nI (dsN (jF F) p b) < nI far) = decide (dsN (jF F) p b < far) from decide_eq_decide.mpr (nI_ltI (by omega) (by omega))]
    cases bt (F a) p && decide (dsN (jF F) p b < far) with
    | true => rfl
    | false => exact spF_stp h ha hb hf n (p + 1) (by omega)
theorem spw_stp {F : Nat → Int32} {a b : Nat} (h : HC g F) (ha : a < 8) (hb : b < 8) : spw g (nI a) (nI b) = nI (stp F a b) := by
  unfold spw
  rw [dbw_ds h hb]
  exact spF_stp h ha hb (dsF_le 8 0 rfl) 8 0 rfl
/-- the case by its number -/
def lcN : Nat → Int32 → Int32
  | 0, x => x
  | n + 1, x => am_lcg (lcN n x)
noncomputable def mkF (x : Int32) : Nat → Int32 := (dst x 2).2.1
noncomputable def mkL (x : Int32) (w : Nat) : Nat := drN 8 (lcN w (dst x 2).1)
noncomputable def mkX2 (x : Int32) : Int32 := lcN 3 (dst x 2).1
noncomputable def wst (F : Nat → Int32) (s : Int32 × Nat) : Int32 × Nat := bif decide (drN 3 s.1 = 0) then (am_lcg s.1, s.2) else (am_lcg (am_lcg s.1), nthF F s.2 (drN (degF F s.2) (am_lcg s.1)))
noncomputable def wS (F : Nat → Int32) (x : Int32) : Nat → Int32 × Nat
  | 0 => (am_lcg x, drN 8 x)
  | t + 1 => wst F (wS F x t)
theorem wst_lt {F : Nat → Int32} {s : Int32 × Nat} (h : s.2 < 8) : (wst F s).2 < 8 := by
  unfold wst
  cases decide (drN 3 s.1 = 0) with
  | true => rw [cond_true]; exact h
  | false => rw [cond_false]; exact nthF_lt h
theorem wS_lt {F : Nat → Int32} {x : Int32} (t : Nat) : (wS F x t).2 < 8 := by
  induction t with
  | zero => rw [wS]; exact drN_lt (by decide)
  | succ t ih => rw [wS]; exact wst_lt ih
noncomputable def wX (F : Nat → Int32) (x : Int32) : Int32 := (wS F x 9).1
noncomputable def xQ (F : Nat → Int32) (x : Int32) : Nat → Int32
  | 0 => x
  | q + 1 => wX F (xQ F x q)
noncomputable def mkW (x : Int32) (q t : Nat) : Nat := (wS (mkF x) (xQ (mkF x) (mkX2 x) q) t).2
noncomputable def mkX3 (x : Int32) : Int32 := xQ (mkF x) (mkX2 x) 4
noncomputable def mkT (x : Int32) : Nat := 5 + drN 4 (mkX3 x)
noncomputable def mkP (x : Int32) : Nat := mkW x 0 (mkT x)
noncomputable def mkD (x : Int32) : Nat := 1 + drN 3 (lcN 1 (mkX3 x))
noncomputable def mkO (x : Int32) : Nat := drN 3 (lcN 2 (mkX3 x))
noncomputable def mkX4 (x : Int32) : Int32 := lcN 3 (mkX3 x)
noncomputable def apP (x : Int32) : Nat → Nat
  | 0 => mkL x (mkO x)
  | t + 1 => stp (mkF x) (apP x t) (mkP x)
noncomputable def mkW1 (x : Int32) (q t : Nat) : Nat := if q = mkD x then apP x t else mkW x q t
noncomputable def mkA (x : Int32) (q : Nat) : Nat := if mkW1 x q (mkT x - 1) = mkP x then nthF (mkF x) (mkP x) 0 else mkW1 x q (mkT x - 1)
noncomputable def mkW2 (x : Int32) (q t : Nat) : Nat := if (1 ≤ q ∧ q ≠ mkD x ∧ mkW1 x q (mkT x) = mkP x) ∧ mkT x ≤ t then mkA x q else mkW1 x q t
noncomputable def mkE (x : Int32) (i : Nat) : Nat := drN 10 (lcN i (mkX4 x))
abbrev cRow : Type := Int32 × Int32 × Int32 × Int32 × Int32
noncomputable def mkS (x : Int32) (q i : Nat) : cRow := bif decide (i < 2) then (5, nI q, nI (mkW2 x q (mkE x (4 + 2 * (q - 1) + i))), nI (mkE x (4 + 2 * (q - 1) + i)), 0) else bif decide (mkW2 x q 0 = mkW2 x 0 0) then (7, nI q, 0, nI (mkW2 x q 0), 0) else (6, nI q, nI (mkP x), nI (mkT x), 0)
noncomputable def mkB (x : Int32) : Int32 := bif decide (mkD x = 1) then 2 else 1
noncomputable def mkR0 (x : Int32) (k : Nat) : cRow := (0, nI k, nI (mkW2 x k (mkE x k)), nI (mkE x k), 0)
noncomputable def mkR4 (x : Int32) : cRow := (4, mkB x, 0, 0, 0)
noncomputable def mkR5 (x : Int32) : cRow := (2, nI (mkO x), 0, 0, 0)
noncomputable def mkR6 (x : Int32) : cRow := (3, nI (mkO x), nI (mkT x + 1), 0, 0)
noncomputable def mkR (x : Int32) (k : Nat) : cRow := bif decide (k < 4) then mkR0 x k else bif decide (k = 4) then mkR4 x else bif decide (k = 5) then mkR5 x else bif decide (k = 6) then mkR6 x else mkS x ((k - 7) / 3 + 1) ((k - 7) % 3)
theorem mkP_lt {x : Int32} : mkP x < 8 := by rw [mkP, mkW]; exact wS_lt _
theorem mkT_rg {x : Int32} : 5 ≤ mkT x ∧ mkT x ≤ 8 := by
  have : drN 4 (mkX3 x) < 4 := drN_lt (by decide)
  rw [mkT]; omega
theorem mkD_rg {x : Int32} : 1 ≤ mkD x ∧ mkD x ≤ 3 := by
  have : drN 3 (lcN 1 (mkX3 x)) < 3 := drN_lt (by decide)
  rw [mkD]; omega
theorem mkO_lt {x : Int32} : mkO x < 3 := by rw [mkO]; exact drN_lt (by decide)
theorem mkL_lt {x : Int32} {w : Nat} : mkL x w < 8 := by rw [mkL]; exact drN_lt (by decide)
theorem apP_lt {x : Int32} (t : Nat) : apP x t < 8 := by
  induction t with
  | zero => rw [apP]; exact mkL_lt
  | succ t ih => rw [apP]; exact stp_lt ih
theorem mkW1_lt {x : Int32} {q t : Nat} : mkW1 x q t < 8 := by
  rw [mkW1]
  split
  · exact apP_lt t
  · rw [mkW]; exact wS_lt t
theorem mkA_lt {x : Int32} {q : Nat} : mkA x q < 8 := by
  rw [mkA]
  split
  · exact nthF_lt mkP_lt
  · exact mkW1_lt
theorem mkW2_lt {x : Int32} {q t : Nat} : mkW2 x q t < 8 := by
  rw [mkW2]
  split
  · exact mkA_lt
  · exact mkW1_lt
theorem mkE_lt {x : Int32} {i : Nat} : mkE x i < 10 := by rw [mkE]; exact drN_lt (by decide)
theorem FOK_mk {x : Int32} : FOK (mkF x) := by rw [mkF]; exact FOK_dst 2
end CAS
