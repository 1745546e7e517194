section TIE
variable {d : Nat} {g : am_G} {Q : am_Q}
/-- all places joined to some, by values -/
def arF (J : Nat → Int32) (x : Int32) : Nat → Int32
  | 0 => 0
  | k + 1 => arF J x k ||| (bif bt x k then J k else 0)
def arV (J : Nat → Int32) (x : Int32) : Int32 := arF J x 8
theorem arF_bt {J : Nat → Int32} {x : Int32} {q : Nat} : ∀ k, bt (arF J x k) q = true ↔ ∃ p, p < k ∧ bt x p = true ∧ bt (J p) q = true := by
  intro k
  induction k with
  | zero =>
    rw [arF, b_0]
    constructor
    · intro e; cases e
    · rintro ⟨p, hp, -⟩; exact absurd hp (by omega)
  | succ k ih =>
    rw [arF, b_or, Bool.or_eq_true, ih]
    constructor
    · rintro (⟨p, hp, h⟩ | h)
      · exact ⟨p, by omega, h⟩
      · cases hb : bt x k with
        | true => rw [hb] at h; exact ⟨k, by omega, hb, h⟩
        | false => rw [hb] at h; change bt 0 q = true at h; rw [b_0] at h; cases h
    · rintro ⟨p, hp, h1, h2⟩
      rcases Nat.lt_succ_iff_lt_or_eq.mp hp with e | e
      · exact Or.inl ⟨p, e, h1, h2⟩
      · subst e; rw [h1]; exact Or.inr h2
theorem arV_bt {J : Nat → Int32} {x : Int32} {q : Nat} : bt (arV J x) q = true ↔ ∃ p, p < 8 ∧ bt x p = true ∧ bt (J p) q = true := arF_bt 8
theorem b_eq {x y : Int32} (h : ∀ i, i < 32 → (bt x i = true ↔ bt y i = true)) : x = y := b_ext (fun i hi => Bool.eq_iff_iff.mpr (h i hi))
theorem arV_x {J : Nat → Int32} {x y : Int32} (h : ∀ p, p < 8 → bt x p = bt y p) : arV J x = arV J y := b_eq (fun q hq => by
  rw [arV_bt, arV_bt]
  constructor
  · rintro ⟨p, hp, h1, h2⟩; exact ⟨p, hp, by rw [← h p hp]; exact h1, h2⟩
  · rintro ⟨p, hp, h1, h2⟩; exact ⟨p, hp, by rw [h p hp]; exact h1, h2⟩)
theorem arV_J {J K : Nat → Int32} {x : Int32} (h : ∀ p, p < 8 → J p = K p) : arV J x = arV K x := b_eq (fun q hq => by
  rw [arV_bt, arV_bt]
  constructor
  · rintro ⟨p, hp, h1, h2⟩; exact ⟨p, hp, h1, by rw [← h p hp]; exact h2⟩
  · rintro ⟨p, hp, h1, h2⟩; exact ⟨p, hp, h1, by rw [h p hp]; exact h2⟩)
theorem arV_255 {J : Nat → Int32} {x : Int32} : arV J (x &&& 255) = arV J x := arV_x (fun p hp => by rw [b_and, b_255, decide_eq_true hp, Bool.and_true])
/-- a row names a person that a house of n hasn't: both see it alike -/
theorem nmF_iff {n : Int32} : ∀ (m k : Nat), nmF g n m k = true ↔ ∃ i, k ≤ i ∧ i < k + m ∧ nm1 g n i = true := by
  intro m
  induction m with
  | zero =>
    intro k
    rw [nmF]
    constructor
    · intro e; cases e
    · rintro ⟨i, h1, h2, -⟩; omega
  | succ m ih =>
    intro k
    rw [nmF]
    cases hb : nm1 g n k with
    | true => exact ⟨fun _ => ⟨k, Nat.le_refl k, by omega, hb⟩, fun _ => rfl⟩
    | false =>
      show nmF g n m (k + 1) = true ↔ _
      rw [ih]
      constructor
      · rintro ⟨i, h1, h2, h3⟩; exact ⟨i, by omega, by omega, h3⟩
      · rintro ⟨i, h1, h2, h3⟩
        refine ⟨i, ?_, by omega, h3⟩
        rcases Nat.lt_or_ge k i with e | e
        · exact e
        · have : i = k := by omega
          subst this
          rw [hb] at h3; cases h3
theorem nmM_iff {n : Int32} : ∀ (c : Nat), nmM g n c = true ↔ ∃ i, i < c ∧ nm1M g n i = true := by
  intro c
  induction c with
  | zero =>
    rw [nmM]
    constructor
    · intro e; cases e
    · rintro ⟨i, h1, -⟩; omega
  | succ c ih =>
    rw [nmM, Bool.or_eq_true, ih]
    constructor
    · rintro (⟨i, h1, h2⟩ | h)
      · exact ⟨i, by omega, h2⟩
      · exact ⟨c, by omega, h⟩
    · rintro ⟨i, h1, h2⟩
      rcases Nat.lt_succ_iff_lt_or_eq.mp h1 with e | e
      · exact Or.inl ⟨i, e, h2⟩
      · subst e; exact Or.inr h2
/-- the tie of both states, by groups of cells -/
def Ta (g : am_G) : Prop := (g 1 3 = g 22 0 ∧ g 2 2 = g 22 1 ∧ g 1 4 = g 22 4 ∧ g 1 5 = g 22 5 ∧ g 1 6 = g 22 6 ∧ g 5 1 = g 22 7) ∧ (∃ n, n ≤ 12 ∧ g 22 1 = nI n) ∧ (g 22 6 = -1 ∨ ∃ q, q < 6 ∧ g 22 6 = nI q) ∧ ∃ p, p < 8 ∧ g 22 4 = nI p
def Tj (g : am_G) : Prop := (∀ p, p < 8 → g 3 p ||| am_sh (nI p) = g 23 p) ∧ ∀ s, s < 256 → g 4 s = arV (g 23) (nI s)
def Tl (g : am_G) : Prop := ∀ w, w < 3 → g 8 w = g 24 w
def Tr (g : am_G) (c : Nat) : Prop := ∀ k, k < c → g 6 (k * 5) = g 25 k ∧ g 6 (k * 5 + 1) = g 26 (4 * k) ∧ g 6 (k * 5 + 2) = g 26 (4 * k + 1) ∧ g 6 (k * 5 + 3) = g 26 (4 * k + 2) ∧ g 6 (k * 5 + 4) = g 26 (4 * k + 3)
def Tf (g : am_G) (c : Nat) : Prop := ∀ k, k < 32 → bt (g 5 2) k = (decide (k < c) && decide (0 < g 27 k))
def To (g : am_G) (f : Nat) : Prop := ∀ k, k < 32 → (bt (g 5 2) k = true ↔ ∃ i, i < f ∧ g 7 i = nI k)
def Tc (g : am_G) (c B : Nat) : Prop := ∃ j, j ≤ B ∧ g 22 11 = nI j ∧ ∀ k, k < c → ∃ i, i ≤ j ∧ g 27 k = nI i
def TS (g : am_G) : Prop := ∀ j, j < 2 → g (18 + 2 * j) 1 = g 28 j ∧ g (18 + 2 * j) 2 = g 29 j ∧ (¬ g 28 j < 0 ∨ g 28 j = -1)
def Ti (g : am_G) : Prop := ∀ j i m, j < 2 → g 29 j = nI m → m ≤ 60 → i < m → g (19 + 2 * j) i = g 30 (60 * j + i)
def T (g : am_G) (B c f : Nat) : Prop := (c ≤ 20 ∧ f ≤ 20 ∧ g 5 1 = nI c ∧ g 5 4 = nI f) ∧ (IC g ∧ IM g) ∧ Ta g ∧ Tj g ∧ Tl g ∧ Tr g c ∧ (Tf g c ∧ To g f) ∧ Tc g c B ∧ (TS g ∧ Ti g)
theorem Tj.of {g' : am_G} (h : Tj g) (e3 : g' 3 = g 3) (e4 : g' 4 = g 4) (e23 : g' 23 = g 23) : Tj g' := by unfold Tj at *; rw [e3, e4, e23]; exact h
theorem Tl.of {g' : am_G} (h : Tl g) (e8 : g' 8 = g 8) (e24 : g' 24 = g 24) : Tl g' := by unfold Tl at *; rw [e8, e24]; exact h
theorem Tr.of {g' : am_G} {c : Nat} (h : Tr g c) (e6 : g' 6 = g 6) (e25 : g' 25 = g 25) (e26 : g' 26 = g 26) : Tr g' c := by unfold Tr at *; rw [e6, e25, e26]; exact h
theorem Tf.of {g' : am_G} {c : Nat} (h : Tf g c) (e : g' 5 2 = g 5 2) (e27 : g' 27 = g 27) : Tf g' c := by unfold Tf at *; rw [e, e27]; exact h
theorem To.of {g' : am_G} {f : Nat} (h : To g f) (e : g' 5 2 = g 5 2) (e7 : g' 7 = g 7) : To g' f := by unfold To at *; rw [e, e7]; exact h
theorem Tc.of {g' : am_G} {c B : Nat} (h : Tc g c B) (e : g' 22 11 = g 22 11) (e27 : g' 27 = g 27) : Tc g' c B := by unfold Tc at *; rw [e, e27]; exact h
theorem Tc.le {c B B' : Nat} (h : Tc g c B) (hB : B ≤ B') : Tc g c B' := by
  obtain ⟨j, hj, e, h⟩ := h
  exact ⟨j, by omega, e, h⟩
theorem TS.of {g' : am_G} (h : TS g) (e18 : g' 18 = g 18) (e20 : g' 20 = g 20) (e28 : g' 28 = g 28) (e29 : g' 29 = g 29) : TS g' := fun j hj => by
  have := h j hj
  rw [e28, e29]
  rcases (show j = 0 ∨ j = 1 by omega) with e | e <;> subst e
  · rw [show 18 + 2 * 0 = 18 from rfl, e18]; exact this
  · rw [show 18 + 2 * 1 = 20 from rfl, e20]; exact this
theorem Ti.of {g' : am_G} (h : Ti g) (e19 : g' 19 = g 19) (e21 : g' 21 = g 21) (e29 : g' 29 = g 29) (e30 : g' 30 = g 30) : Ti g' := fun j i m hj hm hm2 hi => by
  rw [e29] at hm
  have := h j i m hj hm hm2 hi
  rw [e30]
  rcases (show j = 0 ∨ j = 1 by omega) with e | e <;> subst e
  · rw [show 19 + 2 * 0 = 19 from rfl, e19]; exact this
  · rw [show 19 + 2 * 1 = 21 from rfl, e21]; exact this
theorem IM.hi {g' : am_G} (I : IM g) (f : ∀ k, 22 ≤ k → g' k = g k) : IM g' :=
  ⟨I.1.of (by rw [f 22 (by omega)]) (by rw [f 22 (by omega)]) (by rw [f 22 (by omega)]) (f 25 (by omega)) (f 26 (by omega)), I.2.1.of (f 23 (by omega)), I.2.2.1.of (f 24 (by omega)), I.2.2.2.of (f 29 (by omega))⟩
theorem IC.lo {g' : am_G} (I : IC g) (f : ∀ k, k < 22 → g' k = g k) : IC g' :=
  ⟨I.1.of (f 1 (by omega)) (f 5 (by omega)) (f 6 (by omega)) (f 7 (by omega)), by unfold SL; rw [f 18 (by omega), f 20 (by omega)]; exact I.2⟩
theorem IC.lo' {g' : am_G} (I : IC g) (f : ∀ k, k ≠ 8 → k < 22 → g' k = g k) : IC g' :=
  ⟨I.1.of (f 1 (by decide) (by omega)) (f 5 (by decide) (by omega)) (f 6 (by decide) (by omega)) (f 7 (by decide) (by omega)), by unfold SL; rw [f 18 (by decide) (by omega), f 20 (by decide) (by omega)]; exact I.2⟩
theorem nmF_M {n : Int32} {c : Nat} (tr : Tr g c) : nmF g n c 0 = nmM g n c := by
  have e : ∀ i, i < c → nm1 g n i = nm1M g n i := by
    intro i hi
    obtain ⟨a0, a1, a2, -⟩ := tr i hi
    unfold nm1 nm1M
    rw [a0, a1, a2]
  rw [Bool.eq_iff_iff, nmF_iff, nmM_iff]
  constructor
  · rintro ⟨i, -, h2, h3⟩; exact ⟨i, by omega, by rw [← e i (by omega)]; exact h3⟩
  · rintro ⟨i, h1, h2⟩; exact ⟨i, by omega, by omega, by rw [e i h1]; exact h2⟩
theorem nmM_of {g' : am_G} {n : Int32} {c : Nat} (e25 : g' 25 = g 25) (e26 : g' 26 = g 26) : nmM g' n c = nmM g n c := by
  induction c with
  | zero => rfl
  | succ c ih => rw [nmM, nmM, ih]; unfold nm1M; rw [e25, e26]
/-- a door's bits, the class's and the model's -/
theorem nrF_bt {f : Nat → Int32} {i j p q : Nat} (hi : i < 8) (hj : j < 8) (hq : q < 32) (hij : i ≠ j) : bt (nrF f i j p) q = (bt (f p) q || (decide (p = i) && decide (q = j) || decide (p = j) && decide (q = i))) := by
  unfold nrF
  by_cases e : p = j
  · subst e
    rw [pk_us, pk_un (Ne.symm hij), b_or, b_sh hq (by omega)]
    simp [Ne.symm hij]
  · rw [pk_un e]
    by_cases e2 : p = i
    · subst e2
      rw [pk_us, b_or, b_sh hq (by omega)]
      simp [e]
    · rw [pk_un e2]
      simp [e, e2]
theorem stF_bt {i j s q : Nat} {v : Int32} (hi : i < 8) (hj : j < 8) (hq : q < 32) : bt (stF i j s v) q = (bt v q || (bt (nI s) i && decide (q = j)) || (bt (nI s) j && decide (q = i))) := by
  unfold stF
  rw [hs_bt (by omega), hs_bt (by omega)]
  cases bt (nI s) i <;> cases bt (nI s) j <;> simp [b_or, b_sh hq (show i < 32 by omega), b_sh hq (show j < 32 by omega)]
theorem Tj.join {g' : am_G} {i j : Nat} (h : Tj g) (hi : i < 8) (hj : j < 8) (hij : i ≠ j) (e3 : g' 3 = nrF (g 3) i j) (e4 : ∀ s, s < 256 → g' 4 s = stF i j s (g 4 s)) (e23 : g' 23 = jnA g i j 23) : Tj g' := by
  refine ⟨fun p hp => ?_, fun s hs => ?_⟩
  · rw [e3, e23]
    refine b_ext (fun q hq => ?_)
    rw [b_or, nrF_bt hi hj hq hij, jnA_bt hi hj hq hij, ← h.1 p hp, b_or]
    cases bt (g 3 p) q <;> cases bt (am_sh (nI p)) q <;> simp
  · rw [e4 s hs, h.2 s hs, e23]
    refine b_eq (fun q hq => ?_)
    rw [stF_bt hi hj hq, arV_bt]
    simp only [Bool.or_eq_true, Bool.and_eq_true, decide_eq_true_iff]
    rw [arV_bt]
    constructor
    · rintro ((⟨p, hp, h1, h2⟩ | ⟨h1, h2⟩) | ⟨h1, h2⟩)
      · exact ⟨p, hp, h1, by rw [jnA_bt hi hj hq hij, h2]; rfl⟩
      · exact ⟨i, hi, h1, by rw [jnA_bt hi hj hq hij]; simp [h2]⟩
      · exact ⟨j, hj, h1, by rw [jnA_bt hi hj hq hij]; simp [h2]⟩
    · rintro ⟨p, hp, h1, h2⟩
      rw [jnA_bt hi hj hq hij] at h2
      simp only [Bool.or_eq_true, Bool.and_eq_true, decide_eq_true_iff] at h2
      rcases h2 with h2 | ⟨h2, h3⟩ | ⟨h2, h3⟩
      · exact Or.inl (Or.inl ⟨p, hp, h1, h2⟩)
      · subst h2; exact Or.inl (Or.inr ⟨h1, h3⟩)
      · subst h2; exact Or.inr ⟨h1, h3⟩
theorem rdr {p q : Prop} (h : ¬¬p) : p := Classical.not_not.mp h
/-- the count of finds is the tie's own -/
theorem T.cnt {B c f c' : Nat} (t : T g B c f) (hc : c' ≤ 20) (e : g 5 1 = nI c') : c' = c := (nI_eq (by omega) (by have := t.1.1; omega)).mp (e.symm.trans t.1.2.2.1)
theorem T.c7 {B c f : Nat} (t : T g B c f) : g 22 7 = nI c := t.2.2.1.1.2.2.2.2.2.symm.trans t.1.2.2.1
end TIE
