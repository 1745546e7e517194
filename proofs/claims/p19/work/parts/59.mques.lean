section MQU
variable {d : Nat} {L : am_L} {g : am_G} {Q : am_Q} {B c f : Nat}
theorem m_around_x {x : Int32} (h : Q (some (.int (arV (g 23) x))) LY g) : am d 108 0 [some (.ref 22), some (.int x), none, none] [] LY g 0 0 none Q := by
  refine m_around (fun r hr => ?_)
  have : r = arV (g 23) x := b_eq (fun q hq => by rw [hr q hq, arV_bt]; rfl)
  rw [this]; exact h
theorem b255_arV {J M : Nat → Int32} {i : Nat} (hi : i < 60) (own : ∀ a, a < 8 → bt (J a) a = true) (hM : lt255 M) : arV J 255 &&& M i = M i := b_ext (fun b hb => by
  rw [b_and]
  rcases Nat.lt_or_ge b 8 with e | e
  · rw [arV_bt.mpr ⟨b, e, by rw [b_255]; exact decide_eq_true e, own b e⟩, Bool.true_and]
  · rw [hM i hi b hb e, Bool.and_false])
theorem l_107_12_x {q : Nat} (hq : q < 6) (h : Q (some (.int (am_bi (fitV (g 23) (g 31) q)))) LY g) : ∀ (n t : Nat) (x s : Int32), t + n = 10 → x = nI t → s = fwC (g 23) (g 31) q t → am (d + 1) 107 12 [some (.ref 22), some (.int (nI q)), some (.int s), some (.int x)] [] LY g 0 0 none Q := by
  intro n
  induction n with
  | zero =>
    intro t x s ht hx es
    have ht : t = 10 := by omega
    subst ht; subst hx
    unfold fitV at h
    rw [← es] at h
    refine am_run_k 3 (And.intro (fun h6 => ?_) (fun hx => absurd ((show nI 10 ≤ nI 10 from nI_le (Nat.le_refl 10) (by decide))) hx))
    refine am_run_k 2 (And.intro (fun h7 => ?_) (fun h7 => ?_))
    · refine am_run_k 2 (And.intro (Or.inl rfl) ?_)
      have z : s = 0 := by first | exact h7 | exact rdr h7
      rw [decide_eq_true z] at h
      exact h
    · refine am_run_k 3 (And.intro (Or.inr rfl) ?_)
      rw [decide_eq_false h7] at h
      exact h
  | succ n ih =>
    intro t x s ht hx es
    subst hx
    refine am_run_k 3 (And.intro (fun hx => absurd hx ((nI_ge (b := 10) (by omega) (by decide)))) (fun h6 => ?_))
    refine am_run_k 3 (am_cl ?_)
    refine m_around_x ?_
    refine am_run_k 8 (And.intro (vpe ix10t (by omega)) ?_)
    rw [cle ix10t (by omega)]
    refine am_run_k 4 ?_
    exact ih (t + 1) _ _ (by omega) (nI_1 t) (by rw [fwC, ← es])
theorem m_hasWay_x {q : Nat} (hq : q < 6) (own : ∀ a, a < 8 → bt (g 23 a) a = true) (hM : lt255 (g 31)) (h : Q (some (.int (am_bi (fitV (g 23) (g 31) q)))) LY g) : am (d + 1) 107 0 [some (.ref 22), some (.int (nI q)), none, none] [] LY g 0 0 none Q := by
  refine am_run_k 6 (And.intro (vpe (nIt10 q) (by omega)) ?_)
  rw [cle (nIt10 q) (by omega)]
  refine am_run_k 3 ?_
  refine l_107_12_x hq h 9 1 _ _ rfl rfl ?_
  rw [fwC, fwC, Nat.add_zero, b255_arV (by omega) own hM]
theorem l_105_2_x {g0 : am_G} (h : ∀ g', o31 g0 g' → (∀ i, i < 60 → g' 31 i = 255) → Q none LY g') : ∀ (n k : Nat) (x : Int32) (g : am_G), k + n = 60 → x = nI k → o31 g0 g → (∀ i, i < k → g 31 i = 255) → am d 105 2 [some (.ref 22), some (.int x)] [] LY g 0 0 none Q := by
  intro n
  induction n with
  | zero =>
    intro k x g hk hx hg hm
    have hk : k = 60 := by omega
    subst hk; subst hx
    refine am_run_k 3 (And.intro (fun h6 => ?_) (fun hx => absurd ((show nI 60 ≤ nI 60 from nI_le (Nat.le_refl 60) (by decide))) hx))
    refine am_run_k 1 ?_
    exact h g hg hm
  | succ n ih =>
    intro k x g hk hx hg hm
    subst hx
    refine am_run_k 3 (And.intro (fun hx => absurd hx ((nI_ge (b := 60) (by omega) (by decide)))) (fun h6 => ?_))
    refine am_run_k 5 (And.intro (vpn (by omega)) ?_)
    refine am_run_k 2 ?_
    rw [ncl (by omega)]
    refine ih (k + 1) _ _ (by omega) (nI_1 k) (fun j hj => by rw [am_up_ne hj]; exact hg j hj) (fun i hi => ?_)
    by_cases e : i = k
    · rw [e, am_up_us]
    · rw [am_up_un e]; exact hm i (by omega)
theorem m_free_x (h : ∀ g', o31 g g' → (∀ i, i < 60 → g' 31 i = 255) → Q none LY g') : am d 105 0 [some (.ref 22), none] [] LY g 0 0 none Q := by
  refine am_run_k 2 ?_
  exact l_105_2_x (g0 := g) h 60 0 _ g rfl rfl (fun k _ => rfl) (fun i hi => absurd hi (by omega))
theorem ixM {q t : Nat} (hq : q < 6) (ht : t < 10) : ixR (nI q) (nI t) = 10 * q + t := by
  unfold ixR; rw [ncl (by omega), ncl (by omega)]
theorem heMay_n {kd a b c x : Int32} {M : Nat → Int32} (h : kd = 2 ∨ kd = 3 ∨ kd = 4) : heMay (kd, a, b, c, x) M = M := by
  rcases h with rfl | rfl | rfl <;> rfl
theorem m_bind_x {k : Nat} (hk : k < 20) (hr : okR (rwO g k)) (h : ∀ g', o31 g g' → g' 31 = heMay (rwO g k) (g 31) → Q none LY g') : am d 106 0 [some (.ref 22), some (.int (nI k)), none, none, none] [] LY g 0 0 none Q := by
  have e0 := cle (nIm4 k) (show 4 * k < 2 ^ 31 by omega)
  have e1 := cle (nI41 k) (show 4 * k + 1 < 2 ^ 31 by omega)
  have e2 := cle (nI42 k) (show 4 * k + 2 < 2 ^ 31 by omega)
  have e3 := cle (nI43 k) (show 4 * k + 3 < 2 ^ 31 by omega)
  have ek := ncl (show k < 2 ^ 31 by omega)
  have o0 : o31 g g := fun _ _ => rfl
  refine am_run_k 6 (And.intro (vpe (nIm4 k) (by omega)) ?_)
  refine am_run_k 9 (And.intro (vpe (nI41 k) (by omega)) ?_)
  refine am_run_k 9 (And.intro (vpe (nI42 k) (by omega)) ?_)
  refine am_run_k 5 (And.intro (vpn (by omega)) ?_)
  rw [e0, e1, e2, ek]
  have hr : rowOK (g 25 k) (g 26 (4 * k)) (g 26 (4 * k + 1)) (g 26 (4 * k + 2)) (g 26 (4 * k + 3)) := hr
  have eR : rwO g k = (g 25 k, g 26 (4 * k), g 26 (4 * k + 1), g 26 (4 * k + 2), g 26 (4 * k + 3)) := rfl
  have b84 : ∀ (a b t : Nat) (x : Int32), a < 6 → t < 10 → heMay (rwO g k) (g 31) = heY (nI a) (nI b) (nI t) (g 31) → am d 106 84 [some (.ref 22), some (.int (nI k)), some (.int (nI a)), some (.int (nI b)), some (.int (nI t))] [] LY g 0 0 none Q := by
    intro a b t x ha ht eh
    refine am_run_k 9 (And.intro (vpe ix10t (by omega)) ?_)
    refine am_run_k 5 (And.intro (vpe ix10t (by omega)) ?_)
    refine am_run_k 2 ?_
    rw [cle ix10t (by omega)]
    refine h _ o0.up ?_
    rw [eh, am_up_at]
    unfold heY
    rw [ixM ha ht]; rfl
  have b105 : ∀ (a b t : Nat) (x : Int32), a < 6 → t < 10 → heMay (rwO g k) (g 31) = heN (nI a) (nI b) (nI t) (g 31) → am d 106 105 [some (.ref 22), some (.int (nI k)), some (.int (nI a)), some (.int (nI b)), some (.int (nI t))] [] LY g 0 0 none Q := by
    intro a b t x ha ht eh
    refine am_run_k 9 (And.intro (vpe ix10t (by omega)) ?_)
    refine am_run_k 7 (And.intro (vpe ix10t (by omega)) ?_)
    refine am_run_k 2 ?_
    rw [cle ix10t (by omega)]
    refine h _ o0.up ?_
    rw [eh, am_up_at]
    unfold heN
    rw [ixM ha ht]; rfl
  have b185 : ∀ (a b c : Int32), heMay (rwO g k) (g 31) = g 31 → am d 106 185 [some (.ref 22), some (.int (nI k)), some (.int a), some (.int b), some (.int c)] [] LY g 0 0 none Q := by
    intro a b c eh
    refine am_run_k 1 ?_
    exact h _ o0 eh.symm
  rcases hr with ⟨h23, -⟩ | ⟨h4, -⟩ | ⟨h7, ⟨q, hq, eq⟩, ⟨q2, hq2, eq2⟩, ⟨p, hp, ep⟩, t, ht, et⟩ | ⟨h0, ⟨q, hq, eq⟩, ⟨p, hp, ep⟩, t, ht, et⟩
  · have eh : heMay (rwO g k) (g 31) = g 31 := by rw [eR]; exact heMay_n (by rcases h23 with e | e <;> simp [e])
    rcases h23 with e | e <;> rw [e]
    · exact am_run_k 1 (And.intro (fun h1 => absurd h1 (by decide)) (fun h1 => And.intro (fun h2 => absurd h2 (by decide)) (fun h2 => And.intro (fun h3 => b185 _ _ _ eh) (fun h3 => absurd rfl h3))))
    · exact am_run_k 1 (And.intro (fun h1 => absurd h1 (by decide)) (fun h1 => And.intro (fun h2 => absurd h2 (by decide)) (fun h2 => And.intro (fun h3 => absurd h3 (by decide)) (fun h3 => And.intro (fun h4 => b185 _ _ _ eh) (fun h4 => absurd rfl h4)))))
  · have eh : heMay (rwO g k) (g 31) = g 31 := by rw [eR]; exact heMay_n (by simp [h4])
    rw [h4]
    exact am_run_k 1 (And.intro (fun h1 => absurd h1 (by decide)) (fun h1 => And.intro (fun h2 => absurd h2 (by decide)) (fun h2 => And.intro (fun h3 => absurd h3 (by decide)) (fun h3 => And.intro (fun h4 => absurd h4 (by decide)) (fun h4 => And.intro (fun h5 => b185 _ _ _ eh) (fun h5 => absurd rfl h5))))))
  · have eh : heMay (rwO g k) (g 31) = heY (nI q2) (nI p) (nI t) (heY (nI q) (nI p) (nI t) (g 31)) := by
      rw [eR, h7, eq, eq2, ep, et]; rfl
    rw [h7, eq, eq2, ep]
    refine am_run_k 1 (And.intro (fun h1 => absurd h1 (by decide)) (fun h1 => And.intro (fun h2 => absurd h2 (by decide)) (fun h2 => And.intro (fun h3 => absurd h3 (by decide)) (fun h3 => And.intro (fun h4 => absurd h4 (by decide)) (fun h4 => And.intro (fun h5 => absurd h5 (by decide)) (fun h5 => And.intro (fun h6 => absurd h6 (by decide)) (fun h6 => And.intro (fun h7 => absurd h7 (by decide)) (fun h7 => And.intro (fun h8 => ?_) (fun h8 => absurd rfl h8)))))))))
    refine am_run_k 13 (And.intro (vpe (nI43 k) (by omega)) ?_)
    rw [e3, et]
    refine am_run_k 3 (And.intro (vpe ix10t (by omega)) ?_)
    refine am_run_k 5 (And.intro (vpe ix10t (by omega)) ?_)
    rw [cle ix10t (by omega)]
    refine am_run_k 13 (And.intro (vpe (nI43 k) (by omega)) ?_)
    rw [am_up_ne (by decide), e3, et]
    refine am_run_k 3 (And.intro (vpe ix10t (by omega)) ?_)
    refine am_run_k 5 (And.intro (vpe ix10t (by omega)) ?_)
    refine am_run_k 2 ?_
    rw [cle (ix10t (q := q2) (t := t)) (by omega)]
    refine h _ o0.up.up ?_
    rw [eh, am_up_at, am_up_at]
    unfold heY
    rw [ixM hq ht, ixM hq2 ht]; rfl
  · have eR2 : rwO g k = (g 25 k, nI q, nI p, nI t, g 26 (4 * k + 3)) := by rw [eR, eq, ep, et]
    rw [eq, ep, et]
    rcases h0 with e | e | e | e <;> rw [e] <;> rw [e] at eR2
    · exact am_run_k 1 (And.intro (fun h1 => b84 _ _ _ 0 hq ht (by rw [eR2]; rfl)) (fun h1 => absurd rfl h1))
    · exact am_run_k 1 (And.intro (fun h1 => absurd h1 (by decide)) (fun h1 => And.intro (fun h2 => b105 _ _ _ 0 hq ht (by rw [eR2]; rfl)) (fun h2 => absurd rfl h2)))
    · exact am_run_k 1 (And.intro (fun h1 => absurd h1 (by decide)) (fun h1 => And.intro (fun h2 => absurd h2 (by decide)) (fun h2 => And.intro (fun h3 => absurd h3 (by decide)) (fun h3 => And.intro (fun h4 => absurd h4 (by decide)) (fun h4 => And.intro (fun h5 => absurd h5 (by decide)) (fun h5 => And.intro (fun h6 => b84 _ _ _ 0 hq ht (by rw [eR2]; rfl)) (fun h6 => absurd rfl h6)))))))
    · exact am_run_k 1 (And.intro (fun h1 => absurd h1 (by decide)) (fun h1 => And.intro (fun h2 => absurd h2 (by decide)) (fun h2 => And.intro (fun h3 => absurd h3 (by decide)) (fun h3 => And.intro (fun h4 => absurd h4 (by decide)) (fun h4 => And.intro (fun h5 => absurd h5 (by decide)) (fun h5 => And.intro (fun h6 => absurd h6 (by decide)) (fun h6 => And.intro (fun h7 => b105 _ _ _ 0 hq ht (by rw [eR2]; rfl)) (fun h7 => absurd rfl h7))))))))
/-- what leadBack leaves, by values -/
theorem LB_val {q th : Nat} (hq : q < 6) (hM : lt255 (g 31)) (lb : ∀ t, t < 10 → LB1 g q th t) : ∀ m, m ≤ 9 → g 32 (9 - m) = goF (g 23) (g 31) q m ∧ g 33 (9 - m) = tkV (g 23) (g 31) q (fun t => tkB g (nI t)) (am_sh (g 24 th)) m := by
  have two : ∀ m, m ≤ 9 → g 32 (9 - m) = goF (g 23) (g 31) q m → (∀ b, b < 32 → ((m < 9 + 1 ∧ 9 - m < 9 ∧ arP g (g 33 (9 - m + 1)) b) ↔ bt (tkL (g 23) (g 31) q (fun t => tkB g (nI t)) (am_sh (g 24 th)) m) b = true)) → g 33 (9 - m) = tkV (g 23) (g 31) q (fun t => tkB g (nI t)) (am_sh (g 24 th)) m := by
    intro m hm e32 hl
    obtain ⟨-, f0⟩ := lb (9 - m) (by omega)
    refine b_eq (fun b hb => ?_)
    rw [f0 b hb, e32, tkV, tkZ]
    have hl := hl b hb
    cases hc : tkB g (nI (9 - m)) with
    | true =>
      rw [cond_true, b_or, Bool.or_eq_true, b_and, b_and, Bool.and_eq_true, Bool.and_eq_true, ← hl]
      constructor
      · rintro (⟨h1, h2, h3⟩ | ⟨h1, -, h3⟩)
        · exact Or.inl ⟨⟨by omega, h2, h3⟩, h1⟩
        · exact Or.inr ⟨h1, h3⟩
      · rintro (⟨⟨-, h2, h3⟩, h1⟩ | ⟨h1, h3⟩)
        · exact Or.inl ⟨h1, h2, h3⟩
        · exact Or.inr ⟨h1, rfl, h3⟩
    | false =>
      rw [cond_false, b_and, Bool.and_eq_true, ← hl]
      constructor
      · rintro (⟨h1, h2, h3⟩ | ⟨h1, h2, h3⟩)
        · exact ⟨⟨by omega, h2, h3⟩, h1⟩
        · cases h2
      · rintro ⟨⟨-, h2, h3⟩, h1⟩
        exact Or.inl ⟨h1, h2, h3⟩
  intro m
  induction m with
  | zero =>
    intro _
    obtain ⟨f1, -⟩ := lb 9 (by omega)
    have e32 : g 32 (9 - 0) = goF (g 23) (g 31) q 0 := by
      refine b_eq (fun b hb => ?_)
      rw [show 9 - 0 = 9 from rfl, f1 b hb, goF, ltG, b_and, b_255, Bool.and_eq_true, decide_eq_true_iff]
      constructor
      · rintro ⟨h1, ⟨-, h2⟩ | ⟨h2, -⟩⟩
        · exact ⟨h2, h1⟩
        · omega
      · rintro ⟨h1, h2⟩
        exact ⟨h2, Or.inl ⟨rfl, h1⟩⟩
    refine ⟨e32, two 0 (by omega) e32 (fun b hb => ?_)⟩
    rw [tkL, b_0]
    constructor
    · rintro ⟨-, h2, -⟩; omega
    · intro z; cases z
  | succ m ih =>
    intro hm
    obtain ⟨i1, i2⟩ := ih (by omega)
    obtain ⟨f1, -⟩ := lb (9 - (m + 1)) (by omega)
    have e9 : 9 - (m + 1) + 1 = 9 - m := by omega
    have e32 : g 32 (9 - (m + 1)) = goF (g 23) (g 31) q (m + 1) := by
      refine b_eq (fun b hb => ?_)
      rw [f1 b hb, goF, ltG, b_and, Bool.and_eq_true, arV_bt, e9, i1]
      constructor
      · rintro ⟨h1, ⟨h2, -⟩ | ⟨-, h2⟩⟩
        · omega
        · exact ⟨h2, h1⟩
      · rintro ⟨h1, h2⟩
        exact ⟨h2, Or.inr ⟨by omega, h1⟩⟩
    refine ⟨e32, two (m + 1) hm e32 (fun b hb => ?_)⟩
    rw [tkL, arV_bt, e9, i2]
    constructor
    · rintro ⟨-, -, h3⟩; exact h3
    · intro h3; exact ⟨by omega, by omega, h3⟩
end MQU
