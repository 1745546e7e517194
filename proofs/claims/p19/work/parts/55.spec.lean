section SPC
variable {d : Nat} {g : am_G} {Q : am_Q}
def rwO (g : am_G) (k : Nat) : cRow := (g 25 k, g 26 (4 * k), g 26 (4 * k + 1), g 26 (4 * k + 2), g 26 (4 * k + 3))
def okR (r : cRow) : Prop := rowOK r.1 r.2.1 r.2.2.1 r.2.2.2.1 r.2.2.2.2
def ixR (a c : Int32) : Nat := 10 * a.toNatClampNeg + c.toNatClampNeg
def heN (a b c : Int32) (M : Nat → Int32) : Nat → Int32 := upd M (ixR a c) (M (ixR a c) &&& (am_sh b ^^^ -1))
def heY (a b c : Int32) (M : Nat → Int32) : Nat → Int32 := upd M (ixR a c) (M (ixR a c) &&& am_sh b)
/-- what one find tells of where one may be -/
def heMay (r : cRow) (M : Nat → Int32) : Nat → Int32 := bif decide (r.1 = 1) || decide (r.1 = 6) then heN r.2.1 r.2.2.1 r.2.2.2.1 M else bif decide (r.1 = 7) then heY r.2.2.1 r.2.2.2.1 r.2.2.2.2 (heY r.2.1 r.2.2.2.1 r.2.2.2.2 M) else bif decide (r.1 = 0) || decide (r.1 = 5) then heY r.2.1 r.2.2.1 r.2.2.2.1 M else M
def dK (r : cRow) (kd : Int32) (w : Nat) : Bool := decide (r.1 = kd) && decide (r.2.1 = nI w)
def heS (r : cRow) (w : Nat) (s : Int32) : Int32 := bif dK r 2 w then (if s < r.2.2.1 then r.2.2.1 else s) else s
def heL (r : cRow) (w : Nat) (s : Int32) : Int32 := bif dK r 3 w then (if r.2.2.1 - 1 < s then r.2.2.1 - 1 else s) else s
def heT (r : cRow) (w : Nat) (s : Int32) : Int32 := bif dK r 3 w then (if r.2.2.1 < s then r.2.2.1 else s) else s
def heC (r : cRow) (s : Int32) : Int32 := bif decide (r.1 = 4) then s ||| am_sh r.2.1 else s
variable {R : Nat → cRow} {sel : Nat → Bool}
def mayF (R : Nat → cRow) (sel : Nat → Bool) : Nat → Nat → Int32
  | 0 => fun _ => 255
  | k + 1 => bif sel k then heMay (R k) (mayF R sel k) else mayF R sel k
def sooF (R : Nat → cRow) (sel : Nat → Bool) (w : Nat) : Nat → Int32
  | 0 => 0
  | k + 1 => bif sel k then heS (R k) w (sooF R sel w k) else sooF R sel w k
def latF (t0 : Int32) (R : Nat → cRow) (sel : Nat → Bool) (w : Nat) : Nat → Int32
  | 0 => t0
  | k + 1 => bif sel k then heL (R k) w (latF t0 R sel w k) else latF t0 R sel w k
def ltmF (R : Nat → cRow) (sel : Nat → Bool) (w : Nat) : Nat → Int32
  | 0 => 10
  | k + 1 => bif sel k then heT (R k) w (ltmF R sel w k) else ltmF R sel w k
def clrF (R : Nat → cRow) (sel : Nat → Bool) : Nat → Int32
  | 0 => 0
  | k + 1 => bif sel k then heC (R k) (clrF R sel k) else clrF R sel k
def eq60 (M N : Nat → Int32) : Prop := ∀ i, i < 60 → M i = N i
theorem eq60.hN {M N : Nat → Int32} {a b c : Int32} (h : eq60 M N) : eq60 (heN a b c M) (heN a b c N) := by
  intro i hi
  unfold heN
  by_cases e : i = ixR a c
  · rw [← e, pk_us, pk_us, h i hi]
  · rw [pk_un e, pk_un e, h i hi]
theorem eq60.hY {M N : Nat → Int32} {a b c : Int32} (h : eq60 M N) : eq60 (heY a b c M) (heY a b c N) := by
  intro i hi
  unfold heY
  by_cases e : i = ixR a c
  · rw [← e, pk_us, pk_us, h i hi]
  · rw [pk_un e, pk_un e, h i hi]
theorem eq60.he {M N : Nat → Int32} {r : cRow} (h : eq60 M N) : eq60 (heMay r M) (heMay r N) := by
  unfold heMay
  cases decide (r.1 = 1) || decide (r.1 = 6) with
  | true => exact h.hN
  | false =>
    cases decide (r.1 = 7) with
    | true => exact h.hY.hY
    | false =>
      cases decide (r.1 = 0) || decide (r.1 = 5) with
      | true => exact h.hY
      | false => exact h
/-- the places alone -/
def lt255 (M : Nat → Int32) : Prop := ∀ i, i < 60 → ∀ b, b < 32 → 8 ≤ b → bt (M i) b = false
theorem lt255.and {M : Nat → Int32} {j : Nat} {y : Int32} (h : lt255 M) : lt255 (upd M j (M j &&& y)) := by
  intro i hi b hb h8
  by_cases e : i = j
  · rw [e, pk_us, b_and]
    rw [e] at hi
    rw [h j hi b hb h8]; rfl
  · rw [pk_un e]; exact h i hi b hb h8
theorem lt255.he {M : Nat → Int32} {r : cRow} (h : lt255 M) : lt255 (heMay r M) := by
  unfold heMay heN heY
  cases decide (r.1 = 1) || decide (r.1 = 6) with
  | true => exact h.and
  | false =>
    cases decide (r.1 = 7) with
    | true => exact h.and.and
    | false =>
      cases decide (r.1 = 0) || decide (r.1 = 5) with
      | true => exact h.and
      | false => exact h
theorem lt255.may (k : Nat) : lt255 (mayF R sel k) := by
  induction k with
  | zero =>
    intro i hi b hb h8
    rw [mayF]
    rw [b_255]
    exact decide_eq_false (by omega)
  | succ k ih =>
    rw [mayF]
    cases sel k with
    | true => exact ih.he
    | false => exact ih
/-- the deed's own -/
def prS (q victim : Int32) (p : Nat) : Bool := decide (nI p = q) || decide (nI p = victim)
def gaM (n tick : Nat) (place q victim : Int32) (M : Nat → Int32) : Nat → Int32 := fun i => bif decide (i % 10 = tick) && decide (i / 10 < n) then M i &&& (bif prS q victim (i / 10) then am_sh place else am_sh place ^^^ -1) else M i
theorem gaM_0 {tick : Nat} {place q victim : Int32} {M : Nat → Int32} : gaM 0 tick place q victim M = M := by
  funext i
  unfold gaM
  rw [decide_eq_false (show ¬ i / 10 < 0 by omega), Bool.and_false]; rfl
theorem gaM_s {n tick : Nat} (ht : tick < 10) {place q victim : Int32} {M : Nat → Int32} {i : Nat} : gaM (n + 1) tick place q victim M i = upd (gaM n tick place q victim M) (10 * n + tick) (gaM n tick place q victim M (10 * n + tick) &&& (bif prS q victim n then am_sh place else am_sh place ^^^ -1)) i := by
  by_cases e : i = 10 * n + tick
  · rw [e, pk_us]
    unfold gaM
    rw [show (10 * n + tick) % 10 = tick by omega, show (10 * n + tick) / 10 = n by omega, decide_eq_true rfl, decide_eq_true (show n < n + 1 by omega), decide_eq_false (show ¬ n < n by omega)]
    rfl
  · rw [pk_un e]
    unfold gaM
    by_cases e2 : i % 10 = tick
    · rw [decide_eq_true e2]
      by_cases e3 : i / 10 < n
      · rw [decide_eq_true e3, decide_eq_true (show i / 10 < n + 1 by omega)]
      · rw [decide_eq_false e3, decide_eq_false (show ¬ i / 10 < n + 1 by omega)]
    · rw [decide_eq_false e2]; rfl
theorem gaM_o {n tick : Nat} (ht : tick < 10) {place q victim : Int32} {M : Nat → Int32} {p t : Nat} (hp : n ≤ p) (htt : t < 10) : gaM n tick place q victim M (10 * p + t) = M (10 * p + t) := by
  unfold gaM
  rw [show (10 * p + t) / 10 = p by omega, decide_eq_false (show ¬ p < n by omega), Bool.and_false]; rfl
theorem gaM_e {n m tick : Nat} (ht : tick < 10) {place q victim : Int32} {M : Nat → Int32} {p t : Nat} (hp : p < n) (hm : p < m) (htt : t < 10) : gaM n tick place q victim M (10 * p + t) = gaM m tick place q victim M (10 * p + t) := by
  unfold gaM
  rw [show (10 * p + t) / 10 = p by omega, decide_eq_true hp, decide_eq_true hm]
theorem gaM_eq {n tick : Nat} {place q victim : Int32} {M N : Nat → Int32} (h : eq60 M N) : eq60 (gaM n tick place q victim M) (gaM n tick place q victim N) := by
  intro i hi
  unfold gaM
  rw [h i hi]
theorem gaM_lt {n tick : Nat} {place q victim : Int32} {M : Nat → Int32} (h : lt255 M) : lt255 (gaM n tick place q victim M) := by
  intro i hi b hb h8
  unfold gaM
  cases decide (i % 10 = tick) && decide (i / 10 < n) with
  | true => rw [cond_true, b_and, h i hi b hb h8]; rfl
  | false => exact h i hi b hb h8
/-- forward -/
def fwC (J M : Nat → Int32) (p : Nat) : Nat → Int32
  | 0 => 255
  | t + 1 => arV J (fwC J M p t) &&& M (10 * p + t)
def fitV (J M : Nat → Int32) (p : Nat) : Bool := !decide (fwC J M p 10 = 0)
theorem fwC_eq {J M N : Nat → Int32} {p : Nat} (h : ∀ t, t < 10 → M (10 * p + t) = N (10 * p + t)) : ∀ t, t ≤ 10 → fwC J M p t = fwC J N p t := by
  intro t
  induction t with
  | zero => intro _; rw [fwC, fwC]
  | succ t ih => intro ht; rw [fwC, fwC, ih (by omega), h t (by omega)]
theorem fitV_eq {J M N : Nat → Int32} {p : Nat} (h : ∀ t, t < 10 → M (10 * p + t) = N (10 * p + t)) : fitV J M p = fitV J N p := by unfold fitV; rw [fwC_eq h 10 (Nat.le_refl 10)]
/-- backward -/
def ltG (J M : Nat → Int32) (q : Nat) : Nat → Int32
  | 0 => 255
  | m + 1 => arV J (ltG J M q m &&& M (10 * q + (9 - m)))
def goF (J M : Nat → Int32) (q m : Nat) : Int32 := ltG J M q m &&& M (10 * q + (9 - m))
def tkZ (J M : Nat → Int32) (q : Nat) (cb : Nat → Bool) (z : Int32) (m : Nat) (s : Int32) : Int32 := bif cb (9 - m) then (s &&& M (10 * q + (9 - m))) ||| (goF J M q m &&& z) else s &&& M (10 * q + (9 - m))
def tkL (J M : Nat → Int32) (q : Nat) (cb : Nat → Bool) (z : Int32) : Nat → Int32
  | 0 => 0
  | m + 1 => arV J (tkZ J M q cb z m (tkL J M q cb z m))
def tkV (J M : Nat → Int32) (q : Nat) (cb : Nat → Bool) (z : Int32) (m : Nat) : Int32 := tkZ J M q cb z m (tkL J M q cb z m)
theorem ltG_eq {J M N : Nat → Int32} {q : Nat} (h : ∀ t, t < 10 → M (10 * q + t) = N (10 * q + t)) : ∀ m, ltG J M q m = ltG J N q m := by
  intro m
  induction m with
  | zero => rw [ltG, ltG]
  | succ m ih => rw [ltG, ltG, ih, h (9 - m) (by omega)]
theorem goF_eq {J M N : Nat → Int32} {q : Nat} (h : ∀ t, t < 10 → M (10 * q + t) = N (10 * q + t)) (m : Nat) : goF J M q m = goF J N q m := by
  unfold goF; rw [ltG_eq h m, h (9 - m) (by omega)]
theorem tkZ_eq {J M N : Nat → Int32} {q : Nat} {cb cb' : Nat → Bool} {z s : Int32} (h : ∀ t, t < 10 → M (10 * q + t) = N (10 * q + t)) (hc : ∀ t, t < 10 → cb t = cb' t) (m : Nat) : tkZ J M q cb z m s = tkZ J N q cb' z m s := by
  unfold tkZ; rw [goF_eq h m, h (9 - m) (by omega), hc (9 - m) (by omega)]
theorem tkL_eq {J M N : Nat → Int32} {q : Nat} {cb cb' : Nat → Bool} {z : Int32} (h : ∀ t, t < 10 → M (10 * q + t) = N (10 * q + t)) (hc : ∀ t, t < 10 → cb t = cb' t) : ∀ m, tkL J M q cb z m = tkL J N q cb' z m := by
  intro m
  induction m with
  | zero => rw [tkL, tkL]
  | succ m ih => rw [tkL, tkL, ih, tkZ_eq h hc m]
theorem tkV_eq {J M N : Nat → Int32} {q : Nat} {cb cb' : Nat → Bool} {z : Int32} (h : ∀ t, t < 10 → M (10 * q + t) = N (10 * q + t)) (hc : ∀ t, t < 10 → cb t = cb' t) (m : Nat) : tkV J M q cb z m = tkV J N q cb' z m := by
  unfold tkV; rw [tkL_eq h hc m, tkZ_eq h hc m]
theorem tkZ_go {J M : Nat → Int32} {q m p : Nat} {cb : Nat → Bool} {z s : Int32} (hs : bt s p = true → bt (ltG J M q m) p = true) (h : bt (tkZ J M q cb z m s) p = true) : bt (goF J M q m) p = true := by
  unfold tkZ at h
  unfold goF at *
  cases hc : cb (9 - m) with
  | true =>
    rw [hc, cond_true, b_or, Bool.or_eq_true, b_and, b_and, b_and, Bool.and_eq_true, Bool.and_eq_true, Bool.and_eq_true] at h
    rw [b_and, Bool.and_eq_true]
    rcases h with ⟨h1, h2⟩ | ⟨h1, -⟩
    · exact ⟨hs h1, h2⟩
    · exact h1
  | false =>
    rw [hc, cond_false, b_and, Bool.and_eq_true] at h
    rw [b_and, Bool.and_eq_true]
    exact ⟨hs h.1, h.2⟩
theorem tkL_lt {J M : Nat → Int32} {q : Nat} {cb : Nat → Bool} {z : Int32} : ∀ m p, bt (tkL J M q cb z m) p = true → bt (ltG J M q m) p = true := by
  intro m
  induction m with
  | zero => intro p h; rw [tkL, b_0] at h; cases h
  | succ m ih =>
    intro p h
    rw [tkL, arV_bt] at h
    obtain ⟨p', hp', h1, h2⟩ := h
    rw [ltG, arV_bt]
    exact ⟨p', hp', tkZ_go (ih p') h1, h2⟩
theorem tkV_go {J M : Nat → Int32} {q m p : Nat} {cb : Nat → Bool} {z : Int32} (h : bt (tkV J M q cb z m) p = true) : bt (goF J M q m) p = true := tkZ_go (tkL_lt m p) h
/-- who can have done it fits the rest -/
theorem go_fit {J M : Nat → Int32} {q : Nat} (hq : q < 6) (hM : lt255 M) (sym : ∀ a b, a < 8 → b < 8 → bt (J a) b = true → bt (J b) a = true) : ∀ n, n ≤ 9 → ∀ p, p < 32 → bt (goF J M q n) p = true → bt (fwC J M q (10 - n)) p = true → fwC J M q 10 ≠ 0 := by
  intro n
  induction n with
  | zero =>
    intro _ p hp _ h2 e
    rw [show 10 - 0 = 10 from rfl, e, b_0] at h2
    cases h2
  | succ n ih =>
    intro hn p hp h1 h2
    have h1' := h1
    unfold goF at h1
    rw [b_and, Bool.and_eq_true] at h1
    obtain ⟨h1, h3⟩ := h1
    rw [ltG, arV_bt] at h1
    obtain ⟨p', hp', h4, h5⟩ := h1
    have hp8 : p < 8 := by
      rcases Nat.lt_or_ge p 8 with e | e
      · exact e
      · rw [hM _ (by omega) p hp e] at h3; cases h3
    refine ih (by omega) p' (by omega) h4 ?_
    rw [show 10 - n = (9 - n) + 1 by omega, fwC, b_and, Bool.and_eq_true]
    rw [b_and, Bool.and_eq_true] at h4
    refine ⟨?_, h4.2⟩
    rw [arV_bt]
    refine ⟨p, hp8, ?_, sym p' p hp' hp8 h5⟩
    rw [show 10 - (n + 1) = 9 - n by omega] at h2
    exact h2
theorem tk_fit {J M : Nat → Int32} {q : Nat} {cb : Nat → Bool} {z : Int32} (hq : q < 6) (hM : lt255 M) (own : ∀ a, a < 8 → bt (J a) a = true) (sym : ∀ a b, a < 8 → b < 8 → bt (J a) b = true → bt (J b) a = true) (h : tkV J M q cb z 9 ≠ 0) : fitV J M q = true := by
  obtain ⟨p, hp, hb⟩ := bt_ne0 h
  have hg := tkV_go hb
  have h1 := hg
  unfold goF at h1
  rw [b_and, Bool.and_eq_true] at h1
  have hp8 : p < 8 := by
    rcases Nat.lt_or_ge p 8 with e | e
    · exact e
    · have := hM (10 * q + (9 - 9)) (by omega) p hp e
      rw [this] at h1; exact absurd h1.2 (by decide)
  have := go_fit hq hM sym 9 (by omega) p hp hg (by
    rw [show 10 - 9 = 0 + 1 from rfl, fwC, b_and, Bool.and_eq_true]
    refine ⟨?_, h1.2⟩
    rw [fwC, arV_bt]
    exact ⟨p, hp8, by rw [b_255]; exact decide_eq_true hp8, own p hp8⟩)
  unfold fitV
  rw [decide_eq_false this]; rfl
/-- both ways to say when a thing can have been taken -/
theorem latB {t0 : Nat} (ht0 : t0 < 10) {w : Nat} (hw : w < 3) : ∀ k, (∀ j, j < k → okR (R j)) → ∃ l m : Int32, latF (nI t0) R sel w k = l ∧ ltmF R sel w k = m ∧ ∀ t, t < 10 → (nI t ≤ l ↔ nI t ≤ nI t0 ∧ nI t < m) := by
  intro k
  induction k with
  | zero =>
    intro _
    refine ⟨_, _, rfl, rfl, fun t ht => ?_⟩
    rw [latF, ltmF]
    exact ⟨fun e => ⟨e, nI_lt' (b := 10) ht⟩, fun e => e.1⟩
  | succ k ih =>
    intro ok
    obtain ⟨l, m, e1, e2, h⟩ := ih (fun j hj => ok j (by omega))
    refine ⟨_, _, rfl, rfl, fun t ht => ?_⟩
    rw [latF, ltmF, e1, e2]
    cases sel k with
    | false => exact h t ht
    | true =>
      rw [cond_true, cond_true]
      unfold heL heT
      cases hd : dK (R k) 3 w with
      | false => exact h t ht
      | true =>
        rw [cond_true, cond_true]
        have hk3 : (R k).1 = 3 := by
          unfold dK at hd
          rw [Bool.and_eq_true, decide_eq_true_iff] at hd
          exact hd.1
        have hb : ∃ u, u < 10 ∧ (R k).2.2.1 = nI u := by
          rcases ok k (by omega) with ⟨-, -, hb⟩ | ⟨h4, -⟩ | ⟨h7, -⟩ | ⟨h0, -⟩
          · exact hb
          · rw [h4] at hk3; exact absurd hk3 (by decide)
          · rw [h7] at hk3; exact absurd hk3 (by decide)
          · rcases h0 with z | z | z | z <;> rw [z] at hk3 <;> exact absurd hk3 (by decide)
        obtain ⟨u, hu, eu⟩ := hb
        rw [eu]
        have hx : nI t ≤ nI u - 1 ↔ nI t < nI u := by
          rcases Nat.eq_zero_or_pos u with z | z
          · subst z
            constructor
            · intro e
              rw [Int32.le_iff_toInt_le, nI_toInt (by omega)] at e
              have : (nI 0 - 1 : Int32).toInt = -1 := by decide
              omega
            · intro e
              exact absurd ((nI_ltI (by omega) (by omega)).mp e) (by omega)
          · obtain ⟨v, rfl⟩ : ∃ v, u = v + 1 := ⟨u - 1, by omega⟩
            rw [nI_pred, nI_leI (by omega) (by omega), nI_ltI (by omega) (by omega)]
            omega
        have a1 : (nI t ≤ if nI u - 1 < l then nI u - 1 else l) ↔ nI t ≤ nI u - 1 ∧ nI t ≤ l := by
          by_cases z : nI u - 1 < l
          · rw [if_pos z]
            exact ⟨fun e => ⟨e, by rw [Int32.le_iff_toInt_le] at *; rw [Int32.lt_iff_toInt_lt] at z; omega⟩, fun e => e.1⟩
          · rw [if_neg z]
            exact ⟨fun e => ⟨by rw [Int32.le_iff_toInt_le] at *; rw [Int32.lt_iff_toInt_lt] at z; omega, e⟩, fun e => e.2⟩
        have a2 : (nI t < if nI u < m then nI u else m) ↔ nI t < nI u ∧ nI t < m := by
          by_cases z : nI u < m
          · rw [if_pos z]
            exact ⟨fun e => ⟨e, by rw [Int32.lt_iff_toInt_lt] at *; omega⟩, fun e => e.1⟩
          · rw [if_neg z]
            exact ⟨fun e => ⟨by rw [Int32.lt_iff_toInt_lt] at *; omega, e⟩, fun e => e.2⟩
        rw [a1, a2, hx, h t ht]
        exact ⟨fun e => ⟨e.2.1, e.1, e.2.2⟩, fun e => ⟨e.2.1, e.1, e.2.2⟩⟩
def cbF (t0 : Int32) (R : Nat → cRow) (sel : Nat → Bool) (c w t : Nat) : Bool := decide (sooF R sel w c ≤ nI t) && decide (nI t ≤ latF t0 R sel w c)
end SPC
