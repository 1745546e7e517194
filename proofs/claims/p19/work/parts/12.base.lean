/-! Words for the walks over the machine. -/
theorem am_cl {d' mi nx a : Nat} {lv E : am_V} {st : List Value} {L : am_L} {g : am_G} {bc bs mc ms : Nat} {sx : am_S} {Q : am_Q} (h : am d' a 0 E [] L g mc ms none (fun r L' g' => am (d' + 1) mi nx lv (r.toList ++ st) L' g' (bc - mc) (bs - ms) sx Q)) :
    ∃ Q1 : am_Q, am d' a 0 E [] L g mc ms none Q1 ∧ ∀ (r : Option Value) (L' : am_L) (g' : am_G), Q1 r L' g' → am (d' + 1) mi nx lv (r.toList ++ st) L' g' (bc - mc) (bs - ms) sx Q := ⟨_, h, fun _ _ _ q => q⟩
def am_bi (b : Bool) : Int32 := match b with | true => 1 | false => 0
theorem bi_f {b : Bool} (h : am_bi b = 0) : b = false := by cases b; rfl; exact absurd h (by decide)
theorem bi_t {b : Bool} (h : ¬ am_bi b = 0) : b = true := by cases b; exact absurd rfl h; rfl
theorem bi_01 (b : Bool) : am_bi b = 0 ∨ am_bi b = 1 := by cases b; exact Or.inl rfl; exact Or.inr rfl
/-- a number's bit, as the class's has() reads it -/
def am_hs (s k : Int32) : Bool := decide ((s >>> (k &&& 31)) &&& 1 = 1)
/-- 0 .. k - 1 -/
def am_ir (n k : Int32) : Bool := decide (0 ≤ n) && decide (n < k)
theorem vpn {n N : Nat} (h : n < N) (hN : N < 2 ^ 31 := by decide) : vp_in (nI n) N := vp_in_nI h hN
theorem ncl {n : Nat} (h : n < 2 ^ 31) : (nI n).toNatClampNeg = n := nI_clamp h
def LYH : am_L := [(8, 4, fun _ => 0), (5, 7, fun _ => 0), (2, 3, fun j => if j = 1 then 4 + 1 else (fun j => if j = 0 then 3 + 1 else (fun _ => 0) j) j), (0, 8, fun _ => 0), (0, 256, fun _ => 0)]
def LY : am_L := [(8, 4, fun j => if j = 3 then 17 + 1 else (fun j => if j = 2 then 15 + 1 else (fun j => if j = 1 then 9 + 1 else (fun j => if j = 0 then 1 + 1 else (fun _ => 0) j) j) j) j), (5, 7, fun j => if j = 2 then 8 + 1 else (fun j => if j = 1 then 5 + 1 else (fun j => if j = 0 then 2 + 1 else (fun _ => 0) j) j) j), (2, 3, fun j => if j = 1 then 4 + 1 else (fun j => if j = 0 then 3 + 1 else (fun _ => 0) j) j), (0, 8, fun _ => 0), (0, 256, fun _ => 0), (4, 5, fun j => if j = 3 then 7 + 1 else (fun j => if j = 0 then 6 + 1 else (fun _ => 0) j) j), (0, 100, fun _ => 0), (0, 20, fun _ => 0), (0, 3, fun _ => 0), (7, 6, fun j => if j = 4 then 14 + 1 else (fun j => if j = 3 then 13 + 1 else (fun j => if j = 2 then 12 + 1 else (fun j => if j = 1 then 11 + 1 else (fun j => if j = 0 then 10 + 1 else (fun _ => 0) j) j) j) j) j), (0, 60, fun _ => 0), (0, 10, fun _ => 0), (0, 10, fun _ => 0), (0, 3, fun _ => 0), (0, 3, fun _ => 0), (3, 2, fun j => if j = 0 then 16 + 1 else (fun _ => 0) j), (0, 40, fun _ => 0), (1, 2, fun j => if j = 1 then 20 + 1 else (fun j => if j = 0 then 18 + 1 else (fun _ => 0) j) j), (6, 3, fun j => if j = 0 then 19 + 1 else (fun _ => 0) j), (0, 60, fun _ => 0), (6, 3, fun j => if j = 0 then 21 + 1 else (fun _ => 0) j), (0, 60, fun _ => 0), (9, 22, fun j => if j = 21 then 34 + 1 else (fun j => if j = 19 then 33 + 1 else (fun j => if j = 18 then 32 + 1 else (fun j => if j = 15 then 31 + 1 else (fun j => if j = 14 then 30 + 1 else (fun j => if j = 13 then 29 + 1 else (fun j => if j = 12 then 28 + 1 else (fun j => if j = 10 then 27 + 1 else (fun j => if j = 9 then 26 + 1 else (fun j => if j = 8 then 25 + 1 else (fun j => if j = 3 then 24 + 1 else (fun j => if j = 2 then 23 + 1 else (fun _ => 0) j) j) j) j) j) j) j) j) j) j) j) j), (0, 8, fun _ => 0), (0, 3, fun _ => 0), (0, 20, fun _ => 0), (0, 80, fun _ => 0), (0, 20, fun _ => 0), (0, 2, fun _ => 0), (0, 2, fun _ => 0), (0, 120, fun _ => 0), (0, 60, fun _ => 0), (0, 11, fun _ => 0), (0, 11, fun _ => 0), (0, 40, fun _ => 0)]
theorem am_fin {Q : am_Q} {r r' : Option Value} {L : am_L} {g g' : am_G} (h : Q r' L g') (e : g = g') (er : r = r' := by rfl) : Q r L g := by subst e; subst er; exact h
theorem nIm5 (n : Nat) : nI n * 5 = nI (n * 5) := pk_mul n 5
theorem nIm10 (n : Nat) : nI n * 10 = nI (n * 10) := pk_mul n 10
theorem nIm4 (n : Nat) : (4 : Int32) * nI n = nI (4 * n) := pk_mul 4 n
theorem nIt10 (n : Nat) : (10 : Int32) * nI n = nI (10 * n) := pk_mul 10 n
theorem nIt60 (n : Nat) : (60 : Int32) * nI n = nI (60 * n) := pk_mul 60 n
theorem nIt5 (n : Nat) : (5 : Int32) * nI n = nI (5 * n) := pk_mul 5 n
theorem nIp2 (n : Nat) : nI n + 2 = nI (n + 2) := nI_add n 2
theorem nIp3 (n : Nat) : nI n + 3 = nI (n + 3) := nI_add n 3
theorem nIp4 (n : Nat) : nI n + 4 = nI (n + 4) := nI_add n 4
theorem vpe {x : Int32} {n N : Nat} (e : x = nI n) (h : n < N) (hN : N < 2 ^ 31 := by decide) : vp_in x N := by rw [e]; exact vp_in_nI h hN
theorem cle {x : Int32} {n : Nat} (e : x = nI n) (h : n < 2 ^ 31) : x.toNatClampNeg = n := by rw [e]; exact nI_clamp h
theorem am_up_un {g : am_G} {k i j : Nat} {x : Int32} (h : j ≠ i) : am_up g k i x k j = g k j := by simp [am_up, upd, h]
theorem am_up_us {g : am_G} {k i : Nat} {x : Int32} : am_up g k i x k i = x := by simp [am_up, upd]
theorem am_up_un2 {g : am_G} {k i k2 j : Nat} {x : Int32} (h : k2 ≠ k) : am_up g k i x k2 j = g k2 j := by simp [am_up, h]
theorem fb_holes : ∀ (m n : Nat) (f : Nat → Nat), (∀ i, i < n → f i < m) → (∀ i j, i < j → j < n → f i ≠ f j) → n ≤ m := by
  intro m
  induction m with
  | zero =>
    intro n f h1 _
    rcases Nat.eq_zero_or_pos n with h | h
    · omega
    · exact absurd (h1 0 h) (Nat.not_lt_zero _)
  | succ m ih =>
    intro n f h1 h2
    by_cases hx : ∃ i, i < n ∧ f i = m
    · obtain ⟨a, ha, hfa⟩ := hx
      have hg := ih (n - 1) (fun i => if i < a then f i else f (i + 1)) (by
        intro i hi
        by_cases q : i < a
        · simp only [if_pos q]
          have b1 := h1 i (by omega)
          have b2 := h2 i a q ha
          omega
        · simp only [if_neg q]
          have b1 := h1 (i + 1) (by omega)
          have b2 := h2 a (i + 1) (by omega) (by omega)
          omega) (by
        intro i j hij hj
        by_cases q : i < a
        · by_cases r : j < a
          · simp only [if_pos q, if_pos r]
            exact h2 i j hij (by omega)
          · simp only [if_pos q, if_neg r]
            exact h2 i (j + 1) (by omega) (by omega)
        · have r : ¬ j < a := by omega
          simp only [if_neg q, if_neg r]
          exact h2 (i + 1) (j + 1) (by omega) (by omega))
      omega
    · have hg := ih n f (fun i hi => by
        have b1 := h1 i hi
        have b2 : f i ≠ m := fun e => hx ⟨i, hi, e⟩
        omega) h2
      omega
