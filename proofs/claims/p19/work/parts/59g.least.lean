section LST
variable {d : Nat} {L : am_L} {g : am_G} {Q : am_Q} {B c f : Nat}
theorem bt_nI {s i : Nat} (hi : i < 32) : bt (nI s) i = s.testBit i := by
  show (BitVec.ofNat 32 s).getLsbD i = _
  rw [BitVec.getLsbD_ofNat, decide_eq_true hi, Bool.true_and]
theorem bc_t64 : ∀ a, a < 64 → ∀ b, b < 64 → am_bc (nI (64 * a + b)) = nI (bcN (nI (64 * a + b)) 20) := by decide +kernel
theorem bc_12 {s : Nat} (h : s < 4096) : am_bc (nI s) = nI (bcN (nI s) 20) := by
  have := bc_t64 (s / 64) (by omega) (s % 64) (by omega)
  rw [show 64 * (s / 64) + s % 64 = s by omega] at this
  exact this
def sz (S : Nat) : Nat := bcN (nI S) 20
theorem sz_le (S : Nat) : sz S ≤ 20 := bcN_le _ 20
theorem bcN_sub {x y : Int32} : ∀ k, (∀ j, j < k → bt x j = true → bt y j = true) → bcN x k ≤ bcN y k := by
  intro k
  induction k with
  | zero => intro _; exact Nat.le_refl _
  | succ k ih =>
    intro h
    have i := ih (fun j hj => h j (by omega))
    rw [bcN, bcN]
    cases hx : bt x k with
    | false => exact Nat.le_trans i (by omega)
    | true => rw [h k (by omega) hx]; omega
theorem bcN_lt {x y : Int32} {p : Nat} (hy : bt y p = true) (hx : bt x p = false) : ∀ k, p < k → (∀ j, j < k → bt x j = true → bt y j = true) → bcN x k < bcN y k := by
  intro k
  induction k with
  | zero => intro h; omega
  | succ k ih =>
    intro hp h
    rw [bcN, bcN]
    rcases Nat.lt_succ_iff_lt_or_eq.mp hp with e | e
    · have i := ih e (fun j hj => h j (by omega))
      cases hxk : bt x k with
      | false => exact Nat.lt_of_lt_of_le i (by omega)
      | true => rw [h k (by omega) hxk]; omega
    · subst e
      have i := bcN_sub p (fun j hj => h j (by omega))
      rw [hx, hy]
      show bcN x p + 0 < bcN y p + 1
      omega
/-- sets over sets -/
theorem iv_bt {b m r j : Nat} (hr : r < 2 ^ b) (hj : j < 32) : bt (nI (2 ^ b * m + r)) j = if j < b then r.testBit j else m.testBit (j - b) := by
  rw [bt_nI hj, Nat.testBit_two_pow_mul_add m hr]
theorem iv_sub {b m r j : Nat} (hr : r < 2 ^ b) (hj : j < 32) (h : bt (nI (2 ^ b * m)) j = true) : bt (nI (2 ^ b * m + r)) j = true := by
  rw [iv_bt hr hj]
  have h0 := iv_bt (b := b) (m := m) (r := 0) (j := j) (Nat.two_pow_pos b) hj
  rw [Nat.add_zero, h] at h0
  by_cases z : j < b
  · rw [if_pos z, Nat.zero_testBit] at h0; cases h0
  · rw [if_neg z] at *; exact h0.symm
theorem iv_full {b m r j : Nat} (hr : r < 2 ^ b) (hj : j < 32) (h : bt (nI (2 ^ b * m + r)) j = true) : bt (nI (2 ^ b * m + (2 ^ b - 1))) j = true := by
  have hp := Nat.two_pow_pos b
  rw [iv_bt (by omega) hj]
  rw [iv_bt hr hj] at h
  by_cases z : j < b
  · rw [if_pos z, Nat.testBit_two_pow_sub_one]; exact decide_eq_true z
  · rw [if_neg z] at *; exact h
theorem iv_sz {b m r : Nat} (hb : b ≤ 12) (hr : r < 2 ^ b) (h0 : 0 < r) : sz (2 ^ b * m) < sz (2 ^ b * m + r) := by
  obtain ⟨p, hp⟩ := Nat.exists_testBit_of_ne_zero (x := r) (by omega)
  have hpb : p < b := by
    rcases Nat.lt_or_ge p b with e | e
    · exact e
    · have : r < 2 ^ p := Nat.lt_of_lt_of_le hr (Nat.pow_le_pow_right (by decide) e)
      rw [Nat.testBit_lt_two_pow this] at hp; cases hp
  unfold sz
  refine bcN_lt (p := p) ?_ ?_ 20 (by omega) (fun j hj => iv_sub hr (by omega))
  · rw [iv_bt hr (by omega), if_pos hpb]; exact hp
  · have h0 := iv_bt (b := b) (m := m) (r := 0) (j := p) (Nat.two_pow_pos b) (by omega)
    rw [Nat.add_zero, if_pos hpb, Nat.zero_testBit] at h0
    exact h0
theorem iv_or1 {b m : Nat} (hb : b ≤ 12) : nI (2 ^ b * m) ||| (am_sh (nI b) - 1) = nI (2 ^ b * m + (2 ^ b - 1)) := by
  have hp := Nat.two_pow_pos b
  rw [sh_pow b hb]
  obtain ⟨y, hy⟩ : ∃ y, 2 ^ b = y + 1 := ⟨2 ^ b - 1, by omega⟩
  have e1 : nI (2 ^ b) - 1 = nI (2 ^ b - 1) := by rw [hy, nI_pred]; rfl
  rw [e1]
  refine b_ext (fun j hj => ?_)
  rw [b_or, iv_bt (by omega) hj, bt_nI hj (s := 2 ^ b - 1), Nat.testBit_two_pow_sub_one]
  have h0 := iv_bt (b := b) (m := m) (r := 0) (j := j) (Nat.two_pow_pos b) hj
  rw [Nat.add_zero] at h0
  rw [h0]
  by_cases z : j < b
  · rw [if_pos z, if_pos z, decide_eq_true z, Bool.or_true]
  · rw [if_neg z, if_neg z, decide_eq_false z, Bool.or_false]
theorem iv_or2 {b m : Nat} (hb : b ≤ 12) : nI (2 ^ (b + 1) * m) ||| am_sh (nI b) = nI (2 ^ b * (2 * m + 1)) := by
  have hp := Nat.two_pow_pos b
  rw [show 2 ^ b * (2 * m + 1) = 2 ^ (b + 1) * m + 2 ^ b by rw [Nat.pow_succ, Nat.mul_add, Nat.mul_one, Nat.mul_assoc]]
  have hlt : 2 ^ b < 2 ^ (b + 1) := by rw [Nat.pow_succ]; omega
  refine b_ext (fun j hj => ?_)
  rw [b_or, iv_bt hlt hj, b_sh hj (by omega), Nat.testBit_two_pow]
  have h0 := iv_bt (b := b + 1) (m := m) (r := 0) (j := j) (Nat.two_pow_pos (b + 1)) hj
  rw [Nat.add_zero] at h0
  rw [h0]
  have e : decide (j = b) = decide (b = j) := decide_eq_decide.mpr ⟨Eq.symm, Eq.symm⟩
  by_cases z : j < b + 1
  · rw [if_pos z, if_pos z, Nat.zero_testBit, Bool.false_or, e]
  · rw [if_neg z, if_neg z, decide_eq_false (show ¬ j = b by omega), Bool.or_false]
/-- the best of the sets in a row -/
def upB (G : Nat → Bool) (best : Option Nat) (S : Nat) : Option Nat := bif G S && (match best with | none => true | some b => decide (sz S < sz b)) then some S else best
def rgB (G : Nat → Bool) (best : Option Nat) (a : Nat) : Nat → Option Nat
  | 0 => best
  | n + 1 => upB G (rgB G best a n) (a + n)
theorem rg_add {G : Nat → Bool} {best : Option Nat} {a m : Nat} : ∀ n, rgB G best a (m + n) = rgB G (rgB G best a m) (a + m) n := by
  intro n
  induction n with
  | zero => rfl
  | succ n ih => rw [show m + (n + 1) = (m + n) + 1 from rfl, rgB, rgB, ih, Nat.add_assoc]
theorem rg_no {G : Nat → Bool} {best : Option Nat} {a : Nat} : ∀ n, (∀ i, i < n → upB G best (a + i) = best) → rgB G best a n = best := by
  intro n
  induction n with
  | zero => intro _; rfl
  | succ n ih => intro h; rw [rgB, ih (fun i hi => h i (by omega)), h n (by omega)]
theorem up_f {G : Nat → Bool} {best : Option Nat} {S : Nat} (h : G S = false) : upB G best S = best := by unfold upB; rw [h]; rfl
theorem up_s {G : Nat → Bool} {S b : Nat} (h : sz b ≤ sz S) : upB G (some b) S = some b := by
  unfold upB
  have : decide (sz S < sz b) = false := decide_eq_false (by omega)
  show (bif G S && decide (sz S < sz b) then some S else some b) = some b
  rw [this, Bool.and_false]; rfl
theorem up_t {G : Nat → Bool} {best : Option Nat} {S : Nat} (h : G S = true) : ∃ b, upB G best S = some b ∧ sz b ≤ sz S := by
  cases best with
  | none => exact ⟨S, by unfold upB; rw [h]; rfl, Nat.le_refl _⟩
  | some b =>
    by_cases z : sz S < sz b
    · refine ⟨S, ?_, Nat.le_refl _⟩
      show (bif G S && decide (sz S < sz b) then some S else some b) = some S
      rw [h, decide_eq_true z]; rfl
    · exact ⟨b, up_s (by omega), by omega⟩
/-- the search's own cuts -/
theorem rg_hit {G : Nat → Bool} {best : Option Nat} {b m : Nat} (hb : b ≤ 12) (h : G (2 ^ b * m) = true) : rgB G best (2 ^ b * m) (2 ^ b) = upB G best (2 ^ b * m) := by
  have hp := Nat.two_pow_pos b
  obtain ⟨y, hy⟩ : ∃ y, 2 ^ b = 1 + y := ⟨2 ^ b - 1, by omega⟩
  have e1 : rgB G best (2 ^ b * m) (2 ^ b) = rgB G (rgB G best (2 ^ b * m) 1) (2 ^ b * m + 1) y := by
    rw [← rg_add, ← hy]
  rw [e1]
  have e2 : rgB G best (2 ^ b * m) 1 = upB G best (2 ^ b * m) := by rw [rgB, rgB, Nat.add_zero]
  rw [e2]
  obtain ⟨b2, eb, hb2⟩ := up_t (best := best) h
  rw [eb]
  refine rg_no y (fun i hi => up_s ?_)
  have := iv_sz (m := m) (r := 1 + i) hb (by omega) (by omega)
  rw [Nat.add_assoc]
  omega
def eN : Option Nat → Int32
  | none => -4
  | some S => nI S
theorem rg_fact {G : Nat → Bool} : ∀ N, (rgB G none 0 N = none ∧ ∀ S, S < N → G S = false) ∨ ∃ b, rgB G none 0 N = some b ∧ b < N ∧ G b = true ∧ ∀ S, S < N → G S = true → sz b ≤ sz S ∧ (sz S = sz b → b ≤ S) := by
  intro N
  induction N with
  | zero => exact Or.inl ⟨rfl, fun S hS => absurd hS (by omega)⟩
  | succ N ih =>
    rw [rgB, Nat.zero_add]
    cases hG : G N with
    | false =>
      rw [up_f hG]
      rcases ih with ⟨h1, h2⟩ | ⟨b, h1, h2, h3, h4⟩
      · refine Or.inl ⟨h1, fun S hS => ?_⟩
        rcases Nat.lt_succ_iff_lt_or_eq.mp hS with z | z
        · exact h2 S z
        · rw [z]; exact hG
      · refine Or.inr ⟨b, h1, by omega, h3, fun S hS hGS => ?_⟩
        rcases Nat.lt_succ_iff_lt_or_eq.mp hS with z | z
        · exact h4 S z hGS
        · rw [z, hG] at hGS; cases hGS
    | true =>
      rcases ih with ⟨h1, h2⟩ | ⟨b, h1, h2, h3, h4⟩
      · refine Or.inr ⟨N, by rw [h1]; unfold upB; rw [hG]; rfl, by omega, hG, fun S hS hGS => ?_⟩
        rcases Nat.lt_succ_iff_lt_or_eq.mp hS with z | z
        · rw [h2 S z] at hGS; cases hGS
        · rw [z]; exact ⟨Nat.le_refl _, fun _ => Nat.le_refl _⟩
      · rw [h1]
        by_cases z : sz N < sz b
        · refine Or.inr ⟨N, ?_, by omega, hG, fun S hS hGS => ?_⟩
          · show (bif G N && decide (sz N < sz b) then some N else some b) = some N
            rw [hG, decide_eq_true z]; rfl
          · rcases Nat.lt_succ_iff_lt_or_eq.mp hS with y | y
            · have := (h4 S y hGS).1
              exact ⟨by omega, fun e => by omega⟩
            · rw [y]; exact ⟨Nat.le_refl _, fun _ => Nat.le_refl _⟩
        · refine Or.inr ⟨b, up_s (by omega), by omega, h3, fun S hS hGS => ?_⟩
          rcases Nat.lt_succ_iff_lt_or_eq.mp hS with y | y
          · exact h4 S y hGS
          · rw [y]; exact ⟨by omega, fun _ => by omega⟩
theorem rg_is {G : Nat → Bool} {N j : Nat} (hj : j < N) (hG : G j = true) (h : ∀ S, S < N → G S = true → sz j ≤ sz S ∧ (sz S = sz j → j ≤ S)) : rgB G none 0 N = some j := by
  rcases rg_fact (G := G) N with ⟨-, h2⟩ | ⟨b, h1, h2, h3, h4⟩
  · rw [h2 j hj] at hG; cases hG
  · have a := h4 j hj hG
    have e := h b h2 h3
    have : b = j := by
      have es : sz b = sz j := by omega
      have := a.2 es.symm
      have := e.2 es
      omega
    rw [h1, this]
theorem rg_none {G : Nat → Bool} {N : Nat} (h : ∀ S, S < N → G S = false) : rgB G none 0 N = none := rg_no N (fun i hi => up_f (h (0 + i) (by omega)))
/-- a set by which one alone is left -/
def gdV (g : am_G) (n tk c S : Nat) : Bool := decide (bcN (suM g n tk c (nI S)) 20 = 1)
theorem gd_cnt {n tk : Nat} {set set' : Int32} (hn : n ≤ 6) (h : ∀ j, j < c → bt set j = true → bt set' j = true) : bcN (suM g n tk c set') 20 ≤ bcN (suM g n tk c set) 20 := bcN_sub 20 (fun j hj => su_mono (by omega) hn h)
theorem suV_0 {n tk : Nat} {set : Int32} (hn : n ≤ 6) : am_bc (suM g n tk c set) = nI (bcN (suM g n tk c set) 20) := bc_few (suM_lt hn)
theorem rg_rng {G : Nat → Bool} {best : Option Nat} {a s : Nat} : ∀ n, rgB G best a n = some s → best = some s ∨ (a ≤ s ∧ s < a + n) := by
  intro n
  induction n with
  | zero => intro h; exact Or.inl h
  | succ n ih =>
    intro h
    rw [rgB] at h
    unfold upB at h
    cases hc : (G (a + n) && (match rgB G best a n with | none => true | some b => decide (sz (a + n) < sz b))) with
    | true =>
      rw [hc, cond_true] at h
      cases h
      exact Or.inr ⟨by omega, by omega⟩
    | false =>
      rw [hc, cond_false] at h
      rcases ih h with z | z
      · exact Or.inl z
      · exact Or.inr ⟨z.1, by omega⟩
theorem gdV_sc {g' : am_G} {n tk : Nat} (s : scC g g') : gdV g' n tk c = gdV g n tk c := by
  funext S
  unfold gdV
  rw [suM_sc s]
theorem eN_4 {S : Nat} (h : S < 4096) : ¬ nI S = -4 := by
  intro e
  have h1 : (nI S).toInt = ((-4 : Int32)).toInt := by rw [e]
  rw [nI_toInt (by omega), show ((-4 : Int32)).toInt = -4 from by decide] at h1
  omega
theorem su_in {n tk b m r : Nat} (hn : n ≤ 6) (hc : c ≤ 12) (hr : r < 2 ^ b) : bcN (suM g n tk c (nI (2 ^ b * m + r))) 20 ≤ bcN (suM g n tk c (nI (2 ^ b * m))) 20 := gd_cnt hn (fun j hj => iv_sub hr (by omega))
theorem su_out {n tk b m r : Nat} (hn : n ≤ 6) (hc : c ≤ 12) (hr : r < 2 ^ b) : bcN (suM g n tk c (nI (2 ^ b * m + (2 ^ b - 1)))) 20 ≤ bcN (suM g n tk c (nI (2 ^ b * m + r))) 20 := gd_cnt hn (fun j hj => iv_full hr (by omega))
theorem w_search_hd {e b m n tk : Nat} {best : Option Nat} (hn : n ≤ 6) (hb : b ≤ c) (hc : c ≤ 12) (hm : 2 ^ b * m + 2 ^ b ≤ 4096) (hbe : ∀ s, best = some s → s < 4096) (hgo : 0 < b → ∀ l6 l7 : Option Value, am (e + 5) 82 74 [some (.ref 1), some (.ref 9), some (.int (nI b)), some (.int (nI (2 ^ b * m))), some (.int (suM g n tk c (nI (2 ^ b * m)))), some (.int (eN best)), l6, l7, none, none] [] LY g 0 0 none Q) (h : Q (some (.int (eN (rgB (gdV g n tk c) best (2 ^ b * m) (2 ^ b))))) LY g) : am (e + 5) 82 0 [some (.ref 1), some (.ref 9), some (.int (nI b)), some (.int (nI (2 ^ b * m))), some (.int (suM g n tk c (nI (2 ^ b * m)))), some (.int (eN best)), none, none, none, none] [] LY g 0 0 none Q := by
  have hp := Nat.two_pow_pos b
  obtain ⟨ch, ech⟩ : ∃ ch, ch = 2 ^ b * m := ⟨_, rfl⟩
  have hch : ch < 4096 := by omega
  have esz : am_bc (nI ch) = nI (sz ch) := bc_12 hch
  have hs20 := sz_le ch
  have ek := suV_0 (g := g) (c := c) (tk := tk) (set := nI ch) hn
  have hk6 := suM_n (g := g) (c := c) (tk := tk) (set := nI ch) hn
  obtain ⟨k0, ek0⟩ : ∃ k0, k0 = bcN (suM g n tk c (nI ch)) 20 := ⟨_, rfl⟩
  rw [← ek0] at ek hk6
  have ebs : ∀ s, best = some s → am_bc (nI s) = nI (sz s) := fun s es => bc_12 (hbe s es)
  rw [← ech]
  refine am_run_k 2 (am_cl ?_)
  refine w_bitCount ?_
  refine am_run_k 3 (am_cl ?_)
  refine w_bitCount ?_
  rw [ek, esz]
  refine am_run_k 4 (And.intro (fun h1 => ?_) (fun h1 => ?_))
  · have hk1 : ¬ k0 = 1 := fun z => h1 (by rw [z]; rfl)
    have hG : gdV g n tk c ch = false := by unfold gdV; rw [← ek0]; exact decide_eq_false hk1
    have stay : (∀ i, i < 2 ^ b → upB (gdV g n tk c) best (2 ^ b * m + i) = best) → Q (some (.int (eN best))) LY g := by
      intro z
      rw [rg_no (2 ^ b) z] at h
      exact h
    refine am_run_k 2 (And.intro (fun h2 => ?_) (fun h2 => ?_))
    · refine am_run_k 2 ?_
      have hk0 : k0 = 0 := by
        first
          | exact (nI_eq (by omega) (by decide)).mp (show nI k0 = nI 0 from h2)
          | exact (nI_eq (by omega) (by decide)).mp (show nI k0 = nI 0 from rdr h2)
      refine stay (fun i hi => up_f ?_)
      have := su_in (g := g) (tk := tk) (m := m) hn hc hi
      rw [← ech, ← ek0] at this
      rw [← ech]
      unfold gdV
      exact decide_eq_false (by omega)
    · rcases Nat.eq_zero_or_pos b with hb0 | hb0
      · subst hb0
        refine am_run_k 2 (And.intro (fun h3 => ?_) (fun hx => absurd ((show nI 0 ≤ 0 from Int32.le_refl 0)) hx))
        refine am_run_k 2 ?_
        refine stay (fun i hi => up_f ?_)
        have : i = 0 := by omega
        subst this
        rw [Nat.add_zero, ← ech]; exact hG
      · refine am_run_k 2 (And.intro (fun hx => absurd hx ((nI_nle hb0 (by omega)))) (fun h3 => ?_))
        have go := hgo hb0
        rw [← ech] at go
        refine am_run_k 3 (And.intro (fun h4 => ?_) (fun h4 => ?_))
        · exact go _ _
        · cases best with
          | none => exact absurd rfl h4
          | some s =>
            refine am_run_k 5 (am_cl ?_)
            refine w_bitCount ?_
            have es := ebs s rfl
            have hss := sz_le s
            show am (e + 5) 82 68 _ (_ :: _) LY g _ _ none Q
            have e1 : am_bc (eN (some s)) = nI (sz s) := es
            rw [e1]
            refine am_run_k 1 (And.intro (fun h5 => ?_) (fun h5 => ?_))
            · exact go _ _
            · refine am_run_k 2 ?_
              have hge : sz s ≤ sz ch + 1 := by
                rw [nI_1] at h5
                rcases Nat.lt_or_ge (sz ch + 1) (sz s) with z | z
                · have := nI_lt' z (by omega)
                  first
                    | exact absurd this h5
                    | exact absurd this (fa_nlt.mpr h5)
                · exact z
              refine stay (fun i hi => ?_)
              rcases Nat.eq_zero_or_pos i with z | z
              · subst z; rw [Nat.add_zero, ← ech]; exact up_f hG
              · have := iv_sz (m := m) (b := b) (by omega) hi z
                rw [← ech] at this ⊢
                exact up_s (by omega)
  · have hk1 : k0 = 1 := by
      first
        | exact (nI_eq (by omega) (by decide)).mp (show nI k0 = nI 1 from h1)
        | exact (nI_eq (by omega) (by decide)).mp (show nI k0 = nI 1 from rdr h1)
    have hG : gdV g n tk c ch = true := by unfold gdV; rw [← ek0]; exact decide_eq_true hk1
    rw [rg_hit (by omega) (by rw [← ech]; exact hG), ← ech] at h
    cases best with
    | none =>
      refine am_run_k 3 (And.intro (fun h2 => ?_) (fun hx => absurd ((show (-4 : Int32) = -4 from rfl)) hx))
      refine am_run_k 3 ?_
      have : upB (gdV g n tk c) none ch = some ch := by unfold upB; rw [hG]; rfl
      rw [this] at h
      exact h
    | some s =>
      have es := ebs s rfl
      have hss := sz_le s
      have e1 : am_bc (eN (some s)) = nI (sz s) := es
      refine am_run_k 3 (And.intro (fun hx => absurd hx ((show ¬ nI s = -4 from eN_4 (hbe s rfl)))) (fun h2 => ?_))
      refine am_run_k 3 (am_cl ?_)
      refine w_bitCount ?_
      rw [e1]
      refine am_run_k 1 (And.intro (fun h3 => ?_) (fun h3 => ?_))
      · have hge : sz s ≤ sz ch := by
          first
            | exact (nI_leI (by omega) (by omega)).mp h3
            | exact (nI_leI (by omega) (by omega)).mp (fa_nlt.mp h3)
        refine am_run_k 2 ?_
        rw [up_s hge] at h
        exact h
      · have hlt : sz ch < sz s := by
          rcases Nat.lt_or_ge (sz ch) (sz s) with z | z
          · exact z
          · have := nI_le z (by omega)
            first
              | exact absurd this h3
              | exact absurd this (fa_nle.mpr h3)
        refine am_run_k 3 ?_
        have : upB (gdV g n tk c) (some s) ch = some ch := by
          show (bif gdV g n tk c ch && decide (sz ch < sz s) then some ch else some s) = some ch
          rw [hG, decide_eq_true hlt]; rfl
        rw [this] at h
        exact h
theorem w_search_x : ∀ (b : Nat) {d m n tk : Nat} {best : Option Nat} {g : am_G} {Q : am_Q} {B c f : Nat} (t : T g B c f) (hn : n ≤ 6) (e13 : g 1 3 = nI n) (htk : tk < 10) (e15 : g 1 5 = nI tk) (hb : b ≤ c) (hc : c ≤ 12) (hm : 2 ^ b * m + 2 ^ b ≤ 4096) (hbe : ∀ s, best = some s → s < 4096), (∀ g', scC g g' → Q (some (.int (eN (rgB (gdV g n tk c) best (2 ^ b * m) (2 ^ b))))) LY g') → am (d + b + 5) 82 0 [some (.ref 1), some (.ref 9), some (.int (nI b)), some (.int (nI (2 ^ b * m))), some (.int (suM g n tk c (nI (2 ^ b * m)))), some (.int (eN best)), none, none, none, none] [] LY g 0 0 none Q := by
  intro b
  induction b with
  | zero =>
    intro d m n tk best g Q B c f t hn e13 htk e15 hb hc hm hbe h
    exact w_search_hd hn hb hc hm hbe (fun z => absurd z (by omega)) (h g scC.rf)
  | succ b ih =>
    intro d m n tk best g Q B c f t hn e13 htk e15 hb hc hm hbe h
    have hp := Nat.two_pow_pos b
    have e2 : 2 ^ (b + 1) = 2 ^ b + 2 ^ b := by rw [Nat.pow_succ]; omega
    have em : 2 ^ (b + 1) * m = 2 ^ b * (2 * m) := by rw [Nat.pow_succ, Nat.mul_assoc]
    have em1 : 2 ^ b * (2 * m + 1) = 2 ^ b * (2 * m) + 2 ^ b := by rw [Nat.mul_add, Nat.mul_one]
    have hm2 : 2 ^ b * (2 * m) + 2 ^ b + 2 ^ b ≤ 4096 := by omega
    refine w_search_hd (e := d + (b + 1)) hn hb hc hm hbe (fun _ l6 l7 => ?_) (h g scC.rf)
    have efull : suV g n tk c (nI (2 ^ (b + 1) * m) ||| (am_sh (nI (b + 1)) - 1)) (suM g n tk c (nI (2 ^ (b + 1) * m))) = suM g n tk c (nI (2 ^ (b + 1) * m + (2 ^ (b + 1) - 1))) := by
      rw [iv_or1 (by omega)]
      exact suV_among hn (fun j hj => iv_sub (by omega) (by omega))
    have ebc := suV_0 (g := g) (c := c) (tk := tk) (set := nI (2 ^ (b + 1) * m + (2 ^ (b + 1) - 1))) hn
    have hk6 := suM_n (g := g) (c := c) (tk := tk) (set := nI (2 ^ (b + 1) * m + (2 ^ (b + 1) - 1))) hn
    refine am_run_k 11 (am_cl ?_)
    refine w_suspectsOf_x (set := nI (2 ^ (b + 1) * m) ||| (am_sh (nI (b + 1)) - 1)) t hn e13 htk e15 (fun g1 hg1 => ?_)
    rw [efull]
    refine am_run_k 1 (am_cl ?_)
    refine w_bitCount ?_
    rw [ebc]
    refine am_run_k 2 (And.intro (fun h5 => ?_) (fun h5 => ?_))
    · refine am_run_k 9 (am_cl ?_)
      show am (d + b + 5) 82 0 [some (.ref 1), some (.ref 9), some (.int (nI (b + 1) - 1)), some (.int (nI (2 ^ (b + 1) * m))), some (.int (suM g n tk c (nI (2 ^ (b + 1) * m)))), some (.int (eN best)), none, none, none, none] [] LY g1 0 0 none _
      rw [nI_pred, em, ← suM_sc hg1]
      refine ih (t.scC hg1) hn (by rw [hg1 1 (by omega)]; exact e13) htk (by rw [hg1 1 (by omega)]; exact e15) (by omega) hc (by omega) hbe (fun g2 hg2 => ?_)
      rw [gdV_sc hg1]
      have h12 := hg1.tr hg2
      have etk : suV g2 n tk c (nI (2 ^ (b + 1) * m) ||| am_sh (nI b)) (suM g n tk c (nI (2 ^ (b + 1) * m))) = suM g n tk c (nI (2 ^ b * (2 * m + 1))) := by
        rw [suV_sc h12, iv_or2 (by omega)]
        refine suV_among hn (fun j hj => ?_)
        rw [em1, em]
        have := iv_sub (b := b + 1) (m := m) (r := 2 ^ b) (j := j) (by omega) (by omega)
        rw [em] at this
        exact this
      have ein : nI (b + 1) - 1 = nI b := nI_pred b
      rw [← em]
      refine am_run_k 20 (am_cl ?_)
      refine w_suspectsOf_x (set := nI (2 ^ (b + 1) * m) ||| am_sh (nI (b + 1) - 1)) (t.scC h12) hn (by rw [h12 1 (by omega)]; exact e13) htk (by rw [h12 1 (by omega)]; exact e15) (fun g3 hg3 => ?_)
      rw [ein, suM_sc hg1, etk]
      refine am_run_k 2 (am_cl ?_)
      show am (d + b + 5) 82 0 [some (.ref 1), some (.ref 9), some (.int (nI b)), some (.int (nI (2 ^ (b + 1) * m) ||| am_sh (nI b))), some (.int (suM g n tk c (nI (2 ^ b * (2 * m + 1))))), some (.int (eN (rgB (gdV g n tk c) best (2 ^ (b + 1) * m) (2 ^ b)))), none, none, none, none] [] LY g3 0 0 none _
      have h13 := h12.tr hg3
      rw [iv_or2 (by omega), ← suM_sc h13]
      refine ih ((t.scC h12).scC hg3) hn (by rw [h13 1 (by omega)]; exact e13) htk (by rw [h13 1 (by omega)]; exact e15) (by omega) hc (by omega) (fun s es => ?_) (fun g4 hg4 => ?_)
      · rcases rg_rng _ es with z | z
        · exact hbe s z
        · omega
      · rw [gdV_sc h13]
        refine am_run_k 1 ?_
        have hh := h g4 (h13.tr hg4)
        have eadd : ∀ a, rgB (gdV g n tk c) best a (2 ^ (b + 1)) = rgB (gdV g n tk c) (rgB (gdV g n tk c) best a (2 ^ b)) (a + 2 ^ b) (2 ^ b) := fun a => by rw [e2, rg_add]
        rw [eadd, show 2 ^ (b + 1) * m + 2 ^ b = 2 ^ b * (2 * m + 1) by omega] at hh
        exact hh
    · refine am_run_k 2 ?_
      have hk2 : 2 ≤ bcN (suM g n tk c (nI (2 ^ (b + 1) * m + (2 ^ (b + 1) - 1)))) 20 := by
        rcases Nat.lt_or_ge (bcN (suM g n tk c (nI (2 ^ (b + 1) * m + (2 ^ (b + 1) - 1)))) 20) 2 with z | z
        · have := nI_le (show bcN (suM g n tk c (nI (2 ^ (b + 1) * m + (2 ^ (b + 1) - 1)))) 20 ≤ 1 by omega) (by decide)
          first
            | exact absurd this h5
            | exact absurd this (fa_nle.mpr h5)
        · exact z
      have hh := h g1 hg1
      rw [rg_no (2 ^ (b + 1)) (fun i hi => up_f (by
        have := su_out (g := g) (tk := tk) (m := m) hn hc hi
        unfold gdV
        exact decide_eq_false (by omega)))] at hh
      exact hh
def aLeast (g : am_G) (c : Nat) : Int32 := bif decide (12 < c) then -3 else eN (rgB (gdV g (nV g) (kV g) c) none 0 (2 ^ c))
theorem gdV_sm {g' : am_G} {n tk : Nat} (s : scM g g') : gdV g' n tk c = gdV g n tk c := by
  funext S
  unfold gdV
  rw [suM_sm s]
theorem aLeast_sc {g' : am_G} (s : scC g g') : aLeast g' c = aLeast g c := by
  unfold aLeast nV kV
  rw [gdV_sc s, s 22 (by omega)]
theorem pow12 {c : Nat} (h : c ≤ 12) : 2 ^ c ≤ 4096 := by
  have := Nat.pow_le_pow_right (n := 2) (by decide) h; exact this
theorem x_least (t : T g B c f) (h : ∀ g', scC g g' → Q (some (.int (aLeast g c))) LY g') : am (d + 26) 67 0 [some (.ref 0)] [] LY g 0 0 none Q := by
  obtain ⟨⟨n1, n2, n3, n4⟩, k1, k2, k3⟩ := t.nk
  obtain ⟨⟨hc, hf, e51, e54⟩, -⟩ := id t
  refine am_run_k 6 (And.intro (fun h1 => ?_) (fun h1 => ?_))
  · have hc12 : c ≤ 12 := by
      rw [e51] at h1
      rcases Nat.lt_or_ge 12 c with e | e
      · first
          | exact absurd h1 (nI_ge e (by omega))
          | exact absurd (nI_lt' e (by omega)) (fa_nlt.mpr h1)
      · exact e
    have e : aLeast g c = eN (rgB (gdV g (nV g) (kV g) c) none (2 ^ c * 0) (2 ^ c)) := by
      unfold aLeast; rw [decide_eq_false (by omega)]; rfl
    rw [e] at h
    refine am_run_k 17 (am_cl ?_)
    refine w_everyone ?_
    rw [n3]
    refine am_run_k 1 (am_cl ?_)
    refine w_suspectsOf_x (n := nV g) (tk := kV g) (set := nI 0) t n2 n3 k1 k2 (fun g1 hg1 => ?_)
    rw [suV_all n2]
    refine am_run_k 2 (am_cl ?_)
    have hdep : d + 25 = (d + 20 - c) + c + 5 := by omega
    show am (d + 25) 82 0 [some (.ref 1), some (.ref 9), some (.int (g 5 1)), some (.int (nI (2 ^ c * 0))), some (.int (suM g (nV g) (kV g) c (nI (2 ^ c * 0)))), some (.int (eN none)), none, none, none, none] [] LY g1 0 0 none _
    rw [hdep, e51, ← suM_sc hg1]
    have hp := pow12 hc12
    refine w_search_x c (t.scC hg1) n2 (by rw [hg1 1 (by omega)]; exact n3) k1 (by rw [hg1 1 (by omega)]; exact k2) (Nat.le_refl c) hc12 (by omega) (fun s es => by cases es) (fun g2 hg2 => ?_)
    rw [gdV_sc hg1]
    refine am_run_k 1 ?_
    exact h g2 (hg1.tr hg2)
  · have hc12 : 12 < c := by
      rw [e51] at h1
      rcases Nat.lt_or_ge 12 c with e | e
      · exact e
      · have := nI_le e (by decide)
        first
          | exact absurd this h1
          | exact absurd this (fa_nle.mpr h1)
    refine am_run_k 2 ?_
    have e : aLeast g c = -3 := by unfold aLeast; rw [decide_eq_true hc12]; rfl
    have := h g scC.rf
    rw [e] at this
    exact this
theorem onV_4 {x : Int32} : onV x = -4 ↔ ¬ am_bc x = 1 := by
  unfold onV
  by_cases z : am_bc x = 1
  · rw [decide_eq_true z, cond_true]
    obtain ⟨p, hp, ep⟩ := fsF_in x 8 0 rfl
    rw [ep]
    exact ⟨fun e => absurd e (eN_4 (by omega)), fun e => absurd z e⟩
  · rw [decide_eq_false z]
    exact ⟨fun _ => z, fun _ => rfl⟩
theorem sz_lt {c S : Nat} (hc : c ≤ 12) (h : S < 2 ^ c) : sz S ≤ c := by
  unfold sz
  have := bcN_hi (x := nI S) (k := c) (fun q hq hcq => by
    rw [bt_nI hq]
    exact Nat.testBit_lt_two_pow (Nat.lt_of_lt_of_le h (Nat.pow_le_pow_right (by decide) hcq))) (20 - c) (by omega)
  rw [show c + (20 - c) = 20 by omega] at this
  rw [this]
  exact bcN_le _ c
theorem y_leastSet {l1 l2 : Option Value} (t : T g B c f) (h : ∀ g', scM g g' → Q (some (.int (aLeast g c))) LY g') : am (d + 5) 124 0 [some (.ref 22), l1, l2] [] LY g 0 0 none Q := by
  obtain ⟨⟨n1, n2, n3, n4⟩, k1, k2, k3⟩ := t.nk
  have hc := t.1.1
  have ec := t.c7
  refine am_run_k 4 (And.intro (fun h1 => ?_) (fun h1 => ?_))
  · have hc12 : c ≤ 12 := by
      have h1 : g 22 7 ≤ nI 12 := h1
      rw [ec] at h1
      rcases Nat.lt_or_ge 12 c with e | e
      · exact absurd h1 (nI_ge e (by omega))
      · exact e
    have hp : 2 ^ c ≤ 4096 := pow12 hc12
    obtain ⟨G, eG⟩ : ∃ G, G = gdV g (nV g) (kV g) c := ⟨_, rfl⟩
    have eL : aLeast g c = eN (rgB G none 0 (2 ^ c)) := by
      unfold aLeast; rw [decide_eq_false (by omega), eG]; rfl
    rw [eL] at h
    have out : ∀ (m k : Nat) (x : Int32) (l2 : Option Value) (g1 : am_G), k + m = c + 1 → x = nI k → scM g g1 → (∀ S, S < 2 ^ c → G S = true → k ≤ sz S) → am (d + 5) 124 14 [some (.ref 22), some (.int x), l2] [] LY g1 0 0 none Q := by
      intro m
      induction m with
      | zero =>
        intro k x l2 g1 hk hx s hk2
        have hk : k = c + 1 := by omega
        subst hk; subst hx
        refine am_run_k 4 (And.intro (fun h6 => ?_) (fun hx => absurd ((show g1 22 7 < nI (c + 1) by rw [s.2 7 (by decide) (by decide), ec]; exact nI_lt' (by omega))) hx))
        refine am_run_k 2 ?_
        have : rgB G none 0 (2 ^ c) = none := rg_none (fun S hS => by
          cases z : G S with
          | false => rfl
          | true =>
            have a1 := hk2 S hS z
            have a2 := sz_lt hc12 hS
            omega)
        rw [this] at h
        exact h g1 s
      | succ m ih =>
        intro k x l2 g1 hk hx s hk2
        subst hx
        refine am_run_k 4 (And.intro (fun hx => absurd hx ((show ¬ g1 22 7 < nI k by rw [s.2 7 (by decide) (by decide), ec, fa_nlt]; exact nI_le (by omega) (by omega)))) (fun h6 => ?_))
        have inn : ∀ (m2 j : Nat) (y : Int32) (g2 : am_G), j + m2 = 2 ^ c → y = nI j → scM g g2 → (∀ S, S < j → G S = true → sz S ≠ k) → am (d + 5) 124 24 [some (.ref 22), some (.int (nI k)), some (.int y)] [] LY g2 0 0 none Q := by
          intro m2
          induction m2 with
          | zero =>
            intro j y g2 hj hy s2 hj2
            have hj : j = 2 ^ c := by omega
            subst hj; subst hy
            have e : am_sh (g2 22 7) = nI (2 ^ c) := by rw [s2.2 7 (by decide) (by decide), ec]; exact sh_pow c hc12
            refine am_run_k 6 (And.intro (fun h6 => ?_) (fun hx => absurd ((show am_sh (g2 22 7) ≤ nI (2 ^ c) by rw [e]; exact nI_le (Nat.le_refl _) (by omega))) hx))
            refine am_run_k 2 ?_
            refine ih (k + 1) _ _ g2 (by omega) (nI_1 k) s2 (fun S hS hG => ?_)
            have a1 := hk2 S hS hG
            have a2 := hj2 S hS hG
            omega
          | succ m2 ih2 =>
            intro j y g2 hj hy s2 hj2
            subst hy
            have e : am_sh (g2 22 7) = nI (2 ^ c) := by rw [s2.2 7 (by decide) (by decide), ec]; exact sh_pow c hc12
            refine am_run_k 6 (And.intro (fun hx => absurd hx ((show ¬ am_sh (g2 22 7) ≤ nI j by rw [e]; exact nI_ge (by omega) (by omega)))) (fun h6 => ?_))
            have nx : ∀ (g3 : am_G), scM g g3 → ¬ (sz j = k ∧ G j = true) → am (d + 5) 124 57 [some (.ref 22), some (.int (nI k)), some (.int (nI j))] [] LY g3 0 0 none Q := by
              intro g3 s3 z
              refine am_run_k 2 ?_
              refine ih2 (j + 1) _ g3 (by omega) (nI_1 j) s3 (fun S hS hG => ?_)
              rcases Nat.lt_succ_iff_lt_or_eq.mp hS with y | y
              · exact hj2 S y hG
              · subst y
                exact fun e => z ⟨e, hG⟩
            have hsz : nI (bcN (nI j) 20) = nI (sz j) := rfl
            have hs20 := sz_le j
            refine am_run_k 2 (am_cl ?_)
            refine m_many ?_
            rw [hsz]
            refine am_run_k 2 (And.intro (fun h2 => ?_) (fun h2 => ?_))
            · exact nx g2 s2 (fun z => h2 (by rw [z.1]))
            · have h2 : sz j = k := by
                first
                  | exact (nI_eq (by omega) (by omega)).mp h2
                  | exact (nI_eq (by omega) (by omega)).mp (rdr h2)
              refine am_run_k 3 (am_cl ?_)
              refine m_suspectsBy_x (n := nV g) (tk := kV g) (t.scM s2) n2 (by rw [s2.2 0 (by decide) (by decide)]; exact n4) k1 (by rw [s2.2 5 (by decide) (by decide)]; exact k3) (fun g3 s3 => ?_)
              rw [suM_sm s2]
              have ebc := suV_0 (g := g) (c := c) (tk := kV g) (set := nI j) n2
              have hk6 := suM_n (g := g) (c := c) (tk := kV g) (set := nI j) n2
              have hGj : G j = decide (am_bc (suM g (nV g) (kV g) c (nI j)) = 1) := by
                rw [eG, ebc]
                unfold gdV
                exact decide_eq_decide.mpr ⟨fun e => by rw [e]; rfl, fun e => (nI_eq (by omega) (by decide)).mp (show _ = nI 1 from e)⟩
              refine am_run_k 1 (am_cl ?_)
              refine m_only_x (suM_lt n2) ?_
              refine am_run_k 2 (And.intro (fun h3 => ?_) (fun h3 => ?_))
              · have z : onV (suM g (nV g) (kV g) c (nI j)) = -4 := by first | exact h3 | exact rdr h3
                rw [onV_4] at z
                exact nx g3 (s2.tr s3) (fun y => by rw [hGj, decide_eq_false z] at y; exact absurd y.2 (by decide))
              · have z : ¬ onV (suM g (nV g) (kV g) c (nI j)) = -4 := h3
                have z2 : am_bc (suM g (nV g) (kV g) c (nI j)) = 1 := Classical.byContradiction (fun y => z (onV_4.mpr y))
                have hG : G j = true := by rw [hGj]; exact decide_eq_true z2
                refine am_run_k 2 ?_
                have : rgB G none 0 (2 ^ c) = some j := rg_is (by omega) hG (fun S hS hGS => by
                  have a1 := hk2 S hS hGS
                  refine ⟨by omega, fun e => ?_⟩
                  rcases Nat.lt_or_ge S j with y | y
                  · exact absurd (e.trans h2) (hj2 S y hGS)
                  · exact y)
                rw [this] at h
                exact h g3 (s2.tr s3)
        refine am_run_k 2 ?_
        exact inn (2 ^ c) 0 _ g1 (by omega) rfl s (fun S hS => absurd hS (by omega))
    refine am_run_k 2 ?_
    exact out (c + 1) 0 _ _ g (by omega) rfl scM.rf (fun S _ _ => Nat.zero_le _)
  · have hc12 : 12 < c := by
      rcases Nat.lt_or_ge 12 c with e | e
      · exact e
      · have := nI_le e (by decide)
        rw [← ec] at this
        first
          | exact absurd this h1
          | exact absurd this (fa_nle.mpr h1)
    refine am_run_k 2 ?_
    have e : aLeast g c = -3 := by unfold aLeast; rw [decide_eq_true hc12]; rfl
    have := h g scM.rf
    rw [e] at this
    exact this
end LST
