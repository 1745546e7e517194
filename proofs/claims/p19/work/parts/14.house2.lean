section HOV
variable {d : Nat} {L : am_L} {g : am_G} {bc bs : Nat} {sx : am_S} {Q : am_Q}
/-- one bit -/
def am_sh (k : Int32) : Int32 := (1 : Int32) <<< (k &&& 31)
def nrF (f : Nat → Int32) (i j : Nat) : Nat → Int32 := upd (upd f i (f i ||| am_sh (nI j))) j (upd f i (f i ||| am_sh (nI j)) j ||| am_sh (nI i))
def stF (i j s : Nat) (v : Int32) : Int32 := bif am_hs (nI s) (nI j) then (bif am_hs (nI s) (nI i) then v ||| am_sh (nI j) else v) ||| am_sh (nI i) else (bif am_hs (nI s) (nI i) then v ||| am_sh (nI j) else v)
theorem l_3_36 {i j : Nat} {g0 : am_G} (hi : i < 8) (hj : j < 8) (K : ∀ g : am_G, (∀ k, k ≠ 4 → g k = g0 k) → (∀ s, s < 256 → g 4 s = stF i j s (g0 4 s)) → Q none LY g) : ∀ (n s : Nat) (x : Int32) (g : am_G), s + n = 256 → x = nI s → (∀ k, k ≠ 4 → g k = g0 k) → (∀ p, p < s → g 4 p = stF i j p (g0 4 p)) → (∀ p, s ≤ p → g 4 p = g0 4 p) → am (d + 1) 3 36 [some (.ref 2), some (.int (nI i)), some (.int (nI j)), some (.int x)] [] LY g 0 0 none Q := by
  intro n
  induction n with
  | zero =>
    intro s x g hs hx h1 h2 h3
    have hs : s = 256 := by omega
    subst hs; subst hx
    refine am_run_k 3 (And.intro (fun h6 => ?_) (fun hx => absurd ((show nI 256 ≤ nI 256 from nI_le (Nat.le_refl 256) (by decide))) hx))
    refine am_run_k 1 ?_
    exact K g h1 h2
  | succ n ih =>
    intro s x g hs hx h1 h2 h3
    subst hx
    refine am_run_k 3 (And.intro (fun hx => absurd hx ((nI_ge (b := 256) (by omega) (by decide)))) (fun h6 => ?_))
    refine am_run_k 3 (am_cl ?_)
    refine w_has ?_
    have fin : ∀ v : Int32, v = stF i j s (g0 4 s) → ∀ g' : am_G, (∀ k, k ≠ 4 → g' k = g k) → g' 4 s = v → (∀ p, p ≠ s → g' 4 p = g 4 p) → am (d + 1) 3 36 [some (.ref 2), some (.int (nI i)), some (.int (nI j)), some (.int (nI s + 1))] [] LY g' 0 0 none Q := by
      intro v hv g' e1 e2 e3
      refine ih (s + 1) _ _ (by omega) (nI_1 s) (fun k hk => ?_) (fun p hp => ?_) (fun p hp => ?_)
      · rw [e1 k hk]; exact h1 k hk
      · by_cases e : p = s
        · rw [e, e2, hv]
        · rw [e3 p e]; exact h2 p (by omega)
      · rw [e3 p (by omega)]; exact h3 p (by omega)
    have hb := h3 s (Nat.le_refl s)
    refine am_run_k 1 (And.intro (fun h48 => ?_) (fun h48 => ?_))
    · have f1 := bi_f h48
      refine am_run_k 3 (am_cl ?_)
      refine w_has ?_
      refine am_run_k 1 (And.intro (fun h68 => ?_) (fun h68 => ?_))
      · have f2 := bi_f h68
        refine am_run_k 2 ?_
        exact fin (g 4 s) (by rw [hb]; unfold stF; rw [f1, f2]; rfl) g (fun k _ => rfl) rfl (fun p _ => rfl)
      · have f2 := bi_t h68
        refine am_run_k 5 (And.intro (vpn (by omega)) ?_)
        refine am_run_k 5 (And.intro (vpn (by omega)) ?_)
        refine am_run_k 2 ?_
        refine fin (g 4 s ||| am_sh (nI i)) (by rw [hb]; unfold stF; rw [f1, f2]; rfl) _ (fun k hk => am_up_ne hk) ?_ (fun p hp => ?_)
        · rw [ncl (by omega), am_up_us]; rfl
        · rw [ncl (by omega), am_up_un hp]
    · have f1 := bi_t h48
      refine am_run_k 5 (And.intro (vpn (by omega)) ?_)
      refine am_run_k 5 (And.intro (vpn (by omega)) ?_)
      refine am_run_k 3 (am_cl ?_)
      refine w_has ?_
      refine am_run_k 1 (And.intro (fun h68 => ?_) (fun h68 => ?_))
      · have f2 := bi_f h68
        refine am_run_k 2 ?_
        refine fin (g 4 s ||| am_sh (nI j)) (by rw [hb]; unfold stF; rw [f1, f2]; rfl) _ (fun k hk => am_up_ne hk) ?_ (fun p hp => ?_)
        · rw [ncl (by omega), am_up_us]; rfl
        · rw [ncl (by omega), am_up_un hp]
      · have f2 := bi_t h68
        refine am_run_k 5 (And.intro (vpn (by omega)) ?_)
        refine am_run_k 5 (And.intro (vpn (by omega)) ?_)
        refine am_run_k 2 ?_
        refine fin ((g 4 s ||| am_sh (nI j)) ||| am_sh (nI i)) (by rw [hb]; unfold stF; rw [f1, f2]; rfl) _ (fun k hk => by rw [am_up_ne hk, am_up_ne hk]) ?_ (fun p hp => ?_)
        · rw [ncl (by omega), am_up_us, am_up_us]; rfl
        · rw [ncl (by omega), am_up_un hp, am_up_un hp]
theorem w_join {i j : Nat} (hi : i < 8) (hj : j < 8) (h : ∀ g' : am_G, (∀ k, k ≠ 2 → k ≠ 3 → k ≠ 4 → g' k = g k) → (∀ k, k ≠ 2 → g' 2 k = g 2 k) → g' 2 2 = g 2 2 + 1 → g' 3 = nrF (g 3) i j → (∀ s, s < 256 → g' 4 s = stF i j s (g 4 s)) → Q none LY g') : am (d + 1) 3 0 [some (.ref 2), some (.int (nI i)), some (.int (nI j)), none] [] LY g 0 0 none Q := by
  refine am_run_k 11 (And.intro (vpn hi) ?_)
  refine am_run_k 5 (And.intro (vpn hi) ?_)
  refine am_run_k 5 (And.intro (vpn hj) ?_)
  refine am_run_k 5 (And.intro (vpn hj) ?_)
  refine am_run_k 2 ?_
  refine l_3_36 (g0 := am_up (am_up (am_up g 2 2 (g 2 2 + 1)) 3 i (g 3 i ||| am_sh (nI j))) 3 j (upd (g 3) i (g 3 i ||| am_sh (nI j)) j ||| am_sh (nI i))) hi hj (fun g' e1 e2 => ?_) 256 0 0 _ rfl rfl (fun k hk => ?_) (fun p hp => absurd hp (by omega)) (fun p hp => ?_)
  · refine h g' (fun k h2 h3 h4 => ?_) (fun k hk => ?_) ?_ ?_ (fun s hs => ?_)
    · rw [e1 k h4, am_up_ne h3, am_up_ne h3, am_up_ne h2]
    · rw [e1 2 (by decide), am_up_ne (by decide), am_up_ne (by decide), am_up_un hk]
    · rw [e1 2 (by decide), am_up_ne (by decide), am_up_ne (by decide), am_up_us]
    · rw [e1 3 (by decide)]
      rw [am_up_at, am_up_at, am_up_ne (by decide)]
      rfl
    · rw [e2 s hs, am_up_ne (by decide), am_up_ne (by decide), am_up_ne (by decide)]
  · by_cases e : k = 3
    · subst e
      simp only [am_up_at, ncl (show i < 2 ^ 31 by omega), ncl (show j < 2 ^ 31 by omega)]
      rfl
    · rw [am_up_ne e, am_up_ne e, am_up_ne e, am_up_ne e]
  · simp [am_up]
def dbF (g : am_G) (to : Int32) : Nat → Nat → Int32 → Int32
  | 0, _, _ => 8
  | n + 1, far, set => bif am_hs set to then nI far else dbF g to n (far + 1) (g 4 (set &&& 255).toNatClampNeg)
def dbw (g : am_G) (a b : Int32) : Int32 := dbF g b 8 0 (am_sh a)
theorem l_5_7 {a b : Int32} : ∀ (n far : Nat) (x set : Int32), far + n = 8 → x = nI far → Q (some (.int (dbF g b n far set))) LY g → am (d + 1) 5 7 [some (.ref 2), some (.int a), some (.int b), some (.int set), some (.int x)] [] LY g 0 0 none Q := by
  intro n
  induction n with
  | zero =>
    intro far x set hs hx h
    have hs : far = 8 := by omega
    subst hs; subst hx
    refine am_run_k 3 (And.intro (fun h6 => ?_) (fun hx => absurd ((show nI 8 ≤ nI 8 from nI_le (Nat.le_refl 8) (by decide))) hx))
    refine am_run_k 2 ?_
    exact h
  | succ n ih =>
    intro far x set hs hx h
    subst hx
    refine am_run_k 3 (And.intro (fun hx => absurd hx ((nI_ge (b := 8) (by omega) (by decide)))) (fun h6 => ?_))
    refine am_run_k 3 (am_cl ?_)
    refine w_has ?_
    refine am_run_k 1 (And.intro (fun h19 => ?_) (fun h19 => ?_))
    · have f1 := bi_f h19
      refine am_run_k 3 (am_cl ?_)
      refine w_reached ?_
      refine am_run_k 3 ?_
      refine ih (far + 1) _ _ (by omega) (nI_1 far) ?_
      rw [dbF, f1] at h
      exact h
    · have f1 := bi_t h19
      refine am_run_k 2 ?_
      rw [dbF, f1] at h
      exact h
theorem w_doorsBetween {a b : Int32} (h : Q (some (.int (dbw g a b))) LY g) : am (d + 1) 5 0 [some (.ref 2), some (.int a), some (.int b), none, none] [] LY g 0 0 none Q := by
  refine am_run_k 6 ?_
  exact l_5_7 8 0 0 _ rfl rfl h
def spF (g : am_G) (a b far : Int32) : Nat → Nat → Int32
  | 0, _ => a
  | n + 1, p => bif am_hs (g 3 a.toNatClampNeg) (nI p) && decide (dbw g (nI p) b < far) then nI p else spF g a b far n (p + 1)
def spw (g : am_G) (a b : Int32) : Int32 := spF g a b (dbw g a b) 8 0
theorem l_6_10 {a b far : Int32} (ha : vp_in a 8) : ∀ (n p : Nat) (x : Int32), p + n = 8 → x = nI p → Q (some (.int (spF g a b far n p))) LY g → am (d + 2) 6 10 [some (.ref 2), some (.int a), some (.int b), some (.int far), some (.int x)] [] LY g 0 0 none Q := by
  intro n
  induction n with
  | zero =>
    intro p x hs hx h
    have hs : p = 8 := by omega
    subst hs; subst hx
    refine am_run_k 3 (And.intro (fun h6 => ?_) (fun hx => absurd ((show nI 8 ≤ nI 8 from nI_le (Nat.le_refl 8) (by decide))) hx))
    refine am_run_k 2 ?_
    exact h
  | succ n ih =>
    intro p x hs hx h
    subst hx
    refine am_run_k 3 (And.intro (fun hx => absurd hx ((nI_ge (b := 8) (by omega) (by decide)))) (fun h6 => ?_))
    refine am_run_k 4 (am_cl ?_)
    refine w_joined ha ?_
    refine am_run_k 1 (And.intro (fun h24 => ?_) (fun h24 => ?_))
    · have f1 := bi_f h24
      refine am_run_k 2 ?_
      refine ih (p + 1) _ (by omega) (nI_1 p) ?_
      rw [spF, f1] at h
      exact h
    · have f1 := bi_t h24
      refine am_run_k 4 (am_cl ?_)
      refine w_doorsBetween ?_
      refine am_run_k 2 (And.intro (fun h35 => ?_) (fun h35 => ?_))
      · refine am_run_k 2 ?_
        refine ih (p + 1) _ (by omega) (nI_1 p) ?_
        rw [spF, f1, decide_eq_false (fa_nlt.mpr h35)] at h
        exact h
      · refine am_run_k 2 ?_
        rw [spF, f1, decide_eq_true (fa_nle.mp h35)] at h
        exact h
theorem w_stepTowards {a b : Int32} (ha : vp_in a 8) (h : Q (some (.int (spw g a b))) LY g) : am (d + 2) 6 0 [some (.ref 2), some (.int a), some (.int b), none, none] [] LY g 0 0 none Q := by
  refine am_run_k 4 (am_cl ?_)
  refine w_doorsBetween ?_
  refine am_run_k 3 ?_
  exact l_6_10 ha 8 0 0 rfl rfl h
def nbF (g : am_G) (a : Int32) : Nat → Nat → Int32 → Int32
  | 0, _, _ => a
  | n + 1, o, left => bif am_hs (g 3 a.toNatClampNeg) (nI o) then (bif decide (left = 0) then nI o else nbF g a n (o + 1) (left + (-1))) else nbF g a n (o + 1) left
theorem l_7_5 {a b : Int32} (ha : vp_in a 8) : ∀ (n p : Nat) (x left : Int32), p + n = 8 → x = nI p → Q (some (.int (nbF g a n p left))) LY g → am (d + 2) 7 5 [some (.ref 2), some (.int a), some (.int b), some (.int left), some (.int x)] [] LY g 0 0 none Q := by
  intro n
  induction n with
  | zero =>
    intro p x left hs hx h
    have hs : p = 8 := by omega
    subst hs; subst hx
    refine am_run_k 3 (And.intro (fun h6 => ?_) (fun hx => absurd ((show nI 8 ≤ nI 8 from nI_le (Nat.le_refl 8) (by decide))) hx))
    refine am_run_k 2 ?_
    exact h
  | succ n ih =>
    intro p x left hs hx h
    subst hx
    refine am_run_k 3 (And.intro (fun hx => absurd hx ((nI_ge (b := 8) (by omega) (by decide)))) (fun h6 => ?_))
    refine am_run_k 4 (am_cl ?_)
    refine w_joined ha ?_
    refine am_run_k 1 (And.intro (fun h24 => ?_) (fun h24 => ?_))
    · have f1 := bi_f h24
      refine am_run_k 2 ?_
      refine ih (p + 1) _ _ (by omega) (nI_1 p) ?_
      rw [nbF, f1] at h
      exact h
    · have f1 := bi_t h24
      refine am_run_k 2 (And.intro (fun h35 => ?_) (fun h35 => ?_))
      · refine am_run_k 3 ?_
        refine ih (p + 1) _ _ (by omega) (nI_1 p) ?_
        rw [nbF, f1, decide_eq_false h35] at h
        exact h
      · refine am_run_k 2 ?_
        rw [nbF, f1, decide_eq_true h35] at h
        exact h
theorem w_neighbour {a b : Int32} (ha : vp_in a 8) (h : Q (some (.int (nbF g a 8 0 b))) LY g) : am (d + 2) 7 0 [some (.ref 2), some (.int a), some (.int b), none, none] [] LY g 0 0 none Q := by
  refine am_run_k 4 ?_
  exact l_7_5 ha 8 0 0 _ rfl rfl h
end HOV
