section WAZ
variable {d : Nat} {L : am_L} {g : am_G} {bc bs : Nat} {sx : am_S} {Q : am_Q}
theorem l_43_71 {c nb : Nat → Nat} {cc : Nat} {set who : Int32} {g0 : am_G} (hcc : cc ≤ 20) (e51 : g0 5 1 = nI cc) (hr : rowsC g0 cc) (h : ∀ g', scC g0 g' → Q none LY g') : ∀ (n k : Nat) (x : Int32) (lz : Option Value) (g : am_G), k + n = cc → x = nI k → scC g0 g → am (d + 2) 43 71 [some (.ref 9), some (.ref 1), some (.int set), some (.int who), some (.int x), lz] [] LY g 0 0 none Q := by
  intro n
  induction n with
  | zero =>
    intro k x lz g hk hx hg
    have hk : k = cc := by omega
    subst hk; subst hx
    have f51 : g 5 1 = nI k := by rw [hg 5 (by omega)]; exact e51
    refine am_run_k 5 (And.intro (fun h6 => ?_) (fun hx => absurd ((show g 5 1 ≤ nI k by rw [f51]; exact nI_le (Nat.le_refl k) (by omega))) hx))
    refine am_run_k 1 ?_
    exact h g hg
  | succ n ih =>
    intro k x lz g hk hx hg
    subst hx
    have f51 : g 5 1 = nI cc := by rw [hg 5 (by omega)]; exact e51
    refine am_run_k 5 (And.intro (fun hx => absurd hx ((show ¬ g 5 1 ≤ nI k by rw [f51]; exact nI_ge (by omega) (by omega)))) (fun h6 => ?_))
    refine am_run_k 4 (am_cl ?_)
    refine w_kind (k := k) (by omega) ?_
    have nxt : ∀ (lz : Option Value) g1, scC g0 g1 → am (d + 2) 43 145 [some (.ref 9), some (.ref 1), some (.int set), some (.int who), some (.int (nI k)), lz] [] LY g1 0 0 none Q := by
      intro lz g1 hg1
      refine am_run_k 2 ?_
      exact ih (k + 1) _ _ _ (by omega) (nI_1 k) hg1
    have tail : ∀ u : Int32, am (d + 2) 43 114 [some (.ref 9), some (.ref 1), some (.int set), some (.int who), some (.int (nI k)), lz] [.int u] LY g 0 0 none Q := by
      intro u
      refine am_run_k 4 (am_cl ?_)
      refine w_has ?_
      refine am_run_k 1 (And.intro (fun h7 => ?_) (fun h7 => ?_))
      · exact nxt _ g hg
      · refine am_run_k 2 (And.intro (fun h8 => ?_) (fun h8 => ?_))
        · exact nxt _ g hg
        · refine am_run_k 8 (am_cl ?_)
          have e6 : g 6 = g0 6 := hg 6 (by omega)
          refine w_hear (k := k) (by omega) (by rw [e6]; exact hr k (by omega)) (fun g' hg' => ?_)
          exact nxt _ g' (hg.tr hg')
    refine am_run_k 2 (And.intro (fun h9 => ?_) (fun h9 => ?_))
    · refine am_run_k 1 ?_
      exact tail _
    · refine am_run_k 4 (am_cl ?_)
      refine w_who (k := k) (by omega) ?_
      refine am_run_k 2 (And.intro (fun h10 => ?_) (fun h10 => ?_))
      · refine am_run_k 1 ?_
        exact tail _
      · refine am_run_k 2 ?_
        exact tail _
theorem l_43_32 {t : Nat} {set who : Int32} {g0 : am_G} (h : ∀ (g' : am_G) (x : Int32), scC g0 g' → am (d + 2) 43 63 [some (.ref 9), some (.ref 1), some (.int set), some (.int who), some (.int x), none] [] LY g' 0 0 none Q) : ∀ (n k : Nat) (x : Int32) (g : am_G), k + n = 3 → x = nI k → scC g0 g → am (d + 2) 43 32 [some (.ref 9), some (.ref 1), some (.int set), some (.int who), some (.int x), none] [] LY g 0 0 none Q := by
  intro n
  induction n with
  | zero =>
    intro k x g hk hx hg
    have hk : k = 3 := by omega
    subst hk; subst hx
    refine am_run_k 3 (And.intro (fun h6 => ?_) (fun hx => absurd ((show nI 3 ≤ nI 3 from nI_le (Nat.le_refl 3) (by decide))) hx))
    exact h g _ hg
  | succ n ih =>
    intro k x g hk hx hg
    subst hx
    refine am_run_k 3 (And.intro (fun hx => absurd hx ((nI_ge (b := 3) (by omega) (by decide)))) (fun h6 => ?_))
    refine am_run_k 5 (And.intro (vpn (by omega)) ?_)
    refine am_run_k 6 (And.intro (vpn (by omega)) ?_)
    refine am_run_k 2 ?_
    exact ih (k + 1) _ _ (by omega) (nI_1 k) ((hg.up (by decide)).up (by decide))
theorem l_43_3 {set who : Int32} {g0 : am_G} (h : ∀ (g' : am_G) (x : Int32), scC g0 g' → am (d + 2) 43 29 [some (.ref 9), some (.ref 1), some (.int set), some (.int who), some (.int x), none] [] LY g' 0 0 none Q) : ∀ (n k : Nat) (x : Int32) (g : am_G), k + n = 60 → x = nI k → scC g0 g → am (d + 2) 43 3 [some (.ref 9), some (.ref 1), some (.int set), some (.int who), some (.int x), none] [] LY g 0 0 none Q := by
  intro n
  induction n with
  | zero =>
    intro k x g hk hx hg
    have hk : k = 60 := by omega
    subst hk; subst hx
    refine am_run_k 5 (And.intro (fun h6 => ?_) (fun hx => absurd ((show nI 60 ≤ nI 60 from nI_le (Nat.le_refl 60) (by decide))) hx))
    exact h g _ hg
  | succ n ih =>
    intro k x g hk hx hg
    subst hx
    refine am_run_k 5 (And.intro (fun hx => absurd hx ((nI_ge (b := 60) (by omega) (by decide)))) (fun h6 => ?_))
    refine am_run_k 5 (And.intro (vpn (by omega)) ?_)
    refine am_run_k 2 ?_
    exact ih (k + 1) _ _ (by omega) (nI_1 k) (hg.up (by decide))
theorem w_listen {set who : Int32} (v : VC g) (h : ∀ g', scC g g' → Q none LY g') : am (d + 2) 43 0 [some (.ref 9), some (.ref 1), some (.int set), some (.int who), none, none] [] LY g 0 0 none Q := by
  obtain ⟨-, -, c, hc, e51, hr, -⟩ := v
  refine am_run_k 2 ?_
  refine l_43_3 (g0 := g) (fun g1 x1 hg1 => ?_) 60 0 0 g rfl rfl scC.rf
  refine am_run_k 2 ?_
  refine l_43_32 (t := 0) (g0 := g) (fun g2 x2 hg2 => ?_) 3 0 0 g1 rfl rfl hg1
  refine am_run_k 5 ?_
  exact l_43_71 (c := fun x => x) (nb := fun x => x) (g0 := g) hc e51 hr h c 0 0 none _ (Nat.zero_add c) rfl (hg2.up (by decide))
theorem l_40_73 {q : Nat} {set : Int32} {g0 : am_G} (hq : q < 6) (h : ∀ r g', scC g0 g' → Q (some (.int r)) LY g') : ∀ (n k : Nat) (x r : Int32) (g : am_G), k + n = 3 → x = nI k → scC g0 g → am (d + 3) 40 73 [some (.ref 9), some (.ref 1), some (.int set), some (.int (nI q)), some (.int r), some (.int x)] [] LY g 0 0 none Q := by
  intro n
  induction n with
  | zero =>
    intro k x r g hk hx hg
    have hk : k = 3 := by omega
    subst hk; subst hx
    refine am_run_k 3 (And.intro (fun h6 => ?_) (fun hx => absurd ((show nI 3 ≤ nI 3 from nI_le (Nat.le_refl 3) (by decide))) hx))
    refine am_run_k 2 ?_
    exact h r g hg
  | succ n ih =>
    intro k x r g hk hx hg
    subst hx
    refine am_run_k 3 (And.intro (fun hx => absurd hx ((nI_ge (b := 3) (by omega) (by decide)))) (fun h6 => ?_))
    refine am_run_k 5 (am_cl ?_)
    refine w_trace hq (vpn (by omega)) (fun g1 hg1 => ?_)
    refine am_run_k 4 (And.intro (vpe (n := 0) rfl (by decide)) ?_)
    refine am_run_k 1 (And.intro (fun h7 => ?_) (fun h7 => ?_))
    · refine am_run_k 2 ?_
      exact ih (k + 1) _ _ _ (by omega) (nI_1 k) (hg.tr hg1)
    · refine am_run_k 8 ?_
      exact ih (k + 1) _ _ _ (by omega) (nI_1 k) (hg.tr hg1)
theorem l_40_37 {q m : Nat} {set : Int32} {g0 : am_G} (hq : q < 6) (hm : m ≤ 6) (e13 : g0 1 3 = nI m) (h : ∀ r g', scC g0 g' → Q (some (.int r)) LY g') : ∀ (n k : Nat) (x : Int32) (g : am_G), k + n = m → x = nI k → scC g0 g → am (d + 3) 40 37 [some (.ref 9), some (.ref 1), some (.int set), some (.int (nI q)), some (.int x), none] [] LY g 0 0 none Q := by
  intro n
  induction n with
  | zero =>
    intro k x g hk hx hg
    have hk : k = m := by omega
    subst hk; subst hx
    have f13 : g 1 3 = nI k := by rw [hg 1 (by omega)]; exact e13
    refine am_run_k 4 (And.intro (fun h6 => ?_) (fun hx => absurd ((show g 1 3 ≤ nI k by rw [f13]; exact nI_le (Nat.le_refl k) (by omega))) hx))
    refine am_run_k 4 ?_
    exact l_40_73 (g0 := g0) hq h 3 0 0 0 g rfl rfl hg
  | succ n ih =>
    intro k x g hk hx hg
    subst hx
    have f13 : g 1 3 = nI m := by rw [hg 1 (by omega)]; exact e13
    refine am_run_k 4 (And.intro (fun hx => absurd hx ((show ¬ g 1 3 ≤ nI k by rw [f13]; exact nI_ge (by omega) (by omega)))) (fun h6 => ?_))
    refine am_run_k 5 (am_cl ?_)
    refine w_fits (q := k) (by omega) (fun r hr => ?_)
    refine am_run_k 1 (And.intro (fun h7 => ?_) (fun h7 => ?_))
    · refine am_run_k 2 ?_
      exact ih (k + 1) _ _ (by omega) (nI_1 k) hg
    · refine am_run_k 2 ?_
      exact h 0 g hg
theorem w_thingsOf {q : Nat} {set : Int32} (hq : q < 6) (v : VC g) (h : ∀ r g', scC g g' → Q (some (.int r)) LY g') : am (d + 3) 40 0 [some (.ref 9), some (.ref 1), some (.int set), some (.int (nI q)), none, none] [] LY g 0 0 none Q := by
  obtain ⟨m, hm1, hm2, e13⟩ := v.1
  refine am_run_k 5 (am_cl ?_)
  refine w_listen v (fun g1 hg1 => ?_)
  refine am_run_k 4 (And.intro (fun h1 => ?_) (fun h1 => ?_))
  · refine am_run_k 2 ?_
    exact h 0 g1 hg1
  · refine am_run_k 4 (am_cl ?_)
    refine w_has ?_
    refine am_run_k 1 (And.intro (fun h2 => ?_) (fun h2 => ?_))
    · refine am_run_k 4 (am_cl ?_)
      refine w_gather (v.sc hg1) (fun g2 hg2 => ?_)
      refine am_run_k 2 ?_
      exact l_40_37 (g0 := g) hq hm2 e13 h m 0 0 g2 (Nat.zero_add m) rfl (hg1.tr hg2)
    · refine am_run_k 2 ?_
      exact h 0 g1 hg1
theorem l_39_6 {m : Nat} {set am1 : Int32} {g0 : am_G} (hm : m ≤ 6) (v : VC g0) (e13 : g0 1 3 = nI m) (h : ∀ r g', scC g0 g' → Q (some (.int r)) LY g') : ∀ (n k : Nat) (x r : Int32) (g : am_G), k + n = m → x = nI k → scC g0 g → am (d + 4) 39 6 [some (.ref 9), some (.ref 1), some (.int set), some (.int am1), some (.int r), some (.int x)] [] LY g 0 0 none Q := by
  intro n
  induction n with
  | zero =>
    intro k x r g hk hx hg
    have hk : k = m := by omega
    subst hk; subst hx
    have f13 : g 1 3 = nI k := by rw [hg 1 (by omega)]; exact e13
    refine am_run_k 4 (And.intro (fun h6 => ?_) (fun hx => absurd ((show g 1 3 ≤ nI k by rw [f13]; exact nI_le (Nat.le_refl k) (by omega))) hx))
    refine am_run_k 2 ?_
    exact h r g hg
  | succ n ih =>
    intro k x r g hk hx hg
    subst hx
    have f13 : g 1 3 = nI m := by rw [hg 1 (by omega)]; exact e13
    refine am_run_k 4 (And.intro (fun hx => absurd hx ((show ¬ g 1 3 ≤ nI k by rw [f13]; exact nI_ge (by omega) (by omega)))) (fun h6 => ?_))
    refine am_run_k 3 (am_cl ?_)
    refine w_has ?_
    refine am_run_k 1 (And.intro (fun h7 => ?_) (fun h7 => ?_))
    · refine am_run_k 2 ?_
      exact ih (k + 1) _ _ _ (by omega) (nI_1 k) hg
    · refine am_run_k 5 (am_cl ?_)
      refine w_thingsOf (q := k) (by omega) (v.sc hg) (fun r2 g2 hg2 => ?_)
      refine am_run_k 1 (And.intro (fun h8 => ?_) (fun h8 => ?_))
      · refine am_run_k 2 ?_
        exact ih (k + 1) _ _ _ (by omega) (nI_1 k) (hg.tr hg2)
      · refine am_run_k 8 ?_
        exact ih (k + 1) _ _ _ (by omega) (nI_1 k) (hg.tr hg2)
theorem w_suspectsOf {set am1 : Int32} (v : VC g) (h : ∀ r g', scC g g' → Q (some (.int r)) LY g') : am (d + 4) 39 0 [some (.ref 9), some (.ref 1), some (.int set), some (.int am1), none, none] [] LY g 0 0 none Q := by
  obtain ⟨m, hm1, hm2, e13⟩ := id v.1
  refine am_run_k 4 ?_
  exact l_39_6 (g0 := g) hm2 v e13 h m 0 0 0 g (Nat.zero_add m) rfl scC.rf
def fsF (s : Int32) : Nat → Nat → Int32
  | 0, _ => 0
  | n + 1, i => bif am_hs s (nI i) then nI i else fsF s n (i + 1)
theorem l_79_2 {s : Int32} : ∀ (n k : Nat) (x : Int32), k + n = 8 → x = nI k → Q (some (.int (fsF s n k))) L g → am (d + 1) 79 2 [some (.int s), some (.int x)] [] L g 0 0 none Q := by
  intro n
  induction n with
  | zero =>
    intro k x hk hx h
    have hk : k = 8 := by omega
    subst hk; subst hx
    refine am_run_k 3 (And.intro (fun h6 => ?_) (fun hx => absurd ((show nI 8 ≤ nI 8 from nI_le (Nat.le_refl 8) (by decide))) hx))
    refine am_run_k 2 ?_
    exact h
  | succ n ih =>
    intro k x hk hx h
    subst hx
    refine am_run_k 3 (And.intro (fun hx => absurd hx ((nI_ge (b := 8) (by omega) (by decide)))) (fun h6 => ?_))
    refine am_run_k 3 (am_cl ?_)
    refine w_has ?_
    rw [fsF] at h
    refine am_run_k 1 (And.intro (fun h7 => ?_) (fun h7 => ?_))
    · refine am_run_k 2 ?_
      rw [bi_f h7] at h
      exact ih (k + 1) _ (by omega) (nI_1 k) h
    · refine am_run_k 2 ?_
      rw [bi_t h7] at h
      exact h
theorem w_first {s : Int32} (h : Q (some (.int (fsF s 8 0))) L g) : am (d + 1) 79 0 [some (.int s), none] [] L g 0 0 none Q := by
  refine am_run_k 2 ?_
  exact l_79_2 8 0 0 rfl rfl h
theorem fsF_in (s : Int32) : ∀ (n k : Nat), k + n = 8 → ∃ p, p < 8 ∧ fsF s n k = nI p
  | 0, _, _ => ⟨0, by omega, rfl⟩
  | n + 1, k, hk => by
    rw [fsF]
    cases am_hs s (nI k) with
    | true => exact ⟨k, by omega, rfl⟩
    | false => exact fsF_in s n (k + 1) (by omega)
theorem l_41_24 {q tk : Nat} {w : Int32} {g0 : am_G} (hq : q < 6) (hw : vp_in w 3) (htk : tk < 10) (h : ∀ r g', scC g0 g' → Q (some (.int r)) LY g') : ∀ (n t : Nat) (x a b c : Int32) (g : am_G), t + n = tk + 1 → x = nI t → scC g0 g → am (d + 2) 41 24 [some (.ref 9), some (.ref 1), some (.int (nI q)), some (.int w), some (.int (nI tk)), some (.int a), some (.int b), some (.int c), some (.int x)] [] LY g 0 0 none Q := by
  intro n
  induction n with
  | zero =>
    intro t x a b c g ht hx hg
    have ht : t = tk + 1 := by omega
    subst ht; subst hx
    refine am_run_k 3 (And.intro (fun h6 => ?_) (fun hx => absurd ((show nI tk < nI (tk + 1) from nI_lt (by omega) (by omega))) hx))
    refine am_run_k 2 ?_
    exact h _ g hg
  | succ n ih =>
    intro t x a b c g ht hx hg
    subst hx
    refine am_run_k 3 (And.intro (fun hx => absurd hx ((show ¬ nI tk < nI t from nI_nlt (by omega) (by omega)))) (fun h6 => ?_))
    refine am_run_k 2 (am_cl ?_)
    refine w_first ?_
    have nxt : ∀ (a b c : Int32), am (d + 2) 41 120 [some (.ref 9), some (.ref 1), some (.int (nI q)), some (.int w), some (.int (nI tk)), some (.int a), some (.int b), some (.int c), some (.int (nI t))] [] LY g 0 0 none Q := by
      intro a b c
      refine am_run_k 2 ?_
      exact ih (t + 1) _ _ _ _ g (by omega) (nI_1 t) hg
    have tail : ∀ (a b c u : Int32), am (d + 2) 41 69 [some (.ref 9), some (.ref 1), some (.int (nI q)), some (.int w), some (.int (nI tk)), some (.int a), some (.int b), some (.int c), some (.int (nI t))] [.int u] LY g 0 0 none Q := by
      intro a b c u
      refine am_run_k 6 (And.intro (fun h7 => ?_) (fun h7 => ?_))
      · exact nxt _ _ _
      · have ht9 : t + 1 < 10 := by
          rw [nI_1] at h7
          rcases Nat.lt_or_ge (t + 1) 10 with q | q
          · exact q
          · exact absurd (show nI 10 ≤ nI (t + 1) from nI_le q (by omega)) h7
        refine am_run_k 6 (am_cl ?_)
        refine w_reached ?_
        refine am_run_k 2 (And.intro (fun h8 => ?_) (fun h8 => ?_))
        · refine am_run_k 6 (And.intro (vpe (nI_1 t) (by omega)) ?_)
          refine am_run_k 2 ?_
          exact nxt _ _ _
        · refine am_run_k 6 (And.intro (vpe (nI_1 t) (by omega)) ?_)
          refine am_run_k 3 ?_
          exact nxt _ _ _
    refine am_run_k 3 (And.intro (fun h9 => ?_) (fun h9 => ?_))
    · refine am_run_k 2 ?_
      exact tail _ _ _ _
    · refine am_run_k 4 (am_cl ?_)
      refine w_cbt hw (fun r hr => ?_)
      refine am_run_k 1 (And.intro (fun h10 => ?_) (fun h10 => ?_))
      · refine am_run_k 1 ?_
        exact tail _ _ _ _
      · refine am_run_k 5 (And.intro (hw) ?_)
        refine am_run_k 1 (And.intro (fun h11 => ?_) (fun h11 => ?_))
        · refine am_run_k 1 ?_
          exact tail _ _ _ _
        · refine am_run_k 2 ?_
          exact tail _ _ _ _
theorem w_placeAt {q tk : Nat} {w : Int32} (hq : q < 6) (hw : vp_in w 3) (htk : tk < 10) (h : ∀ r g', scC g g' → Q (some (.int r)) LY g') : am (d + 2) 41 0 [some (.ref 9), some (.ref 1), some (.int (nI q)), some (.int w), some (.int (nI tk)), none, none, none, none] [] LY g 0 0 none Q := by
  refine am_run_k 5 (am_cl ?_)
  refine w_trace hq hw (fun g1 hg1 => ?_)
  refine am_run_k 6 (And.intro (vpe (n := 0) rfl (by decide)) ?_)
  refine am_run_k 5 ?_
  exact l_41_24 (g0 := g) hq hw htk h (tk + 1) 0 0 _ _ _ g1 (Nat.zero_add _) rfl hg1
theorem l_30_4 {f c : Nat} (hc : c ≤ 20) (hf : f ≤ 20) (e54 : g 5 4 = nI f) (ho : ordC g c f) (h : ∀ r, Q (some (.int r)) LY g) : ∀ (n i : Nat) (x a : Int32), i + n = f → x = nI i → am (d + 1) 30 4 [some (.ref 5), some (.int a), some (.int x)] [] LY g 0 0 none Q := by
  intro n
  induction n with
  | zero =>
    intro i x a hi hx
    have hi : i = f := by omega
    subst hi; subst hx
    refine am_run_k 4 (And.intro (fun h6 => ?_) (fun hx => absurd ((show g 5 4 ≤ nI i by rw [e54]; exact nI_le (Nat.le_refl i) (by omega))) hx))
    refine am_run_k 2 ?_
    exact h _
  | succ n ih =>
    intro i x a hi hx
    subst hx
    refine am_run_k 4 (And.intro (fun hx => absurd hx ((show ¬ g 5 4 ≤ nI i by rw [e54]; exact nI_ge (by omega) (by omega)))) (fun h6 => ?_))
    refine am_run_k 5 (And.intro (vpn (by omega)) ?_)
    obtain ⟨k, hk, ek⟩ := ho.1 i (by omega)
    rw [ncl (by omega), ek]
    refine am_run_k 1 (am_cl ?_)
    refine w_kind (k := k) (by omega) ?_
    refine am_run_k 2 (And.intro (fun h7 => ?_) (fun h7 => ?_))
    · refine am_run_k 2 ?_
      exact ih (i + 1) _ _ (by omega) (nI_1 i)
    · refine am_run_k 6 (And.intro (vpn (by omega)) ?_)
      refine am_run_k 5 ?_
      exact ih (i + 1) _ _ (by omega) (nI_1 i)
theorem w_foundClues (v : VC g) (h : ∀ r, Q (some (.int r)) LY g) : am (d + 1) 30 0 [some (.ref 5), none, none] [] LY g 0 0 none Q := by
  obtain ⟨-, -, c, hc, e51, hr, f, hf, e54, ho⟩ := v
  refine am_run_k 4 ?_
  exact l_30_4 hc hf e54 ho h f 0 0 0 (Nat.zero_add f) rfl
theorem w_deny {k c : Nat} (hk : k < c) (hc : c ≤ 20) (hI : 5 ≤ g 6 (k * 5)) (hr : rowsC g c) (v : VC g) (h : ∀ r g', r = 0 ∨ r = 1 → scC g g' → Q (some (.int r)) LY g') : am (d + 3) 42 0 [some (.ref 9), some (.ref 1), some (.int (nI k))] [] LY g 0 0 none Q := by
  refine am_run_k 5 (am_cl ?_)
  refine w_foundClues v (fun r => ?_)
  refine am_run_k 6 (am_cl ?_)
  refine w_listen v (fun g1 hg1 => ?_)
  have e6 : g1 6 = g 6 := hg1 6 (by omega)
  have hrow := hr k hk
  have hq : ∃ q, q < 6 ∧ g 6 (k * 5 + 1) = nI q := by
    rcases hrow with ⟨h23, -⟩ | ⟨h4, -⟩ | ⟨-, hq, -⟩ | ⟨-, hq, -⟩
    · rcases h23 with e | e <;> rw [e] at hI <;> exact absurd hI (by decide)
    · rw [h4] at hI; exact absurd hI (by decide)
    · exact hq
    · exact hq
  obtain ⟨q, hq, eq⟩ := hq
  refine am_run_k 7 (am_cl ?_)
  refine w_who (k := k) (by omega) ?_
  refine am_run_k 1 (am_cl ?_)
  rw [e6, eq]
  refine w_fits hq (fun r2 hr2 => ?_)
  refine am_run_k 1 (And.intro (fun h1 => ?_) (fun h1 => ?_))
  · refine am_run_k 3 (And.intro (Or.inr rfl) ?_)
    exact h 1 g1 (Or.inr rfl) hg1
  · refine am_run_k 4 (am_cl ?_)
    refine w_kind (k := k) (by omega) ?_
    refine am_run_k 2 (And.intro (fun h2 => ?_) (fun h2 => ?_))
    · refine am_run_k 2 (And.intro (Or.inl rfl) ?_)
      exact h 0 g1 (Or.inl rfl) hg1
    · refine am_run_k 7 (am_cl ?_)
      refine w_other (k := k) (by omega) ?_
      have hq2 : ∃ q, q < 6 ∧ g 6 (k * 5 + 2) = nI q := by
        have h2 : g 6 (k * 5) = 7 := by rw [← e6]; exact h2
        rcases hrow with ⟨h23, -⟩ | ⟨h4, -⟩ | ⟨-, -, hq, -⟩ | ⟨h0, -⟩
        · rcases h23 with e | e <;> rw [e] at h2 <;> exact absurd h2 (by decide)
        · rw [h4] at h2; exact absurd h2 (by decide)
        · exact hq
        · rcases h0 with e | e | e | e <;> rw [e] at h2 <;> exact absurd h2 (by decide)
      obtain ⟨q2, hq2, eq2⟩ := hq2
      refine am_run_k 1 (am_cl ?_)
      rw [e6, eq2]
      refine w_fits hq2 (fun r3 hr3 => ?_)
      refine am_run_k 1 (And.intro (fun h3 => ?_) (fun h3 => ?_))
      · refine am_run_k 2 (And.intro (Or.inl rfl) ?_)
        exact h 0 g1 (Or.inl rfl) hg1
      · refine am_run_k 3 (And.intro (Or.inr rfl) ?_)
        exact h 1 g1 (Or.inr rfl) hg1
end WAZ
