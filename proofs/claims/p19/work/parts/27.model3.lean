section MOF
variable {d : Nat} {L : am_L} {g : am_G} {bc bs : Nat} {sx : am_S} {Q : am_Q}
/-- what the model's questions stand on -/
def VM (g : am_G) : Prop := (∃ n, 2 ≤ n ∧ n ≤ 6 ∧ g 22 0 = nI n) ∧ (∃ t, t < 10 ∧ g 22 5 = nI t) ∧ ∃ c, c ≤ 20 ∧ g 22 7 = nI c ∧ rowsM g c
def scM (g g' : am_G) : Prop := (∀ k, k ≠ 22 → k ≠ 31 → k ≠ 32 → k ≠ 33 → g' k = g k) ∧ ∀ i, i ≠ 16 → i ≠ 17 → g' 22 i = g 22 i
theorem scM.rf {g : am_G} : scM g g := ⟨fun _ _ _ _ _ => rfl, fun _ _ _ => rfl⟩
theorem scM.tr {g g1 g2 : am_G} (h : scM g g1) (h2 : scM g1 g2) : scM g g2 := ⟨fun k a b c e => (h2.1 k a b c e).trans (h.1 k a b c e), fun i a b => (h2.2 i a b).trans (h.2 i a b)⟩
theorem scM.o31 {g g' : am_G} (h : o31 g g') : scM g g' := ⟨fun k _ b _ _ => h k b, fun i _ _ => by rw [h 22 (by decide)]⟩
theorem scM.o32 {g g' : am_G} (h : o32 g g') : scM g g' := ⟨fun k _ _ b c => h k b c, fun i _ _ => by rw [h 22 (by decide) (by decide)]⟩
theorem scM.up {g : am_G} {i : Nat} {x : Int32} (h : i = 16 ∨ i = 17) : scM g (am_up g 22 i x) := ⟨fun k a _ _ _ => by rw [am_up_ne a], fun j a b => by rw [am_up_un (by omega)]⟩
theorem VM.sc {g g' : am_G} (h : VM g) (s : scM g g') : VM g' := by
  unfold VM rowsM at *
  rw [s.2 0 (by decide) (by decide), s.2 5 (by decide) (by decide), s.2 7 (by decide) (by decide), s.1 25 (by decide) (by decide) (by decide) (by decide), s.1 26 (by decide) (by decide) (by decide) (by decide)]
  exact h
theorem M8.of {g g' : am_G} (h : M8 g) (e : g' 31 = g 31) : M8 g' := by unfold M8; rw [e]; exact h
theorem l_111_28 {q th c : Nat} {bits : Int32} {g0 : am_G} (hq : q < 6) (hc : c ≤ 20) (ec : g0 22 7 = nI c) (hr : rowsM g0 c) (h0 : ∀ g', scM g0 g' → Q (some (.int 0)) LY g') (h : ∀ g' l4 l5 l6, scM g0 g' → M8 g' → am (d + 2) 111 276 [some (.ref 22), some (.int (nI q)), some (.int (nI th)), some (.int bits), l4, l5, l6] [] LY g' 0 0 none Q) : ∀ (n k : Nat) (x : Int32) (g : am_G) (l5 l6 : Option Value), k + n = c → x = nI k → scM g0 g → M8 g → am (d + 2) 111 28 [some (.ref 22), some (.int (nI q)), some (.int (nI th)), some (.int bits), some (.int x), l5, l6] [] LY g 0 0 none Q := by
  intro n
  induction n with
  | zero =>
    intro k x g l5 l6 hk hx hg hm
    have hk : k = c := by omega
    subst hk; subst hx
    refine am_run_k 4 (And.intro (fun h6 => ?_) (fun hx => absurd ((show g 22 7 ≤ nI k by rw [hg.2 7 (by decide) (by decide), ec]; exact nI_le (Nat.le_refl k) (by omega))) hx))
    exact h g _ _ _ hg hm
  | succ n ih =>
    intro k x g l5 l6 hk hx hg hm
    subst hx
    have eg7 : g 22 7 = nI c := by rw [hg.2 7 (by decide) (by decide)]; exact ec
    refine am_run_k 4 (And.intro (fun hx => absurd hx ((show ¬ g 22 7 ≤ nI k by rw [eg7]; exact nI_ge (by omega) (by omega)))) (fun h6 => ?_))
    have i0 : vp_in ((4 : Int32) * nI k) 80 := vpe (nIm4 k) (by omega)
    have i1 : vp_in ((4 : Int32) * nI k + 1) 80 := vpe (nI41 k) (by omega)
    have s270 : ∀ (g : am_G) (u v : Int32), scM g0 g → M8 g → am (d + 2) 111 270 [some (.ref 22), some (.int (nI q)), some (.int (nI th)), some (.int bits), some (.int (nI k)), some (.int u), some (.int v)] [] LY g 0 0 none Q := by
      intro g u v hg hm
      refine am_run_k 2 ?_
      exact ih (k + 1) _ g _ _ (by omega) (nI_1 k) hg hm
    have s267 : ∀ (g : am_G) (u v w : Int32), scM g0 g → M8 g → am (d + 2) 111 267 [some (.ref 22), some (.int (nI q)), some (.int (nI th)), some (.int bits), some (.int (nI k)), some (.int u), some (.int v)] [.int w, .ref 22] LY g 0 0 none Q := by
      intro g u v w hg hm
      refine am_run_k 1 ?_
      exact s270 _ u v (hg.tr (scM.up (Or.inr rfl))) (hm.of (am_up_ne (by decide)))
    have s201 : ∀ (g : am_G) (u v : Int32), scM g0 g → M8 g → am (d + 2) 111 201 [some (.ref 22), some (.int (nI q)), some (.int (nI th)), some (.int bits), some (.int (nI k)), some (.int u), some (.int v)] [] LY g 0 0 none Q := by
      intro g u v hg hm
      refine am_run_k 2 (And.intro (fun h1 => ?_) (fun h1 => ?_))
      · exact s270 g u v hg hm
      · refine am_run_k 4 (And.intro (vpn (by omega)) ?_)
        refine am_run_k 2 (And.intro (fun h2 => ?_) (fun h2 => ?_))
        · exact s270 g u v hg hm
        · refine am_run_k 6 (And.intro (i0) ?_)
          refine am_run_k 2 (And.intro (fun h3 => ?_) (fun h3 => ?_))
          · exact s270 g u v hg hm
          · refine am_run_k 9 (And.intro (i1) ?_)
            refine am_run_k 3 (And.intro (fun h4 => ?_) (fun h4 => ?_))
            · refine am_run_k 2 ?_
              exact s267 g u v _ hg hm
            · refine am_run_k 8 (And.intro (i1) ?_)
              refine am_run_k 1 ?_
              exact s267 g u v _ hg hm
    have s198 : ∀ (g : am_G) (u v w : Int32), scM g0 g → M8 g → am (d + 2) 111 198 [some (.ref 22), some (.int (nI q)), some (.int (nI th)), some (.int bits), some (.int (nI k)), some (.int u), some (.int v)] [.int w, .ref 22] LY g 0 0 none Q := by
      intro g u v w hg hm
      refine am_run_k 1 ?_
      exact s201 _ u v (hg.tr (scM.up (Or.inl rfl))) (hm.of (am_up_ne (by decide)))
    have s132 : ∀ (g : am_G) (u v : Int32), scM g0 g → M8 g → am (d + 2) 111 132 [some (.ref 22), some (.int (nI q)), some (.int (nI th)), some (.int bits), some (.int (nI k)), some (.int u), some (.int v)] [] LY g 0 0 none Q := by
      intro g u v hg hm
      refine am_run_k 2 (And.intro (fun h1 => ?_) (fun h1 => ?_))
      · exact s201 g u v hg hm
      · refine am_run_k 4 (And.intro (vpn (by omega)) ?_)
        refine am_run_k 2 (And.intro (fun h2 => ?_) (fun h2 => ?_))
        · exact s201 g u v hg hm
        · refine am_run_k 6 (And.intro (i0) ?_)
          refine am_run_k 2 (And.intro (fun h3 => ?_) (fun h3 => ?_))
          · exact s201 g u v hg hm
          · refine am_run_k 9 (And.intro (i1) ?_)
            refine am_run_k 3 (And.intro (fun h4 => ?_) (fun h4 => ?_))
            · refine am_run_k 2 ?_
              exact s198 g u v _ hg hm
            · refine am_run_k 8 (And.intro (i1) ?_)
              refine am_run_k 1 ?_
              exact s198 g u v _ hg hm
    have s116 : ∀ (u v : Int32), am (d + 2) 111 116 [some (.ref 22), some (.int (nI q)), some (.int (nI th)), some (.int bits), some (.int (nI k)), some (.int u), some (.int v)] [] LY g 0 0 none Q := by
      intro u v
      refine am_run_k 2 (And.intro (fun h1 => ?_) (fun h1 => ?_))
      · exact s132 g u v hg hm
      · refine am_run_k 2 (And.intro (fun h2 => ?_) (fun h2 => ?_))
        · exact s132 g u v hg hm
        · refine am_run_k 3 (am_cl ?_)
          refine m_bind (by omega) ?_ hm (fun g1 f1 m1 => s132 g1 u v (hg.tr (scM.o31 f1)) m1)
          have := hr k (by omega)
          rw [hg.1 25 (by decide) (by decide) (by decide) (by decide), hg.1 26 (by decide) (by decide) (by decide) (by decide)]
          exact this
    have s83 : ∀ (u v : Int32) (l6 : Option Value), am (d + 2) 111 83 [some (.ref 22), some (.int (nI q)), some (.int (nI th)), some (.int bits), some (.int (nI k)), some (.int u), l6] [.int v] LY g 0 0 none Q := by
      intro u v l6
      refine am_run_k 3 (And.intro (fun h1 => ?_) (fun h1 => ?_))
      · exact s116 u v
      · refine am_run_k 4 (And.intro (vpn (by omega)) ?_)
        refine am_run_k 2 (And.intro (fun h2 => ?_) (fun h2 => ?_))
        · exact s116 u v
        · refine am_run_k 6 (And.intro (i0) ?_)
          refine am_run_k 2 (And.intro (fun h3 => ?_) (fun h3 => ?_))
          · exact s116 u v
          · refine am_run_k 2 (And.intro (Or.inl rfl) ?_)
            exact h0 g hg
    have s52 : ∀ (u : Int32) (l5 l6 : Option Value), am (d + 2) 111 52 [some (.ref 22), some (.int (nI q)), some (.int (nI th)), some (.int bits), some (.int (nI k)), l5, l6] [.int u] LY g 0 0 none Q := by
      intro u l5 l6
      refine am_run_k 5 (And.intro (vpn (by omega)) ?_)
      refine am_run_k 2 (And.intro (fun h1 => ?_) (fun h1 => ?_))
      · refine am_run_k 1 ?_
        exact s83 u 0 _
      · refine am_run_k 6 (And.intro (i0) ?_)
        refine am_run_k 2 (And.intro (fun h2 => ?_) (fun h2 => ?_))
        · refine am_run_k 1 ?_
          exact s83 u 0 _
        · refine am_run_k 2 ?_
          exact s83 u 1 _
    refine am_run_k 7 (And.intro (fun h1 => ?_) (fun h1 => ?_))
    · refine am_run_k 1 ?_
      exact s52 0 _ _
    · refine am_run_k 2 ?_
      exact s52 1 _ _
theorem l_111_279 {q th n t : Nat} {bits : Int32} {g0 : am_G} (hq : q < 6) (hth : th < 3) (hn : n ≤ 6) (en : g0 22 0 = nI n) (ht : t < 10) (et : g0 22 5 = nI t) (h0 : ∀ g', scM g0 g' → Q (some (.int 0)) LY g') (h : ∀ r g', r = 0 ∨ r = 1 → scM g0 g' → (r = 1 → (∀ t, t < 10 → LB1 g' q th t) ∧ M8 g' ∧ ¬ g' 33 0 = 0) → Q (some (.int r)) LY g') : ∀ (m k : Nat) (x : Int32) (g : am_G) (l5 l6 : Option Value), k + m = n → x = nI k → scM g0 g → M8 g → am (d + 2) 111 279 [some (.ref 22), some (.int (nI q)), some (.int (nI th)), some (.int bits), some (.int x), l5, l6] [] LY g 0 0 none Q := by
  intro m
  induction m with
  | zero =>
    intro k x g l5 l6 hk hx hg hm
    have hk : k = n := by omega
    subst hk; subst hx
    refine am_run_k 4 (And.intro (fun h6 => ?_) (fun hx => absurd ((show g 22 0 ≤ nI k by rw [hg.2 0 (by decide) (by decide), en]; exact nI_le (Nat.le_refl k) (by omega))) hx))
    refine am_run_k 4 (am_cl ?_)
    refine m_leadBack hq hth (fun g1 f1 lb => ?_)
    refine am_run_k 4 (And.intro (vpe (n := 0) rfl (by decide)) ?_)
    refine am_run_k 1 (And.intro (fun h1 => ?_) (fun h1 => ?_))
    · refine am_run_k 2 (And.intro (Or.inl rfl) ?_)
      exact h 0 g1 (Or.inl rfl) (hg.tr (scM.o32 f1)) (fun z => absurd z (by decide))
    · refine am_run_k 3 (And.intro (Or.inr rfl) ?_)
      exact h 1 g1 (Or.inr rfl) (hg.tr (scM.o32 f1)) (fun _ => ⟨lb, hm.of (f1 31 (by decide) (by decide)), h1⟩)
  | succ m ih =>
    intro k x g l5 l6 hk hx hg hm
    subst hx
    have eg0 : g 22 0 = nI n := by rw [hg.2 0 (by decide) (by decide)]; exact en
    have eg5 : g 22 5 = nI t := by rw [hg.2 5 (by decide) (by decide)]; exact et
    refine am_run_k 4 (And.intro (fun hx => absurd hx ((show ¬ g 22 0 ≤ nI k by rw [eg0]; exact nI_ge (by omega) (by omega)))) (fun h6 => ?_))
    have ei : (10 : Int32) * nI k + g 22 5 = nI (10 * k + t) := by rw [eg5]; exact ix10t
    have s336 : ∀ (u : Int32) (l5 l6 : Option Value), am (d + 2) 111 336 [some (.ref 22), some (.int (nI q)), some (.int (nI th)), some (.int bits), some (.int (nI k)), l5, l6] [.int u, .int (g 31 (10 * k + t)), .int ((10 : Int32) * nI k + g 22 5), .ref 31] LY g 0 0 none Q := by
      intro u l5 l6
      refine am_run_k 2 (And.intro (vpe ei (by omega)) ?_)
      rw [cle ei (by omega)]
      have hg1 : scM g0 (am_up g 31 (10 * k + t) (g 31 (10 * k + t) &&& u)) := hg.tr (scM.o31 (o31.up (fun _ _ => rfl)))
      have hm1 : M8 (am_up g 31 (10 * k + t) (g 31 (10 * k + t) &&& u)) := hm.up (by omega)
      refine am_run_k 3 (And.intro (fun h1 => ?_) (fun h1 => ?_))
      · refine am_run_k 2 ?_
        exact ih (k + 1) _ _ _ _ (by omega) (nI_1 k) hg1 hm1
      · refine am_run_k 3 (am_cl ?_)
        refine m_hasWay (by omega) (fun r _ => ?_)
        refine am_run_k 1 (And.intro (fun h2 => ?_) (fun h2 => ?_))
        · refine am_run_k 2 ?_
          exact ih (k + 1) _ _ _ _ (by omega) (nI_1 k) hg1 hm1
        · refine am_run_k 2 (And.intro (Or.inl rfl) ?_)
          exact h0 _ hg1
    refine am_run_k 15 (And.intro (vpe ei (by omega)) ?_)
    rw [cle ei (by omega)]
    refine am_run_k 3 (And.intro (fun h1 => ?_) (fun h1 => ?_))
    · refine am_run_k 2 ?_
      exact s336 _ _ _
    · refine am_run_k 4 (And.intro (fun h2 => ?_) (fun h2 => ?_))
      · refine am_run_k 3 ?_
        exact s336 _ _ _
      · refine am_run_k 2 ?_
        exact s336 _ _ _
theorem m_could {q th : Nat} {bits : Int32} {l4 l5 l6 : Option Value} (I : VM g) (hq : q < 6) (hth : th < 3) (h : ∀ r g', r = 0 ∨ r = 1 → scM g g' → (r = 1 → (∀ t, t < 10 → LB1 g' q th t) ∧ M8 g' ∧ ¬ g' 33 0 = 0) → Q (some (.int r)) LY g') : am (d + 2) 111 0 [some (.ref 22), some (.int (nI q)), some (.int (nI th)), some (.int bits), l4, l5, l6] [] LY g 0 0 none Q := by
  obtain ⟨⟨n, hn1, hn2, en⟩, ⟨t, ht, et⟩, c, hc, ec, hr⟩ := id I
  have h0 : ∀ g', scM g g' → Q (some (.int 0)) LY g' := fun g' s => h 0 g' (Or.inl rfl) s (fun z => absurd z (by decide))
  refine am_run_k 4 (And.intro (fun h1 => ?_) (fun h1 => ?_))
  · refine am_run_k 2 (am_cl ?_)
    refine m_free (fun g1 f1 m1 => ?_)
    refine am_run_k 8 ?_
    have sc1 : scM g (am_up (am_up g1 22 16 0) 22 17 10) := ((scM.o31 f1).tr (scM.up (Or.inl rfl))).tr (scM.up (Or.inr rfl))
    have m2 : M8 (am_up (am_up g1 22 16 0) 22 17 10) := m1.of (by rw [am_up_ne (by decide), am_up_ne (by decide)])
    refine l_111_28 hq hc ec hr h0 (fun g' l4 l5 l6 s m => ?_) c 0 _ _ _ _ (by omega) rfl sc1 m2
    refine am_run_k 2 ?_
    exact l_111_279 hq hth hn2 en ht et h0 h n 0 _ _ _ _ (by omega) rfl s m
  · refine am_run_k 2 (And.intro (Or.inl rfl) ?_)
    exact h0 g scM.rf
theorem m_foundBits {l1 l2 : Option Value} (I : VM g) (h : ∀ r, Q (some (.int r)) LY g) : am d 112 0 [some (.ref 22), l1, l2] [] LY g 0 0 none Q := by
  obtain ⟨-, -, c, hc, ec, -⟩ := id I
  have lp : ∀ (n k : Nat) (x acc : Int32), k + n = c → x = nI k → am d 112 4 [some (.ref 22), some (.int acc), some (.int x)] [] LY g 0 0 none Q := by
    intro n
    induction n with
    | zero =>
      intro k x acc hk hx
      have hk : k = c := by omega
      subst hk; subst hx
      refine am_run_k 4 (And.intro (fun h6 => ?_) (fun hx => absurd ((show g 22 7 ≤ nI k by rw [ec]; exact nI_le (Nat.le_refl k) (by omega))) hx))
      refine am_run_k 2 ?_
      exact h acc
    | succ n ih =>
      intro k x acc hk hx
      subst hx
      refine am_run_k 4 (And.intro (fun hx => absurd hx ((show ¬ g 22 7 ≤ nI k by rw [ec]; exact nI_ge (by omega) (by omega)))) (fun h6 => ?_))
      refine am_run_k 5 (And.intro (vpn (by omega)) ?_)
      refine am_run_k 1 (And.intro (fun h1 => ?_) (fun h1 => ?_))
      · refine am_run_k 5 ?_
        exact ih (k + 1) _ _ (by omega) (nI_1 k)
      · refine am_run_k 8 ?_
        exact ih (k + 1) _ _ (by omega) (nI_1 k)
  refine am_run_k 4 ?_
  exact lp c 0 _ _ (by omega) rfl
theorem m_couldAny {q : Nat} {bits : Int32} (I : VM g) (hq : q < 6) (h : ∀ r g', r = 0 ∨ r = 1 → scM g g' → Q (some (.int r)) LY g') : am (d + 3) 113 0 [some (.ref 22), some (.int (nI q)), some (.int bits)] [] LY g 0 0 none Q := by
  have s30 : ∀ g', scM g g' → am (d + 3) 113 30 [some (.ref 22), some (.int (nI q)), some (.int bits)] [] LY g' 0 0 none Q := by
    intro g' s
    refine am_run_k 3 (And.intro (Or.inr rfl) ?_)
    exact h 1 g' (Or.inr rfl) s
  refine am_run_k 5 (am_cl ?_)
  refine m_could (th := 0) I hq (by decide) (fun r g1 _ s1 _ => ?_)
  refine am_run_k 1 (And.intro (fun h1 => ?_) (fun h1 => ?_))
  · exact s30 g1 s1
  · refine am_run_k 5 (am_cl ?_)
    refine m_could (th := 1) (I.sc s1) hq (by decide) (fun r g2 _ s2 _ => ?_)
    refine am_run_k 1 (And.intro (fun h2 => ?_) (fun h2 => ?_))
    · exact s30 g2 (s1.tr s2)
    · refine am_run_k 5 (am_cl ?_)
      refine m_could (th := 2) ((I.sc s1).sc s2) hq (by decide) (fun r g3 _ s3 _ => ?_)
      refine am_run_k 1 (And.intro (fun h3 => ?_) (fun h3 => ?_))
      · refine am_run_k 2 (And.intro (Or.inl rfl) ?_)
        exact h 0 g3 (Or.inl rfl) ((s1.tr s2).tr s3)
      · exact s30 g3 ((s1.tr s2).tr s3)
theorem m_suspectsBy {bits : Int32} {l2 l3 : Option Value} (I : VM g) (h : ∀ r g', scM g g' → Q (some (.int r)) LY g') : am (d + 4) 114 0 [some (.ref 22), some (.int bits), l2, l3] [] LY g 0 0 none Q := by
  obtain ⟨⟨n, hn1, hn2, en⟩, -, -⟩ := id I
  have lp : ∀ (m k : Nat) (x acc : Int32) (g1 : am_G), k + m = n → x = nI k → scM g g1 → am (d + 4) 114 4 [some (.ref 22), some (.int bits), some (.int acc), some (.int x)] [] LY g1 0 0 none Q := by
    intro m
    induction m with
    | zero =>
      intro k x acc g1 hk hx s
      have hk : k = n := by omega
      subst hk; subst hx
      refine am_run_k 4 (And.intro (fun h6 => ?_) (fun hx => absurd ((show g1 22 0 ≤ nI k by rw [s.2 0 (by decide) (by decide), en]; exact nI_le (Nat.le_refl k) (by omega))) hx))
      refine am_run_k 2 ?_
      exact h acc g1 s
    | succ m ih =>
      intro k x acc g1 hk hx s
      subst hx
      refine am_run_k 4 (And.intro (fun hx => absurd hx ((show ¬ g1 22 0 ≤ nI k by rw [s.2 0 (by decide) (by decide), en]; exact nI_ge (by omega) (by omega)))) (fun h6 => ?_))
      refine am_run_k 5 (am_cl ?_)
      refine m_couldAny (I.sc s) (by omega) (fun r g2 _ s2 => ?_)
      refine am_run_k 1 (And.intro (fun h1 => ?_) (fun h1 => ?_))
      · refine am_run_k 5 ?_
        exact ih (k + 1) _ _ _ (by omega) (nI_1 k) (s.tr s2)
      · refine am_run_k 8 ?_
        exact ih (k + 1) _ _ _ (by omega) (nI_1 k) (s.tr s2)
  refine am_run_k 4 ?_
  exact lp n 0 _ _ g (by omega) rfl scM.rf
end MOF
