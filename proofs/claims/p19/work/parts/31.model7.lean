section MOJ
variable {d : Nat} {L : am_L} {g : am_G} {bc bs : Nat} {sx : am_S} {Q : am_Q}
theorem LB_sub {q th : Nat} (lb : ∀ t, t < 10 → LB1 g q th t) : ∀ (m t : Nat), t + m = 9 → ∀ b, b < 32 → bt (g 33 t) b = true → bt (g 32 t) b = true := by
  intro m
  induction m with
  | zero =>
    intro t ht b hb e
    obtain ⟨f1, f0⟩ := lb t (by omega)
    rcases (f0 b hb).mp e with ⟨-, h9, -⟩ | ⟨h, -⟩
    · omega
    · exact h
  | succ m ih =>
    intro t ht b hb e
    obtain ⟨f1, f0⟩ := lb t (by omega)
    rcases (f0 b hb).mp e with ⟨h1, h9, p, hp, h2, h3⟩ | ⟨h, -⟩
    · exact (f1 b hb).mpr ⟨h1, Or.inr ⟨h9, p, hp, ih (t + 1) (by omega) p (by omega) h2, h3⟩⟩
    · exact h
def wsA (g : am_G) (dn : Bool) (t : Nat) : Int32 := bif dn then g 32 t else g 33 t
theorem ws_may {q th t b : Nat} {dn : Bool} (lb : ∀ t, t < 10 → LB1 g q th t) (ht : t < 10) (hb : b < 32) (e : bt (wsA g dn t) b = true) : bt (g 31 (10 * q + t)) b = true := by
  obtain ⟨f1, f0⟩ := lb t ht
  cases dn with
  | true => exact ((f1 b hb).mp e).1
  | false =>
    rcases (f0 b hb).mp e with ⟨h1, -⟩ | ⟨h1, -⟩
    · exact h1
    · exact ((f1 b hb).mp h1).1
theorem ws_next1 {q th t p : Nat} (lb : ∀ t, t < 10 → LB1 g q th t) (jn : JN g) (ht : t < 9) (hp : p < 8) (e : bt (g 32 t) p = true) : ∃ b, b < 32 ∧ bt (g 23 p) b = true ∧ bt (g 32 (t + 1)) b = true := by
  obtain ⟨f1, -⟩ := lb t (by omega)
  rcases (f1 p (by omega)).mp e with ⟨-, ⟨h9, -⟩ | ⟨-, b, hb, h1, h2⟩⟩
  · omega
  · exact ⟨b, by omega, jn b p hb hp h2, h1⟩
theorem ws_next {q th t p z : Nat} {dn dn' : Bool} (lb : ∀ t, t < 10 → LB1 g q th t) (jn : JN g) (ez : g 24 th = nI z) (hz : z < 8) (ht : t < 9) (hp : p < 8) (e : bt (wsA g dn t) p = true) (hd : dn' = (dn || (tkB g (nI t) && decide (z = p)))) : ∃ b, b < 32 ∧ bt (g 23 p) b = true ∧ bt (wsA g dn' (t + 1)) b = true := by
  obtain ⟨-, f0⟩ := lb t (by omega)
  have sub := LB_sub lb
  cases dn with
  | true => subst hd; exact ws_next1 lb jn ht hp e
  | false =>
    rcases (f0 p (by omega)).mp e with ⟨-, -, b, hb, h1, h2⟩ | ⟨h1, h2, h3⟩
    · refine ⟨b, by omega, jn b p hb hp h2, ?_⟩
      cases dn' with
      | true => exact sub (8 - t) (t + 1) (by omega) b (by omega) h1
      | false => exact h1
    · rw [ez, b_sh (by omega) (by omega), decide_eq_true_iff] at h3
      rw [h2, decide_eq_true h3.symm] at hd
      subst hd
      exact ws_next1 lb jn ht hp h1
theorem m_way {a b c : Int32} {l4 l5 l6 l7 : Option Value} (I : IM g) (h : ∀ r g', scM g g' → Q (some (.int r)) LY g') : am (d + 3) 120 0 [some (.ref 22), some (.int a), some (.int b), some (.int c), l4, l5, l6, l7] [] LY g 0 0 none Q := by
  obtain ⟨⟨n, hn1, hn2, en⟩, -, -⟩ := id I.1
  refine am_run_k 3 (am_cl ?_)
  refine m_isOne ⟨by omega, hn2⟩ en ?_
  refine am_run_k 1 (And.intro (fun h1 => ?_) (fun h1 => ?_))
  · refine am_run_k 2 ?_
    exact h _ g scM.rf
  · obtain ⟨q, hq, ea⟩ := am_ir_nI (by omega) (bi_t h1)
    subst ea
    refine am_run_k 4 (am_cl ?_)
    refine w_in ?_
    refine am_run_k 1 (And.intro (fun h2 => ?_) (fun h2 => ?_))
    · refine am_run_k 2 ?_
      exact h _ g scM.rf
    · obtain ⟨th, -, hth, eb⟩ := in2_rng (a := 0) (b := 2) (by decide) (by decide) (bi_t h2)
      subst eb
      refine am_run_k 2 (am_cl ?_)
      refine m_isTick ?_
      refine am_run_k 1 (And.intro (fun h3 => ?_) (fun h3 => ?_))
      · obtain ⟨T, hT, ec⟩ := am_ir_nI (k := 10) (by decide) (bi_t h3)
        subst ec
        refine am_run_k 5 (am_cl ?_)
        refine m_foundBits I.1 (fun bits => ?_)
        refine am_run_k 1 (am_cl ?_)
        refine m_could I.1 (by omega) (by omega) (fun r g1 hr s1 hrest => ?_)
        refine am_run_k 1 (And.intro (fun h4 => ?_) (fun h4 => ?_))
        · have hr1 : r = 1 := hr.resolve_left h4
          obtain ⟨lb, m8, hne⟩ := hrest hr1
          have I1 := I.sc s1
          obtain ⟨z, hz, ez⟩ := I1.2.2.1 th (by omega)
          have lp : ∀ (m t : Nat) (x set pl : Int32) (dn : Bool), t + m = T + 1 → x = nI t → (t ≤ T → ∃ b, b < 32 ∧ bt set b = true ∧ bt (wsA g1 dn t) b = true) → am (d + 3) 120 56 [some (.ref 22), some (.int (nI q)), some (.int (nI th)), some (.int (nI T)), some (.int (am_bi dn)), some (.int set), some (.int pl), some (.int x)] [] LY g1 0 0 none Q := by
            intro m
            induction m with
            | zero =>
              intro t x set pl dn ht hx hv
              have ht : t = T + 1 := by omega
              subst ht; subst hx
              refine am_run_k 3 (And.intro (fun h6 => ?_) (fun hx => absurd ((show nI T < nI (T + 1) from nI_lt' (by omega))) hx))
              refine am_run_k 2 ?_
              exact h _ g1 s1
            | succ m ih =>
              intro t x set pl dn ht hx hv
              subst hx
              refine am_run_k 3 (And.intro (fun hx => absurd hx ((show ¬ nI T < nI t by rw [fa_nlt]; exact nI_le (by omega) (by omega)))) (fun h6 => ?_))
              obtain ⟨b, hb, hv1, hv2⟩ := hv (by omega)
              have s122 : ∀ (p : Nat) (dn' : Bool), p < 8 → bt (wsA g1 dn t) p = true → dn' = (dn || (tkB g1 (nI t) && decide (z = p))) → am (d + 3) 120 122 [some (.ref 22), some (.int (nI q)), some (.int (nI th)), some (.int (nI T)), some (.int (am_bi dn)), some (.int set), some (.int (nI p)), some (.int (nI t))] [.int (am_bi dn')] LY g1 0 0 none Q := by
                intro p dn' hp hw hd
                refine am_run_k 5 (And.intro (vpn hp) ?_)
                rw [ncl (by omega)]
                refine am_run_k 3 ?_
                exact ih (t + 1) _ _ _ dn' (by omega) (nI_1 t) (fun hle => ws_next lb I1.2.1 ez hz (by omega) hp hw hd)
              have s86 : am (d + 3) 120 86 [some (.ref 22), some (.int (nI q)), some (.int (nI th)), some (.int (nI T)), some (.int (am_bi dn)), some (.int set), some (.int pl), some (.int (nI t))] [.int (wsA g1 dn t), .int set] LY g1 0 0 none Q := by
                refine am_run_k 2 (am_cl ?_)
                refine m_first ⟨b, hb, by rw [b_and, hv1, hv2]; rfl⟩ (fun p hp hbp => ?_)
                rw [b_and, Bool.and_eq_true] at hbp
                have hmay := ws_may lb (show t < 10 by omega) hp hbp.2
                have hp8 : p < 8 := by
                  rcases Nat.lt_or_ge p 8 with e | e
                  · exact e
                  · have := m8 (10 * q + t) (by omega) p e hp
                    rw [this] at hmay
                    exact absurd hmay (by decide)
                refine am_run_k 3 (And.intro (fun h5 => ?_) (fun h5 => ?_))
                · refine am_run_k 2 ?_
                  exact s122 p true hp8 hbp.2 (by rw [bi_t h5]; rfl)
                · have hdn : dn = false := by
                    cases dn with
                    | false => rfl
                    | true => first | exact absurd h5 (by decide) | exact absurd (Classical.not_not.mp h5) (by decide)
                  refine am_run_k 3 (am_cl ?_)
                  refine m_isTaken ?_
                  refine am_run_k 1 (And.intro (fun h7 => ?_) (fun h7 => ?_))
                  · refine am_run_k 1 ?_
                    exact s122 p false hp8 hbp.2 (by rw [hdn, bi_f h7]; rfl)
                  · refine am_run_k 4 (And.intro (vpn (by omega)) ?_)
                    rw [ncl (by omega), ez]
                    refine am_run_k 2 (And.intro (fun h8 => ?_) (fun h8 => ?_))
                    · refine am_run_k 1 ?_
                      have hzp : ¬ z = p := fun e => h8 (by rw [e])
                      exact s122 p false hp8 hbp.2 (by rw [hdn, decide_eq_false hzp, Bool.and_false]; rfl)
                    · refine am_run_k 2 ?_
                      have h8 : nI z = nI p := by first | exact h8 | exact Classical.not_not.mp h8
                      have hzp : z = p := (nI_eq (by omega) (by omega)).mp h8
                      exact s122 p true hp8 hbp.2 (by rw [hdn, bi_t h7, decide_eq_true hzp]; rfl)
              refine am_run_k 3 (And.intro (fun h5 => ?_) (fun h5 => ?_))
              · have hdn : dn = false := bi_f h5
                refine am_run_k 4 (And.intro (vpn (by omega)) ?_)
                rw [ncl (by omega)]
                have hs := s86
                subst hdn
                exact hs
              · have hdn : dn = true := bi_t h5
                refine am_run_k 4 (And.intro (vpn (by omega)) ?_)
                rw [ncl (by omega)]
                refine am_run_k 1 ?_
                have hs := s86
                subst hdn
                exact hs
          refine am_run_k 8 ?_
          obtain ⟨b, hb, eb⟩ := bt_ne0 hne
          refine lp (T + 1) 0 _ _ _ false (by omega) rfl (fun _ => ⟨b, hb, ?_, eb⟩)
          have hmay := ws_may (dn := false) lb (show 0 < 10 by omega) hb eb
          rw [b_255, decide_eq_true_iff]
          rcases Nat.lt_or_ge b 8 with e | e
          · exact e
          · have := m8 (10 * q + 0) (by omega) b e hb
            rw [this] at hmay
            exact absurd hmay (by decide)
        · refine am_run_k 2 ?_
          exact h _ g1 s1
      · refine am_run_k 2 ?_
        exact h _ g scM.rf
theorem m_claim {a : Int32} {l2 l3 l4 l5 : Option Value} (I : IM g) (h : ∀ r g', scM g g' → Q (some (.int r)) LY g') : am (d + 4) 127 0 [some (.ref 22), some (.int a), l2, l3, l4, l5] [] LY g 0 0 none Q := by
  obtain ⟨⟨n, hn1, hn2, en⟩, -, c, hc, ec, -⟩ := id I.1
  refine am_run_k 3 (am_cl ?_)
  refine m_isOne ⟨by omega, hn2⟩ en ?_
  refine am_run_k 1 (And.intro (fun h1 => ?_) (fun h1 => ?_))
  · obtain ⟨q, hq, ea⟩ := am_ir_nI (by omega) (bi_t h1)
    subst ea
    refine am_run_k 4 (am_cl ?_)
    refine m_couldAny I.1 (by omega) (fun r g1 _ s1 => ?_)
    refine am_run_k 1 (And.intro (fun h2 => ?_) (fun h2 => ?_))
    · have out : ∀ (m : Nat) (bits aft : Int32) (l4 l5 : Option Value) (g1 : am_G), 2 ^ 31 - aft.toInt ≤ m → scM g g1 → am (d + 4) 127 26 [some (.ref 22), some (.int (nI q)), some (.int bits), some (.int aft), l4, l5] [] LY g1 0 0 none Q := by
        intro m
        induction m with
        | zero =>
          intro bits aft l4 l5 g1 hm s
          have := aft.toInt_lt
          omega
        | succ m ih =>
          intro bits aft l4 l5 g1 hm s
          have e7 : g1 22 7 = nI c := by rw [s.2 7 (by decide) (by decide)]; exact ec
          have inn : ∀ (m2 f : Nat) (x bst : Int32), f + m2 = c → x = nI f → (bst = -1 ∨ ∃ b, b < c ∧ bst = nI b ∧ aft < g1 27 b) → am (d + 4) 127 32 [some (.ref 22), some (.int (nI q)), some (.int bits), some (.int aft), some (.int bst), some (.int x)] [] LY g1 0 0 none Q := by
            intro m2
            induction m2 with
            | zero =>
              intro f x bst hf hx hb
              have hf : f = c := by omega
              subst hf; subst hx
              refine am_run_k 4 (And.intro (fun h6 => ?_) (fun hx => absurd ((show g1 22 7 ≤ nI f by rw [e7]; exact nI_le (Nat.le_refl f) (by omega))) hx))
              rcases hb with hb | ⟨b, hb, eb, hlt⟩
              · subst hb
                refine am_run_k 2 (And.intro (fun hx => absurd hx ((by decide))) (fun h7 => ?_))
                refine am_run_k 2 ?_
                exact h _ g1 s
              · subst eb
                refine am_run_k 2 (And.intro (fun h7 => ?_) (fun hx => absurd ((show (0 : Int32) ≤ nI b from nI_le (a := 0) (Nat.zero_le b) (by omega))) hx))
                refine am_run_k 10 (And.intro (vpn (by omega)) ?_)
                rw [ncl (by omega)]
                refine am_run_k 5 (am_cl ?_)
                refine m_couldAny (I.sc s).1 (by omega) (fun r g2 _ s2 => ?_)
                refine am_run_k 1 (And.intro (fun h8 => ?_) (fun h8 => ?_))
                · refine am_run_k 1 ?_
                  refine ih _ (g1 27 b) _ _ g2 ?_ (s.tr s2)
                  have := Int32.lt_iff_toInt_lt.mp hlt
                  omega
                · refine am_run_k 2 ?_
                  exact h _ g2 (s.tr s2)
            | succ m2 ih2 =>
              intro f x bst hf hx hb
              subst hx
              refine am_run_k 4 (And.intro (fun hx => absurd hx ((show ¬ g1 22 7 ≤ nI f by rw [e7]; exact nI_ge (by omega) (by omega)))) (fun h6 => ?_))
              have s81 : ∀ u : Int32, (u = -1 ∨ ∃ b, b < c ∧ u = nI b ∧ aft < g1 27 b) → am (d + 4) 127 81 [some (.ref 22), some (.int (nI q)), some (.int bits), some (.int aft), some (.int bst), some (.int (nI f))] [.int u] LY g1 0 0 none Q := by
                intro u hu
                refine am_run_k 3 ?_
                exact ih2 (f + 1) _ _ (by omega) (nI_1 f) hu
              refine am_run_k 4 (And.intro (vpn (by omega)) ?_)
              rw [ncl (by omega)]
              refine am_run_k 2 (And.intro (fun h7 => ?_) (fun h7 => ?_))
              · refine am_run_k 1 ?_
                exact s81 _ hb
              · have hu : nI f = -1 ∨ ∃ b, b < c ∧ nI f = nI b ∧ aft < g1 27 b := Or.inr ⟨f, by omega, rfl, fa_nle.mp h7⟩
                refine am_run_k 2 (And.intro (fun h8 => ?_) (fun h8 => ?_))
                · refine am_run_k 2 ?_
                  exact s81 _ hu
                · rcases hb with hb | ⟨b, hb, eb, hlt⟩
                  · subst hb; exact absurd (show (-1 : Int32) < 0 by decide) h8
                  · subst eb
                    refine am_run_k 4 (And.intro (vpn (by omega)) ?_)
                    refine am_run_k 4 (And.intro (vpn (by omega)) ?_)
                    refine am_run_k 1 (And.intro (fun h9 => ?_) (fun h9 => ?_))
                    · refine am_run_k 1 ?_
                      exact s81 _ (Or.inr ⟨b, hb, rfl, hlt⟩)
                    · refine am_run_k 2 ?_
                      exact s81 _ hu
          refine am_run_k 4 ?_
          exact inn c 0 _ _ (by omega) rfl (Or.inl rfl)
      refine am_run_k 4 ?_
      refine out (2 ^ 32) _ _ _ _ g1 (by decide) s1
    · refine am_run_k 2 ?_
      exact h _ g1 s1
  · refine am_run_k 2 ?_
    exact h _ g scM.rf
/-- the draw's next number, and what it gives -/
def dxA (x : Int32) : Int32 := x * 1103515245 + 12345
end MOJ
