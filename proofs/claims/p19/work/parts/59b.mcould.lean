section MCO
variable {d : Nat} {L : am_L} {g : am_G} {Q : am_Q} {B c f : Nat}
theorem soo_same {R : Nat → cRow} {sel : Nat → Bool} {w k : Nat} (h : sel k = false ∨ dK (R k) 2 w = false) : sooF R sel w (k + 1) = sooF R sel w k := by
  rw [sooF]
  rcases h with h | h
  · rw [h]; rfl
  · unfold heS; rw [h]; cases sel k <;> rfl
theorem soo_do {R : Nat → cRow} {sel : Nat → Bool} {w k : Nat} (h : sel k = true) (h2 : dK (R k) 2 w = true) : sooF R sel w (k + 1) = if sooF R sel w k < (R k).2.2.1 then (R k).2.2.1 else sooF R sel w k := by
  rw [sooF, h]; unfold heS; rw [h2]; rfl
theorem ltm_same {R : Nat → cRow} {sel : Nat → Bool} {w k : Nat} (h : sel k = false ∨ dK (R k) 3 w = false) : ltmF R sel w (k + 1) = ltmF R sel w k := by
  rw [ltmF]
  rcases h with h | h
  · rw [h]; rfl
  · unfold heT; rw [h]; cases sel k <;> rfl
theorem ltm_do {R : Nat → cRow} {sel : Nat → Bool} {w k : Nat} (h : sel k = true) (h2 : dK (R k) 3 w = true) : ltmF R sel w (k + 1) = if (R k).2.2.1 < ltmF R sel w k then (R k).2.2.1 else ltmF R sel w k := by
  rw [ltmF, h]; unfold heT; rw [h2]; rfl
theorem clr_up {R : Nat → cRow} {sel : Nat → Bool} {q j : Nat} (h : bt (clrF R sel j) q = true) : ∀ m, j ≤ m → bt (clrF R sel m) q = true := by
  intro m hm
  induction hm with
  | refl => exact h
  | step _ ih =>
    rw [clrF]
    cases sel _ with
    | false => exact ih
    | true =>
      rw [cond_true]
      unfold heC
      cases decide ((R _).1 = 4) with
      | false => exact ih
      | true => rw [cond_true, b_or, ih]; rfl
/-- what the model has heard of k finds -/
def LIM (g0 g : am_G) (sel : Nat → Bool) (q th k : Nat) : Prop := scM g0 g ∧ eq60 (g 31) (mayF (rwO g0) sel k) ∧ g 22 16 = sooF (rwO g0) sel th k ∧ g 22 17 = ltmF (rwO g0) sel th k ∧ bt (clrF (rwO g0) sel k) q = false
theorem cbV_tk {g' : am_G} {n tk : Nat} {set : Int32} {q w : Nat} (ok : ∀ j, j < c → okR (rwO g j)) (htk : tk < 10) (hw : w < 3) (e5 : g' 22 5 = nI tk) (e16 : g' 22 16 = sooF (rwO g) (selB g set (nI q)) w c) (e17 : g' 22 17 = ltmF (rwO g) (selB g set (nI q)) w c) : ∀ t, t < 10 → tkB g' (nI t) = cbV g tk c set q w t := by
  intro t ht
  obtain ⟨l, m, h1, h2, h3⟩ := latB (R := rwO g) (sel := selB g set (nI q)) htk hw c ok
  unfold tkB cbV
  rw [e5, e16, e17, h1, h2]
  have h3 := h3 t ht
  by_cases z : nI t ≤ l
  · obtain ⟨y1, y2⟩ := h3.mp z
    rw [decide_eq_true z, decide_eq_true y1, decide_eq_true y2]; simp
  · rw [decide_eq_false z, Bool.and_false]
    by_cases y1 : nI t ≤ nI tk
    · have y2 : ¬ nI t < m := fun y2 => z (h3.mpr ⟨y1, y2⟩)
      rw [decide_eq_false y2]; simp
    · rw [decide_eq_false y1]; rfl
def cdV (g : am_G) (n tk c : Nat) (set : Int32) (q w : Nat) : Bool := okV g n tk c set q && twV g n tk c set q w
theorem T.own (t : T g B c f) : ∀ a, a < 8 → bt (g 23 a) a = true := by
  intro a ha
  rw [← t.2.2.2.1.1 a ha, b_or, b_sh (by omega) (by omega)]; simp
theorem T.sym (t : T g B c f) : ∀ a b, a < 8 → b < 8 → bt (g 23 a) b = true → bt (g 23 b) a = true := fun a b ha hb h => t.2.1.2.2.1 a b ha hb h
theorem T.rwM (t : T g B c f) : rowsM g c := by
  obtain ⟨c', hc', e, r⟩ := t.2.1.2.1.2.2
  have : c' = c := (nI_eq (by omega) (by have := t.1.1; omega)).mp (e.symm.trans t.c7)
  subst this
  exact r
theorem T.okR (t : T g B c f) : ∀ j, j < c → okR (rwO g j) := t.rwM
theorem okV_no {n tk : Nat} {set : Int32} {q p : Nat} (hp : p < n) (h : fitV (g 23) (gaV g n tk c set q) p = false) : okV g n tk c set q = false := by
  unfold okV
  rw [allB_f (P := fun p => fitV (g 23) (gaV g n tk c set q) p) h n hp]
  simp
theorem l_111_28_x {q th : Nat} {bits : Int32} {g0 : am_G} (t : T g0 B c f) (hq : q < 6) (hth : th < 3) (h0 : bt (clrF (rwO g0) (selB g0 bits (nI q)) c) q = true → ∀ g', scM g0 g' → Q (some (.int 0)) LY g') (h : ∀ g' l4 l5 l6, LIM g0 g' (selB g0 bits (nI q)) q th c → am (d + 2) 111 276 [some (.ref 22), some (.int (nI q)), some (.int (nI th)), some (.int bits), l4, l5, l6] [] LY g' 0 0 none Q) : ∀ (n k : Nat) (x : Int32) (g : am_G) (l5 l6 : Option Value), k + n = c → x = nI k → LIM g0 g (selB g0 bits (nI q)) q th k → am (d + 2) 111 28 [some (.ref 22), some (.int (nI q)), some (.int (nI th)), some (.int bits), some (.int x), l5, l6] [] LY g 0 0 none Q := by
  have hc := t.1.1
  have ec := t.c7
  intro n
  induction n with
  | zero =>
    intro k x g l5 l6 hk hx hg
    have hk : k = c := by omega
    subst hk; subst hx
    refine am_run_k 4 (And.intro (fun h6 => ?_) (fun hx => absurd ((show g 22 7 ≤ nI k by rw [hg.1.2 7 (by decide) (by decide), ec]; exact nI_le (Nat.le_refl k) (by omega))) hx))
    exact h g _ _ _ hg
  | succ n ih =>
    intro k x g l5 l6 hk hx hg
    subst hx
    have eg7 : g 22 7 = nI c := by rw [hg.1.2 7 (by decide) (by decide)]; exact ec
    have okk : rowOK (g0 25 k) (g0 26 (4 * k)) (g0 26 (4 * k + 1)) (g0 26 (4 * k + 2)) (g0 26 (4 * k + 3)) := t.okR k (by omega)
    obtain ⟨sel, esel⟩ : ∃ sel, sel = selB g0 bits (nI q) := ⟨_, rfl⟩
    rw [← esel] at hg h h0 ih
    have selk : sel k = (bt bits k && !(decide (5 ≤ g0 25 k) && decide (g0 26 (4 * k) = nI q))) := by rw [esel]; rfl
    have lowk : ∀ {v : Int32}, g0 25 k = v → ¬ (5 : Int32) ≤ v → sel k = bt bits k := by
      intro v e1 e2
      rw [selk, e1, decide_eq_false e2]; simp
    have eR1 : (rwO g0 k).1 = g0 25 k := rfl
    have eR2 : (rwO g0 k).2.1 = g0 26 (4 * k) := rfl
    have eR3 : (rwO g0 k).2.2.1 = g0 26 (4 * k + 1) := rfl
    refine am_run_k 4 (And.intro (fun hx => absurd hx ((show ¬ g 22 7 ≤ nI k by rw [eg7]; exact nI_ge (by omega) (by omega)))) (fun h6 => ?_))
    have i0 : vp_in ((4 : Int32) * nI k) 80 := vpe (nIm4 k) (by omega)
    have i1 : vp_in ((4 : Int32) * nI k + 1) 80 := vpe (nI41 k) (by omega)
    have c0 := cle (nIm4 k) (show 4 * k < 2 ^ 31 by omega)
    have c1 := cle (nI41 k) (show 4 * k + 1 < 2 ^ 31 by omega)
    have ck := ncl (show k < 2 ^ 31 by omega)
    have o25 : ∀ g1, scM g0 g1 → g1 25 = g0 25 := fun g1 s => s.1 25 (by decide) (by decide) (by decide) (by decide)
    have o26 : ∀ g1, scM g0 g1 → g1 26 = g0 26 := fun g1 s => s.1 26 (by decide) (by decide) (by decide) (by decide)
    have s270 : ∀ (g : am_G) (u v : Int32), LIM g0 g sel q th (k + 1) → am (d + 2) 111 270 [some (.ref 22), some (.int (nI q)), some (.int (nI th)), some (.int bits), some (.int (nI k)), some (.int u), some (.int v)] [] LY g 0 0 none Q := by
      intro g u v hg
      refine am_run_k 2 ?_
      exact ih (k + 1) _ g _ _ (by omega) (nI_1 k) hg
    have s201 : ∀ (g : am_G) (v : Int32), scM g0 g → eq60 (g 31) (mayF (rwO g0) sel (k + 1)) → g 22 16 = sooF (rwO g0) sel th (k + 1) → g 22 17 = ltmF (rwO g0) sel th k → bt (clrF (rwO g0) sel (k + 1)) q = false → am (d + 2) 111 201 [some (.ref 22), some (.int (nI q)), some (.int (nI th)), some (.int bits), some (.int (nI k)), some (.int (am_bi (bt bits k))), some (.int v)] [] LY g 0 0 none Q := by
      intro g v a1 a2 a3 a4 a5
      have same : (sel k = false ∨ dK (rwO g0 k) 3 th = false) → LIM g0 g sel q th (k + 1) := fun z => ⟨a1, a2, a3, by rw [a4, ltm_same z], a5⟩
      refine am_run_k 2 (And.intro (fun h1 => ?_) (fun h1 => ?_))
      · exact s270 g _ v (same (Or.inl (by rw [selk, bi_f h1]; rfl)))
      · have hb := bi_t h1
        refine am_run_k 4 (And.intro (vpn (by omega)) ?_)
        rw [ck, o25 g a1]
        refine am_run_k 2 (And.intro (fun h2 => ?_) (fun h2 => ?_))
        · exact s270 g _ v (same (Or.inr (by unfold dK; rw [eR1, decide_eq_false h2]; rfl)))
        · have h2 : g0 25 k = 3 := by first | exact h2 | exact rdr h2
          have sk : sel k = true := by rw [lowk h2 (by decide), hb]
          refine am_run_k 6 (And.intro (i0) ?_)
          rw [c0, o26 g a1]
          refine am_run_k 2 (And.intro (fun h3 => ?_) (fun h3 => ?_))
          · exact s270 g _ v (same (Or.inr (by unfold dK; rw [eR2, decide_eq_false h3, Bool.and_false])))
          · have h3 : g0 26 (4 * k) = nI th := by first | exact h3 | exact rdr h3
            have dk : dK (rwO g0 k) 3 th = true := by unfold dK; rw [eR1, eR2, decide_eq_true h2, decide_eq_true h3]; rfl
            have el := ltm_do (R := rwO g0) sk dk
            rw [eR3, ← a4] at el
            have fin : ∀ y : Int32, y = (if g0 26 (4 * k + 1) < g 22 17 then g0 26 (4 * k + 1) else g 22 17) → LIM g0 (am_up g 22 17 y) sel q th (k + 1) := fun y ey => ⟨a1.tr (scM.up (Or.inr rfl)), by rw [am_up_ne (by decide)]; exact a2, by rw [am_up_un (by decide)]; exact a3, by rw [am_up_us, ey]; exact el.symm, a5⟩
            refine am_run_k 9 (And.intro (i1) ?_)
            rw [c1, o26 g a1]
            refine am_run_k 3 (And.intro (fun h4 => ?_) (fun h4 => ?_))
            · refine am_run_k 2 ?_
              refine am_run_k 1 ?_
              have h4 : ¬ g0 26 (4 * k + 1) < g 22 17 := by first | exact h4 | exact fa_nlt.mpr h4
              exact s270 _ _ v (fin _ (by rw [if_neg h4]))
            · have h4 : g0 26 (4 * k + 1) < g 22 17 := by first | exact h4 | exact fa_nle.mp h4 | exact rdr h4
              refine am_run_k 8 (And.intro (i1) ?_)
              rw [c1, o26 g a1]
              refine am_run_k 1 ?_
              refine am_run_k 1 ?_
              exact s270 _ _ v (fin _ (by rw [if_pos h4]))
    have s132 : ∀ (g : am_G) (v : Int32), scM g0 g → eq60 (g 31) (mayF (rwO g0) sel (k + 1)) → g 22 16 = sooF (rwO g0) sel th k → g 22 17 = ltmF (rwO g0) sel th k → bt (clrF (rwO g0) sel (k + 1)) q = false → am (d + 2) 111 132 [some (.ref 22), some (.int (nI q)), some (.int (nI th)), some (.int bits), some (.int (nI k)), some (.int (am_bi (bt bits k))), some (.int v)] [] LY g 0 0 none Q := by
      intro g v a1 a2 a3 a4 a5
      have same : (sel k = false ∨ dK (rwO g0 k) 2 th = false) → g 22 16 = sooF (rwO g0) sel th (k + 1) := fun z => by rw [a3, soo_same z]
      refine am_run_k 2 (And.intro (fun h1 => ?_) (fun h1 => ?_))
      · exact s201 g v a1 a2 (same (Or.inl (by rw [selk, bi_f h1]; rfl))) a4 a5
      · have hb := bi_t h1
        refine am_run_k 4 (And.intro (vpn (by omega)) ?_)
        rw [ck, o25 g a1]
        refine am_run_k 2 (And.intro (fun h2 => ?_) (fun h2 => ?_))
        · exact s201 g v a1 a2 (same (Or.inr (by unfold dK; rw [eR1, decide_eq_false h2]; rfl))) a4 a5
        · have h2 : g0 25 k = 2 := by first | exact h2 | exact rdr h2
          have sk : sel k = true := by rw [lowk h2 (by decide), hb]
          refine am_run_k 6 (And.intro (i0) ?_)
          rw [c0, o26 g a1]
          refine am_run_k 2 (And.intro (fun h3 => ?_) (fun h3 => ?_))
          · exact s201 g v a1 a2 (same (Or.inr (by unfold dK; rw [eR2, decide_eq_false h3, Bool.and_false]))) a4 a5
          · have h3 : g0 26 (4 * k) = nI th := by first | exact h3 | exact rdr h3
            have dk : dK (rwO g0 k) 2 th = true := by unfold dK; rw [eR1, eR2, decide_eq_true h2, decide_eq_true h3]; rfl
            have el := soo_do (R := rwO g0) sk dk
            rw [eR3, ← a3] at el
            have fin : ∀ y : Int32, y = (if g 22 16 < g0 26 (4 * k + 1) then g0 26 (4 * k + 1) else g 22 16) → am (d + 2) 111 201 [some (.ref 22), some (.int (nI q)), some (.int (nI th)), some (.int bits), some (.int (nI k)), some (.int (am_bi (bt bits k))), some (.int v)] [] LY (am_up g 22 16 y) 0 0 none Q := fun y ey => s201 _ v (a1.tr (scM.up (Or.inl rfl))) (by rw [am_up_ne (by decide)]; exact a2) (by rw [am_up_us, ey]; exact el.symm) (by rw [am_up_un (by decide)]; exact a4) a5
            refine am_run_k 9 (And.intro (i1) ?_)
            rw [c1, o26 g a1]
            refine am_run_k 3 (And.intro (fun h4 => ?_) (fun h4 => ?_))
            · refine am_run_k 2 ?_
              refine am_run_k 1 ?_
              have h4 : ¬ g 22 16 < g0 26 (4 * k + 1) := by first | exact h4 | exact fa_nlt.mpr h4
              exact fin _ (by rw [if_neg h4])
            · have h4 : g 22 16 < g0 26 (4 * k + 1) := by first | exact h4 | exact fa_nle.mp h4 | exact rdr h4
              refine am_run_k 8 (And.intro (i1) ?_)
              rw [c1, o26 g a1]
              refine am_run_k 1 ?_
              refine am_run_k 1 ?_
              exact fin _ (by rw [if_pos h4])
    have s116 : ∀ (v : Bool), v = (decide (5 ≤ g0 25 k) && decide (g0 26 (4 * k) = nI q)) → (sel k = true → bt (heC (rwO g0 k) (clrF (rwO g0) sel k)) q = false) → am (d + 2) 111 116 [some (.ref 22), some (.int (nI q)), some (.int (nI th)), some (.int bits), some (.int (nI k)), some (.int (am_bi (bt bits k))), some (.int (am_bi v))] [] LY g 0 0 none Q := by
      intro v ev hcl
      obtain ⟨a1, a2, a3, a4, a5⟩ := hg
      have skip : sel k = false → am (d + 2) 111 132 [some (.ref 22), some (.int (nI q)), some (.int (nI th)), some (.int bits), some (.int (nI k)), some (.int (am_bi (bt bits k))), some (.int (am_bi v))] [] LY g 0 0 none Q := fun z => s132 g _ a1 (by rw [mayF, z]; exact a2) a3 a4 (by rw [clrF, z]; exact a5)
      refine am_run_k 2 (And.intro (fun h1 => ?_) (fun h1 => ?_))
      · exact skip (by rw [selk, bi_f h1]; rfl)
      · refine am_run_k 2 (And.intro (fun h2 => ?_) (fun h2 => ?_))
        · have hv : v = true := by first | exact bi_t h2 | exact bi_f h2
          exact skip (by rw [selk, ← ev, hv]; simp)
        · have hv : v = false := by first | exact bi_f h2 | exact bi_t h2
          have z : sel k = true := by rw [selk, ← ev, hv, bi_t h1]; rfl
          have eO : rwO g k = rwO g0 k := by unfold rwO; rw [o25 g a1, o26 g a1]
          refine am_run_k 3 (am_cl ?_)
          refine m_bind_x (by omega) (by rw [eO]; exact t.okR k (by omega)) (fun g1 f1 m1 => s132 g1 _ (a1.tr (scM.o31 f1)) ?_ (by rw [f1 22 (by decide)]; exact a3) (by rw [f1 22 (by decide)]; exact a4) (by rw [clrF, z]; exact hcl z))
          rw [mayF, z, m1, eO]
          exact a2.he
    have clr0 : (g0 25 k = 4 → bt bits k = true → ¬ g0 26 (4 * k) = nI q) → sel k = true → bt (heC (rwO g0 k) (clrF (rwO g0) sel k)) q = false := by
      intro hne z
      unfold heC
      rw [eR1, eR2]
      by_cases y : g0 25 k = 4
      · rw [decide_eq_true y, cond_true, b_or, hg.2.2.2.2, Bool.false_or]
        have hb : bt bits k = true := by rw [lowk y (by decide)] at z; exact z
        rcases okk with ⟨h23, -⟩ | ⟨h4, u, hu, eu⟩ | ⟨h7, -⟩ | ⟨h05, -⟩
        · rcases h23 with e | e <;> rw [e] at y <;> exact absurd y (by decide)
        · have := hne y hb
          rw [eu] at this ⊢
          rw [b_sh (by omega) (by omega)]
          exact decide_eq_false (fun e => this (by rw [e]))
        · rw [h7] at y; exact absurd y (by decide)
        · rcases h05 with e | e | e | e <;> rw [e] at y <;> exact absurd y (by decide)
      · rw [decide_eq_false y, cond_false]; exact hg.2.2.2.2
    have s83 : ∀ (v : Bool) (l6 : Option Value), v = (decide (5 ≤ g0 25 k) && decide (g0 26 (4 * k) = nI q)) → am (d + 2) 111 83 [some (.ref 22), some (.int (nI q)), some (.int (nI th)), some (.int bits), some (.int (nI k)), some (.int (am_bi (bt bits k))), l6] [.int (am_bi v)] LY g 0 0 none Q := by
      intro v l6 ev
      refine am_run_k 3 (And.intro (fun h1 => ?_) (fun h1 => ?_))
      · exact s116 v ev (clr0 (fun _ e => by rw [bi_f h1] at e; cases e))
      · have hb := bi_t h1
        refine am_run_k 4 (And.intro (vpn (by omega)) ?_)
        rw [ck, o25 g hg.1]
        refine am_run_k 2 (And.intro (fun h2 => ?_) (fun h2 => ?_))
        · exact s116 v ev (clr0 (fun e => absurd e h2))
        · have h2 : g0 25 k = 4 := by first | exact h2 | exact rdr h2
          refine am_run_k 6 (And.intro (i0) ?_)
          rw [c0, o26 g hg.1]
          refine am_run_k 2 (And.intro (fun h3 => ?_) (fun h3 => ?_))
          · exact s116 v ev (clr0 (fun _ _ => h3))
          · have h3 : g0 26 (4 * k) = nI q := by first | exact h3 | exact rdr h3
            refine am_run_k 2 (And.intro (Or.inl rfl) ?_)
            refine h0 (clr_up (j := k + 1) ?_ c (by omega)) g hg.1
            have z : sel k = true := by rw [lowk h2 (by decide), hb]
            rw [clrF, z, cond_true]
            unfold heC
            rw [eR1, eR2, decide_eq_true h2, cond_true, h3, b_or, b_sh (by omega) (by omega)]
            simp
    have s52 : ∀ (b : Bool) (l5 l6 : Option Value), b = bt bits k → am (d + 2) 111 52 [some (.ref 22), some (.int (nI q)), some (.int (nI th)), some (.int bits), some (.int (nI k)), l5, l6] [.int (am_bi b)] LY g 0 0 none Q := by
      intro b l5 l6 eb
      subst eb
      refine am_run_k 5 (And.intro (vpn (by omega)) ?_)
      rw [ck, o25 g hg.1]
      refine am_run_k 2 (And.intro (fun h1 => ?_) (fun h1 => ?_))
      · refine am_run_k 1 ?_
        have z : ¬ (5 : Int32) ≤ g0 25 k := by first | exact h1 | exact fa_nle.mpr h1
        exact s83 false _ (by rw [decide_eq_false z]; rfl)
      · have z : (5 : Int32) ≤ g0 25 k := by first | exact fa_nlt.mp h1 | exact rdr h1
        refine am_run_k 6 (And.intro (i0) ?_)
        rw [c0, o26 g hg.1]
        refine am_run_k 2 (And.intro (fun h2 => ?_) (fun h2 => ?_))
        · refine am_run_k 1 ?_
          exact s83 false _ (by rw [decide_eq_true z, decide_eq_false h2]; rfl)
        · refine am_run_k 2 ?_
          have z2 : g0 26 (4 * k) = nI q := by first | exact h2 | exact rdr h2
          exact s83 true _ (by rw [decide_eq_true z, decide_eq_true z2]; rfl)
    refine am_run_k 7 (And.intro (fun h1 => ?_) (fun h1 => ?_))
    · refine am_run_k 1 ?_
      rw [bit01 (by omega)] at h1
      refine s52 false _ _ ?_
      cases hb : bt bits k with
      | false => rfl
      | true => rw [hb] at h1; exact absurd rfl h1
    · refine am_run_k 2 ?_
      rw [bit01 (by omega)] at h1
      refine s52 true _ _ ?_
      cases hb : bt bits k with
      | true => rfl
      | false => rw [hb] at h1; first | exact absurd h1 (by decide) | exact absurd (rdr h1) (by decide)
theorem l_111_279_x {q th n tk : Nat} {bits : Int32} {g0 : am_G} (t : T g0 B c f) (hq : q < 6) (hqn : q < n) (hth : th < 3) (hn : n ≤ 6) (en : g0 22 0 = nI n) (htk : tk < 10) (et : g0 22 5 = nI tk) (hv : ¬ nI q = g0 22 6) (hcl : bt (clrF (rwO g0) (selB g0 bits (nI q)) c) q = false) (h : ∀ g', scM g0 g' → (cdV g0 n tk c bits q th = true → (∀ m, m ≤ 9 → g' 32 (9 - m) = goF (g0 23) (gaV g0 n tk c bits q) q m ∧ g' 33 (9 - m) = tkV (g0 23) (gaV g0 n tk c bits q) q (cbV g0 tk c bits q th) (am_sh (g0 24 th)) m) ∧ (∀ t, t < 10 → tkB g' (nI t) = cbV g0 tk c bits q th t) ∧ (∀ t, t < 10 → LB1 g' q th t) ∧ M8 g') → Q (some (.int (am_bi (cdV g0 n tk c bits q th)))) LY g') : ∀ (m k : Nat) (x : Int32) (g : am_G) (l5 l6 : Option Value), k + m = n → x = nI k → scM g0 g → eq60 (g 31) (gaM k tk (g0 22 4) (nI q) (g0 22 6) (mayF (rwO g0) (selB g0 bits (nI q)) c)) → g 22 16 = sooF (rwO g0) (selB g0 bits (nI q)) th c → g 22 17 = ltmF (rwO g0) (selB g0 bits (nI q)) th c → (∀ p, p < k → p ≠ q → fitV (g0 23) (gaV g0 n tk c bits q) p = true) → am (d + 2) 111 279 [some (.ref 22), some (.int (nI q)), some (.int (nI th)), some (.int bits), some (.int x), l5, l6] [] LY g 0 0 none Q := by
  have lt0 : lt255 (gaV g0 n tk c bits q) := gaM_lt (lt255.may c)
  have no : okV g0 n tk c bits q = false → ∀ g', scM g0 g' → Q (some (.int 0)) LY g' := by
    intro z g' s
    have cd : cdV g0 n tk c bits q th = false := by unfold cdV; rw [z]; rfl
    have := h g' s (fun y => by rw [cd] at y; cases y)
    rw [cd] at this
    exact this
  intro m
  induction m with
  | zero =>
    intro k x g l5 l6 hk hx hg e31 e16 e17 hf
    have hk : k = n := by omega
    subst hk; subst hx
    have o23 : g 23 = g0 23 := hg.1 23 (by decide) (by decide) (by decide) (by decide)
    have o24 : g 24 = g0 24 := hg.1 24 (by decide) (by decide) (by decide) (by decide)
    have e31 : eq60 (g 31) (gaV g0 k tk c bits q) := e31
    have hM : lt255 (g 31) := fun i hi b hb h8 => by rw [e31 i hi]; exact lt0 i hi b hb h8
    refine am_run_k 4 (And.intro (fun h6 => ?_) (fun hx => absurd ((show g 22 0 ≤ nI k by rw [hg.2 0 (by decide) (by decide), en]; exact nI_le (Nat.le_refl k) (by omega))) hx))
    refine am_run_k 4 (am_cl ?_)
    refine m_leadBack hq hth (fun g1 f1 lb => ?_)
    have p31 : g1 31 = g 31 := f1 31 (by decide) (by decide)
    have p23 : g1 23 = g0 23 := (f1 23 (by decide) (by decide)).trans o23
    have p24 : g1 24 = g0 24 := (f1 24 (by decide) (by decide)).trans o24
    have p22 : g1 22 = g 22 := f1 22 (by decide) (by decide)
    have cb : ∀ t, t < 10 → tkB g1 (nI t) = cbV g0 tk c bits q th t := cbV_tk (n := k) t.okR htk hth (by rw [p22, hg.2 5 (by decide) (by decide)]; exact et) (by rw [p22]; exact e16) (by rw [p22]; exact e17)
    have val : ∀ m, m ≤ 9 → g1 32 (9 - m) = goF (g0 23) (gaV g0 k tk c bits q) q m ∧ g1 33 (9 - m) = tkV (g0 23) (gaV g0 k tk c bits q) q (cbV g0 tk c bits q th) (am_sh (g0 24 th)) m := by
      intro m hm
      obtain ⟨v1, v2⟩ := LB_val hq (by rw [p31]; exact hM) lb m hm
      have eM : ∀ t, t < 10 → g1 31 (10 * q + t) = gaV g0 k tk c bits q (10 * q + t) := fun t ht => by rw [p31]; exact e31 _ (by omega)
      refine ⟨?_, ?_⟩
      · rw [v1, p23]; exact goF_eq eM m
      · rw [v2, p23, p24]; exact tkV_eq eM cb m
    have s1 := hg.tr (scM.o32 f1)
    have z0 := (val 9 (by omega)).2
    rw [show 9 - 9 = 0 from rfl] at z0
    refine am_run_k 4 (And.intro (vpe (n := 0) rfl (by decide)) ?_)
    rw [show (0 : Int32).toNatClampNeg = 0 from rfl, z0]
    refine am_run_k 1 (And.intro (fun h1 => ?_) (fun h1 => ?_))
    · refine am_run_k 2 (And.intro (Or.inl rfl) ?_)
      have h1 : tkV (g0 23) (gaV g0 k tk c bits q) q (cbV g0 tk c bits q th) (am_sh (g0 24 th)) 9 = 0 := by first | exact h1 | exact rdr h1
      have tw : twV g0 k tk c bits q th = false := by unfold twV; rw [decide_eq_true h1]; rfl
      have cd : cdV g0 k tk c bits q th = false := by unfold cdV; rw [tw, Bool.and_false]
      have := h g1 s1 (fun y => by rw [cd] at y; cases y)
      rw [cd] at this
      exact this
    · refine am_run_k 3 (And.intro (Or.inr rfl) ?_)
      have tw : twV g0 k tk c bits q th = true := by unfold twV; rw [decide_eq_false h1]; rfl
      have fq := tk_fit hq lt0 t.own t.sym h1
      have ok : okV g0 k tk c bits q = true := by
        unfold okV
        rw [decide_eq_false hv, hcl, allB_t.mpr (fun p hp => ?_)]
        · rfl
        · by_cases e : p = q
          · rw [e]; exact fq
          · exact hf p hp e
      have cd : cdV g0 k tk c bits q th = true := by unfold cdV; rw [tw, ok]; rfl
      have := h g1 s1 (fun _ => ⟨val, cb, lb, fun i hi b h8 hb => by rw [p31]; exact hM i hi b hb h8⟩)
      rw [cd] at this
      exact this
  | succ m ih =>
    intro k x g l5 l6 hk hx hg e31 e16 e17 hf
    subst hx
    have eg0 : g 22 0 = nI n := by rw [hg.2 0 (by decide) (by decide)]; exact en
    have eg5 : g 22 5 = nI tk := by rw [hg.2 5 (by decide) (by decide)]; exact et
    have eg4 : g 22 4 = g0 22 4 := hg.2 4 (by decide) (by decide)
    have eg6 : g 22 6 = g0 22 6 := hg.2 6 (by decide) (by decide)
    have o23 : g 23 = g0 23 := hg.1 23 (by decide) (by decide) (by decide) (by decide)
    refine am_run_k 4 (And.intro (fun hx => absurd hx ((show ¬ g 22 0 ≤ nI k by rw [eg0]; exact nI_ge (by omega) (by omega)))) (fun h6 => ?_))
    have ei : (10 : Int32) * nI k + g 22 5 = nI (10 * k + tk) := by rw [eg5]; exact ix10t
    have s336 : ∀ (u : Int32) (l5 l6 : Option Value), u = (bif prS (nI q) (g0 22 6) k then am_sh (g0 22 4) else am_sh (g0 22 4) ^^^ -1) → am (d + 2) 111 336 [some (.ref 22), some (.int (nI q)), some (.int (nI th)), some (.int bits), some (.int (nI k)), l5, l6] [.int u, .int (g 31 (10 * k + tk)), .int ((10 : Int32) * nI k + g 22 5), .ref 31] LY g 0 0 none Q := by
      intro u l5 l6 eu
      refine am_run_k 2 (And.intro (vpe ei (by omega)) ?_)
      rw [cle ei (by omega)]
      have hg1 : scM g0 (am_up g 31 (10 * k + tk) (g 31 (10 * k + tk) &&& u)) := hg.tr (scM.o31 (o31.up (fun _ _ => rfl)))
      have e31' : eq60 (am_up g 31 (10 * k + tk) (g 31 (10 * k + tk) &&& u) 31) (gaM (k + 1) tk (g0 22 4) (nI q) (g0 22 6) (mayF (rwO g0) (selB g0 bits (nI q)) c)) := by
        intro i hi
        rw [gaM_s htk, am_up_at, eu]
        by_cases e : i = 10 * k + tk
        · rw [e, pk_us, pk_us, e31 _ (by omega)]
        · rw [pk_un e, pk_un e, e31 i hi]
      have lt1 : lt255 (am_up g 31 (10 * k + tk) (g 31 (10 * k + tk) &&& u) 31) := fun i hi b hb h8 => by rw [e31' i hi]; exact gaM_lt (lt255.may c) i hi b hb h8
      have a16 : am_up g 31 (10 * k + tk) (g 31 (10 * k + tk) &&& u) 22 16 = sooF (rwO g0) (selB g0 bits (nI q)) th c := by rw [am_up_ne (by decide)]; exact e16
      have a17 : am_up g 31 (10 * k + tk) (g 31 (10 * k + tk) &&& u) 22 17 = ltmF (rwO g0) (selB g0 bits (nI q)) th c := by rw [am_up_ne (by decide)]; exact e17
      refine am_run_k 3 (And.intro (fun h1 => ?_) (fun h1 => ?_))
      · refine am_run_k 2 ?_
        have h1 : nI k = nI q := by first | exact h1 | exact rdr h1
        have hkq : k = q := (nI_eq (by omega) (by omega)).mp h1
        refine ih (k + 1) _ _ _ _ (by omega) (nI_1 k) hg1 e31' a16 a17 (fun p hp hpq => hf p (by omega) hpq)
      · have hkq : k ≠ q := fun e => h1 (by rw [e])
        have p23 : am_up g 31 (10 * k + tk) (g 31 (10 * k + tk) &&& u) 23 = g0 23 := by rw [am_up_ne (by decide)]; exact o23
        refine am_run_k 3 (am_cl ?_)
        refine m_hasWay_x (by omega) (by rw [p23]; exact t.own) lt1 ?_
        have ef : fitV (am_up g 31 (10 * k + tk) (g 31 (10 * k + tk) &&& u) 23) (am_up g 31 (10 * k + tk) (g 31 (10 * k + tk) &&& u) 31) k = fitV (g0 23) (gaV g0 n tk c bits q) k := by
          rw [p23]
          exact fitV_eq (fun t ht => (e31' _ (by omega)).trans (gaM_e htk (by omega) (by omega) ht))
        rw [ef]
        refine am_run_k 1 (And.intro (fun h2 => ?_) (fun h2 => ?_))
        · refine am_run_k 2 ?_
          have hv2 : fitV (g0 23) (gaV g0 n tk c bits q) k = true := by first | exact bi_t h2 | exact bi_f h2
          refine ih (k + 1) _ _ _ _ (by omega) (nI_1 k) hg1 e31' a16 a17 (fun p hp hpq => ?_)
          rcases Nat.lt_succ_iff_lt_or_eq.mp hp with z | z
          · exact hf p z hpq
          · rw [z]; exact hv2
        · refine am_run_k 2 (And.intro (Or.inl rfl) ?_)
          have hv2 : fitV (g0 23) (gaV g0 n tk c bits q) k = false := by first | exact bi_f h2 | exact bi_t h2
          exact no (okV_no (p := k) (by omega) hv2) _ hg1
    refine am_run_k 15 (And.intro (vpe ei (by omega)) ?_)
    rw [cle ei (by omega)]
    refine am_run_k 3 (And.intro (fun h1 => ?_) (fun h1 => ?_))
    · refine am_run_k 2 ?_
      have z : nI k = nI q := by first | exact h1 | exact rdr h1
      exact s336 _ _ _ (by rw [eg4]; unfold prS; rw [decide_eq_true z]; rfl)
    · refine am_run_k 4 (And.intro (fun h2 => ?_) (fun h2 => ?_))
      · refine am_run_k 3 ?_
        rw [eg6] at h2
        exact s336 _ _ _ (by rw [eg4]; unfold prS; rw [decide_eq_false h1, decide_eq_false h2]; rfl)
      · refine am_run_k 2 ?_
        rw [eg6] at h2
        have z : nI k = g0 22 6 := by first | exact h2 | exact rdr h2
        exact s336 _ _ _ (by rw [eg4]; unfold prS; rw [decide_eq_true z, Bool.or_true]; rfl)
theorem m_could_x {q th n tk : Nat} {bits : Int32} {l4 l5 l6 : Option Value} (t : T g B c f) (hqn : q < n) (hth : th < 3) (hn : n ≤ 6) (en : g 22 0 = nI n) (htk : tk < 10) (et : g 22 5 = nI tk) (h : ∀ g', scM g g' → (cdV g n tk c bits q th = true → (∀ m, m ≤ 9 → g' 32 (9 - m) = goF (g 23) (gaV g n tk c bits q) q m ∧ g' 33 (9 - m) = tkV (g 23) (gaV g n tk c bits q) q (cbV g tk c bits q th) (am_sh (g 24 th)) m) ∧ (∀ t, t < 10 → tkB g' (nI t) = cbV g tk c bits q th t) ∧ (∀ t, t < 10 → LB1 g' q th t) ∧ M8 g') → Q (some (.int (am_bi (cdV g n tk c bits q th)))) LY g') : am (d + 2) 111 0 [some (.ref 22), some (.int (nI q)), some (.int (nI th)), some (.int bits), l4, l5, l6] [] LY g 0 0 none Q := by
  have no : okV g n tk c bits q = false → ∀ g', scM g g' → Q (some (.int 0)) LY g' := by
    intro z g' s
    have cd : cdV g n tk c bits q th = false := by unfold cdV; rw [z]; rfl
    have := h g' s (fun y => by rw [cd] at y; cases y)
    rw [cd] at this
    exact this
  refine am_run_k 4 (And.intro (fun h1 => ?_) (fun h1 => ?_))
  · refine am_run_k 2 (am_cl ?_)
    refine m_free_x (fun g1 f1 m1 => ?_)
    refine am_run_k 8 ?_
    have sc1 : scM g (am_up (am_up g1 22 16 0) 22 17 10) := ((scM.o31 f1).tr (scM.up (Or.inl rfl))).tr (scM.up (Or.inr rfl))
    by_cases hcl : bt (clrF (rwO g) (selB g bits (nI q)) c) q = true
    · refine l_111_28_x t (by omega) hth (fun _ g' s => no (by unfold okV; rw [hcl]; simp) g' s) (fun g' l4 l5 l6 l => ?_) c 0 _ _ _ _ (by omega) rfl ⟨sc1, fun i hi => ?_, ?_, ?_, ?_⟩
      · have := l.2.2.2.2
        rw [hcl] at this; cases this
      · rw [am_up_ne (by decide), am_up_ne (by decide), m1 i hi, mayF]
      · rw [am_up_un (by decide), am_up_us, sooF]
      · rw [am_up_us, ltmF]
      · rw [clrF, b_0]
    · have hcl : bt (clrF (rwO g) (selB g bits (nI q)) c) q = false := by
        cases z : bt (clrF (rwO g) (selB g bits (nI q)) c) q with
        | true => exact absurd z hcl
        | false => rfl
      refine l_111_28_x t (by omega) hth (fun z => by rw [hcl] at z; cases z) (fun g' l4 l5 l6 l => ?_) c 0 _ _ _ _ (by omega) rfl ⟨sc1, fun i hi => ?_, ?_, ?_, ?_⟩
      · refine am_run_k 2 ?_
        exact l_111_279_x t (by omega) hqn hth hn en htk et h1 hcl h n 0 _ _ _ _ (by omega) rfl l.1 (by rw [gaM_0]; exact l.2.1) l.2.2.1 l.2.2.2.1 (fun p hp => absurd hp (by omega))
      · rw [am_up_ne (by decide), am_up_ne (by decide), m1 i hi, mayF]
      · rw [am_up_un (by decide), am_up_us, sooF]
      · rw [am_up_us, ltmF]
      · rw [clrF, b_0]
  · refine am_run_k 2 (And.intro (Or.inl rfl) ?_)
    have h1 : nI q = g 22 6 := by first | exact h1 | exact rdr h1
    exact no (by unfold okV; rw [decide_eq_true h1]; rfl) g scM.rf
end MCO
