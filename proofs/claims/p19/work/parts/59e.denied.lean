section DNY
variable {d : Nat} {L : am_L} {g : am_G} {Q : am_Q} {B c f : Nat}
theorem b_ones : ∀ b, b < 32 → bt (-1) b = true := by decide
/-- a find's masks, bit by bit -/
def mkH (M0 M K : Nat → Int32) : Prop := ∀ i b, b < 32 → bt (M i) b = (bt (M0 i) b && bt (K i) b)
theorem mkH.up {M0 M K : Nat → Int32} {j : Nat} {y : Int32} (h : mkH M0 M K) : mkH M0 (upd M j (M j &&& y)) (upd K j (K j &&& y)) := by
  intro i b hb
  by_cases e : i = j
  · rw [e, pk_us, pk_us, b_and, b_and, h j b hb, Bool.and_assoc]
  · rw [pk_un e, pk_un e]; exact h i b hb
theorem mkH.he {M0 M K : Nat → Int32} {r : cRow} (h : mkH M0 M K) : mkH M0 (heMay r M) (heMay r K) := by
  unfold heMay heN heY
  cases decide (r.1 = 1) || decide (r.1 = 6) with
  | true => exact h.up
  | false =>
    cases decide (r.1 = 7) with
    | true => exact h.up.up
    | false =>
      cases decide (r.1 = 0) || decide (r.1 = 5) with
      | true => exact h.up
      | false => exact h
def okb (r : cRow) (i b : Nat) : Bool := bt (heMay r (fun _ => -1) i) b
theorem he_bt {M : Nat → Int32} {r : cRow} {i b : Nat} (hb : b < 32) : bt (heMay r M i) b = (bt (M i) b && okb r i b) :=
  (mkH.he (M0 := M) (M := M) (K := fun _ => -1) (fun i b hb => by rw [b_ones b hb, Bool.and_true])) i b hb
theorem may_bt {R : Nat → cRow} {sel : Nat → Bool} {i b : Nat} (hb : b < 32) : ∀ k, bt (mayF R sel k i) b = (decide (b < 8) && allB (fun j => !sel j || okb (R j) i b) k) := by
  intro k
  induction k with
  | zero => rw [mayF, b_255, allB, Bool.and_true]
  | succ k ih =>
    rw [mayF, allB]
    cases hs : sel k with
    | true => rw [cond_true, he_bt hb, ih, Bool.and_assoc]; rfl
    | false => rw [cond_false, ih]; simp
/-- clues found -/
def selM (g : am_G) (k : Nat) : Bool := decide (g 25 k < 5) && decide (0 < g 27 k)
theorem may_add {R : Nat → cRow} {sel sel' : Nat → Bool} {s c : Nat} (hs : s < c) (h : ∀ j, j < c → sel' j = (sel j || decide (j = s))) : ∀ i, mayF R sel' c i = heMay (R s) (mayF R sel c) i := by
  intro i
  refine b_ext (fun b hb => ?_)
  rw [he_bt hb, may_bt hb, may_bt hb, Bool.and_assoc]
  congr 1
  rw [Bool.eq_iff_iff, Bool.and_eq_true, allB_t, allB_t]
  constructor
  · intro z
    refine ⟨fun j hj => ?_, ?_⟩
    · have := z j hj
      rw [h j hj] at this
      cases hh : sel j with
      | true => rw [hh] at this; simpa using this
      | false => rfl
    · have := z s hs
      rw [h s hs, decide_eq_true rfl] at this
      simpa using this
  · rintro ⟨z1, z2⟩ j hj
    rw [h j hj]
    by_cases e : j = s
    · subst e; rw [z2]; simp
    · rw [decide_eq_false e, Bool.or_false]; exact z1 j hj
theorem l_30_4_x (t : T g B c f) (h : ∀ r, (∀ k, k < 32 → bt r k = (decide (k < c) && selM g k)) → Q (some (.int r)) LY g) : ∀ (n i : Nat) (x a : Int32), i + n = f → x = nI i → (∀ k, k < 32 → (bt a k = true ↔ ∃ j, j < i ∧ g 7 j = nI k ∧ g 25 k < 5)) → am (d + 1) 30 4 [some (.ref 5), some (.int a), some (.int x)] [] LY g 0 0 none Q := by
  obtain ⟨⟨hc, hf, e51, e54⟩, -, -, -, -, tr, ⟨tf, to⟩, -⟩ := id t
  obtain ⟨c', hc', e5, r, f', hf', e5f, ho⟩ := t.2.1.1.1.2.2
  have ec : c' = c := t.cnt hc' e5
  subst ec
  have ef : f' = f := (nI_eq (by omega) (by omega)).mp (e5f.symm.trans e54)
  subst ef
  intro n
  induction n with
  | zero =>
    intro i x a hi hx ha
    have hi : i = f' := by omega
    subst hi; subst hx
    refine am_run_k 4 (And.intro (fun h6 => ?_) (fun hx => absurd ((show g 5 4 ≤ nI i by rw [e54]; exact nI_le (Nat.le_refl i) (by omega))) hx))
    refine am_run_k 2 ?_
    refine h a (fun k hk => ?_)
    rw [Bool.eq_iff_iff, ha k hk, selM, Bool.and_eq_true, Bool.and_eq_true, decide_eq_true_iff, decide_eq_true_iff, decide_eq_true_iff]
    have tfk := tf k hk
    have tok := to k hk
    constructor
    · rintro ⟨j, hj, h1, h2⟩
      have : bt (g 5 2) k = true := tok.mpr ⟨j, hj, h1⟩
      rw [tfk, Bool.and_eq_true, decide_eq_true_iff, decide_eq_true_iff] at this
      exact ⟨this.1, h2, this.2⟩
    · rintro ⟨h1, h2, h3⟩
      have : bt (g 5 2) k = true := by rw [tfk, decide_eq_true h1, decide_eq_true h3]; rfl
      obtain ⟨j, hj, h4⟩ := tok.mp this
      exact ⟨j, hj, h4, h2⟩
  | succ n ih =>
    intro i x a hi hx ha
    subst hx
    refine am_run_k 4 (And.intro (fun hx => absurd hx ((show ¬ g 5 4 ≤ nI i by rw [e54]; exact nI_ge (by omega) (by omega)))) (fun h6 => ?_))
    refine am_run_k 5 (And.intro (vpn (by omega)) ?_)
    obtain ⟨k, hk, ek⟩ := ho.1 i (by omega)
    have e6 := (tr k hk).1
    rw [ncl (by omega), ek]
    refine am_run_k 1 (am_cl ?_)
    refine w_kind (k := k) (by omega) ?_
    rw [e6]
    have step : ∀ a2 : Int32, (∀ k', k' < 32 → (bt a2 k' = true ↔ bt a k' = true ∨ (k' = k ∧ g 25 k < 5))) → ∀ k', k' < 32 → (bt a2 k' = true ↔ ∃ j, j < i + 1 ∧ g 7 j = nI k' ∧ g 25 k' < 5) := by
      intro a2 h2 k' hk'
      rw [h2 k' hk', ha k' hk']
      constructor
      · rintro (⟨j, hj, z⟩ | ⟨z1, z2⟩)
        · exact ⟨j, by omega, z⟩
        · exact ⟨i, by omega, by rw [z1]; exact ek, by rw [z1]; exact z2⟩
      · rintro ⟨j, hj, z1, z2⟩
        rcases Nat.lt_succ_iff_lt_or_eq.mp hj with y | y
        · exact Or.inl ⟨j, y, z1, z2⟩
        · subst y
          rw [ek] at z1
          have : k = k' := (nI_eq (by omega) (by omega)).mp z1
          subst this
          exact Or.inr ⟨rfl, z2⟩
    refine am_run_k 2 (And.intro (fun h7 => ?_) (fun h7 => ?_))
    · refine am_run_k 2 ?_
      have z : ¬ g 25 k < 5 := by first | exact fa_nlt.mpr h7 | exact h7
      exact ih (i + 1) _ _ (by omega) (nI_1 i) (step a (fun k' hk' => ⟨Or.inl, fun y => y.resolve_right (fun w => z w.2)⟩))
    · refine am_run_k 6 (And.intro (vpn (by omega)) ?_)
      rw [ncl (by omega), ek]
      refine am_run_k 5 ?_
      have z : g 25 k < 5 := by first | exact fa_nle.mp h7 | exact rdr h7
      refine ih (i + 1) _ _ (by omega) (nI_1 i) (step _ (fun k' hk' => ?_))
      show bt (a ||| am_sh (nI k)) k' = true ↔ _
      rw [b_or, Bool.or_eq_true, b_sh hk' (by omega), decide_eq_true_iff]
      exact ⟨fun y => y.elim Or.inl (fun w => Or.inr ⟨w, z⟩), fun y => y.elim Or.inl (fun w => Or.inr w.1)⟩
theorem w_foundClues_x (t : T g B c f) (h : ∀ r, (∀ k, k < 32 → bt r k = (decide (k < c) && selM g k)) → Q (some (.int r)) LY g) : am (d + 1) 30 0 [some (.ref 5), none, none] [] LY g 0 0 none Q := by
  refine am_run_k 4 ?_
  refine l_30_4_x t h f 0 0 0 (Nat.zero_add f) rfl (fun k hk => ?_)
  rw [b_0]
  constructor
  · intro z; cases z
  · rintro ⟨j, hj, -⟩; omega
/-- the masks for a saying that may be denied -/
def dyM (g : am_G) (c s : Nat) : Nat → Int32 := heMay (rwO g s) (mayF (rwO g) (selM g) c)
def dyV (g : am_G) (c s : Nat) : Bool := !(fitV (g 23) (dyM g c s) (g 26 (4 * s)).toNatClampNeg) || (decide (g 25 s = 7) && !(fitV (g 23) (dyM g c s) (g 26 (4 * s + 1)).toNatClampNeg))
def aDen (g : am_G) (c : Nat) (a : Int32) : Int32 := bif am_ir a (nI c) then (bif decide (5 ≤ g 25 a.toNatClampNeg) then am_bi (dyV g c a.toNatClampNeg) else -12) else -1
theorem aDen_sc {g' : am_G} {a : Int32} (s : scC g g') : aDen g' c a = aDen g c a := by
  have r : rwO g' = rwO g := by funext k; unfold rwO; rw [s 25 (by omega), s 26 (by omega)]
  have l : selM g' = selM g := by funext k; unfold selM; rw [s 25 (by omega), s 27 (by omega)]
  unfold aDen dyV dyM
  rw [r, l, s 23 (by omega), s 25 (by omega), s 26 (by omega)]
theorem nI_m1 {q : Nat} (hq : q < 6) : ¬ nI q = -1 := by
  intro e
  have h1 : (nI q).toInt = ((-1 : Int32)).toInt := by rw [e]
  rw [nI_toInt (by omega), show ((-1 : Int32)).toInt = -1 from by decide] at h1
  omega
theorem w_deny_x {s : Nat} (t : T g B c f) (hs : s < c) (h5 : 5 ≤ g 25 s) (h : ∀ g', scC g g' → Q (some (.int (am_bi (dyV g c s)))) LY g') : am (d + 3) 42 0 [some (.ref 9), some (.ref 1), some (.int (nI s))] [] LY g 0 0 none Q := by
  obtain ⟨⟨hc, hf, e51, e54⟩, -, -, tj, -, tr, -⟩ := id t
  refine am_run_k 5 (am_cl ?_)
  refine w_foundClues_x t (fun r hr => ?_)
  refine am_run_k 6 (am_cl ?_)
  refine w_listen_x hc e51 t.rows tr (fun g1 l => ?_)
  have s1 := l.1
  have e6 : g1 6 = g 6 := s1 6 (by omega)
  have okr := t.okR
  have eM : eq60 (g1 10) (dyM g c s) := by
    intro i hi
    rw [l.2.1 i hi]
    refine may_add hs (fun j hj => ?_) i
    show selB g (r ||| am_sh (nI s)) (-1) j = _
    unfold selB
    rw [b_or, hr j (by omega), decide_eq_true hj, Bool.true_and, b_sh (by omega) (by omega)]
    have own : (decide (5 ≤ g 25 j) && decide (g 26 (4 * j) = -1)) = false := by
      by_cases e : (5 : Int32) ≤ g 25 j
      · obtain ⟨q, hq, eq⟩ := rowOK_q (okr j hj) e
        rw [show (rwO g j).2.1 = g 26 (4 * j) from rfl] at eq
        rw [eq, decide_eq_false (nI_m1 hq), Bool.and_false]
      · rw [decide_eq_false e]; rfl
    rw [own]; simp
  obtain ⟨a0, a1, a2, -⟩ := tr s hs
  obtain ⟨q, hq, eq⟩ := rowOK_q (okr s hs) h5
  rw [show (rwO g s).2.1 = g 26 (4 * s) from rfl] at eq
  have hJ : stJ g1 (g 23) := tj.stJ.of (s1 4 (by omega))
  have fin := h g1 s1
  unfold dyV at fin
  rw [eq, ncl (by omega)] at fin
  have f1 : fitV (g 23) (g1 10) q = fitV (g 23) (dyM g c s) q := fitV_eq (fun t ht => eM _ (by omega))
  refine am_run_k 7 (am_cl ?_)
  refine w_who (k := s) (by omega) ?_
  refine am_run_k 1 (am_cl ?_)
  rw [e6, a1, eq]
  refine w_fits_x hq hJ ?_
  rw [f1]
  refine am_run_k 1 (And.intro (fun h1 => ?_) (fun h1 => ?_))
  · refine am_run_k 3 (And.intro (Or.inr rfl) ?_)
    rw [bi_f h1] at fin
    exact fin
  · rw [bi_t h1] at fin
    refine am_run_k 4 (am_cl ?_)
    refine w_kind (k := s) (by omega) ?_
    rw [e6, a0]
    refine am_run_k 2 (And.intro (fun h2 => ?_) (fun h2 => ?_))
    · refine am_run_k 2 (And.intro (Or.inl rfl) ?_)
      rw [decide_eq_false h2] at fin
      exact fin
    · have h2 : g 25 s = 7 := by first | exact h2 | exact rdr h2
      obtain ⟨q2, hq2, eq2⟩ := rowOK_q7 (okr s hs) h2
      rw [show (rwO g s).2.2.1 = g 26 (4 * s + 1) from rfl] at eq2
      have f2 : fitV (g 23) (g1 10) q2 = fitV (g 23) (dyM g c s) q2 := fitV_eq (fun t ht => eM _ (by omega))
      rw [eq2, ncl (by omega), decide_eq_true h2] at fin
      refine am_run_k 7 (am_cl ?_)
      refine w_other (k := s) (by omega) ?_
      refine am_run_k 1 (am_cl ?_)
      rw [e6, a2, eq2]
      refine w_fits_x hq2 hJ ?_
      rw [f2]
      refine am_run_k 1 (And.intro (fun h3 => ?_) (fun h3 => ?_))
      · refine am_run_k 2 (And.intro (Or.inl rfl) ?_)
        have z : fitV (g 23) (dyM g c s) q2 = true := by first | exact bi_t h3 | exact bi_f h3
        rw [z] at fin
        exact fin
      · refine am_run_k 3 (And.intro (Or.inr rfl) ?_)
        have z : fitV (g 23) (dyM g c s) q2 = false := by first | exact bi_f h3 | exact bi_t h3
        rw [z] at fin
        exact fin
theorem x_denied {a : Int32} (t : T g B c f) (h : ∀ g', scC g g' → Q (some (.int (aDen g c a))) LY g') : am (d + 4) 60 0 [some (.ref 0), some (.int a)] [] LY g 0 0 none Q := by
  obtain ⟨⟨hc, hf, e51, e54⟩, -, -, tj, -, tr, -⟩ := id t
  refine am_run_k 5 (am_cl ?_)
  refine w_holds ?_
  rw [e51]
  refine am_run_k 1 (And.intro (fun h1 => ?_) (fun h1 => ?_))
  · have hb := bi_t h1
    obtain ⟨s, hs, ea⟩ := am_ir_nI (by omega) hb
    subst ea
    have e1 : aDen g c (nI s) = bif decide (5 ≤ g 25 s) then am_bi (dyV g c s) else -12 := by
      unfold aDen; rw [hb, ncl (by omega)]; rfl
    rw [e1] at h
    refine am_run_k 5 (am_cl ?_)
    refine w_kind (k := s) (by omega) ?_
    rw [(tr s hs).1]
    refine am_run_k 2 (And.intro (fun h2 => ?_) (fun h2 => ?_))
    · refine am_run_k 6 (am_cl ?_)
      have z : 5 ≤ g 25 s := by first | exact h2 | exact fa_nlt.mp h2 | exact rdr h2
      refine w_deny_x t hs z (fun g1 hg1 => ?_)
      have := h g1 hg1
      rw [decide_eq_true z] at this
      refine am_run_k 1 (And.intro (fun h3 => ?_) (fun h3 => ?_))
      · refine am_run_k 2 ?_
        rw [bi_f h3] at this
        exact this
      · refine am_run_k 3 ?_
        rw [bi_t h3] at this
        exact this
    · refine am_run_k 2 ?_
      have z : ¬ 5 ≤ g 25 s := by first | exact fa_nle.mpr h2 | exact h2
      have := h g scC.rf
      rw [decide_eq_false z] at this
      exact this
  · refine am_run_k 2 ?_
    have e1 : aDen g c a = -1 := by unfold aDen; rw [bi_f h1]; rfl
    have := h g scC.rf
    rw [e1] at this
    exact this
theorem in2_ir {v : Int32} {c : Nat} (hc : c ≤ 20) : am_in2 v 0 (nI c - 1) = am_ir v (nI c) := by
  cases c with
  | zero =>
    have e0 : am_in2 v 0 (nI 0 - 1) = false := by
      cases z : am_in2 v 0 (nI 0 - 1) with
      | false => rfl
      | true => obtain ⟨k, hk, -⟩ := in2_idx (c := 0) (by omega) z; omega
    have e1 : am_ir v (nI 0) = false := by
      cases z : am_ir v (nI 0) with
      | false => rfl
      | true => obtain ⟨k, hk, -⟩ := am_ir_nI (k := 0) (by omega) z; omega
    rw [e0, e1]
  | succ c => rw [nI_pred]; exact in_ir (by omega)
theorem y_denied {a : Int32} {g0 : am_G} {l2 : Option Value} (t0 : T g0 B c f) (s0 : scC g0 g) (h : ∀ g2, T g2 B c f → Q (some (.int (aDen g0 c a))) LY g2) : am (d + 2) 116 0 [some (.ref 22), some (.int a), l2] [] LY g 0 0 none Q := by
  have t := t0.scC s0
  rw [← aDen_sc s0] at h
  have hc := t.1.1
  have ec := t.c7
  have okr := t.okR
  refine am_run_k 7 (am_cl ?_)
  refine w_in ?_
  rw [ec, in2_ir hc]
  refine am_run_k 1 (And.intro (fun h1 => ?_) (fun h1 => ?_))
  · have hb : am_ir a (nI c) = true := by first | exact bi_t h1 | exact bi_f h1
    obtain ⟨s, hs, ea⟩ := am_ir_nI (by omega) hb
    subst ea
    have e1 : aDen g c (nI s) = bif decide (5 ≤ g 25 s) then am_bi (dyV g c s) else -12 := by
      unfold aDen; rw [hb, ncl (by omega)]; rfl
    rw [e1] at h
    refine am_run_k 4 (And.intro (vpn (by omega)) ?_)
    rw [ncl (by omega)]
    refine am_run_k 2 (And.intro (fun h2 => ?_) (fun h2 => ?_))
    · have z5 : 5 ≤ g 25 s := by first | exact h2 | exact fa_nlt.mp h2 | exact rdr h2
      rw [decide_eq_true z5, cond_true] at h
      obtain ⟨q, hq, eq⟩ := rowOK_q (okr s hs) z5
      rw [show (rwO g s).2.1 = g 26 (4 * s) from rfl] at eq
      refine am_run_k 2 (am_cl ?_)
      refine m_free_x (fun g1 f1 m1 => ?_)
      have fin : ∀ (g' : am_G), scM g g' → eq60 (g' 31) (mayF (rwO g) (selM g) c) → am (d + 2) 116 73 [some (.ref 22), some (.int (nI s)), some (.int (nI c))] [] LY g' 0 0 none Q := by
        intro g' sm em
        have e25' : g' 25 = g 25 := sm.1 25 (by decide) (by decide) (by decide) (by decide)
        have e26' : g' 26 = g 26 := sm.1 26 (by decide) (by decide) (by decide) (by decide)
        have eO : rwO g' = rwO g := by funext k; unfold rwO; rw [e25', e26']
        refine am_run_k 3 (am_cl ?_)
        refine m_bind_x (by omega) (by rw [eO]; exact okr s hs) (fun g2 f2 m2 => ?_)
        have s2 : scM g g2 := sm.tr (scM.o31 f2)
        have e25 : g2 25 = g 25 := s2.1 25 (by decide) (by decide) (by decide) (by decide)
        have e26 : g2 26 = g 26 := s2.1 26 (by decide) (by decide) (by decide) (by decide)
        have e23 : g2 23 = g 23 := s2.1 23 (by decide) (by decide) (by decide) (by decide)
        have eM : eq60 (g2 31) (dyM g c s) := by rw [m2, eO]; exact em.he
        have ltM : lt255 (g2 31) := fun i hi b hb h8 => by rw [eM i hi]; exact (lt255.may c).he i hi b hb h8
        have own : ∀ a, a < 8 → bt (g2 23 a) a = true := by rw [e23]; exact t.own
        have fq : ∀ q, q < 6 → fitV (g2 23) (g2 31) q = fitV (g 23) (dyM g c s) q := fun q hq => by rw [e23]; exact fitV_eq (fun t ht => eM _ (by omega))
        have hh := h g2 (t.scM s2)
        unfold dyV at hh
        rw [eq, ncl (by omega)] at hh
        have s126 : ∀ (u : Bool) (l2 : Option Value), u = !(!(fitV (g 23) (dyM g c s) q) || (decide (g 25 s = 7) && !(fitV (g 23) (dyM g c s) (g 26 (4 * s + 1)).toNatClampNeg))) → am (d + 2) 116 126 [some (.ref 22), some (.int (nI s)), l2] [.int (am_bi u)] LY g2 0 0 none Q := by
          intro u l2 eu
          refine am_run_k 3 (And.intro (fun h3 => ?_) (fun h3 => ?_))
          · refine am_run_k 2 ?_
            have z : u = false := by first | exact bi_f h3 | exact bi_t h3
            rw [z] at eu
            have z2 : (!(fitV (g 23) (dyM g c s) q) || (decide (g 25 s = 7) && !(fitV (g 23) (dyM g c s) (g 26 (4 * s + 1)).toNatClampNeg))) = true := by
              revert eu; cases (!(fitV (g 23) (dyM g c s) q) || (decide (g 25 s = 7) && !(fitV (g 23) (dyM g c s) (g 26 (4 * s + 1)).toNatClampNeg))) <;> simp
            rw [z2] at hh
            exact hh
          · refine am_run_k 3 ?_
            have z : u = true := by first | exact bi_t h3 | exact bi_f h3
            rw [z] at eu
            have z2 : (!(fitV (g 23) (dyM g c s) q) || (decide (g 25 s = 7) && !(fitV (g 23) (dyM g c s) (g 26 (4 * s + 1)).toNatClampNeg))) = false := by
              revert eu; cases (!(fitV (g 23) (dyM g c s) q) || (decide (g 25 s = 7) && !(fitV (g 23) (dyM g c s) (g 26 (4 * s + 1)).toNatClampNeg))) <;> simp
            rw [z2] at hh
            exact hh
        refine am_run_k 7 (And.intro (vpe (nIm4 s) (by omega)) ?_)
        rw [e26, cle (nIm4 s) (by omega), eq]
        refine am_run_k 1 (am_cl ?_)
        refine m_hasWay_x hq own ltM ?_
        rw [fq q hq]
        refine am_run_k 1 (And.intro (fun h3 => ?_) (fun h3 => ?_))
        · have z : fitV (g 23) (dyM g c s) q = false := by first | exact bi_f h3 | exact bi_t h3
          refine am_run_k 1 ?_
          exact s126 false _ (by rw [z]; rfl)
        · have z : fitV (g 23) (dyM g c s) q = true := by first | exact bi_t h3 | exact bi_f h3
          refine am_run_k 4 (And.intro (vpn (by omega)) ?_)
          rw [e25, ncl (by omega)]
          refine am_run_k 2 (And.intro (fun h4 => ?_) (fun h4 => ?_))
          · refine am_run_k 2 ?_
            exact s126 true _ (by rw [z, decide_eq_false h4]; rfl)
          · have h4 : g 25 s = 7 := by first | exact h4 | exact Classical.not_not.mp h4
            obtain ⟨q2, hq2, eq2⟩ := rowOK_q7 (okr s hs) h4
            rw [show (rwO g s).2.2.1 = g 26 (4 * s + 1) from rfl] at eq2
            refine am_run_k 9 (And.intro (vpe (nI41 s) (by omega)) ?_)
            rw [e26, cle (nI41 s) (by omega), eq2]
            refine am_run_k 1 (am_cl ?_)
            refine m_hasWay_x hq2 own ltM ?_
            rw [fq q2 hq2]
            refine am_run_k 1 (And.intro (fun h5 => ?_) (fun h5 => ?_))
            · have z2 : fitV (g 23) (dyM g c s) q2 = false := by first | exact bi_f h5 | exact bi_t h5
              refine am_run_k 1 ?_
              exact s126 false _ (by rw [z, decide_eq_true h4, eq2, ncl (by omega), z2]; rfl)
            · have z2 : fitV (g 23) (dyM g c s) q2 = true := by first | exact bi_t h5 | exact bi_f h5
              refine am_run_k 2 ?_
              exact s126 true _ (by rw [z, decide_eq_true h4, eq2, ncl (by omega), z2]; rfl)
      have lp : ∀ (m k : Nat) (x : Int32) (g' : am_G), k + m = c → x = nI k → scM g g' → eq60 (g' 31) (mayF (rwO g) (selM g) k) → am (d + 2) 116 35 [some (.ref 22), some (.int (nI s)), some (.int x)] [] LY g' 0 0 none Q := by
        intro m
        induction m with
        | zero =>
          intro k x g' hk hx sm em
          have hk : k = c := by omega
          subst hk; subst hx
          refine am_run_k 4 (And.intro (fun h6 => ?_) (fun hx => absurd ((show g' 22 7 ≤ nI k by rw [sm.2 7 (by decide) (by decide), ec]; exact nI_le (Nat.le_refl k) (by omega))) hx))
          exact fin g' sm em
        | succ m ih =>
          intro k x g' hk hx sm em
          subst hx
          have e25 : g' 25 = g 25 := sm.1 25 (by decide) (by decide) (by decide) (by decide)
          have e26 : g' 26 = g 26 := sm.1 26 (by decide) (by decide) (by decide) (by decide)
          have e27 : g' 27 = g 27 := sm.1 27 (by decide) (by decide) (by decide) (by decide)
          have eO : rwO g' = rwO g := by funext k; unfold rwO; rw [e25, e26]
          refine am_run_k 4 (And.intro (fun hx => absurd hx ((show ¬ g' 22 7 ≤ nI k by rw [sm.2 7 (by decide) (by decide), ec]; exact nI_ge (by omega) (by omega)))) (fun h6 => ?_))
          have nx : ∀ g'', scM g g'' → eq60 (g'' 31) (mayF (rwO g) (selM g) (k + 1)) → am (d + 2) 116 67 [some (.ref 22), some (.int (nI s)), some (.int (nI k))] [] LY g'' 0 0 none Q := by
            intro g'' s' e'
            refine am_run_k 2 ?_
            exact ih (k + 1) _ _ (by omega) (nI_1 k) s' e'
          have skip : selM g k = false → eq60 (g' 31) (mayF (rwO g) (selM g) (k + 1)) := fun z => by rw [mayF, z]; exact em
          refine am_run_k 4 (And.intro (vpn (by omega)) ?_)
          rw [ncl (by omega), e25]
          refine am_run_k 2 (And.intro (fun h3 => ?_) (fun h3 => ?_))
          · have z : ¬ g 25 k < 5 := by first | exact fa_nlt.mpr h3 | exact h3
            exact nx g' sm (skip (by unfold selM; rw [decide_eq_false z]; rfl))
          · have z : g 25 k < 5 := by first | exact fa_nle.mp h3 | exact rdr h3
            refine am_run_k 4 (And.intro (vpn (by omega)) ?_)
            rw [ncl (by omega), e27]
            refine am_run_k 1 (And.intro (fun h4 => ?_) (fun h4 => ?_))
            · have z2 : ¬ 0 < g 27 k := by first | exact fa_nlt.mpr h4 | exact h4
              exact nx g' sm (skip (by unfold selM; rw [decide_eq_false z2, Bool.and_false]))
            · have z2 : 0 < g 27 k := by first | exact fa_nle.mp h4 | exact rdr h4
              have zs : selM g k = true := by unfold selM; rw [decide_eq_true z, decide_eq_true z2]; rfl
              refine am_run_k 3 (am_cl ?_)
              refine m_bind_x (by omega) (by rw [eO]; exact okr k (by omega)) (fun g2 f2 m2 => nx g2 (sm.tr (scM.o31 f2)) ?_)
              rw [m2, eO, mayF, zs]
              exact em.he
      refine am_run_k 2 ?_
      refine lp c 0 _ g1 (by omega) rfl (scM.o31 f1) (fun i hi => ?_)
      rw [m1 i hi, mayF]
    · have z5 : ¬ 5 ≤ g 25 s := by first | exact fa_nle.mpr h2 | exact h2
      refine am_run_k 2 ?_
      have := h g t
      rw [decide_eq_false z5] at this
      exact this
  · have hb : am_ir a (nI c) = false := by first | exact bi_f h1 | exact bi_t h1
    refine am_run_k 2 ?_
    have e1 : aDen g c a = -1 := by unfold aDen; rw [hb]; rfl
    have := h g t
    rw [e1] at this
    exact this
end DNY
