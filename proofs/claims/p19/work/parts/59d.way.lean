section WYY
variable {d : Nat} {L : am_L} {g : am_G} {Q : am_Q} {B c f : Nat}
theorem thV_bt {n tk : Nat} {set : Int32} {q w : Nat} (hw : w < 3) : bt (thV g n tk c set q) w = cdV g n tk c set q w := by
  rw [thV_cd, orF_bt (by omega) 3 (by omega), decide_eq_true hw, Bool.true_and]
def aWay (g : am_G) (c : Nat) (a b e : Int32) : Int32 := bif am_ir a (g 22 0) && (am_ir b 3 && am_ir e 10) then (bif cdV g (nV g) (kV g) c (g 5 2) a.toNatClampNeg b.toNatClampNeg then wyP (g 23) (gaV g (nV g) (kV g) c (g 5 2) a.toNatClampNeg) a.toNatClampNeg (cbV g (kV g) c (g 5 2) a.toNatClampNeg b.toNatClampNeg) (g 24 b.toNatClampNeg) e.toNatClampNeg else -4) else -1
theorem cdV_sc {g' : am_G} {n tk : Nat} {set : Int32} {q w : Nat} (s : scC g g') : cdV g' n tk c set q w = cdV g n tk c set q w := by
  have e4 : g' 22 4 = g 22 4 := by rw [s 22 (by omega)]
  have e6 : g' 22 6 = g 22 6 := by rw [s 22 (by omega)]
  unfold cdV
  rw [okV_of e4 e6 (s 23 (by omega)) (s 25 (by omega)) (s 26 (by omega)), twV_of e4 e6 (s 23 (by omega)) (s 24 (by omega)) (s 25 (by omega)) (s 26 (by omega))]
theorem aWay_sc {g' : am_G} {a b e : Int32} (s : scC g g') : aWay g' c a b e = aWay g c a b e := by
  have r : rwO g' = rwO g := by funext k; unfold rwO; rw [s 25 (by omega), s 26 (by omega)]
  have l : selB g' = selB g := by funext a b k; unfold selB; rw [s 25 (by omega), s 26 (by omega)]
  unfold aWay
  rw [cdV_sc s]
  unfold gaV cbV nV kV
  rw [r, l, s 22 (by omega), s 5 (by omega), s 23 (by omega), s 24 (by omega)]
theorem aWay_1 {a b e : Int32} (h : (am_ir a (g 22 0) && (am_ir b 3 && am_ir e 10)) = false) : aWay g c a b e = -1 := by unfold aWay; rw [h]; rfl
theorem aWay_4 {q w t : Nat} (hq : q < 8) (hw : w < 3) (ht : t < 10) (h : (am_ir (nI q) (g 22 0) && (am_ir (nI w) 3 && am_ir (nI t) 10)) = true) (h2 : cdV g (nV g) (kV g) c (g 5 2) q w = false) : aWay g c (nI q) (nI w) (nI t) = -4 := by
  unfold aWay
  rw [h, cond_true, ncl (by omega), ncl (by omega), h2]; rfl
theorem aWay_w {q w t : Nat} (hq : q < 8) (hw : w < 3) (ht : t < 10) (h : (am_ir (nI q) (g 22 0) && (am_ir (nI w) 3 && am_ir (nI t) 10)) = true) (h2 : cdV g (nV g) (kV g) c (g 5 2) q w = true) : aWay g c (nI q) (nI w) (nI t) = wyP (g 23) (gaV g (nV g) (kV g) c (g 5 2) q) q (cbV g (kV g) c (g 5 2) q w) (g 24 w) t := by
  unfold aWay
  rw [h, cond_true, ncl (by omega), ncl (by omega), ncl (by omega), h2, cond_true]
theorem x_way {a b e : Int32} (t : T g B c f) (h : ∀ g', scC g g' → Q (some (.int (aWay g c a b e))) LY g') : am (d + 4) 63 0 [some (.ref 0), some (.int a), some (.int b), some (.int e)] [] LY g 0 0 none Q := by
  obtain ⟨⟨n1, n2, n3, n4⟩, k1, k2, k3⟩ := t.nk
  have tj := t.2.2.2.1
  have tl := t.2.2.2.2.1
  have bad : (am_ir a (g 22 0) && (am_ir b 3 && am_ir e 10)) = false → Q (some (.int (-1))) LY g := by
    intro z
    have := h g scC.rf
    rw [aWay_1 z] at this
    exact this
  refine am_run_k 4 (am_cl ?_)
  refine w_isPerson ?_
  rw [n3, ← n4]
  refine am_run_k 1 (And.intro (fun h1 => ?_) (fun h1 => ?_))
  · refine am_run_k 2 ?_
    exact bad (by rw [bi_f h1]; rfl)
  · have hb := bi_t h1
    rw [n4] at hb
    obtain ⟨q, hq, ea⟩ := am_ir_nI (by omega) hb
    subst ea
    refine am_run_k 2 (am_cl ?_)
    refine w_isThing ?_
    refine am_run_k 1 (And.intro (fun h2 => ?_) (fun h2 => ?_))
    · refine am_run_k 2 ?_
      exact bad (by rw [bi_f h2]; simp)
    · obtain ⟨w, hw, eb⟩ := am_ir_nI (k := 3) (by decide) (bi_t h2)
      subst eb
      refine am_run_k 2 (am_cl ?_)
      refine w_isTick ?_
      refine am_run_k 1 (And.intro (fun h3 => ?_) (fun h3 => ?_))
      · obtain ⟨tk2, htk2, ec⟩ := am_ir_nI (k := 10) (by decide) (bi_t h3)
        subst ec
        have all : (am_ir (nI q) (g 22 0) && (am_ir (nI w) 3 && am_ir (nI tk2) 10)) = true := by rw [bi_t h1, bi_t h2, bi_t h3]; rfl
        refine am_run_k 10 (am_cl ?_)
        refine w_thingsOf_x (n := nV g) (tk := kV g) t n2 n3 k1 k2 (by omega) (fun g1 hg1 wl => ?_)
        refine am_run_k 2 (am_cl ?_)
        refine w_has ?_
        rw [hs_bt (by omega), thV_bt hw]
        refine am_run_k 1 (And.intro (fun h4 => ?_) (fun h4 => ?_))
        · have hc : cdV g (nV g) (kV g) c (g 5 2) q w = true := bi_t h4
          have ok : okV g (nV g) (kV g) c (g 5 2) q = true := by
            unfold cdV at hc
            rw [Bool.and_eq_true] at hc
            exact hc.1
          have wl := wl ok
          refine am_run_k 8 (am_cl ?_)
          refine w_placeAt_x (J := g 23) (M := gaV g (nV g) (kV g) c (g 5 2) q) (cb := cbV g (kV g) c (g 5 2) q w) (lie := g 24 w) (by omega) hw htk2 (tj.stJ.of (hg1 4 (by omega))) (by rw [hg1 8 (by omega)]; exact tl w hw) (fun t => wl.cb hw t) (fun t ht => wl.1 _ (by omega)) (fun g2 hg2 => ?_)
          refine am_run_k 1 ?_
          have := h g2 (hg1.tr hg2)
          rw [aWay_w (by omega) hw htk2 all hc] at this
          exact this
        · have hc : cdV g (nV g) (kV g) c (g 5 2) q w = false := bi_f h4
          refine am_run_k 2 ?_
          have := h g1 hg1
          rw [aWay_4 (by omega) hw htk2 all hc] at this
          exact this
      · refine am_run_k 2 ?_
        exact bad (by rw [bi_f h3]; simp)
theorem arV_sh {J : Nat → Int32} {p : Nat} (hp : p < 8) : arV J (am_sh (nI p)) = J p := b_eq (fun q hq => by
  rw [arV_bt]
  constructor
  · rintro ⟨p', hp', h1, h2⟩
    rw [b_sh (by omega) (by omega), decide_eq_true_iff] at h1
    rw [h1] at h2; exact h2
  · intro h
    exact ⟨p, hp, by rw [b_sh (by omega) (by omega)]; simp, h⟩)
theorem y_way {a b e : Int32} {g0 : am_G} {l4 l5 l6 l7 : Option Value} (t0 : T g0 B c f) (s0 : scC g0 g) (h : ∀ g2, T g2 B c f → Q (some (.int (aWay g0 c a b e))) LY g2) : am (d + 3) 120 0 [some (.ref 22), some (.int a), some (.int b), some (.int e), l4, l5, l6, l7] [] LY g 0 0 none Q := by
  have tt := t0.scC s0
  rw [← aWay_sc s0] at h
  obtain ⟨⟨n1, n2, n3, n4⟩, k1, k2, k3⟩ := tt.nk
  have bad : (am_ir a (g 22 0) && (am_ir b 3 && am_ir e 10)) = false → Q (some (.int (-1))) LY g := by
    intro z
    have := h g tt
    rw [aWay_1 z] at this
    exact this
  refine am_run_k 3 (am_cl ?_)
  refine m_isOne ⟨by omega, n2⟩ n4 ?_
  rw [← n4]
  refine am_run_k 1 (And.intro (fun h1 => ?_) (fun h1 => ?_))
  · refine am_run_k 2 ?_
    exact bad (by rw [bi_f h1]; rfl)
  · have hb := bi_t h1
    rw [n4] at hb
    obtain ⟨q, hq, ea⟩ := am_ir_nI (by omega) hb
    subst ea
    refine am_run_k 4 (am_cl ?_)
    refine w_in ?_
    refine am_run_k 1 (And.intro (fun h2 => ?_) (fun h2 => ?_))
    · refine am_run_k 2 ?_
      have z : am_ir b (nI (2 + 1)) = false := by rw [← in_ir (k := 2) (by decide)]; exact bi_f h2
      exact bad (by rw [show am_ir b 3 = false from z]; simp)
    · obtain ⟨th, -, hth, eb⟩ := in2_rng (a := 0) (b := 2) (by decide) (by decide) (bi_t h2)
      subst eb
      have hir : am_ir (nI th) 3 = true := am_ir_in (k := 3) (by omega) (by decide)
      refine am_run_k 2 (am_cl ?_)
      refine m_isTick ?_
      refine am_run_k 1 (And.intro (fun h3 => ?_) (fun h3 => ?_))
      · obtain ⟨T, hT, ec⟩ := am_ir_nI (k := 10) (by decide) (bi_t h3)
        subst ec
        have all : (am_ir (nI q) (g 22 0) && (am_ir (nI th) 3 && am_ir (nI T) 10)) = true := by rw [bi_t h1, hir, bi_t h3]; rfl
        refine am_run_k 5 (am_cl ?_)
        refine m_foundBits_x tt ?_
        refine am_run_k 1 (am_cl ?_)
        refine m_could_x tt hq (by omega) n2 n4 k1 k3 (fun g1 s1 hrest => ?_)
        refine am_run_k 1 (And.intro (fun h4 => ?_) (fun h4 => ?_))
        · have hc : cdV g (nV g) (kV g) c (g 5 2) q th = true := by first | exact bi_t h4 | exact bi_f h4
          obtain ⟨val, cb, lb, m8⟩ := hrest hc
          have t1 := tt.scM s1
          have I1 := t1.2.1.2
          have o23 : g1 23 = g 23 := s1.1 23 (by decide) (by decide) (by decide) (by decide)
          have o24 : g1 24 = g 24 := s1.1 24 (by decide) (by decide) (by decide) (by decide)
          obtain ⟨z, hz, ez⟩ := I1.2.2.1 th (by omega)
          have ez0 : g 24 th = nI z := by rw [← o24]; exact ez
          have fin := h g1 t1
          rw [aWay_w (by omega) (by omega) hT all hc] at fin
          obtain ⟨M, eM⟩ : ∃ M, M = gaV g (nV g) (kV g) c (g 5 2) q := ⟨_, rfl⟩
          obtain ⟨cb0, ecb⟩ : ∃ cb0, cb0 = cbV g (kV g) c (g 5 2) q th := ⟨_, rfl⟩
          rw [← eM, ← ecb] at fin val
          rw [← ecb] at cb
          have hne : ¬ g1 33 0 = 0 := by
            have v := (val 9 (by omega)).2
            rw [show 9 - 9 = 0 from rfl] at v
            rw [v]
            intro y
            unfold cdV twV at hc
            rw [← eM, ← ecb, y] at hc
            simp at hc
          have lp : ∀ (m t : Nat) (x set pl : Int32) (dn : Bool), t + m = T + 1 → x = nI t → (t ≤ T → ∃ b, b < 32 ∧ bt set b = true ∧ bt (wsA g1 dn t) b = true) → (t ≤ T → set &&& wsA g1 dn t = (wyS (g 23) M q cb0 (g 24 th) t).1 ∧ dn = (wyS (g 23) M q cb0 (g 24 th) t).2) → (t = T + 1 → pl = wyP (g 23) M q cb0 (g 24 th) T) → am (d + 3) 120 56 [some (.ref 22), some (.int (nI q)), some (.int (nI th)), some (.int (nI T)), some (.int (am_bi dn)), some (.int set), some (.int pl), some (.int x)] [] LY g1 0 0 none Q := by
            intro m
            induction m with
            | zero =>
              intro t x set pl dn ht hx hv he hp
              have ht : t = T + 1 := by omega
              subst hx
              refine am_run_k 3 (And.intro (fun h6 => ?_) (fun hx => absurd ((show nI T < nI t from nI_lt' (by omega))) hx))
              refine am_run_k 2 ?_
              rw [hp ht]
              exact fin
            | succ m ih =>
              intro t x set pl dn ht hx hv he hp
              subst hx
              refine am_run_k 3 (And.intro (fun hx => absurd hx ((show ¬ nI T < nI t by rw [fa_nlt]; exact nI_le (by omega) (by omega)))) (fun h6 => ?_))
              obtain ⟨b, hb, hv1, hv2⟩ := hv (by omega)
              obtain ⟨he1, he2⟩ := he (by omega)
              have s122 : ∀ (p : Nat) (dn' : Bool), p < 8 → bt (wsA g1 dn t) p = true → nI p = wyP (g 23) M q cb0 (g 24 th) t → dn' = (dn || (tkB g1 (nI t) && decide (z = p))) → am (d + 3) 120 122 [some (.ref 22), some (.int (nI q)), some (.int (nI th)), some (.int (nI T)), some (.int (am_bi dn)), some (.int set), some (.int (nI p)), some (.int (nI t))] [.int (am_bi dn')] LY g1 0 0 none Q := by
                intro p dn' hp8 hw hwp hd
                refine am_run_k 5 (And.intro (vpn hp8) ?_)
                rw [ncl (by omega)]
                refine am_run_k 3 ?_
                have hd2 : dn' = ((wyS (g 23) M q cb0 (g 24 th) t).2 || (cb0 t && decide (wyP (g 23) M q cb0 (g 24 th) t = g 24 th))) := by
                  rw [hd, he2, cb t (by omega), ← hwp, ez0]
                  have : decide (z = p) = decide (nI p = nI z) := decide_eq_decide.mpr ⟨fun y => by rw [y], fun y => ((nI_eq (by omega) (by omega)).mp y).symm⟩
                  rw [this]
                refine ih (t + 1) _ _ _ dn' (by omega) (nI_1 t) (fun hle => ws_next lb I1.2.1 ez hz (by omega) hp8 hw hd) (fun hle => ?_) (fun z => ?_)
                · have es : wyS (g 23) M q cb0 (g 24 th) (t + 1) = (arV (g 23) (am_sh (wyP (g 23) M q cb0 (g 24 th) t)) &&& (bif dn' then goF (g 23) M q (8 - t) else tkV (g 23) M q cb0 (am_sh (g 24 th)) (8 - t)), dn') := by
                    rw [hd2, wyS]; rfl
                  rw [es]
                  refine ⟨?_, rfl⟩
                  obtain ⟨v1, v2⟩ := val (8 - t) (by omega)
                  rw [show 9 - (8 - t) = t + 1 by omega] at v1 v2
                  rw [← hwp, arV_sh hp8, o23]
                  unfold wsA
                  rw [v1, v2]
                · have : t = T := by omega
                  rw [← this]; exact hwp
              have s86 : am (d + 3) 120 86 [some (.ref 22), some (.int (nI q)), some (.int (nI th)), some (.int (nI T)), some (.int (am_bi dn)), some (.int set), some (.int pl), some (.int (nI t))] [.int (wsA g1 dn t), .int set] LY g1 0 0 none Q := by
                refine am_run_k 2 (am_cl ?_)
                refine m_first_x ⟨b, hb, by rw [b_and, hv1, hv2]; rfl⟩ (fun p hp hbp hlp => ?_)
                have hbp0 := hbp
                rw [b_and, Bool.and_eq_true] at hbp
                have hmay := ws_may lb (show t < 10 by omega) hp hbp.2
                have hp8 : p < 8 := by
                  rcases Nat.lt_or_ge p 8 with e | e
                  · exact e
                  · have := m8 (10 * q + t) (by omega) p e hp
                    rw [this] at hmay
                    exact absurd hmay (by decide)
                have hwp : nI p = wyP (g 23) M q cb0 (g 24 th) t := by
                  rw [wyP, ← he1]
                  exact (fsF_eq hbp0 hlp 8 0 rfl (Nat.zero_le _) hp8).symm
                refine am_run_k 3 (And.intro (fun h5 => ?_) (fun h5 => ?_))
                · refine am_run_k 2 ?_
                  exact s122 p true hp8 hbp.2 hwp (by rw [bi_t h5]; rfl)
                · have hdn : dn = false := by
                    cases dn with
                    | false => rfl
                    | true => first | exact absurd h5 (by decide) | exact absurd (Classical.not_not.mp h5) (by decide)
                  refine am_run_k 3 (am_cl ?_)
                  refine m_isTaken ?_
                  refine am_run_k 1 (And.intro (fun h7 => ?_) (fun h7 => ?_))
                  · refine am_run_k 1 ?_
                    exact s122 p false hp8 hbp.2 hwp (by rw [hdn, bi_f h7]; rfl)
                  · refine am_run_k 4 (And.intro (vpn (by omega)) ?_)
                    rw [ncl (by omega), ez]
                    refine am_run_k 2 (And.intro (fun h8 => ?_) (fun h8 => ?_))
                    · refine am_run_k 1 ?_
                      have hzp : ¬ z = p := fun e => h8 (by rw [e])
                      exact s122 p false hp8 hbp.2 hwp (by rw [hdn, decide_eq_false hzp, Bool.and_false]; rfl)
                    · refine am_run_k 2 ?_
                      have h8 : nI z = nI p := by first | exact h8 | exact Classical.not_not.mp h8
                      have hzp : z = p := (nI_eq (by omega) (by omega)).mp h8
                      exact s122 p true hp8 hbp.2 hwp (by rw [hdn, bi_t h7, decide_eq_true hzp]; rfl)
              refine am_run_k 3 (And.intro (fun h5 => ?_) (fun h5 => ?_))
              · have hdn : dn = false := bi_f h5
                refine am_run_k 4 (And.intro (vpn (by omega)) ?_)
                rw [ncl (by omega)]
                have hs := s86
                subst hdn
                exact hs
              · have hdn : dn = true := bi_t h5
                refine am_run_k 4 (And.intro (vpn (by omega)) ?_)
                rw [ncl (by omega)]
                refine am_run_k 1 ?_
                have hs := s86
                subst hdn
                exact hs
          refine am_run_k 8 ?_
          obtain ⟨b, hb, eb⟩ := bt_ne0 hne
          have hw0 : wsA g1 false 0 = g1 33 0 := rfl
          refine lp (T + 1) 0 _ _ _ false (by omega) rfl (fun _ => ⟨b, hb, ?_, eb⟩) (fun _ => ?_) (fun y => absurd y (by omega))
          · have hmay := ws_may (dn := false) lb (show 0 < 10 by omega) hb eb
            rw [b_255, decide_eq_true_iff]
            rcases Nat.lt_or_ge b 8 with e | e
            · exact e
            · have := m8 (10 * q + 0) (by omega) b e hb
              rw [this] at hmay
              exact absurd hmay (by decide)
          · have v := (val 9 (by omega)).2
            rw [show 9 - 9 = 0 from rfl] at v
            rw [wyS, hw0]
            refine ⟨?_, rfl⟩
            rw [← v]
            refine b_ext (fun i hi => ?_)
            rw [b_and, b_255]
            rcases Nat.lt_or_ge i 8 with e | e
            · rw [decide_eq_true e, Bool.true_and]
            · cases hbt : bt (g1 33 0) i with
              | false => rw [Bool.and_false]
              | true =>
                have hmay := ws_may (dn := false) lb (show 0 < 10 by omega) hi hbt
                have := m8 (10 * q + 0) (by omega) i e hi
                rw [this] at hmay
                exact absurd hmay (by decide)
        · have hc : cdV g (nV g) (kV g) c (g 5 2) q th = false := by first | exact bi_f h4 | exact bi_t h4
          refine am_run_k 2 ?_
          have := h g1 (tt.scM s1)
          rw [aWay_4 (by omega) (by omega) hT all hc] at this
          exact this
      · refine am_run_k 2 ?_
        exact bad (by rw [bi_f h3]; simp)
end WYY
