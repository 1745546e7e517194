section CTQ
variable {d : Nat} {g : am_G} {bc bs : Nat} {Q : am_Q}
/-- what the model's calls find, all of it -/
def MD9 (g : am_G) : Prop := g 22 0 = 4 ∧ g 22 1 = 0 ∧ g 22 4 = 0 ∧ g 22 5 = 5 ∧ g 22 6 = -1 ∧ g 22 7 = 0 ∧ g 22 11 = 0 ∧ (∀ p, p < 8 → g 23 p = am_sh (nI p)) ∧ ∀ w, w < 3 → g 24 w = nI w
/-- what the model's calls find -/
def MD0 (g : am_G) : Prop := IM g ∧ g 28 0 = -1 ∧ g 28 1 = -1 ∧ g 29 0 = 0 ∧ g 29 1 = 0
theorem MD0_of (h0 : g 22 0 = 4) (h5 : g 22 5 = 5) (h7 : g 22 7 = 0) (hj : ∀ p, p < 8 → g 23 p = am_sh (nI p)) (ht : ∀ w, w < 3 → g 24 w = nI w) (l0 : g 28 0 = -1) (l1 : g 28 1 = -1) (s0 : g 29 0 = 0) (s1 : g 29 1 = 0) : MD0 g := by
  refine ⟨⟨⟨⟨4, by decide, by decide, h0⟩, ⟨5, by decide, h5⟩, 0, by decide, h7, fun k hk => absurd hk (by omega)⟩, fun p q hp hq e => ?_, fun w hw => ⟨w, by omega, ht w hw⟩, fun j hj => ⟨0, by decide, ?_⟩⟩, l0, l1, s0, s1⟩
  · rw [hj p hp, b_sh (by omega) (by omega), decide_eq_true_iff] at e
    rw [hj q hq, b_sh (by omega) (by omega), decide_eq_true_iff]
    exact e.symm
  · rcases (show j = 0 ∨ j = 1 by omega) with q | q
    · rw [q]; exact s0
    · rw [q]; exact s1
theorem sh8 : am_sh (nI 0) = 1 ∧ am_sh (nI 1) = 2 ∧ am_sh (nI 2) = 4 ∧ am_sh (nI 3) = 8 ∧ am_sh (nI 4) = 16 ∧ am_sh (nI 5) = 32 ∧ am_sh (nI 6) = 64 ∧ am_sh (nI 7) = 128 := by decide
theorem am_mk_i {X : am_X} {mi nx : Nat} {e : am_D} {lv : am_V} {st : List Value} {L : am_L} {sx : am_S} (hc : (Nat.ble 1 bc && Nat.ble e.2.1 bs && am_fresh L.length lv st && am_lok L.length L && Nat.blt L.length am_scr) = true) (h : X d mi nx lv (.ref L.length :: st) (L ++ [e]) (am_upc g L.length (fun _ => 0)) (bc - 1) (bs - e.2.1) sx Q) : am_mk X d mi nx e lv st L g bc bs sx Q := by
  unfold am_mk; rw [hc]; exact h
theorem am_gen {mi pc : Nat} {lv : am_V} {st : List Value} {L : am_L} {sx : am_S} (P : am_G → Prop) (hp : P g) (h : ∀ g', P g' → am d mi pc lv st L g' bc bs sx Q) : am d mi pc lv st L g bc bs sx Q := h g hp
def LB23 : am_L := [(8, 4, fun j => if j = 3 then 17 + 1 else (fun j => if j = 2 then 15 + 1 else (fun j => if j = 1 then 9 + 1 else (fun j => if j = 0 then 1 + 1 else (fun _ => 0) j) j) j) j), (5, 7, fun j => if j = 2 then 8 + 1 else (fun j => if j = 1 then 5 + 1 else (fun j => if j = 0 then 2 + 1 else (fun _ => 0) j) j) j), (2, 3, fun j => if j = 1 then 4 + 1 else (fun j => if j = 0 then 3 + 1 else (fun _ => 0) j) j), (0, 8, fun _ => 0), (0, 256, fun _ => 0), (4, 5, fun j => if j = 3 then 7 + 1 else (fun j => if j = 0 then 6 + 1 else (fun _ => 0) j) j), (0, 100, fun _ => 0), (0, 20, fun _ => 0), (0, 3, fun _ => 0), (7, 6, fun j => if j = 4 then 14 + 1 else (fun j => if j = 3 then 13 + 1 else (fun j => if j = 2 then 12 + 1 else (fun j => if j = 1 then 11 + 1 else (fun j => if j = 0 then 10 + 1 else (fun _ => 0) j) j) j) j) j), (0, 60, fun _ => 0), (0, 10, fun _ => 0), (0, 10, fun _ => 0), (0, 3, fun _ => 0), (0, 3, fun _ => 0), (3, 2, fun j => if j = 0 then 16 + 1 else (fun _ => 0) j), (0, 40, fun _ => 0), (1, 2, fun j => if j = 1 then 20 + 1 else (fun j => if j = 0 then 18 + 1 else (fun _ => 0) j) j), (6, 3, fun j => if j = 0 then 19 + 1 else (fun _ => 0) j), (0, 60, fun _ => 0), (6, 3, fun j => if j = 0 then 21 + 1 else (fun _ => 0) j), (0, 60, fun _ => 0), (9, 22, fun _ => 0), (0, 8, fun _ => 0)]
def LB26 : am_L := [(8, 4, fun j => if j = 3 then 17 + 1 else (fun j => if j = 2 then 15 + 1 else (fun j => if j = 1 then 9 + 1 else (fun j => if j = 0 then 1 + 1 else (fun _ => 0) j) j) j) j), (5, 7, fun j => if j = 2 then 8 + 1 else (fun j => if j = 1 then 5 + 1 else (fun j => if j = 0 then 2 + 1 else (fun _ => 0) j) j) j), (2, 3, fun j => if j = 1 then 4 + 1 else (fun j => if j = 0 then 3 + 1 else (fun _ => 0) j) j), (0, 8, fun _ => 0), (0, 256, fun _ => 0), (4, 5, fun j => if j = 3 then 7 + 1 else (fun j => if j = 0 then 6 + 1 else (fun _ => 0) j) j), (0, 100, fun _ => 0), (0, 20, fun _ => 0), (0, 3, fun _ => 0), (7, 6, fun j => if j = 4 then 14 + 1 else (fun j => if j = 3 then 13 + 1 else (fun j => if j = 2 then 12 + 1 else (fun j => if j = 1 then 11 + 1 else (fun j => if j = 0 then 10 + 1 else (fun _ => 0) j) j) j) j) j), (0, 60, fun _ => 0), (0, 10, fun _ => 0), (0, 10, fun _ => 0), (0, 3, fun _ => 0), (0, 3, fun _ => 0), (3, 2, fun j => if j = 0 then 16 + 1 else (fun _ => 0) j), (0, 40, fun _ => 0), (1, 2, fun j => if j = 1 then 20 + 1 else (fun j => if j = 0 then 18 + 1 else (fun _ => 0) j) j), (6, 3, fun j => if j = 0 then 19 + 1 else (fun _ => 0) j), (0, 60, fun _ => 0), (6, 3, fun j => if j = 0 then 21 + 1 else (fun _ => 0) j), (0, 60, fun _ => 0), (9, 22, fun j => if j = 8 then 25 + 1 else (fun j => if j = 3 then 24 + 1 else (fun j => if j = 2 then 23 + 1 else (fun _ => 0) j) j) j), (0, 8, fun _ => 0), (0, 3, fun _ => 0), (0, 20, fun _ => 0), (0, 80, fun _ => 0)]
def LB29 : am_L := [(8, 4, fun j => if j = 3 then 17 + 1 else (fun j => if j = 2 then 15 + 1 else (fun j => if j = 1 then 9 + 1 else (fun j => if j = 0 then 1 + 1 else (fun _ => 0) j) j) j) j), (5, 7, fun j => if j = 2 then 8 + 1 else (fun j => if j = 1 then 5 + 1 else (fun j => if j = 0 then 2 + 1 else (fun _ => 0) j) j) j), (2, 3, fun j => if j = 1 then 4 + 1 else (fun j => if j = 0 then 3 + 1 else (fun _ => 0) j) j), (0, 8, fun _ => 0), (0, 256, fun _ => 0), (4, 5, fun j => if j = 3 then 7 + 1 else (fun j => if j = 0 then 6 + 1 else (fun _ => 0) j) j), (0, 100, fun _ => 0), (0, 20, fun _ => 0), (0, 3, fun _ => 0), (7, 6, fun j => if j = 4 then 14 + 1 else (fun j => if j = 3 then 13 + 1 else (fun j => if j = 2 then 12 + 1 else (fun j => if j = 1 then 11 + 1 else (fun j => if j = 0 then 10 + 1 else (fun _ => 0) j) j) j) j) j), (0, 60, fun _ => 0), (0, 10, fun _ => 0), (0, 10, fun _ => 0), (0, 3, fun _ => 0), (0, 3, fun _ => 0), (3, 2, fun j => if j = 0 then 16 + 1 else (fun _ => 0) j), (0, 40, fun _ => 0), (1, 2, fun j => if j = 1 then 20 + 1 else (fun j => if j = 0 then 18 + 1 else (fun _ => 0) j) j), (6, 3, fun j => if j = 0 then 19 + 1 else (fun _ => 0) j), (0, 60, fun _ => 0), (6, 3, fun j => if j = 0 then 21 + 1 else (fun _ => 0) j), (0, 60, fun _ => 0), (9, 22, fun j => if j = 12 then 28 + 1 else (fun j => if j = 10 then 27 + 1 else (fun j => if j = 9 then 26 + 1 else (fun j => if j = 8 then 25 + 1 else (fun j => if j = 3 then 24 + 1 else (fun j => if j = 2 then 23 + 1 else (fun _ => 0) j) j) j) j) j) j), (0, 8, fun _ => 0), (0, 3, fun _ => 0), (0, 20, fun _ => 0), (0, 80, fun _ => 0), (0, 20, fun _ => 0), (0, 2, fun _ => 0), (0, 2, fun _ => 0)]
def LB32 : am_L := [(8, 4, fun j => if j = 3 then 17 + 1 else (fun j => if j = 2 then 15 + 1 else (fun j => if j = 1 then 9 + 1 else (fun j => if j = 0 then 1 + 1 else (fun _ => 0) j) j) j) j), (5, 7, fun j => if j = 2 then 8 + 1 else (fun j => if j = 1 then 5 + 1 else (fun j => if j = 0 then 2 + 1 else (fun _ => 0) j) j) j), (2, 3, fun j => if j = 1 then 4 + 1 else (fun j => if j = 0 then 3 + 1 else (fun _ => 0) j) j), (0, 8, fun _ => 0), (0, 256, fun _ => 0), (4, 5, fun j => if j = 3 then 7 + 1 else (fun j => if j = 0 then 6 + 1 else (fun _ => 0) j) j), (0, 100, fun _ => 0), (0, 20, fun _ => 0), (0, 3, fun _ => 0), (7, 6, fun j => if j = 4 then 14 + 1 else (fun j => if j = 3 then 13 + 1 else (fun j => if j = 2 then 12 + 1 else (fun j => if j = 1 then 11 + 1 else (fun j => if j = 0 then 10 + 1 else (fun _ => 0) j) j) j) j) j), (0, 60, fun _ => 0), (0, 10, fun _ => 0), (0, 10, fun _ => 0), (0, 3, fun _ => 0), (0, 3, fun _ => 0), (3, 2, fun j => if j = 0 then 16 + 1 else (fun _ => 0) j), (0, 40, fun _ => 0), (1, 2, fun j => if j = 1 then 20 + 1 else (fun j => if j = 0 then 18 + 1 else (fun _ => 0) j) j), (6, 3, fun j => if j = 0 then 19 + 1 else (fun _ => 0) j), (0, 60, fun _ => 0), (6, 3, fun j => if j = 0 then 21 + 1 else (fun _ => 0) j), (0, 60, fun _ => 0), (9, 22, fun j => if j = 15 then 31 + 1 else (fun j => if j = 14 then 30 + 1 else (fun j => if j = 13 then 29 + 1 else (fun j => if j = 12 then 28 + 1 else (fun j => if j = 10 then 27 + 1 else (fun j => if j = 9 then 26 + 1 else (fun j => if j = 8 then 25 + 1 else (fun j => if j = 3 then 24 + 1 else (fun j => if j = 2 then 23 + 1 else (fun _ => 0) j) j) j) j) j) j) j) j) j), (0, 8, fun _ => 0), (0, 3, fun _ => 0), (0, 20, fun _ => 0), (0, 80, fun _ => 0), (0, 20, fun _ => 0), (0, 2, fun _ => 0), (0, 2, fun _ => 0), (0, 120, fun _ => 0), (0, 60, fun _ => 0), (0, 11, fun _ => 0)]
def LB34 : am_L := [(8, 4, fun j => if j = 3 then 17 + 1 else (fun j => if j = 2 then 15 + 1 else (fun j => if j = 1 then 9 + 1 else (fun j => if j = 0 then 1 + 1 else (fun _ => 0) j) j) j) j), (5, 7, fun j => if j = 2 then 8 + 1 else (fun j => if j = 1 then 5 + 1 else (fun j => if j = 0 then 2 + 1 else (fun _ => 0) j) j) j), (2, 3, fun j => if j = 1 then 4 + 1 else (fun j => if j = 0 then 3 + 1 else (fun _ => 0) j) j), (0, 8, fun _ => 0), (0, 256, fun _ => 0), (4, 5, fun j => if j = 3 then 7 + 1 else (fun j => if j = 0 then 6 + 1 else (fun _ => 0) j) j), (0, 100, fun _ => 0), (0, 20, fun _ => 0), (0, 3, fun _ => 0), (7, 6, fun j => if j = 4 then 14 + 1 else (fun j => if j = 3 then 13 + 1 else (fun j => if j = 2 then 12 + 1 else (fun j => if j = 1 then 11 + 1 else (fun j => if j = 0 then 10 + 1 else (fun _ => 0) j) j) j) j) j), (0, 60, fun _ => 0), (0, 10, fun _ => 0), (0, 10, fun _ => 0), (0, 3, fun _ => 0), (0, 3, fun _ => 0), (3, 2, fun j => if j = 0 then 16 + 1 else (fun _ => 0) j), (0, 40, fun _ => 0), (1, 2, fun j => if j = 1 then 20 + 1 else (fun j => if j = 0 then 18 + 1 else (fun _ => 0) j) j), (6, 3, fun j => if j = 0 then 19 + 1 else (fun _ => 0) j), (0, 60, fun _ => 0), (6, 3, fun j => if j = 0 then 21 + 1 else (fun _ => 0) j), (0, 60, fun _ => 0), (9, 22, fun j => if j = 19 then 33 + 1 else (fun j => if j = 18 then 32 + 1 else (fun j => if j = 15 then 31 + 1 else (fun j => if j = 14 then 30 + 1 else (fun j => if j = 13 then 29 + 1 else (fun j => if j = 12 then 28 + 1 else (fun j => if j = 10 then 27 + 1 else (fun j => if j = 9 then 26 + 1 else (fun j => if j = 8 then 25 + 1 else (fun j => if j = 3 then 24 + 1 else (fun j => if j = 2 then 23 + 1 else (fun _ => 0) j) j) j) j) j) j) j) j) j) j) j), (0, 8, fun _ => 0), (0, 3, fun _ => 0), (0, 20, fun _ => 0), (0, 80, fun _ => 0), (0, 20, fun _ => 0), (0, 2, fun _ => 0), (0, 2, fun _ => 0), (0, 120, fun _ => 0), (0, 60, fun _ => 0), (0, 11, fun _ => 0), (0, 11, fun _ => 0), (0, 40, fun _ => 0)]
set_option maxRecDepth 100000 in
theorem c_md_e (h : ∀ g', frK 33 g g' → am (d + 1) 84 149 [some (.ref 22), none] [.ref 34, .ref 22] LB34 g' 0 0 none Q) : am (d + 1) 84 133 [some (.ref 22), none] [.ref 32, .ref 22] LB32 g 2 51 none Q := by
  refine am_run_k 4 (And.intro (⟨by decide, by decide⟩) ?_)
  refine am_mk_i (by decide +kernel) ?_
  refine am_run_k 4 (And.intro (⟨by decide, by decide⟩) ?_)
  refine am_mk_i (by decide +kernel) ?_
  exact h _ ((frK.rf.upc (by decide)).upc (by decide))
set_option maxRecDepth 100000 in
theorem c_md_d (h : ∀ g', frK 30 g g' → am (d + 1) 84 133 [some (.ref 22), none] [.ref 32, .ref 22] LB32 g' 2 51 none Q) : am (d + 1) 84 109 [some (.ref 22), none] [.ref 29, .ref 22] LB29 g 5 242 none Q := by
  refine am_run_k 4 (And.intro (⟨by decide, by decide⟩) ?_)
  refine am_mk_i (by decide +kernel) ?_
  refine am_run_k 4 (And.intro (⟨by decide, by decide⟩) ?_)
  refine am_mk_i (by decide +kernel) ?_
  refine am_run_k 4 (And.intro (⟨by decide, by decide⟩) ?_)
  refine am_mk_i (by decide +kernel) ?_
  exact h _ (((frK.rf.upc (by decide)).upc (by decide)).upc (by decide))
set_option maxRecDepth 100000 in
theorem c_md_c (h : ∀ g', frK 27 g g' → g' 28 = (fun _ => 0) → g' 29 = (fun _ => 0) → am (d + 1) 84 109 [some (.ref 22), none] [.ref 29, .ref 22] LB29 g' 5 242 none Q) : am (d + 1) 84 87 [some (.ref 22), none] [.ref 26, .ref 22] LB26 g 8 266 none Q := by
  refine am_run_k 4 (And.intro (⟨by decide, by decide⟩) ?_)
  refine am_mk_i (by decide +kernel) ?_
  refine am_run_k 4 (And.intro (⟨by decide, by decide⟩) ?_)
  refine am_mk_i (by decide +kernel) ?_
  refine am_run_k 4 (And.intro (⟨by decide, by decide⟩) ?_)
  refine am_mk_i (by decide +kernel) ?_
  exact h _ (((frK.rf.upc (by decide)).upc (by decide)).upc (by decide)) rfl rfl
set_option maxRecDepth 100000 in
theorem c_md_b (h : ∀ g', frK 22 g g' → g' 23 = g 23 → g' 22 0 = g 22 0 → g' 22 7 = g 22 7 → g' 22 5 = 5 → g' 22 1 = g 22 1 → g' 22 4 = g 22 4 → g' 22 6 = -1 → g' 22 11 = g 22 11 → am (d + 1) 84 87 [some (.ref 22), none] [.ref 26, .ref 22] LB26 g' 8 266 none Q) : am (d + 1) 84 54 [some (.ref 22), none] [.ref 23, .ref 22] LB23 g 11 369 none Q := by
  refine am_run_k 4 (And.intro (⟨by decide, by decide⟩) ?_)
  refine am_mk_i (by decide +kernel) ?_
  refine am_run_k 10 (And.intro (⟨by decide, by decide⟩) ?_)
  refine am_mk_i (by decide +kernel) ?_
  refine am_run_k 4 (And.intro (⟨by decide, by decide⟩) ?_)
  refine am_mk_i (by decide +kernel) ?_
  exact h _ (((((frK.rf.upc (by decide)).up (by decide)).up (by decide)).upc (by decide)).upc (by decide)) rfl rfl rfl rfl rfl rfl rfl rfl
set_option maxRecDepth 100000 in
theorem c_model (h : ∀ g', (∀ k, k < 22 → g' k = g k) → MD0 g' → MD9 g' → Q none LY g') (hz : ∀ i, g 22 i = 0) : am (d + 1) 84 0 [some (.ref 22), none] [] LA23 g 12 377 none Q := by
  refine am_run_k 8 (And.intro (⟨by decide, by decide⟩) ?_)
  refine am_mk_i (by decide +kernel) ?_
  refine am_run_k 4 (And.intro (vpe (n := 0) rfl (by decide)) ?_)
  refine am_run_k 4 (And.intro (vpe (n := 1) rfl (by decide)) ?_)
  refine am_run_k 4 (And.intro (vpe (n := 2) rfl (by decide)) ?_)
  refine am_run_k 4 (And.intro (vpe (n := 3) rfl (by decide)) ?_)
  refine am_run_k 4 (And.intro (vpe (n := 4) rfl (by decide)) ?_)
  refine am_run_k 4 (And.intro (vpe (n := 5) rfl (by decide)) ?_)
  refine am_run_k 4 (And.intro (vpe (n := 6) rfl (by decide)) ?_)
  refine am_run_k 4 (And.intro (vpe (n := 7) rfl (by decide)) ?_)
  refine am_gen (fun g' => frK 22 g g' ∧ g' 22 0 = 4 ∧ g' 22 7 = 0 ∧ (∀ p, p < 8 → g' 23 p = am_sh (nI p)) ∧ g' 22 1 = 0 ∧ g' 22 4 = 0 ∧ g' 22 11 = 0) ⟨?_, rfl, hz 7, fun p hp => ?_, hz 1, hz 4, hz 11⟩ (fun g1 hg1 => ?_)
  · exact (((((((((frK.rf.up (by decide)).upc (by decide)).up (by decide)).up (by decide)).up (by decide)).up (by decide)).up (by decide)).up (by decide)).up (by decide)).up (by decide)
  · rcases (show p = 0 ∨ p = 1 ∨ p = 2 ∨ p = 3 ∨ p = 4 ∨ p = 5 ∨ p = 6 ∨ p = 7 by omega) with e | e | e | e | e | e | e | e <;> subst e
    · rw [sh8.1]; rfl
    · rw [sh8.2.1]; rfl
    · rw [sh8.2.2.1]; rfl
    · rw [sh8.2.2.2.1]; rfl
    · rw [sh8.2.2.2.2.1]; rfl
    · rw [sh8.2.2.2.2.2.1]; rfl
    · rw [sh8.2.2.2.2.2.2.1]; rfl
    · rw [sh8.2.2.2.2.2.2.2]; rfl
  obtain ⟨q1, q2, q3, q4, q5, q6, q7⟩ := hg1
  refine c_md_b (fun g2 k2 a23 a0 a7 a5 a1 a4 a6 a11 => ?_)
  refine c_md_c (fun g3 k3 a28 a29 => ?_)
  refine c_md_d (fun g4 k4 => ?_)
  refine c_md_e (fun g5 k5 => ?_)
  have e22 : g5 22 = g2 22 := (k5 22 (by decide)).trans ((k4 22 (by decide)).trans (k3 22 (by decide)))
  have e23 : g5 23 = g1 23 := ((k5 23 (by decide)).trans ((k4 23 (by decide)).trans (k3 23 (by decide)))).trans a23
  have e29 : g5 29 = fun _ => 0 := ((k5 29 (by decide)).trans (k4 29 (by decide))).trans a29
  have kk : frK 22 g g5 := (q1.tr k2).tr (((k3.le (by decide)).tr (k4.le (by decide))).tr (k5.le (by decide)))
  refine am_run_k 6 (And.intro (vpe (n := 0) rfl (by decide)) ?_)
  refine am_run_k 5 (And.intro (vpe (n := 1) rfl (by decide)) ?_)
  refine am_run_k 2 ?_
  refine am_run_k 3 (And.intro (fun hx => absurd hx ((by decide))) (fun h1 => ?_))
  refine am_run_k 5 (And.intro (vpe (n := 0) rfl (by decide)) ?_)
  refine am_run_k 2 ?_
  refine am_run_k 3 (And.intro (fun hx => absurd hx ((by decide))) (fun h2 => ?_))
  refine am_run_k 5 (And.intro (vpe (n := 1) rfl (by decide)) ?_)
  refine am_run_k 2 ?_
  refine am_run_k 3 (And.intro (fun hx => absurd hx ((by decide))) (fun h3 => ?_))
  refine am_run_k 5 (And.intro (vpe (n := 2) rfl (by decide)) ?_)
  refine am_run_k 2 ?_
  refine am_run_k 3 (And.intro (fun h4 => ?_) (fun hx => absurd ((by decide)) hx))
  refine am_run_k 1 ?_
  have c22 : ∀ i, am_up (am_up (am_up (am_up (am_up g5 28 0 (-1)) 28 1 (-1)) 24 0 0) 24 1 1) 24 2 2 22 i = g2 22 i := fun i => by rw [am_up_ne (by decide), am_up_ne (by decide), am_up_ne (by decide), am_up_ne (by decide), am_up_ne (by decide), e22]
  have c23 : am_up (am_up (am_up (am_up (am_up g5 28 0 (-1)) 28 1 (-1)) 24 0 0) 24 1 1) 24 2 2 23 = g1 23 := by rw [am_up_ne (by decide), am_up_ne (by decide), am_up_ne (by decide), am_up_ne (by decide), am_up_ne (by decide), e23]
  have c29 : am_up (am_up (am_up (am_up (am_up g5 28 0 (-1)) 28 1 (-1)) 24 0 0) 24 1 1) 24 2 2 29 = fun _ => 0 := by rw [am_up_ne (by decide), am_up_ne (by decide), am_up_ne (by decide), am_up_ne (by decide), am_up_ne (by decide), e29]
  have cK : frK 22 g (am_up (am_up (am_up (am_up (am_up g5 28 0 (-1)) 28 1 (-1)) 24 0 0) 24 1 1) 24 2 2) := ((((kk.up (by decide)).up (by decide)).up (by decide)).up (by decide)).up (by decide)
  refine h _ cK (MD0_of ((c22 0).trans (a0.trans q2)) ((c22 5).trans a5) ((c22 7).trans (a7.trans q3)) (fun p hp => (congrFun c23 p).trans (q4 p hp)) (fun w hw => ?_) rfl rfl (congrFun c29 0) (congrFun c29 1)) ⟨(c22 0).trans (a0.trans q2), (c22 1).trans (a1.trans q5), (c22 4).trans (a4.trans q6), (c22 5).trans a5, (c22 6).trans a6, (c22 7).trans (a7.trans q3), (c22 11).trans (a11.trans q7), fun p hp => (congrFun c23 p).trans (q4 p hp), fun w hw => ?_⟩
  · rcases (show w = 0 ∨ w = 1 ∨ w = 2 by omega) with e | e | e <;> subst e <;> rfl
  · rcases (show w = 0 ∨ w = 1 ∨ w = 2 by omega) with e | e | e <;> subst e <;> rfl
end CTQ
