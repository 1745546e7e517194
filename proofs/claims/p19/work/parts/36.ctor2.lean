section CTP
variable {d : Nat} {g : am_G} {bc bs : Nat} {Q : am_Q}
set_option maxRecDepth 100000 in
theorem c_scene (h : ∀ g', frK 1 g g' → g' 1 3 = 4 → g' 1 5 = 5 → g' 5 1 = 0 → g' 5 4 = 0 → g' 1 4 = g 1 4 → g' 1 6 = -1 → g' 5 2 = 0 → g' 2 2 = 0 → (∀ p, p < 8 → g' 3 p = 0) → (∀ s, s < 256 → g' 4 s = nI s) → (∀ w, w < 3 → g' 8 w = nI w) → Q none LA9 g') : am (d + 2) 31 0 [some (.ref 1), none] [] LA2 g 7 395 none Q := by
  refine am_run_k 6 (am_cl ?_)
  refine c_house (fun g1 e1 w2 w3 w4 => ?_)
  refine am_run_k 5 (am_cl ?_)
  refine c_notes (fun g2 e2 => ?_)
  have z1 : g2 5 1 = 0 := by rw [e2 5 (by decide)]; exact congrFun upc_s 1
  have z4 : g2 5 4 = 0 := by rw [e2 5 (by decide)]; exact congrFun upc_s 4
  have z2 : g2 5 2 = 0 := by rw [e2 5 (by decide)]; exact congrFun upc_s 2
  have y2 : g2 2 = g1 2 := by rw [e2 2 (by decide)]; exact upc_n (by decide)
  have y3 : g2 3 = g1 3 := by rw [e2 3 (by decide)]; exact upc_n (by decide)
  have y4 : g2 4 = g1 4 := by rw [e2 4 (by decide)]; exact upc_n (by decide)
  have y1 : g2 1 4 = g 1 4 := by rw [e2 1 (by decide)]; exact (congrFun (upc_n (by decide)) 4).trans ((congrFun (e1 1 (by decide)) 4).trans (congrFun (upc_n (by decide)) 4))
  have e3 : frK 1 g g2 := ((frK.rf.upc (by decide)).tr (e1.le (by decide))).tr ((frK.rf.upc (by decide)).tr (e2.le (by decide)))
  refine am_run_k 4 (And.intro (⟨by decide, by decide⟩) ?_)
  refine am_run_k 12 ?_
  refine am_run_k 3 (And.intro (fun hx => absurd hx ((by decide))) (fun h1 => ?_))
  refine am_run_k 5 (And.intro (vpe (n := 0) rfl (by decide)) ?_)
  refine am_run_k 2 ?_
  refine am_run_k 3 (And.intro (fun hx => absurd hx ((by decide))) (fun h2 => ?_))
  refine am_run_k 5 (And.intro (vpe (n := 1) rfl (by decide)) ?_)
  refine am_run_k 2 ?_
  refine am_run_k 3 (And.intro (fun hx => absurd hx ((by decide))) (fun h3 => ?_))
  refine am_run_k 5 (And.intro (vpe (n := 2) rfl (by decide)) ?_)
  refine am_run_k 2 ?_
  refine am_run_k 3 (And.intro (fun h4 => ?_) (fun hx => absurd ((by decide)) hx))
  refine am_run_k 1 ?_
  refine h _ ?_ ?_ ?_ ?_ ?_ ?_ ?_ ?_ ?_ (fun p hp => ?_) (fun p hp => ?_) (fun w hw => ?_)
  · exact e3.tr (((((((frK.rf.upc (by decide)).up (by decide)).up (by decide)).up (by decide)).up (by decide)).up (by decide)).up (by decide))
  · rw [am_up_ne (by decide), am_up_ne (by decide), am_up_ne (by decide), am_up_un (by decide), am_up_un (by decide), am_up_us]
  · rw [am_up_ne (by decide), am_up_ne (by decide), am_up_ne (by decide), am_up_un (by decide), am_up_us]
  · rw [am_up_ne (by decide), am_up_ne (by decide), am_up_ne (by decide), am_up_ne (by decide), am_up_ne (by decide), am_up_ne (by decide), upc_n (by decide)]; exact z1
  · rw [am_up_ne (by decide), am_up_ne (by decide), am_up_ne (by decide), am_up_ne (by decide), am_up_ne (by decide), am_up_ne (by decide), upc_n (by decide)]; exact z4
  · rw [am_up_ne (by decide), am_up_ne (by decide), am_up_ne (by decide), am_up_un (by decide), am_up_un (by decide), am_up_un (by decide), upc_n (by decide)]; exact y1
  · rw [am_up_ne (by decide), am_up_ne (by decide), am_up_ne (by decide), am_up_us]
  · rw [am_up_ne (by decide), am_up_ne (by decide), am_up_ne (by decide), am_up_ne (by decide), am_up_ne (by decide), am_up_ne (by decide), upc_n (by decide)]; exact z2
  · rw [am_up_ne (by decide), am_up_ne (by decide), am_up_ne (by decide), am_up_ne (by decide), am_up_ne (by decide), am_up_ne (by decide), upc_n (by decide), y2]; exact w2
  · rw [am_up_ne (by decide), am_up_ne (by decide), am_up_ne (by decide), am_up_ne (by decide), am_up_ne (by decide), am_up_ne (by decide), upc_n (by decide), y3]; exact w3 p hp
  · rw [am_up_ne (by decide), am_up_ne (by decide), am_up_ne (by decide), am_up_ne (by decide), am_up_ne (by decide), am_up_ne (by decide), upc_n (by decide), y4]; exact w4 p hp
  · rcases (show w = 0 ∨ w = 1 ∨ w = 2 by omega) with e | e | e <;> subst e <;> rfl
/-- what the class's calls find -/
def DK0 (g : am_G) : Prop := g 1 3 = 4 ∧ g 1 5 = 5 ∧ g 5 1 = 0 ∧ g 5 4 = 0 ∧ g 18 1 = -1 ∧ g 18 2 = 0 ∧ g 20 1 = -1 ∧ g 20 2 = 0
def DK1 (g : am_G) : Prop := DK0 g ∧ g 1 4 = 0 ∧ g 1 6 = -1 ∧ g 5 2 = 0 ∧ g 2 2 = 0 ∧ (∀ p, p < 8 → g 3 p = 0) ∧ (∀ s, s < 256 → g 4 s = nI s) ∧ ∀ w, w < 3 → g 8 w = nI w
set_option maxRecDepth 100000 in
theorem c_desk (h : ∀ g', DK1 g' → Q none LA22b g') : am (d + 3) 49 0 [some (.ref 0), none] [] LA1 g 21 664 none Q := by
  refine am_run_k 6 (am_cl ?_)
  refine c_scene (fun g1 e1 a3 a5 a1 a4 a14 a16 a52 a22 a3z a4z a8 => ?_)
  refine am_run_k 5 (am_cl ?_)
  refine c_ways (fun g2 e2 => ?_)
  refine am_run_k 5 (am_cl ?_)
  refine c_maker (fun g3 e3 => ?_)
  refine am_run_k 4 (And.intro (⟨by decide, by decide⟩) ?_)
  refine am_run_k 3 ?_
  refine am_run_k 3 (And.intro (fun hx => absurd hx ((by decide))) (fun h1 => ?_))
  refine am_run_k 6 (am_cl ?_)
  refine c_sheet18 (fun g4 e4 b1 b2 => ?_)
  refine am_run_k 1 (And.intro (vpe (n := 0) rfl (by decide)) ?_)
  refine am_run_k 2 ?_
  refine am_run_k 3 (And.intro (fun hx => absurd hx ((by decide))) (fun h2 => ?_))
  refine am_run_k 6 (am_cl ?_)
  refine c_sheet20 (fun g5 e5 d1 d2 => ?_)
  refine am_run_k 1 (And.intro (vpe (n := 1) rfl (by decide)) ?_)
  refine am_run_k 2 ?_
  refine am_run_k 3 (And.intro (fun h3 => ?_) (fun hx => absurd ((by decide)) hx))
  refine am_run_k 1 ?_
  have k9 : frK 9 g1 g2 := (frK.rf.upc (by decide)).tr (e2.le (by decide))
  have k15 : frK 15 g2 g3 := (frK.rf.upc (by decide)).tr (e3.le (by decide))
  have k17 : frK 17 g3 g4 := ((frK.rf.upc (by decide)).upc (by decide)).tr (e4.le (by decide))
  have k20 : frK 20 g4 g5 := (frK.rf.upc (by decide)).tr (e5.le (by decide))
  have k : frK 9 g1 g5 := ((k9.tr (k15.le (by decide))).tr (k17.le (by decide))).tr (k20.le (by decide))
  refine h _ ⟨⟨?_, ?_, ?_, ?_, ?_, ?_, d1, ?_⟩, ?_, ?_, ?_, ?_, fun p hp => ?_, fun p hp => ?_, fun p hp => ?_⟩
  · rw [k 1 (by decide)]; exact a3
  · rw [k 1 (by decide)]; exact a5
  · rw [k 5 (by decide)]; exact a1
  · rw [k 5 (by decide)]; exact a4
  · rw [k20 18 (by decide)]; exact b1
  · rw [k20 18 (by decide), b2]; exact congrFun upc_s 2
  · rw [d2]; exact congrFun upc_s 2
  · rw [k 1 (by decide), a14]; exact congrFun upc_s 4
  · rw [k 1 (by decide)]; exact a16
  · rw [k 5 (by decide)]; exact a52
  · rw [k 2 (by decide)]; exact a22
  · rw [k 3 (by decide)]; exact a3z p hp
  · rw [k 4 (by decide)]; exact a4z p hp
  · rw [k 8 (by decide)]; exact a8 p hp
end CTP
