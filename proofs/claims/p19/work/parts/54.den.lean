section DEN
variable {d : Nat} {g : am_G} {Q : am_Q}
theorem f_denied_s {a : Int32} (I : IC g) (h : ∀ r g', scC g g' → Q (some (.int r)) LY g') : am (d + 4) 60 0 [some (.ref 0), some (.int a)] [] LY g 0 0 none Q := by
  obtain ⟨c, hc, e51, hr, hrest⟩ := id I.1.2.2
  refine am_run_k 5 (am_cl ?_)
  refine w_holds ?_
  refine am_run_k 1 (And.intro (fun h1 => ?_) (fun h1 => ?_))
  · have hb := bi_t h1
    rw [e51] at hb
    obtain ⟨fd, hfd, ea⟩ := am_ir_nI (by omega) hb
    subst ea
    refine am_run_k 5 (am_cl ?_)
    refine w_kind (k := fd) (by omega) ?_
    refine am_run_k 2 (And.intro (fun h2 => ?_) (fun h2 => ?_))
    · refine am_run_k 6 (am_cl ?_)
      refine w_deny hfd hc h2 hr I.1 (fun r g1 hr1 hg1 => ?_)
      refine am_run_k 1 (And.intro (fun h3 => ?_) (fun h3 => ?_))
      · refine am_run_k 2 ?_
        exact h _ g1 hg1
      · refine am_run_k 3 ?_
        exact h _ g1 hg1
    · refine am_run_k 2 ?_
      exact h _ g scC.rf
  · refine am_run_k 2 ?_
    exact h _ g scC.rf
end DEN
