/-! Runs of the machine: monotone, introduced, some steps at once. -/
section AMM
variable {X Y : am_X} (hXY : ∀ d mi pc lv st L g bc bs sx Q, X d mi pc lv st L g bc bs sx Q → Y d mi pc lv st L g bc bs sx Q)
variable {d mi pc nx a b : Nat} {sw : List (Int32 × Nat)} {lv : am_V} {st : List Value} {L : am_L} {g : am_G} {bc bs : Nat} {sx : am_S} {Q : am_Q}
theorem am_i1_m {f f' : Int32 → List Value → Prop} (h : ∀ x r, f x r → f' x r) (k : am_i1 st f) : am_i1 st f' := by
  obtain ⟨x, r, rfl, k⟩ := am_i1_of k; exact h _ _ k
theorem am_i2_m {f f' : Int32 → Int32 → List Value → Prop} (h : ∀ x y r, f x y r → f' x y r) (k : am_i2 st f) : am_i2 st f' := by
  obtain ⟨x, y, r, rfl, k⟩ := am_i2_of k; exact h _ _ _ k
theorem am_l2_m {f f' : Int64 → Int64 → List Value → Prop} (h : ∀ x y r, f x y r → f' x y r) (k : am_l2 st f) : am_l2 st f' := by
  obtain ⟨x, y, r, rfl, k⟩ := am_l2_of k; exact h _ _ _ k
theorem am_r1_m {f f' : Nat → List Value → Prop} (h : ∀ x r, f x r → f' x r) (k : am_r1 st f) : am_r1 st f' := by
  obtain ⟨x, r, rfl, k⟩ := am_r1_of k; exact h _ _ k
theorem am_ia_m {f f' : Nat → Int32 → List Value → Prop} (h : ∀ x y r, f x y r → f' x y r) (k : am_ia st f) : am_ia st f' := by
  obtain ⟨x, y, r, rfl, k⟩ := am_ia_of k; exact h _ _ _ k
theorem am_iai_m {f f' : Nat → Int32 → Int32 → List Value → Prop} (h : ∀ x y z r, f x y z r → f' x y z r) (k : am_iai st f) : am_iai st f' := by
  obtain ⟨x, y, z, r, rfl, k⟩ := am_iai_of k; exact h _ _ _ _ k
theorem am_kv_m {f f' : Int32 → Prop} (h : ∀ x, f x → f' x) (k : am_kv sw f) : am_kv sw f' := by
  obtain ⟨v, q, l, rfl, k⟩ := am_kv_of k; exact h _ k
theorem am_ld_m {i : Nat} {f f' : Value → Prop} (h : ∀ x, f x → f' x) (k : am_ld lv i f) : am_ld lv i f' := by
  obtain ⟨v, e, k⟩ := am_ld_of k
  unfold am_ld; rw [e]; exact h _ k
theorem am_b_m {c : Bool} {P P' : Prop} (h : P → P') (k : am_b c P) : am_b c P' := by
  cases c
  · exact k
  · exact h k
theorem am_if0_m {co : ClassFile.Cond} {x : Int32} {T T' N N' : Prop} (h1 : T → T') (h2 : N → N') (k : am_if0 co x T N) : am_if0 co x T' N' := by
  cases co <;> exact ⟨fun q => h1 (k.1 q), fun q => h2 (k.2 q)⟩ <;> exact ⟨fun q => h1 (k.1 q), fun q => h2 (k.2 q)⟩
theorem am_if2_m {co : ClassFile.Cond} {x y : Int32} {T T' N N' : Prop} (h1 : T → T') (h2 : N → N') (k : am_if2 co x y T N) : am_if2 co x y T' N' := by
  cases co <;> exact ⟨fun q => h1 (k.1 q), fun q => h2 (k.2 q)⟩ <;> exact ⟨fun q => h1 (k.1 q), fun q => h2 (k.2 q)⟩
theorem am_sw_m {x : Int32} {K K' : Nat → Prop} {df : Nat} (h : ∀ t, K t → K' t) : ∀ (l : List (Int32 × Nat)), am_sw x K df l → am_sw x K' df l
  | [], k => h _ k
  | (v, t) :: l, k => ⟨fun q => h _ (k.1 q), fun q => am_sw_m h l (k.2 q)⟩
theorem am_call_m (hXY : ∀ d mi pc lv st L g bc bs sx Q, X d mi pc lv st L g bc bs sx Q → Y d mi pc lv st L g bc bs sx Q) (k : am_call X d mi nx a lv st L g bc bs sx Q) : am_call Y d mi nx a lv st L g bc bs sx Q := by
  refine am_b_m (fun k => ?_) k
  cases d with
  | zero => exact k
  | succ d' =>
    obtain ⟨Q1, h1, h2⟩ := k
    exact ⟨Q1, hXY _ _ _ _ _ _ _ _ _ _ _ h1, fun r L' g' q => hXY _ _ _ _ _ _ _ _ _ _ _ (h2 r L' g' q)⟩
theorem am_inv_m (hXY : ∀ d mi pc lv st L g bc bs sx Q, X d mi pc lv st L g bc bs sx Q → Y d mi pc lv st L g bc bs sx Q) (k : am_inv X d mi nx a lv st L g bc bs sx Q) : am_inv Y d mi nx a lv st L g bc bs sx Q := by
  unfold am_inv at k ⊢
  split
  · rename_i e; rw [e] at k; exact am_call_m hXY k
  · rename_i e; rw [e] at k
    refine am_b_m (fun k => ?_) k
    split
    · rename_i e2; rw [e2] at k; exact am_r1_m (fun _ _ k => hXY _ _ _ _ _ _ _ _ _ _ _ k) k
    · rename_i e2; rw [e2] at k
      split
      · rename_i e3; rw [e3] at k; exact am_i2_m (fun _ _ _ k => hXY _ _ _ _ _ _ _ _ _ _ _ k) k
      · rename_i e3; rw [e3] at k; exact am_i2_m (fun _ _ _ k => hXY _ _ _ _ _ _ _ _ _ _ _ k) k
theorem am_getf_m (hXY : ∀ d mi pc lv st L g bc bs sx Q, X d mi pc lv st L g bc bs sx Q → Y d mi pc lv st L g bc bs sx Q) (k : am_getf X d mi nx a b lv st L g bc bs sx Q) : am_getf Y d mi nx a b lv st L g bc bs sx Q := by
  refine am_r1_m (fun x r k => ?_) k
  split
  · rename_i e; rw [e] at k
    refine am_b_m (fun k => ?_) k
    split
    · rename_i e2; rw [e2] at k
      split
      · rename_i e3; rw [e3] at k; exact hXY _ _ _ _ _ _ _ _ _ _ _ k
      · rename_i e3; rw [e3] at k; exact hXY _ _ _ _ _ _ _ _ _ _ _ k
    · rename_i e2; rw [e2] at k; exact hXY _ _ _ _ _ _ _ _ _ _ _ k
  · rename_i e; rw [e] at k; exact k
theorem am_putf_m (hXY : ∀ d mi pc lv st L g bc bs sx Q, X d mi pc lv st L g bc bs sx Q → Y d mi pc lv st L g bc bs sx Q) (k : am_putf X d mi nx a b lv st L g bc bs sx Q) : am_putf Y d mi nx a b lv st L g bc bs sx Q := by
  unfold am_putf at k ⊢
  split
  · split
    · rename_i e; dsimp only at k; rw [e] at k; exact am_b_m (fun k => hXY _ _ _ _ _ _ _ _ _ _ _ k) k
    · rename_i e; dsimp only at k; rw [e] at k; exact k
  · split
    · rename_i e; dsimp only at k; rw [e] at k; exact am_b_m (fun k => hXY _ _ _ _ _ _ _ _ _ _ _ k) k
    · rename_i e; dsimp only at k; rw [e] at k; exact k
  · rename_i h1 h2
    split at k
    · rename_i x k0 r; exact absurd rfl (h1 x k0 r)
    · rename_i x k0 r; exact absurd rfl (h2 x k0 r)
    · exact k
theorem am_iald_m (hXY : ∀ d mi pc lv st L g bc bs sx Q, X d mi pc lv st L g bc bs sx Q → Y d mi pc lv st L g bc bs sx Q) (k : am_iald X d mi nx lv st L g bc bs sx Q) : am_iald Y d mi nx lv st L g bc bs sx Q := by
  refine am_ia_m (fun x y r k => ?_) k
  generalize Nat.beq x am_scr = cb at k ⊢
  cases cb with
  | true =>
    cases sx with
    | none => exact k
    | some q => exact ⟨k.1, hXY _ _ _ _ _ _ _ _ _ _ _ k.2⟩
  | false =>
    have k : (match am_at L x with
      | some (0, n, _) => vp_in y n ∧ X d mi nx lv (.int (g x y.toNatClampNeg) :: r) L g bc bs sx Q
      | _ => False) := k
    show (match am_at L x with
      | some (0, n, _) => vp_in y n ∧ Y d mi nx lv (.int (g x y.toNatClampNeg) :: r) L g bc bs sx Q
      | _ => False)
    split at k
    · exact ⟨k.1, hXY _ _ _ _ _ _ _ _ _ _ _ k.2⟩
    · exact k.elim
theorem am_iast_m (hXY : ∀ d mi pc lv st L g bc bs sx Q, X d mi pc lv st L g bc bs sx Q → Y d mi pc lv st L g bc bs sx Q) (k : am_iast X d mi nx lv st L g bc bs sx Q) : am_iast Y d mi nx lv st L g bc bs sx Q := by
  refine am_iai_m (fun x y z r k => ?_) k
  split
  · rename_i e2; rw [e2] at k; exact ⟨k.1, hXY _ _ _ _ _ _ _ _ _ _ _ k.2⟩
  · rename_i e2
    split at k
    · rename_i e3; exact absurd e3 (e2 _ _)
    · exact k
theorem am_aald_m (hXY : ∀ d mi pc lv st L g bc bs sx Q, X d mi pc lv st L g bc bs sx Q → Y d mi pc lv st L g bc bs sx Q) (k : am_aald X d mi nx lv st L g bc bs sx Q) : am_aald Y d mi nx lv st L g bc bs sx Q := by
  refine am_ia_m (fun x y r k => ?_) k
  split
  · rename_i e2; rw [e2] at k
    refine ⟨k.1, ?_⟩
    have k2 := k.2
    split
    · rename_i e3; rw [e3] at k2; exact hXY _ _ _ _ _ _ _ _ _ _ _ k2
    · rename_i e3; rw [e3] at k2; exact hXY _ _ _ _ _ _ _ _ _ _ _ k2
  · rename_i e2
    split at k
    · rename_i e3; exact absurd e3 (e2 _ _)
    · exact k
theorem am_aast_m (hXY : ∀ d mi pc lv st L g bc bs sx Q, X d mi pc lv st L g bc bs sx Q → Y d mi pc lv st L g bc bs sx Q) (k : am_aast X d mi nx lv st L g bc bs sx Q) : am_aast Y d mi nx lv st L g bc bs sx Q := by
  unfold am_aast at k ⊢
  split at k
  · split at k
    · exact am_b_m (fun k => ⟨k.1, hXY _ _ _ _ _ _ _ _ _ _ _ k.2⟩) k
    · exact k.elim
  · exact k.elim
theorem am_alen_m (hXY : ∀ d mi pc lv st L g bc bs sx Q, X d mi pc lv st L g bc bs sx Q → Y d mi pc lv st L g bc bs sx Q) (k : am_alen X d mi nx lv st L g bc bs sx Q) : am_alen Y d mi nx lv st L g bc bs sx Q := by
  refine am_r1_m (fun x r k => ?_) k
  generalize Nat.beq x am_scr = cb at k ⊢
  cases cb with
  | true =>
    cases sx with
    | none => exact k
    | some q => exact hXY _ _ _ _ _ _ _ _ _ _ _ k
  | false =>
    have k : (match am_at L x with
      | some (0, n, _) => X d mi nx lv (.int (Int32.ofNat n) :: r) L g bc bs sx Q
      | some (1, n, _) => X d mi nx lv (.int (Int32.ofNat n) :: r) L g bc bs sx Q
      | _ => False) := k
    show (match am_at L x with
      | some (0, n, _) => Y d mi nx lv (.int (Int32.ofNat n) :: r) L g bc bs sx Q
      | some (1, n, _) => Y d mi nx lv (.int (Int32.ofNat n) :: r) L g bc bs sx Q
      | _ => False)
    split at k
    · exact hXY _ _ _ _ _ _ _ _ _ _ _ k
    · exact hXY _ _ _ _ _ _ _ _ _ _ _ k
    · exact k.elim
theorem am_mk_m (hXY : ∀ d mi pc lv st L g bc bs sx Q, X d mi pc lv st L g bc bs sx Q → Y d mi pc lv st L g bc bs sx Q) {e1 : am_D} (k : am_mk X d mi nx e1 lv st L g bc bs sx Q) : am_mk Y d mi nx e1 lv st L g bc bs sx Q := am_b_m (fun k => hXY _ _ _ _ _ _ _ _ _ _ _ k) k
theorem am_F_m (hXY : ∀ d mi pc lv st L g bc bs sx Q, X d mi pc lv st L g bc bs sx Q → Y d mi pc lv st L g bc bs sx Q) (k : am_F X d mi pc lv st L g bc bs sx Q) : am_F Y d mi pc lv st L g bc bs sx Q := by
  unfold am_F at k ⊢
  generalize am_cd mi pc = ent at k ⊢
  obtain ⟨ins, nx, a, b, sw⟩ := ent
  dsimp only at k ⊢
  cases ins with
  | iconst i => exact am_kv_m (fun _ k => hXY _ _ _ _ _ _ _ _ _ _ _ k) k
  | bipush i => exact am_kv_m (fun _ k => hXY _ _ _ _ _ _ _ _ _ _ _ k) k
  | sipush i => exact am_kv_m (fun _ k => hXY _ _ _ _ _ _ _ _ _ _ _ k) k
  | ldc i => exact am_kv_m (fun _ k => hXY _ _ _ _ _ _ _ _ _ _ _ k) k
  | ldc_w i => exact am_kv_m (fun _ k => hXY _ _ _ _ _ _ _ _ _ _ _ k) k
  | iload i => exact am_ld_m (fun _ k => am_b_m (fun k => hXY _ _ _ _ _ _ _ _ _ _ _ k) k) k
  | iload_n i => exact am_ld_m (fun _ k => am_b_m (fun k => hXY _ _ _ _ _ _ _ _ _ _ _ k) k) k
  | aload i => exact am_ld_m (fun _ k => am_b_m (fun k => hXY _ _ _ _ _ _ _ _ _ _ _ k) k) k
  | aload_n i => exact am_ld_m (fun _ k => am_b_m (fun k => hXY _ _ _ _ _ _ _ _ _ _ _ k) k) k
  | istore i => exact am_i1_m (fun _ _ k => am_b_m (fun k => hXY _ _ _ _ _ _ _ _ _ _ _ k) k) k
  | istore_n i => exact am_i1_m (fun _ _ k => am_b_m (fun k => hXY _ _ _ _ _ _ _ _ _ _ _ k) k) k
  | astore i => exact am_r1_m (fun _ _ k => am_b_m (fun k => hXY _ _ _ _ _ _ _ _ _ _ _ k) k) k
  | astore_n i => exact am_r1_m (fun _ _ k => am_b_m (fun k => hXY _ _ _ _ _ _ _ _ _ _ _ k) k) k
  | iinc i n =>
    refine am_kv_m (fun c k => am_ld_m (fun v k => ?_) k) k
    cases v <;> first | exact hXY _ _ _ _ _ _ _ _ _ _ _ k | exact k
  | iadd => exact am_i2_m (fun _ _ _ k => hXY _ _ _ _ _ _ _ _ _ _ _ k) k
  | isub => exact am_i2_m (fun _ _ _ k => hXY _ _ _ _ _ _ _ _ _ _ _ k) k
  | imul => exact am_i2_m (fun _ _ _ k => hXY _ _ _ _ _ _ _ _ _ _ _ k) k
  | irem => exact am_i2_m (fun _ _ _ k => ⟨k.1, hXY _ _ _ _ _ _ _ _ _ _ _ k.2⟩) k
  | iand => exact am_i2_m (fun _ _ _ k => hXY _ _ _ _ _ _ _ _ _ _ _ k) k
  | ior => exact am_i2_m (fun _ _ _ k => hXY _ _ _ _ _ _ _ _ _ _ _ k) k
  | ixor => exact am_i2_m (fun _ _ _ k => hXY _ _ _ _ _ _ _ _ _ _ _ k) k
  | ishl => exact am_i2_m (fun _ _ _ k => hXY _ _ _ _ _ _ _ _ _ _ _ k) k
  | ishr => exact am_i2_m (fun _ _ _ k => hXY _ _ _ _ _ _ _ _ _ _ _ k) k
  | iushr => exact am_i2_m (fun _ _ _ k => hXY _ _ _ _ _ _ _ _ _ _ _ k) k
  | ineg => exact am_i1_m (fun _ _ k => hXY _ _ _ _ _ _ _ _ _ _ _ k) k
  | i2b => exact am_i1_m (fun _ _ k => hXY _ _ _ _ _ _ _ _ _ _ _ k) k
  | i2l => exact am_i1_m (fun _ _ k => hXY _ _ _ _ _ _ _ _ _ _ _ k) k
  | ladd => exact am_l2_m (fun _ _ _ k => hXY _ _ _ _ _ _ _ _ _ _ _ k) k
  | lcmp => exact am_l2_m (fun _ _ _ k => hXY _ _ _ _ _ _ _ _ _ _ _ k) k
  | dup => cases st <;> first | exact k | exact am_b_m (fun k => hXY _ _ _ _ _ _ _ _ _ _ _ k) k
  | pop => cases st <;> first | exact k | exact am_b_m (fun k => hXY _ _ _ _ _ _ _ _ _ _ _ k) k
  | dup_x1 =>
    rcases st with _ | ⟨v, _ | ⟨w, r⟩⟩
    · exact k
    · exact k
    · exact am_b_m (fun k => hXY _ _ _ _ _ _ _ _ _ _ _ k) k
  | dup2 =>
    rcases st with _ | ⟨v, _ | ⟨w, r⟩⟩
    · exact k
    · exact k
    · exact am_b_m (fun k => hXY _ _ _ _ _ _ _ _ _ _ _ k) k
  | dup_x2 =>
    rcases st with _ | ⟨v, _ | ⟨w, _ | ⟨u, r⟩⟩⟩
    · exact k
    · exact k
    · exact k
    · exact am_b_m (fun k => hXY _ _ _ _ _ _ _ _ _ _ _ k) k
  | ifCond c o => exact am_i1_m (fun _ _ k => am_if0_m (fun k => hXY _ _ _ _ _ _ _ _ _ _ _ k) (fun k => hXY _ _ _ _ _ _ _ _ _ _ _ k) k) k
  | if_icmp c o => exact am_i2_m (fun _ _ _ k => am_if2_m (fun k => hXY _ _ _ _ _ _ _ _ _ _ _ k) (fun k => hXY _ _ _ _ _ _ _ _ _ _ _ k) k) k
  | goto o => exact hXY _ _ _ _ _ _ _ _ _ _ _ k
  | tableswitch d0 lo hi offs => exact am_i1_m (fun _ _ k => am_sw_m (fun _ k => hXY _ _ _ _ _ _ _ _ _ _ _ k) _ k) k
  | lookupswitch d0 ps => exact am_i1_m (fun _ _ k => am_sw_m (fun _ k => hXY _ _ _ _ _ _ _ _ _ _ _ k) _ k) k
  | getfield i => exact am_getf_m hXY k
  | putfield i => exact am_putf_m hXY k
  | iaload => exact am_iald_m hXY k
  | iastore => exact am_iast_m hXY k
  | aaload => exact am_aald_m hXY k
  | aastore => exact am_aast_m hXY k
  | arraylength => exact am_alen_m hXY k
  | new i => exact am_mk_m hXY k
  | newarray t => exact am_i1_m (fun _ _ k => ⟨k.1, am_mk_m hXY k.2⟩) k
  | anewarray i => exact am_i1_m (fun _ _ k => ⟨k.1, am_mk_m hXY k.2⟩) k
  | invokespecial i => exact am_inv_m hXY k
  | invokevirtual i => exact am_inv_m hXY k
  | invokestatic i => exact am_inv_m hXY k
  | ireturn => exact k
  | return_ => exact k
  | _ => exact k.elim
theorem am_in (h : am_F am d mi pc lv st L g bc bs sx Q) : am d mi pc lv st L g bc bs sx Q := fun X hX => hX _ _ _ _ _ _ _ _ _ _ _ (am_F_m (fun _ _ _ _ _ _ _ _ _ _ _ q => q X hX) h)
def am_k : Nat → am_X
  | 0 => am
  | n + 1 => am_F (am_k n)
theorem am_run_k : ∀ (n : Nat) {d mi pc : Nat} {lv : am_V} {st : List Value} {L : am_L} {g : am_G} {bc bs : Nat} {sx : am_S} {Q : am_Q}, am_k n d mi pc lv st L g bc bs sx Q → am d mi pc lv st L g bc bs sx Q
  | 0, _, _, _, _, _, _, _, _, _, _, _, h => h
  | n + 1, _, _, _, _, _, _, _, _, _, _, _, h => am_in (am_F_m (fun _ _ _ _ _ _ _ _ _ _ _ q => am_run_k n q) h)
end AMM
