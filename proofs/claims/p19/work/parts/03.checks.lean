/-! The tables of part 01 against the bytecode and the Statement's words. -/
def am_has (q : Nat) (w : Cond) : Bool := match lw_tbl[q]? with | some v => decide (v = w) | none => false
def am_good (q : Nat) (w : Cond) : Bool := am_has q w && goodWord w
def am_isN : Cond → Bool
  | .fieldLinkNest _ _ _ _ _ _ => true
  | .methodLinkNest _ _ _ _ => true
  | _ => false
def am_host : String := "DeedDesk"
def am_tg (pc : Nat) (off : Int) (a : Nat) : Bool := decide ((pc : Int) + off = (a : Int))
def am_v1 (sw : List (Int32 × Nat)) (f : Int32 → Nat → Bool) : Bool := match sw with | [(v, q)] => f v q | _ => false
def am_swT (pc : Nat) (lo : Int) (offs : Array Int) : Nat → List (Int32 × Nat) → Bool
  | _, [] => true
  | i, (v, t) :: l => decide (v.toInt = lo + (i : Int)) && (match offs[i]? with | some o => am_tg pc o t | none => false) && am_swT pc lo offs (i + 1) l
def am_swL (pc : Nat) : List (Int × Int) → List (Int32 × Nat) → Bool
  | [], [] => true
  | (k, o) :: ps, (v, t) :: l => decide (v.toInt = k) && am_tg pc o t && am_swL pc ps l
  | _, _ => false
def am_fld (mi idx a b : Nat) (sw : List (Int32 × Nat)) : Bool :=
  Nat.blt a 8 && Nat.blt b (am_nf a) && am_v1 sw (fun v q => match decide (v = 0) with
    | true => am_good q (.fieldLink (am_own mi) idx (am_T a b).1 (am_T a b).2.1 (am_T a b).2.2.1)
    | false => am_has q (.fieldLinkNest (am_own mi) idx (am_T a b).1 (am_T a b).2.1 (am_T a b).2.2.1 am_host))
def am_pfl (mi a b : Nat) (sw : List (Int32 × Nat)) : Bool := match (am_T a b).2.2.2 with
  | false => true
  | true => Nat.beq (am_kd mi) 2 && decide ((am_T a b).1 = am_own mi) && am_v1 sw (fun v _ => decide (v = 0))
def am_cll (mi idx a k : Nat) (sw : List (Int32 × Nat)) : Bool :=
  Nat.blt a (am_NM - 1) && Nat.beq (am_kd a) k && am_v1 sw (fun v q => match decide (v = 0) with
    | true => am_good q (.methodLink (am_own mi) idx (am_yy a))
    | false => am_has q (.methodLinkNest (am_own mi) idx (am_yy a) am_host))
def am_okI (mi pc : Nat) (e : am_E) : Bool := match e with
  | (ins, nx, a, b, sw) => match ins with
    | .iconst i => Nat.beq nx (pc + 1) && am_v1 sw (fun v _ => decide (Int32.ofInt i = v))
    | .bipush i => Nat.beq nx (pc + 2) && am_v1 sw (fun v _ => decide ((Int8.ofInt i).toInt32 = v))
    | .sipush i => Nat.beq nx (pc + 3) && am_v1 sw (fun v _ => decide ((Int16.ofInt i).toInt32 = v))
    | .ldc i => Nat.beq nx (pc + 2) && am_v1 sw (fun v q => am_good q (.constant (am_own mi) i v))
    | .ldc_w i => Nat.beq nx (pc + 3) && am_v1 sw (fun v q => am_good q (.constant (am_own mi) i v))
    | .iload i => Nat.beq nx (pc + 2) && Nat.beq a i
    | .aload i => Nat.beq nx (pc + 2) && Nat.beq a i
    | .istore i => Nat.beq nx (pc + 2) && Nat.beq a i
    | .astore i => Nat.beq nx (pc + 2) && Nat.beq a i
    | .iload_n n => Nat.beq nx (pc + 1) && Nat.beq a n.val
    | .aload_n n => Nat.beq nx (pc + 1) && Nat.beq a n.val
    | .istore_n n => Nat.beq nx (pc + 1) && Nat.beq a n.val
    | .astore_n n => Nat.beq nx (pc + 1) && Nat.beq a n.val
    | .iinc i n => Nat.beq nx (pc + 3) && Nat.beq a i && am_v1 sw (fun v _ => decide (Int32.ofInt n = v))
    | .ifCond _ o => Nat.beq nx (pc + 3) && am_tg pc o a
    | .if_icmp _ o => Nat.beq nx (pc + 3) && am_tg pc o a
    | .goto o => Nat.beq nx (pc + 3) && am_tg pc o a
    | .tableswitch d lo hi offs => am_tg pc d a && am_swT pc lo offs 0 sw && decide (hi = lo + (sw.length : Int) - 1)
    | .lookupswitch d ps => am_tg pc d a && am_swL pc ps.toList sw && (ps.toList.zip (ps.toList.drop 1)).all (fun q => decide (q.1.1 < q.2.1))
    | .getfield i => Nat.beq nx (pc + 3) && am_fld mi i a b sw
    | .putfield i => Nat.beq nx (pc + 3) && am_fld mi i a b sw && am_pfl mi a b sw
    | .new i => Nat.beq nx (pc + 3) && Nat.blt a 8 && am_v1 sw (fun _ q => am_good q (.classLink (am_own mi) i (am_R a)))
    | .newarray t => Nat.beq nx (pc + 2) && decide (t = .int)
    | .anewarray i => Nat.beq nx (pc + 3) && am_v1 sw (fun _ q => am_good q (.classLink (am_own mi) i (am_R am_shc)))
    | .invokevirtual i => Nat.beq nx (pc + 3) && am_cll mi i a 1 sw
    | .invokespecial i => Nat.beq nx (pc + 3) && (match Nat.beq a 999 with
      | true => am_v1 sw (fun _ q => am_good q (.methodLink (am_own mi) i objectInit))
      | false => am_cll mi i a 2 sw)
    | .invokestatic i => Nat.beq nx (pc + 3) && (match Nat.beq a 998 with
      | true => am_v1 sw (fun _ q => am_good q (.methodLink (am_own mi) i Lib.Math.max.name))
      | false => match Nat.beq a 997 with
        | true => am_v1 sw (fun _ q => am_good q (.methodLink (am_own mi) i Lib.Math.min.name))
        | false => am_cll mi i a 0 sw)
    | _ => Nat.beq nx (pc + 1)
def am_okE (mi pc : Nat) (e : am_E) : Bool := match e.1 with
  | .nop => true
  | _ => decide (decode (am_by mi) pc = .ok (e.1, e.2.1 - pc)) && am_okI mi pc e
def am_okP (mi : Nat) : Nat → Bool
  | 0 => true
  | k + 1 => am_okE mi k (am_tr0 mi k) && am_okP mi k
def am_okM (mi : Nat) : Bool :=
  am_good ((am_pw mi).getD 1 0) (match am_kd mi with | 0 => .static (am_yy mi) | _ => .instanceMethod (am_yy mi))
  && (match am_kd mi with | 1 => am_good ((am_pw mi).getD 2 0) (.selects (am_yy mi).cls (am_yy mi) (am_yy mi)) | _ => true)
  && am_good ((am_pw mi).getD 3 0) (.initialized (am_yy mi).cls)
  && decide ((am_yy mi).cls = am_own mi) && (match am_kd mi with | 0 => true | _ => decide ((am_yy mi).cls = am_R (am_ci mi)) && Nat.blt (am_ci mi) 8)
  && decide ((am_yy mi).cls ≠ "java/lang/invoke/MethodHandle") && decide ((am_yy mi).cls ≠ "java/lang/invoke/VarHandle")
  && decide ((parseMethodDescriptor (am_yy mi).desc).map (fun d => d.parameters.length) = some (am_na mi - (match am_kd mi with | 0 => 0 | _ => 1)))
  && (match am_kd mi with | 0 => true | _ => Nat.blt 0 (am_na mi)) && (match am_kd mi with | 2 => decide ((am_yy mi).name = "<init>") && Nat.beq (am_rk mi) 0 | _ => true)
  && (match am_rk mi with | 0 => decide (am_rt mi = none) | 1 => decide (am_rt mi = some .int) | 2 => decide (am_rt mi = some .boolean) | _ => false)
  && Nat.ble (am_na mi) (am_nl mi) && Nat.ble (am_nl mi) 20 && plainName (am_yy mi).cls && Nat.blt (am_kd mi) 3
def am_okC (c : Nat) : Bool :=
  (u_ws (am_R c) (am_T c) (am_nf c)).all (fun w => decide (w ∈ lw_tbl) && goodWord w)
  && (List.range (am_nf c)).all (fun k => decide (parseFieldDescriptor (am_T c k).2.2.1 = some (am_ty c k)) && (match am_isref c k with
      | false => decide (am_ty c k = .int)
      | true => (match am_ty c k with | .object _ => true | .array _ => true | _ => false)))
  && (List.range (am_nf c)).all (fun a => (List.range (am_nf c)).all (fun b => Nat.beq a b || decide ((am_T c a).2.1 ≠ (am_T c b).2.1)))
  && am_good ((am_cw c).getD 0 0) (.instantiable (am_R c) (am_nf c)) && am_good ((am_cw c).getD 1 0) (.initialized (am_R c))
  && (List.range (am_nf c)).all (fun k => decide ((am_T c k).1 = am_R c))
set_option maxRecDepth 100000 in
theorem am_ckC : (List.range 8).all am_okC = true := by decide +kernel
set_option maxRecDepth 100000 in
theorem am_ckM : (List.range 137).all am_okM = true := by decide +kernel
set_option maxRecDepth 100000 in
theorem am_ckP0 : (List.range' 0 20).all (fun i => am_okP i (am_sz i)) = true := by decide +kernel
set_option maxRecDepth 100000 in
theorem am_ckP1 : (List.range' 20 20).all (fun i => am_okP i (am_sz i)) = true := by decide +kernel
set_option maxRecDepth 100000 in
theorem am_ckP2 : (List.range' 40 20).all (fun i => am_okP i (am_sz i)) = true := by decide +kernel
set_option maxRecDepth 100000 in
theorem am_ckP3 : (List.range' 60 23).all (fun i => am_okP i (am_sz i)) = true := by decide +kernel
set_option maxRecDepth 100000 in
theorem am_ckP4 : (List.range' 83 17).all (fun i => am_okP i (am_sz i)) = true := by decide +kernel
set_option maxRecDepth 100000 in
theorem am_ckP5 : (List.range' 100 15).all (fun i => am_okP i (am_sz i)) = true := by decide +kernel
set_option maxRecDepth 100000 in
theorem am_ckP6 : (List.range' 115 22).all (fun i => am_okP i (am_sz i)) = true := by decide +kernel
