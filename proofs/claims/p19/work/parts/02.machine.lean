/-! A machine of my own over the kit's: cells by number, one memory of ints, one layout; 'am' is its least predicate of runs that end; am_sound (part 04) ties it to W. -/
abbrev am_D : Type := Nat × Nat × (Nat → Nat)
abbrev am_L : Type := List am_D
abbrev am_G : Type := Nat → Nat → Int32
abbrev am_Q : Type := Option Value → am_L → am_G → Prop
abbrev am_S : Type := Option (Nat × (Nat → Int32))
abbrev am_V : Type := List (Option Value)

abbrev am_X : Type := Nat → Nat → Nat → am_V → List Value → am_L → am_G → Nat → Nat → am_S → am_Q → Prop
/-- the script's own number -/
def am_scr : Nat := 1000
def am_at : am_L → Nat → Option am_D
  | [], _ => none
  | d :: _, 0 => some d
  | _ :: l, k + 1 => am_at l k
def am_put : am_L → Nat → am_D → am_L
  | [], _, _ => []
  | _ :: l, 0, e => e :: l
  | d :: l, k + 1, e => d :: am_put l k e
def am_vat : am_V → Nat → Option Value
  | [], _ => none
  | v :: _, 0 => v
  | _ :: l, k + 1 => am_vat l k
def am_vset : am_V → Nat → Value → am_V
  | [], _, _ => []
  | _ :: l, 0, e => some e :: l
  | v :: l, k + 1, e => v :: am_vset l k e
def am_up (g : am_G) (k i : Nat) (x : Int32) : am_G := fun a => if a = k then upd (g k) i x else g a
def am_upc (g : am_G) (k : Nat) (f : Nat → Int32) : am_G := fun a => if a = k then f else g a
/-- the values on a stack -/
def am_kv (sw : List (Int32 × Nat)) (f : Int32 → Prop) : Prop := match sw with | (v, _) :: _ => f v | [] => False
def am_i1 (st : List Value) (f : Int32 → List Value → Prop) : Prop := match st with | .int x :: r => f x r | _ => False
def am_i2 (st : List Value) (f : Int32 → Int32 → List Value → Prop) : Prop := match st with | .int y :: .int x :: r => f x y r | _ => False
def am_l2 (st : List Value) (f : Int64 → Int64 → List Value → Prop) : Prop := match st with | .long y :: .long x :: r => f x y r | _ => False
def am_r1 (st : List Value) (f : Nat → List Value → Prop) : Prop := match st with | .ref x :: r => f x r | _ => False
def am_ia (st : List Value) (f : Nat → Int32 → List Value → Prop) : Prop := match st with | .int i :: .ref k :: r => f k i r | _ => False
def am_iai (st : List Value) (f : Nat → Int32 → Int32 → List Value → Prop) : Prop := match st with | .int x :: .int i :: .ref k :: r => f k i x r | _ => False
def am_ld (lv : am_V) (i : Nat) (f : Value → Prop) : Prop := match am_vat lv i with | some v => f v | none => False
def am_cat1 (v : Value) : Bool := match v with | .int _ => true | .ref _ => true | .null => true | _ => false
def am_isi (v : Value) : Bool := match v with | .int _ => true | _ => false
def am_isr (v : Value) : Bool := match v with | .ref _ => true | _ => false
def am_b (c : Bool) (P : Prop) : Prop := match c with | true => P | false => False
def am_if0 (c : ClassFile.Cond) (x : Int32) (T N : Prop) : Prop := match c with
  | .eq => (x = 0 → T) ∧ (¬ x = 0 → N)
  | .ne => (¬ x = 0 → T) ∧ (x = 0 → N)
  | .lt => (x < 0 → T) ∧ (¬ x < 0 → N)
  | .ge => (0 ≤ x → T) ∧ (¬ 0 ≤ x → N)
  | .gt => (0 < x → T) ∧ (¬ 0 < x → N)
  | .le => (x ≤ 0 → T) ∧ (¬ x ≤ 0 → N)
def am_if2 (c : ClassFile.Cond) (x y : Int32) (T N : Prop) : Prop := match c with
  | .eq => (x = y → T) ∧ (¬ x = y → N)
  | .ne => (¬ x = y → T) ∧ (x = y → N)
  | .lt => (x < y → T) ∧ (¬ x < y → N)
  | .ge => (y ≤ x → T) ∧ (¬ y ≤ x → N)
  | .gt => (y < x → T) ∧ (¬ y < x → N)
  | .le => (x ≤ y → T) ∧ (¬ x ≤ y → N)
/-- a switch: the first number that it is, or none of them -/
def am_sw (x : Int32) (K : Nat → Prop) (d : Nat) : List (Int32 × Nat) → Prop
  | [] => K d
  | (v, t) :: l => (x = v → K t) ∧ (¬ x = v → am_sw x K d l)
def am_words : List Value → Nat
  | [] => 0
  | v :: l => v.category + am_words l
def am_rok (n : Nat) (v : Value) : Bool := match v with | .ref k => Nat.blt k n || Nat.beq k am_scr | _ => true
def am_vok (n : Nat) : am_V → Bool
  | [] => true
  | none :: l => am_vok n l
  | some v :: l => am_rok n v && am_vok n l
def am_sok (n : Nat) : List Value → Bool
  | [] => true
  | v :: l => am_rok n v && am_sok n l
/-- the references of a layout point into it -/
def am_fok (n : Nat) (rf : Nat → Nat) : Nat → Bool
  | 0 => true
  | j + 1 => Nat.ble (rf j) n && am_fok n rf j
def am_lok (n : Nat) : am_L → Bool
  | [] => true
  | d :: l => am_fok n d.2.2 d.2.1 && am_lok n l
def am_fresh (n : Nat) (lv : am_V) (st : List Value) : Bool := am_vok n lv && am_sok n st
def am_pop (n : Nat) (st : List Value) : List Value := st.take n
def am_ent (nl n : Nat) (st : List Value) : am_V := ((st.take n).reverse.map some) ++ List.replicate (nl - n) none
def am_rcv (a : Nat) (L : am_L) (v : Option Value) : Bool := match v with
  | some (.ref k) => (match am_at L k with | some d => Nat.beq d.1 (am_ci a + 2) | none => false)
  | _ => false
def am_cok (a : Nat) (lv : am_V) (st : List Value) (L : am_L) (bc bs : Nat) : Bool :=
  Nat.ble (am_na a) st.length && (st.take (am_na a)).all am_cat1 && Nat.ble (am_words (st.drop (am_na a))) 8 && Nat.ble (am_mc a) bc && Nat.ble (am_ms a) bs
    && (Nat.beq (am_mc a) 0 || am_fresh L.length lv (st.drop (am_na a))) && (Nat.beq (am_kd a) 0 || am_rcv a L ((st.take (am_na a)).getLast?))
def am_call (X : am_X) (d mi nx a : Nat) (lv : am_V) (st : List Value) (L : am_L) (g : am_G) (bc bs : Nat) (sx : am_S) (Q : am_Q) : Prop :=
  am_b (am_cok a lv st L bc bs) (match d with
    | 0 => False
    | d' + 1 => ∃ Q1 : am_Q, X d' a 0 (am_ent (am_nl a) (am_na a) st) [] L g (am_mc a) (am_ms a) none Q1 ∧
        ∀ (r : Option Value) (L' : am_L) (g' : am_G), Q1 r L' g' → X (d' + 1) mi nx lv (r.toList ++ st.drop (am_na a)) L' g' (bc - am_mc a) (bs - am_ms a) sx Q)
def am_inv (X : am_X) (d mi nx a : Nat) (lv : am_V) (st : List Value) (L : am_L) (g : am_G) (bc bs : Nat) (sx : am_S) (Q : am_Q) : Prop :=
  match Nat.blt a 997 with
  | true => am_call X d mi nx a lv st L g bc bs sx Q
  | false => am_b (Nat.blt 0 d && Nat.ble (am_words st) 8) (match Nat.beq a 999 with
    | true => am_r1 st (fun _ r => X d mi nx lv r L g bc bs sx Q)
    | false => match Nat.beq a 998 with
      | true => am_i2 st (fun x y r => X d mi nx lv (.int (if x < y then y else x) :: r) L g bc bs sx Q)
      | false => am_i2 st (fun x y r => X d mi nx lv (.int (if y < x then y else x) :: r) L g bc bs sx Q))
def am_getf (X : am_X) (d mi nx a b : Nat) (lv : am_V) (st : List Value) (L : am_L) (g : am_G) (bc bs : Nat) (sx : am_S) (Q : am_Q) : Prop :=
  am_r1 st (fun k r => match am_at L k with
    | some (t, n, rf) => am_b (Nat.beq t (a + 2) && Nat.blt b n) (match am_isref a b with
      | true => (match rf b with
        | 0 => X d mi nx lv (.null :: r) L g bc bs sx Q
        | v + 1 => X d mi nx lv (.ref v :: r) L g bc bs sx Q)
      | false => X d mi nx lv (.int (g k b) :: r) L g bc bs sx Q)
    | none => False)
def am_putf (X : am_X) (d mi nx a b : Nat) (lv : am_V) (st : List Value) (L : am_L) (g : am_G) (bc bs : Nat) (sx : am_S) (Q : am_Q) : Prop :=
  match st with
  | .int x :: .ref k :: r => (match am_at L k with
    | some (t, n, _) => am_b (Nat.beq t (a + 2) && Nat.blt b n && !am_isref a b) (X d mi nx lv r L (am_up g k b x) bc bs sx Q)
    | none => False)
  | .ref v :: .ref k :: r => (match am_at L k with
    | some (t, n, rf) => am_b (Nat.beq t (a + 2) && Nat.blt b n && am_isref a b) (X d mi nx lv r (am_put L k (t, n, fun j => if j = b then v + 1 else rf j)) g bc bs sx Q)
    | none => False)
  | _ => False
def am_iald (X : am_X) (d mi nx : Nat) (lv : am_V) (st : List Value) (L : am_L) (g : am_G) (bc bs : Nat) (sx : am_S) (Q : am_Q) : Prop :=
  am_ia st (fun k i r => match Nat.beq k am_scr with
    | true => (match sx with
      | some (n, xs) => vp_in i n ∧ X d mi nx lv (.int (xs i.toNatClampNeg) :: r) L g bc bs sx Q
      | none => False)
    | false => (match am_at L k with
      | some (0, n, _) => vp_in i n ∧ X d mi nx lv (.int (g k i.toNatClampNeg) :: r) L g bc bs sx Q
      | _ => False))
def am_iast (X : am_X) (d mi nx : Nat) (lv : am_V) (st : List Value) (L : am_L) (g : am_G) (bc bs : Nat) (sx : am_S) (Q : am_Q) : Prop :=
  am_iai st (fun k i x r => match am_at L k with
    | some (0, n, _) => vp_in i n ∧ X d mi nx lv r L (am_up g k i.toNatClampNeg x) bc bs sx Q
    | _ => False)
def am_aald (X : am_X) (d mi nx : Nat) (lv : am_V) (st : List Value) (L : am_L) (g : am_G) (bc bs : Nat) (sx : am_S) (Q : am_Q) : Prop :=
  am_ia st (fun k i r => match am_at L k with
    | some (1, n, rf) => vp_in i n ∧ (match rf i.toNatClampNeg with
      | 0 => X d mi nx lv (.null :: r) L g bc bs sx Q
      | v + 1 => X d mi nx lv (.ref v :: r) L g bc bs sx Q)
    | _ => False)
def am_aast (X : am_X) (d mi nx : Nat) (lv : am_V) (st : List Value) (L : am_L) (g : am_G) (bc bs : Nat) (sx : am_S) (Q : am_Q) : Prop :=
  match st with
  | .ref v :: .int i :: .ref k :: r => (match am_at L k, am_at L v with
    | some (1, n, rf), some (t, _, _) => am_b (Nat.beq t (am_shc + 2)) (vp_in i n ∧ X d mi nx lv r (am_put L k (1, n, fun j => if j = i.toNatClampNeg then v + 1 else rf j)) g bc bs sx Q)
    | _, _ => False)
  | _ => False
def am_alen (X : am_X) (d mi nx : Nat) (lv : am_V) (st : List Value) (L : am_L) (g : am_G) (bc bs : Nat) (sx : am_S) (Q : am_Q) : Prop :=
  am_r1 st (fun k r => match Nat.beq k am_scr with
    | true => (match sx with
      | some (n, _) => X d mi nx lv (.int (Int32.ofNat n) :: r) L g bc bs sx Q
      | none => False)
    | false => (match am_at L k with
      | some (0, n, _) => X d mi nx lv (.int (Int32.ofNat n) :: r) L g bc bs sx Q
      | some (1, n, _) => X d mi nx lv (.int (Int32.ofNat n) :: r) L g bc bs sx Q
      | _ => False))
/-- a new cell of a layout -/
def am_mk (X : am_X) (d mi nx : Nat) (e : am_D) (lv : am_V) (st : List Value) (L : am_L) (g : am_G) (bc bs : Nat) (sx : am_S) (Q : am_Q) : Prop :=
  am_b (Nat.ble 1 bc && Nat.ble e.2.1 bs && am_fresh L.length lv st && am_lok L.length L && Nat.blt L.length am_scr)
    (X d mi nx lv (.ref L.length :: st) (L ++ [e]) (am_upc g L.length (fun _ => 0)) (bc - 1) (bs - e.2.1) sx Q)
def am_ret (rk : Nat) (st : List Value) (P : Value → Prop) : Prop := match st with
  | [.int v] => (match rk with | 1 => P (.int v) | 2 => (v = 0 ∨ v = 1) ∧ P (.int v) | 3 => P (.int v) | _ => False)
  | _ => False
def am_F (X : am_X) : am_X := fun d mi pc lv st L g bc bs sx Q =>
  match am_cd mi pc with
  | (ins, nx, a, b, sw) =>
  match ins with
  | .iconst _ => am_kv sw (fun v => X d mi nx lv (.int v :: st) L g bc bs sx Q)
  | .bipush _ => am_kv sw (fun v => X d mi nx lv (.int v :: st) L g bc bs sx Q)
  | .sipush _ => am_kv sw (fun v => X d mi nx lv (.int v :: st) L g bc bs sx Q)
  | .ldc _ => am_kv sw (fun v => X d mi nx lv (.int v :: st) L g bc bs sx Q)
  | .ldc_w _ => am_kv sw (fun v => X d mi nx lv (.int v :: st) L g bc bs sx Q)
  | .iload _ => am_ld lv a (fun v => am_b (am_isi v) (X d mi nx lv (v :: st) L g bc bs sx Q))
  | .iload_n _ => am_ld lv a (fun v => am_b (am_isi v) (X d mi nx lv (v :: st) L g bc bs sx Q))
  | .aload _ => am_ld lv a (fun v => am_b (am_isr v) (X d mi nx lv (v :: st) L g bc bs sx Q))
  | .aload_n _ => am_ld lv a (fun v => am_b (am_isr v) (X d mi nx lv (v :: st) L g bc bs sx Q))
  | .istore _ => am_i1 st (fun x r => am_b (Nat.blt a lv.length) (X d mi nx (am_vset lv a (.int x)) r L g bc bs sx Q))
  | .istore_n _ => am_i1 st (fun x r => am_b (Nat.blt a lv.length) (X d mi nx (am_vset lv a (.int x)) r L g bc bs sx Q))
  | .astore _ => am_r1 st (fun x r => am_b (Nat.blt a lv.length) (X d mi nx (am_vset lv a (.ref x)) r L g bc bs sx Q))
  | .astore_n _ => am_r1 st (fun x r => am_b (Nat.blt a lv.length) (X d mi nx (am_vset lv a (.ref x)) r L g bc bs sx Q))
  | .iinc _ _ => am_kv sw (fun c => am_ld lv a (fun v => match v with
      | .int x => X d mi nx (am_vset lv a (.int (x + c))) st L g bc bs sx Q
      | _ => False))
  | .iadd => am_i2 st (fun x y r => X d mi nx lv (.int (x + y) :: r) L g bc bs sx Q)
  | .isub => am_i2 st (fun x y r => X d mi nx lv (.int (x - y) :: r) L g bc bs sx Q)
  | .imul => am_i2 st (fun x y r => X d mi nx lv (.int (x * y) :: r) L g bc bs sx Q)
  | .irem => am_i2 st (fun x y r => (¬ y = 0) ∧ X d mi nx lv (.int (x - x / y * y) :: r) L g bc bs sx Q)
  | .iand => am_i2 st (fun x y r => X d mi nx lv (.int (x &&& y) :: r) L g bc bs sx Q)
  | .ior => am_i2 st (fun x y r => X d mi nx lv (.int (x ||| y) :: r) L g bc bs sx Q)
  | .ixor => am_i2 st (fun x y r => X d mi nx lv (.int (x ^^^ y) :: r) L g bc bs sx Q)
  | .ishl => am_i2 st (fun x y r => X d mi nx lv (.int (x <<< (y &&& 31)) :: r) L g bc bs sx Q)
  | .ishr => am_i2 st (fun x y r => X d mi nx lv (.int (x >>> (y &&& 31)) :: r) L g bc bs sx Q)
  | .iushr => am_i2 st (fun x y r => X d mi nx lv (.int (x.toUInt32 >>> (y.toUInt32 &&& Int32.toUInt32 31)).toInt32 :: r) L g bc bs sx Q)
  | .ineg => am_i1 st (fun x r => X d mi nx lv (.int (-x) :: r) L g bc bs sx Q)
  | .i2b => am_i1 st (fun x r => X d mi nx lv (.int x.toInt8.toInt32 :: r) L g bc bs sx Q)
  | .i2l => am_i1 st (fun x r => X d mi nx lv (.long x.toInt64 :: r) L g bc bs sx Q)
  | .ladd => am_l2 st (fun x y r => X d mi nx lv (.long (x + y) :: r) L g bc bs sx Q)
  | .lcmp => am_l2 st (fun x y r => X d mi nx lv (.int (lg_cmp x y) :: r) L g bc bs sx Q)
  | .dup => (match st with | v :: r => am_b (am_cat1 v) (X d mi nx lv (v :: v :: r) L g bc bs sx Q) | _ => False)
  | .dup_x1 => (match st with | v :: w :: r => am_b (am_cat1 v && am_cat1 w) (X d mi nx lv (v :: w :: v :: r) L g bc bs sx Q) | _ => False)
  | .dup_x2 => (match st with | v :: w :: u :: r => am_b (am_cat1 v && am_cat1 w && am_cat1 u) (X d mi nx lv (v :: w :: u :: v :: r) L g bc bs sx Q) | _ => False)
  | .dup2 => (match st with | v :: w :: r => am_b (am_cat1 v && am_cat1 w) (X d mi nx lv (v :: w :: v :: w :: r) L g bc bs sx Q) | _ => False)
  | .pop => (match st with | v :: r => am_b (am_cat1 v) (X d mi nx lv r L g bc bs sx Q) | _ => False)
  | .ifCond c _ => am_i1 st (fun x r => am_if0 c x (X d mi a lv r L g bc bs sx Q) (X d mi nx lv r L g bc bs sx Q))
  | .if_icmp c _ => am_i2 st (fun x y r => am_if2 c x y (X d mi a lv r L g bc bs sx Q) (X d mi nx lv r L g bc bs sx Q))
  | .goto _ => X d mi a lv st L g bc bs sx Q
  | .tableswitch _ _ _ _ => am_i1 st (fun x r => am_sw x (fun t => X d mi t lv r L g bc bs sx Q) a sw)
  | .lookupswitch _ _ => am_i1 st (fun x r => am_sw x (fun t => X d mi t lv r L g bc bs sx Q) a sw)
  | .getfield _ => am_getf X d mi nx a b lv st L g bc bs sx Q
  | .putfield _ => am_putf X d mi nx a b lv st L g bc bs sx Q
  | .iaload => am_iald X d mi nx lv st L g bc bs sx Q
  | .iastore => am_iast X d mi nx lv st L g bc bs sx Q
  | .aaload => am_aald X d mi nx lv st L g bc bs sx Q
  | .aastore => am_aast X d mi nx lv st L g bc bs sx Q
  | .arraylength => am_alen X d mi nx lv st L g bc bs sx Q
  | .new _ => am_mk X d mi nx (a + 2, am_nf a, fun _ => 0) lv st L g bc bs sx Q
  | .newarray _ => am_i1 st (fun x r => (¬ x < 0 ∧ x.toNatClampNeg ≤ 4096) ∧ am_mk X d mi nx (0, x.toNatClampNeg, fun _ => 0) lv r L g bc bs sx Q)
  | .anewarray _ => am_i1 st (fun x r => (¬ x < 0 ∧ x.toNatClampNeg ≤ 4096) ∧ am_mk X d mi nx (1, x.toNatClampNeg, fun _ => 0) lv r L g bc bs sx Q)
  | .invokespecial _ => am_inv X d mi nx a lv st L g bc bs sx Q
  | .invokevirtual _ => am_inv X d mi nx a lv st L g bc bs sx Q
  | .invokestatic _ => am_inv X d mi nx a lv st L g bc bs sx Q
  | .ireturn => am_ret (am_rk mi) st (fun v => Q (some v) L g)
  | .return_ => (match st with | [] => am_b (Nat.beq (am_rk mi) 0) (Q none L g) | _ => False)
  | _ => False
def am : am_X := fun d mi pc lv st L g bc bs sx Q =>
  ∀ X : am_X, (∀ d mi pc lv st L g bc bs sx Q, am_F X d mi pc lv st L g bc bs sx Q → X d mi pc lv st L g bc bs sx Q) → X d mi pc lv st L g bc bs sx Q
