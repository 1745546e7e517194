section
-- ===== PART A: goes FIRST, ahead of the names: the tables' words, and 'selects' of the private methods out of them =====
/-- a private method of a class that the tables say can be made, by its rows of tables_1 -/
def lw_okq (q : MethodName × Nat) : Prop := (q.1.cls ≠ "java/lang/invoke/MethodHandle" ∧ q.1.cls ≠ "java/lang/invoke/VarHandle") ∧ Cond.instantiable q.1.cls q.2 ∈ tables_1 ∧ Cond.privateMethod q.1 ∈ tables_1 ∧ Cond.instanceMethod q.1 ∈ tables_1
theorem lw_p0 : lw_okq (⟨"DeedDesk", "areFinds", "([III)Z"⟩, 4) := ⟨⟨by decide +kernel, by decide +kernel⟩, List.mem_of_getElem? (i := 12) (by decide +kernel), List.mem_of_getElem? (i := 284) (by decide +kernel), List.mem_of_getElem? (i := 285) (by decide +kernel)⟩
theorem lw_p1 : lw_okq (⟨"DeedDesk", "layFinds", "([III)V"⟩, 4) := ⟨⟨by decide +kernel, by decide +kernel⟩, List.mem_of_getElem? (i := 12) (by decide +kernel), List.mem_of_getElem? (i := 288) (by decide +kernel), List.mem_of_getElem? (i := 289) (by decide +kernel)⟩
theorem lw_p2 : lw_okq (⟨"DeedDesk$Ways", "listen", "(LDeedDesk$Scene;II)V"⟩, 6) := ⟨⟨by decide +kernel, by decide +kernel⟩, List.mem_of_getElem? (i := 120) (by decide +kernel), List.mem_of_getElem? (i := 334) (by decide +kernel), List.mem_of_getElem? (i := 335) (by decide +kernel)⟩
theorem lw_p3 : lw_okq (⟨"DeedDesk$Ways", "hear", "([II)V"⟩, 6) := ⟨⟨by decide +kernel, by decide +kernel⟩, List.mem_of_getElem? (i := 120) (by decide +kernel), List.mem_of_getElem? (i := 341) (by decide +kernel), List.mem_of_getElem? (i := 342) (by decide +kernel)⟩
theorem lw_p4 : lw_okq (⟨"DeedDesk$Ways", "fits", "(LDeedDesk$House;I)Z"⟩, 6) := ⟨⟨by decide +kernel, by decide +kernel⟩, List.mem_of_getElem? (i := 120) (by decide +kernel), List.mem_of_getElem? (i := 351) (by decide +kernel), List.mem_of_getElem? (i := 352) (by decide +kernel)⟩
theorem lw_p5 : lw_okq (⟨"DeedDesk$Ways", "gather", "(LDeedDesk$Scene;I)V"⟩, 6) := ⟨⟨by decide +kernel, by decide +kernel⟩, List.mem_of_getElem? (i := 120) (by decide +kernel), List.mem_of_getElem? (i := 376) (by decide +kernel), List.mem_of_getElem? (i := 377) (by decide +kernel)⟩
theorem lw_p6 : lw_okq (⟨"DeedDesk$Ways", "trace", "(LDeedDesk$Scene;II)V"⟩, 6) := ⟨⟨by decide +kernel, by decide +kernel⟩, List.mem_of_getElem? (i := 120) (by decide +kernel), List.mem_of_getElem? (i := 380) (by decide +kernel), List.mem_of_getElem? (i := 381) (by decide +kernel)⟩
theorem lw_p7 : lw_okq (⟨"DeedDesk$Ways", "canBeTaken", "(II)Z"⟩, 6) := ⟨⟨by decide +kernel, by decide +kernel⟩, List.mem_of_getElem? (i := 120) (by decide +kernel), List.mem_of_getElem? (i := 384) (by decide +kernel), List.mem_of_getElem? (i := 385) (by decide +kernel)⟩
theorem lw_p8 : lw_okq (⟨"DeedDesk$Maker", "build", "(LDeedDesk$House;)V"⟩, 2) := ⟨⟨by decide +kernel, by decide +kernel⟩, List.mem_of_getElem? (i := 145) (by decide +kernel), List.mem_of_getElem? (i := 445) (by decide +kernel), List.mem_of_getElem? (i := 446) (by decide +kernel)⟩
theorem lw_p9 : lw_okq (⟨"DeedDesk$Maker", "draw", "(I)I"⟩, 2) := ⟨⟨by decide +kernel, by decide +kernel⟩, List.mem_of_getElem? (i := 145) (by decide +kernel), List.mem_of_getElem? (i := 451) (by decide +kernel), List.mem_of_getElem? (i := 452) (by decide +kernel)⟩
theorem lw_p10 : lw_okq (⟨"DeedDesk$Maker", "wander", "(LDeedDesk$House;I)V"⟩, 2) := ⟨⟨by decide +kernel, by decide +kernel⟩, List.mem_of_getElem? (i := 145) (by decide +kernel), List.mem_of_getElem? (i := 457) (by decide +kernel), List.mem_of_getElem? (i := 458) (by decide +kernel)⟩
theorem lw_p11 : lw_okq (⟨"DeedDesk$Maker", "approach", "(LDeedDesk$Scene;II)V"⟩, 2) := ⟨⟨by decide +kernel, by decide +kernel⟩, List.mem_of_getElem? (i := 145) (by decide +kernel), List.mem_of_getElem? (i := 467) (by decide +kernel), List.mem_of_getElem? (i := 468) (by decide +kernel)⟩
theorem lw_p12 : lw_okq (⟨"DeedDesk$Maker", "at", "(II)I"⟩, 2) := ⟨⟨by decide +kernel, by decide +kernel⟩, List.mem_of_getElem? (i := 145) (by decide +kernel), List.mem_of_getElem? (i := 480) (by decide +kernel), List.mem_of_getElem? (i := 481) (by decide +kernel)⟩
theorem lw_p13 : lw_okq (⟨"DeedDesk$Maker", "turnAway", "(LDeedDesk$Scene;I)V"⟩, 2) := ⟨⟨by decide +kernel, by decide +kernel⟩, List.mem_of_getElem? (i := 145) (by decide +kernel), List.mem_of_getElem? (i := 484) (by decide +kernel), List.mem_of_getElem? (i := 485) (by decide +kernel)⟩
theorem lw_p14 : lw_okq (⟨"DeedDesk$Maker", "writeClues", "(LDeedDesk$Scene;II)V"⟩, 2) := ⟨⟨by decide +kernel, by decide +kernel⟩, List.mem_of_getElem? (i := 145) (by decide +kernel), List.mem_of_getElem? (i := 488) (by decide +kernel), List.mem_of_getElem? (i := 489) (by decide +kernel)⟩
theorem lw_p15 : lw_okq (⟨"DeedDesk$Maker", "writePlace", "(LDeedDesk$Notes;II)V"⟩, 2) := ⟨⟨by decide +kernel, by decide +kernel⟩, List.mem_of_getElem? (i := 145) (by decide +kernel), List.mem_of_getElem? (i := 493) (by decide +kernel), List.mem_of_getElem? (i := 494) (by decide +kernel)⟩
def lw_privs_1 : List (MethodName × Nat) := [(⟨"DeedDesk", "areFinds", "([III)Z"⟩, 4), (⟨"DeedDesk", "layFinds", "([III)V"⟩, 4), (⟨"DeedDesk$Ways", "listen", "(LDeedDesk$Scene;II)V"⟩, 6), (⟨"DeedDesk$Ways", "hear", "([II)V"⟩, 6), (⟨"DeedDesk$Ways", "fits", "(LDeedDesk$House;I)Z"⟩, 6), (⟨"DeedDesk$Ways", "gather", "(LDeedDesk$Scene;I)V"⟩, 6), (⟨"DeedDesk$Ways", "trace", "(LDeedDesk$Scene;II)V"⟩, 6), (⟨"DeedDesk$Ways", "canBeTaken", "(II)Z"⟩, 6), (⟨"DeedDesk$Maker", "build", "(LDeedDesk$House;)V"⟩, 2), (⟨"DeedDesk$Maker", "draw", "(I)I"⟩, 2), (⟨"DeedDesk$Maker", "wander", "(LDeedDesk$House;I)V"⟩, 2), (⟨"DeedDesk$Maker", "approach", "(LDeedDesk$Scene;II)V"⟩, 2), (⟨"DeedDesk$Maker", "at", "(II)I"⟩, 2), (⟨"DeedDesk$Maker", "turnAway", "(LDeedDesk$Scene;I)V"⟩, 2), (⟨"DeedDesk$Maker", "writeClues", "(LDeedDesk$Scene;II)V"⟩, 2), (⟨"DeedDesk$Maker", "writePlace", "(LDeedDesk$Notes;II)V"⟩, 2)]
theorem lw_r1 : ∀ q ∈ lw_privs_1, lw_okq q := List.forall_mem_cons.mpr ⟨lw_p0, List.forall_mem_cons.mpr ⟨lw_p1, List.forall_mem_cons.mpr ⟨lw_p2, List.forall_mem_cons.mpr ⟨lw_p3, List.forall_mem_cons.mpr ⟨lw_p4, List.forall_mem_cons.mpr ⟨lw_p5, List.forall_mem_cons.mpr ⟨lw_p6, List.forall_mem_cons.mpr ⟨lw_p7, List.forall_mem_cons.mpr ⟨lw_p8, List.forall_mem_cons.mpr ⟨lw_p9, List.forall_mem_cons.mpr ⟨lw_p10, List.forall_mem_cons.mpr ⟨lw_p11, List.forall_mem_cons.mpr ⟨lw_p12, List.forall_mem_cons.mpr ⟨lw_p13, List.forall_mem_cons.mpr ⟨lw_p14, List.forall_mem_cons.mpr ⟨lw_p15, fun _ h => absurd h List.not_mem_nil⟩⟩⟩⟩⟩⟩⟩⟩⟩⟩⟩⟩⟩⟩⟩⟩
theorem lw_p16 : lw_okq (⟨"DeedDesk$Maker", "writeSayings", "(LDeedDesk$Scene;)V"⟩, 2) := ⟨⟨by decide +kernel, by decide +kernel⟩, List.mem_of_getElem? (i := 145) (by decide +kernel), List.mem_of_getElem? (i := 498) (by decide +kernel), List.mem_of_getElem? (i := 499) (by decide +kernel)⟩
theorem lw_p17 : lw_okq (⟨"DeedDeskModel", "join", "(II)V"⟩, 22) := ⟨⟨by decide +kernel, by decide +kernel⟩, List.mem_of_getElem? (i := 518) (by decide +kernel), List.mem_of_getElem? (i := 605) (by decide +kernel), List.mem_of_getElem? (i := 606) (by decide +kernel)⟩
theorem lw_p18 : lw_okq (⟨"DeedDeskModel", "isGood", "(IIIII)Z"⟩, 22) := ⟨⟨by decide +kernel, by decide +kernel⟩, List.mem_of_getElem? (i := 518) (by decide +kernel), List.mem_of_getElem? (i := 628) (by decide +kernel), List.mem_of_getElem? (i := 629) (by decide +kernel)⟩
theorem lw_p19 : lw_okq (⟨"DeedDeskModel", "isOne", "(I)Z"⟩, 22) := ⟨⟨by decide +kernel, by decide +kernel⟩, List.mem_of_getElem? (i := 518) (by decide +kernel), List.mem_of_getElem? (i := 632) (by decide +kernel), List.mem_of_getElem? (i := 633) (by decide +kernel)⟩
theorem lw_p20 : lw_okq (⟨"DeedDeskModel", "put", "(IIIII)V"⟩, 22) := ⟨⟨by decide +kernel, by decide +kernel⟩, List.mem_of_getElem? (i := 518) (by decide +kernel), List.mem_of_getElem? (i := 636) (by decide +kernel), List.mem_of_getElem? (i := 637) (by decide +kernel)⟩
theorem lw_p21 : lw_okq (⟨"DeedDeskModel", "free", "()V"⟩, 22) := ⟨⟨by decide +kernel, by decide +kernel⟩, List.mem_of_getElem? (i := 518) (by decide +kernel), List.mem_of_getElem? (i := 675) (by decide +kernel), List.mem_of_getElem? (i := 676) (by decide +kernel)⟩
theorem lw_p22 : lw_okq (⟨"DeedDeskModel", "bind", "(I)V"⟩, 22) := ⟨⟨by decide +kernel, by decide +kernel⟩, List.mem_of_getElem? (i := 518) (by decide +kernel), List.mem_of_getElem? (i := 679) (by decide +kernel), List.mem_of_getElem? (i := 680) (by decide +kernel)⟩
theorem lw_p23 : lw_okq (⟨"DeedDeskModel", "hasWay", "(I)Z"⟩, 22) := ⟨⟨by decide +kernel, by decide +kernel⟩, List.mem_of_getElem? (i := 518) (by decide +kernel), List.mem_of_getElem? (i := 683) (by decide +kernel), List.mem_of_getElem? (i := 684) (by decide +kernel)⟩
theorem lw_p24 : lw_okq (⟨"DeedDeskModel", "around", "(I)I"⟩, 22) := ⟨⟨by decide +kernel, by decide +kernel⟩, List.mem_of_getElem? (i := 518) (by decide +kernel), List.mem_of_getElem? (i := 687) (by decide +kernel), List.mem_of_getElem? (i := 688) (by decide +kernel)⟩
theorem lw_p25 : lw_okq (⟨"DeedDeskModel", "foundBits", "()I"⟩, 22) := ⟨⟨by decide +kernel, by decide +kernel⟩, List.mem_of_getElem? (i := 518) (by decide +kernel), List.mem_of_getElem? (i := 695) (by decide +kernel), List.mem_of_getElem? (i := 696) (by decide +kernel)⟩
theorem lw_p26 : lw_okq (⟨"DeedDeskModel", "suspectsBy", "(I)I"⟩, 22) := ⟨⟨by decide +kernel, by decide +kernel⟩, List.mem_of_getElem? (i := 518) (by decide +kernel), List.mem_of_getElem? (i := 699) (by decide +kernel), List.mem_of_getElem? (i := 700) (by decide +kernel)⟩
theorem lw_p27 : lw_okq (⟨"DeedDeskModel", "couldAny", "(II)Z"⟩, 22) := ⟨⟨by decide +kernel, by decide +kernel⟩, List.mem_of_getElem? (i := 518) (by decide +kernel), List.mem_of_getElem? (i := 703) (by decide +kernel), List.mem_of_getElem? (i := 704) (by decide +kernel)⟩
theorem lw_p28 : lw_okq (⟨"DeedDeskModel", "could", "(III)Z"⟩, 22) := ⟨⟨by decide +kernel, by decide +kernel⟩, List.mem_of_getElem? (i := 518) (by decide +kernel), List.mem_of_getElem? (i := 707) (by decide +kernel), List.mem_of_getElem? (i := 708) (by decide +kernel)⟩
theorem lw_p29 : lw_okq (⟨"DeedDeskModel", "leadBack", "(II)V"⟩, 22) := ⟨⟨by decide +kernel, by decide +kernel⟩, List.mem_of_getElem? (i := 518) (by decide +kernel), List.mem_of_getElem? (i := 711) (by decide +kernel), List.mem_of_getElem? (i := 712) (by decide +kernel)⟩
theorem lw_p30 : lw_okq (⟨"DeedDeskModel", "isTaken", "(I)Z"⟩, 22) := ⟨⟨by decide +kernel, by decide +kernel⟩, List.mem_of_getElem? (i := 518) (by decide +kernel), List.mem_of_getElem? (i := 715) (by decide +kernel), List.mem_of_getElem? (i := 716) (by decide +kernel)⟩
theorem lw_p31 : lw_okq (⟨"DeedDeskModel", "leastSet", "()I"⟩, 22) := ⟨⟨by decide +kernel, by decide +kernel⟩, List.mem_of_getElem? (i := 518) (by decide +kernel), List.mem_of_getElem? (i := 749) (by decide +kernel), List.mem_of_getElem? (i := 750) (by decide +kernel)⟩
def lw_privs_2 : List (MethodName × Nat) := [(⟨"DeedDesk$Maker", "writeSayings", "(LDeedDesk$Scene;)V"⟩, 2), (⟨"DeedDeskModel", "join", "(II)V"⟩, 22), (⟨"DeedDeskModel", "isGood", "(IIIII)Z"⟩, 22), (⟨"DeedDeskModel", "isOne", "(I)Z"⟩, 22), (⟨"DeedDeskModel", "put", "(IIIII)V"⟩, 22), (⟨"DeedDeskModel", "free", "()V"⟩, 22), (⟨"DeedDeskModel", "bind", "(I)V"⟩, 22), (⟨"DeedDeskModel", "hasWay", "(I)Z"⟩, 22), (⟨"DeedDeskModel", "around", "(I)I"⟩, 22), (⟨"DeedDeskModel", "foundBits", "()I"⟩, 22), (⟨"DeedDeskModel", "suspectsBy", "(I)I"⟩, 22), (⟨"DeedDeskModel", "couldAny", "(II)Z"⟩, 22), (⟨"DeedDeskModel", "could", "(III)Z"⟩, 22), (⟨"DeedDeskModel", "leadBack", "(II)V"⟩, 22), (⟨"DeedDeskModel", "isTaken", "(I)Z"⟩, 22), (⟨"DeedDeskModel", "leastSet", "()I"⟩, 22)]
theorem lw_r2 : ∀ q ∈ lw_privs_2, lw_okq q := List.forall_mem_cons.mpr ⟨lw_p16, List.forall_mem_cons.mpr ⟨lw_p17, List.forall_mem_cons.mpr ⟨lw_p18, List.forall_mem_cons.mpr ⟨lw_p19, List.forall_mem_cons.mpr ⟨lw_p20, List.forall_mem_cons.mpr ⟨lw_p21, List.forall_mem_cons.mpr ⟨lw_p22, List.forall_mem_cons.mpr ⟨lw_p23, List.forall_mem_cons.mpr ⟨lw_p24, List.forall_mem_cons.mpr ⟨lw_p25, List.forall_mem_cons.mpr ⟨lw_p26, List.forall_mem_cons.mpr ⟨lw_p27, List.forall_mem_cons.mpr ⟨lw_p28, List.forall_mem_cons.mpr ⟨lw_p29, List.forall_mem_cons.mpr ⟨lw_p30, List.forall_mem_cons.mpr ⟨lw_p31, fun _ h => absurd h List.not_mem_nil⟩⟩⟩⟩⟩⟩⟩⟩⟩⟩⟩⟩⟩⟩⟩⟩
theorem lw_p32 : lw_okq (⟨"DeedDeskModel", "makeHouse", "()V"⟩, 22) := ⟨⟨by decide +kernel, by decide +kernel⟩, List.mem_of_getElem? (i := 518) (by decide +kernel), List.mem_of_getElem? (i := 765) (by decide +kernel), List.mem_of_getElem? (i := 766) (by decide +kernel)⟩
theorem lw_p33 : lw_okq (⟨"DeedDeskModel", "draw", "(I)I"⟩, 22) := ⟨⟨by decide +kernel, by decide +kernel⟩, List.mem_of_getElem? (i := 518) (by decide +kernel), List.mem_of_getElem? (i := 769) (by decide +kernel), List.mem_of_getElem? (i := 770) (by decide +kernel)⟩
theorem lw_p34 : lw_okq (⟨"DeedDeskModel", "makeWays", "()V"⟩, 22) := ⟨⟨by decide +kernel, by decide +kernel⟩, List.mem_of_getElem? (i := 518) (by decide +kernel), List.mem_of_getElem? (i := 774) (by decide +kernel), List.mem_of_getElem? (i := 775) (by decide +kernel)⟩
theorem lw_p35 : lw_okq (⟨"DeedDeskModel", "joinedTo", "(II)I"⟩, 22) := ⟨⟨by decide +kernel, by decide +kernel⟩, List.mem_of_getElem? (i := 518) (by decide +kernel), List.mem_of_getElem? (i := 778) (by decide +kernel), List.mem_of_getElem? (i := 779) (by decide +kernel)⟩
theorem lw_p36 : lw_okq (⟨"DeedDeskModel", "goTo", "(II)V"⟩, 22) := ⟨⟨by decide +kernel, by decide +kernel⟩, List.mem_of_getElem? (i := 518) (by decide +kernel), List.mem_of_getElem? (i := 782) (by decide +kernel), List.mem_of_getElem? (i := 783) (by decide +kernel)⟩
theorem lw_p37 : lw_okq (⟨"DeedDeskModel", "doorsFrom", "(II)I"⟩, 22) := ⟨⟨by decide +kernel, by decide +kernel⟩, List.mem_of_getElem? (i := 518) (by decide +kernel), List.mem_of_getElem? (i := 786) (by decide +kernel), List.mem_of_getElem? (i := 787) (by decide +kernel)⟩
theorem lw_p38 : lw_okq (⟨"DeedDeskModel", "makeSayings", "(I)V"⟩, 22) := ⟨⟨by decide +kernel, by decide +kernel⟩, List.mem_of_getElem? (i := 518) (by decide +kernel), List.mem_of_getElem? (i := 790) (by decide +kernel), List.mem_of_getElem? (i := 791) (by decide +kernel)⟩
def lw_privs_3 : List (MethodName × Nat) := [(⟨"DeedDeskModel", "makeHouse", "()V"⟩, 22), (⟨"DeedDeskModel", "draw", "(I)I"⟩, 22), (⟨"DeedDeskModel", "makeWays", "()V"⟩, 22), (⟨"DeedDeskModel", "joinedTo", "(II)I"⟩, 22), (⟨"DeedDeskModel", "goTo", "(II)V"⟩, 22), (⟨"DeedDeskModel", "doorsFrom", "(II)I"⟩, 22), (⟨"DeedDeskModel", "makeSayings", "(I)V"⟩, 22)]
theorem lw_r3 : ∀ q ∈ lw_privs_3, lw_okq q := List.forall_mem_cons.mpr ⟨lw_p32, List.forall_mem_cons.mpr ⟨lw_p33, List.forall_mem_cons.mpr ⟨lw_p34, List.forall_mem_cons.mpr ⟨lw_p35, List.forall_mem_cons.mpr ⟨lw_p36, List.forall_mem_cons.mpr ⟨lw_p37, List.forall_mem_cons.mpr ⟨lw_p38, fun _ h => absurd h List.not_mem_nil⟩⟩⟩⟩⟩⟩⟩
def lw_privs : List (MethodName × Nat) := lw_privs_1 ++ (lw_privs_2 ++ (lw_privs_3))
def lw_tbl : List Cond := k2_sels lw_privs ++ tables_1
theorem lw_privs_ok : ∀ q ∈ lw_privs, lw_okq q := by
  show ∀ q ∈ lw_privs_1 ++ (lw_privs_2 ++ (lw_privs_3)), lw_okq q
  exact List.forall_mem_append.mpr ⟨lw_r1, List.forall_mem_append.mpr ⟨lw_r2, lw_r3⟩⟩
def RX0 : String := "DeedDesk$House"
def TX0 : u_T := fun k => match k with
  | 0 => ("DeedDesk$House", "near", "[I", true)
  | 1 => ("DeedDesk$House", "step", "[I", true)
  | _ => ("DeedDesk$House", "doors", "I", false)
def tyX0 : Nat → FieldType := fun k => match k with
  | 0 => .array .int
  | 1 => .array .int
  | _ => .int
theorem nmX0 : ∀ a, a < 3 → ∀ b, b < 3 → a ≠ b → (TX0 a).2.1 ≠ (TX0 b).2.1 := by decide +kernel
theorem tyX0_ok : ∀ k, k < 3 → parseFieldDescriptor (TX0 k).2.2.1 = some (tyX0 k) := by decide +kernel
abbrev cX0_init : ByteArray := prog_2_method_1_code
def yX0_init : MethodName := ⟨RX0, "<init>", "()V"⟩
abbrev cX0_clearDoors : ByteArray := prog_2_method_2_code
def yX0_clearDoors : MethodName := ⟨RX0, "clearDoors", "()V"⟩
abbrev cX0_joined : ByteArray := prog_2_method_3_code
def yX0_joined : MethodName := ⟨RX0, "joined", "(II)Z"⟩
abbrev cX0_join : ByteArray := prog_2_method_4_code
def yX0_join : MethodName := ⟨RX0, "join", "(II)V"⟩
abbrev cX0_reached : ByteArray := prog_2_method_5_code
def yX0_reached : MethodName := ⟨RX0, "reached", "(I)I"⟩
abbrev cX0_doorsBetween : ByteArray := prog_2_method_6_code
def yX0_doorsBetween : MethodName := ⟨RX0, "doorsBetween", "(II)I"⟩
abbrev cX0_stepTowards : ByteArray := prog_2_method_7_code
def yX0_stepTowards : MethodName := ⟨RX0, "stepTowards", "(II)I"⟩
abbrev cX0_neighbour : ByteArray := prog_2_method_8_code
def yX0_neighbour : MethodName := ⟨RX0, "neighbour", "(II)I"⟩
def RX1 : String := "DeedDesk$Maker"
def TX1 : u_T := fun k => match k with
  | 0 => ("DeedDesk$Maker", "ways", "[I", true)
  | _ => ("DeedDesk$Maker", "x", "I", false)
def tyX1 : Nat → FieldType := fun k => match k with
  | 0 => .array .int
  | _ => .int
theorem nmX1 : ∀ a, a < 2 → ∀ b, b < 2 → a ≠ b → (TX1 a).2.1 ≠ (TX1 b).2.1 := by decide +kernel
theorem tyX1_ok : ∀ k, k < 2 → parseFieldDescriptor (TX1 k).2.2.1 = some (tyX1 k) := by decide +kernel
abbrev cX1_init : ByteArray := prog_3_method_1_code
def yX1_init : MethodName := ⟨RX1, "<init>", "()V"⟩
abbrev cX1_fill : ByteArray := prog_3_method_2_code
def yX1_fill : MethodName := ⟨RX1, "fill", "(LDeedDesk$Scene;I)I"⟩
abbrev cX1_draw : ByteArray := prog_3_method_3_code
def yX1_draw : MethodName := ⟨RX1, "draw", "(I)I"⟩
abbrev cX1_at : ByteArray := prog_3_method_4_code
def yX1_at : MethodName := ⟨RX1, "at", "(II)I"⟩
abbrev cX1_build : ByteArray := prog_3_method_5_code
def yX1_build : MethodName := ⟨RX1, "build", "(LDeedDesk$House;)V"⟩
abbrev cX1_wander : ByteArray := prog_3_method_6_code
def yX1_wander : MethodName := ⟨RX1, "wander", "(LDeedDesk$House;I)V"⟩
abbrev cX1_approach : ByteArray := prog_3_method_7_code
def yX1_approach : MethodName := ⟨RX1, "approach", "(LDeedDesk$Scene;II)V"⟩
abbrev cX1_turnAway : ByteArray := prog_3_method_8_code
def yX1_turnAway : MethodName := ⟨RX1, "turnAway", "(LDeedDesk$Scene;I)V"⟩
abbrev cX1_writeClues : ByteArray := prog_3_method_9_code
def yX1_writeClues : MethodName := ⟨RX1, "writeClues", "(LDeedDesk$Scene;II)V"⟩
abbrev cX1_writeSayings : ByteArray := prog_3_method_10_code
def yX1_writeSayings : MethodName := ⟨RX1, "writeSayings", "(LDeedDesk$Scene;)V"⟩
abbrev cX1_writePlace : ByteArray := prog_3_method_11_code
def yX1_writePlace : MethodName := ⟨RX1, "writePlace", "(LDeedDesk$Notes;II)V"⟩
def RX2 : String := "DeedDesk$Notes"
def TX2 : u_T := fun k => match k with
  | 0 => ("DeedDesk$Notes", "rows", "[I", true)
  | 1 => ("DeedDesk$Notes", "count", "I", false)
  | 2 => ("DeedDesk$Notes", "foundOnes", "I", false)
  | 3 => ("DeedDesk$Notes", "order", "[I", true)
  | _ => ("DeedDesk$Notes", "foundCount", "I", false)
def tyX2 : Nat → FieldType := fun k => match k with
  | 0 => .array .int
  | 1 => .int
  | 2 => .int
  | 3 => .array .int
  | _ => .int
theorem nmX2 : ∀ a, a < 5 → ∀ b, b < 5 → a ≠ b → (TX2 a).2.1 ≠ (TX2 b).2.1 := by decide +kernel
theorem tyX2_ok : ∀ k, k < 5 → parseFieldDescriptor (TX2 k).2.2.1 = some (tyX2 k) := by decide +kernel
abbrev cX2_init : ByteArray := prog_4_method_1_code
def yX2_init : MethodName := ⟨RX2, "<init>", "()V"⟩
abbrev cX2_holds : ByteArray := prog_4_method_2_code
def yX2_holds : MethodName := ⟨RX2, "holds", "(I)Z"⟩
abbrev cX2_kind : ByteArray := prog_4_method_3_code
def yX2_kind : MethodName := ⟨RX2, "kind", "(I)I"⟩
abbrev cX2_who : ByteArray := prog_4_method_4_code
def yX2_who : MethodName := ⟨RX2, "who", "(I)I"⟩
abbrev cX2_other : ByteArray := prog_4_method_5_code
def yX2_other : MethodName := ⟨RX2, "other", "(I)I"⟩
abbrev cX2_numbers : ByteArray := prog_4_method_6_code
def yX2_numbers : MethodName := ⟨RX2, "numbers", "(I)I"⟩
abbrev cX2_add : ByteArray := prog_4_method_7_code
def yX2_add : MethodName := ⟨RX2, "add", "(IIIII)V"⟩
abbrev cX2_forget : ByteArray := prog_4_method_8_code
def yX2_forget : MethodName := ⟨RX2, "forget", "()V"⟩
abbrev cX2_nameOneFrom : ByteArray := prog_4_method_9_code
def yX2_nameOneFrom : MethodName := ⟨RX2, "nameOneFrom", "(I)Z"⟩
abbrev cX2_isFound : ByteArray := prog_4_method_10_code
def yX2_isFound : MethodName := ⟨RX2, "isFound", "(I)Z"⟩
abbrev cX2_setFound : ByteArray := prog_4_method_11_code
def yX2_setFound : MethodName := ⟨RX2, "setFound", "(IZ)V"⟩
abbrev cX2_foundClues : ByteArray := prog_4_method_12_code
def yX2_foundClues : MethodName := ⟨RX2, "foundClues", "()I"⟩
def RX3 : String := "DeedDesk$Scene"
def TX3 : u_T := fun k => match k with
  | 0 => ("DeedDesk$Scene", "house", "LDeedDesk$House;", true)
  | 1 => ("DeedDesk$Scene", "notes", "LDeedDesk$Notes;", true)
  | 2 => ("DeedDesk$Scene", "lying", "[I", true)
  | 3 => ("DeedDesk$Scene", "people", "I", false)
  | 4 => ("DeedDesk$Scene", "place", "I", false)
  | 5 => ("DeedDesk$Scene", "tick", "I", false)
  | _ => ("DeedDesk$Scene", "victim", "I", false)
def tyX3 : Nat → FieldType := fun k => match k with
  | 0 => .object "DeedDesk$House"
  | 1 => .object "DeedDesk$Notes"
  | 2 => .array .int
  | 3 => .int
  | 4 => .int
  | 5 => .int
  | _ => .int
theorem nmX3 : ∀ a, a < 7 → ∀ b, b < 7 → a ≠ b → (TX3 a).2.1 ≠ (TX3 b).2.1 := by decide +kernel
theorem tyX3_ok : ∀ k, k < 7 → parseFieldDescriptor (TX3 k).2.2.1 = some (tyX3 k) := by decide +kernel
abbrev cX3_init : ByteArray := prog_5_method_1_code
def yX3_init : MethodName := ⟨RX3, "<init>", "()V"⟩
abbrev cX3_isPerson : ByteArray := prog_5_method_2_code
def yX3_isPerson : MethodName := ⟨RX3, "isPerson", "(I)Z"⟩
abbrev cX3_everyone : ByteArray := prog_5_method_3_code
def yX3_everyone : MethodName := ⟨RX3, "everyone", "()I"⟩
abbrev cX3_isFind : ByteArray := prog_5_method_4_code
def yX3_isFind : MethodName := ⟨RX3, "isFind", "(IIIII)Z"⟩
def RX4 : String := "DeedDesk$Sheet"
def TX4 : u_T := fun k => match k with
  | 0 => ("DeedDesk$Sheet", "items", "[I", true)
  | 1 => ("DeedDesk$Sheet", "lane", "I", false)
  | _ => ("DeedDesk$Sheet", "length", "I", false)
def tyX4 : Nat → FieldType := fun k => match k with
  | 0 => .array .int
  | 1 => .int
  | _ => .int
theorem nmX4 : ∀ a, a < 3 → ∀ b, b < 3 → a ≠ b → (TX4 a).2.1 ≠ (TX4 b).2.1 := by decide +kernel
theorem tyX4_ok : ∀ k, k < 3 → parseFieldDescriptor (TX4 k).2.2.1 = some (tyX4 k) := by decide +kernel
abbrev cX4_init : ByteArray := prog_6_method_1_code
def yX4_init : MethodName := ⟨RX4, "<init>", "()V"⟩
abbrev cX4_takenAs : ByteArray := prog_6_method_2_code
def yX4_takenAs : MethodName := ⟨RX4, "takenAs", "(I)I"⟩
abbrev cX4_renew : ByteArray := prog_6_method_3_code
def yX4_renew : MethodName := ⟨RX4, "renew", "(II)V"⟩
def RX5 : String := "DeedDesk$Ways"
def TX5 : u_T := fun k => match k with
  | 0 => ("DeedDesk$Ways", "may", "[I", true)
  | 1 => ("DeedDesk$Ways", "goesOn", "[I", true)
  | 2 => ("DeedDesk$Ways", "takes", "[I", true)
  | 3 => ("DeedDesk$Ways", "soonest", "[I", true)
  | 4 => ("DeedDesk$Ways", "latest", "[I", true)
  | _ => ("DeedDesk$Ways", "cleared", "I", false)
def tyX5 : Nat → FieldType := fun k => match k with
  | 0 => .array .int
  | 1 => .array .int
  | 2 => .array .int
  | 3 => .array .int
  | 4 => .array .int
  | _ => .int
theorem nmX5 : ∀ a, a < 6 → ∀ b, b < 6 → a ≠ b → (TX5 a).2.1 ≠ (TX5 b).2.1 := by decide +kernel
theorem tyX5_ok : ∀ k, k < 6 → parseFieldDescriptor (TX5 k).2.2.1 = some (tyX5 k) := by decide +kernel
abbrev cX5_init : ByteArray := prog_7_method_1_code
def yX5_init : MethodName := ⟨RX5, "<init>", "()V"⟩
abbrev cX5_suspectsOf : ByteArray := prog_7_method_2_code
def yX5_suspectsOf : MethodName := ⟨RX5, "suspectsOf", "(LDeedDesk$Scene;II)I"⟩
abbrev cX5_thingsOf : ByteArray := prog_7_method_3_code
def yX5_thingsOf : MethodName := ⟨RX5, "thingsOf", "(LDeedDesk$Scene;II)I"⟩
abbrev cX5_placeAt : ByteArray := prog_7_method_4_code
def yX5_placeAt : MethodName := ⟨RX5, "placeAt", "(LDeedDesk$Scene;III)I"⟩
abbrev cX5_deny : ByteArray := prog_7_method_5_code
def yX5_deny : MethodName := ⟨RX5, "deny", "(LDeedDesk$Scene;I)Z"⟩
abbrev cX5_listen : ByteArray := prog_7_method_6_code
def yX5_listen : MethodName := ⟨RX5, "listen", "(LDeedDesk$Scene;II)V"⟩
abbrev cX5_hear : ByteArray := prog_7_method_7_code
def yX5_hear : MethodName := ⟨RX5, "hear", "([II)V"⟩
abbrev cX5_gather : ByteArray := prog_7_method_8_code
def yX5_gather : MethodName := ⟨RX5, "gather", "(LDeedDesk$Scene;I)V"⟩
abbrev cX5_fits : ByteArray := prog_7_method_9_code
def yX5_fits : MethodName := ⟨RX5, "fits", "(LDeedDesk$House;I)Z"⟩
abbrev cX5_trace : ByteArray := prog_7_method_10_code
def yX5_trace : MethodName := ⟨RX5, "trace", "(LDeedDesk$Scene;II)V"⟩
abbrev cX5_canBeTaken : ByteArray := prog_7_method_11_code
def yX5_canBeTaken : MethodName := ⟨RX5, "canBeTaken", "(II)Z"⟩
def RX6 : String := "DeedDesk"
def TX6 : u_T := fun k => match k with
  | 0 => ("DeedDesk", "now", "LDeedDesk$Scene;", true)
  | 1 => ("DeedDesk", "ways", "LDeedDesk$Ways;", true)
  | 2 => ("DeedDesk", "maker", "LDeedDesk$Maker;", true)
  | _ => ("DeedDesk", "sheets", "[LDeedDesk$Sheet;", true)
def tyX6 : Nat → FieldType := fun k => match k with
  | 0 => .object "DeedDesk$Scene"
  | 1 => .object "DeedDesk$Ways"
  | 2 => .object "DeedDesk$Maker"
  | _ => .array (.object "DeedDesk$Sheet")
theorem nmX6 : ∀ a, a < 4 → ∀ b, b < 4 → a ≠ b → (TX6 a).2.1 ≠ (TX6 b).2.1 := by decide +kernel
theorem tyX6_ok : ∀ k, k < 4 → parseFieldDescriptor (TX6 k).2.2.1 = some (tyX6 k) := by decide +kernel
abbrev cX6_init : ByteArray := prog_1_method_1_code
def yX6_init : MethodName := ⟨RX6, "<init>", "()V"⟩
abbrev cX6_people : ByteArray := prog_1_method_2_code
def yX6_people : MethodName := ⟨RX6, "people", "(I)I"⟩
abbrev cX6_door : ByteArray := prog_1_method_3_code
def yX6_door : MethodName := ⟨RX6, "door", "(II)I"⟩
abbrev cX6_lies : ByteArray := prog_1_method_4_code
def yX6_lies : MethodName := ⟨RX6, "lies", "(II)I"⟩
abbrev cX6_deed : ByteArray := prog_1_method_5_code
def yX6_deed : MethodName := ⟨RX6, "deed", "(III)I"⟩
abbrev cX6_told : ByteArray := prog_1_method_6_code
def yX6_told : MethodName := ⟨RX6, "told", "(I)I"⟩
abbrev cX6_find : ByteArray := prog_1_method_7_code
def yX6_find : MethodName := ⟨RX6, "find", "(IIIII)I"⟩
abbrev cX6_finds : ByteArray := prog_1_method_8_code
def yX6_finds : MethodName := ⟨RX6, "finds", "(IIII)I"⟩
abbrev cX6_found : ByteArray := prog_1_method_9_code
def yX6_found : MethodName := ⟨RX6, "found", "(IZ)I"⟩
abbrev cX6_about : ByteArray := prog_1_method_10_code
def yX6_about : MethodName := ⟨RX6, "about", "(II)I"⟩
abbrev cX6_clear : ByteArray := prog_1_method_11_code
def yX6_clear : MethodName := ⟨RX6, "clear", "()I"⟩
abbrev cX6_denied : ByteArray := prog_1_method_12_code
def yX6_denied : MethodName := ⟨RX6, "denied", "(I)I"⟩
abbrev cX6_suspects : ByteArray := prog_1_method_13_code
def yX6_suspects : MethodName := ⟨RX6, "suspects", "()I"⟩
abbrev cX6_with : ByteArray := prog_1_method_14_code
def yX6_with : MethodName := ⟨RX6, "with", "(I)I"⟩
abbrev cX6_way : ByteArray := prog_1_method_15_code
def yX6_way : MethodName := ⟨RX6, "way", "(III)I"⟩
abbrev cX6_doer : ByteArray := prog_1_method_16_code
def yX6_doer : MethodName := ⟨RX6, "doer", "()I"⟩
abbrev cX6_next : ByteArray := prog_1_method_17_code
def yX6_next : MethodName := ⟨RX6, "next", "()I"⟩
abbrev cX6_fewest : ByteArray := prog_1_method_18_code
def yX6_fewest : MethodName := ⟨RX6, "fewest", "()I"⟩
abbrev cX6_least : ByteArray := prog_1_method_19_code
def yX6_least : MethodName := ⟨RX6, "least", "()I"⟩
abbrev cX6_claim : ByteArray := prog_1_method_20_code
def yX6_claim : MethodName := ⟨RX6, "claim", "(I)I"⟩
abbrev cX6_make : ByteArray := prog_1_method_21_code
def yX6_make : MethodName := ⟨RX6, "make", "(I)I"⟩
abbrev cX6_sheet : ByteArray := prog_1_method_22_code
def yX6_sheet : MethodName := ⟨RX6, "sheet", "(III)I"⟩
abbrev cX6_drop : ByteArray := prog_1_method_23_code
def yX6_drop : MethodName := ⟨RX6, "drop", "(I)I"⟩
abbrev cX6_item : ByteArray := prog_1_method_24_code
def yX6_item : MethodName := ⟨RX6, "item", "(IIII)I"⟩
abbrev cX6_isPlace : ByteArray := prog_1_method_25_code
def yX6_isPlace : MethodName := ⟨RX6, "isPlace", "(I)Z"⟩
abbrev cX6_isTick : ByteArray := prog_1_method_26_code
def yX6_isTick : MethodName := ⟨RX6, "isTick", "(I)Z"⟩
abbrev cX6_isThing : ByteArray := prog_1_method_27_code
def yX6_isThing : MethodName := ⟨RX6, "isThing", "(I)Z"⟩
abbrev cX6_isSheet : ByteArray := prog_1_method_28_code
def yX6_isSheet : MethodName := ⟨RX6, "isSheet", "(I)Z"⟩
abbrev cX6_isLane : ByteArray := prog_1_method_29_code
def yX6_isLane : MethodName := ⟨RX6, "isLane", "(I)Z"⟩
abbrev cX6_has : ByteArray := prog_1_method_30_code
def yX6_has : MethodName := ⟨RX6, "has", "(II)Z"⟩
abbrev cX6_first : ByteArray := prog_1_method_31_code
def yX6_first : MethodName := ⟨RX6, "first", "(I)I"⟩
abbrev cX6_areFinds : ByteArray := prog_1_method_32_code
def yX6_areFinds : MethodName := ⟨RX6, "areFinds", "([III)Z"⟩
abbrev cX6_layFinds : ByteArray := prog_1_method_33_code
def yX6_layFinds : MethodName := ⟨RX6, "layFinds", "([III)V"⟩
abbrev cX6_search : ByteArray := prog_1_method_34_code
def yX6_search : MethodName := ⟨RX6, "search", "(LDeedDesk$Scene;LDeedDesk$Ways;IIII)I"⟩
def RX7 : String := "DeedDeskModel"
def TX7 : u_T := fun k => match k with
  | 0 => ("DeedDeskModel", "people", "I", false)
  | 1 => ("DeedDeskModel", "doors", "I", false)
  | 2 => ("DeedDeskModel", "joined", "[I", true)
  | 3 => ("DeedDeskModel", "things", "[I", true)
  | 4 => ("DeedDeskModel", "deedPlace", "I", false)
  | 5 => ("DeedDeskModel", "deedTick", "I", false)
  | 6 => ("DeedDeskModel", "victim", "I", false)
  | 7 => ("DeedDeskModel", "finds", "I", false)
  | 8 => ("DeedDeskModel", "kinds", "[I", true)
  | 9 => ("DeedDeskModel", "numbers", "[I", true)
  | 10 => ("DeedDeskModel", "when", "[I", true)
  | 11 => ("DeedDeskModel", "clock", "I", false)
  | 12 => ("DeedDeskModel", "lanes", "[I", true)
  | 13 => ("DeedDeskModel", "sizes", "[I", true)
  | 14 => ("DeedDeskModel", "items", "[I", true)
  | 15 => ("DeedDeskModel", "may", "[I", true)
  | 16 => ("DeedDeskModel", "soonest", "I", false)
  | 17 => ("DeedDeskModel", "latest", "I", false)
  | 18 => ("DeedDeskModel", "withIt", "[I", true)
  | 19 => ("DeedDeskModel", "without", "[I", true)
  | 20 => ("DeedDeskModel", "x", "I", false)
  | _ => ("DeedDeskModel", "ways", "[I", true)
def tyX7 : Nat → FieldType := fun k => match k with
  | 0 => .int
  | 1 => .int
  | 2 => .array .int
  | 3 => .array .int
  | 4 => .int
  | 5 => .int
  | 6 => .int
  | 7 => .int
  | 8 => .array .int
  | 9 => .array .int
  | 10 => .array .int
  | 11 => .int
  | 12 => .array .int
  | 13 => .array .int
  | 14 => .array .int
  | 15 => .array .int
  | 16 => .int
  | 17 => .int
  | 18 => .array .int
  | 19 => .array .int
  | 20 => .int
  | _ => .array .int
theorem nmX7 : ∀ a, a < 22 → ∀ b, b < 22 → a ≠ b → (TX7 a).2.1 ≠ (TX7 b).2.1 := by decide +kernel
theorem tyX7_ok : ∀ k, k < 22 → parseFieldDescriptor (TX7 k).2.2.1 = some (tyX7 k) := by decide +kernel
abbrev cX7_in : ByteArray := prog_9_method_2_code
def yX7_in : MethodName := ⟨RX7, "in", "(III)Z"⟩
abbrev cX7_init : ByteArray := prog_9_method_3_code
def yX7_init : MethodName := ⟨RX7, "<init>", "()V"⟩
abbrev cX7_isPlace : ByteArray := prog_9_method_4_code
def yX7_isPlace : MethodName := ⟨RX7, "isPlace", "(I)Z"⟩
abbrev cX7_isTick : ByteArray := prog_9_method_5_code
def yX7_isTick : MethodName := ⟨RX7, "isTick", "(I)Z"⟩
abbrev cX7_isOne : ByteArray := prog_9_method_6_code
def yX7_isOne : MethodName := ⟨RX7, "isOne", "(I)Z"⟩
abbrev cX7_people : ByteArray := prog_9_method_7_code
def yX7_people : MethodName := ⟨RX7, "people", "(I)I"⟩
abbrev cX7_door : ByteArray := prog_9_method_8_code
def yX7_door : MethodName := ⟨RX7, "door", "(II)I"⟩
abbrev cX7_join : ByteArray := prog_9_method_9_code
def yX7_join : MethodName := ⟨RX7, "join", "(II)V"⟩
abbrev cX7_lies : ByteArray := prog_9_method_10_code
def yX7_lies : MethodName := ⟨RX7, "lies", "(II)I"⟩
abbrev cX7_deed : ByteArray := prog_9_method_11_code
def yX7_deed : MethodName := ⟨RX7, "deed", "(III)I"⟩
abbrev cX7_told : ByteArray := prog_9_method_12_code
def yX7_told : MethodName := ⟨RX7, "told", "(I)I"⟩
abbrev cX7_isGood : ByteArray := prog_9_method_13_code
def yX7_isGood : MethodName := ⟨RX7, "isGood", "(IIIII)Z"⟩
abbrev cX7_put : ByteArray := prog_9_method_14_code
def yX7_put : MethodName := ⟨RX7, "put", "(IIIII)V"⟩
abbrev cX7_find : ByteArray := prog_9_method_15_code
def yX7_find : MethodName := ⟨RX7, "find", "(IIIII)I"⟩
abbrev cX7_found : ByteArray := prog_9_method_16_code
def yX7_found : MethodName := ⟨RX7, "found", "(IZ)I"⟩
abbrev cX7_about : ByteArray := prog_9_method_17_code
def yX7_about : MethodName := ⟨RX7, "about", "(II)I"⟩
abbrev cX7_clear : ByteArray := prog_9_method_18_code
def yX7_clear : MethodName := ⟨RX7, "clear", "()I"⟩
abbrev cX7_isSheet : ByteArray := prog_9_method_19_code
def yX7_isSheet : MethodName := ⟨RX7, "isSheet", "(I)Z"⟩
abbrev cX7_sheet : ByteArray := prog_9_method_20_code
def yX7_sheet : MethodName := ⟨RX7, "sheet", "(III)I"⟩
abbrev cX7_drop : ByteArray := prog_9_method_21_code
def yX7_drop : MethodName := ⟨RX7, "drop", "(I)I"⟩
abbrev cX7_item : ByteArray := prog_9_method_22_code
def yX7_item : MethodName := ⟨RX7, "item", "(IIII)I"⟩
abbrev cX7_finds : ByteArray := prog_9_method_23_code
def yX7_finds : MethodName := ⟨RX7, "finds", "(IIII)I"⟩
abbrev cX7_free : ByteArray := prog_9_method_24_code
def yX7_free : MethodName := ⟨RX7, "free", "()V"⟩
abbrev cX7_bind : ByteArray := prog_9_method_25_code
def yX7_bind : MethodName := ⟨RX7, "bind", "(I)V"⟩
abbrev cX7_hasWay : ByteArray := prog_9_method_26_code
def yX7_hasWay : MethodName := ⟨RX7, "hasWay", "(I)Z"⟩
abbrev cX7_around : ByteArray := prog_9_method_27_code
def yX7_around : MethodName := ⟨RX7, "around", "(I)I"⟩
abbrev cX7_isTaken : ByteArray := prog_9_method_28_code
def yX7_isTaken : MethodName := ⟨RX7, "isTaken", "(I)Z"⟩
abbrev cX7_leadBack : ByteArray := prog_9_method_29_code
def yX7_leadBack : MethodName := ⟨RX7, "leadBack", "(II)V"⟩
abbrev cX7_could : ByteArray := prog_9_method_30_code
def yX7_could : MethodName := ⟨RX7, "could", "(III)Z"⟩
abbrev cX7_foundBits : ByteArray := prog_9_method_31_code
def yX7_foundBits : MethodName := ⟨RX7, "foundBits", "()I"⟩
abbrev cX7_couldAny : ByteArray := prog_9_method_32_code
def yX7_couldAny : MethodName := ⟨RX7, "couldAny", "(II)Z"⟩
abbrev cX7_suspectsBy : ByteArray := prog_9_method_33_code
def yX7_suspectsBy : MethodName := ⟨RX7, "suspectsBy", "(I)I"⟩
abbrev cX7_many : ByteArray := prog_9_method_34_code
def yX7_many : MethodName := ⟨RX7, "many", "(I)I"⟩
abbrev cX7_denied : ByteArray := prog_9_method_35_code
def yX7_denied : MethodName := ⟨RX7, "denied", "(I)I"⟩
abbrev cX7_suspects : ByteArray := prog_9_method_36_code
def yX7_suspects : MethodName := ⟨RX7, "suspects", "()I"⟩
abbrev cX7_with : ByteArray := prog_9_method_37_code
def yX7_with : MethodName := ⟨RX7, "with", "(I)I"⟩
abbrev cX7_first : ByteArray := prog_9_method_38_code
def yX7_first : MethodName := ⟨RX7, "first", "(I)I"⟩
abbrev cX7_way : ByteArray := prog_9_method_39_code
def yX7_way : MethodName := ⟨RX7, "way", "(III)I"⟩
abbrev cX7_only : ByteArray := prog_9_method_40_code
def yX7_only : MethodName := ⟨RX7, "only", "(I)I"⟩
abbrev cX7_doer : ByteArray := prog_9_method_41_code
def yX7_doer : MethodName := ⟨RX7, "doer", "()I"⟩
abbrev cX7_next : ByteArray := prog_9_method_42_code
def yX7_next : MethodName := ⟨RX7, "next", "()I"⟩
abbrev cX7_leastSet : ByteArray := prog_9_method_43_code
def yX7_leastSet : MethodName := ⟨RX7, "leastSet", "()I"⟩
abbrev cX7_fewest : ByteArray := prog_9_method_44_code
def yX7_fewest : MethodName := ⟨RX7, "fewest", "()I"⟩
abbrev cX7_least : ByteArray := prog_9_method_45_code
def yX7_least : MethodName := ⟨RX7, "least", "()I"⟩
abbrev cX7_claim : ByteArray := prog_9_method_46_code
def yX7_claim : MethodName := ⟨RX7, "claim", "(I)I"⟩
abbrev cX7_draw : ByteArray := prog_9_method_47_code
def yX7_draw : MethodName := ⟨RX7, "draw", "(I)I"⟩
abbrev cX7_joinedTo : ByteArray := prog_9_method_48_code
def yX7_joinedTo : MethodName := ⟨RX7, "joinedTo", "(II)I"⟩
abbrev cX7_doorsFrom : ByteArray := prog_9_method_49_code
def yX7_doorsFrom : MethodName := ⟨RX7, "doorsFrom", "(II)I"⟩
abbrev cX7_makeHouse : ByteArray := prog_9_method_50_code
def yX7_makeHouse : MethodName := ⟨RX7, "makeHouse", "()V"⟩
abbrev cX7_makeWays : ByteArray := prog_9_method_51_code
def yX7_makeWays : MethodName := ⟨RX7, "makeWays", "()V"⟩
abbrev cX7_goTo : ByteArray := prog_9_method_52_code
def yX7_goTo : MethodName := ⟨RX7, "goTo", "(II)V"⟩
abbrev cX7_makeSayings : ByteArray := prog_9_method_53_code
def yX7_makeSayings : MethodName := ⟨RX7, "makeSayings", "(I)V"⟩
abbrev cX7_make : ByteArray := prog_9_method_54_code
def yX7_make : MethodName := ⟨RX7, "make", "(I)I"⟩
def RJ6 : String := "java/lang/Integer"
def TJ6 : u_T := fun k => match k with
  | _ => ("", "", "", false)
def tyJ6 : Nat → FieldType := fun k => match k with
  | _ => .int
abbrev cJ6_bitCount_0f7a4 : ByteArray := prog_10_method_49_code
def yJ6_bitCount_0f7a4 : MethodName := ⟨RJ6, "bitCount", "(I)I"⟩
def RJ9 : String := "java/lang/Math"
def TJ9 : u_T := fun k => match k with
  | _ => ("", "", "", false)
def tyJ9 : Nat → FieldType := fun k => match k with
  | _ => .int
abbrev cJ9_max_7cf53 : ByteArray := prog_11_method_65_code
def yJ9_max_7cf53 : MethodName := ⟨RJ9, "max", "(II)I"⟩
abbrev cJ9_min_7cf53 : ByteArray := prog_11_method_69_code
def yJ9_min_7cf53 : MethodName := ⟨RJ9, "min", "(II)I"⟩
-- my tables of the code
abbrev am_E : Type := Instr × Nat × Nat × Nat × List (Int32 × Nat)
def am_nop : am_E := (.nop, 0, 0, 0, [])
def am_NM : Nat := 138
def am_by (k : Nat) : ByteArray := bif Nat.blt k 138 then (bif Nat.blt k 69 then (bif Nat.blt k 34 then (bif Nat.blt k 17 then (bif Nat.blt k 8 then (bif Nat.blt k 4 then (bif Nat.blt k 2 then (bif Nat.blt k 1 then (cX0_init) else (cX0_clearDoors)) else (bif Nat.blt k 3 then (cX0_joined) else (cX0_join))) else (bif Nat.blt k 6 then (bif Nat.blt k 5 then (cX0_reached) else (cX0_doorsBetween)) else (bif Nat.blt k 7 then (cX0_stepTowards) else (cX0_neighbour)))) else (bif Nat.blt k 12 then (bif Nat.blt k 10 then (bif Nat.blt k 9 then (cX1_init) else (cX1_fill)) else (bif Nat.blt k 11 then (cX1_draw) else (cX1_at))) else (bif Nat.blt k 14 then (bif Nat.blt k 13 then (cX1_build) else (cX1_wander)) else (bif Nat.blt k 15 then (cX1_approach) else (bif Nat.blt k 16 then (cX1_turnAway) else (cX1_writeClues)))))) else (bif Nat.blt k 25 then (bif Nat.blt k 21 then (bif Nat.blt k 19 then (bif Nat.blt k 18 then (cX1_writeSayings) else (cX1_writePlace)) else (bif Nat.blt k 20 then (cX2_init) else (cX2_holds))) else (bif Nat.blt k 23 then (bif Nat.blt k 22 then (cX2_kind) else (cX2_who)) else (bif Nat.blt k 24 then (cX2_other) else (cX2_numbers)))) else (bif Nat.blt k 29 then (bif Nat.blt k 27 then (bif Nat.blt k 26 then (cX2_add) else (cX2_forget)) else (bif Nat.blt k 28 then (cX2_nameOneFrom) else (cX2_isFound))) else (bif Nat.blt k 31 then (bif Nat.blt k 30 then (cX2_setFound) else (cX2_foundClues)) else (bif Nat.blt k 32 then (cX3_init) else (bif Nat.blt k 33 then (cX3_isPerson) else (cX3_everyone))))))) else (bif Nat.blt k 51 then (bif Nat.blt k 42 then (bif Nat.blt k 38 then (bif Nat.blt k 36 then (bif Nat.blt k 35 then (cX3_isFind) else (cX4_init)) else (bif Nat.blt k 37 then (cX4_takenAs) else (cX4_renew))) else (bif Nat.blt k 40 then (bif Nat.blt k 39 then (cX5_init) else (cX5_suspectsOf)) else (bif Nat.blt k 41 then (cX5_thingsOf) else (cX5_placeAt)))) else (bif Nat.blt k 46 then (bif Nat.blt k 44 then (bif Nat.blt k 43 then (cX5_deny) else (cX5_listen)) else (bif Nat.blt k 45 then (cX5_hear) else (cX5_gather))) else (bif Nat.blt k 48 then (bif Nat.blt k 47 then (cX5_fits) else (cX5_trace)) else (bif Nat.blt k 49 then (cX5_canBeTaken) else (bif Nat.blt k 50 then (cX6_init) else (cX6_people)))))) else (bif Nat.blt k 60 then (bif Nat.blt k 55 then (bif Nat.blt k 53 then (bif Nat.blt k 52 then (cX6_door) else (cX6_lies)) else (bif Nat.blt k 54 then (cX6_deed) else (cX6_told))) else (bif Nat.blt k 57 then (bif Nat.blt k 56 then (cX6_find) else (cX6_finds)) else (bif Nat.blt k 58 then (cX6_found) else (bif Nat.blt k 59 then (cX6_about) else (cX6_clear))))) else (bif Nat.blt k 64 then (bif Nat.blt k 62 then (bif Nat.blt k 61 then (cX6_denied) else (cX6_suspects)) else (bif Nat.blt k 63 then (cX6_with) else (cX6_way))) else (bif Nat.blt k 66 then (bif Nat.blt k 65 then (cX6_doer) else (cX6_next)) else (bif Nat.blt k 67 then (cX6_fewest) else (bif Nat.blt k 68 then (cX6_least) else (cX6_claim)))))))) else (bif Nat.blt k 103 then (bif Nat.blt k 86 then (bif Nat.blt k 77 then (bif Nat.blt k 73 then (bif Nat.blt k 71 then (bif Nat.blt k 70 then (cX6_make) else (cX6_sheet)) else (bif Nat.blt k 72 then (cX6_drop) else (cX6_item))) else (bif Nat.blt k 75 then (bif Nat.blt k 74 then (cX6_isPlace) else (cX6_isTick)) else (bif Nat.blt k 76 then (cX6_isThing) else (cX6_isSheet)))) else (bif Nat.blt k 81 then (bif Nat.blt k 79 then (bif Nat.blt k 78 then (cX6_isLane) else (cX6_has)) else (bif Nat.blt k 80 then (cX6_first) else (cX6_areFinds))) else (bif Nat.blt k 83 then (bif Nat.blt k 82 then (cX6_layFinds) else (cX6_search)) else (bif Nat.blt k 84 then (cX7_in) else (bif Nat.blt k 85 then (cX7_init) else (cX7_isPlace)))))) else (bif Nat.blt k 94 then (bif Nat.blt k 90 then (bif Nat.blt k 88 then (bif Nat.blt k 87 then (cX7_isTick) else (cX7_isOne)) else (bif Nat.blt k 89 then (cX7_people) else (cX7_door))) else (bif Nat.blt k 92 then (bif Nat.blt k 91 then (cX7_join) else (cX7_lies)) else (bif Nat.blt k 93 then (cX7_deed) else (cX7_told)))) else (bif Nat.blt k 98 then (bif Nat.blt k 96 then (bif Nat.blt k 95 then (cX7_isGood) else (cX7_put)) else (bif Nat.blt k 97 then (cX7_find) else (cX7_found))) else (bif Nat.blt k 100 then (bif Nat.blt k 99 then (cX7_about) else (cX7_clear)) else (bif Nat.blt k 101 then (cX7_isSheet) else (bif Nat.blt k 102 then (cX7_sheet) else (cX7_drop))))))) else (bif Nat.blt k 120 then (bif Nat.blt k 111 then (bif Nat.blt k 107 then (bif Nat.blt k 105 then (bif Nat.blt k 104 then (cX7_item) else (cX7_finds)) else (bif Nat.blt k 106 then (cX7_free) else (cX7_bind))) else (bif Nat.blt k 109 then (bif Nat.blt k 108 then (cX7_hasWay) else (cX7_around)) else (bif Nat.blt k 110 then (cX7_isTaken) else (cX7_leadBack)))) else (bif Nat.blt k 115 then (bif Nat.blt k 113 then (bif Nat.blt k 112 then (cX7_could) else (cX7_foundBits)) else (bif Nat.blt k 114 then (cX7_couldAny) else (cX7_suspectsBy))) else (bif Nat.blt k 117 then (bif Nat.blt k 116 then (cX7_many) else (cX7_denied)) else (bif Nat.blt k 118 then (cX7_suspects) else (bif Nat.blt k 119 then (cX7_with) else (cX7_first)))))) else (bif Nat.blt k 129 then (bif Nat.blt k 124 then (bif Nat.blt k 122 then (bif Nat.blt k 121 then (cX7_way) else (cX7_only)) else (bif Nat.blt k 123 then (cX7_doer) else (cX7_next))) else (bif Nat.blt k 126 then (bif Nat.blt k 125 then (cX7_leastSet) else (cX7_fewest)) else (bif Nat.blt k 127 then (cX7_least) else (bif Nat.blt k 128 then (cX7_claim) else (cX7_draw))))) else (bif Nat.blt k 133 then (bif Nat.blt k 131 then (bif Nat.blt k 130 then (cX7_joinedTo) else (cX7_doorsFrom)) else (bif Nat.blt k 132 then (cX7_makeHouse) else (cX7_makeWays))) else (bif Nat.blt k 135 then (bif Nat.blt k 134 then (cX7_goTo) else (cX7_makeSayings)) else (bif Nat.blt k 136 then (cX7_make) else (bif Nat.blt k 137 then (cJ6_bitCount_0f7a4) else (code))))))))) else ⟨#[]⟩
def am_yy (k : Nat) : MethodName := bif Nat.blt k 138 then (bif Nat.blt k 69 then (bif Nat.blt k 34 then (bif Nat.blt k 17 then (bif Nat.blt k 8 then (bif Nat.blt k 4 then (bif Nat.blt k 2 then (bif Nat.blt k 1 then (yX0_init) else (yX0_clearDoors)) else (bif Nat.blt k 3 then (yX0_joined) else (yX0_join))) else (bif Nat.blt k 6 then (bif Nat.blt k 5 then (yX0_reached) else (yX0_doorsBetween)) else (bif Nat.blt k 7 then (yX0_stepTowards) else (yX0_neighbour)))) else (bif Nat.blt k 12 then (bif Nat.blt k 10 then (bif Nat.blt k 9 then (yX1_init) else (yX1_fill)) else (bif Nat.blt k 11 then (yX1_draw) else (yX1_at))) else (bif Nat.blt k 14 then (bif Nat.blt k 13 then (yX1_build) else (yX1_wander)) else (bif Nat.blt k 15 then (yX1_approach) else (bif Nat.blt k 16 then (yX1_turnAway) else (yX1_writeClues)))))) else (bif Nat.blt k 25 then (bif Nat.blt k 21 then (bif Nat.blt k 19 then (bif Nat.blt k 18 then (yX1_writeSayings) else (yX1_writePlace)) else (bif Nat.blt k 20 then (yX2_init) else (yX2_holds))) else (bif Nat.blt k 23 then (bif Nat.blt k 22 then (yX2_kind) else (yX2_who)) else (bif Nat.blt k 24 then (yX2_other) else (yX2_numbers)))) else (bif Nat.blt k 29 then (bif Nat.blt k 27 then (bif Nat.blt k 26 then (yX2_add) else (yX2_forget)) else (bif Nat.blt k 28 then (yX2_nameOneFrom) else (yX2_isFound))) else (bif Nat.blt k 31 then (bif Nat.blt k 30 then (yX2_setFound) else (yX2_foundClues)) else (bif Nat.blt k 32 then (yX3_init) else (bif Nat.blt k 33 then (yX3_isPerson) else (yX3_everyone))))))) else (bif Nat.blt k 51 then (bif Nat.blt k 42 then (bif Nat.blt k 38 then (bif Nat.blt k 36 then (bif Nat.blt k 35 then (yX3_isFind) else (yX4_init)) else (bif Nat.blt k 37 then (yX4_takenAs) else (yX4_renew))) else (bif Nat.blt k 40 then (bif Nat.blt k 39 then (yX5_init) else (yX5_suspectsOf)) else (bif Nat.blt k 41 then (yX5_thingsOf) else (yX5_placeAt)))) else (bif Nat.blt k 46 then (bif Nat.blt k 44 then (bif Nat.blt k 43 then (yX5_deny) else (yX5_listen)) else (bif Nat.blt k 45 then (yX5_hear) else (yX5_gather))) else (bif Nat.blt k 48 then (bif Nat.blt k 47 then (yX5_fits) else (yX5_trace)) else (bif Nat.blt k 49 then (yX5_canBeTaken) else (bif Nat.blt k 50 then (yX6_init) else (yX6_people)))))) else (bif Nat.blt k 60 then (bif Nat.blt k 55 then (bif Nat.blt k 53 then (bif Nat.blt k 52 then (yX6_door) else (yX6_lies)) else (bif Nat.blt k 54 then (yX6_deed) else (yX6_told))) else (bif Nat.blt k 57 then (bif Nat.blt k 56 then (yX6_find) else (yX6_finds)) else (bif Nat.blt k 58 then (yX6_found) else (bif Nat.blt k 59 then (yX6_about) else (yX6_clear))))) else (bif Nat.blt k 64 then (bif Nat.blt k 62 then (bif Nat.blt k 61 then (yX6_denied) else (yX6_suspects)) else (bif Nat.blt k 63 then (yX6_with) else (yX6_way))) else (bif Nat.blt k 66 then (bif Nat.blt k 65 then (yX6_doer) else (yX6_next)) else (bif Nat.blt k 67 then (yX6_fewest) else (bif Nat.blt k 68 then (yX6_least) else (yX6_claim)))))))) else (bif Nat.blt k 103 then (bif Nat.blt k 86 then (bif Nat.blt k 77 then (bif Nat.blt k 73 then (bif Nat.blt k 71 then (bif Nat.blt k 70 then (yX6_make) else (yX6_sheet)) else (bif Nat.blt k 72 then (yX6_drop) else (yX6_item))) else (bif Nat.blt k 75 then (bif Nat.blt k 74 then (yX6_isPlace) else (yX6_isTick)) else (bif Nat.blt k 76 then (yX6_isThing) else (yX6_isSheet)))) else (bif Nat.blt k 81 then (bif Nat.blt k 79 then (bif Nat.blt k 78 then (yX6_isLane) else (yX6_has)) else (bif Nat.blt k 80 then (yX6_first) else (yX6_areFinds))) else (bif Nat.blt k 83 then (bif Nat.blt k 82 then (yX6_layFinds) else (yX6_search)) else (bif Nat.blt k 84 then (yX7_in) else (bif Nat.blt k 85 then (yX7_init) else (yX7_isPlace)))))) else (bif Nat.blt k 94 then (bif Nat.blt k 90 then (bif Nat.blt k 88 then (bif Nat.blt k 87 then (yX7_isTick) else (yX7_isOne)) else (bif Nat.blt k 89 then (yX7_people) else (yX7_door))) else (bif Nat.blt k 92 then (bif Nat.blt k 91 then (yX7_join) else (yX7_lies)) else (bif Nat.blt k 93 then (yX7_deed) else (yX7_told)))) else (bif Nat.blt k 98 then (bif Nat.blt k 96 then (bif Nat.blt k 95 then (yX7_isGood) else (yX7_put)) else (bif Nat.blt k 97 then (yX7_find) else (yX7_found))) else (bif Nat.blt k 100 then (bif Nat.blt k 99 then (yX7_about) else (yX7_clear)) else (bif Nat.blt k 101 then (yX7_isSheet) else (bif Nat.blt k 102 then (yX7_sheet) else (yX7_drop))))))) else (bif Nat.blt k 120 then (bif Nat.blt k 111 then (bif Nat.blt k 107 then (bif Nat.blt k 105 then (bif Nat.blt k 104 then (yX7_item) else (yX7_finds)) else (bif Nat.blt k 106 then (yX7_free) else (yX7_bind))) else (bif Nat.blt k 109 then (bif Nat.blt k 108 then (yX7_hasWay) else (yX7_around)) else (bif Nat.blt k 110 then (yX7_isTaken) else (yX7_leadBack)))) else (bif Nat.blt k 115 then (bif Nat.blt k 113 then (bif Nat.blt k 112 then (yX7_could) else (yX7_foundBits)) else (bif Nat.blt k 114 then (yX7_couldAny) else (yX7_suspectsBy))) else (bif Nat.blt k 117 then (bif Nat.blt k 116 then (yX7_many) else (yX7_denied)) else (bif Nat.blt k 118 then (yX7_suspects) else (bif Nat.blt k 119 then (yX7_with) else (yX7_first)))))) else (bif Nat.blt k 129 then (bif Nat.blt k 124 then (bif Nat.blt k 122 then (bif Nat.blt k 121 then (yX7_way) else (yX7_only)) else (bif Nat.blt k 123 then (yX7_doer) else (yX7_next))) else (bif Nat.blt k 126 then (bif Nat.blt k 125 then (yX7_leastSet) else (yX7_fewest)) else (bif Nat.blt k 127 then (yX7_least) else (bif Nat.blt k 128 then (yX7_claim) else (yX7_draw))))) else (bif Nat.blt k 133 then (bif Nat.blt k 131 then (bif Nat.blt k 130 then (yX7_joinedTo) else (yX7_doorsFrom)) else (bif Nat.blt k 132 then (yX7_makeHouse) else (yX7_makeWays))) else (bif Nat.blt k 135 then (bif Nat.blt k 134 then (yX7_goTo) else (yX7_makeSayings)) else (bif Nat.blt k 136 then (yX7_make) else (bif Nat.blt k 137 then (yJ6_bitCount_0f7a4) else (x))))))))) else x
def am_own (k : Nat) : String := bif Nat.blt k 138 then (bif Nat.blt k 69 then (bif Nat.blt k 34 then (bif Nat.blt k 17 then (bif Nat.blt k 8 then (bif Nat.blt k 4 then (bif Nat.blt k 2 then (bif Nat.blt k 1 then ("DeedDesk$House") else ("DeedDesk$House")) else (bif Nat.blt k 3 then ("DeedDesk$House") else ("DeedDesk$House"))) else (bif Nat.blt k 6 then (bif Nat.blt k 5 then ("DeedDesk$House") else ("DeedDesk$House")) else (bif Nat.blt k 7 then ("DeedDesk$House") else ("DeedDesk$House")))) else (bif Nat.blt k 12 then (bif Nat.blt k 10 then (bif Nat.blt k 9 then ("DeedDesk$Maker") else ("DeedDesk$Maker")) else (bif Nat.blt k 11 then ("DeedDesk$Maker") else ("DeedDesk$Maker"))) else (bif Nat.blt k 14 then (bif Nat.blt k 13 then ("DeedDesk$Maker") else ("DeedDesk$Maker")) else (bif Nat.blt k 15 then ("DeedDesk$Maker") else (bif Nat.blt k 16 then ("DeedDesk$Maker") else ("DeedDesk$Maker")))))) else (bif Nat.blt k 25 then (bif Nat.blt k 21 then (bif Nat.blt k 19 then (bif Nat.blt k 18 then ("DeedDesk$Maker") else ("DeedDesk$Maker")) else (bif Nat.blt k 20 then ("DeedDesk$Notes") else ("DeedDesk$Notes"))) else (bif Nat.blt k 23 then (bif Nat.blt k 22 then ("DeedDesk$Notes") else ("DeedDesk$Notes")) else (bif Nat.blt k 24 then ("DeedDesk$Notes") else ("DeedDesk$Notes")))) else (bif Nat.blt k 29 then (bif Nat.blt k 27 then (bif Nat.blt k 26 then ("DeedDesk$Notes") else ("DeedDesk$Notes")) else (bif Nat.blt k 28 then ("DeedDesk$Notes") else ("DeedDesk$Notes"))) else (bif Nat.blt k 31 then (bif Nat.blt k 30 then ("DeedDesk$Notes") else ("DeedDesk$Notes")) else (bif Nat.blt k 32 then ("DeedDesk$Scene") else (bif Nat.blt k 33 then ("DeedDesk$Scene") else ("DeedDesk$Scene"))))))) else (bif Nat.blt k 51 then (bif Nat.blt k 42 then (bif Nat.blt k 38 then (bif Nat.blt k 36 then (bif Nat.blt k 35 then ("DeedDesk$Scene") else ("DeedDesk$Sheet")) else (bif Nat.blt k 37 then ("DeedDesk$Sheet") else ("DeedDesk$Sheet"))) else (bif Nat.blt k 40 then (bif Nat.blt k 39 then ("DeedDesk$Ways") else ("DeedDesk$Ways")) else (bif Nat.blt k 41 then ("DeedDesk$Ways") else ("DeedDesk$Ways")))) else (bif Nat.blt k 46 then (bif Nat.blt k 44 then (bif Nat.blt k 43 then ("DeedDesk$Ways") else ("DeedDesk$Ways")) else (bif Nat.blt k 45 then ("DeedDesk$Ways") else ("DeedDesk$Ways"))) else (bif Nat.blt k 48 then (bif Nat.blt k 47 then ("DeedDesk$Ways") else ("DeedDesk$Ways")) else (bif Nat.blt k 49 then ("DeedDesk$Ways") else (bif Nat.blt k 50 then ("DeedDesk") else ("DeedDesk")))))) else (bif Nat.blt k 60 then (bif Nat.blt k 55 then (bif Nat.blt k 53 then (bif Nat.blt k 52 then ("DeedDesk") else ("DeedDesk")) else (bif Nat.blt k 54 then ("DeedDesk") else ("DeedDesk"))) else (bif Nat.blt k 57 then (bif Nat.blt k 56 then ("DeedDesk") else ("DeedDesk")) else (bif Nat.blt k 58 then ("DeedDesk") else (bif Nat.blt k 59 then ("DeedDesk") else ("DeedDesk"))))) else (bif Nat.blt k 64 then (bif Nat.blt k 62 then (bif Nat.blt k 61 then ("DeedDesk") else ("DeedDesk")) else (bif Nat.blt k 63 then ("DeedDesk") else ("DeedDesk"))) else (bif Nat.blt k 66 then (bif Nat.blt k 65 then ("DeedDesk") else ("DeedDesk")) else (bif Nat.blt k 67 then ("DeedDesk") else (bif Nat.blt k 68 then ("DeedDesk") else ("DeedDesk")))))))) else (bif Nat.blt k 103 then (bif Nat.blt k 86 then (bif Nat.blt k 77 then (bif Nat.blt k 73 then (bif Nat.blt k 71 then (bif Nat.blt k 70 then ("DeedDesk") else ("DeedDesk")) else (bif Nat.blt k 72 then ("DeedDesk") else ("DeedDesk"))) else (bif Nat.blt k 75 then (bif Nat.blt k 74 then ("DeedDesk") else ("DeedDesk")) else (bif Nat.blt k 76 then ("DeedDesk") else ("DeedDesk")))) else (bif Nat.blt k 81 then (bif Nat.blt k 79 then (bif Nat.blt k 78 then ("DeedDesk") else ("DeedDesk")) else (bif Nat.blt k 80 then ("DeedDesk") else ("DeedDesk"))) else (bif Nat.blt k 83 then (bif Nat.blt k 82 then ("DeedDesk") else ("DeedDesk")) else (bif Nat.blt k 84 then ("DeedDeskModel") else (bif Nat.blt k 85 then ("DeedDeskModel") else ("DeedDeskModel")))))) else (bif Nat.blt k 94 then (bif Nat.blt k 90 then (bif Nat.blt k 88 then (bif Nat.blt k 87 then ("DeedDeskModel") else ("DeedDeskModel")) else (bif Nat.blt k 89 then ("DeedDeskModel") else ("DeedDeskModel"))) else (bif Nat.blt k 92 then (bif Nat.blt k 91 then ("DeedDeskModel") else ("DeedDeskModel")) else (bif Nat.blt k 93 then ("DeedDeskModel") else ("DeedDeskModel")))) else (bif Nat.blt k 98 then (bif Nat.blt k 96 then (bif Nat.blt k 95 then ("DeedDeskModel") else ("DeedDeskModel")) else (bif Nat.blt k 97 then ("DeedDeskModel") else ("DeedDeskModel"))) else (bif Nat.blt k 100 then (bif Nat.blt k 99 then ("DeedDeskModel") else ("DeedDeskModel")) else (bif Nat.blt k 101 then ("DeedDeskModel") else (bif Nat.blt k 102 then ("DeedDeskModel") else ("DeedDeskModel"))))))) else (bif Nat.blt k 120 then (bif Nat.blt k 111 then (bif Nat.blt k 107 then (bif Nat.blt k 105 then (bif Nat.blt k 104 then ("DeedDeskModel") else ("DeedDeskModel")) else (bif Nat.blt k 106 then ("DeedDeskModel") else ("DeedDeskModel"))) else (bif Nat.blt k 109 then (bif Nat.blt k 108 then ("DeedDeskModel") else ("DeedDeskModel")) else (bif Nat.blt k 110 then ("DeedDeskModel") else ("DeedDeskModel")))) else (bif Nat.blt k 115 then (bif Nat.blt k 113 then (bif Nat.blt k 112 then ("DeedDeskModel") else ("DeedDeskModel")) else (bif Nat.blt k 114 then ("DeedDeskModel") else ("DeedDeskModel"))) else (bif Nat.blt k 117 then (bif Nat.blt k 116 then ("DeedDeskModel") else ("DeedDeskModel")) else (bif Nat.blt k 118 then ("DeedDeskModel") else (bif Nat.blt k 119 then ("DeedDeskModel") else ("DeedDeskModel")))))) else (bif Nat.blt k 129 then (bif Nat.blt k 124 then (bif Nat.blt k 122 then (bif Nat.blt k 121 then ("DeedDeskModel") else ("DeedDeskModel")) else (bif Nat.blt k 123 then ("DeedDeskModel") else ("DeedDeskModel"))) else (bif Nat.blt k 126 then (bif Nat.blt k 125 then ("DeedDeskModel") else ("DeedDeskModel")) else (bif Nat.blt k 127 then ("DeedDeskModel") else (bif Nat.blt k 128 then ("DeedDeskModel") else ("DeedDeskModel"))))) else (bif Nat.blt k 133 then (bif Nat.blt k 131 then (bif Nat.blt k 130 then ("DeedDeskModel") else ("DeedDeskModel")) else (bif Nat.blt k 132 then ("DeedDeskModel") else ("DeedDeskModel"))) else (bif Nat.blt k 135 then (bif Nat.blt k 134 then ("DeedDeskModel") else ("DeedDeskModel")) else (bif Nat.blt k 136 then ("DeedDeskModel") else (bif Nat.blt k 137 then ("java/lang/Integer") else ("DeedDeskLaw"))))))))) else ""
def am_rt (k : Nat) : Option FieldType := bif Nat.blt k 138 then (bif Nat.blt k 69 then (bif Nat.blt k 34 then (bif Nat.blt k 17 then (bif Nat.blt k 8 then (bif Nat.blt k 4 then (bif Nat.blt k 2 then (bif Nat.blt k 1 then (none) else (none)) else (bif Nat.blt k 3 then (some .boolean) else (none))) else (bif Nat.blt k 6 then (bif Nat.blt k 5 then (some .int) else (some .int)) else (bif Nat.blt k 7 then (some .int) else (some .int)))) else (bif Nat.blt k 12 then (bif Nat.blt k 10 then (bif Nat.blt k 9 then (none) else (some .int)) else (bif Nat.blt k 11 then (some .int) else (some .int))) else (bif Nat.blt k 14 then (bif Nat.blt k 13 then (none) else (none)) else (bif Nat.blt k 15 then (none) else (bif Nat.blt k 16 then (none) else (none)))))) else (bif Nat.blt k 25 then (bif Nat.blt k 21 then (bif Nat.blt k 19 then (bif Nat.blt k 18 then (none) else (none)) else (bif Nat.blt k 20 then (none) else (some .boolean))) else (bif Nat.blt k 23 then (bif Nat.blt k 22 then (some .int) else (some .int)) else (bif Nat.blt k 24 then (some .int) else (some .int)))) else (bif Nat.blt k 29 then (bif Nat.blt k 27 then (bif Nat.blt k 26 then (none) else (none)) else (bif Nat.blt k 28 then (some .boolean) else (some .boolean))) else (bif Nat.blt k 31 then (bif Nat.blt k 30 then (none) else (some .int)) else (bif Nat.blt k 32 then (none) else (bif Nat.blt k 33 then (some .boolean) else (some .int))))))) else (bif Nat.blt k 51 then (bif Nat.blt k 42 then (bif Nat.blt k 38 then (bif Nat.blt k 36 then (bif Nat.blt k 35 then (some .boolean) else (none)) else (bif Nat.blt k 37 then (some .int) else (none))) else (bif Nat.blt k 40 then (bif Nat.blt k 39 then (none) else (some .int)) else (bif Nat.blt k 41 then (some .int) else (some .int)))) else (bif Nat.blt k 46 then (bif Nat.blt k 44 then (bif Nat.blt k 43 then (some .boolean) else (none)) else (bif Nat.blt k 45 then (none) else (none))) else (bif Nat.blt k 48 then (bif Nat.blt k 47 then (some .boolean) else (none)) else (bif Nat.blt k 49 then (some .boolean) else (bif Nat.blt k 50 then (none) else (some .int)))))) else (bif Nat.blt k 60 then (bif Nat.blt k 55 then (bif Nat.blt k 53 then (bif Nat.blt k 52 then (some .int) else (some .int)) else (bif Nat.blt k 54 then (some .int) else (some .int))) else (bif Nat.blt k 57 then (bif Nat.blt k 56 then (some .int) else (some .int)) else (bif Nat.blt k 58 then (some .int) else (bif Nat.blt k 59 then (some .int) else (some .int))))) else (bif Nat.blt k 64 then (bif Nat.blt k 62 then (bif Nat.blt k 61 then (some .int) else (some .int)) else (bif Nat.blt k 63 then (some .int) else (some .int))) else (bif Nat.blt k 66 then (bif Nat.blt k 65 then (some .int) else (some .int)) else (bif Nat.blt k 67 then (some .int) else (bif Nat.blt k 68 then (some .int) else (some .int)))))))) else (bif Nat.blt k 103 then (bif Nat.blt k 86 then (bif Nat.blt k 77 then (bif Nat.blt k 73 then (bif Nat.blt k 71 then (bif Nat.blt k 70 then (some .int) else (some .int)) else (bif Nat.blt k 72 then (some .int) else (some .int))) else (bif Nat.blt k 75 then (bif Nat.blt k 74 then (some .boolean) else (some .boolean)) else (bif Nat.blt k 76 then (some .boolean) else (some .boolean)))) else (bif Nat.blt k 81 then (bif Nat.blt k 79 then (bif Nat.blt k 78 then (some .boolean) else (some .boolean)) else (bif Nat.blt k 80 then (some .int) else (some .boolean))) else (bif Nat.blt k 83 then (bif Nat.blt k 82 then (none) else (some .int)) else (bif Nat.blt k 84 then (some .boolean) else (bif Nat.blt k 85 then (none) else (some .boolean)))))) else (bif Nat.blt k 94 then (bif Nat.blt k 90 then (bif Nat.blt k 88 then (bif Nat.blt k 87 then (some .boolean) else (some .boolean)) else (bif Nat.blt k 89 then (some .int) else (some .int))) else (bif Nat.blt k 92 then (bif Nat.blt k 91 then (none) else (some .int)) else (bif Nat.blt k 93 then (some .int) else (some .int)))) else (bif Nat.blt k 98 then (bif Nat.blt k 96 then (bif Nat.blt k 95 then (some .boolean) else (none)) else (bif Nat.blt k 97 then (some .int) else (some .int))) else (bif Nat.blt k 100 then (bif Nat.blt k 99 then (some .int) else (some .int)) else (bif Nat.blt k 101 then (some .boolean) else (bif Nat.blt k 102 then (some .int) else (some .int))))))) else (bif Nat.blt k 120 then (bif Nat.blt k 111 then (bif Nat.blt k 107 then (bif Nat.blt k 105 then (bif Nat.blt k 104 then (some .int) else (some .int)) else (bif Nat.blt k 106 then (none) else (none))) else (bif Nat.blt k 109 then (bif Nat.blt k 108 then (some .boolean) else (some .int)) else (bif Nat.blt k 110 then (some .boolean) else (none)))) else (bif Nat.blt k 115 then (bif Nat.blt k 113 then (bif Nat.blt k 112 then (some .boolean) else (some .int)) else (bif Nat.blt k 114 then (some .boolean) else (some .int))) else (bif Nat.blt k 117 then (bif Nat.blt k 116 then (some .int) else (some .int)) else (bif Nat.blt k 118 then (some .int) else (bif Nat.blt k 119 then (some .int) else (some .int)))))) else (bif Nat.blt k 129 then (bif Nat.blt k 124 then (bif Nat.blt k 122 then (bif Nat.blt k 121 then (some .int) else (some .int)) else (bif Nat.blt k 123 then (some .int) else (some .int))) else (bif Nat.blt k 126 then (bif Nat.blt k 125 then (some .int) else (some .int)) else (bif Nat.blt k 127 then (some .int) else (bif Nat.blt k 128 then (some .int) else (some .int))))) else (bif Nat.blt k 133 then (bif Nat.blt k 131 then (bif Nat.blt k 130 then (some .int) else (some .int)) else (bif Nat.blt k 132 then (none) else (none))) else (bif Nat.blt k 135 then (bif Nat.blt k 134 then (none) else (none)) else (bif Nat.blt k 136 then (some .int) else (bif Nat.blt k 137 then (some .int) else (some .boolean))))))))) else none
def am_nl (k : Nat) : Nat := bif Nat.blt k 138 then (bif Nat.blt k 69 then (bif Nat.blt k 34 then (bif Nat.blt k 17 then (bif Nat.blt k 8 then (bif Nat.blt k 4 then (bif Nat.blt k 2 then (bif Nat.blt k 1 then (1) else (2)) else (bif Nat.blt k 3 then (3) else (4))) else (bif Nat.blt k 6 then (bif Nat.blt k 5 then (2) else (5)) else (bif Nat.blt k 7 then (5) else (5)))) else (bif Nat.blt k 12 then (bif Nat.blt k 10 then (bif Nat.blt k 9 then (1) else (6)) else (bif Nat.blt k 11 then (2) else (3))) else (bif Nat.blt k 14 then (bif Nat.blt k 13 then (5) else (5)) else (bif Nat.blt k 15 then (6) else (bif Nat.blt k 16 then (6) else (5)))))) else (bif Nat.blt k 25 then (bif Nat.blt k 21 then (bif Nat.blt k 19 then (bif Nat.blt k 18 then (3) else (5)) else (bif Nat.blt k 20 then (1) else (2))) else (bif Nat.blt k 23 then (bif Nat.blt k 22 then (2) else (2)) else (bif Nat.blt k 24 then (2) else (1)))) else (bif Nat.blt k 29 then (bif Nat.blt k 27 then (bif Nat.blt k 26 then (8) else (1)) else (bif Nat.blt k 28 then (5) else (2))) else (bif Nat.blt k 31 then (bif Nat.blt k 30 then (5) else (3)) else (bif Nat.blt k 32 then (2) else (bif Nat.blt k 33 then (2) else (1))))))) else (bif Nat.blt k 51 then (bif Nat.blt k 42 then (bif Nat.blt k 38 then (bif Nat.blt k 36 then (bif Nat.blt k 35 then (6) else (1)) else (bif Nat.blt k 37 then (2) else (4))) else (bif Nat.blt k 40 then (bif Nat.blt k 39 then (1) else (6)) else (bif Nat.blt k 41 then (6) else (9)))) else (bif Nat.blt k 46 then (bif Nat.blt k 44 then (bif Nat.blt k 43 then (3) else (6)) else (bif Nat.blt k 45 then (7) else (6))) else (bif Nat.blt k 48 then (bif Nat.blt k 47 then (5) else (7)) else (bif Nat.blt k 49 then (3) else (bif Nat.blt k 50 then (2) else (3)))))) else (bif Nat.blt k 60 then (bif Nat.blt k 55 then (bif Nat.blt k 53 then (bif Nat.blt k 52 then (3) else (4)) else (bif Nat.blt k 54 then (4) else (2))) else (bif Nat.blt k 57 then (bif Nat.blt k 56 then (6) else (7)) else (bif Nat.blt k 58 then (4) else (bif Nat.blt k 59 then (3) else (2))))) else (bif Nat.blt k 64 then (bif Nat.blt k 62 then (bif Nat.blt k 61 then (2) else (1)) else (bif Nat.blt k 63 then (2) else (4))) else (bif Nat.blt k 66 then (bif Nat.blt k 65 then (2) else (6)) else (bif Nat.blt k 67 then (2) else (bif Nat.blt k 68 then (1) else (5)))))))) else (bif Nat.blt k 103 then (bif Nat.blt k 86 then (bif Nat.blt k 77 then (bif Nat.blt k 73 then (bif Nat.blt k 71 then (bif Nat.blt k 70 then (2) else (4)) else (bif Nat.blt k 72 then (3) else (7))) else (bif Nat.blt k 75 then (bif Nat.blt k 74 then (1) else (1)) else (bif Nat.blt k 76 then (1) else (1)))) else (bif Nat.blt k 81 then (bif Nat.blt k 79 then (bif Nat.blt k 78 then (1) else (2)) else (bif Nat.blt k 80 then (2) else (6))) else (bif Nat.blt k 83 then (bif Nat.blt k 82 then (6) else (10)) else (bif Nat.blt k 84 then (3) else (bif Nat.blt k 85 then (2) else (1)))))) else (bif Nat.blt k 94 then (bif Nat.blt k 90 then (bif Nat.blt k 88 then (bif Nat.blt k 87 then (1) else (2)) else (bif Nat.blt k 89 then (5) else (3))) else (bif Nat.blt k 92 then (bif Nat.blt k 91 then (3) else (4)) else (bif Nat.blt k 93 then (4) else (2)))) else (bif Nat.blt k 98 then (bif Nat.blt k 96 then (bif Nat.blt k 95 then (6) else (7)) else (bif Nat.blt k 97 then (6) else (4))) else (bif Nat.blt k 100 then (bif Nat.blt k 99 then (3) else (2)) else (bif Nat.blt k 101 then (1) else (bif Nat.blt k 102 then (5) else (2))))))) else (bif Nat.blt k 120 then (bif Nat.blt k 111 then (bif Nat.blt k 107 then (bif Nat.blt k 105 then (bif Nat.blt k 104 then (5) else (8)) else (bif Nat.blt k 106 then (2) else (5))) else (bif Nat.blt k 109 then (bif Nat.blt k 108 then (4) else (4)) else (bif Nat.blt k 110 then (2) else (7)))) else (bif Nat.blt k 115 then (bif Nat.blt k 113 then (bif Nat.blt k 112 then (7) else (3)) else (bif Nat.blt k 114 then (3) else (4))) else (bif Nat.blt k 117 then (bif Nat.blt k 116 then (3) else (3)) else (bif Nat.blt k 118 then (1) else (bif Nat.blt k 119 then (4) else (2)))))) else (bif Nat.blt k 129 then (bif Nat.blt k 124 then (bif Nat.blt k 122 then (bif Nat.blt k 121 then (8) else (1)) else (bif Nat.blt k 123 then (1) else (6))) else (bif Nat.blt k 126 then (bif Nat.blt k 125 then (3) else (2)) else (bif Nat.blt k 127 then (1) else (bif Nat.blt k 128 then (6) else (2))))) else (bif Nat.blt k 133 then (bif Nat.blt k 131 then (bif Nat.blt k 130 then (5) else (5)) else (bif Nat.blt k 132 then (4) else (5))) else (bif Nat.blt k 135 then (bif Nat.blt k 134 then (7) else (4)) else (bif Nat.blt k 136 then (8) else (bif Nat.blt k 137 then (1) else (4))))))))) else 0
def am_rk (k : Nat) : Nat := bif Nat.blt k 138 then (bif Nat.blt k 69 then (bif Nat.blt k 34 then (bif Nat.blt k 17 then (bif Nat.blt k 8 then (bif Nat.blt k 4 then (bif Nat.blt k 2 then (bif Nat.blt k 1 then (0) else (0)) else (bif Nat.blt k 3 then (2) else (0))) else (bif Nat.blt k 6 then (bif Nat.blt k 5 then (1) else (1)) else (bif Nat.blt k 7 then (1) else (1)))) else (bif Nat.blt k 12 then (bif Nat.blt k 10 then (bif Nat.blt k 9 then (0) else (1)) else (bif Nat.blt k 11 then (1) else (1))) else (bif Nat.blt k 14 then (bif Nat.blt k 13 then (0) else (0)) else (bif Nat.blt k 15 then (0) else (bif Nat.blt k 16 then (0) else (0)))))) else (bif Nat.blt k 25 then (bif Nat.blt k 21 then (bif Nat.blt k 19 then (bif Nat.blt k 18 then (0) else (0)) else (bif Nat.blt k 20 then (0) else (2))) else (bif Nat.blt k 23 then (bif Nat.blt k 22 then (1) else (1)) else (bif Nat.blt k 24 then (1) else (1)))) else (bif Nat.blt k 29 then (bif Nat.blt k 27 then (bif Nat.blt k 26 then (0) else (0)) else (bif Nat.blt k 28 then (2) else (2))) else (bif Nat.blt k 31 then (bif Nat.blt k 30 then (0) else (1)) else (bif Nat.blt k 32 then (0) else (bif Nat.blt k 33 then (2) else (1))))))) else (bif Nat.blt k 51 then (bif Nat.blt k 42 then (bif Nat.blt k 38 then (bif Nat.blt k 36 then (bif Nat.blt k 35 then (2) else (0)) else (bif Nat.blt k 37 then (1) else (0))) else (bif Nat.blt k 40 then (bif Nat.blt k 39 then (0) else (1)) else (bif Nat.blt k 41 then (1) else (1)))) else (bif Nat.blt k 46 then (bif Nat.blt k 44 then (bif Nat.blt k 43 then (2) else (0)) else (bif Nat.blt k 45 then (0) else (0))) else (bif Nat.blt k 48 then (bif Nat.blt k 47 then (2) else (0)) else (bif Nat.blt k 49 then (2) else (bif Nat.blt k 50 then (0) else (1)))))) else (bif Nat.blt k 60 then (bif Nat.blt k 55 then (bif Nat.blt k 53 then (bif Nat.blt k 52 then (1) else (1)) else (bif Nat.blt k 54 then (1) else (1))) else (bif Nat.blt k 57 then (bif Nat.blt k 56 then (1) else (1)) else (bif Nat.blt k 58 then (1) else (bif Nat.blt k 59 then (1) else (1))))) else (bif Nat.blt k 64 then (bif Nat.blt k 62 then (bif Nat.blt k 61 then (1) else (1)) else (bif Nat.blt k 63 then (1) else (1))) else (bif Nat.blt k 66 then (bif Nat.blt k 65 then (1) else (1)) else (bif Nat.blt k 67 then (1) else (bif Nat.blt k 68 then (1) else (1)))))))) else (bif Nat.blt k 103 then (bif Nat.blt k 86 then (bif Nat.blt k 77 then (bif Nat.blt k 73 then (bif Nat.blt k 71 then (bif Nat.blt k 70 then (1) else (1)) else (bif Nat.blt k 72 then (1) else (1))) else (bif Nat.blt k 75 then (bif Nat.blt k 74 then (2) else (2)) else (bif Nat.blt k 76 then (2) else (2)))) else (bif Nat.blt k 81 then (bif Nat.blt k 79 then (bif Nat.blt k 78 then (2) else (2)) else (bif Nat.blt k 80 then (1) else (2))) else (bif Nat.blt k 83 then (bif Nat.blt k 82 then (0) else (1)) else (bif Nat.blt k 84 then (2) else (bif Nat.blt k 85 then (0) else (2)))))) else (bif Nat.blt k 94 then (bif Nat.blt k 90 then (bif Nat.blt k 88 then (bif Nat.blt k 87 then (2) else (2)) else (bif Nat.blt k 89 then (1) else (1))) else (bif Nat.blt k 92 then (bif Nat.blt k 91 then (0) else (1)) else (bif Nat.blt k 93 then (1) else (1)))) else (bif Nat.blt k 98 then (bif Nat.blt k 96 then (bif Nat.blt k 95 then (2) else (0)) else (bif Nat.blt k 97 then (1) else (1))) else (bif Nat.blt k 100 then (bif Nat.blt k 99 then (1) else (1)) else (bif Nat.blt k 101 then (2) else (bif Nat.blt k 102 then (1) else (1))))))) else (bif Nat.blt k 120 then (bif Nat.blt k 111 then (bif Nat.blt k 107 then (bif Nat.blt k 105 then (bif Nat.blt k 104 then (1) else (1)) else (bif Nat.blt k 106 then (0) else (0))) else (bif Nat.blt k 109 then (bif Nat.blt k 108 then (2) else (1)) else (bif Nat.blt k 110 then (2) else (0)))) else (bif Nat.blt k 115 then (bif Nat.blt k 113 then (bif Nat.blt k 112 then (2) else (1)) else (bif Nat.blt k 114 then (2) else (1))) else (bif Nat.blt k 117 then (bif Nat.blt k 116 then (1) else (1)) else (bif Nat.blt k 118 then (1) else (bif Nat.blt k 119 then (1) else (1)))))) else (bif Nat.blt k 129 then (bif Nat.blt k 124 then (bif Nat.blt k 122 then (bif Nat.blt k 121 then (1) else (1)) else (bif Nat.blt k 123 then (1) else (1))) else (bif Nat.blt k 126 then (bif Nat.blt k 125 then (1) else (1)) else (bif Nat.blt k 127 then (1) else (bif Nat.blt k 128 then (1) else (1))))) else (bif Nat.blt k 133 then (bif Nat.blt k 131 then (bif Nat.blt k 130 then (1) else (1)) else (bif Nat.blt k 132 then (0) else (0))) else (bif Nat.blt k 135 then (bif Nat.blt k 134 then (0) else (0)) else (bif Nat.blt k 136 then (1) else (bif Nat.blt k 137 then (1) else (3))))))))) else 0
def am_mc (k : Nat) : Nat := bif Nat.blt k 138 then (bif Nat.blt k 69 then (bif Nat.blt k 34 then (bif Nat.blt k 17 then (bif Nat.blt k 8 then (bif Nat.blt k 4 then (bif Nat.blt k 2 then (bif Nat.blt k 1 then (2) else (0)) else (bif Nat.blt k 3 then (0) else (0))) else (bif Nat.blt k 6 then (bif Nat.blt k 5 then (0) else (0)) else (bif Nat.blt k 7 then (0) else (0)))) else (bif Nat.blt k 12 then (bif Nat.blt k 10 then (bif Nat.blt k 9 then (1) else (0)) else (bif Nat.blt k 11 then (0) else (0))) else (bif Nat.blt k 14 then (bif Nat.blt k 13 then (0) else (0)) else (bif Nat.blt k 15 then (0) else (bif Nat.blt k 16 then (0) else (0)))))) else (bif Nat.blt k 25 then (bif Nat.blt k 21 then (bif Nat.blt k 19 then (bif Nat.blt k 18 then (0) else (0)) else (bif Nat.blt k 20 then (2) else (0))) else (bif Nat.blt k 23 then (bif Nat.blt k 22 then (0) else (0)) else (bif Nat.blt k 24 then (0) else (0)))) else (bif Nat.blt k 29 then (bif Nat.blt k 27 then (bif Nat.blt k 26 then (0) else (0)) else (bif Nat.blt k 28 then (0) else (0))) else (bif Nat.blt k 31 then (bif Nat.blt k 30 then (0) else (0)) else (bif Nat.blt k 32 then (7) else (bif Nat.blt k 33 then (0) else (0))))))) else (bif Nat.blt k 51 then (bif Nat.blt k 42 then (bif Nat.blt k 38 then (bif Nat.blt k 36 then (bif Nat.blt k 35 then (0) else (1)) else (bif Nat.blt k 37 then (0) else (0))) else (bif Nat.blt k 40 then (bif Nat.blt k 39 then (5) else (0)) else (bif Nat.blt k 41 then (0) else (0)))) else (bif Nat.blt k 46 then (bif Nat.blt k 44 then (bif Nat.blt k 43 then (0) else (0)) else (bif Nat.blt k 45 then (0) else (0))) else (bif Nat.blt k 48 then (bif Nat.blt k 47 then (0) else (0)) else (bif Nat.blt k 49 then (0) else (bif Nat.blt k 50 then (21) else (0)))))) else (bif Nat.blt k 60 then (bif Nat.blt k 55 then (bif Nat.blt k 53 then (bif Nat.blt k 52 then (0) else (0)) else (bif Nat.blt k 54 then (0) else (0))) else (bif Nat.blt k 57 then (bif Nat.blt k 56 then (0) else (0)) else (bif Nat.blt k 58 then (0) else (bif Nat.blt k 59 then (0) else (0))))) else (bif Nat.blt k 64 then (bif Nat.blt k 62 then (bif Nat.blt k 61 then (0) else (0)) else (bif Nat.blt k 63 then (0) else (0))) else (bif Nat.blt k 66 then (bif Nat.blt k 65 then (0) else (0)) else (bif Nat.blt k 67 then (0) else (bif Nat.blt k 68 then (0) else (0)))))))) else (bif Nat.blt k 103 then (bif Nat.blt k 86 then (bif Nat.blt k 77 then (bif Nat.blt k 73 then (bif Nat.blt k 71 then (bif Nat.blt k 70 then (0) else (0)) else (bif Nat.blt k 72 then (0) else (0))) else (bif Nat.blt k 75 then (bif Nat.blt k 74 then (0) else (0)) else (bif Nat.blt k 76 then (0) else (0)))) else (bif Nat.blt k 81 then (bif Nat.blt k 79 then (bif Nat.blt k 78 then (0) else (0)) else (bif Nat.blt k 80 then (0) else (0))) else (bif Nat.blt k 83 then (bif Nat.blt k 82 then (0) else (0)) else (bif Nat.blt k 84 then (0) else (bif Nat.blt k 85 then (12) else (0)))))) else (bif Nat.blt k 94 then (bif Nat.blt k 90 then (bif Nat.blt k 88 then (bif Nat.blt k 87 then (0) else (0)) else (bif Nat.blt k 89 then (0) else (0))) else (bif Nat.blt k 92 then (bif Nat.blt k 91 then (0) else (0)) else (bif Nat.blt k 93 then (0) else (0)))) else (bif Nat.blt k 98 then (bif Nat.blt k 96 then (bif Nat.blt k 95 then (0) else (0)) else (bif Nat.blt k 97 then (0) else (0))) else (bif Nat.blt k 100 then (bif Nat.blt k 99 then (0) else (0)) else (bif Nat.blt k 101 then (0) else (bif Nat.blt k 102 then (0) else (0))))))) else (bif Nat.blt k 120 then (bif Nat.blt k 111 then (bif Nat.blt k 107 then (bif Nat.blt k 105 then (bif Nat.blt k 104 then (0) else (0)) else (bif Nat.blt k 106 then (0) else (0))) else (bif Nat.blt k 109 then (bif Nat.blt k 108 then (0) else (0)) else (bif Nat.blt k 110 then (0) else (0)))) else (bif Nat.blt k 115 then (bif Nat.blt k 113 then (bif Nat.blt k 112 then (0) else (0)) else (bif Nat.blt k 114 then (0) else (0))) else (bif Nat.blt k 117 then (bif Nat.blt k 116 then (0) else (0)) else (bif Nat.blt k 118 then (0) else (bif Nat.blt k 119 then (0) else (0)))))) else (bif Nat.blt k 129 then (bif Nat.blt k 124 then (bif Nat.blt k 122 then (bif Nat.blt k 121 then (0) else (0)) else (bif Nat.blt k 123 then (0) else (0))) else (bif Nat.blt k 126 then (bif Nat.blt k 125 then (0) else (0)) else (bif Nat.blt k 127 then (0) else (bif Nat.blt k 128 then (0) else (0))))) else (bif Nat.blt k 133 then (bif Nat.blt k 131 then (bif Nat.blt k 130 then (0) else (0)) else (bif Nat.blt k 132 then (0) else (0))) else (bif Nat.blt k 135 then (bif Nat.blt k 134 then (0) else (0)) else (bif Nat.blt k 136 then (0) else (bif Nat.blt k 137 then (0) else (35))))))))) else 0
def am_ms (k : Nat) : Nat := bif Nat.blt k 138 then (bif Nat.blt k 69 then (bif Nat.blt k 34 then (bif Nat.blt k 17 then (bif Nat.blt k 8 then (bif Nat.blt k 4 then (bif Nat.blt k 2 then (bif Nat.blt k 1 then (264) else (0)) else (bif Nat.blt k 3 then (0) else (0))) else (bif Nat.blt k 6 then (bif Nat.blt k 5 then (0) else (0)) else (bif Nat.blt k 7 then (0) else (0)))) else (bif Nat.blt k 12 then (bif Nat.blt k 10 then (bif Nat.blt k 9 then (40) else (0)) else (bif Nat.blt k 11 then (0) else (0))) else (bif Nat.blt k 14 then (bif Nat.blt k 13 then (0) else (0)) else (bif Nat.blt k 15 then (0) else (bif Nat.blt k 16 then (0) else (0)))))) else (bif Nat.blt k 25 then (bif Nat.blt k 21 then (bif Nat.blt k 19 then (bif Nat.blt k 18 then (0) else (0)) else (bif Nat.blt k 20 then (120) else (0))) else (bif Nat.blt k 23 then (bif Nat.blt k 22 then (0) else (0)) else (bif Nat.blt k 24 then (0) else (0)))) else (bif Nat.blt k 29 then (bif Nat.blt k 27 then (bif Nat.blt k 26 then (0) else (0)) else (bif Nat.blt k 28 then (0) else (0))) else (bif Nat.blt k 31 then (bif Nat.blt k 30 then (0) else (0)) else (bif Nat.blt k 32 then (395) else (bif Nat.blt k 33 then (0) else (0))))))) else (bif Nat.blt k 51 then (bif Nat.blt k 42 then (bif Nat.blt k 38 then (bif Nat.blt k 36 then (bif Nat.blt k 35 then (0) else (60)) else (bif Nat.blt k 37 then (0) else (0))) else (bif Nat.blt k 40 then (bif Nat.blt k 39 then (86) else (0)) else (bif Nat.blt k 41 then (0) else (0)))) else (bif Nat.blt k 46 then (bif Nat.blt k 44 then (bif Nat.blt k 43 then (0) else (0)) else (bif Nat.blt k 45 then (0) else (0))) else (bif Nat.blt k 48 then (bif Nat.blt k 47 then (0) else (0)) else (bif Nat.blt k 49 then (0) else (bif Nat.blt k 50 then (664) else (0)))))) else (bif Nat.blt k 60 then (bif Nat.blt k 55 then (bif Nat.blt k 53 then (bif Nat.blt k 52 then (0) else (0)) else (bif Nat.blt k 54 then (0) else (0))) else (bif Nat.blt k 57 then (bif Nat.blt k 56 then (0) else (0)) else (bif Nat.blt k 58 then (0) else (bif Nat.blt k 59 then (0) else (0))))) else (bif Nat.blt k 64 then (bif Nat.blt k 62 then (bif Nat.blt k 61 then (0) else (0)) else (bif Nat.blt k 63 then (0) else (0))) else (bif Nat.blt k 66 then (bif Nat.blt k 65 then (0) else (0)) else (bif Nat.blt k 67 then (0) else (bif Nat.blt k 68 then (0) else (0)))))))) else (bif Nat.blt k 103 then (bif Nat.blt k 86 then (bif Nat.blt k 77 then (bif Nat.blt k 73 then (bif Nat.blt k 71 then (bif Nat.blt k 70 then (0) else (0)) else (bif Nat.blt k 72 then (0) else (0))) else (bif Nat.blt k 75 then (bif Nat.blt k 74 then (0) else (0)) else (bif Nat.blt k 76 then (0) else (0)))) else (bif Nat.blt k 81 then (bif Nat.blt k 79 then (bif Nat.blt k 78 then (0) else (0)) else (bif Nat.blt k 80 then (0) else (0))) else (bif Nat.blt k 83 then (bif Nat.blt k 82 then (0) else (0)) else (bif Nat.blt k 84 then (0) else (bif Nat.blt k 85 then (377) else (0)))))) else (bif Nat.blt k 94 then (bif Nat.blt k 90 then (bif Nat.blt k 88 then (bif Nat.blt k 87 then (0) else (0)) else (bif Nat.blt k 89 then (0) else (0))) else (bif Nat.blt k 92 then (bif Nat.blt k 91 then (0) else (0)) else (bif Nat.blt k 93 then (0) else (0)))) else (bif Nat.blt k 98 then (bif Nat.blt k 96 then (bif Nat.blt k 95 then (0) else (0)) else (bif Nat.blt k 97 then (0) else (0))) else (bif Nat.blt k 100 then (bif Nat.blt k 99 then (0) else (0)) else (bif Nat.blt k 101 then (0) else (bif Nat.blt k 102 then (0) else (0))))))) else (bif Nat.blt k 120 then (bif Nat.blt k 111 then (bif Nat.blt k 107 then (bif Nat.blt k 105 then (bif Nat.blt k 104 then (0) else (0)) else (bif Nat.blt k 106 then (0) else (0))) else (bif Nat.blt k 109 then (bif Nat.blt k 108 then (0) else (0)) else (bif Nat.blt k 110 then (0) else (0)))) else (bif Nat.blt k 115 then (bif Nat.blt k 113 then (bif Nat.blt k 112 then (0) else (0)) else (bif Nat.blt k 114 then (0) else (0))) else (bif Nat.blt k 117 then (bif Nat.blt k 116 then (0) else (0)) else (bif Nat.blt k 118 then (0) else (bif Nat.blt k 119 then (0) else (0)))))) else (bif Nat.blt k 129 then (bif Nat.blt k 124 then (bif Nat.blt k 122 then (bif Nat.blt k 121 then (0) else (0)) else (bif Nat.blt k 123 then (0) else (0))) else (bif Nat.blt k 126 then (bif Nat.blt k 125 then (0) else (0)) else (bif Nat.blt k 127 then (0) else (bif Nat.blt k 128 then (0) else (0))))) else (bif Nat.blt k 133 then (bif Nat.blt k 131 then (bif Nat.blt k 130 then (0) else (0)) else (bif Nat.blt k 132 then (0) else (0))) else (bif Nat.blt k 135 then (bif Nat.blt k 134 then (0) else (0)) else (bif Nat.blt k 136 then (0) else (bif Nat.blt k 137 then (0) else (1067))))))))) else 0
def am_na (k : Nat) : Nat := bif Nat.blt k 138 then (bif Nat.blt k 69 then (bif Nat.blt k 34 then (bif Nat.blt k 17 then (bif Nat.blt k 8 then (bif Nat.blt k 4 then (bif Nat.blt k 2 then (bif Nat.blt k 1 then (1) else (1)) else (bif Nat.blt k 3 then (3) else (3))) else (bif Nat.blt k 6 then (bif Nat.blt k 5 then (2) else (3)) else (bif Nat.blt k 7 then (3) else (3)))) else (bif Nat.blt k 12 then (bif Nat.blt k 10 then (bif Nat.blt k 9 then (1) else (3)) else (bif Nat.blt k 11 then (2) else (3))) else (bif Nat.blt k 14 then (bif Nat.blt k 13 then (2) else (3)) else (bif Nat.blt k 15 then (4) else (bif Nat.blt k 16 then (3) else (4)))))) else (bif Nat.blt k 25 then (bif Nat.blt k 21 then (bif Nat.blt k 19 then (bif Nat.blt k 18 then (2) else (4)) else (bif Nat.blt k 20 then (1) else (2))) else (bif Nat.blt k 23 then (bif Nat.blt k 22 then (2) else (2)) else (bif Nat.blt k 24 then (2) else (1)))) else (bif Nat.blt k 29 then (bif Nat.blt k 27 then (bif Nat.blt k 26 then (6) else (1)) else (bif Nat.blt k 28 then (2) else (2))) else (bif Nat.blt k 31 then (bif Nat.blt k 30 then (3) else (1)) else (bif Nat.blt k 32 then (1) else (bif Nat.blt k 33 then (2) else (1))))))) else (bif Nat.blt k 51 then (bif Nat.blt k 42 then (bif Nat.blt k 38 then (bif Nat.blt k 36 then (bif Nat.blt k 35 then (6) else (1)) else (bif Nat.blt k 37 then (2) else (3))) else (bif Nat.blt k 40 then (bif Nat.blt k 39 then (1) else (4)) else (bif Nat.blt k 41 then (4) else (5)))) else (bif Nat.blt k 46 then (bif Nat.blt k 44 then (bif Nat.blt k 43 then (3) else (4)) else (bif Nat.blt k 45 then (3) else (3))) else (bif Nat.blt k 48 then (bif Nat.blt k 47 then (3) else (4)) else (bif Nat.blt k 49 then (3) else (bif Nat.blt k 50 then (1) else (2)))))) else (bif Nat.blt k 60 then (bif Nat.blt k 55 then (bif Nat.blt k 53 then (bif Nat.blt k 52 then (3) else (3)) else (bif Nat.blt k 54 then (4) else (2))) else (bif Nat.blt k 57 then (bif Nat.blt k 56 then (6) else (5)) else (bif Nat.blt k 58 then (3) else (bif Nat.blt k 59 then (3) else (1))))) else (bif Nat.blt k 64 then (bif Nat.blt k 62 then (bif Nat.blt k 61 then (2) else (1)) else (bif Nat.blt k 63 then (2) else (4))) else (bif Nat.blt k 66 then (bif Nat.blt k 65 then (1) else (1)) else (bif Nat.blt k 67 then (1) else (bif Nat.blt k 68 then (1) else (2)))))))) else (bif Nat.blt k 103 then (bif Nat.blt k 86 then (bif Nat.blt k 77 then (bif Nat.blt k 73 then (bif Nat.blt k 71 then (bif Nat.blt k 70 then (2) else (4)) else (bif Nat.blt k 72 then (2) else (5))) else (bif Nat.blt k 75 then (bif Nat.blt k 74 then (1) else (1)) else (bif Nat.blt k 76 then (1) else (1)))) else (bif Nat.blt k 81 then (bif Nat.blt k 79 then (bif Nat.blt k 78 then (1) else (2)) else (bif Nat.blt k 80 then (1) else (4))) else (bif Nat.blt k 83 then (bif Nat.blt k 82 then (4) else (6)) else (bif Nat.blt k 84 then (3) else (bif Nat.blt k 85 then (1) else (1)))))) else (bif Nat.blt k 94 then (bif Nat.blt k 90 then (bif Nat.blt k 88 then (bif Nat.blt k 87 then (1) else (2)) else (bif Nat.blt k 89 then (2) else (3))) else (bif Nat.blt k 92 then (bif Nat.blt k 91 then (3) else (3)) else (bif Nat.blt k 93 then (4) else (2)))) else (bif Nat.blt k 98 then (bif Nat.blt k 96 then (bif Nat.blt k 95 then (6) else (6)) else (bif Nat.blt k 97 then (6) else (3))) else (bif Nat.blt k 100 then (bif Nat.blt k 99 then (3) else (1)) else (bif Nat.blt k 101 then (1) else (bif Nat.blt k 102 then (4) else (2))))))) else (bif Nat.blt k 120 then (bif Nat.blt k 111 then (bif Nat.blt k 107 then (bif Nat.blt k 105 then (bif Nat.blt k 104 then (5) else (5)) else (bif Nat.blt k 106 then (1) else (2))) else (bif Nat.blt k 109 then (bif Nat.blt k 108 then (2) else (2)) else (bif Nat.blt k 110 then (2) else (3)))) else (bif Nat.blt k 115 then (bif Nat.blt k 113 then (bif Nat.blt k 112 then (4) else (1)) else (bif Nat.blt k 114 then (3) else (2))) else (bif Nat.blt k 117 then (bif Nat.blt k 116 then (1) else (2)) else (bif Nat.blt k 118 then (1) else (bif Nat.blt k 119 then (2) else (1)))))) else (bif Nat.blt k 129 then (bif Nat.blt k 124 then (bif Nat.blt k 122 then (bif Nat.blt k 121 then (4) else (1)) else (bif Nat.blt k 123 then (1) else (1))) else (bif Nat.blt k 126 then (bif Nat.blt k 125 then (1) else (1)) else (bif Nat.blt k 127 then (1) else (bif Nat.blt k 128 then (2) else (2))))) else (bif Nat.blt k 133 then (bif Nat.blt k 131 then (bif Nat.blt k 130 then (3) else (3)) else (bif Nat.blt k 132 then (1) else (1))) else (bif Nat.blt k 135 then (bif Nat.blt k 134 then (3) else (2)) else (bif Nat.blt k 136 then (2) else (bif Nat.blt k 137 then (1) else (1))))))))) else 0
def am_kd (k : Nat) : Nat := bif Nat.blt k 138 then (bif Nat.blt k 69 then (bif Nat.blt k 34 then (bif Nat.blt k 17 then (bif Nat.blt k 8 then (bif Nat.blt k 4 then (bif Nat.blt k 2 then (bif Nat.blt k 1 then (2) else (1)) else (bif Nat.blt k 3 then (1) else (1))) else (bif Nat.blt k 6 then (bif Nat.blt k 5 then (1) else (1)) else (bif Nat.blt k 7 then (1) else (1)))) else (bif Nat.blt k 12 then (bif Nat.blt k 10 then (bif Nat.blt k 9 then (2) else (1)) else (bif Nat.blt k 11 then (1) else (1))) else (bif Nat.blt k 14 then (bif Nat.blt k 13 then (1) else (1)) else (bif Nat.blt k 15 then (1) else (bif Nat.blt k 16 then (1) else (1)))))) else (bif Nat.blt k 25 then (bif Nat.blt k 21 then (bif Nat.blt k 19 then (bif Nat.blt k 18 then (1) else (1)) else (bif Nat.blt k 20 then (2) else (1))) else (bif Nat.blt k 23 then (bif Nat.blt k 22 then (1) else (1)) else (bif Nat.blt k 24 then (1) else (0)))) else (bif Nat.blt k 29 then (bif Nat.blt k 27 then (bif Nat.blt k 26 then (1) else (1)) else (bif Nat.blt k 28 then (1) else (1))) else (bif Nat.blt k 31 then (bif Nat.blt k 30 then (1) else (1)) else (bif Nat.blt k 32 then (2) else (bif Nat.blt k 33 then (1) else (1))))))) else (bif Nat.blt k 51 then (bif Nat.blt k 42 then (bif Nat.blt k 38 then (bif Nat.blt k 36 then (bif Nat.blt k 35 then (1) else (2)) else (bif Nat.blt k 37 then (1) else (1))) else (bif Nat.blt k 40 then (bif Nat.blt k 39 then (2) else (1)) else (bif Nat.blt k 41 then (1) else (1)))) else (bif Nat.blt k 46 then (bif Nat.blt k 44 then (bif Nat.blt k 43 then (1) else (1)) else (bif Nat.blt k 45 then (1) else (1))) else (bif Nat.blt k 48 then (bif Nat.blt k 47 then (1) else (1)) else (bif Nat.blt k 49 then (1) else (bif Nat.blt k 50 then (2) else (1)))))) else (bif Nat.blt k 60 then (bif Nat.blt k 55 then (bif Nat.blt k 53 then (bif Nat.blt k 52 then (1) else (1)) else (bif Nat.blt k 54 then (1) else (1))) else (bif Nat.blt k 57 then (bif Nat.blt k 56 then (1) else (1)) else (bif Nat.blt k 58 then (1) else (bif Nat.blt k 59 then (1) else (1))))) else (bif Nat.blt k 64 then (bif Nat.blt k 62 then (bif Nat.blt k 61 then (1) else (1)) else (bif Nat.blt k 63 then (1) else (1))) else (bif Nat.blt k 66 then (bif Nat.blt k 65 then (1) else (1)) else (bif Nat.blt k 67 then (1) else (bif Nat.blt k 68 then (1) else (1)))))))) else (bif Nat.blt k 103 then (bif Nat.blt k 86 then (bif Nat.blt k 77 then (bif Nat.blt k 73 then (bif Nat.blt k 71 then (bif Nat.blt k 70 then (1) else (1)) else (bif Nat.blt k 72 then (1) else (1))) else (bif Nat.blt k 75 then (bif Nat.blt k 74 then (0) else (0)) else (bif Nat.blt k 76 then (0) else (0)))) else (bif Nat.blt k 81 then (bif Nat.blt k 79 then (bif Nat.blt k 78 then (0) else (0)) else (bif Nat.blt k 80 then (0) else (1))) else (bif Nat.blt k 83 then (bif Nat.blt k 82 then (1) else (0)) else (bif Nat.blt k 84 then (0) else (bif Nat.blt k 85 then (2) else (0)))))) else (bif Nat.blt k 94 then (bif Nat.blt k 90 then (bif Nat.blt k 88 then (bif Nat.blt k 87 then (0) else (1)) else (bif Nat.blt k 89 then (1) else (1))) else (bif Nat.blt k 92 then (bif Nat.blt k 91 then (1) else (1)) else (bif Nat.blt k 93 then (1) else (1)))) else (bif Nat.blt k 98 then (bif Nat.blt k 96 then (bif Nat.blt k 95 then (1) else (1)) else (bif Nat.blt k 97 then (1) else (1))) else (bif Nat.blt k 100 then (bif Nat.blt k 99 then (1) else (1)) else (bif Nat.blt k 101 then (0) else (bif Nat.blt k 102 then (1) else (1))))))) else (bif Nat.blt k 120 then (bif Nat.blt k 111 then (bif Nat.blt k 107 then (bif Nat.blt k 105 then (bif Nat.blt k 104 then (1) else (1)) else (bif Nat.blt k 106 then (1) else (1))) else (bif Nat.blt k 109 then (bif Nat.blt k 108 then (1) else (1)) else (bif Nat.blt k 110 then (1) else (1)))) else (bif Nat.blt k 115 then (bif Nat.blt k 113 then (bif Nat.blt k 112 then (1) else (1)) else (bif Nat.blt k 114 then (1) else (1))) else (bif Nat.blt k 117 then (bif Nat.blt k 116 then (0) else (1)) else (bif Nat.blt k 118 then (1) else (bif Nat.blt k 119 then (1) else (0)))))) else (bif Nat.blt k 129 then (bif Nat.blt k 124 then (bif Nat.blt k 122 then (bif Nat.blt k 121 then (1) else (0)) else (bif Nat.blt k 123 then (1) else (1))) else (bif Nat.blt k 126 then (bif Nat.blt k 125 then (1) else (1)) else (bif Nat.blt k 127 then (1) else (bif Nat.blt k 128 then (1) else (1))))) else (bif Nat.blt k 133 then (bif Nat.blt k 131 then (bif Nat.blt k 130 then (1) else (1)) else (bif Nat.blt k 132 then (1) else (1))) else (bif Nat.blt k 135 then (bif Nat.blt k 134 then (1) else (1)) else (bif Nat.blt k 136 then (1) else (bif Nat.blt k 137 then (0) else (0))))))))) else 0
def am_ci (k : Nat) : Nat := bif Nat.blt k 138 then (bif Nat.blt k 69 then (bif Nat.blt k 34 then (bif Nat.blt k 17 then (bif Nat.blt k 8 then (bif Nat.blt k 4 then (bif Nat.blt k 2 then (bif Nat.blt k 1 then (0) else (0)) else (bif Nat.blt k 3 then (0) else (0))) else (bif Nat.blt k 6 then (bif Nat.blt k 5 then (0) else (0)) else (bif Nat.blt k 7 then (0) else (0)))) else (bif Nat.blt k 12 then (bif Nat.blt k 10 then (bif Nat.blt k 9 then (1) else (1)) else (bif Nat.blt k 11 then (1) else (1))) else (bif Nat.blt k 14 then (bif Nat.blt k 13 then (1) else (1)) else (bif Nat.blt k 15 then (1) else (bif Nat.blt k 16 then (1) else (1)))))) else (bif Nat.blt k 25 then (bif Nat.blt k 21 then (bif Nat.blt k 19 then (bif Nat.blt k 18 then (1) else (1)) else (bif Nat.blt k 20 then (2) else (2))) else (bif Nat.blt k 23 then (bif Nat.blt k 22 then (2) else (2)) else (bif Nat.blt k 24 then (2) else (2)))) else (bif Nat.blt k 29 then (bif Nat.blt k 27 then (bif Nat.blt k 26 then (2) else (2)) else (bif Nat.blt k 28 then (2) else (2))) else (bif Nat.blt k 31 then (bif Nat.blt k 30 then (2) else (2)) else (bif Nat.blt k 32 then (3) else (bif Nat.blt k 33 then (3) else (3))))))) else (bif Nat.blt k 51 then (bif Nat.blt k 42 then (bif Nat.blt k 38 then (bif Nat.blt k 36 then (bif Nat.blt k 35 then (3) else (4)) else (bif Nat.blt k 37 then (4) else (4))) else (bif Nat.blt k 40 then (bif Nat.blt k 39 then (5) else (5)) else (bif Nat.blt k 41 then (5) else (5)))) else (bif Nat.blt k 46 then (bif Nat.blt k 44 then (bif Nat.blt k 43 then (5) else (5)) else (bif Nat.blt k 45 then (5) else (5))) else (bif Nat.blt k 48 then (bif Nat.blt k 47 then (5) else (5)) else (bif Nat.blt k 49 then (5) else (bif Nat.blt k 50 then (6) else (6)))))) else (bif Nat.blt k 60 then (bif Nat.blt k 55 then (bif Nat.blt k 53 then (bif Nat.blt k 52 then (6) else (6)) else (bif Nat.blt k 54 then (6) else (6))) else (bif Nat.blt k 57 then (bif Nat.blt k 56 then (6) else (6)) else (bif Nat.blt k 58 then (6) else (bif Nat.blt k 59 then (6) else (6))))) else (bif Nat.blt k 64 then (bif Nat.blt k 62 then (bif Nat.blt k 61 then (6) else (6)) else (bif Nat.blt k 63 then (6) else (6))) else (bif Nat.blt k 66 then (bif Nat.blt k 65 then (6) else (6)) else (bif Nat.blt k 67 then (6) else (bif Nat.blt k 68 then (6) else (6)))))))) else (bif Nat.blt k 103 then (bif Nat.blt k 86 then (bif Nat.blt k 77 then (bif Nat.blt k 73 then (bif Nat.blt k 71 then (bif Nat.blt k 70 then (6) else (6)) else (bif Nat.blt k 72 then (6) else (6))) else (bif Nat.blt k 75 then (bif Nat.blt k 74 then (6) else (6)) else (bif Nat.blt k 76 then (6) else (6)))) else (bif Nat.blt k 81 then (bif Nat.blt k 79 then (bif Nat.blt k 78 then (6) else (6)) else (bif Nat.blt k 80 then (6) else (6))) else (bif Nat.blt k 83 then (bif Nat.blt k 82 then (6) else (6)) else (bif Nat.blt k 84 then (7) else (bif Nat.blt k 85 then (7) else (7)))))) else (bif Nat.blt k 94 then (bif Nat.blt k 90 then (bif Nat.blt k 88 then (bif Nat.blt k 87 then (7) else (7)) else (bif Nat.blt k 89 then (7) else (7))) else (bif Nat.blt k 92 then (bif Nat.blt k 91 then (7) else (7)) else (bif Nat.blt k 93 then (7) else (7)))) else (bif Nat.blt k 98 then (bif Nat.blt k 96 then (bif Nat.blt k 95 then (7) else (7)) else (bif Nat.blt k 97 then (7) else (7))) else (bif Nat.blt k 100 then (bif Nat.blt k 99 then (7) else (7)) else (bif Nat.blt k 101 then (7) else (bif Nat.blt k 102 then (7) else (7))))))) else (bif Nat.blt k 120 then (bif Nat.blt k 111 then (bif Nat.blt k 107 then (bif Nat.blt k 105 then (bif Nat.blt k 104 then (7) else (7)) else (bif Nat.blt k 106 then (7) else (7))) else (bif Nat.blt k 109 then (bif Nat.blt k 108 then (7) else (7)) else (bif Nat.blt k 110 then (7) else (7)))) else (bif Nat.blt k 115 then (bif Nat.blt k 113 then (bif Nat.blt k 112 then (7) else (7)) else (bif Nat.blt k 114 then (7) else (7))) else (bif Nat.blt k 117 then (bif Nat.blt k 116 then (7) else (7)) else (bif Nat.blt k 118 then (7) else (bif Nat.blt k 119 then (7) else (7)))))) else (bif Nat.blt k 129 then (bif Nat.blt k 124 then (bif Nat.blt k 122 then (bif Nat.blt k 121 then (7) else (7)) else (bif Nat.blt k 123 then (7) else (7))) else (bif Nat.blt k 126 then (bif Nat.blt k 125 then (7) else (7)) else (bif Nat.blt k 127 then (7) else (bif Nat.blt k 128 then (7) else (7))))) else (bif Nat.blt k 133 then (bif Nat.blt k 131 then (bif Nat.blt k 130 then (7) else (7)) else (bif Nat.blt k 132 then (7) else (7))) else (bif Nat.blt k 135 then (bif Nat.blt k 134 then (7) else (7)) else (bif Nat.blt k 136 then (7) else (bif Nat.blt k 137 then (99) else (99))))))))) else 0
def am_sz (k : Nat) : Nat := bif Nat.blt k 138 then (bif Nat.blt k 69 then (bif Nat.blt k 34 then (bif Nat.blt k 17 then (bif Nat.blt k 8 then (bif Nat.blt k 4 then (bif Nat.blt k 2 then (bif Nat.blt k 1 then (26) else (49)) else (bif Nat.blt k 3 then (11) else (90))) else (bif Nat.blt k 6 then (bif Nat.blt k 5 then (11) else (40)) else (bif Nat.blt k 7 then (49) else (40)))) else (bif Nat.blt k 12 then (bif Nat.blt k 10 then (bif Nat.blt k 9 then (13) else (177)) else (bif Nat.blt k 11 then (33) else (12))) else (bif Nat.blt k 14 then (bif Nat.blt k 13 then (81) else (74)) else (bif Nat.blt k 15 then (65) else (bif Nat.blt k 16 then (72) else (84)))))) else (bif Nat.blt k 25 then (bif Nat.blt k 21 then (bif Nat.blt k 19 then (bif Nat.blt k 18 then (89) else (25)) else (bif Nat.blt k 20 then (21) else (18))) else (bif Nat.blt k 23 then (bif Nat.blt k 22 then (9) else (11)) else (bif Nat.blt k 24 then (11) else (48)))) else (bif Nat.blt k 29 then (bif Nat.blt k 27 then (bif Nat.blt k 26 then (105) else (16)) else (bif Nat.blt k 28 then (72) else (9))) else (bif Nat.blt k 31 then (bif Nat.blt k 30 then (103) else (45)) else (bif Nat.blt k 32 then (69) else (bif Nat.blt k 33 then (18) else (9))))))) else (bif Nat.blt k 51 then (bif Nat.blt k 42 then (bif Nat.blt k 38 then (bif Nat.blt k 36 then (bif Nat.blt k 35 then (148) else (18)) else (bif Nat.blt k 37 then (26) else (31))) else (bif Nat.blt k 40 then (bif Nat.blt k 39 then (43) else (53)) else (bif Nat.blt k 41 then (114) else (129)))) else (bif Nat.blt k 46 then (bif Nat.blt k 44 then (bif Nat.blt k 43 then (74) else (152)) else (bif Nat.blt k 45 then (215) else (78))) else (bif Nat.blt k 48 then (bif Nat.blt k 47 then (49) else (136)) else (bif Nat.blt k 49 then (26) else (bif Nat.blt k 50 then (72) else (59)))))) else (bif Nat.blt k 60 then (bif Nat.blt k 55 then (bif Nat.blt k 53 then (bif Nat.blt k 52 then (80) else (38)) else (bif Nat.blt k 54 then (58) else (97))) else (bif Nat.blt k 57 then (bif Nat.blt k 56 then (67) else (135)) else (bif Nat.blt k 58 then (50) else (bif Nat.blt k 59 then (67) else (23))))) else (bif Nat.blt k 64 then (bif Nat.blt k 62 then (bif Nat.blt k 61 then (55) else (29)) else (bif Nat.blt k 63 then (36) else (74))) else (bif Nat.blt k 66 then (bif Nat.blt k 65 then (23) else (102)) else (bif Nat.blt k 67 then (18) else (bif Nat.blt k 68 then (62) else (99)))))))) else (bif Nat.blt k 103 then (bif Nat.blt k 86 then (bif Nat.blt k 77 then (bif Nat.blt k 73 then (bif Nat.blt k 71 then (bif Nat.blt k 70 then (13) else (42)) else (bif Nat.blt k 72 then (37) else (77))) else (bif Nat.blt k 75 then (bif Nat.blt k 74 then (16) else (16)) else (bif Nat.blt k 76 then (15) else (15)))) else (bif Nat.blt k 81 then (bif Nat.blt k 79 then (bif Nat.blt k 78 then (15) else (15)) else (bif Nat.blt k 80 then (26) else (65))) else (bif Nat.blt k 83 then (bif Nat.blt k 82 then (62) else (144)) else (bif Nat.blt k 84 then (16) else (bif Nat.blt k 85 then (187) else (8)))))) else (bif Nat.blt k 94 then (bif Nat.blt k 90 then (bif Nat.blt k 88 then (bif Nat.blt k 87 then (8) else (12)) else (bif Nat.blt k 89 then (140) else (61))) else (bif Nat.blt k 92 then (bif Nat.blt k 91 then (35) else (34)) else (bif Nat.blt k 93 then (47) else (75)))) else (bif Nat.blt k 98 then (bif Nat.blt k 96 then (bif Nat.blt k 95 then (131) else (153)) else (bif Nat.blt k 97 then (46) else (81))) else (bif Nat.blt k 100 then (bif Nat.blt k 99 then (73) else (12)) else (bif Nat.blt k 101 then (7) else (bif Nat.blt k 102 then (76) else (35))))))) else (bif Nat.blt k 120 then (bif Nat.blt k 111 then (bif Nat.blt k 107 then (bif Nat.blt k 105 then (bif Nat.blt k 104 then (87) else (258)) else (bif Nat.blt k 106 then (24) else (186))) else (bif Nat.blt k 109 then (bif Nat.blt k 108 then (52) else (40)) else (bif Nat.blt k 110 then (30) else (145)))) else (bif Nat.blt k 115 then (bif Nat.blt k 113 then (bif Nat.blt k 112 then (382) else (39)) else (bif Nat.blt k 114 then (36) else (39))) else (bif Nat.blt k 117 then (bif Nat.blt k 116 then (26) else (137)) else (bif Nat.blt k 118 then (9) else (bif Nat.blt k 119 then (50) else (18)))))) else (bif Nat.blt k 129 then (bif Nat.blt k 124 then (bif Nat.blt k 122 then (bif Nat.blt k 121 then (142) else (18)) else (bif Nat.blt k 123 then (8) else (73))) else (bif Nat.blt k 126 then (bif Nat.blt k 125 then (72) else (18)) else (bif Nat.blt k 127 then (5) else (bif Nat.blt k 128 then (125) else (25))))) else (bif Nat.blt k 133 then (bif Nat.blt k 131 then (bif Nat.blt k 130 then (51) else (30)) else (bif Nat.blt k 132 then (136) else (112))) else (bif Nat.blt k 135 then (bif Nat.blt k 134 then (104) else (92)) else (bif Nat.blt k 136 then (303) else (bif Nat.blt k 137 then (53) else (833))))))))) else 0
def am_pw (k : Nat) : List Nat := bif Nat.blt k 138 then (bif Nat.blt k 69 then (bif Nat.blt k 34 then (bif Nat.blt k 17 then (bif Nat.blt k 8 then (bif Nat.blt k 4 then (bif Nat.blt k 2 then (bif Nat.blt k 1 then ([68, 67, 0, 42]) else ([73, 71, 72, 42])) else (bif Nat.blt k 3 then ([259, 257, 258, 42]) else ([266, 264, 265, 42]))) else (bif Nat.blt k 6 then (bif Nat.blt k 5 then ([396, 394, 395, 42]) else ([516, 514, 515, 42])) else (bif Nat.blt k 7 then ([512, 510, 511, 42]) else ([503, 501, 502, 42])))) else (bif Nat.blt k 12 then (bif Nat.blt k 10 then (bif Nat.blt k 9 then ([187, 186, 0, 45]) else ([482, 480, 481, 45])) else (bif Nat.blt k 11 then ([492, 491, 9, 45]) else ([521, 520, 12, 45]))) else (bif Nat.blt k 14 then (bif Nat.blt k 13 then ([486, 485, 8, 45]) else ([498, 497, 10, 45])) else (bif Nat.blt k 15 then ([508, 507, 11, 45]) else (bif Nat.blt k 16 then ([525, 524, 13, 45]) else ([529, 528, 14, 45])))))) else (bif Nat.blt k 25 then (bif Nat.blt k 21 then (bif Nat.blt k 19 then (bif Nat.blt k 18 then ([539, 538, 16, 45]) else ([534, 533, 15, 45])) else (bif Nat.blt k 20 then ([91, 90, 0, 43]) else ([337, 335, 336, 43]))) else (bif Nat.blt k 23 then (bif Nat.blt k 22 then ([240, 238, 239, 43]) else ([244, 242, 243, 43])) else (bif Nat.blt k 24 then ([248, 246, 247, 43]) else ([307, 306, 0, 43])))) else (bif Nat.blt k 29 then (bif Nat.blt k 27 then (bif Nat.blt k 26 then ([304, 302, 303, 43]) else ([358, 356, 357, 43])) else (bif Nat.blt k 28 then ([236, 234, 235, 43]) else ([341, 339, 340, 43]))) else (bif Nat.blt k 31 then (bif Nat.blt k 30 then ([346, 344, 345, 43]) else ([371, 369, 370, 43])) else (bif Nat.blt k 32 then ([62, 61, 0, 41]) else (bif Nat.blt k 33 then ([284, 282, 283, 41]) else ([405, 403, 404, 41]))))))) else (bif Nat.blt k 51 then (bif Nat.blt k 42 then (bif Nat.blt k 38 then (bif Nat.blt k 36 then (bif Nat.blt k 35 then ([296, 294, 295, 41]) else ([201, 200, 0, 46])) else (bif Nat.blt k 37 then ([321, 319, 320, 46]) else ([547, 545, 546, 46]))) else (bif Nat.blt k 40 then (bif Nat.blt k 39 then ([162, 161, 0, 44]) else ([409, 407, 408, 44])) else (bif Nat.blt k 41 then ([413, 411, 412, 44]) else ([439, 437, 438, 44])))) else (bif Nat.blt k 46 then (bif Nat.blt k 44 then (bif Nat.blt k 43 then ([367, 365, 366, 44]) else ([375, 374, 2, 44])) else (bif Nat.blt k 45 then ([382, 381, 3, 44]) else ([417, 416, 5, 44]))) else (bif Nat.blt k 48 then (bif Nat.blt k 47 then ([392, 391, 4, 44]) else ([421, 420, 6, 44])) else (bif Nat.blt k 49 then ([425, 424, 7, 44]) else (bif Nat.blt k 50 then ([54, 53, 0, 40]) else ([232, 230, 231, 40])))))) else (bif Nat.blt k 60 then (bif Nat.blt k 55 then (bif Nat.blt k 53 then (bif Nat.blt k 52 then ([252, 250, 251, 40]) else ([270, 268, 269, 40])) else (bif Nat.blt k 54 then ([277, 275, 276, 40]) else ([288, 286, 287, 40]))) else (bif Nat.blt k 57 then (bif Nat.blt k 56 then ([292, 290, 291, 40]) else ([311, 309, 310, 40])) else (bif Nat.blt k 58 then ([333, 331, 332, 40]) else (bif Nat.blt k 59 then ([350, 348, 349, 40]) else ([354, 352, 353, 40]))))) else (bif Nat.blt k 64 then (bif Nat.blt k 62 then (bif Nat.blt k 61 then ([362, 360, 361, 40]) else ([401, 399, 400, 40])) else (bif Nat.blt k 63 then ([429, 427, 428, 40]) else ([434, 432, 433, 40]))) else (bif Nat.blt k 66 then (bif Nat.blt k 65 then ([446, 444, 445, 40]) else ([458, 456, 457, 40])) else (bif Nat.blt k 67 then ([462, 460, 461, 40]) else (bif Nat.blt k 68 then ([466, 464, 465, 40]) else ([474, 472, 473, 40])))))))) else (bif Nat.blt k 103 then (bif Nat.blt k 86 then (bif Nat.blt k 77 then (bif Nat.blt k 73 then (bif Nat.blt k 71 then (bif Nat.blt k 70 then ([478, 476, 477, 40]) else ([543, 541, 542, 40])) else (bif Nat.blt k 72 then ([551, 549, 550, 40]) else ([555, 553, 554, 40]))) else (bif Nat.blt k 75 then (bif Nat.blt k 74 then ([255, 254, 0, 40]) else ([280, 279, 0, 40])) else (bif Nat.blt k 76 then ([273, 272, 0, 40]) else ([314, 313, 0, 40])))) else (bif Nat.blt k 81 then (bif Nat.blt k 79 then (bif Nat.blt k 78 then ([317, 316, 0, 40]) else ([262, 261, 0, 40])) else (bif Nat.blt k 80 then ([442, 441, 0, 40]) else ([325, 324, 0, 40]))) else (bif Nat.blt k 83 then (bif Nat.blt k 82 then ([329, 328, 1, 40]) else ([469, 468, 0, 40])) else (bif Nat.blt k 84 then ([635, 634, 0, 47]) else (bif Nat.blt k 85 then ([560, 559, 0, 47]) else ([642, 641, 0, 47])))))) else (bif Nat.blt k 94 then (bif Nat.blt k 90 then (bif Nat.blt k 88 then (bif Nat.blt k 87 then ([657, 656, 0, 47]) else ([673, 672, 19, 47])) else (bif Nat.blt k 89 then ([632, 630, 631, 47]) else ([639, 637, 638, 47]))) else (bif Nat.blt k 92 then (bif Nat.blt k 91 then ([646, 645, 17, 47]) else ([650, 648, 649, 47])) else (bif Nat.blt k 93 then ([654, 652, 653, 47]) else ([661, 659, 660, 47])))) else (bif Nat.blt k 98 then (bif Nat.blt k 96 then (bif Nat.blt k 95 then ([669, 668, 18, 47]) else ([677, 676, 20, 47])) else (bif Nat.blt k 97 then ([665, 663, 664, 47]) else ([681, 679, 680, 47]))) else (bif Nat.blt k 100 then (bif Nat.blt k 99 then ([685, 683, 684, 47]) else ([689, 687, 688, 47])) else (bif Nat.blt k 101 then ([696, 695, 0, 47]) else (bif Nat.blt k 102 then ([693, 691, 692, 47]) else ([700, 698, 699, 47]))))))) else (bif Nat.blt k 120 then (bif Nat.blt k 111 then (bif Nat.blt k 107 then (bif Nat.blt k 105 then (bif Nat.blt k 104 then ([704, 702, 703, 47]) else ([708, 706, 707, 47])) else (bif Nat.blt k 106 then ([716, 715, 21, 47]) else ([720, 719, 22, 47]))) else (bif Nat.blt k 109 then (bif Nat.blt k 108 then ([724, 723, 23, 47]) else ([728, 727, 24, 47])) else (bif Nat.blt k 110 then ([756, 755, 30, 47]) else ([752, 751, 29, 47])))) else (bif Nat.blt k 115 then (bif Nat.blt k 113 then (bif Nat.blt k 112 then ([748, 747, 28, 47]) else ([736, 735, 25, 47])) else (bif Nat.blt k 114 then ([744, 743, 27, 47]) else ([740, 739, 26, 47]))) else (bif Nat.blt k 117 then (bif Nat.blt k 116 then ([778, 777, 0, 47]) else ([712, 710, 711, 47])) else (bif Nat.blt k 118 then ([732, 730, 731, 47]) else (bif Nat.blt k 119 then ([760, 758, 759, 47]) else ([767, 766, 0, 47])))))) else (bif Nat.blt k 129 then (bif Nat.blt k 124 then (bif Nat.blt k 122 then (bif Nat.blt k 121 then ([764, 762, 763, 47]) else ([775, 774, 0, 47])) else (bif Nat.blt k 123 then ([771, 769, 770, 47]) else ([782, 780, 781, 47]))) else (bif Nat.blt k 126 then (bif Nat.blt k 125 then ([790, 789, 31, 47]) else ([786, 784, 785, 47])) else (bif Nat.blt k 127 then ([794, 792, 793, 47]) else (bif Nat.blt k 128 then ([798, 796, 797, 47]) else ([810, 809, 33, 47]))))) else (bif Nat.blt k 133 then (bif Nat.blt k 131 then (bif Nat.blt k 130 then ([819, 818, 35, 47]) else ([827, 826, 37, 47])) else (bif Nat.blt k 132 then ([806, 805, 32, 47]) else ([815, 814, 34, 47]))) else (bif Nat.blt k 135 then (bif Nat.blt k 134 then ([823, 822, 36, 47]) else ([831, 830, 38, 47])) else (bif Nat.blt k 136 then ([802, 800, 801, 47]) else (bif Nat.blt k 137 then ([450, 449, 0, 49]) else ([]))))))))) else []
def am_R (k : Nat) : String := bif Nat.blt k 8 then (bif Nat.blt k 4 then (bif Nat.blt k 2 then (bif Nat.blt k 1 then (RX0) else (RX1)) else (bif Nat.blt k 3 then (RX2) else (RX3))) else (bif Nat.blt k 6 then (bif Nat.blt k 5 then (RX4) else (RX5)) else (bif Nat.blt k 7 then (RX6) else (RX7)))) else ""
def am_T (k : Nat) : u_T := bif Nat.blt k 8 then (bif Nat.blt k 4 then (bif Nat.blt k 2 then (bif Nat.blt k 1 then (TX0) else (TX1)) else (bif Nat.blt k 3 then (TX2) else (TX3))) else (bif Nat.blt k 6 then (bif Nat.blt k 5 then (TX4) else (TX5)) else (bif Nat.blt k 7 then (TX6) else (TX7)))) else TX0
def am_ty (k : Nat) : Nat → FieldType := bif Nat.blt k 8 then (bif Nat.blt k 4 then (bif Nat.blt k 2 then (bif Nat.blt k 1 then (tyX0) else (tyX1)) else (bif Nat.blt k 3 then (tyX2) else (tyX3))) else (bif Nat.blt k 6 then (bif Nat.blt k 5 then (tyX4) else (tyX5)) else (bif Nat.blt k 7 then (tyX6) else (tyX7)))) else tyX0
def am_nf (k : Nat) : Nat := bif Nat.blt k 8 then (bif Nat.blt k 4 then (bif Nat.blt k 2 then (bif Nat.blt k 1 then (3) else (2)) else (bif Nat.blt k 3 then (5) else (7))) else (bif Nat.blt k 6 then (bif Nat.blt k 5 then (3) else (6)) else (bif Nat.blt k 7 then (4) else (22)))) else 0
def am_cw (k : Nat) : List Nat := bif Nat.blt k 8 then (bif Nat.blt k 4 then (bif Nat.blt k 2 then (bif Nat.blt k 1 then ([65, 42]) else ([184, 45])) else (bif Nat.blt k 3 then ([88, 43]) else ([59, 41]))) else (bif Nat.blt k 6 then (bif Nat.blt k 5 then ([198, 46]) else ([159, 44])) else (bif Nat.blt k 7 then ([51, 40]) else ([557, 47])))) else []
def am_isr0 (k : Nat) : Nat → Bool := bif Nat.blt k 8 then (bif Nat.blt k 4 then (bif Nat.blt k 2 then (bif Nat.blt k 1 then (fun j => bif Nat.blt j 1 then (true) else (bif Nat.blt j 2 then (true) else (false))) else (fun j => bif Nat.blt j 1 then (true) else (false))) else (bif Nat.blt k 3 then (fun j => bif Nat.blt j 2 then (bif Nat.blt j 1 then (true) else (false)) else (bif Nat.blt j 3 then (false) else (bif Nat.blt j 4 then (true) else (false)))) else (fun j => bif Nat.blt j 3 then (bif Nat.blt j 1 then (true) else (bif Nat.blt j 2 then (true) else (true))) else (bif Nat.blt j 5 then (bif Nat.blt j 4 then (false) else (false)) else (bif Nat.blt j 6 then (false) else (false)))))) else (bif Nat.blt k 6 then (bif Nat.blt k 5 then (fun j => bif Nat.blt j 1 then (true) else (bif Nat.blt j 2 then (false) else (false))) else (fun j => bif Nat.blt j 3 then (bif Nat.blt j 1 then (true) else (bif Nat.blt j 2 then (true) else (true))) else (bif Nat.blt j 4 then (true) else (bif Nat.blt j 5 then (true) else (false))))) else (bif Nat.blt k 7 then (fun j => bif Nat.blt j 2 then (bif Nat.blt j 1 then (true) else (true)) else (bif Nat.blt j 3 then (true) else (true))) else (fun j => bif Nat.blt j 11 then (bif Nat.blt j 5 then (bif Nat.blt j 2 then (bif Nat.blt j 1 then (false) else (false)) else (bif Nat.blt j 3 then (true) else (bif Nat.blt j 4 then (true) else (false)))) else (bif Nat.blt j 8 then (bif Nat.blt j 6 then (false) else (bif Nat.blt j 7 then (false) else (false))) else (bif Nat.blt j 9 then (true) else (bif Nat.blt j 10 then (true) else (true))))) else (bif Nat.blt j 16 then (bif Nat.blt j 13 then (bif Nat.blt j 12 then (false) else (true)) else (bif Nat.blt j 14 then (true) else (bif Nat.blt j 15 then (true) else (true)))) else (bif Nat.blt j 19 then (bif Nat.blt j 17 then (false) else (bif Nat.blt j 18 then (false) else (true))) else (bif Nat.blt j 20 then (true) else (bif Nat.blt j 21 then (false) else (true))))))))) else fun _ => false
def am_isref (c j : Nat) : Bool := am_isr0 c j
def am_shc : Nat := 4
abbrev am_cls : List vw_C := [(RX0, TX0, 3), (RX1, TX1, 2), (RX2, TX2, 5), (RX3, TX3, 7), (RX4, TX4, 3), (RX5, TX5, 6), (RX6, TX6, 4), (RX7, TX7, 22)]
def am_wac : Nat := 86
def am_wao : Nat := 197
def am_wob1 : Nat := 56
def am_wob2 : Nat := 57
def am_wmx1 : Nat := 384
def am_wmx2 : Nat := 385
def am_wmn1 : Nat := 387
def am_wmn2 : Nat := 388
def am_wmi : Nat := 48
/-- DeedDesk$House.<init>()V -/
def am_c0 (k : Nat) : am_E := bif Nat.blt k 12 then (bif Nat.blt k 5 then (bif Nat.blt k 1 then (bif Nat.beq k 0 then (.aload_n 0, 1, 0, 0, []) else am_nop) else (bif Nat.blt k 4 then (bif Nat.beq k 1 then (.invokespecial 3, 4, 999, 0, [(0, 69)]) else am_nop) else (bif Nat.beq k 4 then (.aload_n 0, 5, 0, 0, []) else am_nop))) else (bif Nat.blt k 7 then (bif Nat.beq k 5 then (.bipush 8, 7, 0, 0, [(8, 0)]) else am_nop) else (bif Nat.blt k 9 then (bif Nat.beq k 7 then (.newarray .int, 9, 0, 0, []) else am_nop) else (bif Nat.beq k 9 then (.putfield 9, 12, 0, 0, [(0, 74)]) else am_nop)))) else (bif Nat.blt k 18 then (bif Nat.blt k 13 then (bif Nat.beq k 12 then (.aload_n 0, 13, 0, 0, []) else am_nop) else (bif Nat.blt k 16 then (bif Nat.beq k 13 then (.sipush 256, 16, 0, 0, [(256, 0)]) else am_nop) else (bif Nat.beq k 16 then (.newarray .int, 18, 0, 0, []) else am_nop))) else (bif Nat.blt k 22 then (bif Nat.blt k 21 then (bif Nat.beq k 18 then (.putfield 15, 21, 0, 1, [(0, 76)]) else am_nop) else (bif Nat.beq k 21 then (.aload_n 0, 22, 0, 0, []) else am_nop)) else (bif Nat.blt k 25 then (bif Nat.beq k 22 then (.invokevirtual 18, 25, 1, 0, [(0, 70)]) else am_nop) else (bif Nat.beq k 25 then (.return_, 26, 0, 0, []) else am_nop))))
/-- DeedDesk$House.clearDoors()V -/
def am_c1 (k : Nat) : am_E := bif Nat.blt k 23 then (bif Nat.blt k 10 then (bif Nat.blt k 5 then (bif Nat.blt k 1 then (bif Nat.beq k 0 then (.aload_n 0, 1, 0, 0, []) else am_nop) else (bif Nat.blt k 2 then (bif Nat.beq k 1 then (.iconst 0, 2, 0, 0, [(0, 0)]) else am_nop) else (bif Nat.beq k 2 then (.putfield 21, 5, 0, 2, [(0, 77)]) else am_nop))) else (bif Nat.blt k 7 then (bif Nat.blt k 6 then (bif Nat.beq k 5 then (.iconst 0, 6, 0, 0, [(0, 0)]) else am_nop) else (bif Nat.beq k 6 then (.istore_n 1, 7, 1, 0, []) else am_nop)) else (bif Nat.blt k 8 then (bif Nat.beq k 7 then (.iload_n 1, 8, 1, 0, []) else am_nop) else (bif Nat.beq k 8 then (.bipush 8, 10, 0, 0, [(8, 0)]) else am_nop)))) else (bif Nat.blt k 17 then (bif Nat.blt k 13 then (bif Nat.beq k 10 then (.if_icmp .ge 16, 13, 26, 0, []) else am_nop) else (bif Nat.blt k 14 then (bif Nat.beq k 13 then (.aload_n 0, 14, 0, 0, []) else am_nop) else (bif Nat.beq k 14 then (.getfield 9, 17, 0, 0, [(0, 74)]) else am_nop))) else (bif Nat.blt k 19 then (bif Nat.blt k 18 then (bif Nat.beq k 17 then (.iload_n 1, 18, 1, 0, []) else am_nop) else (bif Nat.beq k 18 then (.iconst 0, 19, 0, 0, [(0, 0)]) else am_nop)) else (bif Nat.blt k 20 then (bif Nat.beq k 19 then (.iastore, 20, 0, 0, []) else am_nop) else (bif Nat.beq k 20 then (.iinc 1 1, 23, 1, 0, [(1, 0)]) else am_nop))))) else (bif Nat.blt k 36 then (bif Nat.blt k 28 then (bif Nat.blt k 26 then (bif Nat.beq k 23 then (.goto (-16), 26, 7, 0, []) else am_nop) else (bif Nat.blt k 27 then (bif Nat.beq k 26 then (.iconst 0, 27, 0, 0, [(0, 0)]) else am_nop) else (bif Nat.beq k 27 then (.istore_n 1, 28, 1, 0, []) else am_nop))) else (bif Nat.blt k 32 then (bif Nat.blt k 29 then (bif Nat.beq k 28 then (.iload_n 1, 29, 1, 0, []) else am_nop) else (bif Nat.beq k 29 then (.sipush 256, 32, 0, 0, [(256, 0)]) else am_nop)) else (bif Nat.blt k 35 then (bif Nat.beq k 32 then (.if_icmp .ge 16, 35, 48, 0, []) else am_nop) else (bif Nat.beq k 35 then (.aload_n 0, 36, 0, 0, []) else am_nop)))) else (bif Nat.blt k 41 then (bif Nat.blt k 39 then (bif Nat.beq k 36 then (.getfield 15, 39, 0, 1, [(0, 76)]) else am_nop) else (bif Nat.blt k 40 then (bif Nat.beq k 39 then (.iload_n 1, 40, 1, 0, []) else am_nop) else (bif Nat.beq k 40 then (.iload_n 1, 41, 1, 0, []) else am_nop))) else (bif Nat.blt k 45 then (bif Nat.blt k 42 then (bif Nat.beq k 41 then (.iastore, 42, 0, 0, []) else am_nop) else (bif Nat.beq k 42 then (.iinc 1 1, 45, 1, 0, [(1, 0)]) else am_nop)) else (bif Nat.blt k 48 then (bif Nat.beq k 45 then (.goto (-17), 48, 28, 0, []) else am_nop) else (bif Nat.beq k 48 then (.return_, 49, 0, 0, []) else am_nop)))))
/-- DeedDesk$House.joined(II)Z -/
def am_c2 (k : Nat) : am_E := bif Nat.blt k 5 then (bif Nat.blt k 1 then (bif Nat.beq k 0 then (.aload_n 0, 1, 0, 0, []) else am_nop) else (bif Nat.blt k 4 then (bif Nat.beq k 1 then (.getfield 9, 4, 0, 0, [(0, 74)]) else am_nop) else (bif Nat.beq k 4 then (.iload_n 1, 5, 1, 0, []) else am_nop))) else (bif Nat.blt k 7 then (bif Nat.blt k 6 then (bif Nat.beq k 5 then (.iaload, 6, 0, 0, []) else am_nop) else (bif Nat.beq k 6 then (.iload_n 2, 7, 2, 0, []) else am_nop)) else (bif Nat.blt k 10 then (bif Nat.beq k 7 then (.invokestatic 25, 10, 78, 0, [(1, 260)]) else am_nop) else (bif Nat.beq k 10 then (.ireturn, 11, 0, 0, []) else am_nop)))
/-- DeedDesk$House.join(II)V -/
def am_c3 (k : Nat) : am_E := bif Nat.blt k 43 then (bif Nat.blt k 21 then (bif Nat.blt k 11 then (bif Nat.blt k 5 then (bif Nat.blt k 1 then (bif Nat.beq k 0 then (.aload_n 0, 1, 0, 0, []) else am_nop) else (bif Nat.blt k 2 then (bif Nat.beq k 1 then (.dup, 2, 0, 0, []) else am_nop) else (bif Nat.beq k 2 then (.getfield 21, 5, 0, 2, [(0, 77)]) else am_nop))) else (bif Nat.blt k 7 then (bif Nat.blt k 6 then (bif Nat.beq k 5 then (.iconst 1, 6, 0, 0, [(1, 0)]) else am_nop) else (bif Nat.beq k 6 then (.iadd, 7, 0, 0, []) else am_nop)) else (bif Nat.blt k 10 then (bif Nat.beq k 7 then (.putfield 21, 10, 0, 2, [(0, 77)]) else am_nop) else (bif Nat.beq k 10 then (.aload_n 0, 11, 0, 0, []) else am_nop)))) else (bif Nat.blt k 17 then (bif Nat.blt k 15 then (bif Nat.blt k 14 then (bif Nat.beq k 11 then (.getfield 9, 14, 0, 0, [(0, 74)]) else am_nop) else (bif Nat.beq k 14 then (.iload_n 1, 15, 1, 0, []) else am_nop)) else (bif Nat.blt k 16 then (bif Nat.beq k 15 then (.dup2, 16, 0, 0, []) else am_nop) else (bif Nat.beq k 16 then (.iaload, 17, 0, 0, []) else am_nop))) else (bif Nat.blt k 19 then (bif Nat.blt k 18 then (bif Nat.beq k 17 then (.iconst 1, 18, 0, 0, [(1, 0)]) else am_nop) else (bif Nat.beq k 18 then (.iload_n 2, 19, 2, 0, []) else am_nop)) else (bif Nat.blt k 20 then (bif Nat.beq k 19 then (.ishl, 20, 0, 0, []) else am_nop) else (bif Nat.beq k 20 then (.ior, 21, 0, 0, []) else am_nop))))) else (bif Nat.blt k 31 then (bif Nat.blt k 27 then (bif Nat.blt k 23 then (bif Nat.blt k 22 then (bif Nat.beq k 21 then (.iastore, 22, 0, 0, []) else am_nop) else (bif Nat.beq k 22 then (.aload_n 0, 23, 0, 0, []) else am_nop)) else (bif Nat.blt k 26 then (bif Nat.beq k 23 then (.getfield 9, 26, 0, 0, [(0, 74)]) else am_nop) else (bif Nat.beq k 26 then (.iload_n 2, 27, 2, 0, []) else am_nop))) else (bif Nat.blt k 29 then (bif Nat.blt k 28 then (bif Nat.beq k 27 then (.dup2, 28, 0, 0, []) else am_nop) else (bif Nat.beq k 28 then (.iaload, 29, 0, 0, []) else am_nop)) else (bif Nat.blt k 30 then (bif Nat.beq k 29 then (.iconst 1, 30, 0, 0, [(1, 0)]) else am_nop) else (bif Nat.beq k 30 then (.iload_n 1, 31, 1, 0, []) else am_nop)))) else (bif Nat.blt k 35 then (bif Nat.blt k 33 then (bif Nat.blt k 32 then (bif Nat.beq k 31 then (.ishl, 32, 0, 0, []) else am_nop) else (bif Nat.beq k 32 then (.ior, 33, 0, 0, []) else am_nop)) else (bif Nat.blt k 34 then (bif Nat.beq k 33 then (.iastore, 34, 0, 0, []) else am_nop) else (bif Nat.beq k 34 then (.iconst 0, 35, 0, 0, [(0, 0)]) else am_nop))) else (bif Nat.blt k 37 then (bif Nat.blt k 36 then (bif Nat.beq k 35 then (.istore_n 3, 36, 3, 0, []) else am_nop) else (bif Nat.beq k 36 then (.iload_n 3, 37, 3, 0, []) else am_nop)) else (bif Nat.blt k 40 then (bif Nat.beq k 37 then (.sipush 256, 40, 0, 0, [(256, 0)]) else am_nop) else (bif Nat.beq k 40 then (.if_icmp .ge 49, 43, 89, 0, []) else am_nop)))))) else (bif Nat.blt k 64 then (bif Nat.blt k 56 then (bif Nat.blt k 48 then (bif Nat.blt k 44 then (bif Nat.beq k 43 then (.iload_n 3, 44, 3, 0, []) else am_nop) else (bif Nat.blt k 45 then (bif Nat.beq k 44 then (.iload_n 1, 45, 1, 0, []) else am_nop) else (bif Nat.beq k 45 then (.invokestatic 25, 48, 78, 0, [(1, 260)]) else am_nop))) else (bif Nat.blt k 52 then (bif Nat.blt k 51 then (bif Nat.beq k 48 then (.ifCond .eq 15, 51, 63, 0, []) else am_nop) else (bif Nat.beq k 51 then (.aload_n 0, 52, 0, 0, []) else am_nop)) else (bif Nat.blt k 55 then (bif Nat.beq k 52 then (.getfield 15, 55, 0, 1, [(0, 76)]) else am_nop) else (bif Nat.beq k 55 then (.iload_n 3, 56, 3, 0, []) else am_nop)))) else (bif Nat.blt k 60 then (bif Nat.blt k 58 then (bif Nat.blt k 57 then (bif Nat.beq k 56 then (.dup2, 57, 0, 0, []) else am_nop) else (bif Nat.beq k 57 then (.iaload, 58, 0, 0, []) else am_nop)) else (bif Nat.blt k 59 then (bif Nat.beq k 58 then (.iconst 1, 59, 0, 0, [(1, 0)]) else am_nop) else (bif Nat.beq k 59 then (.iload_n 2, 60, 2, 0, []) else am_nop))) else (bif Nat.blt k 62 then (bif Nat.blt k 61 then (bif Nat.beq k 60 then (.ishl, 61, 0, 0, []) else am_nop) else (bif Nat.beq k 61 then (.ior, 62, 0, 0, []) else am_nop)) else (bif Nat.blt k 63 then (bif Nat.beq k 62 then (.iastore, 63, 0, 0, []) else am_nop) else (bif Nat.beq k 63 then (.iload_n 3, 64, 3, 0, []) else am_nop))))) else (bif Nat.blt k 78 then (bif Nat.blt k 72 then (bif Nat.blt k 68 then (bif Nat.blt k 65 then (bif Nat.beq k 64 then (.iload_n 2, 65, 2, 0, []) else am_nop) else (bif Nat.beq k 65 then (.invokestatic 25, 68, 78, 0, [(1, 260)]) else am_nop)) else (bif Nat.blt k 71 then (bif Nat.beq k 68 then (.ifCond .eq 15, 71, 83, 0, []) else am_nop) else (bif Nat.beq k 71 then (.aload_n 0, 72, 0, 0, []) else am_nop))) else (bif Nat.blt k 76 then (bif Nat.blt k 75 then (bif Nat.beq k 72 then (.getfield 15, 75, 0, 1, [(0, 76)]) else am_nop) else (bif Nat.beq k 75 then (.iload_n 3, 76, 3, 0, []) else am_nop)) else (bif Nat.blt k 77 then (bif Nat.beq k 76 then (.dup2, 77, 0, 0, []) else am_nop) else (bif Nat.beq k 77 then (.iaload, 78, 0, 0, []) else am_nop)))) else (bif Nat.blt k 82 then (bif Nat.blt k 80 then (bif Nat.blt k 79 then (bif Nat.beq k 78 then (.iconst 1, 79, 0, 0, [(1, 0)]) else am_nop) else (bif Nat.beq k 79 then (.iload_n 1, 80, 1, 0, []) else am_nop)) else (bif Nat.blt k 81 then (bif Nat.beq k 80 then (.ishl, 81, 0, 0, []) else am_nop) else (bif Nat.beq k 81 then (.ior, 82, 0, 0, []) else am_nop))) else (bif Nat.blt k 86 then (bif Nat.blt k 83 then (bif Nat.beq k 82 then (.iastore, 83, 0, 0, []) else am_nop) else (bif Nat.beq k 83 then (.iinc 3 1, 86, 3, 0, [(1, 0)]) else am_nop)) else (bif Nat.blt k 89 then (bif Nat.beq k 86 then (.goto (-50), 89, 36, 0, []) else am_nop) else (bif Nat.beq k 89 then (.return_, 90, 0, 0, []) else am_nop))))))
/-- DeedDesk$House.reached(I)I -/
def am_c4 (k : Nat) : am_E := bif Nat.blt k 5 then (bif Nat.blt k 1 then (bif Nat.beq k 0 then (.aload_n 0, 1, 0, 0, []) else am_nop) else (bif Nat.blt k 4 then (bif Nat.beq k 1 then (.getfield 15, 4, 0, 1, [(0, 76)]) else am_nop) else (bif Nat.beq k 4 then (.iload_n 1, 5, 1, 0, []) else am_nop))) else (bif Nat.blt k 9 then (bif Nat.blt k 8 then (bif Nat.beq k 5 then (.sipush 255, 8, 0, 0, [(255, 0)]) else am_nop) else (bif Nat.beq k 8 then (.iand, 9, 0, 0, []) else am_nop)) else (bif Nat.blt k 10 then (bif Nat.beq k 9 then (.iaload, 10, 0, 0, []) else am_nop) else (bif Nat.beq k 10 then (.ireturn, 11, 0, 0, []) else am_nop)))
/-- DeedDesk$House.doorsBetween(II)I -/
def am_c5 (k : Nat) : am_E := bif Nat.blt k 16 then (bif Nat.blt k 5 then (bif Nat.blt k 2 then (bif Nat.blt k 1 then (bif Nat.beq k 0 then (.iconst 1, 1, 0, 0, [(1, 0)]) else am_nop) else (bif Nat.beq k 1 then (.iload_n 1, 2, 1, 0, []) else am_nop)) else (bif Nat.blt k 3 then (bif Nat.beq k 2 then (.ishl, 3, 0, 0, []) else am_nop) else (bif Nat.blt k 4 then (bif Nat.beq k 3 then (.istore_n 3, 4, 3, 0, []) else am_nop) else (bif Nat.beq k 4 then (.iconst 0, 5, 0, 0, [(0, 0)]) else am_nop)))) else (bif Nat.blt k 11 then (bif Nat.blt k 7 then (bif Nat.beq k 5 then (.istore 4, 7, 4, 0, []) else am_nop) else (bif Nat.blt k 9 then (bif Nat.beq k 7 then (.iload 4, 9, 4, 0, []) else am_nop) else (bif Nat.beq k 9 then (.bipush 8, 11, 0, 0, [(8, 0)]) else am_nop))) else (bif Nat.blt k 14 then (bif Nat.beq k 11 then (.if_icmp .ge 26, 14, 37, 0, []) else am_nop) else (bif Nat.blt k 15 then (bif Nat.beq k 14 then (.iload_n 3, 15, 3, 0, []) else am_nop) else (bif Nat.beq k 15 then (.iload_n 2, 16, 2, 0, []) else am_nop))))) else (bif Nat.blt k 27 then (bif Nat.blt k 24 then (bif Nat.blt k 19 then (bif Nat.beq k 16 then (.invokestatic 25, 19, 78, 0, [(1, 260)]) else am_nop) else (bif Nat.blt k 22 then (bif Nat.beq k 19 then (.ifCond .eq 6, 22, 25, 0, []) else am_nop) else (bif Nat.beq k 22 then (.iload 4, 24, 4, 0, []) else am_nop))) else (bif Nat.blt k 25 then (bif Nat.beq k 24 then (.ireturn, 25, 0, 0, []) else am_nop) else (bif Nat.blt k 26 then (bif Nat.beq k 25 then (.aload_n 0, 26, 0, 0, []) else am_nop) else (bif Nat.beq k 26 then (.iload_n 3, 27, 3, 0, []) else am_nop)))) else (bif Nat.blt k 34 then (bif Nat.blt k 30 then (bif Nat.beq k 27 then (.invokevirtual 29, 30, 4, 0, [(0, 517)]) else am_nop) else (bif Nat.blt k 31 then (bif Nat.beq k 30 then (.istore_n 3, 31, 3, 0, []) else am_nop) else (bif Nat.beq k 31 then (.iinc 4 1, 34, 4, 0, [(1, 0)]) else am_nop))) else (bif Nat.blt k 37 then (bif Nat.beq k 34 then (.goto (-27), 37, 7, 0, []) else am_nop) else (bif Nat.blt k 39 then (bif Nat.beq k 37 then (.bipush 8, 39, 0, 0, [(8, 0)]) else am_nop) else (bif Nat.beq k 39 then (.ireturn, 40, 0, 0, []) else am_nop)))))
/-- DeedDesk$House.stepTowards(II)I -/
def am_c6 (k : Nat) : am_E := bif Nat.blt k 21 then (bif Nat.blt k 8 then (bif Nat.blt k 3 then (bif Nat.blt k 1 then (bif Nat.beq k 0 then (.aload_n 0, 1, 0, 0, []) else am_nop) else (bif Nat.blt k 2 then (bif Nat.beq k 1 then (.iload_n 1, 2, 1, 0, []) else am_nop) else (bif Nat.beq k 2 then (.iload_n 2, 3, 2, 0, []) else am_nop))) else (bif Nat.blt k 6 then (bif Nat.beq k 3 then (.invokevirtual 33, 6, 5, 0, [(0, 513)]) else am_nop) else (bif Nat.blt k 7 then (bif Nat.beq k 6 then (.istore_n 3, 7, 3, 0, []) else am_nop) else (bif Nat.beq k 7 then (.iconst 0, 8, 0, 0, [(0, 0)]) else am_nop)))) else (bif Nat.blt k 14 then (bif Nat.blt k 10 then (bif Nat.beq k 8 then (.istore 4, 10, 4, 0, []) else am_nop) else (bif Nat.blt k 12 then (bif Nat.beq k 10 then (.iload 4, 12, 4, 0, []) else am_nop) else (bif Nat.beq k 12 then (.bipush 8, 14, 0, 0, [(8, 0)]) else am_nop))) else (bif Nat.blt k 18 then (bif Nat.blt k 17 then (bif Nat.beq k 14 then (.if_icmp .ge 33, 17, 47, 0, []) else am_nop) else (bif Nat.beq k 17 then (.aload_n 0, 18, 0, 0, []) else am_nop)) else (bif Nat.blt k 19 then (bif Nat.beq k 18 then (.iload_n 1, 19, 1, 0, []) else am_nop) else (bif Nat.beq k 19 then (.iload 4, 21, 4, 0, []) else am_nop))))) else (bif Nat.blt k 35 then (bif Nat.blt k 28 then (bif Nat.blt k 24 then (bif Nat.beq k 21 then (.invokevirtual 37, 24, 2, 0, [(0, 504)]) else am_nop) else (bif Nat.blt k 27 then (bif Nat.beq k 24 then (.ifCond .eq 17, 27, 41, 0, []) else am_nop) else (bif Nat.beq k 27 then (.aload_n 0, 28, 0, 0, []) else am_nop))) else (bif Nat.blt k 31 then (bif Nat.blt k 30 then (bif Nat.beq k 28 then (.iload 4, 30, 4, 0, []) else am_nop) else (bif Nat.beq k 30 then (.iload_n 2, 31, 2, 0, []) else am_nop)) else (bif Nat.blt k 34 then (bif Nat.beq k 31 then (.invokevirtual 33, 34, 5, 0, [(0, 513)]) else am_nop) else (bif Nat.beq k 34 then (.iload_n 3, 35, 3, 0, []) else am_nop)))) else (bif Nat.blt k 41 then (bif Nat.blt k 38 then (bif Nat.beq k 35 then (.if_icmp .ge 6, 38, 41, 0, []) else am_nop) else (bif Nat.blt k 40 then (bif Nat.beq k 38 then (.iload 4, 40, 4, 0, []) else am_nop) else (bif Nat.beq k 40 then (.ireturn, 41, 0, 0, []) else am_nop))) else (bif Nat.blt k 47 then (bif Nat.blt k 44 then (bif Nat.beq k 41 then (.iinc 4 1, 44, 4, 0, [(1, 0)]) else am_nop) else (bif Nat.beq k 44 then (.goto (-34), 47, 10, 0, []) else am_nop)) else (bif Nat.blt k 48 then (bif Nat.beq k 47 then (.iload_n 1, 48, 1, 0, []) else am_nop) else (bif Nat.beq k 48 then (.ireturn, 49, 0, 0, []) else am_nop)))))
/-- DeedDesk$House.neighbour(II)I -/
def am_c7 (k : Nat) : am_E := bif Nat.blt k 16 then (bif Nat.blt k 7 then (bif Nat.blt k 2 then (bif Nat.blt k 1 then (bif Nat.beq k 0 then (.iload_n 2, 1, 2, 0, []) else am_nop) else (bif Nat.beq k 1 then (.istore_n 3, 2, 3, 0, []) else am_nop)) else (bif Nat.blt k 3 then (bif Nat.beq k 2 then (.iconst 0, 3, 0, 0, [(0, 0)]) else am_nop) else (bif Nat.blt k 5 then (bif Nat.beq k 3 then (.istore 4, 5, 4, 0, []) else am_nop) else (bif Nat.beq k 5 then (.iload 4, 7, 4, 0, []) else am_nop)))) else (bif Nat.blt k 12 then (bif Nat.blt k 9 then (bif Nat.beq k 7 then (.bipush 8, 9, 0, 0, [(8, 0)]) else am_nop) else (bif Nat.beq k 9 then (.if_icmp .ge 29, 12, 38, 0, []) else am_nop)) else (bif Nat.blt k 13 then (bif Nat.beq k 12 then (.aload_n 0, 13, 0, 0, []) else am_nop) else (bif Nat.blt k 14 then (bif Nat.beq k 13 then (.iload_n 1, 14, 1, 0, []) else am_nop) else (bif Nat.beq k 14 then (.iload 4, 16, 4, 0, []) else am_nop))))) else (bif Nat.blt k 28 then (bif Nat.blt k 22 then (bif Nat.blt k 19 then (bif Nat.beq k 16 then (.invokevirtual 37, 19, 2, 0, [(0, 504)]) else am_nop) else (bif Nat.beq k 19 then (.ifCond .eq 13, 22, 32, 0, []) else am_nop)) else (bif Nat.blt k 23 then (bif Nat.beq k 22 then (.iload_n 3, 23, 3, 0, []) else am_nop) else (bif Nat.blt k 26 then (bif Nat.beq k 23 then (.ifCond .ne 6, 26, 29, 0, []) else am_nop) else (bif Nat.beq k 26 then (.iload 4, 28, 4, 0, []) else am_nop)))) else (bif Nat.blt k 35 then (bif Nat.blt k 29 then (bif Nat.beq k 28 then (.ireturn, 29, 0, 0, []) else am_nop) else (bif Nat.blt k 32 then (bif Nat.beq k 29 then (.iinc 3 (-1), 32, 3, 0, [(-1, 0)]) else am_nop) else (bif Nat.beq k 32 then (.iinc 4 1, 35, 4, 0, [(1, 0)]) else am_nop))) else (bif Nat.blt k 38 then (bif Nat.beq k 35 then (.goto (-30), 38, 5, 0, []) else am_nop) else (bif Nat.blt k 39 then (bif Nat.beq k 38 then (.iload_n 1, 39, 1, 0, []) else am_nop) else (bif Nat.beq k 39 then (.ireturn, 40, 0, 0, []) else am_nop)))))
/-- DeedDesk$Maker.<init>()V -/
def am_c8 (k : Nat) : am_E := bif Nat.blt k 5 then (bif Nat.blt k 1 then (bif Nat.beq k 0 then (.aload_n 0, 1, 0, 0, []) else am_nop) else (bif Nat.blt k 4 then (bif Nat.beq k 1 then (.invokespecial 3, 4, 999, 0, [(0, 188)]) else am_nop) else (bif Nat.beq k 4 then (.aload_n 0, 5, 0, 0, []) else am_nop))) else (bif Nat.blt k 9 then (bif Nat.blt k 7 then (bif Nat.beq k 5 then (.bipush 40, 7, 0, 0, [(40, 0)]) else am_nop) else (bif Nat.beq k 7 then (.newarray .int, 9, 0, 0, []) else am_nop)) else (bif Nat.blt k 12 then (bif Nat.beq k 9 then (.putfield 11, 12, 1, 0, [(0, 189)]) else am_nop) else (bif Nat.beq k 12 then (.return_, 13, 0, 0, []) else am_nop)))
/-- DeedDesk$Maker.fill(LDeedDesk$Scene;I)I -/
def am_c9 (k : Nat) : am_E := bif Nat.blt k 87 then (bif Nat.blt k 44 then (bif Nat.blt k 20 then (bif Nat.blt k 10 then (bif Nat.blt k 5 then (bif Nat.blt k 1 then (bif Nat.beq k 0 then (.aload_n 0, 1, 0, 0, []) else am_nop) else (bif Nat.blt k 2 then (bif Nat.beq k 1 then (.iload_n 2, 2, 2, 0, []) else am_nop) else (bif Nat.beq k 2 then (.putfield 15, 5, 1, 1, [(0, 190)]) else am_nop))) else (bif Nat.blt k 6 then (bif Nat.beq k 5 then (.aload_n 1, 6, 1, 0, []) else am_nop) else (bif Nat.blt k 7 then (bif Nat.beq k 6 then (.iconst 4, 7, 0, 0, [(4, 0)]) else am_nop) else (bif Nat.beq k 7 then (.putfield 19, 10, 3, 3, [(1, 129)]) else am_nop)))) else (bif Nat.blt k 15 then (bif Nat.blt k 11 then (bif Nat.beq k 10 then (.aload_n 0, 11, 0, 0, []) else am_nop) else (bif Nat.blt k 12 then (bif Nat.beq k 11 then (.aload_n 1, 12, 1, 0, []) else am_nop) else (bif Nat.beq k 12 then (.getfield 24, 15, 3, 0, [(1, 117)]) else am_nop))) else (bif Nat.blt k 18 then (bif Nat.beq k 15 then (.invokevirtual 28, 18, 12, 0, [(0, 483)]) else am_nop) else (bif Nat.blt k 19 then (bif Nat.beq k 18 then (.iconst 0, 19, 0, 0, [(0, 0)]) else am_nop) else (bif Nat.beq k 19 then (.istore_n 3, 20, 3, 0, []) else am_nop))))) else (bif Nat.blt k 30 then (bif Nat.blt k 25 then (bif Nat.blt k 21 then (bif Nat.beq k 20 then (.iload_n 3, 21, 3, 0, []) else am_nop) else (bif Nat.blt k 22 then (bif Nat.beq k 21 then (.iconst 3, 22, 0, 0, [(3, 0)]) else am_nop) else (bif Nat.beq k 22 then (.if_icmp .ge 21, 25, 43, 0, []) else am_nop))) else (bif Nat.blt k 26 then (bif Nat.beq k 25 then (.aload_n 1, 26, 1, 0, []) else am_nop) else (bif Nat.blt k 29 then (bif Nat.beq k 26 then (.getfield 32, 29, 3, 2, [(1, 125)]) else am_nop) else (bif Nat.beq k 29 then (.iload_n 3, 30, 3, 0, []) else am_nop)))) else (bif Nat.blt k 36 then (bif Nat.blt k 31 then (bif Nat.beq k 30 then (.aload_n 0, 31, 0, 0, []) else am_nop) else (bif Nat.blt k 33 then (bif Nat.beq k 31 then (.bipush 8, 33, 0, 0, [(8, 0)]) else am_nop) else (bif Nat.beq k 33 then (.invokevirtual 35, 36, 10, 0, [(0, 489)]) else am_nop))) else (bif Nat.blt k 40 then (bif Nat.blt k 37 then (bif Nat.beq k 36 then (.iastore, 37, 0, 0, []) else am_nop) else (bif Nat.beq k 37 then (.iinc 3 1, 40, 3, 0, [(1, 0)]) else am_nop)) else (bif Nat.blt k 43 then (bif Nat.beq k 40 then (.goto (-20), 43, 20, 0, []) else am_nop) else (bif Nat.beq k 43 then (.iconst 0, 44, 0, 0, [(0, 0)]) else am_nop)))))) else (bif Nat.blt k 66 then (bif Nat.blt k 52 then (bif Nat.blt k 47 then (bif Nat.blt k 45 then (bif Nat.beq k 44 then (.istore_n 3, 45, 3, 0, []) else am_nop) else (bif Nat.blt k 46 then (bif Nat.beq k 45 then (.iload_n 3, 46, 3, 0, []) else am_nop) else (bif Nat.beq k 46 then (.iconst 4, 47, 0, 0, [(4, 0)]) else am_nop))) else (bif Nat.blt k 50 then (bif Nat.beq k 47 then (.if_icmp .ge 18, 50, 65, 0, []) else am_nop) else (bif Nat.blt k 51 then (bif Nat.beq k 50 then (.aload_n 0, 51, 0, 0, []) else am_nop) else (bif Nat.beq k 51 then (.aload_n 1, 52, 1, 0, []) else am_nop)))) else (bif Nat.blt k 59 then (bif Nat.blt k 55 then (bif Nat.beq k 52 then (.getfield 24, 55, 3, 0, [(1, 117)]) else am_nop) else (bif Nat.blt k 56 then (bif Nat.beq k 55 then (.iload_n 3, 56, 3, 0, []) else am_nop) else (bif Nat.beq k 56 then (.invokevirtual 39, 59, 13, 0, [(0, 495)]) else am_nop))) else (bif Nat.blt k 62 then (bif Nat.beq k 59 then (.iinc 3 1, 62, 3, 0, [(1, 0)]) else am_nop) else (bif Nat.blt k 65 then (bif Nat.beq k 62 then (.goto (-17), 65, 45, 0, []) else am_nop) else (bif Nat.beq k 65 then (.aload_n 1, 66, 1, 0, []) else am_nop))))) else (bif Nat.blt k 74 then (bif Nat.blt k 71 then (bif Nat.blt k 67 then (bif Nat.beq k 66 then (.iconst 0, 67, 0, 0, [(0, 0)]) else am_nop) else (bif Nat.blt k 70 then (bif Nat.beq k 67 then (.putfield 43, 70, 3, 6, [(1, 141)]) else am_nop) else (bif Nat.beq k 70 then (.aload_n 1, 71, 1, 0, []) else am_nop))) else (bif Nat.blt k 72 then (bif Nat.beq k 71 then (.iconst 5, 72, 0, 0, [(5, 0)]) else am_nop) else (bif Nat.blt k 73 then (bif Nat.beq k 72 then (.aload_n 0, 73, 0, 0, []) else am_nop) else (bif Nat.beq k 73 then (.iconst 4, 74, 0, 0, [(4, 0)]) else am_nop)))) else (bif Nat.blt k 81 then (bif Nat.blt k 77 then (bif Nat.beq k 74 then (.invokevirtual 35, 77, 10, 0, [(0, 489)]) else am_nop) else (bif Nat.blt k 78 then (bif Nat.beq k 77 then (.iadd, 78, 0, 0, []) else am_nop) else (bif Nat.beq k 78 then (.putfield 46, 81, 3, 5, [(1, 136)]) else am_nop))) else (bif Nat.blt k 83 then (bif Nat.blt k 82 then (bif Nat.beq k 81 then (.aload_n 1, 82, 1, 0, []) else am_nop) else (bif Nat.beq k 82 then (.aload_n 0, 83, 0, 0, []) else am_nop)) else (bif Nat.blt k 86 then (bif Nat.beq k 83 then (.getfield 11, 86, 1, 0, [(0, 189)]) else am_nop) else (bif Nat.beq k 86 then (.aload_n 1, 87, 1, 0, []) else am_nop))))))) else (bif Nat.blt k 129 then (bif Nat.blt k 107 then (bif Nat.blt k 97 then (bif Nat.blt k 94 then (bif Nat.blt k 90 then (bif Nat.beq k 87 then (.getfield 46, 90, 3, 5, [(1, 136)]) else am_nop) else (bif Nat.blt k 91 then (bif Nat.beq k 90 then (.iaload, 91, 0, 0, []) else am_nop) else (bif Nat.beq k 91 then (.putfield 49, 94, 3, 4, [(1, 132)]) else am_nop))) else (bif Nat.blt k 95 then (bif Nat.beq k 94 then (.iconst 1, 95, 0, 0, [(1, 0)]) else am_nop) else (bif Nat.blt k 96 then (bif Nat.beq k 95 then (.aload_n 0, 96, 0, 0, []) else am_nop) else (bif Nat.beq k 96 then (.iconst 3, 97, 0, 0, [(3, 0)]) else am_nop)))) else (bif Nat.blt k 102 then (bif Nat.blt k 100 then (bif Nat.beq k 97 then (.invokevirtual 35, 100, 10, 0, [(0, 489)]) else am_nop) else (bif Nat.blt k 101 then (bif Nat.beq k 100 then (.iadd, 101, 0, 0, []) else am_nop) else (bif Nat.beq k 101 then (.istore_n 3, 102, 3, 0, []) else am_nop))) else (bif Nat.blt k 103 then (bif Nat.beq k 102 then (.aload_n 0, 103, 0, 0, []) else am_nop) else (bif Nat.blt k 104 then (bif Nat.beq k 103 then (.iconst 3, 104, 0, 0, [(3, 0)]) else am_nop) else (bif Nat.beq k 104 then (.invokevirtual 35, 107, 10, 0, [(0, 489)]) else am_nop))))) else (bif Nat.blt k 117 then (bif Nat.blt k 111 then (bif Nat.blt k 109 then (bif Nat.beq k 107 then (.istore 4, 109, 4, 0, []) else am_nop) else (bif Nat.blt k 110 then (bif Nat.beq k 109 then (.aload_n 0, 110, 0, 0, []) else am_nop) else (bif Nat.beq k 110 then (.aload_n 1, 111, 1, 0, []) else am_nop))) else (bif Nat.blt k 112 then (bif Nat.beq k 111 then (.iload_n 3, 112, 3, 0, []) else am_nop) else (bif Nat.blt k 114 then (bif Nat.beq k 112 then (.iload 4, 114, 4, 0, []) else am_nop) else (bif Nat.beq k 114 then (.invokevirtual 52, 117, 14, 0, [(0, 505)]) else am_nop)))) else (bif Nat.blt k 122 then (bif Nat.blt k 118 then (bif Nat.beq k 117 then (.iconst 1, 118, 0, 0, [(1, 0)]) else am_nop) else (bif Nat.blt k 120 then (bif Nat.beq k 118 then (.istore 5, 120, 5, 0, []) else am_nop) else (bif Nat.beq k 120 then (.iload 5, 122, 5, 0, []) else am_nop))) else (bif Nat.blt k 126 then (bif Nat.blt k 123 then (bif Nat.beq k 122 then (.iconst 4, 123, 0, 0, [(4, 0)]) else am_nop) else (bif Nat.beq k 123 then (.if_icmp .ge 39, 126, 162, 0, []) else am_nop)) else (bif Nat.blt k 128 then (bif Nat.beq k 126 then (.iload 5, 128, 5, 0, []) else am_nop) else (bif Nat.beq k 128 then (.iload_n 3, 129, 3, 0, []) else am_nop)))))) else (bif Nat.blt k 153 then (bif Nat.blt k 142 then (bif Nat.blt k 135 then (bif Nat.blt k 132 then (bif Nat.beq k 129 then (.if_icmp .eq 27, 132, 156, 0, []) else am_nop) else (bif Nat.blt k 133 then (bif Nat.beq k 132 then (.aload_n 0, 133, 0, 0, []) else am_nop) else (bif Nat.beq k 133 then (.iload 5, 135, 5, 0, []) else am_nop))) else (bif Nat.blt k 136 then (bif Nat.beq k 135 then (.aload_n 1, 136, 1, 0, []) else am_nop) else (bif Nat.blt k 139 then (bif Nat.beq k 136 then (.getfield 46, 139, 3, 5, [(1, 136)]) else am_nop) else (bif Nat.beq k 139 then (.invokevirtual 56, 142, 11, 0, [(0, 518)]) else am_nop)))) else (bif Nat.blt k 149 then (bif Nat.blt k 143 then (bif Nat.beq k 142 then (.aload_n 1, 143, 1, 0, []) else am_nop) else (bif Nat.blt k 146 then (bif Nat.beq k 143 then (.getfield 49, 146, 3, 4, [(1, 132)]) else am_nop) else (bif Nat.beq k 146 then (.if_icmp .ne 10, 149, 156, 0, []) else am_nop))) else (bif Nat.blt k 150 then (bif Nat.beq k 149 then (.aload_n 0, 150, 0, 0, []) else am_nop) else (bif Nat.blt k 151 then (bif Nat.beq k 150 then (.aload_n 1, 151, 1, 0, []) else am_nop) else (bif Nat.beq k 151 then (.iload 5, 153, 5, 0, []) else am_nop))))) else (bif Nat.blt k 165 then (bif Nat.blt k 162 then (bif Nat.blt k 156 then (bif Nat.beq k 153 then (.invokevirtual 60, 156, 15, 0, [(0, 522)]) else am_nop) else (bif Nat.blt k 159 then (bif Nat.beq k 156 then (.iinc 5 1, 159, 5, 0, [(1, 0)]) else am_nop) else (bif Nat.beq k 159 then (.goto (-39), 162, 120, 0, []) else am_nop))) else (bif Nat.blt k 163 then (bif Nat.beq k 162 then (.aload_n 0, 163, 0, 0, []) else am_nop) else (bif Nat.blt k 164 then (bif Nat.beq k 163 then (.aload_n 1, 164, 1, 0, []) else am_nop) else (bif Nat.beq k 164 then (.iload_n 3, 165, 3, 0, []) else am_nop)))) else (bif Nat.blt k 171 then (bif Nat.blt k 167 then (bif Nat.beq k 165 then (.iload 4, 167, 4, 0, []) else am_nop) else (bif Nat.blt k 170 then (bif Nat.beq k 167 then (.invokevirtual 64, 170, 16, 0, [(0, 526)]) else am_nop) else (bif Nat.beq k 170 then (.aload_n 0, 171, 0, 0, []) else am_nop))) else (bif Nat.blt k 175 then (bif Nat.blt k 172 then (bif Nat.beq k 171 then (.aload_n 1, 172, 1, 0, []) else am_nop) else (bif Nat.beq k 172 then (.invokevirtual 67, 175, 17, 0, [(0, 536)]) else am_nop)) else (bif Nat.blt k 176 then (bif Nat.beq k 175 then (.iload_n 3, 176, 3, 0, []) else am_nop) else (bif Nat.beq k 176 then (.ireturn, 177, 0, 0, []) else am_nop)))))))
/-- DeedDesk$Maker.draw(I)I -/
def am_c10 (k : Nat) : am_E := bif Nat.blt k 16 then (bif Nat.blt k 7 then (bif Nat.blt k 2 then (bif Nat.blt k 1 then (bif Nat.beq k 0 then (.aload_n 0, 1, 0, 0, []) else am_nop) else (bif Nat.beq k 1 then (.aload_n 0, 2, 0, 0, []) else am_nop)) else (bif Nat.blt k 5 then (bif Nat.beq k 2 then (.getfield 15, 5, 1, 1, [(0, 190)]) else am_nop) else (bif Nat.beq k 5 then (.ldc 71, 7, 0, 0, [(1103515245, 493)]) else am_nop))) else (bif Nat.blt k 11 then (bif Nat.blt k 8 then (bif Nat.beq k 7 then (.imul, 8, 0, 0, []) else am_nop) else (bif Nat.beq k 8 then (.sipush 12345, 11, 0, 0, [(12345, 0)]) else am_nop)) else (bif Nat.blt k 12 then (bif Nat.beq k 11 then (.iadd, 12, 0, 0, []) else am_nop) else (bif Nat.blt k 15 then (bif Nat.beq k 12 then (.putfield 15, 15, 1, 1, [(0, 190)]) else am_nop) else (bif Nat.beq k 15 then (.iload_n 1, 16, 1, 0, []) else am_nop))))) else (bif Nat.blt k 26 then (bif Nat.blt k 20 then (bif Nat.blt k 19 then (bif Nat.beq k 16 then (.ifCond .le 15, 19, 31, 0, []) else am_nop) else (bif Nat.beq k 19 then (.aload_n 0, 20, 0, 0, []) else am_nop)) else (bif Nat.blt k 23 then (bif Nat.beq k 20 then (.getfield 15, 23, 1, 1, [(0, 190)]) else am_nop) else (bif Nat.blt k 25 then (bif Nat.beq k 23 then (.bipush 16, 25, 0, 0, [(16, 0)]) else am_nop) else (bif Nat.beq k 25 then (.iushr, 26, 0, 0, []) else am_nop)))) else (bif Nat.blt k 28 then (bif Nat.blt k 27 then (bif Nat.beq k 26 then (.iload_n 1, 27, 1, 0, []) else am_nop) else (bif Nat.beq k 27 then (.irem, 28, 0, 0, []) else am_nop)) else (bif Nat.blt k 31 then (bif Nat.beq k 28 then (.goto 4, 31, 32, 0, []) else am_nop) else (bif Nat.blt k 32 then (bif Nat.beq k 31 then (.iconst 0, 32, 0, 0, [(0, 0)]) else am_nop) else (bif Nat.beq k 32 then (.ireturn, 33, 0, 0, []) else am_nop)))))
/-- DeedDesk$Maker.at(II)I -/
def am_c11 (k : Nat) : am_E := bif Nat.blt k 7 then (bif Nat.blt k 4 then (bif Nat.blt k 1 then (bif Nat.beq k 0 then (.aload_n 0, 1, 0, 0, []) else am_nop) else (bif Nat.beq k 1 then (.getfield 11, 4, 1, 0, [(0, 189)]) else am_nop)) else (bif Nat.blt k 5 then (bif Nat.beq k 4 then (.iload_n 1, 5, 1, 0, []) else am_nop) else (bif Nat.beq k 5 then (.bipush 10, 7, 0, 0, [(10, 0)]) else am_nop))) else (bif Nat.blt k 9 then (bif Nat.blt k 8 then (bif Nat.beq k 7 then (.imul, 8, 0, 0, []) else am_nop) else (bif Nat.beq k 8 then (.iload_n 2, 9, 2, 0, []) else am_nop)) else (bif Nat.blt k 10 then (bif Nat.beq k 9 then (.iadd, 10, 0, 0, []) else am_nop) else (bif Nat.blt k 11 then (bif Nat.beq k 10 then (.iaload, 11, 0, 0, []) else am_nop) else (bif Nat.beq k 11 then (.ireturn, 12, 0, 0, []) else am_nop))))
/-- DeedDesk$Maker.build(LDeedDesk$House;)V -/
def am_c12 (k : Nat) : am_E := bif Nat.blt k 39 then (bif Nat.blt k 17 then (bif Nat.blt k 9 then (bif Nat.blt k 5 then (bif Nat.blt k 1 then (bif Nat.beq k 0 then (.aload_n 1, 1, 1, 0, []) else am_nop) else (bif Nat.blt k 4 then (bif Nat.beq k 1 then (.invokevirtual 72, 4, 1, 0, [(0, 487)]) else am_nop) else (bif Nat.beq k 4 then (.iconst 0, 5, 0, 0, [(0, 0)]) else am_nop))) else (bif Nat.blt k 6 then (bif Nat.beq k 5 then (.istore_n 2, 6, 2, 0, []) else am_nop) else (bif Nat.blt k 7 then (bif Nat.beq k 6 then (.iload_n 2, 7, 2, 0, []) else am_nop) else (bif Nat.beq k 7 then (.bipush 8, 9, 0, 0, [(8, 0)]) else am_nop)))) else (bif Nat.blt k 14 then (bif Nat.blt k 12 then (bif Nat.beq k 9 then (.if_icmp .ge 20, 12, 29, 0, []) else am_nop) else (bif Nat.blt k 13 then (bif Nat.beq k 12 then (.aload_n 1, 13, 1, 0, []) else am_nop) else (bif Nat.beq k 13 then (.iload_n 2, 14, 2, 0, []) else am_nop))) else (bif Nat.blt k 15 then (bif Nat.beq k 14 then (.iload_n 2, 15, 2, 0, []) else am_nop) else (bif Nat.blt k 16 then (bif Nat.beq k 15 then (.iconst 1, 16, 0, 0, [(1, 0)]) else am_nop) else (bif Nat.beq k 16 then (.iadd, 17, 0, 0, []) else am_nop))))) else (bif Nat.blt k 30 then (bif Nat.blt k 23 then (bif Nat.blt k 19 then (bif Nat.beq k 17 then (.bipush 8, 19, 0, 0, [(8, 0)]) else am_nop) else (bif Nat.blt k 20 then (bif Nat.beq k 19 then (.irem, 20, 0, 0, []) else am_nop) else (bif Nat.beq k 20 then (.invokevirtual 77, 23, 3, 0, [(0, 488)]) else am_nop))) else (bif Nat.blt k 26 then (bif Nat.beq k 23 then (.iinc 2 1, 26, 2, 0, [(1, 0)]) else am_nop) else (bif Nat.blt k 29 then (bif Nat.beq k 26 then (.goto (-20), 29, 6, 0, []) else am_nop) else (bif Nat.beq k 29 then (.iconst 0, 30, 0, 0, [(0, 0)]) else am_nop)))) else (bif Nat.blt k 33 then (bif Nat.blt k 31 then (bif Nat.beq k 30 then (.istore_n 2, 31, 2, 0, []) else am_nop) else (bif Nat.blt k 32 then (bif Nat.beq k 31 then (.iload_n 2, 32, 2, 0, []) else am_nop) else (bif Nat.beq k 32 then (.iconst 2, 33, 0, 0, [(2, 0)]) else am_nop))) else (bif Nat.blt k 36 then (bif Nat.beq k 33 then (.if_icmp .ge 47, 36, 80, 0, []) else am_nop) else (bif Nat.blt k 37 then (bif Nat.beq k 36 then (.aload_n 0, 37, 0, 0, []) else am_nop) else (bif Nat.beq k 37 then (.bipush 8, 39, 0, 0, [(8, 0)]) else am_nop)))))) else (bif Nat.blt k 57 then (bif Nat.blt k 47 then (bif Nat.blt k 44 then (bif Nat.blt k 42 then (bif Nat.beq k 39 then (.invokevirtual 35, 42, 10, 0, [(0, 489)]) else am_nop) else (bif Nat.blt k 43 then (bif Nat.beq k 42 then (.istore_n 3, 43, 3, 0, []) else am_nop) else (bif Nat.beq k 43 then (.iload_n 3, 44, 3, 0, []) else am_nop))) else (bif Nat.blt k 45 then (bif Nat.beq k 44 then (.iconst 2, 45, 0, 0, [(2, 0)]) else am_nop) else (bif Nat.blt k 46 then (bif Nat.beq k 45 then (.iadd, 46, 0, 0, []) else am_nop) else (bif Nat.beq k 46 then (.aload_n 0, 47, 0, 0, []) else am_nop)))) else (bif Nat.blt k 52 then (bif Nat.blt k 48 then (bif Nat.beq k 47 then (.iconst 5, 48, 0, 0, [(5, 0)]) else am_nop) else (bif Nat.blt k 51 then (bif Nat.beq k 48 then (.invokevirtual 35, 51, 10, 0, [(0, 489)]) else am_nop) else (bif Nat.beq k 51 then (.iadd, 52, 0, 0, []) else am_nop))) else (bif Nat.blt k 54 then (bif Nat.beq k 52 then (.bipush 8, 54, 0, 0, [(8, 0)]) else am_nop) else (bif Nat.blt k 55 then (bif Nat.beq k 54 then (.irem, 55, 0, 0, []) else am_nop) else (bif Nat.beq k 55 then (.istore 4, 57, 4, 0, []) else am_nop))))) else (bif Nat.blt k 68 then (bif Nat.blt k 61 then (bif Nat.blt k 58 then (bif Nat.beq k 57 then (.aload_n 1, 58, 1, 0, []) else am_nop) else (bif Nat.blt k 59 then (bif Nat.beq k 58 then (.iload_n 3, 59, 3, 0, []) else am_nop) else (bif Nat.beq k 59 then (.iload 4, 61, 4, 0, []) else am_nop))) else (bif Nat.blt k 64 then (bif Nat.beq k 61 then (.invokevirtual 81, 64, 2, 0, [(0, 494)]) else am_nop) else (bif Nat.blt k 67 then (bif Nat.beq k 64 then (.ifCond .ne 10, 67, 74, 0, []) else am_nop) else (bif Nat.beq k 67 then (.aload_n 1, 68, 1, 0, []) else am_nop)))) else (bif Nat.blt k 74 then (bif Nat.blt k 69 then (bif Nat.beq k 68 then (.iload_n 3, 69, 3, 0, []) else am_nop) else (bif Nat.blt k 71 then (bif Nat.beq k 69 then (.iload 4, 71, 4, 0, []) else am_nop) else (bif Nat.beq k 71 then (.invokevirtual 77, 74, 3, 0, [(0, 488)]) else am_nop))) else (bif Nat.blt k 77 then (bif Nat.beq k 74 then (.iinc 2 1, 77, 2, 0, [(1, 0)]) else am_nop) else (bif Nat.blt k 80 then (bif Nat.beq k 77 then (.goto (-46), 80, 31, 0, []) else am_nop) else (bif Nat.beq k 80 then (.return_, 81, 0, 0, []) else am_nop))))))
/-- DeedDesk$Maker.wander(LDeedDesk$House;I)V -/
def am_c13 (k : Nat) : am_E := bif Nat.blt k 36 then (bif Nat.blt k 16 then (bif Nat.blt k 8 then (bif Nat.blt k 3 then (bif Nat.blt k 1 then (bif Nat.beq k 0 then (.aload_n 0, 1, 0, 0, []) else am_nop) else (bif Nat.beq k 1 then (.bipush 8, 3, 0, 0, [(8, 0)]) else am_nop)) else (bif Nat.blt k 6 then (bif Nat.beq k 3 then (.invokevirtual 35, 6, 10, 0, [(0, 489)]) else am_nop) else (bif Nat.blt k 7 then (bif Nat.beq k 6 then (.istore_n 3, 7, 3, 0, []) else am_nop) else (bif Nat.beq k 7 then (.aload_n 0, 8, 0, 0, []) else am_nop)))) else (bif Nat.blt k 12 then (bif Nat.blt k 11 then (bif Nat.beq k 8 then (.getfield 11, 11, 1, 0, [(0, 189)]) else am_nop) else (bif Nat.beq k 11 then (.iload_n 2, 12, 2, 0, []) else am_nop)) else (bif Nat.blt k 14 then (bif Nat.beq k 12 then (.bipush 10, 14, 0, 0, [(10, 0)]) else am_nop) else (bif Nat.blt k 15 then (bif Nat.beq k 14 then (.imul, 15, 0, 0, []) else am_nop) else (bif Nat.beq k 15 then (.iload_n 3, 16, 3, 0, []) else am_nop))))) else (bif Nat.blt k 24 then (bif Nat.blt k 18 then (bif Nat.blt k 17 then (bif Nat.beq k 16 then (.iastore, 17, 0, 0, []) else am_nop) else (bif Nat.beq k 17 then (.iconst 1, 18, 0, 0, [(1, 0)]) else am_nop)) else (bif Nat.blt k 20 then (bif Nat.beq k 18 then (.istore 4, 20, 4, 0, []) else am_nop) else (bif Nat.blt k 22 then (bif Nat.beq k 20 then (.iload 4, 22, 4, 0, []) else am_nop) else (bif Nat.beq k 22 then (.bipush 10, 24, 0, 0, [(10, 0)]) else am_nop)))) else (bif Nat.blt k 29 then (bif Nat.blt k 27 then (bif Nat.beq k 24 then (.if_icmp .ge 49, 27, 73, 0, []) else am_nop) else (bif Nat.blt k 28 then (bif Nat.beq k 27 then (.aload_n 0, 28, 0, 0, []) else am_nop) else (bif Nat.beq k 28 then (.iconst 3, 29, 0, 0, [(3, 0)]) else am_nop))) else (bif Nat.blt k 32 then (bif Nat.beq k 29 then (.invokevirtual 35, 32, 10, 0, [(0, 489)]) else am_nop) else (bif Nat.blt k 35 then (bif Nat.beq k 32 then (.ifCond .eq 22, 35, 54, 0, []) else am_nop) else (bif Nat.beq k 35 then (.aload_n 1, 36, 1, 0, []) else am_nop)))))) else (bif Nat.blt k 55 then (bif Nat.blt k 43 then (bif Nat.blt k 38 then (bif Nat.blt k 37 then (bif Nat.beq k 36 then (.iload_n 3, 37, 3, 0, []) else am_nop) else (bif Nat.beq k 37 then (.aload_n 0, 38, 0, 0, []) else am_nop)) else (bif Nat.blt k 39 then (bif Nat.beq k 38 then (.aload_n 1, 39, 1, 0, []) else am_nop) else (bif Nat.blt k 42 then (bif Nat.beq k 39 then (.getfield 85, 42, 0, 0, [(1, 75)]) else am_nop) else (bif Nat.beq k 42 then (.iload_n 3, 43, 3, 0, []) else am_nop)))) else (bif Nat.blt k 50 then (bif Nat.blt k 44 then (bif Nat.beq k 43 then (.iaload, 44, 0, 0, []) else am_nop) else (bif Nat.blt k 47 then (bif Nat.beq k 44 then (.invokestatic 88, 47, 136, 0, [(0, 499)]) else am_nop) else (bif Nat.beq k 47 then (.invokevirtual 35, 50, 10, 0, [(0, 489)]) else am_nop))) else (bif Nat.blt k 53 then (bif Nat.beq k 50 then (.invokevirtual 93, 53, 7, 0, [(0, 500)]) else am_nop) else (bif Nat.blt k 54 then (bif Nat.beq k 53 then (.istore_n 3, 54, 3, 0, []) else am_nop) else (bif Nat.beq k 54 then (.aload_n 0, 55, 0, 0, []) else am_nop))))) else (bif Nat.blt k 64 then (bif Nat.blt k 59 then (bif Nat.blt k 58 then (bif Nat.beq k 55 then (.getfield 11, 58, 1, 0, [(0, 189)]) else am_nop) else (bif Nat.beq k 58 then (.iload_n 2, 59, 2, 0, []) else am_nop)) else (bif Nat.blt k 61 then (bif Nat.beq k 59 then (.bipush 10, 61, 0, 0, [(10, 0)]) else am_nop) else (bif Nat.blt k 62 then (bif Nat.beq k 61 then (.imul, 62, 0, 0, []) else am_nop) else (bif Nat.beq k 62 then (.iload 4, 64, 4, 0, []) else am_nop)))) else (bif Nat.blt k 67 then (bif Nat.blt k 65 then (bif Nat.beq k 64 then (.iadd, 65, 0, 0, []) else am_nop) else (bif Nat.blt k 66 then (bif Nat.beq k 65 then (.iload_n 3, 66, 3, 0, []) else am_nop) else (bif Nat.beq k 66 then (.iastore, 67, 0, 0, []) else am_nop))) else (bif Nat.blt k 70 then (bif Nat.beq k 67 then (.iinc 4 1, 70, 4, 0, [(1, 0)]) else am_nop) else (bif Nat.blt k 73 then (bif Nat.beq k 70 then (.goto (-50), 73, 20, 0, []) else am_nop) else (bif Nat.beq k 73 then (.return_, 74, 0, 0, []) else am_nop))))))
/-- DeedDesk$Maker.approach(LDeedDesk$Scene;II)V -/
def am_c14 (k : Nat) : am_E := bif Nat.blt k 30 then (bif Nat.blt k 15 then (bif Nat.blt k 6 then (bif Nat.blt k 4 then (bif Nat.blt k 1 then (bif Nat.beq k 0 then (.aload_n 1, 1, 1, 0, []) else am_nop) else (bif Nat.beq k 1 then (.getfield 32, 4, 3, 2, [(1, 125)]) else am_nop)) else (bif Nat.blt k 5 then (bif Nat.beq k 4 then (.iload_n 3, 5, 3, 0, []) else am_nop) else (bif Nat.beq k 5 then (.iaload, 6, 0, 0, []) else am_nop))) else (bif Nat.blt k 9 then (bif Nat.blt k 8 then (bif Nat.beq k 6 then (.istore 4, 8, 4, 0, []) else am_nop) else (bif Nat.beq k 8 then (.aload_n 0, 9, 0, 0, []) else am_nop)) else (bif Nat.blt k 12 then (bif Nat.beq k 9 then (.getfield 11, 12, 1, 0, [(0, 189)]) else am_nop) else (bif Nat.blt k 13 then (bif Nat.beq k 12 then (.iload_n 2, 13, 2, 0, []) else am_nop) else (bif Nat.beq k 13 then (.bipush 10, 15, 0, 0, [(10, 0)]) else am_nop))))) else (bif Nat.blt k 20 then (bif Nat.blt k 18 then (bif Nat.blt k 16 then (bif Nat.beq k 15 then (.imul, 16, 0, 0, []) else am_nop) else (bif Nat.beq k 16 then (.iload 4, 18, 4, 0, []) else am_nop)) else (bif Nat.blt k 19 then (bif Nat.beq k 18 then (.iastore, 19, 0, 0, []) else am_nop) else (bif Nat.beq k 19 then (.iconst 1, 20, 0, 0, [(1, 0)]) else am_nop))) else (bif Nat.blt k 24 then (bif Nat.blt k 22 then (bif Nat.beq k 20 then (.istore 5, 22, 5, 0, []) else am_nop) else (bif Nat.beq k 22 then (.iload 5, 24, 5, 0, []) else am_nop)) else (bif Nat.blt k 26 then (bif Nat.beq k 24 then (.bipush 10, 26, 0, 0, [(10, 0)]) else am_nop) else (bif Nat.blt k 29 then (bif Nat.beq k 26 then (.if_icmp .ge 38, 29, 64, 0, []) else am_nop) else (bif Nat.beq k 29 then (.aload_n 1, 30, 1, 0, []) else am_nop)))))) else (bif Nat.blt k 49 then (bif Nat.blt k 39 then (bif Nat.blt k 35 then (bif Nat.blt k 33 then (bif Nat.beq k 30 then (.getfield 24, 33, 3, 0, [(1, 117)]) else am_nop) else (bif Nat.beq k 33 then (.iload 4, 35, 4, 0, []) else am_nop)) else (bif Nat.blt k 36 then (bif Nat.beq k 35 then (.aload_n 1, 36, 1, 0, []) else am_nop) else (bif Nat.beq k 36 then (.getfield 49, 39, 3, 4, [(1, 132)]) else am_nop))) else (bif Nat.blt k 44 then (bif Nat.blt k 42 then (bif Nat.beq k 39 then (.invokevirtual 96, 42, 6, 0, [(0, 509)]) else am_nop) else (bif Nat.beq k 42 then (.istore 4, 44, 4, 0, []) else am_nop)) else (bif Nat.blt k 45 then (bif Nat.beq k 44 then (.aload_n 0, 45, 0, 0, []) else am_nop) else (bif Nat.blt k 48 then (bif Nat.beq k 45 then (.getfield 11, 48, 1, 0, [(0, 189)]) else am_nop) else (bif Nat.beq k 48 then (.iload_n 2, 49, 2, 0, []) else am_nop))))) else (bif Nat.blt k 55 then (bif Nat.blt k 52 then (bif Nat.blt k 51 then (bif Nat.beq k 49 then (.bipush 10, 51, 0, 0, [(10, 0)]) else am_nop) else (bif Nat.beq k 51 then (.imul, 52, 0, 0, []) else am_nop)) else (bif Nat.blt k 54 then (bif Nat.beq k 52 then (.iload 5, 54, 5, 0, []) else am_nop) else (bif Nat.beq k 54 then (.iadd, 55, 0, 0, []) else am_nop))) else (bif Nat.blt k 58 then (bif Nat.blt k 57 then (bif Nat.beq k 55 then (.iload 4, 57, 4, 0, []) else am_nop) else (bif Nat.beq k 57 then (.iastore, 58, 0, 0, []) else am_nop)) else (bif Nat.blt k 61 then (bif Nat.beq k 58 then (.iinc 5 1, 61, 5, 0, [(1, 0)]) else am_nop) else (bif Nat.blt k 64 then (bif Nat.beq k 61 then (.goto (-39), 64, 22, 0, []) else am_nop) else (bif Nat.beq k 64 then (.return_, 65, 0, 0, []) else am_nop))))))
/-- DeedDesk$Maker.turnAway(LDeedDesk$Scene;I)V -/
def am_c15 (k : Nat) : am_E := bif Nat.blt k 33 then (bif Nat.blt k 13 then (bif Nat.blt k 6 then (bif Nat.blt k 2 then (bif Nat.blt k 1 then (bif Nat.beq k 0 then (.aload_n 0, 1, 0, 0, []) else am_nop) else (bif Nat.beq k 1 then (.iload_n 2, 2, 2, 0, []) else am_nop)) else (bif Nat.blt k 3 then (bif Nat.beq k 2 then (.aload_n 1, 3, 1, 0, []) else am_nop) else (bif Nat.beq k 3 then (.getfield 46, 6, 3, 5, [(1, 136)]) else am_nop))) else (bif Nat.blt k 8 then (bif Nat.blt k 7 then (bif Nat.beq k 6 then (.iconst 1, 7, 0, 0, [(1, 0)]) else am_nop) else (bif Nat.beq k 7 then (.isub, 8, 0, 0, []) else am_nop)) else (bif Nat.blt k 11 then (bif Nat.beq k 8 then (.invokevirtual 56, 11, 11, 0, [(0, 518)]) else am_nop) else (bif Nat.blt k 12 then (bif Nat.beq k 11 then (.istore_n 3, 12, 3, 0, []) else am_nop) else (bif Nat.beq k 12 then (.iload_n 3, 13, 3, 0, []) else am_nop))))) else (bif Nat.blt k 24 then (bif Nat.blt k 17 then (bif Nat.blt k 14 then (bif Nat.beq k 13 then (.aload_n 1, 14, 1, 0, []) else am_nop) else (bif Nat.beq k 14 then (.getfield 49, 17, 3, 4, [(1, 132)]) else am_nop)) else (bif Nat.blt k 20 then (bif Nat.beq k 17 then (.if_icmp .eq 7, 20, 24, 0, []) else am_nop) else (bif Nat.blt k 21 then (bif Nat.beq k 20 then (.iload_n 3, 21, 3, 0, []) else am_nop) else (bif Nat.beq k 21 then (.goto 15, 24, 36, 0, []) else am_nop)))) else (bif Nat.blt k 28 then (bif Nat.blt k 25 then (bif Nat.beq k 24 then (.aload_n 1, 25, 1, 0, []) else am_nop) else (bif Nat.beq k 25 then (.getfield 24, 28, 3, 0, [(1, 117)]) else am_nop)) else (bif Nat.blt k 29 then (bif Nat.beq k 28 then (.aload_n 1, 29, 1, 0, []) else am_nop) else (bif Nat.blt k 32 then (bif Nat.beq k 29 then (.getfield 49, 32, 3, 4, [(1, 132)]) else am_nop) else (bif Nat.beq k 32 then (.iconst 0, 33, 0, 0, [(0, 0)]) else am_nop)))))) else (bif Nat.blt k 55 then (bif Nat.blt k 44 then (bif Nat.blt k 38 then (bif Nat.blt k 36 then (bif Nat.beq k 33 then (.invokevirtual 93, 36, 7, 0, [(0, 500)]) else am_nop) else (bif Nat.beq k 36 then (.istore 4, 38, 4, 0, []) else am_nop)) else (bif Nat.blt k 39 then (bif Nat.beq k 38 then (.aload_n 1, 39, 1, 0, []) else am_nop) else (bif Nat.blt k 42 then (bif Nat.beq k 39 then (.getfield 46, 42, 3, 5, [(1, 136)]) else am_nop) else (bif Nat.beq k 42 then (.istore 5, 44, 5, 0, []) else am_nop)))) else (bif Nat.blt k 48 then (bif Nat.blt k 46 then (bif Nat.beq k 44 then (.iload 5, 46, 5, 0, []) else am_nop) else (bif Nat.beq k 46 then (.bipush 10, 48, 0, 0, [(10, 0)]) else am_nop)) else (bif Nat.blt k 51 then (bif Nat.beq k 48 then (.if_icmp .ge 23, 51, 71, 0, []) else am_nop) else (bif Nat.blt k 52 then (bif Nat.beq k 51 then (.aload_n 0, 52, 0, 0, []) else am_nop) else (bif Nat.beq k 52 then (.getfield 11, 55, 1, 0, [(0, 189)]) else am_nop))))) else (bif Nat.blt k 62 then (bif Nat.blt k 58 then (bif Nat.blt k 56 then (bif Nat.beq k 55 then (.iload_n 2, 56, 2, 0, []) else am_nop) else (bif Nat.beq k 56 then (.bipush 10, 58, 0, 0, [(10, 0)]) else am_nop)) else (bif Nat.blt k 59 then (bif Nat.beq k 58 then (.imul, 59, 0, 0, []) else am_nop) else (bif Nat.blt k 61 then (bif Nat.beq k 59 then (.iload 5, 61, 5, 0, []) else am_nop) else (bif Nat.beq k 61 then (.iadd, 62, 0, 0, []) else am_nop)))) else (bif Nat.blt k 65 then (bif Nat.blt k 64 then (bif Nat.beq k 62 then (.iload 4, 64, 4, 0, []) else am_nop) else (bif Nat.beq k 64 then (.iastore, 65, 0, 0, []) else am_nop)) else (bif Nat.blt k 68 then (bif Nat.beq k 65 then (.iinc 5 1, 68, 5, 0, [(1, 0)]) else am_nop) else (bif Nat.blt k 71 then (bif Nat.beq k 68 then (.goto (-24), 71, 44, 0, []) else am_nop) else (bif Nat.beq k 71 then (.return_, 72, 0, 0, []) else am_nop))))))
/-- DeedDesk$Maker.writeClues(LDeedDesk$Scene;II)V -/
def am_c16 (k : Nat) : am_E := bif Nat.blt k 47 then (bif Nat.blt k 22 then (bif Nat.blt k 12 then (bif Nat.blt k 7 then (bif Nat.blt k 1 then (bif Nat.beq k 0 then (.aload_n 1, 1, 1, 0, []) else am_nop) else (bif Nat.blt k 4 then (bif Nat.beq k 1 then (.getfield 99, 4, 3, 1, [(1, 123)]) else am_nop) else (bif Nat.beq k 4 then (.invokevirtual 103, 7, 26, 0, [(0, 530)]) else am_nop))) else (bif Nat.blt k 8 then (bif Nat.beq k 7 then (.iconst 0, 8, 0, 0, [(0, 0)]) else am_nop) else (bif Nat.blt k 10 then (bif Nat.beq k 8 then (.istore 4, 10, 4, 0, []) else am_nop) else (bif Nat.beq k 10 then (.iload 4, 12, 4, 0, []) else am_nop)))) else (bif Nat.blt k 17 then (bif Nat.blt k 13 then (bif Nat.beq k 12 then (.iconst 4, 13, 0, 0, [(4, 0)]) else am_nop) else (bif Nat.blt k 16 then (bif Nat.beq k 13 then (.if_icmp .ge 20, 16, 33, 0, []) else am_nop) else (bif Nat.beq k 16 then (.aload_n 0, 17, 0, 0, []) else am_nop))) else (bif Nat.blt k 18 then (bif Nat.beq k 17 then (.aload_n 1, 18, 1, 0, []) else am_nop) else (bif Nat.blt k 21 then (bif Nat.beq k 18 then (.getfield 99, 21, 3, 1, [(1, 123)]) else am_nop) else (bif Nat.beq k 21 then (.iconst 0, 22, 0, 0, [(0, 0)]) else am_nop))))) else (bif Nat.blt k 37 then (bif Nat.blt k 30 then (bif Nat.blt k 24 then (bif Nat.beq k 22 then (.iload 4, 24, 4, 0, []) else am_nop) else (bif Nat.blt k 27 then (bif Nat.beq k 24 then (.invokevirtual 108, 27, 18, 0, [(0, 531)]) else am_nop) else (bif Nat.beq k 27 then (.iinc 4 1, 30, 4, 0, [(1, 0)]) else am_nop))) else (bif Nat.blt k 33 then (bif Nat.beq k 30 then (.goto (-20), 33, 10, 0, []) else am_nop) else (bif Nat.blt k 34 then (bif Nat.beq k 33 then (.aload_n 1, 34, 1, 0, []) else am_nop) else (bif Nat.beq k 34 then (.getfield 99, 37, 3, 1, [(1, 123)]) else am_nop)))) else (bif Nat.blt k 40 then (bif Nat.blt k 38 then (bif Nat.beq k 37 then (.iconst 4, 38, 0, 0, [(4, 0)]) else am_nop) else (bif Nat.blt k 39 then (bif Nat.beq k 38 then (.iload_n 2, 39, 2, 0, []) else am_nop) else (bif Nat.beq k 39 then (.iconst 1, 40, 0, 0, [(1, 0)]) else am_nop))) else (bif Nat.blt k 43 then (bif Nat.beq k 40 then (.if_icmp .ne 7, 43, 47, 0, []) else am_nop) else (bif Nat.blt k 44 then (bif Nat.beq k 43 then (.iconst 2, 44, 0, 0, [(2, 0)]) else am_nop) else (bif Nat.beq k 44 then (.goto 4, 47, 48, 0, []) else am_nop)))))) else (bif Nat.blt k 63 then (bif Nat.blt k 55 then (bif Nat.blt k 50 then (bif Nat.blt k 48 then (bif Nat.beq k 47 then (.iconst 1, 48, 0, 0, [(1, 0)]) else am_nop) else (bif Nat.blt k 49 then (bif Nat.beq k 48 then (.iconst 0, 49, 0, 0, [(0, 0)]) else am_nop) else (bif Nat.beq k 49 then (.iconst 0, 50, 0, 0, [(0, 0)]) else am_nop))) else (bif Nat.blt k 51 then (bif Nat.beq k 50 then (.iconst 0, 51, 0, 0, [(0, 0)]) else am_nop) else (bif Nat.blt k 54 then (bif Nat.beq k 51 then (.invokevirtual 112, 54, 25, 0, [(0, 535)]) else am_nop) else (bif Nat.beq k 54 then (.aload_n 1, 55, 1, 0, []) else am_nop)))) else (bif Nat.blt k 60 then (bif Nat.blt k 58 then (bif Nat.beq k 55 then (.getfield 99, 58, 3, 1, [(1, 123)]) else am_nop) else (bif Nat.blt k 59 then (bif Nat.beq k 58 then (.iconst 2, 59, 0, 0, [(2, 0)]) else am_nop) else (bif Nat.beq k 59 then (.iload_n 3, 60, 3, 0, []) else am_nop))) else (bif Nat.blt k 61 then (bif Nat.beq k 60 then (.iconst 0, 61, 0, 0, [(0, 0)]) else am_nop) else (bif Nat.blt k 62 then (bif Nat.beq k 61 then (.iconst 0, 62, 0, 0, [(0, 0)]) else am_nop) else (bif Nat.beq k 62 then (.iconst 0, 63, 0, 0, [(0, 0)]) else am_nop))))) else (bif Nat.blt k 73 then (bif Nat.blt k 70 then (bif Nat.blt k 66 then (bif Nat.beq k 63 then (.invokevirtual 112, 66, 25, 0, [(0, 535)]) else am_nop) else (bif Nat.blt k 67 then (bif Nat.beq k 66 then (.aload_n 1, 67, 1, 0, []) else am_nop) else (bif Nat.beq k 67 then (.getfield 99, 70, 3, 1, [(1, 123)]) else am_nop))) else (bif Nat.blt k 71 then (bif Nat.beq k 70 then (.iconst 3, 71, 0, 0, [(3, 0)]) else am_nop) else (bif Nat.blt k 72 then (bif Nat.beq k 71 then (.iload_n 3, 72, 3, 0, []) else am_nop) else (bif Nat.beq k 72 then (.aload_n 1, 73, 1, 0, []) else am_nop)))) else (bif Nat.blt k 78 then (bif Nat.blt k 76 then (bif Nat.beq k 73 then (.getfield 46, 76, 3, 5, [(1, 136)]) else am_nop) else (bif Nat.blt k 77 then (bif Nat.beq k 76 then (.iconst 1, 77, 0, 0, [(1, 0)]) else am_nop) else (bif Nat.beq k 77 then (.iadd, 78, 0, 0, []) else am_nop))) else (bif Nat.blt k 80 then (bif Nat.blt k 79 then (bif Nat.beq k 78 then (.iconst 0, 79, 0, 0, [(0, 0)]) else am_nop) else (bif Nat.beq k 79 then (.iconst 0, 80, 0, 0, [(0, 0)]) else am_nop)) else (bif Nat.blt k 83 then (bif Nat.beq k 80 then (.invokevirtual 112, 83, 25, 0, [(0, 535)]) else am_nop) else (bif Nat.beq k 83 then (.return_, 84, 0, 0, []) else am_nop))))))
/-- DeedDesk$Maker.writeSayings(LDeedDesk$Scene;)V -/
def am_c17 (k : Nat) : am_E := bif Nat.blt k 39 then (bif Nat.blt k 18 then (bif Nat.blt k 8 then (bif Nat.blt k 3 then (bif Nat.blt k 1 then (bif Nat.beq k 0 then (.iconst 1, 1, 0, 0, [(1, 0)]) else am_nop) else (bif Nat.blt k 2 then (bif Nat.beq k 1 then (.istore_n 2, 2, 2, 0, []) else am_nop) else (bif Nat.beq k 2 then (.iload_n 2, 3, 2, 0, []) else am_nop))) else (bif Nat.blt k 4 then (bif Nat.beq k 3 then (.iconst 4, 4, 0, 0, [(4, 0)]) else am_nop) else (bif Nat.blt k 7 then (bif Nat.beq k 4 then (.if_icmp .ge 84, 7, 88, 0, []) else am_nop) else (bif Nat.beq k 7 then (.aload_n 0, 8, 0, 0, []) else am_nop)))) else (bif Nat.blt k 13 then (bif Nat.blt k 9 then (bif Nat.beq k 8 then (.aload_n 1, 9, 1, 0, []) else am_nop) else (bif Nat.blt k 12 then (bif Nat.beq k 9 then (.getfield 99, 12, 3, 1, [(1, 123)]) else am_nop) else (bif Nat.beq k 12 then (.iconst 5, 13, 0, 0, [(5, 0)]) else am_nop))) else (bif Nat.blt k 14 then (bif Nat.beq k 13 then (.iload_n 2, 14, 2, 0, []) else am_nop) else (bif Nat.blt k 17 then (bif Nat.beq k 14 then (.invokevirtual 108, 17, 18, 0, [(0, 531)]) else am_nop) else (bif Nat.beq k 17 then (.aload_n 0, 18, 0, 0, []) else am_nop))))) else (bif Nat.blt k 28 then (bif Nat.blt k 23 then (bif Nat.blt k 19 then (bif Nat.beq k 18 then (.aload_n 1, 19, 1, 0, []) else am_nop) else (bif Nat.blt k 22 then (bif Nat.beq k 19 then (.getfield 99, 22, 3, 1, [(1, 123)]) else am_nop) else (bif Nat.beq k 22 then (.iconst 5, 23, 0, 0, [(5, 0)]) else am_nop))) else (bif Nat.blt k 24 then (bif Nat.beq k 23 then (.iload_n 2, 24, 2, 0, []) else am_nop) else (bif Nat.blt k 27 then (bif Nat.beq k 24 then (.invokevirtual 108, 27, 18, 0, [(0, 531)]) else am_nop) else (bif Nat.beq k 27 then (.aload_n 0, 28, 0, 0, []) else am_nop)))) else (bif Nat.blt k 33 then (bif Nat.blt k 29 then (bif Nat.beq k 28 then (.iload_n 2, 29, 2, 0, []) else am_nop) else (bif Nat.blt k 30 then (bif Nat.beq k 29 then (.iconst 0, 30, 0, 0, [(0, 0)]) else am_nop) else (bif Nat.beq k 30 then (.invokevirtual 56, 33, 11, 0, [(0, 518)]) else am_nop))) else (bif Nat.blt k 35 then (bif Nat.blt k 34 then (bif Nat.beq k 33 then (.aload_n 0, 34, 0, 0, []) else am_nop) else (bif Nat.beq k 34 then (.iconst 0, 35, 0, 0, [(0, 0)]) else am_nop)) else (bif Nat.blt k 36 then (bif Nat.beq k 35 then (.iconst 0, 36, 0, 0, [(0, 0)]) else am_nop) else (bif Nat.beq k 36 then (.invokevirtual 56, 39, 11, 0, [(0, 518)]) else am_nop)))))) else (bif Nat.blt k 63 then (bif Nat.blt k 50 then (bif Nat.blt k 46 then (bif Nat.blt k 42 then (bif Nat.beq k 39 then (.if_icmp .ne 24, 42, 63, 0, []) else am_nop) else (bif Nat.blt k 43 then (bif Nat.beq k 42 then (.aload_n 1, 43, 1, 0, []) else am_nop) else (bif Nat.beq k 43 then (.getfield 99, 46, 3, 1, [(1, 123)]) else am_nop))) else (bif Nat.blt k 48 then (bif Nat.beq k 46 then (.bipush 7, 48, 0, 0, [(7, 0)]) else am_nop) else (bif Nat.blt k 49 then (bif Nat.beq k 48 then (.iload_n 2, 49, 2, 0, []) else am_nop) else (bif Nat.beq k 49 then (.iconst 0, 50, 0, 0, [(0, 0)]) else am_nop)))) else (bif Nat.blt k 53 then (bif Nat.blt k 51 then (bif Nat.beq k 50 then (.aload_n 0, 51, 0, 0, []) else am_nop) else (bif Nat.blt k 52 then (bif Nat.beq k 51 then (.iload_n 2, 52, 2, 0, []) else am_nop) else (bif Nat.beq k 52 then (.iconst 0, 53, 0, 0, [(0, 0)]) else am_nop))) else (bif Nat.blt k 57 then (bif Nat.blt k 56 then (bif Nat.beq k 53 then (.invokevirtual 56, 56, 11, 0, [(0, 518)]) else am_nop) else (bif Nat.beq k 56 then (.iconst 0, 57, 0, 0, [(0, 0)]) else am_nop)) else (bif Nat.blt k 60 then (bif Nat.beq k 57 then (.invokevirtual 112, 60, 25, 0, [(0, 535)]) else am_nop) else (bif Nat.beq k 60 then (.goto 22, 63, 82, 0, []) else am_nop))))) else (bif Nat.blt k 74 then (bif Nat.blt k 69 then (bif Nat.blt k 64 then (bif Nat.beq k 63 then (.aload_n 1, 64, 1, 0, []) else am_nop) else (bif Nat.blt k 67 then (bif Nat.beq k 64 then (.getfield 99, 67, 3, 1, [(1, 123)]) else am_nop) else (bif Nat.beq k 67 then (.bipush 6, 69, 0, 0, [(6, 0)]) else am_nop))) else (bif Nat.blt k 70 then (bif Nat.beq k 69 then (.iload_n 2, 70, 2, 0, []) else am_nop) else (bif Nat.blt k 71 then (bif Nat.beq k 70 then (.aload_n 1, 71, 1, 0, []) else am_nop) else (bif Nat.beq k 71 then (.getfield 49, 74, 3, 4, [(1, 132)]) else am_nop)))) else (bif Nat.blt k 79 then (bif Nat.blt k 75 then (bif Nat.beq k 74 then (.aload_n 1, 75, 1, 0, []) else am_nop) else (bif Nat.blt k 78 then (bif Nat.beq k 75 then (.getfield 46, 78, 3, 5, [(1, 136)]) else am_nop) else (bif Nat.beq k 78 then (.iconst 0, 79, 0, 0, [(0, 0)]) else am_nop))) else (bif Nat.blt k 85 then (bif Nat.blt k 82 then (bif Nat.beq k 79 then (.invokevirtual 112, 82, 25, 0, [(0, 535)]) else am_nop) else (bif Nat.beq k 82 then (.iinc 2 1, 85, 2, 0, [(1, 0)]) else am_nop)) else (bif Nat.blt k 88 then (bif Nat.beq k 85 then (.goto (-83), 88, 2, 0, []) else am_nop) else (bif Nat.beq k 88 then (.return_, 89, 0, 0, []) else am_nop))))))
/-- DeedDesk$Maker.writePlace(LDeedDesk$Notes;II)V -/
def am_c18 (k : Nat) : am_E := bif Nat.blt k 11 then (bif Nat.blt k 6 then (bif Nat.blt k 1 then (bif Nat.beq k 0 then (.aload_n 0, 1, 0, 0, []) else am_nop) else (bif Nat.blt k 3 then (bif Nat.beq k 1 then (.bipush 10, 3, 0, 0, [(10, 0)]) else am_nop) else (bif Nat.beq k 3 then (.invokevirtual 35, 6, 10, 0, [(0, 489)]) else am_nop))) else (bif Nat.blt k 9 then (bif Nat.blt k 8 then (bif Nat.beq k 6 then (.istore 4, 8, 4, 0, []) else am_nop) else (bif Nat.beq k 8 then (.aload_n 1, 9, 1, 0, []) else am_nop)) else (bif Nat.blt k 10 then (bif Nat.beq k 9 then (.iload_n 2, 10, 2, 0, []) else am_nop) else (bif Nat.beq k 10 then (.iload_n 3, 11, 3, 0, []) else am_nop)))) else (bif Nat.blt k 18 then (bif Nat.blt k 13 then (bif Nat.blt k 12 then (bif Nat.beq k 11 then (.aload_n 0, 12, 0, 0, []) else am_nop) else (bif Nat.beq k 12 then (.iload_n 3, 13, 3, 0, []) else am_nop)) else (bif Nat.blt k 15 then (bif Nat.beq k 13 then (.iload 4, 15, 4, 0, []) else am_nop) else (bif Nat.beq k 15 then (.invokevirtual 56, 18, 11, 0, [(0, 518)]) else am_nop))) else (bif Nat.blt k 21 then (bif Nat.blt k 20 then (bif Nat.beq k 18 then (.iload 4, 20, 4, 0, []) else am_nop) else (bif Nat.beq k 20 then (.iconst 0, 21, 0, 0, [(0, 0)]) else am_nop)) else (bif Nat.blt k 24 then (bif Nat.beq k 21 then (.invokevirtual 112, 24, 25, 0, [(0, 535)]) else am_nop) else (bif Nat.beq k 24 then (.return_, 25, 0, 0, []) else am_nop))))
/-- DeedDesk$Notes.<init>()V -/
def am_c19 (k : Nat) : am_E := bif Nat.blt k 9 then (bif Nat.blt k 4 then (bif Nat.blt k 1 then (bif Nat.beq k 0 then (.aload_n 0, 1, 0, 0, []) else am_nop) else (bif Nat.beq k 1 then (.invokespecial 3, 4, 999, 0, [(0, 92)]) else am_nop)) else (bif Nat.blt k 5 then (bif Nat.beq k 4 then (.aload_n 0, 5, 0, 0, []) else am_nop) else (bif Nat.blt k 7 then (bif Nat.beq k 5 then (.bipush 100, 7, 0, 0, [(100, 0)]) else am_nop) else (bif Nat.beq k 7 then (.newarray .int, 9, 0, 0, []) else am_nop)))) else (bif Nat.blt k 15 then (bif Nat.blt k 12 then (bif Nat.beq k 9 then (.putfield 9, 12, 2, 0, [(0, 93)]) else am_nop) else (bif Nat.blt k 13 then (bif Nat.beq k 12 then (.aload_n 0, 13, 0, 0, []) else am_nop) else (bif Nat.beq k 13 then (.bipush 20, 15, 0, 0, [(20, 0)]) else am_nop))) else (bif Nat.blt k 17 then (bif Nat.beq k 15 then (.newarray .int, 17, 0, 0, []) else am_nop) else (bif Nat.blt k 20 then (bif Nat.beq k 17 then (.putfield 15, 20, 2, 3, [(0, 101)]) else am_nop) else (bif Nat.beq k 20 then (.return_, 21, 0, 0, []) else am_nop))))
/-- DeedDesk$Notes.holds(I)Z -/
def am_c20 (k : Nat) : am_E := bif Nat.blt k 9 then (bif Nat.blt k 4 then (bif Nat.blt k 1 then (bif Nat.beq k 0 then (.iload_n 1, 1, 1, 0, []) else am_nop) else (bif Nat.beq k 1 then (.ifCond .lt 15, 4, 16, 0, []) else am_nop)) else (bif Nat.blt k 5 then (bif Nat.beq k 4 then (.iload_n 1, 5, 1, 0, []) else am_nop) else (bif Nat.blt k 6 then (bif Nat.beq k 5 then (.aload_n 0, 6, 0, 0, []) else am_nop) else (bif Nat.beq k 6 then (.getfield 18, 9, 2, 1, [(0, 96)]) else am_nop)))) else (bif Nat.blt k 13 then (bif Nat.blt k 12 then (bif Nat.beq k 9 then (.if_icmp .ge 7, 12, 16, 0, []) else am_nop) else (bif Nat.beq k 12 then (.iconst 1, 13, 0, 0, [(1, 0)]) else am_nop)) else (bif Nat.blt k 16 then (bif Nat.beq k 13 then (.goto 4, 16, 17, 0, []) else am_nop) else (bif Nat.blt k 17 then (bif Nat.beq k 16 then (.iconst 0, 17, 0, 0, [(0, 0)]) else am_nop) else (bif Nat.beq k 17 then (.ireturn, 18, 0, 0, []) else am_nop))))
/-- DeedDesk$Notes.kind(I)I -/
def am_c21 (k : Nat) : am_E := bif Nat.blt k 5 then (bif Nat.blt k 1 then (bif Nat.beq k 0 then (.aload_n 0, 1, 0, 0, []) else am_nop) else (bif Nat.blt k 4 then (bif Nat.beq k 1 then (.getfield 9, 4, 2, 0, [(0, 93)]) else am_nop) else (bif Nat.beq k 4 then (.iload_n 1, 5, 1, 0, []) else am_nop))) else (bif Nat.blt k 7 then (bif Nat.blt k 6 then (bif Nat.beq k 5 then (.iconst 5, 6, 0, 0, [(5, 0)]) else am_nop) else (bif Nat.beq k 6 then (.imul, 7, 0, 0, []) else am_nop)) else (bif Nat.blt k 8 then (bif Nat.beq k 7 then (.iaload, 8, 0, 0, []) else am_nop) else (bif Nat.beq k 8 then (.ireturn, 9, 0, 0, []) else am_nop)))
/-- DeedDesk$Notes.who(I)I -/
def am_c22 (k : Nat) : am_E := bif Nat.blt k 6 then (bif Nat.blt k 4 then (bif Nat.blt k 1 then (bif Nat.beq k 0 then (.aload_n 0, 1, 0, 0, []) else am_nop) else (bif Nat.beq k 1 then (.getfield 9, 4, 2, 0, [(0, 93)]) else am_nop)) else (bif Nat.blt k 5 then (bif Nat.beq k 4 then (.iload_n 1, 5, 1, 0, []) else am_nop) else (bif Nat.beq k 5 then (.iconst 5, 6, 0, 0, [(5, 0)]) else am_nop))) else (bif Nat.blt k 8 then (bif Nat.blt k 7 then (bif Nat.beq k 6 then (.imul, 7, 0, 0, []) else am_nop) else (bif Nat.beq k 7 then (.iconst 1, 8, 0, 0, [(1, 0)]) else am_nop)) else (bif Nat.blt k 9 then (bif Nat.beq k 8 then (.iadd, 9, 0, 0, []) else am_nop) else (bif Nat.blt k 10 then (bif Nat.beq k 9 then (.iaload, 10, 0, 0, []) else am_nop) else (bif Nat.beq k 10 then (.ireturn, 11, 0, 0, []) else am_nop))))
/-- DeedDesk$Notes.other(I)I -/
def am_c23 (k : Nat) : am_E := bif Nat.blt k 6 then (bif Nat.blt k 4 then (bif Nat.blt k 1 then (bif Nat.beq k 0 then (.aload_n 0, 1, 0, 0, []) else am_nop) else (bif Nat.beq k 1 then (.getfield 9, 4, 2, 0, [(0, 93)]) else am_nop)) else (bif Nat.blt k 5 then (bif Nat.beq k 4 then (.iload_n 1, 5, 1, 0, []) else am_nop) else (bif Nat.beq k 5 then (.iconst 5, 6, 0, 0, [(5, 0)]) else am_nop))) else (bif Nat.blt k 8 then (bif Nat.blt k 7 then (bif Nat.beq k 6 then (.imul, 7, 0, 0, []) else am_nop) else (bif Nat.beq k 7 then (.iconst 2, 8, 0, 0, [(2, 0)]) else am_nop)) else (bif Nat.blt k 9 then (bif Nat.beq k 8 then (.iadd, 9, 0, 0, []) else am_nop) else (bif Nat.blt k 10 then (bif Nat.beq k 9 then (.iaload, 10, 0, 0, []) else am_nop) else (bif Nat.beq k 10 then (.ireturn, 11, 0, 0, []) else am_nop))))
/-- DeedDesk$Notes.numbers(I)I -/
def am_c24 (k : Nat) : am_E := bif Nat.blt k 43 then (bif Nat.blt k 40 then (bif Nat.blt k 1 then (bif Nat.beq k 0 then (.iload_n 0, 1, 0, 0, []) else am_nop) else (bif Nat.beq k 1 then (.tableswitch 45 2 7 #[41, 41, 39, 45, 45, 43], 40, 46, 0, [(2, 42), (3, 42), (4, 40), (5, 46), (6, 46), (7, 44)]) else am_nop)) else (bif Nat.blt k 41 then (bif Nat.beq k 40 then (.iconst 1, 41, 0, 0, [(1, 0)]) else am_nop) else (bif Nat.blt k 42 then (bif Nat.beq k 41 then (.ireturn, 42, 0, 0, []) else am_nop) else (bif Nat.beq k 42 then (.iconst 2, 43, 0, 0, [(2, 0)]) else am_nop)))) else (bif Nat.blt k 45 then (bif Nat.blt k 44 then (bif Nat.beq k 43 then (.ireturn, 44, 0, 0, []) else am_nop) else (bif Nat.beq k 44 then (.iconst 4, 45, 0, 0, [(4, 0)]) else am_nop)) else (bif Nat.blt k 46 then (bif Nat.beq k 45 then (.ireturn, 46, 0, 0, []) else am_nop) else (bif Nat.blt k 47 then (bif Nat.beq k 46 then (.iconst 3, 47, 0, 0, [(3, 0)]) else am_nop) else (bif Nat.beq k 47 then (.ireturn, 48, 0, 0, []) else am_nop))))
/-- DeedDesk$Notes.add(IIIII)V -/
def am_c25 (k : Nat) : am_E := bif Nat.blt k 51 then (bif Nat.blt k 26 then (bif Nat.blt k 12 then (bif Nat.blt k 5 then (bif Nat.blt k 1 then (bif Nat.beq k 0 then (.aload_n 0, 1, 0, 0, []) else am_nop) else (bif Nat.blt k 4 then (bif Nat.beq k 1 then (.getfield 18, 4, 2, 1, [(0, 96)]) else am_nop) else (bif Nat.beq k 4 then (.iconst 5, 5, 0, 0, [(5, 0)]) else am_nop))) else (bif Nat.blt k 8 then (bif Nat.blt k 6 then (bif Nat.beq k 5 then (.imul, 6, 0, 0, []) else am_nop) else (bif Nat.beq k 6 then (.istore 6, 8, 6, 0, []) else am_nop)) else (bif Nat.blt k 9 then (bif Nat.beq k 8 then (.iload_n 1, 9, 1, 0, []) else am_nop) else (bif Nat.beq k 9 then (.invokestatic 22, 12, 24, 0, [(0, 305)]) else am_nop)))) else (bif Nat.blt k 20 then (bif Nat.blt k 15 then (bif Nat.blt k 14 then (bif Nat.beq k 12 then (.istore 7, 14, 7, 0, []) else am_nop) else (bif Nat.beq k 14 then (.aload_n 0, 15, 0, 0, []) else am_nop)) else (bif Nat.blt k 18 then (bif Nat.beq k 15 then (.getfield 9, 18, 2, 0, [(0, 93)]) else am_nop) else (bif Nat.beq k 18 then (.iload 6, 20, 6, 0, []) else am_nop))) else (bif Nat.blt k 22 then (bif Nat.blt k 21 then (bif Nat.beq k 20 then (.iload_n 1, 21, 1, 0, []) else am_nop) else (bif Nat.beq k 21 then (.iastore, 22, 0, 0, []) else am_nop)) else (bif Nat.blt k 23 then (bif Nat.beq k 22 then (.aload_n 0, 23, 0, 0, []) else am_nop) else (bif Nat.beq k 23 then (.getfield 9, 26, 2, 0, [(0, 93)]) else am_nop))))) else (bif Nat.blt k 38 then (bif Nat.blt k 31 then (bif Nat.blt k 29 then (bif Nat.blt k 28 then (bif Nat.beq k 26 then (.iload 6, 28, 6, 0, []) else am_nop) else (bif Nat.beq k 28 then (.iconst 1, 29, 0, 0, [(1, 0)]) else am_nop)) else (bif Nat.blt k 30 then (bif Nat.beq k 29 then (.iadd, 30, 0, 0, []) else am_nop) else (bif Nat.beq k 30 then (.iload_n 2, 31, 2, 0, []) else am_nop))) else (bif Nat.blt k 33 then (bif Nat.blt k 32 then (bif Nat.beq k 31 then (.iastore, 32, 0, 0, []) else am_nop) else (bif Nat.beq k 32 then (.aload_n 0, 33, 0, 0, []) else am_nop)) else (bif Nat.blt k 36 then (bif Nat.beq k 33 then (.getfield 9, 36, 2, 0, [(0, 93)]) else am_nop) else (bif Nat.beq k 36 then (.iload 6, 38, 6, 0, []) else am_nop)))) else (bif Nat.blt k 43 then (bif Nat.blt k 40 then (bif Nat.blt k 39 then (bif Nat.beq k 38 then (.iconst 2, 39, 0, 0, [(2, 0)]) else am_nop) else (bif Nat.beq k 39 then (.iadd, 40, 0, 0, []) else am_nop)) else (bif Nat.blt k 42 then (bif Nat.beq k 40 then (.iload 7, 42, 7, 0, []) else am_nop) else (bif Nat.beq k 42 then (.iconst 1, 43, 0, 0, [(1, 0)]) else am_nop))) else (bif Nat.blt k 47 then (bif Nat.blt k 46 then (bif Nat.beq k 43 then (.if_icmp .le 7, 46, 50, 0, []) else am_nop) else (bif Nat.beq k 46 then (.iload_n 3, 47, 3, 0, []) else am_nop)) else (bif Nat.blt k 50 then (bif Nat.beq k 47 then (.goto 4, 50, 51, 0, []) else am_nop) else (bif Nat.beq k 50 then (.iconst 0, 51, 0, 0, [(0, 0)]) else am_nop)))))) else (bif Nat.blt k 79 then (bif Nat.blt k 63 then (bif Nat.blt k 58 then (bif Nat.blt k 53 then (bif Nat.blt k 52 then (bif Nat.beq k 51 then (.iastore, 52, 0, 0, []) else am_nop) else (bif Nat.beq k 52 then (.aload_n 0, 53, 0, 0, []) else am_nop)) else (bif Nat.blt k 56 then (bif Nat.beq k 53 then (.getfield 9, 56, 2, 0, [(0, 93)]) else am_nop) else (bif Nat.beq k 56 then (.iload 6, 58, 6, 0, []) else am_nop))) else (bif Nat.blt k 60 then (bif Nat.blt k 59 then (bif Nat.beq k 58 then (.iconst 3, 59, 0, 0, [(3, 0)]) else am_nop) else (bif Nat.beq k 59 then (.iadd, 60, 0, 0, []) else am_nop)) else (bif Nat.blt k 62 then (bif Nat.beq k 60 then (.iload 7, 62, 7, 0, []) else am_nop) else (bif Nat.beq k 62 then (.iconst 2, 63, 0, 0, [(2, 0)]) else am_nop)))) else (bif Nat.blt k 72 then (bif Nat.blt k 68 then (bif Nat.blt k 66 then (bif Nat.beq k 63 then (.if_icmp .le 8, 66, 71, 0, []) else am_nop) else (bif Nat.beq k 66 then (.iload 4, 68, 4, 0, []) else am_nop)) else (bif Nat.blt k 71 then (bif Nat.beq k 68 then (.goto 4, 71, 72, 0, []) else am_nop) else (bif Nat.beq k 71 then (.iconst 0, 72, 0, 0, [(0, 0)]) else am_nop))) else (bif Nat.blt k 74 then (bif Nat.blt k 73 then (bif Nat.beq k 72 then (.iastore, 73, 0, 0, []) else am_nop) else (bif Nat.beq k 73 then (.aload_n 0, 74, 0, 0, []) else am_nop)) else (bif Nat.blt k 77 then (bif Nat.beq k 74 then (.getfield 9, 77, 2, 0, [(0, 93)]) else am_nop) else (bif Nat.beq k 77 then (.iload 6, 79, 6, 0, []) else am_nop))))) else (bif Nat.blt k 93 then (bif Nat.blt k 84 then (bif Nat.blt k 81 then (bif Nat.blt k 80 then (bif Nat.beq k 79 then (.iconst 4, 80, 0, 0, [(4, 0)]) else am_nop) else (bif Nat.beq k 80 then (.iadd, 81, 0, 0, []) else am_nop)) else (bif Nat.blt k 83 then (bif Nat.beq k 81 then (.iload 7, 83, 7, 0, []) else am_nop) else (bif Nat.beq k 83 then (.iconst 3, 84, 0, 0, [(3, 0)]) else am_nop))) else (bif Nat.blt k 89 then (bif Nat.blt k 87 then (bif Nat.beq k 84 then (.if_icmp .le 8, 87, 92, 0, []) else am_nop) else (bif Nat.beq k 87 then (.iload 5, 89, 5, 0, []) else am_nop)) else (bif Nat.blt k 92 then (bif Nat.beq k 89 then (.goto 4, 92, 93, 0, []) else am_nop) else (bif Nat.beq k 92 then (.iconst 0, 93, 0, 0, [(0, 0)]) else am_nop)))) else (bif Nat.blt k 99 then (bif Nat.blt k 95 then (bif Nat.blt k 94 then (bif Nat.beq k 93 then (.iastore, 94, 0, 0, []) else am_nop) else (bif Nat.beq k 94 then (.aload_n 0, 95, 0, 0, []) else am_nop)) else (bif Nat.blt k 96 then (bif Nat.beq k 95 then (.dup, 96, 0, 0, []) else am_nop) else (bif Nat.beq k 96 then (.getfield 18, 99, 2, 1, [(0, 96)]) else am_nop))) else (bif Nat.blt k 101 then (bif Nat.blt k 100 then (bif Nat.beq k 99 then (.iconst 1, 100, 0, 0, [(1, 0)]) else am_nop) else (bif Nat.beq k 100 then (.iadd, 101, 0, 0, []) else am_nop)) else (bif Nat.blt k 104 then (bif Nat.beq k 101 then (.putfield 18, 104, 2, 1, [(0, 96)]) else am_nop) else (bif Nat.beq k 104 then (.return_, 105, 0, 0, []) else am_nop))))))
/-- DeedDesk$Notes.forget()V -/
def am_c26 (k : Nat) : am_E := bif Nat.blt k 7 then (bif Nat.blt k 2 then (bif Nat.blt k 1 then (bif Nat.beq k 0 then (.aload_n 0, 1, 0, 0, []) else am_nop) else (bif Nat.beq k 1 then (.iconst 0, 2, 0, 0, [(0, 0)]) else am_nop)) else (bif Nat.blt k 5 then (bif Nat.beq k 2 then (.putfield 18, 5, 2, 1, [(0, 96)]) else am_nop) else (bif Nat.blt k 6 then (bif Nat.beq k 5 then (.aload_n 0, 6, 0, 0, []) else am_nop) else (bif Nat.beq k 6 then (.iconst 0, 7, 0, 0, [(0, 0)]) else am_nop)))) else (bif Nat.blt k 11 then (bif Nat.blt k 10 then (bif Nat.beq k 7 then (.putfield 26, 10, 2, 2, [(0, 99)]) else am_nop) else (bif Nat.beq k 10 then (.aload_n 0, 11, 0, 0, []) else am_nop)) else (bif Nat.blt k 12 then (bif Nat.beq k 11 then (.iconst 0, 12, 0, 0, [(0, 0)]) else am_nop) else (bif Nat.blt k 15 then (bif Nat.beq k 12 then (.putfield 29, 15, 2, 4, [(0, 103)]) else am_nop) else (bif Nat.beq k 15 then (.return_, 16, 0, 0, []) else am_nop))))
/-- DeedDesk$Notes.nameOneFrom(I)Z -/
def am_c27 (k : Nat) : am_E := bif Nat.blt k 33 then (bif Nat.blt k 16 then (bif Nat.blt k 7 then (bif Nat.blt k 2 then (bif Nat.blt k 1 then (bif Nat.beq k 0 then (.iconst 0, 1, 0, 0, [(0, 0)]) else am_nop) else (bif Nat.beq k 1 then (.istore_n 2, 2, 2, 0, []) else am_nop)) else (bif Nat.blt k 3 then (bif Nat.beq k 2 then (.iload_n 2, 3, 2, 0, []) else am_nop) else (bif Nat.blt k 4 then (bif Nat.beq k 3 then (.aload_n 0, 4, 0, 0, []) else am_nop) else (bif Nat.beq k 4 then (.getfield 18, 7, 2, 1, [(0, 96)]) else am_nop)))) else (bif Nat.blt k 11 then (bif Nat.blt k 10 then (bif Nat.beq k 7 then (.if_icmp .ge 63, 10, 70, 0, []) else am_nop) else (bif Nat.beq k 10 then (.aload_n 0, 11, 0, 0, []) else am_nop)) else (bif Nat.blt k 12 then (bif Nat.beq k 11 then (.iload_n 2, 12, 2, 0, []) else am_nop) else (bif Nat.blt k 15 then (bif Nat.beq k 12 then (.invokevirtual 32, 15, 21, 0, [(0, 237)]) else am_nop) else (bif Nat.beq k 15 then (.istore_n 3, 16, 3, 0, []) else am_nop))))) else (bif Nat.blt k 23 then (bif Nat.blt k 18 then (bif Nat.blt k 17 then (bif Nat.beq k 16 then (.iload_n 3, 17, 3, 0, []) else am_nop) else (bif Nat.beq k 17 then (.iconst 2, 18, 0, 0, [(2, 0)]) else am_nop)) else (bif Nat.blt k 21 then (bif Nat.beq k 18 then (.if_icmp .eq 8, 21, 26, 0, []) else am_nop) else (bif Nat.blt k 22 then (bif Nat.beq k 21 then (.iload_n 3, 22, 3, 0, []) else am_nop) else (bif Nat.beq k 22 then (.iconst 3, 23, 0, 0, [(3, 0)]) else am_nop)))) else (bif Nat.blt k 27 then (bif Nat.blt k 26 then (bif Nat.beq k 23 then (.if_icmp .ne 7, 26, 30, 0, []) else am_nop) else (bif Nat.beq k 26 then (.iconst 1, 27, 0, 0, [(1, 0)]) else am_nop)) else (bif Nat.blt k 30 then (bif Nat.beq k 27 then (.goto 4, 30, 31, 0, []) else am_nop) else (bif Nat.blt k 31 then (bif Nat.beq k 30 then (.iconst 0, 31, 0, 0, [(0, 0)]) else am_nop) else (bif Nat.beq k 31 then (.istore 4, 33, 4, 0, []) else am_nop)))))) else (bif Nat.blt k 53 then (bif Nat.blt k 43 then (bif Nat.blt k 38 then (bif Nat.blt k 35 then (bif Nat.beq k 33 then (.iload 4, 35, 4, 0, []) else am_nop) else (bif Nat.beq k 35 then (.ifCond .ne 12, 38, 47, 0, []) else am_nop)) else (bif Nat.blt k 39 then (bif Nat.beq k 38 then (.aload_n 0, 39, 0, 0, []) else am_nop) else (bif Nat.blt k 40 then (bif Nat.beq k 39 then (.iload_n 2, 40, 2, 0, []) else am_nop) else (bif Nat.beq k 40 then (.invokevirtual 35, 43, 22, 0, [(0, 241)]) else am_nop)))) else (bif Nat.blt k 47 then (bif Nat.blt k 44 then (bif Nat.beq k 43 then (.iload_n 1, 44, 1, 0, []) else am_nop) else (bif Nat.beq k 44 then (.if_icmp .ge 18, 47, 62, 0, []) else am_nop)) else (bif Nat.blt k 48 then (bif Nat.beq k 47 then (.iload_n 3, 48, 3, 0, []) else am_nop) else (bif Nat.blt k 50 then (bif Nat.beq k 48 then (.bipush 7, 50, 0, 0, [(7, 0)]) else am_nop) else (bif Nat.beq k 50 then (.if_icmp .ne 14, 53, 64, 0, []) else am_nop))))) else (bif Nat.blt k 62 then (bif Nat.blt k 55 then (bif Nat.blt k 54 then (bif Nat.beq k 53 then (.aload_n 0, 54, 0, 0, []) else am_nop) else (bif Nat.beq k 54 then (.iload_n 2, 55, 2, 0, []) else am_nop)) else (bif Nat.blt k 58 then (bif Nat.beq k 55 then (.invokevirtual 38, 58, 23, 0, [(0, 245)]) else am_nop) else (bif Nat.blt k 59 then (bif Nat.beq k 58 then (.iload_n 1, 59, 1, 0, []) else am_nop) else (bif Nat.beq k 59 then (.if_icmp .lt 5, 62, 64, 0, []) else am_nop)))) else (bif Nat.blt k 67 then (bif Nat.blt k 63 then (bif Nat.beq k 62 then (.iconst 1, 63, 0, 0, [(1, 0)]) else am_nop) else (bif Nat.blt k 64 then (bif Nat.beq k 63 then (.ireturn, 64, 0, 0, []) else am_nop) else (bif Nat.beq k 64 then (.iinc 2 1, 67, 2, 0, [(1, 0)]) else am_nop))) else (bif Nat.blt k 70 then (bif Nat.beq k 67 then (.goto (-65), 70, 2, 0, []) else am_nop) else (bif Nat.blt k 71 then (bif Nat.beq k 70 then (.iconst 0, 71, 0, 0, [(0, 0)]) else am_nop) else (bif Nat.beq k 71 then (.ireturn, 72, 0, 0, []) else am_nop))))))
/-- DeedDesk$Notes.isFound(I)Z -/
def am_c28 (k : Nat) : am_E := bif Nat.blt k 4 then (bif Nat.blt k 1 then (bif Nat.beq k 0 then (.aload_n 0, 1, 0, 0, []) else am_nop) else (bif Nat.beq k 1 then (.getfield 26, 4, 2, 2, [(0, 99)]) else am_nop)) else (bif Nat.blt k 5 then (bif Nat.beq k 4 then (.iload_n 1, 5, 1, 0, []) else am_nop) else (bif Nat.blt k 8 then (bif Nat.beq k 5 then (.invokestatic 41, 8, 78, 0, [(1, 342)]) else am_nop) else (bif Nat.beq k 8 then (.ireturn, 9, 0, 0, []) else am_nop)))
/-- DeedDesk$Notes.setFound(IZ)V -/
def am_c29 (k : Nat) : am_E := bif Nat.blt k 54 then (bif Nat.blt k 26 then (bif Nat.blt k 11 then (bif Nat.blt k 3 then (bif Nat.blt k 1 then (bif Nat.beq k 0 then (.iconst 0, 1, 0, 0, [(0, 0)]) else am_nop) else (bif Nat.blt k 2 then (bif Nat.beq k 1 then (.istore_n 3, 2, 3, 0, []) else am_nop) else (bif Nat.beq k 2 then (.iconst 0, 3, 0, 0, [(0, 0)]) else am_nop))) else (bif Nat.blt k 7 then (bif Nat.blt k 5 then (bif Nat.beq k 3 then (.istore 4, 5, 4, 0, []) else am_nop) else (bif Nat.beq k 5 then (.iload 4, 7, 4, 0, []) else am_nop)) else (bif Nat.blt k 8 then (bif Nat.beq k 7 then (.aload_n 0, 8, 0, 0, []) else am_nop) else (bif Nat.beq k 8 then (.getfield 29, 11, 2, 4, [(0, 103)]) else am_nop)))) else (bif Nat.blt k 20 then (bif Nat.blt k 15 then (bif Nat.blt k 14 then (bif Nat.beq k 11 then (.if_icmp .ge 36, 14, 47, 0, []) else am_nop) else (bif Nat.beq k 14 then (.aload_n 0, 15, 0, 0, []) else am_nop)) else (bif Nat.blt k 18 then (bif Nat.beq k 15 then (.getfield 15, 18, 2, 3, [(0, 101)]) else am_nop) else (bif Nat.beq k 18 then (.iload 4, 20, 4, 0, []) else am_nop))) else (bif Nat.blt k 22 then (bif Nat.blt k 21 then (bif Nat.beq k 20 then (.iaload, 21, 0, 0, []) else am_nop) else (bif Nat.beq k 21 then (.iload_n 1, 22, 1, 0, []) else am_nop)) else (bif Nat.blt k 25 then (bif Nat.beq k 22 then (.if_icmp .eq 19, 25, 41, 0, []) else am_nop) else (bif Nat.beq k 25 then (.aload_n 0, 26, 0, 0, []) else am_nop))))) else (bif Nat.blt k 38 then (bif Nat.blt k 31 then (bif Nat.blt k 29 then (bif Nat.beq k 26 then (.getfield 15, 29, 2, 3, [(0, 101)]) else am_nop) else (bif Nat.blt k 30 then (bif Nat.beq k 29 then (.iload_n 3, 30, 3, 0, []) else am_nop) else (bif Nat.beq k 30 then (.aload_n 0, 31, 0, 0, []) else am_nop))) else (bif Nat.blt k 36 then (bif Nat.blt k 34 then (bif Nat.beq k 31 then (.getfield 15, 34, 2, 3, [(0, 101)]) else am_nop) else (bif Nat.beq k 34 then (.iload 4, 36, 4, 0, []) else am_nop)) else (bif Nat.blt k 37 then (bif Nat.beq k 36 then (.iaload, 37, 0, 0, []) else am_nop) else (bif Nat.beq k 37 then (.iastore, 38, 0, 0, []) else am_nop)))) else (bif Nat.blt k 48 then (bif Nat.blt k 44 then (bif Nat.blt k 41 then (bif Nat.beq k 38 then (.iinc 3 1, 41, 3, 0, [(1, 0)]) else am_nop) else (bif Nat.beq k 41 then (.iinc 4 1, 44, 4, 0, [(1, 0)]) else am_nop)) else (bif Nat.blt k 47 then (bif Nat.beq k 44 then (.goto (-39), 47, 5, 0, []) else am_nop) else (bif Nat.beq k 47 then (.aload_n 0, 48, 0, 0, []) else am_nop))) else (bif Nat.blt k 52 then (bif Nat.blt k 49 then (bif Nat.beq k 48 then (.iload_n 3, 49, 3, 0, []) else am_nop) else (bif Nat.beq k 49 then (.putfield 29, 52, 2, 4, [(0, 103)]) else am_nop)) else (bif Nat.blt k 53 then (bif Nat.beq k 52 then (.aload_n 0, 53, 0, 0, []) else am_nop) else (bif Nat.beq k 53 then (.dup, 54, 0, 0, []) else am_nop)))))) else (bif Nat.blt k 79 then (bif Nat.blt k 63 then (bif Nat.blt k 59 then (bif Nat.blt k 57 then (bif Nat.beq k 54 then (.getfield 26, 57, 2, 2, [(0, 99)]) else am_nop) else (bif Nat.blt k 58 then (bif Nat.beq k 57 then (.iconst 1, 58, 0, 0, [(1, 0)]) else am_nop) else (bif Nat.beq k 58 then (.iload_n 1, 59, 1, 0, []) else am_nop))) else (bif Nat.blt k 61 then (bif Nat.blt k 60 then (bif Nat.beq k 59 then (.ishl, 60, 0, 0, []) else am_nop) else (bif Nat.beq k 60 then (.iconst (-1), 61, 0, 0, [(-1, 0)]) else am_nop)) else (bif Nat.blt k 62 then (bif Nat.beq k 61 then (.ixor, 62, 0, 0, []) else am_nop) else (bif Nat.beq k 62 then (.iand, 63, 0, 0, []) else am_nop)))) else (bif Nat.blt k 71 then (bif Nat.blt k 67 then (bif Nat.blt k 66 then (bif Nat.beq k 63 then (.putfield 26, 66, 2, 2, [(0, 99)]) else am_nop) else (bif Nat.beq k 66 then (.iload_n 2, 67, 2, 0, []) else am_nop)) else (bif Nat.blt k 70 then (bif Nat.beq k 67 then (.ifCond .eq 35, 70, 102, 0, []) else am_nop) else (bif Nat.beq k 70 then (.aload_n 0, 71, 0, 0, []) else am_nop))) else (bif Nat.blt k 75 then (bif Nat.blt k 74 then (bif Nat.beq k 71 then (.getfield 15, 74, 2, 3, [(0, 101)]) else am_nop) else (bif Nat.beq k 74 then (.aload_n 0, 75, 0, 0, []) else am_nop)) else (bif Nat.blt k 78 then (bif Nat.beq k 75 then (.getfield 29, 78, 2, 4, [(0, 103)]) else am_nop) else (bif Nat.beq k 78 then (.iload_n 1, 79, 1, 0, []) else am_nop))))) else (bif Nat.blt k 91 then (bif Nat.blt k 85 then (bif Nat.blt k 81 then (bif Nat.blt k 80 then (bif Nat.beq k 79 then (.iastore, 80, 0, 0, []) else am_nop) else (bif Nat.beq k 80 then (.aload_n 0, 81, 0, 0, []) else am_nop)) else (bif Nat.blt k 82 then (bif Nat.beq k 81 then (.dup, 82, 0, 0, []) else am_nop) else (bif Nat.beq k 82 then (.getfield 29, 85, 2, 4, [(0, 103)]) else am_nop))) else (bif Nat.blt k 87 then (bif Nat.blt k 86 then (bif Nat.beq k 85 then (.iconst 1, 86, 0, 0, [(1, 0)]) else am_nop) else (bif Nat.beq k 86 then (.iadd, 87, 0, 0, []) else am_nop)) else (bif Nat.blt k 90 then (bif Nat.beq k 87 then (.putfield 29, 90, 2, 4, [(0, 103)]) else am_nop) else (bif Nat.beq k 90 then (.aload_n 0, 91, 0, 0, []) else am_nop)))) else (bif Nat.blt k 97 then (bif Nat.blt k 95 then (bif Nat.blt k 92 then (bif Nat.beq k 91 then (.dup, 92, 0, 0, []) else am_nop) else (bif Nat.beq k 92 then (.getfield 26, 95, 2, 2, [(0, 99)]) else am_nop)) else (bif Nat.blt k 96 then (bif Nat.beq k 95 then (.iconst 1, 96, 0, 0, [(1, 0)]) else am_nop) else (bif Nat.beq k 96 then (.iload_n 1, 97, 1, 0, []) else am_nop))) else (bif Nat.blt k 99 then (bif Nat.blt k 98 then (bif Nat.beq k 97 then (.ishl, 98, 0, 0, []) else am_nop) else (bif Nat.beq k 98 then (.ior, 99, 0, 0, []) else am_nop)) else (bif Nat.blt k 102 then (bif Nat.beq k 99 then (.putfield 26, 102, 2, 2, [(0, 99)]) else am_nop) else (bif Nat.beq k 102 then (.return_, 103, 0, 0, []) else am_nop))))))
/-- DeedDesk$Notes.foundClues()I -/
def am_c30 (k : Nat) : am_E := bif Nat.blt k 22 then (bif Nat.blt k 9 then (bif Nat.blt k 3 then (bif Nat.blt k 1 then (bif Nat.beq k 0 then (.iconst 0, 1, 0, 0, [(0, 0)]) else am_nop) else (bif Nat.blt k 2 then (bif Nat.beq k 1 then (.istore_n 1, 2, 1, 0, []) else am_nop) else (bif Nat.beq k 2 then (.iconst 0, 3, 0, 0, [(0, 0)]) else am_nop))) else (bif Nat.blt k 5 then (bif Nat.blt k 4 then (bif Nat.beq k 3 then (.istore_n 2, 4, 2, 0, []) else am_nop) else (bif Nat.beq k 4 then (.iload_n 2, 5, 2, 0, []) else am_nop)) else (bif Nat.blt k 6 then (bif Nat.beq k 5 then (.aload_n 0, 6, 0, 0, []) else am_nop) else (bif Nat.beq k 6 then (.getfield 29, 9, 2, 4, [(0, 103)]) else am_nop)))) else (bif Nat.blt k 14 then (bif Nat.blt k 12 then (bif Nat.beq k 9 then (.if_icmp .ge 34, 12, 43, 0, []) else am_nop) else (bif Nat.blt k 13 then (bif Nat.beq k 12 then (.aload_n 0, 13, 0, 0, []) else am_nop) else (bif Nat.beq k 13 then (.aload_n 0, 14, 0, 0, []) else am_nop))) else (bif Nat.blt k 18 then (bif Nat.blt k 17 then (bif Nat.beq k 14 then (.getfield 15, 17, 2, 3, [(0, 101)]) else am_nop) else (bif Nat.beq k 17 then (.iload_n 2, 18, 2, 0, []) else am_nop)) else (bif Nat.blt k 19 then (bif Nat.beq k 18 then (.iaload, 19, 0, 0, []) else am_nop) else (bif Nat.beq k 19 then (.invokevirtual 32, 22, 21, 0, [(0, 237)]) else am_nop))))) else (bif Nat.blt k 33 then (bif Nat.blt k 27 then (bif Nat.blt k 23 then (bif Nat.beq k 22 then (.iconst 5, 23, 0, 0, [(5, 0)]) else am_nop) else (bif Nat.blt k 26 then (bif Nat.beq k 23 then (.if_icmp .ge 14, 26, 37, 0, []) else am_nop) else (bif Nat.beq k 26 then (.iload_n 1, 27, 1, 0, []) else am_nop))) else (bif Nat.blt k 29 then (bif Nat.blt k 28 then (bif Nat.beq k 27 then (.iconst 1, 28, 0, 0, [(1, 0)]) else am_nop) else (bif Nat.beq k 28 then (.aload_n 0, 29, 0, 0, []) else am_nop)) else (bif Nat.blt k 32 then (bif Nat.beq k 29 then (.getfield 15, 32, 2, 3, [(0, 101)]) else am_nop) else (bif Nat.beq k 32 then (.iload_n 2, 33, 2, 0, []) else am_nop)))) else (bif Nat.blt k 37 then (bif Nat.blt k 35 then (bif Nat.blt k 34 then (bif Nat.beq k 33 then (.iaload, 34, 0, 0, []) else am_nop) else (bif Nat.beq k 34 then (.ishl, 35, 0, 0, []) else am_nop)) else (bif Nat.blt k 36 then (bif Nat.beq k 35 then (.ior, 36, 0, 0, []) else am_nop) else (bif Nat.beq k 36 then (.istore_n 1, 37, 1, 0, []) else am_nop))) else (bif Nat.blt k 43 then (bif Nat.blt k 40 then (bif Nat.beq k 37 then (.iinc 2 1, 40, 2, 0, [(1, 0)]) else am_nop) else (bif Nat.beq k 40 then (.goto (-36), 43, 4, 0, []) else am_nop)) else (bif Nat.blt k 44 then (bif Nat.beq k 43 then (.iload_n 1, 44, 1, 0, []) else am_nop) else (bif Nat.beq k 44 then (.ireturn, 45, 0, 0, []) else am_nop)))))
/-- DeedDesk$Scene.<init>()V -/
def am_c31 (k : Nat) : am_E := bif Nat.blt k 38 then (bif Nat.blt k 19 then (bif Nat.blt k 8 then (bif Nat.blt k 4 then (bif Nat.blt k 1 then (bif Nat.beq k 0 then (.aload_n 0, 1, 0, 0, []) else am_nop) else (bif Nat.beq k 1 then (.invokespecial 3, 4, 999, 0, [(0, 63)]) else am_nop)) else (bif Nat.blt k 5 then (bif Nat.beq k 4 then (.aload_n 0, 5, 0, 0, []) else am_nop) else (bif Nat.beq k 5 then (.new 9, 8, 0, 0, [(0, 64)]) else am_nop))) else (bif Nat.blt k 12 then (bif Nat.blt k 9 then (bif Nat.beq k 8 then (.dup, 9, 0, 0, []) else am_nop) else (bif Nat.beq k 9 then (.invokespecial 11, 12, 0, 0, [(0, 66)]) else am_nop)) else (bif Nat.blt k 15 then (bif Nat.beq k 12 then (.putfield 12, 15, 3, 0, [(0, 116)]) else am_nop) else (bif Nat.blt k 16 then (bif Nat.beq k 15 then (.aload_n 0, 16, 0, 0, []) else am_nop) else (bif Nat.beq k 16 then (.new 18, 19, 2, 0, [(0, 87)]) else am_nop))))) else (bif Nat.blt k 28 then (bif Nat.blt k 23 then (bif Nat.blt k 20 then (bif Nat.beq k 19 then (.dup, 20, 0, 0, []) else am_nop) else (bif Nat.beq k 20 then (.invokespecial 20, 23, 19, 0, [(1, 89)]) else am_nop)) else (bif Nat.blt k 26 then (bif Nat.beq k 23 then (.putfield 21, 26, 3, 1, [(0, 120)]) else am_nop) else (bif Nat.blt k 27 then (bif Nat.beq k 26 then (.aload_n 0, 27, 0, 0, []) else am_nop) else (bif Nat.beq k 27 then (.iconst 3, 28, 0, 0, [(3, 0)]) else am_nop)))) else (bif Nat.blt k 33 then (bif Nat.blt k 30 then (bif Nat.beq k 28 then (.newarray .int, 30, 0, 0, []) else am_nop) else (bif Nat.beq k 30 then (.putfield 25, 33, 3, 2, [(0, 124)]) else am_nop)) else (bif Nat.blt k 34 then (bif Nat.beq k 33 then (.aload_n 0, 34, 0, 0, []) else am_nop) else (bif Nat.blt k 35 then (bif Nat.beq k 34 then (.iconst 4, 35, 0, 0, [(4, 0)]) else am_nop) else (bif Nat.beq k 35 then (.putfield 29, 38, 3, 3, [(0, 128)]) else am_nop)))))) else (bif Nat.blt k 51 then (bif Nat.blt k 44 then (bif Nat.blt k 40 then (bif Nat.blt k 39 then (bif Nat.beq k 38 then (.aload_n 0, 39, 0, 0, []) else am_nop) else (bif Nat.beq k 39 then (.iconst 5, 40, 0, 0, [(5, 0)]) else am_nop)) else (bif Nat.blt k 43 then (bif Nat.beq k 40 then (.putfield 33, 43, 3, 5, [(0, 135)]) else am_nop) else (bif Nat.beq k 43 then (.aload_n 0, 44, 0, 0, []) else am_nop))) else (bif Nat.blt k 48 then (bif Nat.blt k 45 then (bif Nat.beq k 44 then (.iconst (-1), 45, 0, 0, [(-1, 0)]) else am_nop) else (bif Nat.beq k 45 then (.putfield 36, 48, 3, 6, [(0, 139)]) else am_nop)) else (bif Nat.blt k 49 then (bif Nat.beq k 48 then (.iconst 0, 49, 0, 0, [(0, 0)]) else am_nop) else (bif Nat.blt k 50 then (bif Nat.beq k 49 then (.istore_n 1, 50, 1, 0, []) else am_nop) else (bif Nat.beq k 50 then (.iload_n 1, 51, 1, 0, []) else am_nop))))) else (bif Nat.blt k 60 then (bif Nat.blt k 55 then (bif Nat.blt k 52 then (bif Nat.beq k 51 then (.iconst 3, 52, 0, 0, [(3, 0)]) else am_nop) else (bif Nat.beq k 52 then (.if_icmp .ge 16, 55, 68, 0, []) else am_nop)) else (bif Nat.blt k 56 then (bif Nat.beq k 55 then (.aload_n 0, 56, 0, 0, []) else am_nop) else (bif Nat.blt k 59 then (bif Nat.beq k 56 then (.getfield 25, 59, 3, 2, [(0, 124)]) else am_nop) else (bif Nat.beq k 59 then (.iload_n 1, 60, 1, 0, []) else am_nop)))) else (bif Nat.blt k 62 then (bif Nat.blt k 61 then (bif Nat.beq k 60 then (.iload_n 1, 61, 1, 0, []) else am_nop) else (bif Nat.beq k 61 then (.iastore, 62, 0, 0, []) else am_nop)) else (bif Nat.blt k 65 then (bif Nat.beq k 62 then (.iinc 1 1, 65, 1, 0, [(1, 0)]) else am_nop) else (bif Nat.blt k 68 then (bif Nat.beq k 65 then (.goto (-15), 68, 50, 0, []) else am_nop) else (bif Nat.beq k 68 then (.return_, 69, 0, 0, []) else am_nop))))))
/-- DeedDesk$Scene.isPerson(I)Z -/
def am_c32 (k : Nat) : am_E := bif Nat.blt k 9 then (bif Nat.blt k 4 then (bif Nat.blt k 1 then (bif Nat.beq k 0 then (.iload_n 1, 1, 1, 0, []) else am_nop) else (bif Nat.beq k 1 then (.ifCond .lt 15, 4, 16, 0, []) else am_nop)) else (bif Nat.blt k 5 then (bif Nat.beq k 4 then (.iload_n 1, 5, 1, 0, []) else am_nop) else (bif Nat.blt k 6 then (bif Nat.beq k 5 then (.aload_n 0, 6, 0, 0, []) else am_nop) else (bif Nat.beq k 6 then (.getfield 29, 9, 3, 3, [(0, 128)]) else am_nop)))) else (bif Nat.blt k 13 then (bif Nat.blt k 12 then (bif Nat.beq k 9 then (.if_icmp .ge 7, 12, 16, 0, []) else am_nop) else (bif Nat.beq k 12 then (.iconst 1, 13, 0, 0, [(1, 0)]) else am_nop)) else (bif Nat.blt k 16 then (bif Nat.beq k 13 then (.goto 4, 16, 17, 0, []) else am_nop) else (bif Nat.blt k 17 then (bif Nat.beq k 16 then (.iconst 0, 17, 0, 0, [(0, 0)]) else am_nop) else (bif Nat.beq k 17 then (.ireturn, 18, 0, 0, []) else am_nop))))
/-- DeedDesk$Scene.everyone()I -/
def am_c33 (k : Nat) : am_E := bif Nat.blt k 5 then (bif Nat.blt k 1 then (bif Nat.beq k 0 then (.iconst 1, 1, 0, 0, [(1, 0)]) else am_nop) else (bif Nat.blt k 2 then (bif Nat.beq k 1 then (.aload_n 0, 2, 0, 0, []) else am_nop) else (bif Nat.beq k 2 then (.getfield 29, 5, 3, 3, [(0, 128)]) else am_nop))) else (bif Nat.blt k 7 then (bif Nat.blt k 6 then (bif Nat.beq k 5 then (.ishl, 6, 0, 0, []) else am_nop) else (bif Nat.beq k 6 then (.iconst 1, 7, 0, 0, [(1, 0)]) else am_nop)) else (bif Nat.blt k 8 then (bif Nat.beq k 7 then (.isub, 8, 0, 0, []) else am_nop) else (bif Nat.beq k 8 then (.ireturn, 9, 0, 0, []) else am_nop)))
/-- DeedDesk$Scene.isFind(IIIII)Z -/
def am_c34 (k : Nat) : am_E := bif Nat.blt k 89 then (bif Nat.blt k 62 then (bif Nat.blt k 51 then (bif Nat.blt k 41 then (bif Nat.blt k 1 then (bif Nat.beq k 0 then (.iload_n 1, 1, 1, 0, []) else am_nop) else (bif Nat.blt k 40 then (bif Nat.beq k 1 then (.tableswitch 108 2 7 #[39, 39, 59, 108, 108, 65], 40, 109, 0, [(2, 40), (3, 40), (4, 60), (5, 109), (6, 109), (7, 66)]) else am_nop) else (bif Nat.beq k 40 then (.iload_n 2, 41, 2, 0, []) else am_nop))) else (bif Nat.blt k 47 then (bif Nat.blt k 44 then (bif Nat.beq k 41 then (.invokestatic 39, 44, 75, 0, [(1, 297)]) else am_nop) else (bif Nat.beq k 44 then (.ifCond .eq 14, 47, 58, 0, []) else am_nop)) else (bif Nat.blt k 48 then (bif Nat.beq k 47 then (.iload_n 3, 48, 3, 0, []) else am_nop) else (bif Nat.beq k 48 then (.invokestatic 43, 51, 74, 0, [(1, 298)]) else am_nop)))) else (bif Nat.blt k 58 then (bif Nat.blt k 54 then (bif Nat.beq k 51 then (.ifCond .eq 7, 54, 58, 0, []) else am_nop) else (bif Nat.blt k 55 then (bif Nat.beq k 54 then (.iconst 1, 55, 0, 0, [(1, 0)]) else am_nop) else (bif Nat.beq k 55 then (.goto 4, 58, 59, 0, []) else am_nop))) else (bif Nat.blt k 60 then (bif Nat.blt k 59 then (bif Nat.beq k 58 then (.iconst 0, 59, 0, 0, [(0, 0)]) else am_nop) else (bif Nat.beq k 59 then (.ireturn, 60, 0, 0, []) else am_nop)) else (bif Nat.blt k 61 then (bif Nat.beq k 60 then (.aload_n 0, 61, 0, 0, []) else am_nop) else (bif Nat.beq k 61 then (.iload_n 2, 62, 2, 0, []) else am_nop))))) else (bif Nat.blt k 75 then (bif Nat.blt k 67 then (bif Nat.blt k 65 then (bif Nat.beq k 62 then (.invokevirtual 46, 65, 32, 0, [(0, 299)]) else am_nop) else (bif Nat.blt k 66 then (bif Nat.beq k 65 then (.ireturn, 66, 0, 0, []) else am_nop) else (bif Nat.beq k 66 then (.aload_n 0, 67, 0, 0, []) else am_nop))) else (bif Nat.blt k 71 then (bif Nat.blt k 68 then (bif Nat.beq k 67 then (.iload_n 2, 68, 2, 0, []) else am_nop) else (bif Nat.beq k 68 then (.invokevirtual 46, 71, 32, 0, [(0, 299)]) else am_nop)) else (bif Nat.blt k 74 then (bif Nat.beq k 71 then (.ifCond .eq 36, 74, 107, 0, []) else am_nop) else (bif Nat.beq k 74 then (.aload_n 0, 75, 0, 0, []) else am_nop)))) else (bif Nat.blt k 82 then (bif Nat.blt k 76 then (bif Nat.beq k 75 then (.iload_n 3, 76, 3, 0, []) else am_nop) else (bif Nat.blt k 79 then (bif Nat.beq k 76 then (.invokevirtual 46, 79, 32, 0, [(0, 299)]) else am_nop) else (bif Nat.beq k 79 then (.ifCond .eq 28, 82, 107, 0, []) else am_nop))) else (bif Nat.blt k 84 then (bif Nat.blt k 83 then (bif Nat.beq k 82 then (.iload_n 2, 83, 2, 0, []) else am_nop) else (bif Nat.beq k 83 then (.iload_n 3, 84, 3, 0, []) else am_nop)) else (bif Nat.blt k 87 then (bif Nat.beq k 84 then (.if_icmp .eq 23, 87, 107, 0, []) else am_nop) else (bif Nat.beq k 87 then (.iload 4, 89, 4, 0, []) else am_nop)))))) else (bif Nat.blt k 119 then (bif Nat.blt k 107 then (bif Nat.blt k 97 then (bif Nat.blt k 92 then (bif Nat.beq k 89 then (.invokestatic 49, 92, 73, 0, [(1, 300)]) else am_nop) else (bif Nat.blt k 95 then (bif Nat.beq k 92 then (.ifCond .eq 15, 95, 107, 0, []) else am_nop) else (bif Nat.beq k 95 then (.iload 5, 97, 5, 0, []) else am_nop))) else (bif Nat.blt k 103 then (bif Nat.blt k 100 then (bif Nat.beq k 97 then (.invokestatic 43, 100, 74, 0, [(1, 298)]) else am_nop) else (bif Nat.beq k 100 then (.ifCond .eq 7, 103, 107, 0, []) else am_nop)) else (bif Nat.blt k 104 then (bif Nat.beq k 103 then (.iconst 1, 104, 0, 0, [(1, 0)]) else am_nop) else (bif Nat.beq k 104 then (.goto 4, 107, 108, 0, []) else am_nop)))) else (bif Nat.blt k 110 then (bif Nat.blt k 108 then (bif Nat.beq k 107 then (.iconst 0, 108, 0, 0, [(0, 0)]) else am_nop) else (bif Nat.blt k 109 then (bif Nat.beq k 108 then (.ireturn, 109, 0, 0, []) else am_nop) else (bif Nat.beq k 109 then (.iload_n 1, 110, 1, 0, []) else am_nop))) else (bif Nat.blt k 114 then (bif Nat.blt k 113 then (bif Nat.beq k 110 then (.ifCond .lt 36, 113, 146, 0, []) else am_nop) else (bif Nat.beq k 113 then (.iload_n 1, 114, 1, 0, []) else am_nop)) else (bif Nat.blt k 116 then (bif Nat.beq k 114 then (.bipush 8, 116, 0, 0, [(8, 0)]) else am_nop) else (bif Nat.beq k 116 then (.if_icmp .ge 30, 119, 146, 0, []) else am_nop))))) else (bif Nat.blt k 134 then (bif Nat.blt k 124 then (bif Nat.blt k 120 then (bif Nat.beq k 119 then (.aload_n 0, 120, 0, 0, []) else am_nop) else (bif Nat.blt k 121 then (bif Nat.beq k 120 then (.iload_n 2, 121, 2, 0, []) else am_nop) else (bif Nat.beq k 121 then (.invokevirtual 46, 124, 32, 0, [(0, 299)]) else am_nop))) else (bif Nat.blt k 128 then (bif Nat.blt k 127 then (bif Nat.beq k 124 then (.ifCond .eq 22, 127, 146, 0, []) else am_nop) else (bif Nat.beq k 127 then (.iload_n 3, 128, 3, 0, []) else am_nop)) else (bif Nat.blt k 131 then (bif Nat.beq k 128 then (.invokestatic 49, 131, 73, 0, [(1, 300)]) else am_nop) else (bif Nat.beq k 131 then (.ifCond .eq 15, 134, 146, 0, []) else am_nop)))) else (bif Nat.blt k 142 then (bif Nat.blt k 136 then (bif Nat.beq k 134 then (.iload 4, 136, 4, 0, []) else am_nop) else (bif Nat.blt k 139 then (bif Nat.beq k 136 then (.invokestatic 43, 139, 74, 0, [(1, 298)]) else am_nop) else (bif Nat.beq k 139 then (.ifCond .eq 7, 142, 146, 0, []) else am_nop))) else (bif Nat.blt k 146 then (bif Nat.blt k 143 then (bif Nat.beq k 142 then (.iconst 1, 143, 0, 0, [(1, 0)]) else am_nop) else (bif Nat.beq k 143 then (.goto 4, 146, 147, 0, []) else am_nop)) else (bif Nat.blt k 147 then (bif Nat.beq k 146 then (.iconst 0, 147, 0, 0, [(0, 0)]) else am_nop) else (bif Nat.beq k 147 then (.ireturn, 148, 0, 0, []) else am_nop))))))
/-- DeedDesk$Sheet.<init>()V -/
def am_c35 (k : Nat) : am_E := bif Nat.blt k 9 then (bif Nat.blt k 4 then (bif Nat.blt k 1 then (bif Nat.beq k 0 then (.aload_n 0, 1, 0, 0, []) else am_nop) else (bif Nat.beq k 1 then (.invokespecial 3, 4, 999, 0, [(0, 202)]) else am_nop)) else (bif Nat.blt k 5 then (bif Nat.beq k 4 then (.aload_n 0, 5, 0, 0, []) else am_nop) else (bif Nat.blt k 7 then (bif Nat.beq k 5 then (.bipush 60, 7, 0, 0, [(60, 0)]) else am_nop) else (bif Nat.beq k 7 then (.newarray .int, 9, 0, 0, []) else am_nop)))) else (bif Nat.blt k 13 then (bif Nat.blt k 12 then (bif Nat.beq k 9 then (.putfield 9, 12, 4, 0, [(0, 203)]) else am_nop) else (bif Nat.beq k 12 then (.aload_n 0, 13, 0, 0, []) else am_nop)) else (bif Nat.blt k 14 then (bif Nat.beq k 13 then (.iconst (-1), 14, 0, 0, [(-1, 0)]) else am_nop) else (bif Nat.blt k 17 then (bif Nat.beq k 14 then (.putfield 15, 17, 4, 1, [(0, 205)]) else am_nop) else (bif Nat.beq k 17 then (.return_, 18, 0, 0, []) else am_nop))))
/-- DeedDesk$Sheet.takenAs(I)I -/
def am_c36 (k : Nat) : am_E := bif Nat.blt k 12 then (bif Nat.blt k 5 then (bif Nat.blt k 1 then (bif Nat.beq k 0 then (.aload_n 0, 1, 0, 0, []) else am_nop) else (bif Nat.blt k 4 then (bif Nat.beq k 1 then (.getfield 15, 4, 4, 1, [(0, 205)]) else am_nop) else (bif Nat.beq k 4 then (.iconst (-1), 5, 0, 0, [(-1, 0)]) else am_nop))) else (bif Nat.blt k 10 then (bif Nat.blt k 8 then (bif Nat.beq k 5 then (.if_icmp .ne 6, 8, 11, 0, []) else am_nop) else (bif Nat.beq k 8 then (.bipush (-11), 10, 0, 0, [(-11, 0)]) else am_nop)) else (bif Nat.blt k 11 then (bif Nat.beq k 10 then (.ireturn, 11, 0, 0, []) else am_nop) else (bif Nat.beq k 11 then (.aload_n 0, 12, 0, 0, []) else am_nop)))) else (bif Nat.blt k 19 then (bif Nat.blt k 15 then (bif Nat.beq k 12 then (.getfield 15, 15, 4, 1, [(0, 205)]) else am_nop) else (bif Nat.blt k 16 then (bif Nat.beq k 15 then (.iload_n 1, 16, 1, 0, []) else am_nop) else (bif Nat.beq k 16 then (.if_icmp .ne 7, 19, 23, 0, []) else am_nop))) else (bif Nat.blt k 23 then (bif Nat.blt k 20 then (bif Nat.beq k 19 then (.iconst 0, 20, 0, 0, [(0, 0)]) else am_nop) else (bif Nat.beq k 20 then (.goto 5, 23, 25, 0, []) else am_nop)) else (bif Nat.blt k 25 then (bif Nat.beq k 23 then (.bipush (-12), 25, 0, 0, [(-12, 0)]) else am_nop) else (bif Nat.beq k 25 then (.ireturn, 26, 0, 0, []) else am_nop))))
/-- DeedDesk$Sheet.renew(II)V -/
def am_c37 (k : Nat) : am_E := bif Nat.blt k 13 then (bif Nat.blt k 6 then (bif Nat.blt k 2 then (bif Nat.blt k 1 then (bif Nat.beq k 0 then (.aload_n 0, 1, 0, 0, []) else am_nop) else (bif Nat.beq k 1 then (.iload_n 1, 2, 1, 0, []) else am_nop)) else (bif Nat.blt k 5 then (bif Nat.beq k 2 then (.putfield 15, 5, 4, 1, [(0, 205)]) else am_nop) else (bif Nat.beq k 5 then (.aload_n 0, 6, 0, 0, []) else am_nop))) else (bif Nat.blt k 10 then (bif Nat.blt k 7 then (bif Nat.beq k 6 then (.iload_n 2, 7, 2, 0, []) else am_nop) else (bif Nat.beq k 7 then (.putfield 19, 10, 4, 2, [(0, 207)]) else am_nop)) else (bif Nat.blt k 11 then (bif Nat.beq k 10 then (.iconst 0, 11, 0, 0, [(0, 0)]) else am_nop) else (bif Nat.blt k 12 then (bif Nat.beq k 11 then (.istore_n 3, 12, 3, 0, []) else am_nop) else (bif Nat.beq k 12 then (.iload_n 3, 13, 3, 0, []) else am_nop))))) else (bif Nat.blt k 22 then (bif Nat.blt k 17 then (bif Nat.blt k 14 then (bif Nat.beq k 13 then (.iload_n 2, 14, 2, 0, []) else am_nop) else (bif Nat.beq k 14 then (.if_icmp .ge 16, 17, 30, 0, []) else am_nop)) else (bif Nat.blt k 18 then (bif Nat.beq k 17 then (.aload_n 0, 18, 0, 0, []) else am_nop) else (bif Nat.blt k 21 then (bif Nat.beq k 18 then (.getfield 9, 21, 4, 0, [(0, 203)]) else am_nop) else (bif Nat.beq k 21 then (.iload_n 3, 22, 3, 0, []) else am_nop)))) else (bif Nat.blt k 24 then (bif Nat.blt k 23 then (bif Nat.beq k 22 then (.iconst 0, 23, 0, 0, [(0, 0)]) else am_nop) else (bif Nat.beq k 23 then (.iastore, 24, 0, 0, []) else am_nop)) else (bif Nat.blt k 27 then (bif Nat.beq k 24 then (.iinc 3 1, 27, 3, 0, [(1, 0)]) else am_nop) else (bif Nat.blt k 30 then (bif Nat.beq k 27 then (.goto (-15), 30, 12, 0, []) else am_nop) else (bif Nat.beq k 30 then (.return_, 31, 0, 0, []) else am_nop)))))
/-- DeedDesk$Ways.<init>()V -/
def am_c38 (k : Nat) : am_E := bif Nat.blt k 21 then (bif Nat.blt k 9 then (bif Nat.blt k 4 then (bif Nat.blt k 1 then (bif Nat.beq k 0 then (.aload_n 0, 1, 0, 0, []) else am_nop) else (bif Nat.beq k 1 then (.invokespecial 3, 4, 999, 0, [(0, 163)]) else am_nop)) else (bif Nat.blt k 5 then (bif Nat.beq k 4 then (.aload_n 0, 5, 0, 0, []) else am_nop) else (bif Nat.blt k 7 then (bif Nat.beq k 5 then (.bipush 60, 7, 0, 0, [(60, 0)]) else am_nop) else (bif Nat.beq k 7 then (.newarray .int, 9, 0, 0, []) else am_nop)))) else (bif Nat.blt k 15 then (bif Nat.blt k 12 then (bif Nat.beq k 9 then (.putfield 9, 12, 5, 0, [(0, 164)]) else am_nop) else (bif Nat.blt k 13 then (bif Nat.beq k 12 then (.aload_n 0, 13, 0, 0, []) else am_nop) else (bif Nat.beq k 13 then (.bipush 10, 15, 0, 0, [(10, 0)]) else am_nop))) else (bif Nat.blt k 17 then (bif Nat.beq k 15 then (.newarray .int, 17, 0, 0, []) else am_nop) else (bif Nat.blt k 20 then (bif Nat.beq k 17 then (.putfield 15, 20, 5, 1, [(0, 165)]) else am_nop) else (bif Nat.beq k 20 then (.aload_n 0, 21, 0, 0, []) else am_nop))))) else (bif Nat.blt k 32 then (bif Nat.blt k 28 then (bif Nat.blt k 23 then (bif Nat.beq k 21 then (.bipush 10, 23, 0, 0, [(10, 0)]) else am_nop) else (bif Nat.blt k 25 then (bif Nat.beq k 23 then (.newarray .int, 25, 0, 0, []) else am_nop) else (bif Nat.beq k 25 then (.putfield 18, 28, 5, 2, [(0, 166)]) else am_nop))) else (bif Nat.blt k 29 then (bif Nat.beq k 28 then (.aload_n 0, 29, 0, 0, []) else am_nop) else (bif Nat.blt k 30 then (bif Nat.beq k 29 then (.iconst 3, 30, 0, 0, [(3, 0)]) else am_nop) else (bif Nat.beq k 30 then (.newarray .int, 32, 0, 0, []) else am_nop)))) else (bif Nat.blt k 37 then (bif Nat.blt k 35 then (bif Nat.beq k 32 then (.putfield 21, 35, 5, 3, [(0, 167)]) else am_nop) else (bif Nat.blt k 36 then (bif Nat.beq k 35 then (.aload_n 0, 36, 0, 0, []) else am_nop) else (bif Nat.beq k 36 then (.iconst 3, 37, 0, 0, [(3, 0)]) else am_nop))) else (bif Nat.blt k 39 then (bif Nat.beq k 37 then (.newarray .int, 39, 0, 0, []) else am_nop) else (bif Nat.blt k 42 then (bif Nat.beq k 39 then (.putfield 24, 42, 5, 4, [(0, 168)]) else am_nop) else (bif Nat.beq k 42 then (.return_, 43, 0, 0, []) else am_nop)))))
/-- DeedDesk$Ways.suspectsOf(LDeedDesk$Scene;II)I -/
def am_c39 (k : Nat) : am_E := bif Nat.blt k 26 then (bif Nat.blt k 12 then (bif Nat.blt k 4 then (bif Nat.blt k 1 then (bif Nat.beq k 0 then (.iconst 0, 1, 0, 0, [(0, 0)]) else am_nop) else (bif Nat.blt k 3 then (bif Nat.beq k 1 then (.istore 4, 3, 4, 0, []) else am_nop) else (bif Nat.beq k 3 then (.iconst 0, 4, 0, 0, [(0, 0)]) else am_nop))) else (bif Nat.blt k 8 then (bif Nat.blt k 6 then (bif Nat.beq k 4 then (.istore 5, 6, 5, 0, []) else am_nop) else (bif Nat.beq k 6 then (.iload 5, 8, 5, 0, []) else am_nop)) else (bif Nat.blt k 9 then (bif Nat.beq k 8 then (.aload_n 1, 9, 1, 0, []) else am_nop) else (bif Nat.beq k 9 then (.getfield 27, 12, 3, 3, [(1, 130)]) else am_nop)))) else (bif Nat.blt k 18 then (bif Nat.blt k 15 then (bif Nat.beq k 12 then (.if_icmp .ge 38, 15, 50, 0, []) else am_nop) else (bif Nat.blt k 16 then (bif Nat.beq k 15 then (.iload_n 3, 16, 3, 0, []) else am_nop) else (bif Nat.beq k 16 then (.iload 5, 18, 5, 0, []) else am_nop))) else (bif Nat.blt k 24 then (bif Nat.blt k 21 then (bif Nat.beq k 18 then (.invokestatic 33, 21, 78, 0, [(1, 378)]) else am_nop) else (bif Nat.beq k 21 then (.ifCond .eq 23, 24, 44, 0, []) else am_nop)) else (bif Nat.blt k 25 then (bif Nat.beq k 24 then (.aload_n 0, 25, 0, 0, []) else am_nop) else (bif Nat.beq k 25 then (.aload_n 1, 26, 1, 0, []) else am_nop))))) else (bif Nat.blt k 40 then (bif Nat.blt k 32 then (bif Nat.blt k 27 then (bif Nat.beq k 26 then (.iload_n 2, 27, 2, 0, []) else am_nop) else (bif Nat.blt k 29 then (bif Nat.beq k 27 then (.iload 5, 29, 5, 0, []) else am_nop) else (bif Nat.beq k 29 then (.invokevirtual 37, 32, 40, 0, [(0, 410)]) else am_nop))) else (bif Nat.blt k 37 then (bif Nat.blt k 35 then (bif Nat.beq k 32 then (.ifCond .eq 12, 35, 44, 0, []) else am_nop) else (bif Nat.beq k 35 then (.iload 4, 37, 4, 0, []) else am_nop)) else (bif Nat.blt k 38 then (bif Nat.beq k 37 then (.iconst 1, 38, 0, 0, [(1, 0)]) else am_nop) else (bif Nat.beq k 38 then (.iload 5, 40, 5, 0, []) else am_nop)))) else (bif Nat.blt k 44 then (bif Nat.blt k 41 then (bif Nat.beq k 40 then (.ishl, 41, 0, 0, []) else am_nop) else (bif Nat.blt k 42 then (bif Nat.beq k 41 then (.ior, 42, 0, 0, []) else am_nop) else (bif Nat.beq k 42 then (.istore 4, 44, 4, 0, []) else am_nop))) else (bif Nat.blt k 50 then (bif Nat.blt k 47 then (bif Nat.beq k 44 then (.iinc 5 1, 47, 5, 0, [(1, 0)]) else am_nop) else (bif Nat.beq k 47 then (.goto (-41), 50, 6, 0, []) else am_nop)) else (bif Nat.blt k 52 then (bif Nat.beq k 50 then (.iload 4, 52, 4, 0, []) else am_nop) else (bif Nat.beq k 52 then (.ireturn, 53, 0, 0, []) else am_nop)))))
/-- DeedDesk$Ways.thingsOf(LDeedDesk$Scene;II)I -/
def am_c40 (k : Nat) : am_E := bif Nat.blt k 56 then (bif Nat.blt k 27 then (bif Nat.blt k 9 then (bif Nat.blt k 3 then (bif Nat.blt k 1 then (bif Nat.beq k 0 then (.aload_n 0, 1, 0, 0, []) else am_nop) else (bif Nat.blt k 2 then (bif Nat.beq k 1 then (.aload_n 1, 2, 1, 0, []) else am_nop) else (bif Nat.beq k 2 then (.iload_n 2, 3, 2, 0, []) else am_nop))) else (bif Nat.blt k 7 then (bif Nat.blt k 4 then (bif Nat.beq k 3 then (.iload_n 3, 4, 3, 0, []) else am_nop) else (bif Nat.beq k 4 then (.invokevirtual 41, 7, 43, 0, [(0, 372)]) else am_nop)) else (bif Nat.blt k 8 then (bif Nat.beq k 7 then (.iload_n 3, 8, 3, 0, []) else am_nop) else (bif Nat.beq k 8 then (.aload_n 1, 9, 1, 0, []) else am_nop)))) else (bif Nat.blt k 19 then (bif Nat.blt k 15 then (bif Nat.blt k 12 then (bif Nat.beq k 9 then (.getfield 45, 12, 3, 6, [(1, 142)]) else am_nop) else (bif Nat.beq k 12 then (.if_icmp .eq 14, 15, 26, 0, []) else am_nop)) else (bif Nat.blt k 16 then (bif Nat.beq k 15 then (.aload_n 0, 16, 0, 0, []) else am_nop) else (bif Nat.beq k 16 then (.getfield 48, 19, 5, 5, [(0, 169)]) else am_nop))) else (bif Nat.blt k 23 then (bif Nat.blt k 20 then (bif Nat.beq k 19 then (.iload_n 3, 20, 3, 0, []) else am_nop) else (bif Nat.beq k 20 then (.invokestatic 33, 23, 78, 0, [(1, 378)]) else am_nop)) else (bif Nat.blt k 26 then (bif Nat.beq k 23 then (.ifCond .eq 5, 26, 28, 0, []) else am_nop) else (bif Nat.beq k 26 then (.iconst 0, 27, 0, 0, [(0, 0)]) else am_nop))))) else (bif Nat.blt k 39 then (bif Nat.blt k 31 then (bif Nat.blt k 29 then (bif Nat.blt k 28 then (bif Nat.beq k 27 then (.ireturn, 28, 0, 0, []) else am_nop) else (bif Nat.beq k 28 then (.aload_n 0, 29, 0, 0, []) else am_nop)) else (bif Nat.blt k 30 then (bif Nat.beq k 29 then (.aload_n 1, 30, 1, 0, []) else am_nop) else (bif Nat.beq k 30 then (.iload_n 3, 31, 3, 0, []) else am_nop))) else (bif Nat.blt k 35 then (bif Nat.blt k 34 then (bif Nat.beq k 31 then (.invokevirtual 51, 34, 45, 0, [(0, 414)]) else am_nop) else (bif Nat.beq k 34 then (.iconst 0, 35, 0, 0, [(0, 0)]) else am_nop)) else (bif Nat.blt k 37 then (bif Nat.beq k 35 then (.istore 4, 37, 4, 0, []) else am_nop) else (bif Nat.beq k 37 then (.iload 4, 39, 4, 0, []) else am_nop)))) else (bif Nat.blt k 47 then (bif Nat.blt k 43 then (bif Nat.blt k 40 then (bif Nat.beq k 39 then (.aload_n 1, 40, 1, 0, []) else am_nop) else (bif Nat.beq k 40 then (.getfield 27, 43, 3, 3, [(1, 130)]) else am_nop)) else (bif Nat.blt k 46 then (bif Nat.beq k 43 then (.if_icmp .ge 24, 46, 67, 0, []) else am_nop) else (bif Nat.beq k 46 then (.aload_n 0, 47, 0, 0, []) else am_nop))) else (bif Nat.blt k 51 then (bif Nat.blt k 48 then (bif Nat.beq k 47 then (.aload_n 1, 48, 1, 0, []) else am_nop) else (bif Nat.beq k 48 then (.getfield 55, 51, 3, 0, [(1, 119)]) else am_nop)) else (bif Nat.blt k 53 then (bif Nat.beq k 51 then (.iload 4, 53, 4, 0, []) else am_nop) else (bif Nat.beq k 53 then (.invokevirtual 59, 56, 46, 0, [(0, 389)]) else am_nop)))))) else (bif Nat.blt k 84 then (bif Nat.blt k 71 then (bif Nat.blt k 64 then (bif Nat.blt k 60 then (bif Nat.blt k 59 then (bif Nat.beq k 56 then (.ifCond .ne 5, 59, 61, 0, []) else am_nop) else (bif Nat.beq k 59 then (.iconst 0, 60, 0, 0, [(0, 0)]) else am_nop)) else (bif Nat.blt k 61 then (bif Nat.beq k 60 then (.ireturn, 61, 0, 0, []) else am_nop) else (bif Nat.beq k 61 then (.iinc 4 1, 64, 4, 0, [(1, 0)]) else am_nop))) else (bif Nat.blt k 68 then (bif Nat.blt k 67 then (bif Nat.beq k 64 then (.goto (-27), 67, 37, 0, []) else am_nop) else (bif Nat.beq k 67 then (.iconst 0, 68, 0, 0, [(0, 0)]) else am_nop)) else (bif Nat.blt k 70 then (bif Nat.beq k 68 then (.istore 4, 70, 4, 0, []) else am_nop) else (bif Nat.beq k 70 then (.iconst 0, 71, 0, 0, [(0, 0)]) else am_nop)))) else (bif Nat.blt k 79 then (bif Nat.blt k 75 then (bif Nat.blt k 73 then (bif Nat.beq k 71 then (.istore 5, 73, 5, 0, []) else am_nop) else (bif Nat.beq k 73 then (.iload 5, 75, 5, 0, []) else am_nop)) else (bif Nat.blt k 76 then (bif Nat.beq k 75 then (.iconst 3, 76, 0, 0, [(3, 0)]) else am_nop) else (bif Nat.beq k 76 then (.if_icmp .ge 35, 79, 111, 0, []) else am_nop))) else (bif Nat.blt k 81 then (bif Nat.blt k 80 then (bif Nat.beq k 79 then (.aload_n 0, 80, 0, 0, []) else am_nop) else (bif Nat.beq k 80 then (.aload_n 1, 81, 1, 0, []) else am_nop)) else (bif Nat.blt k 82 then (bif Nat.beq k 81 then (.iload_n 3, 82, 3, 0, []) else am_nop) else (bif Nat.beq k 82 then (.iload 5, 84, 5, 0, []) else am_nop))))) else (bif Nat.blt k 99 then (bif Nat.blt k 92 then (bif Nat.blt k 88 then (bif Nat.blt k 87 then (bif Nat.beq k 84 then (.invokevirtual 63, 87, 47, 0, [(0, 418)]) else am_nop) else (bif Nat.beq k 87 then (.aload_n 0, 88, 0, 0, []) else am_nop)) else (bif Nat.blt k 91 then (bif Nat.beq k 88 then (.getfield 18, 91, 5, 2, [(0, 166)]) else am_nop) else (bif Nat.beq k 91 then (.iconst 0, 92, 0, 0, [(0, 0)]) else am_nop))) else (bif Nat.blt k 96 then (bif Nat.blt k 93 then (bif Nat.beq k 92 then (.iaload, 93, 0, 0, []) else am_nop) else (bif Nat.beq k 93 then (.ifCond .eq 12, 96, 105, 0, []) else am_nop)) else (bif Nat.blt k 98 then (bif Nat.beq k 96 then (.iload 4, 98, 4, 0, []) else am_nop) else (bif Nat.beq k 98 then (.iconst 1, 99, 0, 0, [(1, 0)]) else am_nop)))) else (bif Nat.blt k 105 then (bif Nat.blt k 102 then (bif Nat.blt k 101 then (bif Nat.beq k 99 then (.iload 5, 101, 5, 0, []) else am_nop) else (bif Nat.beq k 101 then (.ishl, 102, 0, 0, []) else am_nop)) else (bif Nat.blt k 103 then (bif Nat.beq k 102 then (.ior, 103, 0, 0, []) else am_nop) else (bif Nat.beq k 103 then (.istore 4, 105, 4, 0, []) else am_nop))) else (bif Nat.blt k 111 then (bif Nat.blt k 108 then (bif Nat.beq k 105 then (.iinc 5 1, 108, 5, 0, [(1, 0)]) else am_nop) else (bif Nat.beq k 108 then (.goto (-35), 111, 73, 0, []) else am_nop)) else (bif Nat.blt k 113 then (bif Nat.beq k 111 then (.iload 4, 113, 4, 0, []) else am_nop) else (bif Nat.beq k 113 then (.ireturn, 114, 0, 0, []) else am_nop))))))
/-- DeedDesk$Ways.placeAt(LDeedDesk$Scene;III)I -/
def am_c41 (k : Nat) : am_E := bif Nat.blt k 64 then (bif Nat.blt k 26 then (bif Nat.blt k 11 then (bif Nat.blt k 4 then (bif Nat.blt k 2 then (bif Nat.blt k 1 then (bif Nat.beq k 0 then (.aload_n 0, 1, 0, 0, []) else am_nop) else (bif Nat.beq k 1 then (.aload_n 1, 2, 1, 0, []) else am_nop)) else (bif Nat.blt k 3 then (bif Nat.beq k 2 then (.iload_n 2, 3, 2, 0, []) else am_nop) else (bif Nat.beq k 3 then (.iload_n 3, 4, 3, 0, []) else am_nop))) else (bif Nat.blt k 8 then (bif Nat.blt k 7 then (bif Nat.beq k 4 then (.invokevirtual 63, 7, 47, 0, [(0, 418)]) else am_nop) else (bif Nat.beq k 7 then (.iconst 0, 8, 0, 0, [(0, 0)]) else am_nop)) else (bif Nat.blt k 10 then (bif Nat.beq k 8 then (.istore 5, 10, 5, 0, []) else am_nop) else (bif Nat.beq k 10 then (.aload_n 0, 11, 0, 0, []) else am_nop)))) else (bif Nat.blt k 18 then (bif Nat.blt k 15 then (bif Nat.blt k 14 then (bif Nat.beq k 11 then (.getfield 18, 14, 5, 2, [(0, 166)]) else am_nop) else (bif Nat.beq k 14 then (.iconst 0, 15, 0, 0, [(0, 0)]) else am_nop)) else (bif Nat.blt k 16 then (bif Nat.beq k 15 then (.iaload, 16, 0, 0, []) else am_nop) else (bif Nat.beq k 16 then (.istore 6, 18, 6, 0, []) else am_nop))) else (bif Nat.blt k 21 then (bif Nat.blt k 19 then (bif Nat.beq k 18 then (.iconst 0, 19, 0, 0, [(0, 0)]) else am_nop) else (bif Nat.beq k 19 then (.istore 7, 21, 7, 0, []) else am_nop)) else (bif Nat.blt k 22 then (bif Nat.beq k 21 then (.iconst 0, 22, 0, 0, [(0, 0)]) else am_nop) else (bif Nat.blt k 24 then (bif Nat.beq k 22 then (.istore 8, 24, 8, 0, []) else am_nop) else (bif Nat.beq k 24 then (.iload 8, 26, 8, 0, []) else am_nop)))))) else (bif Nat.blt k 45 then (bif Nat.blt k 36 then (bif Nat.blt k 31 then (bif Nat.blt k 28 then (bif Nat.beq k 26 then (.iload 4, 28, 4, 0, []) else am_nop) else (bif Nat.beq k 28 then (.if_icmp .gt 98, 31, 126, 0, []) else am_nop)) else (bif Nat.blt k 33 then (bif Nat.beq k 31 then (.iload 6, 33, 6, 0, []) else am_nop) else (bif Nat.beq k 33 then (.invokestatic 66, 36, 79, 0, [(1, 440)]) else am_nop))) else (bif Nat.blt k 40 then (bif Nat.blt k 38 then (bif Nat.beq k 36 then (.istore 7, 38, 7, 0, []) else am_nop) else (bif Nat.beq k 38 then (.iload 5, 40, 5, 0, []) else am_nop)) else (bif Nat.blt k 43 then (bif Nat.beq k 40 then (.ifCond .ne 24, 43, 64, 0, []) else am_nop) else (bif Nat.blt k 44 then (bif Nat.beq k 43 then (.aload_n 0, 44, 0, 0, []) else am_nop) else (bif Nat.beq k 44 then (.iload_n 3, 45, 3, 0, []) else am_nop))))) else (bif Nat.blt k 55 then (bif Nat.blt k 50 then (bif Nat.blt k 47 then (bif Nat.beq k 45 then (.iload 8, 47, 8, 0, []) else am_nop) else (bif Nat.beq k 47 then (.invokevirtual 70, 50, 48, 0, [(0, 422)]) else am_nop)) else (bif Nat.blt k 53 then (bif Nat.beq k 50 then (.ifCond .eq 18, 53, 68, 0, []) else am_nop) else (bif Nat.beq k 53 then (.iload 7, 55, 7, 0, []) else am_nop))) else (bif Nat.blt k 59 then (bif Nat.blt k 56 then (bif Nat.beq k 55 then (.aload_n 1, 56, 1, 0, []) else am_nop) else (bif Nat.beq k 56 then (.getfield 73, 59, 3, 2, [(1, 127)]) else am_nop)) else (bif Nat.blt k 60 then (bif Nat.beq k 59 then (.iload_n 3, 60, 3, 0, []) else am_nop) else (bif Nat.blt k 61 then (bif Nat.beq k 60 then (.iaload, 61, 0, 0, []) else am_nop) else (bif Nat.beq k 61 then (.if_icmp .ne 7, 64, 68, 0, []) else am_nop))))))) else (bif Nat.blt k 97 then (bif Nat.blt k 80 then (bif Nat.blt k 71 then (bif Nat.blt k 68 then (bif Nat.blt k 65 then (bif Nat.beq k 64 then (.iconst 1, 65, 0, 0, [(1, 0)]) else am_nop) else (bif Nat.beq k 65 then (.goto 4, 68, 69, 0, []) else am_nop)) else (bif Nat.blt k 69 then (bif Nat.beq k 68 then (.iconst 0, 69, 0, 0, [(0, 0)]) else am_nop) else (bif Nat.beq k 69 then (.istore 5, 71, 5, 0, []) else am_nop))) else (bif Nat.blt k 74 then (bif Nat.blt k 73 then (bif Nat.beq k 71 then (.iload 8, 73, 8, 0, []) else am_nop) else (bif Nat.beq k 73 then (.iconst 1, 74, 0, 0, [(1, 0)]) else am_nop)) else (bif Nat.blt k 75 then (bif Nat.beq k 74 then (.iadd, 75, 0, 0, []) else am_nop) else (bif Nat.blt k 77 then (bif Nat.beq k 75 then (.bipush 10, 77, 0, 0, [(10, 0)]) else am_nop) else (bif Nat.beq k 77 then (.if_icmp .ge 43, 80, 120, 0, []) else am_nop))))) else (bif Nat.blt k 87 then (bif Nat.blt k 84 then (bif Nat.blt k 81 then (bif Nat.beq k 80 then (.aload_n 1, 81, 1, 0, []) else am_nop) else (bif Nat.beq k 81 then (.getfield 55, 84, 3, 0, [(1, 119)]) else am_nop)) else (bif Nat.blt k 85 then (bif Nat.beq k 84 then (.iconst 1, 85, 0, 0, [(1, 0)]) else am_nop) else (bif Nat.beq k 85 then (.iload 7, 87, 7, 0, []) else am_nop))) else (bif Nat.blt k 91 then (bif Nat.blt k 88 then (bif Nat.beq k 87 then (.ishl, 88, 0, 0, []) else am_nop) else (bif Nat.beq k 88 then (.invokevirtual 76, 91, 4, 0, [(0, 393)]) else am_nop)) else (bif Nat.blt k 93 then (bif Nat.beq k 91 then (.iload 5, 93, 5, 0, []) else am_nop) else (bif Nat.blt k 96 then (bif Nat.beq k 93 then (.ifCond .eq 15, 96, 108, 0, []) else am_nop) else (bif Nat.beq k 96 then (.aload_n 0, 97, 0, 0, []) else am_nop)))))) else (bif Nat.blt k 114 then (bif Nat.blt k 104 then (bif Nat.blt k 102 then (bif Nat.blt k 100 then (bif Nat.beq k 97 then (.getfield 15, 100, 5, 1, [(0, 165)]) else am_nop) else (bif Nat.beq k 100 then (.iload 8, 102, 8, 0, []) else am_nop)) else (bif Nat.blt k 103 then (bif Nat.beq k 102 then (.iconst 1, 103, 0, 0, [(1, 0)]) else am_nop) else (bif Nat.beq k 103 then (.iadd, 104, 0, 0, []) else am_nop))) else (bif Nat.blt k 108 then (bif Nat.blt k 105 then (bif Nat.beq k 104 then (.iaload, 105, 0, 0, []) else am_nop) else (bif Nat.beq k 105 then (.goto 12, 108, 117, 0, []) else am_nop)) else (bif Nat.blt k 109 then (bif Nat.beq k 108 then (.aload_n 0, 109, 0, 0, []) else am_nop) else (bif Nat.blt k 112 then (bif Nat.beq k 109 then (.getfield 18, 112, 5, 2, [(0, 166)]) else am_nop) else (bif Nat.beq k 112 then (.iload 8, 114, 8, 0, []) else am_nop))))) else (bif Nat.blt k 118 then (bif Nat.blt k 116 then (bif Nat.blt k 115 then (bif Nat.beq k 114 then (.iconst 1, 115, 0, 0, [(1, 0)]) else am_nop) else (bif Nat.beq k 115 then (.iadd, 116, 0, 0, []) else am_nop)) else (bif Nat.blt k 117 then (bif Nat.beq k 116 then (.iaload, 117, 0, 0, []) else am_nop) else (bif Nat.beq k 117 then (.iand, 118, 0, 0, []) else am_nop))) else (bif Nat.blt k 123 then (bif Nat.blt k 120 then (bif Nat.beq k 118 then (.istore 6, 120, 6, 0, []) else am_nop) else (bif Nat.beq k 120 then (.iinc 8 1, 123, 8, 0, [(1, 0)]) else am_nop)) else (bif Nat.blt k 126 then (bif Nat.beq k 123 then (.goto (-99), 126, 24, 0, []) else am_nop) else (bif Nat.blt k 128 then (bif Nat.beq k 126 then (.iload 7, 128, 7, 0, []) else am_nop) else (bif Nat.beq k 128 then (.ireturn, 129, 0, 0, []) else am_nop)))))))
/-- DeedDesk$Ways.deny(LDeedDesk$Scene;I)Z -/
def am_c42 (k : Nat) : am_E := bif Nat.blt k 33 then (bif Nat.blt k 13 then (bif Nat.blt k 6 then (bif Nat.blt k 2 then (bif Nat.blt k 1 then (bif Nat.beq k 0 then (.aload_n 0, 1, 0, 0, []) else am_nop) else (bif Nat.beq k 1 then (.aload_n 1, 2, 1, 0, []) else am_nop)) else (bif Nat.blt k 3 then (bif Nat.beq k 2 then (.aload_n 1, 3, 1, 0, []) else am_nop) else (bif Nat.beq k 3 then (.getfield 81, 6, 3, 1, [(1, 122)]) else am_nop))) else (bif Nat.blt k 10 then (bif Nat.blt k 9 then (bif Nat.beq k 6 then (.invokevirtual 85, 9, 30, 0, [(0, 368)]) else am_nop) else (bif Nat.beq k 9 then (.iconst 1, 10, 0, 0, [(1, 0)]) else am_nop)) else (bif Nat.blt k 11 then (bif Nat.beq k 10 then (.iload_n 2, 11, 2, 0, []) else am_nop) else (bif Nat.blt k 12 then (bif Nat.beq k 11 then (.ishl, 12, 0, 0, []) else am_nop) else (bif Nat.beq k 12 then (.ior, 13, 0, 0, []) else am_nop))))) else (bif Nat.blt k 22 then (bif Nat.blt k 17 then (bif Nat.blt k 14 then (bif Nat.beq k 13 then (.iconst (-1), 14, 0, 0, [(-1, 0)]) else am_nop) else (bif Nat.beq k 14 then (.invokevirtual 41, 17, 43, 0, [(0, 372)]) else am_nop)) else (bif Nat.blt k 18 then (bif Nat.beq k 17 then (.aload_n 0, 18, 0, 0, []) else am_nop) else (bif Nat.blt k 19 then (bif Nat.beq k 18 then (.aload_n 1, 19, 1, 0, []) else am_nop) else (bif Nat.beq k 19 then (.getfield 55, 22, 3, 0, [(1, 119)]) else am_nop)))) else (bif Nat.blt k 26 then (bif Nat.blt k 23 then (bif Nat.beq k 22 then (.aload_n 1, 23, 1, 0, []) else am_nop) else (bif Nat.beq k 23 then (.getfield 81, 26, 3, 1, [(1, 122)]) else am_nop)) else (bif Nat.blt k 27 then (bif Nat.beq k 26 then (.iload_n 2, 27, 2, 0, []) else am_nop) else (bif Nat.blt k 30 then (bif Nat.beq k 27 then (.invokevirtual 91, 30, 22, 0, [(0, 377)]) else am_nop) else (bif Nat.beq k 30 then (.invokevirtual 59, 33, 46, 0, [(0, 389)]) else am_nop)))))) else (bif Nat.blt k 54 then (bif Nat.blt k 44 then (bif Nat.blt k 37 then (bif Nat.blt k 36 then (bif Nat.beq k 33 then (.ifCond .eq 35, 36, 68, 0, []) else am_nop) else (bif Nat.beq k 36 then (.aload_n 1, 37, 1, 0, []) else am_nop)) else (bif Nat.blt k 40 then (bif Nat.beq k 37 then (.getfield 81, 40, 3, 1, [(1, 122)]) else am_nop) else (bif Nat.blt k 41 then (bif Nat.beq k 40 then (.iload_n 2, 41, 2, 0, []) else am_nop) else (bif Nat.beq k 41 then (.invokevirtual 94, 44, 21, 0, [(0, 376)]) else am_nop)))) else (bif Nat.blt k 49 then (bif Nat.blt k 46 then (bif Nat.beq k 44 then (.bipush 7, 46, 0, 0, [(7, 0)]) else am_nop) else (bif Nat.beq k 46 then (.if_icmp .ne 26, 49, 72, 0, []) else am_nop)) else (bif Nat.blt k 50 then (bif Nat.beq k 49 then (.aload_n 0, 50, 0, 0, []) else am_nop) else (bif Nat.blt k 51 then (bif Nat.beq k 50 then (.aload_n 1, 51, 1, 0, []) else am_nop) else (bif Nat.beq k 51 then (.getfield 55, 54, 3, 0, [(1, 119)]) else am_nop))))) else (bif Nat.blt k 65 then (bif Nat.blt k 58 then (bif Nat.blt k 55 then (bif Nat.beq k 54 then (.aload_n 1, 55, 1, 0, []) else am_nop) else (bif Nat.beq k 55 then (.getfield 81, 58, 3, 1, [(1, 122)]) else am_nop)) else (bif Nat.blt k 59 then (bif Nat.beq k 58 then (.iload_n 2, 59, 2, 0, []) else am_nop) else (bif Nat.blt k 62 then (bif Nat.beq k 59 then (.invokevirtual 97, 62, 23, 0, [(0, 397)]) else am_nop) else (bif Nat.beq k 62 then (.invokevirtual 59, 65, 46, 0, [(0, 389)]) else am_nop)))) else (bif Nat.blt k 69 then (bif Nat.blt k 68 then (bif Nat.beq k 65 then (.ifCond .ne 7, 68, 72, 0, []) else am_nop) else (bif Nat.beq k 68 then (.iconst 1, 69, 0, 0, [(1, 0)]) else am_nop)) else (bif Nat.blt k 72 then (bif Nat.beq k 69 then (.goto 4, 72, 73, 0, []) else am_nop) else (bif Nat.blt k 73 then (bif Nat.beq k 72 then (.iconst 0, 73, 0, 0, [(0, 0)]) else am_nop) else (bif Nat.beq k 73 then (.ireturn, 74, 0, 0, []) else am_nop))))))
/-- DeedDesk$Ways.listen(LDeedDesk$Scene;II)V -/
def am_c43 (k : Nat) : am_E := bif Nat.blt k 71 then (bif Nat.blt k 35 then (bif Nat.blt k 17 then (bif Nat.blt k 6 then (bif Nat.blt k 3 then (bif Nat.blt k 1 then (bif Nat.beq k 0 then (.iconst 0, 1, 0, 0, [(0, 0)]) else am_nop) else (bif Nat.beq k 1 then (.istore 4, 3, 4, 0, []) else am_nop)) else (bif Nat.blt k 5 then (bif Nat.beq k 3 then (.iload 4, 5, 4, 0, []) else am_nop) else (bif Nat.beq k 5 then (.aload_n 0, 6, 0, 0, []) else am_nop))) else (bif Nat.blt k 10 then (bif Nat.blt k 9 then (bif Nat.beq k 6 then (.getfield 9, 9, 5, 0, [(0, 164)]) else am_nop) else (bif Nat.beq k 9 then (.arraylength, 10, 0, 0, []) else am_nop)) else (bif Nat.blt k 13 then (bif Nat.beq k 10 then (.if_icmp .ge 19, 13, 29, 0, []) else am_nop) else (bif Nat.blt k 14 then (bif Nat.beq k 13 then (.aload_n 0, 14, 0, 0, []) else am_nop) else (bif Nat.beq k 14 then (.getfield 9, 17, 5, 0, [(0, 164)]) else am_nop))))) else (bif Nat.blt k 26 then (bif Nat.blt k 22 then (bif Nat.blt k 19 then (bif Nat.beq k 17 then (.iload 4, 19, 4, 0, []) else am_nop) else (bif Nat.beq k 19 then (.sipush 255, 22, 0, 0, [(255, 0)]) else am_nop)) else (bif Nat.blt k 23 then (bif Nat.beq k 22 then (.iastore, 23, 0, 0, []) else am_nop) else (bif Nat.beq k 23 then (.iinc 4 1, 26, 4, 0, [(1, 0)]) else am_nop))) else (bif Nat.blt k 30 then (bif Nat.blt k 29 then (bif Nat.beq k 26 then (.goto (-23), 29, 3, 0, []) else am_nop) else (bif Nat.beq k 29 then (.iconst 0, 30, 0, 0, [(0, 0)]) else am_nop)) else (bif Nat.blt k 32 then (bif Nat.beq k 30 then (.istore 4, 32, 4, 0, []) else am_nop) else (bif Nat.blt k 34 then (bif Nat.beq k 32 then (.iload 4, 34, 4, 0, []) else am_nop) else (bif Nat.beq k 34 then (.iconst 3, 35, 0, 0, [(3, 0)]) else am_nop)))))) else (bif Nat.blt k 52 then (bif Nat.blt k 44 then (bif Nat.blt k 39 then (bif Nat.blt k 38 then (bif Nat.beq k 35 then (.if_icmp .ge 28, 38, 63, 0, []) else am_nop) else (bif Nat.beq k 38 then (.aload_n 0, 39, 0, 0, []) else am_nop)) else (bif Nat.blt k 42 then (bif Nat.beq k 39 then (.getfield 21, 42, 5, 3, [(0, 167)]) else am_nop) else (bif Nat.beq k 42 then (.iload 4, 44, 4, 0, []) else am_nop))) else (bif Nat.blt k 46 then (bif Nat.blt k 45 then (bif Nat.beq k 44 then (.iconst 0, 45, 0, 0, [(0, 0)]) else am_nop) else (bif Nat.beq k 45 then (.iastore, 46, 0, 0, []) else am_nop)) else (bif Nat.blt k 47 then (bif Nat.beq k 46 then (.aload_n 0, 47, 0, 0, []) else am_nop) else (bif Nat.blt k 50 then (bif Nat.beq k 47 then (.getfield 24, 50, 5, 4, [(0, 168)]) else am_nop) else (bif Nat.beq k 50 then (.iload 4, 52, 4, 0, []) else am_nop))))) else (bif Nat.blt k 63 then (bif Nat.blt k 56 then (bif Nat.blt k 53 then (bif Nat.beq k 52 then (.aload_n 1, 53, 1, 0, []) else am_nop) else (bif Nat.beq k 53 then (.getfield 100, 56, 3, 5, [(1, 138)]) else am_nop)) else (bif Nat.blt k 57 then (bif Nat.beq k 56 then (.iastore, 57, 0, 0, []) else am_nop) else (bif Nat.blt k 60 then (bif Nat.beq k 57 then (.iinc 4 1, 60, 4, 0, [(1, 0)]) else am_nop) else (bif Nat.beq k 60 then (.goto (-28), 63, 32, 0, []) else am_nop)))) else (bif Nat.blt k 65 then (bif Nat.blt k 64 then (bif Nat.beq k 63 then (.aload_n 0, 64, 0, 0, []) else am_nop) else (bif Nat.beq k 64 then (.iconst 0, 65, 0, 0, [(0, 0)]) else am_nop)) else (bif Nat.blt k 68 then (bif Nat.beq k 65 then (.putfield 48, 68, 5, 5, [(0, 169)]) else am_nop) else (bif Nat.blt k 69 then (bif Nat.beq k 68 then (.iconst 0, 69, 0, 0, [(0, 0)]) else am_nop) else (bif Nat.beq k 69 then (.istore 4, 71, 4, 0, []) else am_nop))))))) else (bif Nat.blt k 113 then (bif Nat.blt k 92 then (bif Nat.blt k 80 then (bif Nat.blt k 74 then (bif Nat.blt k 73 then (bif Nat.beq k 71 then (.iload 4, 73, 4, 0, []) else am_nop) else (bif Nat.beq k 73 then (.aload_n 1, 74, 1, 0, []) else am_nop)) else (bif Nat.blt k 77 then (bif Nat.beq k 74 then (.getfield 81, 77, 3, 1, [(1, 122)]) else am_nop) else (bif Nat.beq k 77 then (.getfield 103, 80, 2, 1, [(1, 97)]) else am_nop))) else (bif Nat.blt k 84 then (bif Nat.blt k 83 then (bif Nat.beq k 80 then (.if_icmp .ge 71, 83, 151, 0, []) else am_nop) else (bif Nat.beq k 83 then (.aload_n 1, 84, 1, 0, []) else am_nop)) else (bif Nat.blt k 87 then (bif Nat.beq k 84 then (.getfield 81, 87, 3, 1, [(1, 122)]) else am_nop) else (bif Nat.blt k 89 then (bif Nat.beq k 87 then (.iload 4, 89, 4, 0, []) else am_nop) else (bif Nat.beq k 89 then (.invokevirtual 94, 92, 21, 0, [(0, 376)]) else am_nop))))) else (bif Nat.blt k 102 then (bif Nat.blt k 96 then (bif Nat.blt k 93 then (bif Nat.beq k 92 then (.iconst 5, 93, 0, 0, [(5, 0)]) else am_nop) else (bif Nat.beq k 93 then (.if_icmp .lt 20, 96, 113, 0, []) else am_nop)) else (bif Nat.blt k 97 then (bif Nat.beq k 96 then (.aload_n 1, 97, 1, 0, []) else am_nop) else (bif Nat.blt k 100 then (bif Nat.beq k 97 then (.getfield 81, 100, 3, 1, [(1, 122)]) else am_nop) else (bif Nat.beq k 100 then (.iload 4, 102, 4, 0, []) else am_nop)))) else (bif Nat.blt k 106 then (bif Nat.blt k 105 then (bif Nat.beq k 102 then (.invokevirtual 91, 105, 22, 0, [(0, 377)]) else am_nop) else (bif Nat.beq k 105 then (.iload_n 3, 106, 3, 0, []) else am_nop)) else (bif Nat.blt k 109 then (bif Nat.beq k 106 then (.if_icmp .ne 7, 109, 113, 0, []) else am_nop) else (bif Nat.blt k 110 then (bif Nat.beq k 109 then (.iconst 1, 110, 0, 0, [(1, 0)]) else am_nop) else (bif Nat.beq k 110 then (.goto 4, 113, 114, 0, []) else am_nop)))))) else (bif Nat.blt k 131 then (bif Nat.blt k 119 then (bif Nat.blt k 116 then (bif Nat.blt k 114 then (bif Nat.beq k 113 then (.iconst 0, 114, 0, 0, [(0, 0)]) else am_nop) else (bif Nat.beq k 114 then (.istore 5, 116, 5, 0, []) else am_nop)) else (bif Nat.blt k 117 then (bif Nat.beq k 116 then (.iload_n 2, 117, 2, 0, []) else am_nop) else (bif Nat.beq k 117 then (.iload 4, 119, 4, 0, []) else am_nop))) else (bif Nat.blt k 125 then (bif Nat.blt k 122 then (bif Nat.beq k 119 then (.invokestatic 33, 122, 78, 0, [(1, 378)]) else am_nop) else (bif Nat.beq k 122 then (.ifCond .eq 23, 125, 145, 0, []) else am_nop)) else (bif Nat.blt k 127 then (bif Nat.beq k 125 then (.iload 5, 127, 5, 0, []) else am_nop) else (bif Nat.blt k 130 then (bif Nat.beq k 127 then (.ifCond .ne 18, 130, 145, 0, []) else am_nop) else (bif Nat.beq k 130 then (.aload_n 0, 131, 0, 0, []) else am_nop))))) else (bif Nat.blt k 141 then (bif Nat.blt k 135 then (bif Nat.blt k 132 then (bif Nat.beq k 131 then (.aload_n 1, 132, 1, 0, []) else am_nop) else (bif Nat.beq k 132 then (.getfield 81, 135, 3, 1, [(1, 122)]) else am_nop)) else (bif Nat.blt k 138 then (bif Nat.beq k 135 then (.getfield 106, 138, 2, 0, [(1, 94)]) else am_nop) else (bif Nat.blt k 140 then (bif Nat.beq k 138 then (.iload 4, 140, 4, 0, []) else am_nop) else (bif Nat.beq k 140 then (.iconst 5, 141, 0, 0, [(5, 0)]) else am_nop)))) else (bif Nat.blt k 145 then (bif Nat.blt k 142 then (bif Nat.beq k 141 then (.imul, 142, 0, 0, []) else am_nop) else (bif Nat.beq k 142 then (.invokevirtual 109, 145, 44, 0, [(0, 379)]) else am_nop)) else (bif Nat.blt k 148 then (bif Nat.beq k 145 then (.iinc 4 1, 148, 4, 0, [(1, 0)]) else am_nop) else (bif Nat.blt k 151 then (bif Nat.beq k 148 then (.goto (-77), 151, 71, 0, []) else am_nop) else (bif Nat.beq k 151 then (.return_, 152, 0, 0, []) else am_nop)))))))
/-- DeedDesk$Ways.hear([II)V -/
def am_c44 (k : Nat) : am_E := bif Nat.blt k 129 then (bif Nat.blt k 76 then (bif Nat.blt k 16 then (bif Nat.blt k 7 then (bif Nat.blt k 3 then (bif Nat.blt k 1 then (bif Nat.beq k 0 then (.aload_n 1, 1, 1, 0, []) else am_nop) else (bif Nat.blt k 2 then (bif Nat.beq k 1 then (.iload_n 2, 2, 2, 0, []) else am_nop) else (bif Nat.beq k 2 then (.iconst 1, 3, 0, 0, [(1, 0)]) else am_nop))) else (bif Nat.blt k 5 then (bif Nat.blt k 4 then (bif Nat.beq k 3 then (.iadd, 4, 0, 0, []) else am_nop) else (bif Nat.beq k 4 then (.iaload, 5, 0, 0, []) else am_nop)) else (bif Nat.blt k 6 then (bif Nat.beq k 5 then (.istore_n 3, 6, 3, 0, []) else am_nop) else (bif Nat.beq k 6 then (.aload_n 1, 7, 1, 0, []) else am_nop)))) else (bif Nat.blt k 11 then (bif Nat.blt k 9 then (bif Nat.blt k 8 then (bif Nat.beq k 7 then (.iload_n 2, 8, 2, 0, []) else am_nop) else (bif Nat.beq k 8 then (.iconst 2, 9, 0, 0, [(2, 0)]) else am_nop)) else (bif Nat.blt k 10 then (bif Nat.beq k 9 then (.iadd, 10, 0, 0, []) else am_nop) else (bif Nat.beq k 10 then (.iaload, 11, 0, 0, []) else am_nop))) else (bif Nat.blt k 14 then (bif Nat.blt k 13 then (bif Nat.beq k 11 then (.istore 4, 13, 4, 0, []) else am_nop) else (bif Nat.beq k 13 then (.aload_n 1, 14, 1, 0, []) else am_nop)) else (bif Nat.blt k 15 then (bif Nat.beq k 14 then (.iload_n 2, 15, 2, 0, []) else am_nop) else (bif Nat.beq k 15 then (.iconst 3, 16, 0, 0, [(3, 0)]) else am_nop))))) else (bif Nat.blt k 24 then (bif Nat.blt k 20 then (bif Nat.blt k 17 then (bif Nat.beq k 16 then (.iadd, 17, 0, 0, []) else am_nop) else (bif Nat.blt k 18 then (bif Nat.beq k 17 then (.iaload, 18, 0, 0, []) else am_nop) else (bif Nat.beq k 18 then (.istore 5, 20, 5, 0, []) else am_nop))) else (bif Nat.blt k 22 then (bif Nat.blt k 21 then (bif Nat.beq k 20 then (.aload_n 1, 21, 1, 0, []) else am_nop) else (bif Nat.beq k 21 then (.iload_n 2, 22, 2, 0, []) else am_nop)) else (bif Nat.blt k 23 then (bif Nat.beq k 22 then (.iconst 4, 23, 0, 0, [(4, 0)]) else am_nop) else (bif Nat.beq k 23 then (.iadd, 24, 0, 0, []) else am_nop)))) else (bif Nat.blt k 29 then (bif Nat.blt k 27 then (bif Nat.blt k 25 then (bif Nat.beq k 24 then (.iaload, 25, 0, 0, []) else am_nop) else (bif Nat.beq k 25 then (.istore 6, 27, 6, 0, []) else am_nop)) else (bif Nat.blt k 28 then (bif Nat.beq k 27 then (.aload_n 1, 28, 1, 0, []) else am_nop) else (bif Nat.beq k 28 then (.iload_n 2, 29, 2, 0, []) else am_nop))) else (bif Nat.blt k 72 then (bif Nat.blt k 30 then (bif Nat.beq k 29 then (.iaload, 30, 0, 0, []) else am_nop) else (bif Nat.beq k 30 then (.tableswitch 165 1 7 #[99, 42, 62, 84, 165, 99, 123], 72, 195, 0, [(1, 129), (2, 72), (3, 92), (4, 114), (5, 195), (6, 129), (7, 153)]) else am_nop)) else (bif Nat.blt k 73 then (bif Nat.beq k 72 then (.aload_n 0, 73, 0, 0, []) else am_nop) else (bif Nat.beq k 73 then (.getfield 21, 76, 5, 3, [(0, 167)]) else am_nop)))))) else (bif Nat.blt k 102 then (bif Nat.blt k 88 then (bif Nat.blt k 81 then (bif Nat.blt k 77 then (bif Nat.beq k 76 then (.iload_n 3, 77, 3, 0, []) else am_nop) else (bif Nat.blt k 78 then (bif Nat.beq k 77 then (.aload_n 0, 78, 0, 0, []) else am_nop) else (bif Nat.beq k 78 then (.getfield 21, 81, 5, 3, [(0, 167)]) else am_nop))) else (bif Nat.blt k 83 then (bif Nat.blt k 82 then (bif Nat.beq k 81 then (.iload_n 3, 82, 3, 0, []) else am_nop) else (bif Nat.beq k 82 then (.iaload, 83, 0, 0, []) else am_nop)) else (bif Nat.blt k 85 then (bif Nat.beq k 83 then (.iload 4, 85, 4, 0, []) else am_nop) else (bif Nat.beq k 85 then (.invokestatic 113, 88, 998, 0, [(0, 383)]) else am_nop)))) else (bif Nat.blt k 96 then (bif Nat.blt k 92 then (bif Nat.blt k 89 then (bif Nat.beq k 88 then (.iastore, 89, 0, 0, []) else am_nop) else (bif Nat.beq k 89 then (.goto 125, 92, 214, 0, []) else am_nop)) else (bif Nat.blt k 93 then (bif Nat.beq k 92 then (.aload_n 0, 93, 0, 0, []) else am_nop) else (bif Nat.beq k 93 then (.getfield 24, 96, 5, 4, [(0, 168)]) else am_nop))) else (bif Nat.blt k 98 then (bif Nat.blt k 97 then (bif Nat.beq k 96 then (.iload_n 3, 97, 3, 0, []) else am_nop) else (bif Nat.beq k 97 then (.aload_n 0, 98, 0, 0, []) else am_nop)) else (bif Nat.blt k 101 then (bif Nat.beq k 98 then (.getfield 24, 101, 5, 4, [(0, 168)]) else am_nop) else (bif Nat.beq k 101 then (.iload_n 3, 102, 3, 0, []) else am_nop))))) else (bif Nat.blt k 115 then (bif Nat.blt k 107 then (bif Nat.blt k 105 then (bif Nat.blt k 103 then (bif Nat.beq k 102 then (.iaload, 103, 0, 0, []) else am_nop) else (bif Nat.beq k 103 then (.iload 4, 105, 4, 0, []) else am_nop)) else (bif Nat.blt k 106 then (bif Nat.beq k 105 then (.iconst 1, 106, 0, 0, [(1, 0)]) else am_nop) else (bif Nat.beq k 106 then (.isub, 107, 0, 0, []) else am_nop))) else (bif Nat.blt k 111 then (bif Nat.blt k 110 then (bif Nat.beq k 107 then (.invokestatic 119, 110, 997, 0, [(0, 386)]) else am_nop) else (bif Nat.beq k 110 then (.iastore, 111, 0, 0, []) else am_nop)) else (bif Nat.blt k 114 then (bif Nat.beq k 111 then (.goto 103, 114, 214, 0, []) else am_nop) else (bif Nat.beq k 114 then (.aload_n 0, 115, 0, 0, []) else am_nop)))) else (bif Nat.blt k 121 then (bif Nat.blt k 119 then (bif Nat.blt k 116 then (bif Nat.beq k 115 then (.dup, 116, 0, 0, []) else am_nop) else (bif Nat.beq k 116 then (.getfield 48, 119, 5, 5, [(0, 169)]) else am_nop)) else (bif Nat.blt k 120 then (bif Nat.beq k 119 then (.iconst 1, 120, 0, 0, [(1, 0)]) else am_nop) else (bif Nat.beq k 120 then (.iload_n 3, 121, 3, 0, []) else am_nop))) else (bif Nat.blt k 123 then (bif Nat.blt k 122 then (bif Nat.beq k 121 then (.ishl, 122, 0, 0, []) else am_nop) else (bif Nat.beq k 122 then (.ior, 123, 0, 0, []) else am_nop)) else (bif Nat.blt k 126 then (bif Nat.beq k 123 then (.putfield 48, 126, 5, 5, [(0, 169)]) else am_nop) else (bif Nat.beq k 126 then (.goto 88, 129, 214, 0, []) else am_nop))))))) else (bif Nat.blt k 171 then (bif Nat.blt k 149 then (bif Nat.blt k 140 then (bif Nat.blt k 134 then (bif Nat.blt k 130 then (bif Nat.beq k 129 then (.aload_n 0, 130, 0, 0, []) else am_nop) else (bif Nat.blt k 133 then (bif Nat.beq k 130 then (.getfield 9, 133, 5, 0, [(0, 164)]) else am_nop) else (bif Nat.beq k 133 then (.iload_n 3, 134, 3, 0, []) else am_nop))) else (bif Nat.blt k 137 then (bif Nat.blt k 136 then (bif Nat.beq k 134 then (.bipush 10, 136, 0, 0, [(10, 0)]) else am_nop) else (bif Nat.beq k 136 then (.imul, 137, 0, 0, []) else am_nop)) else (bif Nat.blt k 139 then (bif Nat.beq k 137 then (.iload 5, 139, 5, 0, []) else am_nop) else (bif Nat.beq k 139 then (.iadd, 140, 0, 0, []) else am_nop)))) else (bif Nat.blt k 145 then (bif Nat.blt k 142 then (bif Nat.blt k 141 then (bif Nat.beq k 140 then (.dup2, 141, 0, 0, []) else am_nop) else (bif Nat.beq k 141 then (.iaload, 142, 0, 0, []) else am_nop)) else (bif Nat.blt k 143 then (bif Nat.beq k 142 then (.iconst 1, 143, 0, 0, [(1, 0)]) else am_nop) else (bif Nat.beq k 143 then (.iload 4, 145, 4, 0, []) else am_nop))) else (bif Nat.blt k 147 then (bif Nat.blt k 146 then (bif Nat.beq k 145 then (.ishl, 146, 0, 0, []) else am_nop) else (bif Nat.beq k 146 then (.iconst (-1), 147, 0, 0, [(-1, 0)]) else am_nop)) else (bif Nat.blt k 148 then (bif Nat.beq k 147 then (.ixor, 148, 0, 0, []) else am_nop) else (bif Nat.beq k 148 then (.iand, 149, 0, 0, []) else am_nop))))) else (bif Nat.blt k 161 then (bif Nat.blt k 154 then (bif Nat.blt k 150 then (bif Nat.beq k 149 then (.iastore, 150, 0, 0, []) else am_nop) else (bif Nat.blt k 153 then (bif Nat.beq k 150 then (.goto 64, 153, 214, 0, []) else am_nop) else (bif Nat.beq k 153 then (.aload_n 0, 154, 0, 0, []) else am_nop))) else (bif Nat.blt k 158 then (bif Nat.blt k 157 then (bif Nat.beq k 154 then (.getfield 9, 157, 5, 0, [(0, 164)]) else am_nop) else (bif Nat.beq k 157 then (.iload_n 3, 158, 3, 0, []) else am_nop)) else (bif Nat.blt k 160 then (bif Nat.beq k 158 then (.bipush 10, 160, 0, 0, [(10, 0)]) else am_nop) else (bif Nat.beq k 160 then (.imul, 161, 0, 0, []) else am_nop)))) else (bif Nat.blt k 166 then (bif Nat.blt k 164 then (bif Nat.blt k 163 then (bif Nat.beq k 161 then (.iload 6, 163, 6, 0, []) else am_nop) else (bif Nat.beq k 163 then (.iadd, 164, 0, 0, []) else am_nop)) else (bif Nat.blt k 165 then (bif Nat.beq k 164 then (.dup2, 165, 0, 0, []) else am_nop) else (bif Nat.beq k 165 then (.iaload, 166, 0, 0, []) else am_nop))) else (bif Nat.blt k 169 then (bif Nat.blt k 167 then (bif Nat.beq k 166 then (.iconst 1, 167, 0, 0, [(1, 0)]) else am_nop) else (bif Nat.beq k 167 then (.iload 5, 169, 5, 0, []) else am_nop)) else (bif Nat.blt k 170 then (bif Nat.beq k 169 then (.ishl, 170, 0, 0, []) else am_nop) else (bif Nat.beq k 170 then (.iand, 171, 0, 0, []) else am_nop)))))) else (bif Nat.blt k 192 then (bif Nat.blt k 183 then (bif Nat.blt k 176 then (bif Nat.blt k 172 then (bif Nat.beq k 171 then (.iastore, 172, 0, 0, []) else am_nop) else (bif Nat.blt k 173 then (bif Nat.beq k 172 then (.aload_n 0, 173, 0, 0, []) else am_nop) else (bif Nat.beq k 173 then (.getfield 9, 176, 5, 0, [(0, 164)]) else am_nop))) else (bif Nat.blt k 180 then (bif Nat.blt k 178 then (bif Nat.beq k 176 then (.iload 4, 178, 4, 0, []) else am_nop) else (bif Nat.beq k 178 then (.bipush 10, 180, 0, 0, [(10, 0)]) else am_nop)) else (bif Nat.blt k 181 then (bif Nat.beq k 180 then (.imul, 181, 0, 0, []) else am_nop) else (bif Nat.beq k 181 then (.iload 6, 183, 6, 0, []) else am_nop)))) else (bif Nat.blt k 187 then (bif Nat.blt k 185 then (bif Nat.blt k 184 then (bif Nat.beq k 183 then (.iadd, 184, 0, 0, []) else am_nop) else (bif Nat.beq k 184 then (.dup2, 185, 0, 0, []) else am_nop)) else (bif Nat.blt k 186 then (bif Nat.beq k 185 then (.iaload, 186, 0, 0, []) else am_nop) else (bif Nat.beq k 186 then (.iconst 1, 187, 0, 0, [(1, 0)]) else am_nop))) else (bif Nat.blt k 190 then (bif Nat.blt k 189 then (bif Nat.beq k 187 then (.iload 5, 189, 5, 0, []) else am_nop) else (bif Nat.beq k 189 then (.ishl, 190, 0, 0, []) else am_nop)) else (bif Nat.blt k 191 then (bif Nat.beq k 190 then (.iand, 191, 0, 0, []) else am_nop) else (bif Nat.beq k 191 then (.iastore, 192, 0, 0, []) else am_nop))))) else (bif Nat.blt k 206 then (bif Nat.blt k 200 then (bif Nat.blt k 196 then (bif Nat.blt k 195 then (bif Nat.beq k 192 then (.goto 22, 195, 214, 0, []) else am_nop) else (bif Nat.beq k 195 then (.aload_n 0, 196, 0, 0, []) else am_nop)) else (bif Nat.blt k 199 then (bif Nat.beq k 196 then (.getfield 9, 199, 5, 0, [(0, 164)]) else am_nop) else (bif Nat.beq k 199 then (.iload_n 3, 200, 3, 0, []) else am_nop))) else (bif Nat.blt k 203 then (bif Nat.blt k 202 then (bif Nat.beq k 200 then (.bipush 10, 202, 0, 0, [(10, 0)]) else am_nop) else (bif Nat.beq k 202 then (.imul, 203, 0, 0, []) else am_nop)) else (bif Nat.blt k 205 then (bif Nat.beq k 203 then (.iload 5, 205, 5, 0, []) else am_nop) else (bif Nat.beq k 205 then (.iadd, 206, 0, 0, []) else am_nop)))) else (bif Nat.blt k 211 then (bif Nat.blt k 208 then (bif Nat.blt k 207 then (bif Nat.beq k 206 then (.dup2, 207, 0, 0, []) else am_nop) else (bif Nat.beq k 207 then (.iaload, 208, 0, 0, []) else am_nop)) else (bif Nat.blt k 209 then (bif Nat.beq k 208 then (.iconst 1, 209, 0, 0, [(1, 0)]) else am_nop) else (bif Nat.beq k 209 then (.iload 4, 211, 4, 0, []) else am_nop))) else (bif Nat.blt k 213 then (bif Nat.blt k 212 then (bif Nat.beq k 211 then (.ishl, 212, 0, 0, []) else am_nop) else (bif Nat.beq k 212 then (.iand, 213, 0, 0, []) else am_nop)) else (bif Nat.blt k 214 then (bif Nat.beq k 213 then (.iastore, 214, 0, 0, []) else am_nop) else (bif Nat.beq k 214 then (.return_, 215, 0, 0, []) else am_nop)))))))
/-- DeedDesk$Ways.gather(LDeedDesk$Scene;I)V -/
def am_c45 (k : Nat) : am_E := bif Nat.blt k 41 then (bif Nat.blt k 19 then (bif Nat.blt k 7 then (bif Nat.blt k 2 then (bif Nat.blt k 1 then (bif Nat.beq k 0 then (.iconst 1, 1, 0, 0, [(1, 0)]) else am_nop) else (bif Nat.beq k 1 then (.aload_n 1, 2, 1, 0, []) else am_nop)) else (bif Nat.blt k 5 then (bif Nat.beq k 2 then (.getfield 122, 5, 3, 4, [(1, 134)]) else am_nop) else (bif Nat.blt k 6 then (bif Nat.beq k 5 then (.ishl, 6, 0, 0, []) else am_nop) else (bif Nat.beq k 6 then (.istore_n 3, 7, 3, 0, []) else am_nop)))) else (bif Nat.blt k 12 then (bif Nat.blt k 8 then (bif Nat.beq k 7 then (.iconst 0, 8, 0, 0, [(0, 0)]) else am_nop) else (bif Nat.blt k 10 then (bif Nat.beq k 8 then (.istore 4, 10, 4, 0, []) else am_nop) else (bif Nat.beq k 10 then (.iload 4, 12, 4, 0, []) else am_nop))) else (bif Nat.blt k 13 then (bif Nat.beq k 12 then (.aload_n 1, 13, 1, 0, []) else am_nop) else (bif Nat.blt k 16 then (bif Nat.beq k 13 then (.getfield 27, 16, 3, 3, [(1, 130)]) else am_nop) else (bif Nat.beq k 16 then (.if_icmp .ge 61, 19, 77, 0, []) else am_nop))))) else (bif Nat.blt k 28 then (bif Nat.blt k 22 then (bif Nat.blt k 21 then (bif Nat.beq k 19 then (.iload 4, 21, 4, 0, []) else am_nop) else (bif Nat.beq k 21 then (.iload_n 2, 22, 2, 0, []) else am_nop)) else (bif Nat.blt k 25 then (bif Nat.beq k 22 then (.if_icmp .eq 12, 25, 34, 0, []) else am_nop) else (bif Nat.blt k 27 then (bif Nat.beq k 25 then (.iload 4, 27, 4, 0, []) else am_nop) else (bif Nat.beq k 27 then (.aload_n 1, 28, 1, 0, []) else am_nop)))) else (bif Nat.blt k 35 then (bif Nat.blt k 31 then (bif Nat.beq k 28 then (.getfield 45, 31, 3, 6, [(1, 142)]) else am_nop) else (bif Nat.blt k 34 then (bif Nat.beq k 31 then (.if_icmp .ne 7, 34, 38, 0, []) else am_nop) else (bif Nat.beq k 34 then (.iconst 1, 35, 0, 0, [(1, 0)]) else am_nop))) else (bif Nat.blt k 38 then (bif Nat.beq k 35 then (.goto 4, 38, 39, 0, []) else am_nop) else (bif Nat.blt k 39 then (bif Nat.beq k 38 then (.iconst 0, 39, 0, 0, [(0, 0)]) else am_nop) else (bif Nat.beq k 39 then (.istore 5, 41, 5, 0, []) else am_nop)))))) else (bif Nat.blt k 59 then (bif Nat.blt k 50 then (bif Nat.blt k 45 then (bif Nat.blt k 42 then (bif Nat.beq k 41 then (.aload_n 0, 42, 0, 0, []) else am_nop) else (bif Nat.beq k 42 then (.getfield 9, 45, 5, 0, [(0, 164)]) else am_nop)) else (bif Nat.blt k 47 then (bif Nat.beq k 45 then (.iload 4, 47, 4, 0, []) else am_nop) else (bif Nat.blt k 49 then (bif Nat.beq k 47 then (.bipush 10, 49, 0, 0, [(10, 0)]) else am_nop) else (bif Nat.beq k 49 then (.imul, 50, 0, 0, []) else am_nop)))) else (bif Nat.blt k 55 then (bif Nat.blt k 51 then (bif Nat.beq k 50 then (.aload_n 1, 51, 1, 0, []) else am_nop) else (bif Nat.blt k 54 then (bif Nat.beq k 51 then (.getfield 100, 54, 3, 5, [(1, 138)]) else am_nop) else (bif Nat.beq k 54 then (.iadd, 55, 0, 0, []) else am_nop))) else (bif Nat.blt k 56 then (bif Nat.beq k 55 then (.dup2, 56, 0, 0, []) else am_nop) else (bif Nat.blt k 57 then (bif Nat.beq k 56 then (.iaload, 57, 0, 0, []) else am_nop) else (bif Nat.beq k 57 then (.iload 5, 59, 5, 0, []) else am_nop))))) else (bif Nat.blt k 68 then (bif Nat.blt k 63 then (bif Nat.blt k 62 then (bif Nat.beq k 59 then (.ifCond .eq 7, 62, 66, 0, []) else am_nop) else (bif Nat.beq k 62 then (.iload_n 3, 63, 3, 0, []) else am_nop)) else (bif Nat.blt k 66 then (bif Nat.beq k 63 then (.goto 6, 66, 69, 0, []) else am_nop) else (bif Nat.blt k 67 then (bif Nat.beq k 66 then (.iload_n 3, 67, 3, 0, []) else am_nop) else (bif Nat.beq k 67 then (.iconst (-1), 68, 0, 0, [(-1, 0)]) else am_nop)))) else (bif Nat.blt k 71 then (bif Nat.blt k 69 then (bif Nat.beq k 68 then (.ixor, 69, 0, 0, []) else am_nop) else (bif Nat.blt k 70 then (bif Nat.beq k 69 then (.iand, 70, 0, 0, []) else am_nop) else (bif Nat.beq k 70 then (.iastore, 71, 0, 0, []) else am_nop))) else (bif Nat.blt k 74 then (bif Nat.beq k 71 then (.iinc 4 1, 74, 4, 0, [(1, 0)]) else am_nop) else (bif Nat.blt k 77 then (bif Nat.beq k 74 then (.goto (-64), 77, 10, 0, []) else am_nop) else (bif Nat.beq k 77 then (.return_, 78, 0, 0, []) else am_nop))))))
/-- DeedDesk$Ways.fits(LDeedDesk$House;I)Z -/
def am_c46 (k : Nat) : am_E := bif Nat.blt k 26 then (bif Nat.blt k 14 then (bif Nat.blt k 5 then (bif Nat.blt k 3 then (bif Nat.beq k 0 then (.sipush 255, 3, 0, 0, [(255, 0)]) else am_nop) else (bif Nat.blt k 4 then (bif Nat.beq k 3 then (.istore_n 3, 4, 3, 0, []) else am_nop) else (bif Nat.beq k 4 then (.iconst 0, 5, 0, 0, [(0, 0)]) else am_nop))) else (bif Nat.blt k 9 then (bif Nat.blt k 7 then (bif Nat.beq k 5 then (.istore 4, 7, 4, 0, []) else am_nop) else (bif Nat.beq k 7 then (.iload 4, 9, 4, 0, []) else am_nop)) else (bif Nat.blt k 11 then (bif Nat.beq k 9 then (.bipush 10, 11, 0, 0, [(10, 0)]) else am_nop) else (bif Nat.beq k 11 then (.if_icmp .ge 28, 14, 39, 0, []) else am_nop)))) else (bif Nat.blt k 19 then (bif Nat.blt k 15 then (bif Nat.beq k 14 then (.aload_n 1, 15, 1, 0, []) else am_nop) else (bif Nat.blt k 16 then (bif Nat.beq k 15 then (.iload_n 3, 16, 3, 0, []) else am_nop) else (bif Nat.beq k 16 then (.invokevirtual 76, 19, 4, 0, [(0, 393)]) else am_nop))) else (bif Nat.blt k 23 then (bif Nat.blt k 20 then (bif Nat.beq k 19 then (.aload_n 0, 20, 0, 0, []) else am_nop) else (bif Nat.beq k 20 then (.getfield 9, 23, 5, 0, [(0, 164)]) else am_nop)) else (bif Nat.blt k 24 then (bif Nat.beq k 23 then (.iload_n 2, 24, 2, 0, []) else am_nop) else (bif Nat.beq k 24 then (.bipush 10, 26, 0, 0, [(10, 0)]) else am_nop))))) else (bif Nat.blt k 36 then (bif Nat.blt k 30 then (bif Nat.blt k 27 then (bif Nat.beq k 26 then (.imul, 27, 0, 0, []) else am_nop) else (bif Nat.blt k 29 then (bif Nat.beq k 27 then (.iload 4, 29, 4, 0, []) else am_nop) else (bif Nat.beq k 29 then (.iadd, 30, 0, 0, []) else am_nop))) else (bif Nat.blt k 32 then (bif Nat.blt k 31 then (bif Nat.beq k 30 then (.iaload, 31, 0, 0, []) else am_nop) else (bif Nat.beq k 31 then (.iand, 32, 0, 0, []) else am_nop)) else (bif Nat.blt k 33 then (bif Nat.beq k 32 then (.istore_n 3, 33, 3, 0, []) else am_nop) else (bif Nat.beq k 33 then (.iinc 4 1, 36, 4, 0, [(1, 0)]) else am_nop)))) else (bif Nat.blt k 43 then (bif Nat.blt k 39 then (bif Nat.beq k 36 then (.goto (-29), 39, 7, 0, []) else am_nop) else (bif Nat.blt k 40 then (bif Nat.beq k 39 then (.iload_n 3, 40, 3, 0, []) else am_nop) else (bif Nat.beq k 40 then (.ifCond .eq 7, 43, 47, 0, []) else am_nop))) else (bif Nat.blt k 47 then (bif Nat.blt k 44 then (bif Nat.beq k 43 then (.iconst 1, 44, 0, 0, [(1, 0)]) else am_nop) else (bif Nat.beq k 44 then (.goto 4, 47, 48, 0, []) else am_nop)) else (bif Nat.blt k 48 then (bif Nat.beq k 47 then (.iconst 0, 48, 0, 0, [(0, 0)]) else am_nop) else (bif Nat.beq k 48 then (.ireturn, 49, 0, 0, []) else am_nop)))))
/-- DeedDesk$Ways.trace(LDeedDesk$Scene;II)V -/
def am_c47 (k : Nat) : am_E := bif Nat.blt k 65 then (bif Nat.blt k 36 then (bif Nat.blt k 18 then (bif Nat.blt k 8 then (bif Nat.blt k 5 then (bif Nat.blt k 3 then (bif Nat.beq k 0 then (.sipush 255, 3, 0, 0, [(255, 0)]) else am_nop) else (bif Nat.beq k 3 then (.istore 4, 5, 4, 0, []) else am_nop)) else (bif Nat.blt k 6 then (bif Nat.beq k 5 then (.iconst 0, 6, 0, 0, [(0, 0)]) else am_nop) else (bif Nat.beq k 6 then (.istore 5, 8, 5, 0, []) else am_nop))) else (bif Nat.blt k 12 then (bif Nat.blt k 10 then (bif Nat.beq k 8 then (.bipush 9, 10, 0, 0, [(9, 0)]) else am_nop) else (bif Nat.beq k 10 then (.istore 6, 12, 6, 0, []) else am_nop)) else (bif Nat.blt k 14 then (bif Nat.beq k 12 then (.iload 6, 14, 6, 0, []) else am_nop) else (bif Nat.blt k 17 then (bif Nat.beq k 14 then (.ifCond .lt 121, 17, 135, 0, []) else am_nop) else (bif Nat.beq k 17 then (.aload_n 0, 18, 0, 0, []) else am_nop))))) else (bif Nat.blt k 29 then (bif Nat.blt k 23 then (bif Nat.blt k 21 then (bif Nat.beq k 18 then (.getfield 15, 21, 5, 1, [(0, 165)]) else am_nop) else (bif Nat.beq k 21 then (.iload 6, 23, 6, 0, []) else am_nop)) else (bif Nat.blt k 25 then (bif Nat.beq k 23 then (.iload 4, 25, 4, 0, []) else am_nop) else (bif Nat.blt k 26 then (bif Nat.beq k 25 then (.aload_n 0, 26, 0, 0, []) else am_nop) else (bif Nat.beq k 26 then (.getfield 9, 29, 5, 0, [(0, 164)]) else am_nop)))) else (bif Nat.blt k 32 then (bif Nat.blt k 30 then (bif Nat.beq k 29 then (.iload_n 2, 30, 2, 0, []) else am_nop) else (bif Nat.beq k 30 then (.bipush 10, 32, 0, 0, [(10, 0)]) else am_nop)) else (bif Nat.blt k 33 then (bif Nat.beq k 32 then (.imul, 33, 0, 0, []) else am_nop) else (bif Nat.blt k 35 then (bif Nat.beq k 33 then (.iload 6, 35, 6, 0, []) else am_nop) else (bif Nat.beq k 35 then (.iadd, 36, 0, 0, []) else am_nop)))))) else (bif Nat.blt k 52 then (bif Nat.blt k 43 then (bif Nat.blt k 38 then (bif Nat.blt k 37 then (bif Nat.beq k 36 then (.iaload, 37, 0, 0, []) else am_nop) else (bif Nat.beq k 37 then (.iand, 38, 0, 0, []) else am_nop)) else (bif Nat.blt k 39 then (bif Nat.beq k 38 then (.iastore, 39, 0, 0, []) else am_nop) else (bif Nat.blt k 40 then (bif Nat.beq k 39 then (.aload_n 0, 40, 0, 0, []) else am_nop) else (bif Nat.beq k 40 then (.getfield 18, 43, 5, 2, [(0, 166)]) else am_nop)))) else (bif Nat.blt k 47 then (bif Nat.blt k 45 then (bif Nat.beq k 43 then (.iload 6, 45, 6, 0, []) else am_nop) else (bif Nat.beq k 45 then (.iload 5, 47, 5, 0, []) else am_nop)) else (bif Nat.blt k 48 then (bif Nat.beq k 47 then (.aload_n 0, 48, 0, 0, []) else am_nop) else (bif Nat.blt k 51 then (bif Nat.beq k 48 then (.getfield 9, 51, 5, 0, [(0, 164)]) else am_nop) else (bif Nat.beq k 51 then (.iload_n 2, 52, 2, 0, []) else am_nop))))) else (bif Nat.blt k 59 then (bif Nat.blt k 55 then (bif Nat.blt k 54 then (bif Nat.beq k 52 then (.bipush 10, 54, 0, 0, [(10, 0)]) else am_nop) else (bif Nat.beq k 54 then (.imul, 55, 0, 0, []) else am_nop)) else (bif Nat.blt k 57 then (bif Nat.beq k 55 then (.iload 6, 57, 6, 0, []) else am_nop) else (bif Nat.blt k 58 then (bif Nat.beq k 57 then (.iadd, 58, 0, 0, []) else am_nop) else (bif Nat.beq k 58 then (.iaload, 59, 0, 0, []) else am_nop)))) else (bif Nat.blt k 61 then (bif Nat.blt k 60 then (bif Nat.beq k 59 then (.iand, 60, 0, 0, []) else am_nop) else (bif Nat.beq k 60 then (.iastore, 61, 0, 0, []) else am_nop)) else (bif Nat.blt k 62 then (bif Nat.beq k 61 then (.aload_n 0, 62, 0, 0, []) else am_nop) else (bif Nat.blt k 63 then (bif Nat.beq k 62 then (.iload_n 3, 63, 3, 0, []) else am_nop) else (bif Nat.beq k 63 then (.iload 6, 65, 6, 0, []) else am_nop))))))) else (bif Nat.blt k 96 then (bif Nat.blt k 83 then (bif Nat.blt k 75 then (bif Nat.blt k 71 then (bif Nat.blt k 68 then (bif Nat.beq k 65 then (.invokevirtual 70, 68, 48, 0, [(0, 422)]) else am_nop) else (bif Nat.beq k 68 then (.ifCond .eq 29, 71, 97, 0, []) else am_nop)) else (bif Nat.blt k 72 then (bif Nat.beq k 71 then (.aload_n 0, 72, 0, 0, []) else am_nop) else (bif Nat.beq k 72 then (.getfield 18, 75, 5, 2, [(0, 166)]) else am_nop))) else (bif Nat.blt k 78 then (bif Nat.blt k 77 then (bif Nat.beq k 75 then (.iload 6, 77, 6, 0, []) else am_nop) else (bif Nat.beq k 77 then (.dup2, 78, 0, 0, []) else am_nop)) else (bif Nat.blt k 79 then (bif Nat.beq k 78 then (.iaload, 79, 0, 0, []) else am_nop) else (bif Nat.blt k 80 then (bif Nat.beq k 79 then (.aload_n 0, 80, 0, 0, []) else am_nop) else (bif Nat.beq k 80 then (.getfield 15, 83, 5, 1, [(0, 165)]) else am_nop))))) else (bif Nat.blt k 91 then (bif Nat.blt k 86 then (bif Nat.blt k 85 then (bif Nat.beq k 83 then (.iload 6, 85, 6, 0, []) else am_nop) else (bif Nat.beq k 85 then (.iaload, 86, 0, 0, []) else am_nop)) else (bif Nat.blt k 87 then (bif Nat.beq k 86 then (.iconst 1, 87, 0, 0, [(1, 0)]) else am_nop) else (bif Nat.blt k 88 then (bif Nat.beq k 87 then (.aload_n 1, 88, 1, 0, []) else am_nop) else (bif Nat.beq k 88 then (.getfield 73, 91, 3, 2, [(1, 127)]) else am_nop)))) else (bif Nat.blt k 93 then (bif Nat.blt k 92 then (bif Nat.beq k 91 then (.iload_n 3, 92, 3, 0, []) else am_nop) else (bif Nat.beq k 92 then (.iaload, 93, 0, 0, []) else am_nop)) else (bif Nat.blt k 94 then (bif Nat.beq k 93 then (.ishl, 94, 0, 0, []) else am_nop) else (bif Nat.blt k 95 then (bif Nat.beq k 94 then (.iand, 95, 0, 0, []) else am_nop) else (bif Nat.beq k 95 then (.ior, 96, 0, 0, []) else am_nop)))))) else (bif Nat.blt k 114 then (bif Nat.blt k 105 then (bif Nat.blt k 98 then (bif Nat.blt k 97 then (bif Nat.beq k 96 then (.iastore, 97, 0, 0, []) else am_nop) else (bif Nat.beq k 97 then (.aload_n 1, 98, 1, 0, []) else am_nop)) else (bif Nat.blt k 101 then (bif Nat.beq k 98 then (.getfield 55, 101, 3, 0, [(1, 119)]) else am_nop) else (bif Nat.blt k 102 then (bif Nat.beq k 101 then (.aload_n 0, 102, 0, 0, []) else am_nop) else (bif Nat.beq k 102 then (.getfield 15, 105, 5, 1, [(0, 165)]) else am_nop)))) else (bif Nat.blt k 108 then (bif Nat.blt k 107 then (bif Nat.beq k 105 then (.iload 6, 107, 6, 0, []) else am_nop) else (bif Nat.beq k 107 then (.iaload, 108, 0, 0, []) else am_nop)) else (bif Nat.blt k 111 then (bif Nat.beq k 108 then (.invokevirtual 76, 111, 4, 0, [(0, 393)]) else am_nop) else (bif Nat.blt k 113 then (bif Nat.beq k 111 then (.istore 4, 113, 4, 0, []) else am_nop) else (bif Nat.beq k 113 then (.aload_n 1, 114, 1, 0, []) else am_nop))))) else (bif Nat.blt k 124 then (bif Nat.blt k 118 then (bif Nat.blt k 117 then (bif Nat.beq k 114 then (.getfield 55, 117, 3, 0, [(1, 119)]) else am_nop) else (bif Nat.beq k 117 then (.aload_n 0, 118, 0, 0, []) else am_nop)) else (bif Nat.blt k 121 then (bif Nat.beq k 118 then (.getfield 18, 121, 5, 2, [(0, 166)]) else am_nop) else (bif Nat.blt k 123 then (bif Nat.beq k 121 then (.iload 6, 123, 6, 0, []) else am_nop) else (bif Nat.beq k 123 then (.iaload, 124, 0, 0, []) else am_nop)))) else (bif Nat.blt k 129 then (bif Nat.blt k 127 then (bif Nat.beq k 124 then (.invokevirtual 76, 127, 4, 0, [(0, 393)]) else am_nop) else (bif Nat.beq k 127 then (.istore 5, 129, 5, 0, []) else am_nop)) else (bif Nat.blt k 132 then (bif Nat.beq k 129 then (.iinc 6 (-1), 132, 6, 0, [(-1, 0)]) else am_nop) else (bif Nat.blt k 135 then (bif Nat.beq k 132 then (.goto (-120), 135, 12, 0, []) else am_nop) else (bif Nat.beq k 135 then (.return_, 136, 0, 0, []) else am_nop)))))))
/-- DeedDesk$Ways.canBeTaken(II)Z -/
def am_c48 (k : Nat) : am_E := bif Nat.blt k 12 then (bif Nat.blt k 6 then (bif Nat.blt k 2 then (bif Nat.blt k 1 then (bif Nat.beq k 0 then (.iload_n 2, 1, 2, 0, []) else am_nop) else (bif Nat.beq k 1 then (.aload_n 0, 2, 0, 0, []) else am_nop)) else (bif Nat.blt k 5 then (bif Nat.beq k 2 then (.getfield 21, 5, 5, 3, [(0, 167)]) else am_nop) else (bif Nat.beq k 5 then (.iload_n 1, 6, 1, 0, []) else am_nop))) else (bif Nat.blt k 10 then (bif Nat.blt k 7 then (bif Nat.beq k 6 then (.iaload, 7, 0, 0, []) else am_nop) else (bif Nat.beq k 7 then (.if_icmp .lt 17, 10, 24, 0, []) else am_nop)) else (bif Nat.blt k 11 then (bif Nat.beq k 10 then (.iload_n 2, 11, 2, 0, []) else am_nop) else (bif Nat.beq k 11 then (.aload_n 0, 12, 0, 0, []) else am_nop)))) else (bif Nat.blt k 20 then (bif Nat.blt k 16 then (bif Nat.blt k 15 then (bif Nat.beq k 12 then (.getfield 24, 15, 5, 4, [(0, 168)]) else am_nop) else (bif Nat.beq k 15 then (.iload_n 1, 16, 1, 0, []) else am_nop)) else (bif Nat.blt k 17 then (bif Nat.beq k 16 then (.iaload, 17, 0, 0, []) else am_nop) else (bif Nat.beq k 17 then (.if_icmp .gt 7, 20, 24, 0, []) else am_nop))) else (bif Nat.blt k 24 then (bif Nat.blt k 21 then (bif Nat.beq k 20 then (.iconst 1, 21, 0, 0, [(1, 0)]) else am_nop) else (bif Nat.beq k 21 then (.goto 4, 24, 25, 0, []) else am_nop)) else (bif Nat.blt k 25 then (bif Nat.beq k 24 then (.iconst 0, 25, 0, 0, [(0, 0)]) else am_nop) else (bif Nat.beq k 25 then (.ireturn, 26, 0, 0, []) else am_nop))))
/-- DeedDesk.<init>()V -/
def am_c49 (k : Nat) : am_E := bif Nat.blt k 38 then (bif Nat.blt k 19 then (bif Nat.blt k 8 then (bif Nat.blt k 4 then (bif Nat.blt k 1 then (bif Nat.beq k 0 then (.aload_n 0, 1, 0, 0, []) else am_nop) else (bif Nat.beq k 1 then (.invokespecial 1, 4, 999, 0, [(0, 55)]) else am_nop)) else (bif Nat.blt k 5 then (bif Nat.beq k 4 then (.aload_n 0, 5, 0, 0, []) else am_nop) else (bif Nat.beq k 5 then (.new 7, 8, 3, 0, [(0, 58)]) else am_nop))) else (bif Nat.blt k 12 then (bif Nat.blt k 9 then (bif Nat.beq k 8 then (.dup, 9, 0, 0, []) else am_nop) else (bif Nat.beq k 9 then (.invokespecial 9, 12, 31, 0, [(0, 60)]) else am_nop)) else (bif Nat.blt k 15 then (bif Nat.beq k 12 then (.putfield 10, 15, 6, 0, [(0, 216)]) else am_nop) else (bif Nat.blt k 16 then (bif Nat.beq k 15 then (.aload_n 0, 16, 0, 0, []) else am_nop) else (bif Nat.beq k 16 then (.new 16, 19, 5, 0, [(0, 158)]) else am_nop))))) else (bif Nat.blt k 27 then (bif Nat.blt k 23 then (bif Nat.blt k 20 then (bif Nat.beq k 19 then (.dup, 20, 0, 0, []) else am_nop) else (bif Nat.beq k 20 then (.invokespecial 18, 23, 38, 0, [(1, 160)]) else am_nop)) else (bif Nat.blt k 26 then (bif Nat.beq k 23 then (.putfield 19, 26, 6, 1, [(0, 217)]) else am_nop) else (bif Nat.beq k 26 then (.aload_n 0, 27, 0, 0, []) else am_nop))) else (bif Nat.blt k 31 then (bif Nat.blt k 30 then (bif Nat.beq k 27 then (.new 23, 30, 1, 0, [(0, 183)]) else am_nop) else (bif Nat.beq k 30 then (.dup, 31, 0, 0, []) else am_nop)) else (bif Nat.blt k 34 then (bif Nat.beq k 31 then (.invokespecial 25, 34, 8, 0, [(1, 185)]) else am_nop) else (bif Nat.blt k 37 then (bif Nat.beq k 34 then (.putfield 26, 37, 6, 2, [(0, 218)]) else am_nop) else (bif Nat.beq k 37 then (.aload_n 0, 38, 0, 0, []) else am_nop)))))) else (bif Nat.blt k 53 then (bif Nat.blt k 46 then (bif Nat.blt k 42 then (bif Nat.blt k 39 then (bif Nat.beq k 38 then (.iconst 2, 39, 0, 0, [(2, 0)]) else am_nop) else (bif Nat.beq k 39 then (.anewarray 30, 42, 0, 0, [(0, 196)]) else am_nop)) else (bif Nat.blt k 45 then (bif Nat.beq k 42 then (.putfield 32, 45, 6, 3, [(0, 219)]) else am_nop) else (bif Nat.beq k 45 then (.iconst 0, 46, 0, 0, [(0, 0)]) else am_nop))) else (bif Nat.blt k 48 then (bif Nat.blt k 47 then (bif Nat.beq k 46 then (.istore_n 1, 47, 1, 0, []) else am_nop) else (bif Nat.beq k 47 then (.iload_n 1, 48, 1, 0, []) else am_nop)) else (bif Nat.blt k 49 then (bif Nat.beq k 48 then (.iconst 2, 49, 0, 0, [(2, 0)]) else am_nop) else (bif Nat.blt k 52 then (bif Nat.beq k 49 then (.if_icmp .ge 22, 52, 71, 0, []) else am_nop) else (bif Nat.beq k 52 then (.aload_n 0, 53, 0, 0, []) else am_nop))))) else (bif Nat.blt k 61 then (bif Nat.blt k 57 then (bif Nat.blt k 56 then (bif Nat.beq k 53 then (.getfield 32, 56, 6, 3, [(0, 219)]) else am_nop) else (bif Nat.beq k 56 then (.iload_n 1, 57, 1, 0, []) else am_nop)) else (bif Nat.blt k 60 then (bif Nat.beq k 57 then (.new 30, 60, 4, 0, [(0, 196)]) else am_nop) else (bif Nat.beq k 60 then (.dup, 61, 0, 0, []) else am_nop))) else (bif Nat.blt k 65 then (bif Nat.blt k 64 then (bif Nat.beq k 61 then (.invokespecial 36, 64, 35, 0, [(1, 199)]) else am_nop) else (bif Nat.beq k 64 then (.aastore, 65, 0, 0, []) else am_nop)) else (bif Nat.blt k 68 then (bif Nat.beq k 65 then (.iinc 1 1, 68, 1, 0, [(1, 0)]) else am_nop) else (bif Nat.blt k 71 then (bif Nat.beq k 68 then (.goto (-21), 71, 47, 0, []) else am_nop) else (bif Nat.beq k 71 then (.return_, 72, 0, 0, []) else am_nop))))))
/-- DeedDesk.people(I)I -/
def am_c50 (k : Nat) : am_E := bif Nat.blt k 28 then (bif Nat.blt k 12 then (bif Nat.blt k 5 then (bif Nat.blt k 1 then (bif Nat.beq k 0 then (.iload_n 1, 1, 1, 0, []) else am_nop) else (bif Nat.blt k 2 then (bif Nat.beq k 1 then (.iconst 2, 2, 0, 0, [(2, 0)]) else am_nop) else (bif Nat.beq k 2 then (.if_icmp .lt 9, 5, 11, 0, []) else am_nop))) else (bif Nat.blt k 8 then (bif Nat.blt k 6 then (bif Nat.beq k 5 then (.iload_n 1, 6, 1, 0, []) else am_nop) else (bif Nat.beq k 6 then (.bipush 6, 8, 0, 0, [(6, 0)]) else am_nop)) else (bif Nat.blt k 11 then (bif Nat.beq k 8 then (.if_icmp .le 5, 11, 13, 0, []) else am_nop) else (bif Nat.beq k 11 then (.iconst (-1), 12, 0, 0, [(-1, 0)]) else am_nop)))) else (bif Nat.blt k 20 then (bif Nat.blt k 14 then (bif Nat.blt k 13 then (bif Nat.beq k 12 then (.ireturn, 13, 0, 0, []) else am_nop) else (bif Nat.beq k 13 then (.aload_n 0, 14, 0, 0, []) else am_nop)) else (bif Nat.blt k 17 then (bif Nat.beq k 14 then (.getfield 10, 17, 6, 0, [(0, 216)]) else am_nop) else (bif Nat.beq k 17 then (.getfield 37, 20, 3, 6, [(1, 140)]) else am_nop))) else (bif Nat.blt k 24 then (bif Nat.blt k 21 then (bif Nat.beq k 20 then (.iload_n 1, 21, 1, 0, []) else am_nop) else (bif Nat.beq k 21 then (.if_icmp .ge 17, 24, 38, 0, []) else am_nop)) else (bif Nat.blt k 25 then (bif Nat.beq k 24 then (.aload_n 0, 25, 0, 0, []) else am_nop) else (bif Nat.beq k 25 then (.getfield 10, 28, 6, 0, [(0, 216)]) else am_nop))))) else (bif Nat.blt k 45 then (bif Nat.blt k 38 then (bif Nat.blt k 32 then (bif Nat.blt k 31 then (bif Nat.beq k 28 then (.getfield 41, 31, 3, 1, [(1, 121)]) else am_nop) else (bif Nat.beq k 31 then (.iload_n 1, 32, 1, 0, []) else am_nop)) else (bif Nat.blt k 35 then (bif Nat.beq k 32 then (.invokevirtual 45, 35, 27, 0, [(0, 233)]) else am_nop) else (bif Nat.beq k 35 then (.ifCond .eq 6, 38, 41, 0, []) else am_nop))) else (bif Nat.blt k 41 then (bif Nat.blt k 40 then (bif Nat.beq k 38 then (.bipush (-2), 40, 0, 0, [(-2, 0)]) else am_nop) else (bif Nat.beq k 40 then (.ireturn, 41, 0, 0, []) else am_nop)) else (bif Nat.blt k 42 then (bif Nat.beq k 41 then (.aload_n 0, 42, 0, 0, []) else am_nop) else (bif Nat.beq k 42 then (.getfield 10, 45, 6, 0, [(0, 216)]) else am_nop)))) else (bif Nat.blt k 53 then (bif Nat.blt k 49 then (bif Nat.blt k 48 then (bif Nat.beq k 45 then (.getfield 51, 48, 3, 3, [(1, 131)]) else am_nop) else (bif Nat.beq k 48 then (.istore_n 2, 49, 2, 0, []) else am_nop)) else (bif Nat.blt k 50 then (bif Nat.beq k 49 then (.aload_n 0, 50, 0, 0, []) else am_nop) else (bif Nat.beq k 50 then (.getfield 10, 53, 6, 0, [(0, 216)]) else am_nop))) else (bif Nat.blt k 57 then (bif Nat.blt k 54 then (bif Nat.beq k 53 then (.iload_n 1, 54, 1, 0, []) else am_nop) else (bif Nat.beq k 54 then (.putfield 51, 57, 3, 3, [(1, 131)]) else am_nop)) else (bif Nat.blt k 58 then (bif Nat.beq k 57 then (.iload_n 2, 58, 2, 0, []) else am_nop) else (bif Nat.beq k 58 then (.ireturn, 59, 0, 0, []) else am_nop)))))
/-- DeedDesk.door(II)I -/
def am_c51 (k : Nat) : am_E := bif Nat.blt k 38 then (bif Nat.blt k 19 then (bif Nat.blt k 8 then (bif Nat.blt k 4 then (bif Nat.blt k 1 then (bif Nat.beq k 0 then (.iload_n 1, 1, 1, 0, []) else am_nop) else (bif Nat.beq k 1 then (.invokestatic 54, 4, 73, 0, [(0, 253)]) else am_nop)) else (bif Nat.blt k 7 then (bif Nat.beq k 4 then (.ifCond .eq 15, 7, 19, 0, []) else am_nop) else (bif Nat.beq k 7 then (.iload_n 2, 8, 2, 0, []) else am_nop))) else (bif Nat.blt k 14 then (bif Nat.blt k 11 then (bif Nat.beq k 8 then (.invokestatic 54, 11, 73, 0, [(0, 253)]) else am_nop) else (bif Nat.beq k 11 then (.ifCond .eq 8, 14, 19, 0, []) else am_nop)) else (bif Nat.blt k 15 then (bif Nat.beq k 14 then (.iload_n 1, 15, 1, 0, []) else am_nop) else (bif Nat.blt k 16 then (bif Nat.beq k 15 then (.iload_n 2, 16, 2, 0, []) else am_nop) else (bif Nat.beq k 16 then (.if_icmp .ne 5, 19, 21, 0, []) else am_nop))))) else (bif Nat.blt k 28 then (bif Nat.blt k 21 then (bif Nat.blt k 20 then (bif Nat.beq k 19 then (.iconst (-1), 20, 0, 0, [(-1, 0)]) else am_nop) else (bif Nat.beq k 20 then (.ireturn, 21, 0, 0, []) else am_nop)) else (bif Nat.blt k 22 then (bif Nat.beq k 21 then (.aload_n 0, 22, 0, 0, []) else am_nop) else (bif Nat.blt k 25 then (bif Nat.beq k 22 then (.getfield 10, 25, 6, 0, [(0, 216)]) else am_nop) else (bif Nat.beq k 25 then (.getfield 57, 28, 3, 0, [(1, 118)]) else am_nop)))) else (bif Nat.blt k 30 then (bif Nat.blt k 29 then (bif Nat.beq k 28 then (.iload_n 1, 29, 1, 0, []) else am_nop) else (bif Nat.beq k 29 then (.iload_n 2, 30, 2, 0, []) else am_nop)) else (bif Nat.blt k 33 then (bif Nat.beq k 30 then (.invokevirtual 61, 33, 2, 0, [(0, 256)]) else am_nop) else (bif Nat.blt k 36 then (bif Nat.beq k 33 then (.ifCond .eq 6, 36, 39, 0, []) else am_nop) else (bif Nat.beq k 36 then (.bipush (-2), 38, 0, 0, [(-2, 0)]) else am_nop)))))) else (bif Nat.blt k 58 then (bif Nat.blt k 49 then (bif Nat.blt k 40 then (bif Nat.blt k 39 then (bif Nat.beq k 38 then (.ireturn, 39, 0, 0, []) else am_nop) else (bif Nat.beq k 39 then (.aload_n 0, 40, 0, 0, []) else am_nop)) else (bif Nat.blt k 43 then (bif Nat.beq k 40 then (.getfield 10, 43, 6, 0, [(0, 216)]) else am_nop) else (bif Nat.blt k 46 then (bif Nat.beq k 43 then (.getfield 57, 46, 3, 0, [(1, 118)]) else am_nop) else (bif Nat.beq k 46 then (.getfield 67, 49, 0, 2, [(1, 78)]) else am_nop)))) else (bif Nat.blt k 54 then (bif Nat.blt k 51 then (bif Nat.beq k 49 then (.bipush 12, 51, 0, 0, [(12, 0)]) else am_nop) else (bif Nat.beq k 51 then (.if_icmp .lt 6, 54, 57, 0, []) else am_nop)) else (bif Nat.blt k 56 then (bif Nat.beq k 54 then (.bipush (-3), 56, 0, 0, [(-3, 0)]) else am_nop) else (bif Nat.blt k 57 then (bif Nat.beq k 56 then (.ireturn, 57, 0, 0, []) else am_nop) else (bif Nat.beq k 57 then (.aload_n 0, 58, 0, 0, []) else am_nop))))) else (bif Nat.blt k 69 then (bif Nat.blt k 64 then (bif Nat.blt k 61 then (bif Nat.beq k 58 then (.getfield 10, 61, 6, 0, [(0, 216)]) else am_nop) else (bif Nat.beq k 61 then (.getfield 57, 64, 3, 0, [(1, 118)]) else am_nop)) else (bif Nat.blt k 65 then (bif Nat.beq k 64 then (.iload_n 1, 65, 1, 0, []) else am_nop) else (bif Nat.blt k 66 then (bif Nat.beq k 65 then (.iload_n 2, 66, 2, 0, []) else am_nop) else (bif Nat.beq k 66 then (.invokevirtual 70, 69, 3, 0, [(0, 263)]) else am_nop)))) else (bif Nat.blt k 73 then (bif Nat.blt k 70 then (bif Nat.beq k 69 then (.aload_n 0, 70, 0, 0, []) else am_nop) else (bif Nat.beq k 70 then (.getfield 10, 73, 6, 0, [(0, 216)]) else am_nop)) else (bif Nat.blt k 76 then (bif Nat.beq k 73 then (.getfield 57, 76, 3, 0, [(1, 118)]) else am_nop) else (bif Nat.blt k 79 then (bif Nat.beq k 76 then (.getfield 67, 79, 0, 2, [(1, 78)]) else am_nop) else (bif Nat.beq k 79 then (.ireturn, 80, 0, 0, []) else am_nop))))))
/-- DeedDesk.lies(II)I -/
def am_c52 (k : Nat) : am_E := bif Nat.blt k 23 then (bif Nat.blt k 11 then (bif Nat.blt k 4 then (bif Nat.blt k 1 then (bif Nat.beq k 0 then (.iload_n 1, 1, 1, 0, []) else am_nop) else (bif Nat.beq k 1 then (.invokestatic 74, 4, 75, 0, [(0, 271)]) else am_nop)) else (bif Nat.blt k 7 then (bif Nat.beq k 4 then (.ifCond .eq 10, 7, 14, 0, []) else am_nop) else (bif Nat.blt k 8 then (bif Nat.beq k 7 then (.iload_n 2, 8, 2, 0, []) else am_nop) else (bif Nat.beq k 8 then (.invokestatic 54, 11, 73, 0, [(0, 253)]) else am_nop)))) else (bif Nat.blt k 16 then (bif Nat.blt k 14 then (bif Nat.beq k 11 then (.ifCond .ne 5, 14, 16, 0, []) else am_nop) else (bif Nat.blt k 15 then (bif Nat.beq k 14 then (.iconst (-1), 15, 0, 0, [(-1, 0)]) else am_nop) else (bif Nat.beq k 15 then (.ireturn, 16, 0, 0, []) else am_nop))) else (bif Nat.blt k 17 then (bif Nat.beq k 16 then (.aload_n 0, 17, 0, 0, []) else am_nop) else (bif Nat.blt k 20 then (bif Nat.beq k 17 then (.getfield 10, 20, 6, 0, [(0, 216)]) else am_nop) else (bif Nat.beq k 20 then (.getfield 77, 23, 3, 2, [(1, 126)]) else am_nop))))) else (bif Nat.blt k 30 then (bif Nat.blt k 25 then (bif Nat.blt k 24 then (bif Nat.beq k 23 then (.iload_n 1, 24, 1, 0, []) else am_nop) else (bif Nat.beq k 24 then (.iaload, 25, 0, 0, []) else am_nop)) else (bif Nat.blt k 26 then (bif Nat.beq k 25 then (.istore_n 3, 26, 3, 0, []) else am_nop) else (bif Nat.blt k 27 then (bif Nat.beq k 26 then (.aload_n 0, 27, 0, 0, []) else am_nop) else (bif Nat.beq k 27 then (.getfield 10, 30, 6, 0, [(0, 216)]) else am_nop)))) else (bif Nat.blt k 35 then (bif Nat.blt k 33 then (bif Nat.beq k 30 then (.getfield 77, 33, 3, 2, [(1, 126)]) else am_nop) else (bif Nat.blt k 34 then (bif Nat.beq k 33 then (.iload_n 1, 34, 1, 0, []) else am_nop) else (bif Nat.beq k 34 then (.iload_n 2, 35, 2, 0, []) else am_nop))) else (bif Nat.blt k 36 then (bif Nat.beq k 35 then (.iastore, 36, 0, 0, []) else am_nop) else (bif Nat.blt k 37 then (bif Nat.beq k 36 then (.iload_n 3, 37, 3, 0, []) else am_nop) else (bif Nat.beq k 37 then (.ireturn, 38, 0, 0, []) else am_nop)))))
/-- DeedDesk.deed(III)I -/
def am_c53 (k : Nat) : am_E := bif Nat.blt k 31 then (bif Nat.blt k 15 then (bif Nat.blt k 7 then (bif Nat.blt k 1 then (bif Nat.beq k 0 then (.iload_n 1, 1, 1, 0, []) else am_nop) else (bif Nat.blt k 4 then (bif Nat.beq k 1 then (.invokestatic 54, 4, 73, 0, [(0, 253)]) else am_nop) else (bif Nat.beq k 4 then (.ifCond .eq 26, 7, 30, 0, []) else am_nop))) else (bif Nat.blt k 11 then (bif Nat.blt k 8 then (bif Nat.beq k 7 then (.iload_n 2, 8, 2, 0, []) else am_nop) else (bif Nat.beq k 8 then (.invokestatic 81, 11, 74, 0, [(0, 278)]) else am_nop)) else (bif Nat.blt k 14 then (bif Nat.beq k 11 then (.ifCond .eq 19, 14, 30, 0, []) else am_nop) else (bif Nat.beq k 14 then (.iload_n 3, 15, 3, 0, []) else am_nop)))) else (bif Nat.blt k 23 then (bif Nat.blt k 19 then (bif Nat.blt k 16 then (bif Nat.beq k 15 then (.iconst (-1), 16, 0, 0, [(-1, 0)]) else am_nop) else (bif Nat.beq k 16 then (.if_icmp .eq 16, 19, 32, 0, []) else am_nop)) else (bif Nat.blt k 20 then (bif Nat.beq k 19 then (.aload_n 0, 20, 0, 0, []) else am_nop) else (bif Nat.beq k 20 then (.getfield 10, 23, 6, 0, [(0, 216)]) else am_nop))) else (bif Nat.blt k 27 then (bif Nat.blt k 24 then (bif Nat.beq k 23 then (.iload_n 3, 24, 3, 0, []) else am_nop) else (bif Nat.beq k 24 then (.invokevirtual 84, 27, 32, 0, [(0, 281)]) else am_nop)) else (bif Nat.blt k 30 then (bif Nat.beq k 27 then (.ifCond .ne 5, 30, 32, 0, []) else am_nop) else (bif Nat.beq k 30 then (.iconst (-1), 31, 0, 0, [(-1, 0)]) else am_nop))))) else (bif Nat.blt k 44 then (bif Nat.blt k 36 then (bif Nat.blt k 32 then (bif Nat.beq k 31 then (.ireturn, 32, 0, 0, []) else am_nop) else (bif Nat.blt k 33 then (bif Nat.beq k 32 then (.aload_n 0, 33, 0, 0, []) else am_nop) else (bif Nat.beq k 33 then (.getfield 10, 36, 6, 0, [(0, 216)]) else am_nop))) else (bif Nat.blt k 40 then (bif Nat.blt k 37 then (bif Nat.beq k 36 then (.iload_n 1, 37, 1, 0, []) else am_nop) else (bif Nat.beq k 37 then (.putfield 87, 40, 3, 4, [(1, 133)]) else am_nop)) else (bif Nat.blt k 41 then (bif Nat.beq k 40 then (.aload_n 0, 41, 0, 0, []) else am_nop) else (bif Nat.beq k 41 then (.getfield 10, 44, 6, 0, [(0, 216)]) else am_nop)))) else (bif Nat.blt k 52 then (bif Nat.blt k 48 then (bif Nat.blt k 45 then (bif Nat.beq k 44 then (.iload_n 2, 45, 2, 0, []) else am_nop) else (bif Nat.beq k 45 then (.putfield 90, 48, 3, 5, [(1, 137)]) else am_nop)) else (bif Nat.blt k 49 then (bif Nat.beq k 48 then (.aload_n 0, 49, 0, 0, []) else am_nop) else (bif Nat.beq k 49 then (.getfield 10, 52, 6, 0, [(0, 216)]) else am_nop))) else (bif Nat.blt k 56 then (bif Nat.blt k 53 then (bif Nat.beq k 52 then (.iload_n 3, 53, 3, 0, []) else am_nop) else (bif Nat.beq k 53 then (.putfield 37, 56, 3, 6, [(1, 140)]) else am_nop)) else (bif Nat.blt k 57 then (bif Nat.beq k 56 then (.iconst 1, 57, 0, 0, [(1, 0)]) else am_nop) else (bif Nat.beq k 57 then (.ireturn, 58, 0, 0, []) else am_nop)))))
/-- DeedDesk.told(I)I -/
def am_c54 (k : Nat) : am_E := bif Nat.blt k 65 then (bif Nat.blt k 48 then (bif Nat.blt k 40 then (bif Nat.blt k 36 then (bif Nat.blt k 1 then (bif Nat.beq k 0 then (.iload_n 1, 1, 1, 0, []) else am_nop) else (bif Nat.beq k 1 then (.tableswitch 94 0 4 #[35, 43, 51, 75, 83], 36, 95, 0, [(0, 36), (1, 44), (2, 52), (3, 76), (4, 84)]) else am_nop)) else (bif Nat.blt k 37 then (bif Nat.beq k 36 then (.aload_n 0, 37, 0, 0, []) else am_nop) else (bif Nat.beq k 37 then (.getfield 10, 40, 6, 0, [(0, 216)]) else am_nop))) else (bif Nat.blt k 44 then (bif Nat.blt k 43 then (bif Nat.beq k 40 then (.getfield 87, 43, 3, 4, [(1, 133)]) else am_nop) else (bif Nat.beq k 43 then (.ireturn, 44, 0, 0, []) else am_nop)) else (bif Nat.blt k 45 then (bif Nat.beq k 44 then (.aload_n 0, 45, 0, 0, []) else am_nop) else (bif Nat.beq k 45 then (.getfield 10, 48, 6, 0, [(0, 216)]) else am_nop)))) else (bif Nat.blt k 56 then (bif Nat.blt k 52 then (bif Nat.blt k 51 then (bif Nat.beq k 48 then (.getfield 90, 51, 3, 5, [(1, 137)]) else am_nop) else (bif Nat.beq k 51 then (.ireturn, 52, 0, 0, []) else am_nop)) else (bif Nat.blt k 53 then (bif Nat.beq k 52 then (.aload_n 0, 53, 0, 0, []) else am_nop) else (bif Nat.beq k 53 then (.getfield 10, 56, 6, 0, [(0, 216)]) else am_nop))) else (bif Nat.blt k 60 then (bif Nat.blt k 59 then (bif Nat.beq k 56 then (.getfield 37, 59, 3, 6, [(1, 140)]) else am_nop) else (bif Nat.beq k 59 then (.iconst (-1), 60, 0, 0, [(-1, 0)]) else am_nop)) else (bif Nat.blt k 63 then (bif Nat.beq k 60 then (.if_icmp .ne 8, 63, 68, 0, []) else am_nop) else (bif Nat.beq k 63 then (.bipush (-2), 65, 0, 0, [(-2, 0)]) else am_nop))))) else (bif Nat.blt k 83 then (bif Nat.blt k 75 then (bif Nat.blt k 69 then (bif Nat.blt k 68 then (bif Nat.beq k 65 then (.goto 10, 68, 75, 0, []) else am_nop) else (bif Nat.beq k 68 then (.aload_n 0, 69, 0, 0, []) else am_nop)) else (bif Nat.blt k 72 then (bif Nat.beq k 69 then (.getfield 10, 72, 6, 0, [(0, 216)]) else am_nop) else (bif Nat.beq k 72 then (.getfield 37, 75, 3, 6, [(1, 140)]) else am_nop))) else (bif Nat.blt k 77 then (bif Nat.blt k 76 then (bif Nat.beq k 75 then (.ireturn, 76, 0, 0, []) else am_nop) else (bif Nat.beq k 76 then (.aload_n 0, 77, 0, 0, []) else am_nop)) else (bif Nat.blt k 80 then (bif Nat.beq k 77 then (.getfield 10, 80, 6, 0, [(0, 216)]) else am_nop) else (bif Nat.beq k 80 then (.getfield 51, 83, 3, 3, [(1, 131)]) else am_nop)))) else (bif Nat.blt k 91 then (bif Nat.blt k 85 then (bif Nat.blt k 84 then (bif Nat.beq k 83 then (.ireturn, 84, 0, 0, []) else am_nop) else (bif Nat.beq k 84 then (.aload_n 0, 85, 0, 0, []) else am_nop)) else (bif Nat.blt k 88 then (bif Nat.beq k 85 then (.getfield 10, 88, 6, 0, [(0, 216)]) else am_nop) else (bif Nat.beq k 88 then (.getfield 57, 91, 3, 0, [(1, 118)]) else am_nop))) else (bif Nat.blt k 95 then (bif Nat.blt k 94 then (bif Nat.beq k 91 then (.getfield 67, 94, 0, 2, [(1, 78)]) else am_nop) else (bif Nat.beq k 94 then (.ireturn, 95, 0, 0, []) else am_nop)) else (bif Nat.blt k 96 then (bif Nat.beq k 95 then (.iconst (-1), 96, 0, 0, [(-1, 0)]) else am_nop) else (bif Nat.beq k 96 then (.ireturn, 97, 0, 0, []) else am_nop)))))
/-- DeedDesk.find(IIIII)I -/
def am_c55 (k : Nat) : am_E := bif Nat.blt k 34 then (bif Nat.blt k 14 then (bif Nat.blt k 6 then (bif Nat.blt k 4 then (bif Nat.blt k 1 then (bif Nat.beq k 0 then (.aload_n 0, 1, 0, 0, []) else am_nop) else (bif Nat.beq k 1 then (.getfield 10, 4, 6, 0, [(0, 216)]) else am_nop)) else (bif Nat.blt k 5 then (bif Nat.beq k 4 then (.iload_n 1, 5, 1, 0, []) else am_nop) else (bif Nat.beq k 5 then (.iload_n 2, 6, 2, 0, []) else am_nop))) else (bif Nat.blt k 9 then (bif Nat.blt k 7 then (bif Nat.beq k 6 then (.iload_n 3, 7, 3, 0, []) else am_nop) else (bif Nat.beq k 7 then (.iload 4, 9, 4, 0, []) else am_nop)) else (bif Nat.blt k 11 then (bif Nat.beq k 9 then (.iload 5, 11, 5, 0, []) else am_nop) else (bif Nat.beq k 11 then (.invokevirtual 93, 14, 34, 0, [(0, 293)]) else am_nop)))) else (bif Nat.blt k 20 then (bif Nat.blt k 18 then (bif Nat.blt k 17 then (bif Nat.beq k 14 then (.ifCond .ne 5, 17, 19, 0, []) else am_nop) else (bif Nat.beq k 17 then (.iconst (-1), 18, 0, 0, [(-1, 0)]) else am_nop)) else (bif Nat.blt k 19 then (bif Nat.beq k 18 then (.ireturn, 19, 0, 0, []) else am_nop) else (bif Nat.beq k 19 then (.aload_n 0, 20, 0, 0, []) else am_nop))) else (bif Nat.blt k 26 then (bif Nat.blt k 23 then (bif Nat.beq k 20 then (.getfield 10, 23, 6, 0, [(0, 216)]) else am_nop) else (bif Nat.beq k 23 then (.getfield 41, 26, 3, 1, [(1, 121)]) else am_nop)) else (bif Nat.blt k 29 then (bif Nat.beq k 26 then (.getfield 97, 29, 2, 1, [(1, 98)]) else am_nop) else (bif Nat.blt k 31 then (bif Nat.beq k 29 then (.bipush 20, 31, 0, 0, [(20, 0)]) else am_nop) else (bif Nat.beq k 31 then (.if_icmp .lt 6, 34, 37, 0, []) else am_nop)))))) else (bif Nat.blt k 49 then (bif Nat.blt k 41 then (bif Nat.blt k 37 then (bif Nat.blt k 36 then (bif Nat.beq k 34 then (.bipush (-3), 36, 0, 0, [(-3, 0)]) else am_nop) else (bif Nat.beq k 36 then (.ireturn, 37, 0, 0, []) else am_nop)) else (bif Nat.blt k 38 then (bif Nat.beq k 37 then (.aload_n 0, 38, 0, 0, []) else am_nop) else (bif Nat.beq k 38 then (.getfield 10, 41, 6, 0, [(0, 216)]) else am_nop))) else (bif Nat.blt k 45 then (bif Nat.blt k 44 then (bif Nat.beq k 41 then (.getfield 41, 44, 3, 1, [(1, 121)]) else am_nop) else (bif Nat.beq k 44 then (.iload_n 1, 45, 1, 0, []) else am_nop)) else (bif Nat.blt k 46 then (bif Nat.beq k 45 then (.iload_n 2, 46, 2, 0, []) else am_nop) else (bif Nat.blt k 47 then (bif Nat.beq k 46 then (.iload_n 3, 47, 3, 0, []) else am_nop) else (bif Nat.beq k 47 then (.iload 4, 49, 4, 0, []) else am_nop))))) else (bif Nat.blt k 58 then (bif Nat.blt k 54 then (bif Nat.blt k 51 then (bif Nat.beq k 49 then (.iload 5, 51, 5, 0, []) else am_nop) else (bif Nat.beq k 51 then (.invokevirtual 100, 54, 25, 0, [(0, 301)]) else am_nop)) else (bif Nat.blt k 55 then (bif Nat.beq k 54 then (.aload_n 0, 55, 0, 0, []) else am_nop) else (bif Nat.beq k 55 then (.getfield 10, 58, 6, 0, [(0, 216)]) else am_nop))) else (bif Nat.blt k 64 then (bif Nat.blt k 61 then (bif Nat.beq k 58 then (.getfield 41, 61, 3, 1, [(1, 121)]) else am_nop) else (bif Nat.beq k 61 then (.getfield 97, 64, 2, 1, [(1, 98)]) else am_nop)) else (bif Nat.blt k 65 then (bif Nat.beq k 64 then (.iconst 1, 65, 0, 0, [(1, 0)]) else am_nop) else (bif Nat.blt k 66 then (bif Nat.beq k 65 then (.isub, 66, 0, 0, []) else am_nop) else (bif Nat.beq k 66 then (.ireturn, 67, 0, 0, []) else am_nop))))))
/-- DeedDesk.finds(IIII)I -/
def am_c56 (k : Nat) : am_E := bif Nat.blt k 66 then (bif Nat.blt k 34 then (bif Nat.blt k 19 then (bif Nat.blt k 8 then (bif Nat.blt k 4 then (bif Nat.blt k 1 then (bif Nat.beq k 0 then (.iload_n 1, 1, 1, 0, []) else am_nop) else (bif Nat.beq k 1 then (.invokestatic 104, 4, 76, 0, [(0, 312)]) else am_nop)) else (bif Nat.blt k 7 then (bif Nat.beq k 4 then (.ifCond .eq 22, 7, 26, 0, []) else am_nop) else (bif Nat.beq k 7 then (.iload_n 2, 8, 2, 0, []) else am_nop))) else (bif Nat.blt k 14 then (bif Nat.blt k 11 then (bif Nat.beq k 8 then (.invokestatic 107, 11, 77, 0, [(0, 315)]) else am_nop) else (bif Nat.beq k 11 then (.ifCond .eq 15, 14, 26, 0, []) else am_nop)) else (bif Nat.blt k 16 then (bif Nat.beq k 14 then (.iload 4, 16, 4, 0, []) else am_nop) else (bif Nat.beq k 16 then (.ifCond .lt 10, 19, 26, 0, []) else am_nop)))) else (bif Nat.blt k 27 then (bif Nat.blt k 23 then (bif Nat.blt k 21 then (bif Nat.beq k 19 then (.iload 4, 21, 4, 0, []) else am_nop) else (bif Nat.beq k 21 then (.bipush 12, 23, 0, 0, [(12, 0)]) else am_nop)) else (bif Nat.blt k 26 then (bif Nat.beq k 23 then (.if_icmp .le 5, 26, 28, 0, []) else am_nop) else (bif Nat.beq k 26 then (.iconst (-1), 27, 0, 0, [(-1, 0)]) else am_nop))) else (bif Nat.blt k 29 then (bif Nat.blt k 28 then (bif Nat.beq k 27 then (.ireturn, 28, 0, 0, []) else am_nop) else (bif Nat.beq k 28 then (.aload_n 0, 29, 0, 0, []) else am_nop)) else (bif Nat.blt k 32 then (bif Nat.beq k 29 then (.getfield 32, 32, 6, 3, [(0, 219)]) else am_nop) else (bif Nat.blt k 33 then (bif Nat.beq k 32 then (.iload_n 1, 33, 1, 0, []) else am_nop) else (bif Nat.beq k 33 then (.aaload, 34, 0, 0, []) else am_nop)))))) else (bif Nat.blt k 51 then (bif Nat.blt k 42 then (bif Nat.blt k 38 then (bif Nat.blt k 36 then (bif Nat.beq k 34 then (.astore 5, 36, 5, 0, []) else am_nop) else (bif Nat.beq k 36 then (.aload 5, 38, 5, 0, []) else am_nop)) else (bif Nat.blt k 39 then (bif Nat.beq k 38 then (.iload_n 2, 39, 2, 0, []) else am_nop) else (bif Nat.beq k 39 then (.invokevirtual 110, 42, 36, 0, [(0, 318)]) else am_nop))) else (bif Nat.blt k 46 then (bif Nat.blt k 44 then (bif Nat.beq k 42 then (.istore 6, 44, 6, 0, []) else am_nop) else (bif Nat.beq k 44 then (.iload 6, 46, 6, 0, []) else am_nop)) else (bif Nat.blt k 49 then (bif Nat.beq k 46 then (.ifCond .ge 6, 49, 52, 0, []) else am_nop) else (bif Nat.beq k 49 then (.iload 6, 51, 6, 0, []) else am_nop)))) else (bif Nat.blt k 57 then (bif Nat.blt k 53 then (bif Nat.blt k 52 then (bif Nat.beq k 51 then (.ireturn, 52, 0, 0, []) else am_nop) else (bif Nat.beq k 52 then (.iload_n 3, 53, 3, 0, []) else am_nop)) else (bif Nat.blt k 56 then (bif Nat.beq k 53 then (.ifCond .lt 17, 56, 70, 0, []) else am_nop) else (bif Nat.beq k 56 then (.iload_n 3, 57, 3, 0, []) else am_nop))) else (bif Nat.blt k 62 then (bif Nat.blt k 59 then (bif Nat.beq k 57 then (.aload 5, 59, 5, 0, []) else am_nop) else (bif Nat.beq k 59 then (.getfield 114, 62, 4, 2, [(1, 208)]) else am_nop)) else (bif Nat.blt k 64 then (bif Nat.beq k 62 then (.iload 4, 64, 4, 0, []) else am_nop) else (bif Nat.blt k 65 then (bif Nat.beq k 64 then (.iconst 5, 65, 0, 0, [(5, 0)]) else am_nop) else (bif Nat.beq k 65 then (.imul, 66, 0, 0, []) else am_nop))))))) else (bif Nat.blt k 101 then (bif Nat.blt k 80 then (bif Nat.blt k 73 then (bif Nat.blt k 70 then (bif Nat.blt k 67 then (bif Nat.beq k 66 then (.isub, 67, 0, 0, []) else am_nop) else (bif Nat.beq k 67 then (.if_icmp .le 6, 70, 73, 0, []) else am_nop)) else (bif Nat.blt k 72 then (bif Nat.beq k 70 then (.bipush (-13), 72, 0, 0, [(-13, 0)]) else am_nop) else (bif Nat.beq k 72 then (.ireturn, 73, 0, 0, []) else am_nop))) else (bif Nat.blt k 76 then (bif Nat.blt k 74 then (bif Nat.beq k 73 then (.aload_n 0, 74, 0, 0, []) else am_nop) else (bif Nat.beq k 74 then (.aload 5, 76, 5, 0, []) else am_nop)) else (bif Nat.blt k 79 then (bif Nat.beq k 76 then (.getfield 117, 79, 4, 0, [(1, 204)]) else am_nop) else (bif Nat.beq k 79 then (.iload_n 3, 80, 3, 0, []) else am_nop)))) else (bif Nat.blt k 90 then (bif Nat.blt k 85 then (bif Nat.blt k 82 then (bif Nat.beq k 80 then (.iload 4, 82, 4, 0, []) else am_nop) else (bif Nat.beq k 82 then (.invokevirtual 120, 85, 80, 0, [(0, 322)]) else am_nop)) else (bif Nat.blt k 88 then (bif Nat.beq k 85 then (.ifCond .ne 6, 88, 91, 0, []) else am_nop) else (bif Nat.beq k 88 then (.bipush (-2), 90, 0, 0, [(-2, 0)]) else am_nop))) else (bif Nat.blt k 92 then (bif Nat.blt k 91 then (bif Nat.beq k 90 then (.ireturn, 91, 0, 0, []) else am_nop) else (bif Nat.beq k 91 then (.aload_n 0, 92, 0, 0, []) else am_nop)) else (bif Nat.blt k 95 then (bif Nat.beq k 92 then (.getfield 10, 95, 6, 0, [(0, 216)]) else am_nop) else (bif Nat.blt k 98 then (bif Nat.beq k 95 then (.getfield 41, 98, 3, 1, [(1, 121)]) else am_nop) else (bif Nat.beq k 98 then (.getfield 97, 101, 2, 1, [(1, 98)]) else am_nop)))))) else (bif Nat.blt k 115 then (bif Nat.blt k 109 then (bif Nat.blt k 104 then (bif Nat.blt k 103 then (bif Nat.beq k 101 then (.iload 4, 103, 4, 0, []) else am_nop) else (bif Nat.beq k 103 then (.iadd, 104, 0, 0, []) else am_nop)) else (bif Nat.blt k 106 then (bif Nat.beq k 104 then (.bipush 20, 106, 0, 0, [(20, 0)]) else am_nop) else (bif Nat.beq k 106 then (.if_icmp .le 6, 109, 112, 0, []) else am_nop))) else (bif Nat.blt k 112 then (bif Nat.blt k 111 then (bif Nat.beq k 109 then (.bipush (-3), 111, 0, 0, [(-3, 0)]) else am_nop) else (bif Nat.beq k 111 then (.ireturn, 112, 0, 0, []) else am_nop)) else (bif Nat.blt k 113 then (bif Nat.beq k 112 then (.aload_n 0, 113, 0, 0, []) else am_nop) else (bif Nat.beq k 113 then (.aload 5, 115, 5, 0, []) else am_nop)))) else (bif Nat.blt k 124 then (bif Nat.blt k 119 then (bif Nat.blt k 118 then (bif Nat.beq k 115 then (.getfield 117, 118, 4, 0, [(1, 204)]) else am_nop) else (bif Nat.beq k 118 then (.iload_n 3, 119, 3, 0, []) else am_nop)) else (bif Nat.blt k 121 then (bif Nat.beq k 119 then (.iload 4, 121, 4, 0, []) else am_nop) else (bif Nat.beq k 121 then (.invokevirtual 124, 124, 81, 0, [(0, 326)]) else am_nop))) else (bif Nat.blt k 128 then (bif Nat.blt k 125 then (bif Nat.beq k 124 then (.aload_n 0, 125, 0, 0, []) else am_nop) else (bif Nat.beq k 125 then (.getfield 10, 128, 6, 0, [(0, 216)]) else am_nop)) else (bif Nat.blt k 131 then (bif Nat.beq k 128 then (.getfield 41, 131, 3, 1, [(1, 121)]) else am_nop) else (bif Nat.blt k 134 then (bif Nat.beq k 131 then (.getfield 97, 134, 2, 1, [(1, 98)]) else am_nop) else (bif Nat.beq k 134 then (.ireturn, 135, 0, 0, []) else am_nop)))))))
/-- DeedDesk.found(IZ)I -/
def am_c57 (k : Nat) : am_E := bif Nat.blt k 27 then (bif Nat.blt k 14 then (bif Nat.blt k 7 then (bif Nat.blt k 1 then (bif Nat.beq k 0 then (.aload_n 0, 1, 0, 0, []) else am_nop) else (bif Nat.blt k 4 then (bif Nat.beq k 1 then (.getfield 10, 4, 6, 0, [(0, 216)]) else am_nop) else (bif Nat.beq k 4 then (.getfield 41, 7, 3, 1, [(1, 121)]) else am_nop))) else (bif Nat.blt k 8 then (bif Nat.beq k 7 then (.iload_n 1, 8, 1, 0, []) else am_nop) else (bif Nat.blt k 11 then (bif Nat.beq k 8 then (.invokevirtual 128, 11, 20, 0, [(0, 334)]) else am_nop) else (bif Nat.beq k 11 then (.ifCond .ne 5, 14, 16, 0, []) else am_nop)))) else (bif Nat.blt k 17 then (bif Nat.blt k 15 then (bif Nat.beq k 14 then (.iconst (-1), 15, 0, 0, [(-1, 0)]) else am_nop) else (bif Nat.blt k 16 then (bif Nat.beq k 15 then (.ireturn, 16, 0, 0, []) else am_nop) else (bif Nat.beq k 16 then (.aload_n 0, 17, 0, 0, []) else am_nop))) else (bif Nat.blt k 23 then (bif Nat.blt k 20 then (bif Nat.beq k 17 then (.getfield 10, 20, 6, 0, [(0, 216)]) else am_nop) else (bif Nat.beq k 20 then (.getfield 41, 23, 3, 1, [(1, 121)]) else am_nop)) else (bif Nat.blt k 24 then (bif Nat.beq k 23 then (.iload_n 1, 24, 1, 0, []) else am_nop) else (bif Nat.beq k 24 then (.invokevirtual 131, 27, 28, 0, [(0, 338)]) else am_nop))))) else (bif Nat.blt k 37 then (bif Nat.blt k 34 then (bif Nat.blt k 30 then (bif Nat.beq k 27 then (.ifCond .eq 7, 30, 34, 0, []) else am_nop) else (bif Nat.blt k 31 then (bif Nat.beq k 30 then (.iconst 1, 31, 0, 0, [(1, 0)]) else am_nop) else (bif Nat.beq k 31 then (.goto 4, 34, 35, 0, []) else am_nop))) else (bif Nat.blt k 35 then (bif Nat.beq k 34 then (.iconst 0, 35, 0, 0, [(0, 0)]) else am_nop) else (bif Nat.blt k 36 then (bif Nat.beq k 35 then (.istore_n 3, 36, 3, 0, []) else am_nop) else (bif Nat.beq k 36 then (.aload_n 0, 37, 0, 0, []) else am_nop)))) else (bif Nat.blt k 44 then (bif Nat.blt k 40 then (bif Nat.beq k 37 then (.getfield 10, 40, 6, 0, [(0, 216)]) else am_nop) else (bif Nat.blt k 43 then (bif Nat.beq k 40 then (.getfield 41, 43, 3, 1, [(1, 121)]) else am_nop) else (bif Nat.beq k 43 then (.iload_n 1, 44, 1, 0, []) else am_nop))) else (bif Nat.blt k 48 then (bif Nat.blt k 45 then (bif Nat.beq k 44 then (.iload_n 2, 45, 2, 0, []) else am_nop) else (bif Nat.beq k 45 then (.invokevirtual 134, 48, 29, 0, [(0, 343)]) else am_nop)) else (bif Nat.blt k 49 then (bif Nat.beq k 48 then (.iload_n 3, 49, 3, 0, []) else am_nop) else (bif Nat.beq k 49 then (.ireturn, 50, 0, 0, []) else am_nop)))))
/-- DeedDesk.about(II)I -/
def am_c58 (k : Nat) : am_E := bif Nat.blt k 34 then (bif Nat.blt k 19 then (bif Nat.blt k 8 then (bif Nat.blt k 4 then (bif Nat.blt k 1 then (bif Nat.beq k 0 then (.aload_n 0, 1, 0, 0, []) else am_nop) else (bif Nat.beq k 1 then (.getfield 10, 4, 6, 0, [(0, 216)]) else am_nop)) else (bif Nat.blt k 7 then (bif Nat.beq k 4 then (.getfield 41, 7, 3, 1, [(1, 121)]) else am_nop) else (bif Nat.beq k 7 then (.iload_n 1, 8, 1, 0, []) else am_nop))) else (bif Nat.blt k 14 then (bif Nat.blt k 11 then (bif Nat.beq k 8 then (.invokevirtual 128, 11, 20, 0, [(0, 334)]) else am_nop) else (bif Nat.beq k 11 then (.ifCond .eq 12, 14, 23, 0, []) else am_nop)) else (bif Nat.blt k 15 then (bif Nat.beq k 14 then (.iload_n 2, 15, 2, 0, []) else am_nop) else (bif Nat.blt k 18 then (bif Nat.beq k 15 then (.ifCond .lt 8, 18, 23, 0, []) else am_nop) else (bif Nat.beq k 18 then (.iload_n 2, 19, 2, 0, []) else am_nop))))) else (bif Nat.blt k 25 then (bif Nat.blt k 23 then (bif Nat.blt k 20 then (bif Nat.beq k 19 then (.iconst 5, 20, 0, 0, [(5, 0)]) else am_nop) else (bif Nat.beq k 20 then (.if_icmp .le 5, 23, 25, 0, []) else am_nop)) else (bif Nat.blt k 24 then (bif Nat.beq k 23 then (.iconst (-1), 24, 0, 0, [(-1, 0)]) else am_nop) else (bif Nat.beq k 24 then (.ireturn, 25, 0, 0, []) else am_nop))) else (bif Nat.blt k 27 then (bif Nat.blt k 26 then (bif Nat.beq k 25 then (.iload_n 2, 26, 2, 0, []) else am_nop) else (bif Nat.beq k 26 then (.iconst 5, 27, 0, 0, [(5, 0)]) else am_nop)) else (bif Nat.blt k 30 then (bif Nat.beq k 27 then (.if_icmp .ne 23, 30, 50, 0, []) else am_nop) else (bif Nat.blt k 31 then (bif Nat.beq k 30 then (.aload_n 0, 31, 0, 0, []) else am_nop) else (bif Nat.beq k 31 then (.getfield 10, 34, 6, 0, [(0, 216)]) else am_nop)))))) else (bif Nat.blt k 51 then (bif Nat.blt k 44 then (bif Nat.blt k 38 then (bif Nat.blt k 37 then (bif Nat.beq k 34 then (.getfield 41, 37, 3, 1, [(1, 121)]) else am_nop) else (bif Nat.beq k 37 then (.iload_n 1, 38, 1, 0, []) else am_nop)) else (bif Nat.blt k 41 then (bif Nat.beq k 38 then (.invokevirtual 131, 41, 28, 0, [(0, 338)]) else am_nop) else (bif Nat.beq k 41 then (.ifCond .eq 7, 44, 48, 0, []) else am_nop))) else (bif Nat.blt k 48 then (bif Nat.blt k 45 then (bif Nat.beq k 44 then (.iconst 1, 45, 0, 0, [(1, 0)]) else am_nop) else (bif Nat.beq k 45 then (.goto 4, 48, 49, 0, []) else am_nop)) else (bif Nat.blt k 49 then (bif Nat.beq k 48 then (.iconst 0, 49, 0, 0, [(0, 0)]) else am_nop) else (bif Nat.blt k 50 then (bif Nat.beq k 49 then (.ireturn, 50, 0, 0, []) else am_nop) else (bif Nat.beq k 50 then (.aload_n 0, 51, 0, 0, []) else am_nop))))) else (bif Nat.blt k 62 then (bif Nat.blt k 57 then (bif Nat.blt k 54 then (bif Nat.beq k 51 then (.getfield 10, 54, 6, 0, [(0, 216)]) else am_nop) else (bif Nat.beq k 54 then (.getfield 41, 57, 3, 1, [(1, 121)]) else am_nop)) else (bif Nat.blt k 60 then (bif Nat.beq k 57 then (.getfield 138, 60, 2, 0, [(1, 95)]) else am_nop) else (bif Nat.blt k 61 then (bif Nat.beq k 60 then (.iload_n 1, 61, 1, 0, []) else am_nop) else (bif Nat.beq k 61 then (.iconst 5, 62, 0, 0, [(5, 0)]) else am_nop)))) else (bif Nat.blt k 64 then (bif Nat.blt k 63 then (bif Nat.beq k 62 then (.imul, 63, 0, 0, []) else am_nop) else (bif Nat.beq k 63 then (.iload_n 2, 64, 2, 0, []) else am_nop)) else (bif Nat.blt k 65 then (bif Nat.beq k 64 then (.iadd, 65, 0, 0, []) else am_nop) else (bif Nat.blt k 66 then (bif Nat.beq k 65 then (.iaload, 66, 0, 0, []) else am_nop) else (bif Nat.beq k 66 then (.ireturn, 67, 0, 0, []) else am_nop))))))
/-- DeedDesk.clear()I -/
def am_c59 (k : Nat) : am_E := bif Nat.blt k 11 then (bif Nat.blt k 4 then (bif Nat.blt k 1 then (bif Nat.beq k 0 then (.aload_n 0, 1, 0, 0, []) else am_nop) else (bif Nat.beq k 1 then (.getfield 10, 4, 6, 0, [(0, 216)]) else am_nop)) else (bif Nat.blt k 7 then (bif Nat.beq k 4 then (.getfield 41, 7, 3, 1, [(1, 121)]) else am_nop) else (bif Nat.blt k 10 then (bif Nat.beq k 7 then (.getfield 97, 10, 2, 1, [(1, 98)]) else am_nop) else (bif Nat.beq k 10 then (.istore_n 1, 11, 1, 0, []) else am_nop)))) else (bif Nat.blt k 18 then (bif Nat.blt k 12 then (bif Nat.beq k 11 then (.aload_n 0, 12, 0, 0, []) else am_nop) else (bif Nat.blt k 15 then (bif Nat.beq k 12 then (.getfield 10, 15, 6, 0, [(0, 216)]) else am_nop) else (bif Nat.beq k 15 then (.getfield 41, 18, 3, 1, [(1, 121)]) else am_nop))) else (bif Nat.blt k 21 then (bif Nat.beq k 18 then (.invokevirtual 141, 21, 26, 0, [(0, 355)]) else am_nop) else (bif Nat.blt k 22 then (bif Nat.beq k 21 then (.iload_n 1, 22, 1, 0, []) else am_nop) else (bif Nat.beq k 22 then (.ireturn, 23, 0, 0, []) else am_nop))))
/-- DeedDesk.denied(I)I -/
def am_c60 (k : Nat) : am_E := bif Nat.blt k 28 then (bif Nat.blt k 15 then (bif Nat.blt k 7 then (bif Nat.blt k 1 then (bif Nat.beq k 0 then (.aload_n 0, 1, 0, 0, []) else am_nop) else (bif Nat.blt k 4 then (bif Nat.beq k 1 then (.getfield 10, 4, 6, 0, [(0, 216)]) else am_nop) else (bif Nat.beq k 4 then (.getfield 41, 7, 3, 1, [(1, 121)]) else am_nop))) else (bif Nat.blt k 11 then (bif Nat.blt k 8 then (bif Nat.beq k 7 then (.iload_n 1, 8, 1, 0, []) else am_nop) else (bif Nat.beq k 8 then (.invokevirtual 128, 11, 20, 0, [(0, 334)]) else am_nop)) else (bif Nat.blt k 14 then (bif Nat.beq k 11 then (.ifCond .ne 5, 14, 16, 0, []) else am_nop) else (bif Nat.beq k 14 then (.iconst (-1), 15, 0, 0, [(-1, 0)]) else am_nop)))) else (bif Nat.blt k 20 then (bif Nat.blt k 16 then (bif Nat.beq k 15 then (.ireturn, 16, 0, 0, []) else am_nop) else (bif Nat.blt k 17 then (bif Nat.beq k 16 then (.aload_n 0, 17, 0, 0, []) else am_nop) else (bif Nat.beq k 17 then (.getfield 10, 20, 6, 0, [(0, 216)]) else am_nop))) else (bif Nat.blt k 24 then (bif Nat.blt k 23 then (bif Nat.beq k 20 then (.getfield 41, 23, 3, 1, [(1, 121)]) else am_nop) else (bif Nat.beq k 23 then (.iload_n 1, 24, 1, 0, []) else am_nop)) else (bif Nat.blt k 27 then (bif Nat.beq k 24 then (.invokevirtual 144, 27, 21, 0, [(0, 363)]) else am_nop) else (bif Nat.beq k 27 then (.iconst 5, 28, 0, 0, [(5, 0)]) else am_nop))))) else (bif Nat.blt k 42 then (bif Nat.blt k 34 then (bif Nat.blt k 31 then (bif Nat.beq k 28 then (.if_icmp .ge 6, 31, 34, 0, []) else am_nop) else (bif Nat.blt k 33 then (bif Nat.beq k 31 then (.bipush (-12), 33, 0, 0, [(-12, 0)]) else am_nop) else (bif Nat.beq k 33 then (.ireturn, 34, 0, 0, []) else am_nop))) else (bif Nat.blt k 38 then (bif Nat.blt k 35 then (bif Nat.beq k 34 then (.aload_n 0, 35, 0, 0, []) else am_nop) else (bif Nat.beq k 35 then (.getfield 19, 38, 6, 1, [(0, 217)]) else am_nop)) else (bif Nat.blt k 39 then (bif Nat.beq k 38 then (.aload_n 0, 39, 0, 0, []) else am_nop) else (bif Nat.beq k 39 then (.getfield 10, 42, 6, 0, [(0, 216)]) else am_nop)))) else (bif Nat.blt k 49 then (bif Nat.blt k 43 then (bif Nat.beq k 42 then (.iload_n 1, 43, 1, 0, []) else am_nop) else (bif Nat.blt k 46 then (bif Nat.beq k 43 then (.invokevirtual 147, 46, 42, 0, [(0, 364)]) else am_nop) else (bif Nat.beq k 46 then (.ifCond .eq 7, 49, 53, 0, []) else am_nop))) else (bif Nat.blt k 53 then (bif Nat.blt k 50 then (bif Nat.beq k 49 then (.iconst 1, 50, 0, 0, [(1, 0)]) else am_nop) else (bif Nat.beq k 50 then (.goto 4, 53, 54, 0, []) else am_nop)) else (bif Nat.blt k 54 then (bif Nat.beq k 53 then (.iconst 0, 54, 0, 0, [(0, 0)]) else am_nop) else (bif Nat.beq k 54 then (.ireturn, 55, 0, 0, []) else am_nop)))))
/-- DeedDesk.suspects()I -/
def am_c61 (k : Nat) : am_E := bif Nat.blt k 12 then (bif Nat.blt k 5 then (bif Nat.blt k 1 then (bif Nat.beq k 0 then (.aload_n 0, 1, 0, 0, []) else am_nop) else (bif Nat.blt k 4 then (bif Nat.beq k 1 then (.getfield 19, 4, 6, 1, [(0, 217)]) else am_nop) else (bif Nat.beq k 4 then (.aload_n 0, 5, 0, 0, []) else am_nop))) else (bif Nat.blt k 8 then (bif Nat.beq k 5 then (.getfield 10, 8, 6, 0, [(0, 216)]) else am_nop) else (bif Nat.blt k 9 then (bif Nat.beq k 8 then (.aload_n 0, 9, 0, 0, []) else am_nop) else (bif Nat.beq k 9 then (.getfield 10, 12, 6, 0, [(0, 216)]) else am_nop)))) else (bif Nat.blt k 19 then (bif Nat.blt k 15 then (bif Nat.beq k 12 then (.getfield 41, 15, 3, 1, [(1, 121)]) else am_nop) else (bif Nat.blt k 18 then (bif Nat.beq k 15 then (.getfield 151, 18, 2, 2, [(1, 100)]) else am_nop) else (bif Nat.beq k 18 then (.aload_n 0, 19, 0, 0, []) else am_nop))) else (bif Nat.blt k 25 then (bif Nat.blt k 22 then (bif Nat.beq k 19 then (.getfield 10, 22, 6, 0, [(0, 216)]) else am_nop) else (bif Nat.beq k 22 then (.invokevirtual 154, 25, 33, 0, [(0, 402)]) else am_nop)) else (bif Nat.blt k 28 then (bif Nat.beq k 25 then (.invokevirtual 158, 28, 39, 0, [(0, 406)]) else am_nop) else (bif Nat.beq k 28 then (.ireturn, 29, 0, 0, []) else am_nop))))
/-- DeedDesk.with(I)I -/
def am_c62 (k : Nat) : am_E := bif Nat.blt k 17 then (bif Nat.blt k 8 then (bif Nat.blt k 4 then (bif Nat.blt k 1 then (bif Nat.beq k 0 then (.aload_n 0, 1, 0, 0, []) else am_nop) else (bif Nat.beq k 1 then (.getfield 10, 4, 6, 0, [(0, 216)]) else am_nop)) else (bif Nat.blt k 5 then (bif Nat.beq k 4 then (.iload_n 1, 5, 1, 0, []) else am_nop) else (bif Nat.beq k 5 then (.invokevirtual 84, 8, 32, 0, [(0, 281)]) else am_nop))) else (bif Nat.blt k 12 then (bif Nat.blt k 11 then (bif Nat.beq k 8 then (.ifCond .ne 5, 11, 13, 0, []) else am_nop) else (bif Nat.beq k 11 then (.iconst (-1), 12, 0, 0, [(-1, 0)]) else am_nop)) else (bif Nat.blt k 13 then (bif Nat.beq k 12 then (.ireturn, 13, 0, 0, []) else am_nop) else (bif Nat.blt k 14 then (bif Nat.beq k 13 then (.aload_n 0, 14, 0, 0, []) else am_nop) else (bif Nat.beq k 14 then (.getfield 19, 17, 6, 1, [(0, 217)]) else am_nop))))) else (bif Nat.blt k 25 then (bif Nat.blt k 21 then (bif Nat.blt k 18 then (bif Nat.beq k 17 then (.aload_n 0, 18, 0, 0, []) else am_nop) else (bif Nat.beq k 18 then (.getfield 10, 21, 6, 0, [(0, 216)]) else am_nop)) else (bif Nat.blt k 22 then (bif Nat.beq k 21 then (.aload_n 0, 22, 0, 0, []) else am_nop) else (bif Nat.beq k 22 then (.getfield 10, 25, 6, 0, [(0, 216)]) else am_nop))) else (bif Nat.blt k 31 then (bif Nat.blt k 28 then (bif Nat.beq k 25 then (.getfield 41, 28, 3, 1, [(1, 121)]) else am_nop) else (bif Nat.beq k 28 then (.getfield 151, 31, 2, 2, [(1, 100)]) else am_nop)) else (bif Nat.blt k 32 then (bif Nat.beq k 31 then (.iload_n 1, 32, 1, 0, []) else am_nop) else (bif Nat.blt k 35 then (bif Nat.beq k 32 then (.invokevirtual 162, 35, 40, 0, [(0, 430)]) else am_nop) else (bif Nat.beq k 35 then (.ireturn, 36, 0, 0, []) else am_nop)))))
/-- DeedDesk.way(III)I -/
def am_c63 (k : Nat) : am_E := bif Nat.blt k 36 then (bif Nat.blt k 19 then (bif Nat.blt k 8 then (bif Nat.blt k 4 then (bif Nat.blt k 1 then (bif Nat.beq k 0 then (.aload_n 0, 1, 0, 0, []) else am_nop) else (bif Nat.beq k 1 then (.getfield 10, 4, 6, 0, [(0, 216)]) else am_nop)) else (bif Nat.blt k 5 then (bif Nat.beq k 4 then (.iload_n 1, 5, 1, 0, []) else am_nop) else (bif Nat.beq k 5 then (.invokevirtual 84, 8, 32, 0, [(0, 281)]) else am_nop))) else (bif Nat.blt k 12 then (bif Nat.blt k 11 then (bif Nat.beq k 8 then (.ifCond .eq 17, 11, 25, 0, []) else am_nop) else (bif Nat.beq k 11 then (.iload_n 2, 12, 2, 0, []) else am_nop)) else (bif Nat.blt k 15 then (bif Nat.beq k 12 then (.invokestatic 74, 15, 75, 0, [(0, 271)]) else am_nop) else (bif Nat.blt k 18 then (bif Nat.beq k 15 then (.ifCond .eq 10, 18, 25, 0, []) else am_nop) else (bif Nat.beq k 18 then (.iload_n 3, 19, 3, 0, []) else am_nop))))) else (bif Nat.blt k 27 then (bif Nat.blt k 25 then (bif Nat.blt k 22 then (bif Nat.beq k 19 then (.invokestatic 81, 22, 74, 0, [(0, 278)]) else am_nop) else (bif Nat.beq k 22 then (.ifCond .ne 5, 25, 27, 0, []) else am_nop)) else (bif Nat.blt k 26 then (bif Nat.beq k 25 then (.iconst (-1), 26, 0, 0, [(-1, 0)]) else am_nop) else (bif Nat.beq k 26 then (.ireturn, 27, 0, 0, []) else am_nop))) else (bif Nat.blt k 31 then (bif Nat.blt k 28 then (bif Nat.beq k 27 then (.aload_n 0, 28, 0, 0, []) else am_nop) else (bif Nat.beq k 28 then (.getfield 19, 31, 6, 1, [(0, 217)]) else am_nop)) else (bif Nat.blt k 32 then (bif Nat.beq k 31 then (.aload_n 0, 32, 0, 0, []) else am_nop) else (bif Nat.blt k 35 then (bif Nat.beq k 32 then (.getfield 10, 35, 6, 0, [(0, 216)]) else am_nop) else (bif Nat.beq k 35 then (.aload_n 0, 36, 0, 0, []) else am_nop)))))) else (bif Nat.blt k 58 then (bif Nat.blt k 46 then (bif Nat.blt k 42 then (bif Nat.blt k 39 then (bif Nat.beq k 36 then (.getfield 10, 39, 6, 0, [(0, 216)]) else am_nop) else (bif Nat.beq k 39 then (.getfield 41, 42, 3, 1, [(1, 121)]) else am_nop)) else (bif Nat.blt k 45 then (bif Nat.beq k 42 then (.getfield 151, 45, 2, 2, [(1, 100)]) else am_nop) else (bif Nat.beq k 45 then (.iload_n 1, 46, 1, 0, []) else am_nop))) else (bif Nat.blt k 50 then (bif Nat.blt k 49 then (bif Nat.beq k 46 then (.invokevirtual 162, 49, 40, 0, [(0, 430)]) else am_nop) else (bif Nat.beq k 49 then (.iload_n 2, 50, 2, 0, []) else am_nop)) else (bif Nat.blt k 53 then (bif Nat.beq k 50 then (.invokestatic 165, 53, 78, 0, [(0, 435)]) else am_nop) else (bif Nat.blt k 56 then (bif Nat.beq k 53 then (.ifCond .ne 6, 56, 59, 0, []) else am_nop) else (bif Nat.beq k 56 then (.bipush (-4), 58, 0, 0, [(-4, 0)]) else am_nop))))) else (bif Nat.blt k 67 then (bif Nat.blt k 60 then (bif Nat.blt k 59 then (bif Nat.beq k 58 then (.ireturn, 59, 0, 0, []) else am_nop) else (bif Nat.beq k 59 then (.aload_n 0, 60, 0, 0, []) else am_nop)) else (bif Nat.blt k 63 then (bif Nat.beq k 60 then (.getfield 19, 63, 6, 1, [(0, 217)]) else am_nop) else (bif Nat.blt k 64 then (bif Nat.beq k 63 then (.aload_n 0, 64, 0, 0, []) else am_nop) else (bif Nat.beq k 64 then (.getfield 10, 67, 6, 0, [(0, 216)]) else am_nop)))) else (bif Nat.blt k 69 then (bif Nat.blt k 68 then (bif Nat.beq k 67 then (.iload_n 1, 68, 1, 0, []) else am_nop) else (bif Nat.beq k 68 then (.iload_n 2, 69, 2, 0, []) else am_nop)) else (bif Nat.blt k 70 then (bif Nat.beq k 69 then (.iload_n 3, 70, 3, 0, []) else am_nop) else (bif Nat.blt k 73 then (bif Nat.beq k 70 then (.invokevirtual 168, 73, 41, 0, [(0, 436)]) else am_nop) else (bif Nat.beq k 73 then (.ireturn, 74, 0, 0, []) else am_nop))))))
/-- DeedDesk.doer()I -/
def am_c64 (k : Nat) : am_E := bif Nat.blt k 10 then (bif Nat.blt k 5 then (bif Nat.blt k 1 then (bif Nat.beq k 0 then (.aload_n 0, 1, 0, 0, []) else am_nop) else (bif Nat.blt k 4 then (bif Nat.beq k 1 then (.invokevirtual 172, 4, 61, 0, [(0, 447)]) else am_nop) else (bif Nat.beq k 4 then (.istore_n 1, 5, 1, 0, []) else am_nop))) else (bif Nat.blt k 6 then (bif Nat.beq k 5 then (.iload_n 1, 6, 1, 0, []) else am_nop) else (bif Nat.blt k 9 then (bif Nat.beq k 6 then (.invokestatic 175, 9, 136, 0, [(0, 448)]) else am_nop) else (bif Nat.beq k 9 then (.iconst 1, 10, 0, 0, [(1, 0)]) else am_nop)))) else (bif Nat.blt k 17 then (bif Nat.blt k 13 then (bif Nat.beq k 10 then (.if_icmp .ne 10, 13, 20, 0, []) else am_nop) else (bif Nat.blt k 14 then (bif Nat.beq k 13 then (.iload_n 1, 14, 1, 0, []) else am_nop) else (bif Nat.beq k 14 then (.invokestatic 180, 17, 79, 0, [(0, 454)]) else am_nop))) else (bif Nat.blt k 20 then (bif Nat.beq k 17 then (.goto 5, 20, 22, 0, []) else am_nop) else (bif Nat.blt k 22 then (bif Nat.beq k 20 then (.bipush (-4), 22, 0, 0, [(-4, 0)]) else am_nop) else (bif Nat.beq k 22 then (.ireturn, 23, 0, 0, []) else am_nop))))
/-- DeedDesk.next()I -/
def am_c65 (k : Nat) : am_E := bif Nat.blt k 52 then (bif Nat.blt k 20 then (bif Nat.blt k 10 then (bif Nat.blt k 5 then (bif Nat.blt k 1 then (bif Nat.beq k 0 then (.aload_n 0, 1, 0, 0, []) else am_nop) else (bif Nat.blt k 4 then (bif Nat.beq k 1 then (.invokevirtual 172, 4, 61, 0, [(0, 447)]) else am_nop) else (bif Nat.beq k 4 then (.istore_n 1, 5, 1, 0, []) else am_nop))) else (bif Nat.blt k 7 then (bif Nat.beq k 5 then (.bipush (-4), 7, 0, 0, [(-4, 0)]) else am_nop) else (bif Nat.blt k 8 then (bif Nat.beq k 7 then (.istore_n 2, 8, 2, 0, []) else am_nop) else (bif Nat.beq k 8 then (.bipush 7, 10, 0, 0, [(7, 0)]) else am_nop)))) else (bif Nat.blt k 14 then (bif Nat.blt k 11 then (bif Nat.beq k 10 then (.istore_n 3, 11, 3, 0, []) else am_nop) else (bif Nat.blt k 12 then (bif Nat.beq k 11 then (.iconst 0, 12, 0, 0, [(0, 0)]) else am_nop) else (bif Nat.beq k 12 then (.istore 4, 14, 4, 0, []) else am_nop))) else (bif Nat.blt k 16 then (bif Nat.beq k 14 then (.iload 4, 16, 4, 0, []) else am_nop) else (bif Nat.blt k 17 then (bif Nat.beq k 16 then (.aload_n 0, 17, 0, 0, []) else am_nop) else (bif Nat.beq k 17 then (.getfield 10, 20, 6, 0, [(0, 216)]) else am_nop))))) else (bif Nat.blt k 36 then (bif Nat.blt k 29 then (bif Nat.blt k 23 then (bif Nat.beq k 20 then (.getfield 41, 23, 3, 1, [(1, 121)]) else am_nop) else (bif Nat.blt k 26 then (bif Nat.beq k 23 then (.getfield 97, 26, 2, 1, [(1, 98)]) else am_nop) else (bif Nat.beq k 26 then (.if_icmp .ge 74, 29, 100, 0, []) else am_nop))) else (bif Nat.blt k 30 then (bif Nat.beq k 29 then (.aload_n 0, 30, 0, 0, []) else am_nop) else (bif Nat.blt k 33 then (bif Nat.beq k 30 then (.getfield 10, 33, 6, 0, [(0, 216)]) else am_nop) else (bif Nat.beq k 33 then (.getfield 41, 36, 3, 1, [(1, 121)]) else am_nop)))) else (bif Nat.blt k 44 then (bif Nat.blt k 38 then (bif Nat.beq k 36 then (.iload 4, 38, 4, 0, []) else am_nop) else (bif Nat.blt k 41 then (bif Nat.beq k 38 then (.invokevirtual 131, 41, 28, 0, [(0, 338)]) else am_nop) else (bif Nat.beq k 41 then (.ifCond .ne 53, 44, 94, 0, []) else am_nop))) else (bif Nat.blt k 48 then (bif Nat.blt k 45 then (bif Nat.beq k 44 then (.aload_n 0, 45, 0, 0, []) else am_nop) else (bif Nat.beq k 45 then (.getfield 19, 48, 6, 1, [(0, 217)]) else am_nop)) else (bif Nat.blt k 49 then (bif Nat.beq k 48 then (.aload_n 0, 49, 0, 0, []) else am_nop) else (bif Nat.beq k 49 then (.getfield 10, 52, 6, 0, [(0, 216)]) else am_nop)))))) else (bif Nat.blt k 78 then (bif Nat.blt k 65 then (bif Nat.blt k 59 then (bif Nat.blt k 53 then (bif Nat.beq k 52 then (.aload_n 0, 53, 0, 0, []) else am_nop) else (bif Nat.blt k 56 then (bif Nat.beq k 53 then (.getfield 10, 56, 6, 0, [(0, 216)]) else am_nop) else (bif Nat.beq k 56 then (.getfield 41, 59, 3, 1, [(1, 121)]) else am_nop))) else (bif Nat.blt k 62 then (bif Nat.beq k 59 then (.getfield 151, 62, 2, 2, [(1, 100)]) else am_nop) else (bif Nat.blt k 63 then (bif Nat.beq k 62 then (.iconst 1, 63, 0, 0, [(1, 0)]) else am_nop) else (bif Nat.beq k 63 then (.iload 4, 65, 4, 0, []) else am_nop)))) else (bif Nat.blt k 68 then (bif Nat.blt k 66 then (bif Nat.beq k 65 then (.ishl, 66, 0, 0, []) else am_nop) else (bif Nat.blt k 67 then (bif Nat.beq k 66 then (.ior, 67, 0, 0, []) else am_nop) else (bif Nat.beq k 67 then (.iload_n 1, 68, 1, 0, []) else am_nop))) else (bif Nat.blt k 74 then (bif Nat.blt k 71 then (bif Nat.beq k 68 then (.invokevirtual 158, 71, 39, 0, [(0, 406)]) else am_nop) else (bif Nat.beq k 71 then (.invokestatic 175, 74, 136, 0, [(0, 448)]) else am_nop)) else (bif Nat.blt k 76 then (bif Nat.beq k 74 then (.istore 5, 76, 5, 0, []) else am_nop) else (bif Nat.beq k 76 then (.iload 5, 78, 5, 0, []) else am_nop))))) else (bif Nat.blt k 90 then (bif Nat.blt k 84 then (bif Nat.blt k 79 then (bif Nat.beq k 78 then (.iconst 1, 79, 0, 0, [(1, 0)]) else am_nop) else (bif Nat.blt k 82 then (bif Nat.beq k 79 then (.if_icmp .lt 15, 82, 94, 0, []) else am_nop) else (bif Nat.beq k 82 then (.iload 5, 84, 5, 0, []) else am_nop))) else (bif Nat.blt k 85 then (bif Nat.beq k 84 then (.iload_n 3, 85, 3, 0, []) else am_nop) else (bif Nat.blt k 88 then (bif Nat.beq k 85 then (.if_icmp .ge 9, 88, 94, 0, []) else am_nop) else (bif Nat.beq k 88 then (.iload 5, 90, 5, 0, []) else am_nop)))) else (bif Nat.blt k 94 then (bif Nat.blt k 91 then (bif Nat.beq k 90 then (.istore_n 3, 91, 3, 0, []) else am_nop) else (bif Nat.blt k 93 then (bif Nat.beq k 91 then (.iload 4, 93, 4, 0, []) else am_nop) else (bif Nat.beq k 93 then (.istore_n 2, 94, 2, 0, []) else am_nop))) else (bif Nat.blt k 100 then (bif Nat.blt k 97 then (bif Nat.beq k 94 then (.iinc 4 1, 97, 4, 0, [(1, 0)]) else am_nop) else (bif Nat.beq k 97 then (.goto (-83), 100, 14, 0, []) else am_nop)) else (bif Nat.blt k 101 then (bif Nat.beq k 100 then (.iload_n 2, 101, 2, 0, []) else am_nop) else (bif Nat.beq k 101 then (.ireturn, 102, 0, 0, []) else am_nop))))))
/-- DeedDesk.fewest()I -/
def am_c66 (k : Nat) : am_E := bif Nat.blt k 9 then (bif Nat.blt k 4 then (bif Nat.blt k 1 then (bif Nat.beq k 0 then (.aload_n 0, 1, 0, 0, []) else am_nop) else (bif Nat.beq k 1 then (.invokevirtual 183, 4, 67, 0, [(0, 463)]) else am_nop)) else (bif Nat.blt k 5 then (bif Nat.beq k 4 then (.istore_n 1, 5, 1, 0, []) else am_nop) else (bif Nat.blt k 6 then (bif Nat.beq k 5 then (.iload_n 1, 6, 1, 0, []) else am_nop) else (bif Nat.beq k 6 then (.ifCond .ge 7, 9, 13, 0, []) else am_nop)))) else (bif Nat.blt k 13 then (bif Nat.blt k 10 then (bif Nat.beq k 9 then (.iload_n 1, 10, 1, 0, []) else am_nop) else (bif Nat.beq k 10 then (.goto 7, 13, 17, 0, []) else am_nop)) else (bif Nat.blt k 14 then (bif Nat.beq k 13 then (.iload_n 1, 14, 1, 0, []) else am_nop) else (bif Nat.blt k 17 then (bif Nat.beq k 14 then (.invokestatic 175, 17, 136, 0, [(0, 448)]) else am_nop) else (bif Nat.beq k 17 then (.ireturn, 18, 0, 0, []) else am_nop))))
/-- DeedDesk.least()I -/
def am_c67 (k : Nat) : am_E := bif Nat.blt k 30 then (bif Nat.blt k 17 then (bif Nat.blt k 7 then (bif Nat.blt k 1 then (bif Nat.beq k 0 then (.aload_n 0, 1, 0, 0, []) else am_nop) else (bif Nat.blt k 4 then (bif Nat.beq k 1 then (.getfield 10, 4, 6, 0, [(0, 216)]) else am_nop) else (bif Nat.beq k 4 then (.getfield 41, 7, 3, 1, [(1, 121)]) else am_nop))) else (bif Nat.blt k 12 then (bif Nat.blt k 10 then (bif Nat.beq k 7 then (.getfield 97, 10, 2, 1, [(1, 98)]) else am_nop) else (bif Nat.beq k 10 then (.bipush 12, 12, 0, 0, [(12, 0)]) else am_nop)) else (bif Nat.blt k 15 then (bif Nat.beq k 12 then (.if_icmp .le 6, 15, 18, 0, []) else am_nop) else (bif Nat.beq k 15 then (.bipush (-3), 17, 0, 0, [(-3, 0)]) else am_nop)))) else (bif Nat.blt k 22 then (bif Nat.blt k 18 then (bif Nat.beq k 17 then (.ireturn, 18, 0, 0, []) else am_nop) else (bif Nat.blt k 19 then (bif Nat.beq k 18 then (.aload_n 0, 19, 0, 0, []) else am_nop) else (bif Nat.beq k 19 then (.getfield 10, 22, 6, 0, [(0, 216)]) else am_nop))) else (bif Nat.blt k 26 then (bif Nat.blt k 23 then (bif Nat.beq k 22 then (.aload_n 0, 23, 0, 0, []) else am_nop) else (bif Nat.beq k 23 then (.getfield 19, 26, 6, 1, [(0, 217)]) else am_nop)) else (bif Nat.blt k 27 then (bif Nat.beq k 26 then (.aload_n 0, 27, 0, 0, []) else am_nop) else (bif Nat.beq k 27 then (.getfield 10, 30, 6, 0, [(0, 216)]) else am_nop))))) else (bif Nat.blt k 45 then (bif Nat.blt k 37 then (bif Nat.blt k 33 then (bif Nat.beq k 30 then (.getfield 41, 33, 3, 1, [(1, 121)]) else am_nop) else (bif Nat.blt k 36 then (bif Nat.beq k 33 then (.getfield 97, 36, 2, 1, [(1, 98)]) else am_nop) else (bif Nat.beq k 36 then (.iconst 0, 37, 0, 0, [(0, 0)]) else am_nop))) else (bif Nat.blt k 41 then (bif Nat.blt k 38 then (bif Nat.beq k 37 then (.aload_n 0, 38, 0, 0, []) else am_nop) else (bif Nat.beq k 38 then (.getfield 19, 41, 6, 1, [(0, 217)]) else am_nop)) else (bif Nat.blt k 42 then (bif Nat.beq k 41 then (.aload_n 0, 42, 0, 0, []) else am_nop) else (bif Nat.beq k 42 then (.getfield 10, 45, 6, 0, [(0, 216)]) else am_nop)))) else (bif Nat.blt k 53 then (bif Nat.blt k 47 then (bif Nat.blt k 46 then (bif Nat.beq k 45 then (.iconst 0, 46, 0, 0, [(0, 0)]) else am_nop) else (bif Nat.beq k 46 then (.aload_n 0, 47, 0, 0, []) else am_nop)) else (bif Nat.blt k 50 then (bif Nat.beq k 47 then (.getfield 10, 50, 6, 0, [(0, 216)]) else am_nop) else (bif Nat.beq k 50 then (.invokevirtual 154, 53, 33, 0, [(0, 402)]) else am_nop))) else (bif Nat.blt k 58 then (bif Nat.blt k 56 then (bif Nat.beq k 53 then (.invokevirtual 158, 56, 39, 0, [(0, 406)]) else am_nop) else (bif Nat.beq k 56 then (.bipush (-4), 58, 0, 0, [(-4, 0)]) else am_nop)) else (bif Nat.blt k 61 then (bif Nat.beq k 58 then (.invokestatic 186, 61, 82, 0, [(0, 467)]) else am_nop) else (bif Nat.beq k 61 then (.ireturn, 62, 0, 0, []) else am_nop)))))
/-- DeedDesk.claim(I)I -/
def am_c68 (k : Nat) : am_E := bif Nat.blt k 50 then (bif Nat.blt k 23 then (bif Nat.blt k 12 then (bif Nat.blt k 5 then (bif Nat.blt k 1 then (bif Nat.beq k 0 then (.aload_n 0, 1, 0, 0, []) else am_nop) else (bif Nat.blt k 4 then (bif Nat.beq k 1 then (.getfield 10, 4, 6, 0, [(0, 216)]) else am_nop) else (bif Nat.beq k 4 then (.iload_n 1, 5, 1, 0, []) else am_nop))) else (bif Nat.blt k 8 then (bif Nat.beq k 5 then (.invokevirtual 84, 8, 32, 0, [(0, 281)]) else am_nop) else (bif Nat.blt k 11 then (bif Nat.beq k 8 then (.ifCond .ne 5, 11, 13, 0, []) else am_nop) else (bif Nat.beq k 11 then (.iconst (-1), 12, 0, 0, [(-1, 0)]) else am_nop)))) else (bif Nat.blt k 17 then (bif Nat.blt k 13 then (bif Nat.beq k 12 then (.ireturn, 13, 0, 0, []) else am_nop) else (bif Nat.blt k 14 then (bif Nat.beq k 13 then (.aload_n 0, 14, 0, 0, []) else am_nop) else (bif Nat.beq k 14 then (.getfield 19, 17, 6, 1, [(0, 217)]) else am_nop))) else (bif Nat.blt k 21 then (bif Nat.blt k 18 then (bif Nat.beq k 17 then (.aload_n 0, 18, 0, 0, []) else am_nop) else (bif Nat.beq k 18 then (.getfield 10, 21, 6, 0, [(0, 216)]) else am_nop)) else (bif Nat.blt k 22 then (bif Nat.beq k 21 then (.iconst 0, 22, 0, 0, [(0, 0)]) else am_nop) else (bif Nat.beq k 22 then (.iload_n 1, 23, 1, 0, []) else am_nop))))) else (bif Nat.blt k 35 then (bif Nat.blt k 31 then (bif Nat.blt k 26 then (bif Nat.beq k 23 then (.invokevirtual 162, 26, 40, 0, [(0, 430)]) else am_nop) else (bif Nat.blt k 29 then (bif Nat.beq k 26 then (.ifCond .ne 6, 29, 32, 0, []) else am_nop) else (bif Nat.beq k 29 then (.bipush (-4), 31, 0, 0, [(-4, 0)]) else am_nop))) else (bif Nat.blt k 33 then (bif Nat.blt k 32 then (bif Nat.beq k 31 then (.ireturn, 32, 0, 0, []) else am_nop) else (bif Nat.beq k 32 then (.iconst 0, 33, 0, 0, [(0, 0)]) else am_nop)) else (bif Nat.blt k 34 then (bif Nat.beq k 33 then (.istore_n 2, 34, 2, 0, []) else am_nop) else (bif Nat.beq k 34 then (.iconst 0, 35, 0, 0, [(0, 0)]) else am_nop)))) else (bif Nat.blt k 38 then (bif Nat.blt k 36 then (bif Nat.beq k 35 then (.istore_n 3, 36, 3, 0, []) else am_nop) else (bif Nat.blt k 37 then (bif Nat.beq k 36 then (.iload_n 3, 37, 3, 0, []) else am_nop) else (bif Nat.beq k 37 then (.aload_n 0, 38, 0, 0, []) else am_nop))) else (bif Nat.blt k 44 then (bif Nat.blt k 41 then (bif Nat.beq k 38 then (.getfield 10, 41, 6, 0, [(0, 216)]) else am_nop) else (bif Nat.beq k 41 then (.getfield 41, 44, 3, 1, [(1, 121)]) else am_nop)) else (bif Nat.blt k 47 then (bif Nat.beq k 44 then (.getfield 190, 47, 2, 4, [(1, 104)]) else am_nop) else (bif Nat.beq k 47 then (.if_icmp .ge 49, 50, 96, 0, []) else am_nop)))))) else (bif Nat.blt k 71 then (bif Nat.blt k 62 then (bif Nat.blt k 57 then (bif Nat.blt k 51 then (bif Nat.beq k 50 then (.aload_n 0, 51, 0, 0, []) else am_nop) else (bif Nat.blt k 54 then (bif Nat.beq k 51 then (.getfield 10, 54, 6, 0, [(0, 216)]) else am_nop) else (bif Nat.beq k 54 then (.getfield 41, 57, 3, 1, [(1, 121)]) else am_nop))) else (bif Nat.blt k 60 then (bif Nat.beq k 57 then (.getfield 193, 60, 2, 3, [(1, 102)]) else am_nop) else (bif Nat.blt k 61 then (bif Nat.beq k 60 then (.iload_n 3, 61, 3, 0, []) else am_nop) else (bif Nat.beq k 61 then (.iaload, 62, 0, 0, []) else am_nop)))) else (bif Nat.blt k 66 then (bif Nat.blt k 64 then (bif Nat.beq k 62 then (.istore 4, 64, 4, 0, []) else am_nop) else (bif Nat.blt k 65 then (bif Nat.beq k 64 then (.iload_n 2, 65, 2, 0, []) else am_nop) else (bif Nat.beq k 65 then (.iconst 1, 66, 0, 0, [(1, 0)]) else am_nop))) else (bif Nat.blt k 69 then (bif Nat.blt k 68 then (bif Nat.beq k 66 then (.iload 4, 68, 4, 0, []) else am_nop) else (bif Nat.beq k 68 then (.ishl, 69, 0, 0, []) else am_nop)) else (bif Nat.blt k 70 then (bif Nat.beq k 69 then (.ior, 70, 0, 0, []) else am_nop) else (bif Nat.beq k 70 then (.istore_n 2, 71, 2, 0, []) else am_nop))))) else (bif Nat.blt k 84 then (bif Nat.blt k 76 then (bif Nat.blt k 72 then (bif Nat.beq k 71 then (.aload_n 0, 72, 0, 0, []) else am_nop) else (bif Nat.blt k 75 then (bif Nat.beq k 72 then (.getfield 19, 75, 6, 1, [(0, 217)]) else am_nop) else (bif Nat.beq k 75 then (.aload_n 0, 76, 0, 0, []) else am_nop))) else (bif Nat.blt k 80 then (bif Nat.blt k 79 then (bif Nat.beq k 76 then (.getfield 10, 79, 6, 0, [(0, 216)]) else am_nop) else (bif Nat.beq k 79 then (.iload_n 2, 80, 2, 0, []) else am_nop)) else (bif Nat.blt k 81 then (bif Nat.beq k 80 then (.iload_n 1, 81, 1, 0, []) else am_nop) else (bif Nat.beq k 81 then (.invokevirtual 162, 84, 40, 0, [(0, 430)]) else am_nop)))) else (bif Nat.blt k 90 then (bif Nat.blt k 87 then (bif Nat.beq k 84 then (.ifCond .ne 6, 87, 90, 0, []) else am_nop) else (bif Nat.blt k 89 then (bif Nat.beq k 87 then (.iload 4, 89, 4, 0, []) else am_nop) else (bif Nat.beq k 89 then (.ireturn, 90, 0, 0, []) else am_nop))) else (bif Nat.blt k 96 then (bif Nat.blt k 93 then (bif Nat.beq k 90 then (.iinc 3 1, 93, 3, 0, [(1, 0)]) else am_nop) else (bif Nat.beq k 93 then (.goto (-57), 96, 36, 0, []) else am_nop)) else (bif Nat.blt k 98 then (bif Nat.beq k 96 then (.bipush (-2), 98, 0, 0, [(-2, 0)]) else am_nop) else (bif Nat.beq k 98 then (.ireturn, 99, 0, 0, []) else am_nop))))))
/-- DeedDesk.make(I)I -/
def am_c69 (k : Nat) : am_E := bif Nat.blt k 5 then (bif Nat.blt k 1 then (bif Nat.beq k 0 then (.aload_n 0, 1, 0, 0, []) else am_nop) else (bif Nat.blt k 4 then (bif Nat.beq k 1 then (.getfield 26, 4, 6, 2, [(0, 218)]) else am_nop) else (bif Nat.beq k 4 then (.aload_n 0, 5, 0, 0, []) else am_nop))) else (bif Nat.blt k 9 then (bif Nat.blt k 8 then (bif Nat.beq k 5 then (.getfield 10, 8, 6, 0, [(0, 216)]) else am_nop) else (bif Nat.beq k 8 then (.iload_n 1, 9, 1, 0, []) else am_nop)) else (bif Nat.blt k 12 then (bif Nat.beq k 9 then (.invokevirtual 196, 12, 9, 0, [(0, 479)]) else am_nop) else (bif Nat.beq k 12 then (.ireturn, 13, 0, 0, []) else am_nop)))
/-- DeedDesk.sheet(III)I -/
def am_c70 (k : Nat) : am_E := bif Nat.blt k 23 then (bif Nat.blt k 14 then (bif Nat.blt k 7 then (bif Nat.blt k 1 then (bif Nat.beq k 0 then (.iload_n 1, 1, 1, 0, []) else am_nop) else (bif Nat.blt k 4 then (bif Nat.beq k 1 then (.invokestatic 104, 4, 76, 0, [(0, 312)]) else am_nop) else (bif Nat.beq k 4 then (.ifCond .eq 16, 7, 20, 0, []) else am_nop))) else (bif Nat.blt k 8 then (bif Nat.beq k 7 then (.iload_n 2, 8, 2, 0, []) else am_nop) else (bif Nat.blt k 11 then (bif Nat.beq k 8 then (.invokestatic 107, 11, 77, 0, [(0, 315)]) else am_nop) else (bif Nat.beq k 11 then (.ifCond .eq 9, 14, 20, 0, []) else am_nop)))) else (bif Nat.blt k 20 then (bif Nat.blt k 15 then (bif Nat.beq k 14 then (.iload_n 3, 15, 3, 0, []) else am_nop) else (bif Nat.blt k 17 then (bif Nat.beq k 15 then (.bipush 60, 17, 0, 0, [(60, 0)]) else am_nop) else (bif Nat.beq k 17 then (.if_icmp .le 5, 20, 22, 0, []) else am_nop))) else (bif Nat.blt k 21 then (bif Nat.beq k 20 then (.iconst (-1), 21, 0, 0, [(-1, 0)]) else am_nop) else (bif Nat.blt k 22 then (bif Nat.beq k 21 then (.ireturn, 22, 0, 0, []) else am_nop) else (bif Nat.beq k 22 then (.iload_n 3, 23, 3, 0, []) else am_nop))))) else (bif Nat.blt k 34 then (bif Nat.blt k 29 then (bif Nat.blt k 26 then (bif Nat.beq k 23 then (.ifCond .ge 6, 26, 29, 0, []) else am_nop) else (bif Nat.blt k 28 then (bif Nat.beq k 26 then (.bipush (-14), 28, 0, 0, [(-14, 0)]) else am_nop) else (bif Nat.beq k 28 then (.ireturn, 29, 0, 0, []) else am_nop))) else (bif Nat.blt k 30 then (bif Nat.beq k 29 then (.aload_n 0, 30, 0, 0, []) else am_nop) else (bif Nat.blt k 33 then (bif Nat.beq k 30 then (.getfield 32, 33, 6, 3, [(0, 219)]) else am_nop) else (bif Nat.beq k 33 then (.iload_n 1, 34, 1, 0, []) else am_nop)))) else (bif Nat.blt k 37 then (bif Nat.blt k 35 then (bif Nat.beq k 34 then (.aaload, 35, 0, 0, []) else am_nop) else (bif Nat.blt k 36 then (bif Nat.beq k 35 then (.iload_n 2, 36, 2, 0, []) else am_nop) else (bif Nat.beq k 36 then (.iload_n 3, 37, 3, 0, []) else am_nop))) else (bif Nat.blt k 40 then (bif Nat.beq k 37 then (.invokevirtual 200, 40, 37, 0, [(0, 544)]) else am_nop) else (bif Nat.blt k 41 then (bif Nat.beq k 40 then (.iload_n 3, 41, 3, 0, []) else am_nop) else (bif Nat.beq k 41 then (.ireturn, 42, 0, 0, []) else am_nop)))))
/-- DeedDesk.drop(I)I -/
def am_c71 (k : Nat) : am_E := bif Nat.blt k 17 then (bif Nat.blt k 9 then (bif Nat.blt k 4 then (bif Nat.blt k 1 then (bif Nat.beq k 0 then (.iload_n 1, 1, 1, 0, []) else am_nop) else (bif Nat.beq k 1 then (.invokestatic 104, 4, 76, 0, [(0, 312)]) else am_nop)) else (bif Nat.blt k 7 then (bif Nat.beq k 4 then (.ifCond .ne 5, 7, 9, 0, []) else am_nop) else (bif Nat.blt k 8 then (bif Nat.beq k 7 then (.iconst (-1), 8, 0, 0, [(-1, 0)]) else am_nop) else (bif Nat.beq k 8 then (.ireturn, 9, 0, 0, []) else am_nop)))) else (bif Nat.blt k 14 then (bif Nat.blt k 10 then (bif Nat.beq k 9 then (.aload_n 0, 10, 0, 0, []) else am_nop) else (bif Nat.blt k 13 then (bif Nat.beq k 10 then (.getfield 32, 13, 6, 3, [(0, 219)]) else am_nop) else (bif Nat.beq k 13 then (.iload_n 1, 14, 1, 0, []) else am_nop))) else (bif Nat.blt k 15 then (bif Nat.beq k 14 then (.aaload, 15, 0, 0, []) else am_nop) else (bif Nat.blt k 16 then (bif Nat.beq k 15 then (.astore_n 2, 16, 2, 0, []) else am_nop) else (bif Nat.beq k 16 then (.aload_n 2, 17, 2, 0, []) else am_nop))))) else (bif Nat.blt k 27 then (bif Nat.blt k 21 then (bif Nat.blt k 20 then (bif Nat.beq k 17 then (.getfield 203, 20, 4, 1, [(1, 206)]) else am_nop) else (bif Nat.beq k 20 then (.iconst (-1), 21, 0, 0, [(-1, 0)]) else am_nop)) else (bif Nat.blt k 24 then (bif Nat.beq k 21 then (.if_icmp .ne 6, 24, 27, 0, []) else am_nop) else (bif Nat.blt k 26 then (bif Nat.beq k 24 then (.bipush (-11), 26, 0, 0, [(-11, 0)]) else am_nop) else (bif Nat.beq k 26 then (.ireturn, 27, 0, 0, []) else am_nop)))) else (bif Nat.blt k 32 then (bif Nat.blt k 28 then (bif Nat.beq k 27 then (.aload_n 2, 28, 2, 0, []) else am_nop) else (bif Nat.blt k 29 then (bif Nat.beq k 28 then (.iconst (-1), 29, 0, 0, [(-1, 0)]) else am_nop) else (bif Nat.beq k 29 then (.putfield 203, 32, 4, 1, [(1, 206)]) else am_nop))) else (bif Nat.blt k 33 then (bif Nat.beq k 32 then (.aload_n 2, 33, 2, 0, []) else am_nop) else (bif Nat.blt k 36 then (bif Nat.beq k 33 then (.getfield 114, 36, 4, 2, [(1, 208)]) else am_nop) else (bif Nat.beq k 36 then (.ireturn, 37, 0, 0, []) else am_nop)))))
/-- DeedDesk.item(IIII)I -/
def am_c72 (k : Nat) : am_E := bif Nat.blt k 39 then (bif Nat.blt k 20 then (bif Nat.blt k 11 then (bif Nat.blt k 4 then (bif Nat.blt k 1 then (bif Nat.beq k 0 then (.iload_n 1, 1, 1, 0, []) else am_nop) else (bif Nat.beq k 1 then (.invokestatic 104, 4, 76, 0, [(0, 312)]) else am_nop)) else (bif Nat.blt k 7 then (bif Nat.beq k 4 then (.ifCond .eq 10, 7, 14, 0, []) else am_nop) else (bif Nat.blt k 8 then (bif Nat.beq k 7 then (.iload_n 2, 8, 2, 0, []) else am_nop) else (bif Nat.beq k 8 then (.invokestatic 107, 11, 77, 0, [(0, 315)]) else am_nop)))) else (bif Nat.blt k 15 then (bif Nat.blt k 14 then (bif Nat.beq k 11 then (.ifCond .ne 5, 14, 16, 0, []) else am_nop) else (bif Nat.beq k 14 then (.iconst (-1), 15, 0, 0, [(-1, 0)]) else am_nop)) else (bif Nat.blt k 16 then (bif Nat.beq k 15 then (.ireturn, 16, 0, 0, []) else am_nop) else (bif Nat.blt k 17 then (bif Nat.beq k 16 then (.aload_n 0, 17, 0, 0, []) else am_nop) else (bif Nat.beq k 17 then (.getfield 32, 20, 6, 3, [(0, 219)]) else am_nop))))) else (bif Nat.blt k 27 then (bif Nat.blt k 22 then (bif Nat.blt k 21 then (bif Nat.beq k 20 then (.iload_n 1, 21, 1, 0, []) else am_nop) else (bif Nat.beq k 21 then (.aaload, 22, 0, 0, []) else am_nop)) else (bif Nat.blt k 24 then (bif Nat.beq k 22 then (.astore 5, 24, 5, 0, []) else am_nop) else (bif Nat.blt k 26 then (bif Nat.beq k 24 then (.aload 5, 26, 5, 0, []) else am_nop) else (bif Nat.beq k 26 then (.iload_n 2, 27, 2, 0, []) else am_nop)))) else (bif Nat.blt k 32 then (bif Nat.blt k 30 then (bif Nat.beq k 27 then (.invokevirtual 110, 30, 36, 0, [(0, 318)]) else am_nop) else (bif Nat.beq k 30 then (.istore 6, 32, 6, 0, []) else am_nop)) else (bif Nat.blt k 34 then (bif Nat.beq k 32 then (.iload 6, 34, 6, 0, []) else am_nop) else (bif Nat.blt k 37 then (bif Nat.beq k 34 then (.ifCond .ge 6, 37, 40, 0, []) else am_nop) else (bif Nat.beq k 37 then (.iload 6, 39, 6, 0, []) else am_nop)))))) else (bif Nat.blt k 58 then (bif Nat.blt k 47 then (bif Nat.blt k 41 then (bif Nat.blt k 40 then (bif Nat.beq k 39 then (.ireturn, 40, 0, 0, []) else am_nop) else (bif Nat.beq k 40 then (.iload_n 3, 41, 3, 0, []) else am_nop)) else (bif Nat.blt k 44 then (bif Nat.beq k 41 then (.ifCond .lt 12, 44, 53, 0, []) else am_nop) else (bif Nat.blt k 45 then (bif Nat.beq k 44 then (.iload_n 3, 45, 3, 0, []) else am_nop) else (bif Nat.beq k 45 then (.aload 5, 47, 5, 0, []) else am_nop)))) else (bif Nat.blt k 53 then (bif Nat.blt k 50 then (bif Nat.beq k 47 then (.getfield 114, 50, 4, 2, [(1, 208)]) else am_nop) else (bif Nat.beq k 50 then (.if_icmp .lt 6, 53, 56, 0, []) else am_nop)) else (bif Nat.blt k 55 then (bif Nat.beq k 53 then (.bipush (-13), 55, 0, 0, [(-13, 0)]) else am_nop) else (bif Nat.blt k 56 then (bif Nat.beq k 55 then (.ireturn, 56, 0, 0, []) else am_nop) else (bif Nat.beq k 56 then (.aload 5, 58, 5, 0, []) else am_nop))))) else (bif Nat.blt k 68 then (bif Nat.blt k 62 then (bif Nat.blt k 61 then (bif Nat.beq k 58 then (.getfield 117, 61, 4, 0, [(1, 204)]) else am_nop) else (bif Nat.beq k 61 then (.iload_n 3, 62, 3, 0, []) else am_nop)) else (bif Nat.blt k 63 then (bif Nat.beq k 62 then (.iload_n 2, 63, 2, 0, []) else am_nop) else (bif Nat.blt k 66 then (bif Nat.beq k 63 then (.ifCond .ne 9, 66, 72, 0, []) else am_nop) else (bif Nat.beq k 66 then (.iload 4, 68, 4, 0, []) else am_nop)))) else (bif Nat.blt k 74 then (bif Nat.blt k 69 then (bif Nat.beq k 68 then (.i2b, 69, 0, 0, []) else am_nop) else (bif Nat.blt k 72 then (bif Nat.beq k 69 then (.goto 5, 72, 74, 0, []) else am_nop) else (bif Nat.beq k 72 then (.iload 4, 74, 4, 0, []) else am_nop))) else (bif Nat.blt k 75 then (bif Nat.beq k 74 then (.iastore, 75, 0, 0, []) else am_nop) else (bif Nat.blt k 76 then (bif Nat.beq k 75 then (.iconst 1, 76, 0, 0, [(1, 0)]) else am_nop) else (bif Nat.beq k 76 then (.ireturn, 77, 0, 0, []) else am_nop))))))
/-- DeedDesk.isPlace(I)Z -/
def am_c73 (k : Nat) : am_E := bif Nat.blt k 7 then (bif Nat.blt k 4 then (bif Nat.blt k 1 then (bif Nat.beq k 0 then (.iload_n 0, 1, 0, 0, []) else am_nop) else (bif Nat.beq k 1 then (.ifCond .lt 13, 4, 14, 0, []) else am_nop)) else (bif Nat.blt k 5 then (bif Nat.beq k 4 then (.iload_n 0, 5, 0, 0, []) else am_nop) else (bif Nat.beq k 5 then (.bipush 8, 7, 0, 0, [(8, 0)]) else am_nop))) else (bif Nat.blt k 11 then (bif Nat.blt k 10 then (bif Nat.beq k 7 then (.if_icmp .ge 7, 10, 14, 0, []) else am_nop) else (bif Nat.beq k 10 then (.iconst 1, 11, 0, 0, [(1, 0)]) else am_nop)) else (bif Nat.blt k 14 then (bif Nat.beq k 11 then (.goto 4, 14, 15, 0, []) else am_nop) else (bif Nat.blt k 15 then (bif Nat.beq k 14 then (.iconst 0, 15, 0, 0, [(0, 0)]) else am_nop) else (bif Nat.beq k 15 then (.ireturn, 16, 0, 0, []) else am_nop))))
/-- DeedDesk.isTick(I)Z -/
def am_c74 (k : Nat) : am_E := bif Nat.blt k 7 then (bif Nat.blt k 4 then (bif Nat.blt k 1 then (bif Nat.beq k 0 then (.iload_n 0, 1, 0, 0, []) else am_nop) else (bif Nat.beq k 1 then (.ifCond .lt 13, 4, 14, 0, []) else am_nop)) else (bif Nat.blt k 5 then (bif Nat.beq k 4 then (.iload_n 0, 5, 0, 0, []) else am_nop) else (bif Nat.beq k 5 then (.bipush 10, 7, 0, 0, [(10, 0)]) else am_nop))) else (bif Nat.blt k 11 then (bif Nat.blt k 10 then (bif Nat.beq k 7 then (.if_icmp .ge 7, 10, 14, 0, []) else am_nop) else (bif Nat.beq k 10 then (.iconst 1, 11, 0, 0, [(1, 0)]) else am_nop)) else (bif Nat.blt k 14 then (bif Nat.beq k 11 then (.goto 4, 14, 15, 0, []) else am_nop) else (bif Nat.blt k 15 then (bif Nat.beq k 14 then (.iconst 0, 15, 0, 0, [(0, 0)]) else am_nop) else (bif Nat.beq k 15 then (.ireturn, 16, 0, 0, []) else am_nop))))
/-- DeedDesk.isThing(I)Z -/
def am_c75 (k : Nat) : am_E := bif Nat.blt k 6 then (bif Nat.blt k 4 then (bif Nat.blt k 1 then (bif Nat.beq k 0 then (.iload_n 0, 1, 0, 0, []) else am_nop) else (bif Nat.beq k 1 then (.ifCond .lt 12, 4, 13, 0, []) else am_nop)) else (bif Nat.blt k 5 then (bif Nat.beq k 4 then (.iload_n 0, 5, 0, 0, []) else am_nop) else (bif Nat.beq k 5 then (.iconst 3, 6, 0, 0, [(3, 0)]) else am_nop))) else (bif Nat.blt k 10 then (bif Nat.blt k 9 then (bif Nat.beq k 6 then (.if_icmp .ge 7, 9, 13, 0, []) else am_nop) else (bif Nat.beq k 9 then (.iconst 1, 10, 0, 0, [(1, 0)]) else am_nop)) else (bif Nat.blt k 13 then (bif Nat.beq k 10 then (.goto 4, 13, 14, 0, []) else am_nop) else (bif Nat.blt k 14 then (bif Nat.beq k 13 then (.iconst 0, 14, 0, 0, [(0, 0)]) else am_nop) else (bif Nat.beq k 14 then (.ireturn, 15, 0, 0, []) else am_nop))))
/-- DeedDesk.isSheet(I)Z -/
def am_c76 (k : Nat) : am_E := bif Nat.blt k 6 then (bif Nat.blt k 4 then (bif Nat.blt k 1 then (bif Nat.beq k 0 then (.iload_n 0, 1, 0, 0, []) else am_nop) else (bif Nat.beq k 1 then (.ifCond .lt 12, 4, 13, 0, []) else am_nop)) else (bif Nat.blt k 5 then (bif Nat.beq k 4 then (.iload_n 0, 5, 0, 0, []) else am_nop) else (bif Nat.beq k 5 then (.iconst 2, 6, 0, 0, [(2, 0)]) else am_nop))) else (bif Nat.blt k 10 then (bif Nat.blt k 9 then (bif Nat.beq k 6 then (.if_icmp .ge 7, 9, 13, 0, []) else am_nop) else (bif Nat.beq k 9 then (.iconst 1, 10, 0, 0, [(1, 0)]) else am_nop)) else (bif Nat.blt k 13 then (bif Nat.beq k 10 then (.goto 4, 13, 14, 0, []) else am_nop) else (bif Nat.blt k 14 then (bif Nat.beq k 13 then (.iconst 0, 14, 0, 0, [(0, 0)]) else am_nop) else (bif Nat.beq k 14 then (.ireturn, 15, 0, 0, []) else am_nop))))
/-- DeedDesk.isLane(I)Z -/
def am_c77 (k : Nat) : am_E := bif Nat.blt k 6 then (bif Nat.blt k 4 then (bif Nat.blt k 1 then (bif Nat.beq k 0 then (.iload_n 0, 1, 0, 0, []) else am_nop) else (bif Nat.beq k 1 then (.ifCond .lt 12, 4, 13, 0, []) else am_nop)) else (bif Nat.blt k 5 then (bif Nat.beq k 4 then (.iload_n 0, 5, 0, 0, []) else am_nop) else (bif Nat.beq k 5 then (.iconst 2, 6, 0, 0, [(2, 0)]) else am_nop))) else (bif Nat.blt k 10 then (bif Nat.blt k 9 then (bif Nat.beq k 6 then (.if_icmp .ge 7, 9, 13, 0, []) else am_nop) else (bif Nat.beq k 9 then (.iconst 1, 10, 0, 0, [(1, 0)]) else am_nop)) else (bif Nat.blt k 13 then (bif Nat.beq k 10 then (.goto 4, 13, 14, 0, []) else am_nop) else (bif Nat.blt k 14 then (bif Nat.beq k 13 then (.iconst 0, 14, 0, 0, [(0, 0)]) else am_nop) else (bif Nat.beq k 14 then (.ireturn, 15, 0, 0, []) else am_nop))))
/-- DeedDesk.has(II)Z -/
def am_c78 (k : Nat) : am_E := bif Nat.blt k 5 then (bif Nat.blt k 2 then (bif Nat.blt k 1 then (bif Nat.beq k 0 then (.iload_n 0, 1, 0, 0, []) else am_nop) else (bif Nat.beq k 1 then (.iload_n 1, 2, 1, 0, []) else am_nop)) else (bif Nat.blt k 3 then (bif Nat.beq k 2 then (.ishr, 3, 0, 0, []) else am_nop) else (bif Nat.blt k 4 then (bif Nat.beq k 3 then (.iconst 1, 4, 0, 0, [(1, 0)]) else am_nop) else (bif Nat.beq k 4 then (.iand, 5, 0, 0, []) else am_nop)))) else (bif Nat.blt k 10 then (bif Nat.blt k 6 then (bif Nat.beq k 5 then (.iconst 1, 6, 0, 0, [(1, 0)]) else am_nop) else (bif Nat.blt k 9 then (bif Nat.beq k 6 then (.if_icmp .ne 7, 9, 13, 0, []) else am_nop) else (bif Nat.beq k 9 then (.iconst 1, 10, 0, 0, [(1, 0)]) else am_nop))) else (bif Nat.blt k 13 then (bif Nat.beq k 10 then (.goto 4, 13, 14, 0, []) else am_nop) else (bif Nat.blt k 14 then (bif Nat.beq k 13 then (.iconst 0, 14, 0, 0, [(0, 0)]) else am_nop) else (bif Nat.beq k 14 then (.ireturn, 15, 0, 0, []) else am_nop))))
/-- DeedDesk.first(I)I -/
def am_c79 (k : Nat) : am_E := bif Nat.blt k 10 then (bif Nat.blt k 3 then (bif Nat.blt k 1 then (bif Nat.beq k 0 then (.iconst 0, 1, 0, 0, [(0, 0)]) else am_nop) else (bif Nat.blt k 2 then (bif Nat.beq k 1 then (.istore_n 1, 2, 1, 0, []) else am_nop) else (bif Nat.beq k 2 then (.iload_n 1, 3, 1, 0, []) else am_nop))) else (bif Nat.blt k 8 then (bif Nat.blt k 5 then (bif Nat.beq k 3 then (.bipush 8, 5, 0, 0, [(8, 0)]) else am_nop) else (bif Nat.beq k 5 then (.if_icmp .ge 19, 8, 24, 0, []) else am_nop)) else (bif Nat.blt k 9 then (bif Nat.beq k 8 then (.iload_n 0, 9, 0, 0, []) else am_nop) else (bif Nat.beq k 9 then (.iload_n 1, 10, 1, 0, []) else am_nop)))) else (bif Nat.blt k 18 then (bif Nat.blt k 16 then (bif Nat.blt k 13 then (bif Nat.beq k 10 then (.invokestatic 165, 13, 78, 0, [(0, 435)]) else am_nop) else (bif Nat.beq k 13 then (.ifCond .eq 5, 16, 18, 0, []) else am_nop)) else (bif Nat.blt k 17 then (bif Nat.beq k 16 then (.iload_n 1, 17, 1, 0, []) else am_nop) else (bif Nat.beq k 17 then (.ireturn, 18, 0, 0, []) else am_nop))) else (bif Nat.blt k 24 then (bif Nat.blt k 21 then (bif Nat.beq k 18 then (.iinc 1 1, 21, 1, 0, [(1, 0)]) else am_nop) else (bif Nat.beq k 21 then (.goto (-19), 24, 2, 0, []) else am_nop)) else (bif Nat.blt k 25 then (bif Nat.beq k 24 then (.iconst 0, 25, 0, 0, [(0, 0)]) else am_nop) else (bif Nat.beq k 25 then (.ireturn, 26, 0, 0, []) else am_nop))))
/-- DeedDesk.areFinds([III)Z -/
def am_c80 (k : Nat) : am_E := bif Nat.blt k 32 then (bif Nat.blt k 17 then (bif Nat.blt k 9 then (bif Nat.blt k 3 then (bif Nat.blt k 1 then (bif Nat.beq k 0 then (.iconst 0, 1, 0, 0, [(0, 0)]) else am_nop) else (bif Nat.beq k 1 then (.istore 4, 3, 4, 0, []) else am_nop)) else (bif Nat.blt k 5 then (bif Nat.beq k 3 then (.iload 4, 5, 4, 0, []) else am_nop) else (bif Nat.blt k 6 then (bif Nat.beq k 5 then (.iload_n 3, 6, 3, 0, []) else am_nop) else (bif Nat.beq k 6 then (.if_icmp .ge 57, 9, 63, 0, []) else am_nop)))) else (bif Nat.blt k 13 then (bif Nat.blt k 10 then (bif Nat.beq k 9 then (.iload_n 2, 10, 2, 0, []) else am_nop) else (bif Nat.blt k 12 then (bif Nat.beq k 10 then (.iload 4, 12, 4, 0, []) else am_nop) else (bif Nat.beq k 12 then (.iconst 5, 13, 0, 0, [(5, 0)]) else am_nop))) else (bif Nat.blt k 14 then (bif Nat.beq k 13 then (.imul, 14, 0, 0, []) else am_nop) else (bif Nat.blt k 15 then (bif Nat.beq k 14 then (.iadd, 15, 0, 0, []) else am_nop) else (bif Nat.beq k 15 then (.istore 5, 17, 5, 0, []) else am_nop))))) else (bif Nat.blt k 25 then (bif Nat.blt k 21 then (bif Nat.blt k 18 then (bif Nat.beq k 17 then (.aload_n 0, 18, 0, 0, []) else am_nop) else (bif Nat.beq k 18 then (.getfield 10, 21, 6, 0, [(0, 216)]) else am_nop)) else (bif Nat.blt k 22 then (bif Nat.beq k 21 then (.aload_n 1, 22, 1, 0, []) else am_nop) else (bif Nat.blt k 24 then (bif Nat.beq k 22 then (.iload 5, 24, 5, 0, []) else am_nop) else (bif Nat.beq k 24 then (.iaload, 25, 0, 0, []) else am_nop)))) else (bif Nat.blt k 29 then (bif Nat.blt k 26 then (bif Nat.beq k 25 then (.aload_n 1, 26, 1, 0, []) else am_nop) else (bif Nat.blt k 28 then (bif Nat.beq k 26 then (.iload 5, 28, 5, 0, []) else am_nop) else (bif Nat.beq k 28 then (.iconst 1, 29, 0, 0, [(1, 0)]) else am_nop))) else (bif Nat.blt k 30 then (bif Nat.beq k 29 then (.iadd, 30, 0, 0, []) else am_nop) else (bif Nat.blt k 31 then (bif Nat.beq k 30 then (.iaload, 31, 0, 0, []) else am_nop) else (bif Nat.beq k 31 then (.aload_n 1, 32, 1, 0, []) else am_nop)))))) else (bif Nat.blt k 46 then (bif Nat.blt k 38 then (bif Nat.blt k 35 then (bif Nat.blt k 34 then (bif Nat.beq k 32 then (.iload 5, 34, 5, 0, []) else am_nop) else (bif Nat.beq k 34 then (.iconst 2, 35, 0, 0, [(2, 0)]) else am_nop)) else (bif Nat.blt k 36 then (bif Nat.beq k 35 then (.iadd, 36, 0, 0, []) else am_nop) else (bif Nat.blt k 37 then (bif Nat.beq k 36 then (.iaload, 37, 0, 0, []) else am_nop) else (bif Nat.beq k 37 then (.aload_n 1, 38, 1, 0, []) else am_nop)))) else (bif Nat.blt k 42 then (bif Nat.blt k 40 then (bif Nat.beq k 38 then (.iload 5, 40, 5, 0, []) else am_nop) else (bif Nat.blt k 41 then (bif Nat.beq k 40 then (.iconst 3, 41, 0, 0, [(3, 0)]) else am_nop) else (bif Nat.beq k 41 then (.iadd, 42, 0, 0, []) else am_nop))) else (bif Nat.blt k 43 then (bif Nat.beq k 42 then (.iaload, 43, 0, 0, []) else am_nop) else (bif Nat.blt k 44 then (bif Nat.beq k 43 then (.aload_n 1, 44, 1, 0, []) else am_nop) else (bif Nat.beq k 44 then (.iload 5, 46, 5, 0, []) else am_nop))))) else (bif Nat.blt k 55 then (bif Nat.blt k 48 then (bif Nat.blt k 47 then (bif Nat.beq k 46 then (.iconst 4, 47, 0, 0, [(4, 0)]) else am_nop) else (bif Nat.beq k 47 then (.iadd, 48, 0, 0, []) else am_nop)) else (bif Nat.blt k 49 then (bif Nat.beq k 48 then (.iaload, 49, 0, 0, []) else am_nop) else (bif Nat.blt k 52 then (bif Nat.beq k 49 then (.invokevirtual 93, 52, 34, 0, [(0, 293)]) else am_nop) else (bif Nat.beq k 52 then (.ifCond .ne 5, 55, 57, 0, []) else am_nop)))) else (bif Nat.blt k 60 then (bif Nat.blt k 56 then (bif Nat.beq k 55 then (.iconst 0, 56, 0, 0, [(0, 0)]) else am_nop) else (bif Nat.blt k 57 then (bif Nat.beq k 56 then (.ireturn, 57, 0, 0, []) else am_nop) else (bif Nat.beq k 57 then (.iinc 4 1, 60, 4, 0, [(1, 0)]) else am_nop))) else (bif Nat.blt k 63 then (bif Nat.beq k 60 then (.goto (-57), 63, 3, 0, []) else am_nop) else (bif Nat.blt k 64 then (bif Nat.beq k 63 then (.iconst 1, 64, 0, 0, [(1, 0)]) else am_nop) else (bif Nat.beq k 64 then (.ireturn, 65, 0, 0, []) else am_nop))))))
/-- DeedDesk.layFinds([III)V -/
def am_c81 (k : Nat) : am_E := bif Nat.blt k 32 then (bif Nat.blt k 15 then (bif Nat.blt k 9 then (bif Nat.blt k 3 then (bif Nat.blt k 1 then (bif Nat.beq k 0 then (.iconst 0, 1, 0, 0, [(0, 0)]) else am_nop) else (bif Nat.beq k 1 then (.istore 4, 3, 4, 0, []) else am_nop)) else (bif Nat.blt k 5 then (bif Nat.beq k 3 then (.iload 4, 5, 4, 0, []) else am_nop) else (bif Nat.blt k 6 then (bif Nat.beq k 5 then (.iload_n 3, 6, 3, 0, []) else am_nop) else (bif Nat.beq k 6 then (.if_icmp .ge 55, 9, 61, 0, []) else am_nop)))) else (bif Nat.blt k 12 then (bif Nat.blt k 10 then (bif Nat.beq k 9 then (.iload_n 2, 10, 2, 0, []) else am_nop) else (bif Nat.beq k 10 then (.iload 4, 12, 4, 0, []) else am_nop)) else (bif Nat.blt k 13 then (bif Nat.beq k 12 then (.iconst 5, 13, 0, 0, [(5, 0)]) else am_nop) else (bif Nat.blt k 14 then (bif Nat.beq k 13 then (.imul, 14, 0, 0, []) else am_nop) else (bif Nat.beq k 14 then (.iadd, 15, 0, 0, []) else am_nop))))) else (bif Nat.blt k 25 then (bif Nat.blt k 18 then (bif Nat.blt k 17 then (bif Nat.beq k 15 then (.istore 5, 17, 5, 0, []) else am_nop) else (bif Nat.beq k 17 then (.aload_n 0, 18, 0, 0, []) else am_nop)) else (bif Nat.blt k 21 then (bif Nat.beq k 18 then (.getfield 10, 21, 6, 0, [(0, 216)]) else am_nop) else (bif Nat.blt k 24 then (bif Nat.beq k 21 then (.getfield 41, 24, 3, 1, [(1, 121)]) else am_nop) else (bif Nat.beq k 24 then (.aload_n 1, 25, 1, 0, []) else am_nop)))) else (bif Nat.blt k 28 then (bif Nat.blt k 27 then (bif Nat.beq k 25 then (.iload 5, 27, 5, 0, []) else am_nop) else (bif Nat.beq k 27 then (.iaload, 28, 0, 0, []) else am_nop)) else (bif Nat.blt k 29 then (bif Nat.beq k 28 then (.aload_n 1, 29, 1, 0, []) else am_nop) else (bif Nat.blt k 31 then (bif Nat.beq k 29 then (.iload 5, 31, 5, 0, []) else am_nop) else (bif Nat.beq k 31 then (.iconst 1, 32, 0, 0, [(1, 0)]) else am_nop)))))) else (bif Nat.blt k 44 then (bif Nat.blt k 38 then (bif Nat.blt k 34 then (bif Nat.blt k 33 then (bif Nat.beq k 32 then (.iadd, 33, 0, 0, []) else am_nop) else (bif Nat.beq k 33 then (.iaload, 34, 0, 0, []) else am_nop)) else (bif Nat.blt k 35 then (bif Nat.beq k 34 then (.aload_n 1, 35, 1, 0, []) else am_nop) else (bif Nat.blt k 37 then (bif Nat.beq k 35 then (.iload 5, 37, 5, 0, []) else am_nop) else (bif Nat.beq k 37 then (.iconst 2, 38, 0, 0, [(2, 0)]) else am_nop)))) else (bif Nat.blt k 40 then (bif Nat.blt k 39 then (bif Nat.beq k 38 then (.iadd, 39, 0, 0, []) else am_nop) else (bif Nat.beq k 39 then (.iaload, 40, 0, 0, []) else am_nop)) else (bif Nat.blt k 41 then (bif Nat.beq k 40 then (.aload_n 1, 41, 1, 0, []) else am_nop) else (bif Nat.blt k 43 then (bif Nat.beq k 41 then (.iload 5, 43, 5, 0, []) else am_nop) else (bif Nat.beq k 43 then (.iconst 3, 44, 0, 0, [(3, 0)]) else am_nop))))) else (bif Nat.blt k 50 then (bif Nat.blt k 46 then (bif Nat.blt k 45 then (bif Nat.beq k 44 then (.iadd, 45, 0, 0, []) else am_nop) else (bif Nat.beq k 45 then (.iaload, 46, 0, 0, []) else am_nop)) else (bif Nat.blt k 47 then (bif Nat.beq k 46 then (.aload_n 1, 47, 1, 0, []) else am_nop) else (bif Nat.blt k 49 then (bif Nat.beq k 47 then (.iload 5, 49, 5, 0, []) else am_nop) else (bif Nat.beq k 49 then (.iconst 4, 50, 0, 0, [(4, 0)]) else am_nop)))) else (bif Nat.blt k 55 then (bif Nat.blt k 51 then (bif Nat.beq k 50 then (.iadd, 51, 0, 0, []) else am_nop) else (bif Nat.blt k 52 then (bif Nat.beq k 51 then (.iaload, 52, 0, 0, []) else am_nop) else (bif Nat.beq k 52 then (.invokevirtual 100, 55, 25, 0, [(0, 301)]) else am_nop))) else (bif Nat.blt k 58 then (bif Nat.beq k 55 then (.iinc 4 1, 58, 4, 0, [(1, 0)]) else am_nop) else (bif Nat.blt k 61 then (bif Nat.beq k 58 then (.goto (-55), 61, 3, 0, []) else am_nop) else (bif Nat.beq k 61 then (.return_, 62, 0, 0, []) else am_nop))))))
/-- DeedDesk.search(LDeedDesk$Scene;LDeedDesk$Ways;IIII)I -/
def am_c82 (k : Nat) : am_E := bif Nat.blt k 80 then (bif Nat.blt k 43 then (bif Nat.blt k 21 then (bif Nat.blt k 11 then (bif Nat.blt k 5 then (bif Nat.blt k 2 then (bif Nat.beq k 0 then (.iload 4, 2, 4, 0, []) else am_nop) else (bif Nat.beq k 2 then (.invokestatic 175, 5, 136, 0, [(0, 448)]) else am_nop)) else (bif Nat.blt k 7 then (bif Nat.beq k 5 then (.istore 6, 7, 6, 0, []) else am_nop) else (bif Nat.blt k 8 then (bif Nat.beq k 7 then (.iload_n 3, 8, 3, 0, []) else am_nop) else (bif Nat.beq k 8 then (.invokestatic 175, 11, 136, 0, [(0, 448)]) else am_nop)))) else (bif Nat.blt k 15 then (bif Nat.blt k 13 then (bif Nat.beq k 11 then (.istore 7, 13, 7, 0, []) else am_nop) else (bif Nat.beq k 13 then (.iload 6, 15, 6, 0, []) else am_nop)) else (bif Nat.blt k 16 then (bif Nat.beq k 15 then (.iconst 1, 16, 0, 0, [(1, 0)]) else am_nop) else (bif Nat.blt k 19 then (bif Nat.beq k 16 then (.if_icmp .ne 27, 19, 43, 0, []) else am_nop) else (bif Nat.beq k 19 then (.iload 5, 21, 5, 0, []) else am_nop))))) else (bif Nat.blt k 33 then (bif Nat.blt k 26 then (bif Nat.blt k 23 then (bif Nat.beq k 21 then (.bipush (-4), 23, 0, 0, [(-4, 0)]) else am_nop) else (bif Nat.beq k 23 then (.if_icmp .eq 13, 26, 36, 0, []) else am_nop)) else (bif Nat.blt k 28 then (bif Nat.beq k 26 then (.iload 7, 28, 7, 0, []) else am_nop) else (bif Nat.blt k 30 then (bif Nat.beq k 28 then (.iload 5, 30, 5, 0, []) else am_nop) else (bif Nat.beq k 30 then (.invokestatic 175, 33, 136, 0, [(0, 448)]) else am_nop)))) else (bif Nat.blt k 37 then (bif Nat.blt k 36 then (bif Nat.beq k 33 then (.if_icmp .ge 7, 36, 40, 0, []) else am_nop) else (bif Nat.beq k 36 then (.iload_n 3, 37, 3, 0, []) else am_nop)) else (bif Nat.blt k 40 then (bif Nat.beq k 37 then (.goto 5, 40, 42, 0, []) else am_nop) else (bif Nat.blt k 42 then (bif Nat.beq k 40 then (.iload 5, 42, 5, 0, []) else am_nop) else (bif Nat.beq k 42 then (.ireturn, 43, 0, 0, []) else am_nop)))))) else (bif Nat.blt k 63 then (bif Nat.blt k 54 then (bif Nat.blt k 48 then (bif Nat.blt k 45 then (bif Nat.beq k 43 then (.iload 6, 45, 6, 0, []) else am_nop) else (bif Nat.beq k 45 then (.ifCond .eq 26, 48, 71, 0, []) else am_nop)) else (bif Nat.blt k 49 then (bif Nat.beq k 48 then (.iload_n 2, 49, 2, 0, []) else am_nop) else (bif Nat.blt k 52 then (bif Nat.beq k 49 then (.ifCond .le 22, 52, 71, 0, []) else am_nop) else (bif Nat.beq k 52 then (.iload 5, 54, 5, 0, []) else am_nop)))) else (bif Nat.blt k 59 then (bif Nat.blt k 56 then (bif Nat.beq k 54 then (.bipush (-4), 56, 0, 0, [(-4, 0)]) else am_nop) else (bif Nat.beq k 56 then (.if_icmp .eq 18, 59, 74, 0, []) else am_nop)) else (bif Nat.blt k 61 then (bif Nat.beq k 59 then (.iload 7, 61, 7, 0, []) else am_nop) else (bif Nat.blt k 62 then (bif Nat.beq k 61 then (.iconst 1, 62, 0, 0, [(1, 0)]) else am_nop) else (bif Nat.beq k 62 then (.iadd, 63, 0, 0, []) else am_nop))))) else (bif Nat.blt k 74 then (bif Nat.blt k 68 then (bif Nat.blt k 65 then (bif Nat.beq k 63 then (.iload 5, 65, 5, 0, []) else am_nop) else (bif Nat.beq k 65 then (.invokestatic 175, 68, 136, 0, [(0, 448)]) else am_nop)) else (bif Nat.blt k 71 then (bif Nat.beq k 68 then (.if_icmp .lt 6, 71, 74, 0, []) else am_nop) else (bif Nat.blt k 73 then (bif Nat.beq k 71 then (.iload 5, 73, 5, 0, []) else am_nop) else (bif Nat.beq k 73 then (.ireturn, 74, 0, 0, []) else am_nop)))) else (bif Nat.blt k 77 then (bif Nat.blt k 75 then (bif Nat.beq k 74 then (.aload_n 1, 75, 1, 0, []) else am_nop) else (bif Nat.blt k 76 then (bif Nat.beq k 75 then (.aload_n 0, 76, 0, 0, []) else am_nop) else (bif Nat.beq k 76 then (.iload_n 3, 77, 3, 0, []) else am_nop))) else (bif Nat.blt k 78 then (bif Nat.beq k 77 then (.iconst 1, 78, 0, 0, [(1, 0)]) else am_nop) else (bif Nat.blt k 79 then (bif Nat.beq k 78 then (.iload_n 2, 79, 2, 0, []) else am_nop) else (bif Nat.beq k 79 then (.ishl, 80, 0, 0, []) else am_nop))))))) else (bif Nat.blt k 114 then (bif Nat.blt k 98 then (bif Nat.blt k 88 then (bif Nat.blt k 82 then (bif Nat.blt k 81 then (bif Nat.beq k 80 then (.iconst 1, 81, 0, 0, [(1, 0)]) else am_nop) else (bif Nat.beq k 81 then (.isub, 82, 0, 0, []) else am_nop)) else (bif Nat.blt k 83 then (bif Nat.beq k 82 then (.ior, 83, 0, 0, []) else am_nop) else (bif Nat.blt k 85 then (bif Nat.beq k 83 then (.iload 4, 85, 4, 0, []) else am_nop) else (bif Nat.beq k 85 then (.invokevirtual 158, 88, 39, 0, [(0, 406)]) else am_nop)))) else (bif Nat.blt k 92 then (bif Nat.blt k 91 then (bif Nat.beq k 88 then (.invokestatic 175, 91, 136, 0, [(0, 448)]) else am_nop) else (bif Nat.beq k 91 then (.iconst 1, 92, 0, 0, [(1, 0)]) else am_nop)) else (bif Nat.blt k 95 then (bif Nat.beq k 92 then (.if_icmp .le 6, 95, 98, 0, []) else am_nop) else (bif Nat.blt k 97 then (bif Nat.beq k 95 then (.iload 5, 97, 5, 0, []) else am_nop) else (bif Nat.beq k 97 then (.ireturn, 98, 0, 0, []) else am_nop))))) else (bif Nat.blt k 103 then (bif Nat.blt k 100 then (bif Nat.blt k 99 then (bif Nat.beq k 98 then (.aload_n 0, 99, 0, 0, []) else am_nop) else (bif Nat.beq k 99 then (.aload_n 1, 100, 1, 0, []) else am_nop)) else (bif Nat.blt k 101 then (bif Nat.beq k 100 then (.iload_n 2, 101, 2, 0, []) else am_nop) else (bif Nat.blt k 102 then (bif Nat.beq k 101 then (.iconst 1, 102, 0, 0, [(1, 0)]) else am_nop) else (bif Nat.beq k 102 then (.isub, 103, 0, 0, []) else am_nop)))) else (bif Nat.blt k 108 then (bif Nat.blt k 104 then (bif Nat.beq k 103 then (.iload_n 3, 104, 3, 0, []) else am_nop) else (bif Nat.blt k 106 then (bif Nat.beq k 104 then (.iload 4, 106, 4, 0, []) else am_nop) else (bif Nat.beq k 106 then (.iload 5, 108, 5, 0, []) else am_nop))) else (bif Nat.blt k 111 then (bif Nat.beq k 108 then (.invokestatic 186, 111, 82, 0, [(0, 467)]) else am_nop) else (bif Nat.blt k 113 then (bif Nat.beq k 111 then (.istore 8, 113, 8, 0, []) else am_nop) else (bif Nat.beq k 113 then (.iload_n 3, 114, 3, 0, []) else am_nop)))))) else (bif Nat.blt k 125 then (bif Nat.blt k 119 then (bif Nat.blt k 116 then (bif Nat.blt k 115 then (bif Nat.beq k 114 then (.iconst 1, 115, 0, 0, [(1, 0)]) else am_nop) else (bif Nat.beq k 115 then (.iload_n 2, 116, 2, 0, []) else am_nop)) else (bif Nat.blt k 117 then (bif Nat.beq k 116 then (.iconst 1, 117, 0, 0, [(1, 0)]) else am_nop) else (bif Nat.blt k 118 then (bif Nat.beq k 117 then (.isub, 118, 0, 0, []) else am_nop) else (bif Nat.beq k 118 then (.ishl, 119, 0, 0, []) else am_nop)))) else (bif Nat.blt k 122 then (bif Nat.blt k 120 then (bif Nat.beq k 119 then (.ior, 120, 0, 0, []) else am_nop) else (bif Nat.beq k 120 then (.istore 9, 122, 9, 0, []) else am_nop)) else (bif Nat.blt k 123 then (bif Nat.beq k 122 then (.aload_n 0, 123, 0, 0, []) else am_nop) else (bif Nat.blt k 124 then (bif Nat.beq k 123 then (.aload_n 1, 124, 1, 0, []) else am_nop) else (bif Nat.beq k 124 then (.iload_n 2, 125, 2, 0, []) else am_nop))))) else (bif Nat.blt k 131 then (bif Nat.blt k 127 then (bif Nat.blt k 126 then (bif Nat.beq k 125 then (.iconst 1, 126, 0, 0, [(1, 0)]) else am_nop) else (bif Nat.beq k 126 then (.isub, 127, 0, 0, []) else am_nop)) else (bif Nat.blt k 129 then (bif Nat.beq k 127 then (.iload 9, 129, 9, 0, []) else am_nop) else (bif Nat.blt k 130 then (bif Nat.beq k 129 then (.aload_n 1, 130, 1, 0, []) else am_nop) else (bif Nat.beq k 130 then (.aload_n 0, 131, 0, 0, []) else am_nop)))) else (bif Nat.blt k 138 then (bif Nat.blt k 133 then (bif Nat.beq k 131 then (.iload 9, 133, 9, 0, []) else am_nop) else (bif Nat.blt k 135 then (bif Nat.beq k 133 then (.iload 4, 135, 4, 0, []) else am_nop) else (bif Nat.beq k 135 then (.invokevirtual 158, 138, 39, 0, [(0, 406)]) else am_nop))) else (bif Nat.blt k 140 then (bif Nat.beq k 138 then (.iload 8, 140, 8, 0, []) else am_nop) else (bif Nat.blt k 143 then (bif Nat.beq k 140 then (.invokestatic 186, 143, 82, 0, [(0, 467)]) else am_nop) else (bif Nat.beq k 143 then (.ireturn, 144, 0, 0, []) else am_nop)))))))
/-- DeedDeskModel.in(III)Z -/
def am_c83 (k : Nat) : am_E := bif Nat.blt k 7 then (bif Nat.blt k 2 then (bif Nat.blt k 1 then (bif Nat.beq k 0 then (.iload_n 0, 1, 0, 0, []) else am_nop) else (bif Nat.beq k 1 then (.iload_n 1, 2, 1, 0, []) else am_nop)) else (bif Nat.blt k 5 then (bif Nat.beq k 2 then (.if_icmp .lt 12, 5, 14, 0, []) else am_nop) else (bif Nat.blt k 6 then (bif Nat.beq k 5 then (.iload_n 0, 6, 0, 0, []) else am_nop) else (bif Nat.beq k 6 then (.iload_n 2, 7, 2, 0, []) else am_nop)))) else (bif Nat.blt k 11 then (bif Nat.blt k 10 then (bif Nat.beq k 7 then (.if_icmp .gt 7, 10, 14, 0, []) else am_nop) else (bif Nat.beq k 10 then (.iconst 1, 11, 0, 0, [(1, 0)]) else am_nop)) else (bif Nat.blt k 14 then (bif Nat.beq k 11 then (.goto 4, 14, 15, 0, []) else am_nop) else (bif Nat.blt k 15 then (bif Nat.beq k 14 then (.iconst 0, 15, 0, 0, [(0, 0)]) else am_nop) else (bif Nat.beq k 15 then (.ireturn, 16, 0, 0, []) else am_nop))))
/-- DeedDeskModel.<init>()V -/
def am_c84 (k : Nat) : am_E := bif Nat.blt k 85 then (bif Nat.blt k 36 then (bif Nat.blt k 20 then (bif Nat.blt k 12 then (bif Nat.blt k 5 then (bif Nat.blt k 1 then (bif Nat.beq k 0 then (.aload_n 0, 1, 0, 0, []) else am_nop) else (bif Nat.blt k 4 then (bif Nat.beq k 1 then (.invokespecial 1, 4, 999, 0, [(0, 561)]) else am_nop) else (bif Nat.beq k 4 then (.aload_n 0, 5, 0, 0, []) else am_nop))) else (bif Nat.blt k 9 then (bif Nat.blt k 6 then (bif Nat.beq k 5 then (.iconst 4, 6, 0, 0, [(4, 0)]) else am_nop) else (bif Nat.beq k 6 then (.putfield 7, 9, 7, 0, [(0, 562)]) else am_nop)) else (bif Nat.blt k 10 then (bif Nat.beq k 9 then (.aload_n 0, 10, 0, 0, []) else am_nop) else (bif Nat.beq k 10 then (.bipush 8, 12, 0, 0, [(8, 0)]) else am_nop)))) else (bif Nat.blt k 16 then (bif Nat.blt k 14 then (bif Nat.beq k 12 then (.newarray .int, 14, 0, 0, []) else am_nop) else (bif Nat.blt k 15 then (bif Nat.beq k 14 then (.dup, 15, 0, 0, []) else am_nop) else (bif Nat.beq k 15 then (.iconst 0, 16, 0, 0, [(0, 0)]) else am_nop))) else (bif Nat.blt k 18 then (bif Nat.blt k 17 then (bif Nat.beq k 16 then (.iconst 1, 17, 0, 0, [(1, 0)]) else am_nop) else (bif Nat.beq k 17 then (.iastore, 18, 0, 0, []) else am_nop)) else (bif Nat.blt k 19 then (bif Nat.beq k 18 then (.dup, 19, 0, 0, []) else am_nop) else (bif Nat.beq k 19 then (.iconst 1, 20, 0, 0, [(1, 0)]) else am_nop))))) else (bif Nat.blt k 27 then (bif Nat.blt k 23 then (bif Nat.blt k 21 then (bif Nat.beq k 20 then (.iconst 2, 21, 0, 0, [(2, 0)]) else am_nop) else (bif Nat.blt k 22 then (bif Nat.beq k 21 then (.iastore, 22, 0, 0, []) else am_nop) else (bif Nat.beq k 22 then (.dup, 23, 0, 0, []) else am_nop))) else (bif Nat.blt k 25 then (bif Nat.blt k 24 then (bif Nat.beq k 23 then (.iconst 2, 24, 0, 0, [(2, 0)]) else am_nop) else (bif Nat.beq k 24 then (.iconst 4, 25, 0, 0, [(4, 0)]) else am_nop)) else (bif Nat.blt k 26 then (bif Nat.beq k 25 then (.iastore, 26, 0, 0, []) else am_nop) else (bif Nat.beq k 26 then (.dup, 27, 0, 0, []) else am_nop)))) else (bif Nat.blt k 31 then (bif Nat.blt k 28 then (bif Nat.beq k 27 then (.iconst 3, 28, 0, 0, [(3, 0)]) else am_nop) else (bif Nat.blt k 30 then (bif Nat.beq k 28 then (.bipush 8, 30, 0, 0, [(8, 0)]) else am_nop) else (bif Nat.beq k 30 then (.iastore, 31, 0, 0, []) else am_nop))) else (bif Nat.blt k 33 then (bif Nat.blt k 32 then (bif Nat.beq k 31 then (.dup, 32, 0, 0, []) else am_nop) else (bif Nat.beq k 32 then (.iconst 4, 33, 0, 0, [(4, 0)]) else am_nop)) else (bif Nat.blt k 35 then (bif Nat.beq k 33 then (.bipush 16, 35, 0, 0, [(16, 0)]) else am_nop) else (bif Nat.beq k 35 then (.iastore, 36, 0, 0, []) else am_nop)))))) else (bif Nat.blt k 58 then (bif Nat.blt k 46 then (bif Nat.blt k 40 then (bif Nat.blt k 37 then (bif Nat.beq k 36 then (.dup, 37, 0, 0, []) else am_nop) else (bif Nat.blt k 38 then (bif Nat.beq k 37 then (.iconst 5, 38, 0, 0, [(5, 0)]) else am_nop) else (bif Nat.beq k 38 then (.bipush 32, 40, 0, 0, [(32, 0)]) else am_nop))) else (bif Nat.blt k 42 then (bif Nat.blt k 41 then (bif Nat.beq k 40 then (.iastore, 41, 0, 0, []) else am_nop) else (bif Nat.beq k 41 then (.dup, 42, 0, 0, []) else am_nop)) else (bif Nat.blt k 44 then (bif Nat.beq k 42 then (.bipush 6, 44, 0, 0, [(6, 0)]) else am_nop) else (bif Nat.beq k 44 then (.bipush 64, 46, 0, 0, [(64, 0)]) else am_nop)))) else (bif Nat.blt k 50 then (bif Nat.blt k 47 then (bif Nat.beq k 46 then (.iastore, 47, 0, 0, []) else am_nop) else (bif Nat.blt k 48 then (bif Nat.beq k 47 then (.dup, 48, 0, 0, []) else am_nop) else (bif Nat.beq k 48 then (.bipush 7, 50, 0, 0, [(7, 0)]) else am_nop))) else (bif Nat.blt k 54 then (bif Nat.blt k 53 then (bif Nat.beq k 50 then (.sipush 128, 53, 0, 0, [(128, 0)]) else am_nop) else (bif Nat.beq k 53 then (.iastore, 54, 0, 0, []) else am_nop)) else (bif Nat.blt k 57 then (bif Nat.beq k 54 then (.putfield 13, 57, 7, 2, [(0, 564)]) else am_nop) else (bif Nat.beq k 57 then (.aload_n 0, 58, 0, 0, []) else am_nop))))) else (bif Nat.blt k 70 then (bif Nat.blt k 64 then (bif Nat.blt k 59 then (bif Nat.beq k 58 then (.iconst 3, 59, 0, 0, [(3, 0)]) else am_nop) else (bif Nat.blt k 61 then (bif Nat.beq k 59 then (.newarray .int, 61, 0, 0, []) else am_nop) else (bif Nat.beq k 61 then (.putfield 17, 64, 7, 3, [(0, 565)]) else am_nop))) else (bif Nat.blt k 66 then (bif Nat.blt k 65 then (bif Nat.beq k 64 then (.aload_n 0, 65, 0, 0, []) else am_nop) else (bif Nat.beq k 65 then (.iconst 5, 66, 0, 0, [(5, 0)]) else am_nop)) else (bif Nat.blt k 69 then (bif Nat.beq k 66 then (.putfield 20, 69, 7, 5, [(0, 567)]) else am_nop) else (bif Nat.beq k 69 then (.aload_n 0, 70, 0, 0, []) else am_nop)))) else (bif Nat.blt k 77 then (bif Nat.blt k 74 then (bif Nat.blt k 71 then (bif Nat.beq k 70 then (.iconst (-1), 71, 0, 0, [(-1, 0)]) else am_nop) else (bif Nat.beq k 71 then (.putfield 23, 74, 7, 6, [(0, 568)]) else am_nop)) else (bif Nat.blt k 75 then (bif Nat.beq k 74 then (.aload_n 0, 75, 0, 0, []) else am_nop) else (bif Nat.beq k 75 then (.bipush 20, 77, 0, 0, [(20, 0)]) else am_nop))) else (bif Nat.blt k 82 then (bif Nat.blt k 79 then (bif Nat.beq k 77 then (.newarray .int, 79, 0, 0, []) else am_nop) else (bif Nat.beq k 79 then (.putfield 26, 82, 7, 8, [(0, 570)]) else am_nop)) else (bif Nat.blt k 83 then (bif Nat.beq k 82 then (.aload_n 0, 83, 0, 0, []) else am_nop) else (bif Nat.beq k 83 then (.bipush 80, 85, 0, 0, [(80, 0)]) else am_nop))))))) else (bif Nat.blt k 139 then (bif Nat.blt k 112 then (bif Nat.blt k 99 then (bif Nat.blt k 91 then (bif Nat.blt k 87 then (bif Nat.beq k 85 then (.newarray .int, 87, 0, 0, []) else am_nop) else (bif Nat.blt k 90 then (bif Nat.beq k 87 then (.putfield 29, 90, 7, 9, [(0, 571)]) else am_nop) else (bif Nat.beq k 90 then (.aload_n 0, 91, 0, 0, []) else am_nop))) else (bif Nat.blt k 95 then (bif Nat.blt k 93 then (bif Nat.beq k 91 then (.bipush 20, 93, 0, 0, [(20, 0)]) else am_nop) else (bif Nat.beq k 93 then (.newarray .int, 95, 0, 0, []) else am_nop)) else (bif Nat.blt k 98 then (bif Nat.beq k 95 then (.putfield 32, 98, 7, 10, [(0, 572)]) else am_nop) else (bif Nat.beq k 98 then (.aload_n 0, 99, 0, 0, []) else am_nop)))) else (bif Nat.blt k 105 then (bif Nat.blt k 100 then (bif Nat.beq k 99 then (.iconst 2, 100, 0, 0, [(2, 0)]) else am_nop) else (bif Nat.blt k 102 then (bif Nat.beq k 100 then (.newarray .int, 102, 0, 0, []) else am_nop) else (bif Nat.beq k 102 then (.putfield 35, 105, 7, 12, [(0, 574)]) else am_nop))) else (bif Nat.blt k 107 then (bif Nat.blt k 106 then (bif Nat.beq k 105 then (.aload_n 0, 106, 0, 0, []) else am_nop) else (bif Nat.beq k 106 then (.iconst 2, 107, 0, 0, [(2, 0)]) else am_nop)) else (bif Nat.blt k 109 then (bif Nat.beq k 107 then (.newarray .int, 109, 0, 0, []) else am_nop) else (bif Nat.beq k 109 then (.putfield 38, 112, 7, 13, [(0, 575)]) else am_nop))))) else (bif Nat.blt k 125 then (bif Nat.blt k 117 then (bif Nat.blt k 113 then (bif Nat.beq k 112 then (.aload_n 0, 113, 0, 0, []) else am_nop) else (bif Nat.blt k 115 then (bif Nat.beq k 113 then (.bipush 120, 115, 0, 0, [(120, 0)]) else am_nop) else (bif Nat.beq k 115 then (.newarray .int, 117, 0, 0, []) else am_nop))) else (bif Nat.blt k 121 then (bif Nat.blt k 120 then (bif Nat.beq k 117 then (.putfield 41, 120, 7, 14, [(0, 576)]) else am_nop) else (bif Nat.beq k 120 then (.aload_n 0, 121, 0, 0, []) else am_nop)) else (bif Nat.blt k 123 then (bif Nat.beq k 121 then (.bipush 60, 123, 0, 0, [(60, 0)]) else am_nop) else (bif Nat.beq k 123 then (.newarray .int, 125, 0, 0, []) else am_nop)))) else (bif Nat.blt k 131 then (bif Nat.blt k 128 then (bif Nat.beq k 125 then (.putfield 44, 128, 7, 15, [(0, 577)]) else am_nop) else (bif Nat.blt k 129 then (bif Nat.beq k 128 then (.aload_n 0, 129, 0, 0, []) else am_nop) else (bif Nat.beq k 129 then (.bipush 11, 131, 0, 0, [(11, 0)]) else am_nop))) else (bif Nat.blt k 136 then (bif Nat.blt k 133 then (bif Nat.beq k 131 then (.newarray .int, 133, 0, 0, []) else am_nop) else (bif Nat.beq k 133 then (.putfield 47, 136, 7, 18, [(0, 580)]) else am_nop)) else (bif Nat.blt k 137 then (bif Nat.beq k 136 then (.aload_n 0, 137, 0, 0, []) else am_nop) else (bif Nat.beq k 137 then (.bipush 11, 139, 0, 0, [(11, 0)]) else am_nop)))))) else (bif Nat.blt k 164 then (bif Nat.blt k 153 then (bif Nat.blt k 145 then (bif Nat.blt k 141 then (bif Nat.beq k 139 then (.newarray .int, 141, 0, 0, []) else am_nop) else (bif Nat.blt k 144 then (bif Nat.beq k 141 then (.putfield 50, 144, 7, 19, [(0, 581)]) else am_nop) else (bif Nat.beq k 144 then (.aload_n 0, 145, 0, 0, []) else am_nop))) else (bif Nat.blt k 149 then (bif Nat.blt k 147 then (bif Nat.beq k 145 then (.bipush 40, 147, 0, 0, [(40, 0)]) else am_nop) else (bif Nat.beq k 147 then (.newarray .int, 149, 0, 0, []) else am_nop)) else (bif Nat.blt k 152 then (bif Nat.beq k 149 then (.putfield 53, 152, 7, 21, [(0, 583)]) else am_nop) else (bif Nat.beq k 152 then (.aload_n 0, 153, 0, 0, []) else am_nop)))) else (bif Nat.blt k 158 then (bif Nat.blt k 156 then (bif Nat.beq k 153 then (.getfield 35, 156, 7, 12, [(0, 574)]) else am_nop) else (bif Nat.blt k 157 then (bif Nat.beq k 156 then (.iconst 0, 157, 0, 0, [(0, 0)]) else am_nop) else (bif Nat.beq k 157 then (.iconst (-1), 158, 0, 0, [(-1, 0)]) else am_nop))) else (bif Nat.blt k 160 then (bif Nat.blt k 159 then (bif Nat.beq k 158 then (.iastore, 159, 0, 0, []) else am_nop) else (bif Nat.beq k 159 then (.aload_n 0, 160, 0, 0, []) else am_nop)) else (bif Nat.blt k 163 then (bif Nat.beq k 160 then (.getfield 35, 163, 7, 12, [(0, 574)]) else am_nop) else (bif Nat.beq k 163 then (.iconst 1, 164, 0, 0, [(1, 0)]) else am_nop))))) else (bif Nat.blt k 173 then (bif Nat.blt k 167 then (bif Nat.blt k 165 then (bif Nat.beq k 164 then (.iconst (-1), 165, 0, 0, [(-1, 0)]) else am_nop) else (bif Nat.blt k 166 then (bif Nat.beq k 165 then (.iastore, 166, 0, 0, []) else am_nop) else (bif Nat.beq k 166 then (.iconst 0, 167, 0, 0, [(0, 0)]) else am_nop))) else (bif Nat.blt k 169 then (bif Nat.blt k 168 then (bif Nat.beq k 167 then (.istore_n 1, 168, 1, 0, []) else am_nop) else (bif Nat.beq k 168 then (.iload_n 1, 169, 1, 0, []) else am_nop)) else (bif Nat.blt k 170 then (bif Nat.beq k 169 then (.iconst 3, 170, 0, 0, [(3, 0)]) else am_nop) else (bif Nat.beq k 170 then (.if_icmp .ge 16, 173, 186, 0, []) else am_nop)))) else (bif Nat.blt k 179 then (bif Nat.blt k 177 then (bif Nat.blt k 174 then (bif Nat.beq k 173 then (.aload_n 0, 174, 0, 0, []) else am_nop) else (bif Nat.beq k 174 then (.getfield 17, 177, 7, 3, [(0, 565)]) else am_nop)) else (bif Nat.blt k 178 then (bif Nat.beq k 177 then (.iload_n 1, 178, 1, 0, []) else am_nop) else (bif Nat.beq k 178 then (.iload_n 1, 179, 1, 0, []) else am_nop))) else (bif Nat.blt k 183 then (bif Nat.blt k 180 then (bif Nat.beq k 179 then (.iastore, 180, 0, 0, []) else am_nop) else (bif Nat.beq k 180 then (.iinc 1 1, 183, 1, 0, [(1, 0)]) else am_nop)) else (bif Nat.blt k 186 then (bif Nat.beq k 183 then (.goto (-15), 186, 168, 0, []) else am_nop) else (bif Nat.beq k 186 then (.return_, 187, 0, 0, []) else am_nop)))))))
/-- DeedDeskModel.isPlace(I)Z -/
def am_c85 (k : Nat) : am_E := bif Nat.blt k 2 then (bif Nat.blt k 1 then (bif Nat.beq k 0 then (.iload_n 0, 1, 0, 0, []) else am_nop) else (bif Nat.beq k 1 then (.iconst 0, 2, 0, 0, [(0, 0)]) else am_nop)) else (bif Nat.blt k 4 then (bif Nat.beq k 2 then (.bipush 7, 4, 0, 0, [(7, 0)]) else am_nop) else (bif Nat.blt k 7 then (bif Nat.beq k 4 then (.invokestatic 56, 7, 83, 0, [(0, 633)]) else am_nop) else (bif Nat.beq k 7 then (.ireturn, 8, 0, 0, []) else am_nop)))
/-- DeedDeskModel.isTick(I)Z -/
def am_c86 (k : Nat) : am_E := bif Nat.blt k 2 then (bif Nat.blt k 1 then (bif Nat.beq k 0 then (.iload_n 0, 1, 0, 0, []) else am_nop) else (bif Nat.beq k 1 then (.iconst 0, 2, 0, 0, [(0, 0)]) else am_nop)) else (bif Nat.blt k 4 then (bif Nat.beq k 2 then (.bipush 9, 4, 0, 0, [(9, 0)]) else am_nop) else (bif Nat.blt k 7 then (bif Nat.beq k 4 then (.invokestatic 56, 7, 83, 0, [(0, 633)]) else am_nop) else (bif Nat.beq k 7 then (.ireturn, 8, 0, 0, []) else am_nop)))
/-- DeedDeskModel.isOne(I)Z -/
def am_c87 (k : Nat) : am_E := bif Nat.blt k 6 then (bif Nat.blt k 2 then (bif Nat.blt k 1 then (bif Nat.beq k 0 then (.iload_n 1, 1, 1, 0, []) else am_nop) else (bif Nat.beq k 1 then (.iconst 0, 2, 0, 0, [(0, 0)]) else am_nop)) else (bif Nat.blt k 3 then (bif Nat.beq k 2 then (.aload_n 0, 3, 0, 0, []) else am_nop) else (bif Nat.beq k 3 then (.getfield 7, 6, 7, 0, [(0, 562)]) else am_nop))) else (bif Nat.blt k 8 then (bif Nat.blt k 7 then (bif Nat.beq k 6 then (.iconst 1, 7, 0, 0, [(1, 0)]) else am_nop) else (bif Nat.beq k 7 then (.isub, 8, 0, 0, []) else am_nop)) else (bif Nat.blt k 11 then (bif Nat.beq k 8 then (.invokestatic 56, 11, 83, 0, [(0, 633)]) else am_nop) else (bif Nat.beq k 11 then (.ireturn, 12, 0, 0, []) else am_nop)))
/-- DeedDeskModel.people(I)I -/
def am_c88 (k : Nat) : am_E := bif Nat.blt k 72 then (bif Nat.blt k 33 then (bif Nat.blt k 17 then (bif Nat.blt k 10 then (bif Nat.blt k 2 then (bif Nat.blt k 1 then (bif Nat.beq k 0 then (.iload_n 1, 1, 1, 0, []) else am_nop) else (bif Nat.beq k 1 then (.iconst 2, 2, 0, 0, [(2, 0)]) else am_nop)) else (bif Nat.blt k 4 then (bif Nat.beq k 2 then (.bipush 6, 4, 0, 0, [(6, 0)]) else am_nop) else (bif Nat.blt k 7 then (bif Nat.beq k 4 then (.invokestatic 56, 7, 83, 0, [(0, 633)]) else am_nop) else (bif Nat.beq k 7 then (.ifCond .ne 5, 10, 12, 0, []) else am_nop)))) else (bif Nat.blt k 12 then (bif Nat.blt k 11 then (bif Nat.beq k 10 then (.iconst (-1), 11, 0, 0, [(-1, 0)]) else am_nop) else (bif Nat.beq k 11 then (.ireturn, 12, 0, 0, []) else am_nop)) else (bif Nat.blt k 13 then (bif Nat.beq k 12 then (.aload_n 0, 13, 0, 0, []) else am_nop) else (bif Nat.blt k 16 then (bif Nat.beq k 13 then (.getfield 23, 16, 7, 6, [(0, 568)]) else am_nop) else (bif Nat.beq k 16 then (.iload_n 1, 17, 1, 0, []) else am_nop))))) else (bif Nat.blt k 26 then (bif Nat.blt k 21 then (bif Nat.blt k 20 then (bif Nat.beq k 17 then (.if_icmp .lt 7, 20, 24, 0, []) else am_nop) else (bif Nat.beq k 20 then (.iconst 1, 21, 0, 0, [(1, 0)]) else am_nop)) else (bif Nat.blt k 24 then (bif Nat.beq k 21 then (.goto 4, 24, 25, 0, []) else am_nop) else (bif Nat.blt k 25 then (bif Nat.beq k 24 then (.iconst 0, 25, 0, 0, [(0, 0)]) else am_nop) else (bif Nat.beq k 25 then (.istore_n 2, 26, 2, 0, []) else am_nop)))) else (bif Nat.blt k 28 then (bif Nat.blt k 27 then (bif Nat.beq k 26 then (.iconst 0, 27, 0, 0, [(0, 0)]) else am_nop) else (bif Nat.beq k 27 then (.istore_n 3, 28, 3, 0, []) else am_nop)) else (bif Nat.blt k 29 then (bif Nat.beq k 28 then (.iload_n 3, 29, 3, 0, []) else am_nop) else (bif Nat.blt k 30 then (bif Nat.beq k 29 then (.aload_n 0, 30, 0, 0, []) else am_nop) else (bif Nat.beq k 30 then (.getfield 60, 33, 7, 7, [(0, 569)]) else am_nop)))))) else (bif Nat.blt k 51 then (bif Nat.blt k 42 then (bif Nat.blt k 37 then (bif Nat.blt k 36 then (bif Nat.beq k 33 then (.if_icmp .ge 88, 36, 121, 0, []) else am_nop) else (bif Nat.beq k 36 then (.aload_n 0, 37, 0, 0, []) else am_nop)) else (bif Nat.blt k 40 then (bif Nat.beq k 37 then (.getfield 26, 40, 7, 8, [(0, 570)]) else am_nop) else (bif Nat.blt k 41 then (bif Nat.beq k 40 then (.iload_n 3, 41, 3, 0, []) else am_nop) else (bif Nat.beq k 41 then (.iaload, 42, 0, 0, []) else am_nop)))) else (bif Nat.blt k 46 then (bif Nat.blt k 43 then (bif Nat.beq k 42 then (.iconst 2, 43, 0, 0, [(2, 0)]) else am_nop) else (bif Nat.beq k 43 then (.if_icmp .eq 17, 46, 60, 0, []) else am_nop)) else (bif Nat.blt k 47 then (bif Nat.beq k 46 then (.aload_n 0, 47, 0, 0, []) else am_nop) else (bif Nat.blt k 50 then (bif Nat.beq k 47 then (.getfield 26, 50, 7, 8, [(0, 570)]) else am_nop) else (bif Nat.beq k 50 then (.iload_n 3, 51, 3, 0, []) else am_nop))))) else (bif Nat.blt k 60 then (bif Nat.blt k 53 then (bif Nat.blt k 52 then (bif Nat.beq k 51 then (.iaload, 52, 0, 0, []) else am_nop) else (bif Nat.beq k 52 then (.iconst 3, 53, 0, 0, [(3, 0)]) else am_nop)) else (bif Nat.blt k 56 then (bif Nat.beq k 53 then (.if_icmp .eq 7, 56, 60, 0, []) else am_nop) else (bif Nat.blt k 57 then (bif Nat.beq k 56 then (.iconst 1, 57, 0, 0, [(1, 0)]) else am_nop) else (bif Nat.beq k 57 then (.goto 4, 60, 61, 0, []) else am_nop)))) else (bif Nat.blt k 64 then (bif Nat.blt k 61 then (bif Nat.beq k 60 then (.iconst 0, 61, 0, 0, [(0, 0)]) else am_nop) else (bif Nat.blt k 63 then (bif Nat.beq k 61 then (.istore 4, 63, 4, 0, []) else am_nop) else (bif Nat.beq k 63 then (.iload_n 2, 64, 2, 0, []) else am_nop))) else (bif Nat.blt k 67 then (bif Nat.beq k 64 then (.ifCond .ne 45, 67, 109, 0, []) else am_nop) else (bif Nat.blt k 69 then (bif Nat.beq k 67 then (.iload 4, 69, 4, 0, []) else am_nop) else (bif Nat.beq k 69 then (.ifCond .eq 15, 72, 84, 0, []) else am_nop))))))) else (bif Nat.blt k 104 then (bif Nat.blt k 88 then (bif Nat.blt k 79 then (bif Nat.blt k 76 then (bif Nat.blt k 73 then (bif Nat.beq k 72 then (.aload_n 0, 73, 0, 0, []) else am_nop) else (bif Nat.beq k 73 then (.getfield 29, 76, 7, 9, [(0, 571)]) else am_nop)) else (bif Nat.blt k 77 then (bif Nat.beq k 76 then (.iconst 4, 77, 0, 0, [(4, 0)]) else am_nop) else (bif Nat.blt k 78 then (bif Nat.beq k 77 then (.iload_n 3, 78, 3, 0, []) else am_nop) else (bif Nat.beq k 78 then (.imul, 79, 0, 0, []) else am_nop)))) else (bif Nat.blt k 81 then (bif Nat.blt k 80 then (bif Nat.beq k 79 then (.iaload, 80, 0, 0, []) else am_nop) else (bif Nat.beq k 80 then (.iload_n 1, 81, 1, 0, []) else am_nop)) else (bif Nat.blt k 84 then (bif Nat.beq k 81 then (.if_icmp .ge 28, 84, 109, 0, []) else am_nop) else (bif Nat.blt k 85 then (bif Nat.beq k 84 then (.aload_n 0, 85, 0, 0, []) else am_nop) else (bif Nat.beq k 85 then (.getfield 26, 88, 7, 8, [(0, 570)]) else am_nop))))) else (bif Nat.blt k 96 then (bif Nat.blt k 90 then (bif Nat.blt k 89 then (bif Nat.beq k 88 then (.iload_n 3, 89, 3, 0, []) else am_nop) else (bif Nat.beq k 89 then (.iaload, 90, 0, 0, []) else am_nop)) else (bif Nat.blt k 92 then (bif Nat.beq k 90 then (.bipush 7, 92, 0, 0, [(7, 0)]) else am_nop) else (bif Nat.blt k 95 then (bif Nat.beq k 92 then (.if_icmp .ne 21, 95, 113, 0, []) else am_nop) else (bif Nat.beq k 95 then (.aload_n 0, 96, 0, 0, []) else am_nop)))) else (bif Nat.blt k 101 then (bif Nat.blt k 99 then (bif Nat.beq k 96 then (.getfield 29, 99, 7, 9, [(0, 571)]) else am_nop) else (bif Nat.blt k 100 then (bif Nat.beq k 99 then (.iconst 4, 100, 0, 0, [(4, 0)]) else am_nop) else (bif Nat.beq k 100 then (.iload_n 3, 101, 3, 0, []) else am_nop))) else (bif Nat.blt k 102 then (bif Nat.beq k 101 then (.imul, 102, 0, 0, []) else am_nop) else (bif Nat.blt k 103 then (bif Nat.beq k 102 then (.iconst 1, 103, 0, 0, [(1, 0)]) else am_nop) else (bif Nat.beq k 103 then (.iadd, 104, 0, 0, []) else am_nop)))))) else (bif Nat.blt k 122 then (bif Nat.blt k 113 then (bif Nat.blt k 106 then (bif Nat.blt k 105 then (bif Nat.beq k 104 then (.iaload, 105, 0, 0, []) else am_nop) else (bif Nat.beq k 105 then (.iload_n 1, 106, 1, 0, []) else am_nop)) else (bif Nat.blt k 109 then (bif Nat.beq k 106 then (.if_icmp .lt 7, 109, 113, 0, []) else am_nop) else (bif Nat.blt k 110 then (bif Nat.beq k 109 then (.iconst 1, 110, 0, 0, [(1, 0)]) else am_nop) else (bif Nat.beq k 110 then (.goto 4, 113, 114, 0, []) else am_nop)))) else (bif Nat.blt k 115 then (bif Nat.blt k 114 then (bif Nat.beq k 113 then (.iconst 0, 114, 0, 0, [(0, 0)]) else am_nop) else (bif Nat.beq k 114 then (.istore_n 2, 115, 2, 0, []) else am_nop)) else (bif Nat.blt k 118 then (bif Nat.beq k 115 then (.iinc 3 1, 118, 3, 0, [(1, 0)]) else am_nop) else (bif Nat.blt k 121 then (bif Nat.beq k 118 then (.goto (-90), 121, 28, 0, []) else am_nop) else (bif Nat.beq k 121 then (.iload_n 2, 122, 2, 0, []) else am_nop))))) else (bif Nat.blt k 132 then (bif Nat.blt k 127 then (bif Nat.blt k 125 then (bif Nat.beq k 122 then (.ifCond .eq 6, 125, 128, 0, []) else am_nop) else (bif Nat.beq k 125 then (.bipush (-2), 127, 0, 0, [(-2, 0)]) else am_nop)) else (bif Nat.blt k 128 then (bif Nat.beq k 127 then (.ireturn, 128, 0, 0, []) else am_nop) else (bif Nat.blt k 129 then (bif Nat.beq k 128 then (.aload_n 0, 129, 0, 0, []) else am_nop) else (bif Nat.beq k 129 then (.getfield 7, 132, 7, 0, [(0, 562)]) else am_nop)))) else (bif Nat.blt k 135 then (bif Nat.blt k 133 then (bif Nat.beq k 132 then (.istore_n 3, 133, 3, 0, []) else am_nop) else (bif Nat.blt k 134 then (bif Nat.beq k 133 then (.aload_n 0, 134, 0, 0, []) else am_nop) else (bif Nat.beq k 134 then (.iload_n 1, 135, 1, 0, []) else am_nop))) else (bif Nat.blt k 138 then (bif Nat.beq k 135 then (.putfield 7, 138, 7, 0, [(0, 562)]) else am_nop) else (bif Nat.blt k 139 then (bif Nat.beq k 138 then (.iload_n 3, 139, 3, 0, []) else am_nop) else (bif Nat.beq k 139 then (.ireturn, 140, 0, 0, []) else am_nop)))))))
/-- DeedDeskModel.door(II)I -/
def am_c89 (k : Nat) : am_E := bif Nat.blt k 30 then (bif Nat.blt k 19 then (bif Nat.blt k 8 then (bif Nat.blt k 4 then (bif Nat.blt k 1 then (bif Nat.beq k 0 then (.iload_n 1, 1, 1, 0, []) else am_nop) else (bif Nat.beq k 1 then (.invokestatic 63, 4, 85, 0, [(0, 640)]) else am_nop)) else (bif Nat.blt k 7 then (bif Nat.beq k 4 then (.ifCond .eq 15, 7, 19, 0, []) else am_nop) else (bif Nat.beq k 7 then (.iload_n 2, 8, 2, 0, []) else am_nop))) else (bif Nat.blt k 14 then (bif Nat.blt k 11 then (bif Nat.beq k 8 then (.invokestatic 63, 11, 85, 0, [(0, 640)]) else am_nop) else (bif Nat.beq k 11 then (.ifCond .eq 8, 14, 19, 0, []) else am_nop)) else (bif Nat.blt k 15 then (bif Nat.beq k 14 then (.iload_n 1, 15, 1, 0, []) else am_nop) else (bif Nat.blt k 16 then (bif Nat.beq k 15 then (.iload_n 2, 16, 2, 0, []) else am_nop) else (bif Nat.beq k 16 then (.if_icmp .ne 5, 19, 21, 0, []) else am_nop))))) else (bif Nat.blt k 25 then (bif Nat.blt k 21 then (bif Nat.blt k 20 then (bif Nat.beq k 19 then (.iconst (-1), 20, 0, 0, [(-1, 0)]) else am_nop) else (bif Nat.beq k 20 then (.ireturn, 21, 0, 0, []) else am_nop)) else (bif Nat.blt k 22 then (bif Nat.beq k 21 then (.aload_n 0, 22, 0, 0, []) else am_nop) else (bif Nat.beq k 22 then (.getfield 13, 25, 7, 2, [(0, 564)]) else am_nop))) else (bif Nat.blt k 27 then (bif Nat.blt k 26 then (bif Nat.beq k 25 then (.iload_n 1, 26, 1, 0, []) else am_nop) else (bif Nat.beq k 26 then (.iaload, 27, 0, 0, []) else am_nop)) else (bif Nat.blt k 28 then (bif Nat.beq k 27 then (.iload_n 2, 28, 2, 0, []) else am_nop) else (bif Nat.blt k 29 then (bif Nat.beq k 28 then (.ishr, 29, 0, 0, []) else am_nop) else (bif Nat.beq k 29 then (.iconst 1, 30, 0, 0, [(1, 0)]) else am_nop)))))) else (bif Nat.blt k 47 then (bif Nat.blt k 37 then (bif Nat.blt k 32 then (bif Nat.blt k 31 then (bif Nat.beq k 30 then (.iand, 31, 0, 0, []) else am_nop) else (bif Nat.beq k 31 then (.iconst 1, 32, 0, 0, [(1, 0)]) else am_nop)) else (bif Nat.blt k 35 then (bif Nat.beq k 32 then (.if_icmp .ne 6, 35, 38, 0, []) else am_nop) else (bif Nat.beq k 35 then (.bipush (-2), 37, 0, 0, [(-2, 0)]) else am_nop))) else (bif Nat.blt k 39 then (bif Nat.blt k 38 then (bif Nat.beq k 37 then (.ireturn, 38, 0, 0, []) else am_nop) else (bif Nat.beq k 38 then (.aload_n 0, 39, 0, 0, []) else am_nop)) else (bif Nat.blt k 42 then (bif Nat.beq k 39 then (.getfield 67, 42, 7, 1, [(0, 563)]) else am_nop) else (bif Nat.blt k 44 then (bif Nat.beq k 42 then (.bipush 12, 44, 0, 0, [(12, 0)]) else am_nop) else (bif Nat.beq k 44 then (.if_icmp .ne 6, 47, 50, 0, []) else am_nop))))) else (bif Nat.blt k 52 then (bif Nat.blt k 50 then (bif Nat.blt k 49 then (bif Nat.beq k 47 then (.bipush (-3), 49, 0, 0, [(-3, 0)]) else am_nop) else (bif Nat.beq k 49 then (.ireturn, 50, 0, 0, []) else am_nop)) else (bif Nat.blt k 51 then (bif Nat.beq k 50 then (.aload_n 0, 51, 0, 0, []) else am_nop) else (bif Nat.beq k 51 then (.iload_n 1, 52, 1, 0, []) else am_nop))) else (bif Nat.blt k 56 then (bif Nat.blt k 53 then (bif Nat.beq k 52 then (.iload_n 2, 53, 2, 0, []) else am_nop) else (bif Nat.beq k 53 then (.invokevirtual 70, 56, 90, 0, [(0, 643)]) else am_nop)) else (bif Nat.blt k 57 then (bif Nat.beq k 56 then (.aload_n 0, 57, 0, 0, []) else am_nop) else (bif Nat.blt k 60 then (bif Nat.beq k 57 then (.getfield 67, 60, 7, 1, [(0, 563)]) else am_nop) else (bif Nat.beq k 60 then (.ireturn, 61, 0, 0, []) else am_nop))))))
/-- DeedDeskModel.join(II)V -/
def am_c90 (k : Nat) : am_E := bif Nat.blt k 17 then (bif Nat.blt k 8 then (bif Nat.blt k 5 then (bif Nat.blt k 1 then (bif Nat.beq k 0 then (.aload_n 0, 1, 0, 0, []) else am_nop) else (bif Nat.blt k 4 then (bif Nat.beq k 1 then (.getfield 13, 4, 7, 2, [(0, 564)]) else am_nop) else (bif Nat.beq k 4 then (.iload_n 1, 5, 1, 0, []) else am_nop))) else (bif Nat.blt k 6 then (bif Nat.beq k 5 then (.dup2, 6, 0, 0, []) else am_nop) else (bif Nat.blt k 7 then (bif Nat.beq k 6 then (.iaload, 7, 0, 0, []) else am_nop) else (bif Nat.beq k 7 then (.iconst 1, 8, 0, 0, [(1, 0)]) else am_nop)))) else (bif Nat.blt k 11 then (bif Nat.blt k 9 then (bif Nat.beq k 8 then (.iload_n 2, 9, 2, 0, []) else am_nop) else (bif Nat.blt k 10 then (bif Nat.beq k 9 then (.ishl, 10, 0, 0, []) else am_nop) else (bif Nat.beq k 10 then (.ior, 11, 0, 0, []) else am_nop))) else (bif Nat.blt k 13 then (bif Nat.blt k 12 then (bif Nat.beq k 11 then (.iastore, 12, 0, 0, []) else am_nop) else (bif Nat.beq k 12 then (.aload_n 0, 13, 0, 0, []) else am_nop)) else (bif Nat.blt k 16 then (bif Nat.beq k 13 then (.getfield 13, 16, 7, 2, [(0, 564)]) else am_nop) else (bif Nat.beq k 16 then (.iload_n 2, 17, 2, 0, []) else am_nop))))) else (bif Nat.blt k 24 then (bif Nat.blt k 20 then (bif Nat.blt k 18 then (bif Nat.beq k 17 then (.dup2, 18, 0, 0, []) else am_nop) else (bif Nat.blt k 19 then (bif Nat.beq k 18 then (.iaload, 19, 0, 0, []) else am_nop) else (bif Nat.beq k 19 then (.iconst 1, 20, 0, 0, [(1, 0)]) else am_nop))) else (bif Nat.blt k 22 then (bif Nat.blt k 21 then (bif Nat.beq k 20 then (.iload_n 1, 21, 1, 0, []) else am_nop) else (bif Nat.beq k 21 then (.ishl, 22, 0, 0, []) else am_nop)) else (bif Nat.blt k 23 then (bif Nat.beq k 22 then (.ior, 23, 0, 0, []) else am_nop) else (bif Nat.beq k 23 then (.iastore, 24, 0, 0, []) else am_nop)))) else (bif Nat.blt k 29 then (bif Nat.blt k 25 then (bif Nat.beq k 24 then (.aload_n 0, 25, 0, 0, []) else am_nop) else (bif Nat.blt k 26 then (bif Nat.beq k 25 then (.dup, 26, 0, 0, []) else am_nop) else (bif Nat.beq k 26 then (.getfield 67, 29, 7, 1, [(0, 563)]) else am_nop))) else (bif Nat.blt k 31 then (bif Nat.blt k 30 then (bif Nat.beq k 29 then (.iconst 1, 30, 0, 0, [(1, 0)]) else am_nop) else (bif Nat.beq k 30 then (.iadd, 31, 0, 0, []) else am_nop)) else (bif Nat.blt k 34 then (bif Nat.beq k 31 then (.putfield 67, 34, 7, 1, [(0, 563)]) else am_nop) else (bif Nat.beq k 34 then (.return_, 35, 0, 0, []) else am_nop)))))
/-- DeedDeskModel.lies(II)I -/
def am_c91 (k : Nat) : am_E := bif Nat.blt k 19 then (bif Nat.blt k 9 then (bif Nat.blt k 2 then (bif Nat.blt k 1 then (bif Nat.beq k 0 then (.iload_n 1, 1, 1, 0, []) else am_nop) else (bif Nat.beq k 1 then (.iconst 0, 2, 0, 0, [(0, 0)]) else am_nop)) else (bif Nat.blt k 3 then (bif Nat.beq k 2 then (.iconst 2, 3, 0, 0, [(2, 0)]) else am_nop) else (bif Nat.blt k 6 then (bif Nat.beq k 3 then (.invokestatic 56, 6, 83, 0, [(0, 633)]) else am_nop) else (bif Nat.beq k 6 then (.ifCond .eq 10, 9, 16, 0, []) else am_nop)))) else (bif Nat.blt k 16 then (bif Nat.blt k 10 then (bif Nat.beq k 9 then (.iload_n 2, 10, 2, 0, []) else am_nop) else (bif Nat.blt k 13 then (bif Nat.beq k 10 then (.invokestatic 63, 13, 85, 0, [(0, 640)]) else am_nop) else (bif Nat.beq k 13 then (.ifCond .ne 5, 16, 18, 0, []) else am_nop))) else (bif Nat.blt k 17 then (bif Nat.beq k 16 then (.iconst (-1), 17, 0, 0, [(-1, 0)]) else am_nop) else (bif Nat.blt k 18 then (bif Nat.beq k 17 then (.ireturn, 18, 0, 0, []) else am_nop) else (bif Nat.beq k 18 then (.aload_n 0, 19, 0, 0, []) else am_nop))))) else (bif Nat.blt k 26 then (bif Nat.blt k 23 then (bif Nat.blt k 22 then (bif Nat.beq k 19 then (.getfield 17, 22, 7, 3, [(0, 565)]) else am_nop) else (bif Nat.beq k 22 then (.iload_n 1, 23, 1, 0, []) else am_nop)) else (bif Nat.blt k 24 then (bif Nat.beq k 23 then (.iaload, 24, 0, 0, []) else am_nop) else (bif Nat.blt k 25 then (bif Nat.beq k 24 then (.istore_n 3, 25, 3, 0, []) else am_nop) else (bif Nat.beq k 25 then (.aload_n 0, 26, 0, 0, []) else am_nop)))) else (bif Nat.blt k 31 then (bif Nat.blt k 29 then (bif Nat.beq k 26 then (.getfield 17, 29, 7, 3, [(0, 565)]) else am_nop) else (bif Nat.blt k 30 then (bif Nat.beq k 29 then (.iload_n 1, 30, 1, 0, []) else am_nop) else (bif Nat.beq k 30 then (.iload_n 2, 31, 2, 0, []) else am_nop))) else (bif Nat.blt k 32 then (bif Nat.beq k 31 then (.iastore, 32, 0, 0, []) else am_nop) else (bif Nat.blt k 33 then (bif Nat.beq k 32 then (.iload_n 3, 33, 3, 0, []) else am_nop) else (bif Nat.beq k 33 then (.ireturn, 34, 0, 0, []) else am_nop)))))
/-- DeedDeskModel.deed(III)I -/
def am_c92 (k : Nat) : am_E := bif Nat.blt k 25 then (bif Nat.blt k 14 then (bif Nat.blt k 7 then (bif Nat.blt k 1 then (bif Nat.beq k 0 then (.iload_n 1, 1, 1, 0, []) else am_nop) else (bif Nat.blt k 4 then (bif Nat.beq k 1 then (.invokestatic 63, 4, 85, 0, [(0, 640)]) else am_nop) else (bif Nat.beq k 4 then (.ifCond .eq 24, 7, 28, 0, []) else am_nop))) else (bif Nat.blt k 8 then (bif Nat.beq k 7 then (.iload_n 2, 8, 2, 0, []) else am_nop) else (bif Nat.blt k 11 then (bif Nat.beq k 8 then (.invokestatic 74, 11, 86, 0, [(0, 655)]) else am_nop) else (bif Nat.beq k 11 then (.ifCond .eq 17, 14, 28, 0, []) else am_nop)))) else (bif Nat.blt k 17 then (bif Nat.blt k 15 then (bif Nat.beq k 14 then (.iload_n 3, 15, 3, 0, []) else am_nop) else (bif Nat.blt k 16 then (bif Nat.beq k 15 then (.iconst (-1), 16, 0, 0, [(-1, 0)]) else am_nop) else (bif Nat.beq k 16 then (.aload_n 0, 17, 0, 0, []) else am_nop))) else (bif Nat.blt k 21 then (bif Nat.blt k 20 then (bif Nat.beq k 17 then (.getfield 7, 20, 7, 0, [(0, 562)]) else am_nop) else (bif Nat.beq k 20 then (.iconst 1, 21, 0, 0, [(1, 0)]) else am_nop)) else (bif Nat.blt k 22 then (bif Nat.beq k 21 then (.isub, 22, 0, 0, []) else am_nop) else (bif Nat.beq k 22 then (.invokestatic 56, 25, 83, 0, [(0, 633)]) else am_nop))))) else (bif Nat.blt k 36 then (bif Nat.blt k 30 then (bif Nat.blt k 28 then (bif Nat.beq k 25 then (.ifCond .ne 5, 28, 30, 0, []) else am_nop) else (bif Nat.blt k 29 then (bif Nat.beq k 28 then (.iconst (-1), 29, 0, 0, [(-1, 0)]) else am_nop) else (bif Nat.beq k 29 then (.ireturn, 30, 0, 0, []) else am_nop))) else (bif Nat.blt k 32 then (bif Nat.blt k 31 then (bif Nat.beq k 30 then (.aload_n 0, 31, 0, 0, []) else am_nop) else (bif Nat.beq k 31 then (.iload_n 1, 32, 1, 0, []) else am_nop)) else (bif Nat.blt k 35 then (bif Nat.beq k 32 then (.putfield 77, 35, 7, 4, [(0, 566)]) else am_nop) else (bif Nat.beq k 35 then (.aload_n 0, 36, 0, 0, []) else am_nop)))) else (bif Nat.blt k 41 then (bif Nat.blt k 37 then (bif Nat.beq k 36 then (.iload_n 2, 37, 2, 0, []) else am_nop) else (bif Nat.blt k 40 then (bif Nat.beq k 37 then (.putfield 20, 40, 7, 5, [(0, 567)]) else am_nop) else (bif Nat.beq k 40 then (.aload_n 0, 41, 0, 0, []) else am_nop))) else (bif Nat.blt k 45 then (bif Nat.blt k 42 then (bif Nat.beq k 41 then (.iload_n 3, 42, 3, 0, []) else am_nop) else (bif Nat.beq k 42 then (.putfield 23, 45, 7, 6, [(0, 568)]) else am_nop)) else (bif Nat.blt k 46 then (bif Nat.beq k 45 then (.iconst 1, 46, 0, 0, [(1, 0)]) else am_nop) else (bif Nat.beq k 46 then (.ireturn, 47, 0, 0, []) else am_nop)))))
/-- DeedDeskModel.told(I)I -/
def am_c93 (k : Nat) : am_E := bif Nat.blt k 55 then (bif Nat.blt k 42 then (bif Nat.blt k 37 then (bif Nat.blt k 1 then (bif Nat.beq k 0 then (.iload_n 1, 1, 1, 0, []) else am_nop) else (bif Nat.blt k 36 then (bif Nat.beq k 1 then (.tableswitch 72 0 4 #[35, 40, 45, 62, 67], 36, 73, 0, [(0, 36), (1, 41), (2, 46), (3, 63), (4, 68)]) else am_nop) else (bif Nat.beq k 36 then (.aload_n 0, 37, 0, 0, []) else am_nop))) else (bif Nat.blt k 40 then (bif Nat.beq k 37 then (.getfield 77, 40, 7, 4, [(0, 566)]) else am_nop) else (bif Nat.blt k 41 then (bif Nat.beq k 40 then (.ireturn, 41, 0, 0, []) else am_nop) else (bif Nat.beq k 41 then (.aload_n 0, 42, 0, 0, []) else am_nop)))) else (bif Nat.blt k 47 then (bif Nat.blt k 45 then (bif Nat.beq k 42 then (.getfield 20, 45, 7, 5, [(0, 567)]) else am_nop) else (bif Nat.blt k 46 then (bif Nat.beq k 45 then (.ireturn, 46, 0, 0, []) else am_nop) else (bif Nat.beq k 46 then (.aload_n 0, 47, 0, 0, []) else am_nop))) else (bif Nat.blt k 50 then (bif Nat.beq k 47 then (.getfield 23, 50, 7, 6, [(0, 568)]) else am_nop) else (bif Nat.blt k 53 then (bif Nat.beq k 50 then (.ifCond .ge 8, 53, 58, 0, []) else am_nop) else (bif Nat.beq k 53 then (.bipush (-2), 55, 0, 0, [(-2, 0)]) else am_nop))))) else (bif Nat.blt k 67 then (bif Nat.blt k 62 then (bif Nat.blt k 58 then (bif Nat.beq k 55 then (.goto 7, 58, 62, 0, []) else am_nop) else (bif Nat.blt k 59 then (bif Nat.beq k 58 then (.aload_n 0, 59, 0, 0, []) else am_nop) else (bif Nat.beq k 59 then (.getfield 23, 62, 7, 6, [(0, 568)]) else am_nop))) else (bif Nat.blt k 63 then (bif Nat.beq k 62 then (.ireturn, 63, 0, 0, []) else am_nop) else (bif Nat.blt k 64 then (bif Nat.beq k 63 then (.aload_n 0, 64, 0, 0, []) else am_nop) else (bif Nat.beq k 64 then (.getfield 7, 67, 7, 0, [(0, 562)]) else am_nop)))) else (bif Nat.blt k 72 then (bif Nat.blt k 68 then (bif Nat.beq k 67 then (.ireturn, 68, 0, 0, []) else am_nop) else (bif Nat.blt k 69 then (bif Nat.beq k 68 then (.aload_n 0, 69, 0, 0, []) else am_nop) else (bif Nat.beq k 69 then (.getfield 67, 72, 7, 1, [(0, 563)]) else am_nop))) else (bif Nat.blt k 73 then (bif Nat.beq k 72 then (.ireturn, 73, 0, 0, []) else am_nop) else (bif Nat.blt k 74 then (bif Nat.beq k 73 then (.iconst (-1), 74, 0, 0, [(-1, 0)]) else am_nop) else (bif Nat.beq k 74 then (.ireturn, 75, 0, 0, []) else am_nop)))))
/-- DeedDeskModel.isGood(IIIII)Z -/
def am_c94 (k : Nat) : am_E := bif Nat.blt k 59 then (bif Nat.blt k 31 then (bif Nat.blt k 12 then (bif Nat.blt k 6 then (bif Nat.blt k 2 then (bif Nat.blt k 1 then (bif Nat.beq k 0 then (.iload_n 1, 1, 1, 0, []) else am_nop) else (bif Nat.beq k 1 then (.iconst 2, 2, 0, 0, [(2, 0)]) else am_nop)) else (bif Nat.blt k 5 then (bif Nat.beq k 2 then (.if_icmp .eq 8, 5, 10, 0, []) else am_nop) else (bif Nat.beq k 5 then (.iload_n 1, 6, 1, 0, []) else am_nop))) else (bif Nat.blt k 10 then (bif Nat.blt k 7 then (bif Nat.beq k 6 then (.iconst 3, 7, 0, 0, [(3, 0)]) else am_nop) else (bif Nat.beq k 7 then (.if_icmp .ne 25, 10, 32, 0, []) else am_nop)) else (bif Nat.blt k 11 then (bif Nat.beq k 10 then (.iload_n 2, 11, 2, 0, []) else am_nop) else (bif Nat.beq k 11 then (.iconst 0, 12, 0, 0, [(0, 0)]) else am_nop)))) else (bif Nat.blt k 20 then (bif Nat.blt k 16 then (bif Nat.blt k 13 then (bif Nat.beq k 12 then (.iconst 2, 13, 0, 0, [(2, 0)]) else am_nop) else (bif Nat.beq k 13 then (.invokestatic 56, 16, 83, 0, [(0, 633)]) else am_nop)) else (bif Nat.blt k 19 then (bif Nat.beq k 16 then (.ifCond .eq 14, 19, 30, 0, []) else am_nop) else (bif Nat.beq k 19 then (.iload_n 3, 20, 3, 0, []) else am_nop))) else (bif Nat.blt k 26 then (bif Nat.blt k 23 then (bif Nat.beq k 20 then (.invokestatic 74, 23, 86, 0, [(0, 655)]) else am_nop) else (bif Nat.beq k 23 then (.ifCond .eq 7, 26, 30, 0, []) else am_nop)) else (bif Nat.blt k 27 then (bif Nat.beq k 26 then (.iconst 1, 27, 0, 0, [(1, 0)]) else am_nop) else (bif Nat.blt k 30 then (bif Nat.beq k 27 then (.goto 4, 30, 31, 0, []) else am_nop) else (bif Nat.beq k 30 then (.iconst 0, 31, 0, 0, [(0, 0)]) else am_nop)))))) else (bif Nat.blt k 43 then (bif Nat.blt k 37 then (bif Nat.blt k 33 then (bif Nat.blt k 32 then (bif Nat.beq k 31 then (.ireturn, 32, 0, 0, []) else am_nop) else (bif Nat.beq k 32 then (.iload_n 1, 33, 1, 0, []) else am_nop)) else (bif Nat.blt k 34 then (bif Nat.beq k 33 then (.iconst 4, 34, 0, 0, [(4, 0)]) else am_nop) else (bif Nat.beq k 34 then (.if_icmp .ne 9, 37, 43, 0, []) else am_nop))) else (bif Nat.blt k 39 then (bif Nat.blt k 38 then (bif Nat.beq k 37 then (.aload_n 0, 38, 0, 0, []) else am_nop) else (bif Nat.beq k 38 then (.iload_n 2, 39, 2, 0, []) else am_nop)) else (bif Nat.blt k 42 then (bif Nat.beq k 39 then (.invokevirtual 80, 42, 87, 0, [(0, 670)]) else am_nop) else (bif Nat.beq k 42 then (.ireturn, 43, 0, 0, []) else am_nop)))) else (bif Nat.blt k 50 then (bif Nat.blt k 46 then (bif Nat.blt k 44 then (bif Nat.beq k 43 then (.iload_n 1, 44, 1, 0, []) else am_nop) else (bif Nat.beq k 44 then (.bipush 7, 46, 0, 0, [(7, 0)]) else am_nop)) else (bif Nat.blt k 49 then (bif Nat.beq k 46 then (.if_icmp .ne 46, 49, 92, 0, []) else am_nop) else (bif Nat.beq k 49 then (.aload_n 0, 50, 0, 0, []) else am_nop))) else (bif Nat.blt k 54 then (bif Nat.blt k 51 then (bif Nat.beq k 50 then (.iload_n 2, 51, 2, 0, []) else am_nop) else (bif Nat.beq k 51 then (.invokevirtual 80, 54, 87, 0, [(0, 670)]) else am_nop)) else (bif Nat.blt k 57 then (bif Nat.beq k 54 then (.ifCond .eq 36, 57, 90, 0, []) else am_nop) else (bif Nat.blt k 58 then (bif Nat.beq k 57 then (.aload_n 0, 58, 0, 0, []) else am_nop) else (bif Nat.beq k 58 then (.iload_n 3, 59, 3, 0, []) else am_nop))))))) else (bif Nat.blt k 94 then (bif Nat.blt k 78 then (bif Nat.blt k 67 then (bif Nat.blt k 65 then (bif Nat.blt k 62 then (bif Nat.beq k 59 then (.invokevirtual 80, 62, 87, 0, [(0, 670)]) else am_nop) else (bif Nat.beq k 62 then (.ifCond .eq 28, 65, 90, 0, []) else am_nop)) else (bif Nat.blt k 66 then (bif Nat.beq k 65 then (.iload_n 2, 66, 2, 0, []) else am_nop) else (bif Nat.beq k 66 then (.iload_n 3, 67, 3, 0, []) else am_nop))) else (bif Nat.blt k 72 then (bif Nat.blt k 70 then (bif Nat.beq k 67 then (.if_icmp .eq 23, 70, 90, 0, []) else am_nop) else (bif Nat.beq k 70 then (.iload 4, 72, 4, 0, []) else am_nop)) else (bif Nat.blt k 75 then (bif Nat.beq k 72 then (.invokestatic 63, 75, 85, 0, [(0, 640)]) else am_nop) else (bif Nat.beq k 75 then (.ifCond .eq 15, 78, 90, 0, []) else am_nop)))) else (bif Nat.blt k 87 then (bif Nat.blt k 83 then (bif Nat.blt k 80 then (bif Nat.beq k 78 then (.iload 5, 80, 5, 0, []) else am_nop) else (bif Nat.beq k 80 then (.invokestatic 74, 83, 86, 0, [(0, 655)]) else am_nop)) else (bif Nat.blt k 86 then (bif Nat.beq k 83 then (.ifCond .eq 7, 86, 90, 0, []) else am_nop) else (bif Nat.beq k 86 then (.iconst 1, 87, 0, 0, [(1, 0)]) else am_nop))) else (bif Nat.blt k 91 then (bif Nat.blt k 90 then (bif Nat.beq k 87 then (.goto 4, 90, 91, 0, []) else am_nop) else (bif Nat.beq k 90 then (.iconst 0, 91, 0, 0, [(0, 0)]) else am_nop)) else (bif Nat.blt k 92 then (bif Nat.beq k 91 then (.ireturn, 92, 0, 0, []) else am_nop) else (bif Nat.blt k 93 then (bif Nat.beq k 92 then (.iload_n 1, 93, 1, 0, []) else am_nop) else (bif Nat.beq k 93 then (.iconst 0, 94, 0, 0, [(0, 0)]) else am_nop)))))) else (bif Nat.blt k 111 then (bif Nat.blt k 103 then (bif Nat.blt k 99 then (bif Nat.blt k 96 then (bif Nat.beq k 94 then (.bipush 7, 96, 0, 0, [(7, 0)]) else am_nop) else (bif Nat.beq k 96 then (.invokestatic 56, 99, 83, 0, [(0, 633)]) else am_nop)) else (bif Nat.blt k 102 then (bif Nat.beq k 99 then (.ifCond .eq 30, 102, 129, 0, []) else am_nop) else (bif Nat.beq k 102 then (.aload_n 0, 103, 0, 0, []) else am_nop))) else (bif Nat.blt k 107 then (bif Nat.blt k 104 then (bif Nat.beq k 103 then (.iload_n 2, 104, 2, 0, []) else am_nop) else (bif Nat.beq k 104 then (.invokevirtual 80, 107, 87, 0, [(0, 670)]) else am_nop)) else (bif Nat.blt k 110 then (bif Nat.beq k 107 then (.ifCond .eq 22, 110, 129, 0, []) else am_nop) else (bif Nat.beq k 110 then (.iload_n 3, 111, 3, 0, []) else am_nop)))) else (bif Nat.blt k 122 then (bif Nat.blt k 117 then (bif Nat.blt k 114 then (bif Nat.beq k 111 then (.invokestatic 63, 114, 85, 0, [(0, 640)]) else am_nop) else (bif Nat.beq k 114 then (.ifCond .eq 15, 117, 129, 0, []) else am_nop)) else (bif Nat.blt k 119 then (bif Nat.beq k 117 then (.iload 4, 119, 4, 0, []) else am_nop) else (bif Nat.beq k 119 then (.invokestatic 74, 122, 86, 0, [(0, 655)]) else am_nop))) else (bif Nat.blt k 126 then (bif Nat.blt k 125 then (bif Nat.beq k 122 then (.ifCond .eq 7, 125, 129, 0, []) else am_nop) else (bif Nat.beq k 125 then (.iconst 1, 126, 0, 0, [(1, 0)]) else am_nop)) else (bif Nat.blt k 129 then (bif Nat.beq k 126 then (.goto 4, 129, 130, 0, []) else am_nop) else (bif Nat.blt k 130 then (bif Nat.beq k 129 then (.iconst 0, 130, 0, 0, [(0, 0)]) else am_nop) else (bif Nat.beq k 130 then (.ireturn, 131, 0, 0, []) else am_nop)))))))
/-- DeedDeskModel.put(IIIII)V -/
def am_c95 (k : Nat) : am_E := bif Nat.blt k 77 then (bif Nat.blt k 41 then (bif Nat.blt k 19 then (bif Nat.blt k 9 then (bif Nat.blt k 2 then (bif Nat.blt k 1 then (bif Nat.beq k 0 then (.iload_n 1, 1, 1, 0, []) else am_nop) else (bif Nat.beq k 1 then (.iconst 4, 2, 0, 0, [(4, 0)]) else am_nop)) else (bif Nat.blt k 5 then (bif Nat.beq k 2 then (.if_icmp .ne 7, 5, 9, 0, []) else am_nop) else (bif Nat.blt k 6 then (bif Nat.beq k 5 then (.iconst 1, 6, 0, 0, [(1, 0)]) else am_nop) else (bif Nat.beq k 6 then (.goto 28, 9, 34, 0, []) else am_nop)))) else (bif Nat.blt k 14 then (bif Nat.blt k 10 then (bif Nat.beq k 9 then (.iload_n 1, 10, 1, 0, []) else am_nop) else (bif Nat.blt k 11 then (bif Nat.beq k 10 then (.iconst 2, 11, 0, 0, [(2, 0)]) else am_nop) else (bif Nat.beq k 11 then (.if_icmp .eq 8, 14, 19, 0, []) else am_nop))) else (bif Nat.blt k 15 then (bif Nat.beq k 14 then (.iload_n 1, 15, 1, 0, []) else am_nop) else (bif Nat.blt k 16 then (bif Nat.beq k 15 then (.iconst 3, 16, 0, 0, [(3, 0)]) else am_nop) else (bif Nat.beq k 16 then (.if_icmp .ne 7, 19, 23, 0, []) else am_nop))))) else (bif Nat.blt k 30 then (bif Nat.blt k 24 then (bif Nat.blt k 20 then (bif Nat.beq k 19 then (.iconst 2, 20, 0, 0, [(2, 0)]) else am_nop) else (bif Nat.blt k 23 then (bif Nat.beq k 20 then (.goto 14, 23, 34, 0, []) else am_nop) else (bif Nat.beq k 23 then (.iload_n 1, 24, 1, 0, []) else am_nop))) else (bif Nat.blt k 26 then (bif Nat.beq k 24 then (.bipush 7, 26, 0, 0, [(7, 0)]) else am_nop) else (bif Nat.blt k 29 then (bif Nat.beq k 26 then (.if_icmp .ne 7, 29, 33, 0, []) else am_nop) else (bif Nat.beq k 29 then (.iconst 4, 30, 0, 0, [(4, 0)]) else am_nop)))) else (bif Nat.blt k 36 then (bif Nat.blt k 33 then (bif Nat.beq k 30 then (.goto 4, 33, 34, 0, []) else am_nop) else (bif Nat.blt k 34 then (bif Nat.beq k 33 then (.iconst 3, 34, 0, 0, [(3, 0)]) else am_nop) else (bif Nat.beq k 34 then (.istore 6, 36, 6, 0, []) else am_nop))) else (bif Nat.blt k 37 then (bif Nat.beq k 36 then (.aload_n 0, 37, 0, 0, []) else am_nop) else (bif Nat.blt k 40 then (bif Nat.beq k 37 then (.getfield 26, 40, 7, 8, [(0, 570)]) else am_nop) else (bif Nat.beq k 40 then (.aload_n 0, 41, 0, 0, []) else am_nop)))))) else (bif Nat.blt k 58 then (bif Nat.blt k 50 then (bif Nat.blt k 45 then (bif Nat.blt k 44 then (bif Nat.beq k 41 then (.getfield 60, 44, 7, 7, [(0, 569)]) else am_nop) else (bif Nat.beq k 44 then (.iload_n 1, 45, 1, 0, []) else am_nop)) else (bif Nat.blt k 46 then (bif Nat.beq k 45 then (.iastore, 46, 0, 0, []) else am_nop) else (bif Nat.blt k 47 then (bif Nat.beq k 46 then (.aload_n 0, 47, 0, 0, []) else am_nop) else (bif Nat.beq k 47 then (.getfield 29, 50, 7, 9, [(0, 571)]) else am_nop)))) else (bif Nat.blt k 55 then (bif Nat.blt k 51 then (bif Nat.beq k 50 then (.iconst 4, 51, 0, 0, [(4, 0)]) else am_nop) else (bif Nat.blt k 52 then (bif Nat.beq k 51 then (.aload_n 0, 52, 0, 0, []) else am_nop) else (bif Nat.beq k 52 then (.getfield 60, 55, 7, 7, [(0, 569)]) else am_nop))) else (bif Nat.blt k 56 then (bif Nat.beq k 55 then (.imul, 56, 0, 0, []) else am_nop) else (bif Nat.blt k 57 then (bif Nat.beq k 56 then (.iload_n 2, 57, 2, 0, []) else am_nop) else (bif Nat.beq k 57 then (.iastore, 58, 0, 0, []) else am_nop))))) else (bif Nat.blt k 68 then (bif Nat.blt k 63 then (bif Nat.blt k 59 then (bif Nat.beq k 58 then (.aload_n 0, 59, 0, 0, []) else am_nop) else (bif Nat.blt k 62 then (bif Nat.beq k 59 then (.getfield 29, 62, 7, 9, [(0, 571)]) else am_nop) else (bif Nat.beq k 62 then (.iconst 4, 63, 0, 0, [(4, 0)]) else am_nop))) else (bif Nat.blt k 64 then (bif Nat.beq k 63 then (.aload_n 0, 64, 0, 0, []) else am_nop) else (bif Nat.blt k 67 then (bif Nat.beq k 64 then (.getfield 60, 67, 7, 7, [(0, 569)]) else am_nop) else (bif Nat.beq k 67 then (.imul, 68, 0, 0, []) else am_nop)))) else (bif Nat.blt k 72 then (bif Nat.blt k 69 then (bif Nat.beq k 68 then (.iconst 1, 69, 0, 0, [(1, 0)]) else am_nop) else (bif Nat.blt k 70 then (bif Nat.beq k 69 then (.iadd, 70, 0, 0, []) else am_nop) else (bif Nat.beq k 70 then (.iload 6, 72, 6, 0, []) else am_nop))) else (bif Nat.blt k 73 then (bif Nat.beq k 72 then (.iconst 1, 73, 0, 0, [(1, 0)]) else am_nop) else (bif Nat.blt k 76 then (bif Nat.beq k 73 then (.if_icmp .le 7, 76, 80, 0, []) else am_nop) else (bif Nat.beq k 76 then (.iload_n 3, 77, 3, 0, []) else am_nop))))))) else (bif Nat.blt k 116 then (bif Nat.blt k 94 then (bif Nat.blt k 86 then (bif Nat.blt k 81 then (bif Nat.blt k 80 then (bif Nat.beq k 77 then (.goto 4, 80, 81, 0, []) else am_nop) else (bif Nat.beq k 80 then (.iconst 0, 81, 0, 0, [(0, 0)]) else am_nop)) else (bif Nat.blt k 82 then (bif Nat.beq k 81 then (.iastore, 82, 0, 0, []) else am_nop) else (bif Nat.blt k 83 then (bif Nat.beq k 82 then (.aload_n 0, 83, 0, 0, []) else am_nop) else (bif Nat.beq k 83 then (.getfield 29, 86, 7, 9, [(0, 571)]) else am_nop)))) else (bif Nat.blt k 91 then (bif Nat.blt k 87 then (bif Nat.beq k 86 then (.iconst 4, 87, 0, 0, [(4, 0)]) else am_nop) else (bif Nat.blt k 88 then (bif Nat.beq k 87 then (.aload_n 0, 88, 0, 0, []) else am_nop) else (bif Nat.beq k 88 then (.getfield 60, 91, 7, 7, [(0, 569)]) else am_nop))) else (bif Nat.blt k 92 then (bif Nat.beq k 91 then (.imul, 92, 0, 0, []) else am_nop) else (bif Nat.blt k 93 then (bif Nat.beq k 92 then (.iconst 2, 93, 0, 0, [(2, 0)]) else am_nop) else (bif Nat.beq k 93 then (.iadd, 94, 0, 0, []) else am_nop))))) else (bif Nat.blt k 106 then (bif Nat.blt k 100 then (bif Nat.blt k 96 then (bif Nat.beq k 94 then (.iload 6, 96, 6, 0, []) else am_nop) else (bif Nat.blt k 97 then (bif Nat.beq k 96 then (.iconst 2, 97, 0, 0, [(2, 0)]) else am_nop) else (bif Nat.beq k 97 then (.if_icmp .le 8, 100, 105, 0, []) else am_nop))) else (bif Nat.blt k 102 then (bif Nat.beq k 100 then (.iload 4, 102, 4, 0, []) else am_nop) else (bif Nat.blt k 105 then (bif Nat.beq k 102 then (.goto 4, 105, 106, 0, []) else am_nop) else (bif Nat.beq k 105 then (.iconst 0, 106, 0, 0, [(0, 0)]) else am_nop)))) else (bif Nat.blt k 111 then (bif Nat.blt k 107 then (bif Nat.beq k 106 then (.iastore, 107, 0, 0, []) else am_nop) else (bif Nat.blt k 108 then (bif Nat.beq k 107 then (.aload_n 0, 108, 0, 0, []) else am_nop) else (bif Nat.beq k 108 then (.getfield 29, 111, 7, 9, [(0, 571)]) else am_nop))) else (bif Nat.blt k 112 then (bif Nat.beq k 111 then (.iconst 4, 112, 0, 0, [(4, 0)]) else am_nop) else (bif Nat.blt k 113 then (bif Nat.beq k 112 then (.aload_n 0, 113, 0, 0, []) else am_nop) else (bif Nat.beq k 113 then (.getfield 60, 116, 7, 7, [(0, 569)]) else am_nop)))))) else (bif Nat.blt k 133 then (bif Nat.blt k 122 then (bif Nat.blt k 118 then (bif Nat.blt k 117 then (bif Nat.beq k 116 then (.imul, 117, 0, 0, []) else am_nop) else (bif Nat.beq k 117 then (.iconst 3, 118, 0, 0, [(3, 0)]) else am_nop)) else (bif Nat.blt k 119 then (bif Nat.beq k 118 then (.iadd, 119, 0, 0, []) else am_nop) else (bif Nat.blt k 121 then (bif Nat.beq k 119 then (.iload 6, 121, 6, 0, []) else am_nop) else (bif Nat.beq k 121 then (.iconst 3, 122, 0, 0, [(3, 0)]) else am_nop)))) else (bif Nat.blt k 130 then (bif Nat.blt k 125 then (bif Nat.beq k 122 then (.if_icmp .le 8, 125, 130, 0, []) else am_nop) else (bif Nat.blt k 127 then (bif Nat.beq k 125 then (.iload 5, 127, 5, 0, []) else am_nop) else (bif Nat.beq k 127 then (.goto 4, 130, 131, 0, []) else am_nop))) else (bif Nat.blt k 131 then (bif Nat.beq k 130 then (.iconst 0, 131, 0, 0, [(0, 0)]) else am_nop) else (bif Nat.blt k 132 then (bif Nat.beq k 131 then (.iastore, 132, 0, 0, []) else am_nop) else (bif Nat.beq k 132 then (.aload_n 0, 133, 0, 0, []) else am_nop))))) else (bif Nat.blt k 143 then (bif Nat.blt k 140 then (bif Nat.blt k 136 then (bif Nat.beq k 133 then (.getfield 32, 136, 7, 10, [(0, 572)]) else am_nop) else (bif Nat.blt k 137 then (bif Nat.beq k 136 then (.aload_n 0, 137, 0, 0, []) else am_nop) else (bif Nat.beq k 137 then (.getfield 60, 140, 7, 7, [(0, 569)]) else am_nop))) else (bif Nat.blt k 141 then (bif Nat.beq k 140 then (.iconst 0, 141, 0, 0, [(0, 0)]) else am_nop) else (bif Nat.blt k 142 then (bif Nat.beq k 141 then (.iastore, 142, 0, 0, []) else am_nop) else (bif Nat.beq k 142 then (.aload_n 0, 143, 0, 0, []) else am_nop)))) else (bif Nat.blt k 148 then (bif Nat.blt k 144 then (bif Nat.beq k 143 then (.dup, 144, 0, 0, []) else am_nop) else (bif Nat.blt k 147 then (bif Nat.beq k 144 then (.getfield 60, 147, 7, 7, [(0, 569)]) else am_nop) else (bif Nat.beq k 147 then (.iconst 1, 148, 0, 0, [(1, 0)]) else am_nop))) else (bif Nat.blt k 149 then (bif Nat.beq k 148 then (.iadd, 149, 0, 0, []) else am_nop) else (bif Nat.blt k 152 then (bif Nat.beq k 149 then (.putfield 60, 152, 7, 7, [(0, 569)]) else am_nop) else (bif Nat.beq k 152 then (.return_, 153, 0, 0, []) else am_nop)))))))
/-- DeedDeskModel.find(IIIII)I -/
def am_c96 (k : Nat) : am_E := bif Nat.blt k 25 then (bif Nat.blt k 11 then (bif Nat.blt k 3 then (bif Nat.blt k 1 then (bif Nat.beq k 0 then (.aload_n 0, 1, 0, 0, []) else am_nop) else (bif Nat.blt k 2 then (bif Nat.beq k 1 then (.iload_n 1, 2, 1, 0, []) else am_nop) else (bif Nat.beq k 2 then (.iload_n 2, 3, 2, 0, []) else am_nop))) else (bif Nat.blt k 6 then (bif Nat.blt k 4 then (bif Nat.beq k 3 then (.iload_n 3, 4, 3, 0, []) else am_nop) else (bif Nat.beq k 4 then (.iload 4, 6, 4, 0, []) else am_nop)) else (bif Nat.blt k 8 then (bif Nat.beq k 6 then (.iload 5, 8, 5, 0, []) else am_nop) else (bif Nat.beq k 8 then (.invokevirtual 83, 11, 94, 0, [(0, 666)]) else am_nop)))) else (bif Nat.blt k 16 then (bif Nat.blt k 14 then (bif Nat.beq k 11 then (.ifCond .ne 5, 14, 16, 0, []) else am_nop) else (bif Nat.blt k 15 then (bif Nat.beq k 14 then (.iconst (-1), 15, 0, 0, [(-1, 0)]) else am_nop) else (bif Nat.beq k 15 then (.ireturn, 16, 0, 0, []) else am_nop))) else (bif Nat.blt k 20 then (bif Nat.blt k 17 then (bif Nat.beq k 16 then (.aload_n 0, 17, 0, 0, []) else am_nop) else (bif Nat.beq k 17 then (.getfield 60, 20, 7, 7, [(0, 569)]) else am_nop)) else (bif Nat.blt k 22 then (bif Nat.beq k 20 then (.bipush 20, 22, 0, 0, [(20, 0)]) else am_nop) else (bif Nat.beq k 22 then (.if_icmp .ne 6, 25, 28, 0, []) else am_nop))))) else (bif Nat.blt k 34 then (bif Nat.blt k 29 then (bif Nat.blt k 27 then (bif Nat.beq k 25 then (.bipush (-3), 27, 0, 0, [(-3, 0)]) else am_nop) else (bif Nat.blt k 28 then (bif Nat.beq k 27 then (.ireturn, 28, 0, 0, []) else am_nop) else (bif Nat.beq k 28 then (.aload_n 0, 29, 0, 0, []) else am_nop))) else (bif Nat.blt k 31 then (bif Nat.blt k 30 then (bif Nat.beq k 29 then (.iload_n 1, 30, 1, 0, []) else am_nop) else (bif Nat.beq k 30 then (.iload_n 2, 31, 2, 0, []) else am_nop)) else (bif Nat.blt k 32 then (bif Nat.beq k 31 then (.iload_n 3, 32, 3, 0, []) else am_nop) else (bif Nat.beq k 32 then (.iload 4, 34, 4, 0, []) else am_nop)))) else (bif Nat.blt k 40 then (bif Nat.blt k 36 then (bif Nat.beq k 34 then (.iload 5, 36, 5, 0, []) else am_nop) else (bif Nat.blt k 39 then (bif Nat.beq k 36 then (.invokevirtual 87, 39, 95, 0, [(0, 674)]) else am_nop) else (bif Nat.beq k 39 then (.aload_n 0, 40, 0, 0, []) else am_nop))) else (bif Nat.blt k 44 then (bif Nat.blt k 43 then (bif Nat.beq k 40 then (.getfield 60, 43, 7, 7, [(0, 569)]) else am_nop) else (bif Nat.beq k 43 then (.iconst 1, 44, 0, 0, [(1, 0)]) else am_nop)) else (bif Nat.blt k 45 then (bif Nat.beq k 44 then (.isub, 45, 0, 0, []) else am_nop) else (bif Nat.beq k 45 then (.ireturn, 46, 0, 0, []) else am_nop)))))
/-- DeedDeskModel.found(IZ)I -/
def am_c97 (k : Nat) : am_E := bif Nat.blt k 38 then (bif Nat.blt k 20 then (bif Nat.blt k 8 then (bif Nat.blt k 3 then (bif Nat.blt k 1 then (bif Nat.beq k 0 then (.iload_n 1, 1, 1, 0, []) else am_nop) else (bif Nat.blt k 2 then (bif Nat.beq k 1 then (.iconst 0, 2, 0, 0, [(0, 0)]) else am_nop) else (bif Nat.beq k 2 then (.aload_n 0, 3, 0, 0, []) else am_nop))) else (bif Nat.blt k 6 then (bif Nat.beq k 3 then (.getfield 60, 6, 7, 7, [(0, 569)]) else am_nop) else (bif Nat.blt k 7 then (bif Nat.beq k 6 then (.iconst 1, 7, 0, 0, [(1, 0)]) else am_nop) else (bif Nat.beq k 7 then (.isub, 8, 0, 0, []) else am_nop)))) else (bif Nat.blt k 15 then (bif Nat.blt k 11 then (bif Nat.beq k 8 then (.invokestatic 56, 11, 83, 0, [(0, 633)]) else am_nop) else (bif Nat.blt k 14 then (bif Nat.beq k 11 then (.ifCond .ne 5, 14, 16, 0, []) else am_nop) else (bif Nat.beq k 14 then (.iconst (-1), 15, 0, 0, [(-1, 0)]) else am_nop))) else (bif Nat.blt k 16 then (bif Nat.beq k 15 then (.ireturn, 16, 0, 0, []) else am_nop) else (bif Nat.blt k 17 then (bif Nat.beq k 16 then (.aload_n 0, 17, 0, 0, []) else am_nop) else (bif Nat.beq k 17 then (.getfield 32, 20, 7, 10, [(0, 572)]) else am_nop))))) else (bif Nat.blt k 28 then (bif Nat.blt k 23 then (bif Nat.blt k 21 then (bif Nat.beq k 20 then (.iload_n 1, 21, 1, 0, []) else am_nop) else (bif Nat.blt k 22 then (bif Nat.beq k 21 then (.iaload, 22, 0, 0, []) else am_nop) else (bif Nat.beq k 22 then (.istore_n 3, 23, 3, 0, []) else am_nop))) else (bif Nat.blt k 24 then (bif Nat.beq k 23 then (.iload_n 2, 24, 2, 0, []) else am_nop) else (bif Nat.blt k 27 then (bif Nat.beq k 24 then (.ifCond .eq 27, 27, 51, 0, []) else am_nop) else (bif Nat.beq k 27 then (.iload_n 3, 28, 3, 0, []) else am_nop)))) else (bif Nat.blt k 33 then (bif Nat.blt k 31 then (bif Nat.beq k 28 then (.ifCond .ne 23, 31, 51, 0, []) else am_nop) else (bif Nat.blt k 32 then (bif Nat.beq k 31 then (.aload_n 0, 32, 0, 0, []) else am_nop) else (bif Nat.beq k 32 then (.dup, 33, 0, 0, []) else am_nop))) else (bif Nat.blt k 36 then (bif Nat.beq k 33 then (.getfield 91, 36, 7, 11, [(0, 573)]) else am_nop) else (bif Nat.blt k 37 then (bif Nat.beq k 36 then (.iconst 1, 37, 0, 0, [(1, 0)]) else am_nop) else (bif Nat.beq k 37 then (.iadd, 38, 0, 0, []) else am_nop)))))) else (bif Nat.blt k 60 then (bif Nat.blt k 50 then (bif Nat.blt k 45 then (bif Nat.blt k 41 then (bif Nat.beq k 38 then (.putfield 91, 41, 7, 11, [(0, 573)]) else am_nop) else (bif Nat.blt k 42 then (bif Nat.beq k 41 then (.aload_n 0, 42, 0, 0, []) else am_nop) else (bif Nat.beq k 42 then (.getfield 32, 45, 7, 10, [(0, 572)]) else am_nop))) else (bif Nat.blt k 46 then (bif Nat.beq k 45 then (.iload_n 1, 46, 1, 0, []) else am_nop) else (bif Nat.blt k 47 then (bif Nat.beq k 46 then (.aload_n 0, 47, 0, 0, []) else am_nop) else (bif Nat.beq k 47 then (.getfield 91, 50, 7, 11, [(0, 573)]) else am_nop)))) else (bif Nat.blt k 55 then (bif Nat.blt k 51 then (bif Nat.beq k 50 then (.iastore, 51, 0, 0, []) else am_nop) else (bif Nat.blt k 52 then (bif Nat.beq k 51 then (.aload_n 0, 52, 0, 0, []) else am_nop) else (bif Nat.beq k 52 then (.getfield 32, 55, 7, 10, [(0, 572)]) else am_nop))) else (bif Nat.blt k 56 then (bif Nat.beq k 55 then (.iload_n 1, 56, 1, 0, []) else am_nop) else (bif Nat.blt k 57 then (bif Nat.beq k 56 then (.iload_n 2, 57, 2, 0, []) else am_nop) else (bif Nat.beq k 57 then (.ifCond .eq 12, 60, 69, 0, []) else am_nop))))) else (bif Nat.blt k 70 then (bif Nat.blt k 65 then (bif Nat.blt k 61 then (bif Nat.beq k 60 then (.aload_n 0, 61, 0, 0, []) else am_nop) else (bif Nat.blt k 64 then (bif Nat.beq k 61 then (.getfield 32, 64, 7, 10, [(0, 572)]) else am_nop) else (bif Nat.beq k 64 then (.iload_n 1, 65, 1, 0, []) else am_nop))) else (bif Nat.blt k 66 then (bif Nat.beq k 65 then (.iaload, 66, 0, 0, []) else am_nop) else (bif Nat.blt k 69 then (bif Nat.beq k 66 then (.goto 4, 69, 70, 0, []) else am_nop) else (bif Nat.beq k 69 then (.iconst 0, 70, 0, 0, [(0, 0)]) else am_nop)))) else (bif Nat.blt k 75 then (bif Nat.blt k 71 then (bif Nat.beq k 70 then (.iastore, 71, 0, 0, []) else am_nop) else (bif Nat.blt k 72 then (bif Nat.beq k 71 then (.iload_n 3, 72, 3, 0, []) else am_nop) else (bif Nat.beq k 72 then (.ifCond .le 7, 75, 79, 0, []) else am_nop))) else (bif Nat.blt k 79 then (bif Nat.blt k 76 then (bif Nat.beq k 75 then (.iconst 1, 76, 0, 0, [(1, 0)]) else am_nop) else (bif Nat.beq k 76 then (.goto 4, 79, 80, 0, []) else am_nop)) else (bif Nat.blt k 80 then (bif Nat.beq k 79 then (.iconst 0, 80, 0, 0, [(0, 0)]) else am_nop) else (bif Nat.beq k 80 then (.ireturn, 81, 0, 0, []) else am_nop))))))
/-- DeedDeskModel.about(II)I -/
def am_c98 (k : Nat) : am_E := bif Nat.blt k 38 then (bif Nat.blt k 17 then (bif Nat.blt k 7 then (bif Nat.blt k 2 then (bif Nat.blt k 1 then (bif Nat.beq k 0 then (.iload_n 1, 1, 1, 0, []) else am_nop) else (bif Nat.beq k 1 then (.iconst 0, 2, 0, 0, [(0, 0)]) else am_nop)) else (bif Nat.blt k 3 then (bif Nat.beq k 2 then (.aload_n 0, 3, 0, 0, []) else am_nop) else (bif Nat.blt k 6 then (bif Nat.beq k 3 then (.getfield 60, 6, 7, 7, [(0, 569)]) else am_nop) else (bif Nat.beq k 6 then (.iconst 1, 7, 0, 0, [(1, 0)]) else am_nop)))) else (bif Nat.blt k 14 then (bif Nat.blt k 8 then (bif Nat.beq k 7 then (.isub, 8, 0, 0, []) else am_nop) else (bif Nat.blt k 11 then (bif Nat.beq k 8 then (.invokestatic 56, 11, 83, 0, [(0, 633)]) else am_nop) else (bif Nat.beq k 11 then (.ifCond .eq 12, 14, 23, 0, []) else am_nop))) else (bif Nat.blt k 15 then (bif Nat.beq k 14 then (.iload_n 2, 15, 2, 0, []) else am_nop) else (bif Nat.blt k 16 then (bif Nat.beq k 15 then (.iconst 0, 16, 0, 0, [(0, 0)]) else am_nop) else (bif Nat.beq k 16 then (.iconst 5, 17, 0, 0, [(5, 0)]) else am_nop))))) else (bif Nat.blt k 26 then (bif Nat.blt k 23 then (bif Nat.blt k 20 then (bif Nat.beq k 17 then (.invokestatic 56, 20, 83, 0, [(0, 633)]) else am_nop) else (bif Nat.beq k 20 then (.ifCond .ne 5, 23, 25, 0, []) else am_nop)) else (bif Nat.blt k 24 then (bif Nat.beq k 23 then (.iconst (-1), 24, 0, 0, [(-1, 0)]) else am_nop) else (bif Nat.blt k 25 then (bif Nat.beq k 24 then (.ireturn, 25, 0, 0, []) else am_nop) else (bif Nat.beq k 25 then (.iload_n 2, 26, 2, 0, []) else am_nop)))) else (bif Nat.blt k 33 then (bif Nat.blt k 29 then (bif Nat.beq k 26 then (.ifCond .ne 12, 29, 38, 0, []) else am_nop) else (bif Nat.blt k 30 then (bif Nat.beq k 29 then (.aload_n 0, 30, 0, 0, []) else am_nop) else (bif Nat.beq k 30 then (.getfield 26, 33, 7, 8, [(0, 570)]) else am_nop))) else (bif Nat.blt k 34 then (bif Nat.beq k 33 then (.iload_n 1, 34, 1, 0, []) else am_nop) else (bif Nat.blt k 35 then (bif Nat.beq k 34 then (.iaload, 35, 0, 0, []) else am_nop) else (bif Nat.beq k 35 then (.goto 37, 38, 72, 0, []) else am_nop)))))) else (bif Nat.blt k 53 then (bif Nat.blt k 47 then (bif Nat.blt k 40 then (bif Nat.blt k 39 then (bif Nat.beq k 38 then (.iload_n 2, 39, 2, 0, []) else am_nop) else (bif Nat.beq k 39 then (.iconst 5, 40, 0, 0, [(5, 0)]) else am_nop)) else (bif Nat.blt k 43 then (bif Nat.beq k 40 then (.if_icmp .ge 18, 43, 58, 0, []) else am_nop) else (bif Nat.blt k 44 then (bif Nat.beq k 43 then (.aload_n 0, 44, 0, 0, []) else am_nop) else (bif Nat.beq k 44 then (.getfield 29, 47, 7, 9, [(0, 571)]) else am_nop)))) else (bif Nat.blt k 50 then (bif Nat.blt k 48 then (bif Nat.beq k 47 then (.iconst 4, 48, 0, 0, [(4, 0)]) else am_nop) else (bif Nat.blt k 49 then (bif Nat.beq k 48 then (.iload_n 1, 49, 1, 0, []) else am_nop) else (bif Nat.beq k 49 then (.imul, 50, 0, 0, []) else am_nop))) else (bif Nat.blt k 51 then (bif Nat.beq k 50 then (.iload_n 2, 51, 2, 0, []) else am_nop) else (bif Nat.blt k 52 then (bif Nat.beq k 51 then (.iadd, 52, 0, 0, []) else am_nop) else (bif Nat.beq k 52 then (.iconst 1, 53, 0, 0, [(1, 0)]) else am_nop))))) else (bif Nat.blt k 63 then (bif Nat.blt k 58 then (bif Nat.blt k 54 then (bif Nat.beq k 53 then (.isub, 54, 0, 0, []) else am_nop) else (bif Nat.blt k 55 then (bif Nat.beq k 54 then (.iaload, 55, 0, 0, []) else am_nop) else (bif Nat.beq k 55 then (.goto 17, 58, 72, 0, []) else am_nop))) else (bif Nat.blt k 59 then (bif Nat.beq k 58 then (.aload_n 0, 59, 0, 0, []) else am_nop) else (bif Nat.blt k 62 then (bif Nat.beq k 59 then (.getfield 32, 62, 7, 10, [(0, 572)]) else am_nop) else (bif Nat.beq k 62 then (.iload_n 1, 63, 1, 0, []) else am_nop)))) else (bif Nat.blt k 68 then (bif Nat.blt k 64 then (bif Nat.beq k 63 then (.iaload, 64, 0, 0, []) else am_nop) else (bif Nat.blt k 67 then (bif Nat.beq k 64 then (.ifCond .le 7, 67, 71, 0, []) else am_nop) else (bif Nat.beq k 67 then (.iconst 1, 68, 0, 0, [(1, 0)]) else am_nop))) else (bif Nat.blt k 71 then (bif Nat.beq k 68 then (.goto 4, 71, 72, 0, []) else am_nop) else (bif Nat.blt k 72 then (bif Nat.beq k 71 then (.iconst 0, 72, 0, 0, [(0, 0)]) else am_nop) else (bif Nat.beq k 72 then (.ireturn, 73, 0, 0, []) else am_nop))))))
/-- DeedDeskModel.clear()I -/
def am_c99 (k : Nat) : am_E := bif Nat.blt k 6 then (bif Nat.blt k 4 then (bif Nat.blt k 1 then (bif Nat.beq k 0 then (.aload_n 0, 1, 0, 0, []) else am_nop) else (bif Nat.beq k 1 then (.getfield 60, 4, 7, 7, [(0, 569)]) else am_nop)) else (bif Nat.blt k 5 then (bif Nat.beq k 4 then (.istore_n 1, 5, 1, 0, []) else am_nop) else (bif Nat.beq k 5 then (.aload_n 0, 6, 0, 0, []) else am_nop))) else (bif Nat.blt k 10 then (bif Nat.blt k 7 then (bif Nat.beq k 6 then (.iconst 0, 7, 0, 0, [(0, 0)]) else am_nop) else (bif Nat.beq k 7 then (.putfield 60, 10, 7, 7, [(0, 569)]) else am_nop)) else (bif Nat.blt k 11 then (bif Nat.beq k 10 then (.iload_n 1, 11, 1, 0, []) else am_nop) else (bif Nat.beq k 11 then (.ireturn, 12, 0, 0, []) else am_nop)))
/-- DeedDeskModel.isSheet(I)Z -/
def am_c100 (k : Nat) : am_E := bif Nat.blt k 2 then (bif Nat.blt k 1 then (bif Nat.beq k 0 then (.iload_n 0, 1, 0, 0, []) else am_nop) else (bif Nat.beq k 1 then (.iconst 0, 2, 0, 0, [(0, 0)]) else am_nop)) else (bif Nat.blt k 3 then (bif Nat.beq k 2 then (.iconst 1, 3, 0, 0, [(1, 0)]) else am_nop) else (bif Nat.blt k 6 then (bif Nat.beq k 3 then (.invokestatic 56, 6, 83, 0, [(0, 633)]) else am_nop) else (bif Nat.beq k 6 then (.ireturn, 7, 0, 0, []) else am_nop)))
/-- DeedDeskModel.sheet(III)I -/
def am_c101 (k : Nat) : am_E := bif Nat.blt k 38 then (bif Nat.blt k 22 then (bif Nat.blt k 9 then (bif Nat.blt k 4 then (bif Nat.blt k 1 then (bif Nat.beq k 0 then (.iload_n 1, 1, 1, 0, []) else am_nop) else (bif Nat.beq k 1 then (.invokestatic 94, 4, 100, 0, [(0, 694)]) else am_nop)) else (bif Nat.blt k 7 then (bif Nat.beq k 4 then (.ifCond .eq 18, 7, 22, 0, []) else am_nop) else (bif Nat.blt k 8 then (bif Nat.beq k 7 then (.iload_n 2, 8, 2, 0, []) else am_nop) else (bif Nat.beq k 8 then (.iconst 0, 9, 0, 0, [(0, 0)]) else am_nop)))) else (bif Nat.blt k 16 then (bif Nat.blt k 10 then (bif Nat.beq k 9 then (.iconst 1, 10, 0, 0, [(1, 0)]) else am_nop) else (bif Nat.blt k 13 then (bif Nat.beq k 10 then (.invokestatic 56, 13, 83, 0, [(0, 633)]) else am_nop) else (bif Nat.beq k 13 then (.ifCond .eq 9, 16, 22, 0, []) else am_nop))) else (bif Nat.blt k 17 then (bif Nat.beq k 16 then (.iload_n 3, 17, 3, 0, []) else am_nop) else (bif Nat.blt k 19 then (bif Nat.beq k 17 then (.bipush 60, 19, 0, 0, [(60, 0)]) else am_nop) else (bif Nat.beq k 19 then (.if_icmp .le 5, 22, 24, 0, []) else am_nop))))) else (bif Nat.blt k 30 then (bif Nat.blt k 24 then (bif Nat.blt k 23 then (bif Nat.beq k 22 then (.iconst (-1), 23, 0, 0, [(-1, 0)]) else am_nop) else (bif Nat.beq k 23 then (.ireturn, 24, 0, 0, []) else am_nop)) else (bif Nat.blt k 25 then (bif Nat.beq k 24 then (.iload_n 3, 25, 3, 0, []) else am_nop) else (bif Nat.blt k 28 then (bif Nat.beq k 25 then (.ifCond .ge 6, 28, 31, 0, []) else am_nop) else (bif Nat.beq k 28 then (.bipush (-14), 30, 0, 0, [(-14, 0)]) else am_nop)))) else (bif Nat.blt k 35 then (bif Nat.blt k 31 then (bif Nat.beq k 30 then (.ireturn, 31, 0, 0, []) else am_nop) else (bif Nat.blt k 32 then (bif Nat.beq k 31 then (.aload_n 0, 32, 0, 0, []) else am_nop) else (bif Nat.beq k 32 then (.getfield 35, 35, 7, 12, [(0, 574)]) else am_nop))) else (bif Nat.blt k 36 then (bif Nat.beq k 35 then (.iload_n 1, 36, 1, 0, []) else am_nop) else (bif Nat.blt k 37 then (bif Nat.beq k 36 then (.iload_n 2, 37, 2, 0, []) else am_nop) else (bif Nat.beq k 37 then (.iastore, 38, 0, 0, []) else am_nop)))))) else (bif Nat.blt k 56 then (bif Nat.blt k 45 then (bif Nat.blt k 42 then (bif Nat.blt k 39 then (bif Nat.beq k 38 then (.aload_n 0, 39, 0, 0, []) else am_nop) else (bif Nat.beq k 39 then (.getfield 38, 42, 7, 13, [(0, 575)]) else am_nop)) else (bif Nat.blt k 43 then (bif Nat.beq k 42 then (.iload_n 1, 43, 1, 0, []) else am_nop) else (bif Nat.blt k 44 then (bif Nat.beq k 43 then (.iload_n 3, 44, 3, 0, []) else am_nop) else (bif Nat.beq k 44 then (.iastore, 45, 0, 0, []) else am_nop)))) else (bif Nat.blt k 50 then (bif Nat.blt k 46 then (bif Nat.beq k 45 then (.iconst 0, 46, 0, 0, [(0, 0)]) else am_nop) else (bif Nat.blt k 48 then (bif Nat.beq k 46 then (.istore 4, 48, 4, 0, []) else am_nop) else (bif Nat.beq k 48 then (.iload 4, 50, 4, 0, []) else am_nop))) else (bif Nat.blt k 52 then (bif Nat.beq k 50 then (.bipush 60, 52, 0, 0, [(60, 0)]) else am_nop) else (bif Nat.blt k 55 then (bif Nat.beq k 52 then (.if_icmp .ge 22, 55, 74, 0, []) else am_nop) else (bif Nat.beq k 55 then (.aload_n 0, 56, 0, 0, []) else am_nop))))) else (bif Nat.blt k 66 then (bif Nat.blt k 62 then (bif Nat.blt k 59 then (bif Nat.beq k 56 then (.getfield 41, 59, 7, 14, [(0, 576)]) else am_nop) else (bif Nat.blt k 61 then (bif Nat.beq k 59 then (.bipush 60, 61, 0, 0, [(60, 0)]) else am_nop) else (bif Nat.beq k 61 then (.iload_n 1, 62, 1, 0, []) else am_nop))) else (bif Nat.blt k 63 then (bif Nat.beq k 62 then (.imul, 63, 0, 0, []) else am_nop) else (bif Nat.blt k 65 then (bif Nat.beq k 63 then (.iload 4, 65, 4, 0, []) else am_nop) else (bif Nat.beq k 65 then (.iadd, 66, 0, 0, []) else am_nop)))) else (bif Nat.blt k 71 then (bif Nat.blt k 67 then (bif Nat.beq k 66 then (.iconst 0, 67, 0, 0, [(0, 0)]) else am_nop) else (bif Nat.blt k 68 then (bif Nat.beq k 67 then (.iastore, 68, 0, 0, []) else am_nop) else (bif Nat.beq k 68 then (.iinc 4 1, 71, 4, 0, [(1, 0)]) else am_nop))) else (bif Nat.blt k 74 then (bif Nat.beq k 71 then (.goto (-23), 74, 48, 0, []) else am_nop) else (bif Nat.blt k 75 then (bif Nat.beq k 74 then (.iload_n 3, 75, 3, 0, []) else am_nop) else (bif Nat.beq k 75 then (.ireturn, 76, 0, 0, []) else am_nop))))))
/-- DeedDeskModel.drop(I)I -/
def am_c102 (k : Nat) : am_E := bif Nat.blt k 20 then (bif Nat.blt k 9 then (bif Nat.blt k 4 then (bif Nat.blt k 1 then (bif Nat.beq k 0 then (.iload_n 1, 1, 1, 0, []) else am_nop) else (bif Nat.beq k 1 then (.invokestatic 94, 4, 100, 0, [(0, 694)]) else am_nop)) else (bif Nat.blt k 7 then (bif Nat.beq k 4 then (.ifCond .ne 5, 7, 9, 0, []) else am_nop) else (bif Nat.blt k 8 then (bif Nat.beq k 7 then (.iconst (-1), 8, 0, 0, [(-1, 0)]) else am_nop) else (bif Nat.beq k 8 then (.ireturn, 9, 0, 0, []) else am_nop)))) else (bif Nat.blt k 14 then (bif Nat.blt k 10 then (bif Nat.beq k 9 then (.aload_n 0, 10, 0, 0, []) else am_nop) else (bif Nat.blt k 13 then (bif Nat.beq k 10 then (.getfield 35, 13, 7, 12, [(0, 574)]) else am_nop) else (bif Nat.beq k 13 then (.iload_n 1, 14, 1, 0, []) else am_nop))) else (bif Nat.blt k 15 then (bif Nat.beq k 14 then (.iaload, 15, 0, 0, []) else am_nop) else (bif Nat.blt k 18 then (bif Nat.beq k 15 then (.ifCond .ge 6, 18, 21, 0, []) else am_nop) else (bif Nat.beq k 18 then (.bipush (-11), 20, 0, 0, [(-11, 0)]) else am_nop))))) else (bif Nat.blt k 27 then (bif Nat.blt k 22 then (bif Nat.blt k 21 then (bif Nat.beq k 20 then (.ireturn, 21, 0, 0, []) else am_nop) else (bif Nat.beq k 21 then (.aload_n 0, 22, 0, 0, []) else am_nop)) else (bif Nat.blt k 25 then (bif Nat.beq k 22 then (.getfield 35, 25, 7, 12, [(0, 574)]) else am_nop) else (bif Nat.blt k 26 then (bif Nat.beq k 25 then (.iload_n 1, 26, 1, 0, []) else am_nop) else (bif Nat.beq k 26 then (.iconst (-1), 27, 0, 0, [(-1, 0)]) else am_nop)))) else (bif Nat.blt k 32 then (bif Nat.blt k 28 then (bif Nat.beq k 27 then (.iastore, 28, 0, 0, []) else am_nop) else (bif Nat.blt k 29 then (bif Nat.beq k 28 then (.aload_n 0, 29, 0, 0, []) else am_nop) else (bif Nat.beq k 29 then (.getfield 38, 32, 7, 13, [(0, 575)]) else am_nop))) else (bif Nat.blt k 33 then (bif Nat.beq k 32 then (.iload_n 1, 33, 1, 0, []) else am_nop) else (bif Nat.blt k 34 then (bif Nat.beq k 33 then (.iaload, 34, 0, 0, []) else am_nop) else (bif Nat.beq k 34 then (.ireturn, 35, 0, 0, []) else am_nop)))))
/-- DeedDeskModel.item(IIII)I -/
def am_c103 (k : Nat) : am_E := bif Nat.blt k 44 then (bif Nat.blt k 23 then (bif Nat.blt k 10 then (bif Nat.blt k 7 then (bif Nat.blt k 1 then (bif Nat.beq k 0 then (.iload_n 1, 1, 1, 0, []) else am_nop) else (bif Nat.blt k 4 then (bif Nat.beq k 1 then (.invokestatic 94, 4, 100, 0, [(0, 694)]) else am_nop) else (bif Nat.beq k 4 then (.ifCond .eq 12, 7, 16, 0, []) else am_nop))) else (bif Nat.blt k 8 then (bif Nat.beq k 7 then (.iload_n 2, 8, 2, 0, []) else am_nop) else (bif Nat.blt k 9 then (bif Nat.beq k 8 then (.iconst 0, 9, 0, 0, [(0, 0)]) else am_nop) else (bif Nat.beq k 9 then (.iconst 1, 10, 0, 0, [(1, 0)]) else am_nop)))) else (bif Nat.blt k 17 then (bif Nat.blt k 13 then (bif Nat.beq k 10 then (.invokestatic 56, 13, 83, 0, [(0, 633)]) else am_nop) else (bif Nat.blt k 16 then (bif Nat.beq k 13 then (.ifCond .ne 5, 16, 18, 0, []) else am_nop) else (bif Nat.beq k 16 then (.iconst (-1), 17, 0, 0, [(-1, 0)]) else am_nop))) else (bif Nat.blt k 19 then (bif Nat.blt k 18 then (bif Nat.beq k 17 then (.ireturn, 18, 0, 0, []) else am_nop) else (bif Nat.beq k 18 then (.aload_n 0, 19, 0, 0, []) else am_nop)) else (bif Nat.blt k 22 then (bif Nat.beq k 19 then (.getfield 35, 22, 7, 12, [(0, 574)]) else am_nop) else (bif Nat.beq k 22 then (.iload_n 1, 23, 1, 0, []) else am_nop))))) else (bif Nat.blt k 34 then (bif Nat.blt k 29 then (bif Nat.blt k 24 then (bif Nat.beq k 23 then (.iaload, 24, 0, 0, []) else am_nop) else (bif Nat.blt k 27 then (bif Nat.beq k 24 then (.ifCond .ge 6, 27, 30, 0, []) else am_nop) else (bif Nat.beq k 27 then (.bipush (-11), 29, 0, 0, [(-11, 0)]) else am_nop))) else (bif Nat.blt k 30 then (bif Nat.beq k 29 then (.ireturn, 30, 0, 0, []) else am_nop) else (bif Nat.blt k 31 then (bif Nat.beq k 30 then (.aload_n 0, 31, 0, 0, []) else am_nop) else (bif Nat.beq k 31 then (.getfield 35, 34, 7, 12, [(0, 574)]) else am_nop)))) else (bif Nat.blt k 37 then (bif Nat.blt k 35 then (bif Nat.beq k 34 then (.iload_n 1, 35, 1, 0, []) else am_nop) else (bif Nat.blt k 36 then (bif Nat.beq k 35 then (.iaload, 36, 0, 0, []) else am_nop) else (bif Nat.beq k 36 then (.iload_n 2, 37, 2, 0, []) else am_nop))) else (bif Nat.blt k 42 then (bif Nat.blt k 40 then (bif Nat.beq k 37 then (.if_icmp .eq 6, 40, 43, 0, []) else am_nop) else (bif Nat.beq k 40 then (.bipush (-12), 42, 0, 0, [(-12, 0)]) else am_nop)) else (bif Nat.blt k 43 then (bif Nat.beq k 42 then (.ireturn, 43, 0, 0, []) else am_nop) else (bif Nat.beq k 43 then (.iload_n 3, 44, 3, 0, []) else am_nop)))))) else (bif Nat.blt k 66 then (bif Nat.blt k 52 then (bif Nat.blt k 49 then (bif Nat.blt k 45 then (bif Nat.beq k 44 then (.iconst 0, 45, 0, 0, [(0, 0)]) else am_nop) else (bif Nat.blt k 46 then (bif Nat.beq k 45 then (.aload_n 0, 46, 0, 0, []) else am_nop) else (bif Nat.beq k 46 then (.getfield 38, 49, 7, 13, [(0, 575)]) else am_nop))) else (bif Nat.blt k 50 then (bif Nat.beq k 49 then (.iload_n 1, 50, 1, 0, []) else am_nop) else (bif Nat.blt k 51 then (bif Nat.beq k 50 then (.iaload, 51, 0, 0, []) else am_nop) else (bif Nat.beq k 51 then (.iconst 1, 52, 0, 0, [(1, 0)]) else am_nop)))) else (bif Nat.blt k 59 then (bif Nat.blt k 53 then (bif Nat.beq k 52 then (.isub, 53, 0, 0, []) else am_nop) else (bif Nat.blt k 56 then (bif Nat.beq k 53 then (.invokestatic 56, 56, 83, 0, [(0, 633)]) else am_nop) else (bif Nat.beq k 56 then (.ifCond .ne 6, 59, 62, 0, []) else am_nop))) else (bif Nat.blt k 62 then (bif Nat.blt k 61 then (bif Nat.beq k 59 then (.bipush (-13), 61, 0, 0, [(-13, 0)]) else am_nop) else (bif Nat.beq k 61 then (.ireturn, 62, 0, 0, []) else am_nop)) else (bif Nat.blt k 63 then (bif Nat.beq k 62 then (.aload_n 0, 63, 0, 0, []) else am_nop) else (bif Nat.beq k 63 then (.getfield 41, 66, 7, 14, [(0, 576)]) else am_nop))))) else (bif Nat.blt k 76 then (bif Nat.blt k 70 then (bif Nat.blt k 68 then (bif Nat.beq k 66 then (.bipush 60, 68, 0, 0, [(60, 0)]) else am_nop) else (bif Nat.blt k 69 then (bif Nat.beq k 68 then (.iload_n 1, 69, 1, 0, []) else am_nop) else (bif Nat.beq k 69 then (.imul, 70, 0, 0, []) else am_nop))) else (bif Nat.blt k 72 then (bif Nat.blt k 71 then (bif Nat.beq k 70 then (.iload_n 3, 71, 3, 0, []) else am_nop) else (bif Nat.beq k 71 then (.iadd, 72, 0, 0, []) else am_nop)) else (bif Nat.blt k 73 then (bif Nat.beq k 72 then (.iload_n 2, 73, 2, 0, []) else am_nop) else (bif Nat.beq k 73 then (.ifCond .ne 9, 76, 82, 0, []) else am_nop)))) else (bif Nat.blt k 82 then (bif Nat.blt k 78 then (bif Nat.beq k 76 then (.iload 4, 78, 4, 0, []) else am_nop) else (bif Nat.blt k 79 then (bif Nat.beq k 78 then (.i2b, 79, 0, 0, []) else am_nop) else (bif Nat.beq k 79 then (.goto 5, 82, 84, 0, []) else am_nop))) else (bif Nat.blt k 85 then (bif Nat.blt k 84 then (bif Nat.beq k 82 then (.iload 4, 84, 4, 0, []) else am_nop) else (bif Nat.beq k 84 then (.iastore, 85, 0, 0, []) else am_nop)) else (bif Nat.blt k 86 then (bif Nat.beq k 85 then (.iconst 1, 86, 0, 0, [(1, 0)]) else am_nop) else (bif Nat.beq k 86 then (.ireturn, 87, 0, 0, []) else am_nop))))))
/-- DeedDeskModel.finds(IIII)I -/
def am_c104 (k : Nat) : am_E := bif Nat.blt k 125 then (bif Nat.blt k 65 then (bif Nat.blt k 35 then (bif Nat.blt k 18 then (bif Nat.blt k 8 then (bif Nat.blt k 4 then (bif Nat.blt k 1 then (bif Nat.beq k 0 then (.iload_n 1, 1, 1, 0, []) else am_nop) else (bif Nat.beq k 1 then (.invokestatic 94, 4, 100, 0, [(0, 694)]) else am_nop)) else (bif Nat.blt k 7 then (bif Nat.beq k 4 then (.ifCond .eq 23, 7, 27, 0, []) else am_nop) else (bif Nat.beq k 7 then (.iload_n 2, 8, 2, 0, []) else am_nop))) else (bif Nat.blt k 10 then (bif Nat.blt k 9 then (bif Nat.beq k 8 then (.iconst 0, 9, 0, 0, [(0, 0)]) else am_nop) else (bif Nat.beq k 9 then (.iconst 1, 10, 0, 0, [(1, 0)]) else am_nop)) else (bif Nat.blt k 13 then (bif Nat.beq k 10 then (.invokestatic 56, 13, 83, 0, [(0, 633)]) else am_nop) else (bif Nat.blt k 16 then (bif Nat.beq k 13 then (.ifCond .eq 14, 16, 27, 0, []) else am_nop) else (bif Nat.beq k 16 then (.iload 4, 18, 4, 0, []) else am_nop))))) else (bif Nat.blt k 28 then (bif Nat.blt k 21 then (bif Nat.blt k 19 then (bif Nat.beq k 18 then (.iconst 0, 19, 0, 0, [(0, 0)]) else am_nop) else (bif Nat.beq k 19 then (.bipush 12, 21, 0, 0, [(12, 0)]) else am_nop)) else (bif Nat.blt k 24 then (bif Nat.beq k 21 then (.invokestatic 56, 24, 83, 0, [(0, 633)]) else am_nop) else (bif Nat.blt k 27 then (bif Nat.beq k 24 then (.ifCond .ne 5, 27, 29, 0, []) else am_nop) else (bif Nat.beq k 27 then (.iconst (-1), 28, 0, 0, [(-1, 0)]) else am_nop)))) else (bif Nat.blt k 30 then (bif Nat.blt k 29 then (bif Nat.beq k 28 then (.ireturn, 29, 0, 0, []) else am_nop) else (bif Nat.beq k 29 then (.aload_n 0, 30, 0, 0, []) else am_nop)) else (bif Nat.blt k 33 then (bif Nat.beq k 30 then (.getfield 35, 33, 7, 12, [(0, 574)]) else am_nop) else (bif Nat.blt k 34 then (bif Nat.beq k 33 then (.iload_n 1, 34, 1, 0, []) else am_nop) else (bif Nat.beq k 34 then (.iaload, 35, 0, 0, []) else am_nop)))))) else (bif Nat.blt k 51 then (bif Nat.blt k 42 then (bif Nat.blt k 40 then (bif Nat.blt k 38 then (bif Nat.beq k 35 then (.ifCond .ge 6, 38, 41, 0, []) else am_nop) else (bif Nat.beq k 38 then (.bipush (-11), 40, 0, 0, [(-11, 0)]) else am_nop)) else (bif Nat.blt k 41 then (bif Nat.beq k 40 then (.ireturn, 41, 0, 0, []) else am_nop) else (bif Nat.beq k 41 then (.aload_n 0, 42, 0, 0, []) else am_nop))) else (bif Nat.blt k 46 then (bif Nat.blt k 45 then (bif Nat.beq k 42 then (.getfield 35, 45, 7, 12, [(0, 574)]) else am_nop) else (bif Nat.beq k 45 then (.iload_n 1, 46, 1, 0, []) else am_nop)) else (bif Nat.blt k 47 then (bif Nat.beq k 46 then (.iaload, 47, 0, 0, []) else am_nop) else (bif Nat.blt k 48 then (bif Nat.beq k 47 then (.iload_n 2, 48, 2, 0, []) else am_nop) else (bif Nat.beq k 48 then (.if_icmp .eq 6, 51, 54, 0, []) else am_nop))))) else (bif Nat.blt k 59 then (bif Nat.blt k 54 then (bif Nat.blt k 53 then (bif Nat.beq k 51 then (.bipush (-12), 53, 0, 0, [(-12, 0)]) else am_nop) else (bif Nat.beq k 53 then (.ireturn, 54, 0, 0, []) else am_nop)) else (bif Nat.blt k 55 then (bif Nat.beq k 54 then (.iload_n 3, 55, 3, 0, []) else am_nop) else (bif Nat.blt k 58 then (bif Nat.beq k 55 then (.ifCond .lt 22, 58, 77, 0, []) else am_nop) else (bif Nat.beq k 58 then (.iload_n 3, 59, 3, 0, []) else am_nop)))) else (bif Nat.blt k 61 then (bif Nat.blt k 60 then (bif Nat.beq k 59 then (.i2l, 60, 0, 0, []) else am_nop) else (bif Nat.beq k 60 then (.iconst 5, 61, 0, 0, [(5, 0)]) else am_nop)) else (bif Nat.blt k 63 then (bif Nat.beq k 61 then (.iload 4, 63, 4, 0, []) else am_nop) else (bif Nat.blt k 64 then (bif Nat.beq k 63 then (.imul, 64, 0, 0, []) else am_nop) else (bif Nat.beq k 64 then (.i2l, 65, 0, 0, []) else am_nop))))))) else (bif Nat.blt k 93 then (bif Nat.blt k 79 then (bif Nat.blt k 71 then (bif Nat.blt k 67 then (bif Nat.blt k 66 then (bif Nat.beq k 65 then (.ladd, 66, 0, 0, []) else am_nop) else (bif Nat.beq k 66 then (.aload_n 0, 67, 0, 0, []) else am_nop)) else (bif Nat.blt k 70 then (bif Nat.beq k 67 then (.getfield 38, 70, 7, 13, [(0, 575)]) else am_nop) else (bif Nat.beq k 70 then (.iload_n 1, 71, 1, 0, []) else am_nop))) else (bif Nat.blt k 73 then (bif Nat.blt k 72 then (bif Nat.beq k 71 then (.iaload, 72, 0, 0, []) else am_nop) else (bif Nat.beq k 72 then (.i2l, 73, 0, 0, []) else am_nop)) else (bif Nat.blt k 74 then (bif Nat.beq k 73 then (.lcmp, 74, 0, 0, []) else am_nop) else (bif Nat.blt k 77 then (bif Nat.beq k 74 then (.ifCond .le 6, 77, 80, 0, []) else am_nop) else (bif Nat.beq k 77 then (.bipush (-13), 79, 0, 0, [(-13, 0)]) else am_nop))))) else (bif Nat.blt k 85 then (bif Nat.blt k 82 then (bif Nat.blt k 80 then (bif Nat.beq k 79 then (.ireturn, 80, 0, 0, []) else am_nop) else (bif Nat.beq k 80 then (.bipush 60, 82, 0, 0, [(60, 0)]) else am_nop)) else (bif Nat.blt k 83 then (bif Nat.beq k 82 then (.iload_n 1, 83, 1, 0, []) else am_nop) else (bif Nat.blt k 84 then (bif Nat.beq k 83 then (.imul, 84, 0, 0, []) else am_nop) else (bif Nat.beq k 84 then (.iload_n 3, 85, 3, 0, []) else am_nop)))) else (bif Nat.blt k 88 then (bif Nat.blt k 86 then (bif Nat.beq k 85 then (.iadd, 86, 0, 0, []) else am_nop) else (bif Nat.beq k 86 then (.istore 5, 88, 5, 0, []) else am_nop)) else (bif Nat.blt k 89 then (bif Nat.beq k 88 then (.iconst 0, 89, 0, 0, [(0, 0)]) else am_nop) else (bif Nat.blt k 91 then (bif Nat.beq k 89 then (.istore 6, 91, 6, 0, []) else am_nop) else (bif Nat.beq k 91 then (.iload 6, 93, 6, 0, []) else am_nop)))))) else (bif Nat.blt k 109 then (bif Nat.blt k 103 then (bif Nat.blt k 98 then (bif Nat.blt k 95 then (bif Nat.beq k 93 then (.iload 4, 95, 4, 0, []) else am_nop) else (bif Nat.beq k 95 then (.if_icmp .ge 71, 98, 166, 0, []) else am_nop)) else (bif Nat.blt k 100 then (bif Nat.beq k 98 then (.iload 5, 100, 5, 0, []) else am_nop) else (bif Nat.blt k 101 then (bif Nat.beq k 100 then (.iconst 5, 101, 0, 0, [(5, 0)]) else am_nop) else (bif Nat.beq k 101 then (.iload 6, 103, 6, 0, []) else am_nop)))) else (bif Nat.blt k 105 then (bif Nat.blt k 104 then (bif Nat.beq k 103 then (.imul, 104, 0, 0, []) else am_nop) else (bif Nat.beq k 104 then (.iadd, 105, 0, 0, []) else am_nop)) else (bif Nat.blt k 107 then (bif Nat.beq k 105 then (.istore 7, 107, 7, 0, []) else am_nop) else (bif Nat.blt k 108 then (bif Nat.beq k 107 then (.aload_n 0, 108, 0, 0, []) else am_nop) else (bif Nat.beq k 108 then (.aload_n 0, 109, 0, 0, []) else am_nop))))) else (bif Nat.blt k 119 then (bif Nat.blt k 114 then (bif Nat.blt k 112 then (bif Nat.beq k 109 then (.getfield 41, 112, 7, 14, [(0, 576)]) else am_nop) else (bif Nat.beq k 112 then (.iload 7, 114, 7, 0, []) else am_nop)) else (bif Nat.blt k 115 then (bif Nat.beq k 114 then (.iaload, 115, 0, 0, []) else am_nop) else (bif Nat.blt k 116 then (bif Nat.beq k 115 then (.aload_n 0, 116, 0, 0, []) else am_nop) else (bif Nat.beq k 116 then (.getfield 41, 119, 7, 14, [(0, 576)]) else am_nop)))) else (bif Nat.blt k 122 then (bif Nat.blt k 121 then (bif Nat.beq k 119 then (.iload 7, 121, 7, 0, []) else am_nop) else (bif Nat.beq k 121 then (.iconst 1, 122, 0, 0, [(1, 0)]) else am_nop)) else (bif Nat.blt k 123 then (bif Nat.beq k 122 then (.iadd, 123, 0, 0, []) else am_nop) else (bif Nat.blt k 124 then (bif Nat.beq k 123 then (.iaload, 124, 0, 0, []) else am_nop) else (bif Nat.beq k 124 then (.aload_n 0, 125, 0, 0, []) else am_nop)))))))) else (bif Nat.blt k 194 then (bif Nat.blt k 157 then (bif Nat.blt k 140 then (bif Nat.blt k 132 then (bif Nat.blt k 130 then (bif Nat.blt k 128 then (bif Nat.beq k 125 then (.getfield 41, 128, 7, 14, [(0, 576)]) else am_nop) else (bif Nat.beq k 128 then (.iload 7, 130, 7, 0, []) else am_nop)) else (bif Nat.blt k 131 then (bif Nat.beq k 130 then (.iconst 2, 131, 0, 0, [(2, 0)]) else am_nop) else (bif Nat.beq k 131 then (.iadd, 132, 0, 0, []) else am_nop))) else (bif Nat.blt k 134 then (bif Nat.blt k 133 then (bif Nat.beq k 132 then (.iaload, 133, 0, 0, []) else am_nop) else (bif Nat.beq k 133 then (.aload_n 0, 134, 0, 0, []) else am_nop)) else (bif Nat.blt k 137 then (bif Nat.beq k 134 then (.getfield 41, 137, 7, 14, [(0, 576)]) else am_nop) else (bif Nat.blt k 139 then (bif Nat.beq k 137 then (.iload 7, 139, 7, 0, []) else am_nop) else (bif Nat.beq k 139 then (.iconst 3, 140, 0, 0, [(3, 0)]) else am_nop))))) else (bif Nat.blt k 148 then (bif Nat.blt k 142 then (bif Nat.blt k 141 then (bif Nat.beq k 140 then (.iadd, 141, 0, 0, []) else am_nop) else (bif Nat.beq k 141 then (.iaload, 142, 0, 0, []) else am_nop)) else (bif Nat.blt k 143 then (bif Nat.beq k 142 then (.aload_n 0, 143, 0, 0, []) else am_nop) else (bif Nat.blt k 146 then (bif Nat.beq k 143 then (.getfield 41, 146, 7, 14, [(0, 576)]) else am_nop) else (bif Nat.beq k 146 then (.iload 7, 148, 7, 0, []) else am_nop)))) else (bif Nat.blt k 150 then (bif Nat.blt k 149 then (bif Nat.beq k 148 then (.iconst 4, 149, 0, 0, [(4, 0)]) else am_nop) else (bif Nat.beq k 149 then (.iadd, 150, 0, 0, []) else am_nop)) else (bif Nat.blt k 151 then (bif Nat.beq k 150 then (.iaload, 151, 0, 0, []) else am_nop) else (bif Nat.blt k 154 then (bif Nat.beq k 151 then (.invokevirtual 83, 154, 94, 0, [(0, 666)]) else am_nop) else (bif Nat.beq k 154 then (.ifCond .ne 6, 157, 160, 0, []) else am_nop)))))) else (bif Nat.blt k 175 then (bif Nat.blt k 166 then (bif Nat.blt k 160 then (bif Nat.blt k 159 then (bif Nat.beq k 157 then (.bipush (-2), 159, 0, 0, [(-2, 0)]) else am_nop) else (bif Nat.beq k 159 then (.ireturn, 160, 0, 0, []) else am_nop)) else (bif Nat.blt k 163 then (bif Nat.beq k 160 then (.iinc 6 1, 163, 6, 0, [(1, 0)]) else am_nop) else (bif Nat.beq k 163 then (.goto (-72), 166, 91, 0, []) else am_nop))) else (bif Nat.blt k 170 then (bif Nat.blt k 167 then (bif Nat.beq k 166 then (.aload_n 0, 167, 0, 0, []) else am_nop) else (bif Nat.beq k 167 then (.getfield 60, 170, 7, 7, [(0, 569)]) else am_nop)) else (bif Nat.blt k 172 then (bif Nat.beq k 170 then (.iload 4, 172, 4, 0, []) else am_nop) else (bif Nat.blt k 173 then (bif Nat.beq k 172 then (.iadd, 173, 0, 0, []) else am_nop) else (bif Nat.beq k 173 then (.bipush 20, 175, 0, 0, [(20, 0)]) else am_nop))))) else (bif Nat.blt k 184 then (bif Nat.blt k 180 then (bif Nat.blt k 178 then (bif Nat.beq k 175 then (.if_icmp .le 6, 178, 181, 0, []) else am_nop) else (bif Nat.beq k 178 then (.bipush (-3), 180, 0, 0, [(-3, 0)]) else am_nop)) else (bif Nat.blt k 181 then (bif Nat.beq k 180 then (.ireturn, 181, 0, 0, []) else am_nop) else (bif Nat.blt k 182 then (bif Nat.beq k 181 then (.iconst 0, 182, 0, 0, [(0, 0)]) else am_nop) else (bif Nat.beq k 182 then (.istore 6, 184, 6, 0, []) else am_nop)))) else (bif Nat.blt k 188 then (bif Nat.blt k 186 then (bif Nat.beq k 184 then (.iload 6, 186, 6, 0, []) else am_nop) else (bif Nat.beq k 186 then (.iload 4, 188, 4, 0, []) else am_nop)) else (bif Nat.blt k 191 then (bif Nat.beq k 188 then (.if_icmp .ge 65, 191, 253, 0, []) else am_nop) else (bif Nat.blt k 193 then (bif Nat.beq k 191 then (.iload 5, 193, 5, 0, []) else am_nop) else (bif Nat.beq k 193 then (.iconst 5, 194, 0, 0, [(5, 0)]) else am_nop))))))) else (bif Nat.blt k 224 then (bif Nat.blt k 208 then (bif Nat.blt k 200 then (bif Nat.blt k 197 then (bif Nat.blt k 196 then (bif Nat.beq k 194 then (.iload 6, 196, 6, 0, []) else am_nop) else (bif Nat.beq k 196 then (.imul, 197, 0, 0, []) else am_nop)) else (bif Nat.blt k 198 then (bif Nat.beq k 197 then (.iadd, 198, 0, 0, []) else am_nop) else (bif Nat.beq k 198 then (.istore 7, 200, 7, 0, []) else am_nop))) else (bif Nat.blt k 202 then (bif Nat.blt k 201 then (bif Nat.beq k 200 then (.aload_n 0, 201, 0, 0, []) else am_nop) else (bif Nat.beq k 201 then (.aload_n 0, 202, 0, 0, []) else am_nop)) else (bif Nat.blt k 205 then (bif Nat.beq k 202 then (.getfield 41, 205, 7, 14, [(0, 576)]) else am_nop) else (bif Nat.blt k 207 then (bif Nat.beq k 205 then (.iload 7, 207, 7, 0, []) else am_nop) else (bif Nat.beq k 207 then (.iaload, 208, 0, 0, []) else am_nop))))) else (bif Nat.blt k 216 then (bif Nat.blt k 212 then (bif Nat.blt k 209 then (bif Nat.beq k 208 then (.aload_n 0, 209, 0, 0, []) else am_nop) else (bif Nat.beq k 209 then (.getfield 41, 212, 7, 14, [(0, 576)]) else am_nop)) else (bif Nat.blt k 214 then (bif Nat.beq k 212 then (.iload 7, 214, 7, 0, []) else am_nop) else (bif Nat.blt k 215 then (bif Nat.beq k 214 then (.iconst 1, 215, 0, 0, [(1, 0)]) else am_nop) else (bif Nat.beq k 215 then (.iadd, 216, 0, 0, []) else am_nop)))) else (bif Nat.blt k 218 then (bif Nat.blt k 217 then (bif Nat.beq k 216 then (.iaload, 217, 0, 0, []) else am_nop) else (bif Nat.beq k 217 then (.aload_n 0, 218, 0, 0, []) else am_nop)) else (bif Nat.blt k 221 then (bif Nat.beq k 218 then (.getfield 41, 221, 7, 14, [(0, 576)]) else am_nop) else (bif Nat.blt k 223 then (bif Nat.beq k 221 then (.iload 7, 223, 7, 0, []) else am_nop) else (bif Nat.beq k 223 then (.iconst 2, 224, 0, 0, [(2, 0)]) else am_nop)))))) else (bif Nat.blt k 239 then (bif Nat.blt k 232 then (bif Nat.blt k 226 then (bif Nat.blt k 225 then (bif Nat.beq k 224 then (.iadd, 225, 0, 0, []) else am_nop) else (bif Nat.beq k 225 then (.iaload, 226, 0, 0, []) else am_nop)) else (bif Nat.blt k 227 then (bif Nat.beq k 226 then (.aload_n 0, 227, 0, 0, []) else am_nop) else (bif Nat.blt k 230 then (bif Nat.beq k 227 then (.getfield 41, 230, 7, 14, [(0, 576)]) else am_nop) else (bif Nat.beq k 230 then (.iload 7, 232, 7, 0, []) else am_nop)))) else (bif Nat.blt k 234 then (bif Nat.blt k 233 then (bif Nat.beq k 232 then (.iconst 3, 233, 0, 0, [(3, 0)]) else am_nop) else (bif Nat.beq k 233 then (.iadd, 234, 0, 0, []) else am_nop)) else (bif Nat.blt k 235 then (bif Nat.beq k 234 then (.iaload, 235, 0, 0, []) else am_nop) else (bif Nat.blt k 236 then (bif Nat.beq k 235 then (.aload_n 0, 236, 0, 0, []) else am_nop) else (bif Nat.beq k 236 then (.getfield 41, 239, 7, 14, [(0, 576)]) else am_nop))))) else (bif Nat.blt k 247 then (bif Nat.blt k 242 then (bif Nat.blt k 241 then (bif Nat.beq k 239 then (.iload 7, 241, 7, 0, []) else am_nop) else (bif Nat.beq k 241 then (.iconst 4, 242, 0, 0, [(4, 0)]) else am_nop)) else (bif Nat.blt k 243 then (bif Nat.beq k 242 then (.iadd, 243, 0, 0, []) else am_nop) else (bif Nat.blt k 244 then (bif Nat.beq k 243 then (.iaload, 244, 0, 0, []) else am_nop) else (bif Nat.beq k 244 then (.invokevirtual 87, 247, 95, 0, [(0, 674)]) else am_nop)))) else (bif Nat.blt k 253 then (bif Nat.blt k 250 then (bif Nat.beq k 247 then (.iinc 6 1, 250, 6, 0, [(1, 0)]) else am_nop) else (bif Nat.beq k 250 then (.goto (-66), 253, 184, 0, []) else am_nop)) else (bif Nat.blt k 254 then (bif Nat.beq k 253 then (.aload_n 0, 254, 0, 0, []) else am_nop) else (bif Nat.blt k 257 then (bif Nat.beq k 254 then (.getfield 60, 257, 7, 7, [(0, 569)]) else am_nop) else (bif Nat.beq k 257 then (.ireturn, 258, 0, 0, []) else am_nop))))))))
/-- DeedDeskModel.free()V -/
def am_c105 (k : Nat) : am_E := bif Nat.blt k 9 then (bif Nat.blt k 3 then (bif Nat.blt k 1 then (bif Nat.beq k 0 then (.iconst 0, 1, 0, 0, [(0, 0)]) else am_nop) else (bif Nat.blt k 2 then (bif Nat.beq k 1 then (.istore_n 1, 2, 1, 0, []) else am_nop) else (bif Nat.beq k 2 then (.iload_n 1, 3, 1, 0, []) else am_nop))) else (bif Nat.blt k 5 then (bif Nat.beq k 3 then (.bipush 60, 5, 0, 0, [(60, 0)]) else am_nop) else (bif Nat.blt k 8 then (bif Nat.beq k 5 then (.if_icmp .ge 18, 8, 23, 0, []) else am_nop) else (bif Nat.beq k 8 then (.aload_n 0, 9, 0, 0, []) else am_nop)))) else (bif Nat.blt k 16 then (bif Nat.blt k 12 then (bif Nat.beq k 9 then (.getfield 44, 12, 7, 15, [(0, 577)]) else am_nop) else (bif Nat.blt k 13 then (bif Nat.beq k 12 then (.iload_n 1, 13, 1, 0, []) else am_nop) else (bif Nat.beq k 13 then (.sipush 255, 16, 0, 0, [(255, 0)]) else am_nop))) else (bif Nat.blt k 20 then (bif Nat.blt k 17 then (bif Nat.beq k 16 then (.iastore, 17, 0, 0, []) else am_nop) else (bif Nat.beq k 17 then (.iinc 1 1, 20, 1, 0, [(1, 0)]) else am_nop)) else (bif Nat.blt k 23 then (bif Nat.beq k 20 then (.goto (-18), 23, 2, 0, []) else am_nop) else (bif Nat.beq k 23 then (.return_, 24, 0, 0, []) else am_nop))))
/-- DeedDeskModel.bind(I)V -/
def am_c106 (k : Nat) : am_E := bif Nat.blt k 117 then (bif Nat.blt k 33 then (bif Nat.blt k 17 then (bif Nat.blt k 8 then (bif Nat.blt k 5 then (bif Nat.blt k 1 then (bif Nat.beq k 0 then (.aload_n 0, 1, 0, 0, []) else am_nop) else (bif Nat.blt k 4 then (bif Nat.beq k 1 then (.getfield 29, 4, 7, 9, [(0, 571)]) else am_nop) else (bif Nat.beq k 4 then (.iconst 4, 5, 0, 0, [(4, 0)]) else am_nop))) else (bif Nat.blt k 6 then (bif Nat.beq k 5 then (.iload_n 1, 6, 1, 0, []) else am_nop) else (bif Nat.blt k 7 then (bif Nat.beq k 6 then (.imul, 7, 0, 0, []) else am_nop) else (bif Nat.beq k 7 then (.iaload, 8, 0, 0, []) else am_nop)))) else (bif Nat.blt k 13 then (bif Nat.blt k 9 then (bif Nat.beq k 8 then (.istore_n 2, 9, 2, 0, []) else am_nop) else (bif Nat.blt k 10 then (bif Nat.beq k 9 then (.aload_n 0, 10, 0, 0, []) else am_nop) else (bif Nat.beq k 10 then (.getfield 29, 13, 7, 9, [(0, 571)]) else am_nop))) else (bif Nat.blt k 15 then (bif Nat.blt k 14 then (bif Nat.beq k 13 then (.iconst 4, 14, 0, 0, [(4, 0)]) else am_nop) else (bif Nat.beq k 14 then (.iload_n 1, 15, 1, 0, []) else am_nop)) else (bif Nat.blt k 16 then (bif Nat.beq k 15 then (.imul, 16, 0, 0, []) else am_nop) else (bif Nat.beq k 16 then (.iconst 1, 17, 0, 0, [(1, 0)]) else am_nop))))) else (bif Nat.blt k 25 then (bif Nat.blt k 20 then (bif Nat.blt k 18 then (bif Nat.beq k 17 then (.iadd, 18, 0, 0, []) else am_nop) else (bif Nat.blt k 19 then (bif Nat.beq k 18 then (.iaload, 19, 0, 0, []) else am_nop) else (bif Nat.beq k 19 then (.istore_n 3, 20, 3, 0, []) else am_nop))) else (bif Nat.blt k 21 then (bif Nat.beq k 20 then (.aload_n 0, 21, 0, 0, []) else am_nop) else (bif Nat.blt k 24 then (bif Nat.beq k 21 then (.getfield 29, 24, 7, 9, [(0, 571)]) else am_nop) else (bif Nat.beq k 24 then (.iconst 4, 25, 0, 0, [(4, 0)]) else am_nop)))) else (bif Nat.blt k 28 then (bif Nat.blt k 26 then (bif Nat.beq k 25 then (.iload_n 1, 26, 1, 0, []) else am_nop) else (bif Nat.blt k 27 then (bif Nat.beq k 26 then (.imul, 27, 0, 0, []) else am_nop) else (bif Nat.beq k 27 then (.iconst 2, 28, 0, 0, [(2, 0)]) else am_nop))) else (bif Nat.blt k 30 then (bif Nat.blt k 29 then (bif Nat.beq k 28 then (.iadd, 29, 0, 0, []) else am_nop) else (bif Nat.beq k 29 then (.iaload, 30, 0, 0, []) else am_nop)) else (bif Nat.blt k 32 then (bif Nat.beq k 30 then (.istore 4, 32, 4, 0, []) else am_nop) else (bif Nat.beq k 32 then (.aload_n 0, 33, 0, 0, []) else am_nop)))))) else (bif Nat.blt k 97 then (bif Nat.blt k 88 then (bif Nat.blt k 38 then (bif Nat.blt k 36 then (bif Nat.beq k 33 then (.getfield 26, 36, 7, 8, [(0, 570)]) else am_nop) else (bif Nat.blt k 37 then (bif Nat.beq k 36 then (.iload_n 1, 37, 1, 0, []) else am_nop) else (bif Nat.beq k 37 then (.iaload, 38, 0, 0, []) else am_nop))) else (bif Nat.blt k 84 then (bif Nat.beq k 38 then (.tableswitch 147 0 7 #[46, 67, 147, 147, 147, 46, 67, 90], 84, 185, 0, [(0, 84), (1, 105), (2, 185), (3, 185), (4, 185), (5, 84), (6, 105), (7, 128)]) else am_nop) else (bif Nat.blt k 85 then (bif Nat.beq k 84 then (.aload_n 0, 85, 0, 0, []) else am_nop) else (bif Nat.beq k 85 then (.getfield 44, 88, 7, 15, [(0, 577)]) else am_nop)))) else (bif Nat.blt k 92 then (bif Nat.blt k 90 then (bif Nat.beq k 88 then (.bipush 10, 90, 0, 0, [(10, 0)]) else am_nop) else (bif Nat.blt k 91 then (bif Nat.beq k 90 then (.iload_n 2, 91, 2, 0, []) else am_nop) else (bif Nat.beq k 91 then (.imul, 92, 0, 0, []) else am_nop))) else (bif Nat.blt k 95 then (bif Nat.blt k 94 then (bif Nat.beq k 92 then (.iload 4, 94, 4, 0, []) else am_nop) else (bif Nat.beq k 94 then (.iadd, 95, 0, 0, []) else am_nop)) else (bif Nat.blt k 96 then (bif Nat.beq k 95 then (.dup2, 96, 0, 0, []) else am_nop) else (bif Nat.beq k 96 then (.iaload, 97, 0, 0, []) else am_nop))))) else (bif Nat.blt k 106 then (bif Nat.blt k 100 then (bif Nat.blt k 98 then (bif Nat.beq k 97 then (.iconst 1, 98, 0, 0, [(1, 0)]) else am_nop) else (bif Nat.blt k 99 then (bif Nat.beq k 98 then (.iload_n 3, 99, 3, 0, []) else am_nop) else (bif Nat.beq k 99 then (.ishl, 100, 0, 0, []) else am_nop))) else (bif Nat.blt k 102 then (bif Nat.blt k 101 then (bif Nat.beq k 100 then (.iand, 101, 0, 0, []) else am_nop) else (bif Nat.beq k 101 then (.iastore, 102, 0, 0, []) else am_nop)) else (bif Nat.blt k 105 then (bif Nat.beq k 102 then (.goto 83, 105, 185, 0, []) else am_nop) else (bif Nat.beq k 105 then (.aload_n 0, 106, 0, 0, []) else am_nop)))) else (bif Nat.blt k 112 then (bif Nat.blt k 109 then (bif Nat.beq k 106 then (.getfield 44, 109, 7, 15, [(0, 577)]) else am_nop) else (bif Nat.blt k 111 then (bif Nat.beq k 109 then (.bipush 10, 111, 0, 0, [(10, 0)]) else am_nop) else (bif Nat.beq k 111 then (.iload_n 2, 112, 2, 0, []) else am_nop))) else (bif Nat.blt k 115 then (bif Nat.blt k 113 then (bif Nat.beq k 112 then (.imul, 113, 0, 0, []) else am_nop) else (bif Nat.beq k 113 then (.iload 4, 115, 4, 0, []) else am_nop)) else (bif Nat.blt k 116 then (bif Nat.beq k 115 then (.iadd, 116, 0, 0, []) else am_nop) else (bif Nat.beq k 116 then (.dup2, 117, 0, 0, []) else am_nop))))))) else (bif Nat.blt k 150 then (bif Nat.blt k 135 then (bif Nat.blt k 123 then (bif Nat.blt k 120 then (bif Nat.blt k 118 then (bif Nat.beq k 117 then (.iaload, 118, 0, 0, []) else am_nop) else (bif Nat.blt k 119 then (bif Nat.beq k 118 then (.iconst 1, 119, 0, 0, [(1, 0)]) else am_nop) else (bif Nat.beq k 119 then (.iload_n 3, 120, 3, 0, []) else am_nop))) else (bif Nat.blt k 121 then (bif Nat.beq k 120 then (.ishl, 121, 0, 0, []) else am_nop) else (bif Nat.blt k 122 then (bif Nat.beq k 121 then (.iconst (-1), 122, 0, 0, [(-1, 0)]) else am_nop) else (bif Nat.beq k 122 then (.ixor, 123, 0, 0, []) else am_nop)))) else (bif Nat.blt k 128 then (bif Nat.blt k 124 then (bif Nat.beq k 123 then (.iand, 124, 0, 0, []) else am_nop) else (bif Nat.blt k 125 then (bif Nat.beq k 124 then (.iastore, 125, 0, 0, []) else am_nop) else (bif Nat.beq k 125 then (.goto 60, 128, 185, 0, []) else am_nop))) else (bif Nat.blt k 132 then (bif Nat.blt k 129 then (bif Nat.beq k 128 then (.aload_n 0, 129, 0, 0, []) else am_nop) else (bif Nat.beq k 129 then (.getfield 44, 132, 7, 15, [(0, 577)]) else am_nop)) else (bif Nat.blt k 134 then (bif Nat.beq k 132 then (.bipush 10, 134, 0, 0, [(10, 0)]) else am_nop) else (bif Nat.beq k 134 then (.iload_n 2, 135, 2, 0, []) else am_nop))))) else (bif Nat.blt k 143 then (bif Nat.blt k 140 then (bif Nat.blt k 136 then (bif Nat.beq k 135 then (.imul, 136, 0, 0, []) else am_nop) else (bif Nat.blt k 137 then (bif Nat.beq k 136 then (.aload_n 0, 137, 0, 0, []) else am_nop) else (bif Nat.beq k 137 then (.getfield 29, 140, 7, 9, [(0, 571)]) else am_nop))) else (bif Nat.blt k 141 then (bif Nat.beq k 140 then (.iconst 4, 141, 0, 0, [(4, 0)]) else am_nop) else (bif Nat.blt k 142 then (bif Nat.beq k 141 then (.iload_n 1, 142, 1, 0, []) else am_nop) else (bif Nat.beq k 142 then (.imul, 143, 0, 0, []) else am_nop)))) else (bif Nat.blt k 146 then (bif Nat.blt k 144 then (bif Nat.beq k 143 then (.iconst 3, 144, 0, 0, [(3, 0)]) else am_nop) else (bif Nat.blt k 145 then (bif Nat.beq k 144 then (.iadd, 145, 0, 0, []) else am_nop) else (bif Nat.beq k 145 then (.iaload, 146, 0, 0, []) else am_nop))) else (bif Nat.blt k 148 then (bif Nat.blt k 147 then (bif Nat.beq k 146 then (.iadd, 147, 0, 0, []) else am_nop) else (bif Nat.beq k 147 then (.dup2, 148, 0, 0, []) else am_nop)) else (bif Nat.blt k 149 then (bif Nat.beq k 148 then (.iaload, 149, 0, 0, []) else am_nop) else (bif Nat.beq k 149 then (.iconst 1, 150, 0, 0, [(1, 0)]) else am_nop)))))) else (bif Nat.blt k 169 then (bif Nat.blt k 159 then (bif Nat.blt k 154 then (bif Nat.blt k 152 then (bif Nat.beq k 150 then (.iload 4, 152, 4, 0, []) else am_nop) else (bif Nat.blt k 153 then (bif Nat.beq k 152 then (.ishl, 153, 0, 0, []) else am_nop) else (bif Nat.beq k 153 then (.iand, 154, 0, 0, []) else am_nop))) else (bif Nat.blt k 155 then (bif Nat.beq k 154 then (.iastore, 155, 0, 0, []) else am_nop) else (bif Nat.blt k 156 then (bif Nat.beq k 155 then (.aload_n 0, 156, 0, 0, []) else am_nop) else (bif Nat.beq k 156 then (.getfield 44, 159, 7, 15, [(0, 577)]) else am_nop)))) else (bif Nat.blt k 163 then (bif Nat.blt k 161 then (bif Nat.beq k 159 then (.bipush 10, 161, 0, 0, [(10, 0)]) else am_nop) else (bif Nat.blt k 162 then (bif Nat.beq k 161 then (.iload_n 3, 162, 3, 0, []) else am_nop) else (bif Nat.beq k 162 then (.imul, 163, 0, 0, []) else am_nop))) else (bif Nat.blt k 167 then (bif Nat.blt k 164 then (bif Nat.beq k 163 then (.aload_n 0, 164, 0, 0, []) else am_nop) else (bif Nat.beq k 164 then (.getfield 29, 167, 7, 9, [(0, 571)]) else am_nop)) else (bif Nat.blt k 168 then (bif Nat.beq k 167 then (.iconst 4, 168, 0, 0, [(4, 0)]) else am_nop) else (bif Nat.beq k 168 then (.iload_n 1, 169, 1, 0, []) else am_nop))))) else (bif Nat.blt k 176 then (bif Nat.blt k 172 then (bif Nat.blt k 170 then (bif Nat.beq k 169 then (.imul, 170, 0, 0, []) else am_nop) else (bif Nat.blt k 171 then (bif Nat.beq k 170 then (.iconst 3, 171, 0, 0, [(3, 0)]) else am_nop) else (bif Nat.beq k 171 then (.iadd, 172, 0, 0, []) else am_nop))) else (bif Nat.blt k 174 then (bif Nat.blt k 173 then (bif Nat.beq k 172 then (.iaload, 173, 0, 0, []) else am_nop) else (bif Nat.beq k 173 then (.iadd, 174, 0, 0, []) else am_nop)) else (bif Nat.blt k 175 then (bif Nat.beq k 174 then (.dup2, 175, 0, 0, []) else am_nop) else (bif Nat.beq k 175 then (.iaload, 176, 0, 0, []) else am_nop)))) else (bif Nat.blt k 180 then (bif Nat.blt k 177 then (bif Nat.beq k 176 then (.iconst 1, 177, 0, 0, [(1, 0)]) else am_nop) else (bif Nat.blt k 179 then (bif Nat.beq k 177 then (.iload 4, 179, 4, 0, []) else am_nop) else (bif Nat.beq k 179 then (.ishl, 180, 0, 0, []) else am_nop))) else (bif Nat.blt k 182 then (bif Nat.blt k 181 then (bif Nat.beq k 180 then (.iand, 181, 0, 0, []) else am_nop) else (bif Nat.beq k 181 then (.iastore, 182, 0, 0, []) else am_nop)) else (bif Nat.blt k 185 then (bif Nat.beq k 182 then (.goto 3, 185, 185, 0, []) else am_nop) else (bif Nat.beq k 185 then (.return_, 186, 0, 0, []) else am_nop)))))))
/-- DeedDeskModel.hasWay(I)Z -/
def am_c107 (k : Nat) : am_E := bif Nat.blt k 24 then (bif Nat.blt k 11 then (bif Nat.blt k 7 then (bif Nat.blt k 4 then (bif Nat.blt k 1 then (bif Nat.beq k 0 then (.aload_n 0, 1, 0, 0, []) else am_nop) else (bif Nat.beq k 1 then (.getfield 44, 4, 7, 15, [(0, 577)]) else am_nop)) else (bif Nat.blt k 6 then (bif Nat.beq k 4 then (.bipush 10, 6, 0, 0, [(10, 0)]) else am_nop) else (bif Nat.beq k 6 then (.iload_n 1, 7, 1, 0, []) else am_nop))) else (bif Nat.blt k 9 then (bif Nat.blt k 8 then (bif Nat.beq k 7 then (.imul, 8, 0, 0, []) else am_nop) else (bif Nat.beq k 8 then (.iaload, 9, 0, 0, []) else am_nop)) else (bif Nat.blt k 10 then (bif Nat.beq k 9 then (.istore_n 2, 10, 2, 0, []) else am_nop) else (bif Nat.beq k 10 then (.iconst 1, 11, 0, 0, [(1, 0)]) else am_nop)))) else (bif Nat.blt k 18 then (bif Nat.blt k 13 then (bif Nat.blt k 12 then (bif Nat.beq k 11 then (.istore_n 3, 12, 3, 0, []) else am_nop) else (bif Nat.beq k 12 then (.iload_n 3, 13, 3, 0, []) else am_nop)) else (bif Nat.blt k 15 then (bif Nat.beq k 13 then (.bipush 10, 15, 0, 0, [(10, 0)]) else am_nop) else (bif Nat.beq k 15 then (.if_icmp .ge 27, 18, 42, 0, []) else am_nop))) else (bif Nat.blt k 20 then (bif Nat.blt k 19 then (bif Nat.beq k 18 then (.aload_n 0, 19, 0, 0, []) else am_nop) else (bif Nat.beq k 19 then (.iload_n 2, 20, 2, 0, []) else am_nop)) else (bif Nat.blt k 23 then (bif Nat.beq k 20 then (.invokevirtual 97, 23, 108, 0, [(0, 725)]) else am_nop) else (bif Nat.beq k 23 then (.aload_n 0, 24, 0, 0, []) else am_nop))))) else (bif Nat.blt k 35 then (bif Nat.blt k 31 then (bif Nat.blt k 29 then (bif Nat.blt k 27 then (bif Nat.beq k 24 then (.getfield 44, 27, 7, 15, [(0, 577)]) else am_nop) else (bif Nat.beq k 27 then (.bipush 10, 29, 0, 0, [(10, 0)]) else am_nop)) else (bif Nat.blt k 30 then (bif Nat.beq k 29 then (.iload_n 1, 30, 1, 0, []) else am_nop) else (bif Nat.beq k 30 then (.imul, 31, 0, 0, []) else am_nop))) else (bif Nat.blt k 33 then (bif Nat.blt k 32 then (bif Nat.beq k 31 then (.iload_n 3, 32, 3, 0, []) else am_nop) else (bif Nat.beq k 32 then (.iadd, 33, 0, 0, []) else am_nop)) else (bif Nat.blt k 34 then (bif Nat.beq k 33 then (.iaload, 34, 0, 0, []) else am_nop) else (bif Nat.beq k 34 then (.iand, 35, 0, 0, []) else am_nop)))) else (bif Nat.blt k 43 then (bif Nat.blt k 39 then (bif Nat.blt k 36 then (bif Nat.beq k 35 then (.istore_n 2, 36, 2, 0, []) else am_nop) else (bif Nat.beq k 36 then (.iinc 3 1, 39, 3, 0, [(1, 0)]) else am_nop)) else (bif Nat.blt k 42 then (bif Nat.beq k 39 then (.goto (-27), 42, 12, 0, []) else am_nop) else (bif Nat.beq k 42 then (.iload_n 2, 43, 2, 0, []) else am_nop))) else (bif Nat.blt k 47 then (bif Nat.blt k 46 then (bif Nat.beq k 43 then (.ifCond .eq 7, 46, 50, 0, []) else am_nop) else (bif Nat.beq k 46 then (.iconst 1, 47, 0, 0, [(1, 0)]) else am_nop)) else (bif Nat.blt k 50 then (bif Nat.beq k 47 then (.goto 4, 50, 51, 0, []) else am_nop) else (bif Nat.blt k 51 then (bif Nat.beq k 50 then (.iconst 0, 51, 0, 0, [(0, 0)]) else am_nop) else (bif Nat.beq k 51 then (.ireturn, 52, 0, 0, []) else am_nop))))))
/-- DeedDeskModel.around(I)I -/
def am_c108 (k : Nat) : am_E := bif Nat.blt k 16 then (bif Nat.blt k 7 then (bif Nat.blt k 3 then (bif Nat.blt k 1 then (bif Nat.beq k 0 then (.iconst 0, 1, 0, 0, [(0, 0)]) else am_nop) else (bif Nat.blt k 2 then (bif Nat.beq k 1 then (.istore_n 2, 2, 2, 0, []) else am_nop) else (bif Nat.beq k 2 then (.iconst 0, 3, 0, 0, [(0, 0)]) else am_nop))) else (bif Nat.blt k 4 then (bif Nat.beq k 3 then (.istore_n 3, 4, 3, 0, []) else am_nop) else (bif Nat.blt k 5 then (bif Nat.beq k 4 then (.iload_n 3, 5, 3, 0, []) else am_nop) else (bif Nat.beq k 5 then (.bipush 8, 7, 0, 0, [(8, 0)]) else am_nop)))) else (bif Nat.blt k 12 then (bif Nat.blt k 10 then (bif Nat.beq k 7 then (.if_icmp .ge 31, 10, 38, 0, []) else am_nop) else (bif Nat.blt k 11 then (bif Nat.beq k 10 then (.iload_n 2, 11, 2, 0, []) else am_nop) else (bif Nat.beq k 11 then (.iload_n 1, 12, 1, 0, []) else am_nop))) else (bif Nat.blt k 14 then (bif Nat.blt k 13 then (bif Nat.beq k 12 then (.iload_n 3, 13, 3, 0, []) else am_nop) else (bif Nat.beq k 13 then (.ishr, 14, 0, 0, []) else am_nop)) else (bif Nat.blt k 15 then (bif Nat.beq k 14 then (.iconst 1, 15, 0, 0, [(1, 0)]) else am_nop) else (bif Nat.beq k 15 then (.iand, 16, 0, 0, []) else am_nop))))) else (bif Nat.blt k 29 then (bif Nat.blt k 21 then (bif Nat.blt k 17 then (bif Nat.beq k 16 then (.iconst 1, 17, 0, 0, [(1, 0)]) else am_nop) else (bif Nat.blt k 20 then (bif Nat.beq k 17 then (.if_icmp .ne 12, 20, 29, 0, []) else am_nop) else (bif Nat.beq k 20 then (.aload_n 0, 21, 0, 0, []) else am_nop))) else (bif Nat.blt k 25 then (bif Nat.blt k 24 then (bif Nat.beq k 21 then (.getfield 13, 24, 7, 2, [(0, 564)]) else am_nop) else (bif Nat.beq k 24 then (.iload_n 3, 25, 3, 0, []) else am_nop)) else (bif Nat.blt k 26 then (bif Nat.beq k 25 then (.iaload, 26, 0, 0, []) else am_nop) else (bif Nat.beq k 26 then (.goto 4, 29, 30, 0, []) else am_nop)))) else (bif Nat.blt k 32 then (bif Nat.blt k 30 then (bif Nat.beq k 29 then (.iconst 0, 30, 0, 0, [(0, 0)]) else am_nop) else (bif Nat.blt k 31 then (bif Nat.beq k 30 then (.ior, 31, 0, 0, []) else am_nop) else (bif Nat.beq k 31 then (.istore_n 2, 32, 2, 0, []) else am_nop))) else (bif Nat.blt k 38 then (bif Nat.blt k 35 then (bif Nat.beq k 32 then (.iinc 3 1, 35, 3, 0, [(1, 0)]) else am_nop) else (bif Nat.beq k 35 then (.goto (-31), 38, 4, 0, []) else am_nop)) else (bif Nat.blt k 39 then (bif Nat.beq k 38 then (.iload_n 2, 39, 2, 0, []) else am_nop) else (bif Nat.beq k 39 then (.ireturn, 40, 0, 0, []) else am_nop)))))
/-- DeedDeskModel.isTaken(I)Z -/
def am_c109 (k : Nat) : am_E := bif Nat.blt k 16 then (bif Nat.blt k 8 then (bif Nat.blt k 2 then (bif Nat.blt k 1 then (bif Nat.beq k 0 then (.iload_n 1, 1, 1, 0, []) else am_nop) else (bif Nat.beq k 1 then (.aload_n 0, 2, 0, 0, []) else am_nop)) else (bif Nat.blt k 5 then (bif Nat.beq k 2 then (.getfield 20, 5, 7, 5, [(0, 567)]) else am_nop) else (bif Nat.beq k 5 then (.if_icmp .gt 23, 8, 28, 0, []) else am_nop))) else (bif Nat.blt k 10 then (bif Nat.blt k 9 then (bif Nat.beq k 8 then (.iload_n 1, 9, 1, 0, []) else am_nop) else (bif Nat.beq k 9 then (.aload_n 0, 10, 0, 0, []) else am_nop)) else (bif Nat.blt k 13 then (bif Nat.beq k 10 then (.getfield 101, 13, 7, 16, [(0, 578)]) else am_nop) else (bif Nat.beq k 13 then (.if_icmp .lt 15, 16, 28, 0, []) else am_nop)))) else (bif Nat.blt k 24 then (bif Nat.blt k 18 then (bif Nat.blt k 17 then (bif Nat.beq k 16 then (.iload_n 1, 17, 1, 0, []) else am_nop) else (bif Nat.beq k 17 then (.aload_n 0, 18, 0, 0, []) else am_nop)) else (bif Nat.blt k 21 then (bif Nat.beq k 18 then (.getfield 104, 21, 7, 17, [(0, 579)]) else am_nop) else (bif Nat.beq k 21 then (.if_icmp .ge 7, 24, 28, 0, []) else am_nop))) else (bif Nat.blt k 28 then (bif Nat.blt k 25 then (bif Nat.beq k 24 then (.iconst 1, 25, 0, 0, [(1, 0)]) else am_nop) else (bif Nat.beq k 25 then (.goto 4, 28, 29, 0, []) else am_nop)) else (bif Nat.blt k 29 then (bif Nat.beq k 28 then (.iconst 0, 29, 0, 0, [(0, 0)]) else am_nop) else (bif Nat.beq k 29 then (.ireturn, 30, 0, 0, []) else am_nop))))
/-- DeedDeskModel.leadBack(II)V -/
def am_c110 (k : Nat) : am_E := bif Nat.blt k 73 then (bif Nat.blt k 35 then (bif Nat.blt k 18 then (bif Nat.blt k 10 then (bif Nat.blt k 4 then (bif Nat.blt k 1 then (bif Nat.beq k 0 then (.aload_n 0, 1, 0, 0, []) else am_nop) else (bif Nat.beq k 1 then (.getfield 47, 4, 7, 18, [(0, 580)]) else am_nop)) else (bif Nat.blt k 6 then (bif Nat.beq k 4 then (.bipush 10, 6, 0, 0, [(10, 0)]) else am_nop) else (bif Nat.blt k 9 then (bif Nat.beq k 6 then (.sipush 255, 9, 0, 0, [(255, 0)]) else am_nop) else (bif Nat.beq k 9 then (.iastore, 10, 0, 0, []) else am_nop)))) else (bif Nat.blt k 14 then (bif Nat.blt k 11 then (bif Nat.beq k 10 then (.aload_n 0, 11, 0, 0, []) else am_nop) else (bif Nat.beq k 11 then (.getfield 50, 14, 7, 19, [(0, 581)]) else am_nop)) else (bif Nat.blt k 16 then (bif Nat.beq k 14 then (.bipush 10, 16, 0, 0, [(10, 0)]) else am_nop) else (bif Nat.blt k 17 then (bif Nat.beq k 16 then (.iconst 0, 17, 0, 0, [(0, 0)]) else am_nop) else (bif Nat.beq k 17 then (.iastore, 18, 0, 0, []) else am_nop))))) else (bif Nat.blt k 26 then (bif Nat.blt k 21 then (bif Nat.blt k 20 then (bif Nat.beq k 18 then (.bipush 9, 20, 0, 0, [(9, 0)]) else am_nop) else (bif Nat.beq k 20 then (.istore_n 3, 21, 3, 0, []) else am_nop)) else (bif Nat.blt k 22 then (bif Nat.beq k 21 then (.iload_n 3, 22, 3, 0, []) else am_nop) else (bif Nat.blt k 25 then (bif Nat.beq k 22 then (.ifCond .lt 122, 25, 144, 0, []) else am_nop) else (bif Nat.beq k 25 then (.aload_n 0, 26, 0, 0, []) else am_nop)))) else (bif Nat.blt k 32 then (bif Nat.blt k 29 then (bif Nat.beq k 26 then (.getfield 44, 29, 7, 15, [(0, 577)]) else am_nop) else (bif Nat.blt k 31 then (bif Nat.beq k 29 then (.bipush 10, 31, 0, 0, [(10, 0)]) else am_nop) else (bif Nat.beq k 31 then (.iload_n 1, 32, 1, 0, []) else am_nop))) else (bif Nat.blt k 33 then (bif Nat.beq k 32 then (.imul, 33, 0, 0, []) else am_nop) else (bif Nat.blt k 34 then (bif Nat.beq k 33 then (.iload_n 3, 34, 3, 0, []) else am_nop) else (bif Nat.beq k 34 then (.iadd, 35, 0, 0, []) else am_nop)))))) else (bif Nat.blt k 53 then (bif Nat.blt k 43 then (bif Nat.blt k 38 then (bif Nat.blt k 36 then (bif Nat.beq k 35 then (.iaload, 36, 0, 0, []) else am_nop) else (bif Nat.beq k 36 then (.istore 4, 38, 4, 0, []) else am_nop)) else (bif Nat.blt k 39 then (bif Nat.beq k 38 then (.aload_n 0, 39, 0, 0, []) else am_nop) else (bif Nat.blt k 40 then (bif Nat.beq k 39 then (.iload_n 3, 40, 3, 0, []) else am_nop) else (bif Nat.beq k 40 then (.invokevirtual 107, 43, 109, 0, [(0, 753)]) else am_nop)))) else (bif Nat.blt k 48 then (bif Nat.blt k 46 then (bif Nat.beq k 43 then (.ifCond .eq 14, 46, 57, 0, []) else am_nop) else (bif Nat.blt k 47 then (bif Nat.beq k 46 then (.iconst 1, 47, 0, 0, [(1, 0)]) else am_nop) else (bif Nat.beq k 47 then (.aload_n 0, 48, 0, 0, []) else am_nop))) else (bif Nat.blt k 51 then (bif Nat.beq k 48 then (.getfield 17, 51, 7, 3, [(0, 565)]) else am_nop) else (bif Nat.blt k 52 then (bif Nat.beq k 51 then (.iload_n 2, 52, 2, 0, []) else am_nop) else (bif Nat.beq k 52 then (.iaload, 53, 0, 0, []) else am_nop))))) else (bif Nat.blt k 61 then (bif Nat.blt k 57 then (bif Nat.blt k 54 then (bif Nat.beq k 53 then (.ishl, 54, 0, 0, []) else am_nop) else (bif Nat.beq k 54 then (.goto 4, 57, 58, 0, []) else am_nop)) else (bif Nat.blt k 58 then (bif Nat.beq k 57 then (.iconst 0, 58, 0, 0, [(0, 0)]) else am_nop) else (bif Nat.blt k 60 then (bif Nat.beq k 58 then (.istore 5, 60, 5, 0, []) else am_nop) else (bif Nat.beq k 60 then (.aload_n 0, 61, 0, 0, []) else am_nop)))) else (bif Nat.blt k 67 then (bif Nat.blt k 64 then (bif Nat.beq k 61 then (.getfield 47, 64, 7, 18, [(0, 580)]) else am_nop) else (bif Nat.blt k 65 then (bif Nat.beq k 64 then (.iload_n 3, 65, 3, 0, []) else am_nop) else (bif Nat.beq k 65 then (.iload 4, 67, 4, 0, []) else am_nop))) else (bif Nat.blt k 68 then (bif Nat.beq k 67 then (.iload_n 3, 68, 3, 0, []) else am_nop) else (bif Nat.blt k 70 then (bif Nat.beq k 68 then (.bipush 9, 70, 0, 0, [(9, 0)]) else am_nop) else (bif Nat.beq k 70 then (.if_icmp .ne 9, 73, 79, 0, []) else am_nop))))))) else (bif Nat.blt k 109 then (bif Nat.blt k 91 then (bif Nat.blt k 84 then (bif Nat.blt k 79 then (bif Nat.blt k 76 then (bif Nat.beq k 73 then (.sipush 255, 76, 0, 0, [(255, 0)]) else am_nop) else (bif Nat.beq k 76 then (.goto 15, 79, 91, 0, []) else am_nop)) else (bif Nat.blt k 80 then (bif Nat.beq k 79 then (.aload_n 0, 80, 0, 0, []) else am_nop) else (bif Nat.blt k 81 then (bif Nat.beq k 80 then (.aload_n 0, 81, 0, 0, []) else am_nop) else (bif Nat.beq k 81 then (.getfield 47, 84, 7, 18, [(0, 580)]) else am_nop)))) else (bif Nat.blt k 86 then (bif Nat.blt k 85 then (bif Nat.beq k 84 then (.iload_n 3, 85, 3, 0, []) else am_nop) else (bif Nat.beq k 85 then (.iconst 1, 86, 0, 0, [(1, 0)]) else am_nop)) else (bif Nat.blt k 87 then (bif Nat.beq k 86 then (.iadd, 87, 0, 0, []) else am_nop) else (bif Nat.blt k 88 then (bif Nat.beq k 87 then (.iaload, 88, 0, 0, []) else am_nop) else (bif Nat.beq k 88 then (.invokevirtual 97, 91, 108, 0, [(0, 725)]) else am_nop))))) else (bif Nat.blt k 99 then (bif Nat.blt k 93 then (bif Nat.blt k 92 then (bif Nat.beq k 91 then (.iand, 92, 0, 0, []) else am_nop) else (bif Nat.beq k 92 then (.iastore, 93, 0, 0, []) else am_nop)) else (bif Nat.blt k 94 then (bif Nat.beq k 93 then (.iload_n 3, 94, 3, 0, []) else am_nop) else (bif Nat.blt k 96 then (bif Nat.beq k 94 then (.bipush 9, 96, 0, 0, [(9, 0)]) else am_nop) else (bif Nat.beq k 96 then (.if_icmp .ne 7, 99, 103, 0, []) else am_nop)))) else (bif Nat.blt k 104 then (bif Nat.blt k 100 then (bif Nat.beq k 99 then (.iconst 0, 100, 0, 0, [(0, 0)]) else am_nop) else (bif Nat.blt k 103 then (bif Nat.beq k 100 then (.goto 15, 103, 115, 0, []) else am_nop) else (bif Nat.beq k 103 then (.aload_n 0, 104, 0, 0, []) else am_nop))) else (bif Nat.blt k 105 then (bif Nat.beq k 104 then (.aload_n 0, 105, 0, 0, []) else am_nop) else (bif Nat.blt k 108 then (bif Nat.beq k 105 then (.getfield 50, 108, 7, 19, [(0, 581)]) else am_nop) else (bif Nat.beq k 108 then (.iload_n 3, 109, 3, 0, []) else am_nop)))))) else (bif Nat.blt k 127 then (bif Nat.blt k 117 then (bif Nat.blt k 111 then (bif Nat.blt k 110 then (bif Nat.beq k 109 then (.iconst 1, 110, 0, 0, [(1, 0)]) else am_nop) else (bif Nat.beq k 110 then (.iadd, 111, 0, 0, []) else am_nop)) else (bif Nat.blt k 112 then (bif Nat.beq k 111 then (.iaload, 112, 0, 0, []) else am_nop) else (bif Nat.blt k 115 then (bif Nat.beq k 112 then (.invokevirtual 97, 115, 108, 0, [(0, 725)]) else am_nop) else (bif Nat.beq k 115 then (.istore 6, 117, 6, 0, []) else am_nop)))) else (bif Nat.blt k 122 then (bif Nat.blt k 118 then (bif Nat.beq k 117 then (.aload_n 0, 118, 0, 0, []) else am_nop) else (bif Nat.blt k 121 then (bif Nat.beq k 118 then (.getfield 50, 121, 7, 19, [(0, 581)]) else am_nop) else (bif Nat.beq k 121 then (.iload_n 3, 122, 3, 0, []) else am_nop))) else (bif Nat.blt k 124 then (bif Nat.beq k 122 then (.iload 4, 124, 4, 0, []) else am_nop) else (bif Nat.blt k 126 then (bif Nat.beq k 124 then (.iload 6, 126, 6, 0, []) else am_nop) else (bif Nat.beq k 126 then (.iand, 127, 0, 0, []) else am_nop))))) else (bif Nat.blt k 135 then (bif Nat.blt k 131 then (bif Nat.blt k 128 then (bif Nat.beq k 127 then (.aload_n 0, 128, 0, 0, []) else am_nop) else (bif Nat.beq k 128 then (.getfield 47, 131, 7, 18, [(0, 580)]) else am_nop)) else (bif Nat.blt k 132 then (bif Nat.beq k 131 then (.iload_n 3, 132, 3, 0, []) else am_nop) else (bif Nat.blt k 133 then (bif Nat.beq k 132 then (.iaload, 133, 0, 0, []) else am_nop) else (bif Nat.beq k 133 then (.iload 5, 135, 5, 0, []) else am_nop)))) else (bif Nat.blt k 138 then (bif Nat.blt k 136 then (bif Nat.beq k 135 then (.iand, 136, 0, 0, []) else am_nop) else (bif Nat.blt k 137 then (bif Nat.beq k 136 then (.ior, 137, 0, 0, []) else am_nop) else (bif Nat.beq k 137 then (.iastore, 138, 0, 0, []) else am_nop))) else (bif Nat.blt k 141 then (bif Nat.beq k 138 then (.iinc 3 (-1), 141, 3, 0, [(-1, 0)]) else am_nop) else (bif Nat.blt k 144 then (bif Nat.beq k 141 then (.goto (-120), 144, 21, 0, []) else am_nop) else (bif Nat.beq k 144 then (.return_, 145, 0, 0, []) else am_nop)))))))
/-- DeedDeskModel.could(III)Z -/
def am_c111 (k : Nat) : am_E := bif Nat.blt k 188 then (bif Nat.blt k 94 then (bif Nat.blt k 44 then (bif Nat.blt k 22 then (bif Nat.blt k 10 then (bif Nat.blt k 5 then (bif Nat.blt k 1 then (bif Nat.beq k 0 then (.iload_n 1, 1, 1, 0, []) else am_nop) else (bif Nat.blt k 2 then (bif Nat.beq k 1 then (.aload_n 0, 2, 0, 0, []) else am_nop) else (bif Nat.beq k 2 then (.getfield 23, 5, 7, 6, [(0, 568)]) else am_nop))) else (bif Nat.blt k 8 then (bif Nat.beq k 5 then (.if_icmp .ne 5, 8, 10, 0, []) else am_nop) else (bif Nat.blt k 9 then (bif Nat.beq k 8 then (.iconst 0, 9, 0, 0, [(0, 0)]) else am_nop) else (bif Nat.beq k 9 then (.ireturn, 10, 0, 0, []) else am_nop)))) else (bif Nat.blt k 15 then (bif Nat.blt k 11 then (bif Nat.beq k 10 then (.aload_n 0, 11, 0, 0, []) else am_nop) else (bif Nat.blt k 14 then (bif Nat.beq k 11 then (.invokevirtual 110, 14, 105, 0, [(0, 713)]) else am_nop) else (bif Nat.beq k 14 then (.aload_n 0, 15, 0, 0, []) else am_nop))) else (bif Nat.blt k 19 then (bif Nat.blt k 16 then (bif Nat.beq k 15 then (.iconst 0, 16, 0, 0, [(0, 0)]) else am_nop) else (bif Nat.beq k 16 then (.putfield 101, 19, 7, 16, [(0, 578)]) else am_nop)) else (bif Nat.blt k 20 then (bif Nat.beq k 19 then (.aload_n 0, 20, 0, 0, []) else am_nop) else (bif Nat.beq k 20 then (.bipush 10, 22, 0, 0, [(10, 0)]) else am_nop))))) else (bif Nat.blt k 34 then (bif Nat.blt k 28 then (bif Nat.blt k 25 then (bif Nat.beq k 22 then (.putfield 104, 25, 7, 17, [(0, 579)]) else am_nop) else (bif Nat.blt k 26 then (bif Nat.beq k 25 then (.iconst 0, 26, 0, 0, [(0, 0)]) else am_nop) else (bif Nat.beq k 26 then (.istore 4, 28, 4, 0, []) else am_nop))) else (bif Nat.blt k 30 then (bif Nat.beq k 28 then (.iload 4, 30, 4, 0, []) else am_nop) else (bif Nat.blt k 31 then (bif Nat.beq k 30 then (.aload_n 0, 31, 0, 0, []) else am_nop) else (bif Nat.beq k 31 then (.getfield 60, 34, 7, 7, [(0, 569)]) else am_nop)))) else (bif Nat.blt k 40 then (bif Nat.blt k 37 then (bif Nat.beq k 34 then (.if_icmp .ge 242, 37, 276, 0, []) else am_nop) else (bif Nat.blt k 38 then (bif Nat.beq k 37 then (.iload_n 3, 38, 3, 0, []) else am_nop) else (bif Nat.beq k 38 then (.iload 4, 40, 4, 0, []) else am_nop))) else (bif Nat.blt k 42 then (bif Nat.blt k 41 then (bif Nat.beq k 40 then (.ishr, 41, 0, 0, []) else am_nop) else (bif Nat.beq k 41 then (.iconst 1, 42, 0, 0, [(1, 0)]) else am_nop)) else (bif Nat.blt k 43 then (bif Nat.beq k 42 then (.iand, 43, 0, 0, []) else am_nop) else (bif Nat.beq k 43 then (.iconst 1, 44, 0, 0, [(1, 0)]) else am_nop)))))) else (bif Nat.blt k 69 then (bif Nat.blt k 55 then (bif Nat.blt k 51 then (bif Nat.blt k 47 then (bif Nat.beq k 44 then (.if_icmp .ne 7, 47, 51, 0, []) else am_nop) else (bif Nat.blt k 48 then (bif Nat.beq k 47 then (.iconst 1, 48, 0, 0, [(1, 0)]) else am_nop) else (bif Nat.beq k 48 then (.goto 4, 51, 52, 0, []) else am_nop))) else (bif Nat.blt k 52 then (bif Nat.beq k 51 then (.iconst 0, 52, 0, 0, [(0, 0)]) else am_nop) else (bif Nat.blt k 54 then (bif Nat.beq k 52 then (.istore 5, 54, 5, 0, []) else am_nop) else (bif Nat.beq k 54 then (.aload_n 0, 55, 0, 0, []) else am_nop)))) else (bif Nat.blt k 61 then (bif Nat.blt k 58 then (bif Nat.beq k 55 then (.getfield 26, 58, 7, 8, [(0, 570)]) else am_nop) else (bif Nat.blt k 60 then (bif Nat.beq k 58 then (.iload 4, 60, 4, 0, []) else am_nop) else (bif Nat.beq k 60 then (.iaload, 61, 0, 0, []) else am_nop))) else (bif Nat.blt k 65 then (bif Nat.blt k 62 then (bif Nat.beq k 61 then (.iconst 5, 62, 0, 0, [(5, 0)]) else am_nop) else (bif Nat.beq k 62 then (.if_icmp .lt 20, 65, 82, 0, []) else am_nop)) else (bif Nat.blt k 66 then (bif Nat.beq k 65 then (.aload_n 0, 66, 0, 0, []) else am_nop) else (bif Nat.beq k 66 then (.getfield 29, 69, 7, 9, [(0, 571)]) else am_nop))))) else (bif Nat.blt k 79 then (bif Nat.blt k 73 then (bif Nat.blt k 70 then (bif Nat.beq k 69 then (.iconst 4, 70, 0, 0, [(4, 0)]) else am_nop) else (bif Nat.blt k 72 then (bif Nat.beq k 70 then (.iload 4, 72, 4, 0, []) else am_nop) else (bif Nat.beq k 72 then (.imul, 73, 0, 0, []) else am_nop))) else (bif Nat.blt k 75 then (bif Nat.blt k 74 then (bif Nat.beq k 73 then (.iaload, 74, 0, 0, []) else am_nop) else (bif Nat.beq k 74 then (.iload_n 1, 75, 1, 0, []) else am_nop)) else (bif Nat.blt k 78 then (bif Nat.beq k 75 then (.if_icmp .ne 7, 78, 82, 0, []) else am_nop) else (bif Nat.beq k 78 then (.iconst 1, 79, 0, 0, [(1, 0)]) else am_nop)))) else (bif Nat.blt k 85 then (bif Nat.blt k 82 then (bif Nat.beq k 79 then (.goto 4, 82, 83, 0, []) else am_nop) else (bif Nat.blt k 83 then (bif Nat.beq k 82 then (.iconst 0, 83, 0, 0, [(0, 0)]) else am_nop) else (bif Nat.beq k 83 then (.istore 6, 85, 6, 0, []) else am_nop))) else (bif Nat.blt k 90 then (bif Nat.blt k 87 then (bif Nat.beq k 85 then (.iload 5, 87, 5, 0, []) else am_nop) else (bif Nat.beq k 87 then (.ifCond .eq 29, 90, 116, 0, []) else am_nop)) else (bif Nat.blt k 91 then (bif Nat.beq k 90 then (.aload_n 0, 91, 0, 0, []) else am_nop) else (bif Nat.beq k 91 then (.getfield 26, 94, 7, 8, [(0, 570)]) else am_nop))))))) else (bif Nat.blt k 144 then (bif Nat.blt k 115 then (bif Nat.blt k 105 then (bif Nat.blt k 98 then (bif Nat.blt k 96 then (bif Nat.beq k 94 then (.iload 4, 96, 4, 0, []) else am_nop) else (bif Nat.blt k 97 then (bif Nat.beq k 96 then (.iaload, 97, 0, 0, []) else am_nop) else (bif Nat.beq k 97 then (.iconst 4, 98, 0, 0, [(4, 0)]) else am_nop))) else (bif Nat.blt k 101 then (bif Nat.beq k 98 then (.if_icmp .ne 18, 101, 116, 0, []) else am_nop) else (bif Nat.blt k 102 then (bif Nat.beq k 101 then (.aload_n 0, 102, 0, 0, []) else am_nop) else (bif Nat.beq k 102 then (.getfield 29, 105, 7, 9, [(0, 571)]) else am_nop)))) else (bif Nat.blt k 109 then (bif Nat.blt k 106 then (bif Nat.beq k 105 then (.iconst 4, 106, 0, 0, [(4, 0)]) else am_nop) else (bif Nat.blt k 108 then (bif Nat.beq k 106 then (.iload 4, 108, 4, 0, []) else am_nop) else (bif Nat.beq k 108 then (.imul, 109, 0, 0, []) else am_nop))) else (bif Nat.blt k 111 then (bif Nat.blt k 110 then (bif Nat.beq k 109 then (.iaload, 110, 0, 0, []) else am_nop) else (bif Nat.beq k 110 then (.iload_n 1, 111, 1, 0, []) else am_nop)) else (bif Nat.blt k 114 then (bif Nat.beq k 111 then (.if_icmp .ne 5, 114, 116, 0, []) else am_nop) else (bif Nat.beq k 114 then (.iconst 0, 115, 0, 0, [(0, 0)]) else am_nop))))) else (bif Nat.blt k 129 then (bif Nat.blt k 121 then (bif Nat.blt k 116 then (bif Nat.beq k 115 then (.ireturn, 116, 0, 0, []) else am_nop) else (bif Nat.blt k 118 then (bif Nat.beq k 116 then (.iload 5, 118, 5, 0, []) else am_nop) else (bif Nat.beq k 118 then (.ifCond .eq 14, 121, 132, 0, []) else am_nop))) else (bif Nat.blt k 126 then (bif Nat.blt k 123 then (bif Nat.beq k 121 then (.iload 6, 123, 6, 0, []) else am_nop) else (bif Nat.beq k 123 then (.ifCond .ne 9, 126, 132, 0, []) else am_nop)) else (bif Nat.blt k 127 then (bif Nat.beq k 126 then (.aload_n 0, 127, 0, 0, []) else am_nop) else (bif Nat.beq k 127 then (.iload 4, 129, 4, 0, []) else am_nop)))) else (bif Nat.blt k 137 then (bif Nat.blt k 132 then (bif Nat.beq k 129 then (.invokevirtual 113, 132, 106, 0, [(0, 717)]) else am_nop) else (bif Nat.blt k 134 then (bif Nat.beq k 132 then (.iload 5, 134, 5, 0, []) else am_nop) else (bif Nat.beq k 134 then (.ifCond .eq 67, 137, 201, 0, []) else am_nop))) else (bif Nat.blt k 141 then (bif Nat.blt k 138 then (bif Nat.beq k 137 then (.aload_n 0, 138, 0, 0, []) else am_nop) else (bif Nat.beq k 138 then (.getfield 26, 141, 7, 8, [(0, 570)]) else am_nop)) else (bif Nat.blt k 143 then (bif Nat.beq k 141 then (.iload 4, 143, 4, 0, []) else am_nop) else (bif Nat.beq k 143 then (.iaload, 144, 0, 0, []) else am_nop)))))) else (bif Nat.blt k 166 then (bif Nat.blt k 155 then (bif Nat.blt k 149 then (bif Nat.blt k 145 then (bif Nat.beq k 144 then (.iconst 2, 145, 0, 0, [(2, 0)]) else am_nop) else (bif Nat.blt k 148 then (bif Nat.beq k 145 then (.if_icmp .ne 56, 148, 201, 0, []) else am_nop) else (bif Nat.beq k 148 then (.aload_n 0, 149, 0, 0, []) else am_nop))) else (bif Nat.blt k 152 then (bif Nat.beq k 149 then (.getfield 29, 152, 7, 9, [(0, 571)]) else am_nop) else (bif Nat.blt k 153 then (bif Nat.beq k 152 then (.iconst 4, 153, 0, 0, [(4, 0)]) else am_nop) else (bif Nat.beq k 153 then (.iload 4, 155, 4, 0, []) else am_nop)))) else (bif Nat.blt k 158 then (bif Nat.blt k 156 then (bif Nat.beq k 155 then (.imul, 156, 0, 0, []) else am_nop) else (bif Nat.blt k 157 then (bif Nat.beq k 156 then (.iaload, 157, 0, 0, []) else am_nop) else (bif Nat.beq k 157 then (.iload_n 2, 158, 2, 0, []) else am_nop))) else (bif Nat.blt k 162 then (bif Nat.blt k 161 then (bif Nat.beq k 158 then (.if_icmp .ne 43, 161, 201, 0, []) else am_nop) else (bif Nat.beq k 161 then (.aload_n 0, 162, 0, 0, []) else am_nop)) else (bif Nat.blt k 163 then (bif Nat.beq k 162 then (.aload_n 0, 163, 0, 0, []) else am_nop) else (bif Nat.beq k 163 then (.getfield 29, 166, 7, 9, [(0, 571)]) else am_nop))))) else (bif Nat.blt k 174 then (bif Nat.blt k 170 then (bif Nat.blt k 167 then (bif Nat.beq k 166 then (.iconst 4, 167, 0, 0, [(4, 0)]) else am_nop) else (bif Nat.blt k 169 then (bif Nat.beq k 167 then (.iload 4, 169, 4, 0, []) else am_nop) else (bif Nat.beq k 169 then (.imul, 170, 0, 0, []) else am_nop))) else (bif Nat.blt k 172 then (bif Nat.blt k 171 then (bif Nat.beq k 170 then (.iconst 1, 171, 0, 0, [(1, 0)]) else am_nop) else (bif Nat.beq k 171 then (.iadd, 172, 0, 0, []) else am_nop)) else (bif Nat.blt k 173 then (bif Nat.beq k 172 then (.iaload, 173, 0, 0, []) else am_nop) else (bif Nat.beq k 173 then (.aload_n 0, 174, 0, 0, []) else am_nop)))) else (bif Nat.blt k 181 then (bif Nat.blt k 177 then (bif Nat.beq k 174 then (.getfield 101, 177, 7, 16, [(0, 578)]) else am_nop) else (bif Nat.blt k 180 then (bif Nat.beq k 177 then (.if_icmp .le 17, 180, 194, 0, []) else am_nop) else (bif Nat.beq k 180 then (.aload_n 0, 181, 0, 0, []) else am_nop))) else (bif Nat.blt k 185 then (bif Nat.blt k 184 then (bif Nat.beq k 181 then (.getfield 29, 184, 7, 9, [(0, 571)]) else am_nop) else (bif Nat.beq k 184 then (.iconst 4, 185, 0, 0, [(4, 0)]) else am_nop)) else (bif Nat.blt k 187 then (bif Nat.beq k 185 then (.iload 4, 187, 4, 0, []) else am_nop) else (bif Nat.beq k 187 then (.imul, 188, 0, 0, []) else am_nop)))))))) else (bif Nat.blt k 285 then (bif Nat.blt k 236 then (bif Nat.blt k 213 then (bif Nat.blt k 198 then (bif Nat.blt k 191 then (bif Nat.blt k 189 then (bif Nat.beq k 188 then (.iconst 1, 189, 0, 0, [(1, 0)]) else am_nop) else (bif Nat.blt k 190 then (bif Nat.beq k 189 then (.iadd, 190, 0, 0, []) else am_nop) else (bif Nat.beq k 190 then (.iaload, 191, 0, 0, []) else am_nop))) else (bif Nat.blt k 194 then (bif Nat.beq k 191 then (.goto 7, 194, 198, 0, []) else am_nop) else (bif Nat.blt k 195 then (bif Nat.beq k 194 then (.aload_n 0, 195, 0, 0, []) else am_nop) else (bif Nat.beq k 195 then (.getfield 101, 198, 7, 16, [(0, 578)]) else am_nop)))) else (bif Nat.blt k 206 then (bif Nat.blt k 201 then (bif Nat.beq k 198 then (.putfield 101, 201, 7, 16, [(0, 578)]) else am_nop) else (bif Nat.blt k 203 then (bif Nat.beq k 201 then (.iload 5, 203, 5, 0, []) else am_nop) else (bif Nat.beq k 203 then (.ifCond .eq 67, 206, 270, 0, []) else am_nop))) else (bif Nat.blt k 210 then (bif Nat.blt k 207 then (bif Nat.beq k 206 then (.aload_n 0, 207, 0, 0, []) else am_nop) else (bif Nat.beq k 207 then (.getfield 26, 210, 7, 8, [(0, 570)]) else am_nop)) else (bif Nat.blt k 212 then (bif Nat.beq k 210 then (.iload 4, 212, 4, 0, []) else am_nop) else (bif Nat.beq k 212 then (.iaload, 213, 0, 0, []) else am_nop))))) else (bif Nat.blt k 225 then (bif Nat.blt k 218 then (bif Nat.blt k 214 then (bif Nat.beq k 213 then (.iconst 3, 214, 0, 0, [(3, 0)]) else am_nop) else (bif Nat.blt k 217 then (bif Nat.beq k 214 then (.if_icmp .ne 56, 217, 270, 0, []) else am_nop) else (bif Nat.beq k 217 then (.aload_n 0, 218, 0, 0, []) else am_nop))) else (bif Nat.blt k 222 then (bif Nat.blt k 221 then (bif Nat.beq k 218 then (.getfield 29, 221, 7, 9, [(0, 571)]) else am_nop) else (bif Nat.beq k 221 then (.iconst 4, 222, 0, 0, [(4, 0)]) else am_nop)) else (bif Nat.blt k 224 then (bif Nat.beq k 222 then (.iload 4, 224, 4, 0, []) else am_nop) else (bif Nat.beq k 224 then (.imul, 225, 0, 0, []) else am_nop)))) else (bif Nat.blt k 230 then (bif Nat.blt k 226 then (bif Nat.beq k 225 then (.iaload, 226, 0, 0, []) else am_nop) else (bif Nat.blt k 227 then (bif Nat.beq k 226 then (.iload_n 2, 227, 2, 0, []) else am_nop) else (bif Nat.beq k 227 then (.if_icmp .ne 43, 230, 270, 0, []) else am_nop))) else (bif Nat.blt k 232 then (bif Nat.blt k 231 then (bif Nat.beq k 230 then (.aload_n 0, 231, 0, 0, []) else am_nop) else (bif Nat.beq k 231 then (.aload_n 0, 232, 0, 0, []) else am_nop)) else (bif Nat.blt k 235 then (bif Nat.beq k 232 then (.getfield 29, 235, 7, 9, [(0, 571)]) else am_nop) else (bif Nat.beq k 235 then (.iconst 4, 236, 0, 0, [(4, 0)]) else am_nop)))))) else (bif Nat.blt k 257 then (bif Nat.blt k 243 then (bif Nat.blt k 240 then (bif Nat.blt k 238 then (bif Nat.beq k 236 then (.iload 4, 238, 4, 0, []) else am_nop) else (bif Nat.blt k 239 then (bif Nat.beq k 238 then (.imul, 239, 0, 0, []) else am_nop) else (bif Nat.beq k 239 then (.iconst 1, 240, 0, 0, [(1, 0)]) else am_nop))) else (bif Nat.blt k 241 then (bif Nat.beq k 240 then (.iadd, 241, 0, 0, []) else am_nop) else (bif Nat.blt k 242 then (bif Nat.beq k 241 then (.iaload, 242, 0, 0, []) else am_nop) else (bif Nat.beq k 242 then (.aload_n 0, 243, 0, 0, []) else am_nop)))) else (bif Nat.blt k 250 then (bif Nat.blt k 246 then (bif Nat.beq k 243 then (.getfield 104, 246, 7, 17, [(0, 579)]) else am_nop) else (bif Nat.blt k 249 then (bif Nat.beq k 246 then (.if_icmp .ge 17, 249, 263, 0, []) else am_nop) else (bif Nat.beq k 249 then (.aload_n 0, 250, 0, 0, []) else am_nop))) else (bif Nat.blt k 254 then (bif Nat.blt k 253 then (bif Nat.beq k 250 then (.getfield 29, 253, 7, 9, [(0, 571)]) else am_nop) else (bif Nat.beq k 253 then (.iconst 4, 254, 0, 0, [(4, 0)]) else am_nop)) else (bif Nat.blt k 256 then (bif Nat.beq k 254 then (.iload 4, 256, 4, 0, []) else am_nop) else (bif Nat.beq k 256 then (.imul, 257, 0, 0, []) else am_nop))))) else (bif Nat.blt k 270 then (bif Nat.blt k 260 then (bif Nat.blt k 258 then (bif Nat.beq k 257 then (.iconst 1, 258, 0, 0, [(1, 0)]) else am_nop) else (bif Nat.blt k 259 then (bif Nat.beq k 258 then (.iadd, 259, 0, 0, []) else am_nop) else (bif Nat.beq k 259 then (.iaload, 260, 0, 0, []) else am_nop))) else (bif Nat.blt k 264 then (bif Nat.blt k 263 then (bif Nat.beq k 260 then (.goto 7, 263, 267, 0, []) else am_nop) else (bif Nat.beq k 263 then (.aload_n 0, 264, 0, 0, []) else am_nop)) else (bif Nat.blt k 267 then (bif Nat.beq k 264 then (.getfield 104, 267, 7, 17, [(0, 579)]) else am_nop) else (bif Nat.beq k 267 then (.putfield 104, 270, 7, 17, [(0, 579)]) else am_nop)))) else (bif Nat.blt k 277 then (bif Nat.blt k 273 then (bif Nat.beq k 270 then (.iinc 4 1, 273, 4, 0, [(1, 0)]) else am_nop) else (bif Nat.blt k 276 then (bif Nat.beq k 273 then (.goto (-245), 276, 28, 0, []) else am_nop) else (bif Nat.beq k 276 then (.iconst 0, 277, 0, 0, [(0, 0)]) else am_nop))) else (bif Nat.blt k 281 then (bif Nat.blt k 279 then (bif Nat.beq k 277 then (.istore 4, 279, 4, 0, []) else am_nop) else (bif Nat.beq k 279 then (.iload 4, 281, 4, 0, []) else am_nop)) else (bif Nat.blt k 282 then (bif Nat.beq k 281 then (.aload_n 0, 282, 0, 0, []) else am_nop) else (bif Nat.beq k 282 then (.getfield 7, 285, 7, 0, [(0, 562)]) else am_nop))))))) else (bif Nat.blt k 335 then (bif Nat.blt k 309 then (bif Nat.blt k 296 then (bif Nat.blt k 290 then (bif Nat.blt k 288 then (bif Nat.beq k 285 then (.if_icmp .ge 76, 288, 361, 0, []) else am_nop) else (bif Nat.blt k 289 then (bif Nat.beq k 288 then (.iconst 1, 289, 0, 0, [(1, 0)]) else am_nop) else (bif Nat.beq k 289 then (.aload_n 0, 290, 0, 0, []) else am_nop))) else (bif Nat.blt k 293 then (bif Nat.beq k 290 then (.getfield 77, 293, 7, 4, [(0, 566)]) else am_nop) else (bif Nat.blt k 294 then (bif Nat.beq k 293 then (.ishl, 294, 0, 0, []) else am_nop) else (bif Nat.beq k 294 then (.istore 5, 296, 5, 0, []) else am_nop)))) else (bif Nat.blt k 302 then (bif Nat.blt k 297 then (bif Nat.beq k 296 then (.aload_n 0, 297, 0, 0, []) else am_nop) else (bif Nat.blt k 300 then (bif Nat.beq k 297 then (.getfield 44, 300, 7, 15, [(0, 577)]) else am_nop) else (bif Nat.beq k 300 then (.bipush 10, 302, 0, 0, [(10, 0)]) else am_nop))) else (bif Nat.blt k 305 then (bif Nat.blt k 304 then (bif Nat.beq k 302 then (.iload 4, 304, 4, 0, []) else am_nop) else (bif Nat.beq k 304 then (.imul, 305, 0, 0, []) else am_nop)) else (bif Nat.blt k 306 then (bif Nat.beq k 305 then (.aload_n 0, 306, 0, 0, []) else am_nop) else (bif Nat.beq k 306 then (.getfield 20, 309, 7, 5, [(0, 567)]) else am_nop))))) else (bif Nat.blt k 320 then (bif Nat.blt k 312 then (bif Nat.blt k 310 then (bif Nat.beq k 309 then (.iadd, 310, 0, 0, []) else am_nop) else (bif Nat.blt k 311 then (bif Nat.beq k 310 then (.dup2, 311, 0, 0, []) else am_nop) else (bif Nat.beq k 311 then (.iaload, 312, 0, 0, []) else am_nop))) else (bif Nat.blt k 315 then (bif Nat.blt k 314 then (bif Nat.beq k 312 then (.iload 4, 314, 4, 0, []) else am_nop) else (bif Nat.beq k 314 then (.iload_n 1, 315, 1, 0, []) else am_nop)) else (bif Nat.blt k 318 then (bif Nat.beq k 315 then (.if_icmp .eq 12, 318, 327, 0, []) else am_nop) else (bif Nat.beq k 318 then (.iload 4, 320, 4, 0, []) else am_nop)))) else (bif Nat.blt k 327 then (bif Nat.blt k 321 then (bif Nat.beq k 320 then (.aload_n 0, 321, 0, 0, []) else am_nop) else (bif Nat.blt k 324 then (bif Nat.beq k 321 then (.getfield 23, 324, 7, 6, [(0, 568)]) else am_nop) else (bif Nat.beq k 324 then (.if_icmp .ne 8, 327, 332, 0, []) else am_nop))) else (bif Nat.blt k 332 then (bif Nat.blt k 329 then (bif Nat.beq k 327 then (.iload 5, 329, 5, 0, []) else am_nop) else (bif Nat.beq k 329 then (.goto 7, 332, 336, 0, []) else am_nop)) else (bif Nat.blt k 334 then (bif Nat.beq k 332 then (.iload 5, 334, 5, 0, []) else am_nop) else (bif Nat.beq k 334 then (.iconst (-1), 335, 0, 0, [(-1, 0)]) else am_nop)))))) else (bif Nat.blt k 358 then (bif Nat.blt k 344 then (bif Nat.blt k 338 then (bif Nat.blt k 336 then (bif Nat.beq k 335 then (.ixor, 336, 0, 0, []) else am_nop) else (bif Nat.blt k 337 then (bif Nat.beq k 336 then (.iand, 337, 0, 0, []) else am_nop) else (bif Nat.beq k 337 then (.iastore, 338, 0, 0, []) else am_nop))) else (bif Nat.blt k 340 then (bif Nat.beq k 338 then (.iload 4, 340, 4, 0, []) else am_nop) else (bif Nat.blt k 341 then (bif Nat.beq k 340 then (.iload_n 1, 341, 1, 0, []) else am_nop) else (bif Nat.beq k 341 then (.if_icmp .eq 14, 344, 355, 0, []) else am_nop)))) else (bif Nat.blt k 350 then (bif Nat.blt k 345 then (bif Nat.beq k 344 then (.aload_n 0, 345, 0, 0, []) else am_nop) else (bif Nat.blt k 347 then (bif Nat.beq k 345 then (.iload 4, 347, 4, 0, []) else am_nop) else (bif Nat.beq k 347 then (.invokevirtual 117, 350, 107, 0, [(0, 721)]) else am_nop))) else (bif Nat.blt k 354 then (bif Nat.blt k 353 then (bif Nat.beq k 350 then (.ifCond .ne 5, 353, 355, 0, []) else am_nop) else (bif Nat.beq k 353 then (.iconst 0, 354, 0, 0, [(0, 0)]) else am_nop)) else (bif Nat.blt k 355 then (bif Nat.beq k 354 then (.ireturn, 355, 0, 0, []) else am_nop) else (bif Nat.beq k 355 then (.iinc 4 1, 358, 4, 0, [(1, 0)]) else am_nop))))) else (bif Nat.blt k 371 then (bif Nat.blt k 363 then (bif Nat.blt k 361 then (bif Nat.beq k 358 then (.goto (-79), 361, 279, 0, []) else am_nop) else (bif Nat.blt k 362 then (bif Nat.beq k 361 then (.aload_n 0, 362, 0, 0, []) else am_nop) else (bif Nat.beq k 362 then (.iload_n 1, 363, 1, 0, []) else am_nop))) else (bif Nat.blt k 367 then (bif Nat.blt k 364 then (bif Nat.beq k 363 then (.iload_n 2, 364, 2, 0, []) else am_nop) else (bif Nat.beq k 364 then (.invokevirtual 120, 367, 110, 0, [(0, 749)]) else am_nop)) else (bif Nat.blt k 368 then (bif Nat.beq k 367 then (.aload_n 0, 368, 0, 0, []) else am_nop) else (bif Nat.beq k 368 then (.getfield 50, 371, 7, 19, [(0, 581)]) else am_nop)))) else (bif Nat.blt k 376 then (bif Nat.blt k 372 then (bif Nat.beq k 371 then (.iconst 0, 372, 0, 0, [(0, 0)]) else am_nop) else (bif Nat.blt k 373 then (bif Nat.beq k 372 then (.iaload, 373, 0, 0, []) else am_nop) else (bif Nat.beq k 373 then (.ifCond .eq 7, 376, 380, 0, []) else am_nop))) else (bif Nat.blt k 380 then (bif Nat.blt k 377 then (bif Nat.beq k 376 then (.iconst 1, 377, 0, 0, [(1, 0)]) else am_nop) else (bif Nat.beq k 377 then (.goto 4, 380, 381, 0, []) else am_nop)) else (bif Nat.blt k 381 then (bif Nat.beq k 380 then (.iconst 0, 381, 0, 0, [(0, 0)]) else am_nop) else (bif Nat.beq k 381 then (.ireturn, 382, 0, 0, []) else am_nop))))))))
/-- DeedDeskModel.foundBits()I -/
def am_c112 (k : Nat) : am_E := bif Nat.blt k 18 then (bif Nat.blt k 6 then (bif Nat.blt k 3 then (bif Nat.blt k 1 then (bif Nat.beq k 0 then (.iconst 0, 1, 0, 0, [(0, 0)]) else am_nop) else (bif Nat.blt k 2 then (bif Nat.beq k 1 then (.istore_n 1, 2, 1, 0, []) else am_nop) else (bif Nat.beq k 2 then (.iconst 0, 3, 0, 0, [(0, 0)]) else am_nop))) else (bif Nat.blt k 4 then (bif Nat.beq k 3 then (.istore_n 2, 4, 2, 0, []) else am_nop) else (bif Nat.blt k 5 then (bif Nat.beq k 4 then (.iload_n 2, 5, 2, 0, []) else am_nop) else (bif Nat.beq k 5 then (.aload_n 0, 6, 0, 0, []) else am_nop)))) else (bif Nat.blt k 13 then (bif Nat.blt k 9 then (bif Nat.beq k 6 then (.getfield 60, 9, 7, 7, [(0, 569)]) else am_nop) else (bif Nat.blt k 12 then (bif Nat.beq k 9 then (.if_icmp .ge 28, 12, 37, 0, []) else am_nop) else (bif Nat.beq k 12 then (.iload_n 1, 13, 1, 0, []) else am_nop))) else (bif Nat.blt k 14 then (bif Nat.beq k 13 then (.aload_n 0, 14, 0, 0, []) else am_nop) else (bif Nat.blt k 17 then (bif Nat.beq k 14 then (.getfield 32, 17, 7, 10, [(0, 572)]) else am_nop) else (bif Nat.beq k 17 then (.iload_n 2, 18, 2, 0, []) else am_nop))))) else (bif Nat.blt k 28 then (bif Nat.blt k 23 then (bif Nat.blt k 19 then (bif Nat.beq k 18 then (.iaload, 19, 0, 0, []) else am_nop) else (bif Nat.blt k 22 then (bif Nat.beq k 19 then (.ifCond .le 9, 22, 28, 0, []) else am_nop) else (bif Nat.beq k 22 then (.iconst 1, 23, 0, 0, [(1, 0)]) else am_nop))) else (bif Nat.blt k 24 then (bif Nat.beq k 23 then (.iload_n 2, 24, 2, 0, []) else am_nop) else (bif Nat.blt k 25 then (bif Nat.beq k 24 then (.ishl, 25, 0, 0, []) else am_nop) else (bif Nat.beq k 25 then (.goto 4, 28, 29, 0, []) else am_nop)))) else (bif Nat.blt k 31 then (bif Nat.blt k 29 then (bif Nat.beq k 28 then (.iconst 0, 29, 0, 0, [(0, 0)]) else am_nop) else (bif Nat.blt k 30 then (bif Nat.beq k 29 then (.ior, 30, 0, 0, []) else am_nop) else (bif Nat.beq k 30 then (.istore_n 1, 31, 1, 0, []) else am_nop))) else (bif Nat.blt k 37 then (bif Nat.blt k 34 then (bif Nat.beq k 31 then (.iinc 2 1, 34, 2, 0, [(1, 0)]) else am_nop) else (bif Nat.beq k 34 then (.goto (-30), 37, 4, 0, []) else am_nop)) else (bif Nat.blt k 38 then (bif Nat.beq k 37 then (.iload_n 1, 38, 1, 0, []) else am_nop) else (bif Nat.beq k 38 then (.ireturn, 39, 0, 0, []) else am_nop)))))
/-- DeedDeskModel.couldAny(II)Z -/
def am_c113 (k : Nat) : am_E := bif Nat.blt k 17 then (bif Nat.blt k 7 then (bif Nat.blt k 2 then (bif Nat.blt k 1 then (bif Nat.beq k 0 then (.aload_n 0, 1, 0, 0, []) else am_nop) else (bif Nat.beq k 1 then (.iload_n 1, 2, 1, 0, []) else am_nop)) else (bif Nat.blt k 3 then (bif Nat.beq k 2 then (.iconst 0, 3, 0, 0, [(0, 0)]) else am_nop) else (bif Nat.blt k 4 then (bif Nat.beq k 3 then (.iload_n 2, 4, 2, 0, []) else am_nop) else (bif Nat.beq k 4 then (.invokevirtual 123, 7, 111, 0, [(0, 745)]) else am_nop)))) else (bif Nat.blt k 12 then (bif Nat.blt k 10 then (bif Nat.beq k 7 then (.ifCond .ne 23, 10, 30, 0, []) else am_nop) else (bif Nat.blt k 11 then (bif Nat.beq k 10 then (.aload_n 0, 11, 0, 0, []) else am_nop) else (bif Nat.beq k 11 then (.iload_n 1, 12, 1, 0, []) else am_nop))) else (bif Nat.blt k 13 then (bif Nat.beq k 12 then (.iconst 1, 13, 0, 0, [(1, 0)]) else am_nop) else (bif Nat.blt k 14 then (bif Nat.beq k 13 then (.iload_n 2, 14, 2, 0, []) else am_nop) else (bif Nat.beq k 14 then (.invokevirtual 123, 17, 111, 0, [(0, 745)]) else am_nop))))) else (bif Nat.blt k 24 then (bif Nat.blt k 21 then (bif Nat.blt k 20 then (bif Nat.beq k 17 then (.ifCond .ne 13, 20, 30, 0, []) else am_nop) else (bif Nat.beq k 20 then (.aload_n 0, 21, 0, 0, []) else am_nop)) else (bif Nat.blt k 22 then (bif Nat.beq k 21 then (.iload_n 1, 22, 1, 0, []) else am_nop) else (bif Nat.blt k 23 then (bif Nat.beq k 22 then (.iconst 2, 23, 0, 0, [(2, 0)]) else am_nop) else (bif Nat.beq k 23 then (.iload_n 2, 24, 2, 0, []) else am_nop)))) else (bif Nat.blt k 31 then (bif Nat.blt k 27 then (bif Nat.beq k 24 then (.invokevirtual 123, 27, 111, 0, [(0, 745)]) else am_nop) else (bif Nat.blt k 30 then (bif Nat.beq k 27 then (.ifCond .eq 7, 30, 34, 0, []) else am_nop) else (bif Nat.beq k 30 then (.iconst 1, 31, 0, 0, [(1, 0)]) else am_nop))) else (bif Nat.blt k 34 then (bif Nat.beq k 31 then (.goto 4, 34, 35, 0, []) else am_nop) else (bif Nat.blt k 35 then (bif Nat.beq k 34 then (.iconst 0, 35, 0, 0, [(0, 0)]) else am_nop) else (bif Nat.beq k 35 then (.ireturn, 36, 0, 0, []) else am_nop)))))
/-- DeedDeskModel.suspectsBy(I)I -/
def am_c114 (k : Nat) : am_E := bif Nat.blt k 16 then (bif Nat.blt k 6 then (bif Nat.blt k 3 then (bif Nat.blt k 1 then (bif Nat.beq k 0 then (.iconst 0, 1, 0, 0, [(0, 0)]) else am_nop) else (bif Nat.blt k 2 then (bif Nat.beq k 1 then (.istore_n 2, 2, 2, 0, []) else am_nop) else (bif Nat.beq k 2 then (.iconst 0, 3, 0, 0, [(0, 0)]) else am_nop))) else (bif Nat.blt k 4 then (bif Nat.beq k 3 then (.istore_n 3, 4, 3, 0, []) else am_nop) else (bif Nat.blt k 5 then (bif Nat.beq k 4 then (.iload_n 3, 5, 3, 0, []) else am_nop) else (bif Nat.beq k 5 then (.aload_n 0, 6, 0, 0, []) else am_nop)))) else (bif Nat.blt k 13 then (bif Nat.blt k 9 then (bif Nat.beq k 6 then (.getfield 7, 9, 7, 0, [(0, 562)]) else am_nop) else (bif Nat.blt k 12 then (bif Nat.beq k 9 then (.if_icmp .ge 28, 12, 37, 0, []) else am_nop) else (bif Nat.beq k 12 then (.iload_n 2, 13, 2, 0, []) else am_nop))) else (bif Nat.blt k 14 then (bif Nat.beq k 13 then (.aload_n 0, 14, 0, 0, []) else am_nop) else (bif Nat.blt k 15 then (bif Nat.beq k 14 then (.iload_n 3, 15, 3, 0, []) else am_nop) else (bif Nat.beq k 15 then (.iload_n 1, 16, 1, 0, []) else am_nop))))) else (bif Nat.blt k 28 then (bif Nat.blt k 23 then (bif Nat.blt k 19 then (bif Nat.beq k 16 then (.invokevirtual 126, 19, 113, 0, [(0, 741)]) else am_nop) else (bif Nat.blt k 22 then (bif Nat.beq k 19 then (.ifCond .eq 9, 22, 28, 0, []) else am_nop) else (bif Nat.beq k 22 then (.iconst 1, 23, 0, 0, [(1, 0)]) else am_nop))) else (bif Nat.blt k 24 then (bif Nat.beq k 23 then (.iload_n 3, 24, 3, 0, []) else am_nop) else (bif Nat.blt k 25 then (bif Nat.beq k 24 then (.ishl, 25, 0, 0, []) else am_nop) else (bif Nat.beq k 25 then (.goto 4, 28, 29, 0, []) else am_nop)))) else (bif Nat.blt k 31 then (bif Nat.blt k 29 then (bif Nat.beq k 28 then (.iconst 0, 29, 0, 0, [(0, 0)]) else am_nop) else (bif Nat.blt k 30 then (bif Nat.beq k 29 then (.ior, 30, 0, 0, []) else am_nop) else (bif Nat.beq k 30 then (.istore_n 2, 31, 2, 0, []) else am_nop))) else (bif Nat.blt k 37 then (bif Nat.blt k 34 then (bif Nat.beq k 31 then (.iinc 3 1, 34, 3, 0, [(1, 0)]) else am_nop) else (bif Nat.beq k 34 then (.goto (-30), 37, 4, 0, []) else am_nop)) else (bif Nat.blt k 38 then (bif Nat.beq k 37 then (.iload_n 2, 38, 2, 0, []) else am_nop) else (bif Nat.beq k 38 then (.ireturn, 39, 0, 0, []) else am_nop)))))
/-- DeedDeskModel.many(I)I -/
def am_c115 (k : Nat) : am_E := bif Nat.blt k 12 then (bif Nat.blt k 4 then (bif Nat.blt k 2 then (bif Nat.blt k 1 then (bif Nat.beq k 0 then (.iconst 0, 1, 0, 0, [(0, 0)]) else am_nop) else (bif Nat.beq k 1 then (.istore_n 1, 2, 1, 0, []) else am_nop)) else (bif Nat.blt k 3 then (bif Nat.beq k 2 then (.iconst 0, 3, 0, 0, [(0, 0)]) else am_nop) else (bif Nat.beq k 3 then (.istore_n 2, 4, 2, 0, []) else am_nop))) else (bif Nat.blt k 7 then (bif Nat.blt k 5 then (bif Nat.beq k 4 then (.iload_n 2, 5, 2, 0, []) else am_nop) else (bif Nat.beq k 5 then (.bipush 20, 7, 0, 0, [(20, 0)]) else am_nop)) else (bif Nat.blt k 10 then (bif Nat.beq k 7 then (.if_icmp .ge 17, 10, 24, 0, []) else am_nop) else (bif Nat.blt k 11 then (bif Nat.beq k 10 then (.iload_n 1, 11, 1, 0, []) else am_nop) else (bif Nat.beq k 11 then (.iload_n 0, 12, 0, 0, []) else am_nop))))) else (bif Nat.blt k 17 then (bif Nat.blt k 14 then (bif Nat.blt k 13 then (bif Nat.beq k 12 then (.iload_n 2, 13, 2, 0, []) else am_nop) else (bif Nat.beq k 13 then (.ishr, 14, 0, 0, []) else am_nop)) else (bif Nat.blt k 15 then (bif Nat.beq k 14 then (.iconst 1, 15, 0, 0, [(1, 0)]) else am_nop) else (bif Nat.blt k 16 then (bif Nat.beq k 15 then (.iand, 16, 0, 0, []) else am_nop) else (bif Nat.beq k 16 then (.iadd, 17, 0, 0, []) else am_nop)))) else (bif Nat.blt k 21 then (bif Nat.blt k 18 then (bif Nat.beq k 17 then (.istore_n 1, 18, 1, 0, []) else am_nop) else (bif Nat.beq k 18 then (.iinc 2 1, 21, 2, 0, [(1, 0)]) else am_nop)) else (bif Nat.blt k 24 then (bif Nat.beq k 21 then (.goto (-17), 24, 4, 0, []) else am_nop) else (bif Nat.blt k 25 then (bif Nat.beq k 24 then (.iload_n 1, 25, 1, 0, []) else am_nop) else (bif Nat.beq k 25 then (.ireturn, 26, 0, 0, []) else am_nop)))))
/-- DeedDeskModel.denied(I)I -/
def am_c116 (k : Nat) : am_E := bif Nat.blt k 67 then (bif Nat.blt k 33 then (bif Nat.blt k 16 then (bif Nat.blt k 7 then (bif Nat.blt k 2 then (bif Nat.blt k 1 then (bif Nat.beq k 0 then (.iload_n 1, 1, 1, 0, []) else am_nop) else (bif Nat.beq k 1 then (.iconst 0, 2, 0, 0, [(0, 0)]) else am_nop)) else (bif Nat.blt k 3 then (bif Nat.beq k 2 then (.aload_n 0, 3, 0, 0, []) else am_nop) else (bif Nat.blt k 6 then (bif Nat.beq k 3 then (.getfield 60, 6, 7, 7, [(0, 569)]) else am_nop) else (bif Nat.beq k 6 then (.iconst 1, 7, 0, 0, [(1, 0)]) else am_nop)))) else (bif Nat.blt k 11 then (bif Nat.blt k 8 then (bif Nat.beq k 7 then (.isub, 8, 0, 0, []) else am_nop) else (bif Nat.beq k 8 then (.invokestatic 56, 11, 83, 0, [(0, 633)]) else am_nop)) else (bif Nat.blt k 14 then (bif Nat.beq k 11 then (.ifCond .ne 5, 14, 16, 0, []) else am_nop) else (bif Nat.blt k 15 then (bif Nat.beq k 14 then (.iconst (-1), 15, 0, 0, [(-1, 0)]) else am_nop) else (bif Nat.beq k 15 then (.ireturn, 16, 0, 0, []) else am_nop))))) else (bif Nat.blt k 23 then (bif Nat.blt k 20 then (bif Nat.blt k 17 then (bif Nat.beq k 16 then (.aload_n 0, 17, 0, 0, []) else am_nop) else (bif Nat.beq k 17 then (.getfield 26, 20, 7, 8, [(0, 570)]) else am_nop)) else (bif Nat.blt k 21 then (bif Nat.beq k 20 then (.iload_n 1, 21, 1, 0, []) else am_nop) else (bif Nat.blt k 22 then (bif Nat.beq k 21 then (.iaload, 22, 0, 0, []) else am_nop) else (bif Nat.beq k 22 then (.iconst 5, 23, 0, 0, [(5, 0)]) else am_nop)))) else (bif Nat.blt k 28 then (bif Nat.blt k 26 then (bif Nat.beq k 23 then (.if_icmp .ge 6, 26, 29, 0, []) else am_nop) else (bif Nat.beq k 26 then (.bipush (-12), 28, 0, 0, [(-12, 0)]) else am_nop)) else (bif Nat.blt k 29 then (bif Nat.beq k 28 then (.ireturn, 29, 0, 0, []) else am_nop) else (bif Nat.blt k 30 then (bif Nat.beq k 29 then (.aload_n 0, 30, 0, 0, []) else am_nop) else (bif Nat.beq k 30 then (.invokevirtual 110, 33, 105, 0, [(0, 713)]) else am_nop)))))) else (bif Nat.blt k 49 then (bif Nat.blt k 40 then (bif Nat.blt k 35 then (bif Nat.blt k 34 then (bif Nat.beq k 33 then (.iconst 0, 34, 0, 0, [(0, 0)]) else am_nop) else (bif Nat.beq k 34 then (.istore_n 2, 35, 2, 0, []) else am_nop)) else (bif Nat.blt k 36 then (bif Nat.beq k 35 then (.iload_n 2, 36, 2, 0, []) else am_nop) else (bif Nat.blt k 37 then (bif Nat.beq k 36 then (.aload_n 0, 37, 0, 0, []) else am_nop) else (bif Nat.beq k 37 then (.getfield 60, 40, 7, 7, [(0, 569)]) else am_nop)))) else (bif Nat.blt k 44 then (bif Nat.blt k 43 then (bif Nat.beq k 40 then (.if_icmp .ge 33, 43, 73, 0, []) else am_nop) else (bif Nat.beq k 43 then (.aload_n 0, 44, 0, 0, []) else am_nop)) else (bif Nat.blt k 47 then (bif Nat.beq k 44 then (.getfield 26, 47, 7, 8, [(0, 570)]) else am_nop) else (bif Nat.blt k 48 then (bif Nat.beq k 47 then (.iload_n 2, 48, 2, 0, []) else am_nop) else (bif Nat.beq k 48 then (.iaload, 49, 0, 0, []) else am_nop))))) else (bif Nat.blt k 58 then (bif Nat.blt k 53 then (bif Nat.blt k 50 then (bif Nat.beq k 49 then (.iconst 5, 50, 0, 0, [(5, 0)]) else am_nop) else (bif Nat.beq k 50 then (.if_icmp .ge 17, 53, 67, 0, []) else am_nop)) else (bif Nat.blt k 54 then (bif Nat.beq k 53 then (.aload_n 0, 54, 0, 0, []) else am_nop) else (bif Nat.blt k 57 then (bif Nat.beq k 54 then (.getfield 32, 57, 7, 10, [(0, 572)]) else am_nop) else (bif Nat.beq k 57 then (.iload_n 2, 58, 2, 0, []) else am_nop)))) else (bif Nat.blt k 62 then (bif Nat.blt k 59 then (bif Nat.beq k 58 then (.iaload, 59, 0, 0, []) else am_nop) else (bif Nat.beq k 59 then (.ifCond .le 8, 62, 67, 0, []) else am_nop)) else (bif Nat.blt k 63 then (bif Nat.beq k 62 then (.aload_n 0, 63, 0, 0, []) else am_nop) else (bif Nat.blt k 64 then (bif Nat.beq k 63 then (.iload_n 2, 64, 2, 0, []) else am_nop) else (bif Nat.beq k 64 then (.invokevirtual 113, 67, 106, 0, [(0, 717)]) else am_nop))))))) else (bif Nat.blt k 104 then (bif Nat.blt k 85 then (bif Nat.blt k 78 then (bif Nat.blt k 73 then (bif Nat.blt k 70 then (bif Nat.beq k 67 then (.iinc 2 1, 70, 2, 0, [(1, 0)]) else am_nop) else (bif Nat.beq k 70 then (.goto (-35), 73, 35, 0, []) else am_nop)) else (bif Nat.blt k 74 then (bif Nat.beq k 73 then (.aload_n 0, 74, 0, 0, []) else am_nop) else (bif Nat.blt k 75 then (bif Nat.beq k 74 then (.iload_n 1, 75, 1, 0, []) else am_nop) else (bif Nat.beq k 75 then (.invokevirtual 113, 78, 106, 0, [(0, 717)]) else am_nop)))) else (bif Nat.blt k 80 then (bif Nat.blt k 79 then (bif Nat.beq k 78 then (.aload_n 0, 79, 0, 0, []) else am_nop) else (bif Nat.beq k 79 then (.aload_n 0, 80, 0, 0, []) else am_nop)) else (bif Nat.blt k 83 then (bif Nat.beq k 80 then (.getfield 29, 83, 7, 9, [(0, 571)]) else am_nop) else (bif Nat.blt k 84 then (bif Nat.beq k 83 then (.iconst 4, 84, 0, 0, [(4, 0)]) else am_nop) else (bif Nat.beq k 84 then (.iload_n 1, 85, 1, 0, []) else am_nop))))) else (bif Nat.blt k 94 then (bif Nat.blt k 87 then (bif Nat.blt k 86 then (bif Nat.beq k 85 then (.imul, 86, 0, 0, []) else am_nop) else (bif Nat.beq k 86 then (.iaload, 87, 0, 0, []) else am_nop)) else (bif Nat.blt k 90 then (bif Nat.beq k 87 then (.invokevirtual 117, 90, 107, 0, [(0, 721)]) else am_nop) else (bif Nat.blt k 93 then (bif Nat.beq k 90 then (.ifCond .eq 35, 93, 125, 0, []) else am_nop) else (bif Nat.beq k 93 then (.aload_n 0, 94, 0, 0, []) else am_nop)))) else (bif Nat.blt k 98 then (bif Nat.blt k 97 then (bif Nat.beq k 94 then (.getfield 26, 97, 7, 8, [(0, 570)]) else am_nop) else (bif Nat.beq k 97 then (.iload_n 1, 98, 1, 0, []) else am_nop)) else (bif Nat.blt k 99 then (bif Nat.beq k 98 then (.iaload, 99, 0, 0, []) else am_nop) else (bif Nat.blt k 101 then (bif Nat.beq k 99 then (.bipush 7, 101, 0, 0, [(7, 0)]) else am_nop) else (bif Nat.beq k 101 then (.if_icmp .ne 20, 104, 121, 0, []) else am_nop)))))) else (bif Nat.blt k 118 then (bif Nat.blt k 111 then (bif Nat.blt k 106 then (bif Nat.blt k 105 then (bif Nat.beq k 104 then (.aload_n 0, 105, 0, 0, []) else am_nop) else (bif Nat.beq k 105 then (.aload_n 0, 106, 0, 0, []) else am_nop)) else (bif Nat.blt k 109 then (bif Nat.beq k 106 then (.getfield 29, 109, 7, 9, [(0, 571)]) else am_nop) else (bif Nat.blt k 110 then (bif Nat.beq k 109 then (.iconst 4, 110, 0, 0, [(4, 0)]) else am_nop) else (bif Nat.beq k 110 then (.iload_n 1, 111, 1, 0, []) else am_nop)))) else (bif Nat.blt k 113 then (bif Nat.blt k 112 then (bif Nat.beq k 111 then (.imul, 112, 0, 0, []) else am_nop) else (bif Nat.beq k 112 then (.iconst 1, 113, 0, 0, [(1, 0)]) else am_nop)) else (bif Nat.blt k 114 then (bif Nat.beq k 113 then (.iadd, 114, 0, 0, []) else am_nop) else (bif Nat.blt k 115 then (bif Nat.beq k 114 then (.iaload, 115, 0, 0, []) else am_nop) else (bif Nat.beq k 115 then (.invokevirtual 117, 118, 107, 0, [(0, 721)]) else am_nop))))) else (bif Nat.blt k 127 then (bif Nat.blt k 122 then (bif Nat.blt k 121 then (bif Nat.beq k 118 then (.ifCond .eq 7, 121, 125, 0, []) else am_nop) else (bif Nat.beq k 121 then (.iconst 1, 122, 0, 0, [(1, 0)]) else am_nop)) else (bif Nat.blt k 125 then (bif Nat.beq k 122 then (.goto 4, 125, 126, 0, []) else am_nop) else (bif Nat.blt k 126 then (bif Nat.beq k 125 then (.iconst 0, 126, 0, 0, [(0, 0)]) else am_nop) else (bif Nat.beq k 126 then (.istore_n 2, 127, 2, 0, []) else am_nop)))) else (bif Nat.blt k 132 then (bif Nat.blt k 128 then (bif Nat.beq k 127 then (.iload_n 2, 128, 2, 0, []) else am_nop) else (bif Nat.blt k 131 then (bif Nat.beq k 128 then (.ifCond .eq 7, 131, 135, 0, []) else am_nop) else (bif Nat.beq k 131 then (.iconst 0, 132, 0, 0, [(0, 0)]) else am_nop))) else (bif Nat.blt k 135 then (bif Nat.beq k 132 then (.goto 4, 135, 136, 0, []) else am_nop) else (bif Nat.blt k 136 then (bif Nat.beq k 135 then (.iconst 1, 136, 0, 0, [(1, 0)]) else am_nop) else (bif Nat.beq k 136 then (.ireturn, 137, 0, 0, []) else am_nop)))))))
/-- DeedDeskModel.suspects()I -/
def am_c117 (k : Nat) : am_E := bif Nat.blt k 2 then (bif Nat.blt k 1 then (bif Nat.beq k 0 then (.aload_n 0, 1, 0, 0, []) else am_nop) else (bif Nat.beq k 1 then (.aload_n 0, 2, 0, 0, []) else am_nop)) else (bif Nat.blt k 5 then (bif Nat.beq k 2 then (.invokevirtual 130, 5, 112, 0, [(0, 733)]) else am_nop) else (bif Nat.blt k 8 then (bif Nat.beq k 5 then (.invokevirtual 134, 8, 114, 0, [(0, 737)]) else am_nop) else (bif Nat.beq k 8 then (.ireturn, 9, 0, 0, []) else am_nop)))
/-- DeedDeskModel.with(I)I -/
def am_c118 (k : Nat) : am_E := bif Nat.blt k 22 then (bif Nat.blt k 12 then (bif Nat.blt k 8 then (bif Nat.blt k 2 then (bif Nat.blt k 1 then (bif Nat.beq k 0 then (.aload_n 0, 1, 0, 0, []) else am_nop) else (bif Nat.beq k 1 then (.iload_n 1, 2, 1, 0, []) else am_nop)) else (bif Nat.blt k 5 then (bif Nat.beq k 2 then (.invokevirtual 80, 5, 87, 0, [(0, 670)]) else am_nop) else (bif Nat.beq k 5 then (.ifCond .ne 5, 8, 10, 0, []) else am_nop))) else (bif Nat.blt k 10 then (bif Nat.blt k 9 then (bif Nat.beq k 8 then (.iconst (-1), 9, 0, 0, [(-1, 0)]) else am_nop) else (bif Nat.beq k 9 then (.ireturn, 10, 0, 0, []) else am_nop)) else (bif Nat.blt k 11 then (bif Nat.beq k 10 then (.iconst 0, 11, 0, 0, [(0, 0)]) else am_nop) else (bif Nat.beq k 11 then (.istore_n 2, 12, 2, 0, []) else am_nop)))) else (bif Nat.blt k 16 then (bif Nat.blt k 14 then (bif Nat.blt k 13 then (bif Nat.beq k 12 then (.iconst 0, 13, 0, 0, [(0, 0)]) else am_nop) else (bif Nat.beq k 13 then (.istore_n 3, 14, 3, 0, []) else am_nop)) else (bif Nat.blt k 15 then (bif Nat.beq k 14 then (.iload_n 3, 15, 3, 0, []) else am_nop) else (bif Nat.beq k 15 then (.iconst 3, 16, 0, 0, [(3, 0)]) else am_nop))) else (bif Nat.blt k 20 then (bif Nat.blt k 19 then (bif Nat.beq k 16 then (.if_icmp .ge 32, 19, 48, 0, []) else am_nop) else (bif Nat.beq k 19 then (.iload_n 2, 20, 2, 0, []) else am_nop)) else (bif Nat.blt k 21 then (bif Nat.beq k 20 then (.aload_n 0, 21, 0, 0, []) else am_nop) else (bif Nat.beq k 21 then (.iload_n 1, 22, 1, 0, []) else am_nop))))) else (bif Nat.blt k 36 then (bif Nat.blt k 30 then (bif Nat.blt k 24 then (bif Nat.blt k 23 then (bif Nat.beq k 22 then (.iload_n 3, 23, 3, 0, []) else am_nop) else (bif Nat.beq k 23 then (.aload_n 0, 24, 0, 0, []) else am_nop)) else (bif Nat.blt k 27 then (bif Nat.beq k 24 then (.invokevirtual 130, 27, 112, 0, [(0, 733)]) else am_nop) else (bif Nat.beq k 27 then (.invokevirtual 123, 30, 111, 0, [(0, 745)]) else am_nop))) else (bif Nat.blt k 34 then (bif Nat.blt k 33 then (bif Nat.beq k 30 then (.ifCond .eq 9, 33, 39, 0, []) else am_nop) else (bif Nat.beq k 33 then (.iconst 1, 34, 0, 0, [(1, 0)]) else am_nop)) else (bif Nat.blt k 35 then (bif Nat.beq k 34 then (.iload_n 3, 35, 3, 0, []) else am_nop) else (bif Nat.beq k 35 then (.ishl, 36, 0, 0, []) else am_nop)))) else (bif Nat.blt k 42 then (bif Nat.blt k 40 then (bif Nat.blt k 39 then (bif Nat.beq k 36 then (.goto 4, 39, 40, 0, []) else am_nop) else (bif Nat.beq k 39 then (.iconst 0, 40, 0, 0, [(0, 0)]) else am_nop)) else (bif Nat.blt k 41 then (bif Nat.beq k 40 then (.ior, 41, 0, 0, []) else am_nop) else (bif Nat.beq k 41 then (.istore_n 2, 42, 2, 0, []) else am_nop))) else (bif Nat.blt k 48 then (bif Nat.blt k 45 then (bif Nat.beq k 42 then (.iinc 3 1, 45, 3, 0, [(1, 0)]) else am_nop) else (bif Nat.beq k 45 then (.goto (-31), 48, 14, 0, []) else am_nop)) else (bif Nat.blt k 49 then (bif Nat.beq k 48 then (.iload_n 2, 49, 2, 0, []) else am_nop) else (bif Nat.beq k 49 then (.ireturn, 50, 0, 0, []) else am_nop)))))
/-- DeedDeskModel.first(I)I -/
def am_c119 (k : Nat) : am_E := bif Nat.blt k 6 then (bif Nat.blt k 3 then (bif Nat.blt k 1 then (bif Nat.beq k 0 then (.iconst 0, 1, 0, 0, [(0, 0)]) else am_nop) else (bif Nat.blt k 2 then (bif Nat.beq k 1 then (.istore_n 1, 2, 1, 0, []) else am_nop) else (bif Nat.beq k 2 then (.iload_n 0, 3, 0, 0, []) else am_nop))) else (bif Nat.blt k 4 then (bif Nat.beq k 3 then (.iload_n 1, 4, 1, 0, []) else am_nop) else (bif Nat.blt k 5 then (bif Nat.beq k 4 then (.ishr, 5, 0, 0, []) else am_nop) else (bif Nat.beq k 5 then (.iconst 1, 6, 0, 0, [(1, 0)]) else am_nop)))) else (bif Nat.blt k 13 then (bif Nat.blt k 7 then (bif Nat.beq k 6 then (.iand, 7, 0, 0, []) else am_nop) else (bif Nat.blt k 10 then (bif Nat.beq k 7 then (.ifCond .ne 9, 10, 16, 0, []) else am_nop) else (bif Nat.beq k 10 then (.iinc 1 1, 13, 1, 0, [(1, 0)]) else am_nop))) else (bif Nat.blt k 16 then (bif Nat.beq k 13 then (.goto (-11), 16, 2, 0, []) else am_nop) else (bif Nat.blt k 17 then (bif Nat.beq k 16 then (.iload_n 1, 17, 1, 0, []) else am_nop) else (bif Nat.beq k 17 then (.ireturn, 18, 0, 0, []) else am_nop))))
/-- DeedDeskModel.way(III)I -/
def am_c120 (k : Nat) : am_E := bif Nat.blt k 69 then (bif Nat.blt k 30 then (bif Nat.blt k 17 then (bif Nat.blt k 8 then (bif Nat.blt k 2 then (bif Nat.blt k 1 then (bif Nat.beq k 0 then (.aload_n 0, 1, 0, 0, []) else am_nop) else (bif Nat.beq k 1 then (.iload_n 1, 2, 1, 0, []) else am_nop)) else (bif Nat.blt k 5 then (bif Nat.beq k 2 then (.invokevirtual 80, 5, 87, 0, [(0, 670)]) else am_nop) else (bif Nat.beq k 5 then (.ifCond .eq 19, 8, 24, 0, []) else am_nop))) else (bif Nat.blt k 10 then (bif Nat.blt k 9 then (bif Nat.beq k 8 then (.iload_n 2, 9, 2, 0, []) else am_nop) else (bif Nat.beq k 9 then (.iconst 0, 10, 0, 0, [(0, 0)]) else am_nop)) else (bif Nat.blt k 11 then (bif Nat.beq k 10 then (.iconst 2, 11, 0, 0, [(2, 0)]) else am_nop) else (bif Nat.blt k 14 then (bif Nat.beq k 11 then (.invokestatic 56, 14, 83, 0, [(0, 633)]) else am_nop) else (bif Nat.beq k 14 then (.ifCond .eq 10, 17, 24, 0, []) else am_nop))))) else (bif Nat.blt k 25 then (bif Nat.blt k 21 then (bif Nat.blt k 18 then (bif Nat.beq k 17 then (.iload_n 3, 18, 3, 0, []) else am_nop) else (bif Nat.beq k 18 then (.invokestatic 74, 21, 86, 0, [(0, 655)]) else am_nop)) else (bif Nat.blt k 24 then (bif Nat.beq k 21 then (.ifCond .ne 5, 24, 26, 0, []) else am_nop) else (bif Nat.beq k 24 then (.iconst (-1), 25, 0, 0, [(-1, 0)]) else am_nop))) else (bif Nat.blt k 27 then (bif Nat.blt k 26 then (bif Nat.beq k 25 then (.ireturn, 26, 0, 0, []) else am_nop) else (bif Nat.beq k 26 then (.aload_n 0, 27, 0, 0, []) else am_nop)) else (bif Nat.blt k 28 then (bif Nat.beq k 27 then (.iload_n 1, 28, 1, 0, []) else am_nop) else (bif Nat.blt k 29 then (bif Nat.beq k 28 then (.iload_n 2, 29, 2, 0, []) else am_nop) else (bif Nat.beq k 29 then (.aload_n 0, 30, 0, 0, []) else am_nop)))))) else (bif Nat.blt k 50 then (bif Nat.blt k 41 then (bif Nat.blt k 36 then (bif Nat.blt k 33 then (bif Nat.beq k 30 then (.invokevirtual 130, 33, 112, 0, [(0, 733)]) else am_nop) else (bif Nat.beq k 33 then (.invokevirtual 123, 36, 111, 0, [(0, 745)]) else am_nop)) else (bif Nat.blt k 39 then (bif Nat.beq k 36 then (.ifCond .ne 6, 39, 42, 0, []) else am_nop) else (bif Nat.beq k 39 then (.bipush (-4), 41, 0, 0, [(-4, 0)]) else am_nop))) else (bif Nat.blt k 43 then (bif Nat.blt k 42 then (bif Nat.beq k 41 then (.ireturn, 42, 0, 0, []) else am_nop) else (bif Nat.beq k 42 then (.iconst 0, 43, 0, 0, [(0, 0)]) else am_nop)) else (bif Nat.blt k 45 then (bif Nat.beq k 43 then (.istore 4, 45, 4, 0, []) else am_nop) else (bif Nat.blt k 48 then (bif Nat.beq k 45 then (.sipush 255, 48, 0, 0, [(255, 0)]) else am_nop) else (bif Nat.beq k 48 then (.istore 5, 50, 5, 0, []) else am_nop))))) else (bif Nat.blt k 58 then (bif Nat.blt k 53 then (bif Nat.blt k 51 then (bif Nat.beq k 50 then (.iconst 0, 51, 0, 0, [(0, 0)]) else am_nop) else (bif Nat.beq k 51 then (.istore 6, 53, 6, 0, []) else am_nop)) else (bif Nat.blt k 54 then (bif Nat.beq k 53 then (.iconst 0, 54, 0, 0, [(0, 0)]) else am_nop) else (bif Nat.blt k 56 then (bif Nat.beq k 54 then (.istore 7, 56, 7, 0, []) else am_nop) else (bif Nat.beq k 56 then (.iload 7, 58, 7, 0, []) else am_nop)))) else (bif Nat.blt k 62 then (bif Nat.blt k 59 then (bif Nat.beq k 58 then (.iload_n 3, 59, 3, 0, []) else am_nop) else (bif Nat.beq k 59 then (.if_icmp .gt 80, 62, 139, 0, []) else am_nop)) else (bif Nat.blt k 64 then (bif Nat.beq k 62 then (.iload 5, 64, 5, 0, []) else am_nop) else (bif Nat.blt k 66 then (bif Nat.beq k 64 then (.iload 4, 66, 4, 0, []) else am_nop) else (bif Nat.beq k 66 then (.ifCond .eq 13, 69, 79, 0, []) else am_nop))))))) else (bif Nat.blt k 106 then (bif Nat.blt k 86 then (bif Nat.blt k 76 then (bif Nat.blt k 73 then (bif Nat.blt k 70 then (bif Nat.beq k 69 then (.aload_n 0, 70, 0, 0, []) else am_nop) else (bif Nat.beq k 70 then (.getfield 47, 73, 7, 18, [(0, 580)]) else am_nop)) else (bif Nat.blt k 75 then (bif Nat.beq k 73 then (.iload 7, 75, 7, 0, []) else am_nop) else (bif Nat.beq k 75 then (.iaload, 76, 0, 0, []) else am_nop))) else (bif Nat.blt k 80 then (bif Nat.blt k 79 then (bif Nat.beq k 76 then (.goto 10, 79, 86, 0, []) else am_nop) else (bif Nat.beq k 79 then (.aload_n 0, 80, 0, 0, []) else am_nop)) else (bif Nat.blt k 83 then (bif Nat.beq k 80 then (.getfield 50, 83, 7, 19, [(0, 581)]) else am_nop) else (bif Nat.blt k 85 then (bif Nat.beq k 83 then (.iload 7, 85, 7, 0, []) else am_nop) else (bif Nat.beq k 85 then (.iaload, 86, 0, 0, []) else am_nop))))) else (bif Nat.blt k 94 then (bif Nat.blt k 90 then (bif Nat.blt k 87 then (bif Nat.beq k 86 then (.iand, 87, 0, 0, []) else am_nop) else (bif Nat.beq k 87 then (.invokestatic 137, 90, 119, 0, [(0, 765)]) else am_nop)) else (bif Nat.blt k 92 then (bif Nat.beq k 90 then (.istore 6, 92, 6, 0, []) else am_nop) else (bif Nat.beq k 92 then (.iload 4, 94, 4, 0, []) else am_nop))) else (bif Nat.blt k 98 then (bif Nat.blt k 97 then (bif Nat.beq k 94 then (.ifCond .ne 23, 97, 117, 0, []) else am_nop) else (bif Nat.beq k 97 then (.aload_n 0, 98, 0, 0, []) else am_nop)) else (bif Nat.blt k 100 then (bif Nat.beq k 98 then (.iload 7, 100, 7, 0, []) else am_nop) else (bif Nat.blt k 103 then (bif Nat.beq k 100 then (.invokevirtual 107, 103, 109, 0, [(0, 753)]) else am_nop) else (bif Nat.beq k 103 then (.ifCond .eq 18, 106, 121, 0, []) else am_nop)))))) else (bif Nat.blt k 122 then (bif Nat.blt k 112 then (bif Nat.blt k 110 then (bif Nat.blt k 107 then (bif Nat.beq k 106 then (.aload_n 0, 107, 0, 0, []) else am_nop) else (bif Nat.beq k 107 then (.getfield 17, 110, 7, 3, [(0, 565)]) else am_nop)) else (bif Nat.blt k 111 then (bif Nat.beq k 110 then (.iload_n 2, 111, 2, 0, []) else am_nop) else (bif Nat.beq k 111 then (.iaload, 112, 0, 0, []) else am_nop))) else (bif Nat.blt k 117 then (bif Nat.blt k 114 then (bif Nat.beq k 112 then (.iload 6, 114, 6, 0, []) else am_nop) else (bif Nat.beq k 114 then (.if_icmp .ne 7, 117, 121, 0, []) else am_nop)) else (bif Nat.blt k 118 then (bif Nat.beq k 117 then (.iconst 1, 118, 0, 0, [(1, 0)]) else am_nop) else (bif Nat.blt k 121 then (bif Nat.beq k 118 then (.goto 4, 121, 122, 0, []) else am_nop) else (bif Nat.beq k 121 then (.iconst 0, 122, 0, 0, [(0, 0)]) else am_nop))))) else (bif Nat.blt k 131 then (bif Nat.blt k 125 then (bif Nat.blt k 124 then (bif Nat.beq k 122 then (.istore 4, 124, 4, 0, []) else am_nop) else (bif Nat.beq k 124 then (.aload_n 0, 125, 0, 0, []) else am_nop)) else (bif Nat.blt k 128 then (bif Nat.beq k 125 then (.getfield 13, 128, 7, 2, [(0, 564)]) else am_nop) else (bif Nat.blt k 130 then (bif Nat.beq k 128 then (.iload 6, 130, 6, 0, []) else am_nop) else (bif Nat.beq k 130 then (.iaload, 131, 0, 0, []) else am_nop)))) else (bif Nat.blt k 136 then (bif Nat.blt k 133 then (bif Nat.beq k 131 then (.istore 5, 133, 5, 0, []) else am_nop) else (bif Nat.beq k 133 then (.iinc 7 1, 136, 7, 0, [(1, 0)]) else am_nop)) else (bif Nat.blt k 139 then (bif Nat.beq k 136 then (.goto (-80), 139, 56, 0, []) else am_nop) else (bif Nat.blt k 141 then (bif Nat.beq k 139 then (.iload 6, 141, 6, 0, []) else am_nop) else (bif Nat.beq k 141 then (.ireturn, 142, 0, 0, []) else am_nop)))))))
/-- DeedDeskModel.only(I)I -/
def am_c121 (k : Nat) : am_E := bif Nat.blt k 8 then (bif Nat.blt k 4 then (bif Nat.blt k 1 then (bif Nat.beq k 0 then (.iload_n 0, 1, 0, 0, []) else am_nop) else (bif Nat.beq k 1 then (.invokestatic 140, 4, 115, 0, [(0, 776)]) else am_nop)) else (bif Nat.blt k 5 then (bif Nat.beq k 4 then (.iconst 1, 5, 0, 0, [(1, 0)]) else am_nop) else (bif Nat.beq k 5 then (.if_icmp .ne 10, 8, 15, 0, []) else am_nop))) else (bif Nat.blt k 12 then (bif Nat.blt k 9 then (bif Nat.beq k 8 then (.iload_n 0, 9, 0, 0, []) else am_nop) else (bif Nat.beq k 9 then (.invokestatic 137, 12, 119, 0, [(0, 765)]) else am_nop)) else (bif Nat.blt k 15 then (bif Nat.beq k 12 then (.goto 5, 15, 17, 0, []) else am_nop) else (bif Nat.blt k 17 then (bif Nat.beq k 15 then (.bipush (-4), 17, 0, 0, [(-4, 0)]) else am_nop) else (bif Nat.beq k 17 then (.ireturn, 18, 0, 0, []) else am_nop))))
/-- DeedDeskModel.doer()I -/
def am_c122 (k : Nat) : am_E := bif Nat.blt k 4 then (bif Nat.blt k 1 then (bif Nat.beq k 0 then (.aload_n 0, 1, 0, 0, []) else am_nop) else (bif Nat.beq k 1 then (.invokevirtual 143, 4, 117, 0, [(0, 772)]) else am_nop)) else (bif Nat.blt k 7 then (bif Nat.beq k 4 then (.invokestatic 146, 7, 121, 0, [(0, 773)]) else am_nop) else (bif Nat.beq k 7 then (.ireturn, 8, 0, 0, []) else am_nop))
/-- DeedDeskModel.next()I -/
def am_c123 (k : Nat) : am_E := bif Nat.blt k 35 then (bif Nat.blt k 16 then (bif Nat.blt k 8 then (bif Nat.blt k 4 then (bif Nat.blt k 1 then (bif Nat.beq k 0 then (.aload_n 0, 1, 0, 0, []) else am_nop) else (bif Nat.beq k 1 then (.invokevirtual 130, 4, 112, 0, [(0, 733)]) else am_nop)) else (bif Nat.blt k 5 then (bif Nat.beq k 4 then (.istore_n 1, 5, 1, 0, []) else am_nop) else (bif Nat.blt k 7 then (bif Nat.beq k 5 then (.bipush (-4), 7, 0, 0, [(-4, 0)]) else am_nop) else (bif Nat.beq k 7 then (.istore_n 2, 8, 2, 0, []) else am_nop)))) else (bif Nat.blt k 11 then (bif Nat.blt k 10 then (bif Nat.beq k 8 then (.bipush 99, 10, 0, 0, [(99, 0)]) else am_nop) else (bif Nat.beq k 10 then (.istore_n 3, 11, 3, 0, []) else am_nop)) else (bif Nat.blt k 12 then (bif Nat.beq k 11 then (.iconst 0, 12, 0, 0, [(0, 0)]) else am_nop) else (bif Nat.blt k 14 then (bif Nat.beq k 12 then (.istore 4, 14, 4, 0, []) else am_nop) else (bif Nat.beq k 14 then (.iload 4, 16, 4, 0, []) else am_nop))))) else (bif Nat.blt k 27 then (bif Nat.blt k 20 then (bif Nat.blt k 17 then (bif Nat.beq k 16 then (.aload_n 0, 17, 0, 0, []) else am_nop) else (bif Nat.beq k 17 then (.getfield 60, 20, 7, 7, [(0, 569)]) else am_nop)) else (bif Nat.blt k 23 then (bif Nat.beq k 20 then (.if_icmp .ge 51, 23, 71, 0, []) else am_nop) else (bif Nat.blt k 24 then (bif Nat.beq k 23 then (.aload_n 0, 24, 0, 0, []) else am_nop) else (bif Nat.beq k 24 then (.getfield 32, 27, 7, 10, [(0, 572)]) else am_nop)))) else (bif Nat.blt k 30 then (bif Nat.blt k 29 then (bif Nat.beq k 27 then (.iload 4, 29, 4, 0, []) else am_nop) else (bif Nat.beq k 29 then (.iaload, 30, 0, 0, []) else am_nop)) else (bif Nat.blt k 33 then (bif Nat.beq k 30 then (.ifCond .ne 35, 33, 65, 0, []) else am_nop) else (bif Nat.blt k 34 then (bif Nat.beq k 33 then (.aload_n 0, 34, 0, 0, []) else am_nop) else (bif Nat.beq k 34 then (.iload_n 1, 35, 1, 0, []) else am_nop)))))) else (bif Nat.blt k 55 then (bif Nat.blt k 43 then (bif Nat.blt k 38 then (bif Nat.blt k 36 then (bif Nat.beq k 35 then (.iconst 1, 36, 0, 0, [(1, 0)]) else am_nop) else (bif Nat.beq k 36 then (.iload 4, 38, 4, 0, []) else am_nop)) else (bif Nat.blt k 39 then (bif Nat.beq k 38 then (.ishl, 39, 0, 0, []) else am_nop) else (bif Nat.blt k 40 then (bif Nat.beq k 39 then (.ior, 40, 0, 0, []) else am_nop) else (bif Nat.beq k 40 then (.invokevirtual 134, 43, 114, 0, [(0, 737)]) else am_nop)))) else (bif Nat.blt k 48 then (bif Nat.blt k 46 then (bif Nat.beq k 43 then (.invokestatic 140, 46, 115, 0, [(0, 776)]) else am_nop) else (bif Nat.beq k 46 then (.istore 5, 48, 5, 0, []) else am_nop)) else (bif Nat.blt k 50 then (bif Nat.beq k 48 then (.iload 5, 50, 5, 0, []) else am_nop) else (bif Nat.blt k 53 then (bif Nat.beq k 50 then (.ifCond .le 15, 53, 65, 0, []) else am_nop) else (bif Nat.beq k 53 then (.iload 5, 55, 5, 0, []) else am_nop))))) else (bif Nat.blt k 64 then (bif Nat.blt k 59 then (bif Nat.blt k 56 then (bif Nat.beq k 55 then (.iload_n 3, 56, 3, 0, []) else am_nop) else (bif Nat.beq k 56 then (.if_icmp .ge 9, 59, 65, 0, []) else am_nop)) else (bif Nat.blt k 61 then (bif Nat.beq k 59 then (.iload 5, 61, 5, 0, []) else am_nop) else (bif Nat.blt k 62 then (bif Nat.beq k 61 then (.istore_n 3, 62, 3, 0, []) else am_nop) else (bif Nat.beq k 62 then (.iload 4, 64, 4, 0, []) else am_nop)))) else (bif Nat.blt k 68 then (bif Nat.blt k 65 then (bif Nat.beq k 64 then (.istore_n 2, 65, 2, 0, []) else am_nop) else (bif Nat.beq k 65 then (.iinc 4 1, 68, 4, 0, [(1, 0)]) else am_nop)) else (bif Nat.blt k 71 then (bif Nat.beq k 68 then (.goto (-54), 71, 14, 0, []) else am_nop) else (bif Nat.blt k 72 then (bif Nat.beq k 71 then (.iload_n 2, 72, 2, 0, []) else am_nop) else (bif Nat.beq k 72 then (.ireturn, 73, 0, 0, []) else am_nop))))))
/-- DeedDeskModel.leastSet()I -/
def am_c124 (k : Nat) : am_E := bif Nat.blt k 31 then (bif Nat.blt k 15 then (bif Nat.blt k 9 then (bif Nat.blt k 4 then (bif Nat.blt k 1 then (bif Nat.beq k 0 then (.aload_n 0, 1, 0, 0, []) else am_nop) else (bif Nat.beq k 1 then (.getfield 60, 4, 7, 7, [(0, 569)]) else am_nop)) else (bif Nat.blt k 6 then (bif Nat.beq k 4 then (.bipush 12, 6, 0, 0, [(12, 0)]) else am_nop) else (bif Nat.beq k 6 then (.if_icmp .le 6, 9, 12, 0, []) else am_nop))) else (bif Nat.blt k 12 then (bif Nat.blt k 11 then (bif Nat.beq k 9 then (.bipush (-3), 11, 0, 0, [(-3, 0)]) else am_nop) else (bif Nat.beq k 11 then (.ireturn, 12, 0, 0, []) else am_nop)) else (bif Nat.blt k 13 then (bif Nat.beq k 12 then (.iconst 0, 13, 0, 0, [(0, 0)]) else am_nop) else (bif Nat.blt k 14 then (bif Nat.beq k 13 then (.istore_n 1, 14, 1, 0, []) else am_nop) else (bif Nat.beq k 14 then (.iload_n 1, 15, 1, 0, []) else am_nop))))) else (bif Nat.blt k 24 then (bif Nat.blt k 19 then (bif Nat.blt k 16 then (bif Nat.beq k 15 then (.aload_n 0, 16, 0, 0, []) else am_nop) else (bif Nat.beq k 16 then (.getfield 60, 19, 7, 7, [(0, 569)]) else am_nop)) else (bif Nat.blt k 22 then (bif Nat.beq k 19 then (.if_icmp .gt 50, 22, 69, 0, []) else am_nop) else (bif Nat.blt k 23 then (bif Nat.beq k 22 then (.iconst 0, 23, 0, 0, [(0, 0)]) else am_nop) else (bif Nat.beq k 23 then (.istore_n 2, 24, 2, 0, []) else am_nop)))) else (bif Nat.blt k 26 then (bif Nat.blt k 25 then (bif Nat.beq k 24 then (.iload_n 2, 25, 2, 0, []) else am_nop) else (bif Nat.beq k 25 then (.iconst 1, 26, 0, 0, [(1, 0)]) else am_nop)) else (bif Nat.blt k 27 then (bif Nat.beq k 26 then (.aload_n 0, 27, 0, 0, []) else am_nop) else (bif Nat.blt k 30 then (bif Nat.beq k 27 then (.getfield 60, 30, 7, 7, [(0, 569)]) else am_nop) else (bif Nat.beq k 30 then (.ishl, 31, 0, 0, []) else am_nop)))))) else (bif Nat.blt k 50 then (bif Nat.blt k 39 then (bif Nat.blt k 35 then (bif Nat.blt k 34 then (bif Nat.beq k 31 then (.if_icmp .ge 32, 34, 63, 0, []) else am_nop) else (bif Nat.beq k 34 then (.iload_n 2, 35, 2, 0, []) else am_nop)) else (bif Nat.blt k 38 then (bif Nat.beq k 35 then (.invokestatic 140, 38, 115, 0, [(0, 776)]) else am_nop) else (bif Nat.beq k 38 then (.iload_n 1, 39, 1, 0, []) else am_nop))) else (bif Nat.blt k 43 then (bif Nat.blt k 42 then (bif Nat.beq k 39 then (.if_icmp .ne 18, 42, 57, 0, []) else am_nop) else (bif Nat.beq k 42 then (.aload_n 0, 43, 0, 0, []) else am_nop)) else (bif Nat.blt k 44 then (bif Nat.beq k 43 then (.iload_n 2, 44, 2, 0, []) else am_nop) else (bif Nat.blt k 47 then (bif Nat.beq k 44 then (.invokevirtual 134, 47, 114, 0, [(0, 737)]) else am_nop) else (bif Nat.beq k 47 then (.invokestatic 146, 50, 121, 0, [(0, 773)]) else am_nop))))) else (bif Nat.blt k 60 then (bif Nat.blt k 55 then (bif Nat.blt k 52 then (bif Nat.beq k 50 then (.bipush (-4), 52, 0, 0, [(-4, 0)]) else am_nop) else (bif Nat.beq k 52 then (.if_icmp .eq 5, 55, 57, 0, []) else am_nop)) else (bif Nat.blt k 56 then (bif Nat.beq k 55 then (.iload_n 2, 56, 2, 0, []) else am_nop) else (bif Nat.blt k 57 then (bif Nat.beq k 56 then (.ireturn, 57, 0, 0, []) else am_nop) else (bif Nat.beq k 57 then (.iinc 2 1, 60, 2, 0, [(1, 0)]) else am_nop)))) else (bif Nat.blt k 66 then (bif Nat.blt k 63 then (bif Nat.beq k 60 then (.goto (-36), 63, 24, 0, []) else am_nop) else (bif Nat.beq k 63 then (.iinc 1 1, 66, 1, 0, [(1, 0)]) else am_nop)) else (bif Nat.blt k 69 then (bif Nat.beq k 66 then (.goto (-52), 69, 14, 0, []) else am_nop) else (bif Nat.blt k 71 then (bif Nat.beq k 69 then (.bipush (-4), 71, 0, 0, [(-4, 0)]) else am_nop) else (bif Nat.beq k 71 then (.ireturn, 72, 0, 0, []) else am_nop))))))
/-- DeedDeskModel.fewest()I -/
def am_c125 (k : Nat) : am_E := bif Nat.blt k 9 then (bif Nat.blt k 4 then (bif Nat.blt k 1 then (bif Nat.beq k 0 then (.aload_n 0, 1, 0, 0, []) else am_nop) else (bif Nat.beq k 1 then (.invokevirtual 149, 4, 124, 0, [(0, 787)]) else am_nop)) else (bif Nat.blt k 5 then (bif Nat.beq k 4 then (.istore_n 1, 5, 1, 0, []) else am_nop) else (bif Nat.blt k 6 then (bif Nat.beq k 5 then (.iload_n 1, 6, 1, 0, []) else am_nop) else (bif Nat.beq k 6 then (.ifCond .ge 7, 9, 13, 0, []) else am_nop)))) else (bif Nat.blt k 13 then (bif Nat.blt k 10 then (bif Nat.beq k 9 then (.iload_n 1, 10, 1, 0, []) else am_nop) else (bif Nat.beq k 10 then (.goto 7, 13, 17, 0, []) else am_nop)) else (bif Nat.blt k 14 then (bif Nat.beq k 13 then (.iload_n 1, 14, 1, 0, []) else am_nop) else (bif Nat.blt k 17 then (bif Nat.beq k 14 then (.invokestatic 140, 17, 115, 0, [(0, 776)]) else am_nop) else (bif Nat.beq k 17 then (.ireturn, 18, 0, 0, []) else am_nop))))
/-- DeedDeskModel.least()I -/
def am_c126 (k : Nat) : am_E := bif Nat.blt k 1 then (bif Nat.beq k 0 then (.aload_n 0, 1, 0, 0, []) else am_nop) else (bif Nat.blt k 4 then (bif Nat.beq k 1 then (.invokevirtual 149, 4, 124, 0, [(0, 787)]) else am_nop) else (bif Nat.beq k 4 then (.ireturn, 5, 0, 0, []) else am_nop))
/-- DeedDeskModel.claim(I)I -/
def am_c127 (k : Nat) : am_E := bif Nat.blt k 61 then (bif Nat.blt k 26 then (bif Nat.blt k 12 then (bif Nat.blt k 8 then (bif Nat.blt k 2 then (bif Nat.blt k 1 then (bif Nat.beq k 0 then (.aload_n 0, 1, 0, 0, []) else am_nop) else (bif Nat.beq k 1 then (.iload_n 1, 2, 1, 0, []) else am_nop)) else (bif Nat.blt k 5 then (bif Nat.beq k 2 then (.invokevirtual 80, 5, 87, 0, [(0, 670)]) else am_nop) else (bif Nat.beq k 5 then (.ifCond .ne 5, 8, 10, 0, []) else am_nop))) else (bif Nat.blt k 10 then (bif Nat.blt k 9 then (bif Nat.beq k 8 then (.iconst (-1), 9, 0, 0, [(-1, 0)]) else am_nop) else (bif Nat.beq k 9 then (.ireturn, 10, 0, 0, []) else am_nop)) else (bif Nat.blt k 11 then (bif Nat.beq k 10 then (.aload_n 0, 11, 0, 0, []) else am_nop) else (bif Nat.beq k 11 then (.iload_n 1, 12, 1, 0, []) else am_nop)))) else (bif Nat.blt k 21 then (bif Nat.blt k 16 then (bif Nat.blt k 13 then (bif Nat.beq k 12 then (.iconst 0, 13, 0, 0, [(0, 0)]) else am_nop) else (bif Nat.beq k 13 then (.invokevirtual 126, 16, 113, 0, [(0, 741)]) else am_nop)) else (bif Nat.blt k 19 then (bif Nat.beq k 16 then (.ifCond .ne 6, 19, 22, 0, []) else am_nop) else (bif Nat.beq k 19 then (.bipush (-4), 21, 0, 0, [(-4, 0)]) else am_nop))) else (bif Nat.blt k 23 then (bif Nat.blt k 22 then (bif Nat.beq k 21 then (.ireturn, 22, 0, 0, []) else am_nop) else (bif Nat.beq k 22 then (.iconst 0, 23, 0, 0, [(0, 0)]) else am_nop)) else (bif Nat.blt k 24 then (bif Nat.beq k 23 then (.istore_n 2, 24, 2, 0, []) else am_nop) else (bif Nat.blt k 25 then (bif Nat.beq k 24 then (.iconst 0, 25, 0, 0, [(0, 0)]) else am_nop) else (bif Nat.beq k 25 then (.istore_n 3, 26, 3, 0, []) else am_nop)))))) else (bif Nat.blt k 42 then (bif Nat.blt k 32 then (bif Nat.blt k 29 then (bif Nat.blt k 27 then (bif Nat.beq k 26 then (.iconst (-1), 27, 0, 0, [(-1, 0)]) else am_nop) else (bif Nat.beq k 27 then (.istore 4, 29, 4, 0, []) else am_nop)) else (bif Nat.blt k 30 then (bif Nat.beq k 29 then (.iconst 0, 30, 0, 0, [(0, 0)]) else am_nop) else (bif Nat.beq k 30 then (.istore 5, 32, 5, 0, []) else am_nop))) else (bif Nat.blt k 35 then (bif Nat.blt k 34 then (bif Nat.beq k 32 then (.iload 5, 34, 5, 0, []) else am_nop) else (bif Nat.beq k 34 then (.aload_n 0, 35, 0, 0, []) else am_nop)) else (bif Nat.blt k 38 then (bif Nat.beq k 35 then (.getfield 60, 38, 7, 7, [(0, 569)]) else am_nop) else (bif Nat.blt k 41 then (bif Nat.beq k 38 then (.if_icmp .ge 51, 41, 89, 0, []) else am_nop) else (bif Nat.beq k 41 then (.aload_n 0, 42, 0, 0, []) else am_nop))))) else (bif Nat.blt k 49 then (bif Nat.blt k 47 then (bif Nat.blt k 45 then (bif Nat.beq k 42 then (.getfield 32, 45, 7, 10, [(0, 572)]) else am_nop) else (bif Nat.beq k 45 then (.iload 5, 47, 5, 0, []) else am_nop)) else (bif Nat.blt k 48 then (bif Nat.beq k 47 then (.iaload, 48, 0, 0, []) else am_nop) else (bif Nat.beq k 48 then (.iload_n 3, 49, 3, 0, []) else am_nop))) else (bif Nat.blt k 54 then (bif Nat.blt k 52 then (bif Nat.beq k 49 then (.if_icmp .le 30, 52, 79, 0, []) else am_nop) else (bif Nat.beq k 52 then (.iload 4, 54, 4, 0, []) else am_nop)) else (bif Nat.blt k 57 then (bif Nat.beq k 54 then (.ifCond .lt 20, 57, 74, 0, []) else am_nop) else (bif Nat.blt k 58 then (bif Nat.beq k 57 then (.aload_n 0, 58, 0, 0, []) else am_nop) else (bif Nat.beq k 58 then (.getfield 32, 61, 7, 10, [(0, 572)]) else am_nop))))))) else (bif Nat.blt k 98 then (bif Nat.blt k 79 then (bif Nat.blt k 68 then (bif Nat.blt k 64 then (bif Nat.blt k 63 then (bif Nat.beq k 61 then (.iload 5, 63, 5, 0, []) else am_nop) else (bif Nat.beq k 63 then (.iaload, 64, 0, 0, []) else am_nop)) else (bif Nat.blt k 65 then (bif Nat.beq k 64 then (.aload_n 0, 65, 0, 0, []) else am_nop) else (bif Nat.beq k 65 then (.getfield 32, 68, 7, 10, [(0, 572)]) else am_nop))) else (bif Nat.blt k 71 then (bif Nat.blt k 70 then (bif Nat.beq k 68 then (.iload 4, 70, 4, 0, []) else am_nop) else (bif Nat.beq k 70 then (.iaload, 71, 0, 0, []) else am_nop)) else (bif Nat.blt k 74 then (bif Nat.beq k 71 then (.if_icmp .ge 8, 74, 79, 0, []) else am_nop) else (bif Nat.blt k 76 then (bif Nat.beq k 74 then (.iload 5, 76, 5, 0, []) else am_nop) else (bif Nat.beq k 76 then (.goto 5, 79, 81, 0, []) else am_nop))))) else (bif Nat.blt k 89 then (bif Nat.blt k 83 then (bif Nat.blt k 81 then (bif Nat.beq k 79 then (.iload 4, 81, 4, 0, []) else am_nop) else (bif Nat.beq k 81 then (.istore 4, 83, 4, 0, []) else am_nop)) else (bif Nat.blt k 86 then (bif Nat.beq k 83 then (.iinc 5 1, 86, 5, 0, [(1, 0)]) else am_nop) else (bif Nat.beq k 86 then (.goto (-54), 89, 32, 0, []) else am_nop))) else (bif Nat.blt k 94 then (bif Nat.blt k 91 then (bif Nat.beq k 89 then (.iload 4, 91, 4, 0, []) else am_nop) else (bif Nat.beq k 91 then (.ifCond .ge 6, 94, 97, 0, []) else am_nop)) else (bif Nat.blt k 96 then (bif Nat.beq k 94 then (.bipush (-2), 96, 0, 0, [(-2, 0)]) else am_nop) else (bif Nat.blt k 97 then (bif Nat.beq k 96 then (.ireturn, 97, 0, 0, []) else am_nop) else (bif Nat.beq k 97 then (.iload_n 2, 98, 2, 0, []) else am_nop)))))) else (bif Nat.blt k 111 then (bif Nat.blt k 103 then (bif Nat.blt k 101 then (bif Nat.blt k 99 then (bif Nat.beq k 98 then (.iconst 1, 99, 0, 0, [(1, 0)]) else am_nop) else (bif Nat.beq k 99 then (.iload 4, 101, 4, 0, []) else am_nop)) else (bif Nat.blt k 102 then (bif Nat.beq k 101 then (.ishl, 102, 0, 0, []) else am_nop) else (bif Nat.beq k 102 then (.ior, 103, 0, 0, []) else am_nop))) else (bif Nat.blt k 105 then (bif Nat.blt k 104 then (bif Nat.beq k 103 then (.istore_n 2, 104, 2, 0, []) else am_nop) else (bif Nat.beq k 104 then (.aload_n 0, 105, 0, 0, []) else am_nop)) else (bif Nat.blt k 108 then (bif Nat.beq k 105 then (.getfield 32, 108, 7, 10, [(0, 572)]) else am_nop) else (bif Nat.blt k 110 then (bif Nat.beq k 108 then (.iload 4, 110, 4, 0, []) else am_nop) else (bif Nat.beq k 110 then (.iaload, 111, 0, 0, []) else am_nop))))) else (bif Nat.blt k 115 then (bif Nat.blt k 113 then (bif Nat.blt k 112 then (bif Nat.beq k 111 then (.istore_n 3, 112, 3, 0, []) else am_nop) else (bif Nat.beq k 112 then (.aload_n 0, 113, 0, 0, []) else am_nop)) else (bif Nat.blt k 114 then (bif Nat.beq k 113 then (.iload_n 1, 114, 1, 0, []) else am_nop) else (bif Nat.beq k 114 then (.iload_n 2, 115, 2, 0, []) else am_nop))) else (bif Nat.blt k 121 then (bif Nat.blt k 118 then (bif Nat.beq k 115 then (.invokevirtual 126, 118, 113, 0, [(0, 741)]) else am_nop) else (bif Nat.beq k 118 then (.ifCond .ne 6, 121, 124, 0, []) else am_nop)) else (bif Nat.blt k 123 then (bif Nat.beq k 121 then (.iload 4, 123, 4, 0, []) else am_nop) else (bif Nat.blt k 124 then (bif Nat.beq k 123 then (.ireturn, 124, 0, 0, []) else am_nop) else (bif Nat.beq k 124 then (.goto (-98), 127, 26, 0, []) else am_nop)))))))
/-- DeedDeskModel.draw(I)I -/
def am_c128 (k : Nat) : am_E := bif Nat.blt k 12 then (bif Nat.blt k 5 then (bif Nat.blt k 1 then (bif Nat.beq k 0 then (.aload_n 0, 1, 0, 0, []) else am_nop) else (bif Nat.blt k 2 then (bif Nat.beq k 1 then (.aload_n 0, 2, 0, 0, []) else am_nop) else (bif Nat.beq k 2 then (.getfield 152, 5, 7, 20, [(0, 582)]) else am_nop))) else (bif Nat.blt k 8 then (bif Nat.blt k 7 then (bif Nat.beq k 5 then (.ldc 155, 7, 0, 0, [(1103515245, 811)]) else am_nop) else (bif Nat.beq k 7 then (.imul, 8, 0, 0, []) else am_nop)) else (bif Nat.blt k 11 then (bif Nat.beq k 8 then (.sipush 12345, 11, 0, 0, [(12345, 0)]) else am_nop) else (bif Nat.beq k 11 then (.iadd, 12, 0, 0, []) else am_nop)))) else (bif Nat.blt k 21 then (bif Nat.blt k 16 then (bif Nat.blt k 15 then (bif Nat.beq k 12 then (.putfield 152, 15, 7, 20, [(0, 582)]) else am_nop) else (bif Nat.beq k 15 then (.aload_n 0, 16, 0, 0, []) else am_nop)) else (bif Nat.blt k 19 then (bif Nat.beq k 16 then (.getfield 152, 19, 7, 20, [(0, 582)]) else am_nop) else (bif Nat.beq k 19 then (.bipush 16, 21, 0, 0, [(16, 0)]) else am_nop))) else (bif Nat.blt k 23 then (bif Nat.blt k 22 then (bif Nat.beq k 21 then (.iushr, 22, 0, 0, []) else am_nop) else (bif Nat.beq k 22 then (.iload_n 1, 23, 1, 0, []) else am_nop)) else (bif Nat.blt k 24 then (bif Nat.beq k 23 then (.irem, 24, 0, 0, []) else am_nop) else (bif Nat.beq k 24 then (.ireturn, 25, 0, 0, []) else am_nop))))
/-- DeedDeskModel.joinedTo(II)I -/
def am_c129 (k : Nat) : am_E := bif Nat.blt k 24 then (bif Nat.blt k 12 then (bif Nat.blt k 3 then (bif Nat.blt k 1 then (bif Nat.beq k 0 then (.iload_n 2, 1, 2, 0, []) else am_nop) else (bif Nat.blt k 2 then (bif Nat.beq k 1 then (.istore_n 3, 2, 3, 0, []) else am_nop) else (bif Nat.beq k 2 then (.iconst 0, 3, 0, 0, [(0, 0)]) else am_nop))) else (bif Nat.blt k 7 then (bif Nat.blt k 5 then (bif Nat.beq k 3 then (.istore 4, 5, 4, 0, []) else am_nop) else (bif Nat.beq k 5 then (.iload 4, 7, 4, 0, []) else am_nop)) else (bif Nat.blt k 9 then (bif Nat.beq k 7 then (.bipush 8, 9, 0, 0, [(8, 0)]) else am_nop) else (bif Nat.beq k 9 then (.if_icmp .ge 40, 12, 49, 0, []) else am_nop)))) else (bif Nat.blt k 18 then (bif Nat.blt k 14 then (bif Nat.beq k 12 then (.iload 4, 14, 4, 0, []) else am_nop) else (bif Nat.blt k 15 then (bif Nat.beq k 14 then (.iload_n 1, 15, 1, 0, []) else am_nop) else (bif Nat.beq k 15 then (.if_icmp .eq 28, 18, 43, 0, []) else am_nop))) else (bif Nat.blt k 22 then (bif Nat.blt k 19 then (bif Nat.beq k 18 then (.aload_n 0, 19, 0, 0, []) else am_nop) else (bif Nat.beq k 19 then (.getfield 13, 22, 7, 2, [(0, 564)]) else am_nop)) else (bif Nat.blt k 23 then (bif Nat.beq k 22 then (.iload_n 1, 23, 1, 0, []) else am_nop) else (bif Nat.beq k 23 then (.iaload, 24, 0, 0, []) else am_nop))))) else (bif Nat.blt k 34 then (bif Nat.blt k 28 then (bif Nat.blt k 26 then (bif Nat.beq k 24 then (.iload 4, 26, 4, 0, []) else am_nop) else (bif Nat.blt k 27 then (bif Nat.beq k 26 then (.ishr, 27, 0, 0, []) else am_nop) else (bif Nat.beq k 27 then (.iconst 1, 28, 0, 0, [(1, 0)]) else am_nop))) else (bif Nat.blt k 30 then (bif Nat.blt k 29 then (bif Nat.beq k 28 then (.iand, 29, 0, 0, []) else am_nop) else (bif Nat.beq k 29 then (.iconst 1, 30, 0, 0, [(1, 0)]) else am_nop)) else (bif Nat.blt k 33 then (bif Nat.beq k 30 then (.if_icmp .ne 13, 33, 43, 0, []) else am_nop) else (bif Nat.beq k 33 then (.iload_n 3, 34, 3, 0, []) else am_nop)))) else (bif Nat.blt k 43 then (bif Nat.blt k 39 then (bif Nat.blt k 37 then (bif Nat.beq k 34 then (.ifCond .ne 6, 37, 40, 0, []) else am_nop) else (bif Nat.beq k 37 then (.iload 4, 39, 4, 0, []) else am_nop)) else (bif Nat.blt k 40 then (bif Nat.beq k 39 then (.ireturn, 40, 0, 0, []) else am_nop) else (bif Nat.beq k 40 then (.iinc 3 (-1), 43, 3, 0, [(-1, 0)]) else am_nop))) else (bif Nat.blt k 49 then (bif Nat.blt k 46 then (bif Nat.beq k 43 then (.iinc 4 1, 46, 4, 0, [(1, 0)]) else am_nop) else (bif Nat.beq k 46 then (.goto (-41), 49, 5, 0, []) else am_nop)) else (bif Nat.blt k 50 then (bif Nat.beq k 49 then (.iconst (-1), 50, 0, 0, [(-1, 0)]) else am_nop) else (bif Nat.beq k 50 then (.ireturn, 51, 0, 0, []) else am_nop)))))
/-- DeedDeskModel.doorsFrom(II)I -/
def am_c130 (k : Nat) : am_E := bif Nat.blt k 11 then (bif Nat.blt k 5 then (bif Nat.blt k 2 then (bif Nat.blt k 1 then (bif Nat.beq k 0 then (.iconst 1, 1, 0, 0, [(1, 0)]) else am_nop) else (bif Nat.beq k 1 then (.iload_n 1, 2, 1, 0, []) else am_nop)) else (bif Nat.blt k 3 then (bif Nat.beq k 2 then (.ishl, 3, 0, 0, []) else am_nop) else (bif Nat.blt k 4 then (bif Nat.beq k 3 then (.istore_n 3, 4, 3, 0, []) else am_nop) else (bif Nat.beq k 4 then (.iconst 0, 5, 0, 0, [(0, 0)]) else am_nop)))) else (bif Nat.blt k 8 then (bif Nat.blt k 7 then (bif Nat.beq k 5 then (.istore 4, 7, 4, 0, []) else am_nop) else (bif Nat.beq k 7 then (.iload_n 3, 8, 3, 0, []) else am_nop)) else (bif Nat.blt k 9 then (bif Nat.beq k 8 then (.iload_n 2, 9, 2, 0, []) else am_nop) else (bif Nat.blt k 10 then (bif Nat.beq k 9 then (.ishr, 10, 0, 0, []) else am_nop) else (bif Nat.beq k 10 then (.iconst 1, 11, 0, 0, [(1, 0)]) else am_nop))))) else (bif Nat.blt k 20 then (bif Nat.blt k 15 then (bif Nat.blt k 12 then (bif Nat.beq k 11 then (.iand, 12, 0, 0, []) else am_nop) else (bif Nat.beq k 12 then (.ifCond .ne 15, 15, 27, 0, []) else am_nop)) else (bif Nat.blt k 16 then (bif Nat.beq k 15 then (.aload_n 0, 16, 0, 0, []) else am_nop) else (bif Nat.blt k 17 then (bif Nat.beq k 16 then (.iload_n 3, 17, 3, 0, []) else am_nop) else (bif Nat.beq k 17 then (.invokevirtual 97, 20, 108, 0, [(0, 725)]) else am_nop)))) else (bif Nat.blt k 24 then (bif Nat.blt k 21 then (bif Nat.beq k 20 then (.istore_n 3, 21, 3, 0, []) else am_nop) else (bif Nat.beq k 21 then (.iinc 4 1, 24, 4, 0, [(1, 0)]) else am_nop)) else (bif Nat.blt k 27 then (bif Nat.beq k 24 then (.goto (-17), 27, 7, 0, []) else am_nop) else (bif Nat.blt k 29 then (bif Nat.beq k 27 then (.iload 4, 29, 4, 0, []) else am_nop) else (bif Nat.beq k 29 then (.ireturn, 30, 0, 0, []) else am_nop)))))
/-- DeedDeskModel.makeHouse()V -/
def am_c131 (k : Nat) : am_E := bif Nat.blt k 68 then (bif Nat.blt k 34 then (bif Nat.blt k 15 then (bif Nat.blt k 7 then (bif Nat.blt k 2 then (bif Nat.blt k 1 then (bif Nat.beq k 0 then (.aload_n 0, 1, 0, 0, []) else am_nop) else (bif Nat.beq k 1 then (.iconst 4, 2, 0, 0, [(4, 0)]) else am_nop)) else (bif Nat.blt k 5 then (bif Nat.beq k 2 then (.putfield 7, 5, 7, 0, [(0, 562)]) else am_nop) else (bif Nat.blt k 6 then (bif Nat.beq k 5 then (.aload_n 0, 6, 0, 0, []) else am_nop) else (bif Nat.beq k 6 then (.iconst 0, 7, 0, 0, [(0, 0)]) else am_nop)))) else (bif Nat.blt k 11 then (bif Nat.blt k 10 then (bif Nat.beq k 7 then (.putfield 67, 10, 7, 1, [(0, 563)]) else am_nop) else (bif Nat.beq k 10 then (.iconst 0, 11, 0, 0, [(0, 0)]) else am_nop)) else (bif Nat.blt k 12 then (bif Nat.beq k 11 then (.istore_n 1, 12, 1, 0, []) else am_nop) else (bif Nat.blt k 13 then (bif Nat.beq k 12 then (.iload_n 1, 13, 1, 0, []) else am_nop) else (bif Nat.beq k 13 then (.bipush 8, 15, 0, 0, [(8, 0)]) else am_nop))))) else (bif Nat.blt k 24 then (bif Nat.blt k 19 then (bif Nat.blt k 18 then (bif Nat.beq k 15 then (.if_icmp .ge 18, 18, 33, 0, []) else am_nop) else (bif Nat.beq k 18 then (.aload_n 0, 19, 0, 0, []) else am_nop)) else (bif Nat.blt k 22 then (bif Nat.beq k 19 then (.getfield 13, 22, 7, 2, [(0, 564)]) else am_nop) else (bif Nat.blt k 23 then (bif Nat.beq k 22 then (.iload_n 1, 23, 1, 0, []) else am_nop) else (bif Nat.beq k 23 then (.iconst 1, 24, 0, 0, [(1, 0)]) else am_nop)))) else (bif Nat.blt k 27 then (bif Nat.blt k 25 then (bif Nat.beq k 24 then (.iload_n 1, 25, 1, 0, []) else am_nop) else (bif Nat.blt k 26 then (bif Nat.beq k 25 then (.ishl, 26, 0, 0, []) else am_nop) else (bif Nat.beq k 26 then (.iastore, 27, 0, 0, []) else am_nop))) else (bif Nat.blt k 30 then (bif Nat.beq k 27 then (.iinc 1 1, 30, 1, 0, [(1, 0)]) else am_nop) else (bif Nat.blt k 33 then (bif Nat.beq k 30 then (.goto (-18), 33, 12, 0, []) else am_nop) else (bif Nat.beq k 33 then (.iconst 0, 34, 0, 0, [(0, 0)]) else am_nop)))))) else (bif Nat.blt k 48 then (bif Nat.blt k 42 then (bif Nat.blt k 36 then (bif Nat.blt k 35 then (bif Nat.beq k 34 then (.istore_n 1, 35, 1, 0, []) else am_nop) else (bif Nat.beq k 35 then (.iload_n 1, 36, 1, 0, []) else am_nop)) else (bif Nat.blt k 38 then (bif Nat.beq k 36 then (.bipush 8, 38, 0, 0, [(8, 0)]) else am_nop) else (bif Nat.blt k 41 then (bif Nat.beq k 38 then (.if_icmp .ge 20, 41, 58, 0, []) else am_nop) else (bif Nat.beq k 41 then (.aload_n 0, 42, 0, 0, []) else am_nop)))) else (bif Nat.blt k 44 then (bif Nat.blt k 43 then (bif Nat.beq k 42 then (.iload_n 1, 43, 1, 0, []) else am_nop) else (bif Nat.beq k 43 then (.iload_n 1, 44, 1, 0, []) else am_nop)) else (bif Nat.blt k 45 then (bif Nat.beq k 44 then (.iconst 1, 45, 0, 0, [(1, 0)]) else am_nop) else (bif Nat.blt k 46 then (bif Nat.beq k 45 then (.iadd, 46, 0, 0, []) else am_nop) else (bif Nat.beq k 46 then (.bipush 8, 48, 0, 0, [(8, 0)]) else am_nop))))) else (bif Nat.blt k 59 then (bif Nat.blt k 52 then (bif Nat.blt k 49 then (bif Nat.beq k 48 then (.irem, 49, 0, 0, []) else am_nop) else (bif Nat.beq k 49 then (.invokevirtual 70, 52, 90, 0, [(0, 643)]) else am_nop)) else (bif Nat.blt k 55 then (bif Nat.beq k 52 then (.iinc 1 1, 55, 1, 0, [(1, 0)]) else am_nop) else (bif Nat.blt k 58 then (bif Nat.beq k 55 then (.goto (-20), 58, 35, 0, []) else am_nop) else (bif Nat.beq k 58 then (.iconst 0, 59, 0, 0, [(0, 0)]) else am_nop)))) else (bif Nat.blt k 62 then (bif Nat.blt k 60 then (bif Nat.beq k 59 then (.istore_n 1, 60, 1, 0, []) else am_nop) else (bif Nat.blt k 61 then (bif Nat.beq k 60 then (.iload_n 1, 61, 1, 0, []) else am_nop) else (bif Nat.beq k 61 then (.iconst 2, 62, 0, 0, [(2, 0)]) else am_nop))) else (bif Nat.blt k 65 then (bif Nat.beq k 62 then (.if_icmp .ge 48, 65, 110, 0, []) else am_nop) else (bif Nat.blt k 66 then (bif Nat.beq k 65 then (.aload_n 0, 66, 0, 0, []) else am_nop) else (bif Nat.beq k 66 then (.bipush 8, 68, 0, 0, [(8, 0)]) else am_nop))))))) else (bif Nat.blt k 98 then (bif Nat.blt k 83 then (bif Nat.blt k 75 then (bif Nat.blt k 72 then (bif Nat.blt k 71 then (bif Nat.beq k 68 then (.invokevirtual 156, 71, 128, 0, [(0, 807)]) else am_nop) else (bif Nat.beq k 71 then (.istore_n 2, 72, 2, 0, []) else am_nop)) else (bif Nat.blt k 73 then (bif Nat.beq k 72 then (.iload_n 2, 73, 2, 0, []) else am_nop) else (bif Nat.blt k 74 then (bif Nat.beq k 73 then (.iconst 2, 74, 0, 0, [(2, 0)]) else am_nop) else (bif Nat.beq k 74 then (.iadd, 75, 0, 0, []) else am_nop)))) else (bif Nat.blt k 77 then (bif Nat.blt k 76 then (bif Nat.beq k 75 then (.aload_n 0, 76, 0, 0, []) else am_nop) else (bif Nat.beq k 76 then (.iconst 5, 77, 0, 0, [(5, 0)]) else am_nop)) else (bif Nat.blt k 80 then (bif Nat.beq k 77 then (.invokevirtual 156, 80, 128, 0, [(0, 807)]) else am_nop) else (bif Nat.blt k 81 then (bif Nat.beq k 80 then (.iadd, 81, 0, 0, []) else am_nop) else (bif Nat.beq k 81 then (.bipush 8, 83, 0, 0, [(8, 0)]) else am_nop))))) else (bif Nat.blt k 90 then (bif Nat.blt k 85 then (bif Nat.blt k 84 then (bif Nat.beq k 83 then (.irem, 84, 0, 0, []) else am_nop) else (bif Nat.beq k 84 then (.istore_n 3, 85, 3, 0, []) else am_nop)) else (bif Nat.blt k 86 then (bif Nat.beq k 85 then (.aload_n 0, 86, 0, 0, []) else am_nop) else (bif Nat.blt k 89 then (bif Nat.beq k 86 then (.getfield 13, 89, 7, 2, [(0, 564)]) else am_nop) else (bif Nat.beq k 89 then (.iload_n 2, 90, 2, 0, []) else am_nop)))) else (bif Nat.blt k 93 then (bif Nat.blt k 91 then (bif Nat.beq k 90 then (.iaload, 91, 0, 0, []) else am_nop) else (bif Nat.blt k 92 then (bif Nat.beq k 91 then (.iload_n 3, 92, 3, 0, []) else am_nop) else (bif Nat.beq k 92 then (.ishr, 93, 0, 0, []) else am_nop))) else (bif Nat.blt k 94 then (bif Nat.beq k 93 then (.iconst 1, 94, 0, 0, [(1, 0)]) else am_nop) else (bif Nat.blt k 95 then (bif Nat.beq k 94 then (.iand, 95, 0, 0, []) else am_nop) else (bif Nat.beq k 95 then (.ifCond .ne 9, 98, 104, 0, []) else am_nop)))))) else (bif Nat.blt k 114 then (bif Nat.blt k 107 then (bif Nat.blt k 100 then (bif Nat.blt k 99 then (bif Nat.beq k 98 then (.aload_n 0, 99, 0, 0, []) else am_nop) else (bif Nat.beq k 99 then (.iload_n 2, 100, 2, 0, []) else am_nop)) else (bif Nat.blt k 101 then (bif Nat.beq k 100 then (.iload_n 3, 101, 3, 0, []) else am_nop) else (bif Nat.blt k 104 then (bif Nat.beq k 101 then (.invokevirtual 70, 104, 90, 0, [(0, 643)]) else am_nop) else (bif Nat.beq k 104 then (.iinc 1 1, 107, 1, 0, [(1, 0)]) else am_nop)))) else (bif Nat.blt k 111 then (bif Nat.blt k 110 then (bif Nat.beq k 107 then (.goto (-47), 110, 60, 0, []) else am_nop) else (bif Nat.beq k 110 then (.iconst 0, 111, 0, 0, [(0, 0)]) else am_nop)) else (bif Nat.blt k 112 then (bif Nat.beq k 111 then (.istore_n 1, 112, 1, 0, []) else am_nop) else (bif Nat.blt k 113 then (bif Nat.beq k 112 then (.iload_n 1, 113, 1, 0, []) else am_nop) else (bif Nat.beq k 113 then (.iconst 3, 114, 0, 0, [(3, 0)]) else am_nop))))) else (bif Nat.blt k 123 then (bif Nat.blt k 118 then (bif Nat.blt k 117 then (bif Nat.beq k 114 then (.if_icmp .ge 21, 117, 135, 0, []) else am_nop) else (bif Nat.beq k 117 then (.aload_n 0, 118, 0, 0, []) else am_nop)) else (bif Nat.blt k 121 then (bif Nat.beq k 118 then (.getfield 17, 121, 7, 3, [(0, 565)]) else am_nop) else (bif Nat.blt k 122 then (bif Nat.beq k 121 then (.iload_n 1, 122, 1, 0, []) else am_nop) else (bif Nat.beq k 122 then (.aload_n 0, 123, 0, 0, []) else am_nop)))) else (bif Nat.blt k 129 then (bif Nat.blt k 125 then (bif Nat.beq k 123 then (.bipush 8, 125, 0, 0, [(8, 0)]) else am_nop) else (bif Nat.blt k 128 then (bif Nat.beq k 125 then (.invokevirtual 156, 128, 128, 0, [(0, 807)]) else am_nop) else (bif Nat.beq k 128 then (.iastore, 129, 0, 0, []) else am_nop))) else (bif Nat.blt k 132 then (bif Nat.beq k 129 then (.iinc 1 1, 132, 1, 0, [(1, 0)]) else am_nop) else (bif Nat.blt k 135 then (bif Nat.beq k 132 then (.goto (-20), 135, 112, 0, []) else am_nop) else (bif Nat.beq k 135 then (.return_, 136, 0, 0, []) else am_nop)))))))
/-- DeedDeskModel.makeWays()V -/
def am_c132 (k : Nat) : am_E := bif Nat.blt k 49 then (bif Nat.blt k 24 then (bif Nat.blt k 13 then (bif Nat.blt k 4 then (bif Nat.blt k 2 then (bif Nat.blt k 1 then (bif Nat.beq k 0 then (.iconst 0, 1, 0, 0, [(0, 0)]) else am_nop) else (bif Nat.beq k 1 then (.istore_n 1, 2, 1, 0, []) else am_nop)) else (bif Nat.blt k 3 then (bif Nat.beq k 2 then (.iload_n 1, 3, 1, 0, []) else am_nop) else (bif Nat.beq k 3 then (.iconst 4, 4, 0, 0, [(4, 0)]) else am_nop))) else (bif Nat.blt k 8 then (bif Nat.blt k 7 then (bif Nat.beq k 4 then (.if_icmp .ge 107, 7, 111, 0, []) else am_nop) else (bif Nat.beq k 7 then (.aload_n 0, 8, 0, 0, []) else am_nop)) else (bif Nat.blt k 11 then (bif Nat.beq k 8 then (.getfield 53, 11, 7, 21, [(0, 583)]) else am_nop) else (bif Nat.beq k 11 then (.bipush 10, 13, 0, 0, [(10, 0)]) else am_nop)))) else (bif Nat.blt k 18 then (bif Nat.blt k 15 then (bif Nat.blt k 14 then (bif Nat.beq k 13 then (.iload_n 1, 14, 1, 0, []) else am_nop) else (bif Nat.beq k 14 then (.imul, 15, 0, 0, []) else am_nop)) else (bif Nat.blt k 16 then (bif Nat.beq k 15 then (.aload_n 0, 16, 0, 0, []) else am_nop) else (bif Nat.beq k 16 then (.bipush 8, 18, 0, 0, [(8, 0)]) else am_nop))) else (bif Nat.blt k 22 then (bif Nat.blt k 21 then (bif Nat.beq k 18 then (.invokevirtual 156, 21, 128, 0, [(0, 807)]) else am_nop) else (bif Nat.beq k 21 then (.iastore, 22, 0, 0, []) else am_nop)) else (bif Nat.blt k 23 then (bif Nat.beq k 22 then (.iconst 1, 23, 0, 0, [(1, 0)]) else am_nop) else (bif Nat.beq k 23 then (.istore_n 2, 24, 2, 0, []) else am_nop))))) else (bif Nat.blt k 38 then (bif Nat.blt k 31 then (bif Nat.blt k 27 then (bif Nat.blt k 25 then (bif Nat.beq k 24 then (.iload_n 2, 25, 2, 0, []) else am_nop) else (bif Nat.beq k 25 then (.bipush 10, 27, 0, 0, [(10, 0)]) else am_nop)) else (bif Nat.blt k 30 then (bif Nat.beq k 27 then (.if_icmp .ge 78, 30, 105, 0, []) else am_nop) else (bif Nat.beq k 30 then (.aload_n 0, 31, 0, 0, []) else am_nop))) else (bif Nat.blt k 36 then (bif Nat.blt k 34 then (bif Nat.beq k 31 then (.getfield 53, 34, 7, 21, [(0, 583)]) else am_nop) else (bif Nat.beq k 34 then (.bipush 10, 36, 0, 0, [(10, 0)]) else am_nop)) else (bif Nat.blt k 37 then (bif Nat.beq k 36 then (.iload_n 1, 37, 1, 0, []) else am_nop) else (bif Nat.beq k 37 then (.imul, 38, 0, 0, []) else am_nop)))) else (bif Nat.blt k 42 then (bif Nat.blt k 40 then (bif Nat.blt k 39 then (bif Nat.beq k 38 then (.iload_n 2, 39, 2, 0, []) else am_nop) else (bif Nat.beq k 39 then (.iadd, 40, 0, 0, []) else am_nop)) else (bif Nat.blt k 41 then (bif Nat.beq k 40 then (.iconst 1, 41, 0, 0, [(1, 0)]) else am_nop) else (bif Nat.beq k 41 then (.isub, 42, 0, 0, []) else am_nop))) else (bif Nat.blt k 44 then (bif Nat.blt k 43 then (bif Nat.beq k 42 then (.iaload, 43, 0, 0, []) else am_nop) else (bif Nat.beq k 43 then (.istore_n 3, 44, 3, 0, []) else am_nop)) else (bif Nat.blt k 45 then (bif Nat.beq k 44 then (.aload_n 0, 45, 0, 0, []) else am_nop) else (bif Nat.blt k 46 then (bif Nat.beq k 45 then (.iconst 3, 46, 0, 0, [(3, 0)]) else am_nop) else (bif Nat.beq k 46 then (.invokevirtual 156, 49, 128, 0, [(0, 807)]) else am_nop))))))) else (bif Nat.blt k 79 then (bif Nat.blt k 65 then (bif Nat.blt k 57 then (bif Nat.blt k 53 then (bif Nat.blt k 52 then (bif Nat.beq k 49 then (.ifCond .ne 7, 52, 56, 0, []) else am_nop) else (bif Nat.beq k 52 then (.iconst 1, 53, 0, 0, [(1, 0)]) else am_nop)) else (bif Nat.blt k 56 then (bif Nat.beq k 53 then (.goto 4, 56, 57, 0, []) else am_nop) else (bif Nat.beq k 56 then (.iconst 0, 57, 0, 0, [(0, 0)]) else am_nop))) else (bif Nat.blt k 60 then (bif Nat.blt k 59 then (bif Nat.beq k 57 then (.istore 4, 59, 4, 0, []) else am_nop) else (bif Nat.beq k 59 then (.aload_n 0, 60, 0, 0, []) else am_nop)) else (bif Nat.blt k 63 then (bif Nat.beq k 60 then (.getfield 53, 63, 7, 21, [(0, 583)]) else am_nop) else (bif Nat.beq k 63 then (.bipush 10, 65, 0, 0, [(10, 0)]) else am_nop)))) else (bif Nat.blt k 69 then (bif Nat.blt k 67 then (bif Nat.blt k 66 then (bif Nat.beq k 65 then (.iload_n 1, 66, 1, 0, []) else am_nop) else (bif Nat.beq k 66 then (.imul, 67, 0, 0, []) else am_nop)) else (bif Nat.blt k 68 then (bif Nat.beq k 67 then (.iload_n 2, 68, 2, 0, []) else am_nop) else (bif Nat.beq k 68 then (.iadd, 69, 0, 0, []) else am_nop))) else (bif Nat.blt k 74 then (bif Nat.blt k 71 then (bif Nat.beq k 69 then (.iload 4, 71, 4, 0, []) else am_nop) else (bif Nat.beq k 71 then (.ifCond .eq 7, 74, 78, 0, []) else am_nop)) else (bif Nat.blt k 75 then (bif Nat.beq k 74 then (.iload_n 3, 75, 3, 0, []) else am_nop) else (bif Nat.blt k 78 then (bif Nat.beq k 75 then (.goto 23, 78, 98, 0, []) else am_nop) else (bif Nat.beq k 78 then (.aload_n 0, 79, 0, 0, []) else am_nop)))))) else (bif Nat.blt k 91 then (bif Nat.blt k 85 then (bif Nat.blt k 81 then (bif Nat.blt k 80 then (bif Nat.beq k 79 then (.iload_n 3, 80, 3, 0, []) else am_nop) else (bif Nat.beq k 80 then (.aload_n 0, 81, 0, 0, []) else am_nop)) else (bif Nat.blt k 82 then (bif Nat.beq k 81 then (.aload_n 0, 82, 0, 0, []) else am_nop) else (bif Nat.beq k 82 then (.getfield 13, 85, 7, 2, [(0, 564)]) else am_nop))) else (bif Nat.blt k 87 then (bif Nat.blt k 86 then (bif Nat.beq k 85 then (.iload_n 3, 86, 3, 0, []) else am_nop) else (bif Nat.beq k 86 then (.iaload, 87, 0, 0, []) else am_nop)) else (bif Nat.blt k 90 then (bif Nat.beq k 87 then (.invokestatic 140, 90, 115, 0, [(0, 776)]) else am_nop) else (bif Nat.beq k 90 then (.iconst 1, 91, 0, 0, [(1, 0)]) else am_nop)))) else (bif Nat.blt k 99 then (bif Nat.blt k 95 then (bif Nat.blt k 92 then (bif Nat.beq k 91 then (.isub, 92, 0, 0, []) else am_nop) else (bif Nat.beq k 92 then (.invokevirtual 156, 95, 128, 0, [(0, 807)]) else am_nop)) else (bif Nat.blt k 98 then (bif Nat.beq k 95 then (.invokevirtual 159, 98, 129, 0, [(0, 816)]) else am_nop) else (bif Nat.beq k 98 then (.iastore, 99, 0, 0, []) else am_nop))) else (bif Nat.blt k 105 then (bif Nat.blt k 102 then (bif Nat.beq k 99 then (.iinc 2 1, 102, 2, 0, [(1, 0)]) else am_nop) else (bif Nat.beq k 102 then (.goto (-78), 105, 24, 0, []) else am_nop)) else (bif Nat.blt k 108 then (bif Nat.beq k 105 then (.iinc 1 1, 108, 1, 0, [(1, 0)]) else am_nop) else (bif Nat.blt k 111 then (bif Nat.beq k 108 then (.goto (-106), 111, 2, 0, []) else am_nop) else (bif Nat.beq k 111 then (.return_, 112, 0, 0, []) else am_nop)))))))
/-- DeedDeskModel.goTo(II)V -/
def am_c133 (k : Nat) : am_E := bif Nat.blt k 46 then (bif Nat.blt k 22 then (bif Nat.blt k 10 then (bif Nat.blt k 3 then (bif Nat.blt k 1 then (bif Nat.beq k 0 then (.iload_n 2, 1, 2, 0, []) else am_nop) else (bif Nat.blt k 2 then (bif Nat.beq k 1 then (.istore_n 3, 2, 3, 0, []) else am_nop) else (bif Nat.beq k 2 then (.aload_n 0, 3, 0, 0, []) else am_nop))) else (bif Nat.blt k 8 then (bif Nat.blt k 6 then (bif Nat.beq k 3 then (.getfield 53, 6, 7, 21, [(0, 583)]) else am_nop) else (bif Nat.beq k 6 then (.bipush 10, 8, 0, 0, [(10, 0)]) else am_nop)) else (bif Nat.blt k 9 then (bif Nat.beq k 8 then (.iload_n 1, 9, 1, 0, []) else am_nop) else (bif Nat.beq k 9 then (.imul, 10, 0, 0, []) else am_nop)))) else (bif Nat.blt k 13 then (bif Nat.blt k 11 then (bif Nat.beq k 10 then (.iload_n 3, 11, 3, 0, []) else am_nop) else (bif Nat.blt k 12 then (bif Nat.beq k 11 then (.iastore, 12, 0, 0, []) else am_nop) else (bif Nat.beq k 12 then (.iconst 1, 13, 0, 0, [(1, 0)]) else am_nop))) else (bif Nat.blt k 17 then (bif Nat.blt k 15 then (bif Nat.beq k 13 then (.istore 4, 15, 4, 0, []) else am_nop) else (bif Nat.beq k 15 then (.iload 4, 17, 4, 0, []) else am_nop)) else (bif Nat.blt k 19 then (bif Nat.beq k 17 then (.bipush 10, 19, 0, 0, [(10, 0)]) else am_nop) else (bif Nat.beq k 19 then (.if_icmp .ge 84, 22, 103, 0, []) else am_nop))))) else (bif Nat.blt k 34 then (bif Nat.blt k 26 then (bif Nat.blt k 23 then (bif Nat.beq k 22 then (.iconst 0, 23, 0, 0, [(0, 0)]) else am_nop) else (bif Nat.blt k 25 then (bif Nat.beq k 23 then (.istore 5, 25, 5, 0, []) else am_nop) else (bif Nat.beq k 25 then (.aload_n 0, 26, 0, 0, []) else am_nop))) else (bif Nat.blt k 28 then (bif Nat.blt k 27 then (bif Nat.beq k 26 then (.iload_n 3, 27, 3, 0, []) else am_nop) else (bif Nat.beq k 27 then (.aload_n 0, 28, 0, 0, []) else am_nop)) else (bif Nat.blt k 31 then (bif Nat.beq k 28 then (.getfield 77, 31, 7, 4, [(0, 566)]) else am_nop) else (bif Nat.beq k 31 then (.invokevirtual 163, 34, 130, 0, [(0, 824)]) else am_nop)))) else (bif Nat.blt k 41 then (bif Nat.blt k 36 then (bif Nat.beq k 34 then (.istore 6, 36, 6, 0, []) else am_nop) else (bif Nat.blt k 38 then (bif Nat.beq k 36 then (.iload 6, 38, 6, 0, []) else am_nop) else (bif Nat.beq k 38 then (.ifCond .le 29, 41, 67, 0, []) else am_nop))) else (bif Nat.blt k 43 then (bif Nat.blt k 42 then (bif Nat.beq k 41 then (.aload_n 0, 42, 0, 0, []) else am_nop) else (bif Nat.beq k 42 then (.aload_n 0, 43, 0, 0, []) else am_nop)) else (bif Nat.blt k 44 then (bif Nat.beq k 43 then (.iload_n 3, 44, 3, 0, []) else am_nop) else (bif Nat.beq k 44 then (.iload 5, 46, 5, 0, []) else am_nop)))))) else (bif Nat.blt k 78 then (bif Nat.blt k 64 then (bif Nat.blt k 53 then (bif Nat.blt k 49 then (bif Nat.beq k 46 then (.invokevirtual 159, 49, 129, 0, [(0, 816)]) else am_nop) else (bif Nat.blt k 50 then (bif Nat.beq k 49 then (.aload_n 0, 50, 0, 0, []) else am_nop) else (bif Nat.beq k 50 then (.getfield 77, 53, 7, 4, [(0, 566)]) else am_nop))) else (bif Nat.blt k 58 then (bif Nat.blt k 56 then (bif Nat.beq k 53 then (.invokevirtual 163, 56, 130, 0, [(0, 824)]) else am_nop) else (bif Nat.beq k 56 then (.iload 6, 58, 6, 0, []) else am_nop)) else (bif Nat.blt k 61 then (bif Nat.beq k 58 then (.if_icmp .lt 9, 61, 67, 0, []) else am_nop) else (bif Nat.beq k 61 then (.iinc 5 1, 64, 5, 0, [(1, 0)]) else am_nop)))) else (bif Nat.blt k 72 then (bif Nat.blt k 67 then (bif Nat.beq k 64 then (.goto (-28), 67, 36, 0, []) else am_nop) else (bif Nat.blt k 69 then (bif Nat.beq k 67 then (.iload 6, 69, 6, 0, []) else am_nop) else (bif Nat.beq k 69 then (.ifCond .ne 7, 72, 76, 0, []) else am_nop))) else (bif Nat.blt k 76 then (bif Nat.blt k 73 then (bif Nat.beq k 72 then (.iload_n 3, 73, 3, 0, []) else am_nop) else (bif Nat.beq k 73 then (.goto 10, 76, 83, 0, []) else am_nop)) else (bif Nat.blt k 77 then (bif Nat.beq k 76 then (.aload_n 0, 77, 0, 0, []) else am_nop) else (bif Nat.beq k 77 then (.iload_n 3, 78, 3, 0, []) else am_nop))))) else (bif Nat.blt k 91 then (bif Nat.blt k 84 then (bif Nat.blt k 80 then (bif Nat.beq k 78 then (.iload 5, 80, 5, 0, []) else am_nop) else (bif Nat.blt k 83 then (bif Nat.beq k 80 then (.invokevirtual 159, 83, 129, 0, [(0, 816)]) else am_nop) else (bif Nat.beq k 83 then (.istore_n 3, 84, 3, 0, []) else am_nop))) else (bif Nat.blt k 88 then (bif Nat.blt k 85 then (bif Nat.beq k 84 then (.aload_n 0, 85, 0, 0, []) else am_nop) else (bif Nat.beq k 85 then (.getfield 53, 88, 7, 21, [(0, 583)]) else am_nop)) else (bif Nat.blt k 90 then (bif Nat.beq k 88 then (.bipush 10, 90, 0, 0, [(10, 0)]) else am_nop) else (bif Nat.beq k 90 then (.iload_n 1, 91, 1, 0, []) else am_nop)))) else (bif Nat.blt k 96 then (bif Nat.blt k 94 then (bif Nat.blt k 92 then (bif Nat.beq k 91 then (.imul, 92, 0, 0, []) else am_nop) else (bif Nat.beq k 92 then (.iload 4, 94, 4, 0, []) else am_nop)) else (bif Nat.blt k 95 then (bif Nat.beq k 94 then (.iadd, 95, 0, 0, []) else am_nop) else (bif Nat.beq k 95 then (.iload_n 3, 96, 3, 0, []) else am_nop))) else (bif Nat.blt k 100 then (bif Nat.blt k 97 then (bif Nat.beq k 96 then (.iastore, 97, 0, 0, []) else am_nop) else (bif Nat.beq k 97 then (.iinc 4 1, 100, 4, 0, [(1, 0)]) else am_nop)) else (bif Nat.blt k 103 then (bif Nat.beq k 100 then (.goto (-85), 103, 15, 0, []) else am_nop) else (bif Nat.beq k 103 then (.return_, 104, 0, 0, []) else am_nop))))))
/-- DeedDeskModel.makeSayings(I)V -/
def am_c134 (k : Nat) : am_E := bif Nat.blt k 45 then (bif Nat.blt k 21 then (bif Nat.blt k 10 then (bif Nat.blt k 3 then (bif Nat.blt k 1 then (bif Nat.beq k 0 then (.iconst 0, 1, 0, 0, [(0, 0)]) else am_nop) else (bif Nat.blt k 2 then (bif Nat.beq k 1 then (.istore_n 2, 2, 2, 0, []) else am_nop) else (bif Nat.beq k 2 then (.iload_n 2, 3, 2, 0, []) else am_nop))) else (bif Nat.blt k 7 then (bif Nat.blt k 4 then (bif Nat.beq k 3 then (.iconst 2, 4, 0, 0, [(2, 0)]) else am_nop) else (bif Nat.beq k 4 then (.if_icmp .ge 35, 7, 39, 0, []) else am_nop)) else (bif Nat.blt k 8 then (bif Nat.beq k 7 then (.aload_n 0, 8, 0, 0, []) else am_nop) else (bif Nat.beq k 8 then (.bipush 10, 10, 0, 0, [(10, 0)]) else am_nop)))) else (bif Nat.blt k 15 then (bif Nat.blt k 13 then (bif Nat.beq k 10 then (.invokevirtual 156, 13, 128, 0, [(0, 807)]) else am_nop) else (bif Nat.blt k 14 then (bif Nat.beq k 13 then (.istore_n 3, 14, 3, 0, []) else am_nop) else (bif Nat.beq k 14 then (.aload_n 0, 15, 0, 0, []) else am_nop))) else (bif Nat.blt k 17 then (bif Nat.blt k 16 then (bif Nat.beq k 15 then (.iconst 5, 16, 0, 0, [(5, 0)]) else am_nop) else (bif Nat.beq k 16 then (.iload_n 1, 17, 1, 0, []) else am_nop)) else (bif Nat.blt k 18 then (bif Nat.beq k 17 then (.aload_n 0, 18, 0, 0, []) else am_nop) else (bif Nat.beq k 18 then (.getfield 53, 21, 7, 21, [(0, 583)]) else am_nop))))) else (bif Nat.blt k 29 then (bif Nat.blt k 25 then (bif Nat.blt k 23 then (bif Nat.beq k 21 then (.bipush 10, 23, 0, 0, [(10, 0)]) else am_nop) else (bif Nat.blt k 24 then (bif Nat.beq k 23 then (.iload_n 1, 24, 1, 0, []) else am_nop) else (bif Nat.beq k 24 then (.imul, 25, 0, 0, []) else am_nop))) else (bif Nat.blt k 27 then (bif Nat.blt k 26 then (bif Nat.beq k 25 then (.iload_n 3, 26, 3, 0, []) else am_nop) else (bif Nat.beq k 26 then (.iadd, 27, 0, 0, []) else am_nop)) else (bif Nat.blt k 28 then (bif Nat.beq k 27 then (.iaload, 28, 0, 0, []) else am_nop) else (bif Nat.beq k 28 then (.iload_n 3, 29, 3, 0, []) else am_nop)))) else (bif Nat.blt k 36 then (bif Nat.blt k 30 then (bif Nat.beq k 29 then (.iconst 0, 30, 0, 0, [(0, 0)]) else am_nop) else (bif Nat.blt k 33 then (bif Nat.beq k 30 then (.invokevirtual 87, 33, 95, 0, [(0, 674)]) else am_nop) else (bif Nat.beq k 33 then (.iinc 2 1, 36, 2, 0, [(1, 0)]) else am_nop))) else (bif Nat.blt k 40 then (bif Nat.blt k 39 then (bif Nat.beq k 36 then (.goto (-34), 39, 2, 0, []) else am_nop) else (bif Nat.beq k 39 then (.aload_n 0, 40, 0, 0, []) else am_nop)) else (bif Nat.blt k 43 then (bif Nat.beq k 40 then (.getfield 53, 43, 7, 21, [(0, 583)]) else am_nop) else (bif Nat.beq k 43 then (.bipush 10, 45, 0, 0, [(10, 0)]) else am_nop)))))) else (bif Nat.blt k 66 then (bif Nat.blt k 54 then (bif Nat.blt k 48 then (bif Nat.blt k 46 then (bif Nat.beq k 45 then (.iload_n 1, 46, 1, 0, []) else am_nop) else (bif Nat.blt k 47 then (bif Nat.beq k 46 then (.imul, 47, 0, 0, []) else am_nop) else (bif Nat.beq k 47 then (.iaload, 48, 0, 0, []) else am_nop))) else (bif Nat.blt k 52 then (bif Nat.blt k 49 then (bif Nat.beq k 48 then (.aload_n 0, 49, 0, 0, []) else am_nop) else (bif Nat.beq k 49 then (.getfield 53, 52, 7, 21, [(0, 583)]) else am_nop)) else (bif Nat.blt k 53 then (bif Nat.beq k 52 then (.iconst 0, 53, 0, 0, [(0, 0)]) else am_nop) else (bif Nat.beq k 53 then (.iaload, 54, 0, 0, []) else am_nop)))) else (bif Nat.blt k 60 then (bif Nat.blt k 57 then (bif Nat.beq k 54 then (.if_icmp .ne 21, 57, 75, 0, []) else am_nop) else (bif Nat.blt k 58 then (bif Nat.beq k 57 then (.aload_n 0, 58, 0, 0, []) else am_nop) else (bif Nat.beq k 58 then (.bipush 7, 60, 0, 0, [(7, 0)]) else am_nop))) else (bif Nat.blt k 62 then (bif Nat.blt k 61 then (bif Nat.beq k 60 then (.iload_n 1, 61, 1, 0, []) else am_nop) else (bif Nat.beq k 61 then (.iconst 0, 62, 0, 0, [(0, 0)]) else am_nop)) else (bif Nat.blt k 63 then (bif Nat.beq k 62 then (.aload_n 0, 63, 0, 0, []) else am_nop) else (bif Nat.beq k 63 then (.getfield 53, 66, 7, 21, [(0, 583)]) else am_nop))))) else (bif Nat.blt k 78 then (bif Nat.blt k 69 then (bif Nat.blt k 67 then (bif Nat.beq k 66 then (.iconst 0, 67, 0, 0, [(0, 0)]) else am_nop) else (bif Nat.blt k 68 then (bif Nat.beq k 67 then (.iaload, 68, 0, 0, []) else am_nop) else (bif Nat.beq k 68 then (.iconst 0, 69, 0, 0, [(0, 0)]) else am_nop))) else (bif Nat.blt k 75 then (bif Nat.blt k 72 then (bif Nat.beq k 69 then (.invokevirtual 87, 72, 95, 0, [(0, 674)]) else am_nop) else (bif Nat.beq k 72 then (.goto 19, 75, 91, 0, []) else am_nop)) else (bif Nat.blt k 76 then (bif Nat.beq k 75 then (.aload_n 0, 76, 0, 0, []) else am_nop) else (bif Nat.beq k 76 then (.bipush 6, 78, 0, 0, [(6, 0)]) else am_nop)))) else (bif Nat.blt k 84 then (bif Nat.blt k 80 then (bif Nat.blt k 79 then (bif Nat.beq k 78 then (.iload_n 1, 79, 1, 0, []) else am_nop) else (bif Nat.beq k 79 then (.aload_n 0, 80, 0, 0, []) else am_nop)) else (bif Nat.blt k 83 then (bif Nat.beq k 80 then (.getfield 77, 83, 7, 4, [(0, 566)]) else am_nop) else (bif Nat.beq k 83 then (.aload_n 0, 84, 0, 0, []) else am_nop))) else (bif Nat.blt k 88 then (bif Nat.blt k 87 then (bif Nat.beq k 84 then (.getfield 20, 87, 7, 5, [(0, 567)]) else am_nop) else (bif Nat.beq k 87 then (.iconst 0, 88, 0, 0, [(0, 0)]) else am_nop)) else (bif Nat.blt k 91 then (bif Nat.beq k 88 then (.invokevirtual 87, 91, 95, 0, [(0, 674)]) else am_nop) else (bif Nat.beq k 91 then (.return_, 92, 0, 0, []) else am_nop))))))
/-- DeedDeskModel.make(I)I -/
def am_c135 (k : Nat) : am_E := bif Nat.blt k 148 then (bif Nat.blt k 69 then (bif Nat.blt k 35 then (bif Nat.blt k 18 then (bif Nat.blt k 7 then (bif Nat.blt k 2 then (bif Nat.blt k 1 then (bif Nat.beq k 0 then (.aload_n 0, 1, 0, 0, []) else am_nop) else (bif Nat.beq k 1 then (.iload_n 1, 2, 1, 0, []) else am_nop)) else (bif Nat.blt k 5 then (bif Nat.beq k 2 then (.putfield 152, 5, 7, 20, [(0, 582)]) else am_nop) else (bif Nat.blt k 6 then (bif Nat.beq k 5 then (.aload_n 0, 6, 0, 0, []) else am_nop) else (bif Nat.beq k 6 then (.iconst 0, 7, 0, 0, [(0, 0)]) else am_nop)))) else (bif Nat.blt k 11 then (bif Nat.blt k 10 then (bif Nat.beq k 7 then (.putfield 60, 10, 7, 7, [(0, 569)]) else am_nop) else (bif Nat.beq k 10 then (.aload_n 0, 11, 0, 0, []) else am_nop)) else (bif Nat.blt k 14 then (bif Nat.beq k 11 then (.invokevirtual 166, 14, 131, 0, [(0, 803)]) else am_nop) else (bif Nat.blt k 15 then (bif Nat.beq k 14 then (.aload_n 0, 15, 0, 0, []) else am_nop) else (bif Nat.beq k 15 then (.invokevirtual 169, 18, 132, 0, [(0, 812)]) else am_nop))))) else (bif Nat.blt k 25 then (bif Nat.blt k 20 then (bif Nat.blt k 19 then (bif Nat.beq k 18 then (.aload_n 0, 19, 0, 0, []) else am_nop) else (bif Nat.beq k 19 then (.iconst 0, 20, 0, 0, [(0, 0)]) else am_nop)) else (bif Nat.blt k 23 then (bif Nat.beq k 20 then (.putfield 23, 23, 7, 6, [(0, 568)]) else am_nop) else (bif Nat.blt k 24 then (bif Nat.beq k 23 then (.aload_n 0, 24, 0, 0, []) else am_nop) else (bif Nat.beq k 24 then (.iconst 5, 25, 0, 0, [(5, 0)]) else am_nop)))) else (bif Nat.blt k 30 then (bif Nat.blt k 26 then (bif Nat.beq k 25 then (.aload_n 0, 26, 0, 0, []) else am_nop) else (bif Nat.blt k 27 then (bif Nat.beq k 26 then (.iconst 4, 27, 0, 0, [(4, 0)]) else am_nop) else (bif Nat.beq k 27 then (.invokevirtual 156, 30, 128, 0, [(0, 807)]) else am_nop))) else (bif Nat.blt k 31 then (bif Nat.beq k 30 then (.iadd, 31, 0, 0, []) else am_nop) else (bif Nat.blt k 34 then (bif Nat.beq k 31 then (.putfield 20, 34, 7, 5, [(0, 567)]) else am_nop) else (bif Nat.beq k 34 then (.aload_n 0, 35, 0, 0, []) else am_nop)))))) else (bif Nat.blt k 54 then (bif Nat.blt k 44 then (bif Nat.blt k 39 then (bif Nat.blt k 36 then (bif Nat.beq k 35 then (.aload_n 0, 36, 0, 0, []) else am_nop) else (bif Nat.beq k 36 then (.getfield 53, 39, 7, 21, [(0, 583)]) else am_nop)) else (bif Nat.blt k 40 then (bif Nat.beq k 39 then (.aload_n 0, 40, 0, 0, []) else am_nop) else (bif Nat.blt k 43 then (bif Nat.beq k 40 then (.getfield 20, 43, 7, 5, [(0, 567)]) else am_nop) else (bif Nat.beq k 43 then (.iaload, 44, 0, 0, []) else am_nop)))) else (bif Nat.blt k 49 then (bif Nat.blt k 47 then (bif Nat.beq k 44 then (.putfield 77, 47, 7, 4, [(0, 566)]) else am_nop) else (bif Nat.blt k 48 then (bif Nat.beq k 47 then (.iconst 1, 48, 0, 0, [(1, 0)]) else am_nop) else (bif Nat.beq k 48 then (.aload_n 0, 49, 0, 0, []) else am_nop))) else (bif Nat.blt k 50 then (bif Nat.beq k 49 then (.iconst 3, 50, 0, 0, [(3, 0)]) else am_nop) else (bif Nat.blt k 53 then (bif Nat.beq k 50 then (.invokevirtual 156, 53, 128, 0, [(0, 807)]) else am_nop) else (bif Nat.beq k 53 then (.iadd, 54, 0, 0, []) else am_nop))))) else (bif Nat.blt k 61 then (bif Nat.blt k 56 then (bif Nat.blt k 55 then (bif Nat.beq k 54 then (.istore_n 2, 55, 2, 0, []) else am_nop) else (bif Nat.beq k 55 then (.aload_n 0, 56, 0, 0, []) else am_nop)) else (bif Nat.blt k 57 then (bif Nat.beq k 56 then (.iconst 3, 57, 0, 0, [(3, 0)]) else am_nop) else (bif Nat.blt k 60 then (bif Nat.beq k 57 then (.invokevirtual 156, 60, 128, 0, [(0, 807)]) else am_nop) else (bif Nat.beq k 60 then (.istore_n 3, 61, 3, 0, []) else am_nop)))) else (bif Nat.blt k 64 then (bif Nat.blt k 62 then (bif Nat.beq k 61 then (.aload_n 0, 62, 0, 0, []) else am_nop) else (bif Nat.blt k 63 then (bif Nat.beq k 62 then (.iload_n 2, 63, 2, 0, []) else am_nop) else (bif Nat.beq k 63 then (.aload_n 0, 64, 0, 0, []) else am_nop))) else (bif Nat.blt k 67 then (bif Nat.beq k 64 then (.getfield 17, 67, 7, 3, [(0, 565)]) else am_nop) else (bif Nat.blt k 68 then (bif Nat.beq k 67 then (.iload_n 3, 68, 3, 0, []) else am_nop) else (bif Nat.beq k 68 then (.iaload, 69, 0, 0, []) else am_nop))))))) else (bif Nat.blt k 109 then (bif Nat.blt k 88 then (bif Nat.blt k 78 then (bif Nat.blt k 73 then (bif Nat.blt k 72 then (bif Nat.beq k 69 then (.invokevirtual 172, 72, 133, 0, [(0, 820)]) else am_nop) else (bif Nat.beq k 72 then (.iconst 1, 73, 0, 0, [(1, 0)]) else am_nop)) else (bif Nat.blt k 75 then (bif Nat.beq k 73 then (.istore 4, 75, 4, 0, []) else am_nop) else (bif Nat.blt k 77 then (bif Nat.beq k 75 then (.iload 4, 77, 4, 0, []) else am_nop) else (bif Nat.beq k 77 then (.iconst 4, 78, 0, 0, [(4, 0)]) else am_nop)))) else (bif Nat.blt k 83 then (bif Nat.blt k 81 then (bif Nat.beq k 78 then (.if_icmp .ge 115, 81, 193, 0, []) else am_nop) else (bif Nat.beq k 81 then (.iload 4, 83, 4, 0, []) else am_nop)) else (bif Nat.blt k 84 then (bif Nat.beq k 83 then (.iload_n 2, 84, 2, 0, []) else am_nop) else (bif Nat.blt k 87 then (bif Nat.beq k 84 then (.if_icmp .eq 103, 87, 187, 0, []) else am_nop) else (bif Nat.beq k 87 then (.aload_n 0, 88, 0, 0, []) else am_nop))))) else (bif Nat.blt k 97 then (bif Nat.blt k 93 then (bif Nat.blt k 91 then (bif Nat.beq k 88 then (.getfield 53, 91, 7, 21, [(0, 583)]) else am_nop) else (bif Nat.beq k 91 then (.bipush 10, 93, 0, 0, [(10, 0)]) else am_nop)) else (bif Nat.blt k 95 then (bif Nat.beq k 93 then (.iload 4, 95, 4, 0, []) else am_nop) else (bif Nat.blt k 96 then (bif Nat.beq k 95 then (.imul, 96, 0, 0, []) else am_nop) else (bif Nat.beq k 96 then (.aload_n 0, 97, 0, 0, []) else am_nop)))) else (bif Nat.blt k 102 then (bif Nat.blt k 100 then (bif Nat.beq k 97 then (.getfield 20, 100, 7, 5, [(0, 567)]) else am_nop) else (bif Nat.blt k 101 then (bif Nat.beq k 100 then (.iadd, 101, 0, 0, []) else am_nop) else (bif Nat.beq k 101 then (.iaload, 102, 0, 0, []) else am_nop))) else (bif Nat.blt k 103 then (bif Nat.beq k 102 then (.aload_n 0, 103, 0, 0, []) else am_nop) else (bif Nat.blt k 106 then (bif Nat.beq k 103 then (.getfield 77, 106, 7, 4, [(0, 566)]) else am_nop) else (bif Nat.beq k 106 then (.if_icmp .ne 81, 109, 187, 0, []) else am_nop)))))) else (bif Nat.blt k 126 then (bif Nat.blt k 118 then (bif Nat.blt k 113 then (bif Nat.blt k 110 then (bif Nat.beq k 109 then (.aload_n 0, 110, 0, 0, []) else am_nop) else (bif Nat.beq k 110 then (.getfield 53, 113, 7, 21, [(0, 583)]) else am_nop)) else (bif Nat.blt k 115 then (bif Nat.beq k 113 then (.bipush 10, 115, 0, 0, [(10, 0)]) else am_nop) else (bif Nat.blt k 117 then (bif Nat.beq k 115 then (.iload 4, 117, 4, 0, []) else am_nop) else (bif Nat.beq k 117 then (.imul, 118, 0, 0, []) else am_nop)))) else (bif Nat.blt k 123 then (bif Nat.blt k 119 then (bif Nat.beq k 118 then (.aload_n 0, 119, 0, 0, []) else am_nop) else (bif Nat.blt k 122 then (bif Nat.beq k 119 then (.getfield 20, 122, 7, 5, [(0, 567)]) else am_nop) else (bif Nat.beq k 122 then (.iadd, 123, 0, 0, []) else am_nop))) else (bif Nat.blt k 124 then (bif Nat.beq k 123 then (.iconst 1, 124, 0, 0, [(1, 0)]) else am_nop) else (bif Nat.blt k 125 then (bif Nat.beq k 124 then (.isub, 125, 0, 0, []) else am_nop) else (bif Nat.beq k 125 then (.iaload, 126, 0, 0, []) else am_nop))))) else (bif Nat.blt k 137 then (bif Nat.blt k 130 then (bif Nat.blt k 128 then (bif Nat.beq k 126 then (.istore 5, 128, 5, 0, []) else am_nop) else (bif Nat.beq k 128 then (.iload 5, 130, 5, 0, []) else am_nop)) else (bif Nat.blt k 131 then (bif Nat.beq k 130 then (.aload_n 0, 131, 0, 0, []) else am_nop) else (bif Nat.blt k 134 then (bif Nat.beq k 131 then (.getfield 77, 134, 7, 4, [(0, 566)]) else am_nop) else (bif Nat.beq k 134 then (.if_icmp .eq 8, 137, 142, 0, []) else am_nop)))) else (bif Nat.blt k 143 then (bif Nat.blt k 139 then (bif Nat.beq k 137 then (.iload 5, 139, 5, 0, []) else am_nop) else (bif Nat.blt k 142 then (bif Nat.beq k 139 then (.goto 12, 142, 151, 0, []) else am_nop) else (bif Nat.beq k 142 then (.aload_n 0, 143, 0, 0, []) else am_nop))) else (bif Nat.blt k 144 then (bif Nat.beq k 143 then (.aload_n 0, 144, 0, 0, []) else am_nop) else (bif Nat.blt k 147 then (bif Nat.beq k 144 then (.getfield 77, 147, 7, 4, [(0, 566)]) else am_nop) else (bif Nat.beq k 147 then (.iconst 0, 148, 0, 0, [(0, 0)]) else am_nop)))))))) else (bif Nat.blt k 230 then (bif Nat.blt k 193 then (bif Nat.blt k 170 then (bif Nat.blt k 159 then (bif Nat.blt k 153 then (bif Nat.blt k 151 then (bif Nat.beq k 148 then (.invokevirtual 159, 151, 129, 0, [(0, 816)]) else am_nop) else (bif Nat.beq k 151 then (.istore 6, 153, 6, 0, []) else am_nop)) else (bif Nat.blt k 154 then (bif Nat.beq k 153 then (.aload_n 0, 154, 0, 0, []) else am_nop) else (bif Nat.blt k 157 then (bif Nat.beq k 154 then (.getfield 20, 157, 7, 5, [(0, 567)]) else am_nop) else (bif Nat.beq k 157 then (.istore 7, 159, 7, 0, []) else am_nop)))) else (bif Nat.blt k 163 then (bif Nat.blt k 161 then (bif Nat.beq k 159 then (.iload 7, 161, 7, 0, []) else am_nop) else (bif Nat.beq k 161 then (.bipush 10, 163, 0, 0, [(10, 0)]) else am_nop)) else (bif Nat.blt k 166 then (bif Nat.beq k 163 then (.if_icmp .ge 24, 166, 187, 0, []) else am_nop) else (bif Nat.blt k 167 then (bif Nat.beq k 166 then (.aload_n 0, 167, 0, 0, []) else am_nop) else (bif Nat.beq k 167 then (.getfield 53, 170, 7, 21, [(0, 583)]) else am_nop))))) else (bif Nat.blt k 178 then (bif Nat.blt k 174 then (bif Nat.blt k 172 then (bif Nat.beq k 170 then (.bipush 10, 172, 0, 0, [(10, 0)]) else am_nop) else (bif Nat.beq k 172 then (.iload 4, 174, 4, 0, []) else am_nop)) else (bif Nat.blt k 175 then (bif Nat.beq k 174 then (.imul, 175, 0, 0, []) else am_nop) else (bif Nat.blt k 177 then (bif Nat.beq k 175 then (.iload 7, 177, 7, 0, []) else am_nop) else (bif Nat.beq k 177 then (.iadd, 178, 0, 0, []) else am_nop)))) else (bif Nat.blt k 184 then (bif Nat.blt k 180 then (bif Nat.beq k 178 then (.iload 6, 180, 6, 0, []) else am_nop) else (bif Nat.blt k 181 then (bif Nat.beq k 180 then (.iastore, 181, 0, 0, []) else am_nop) else (bif Nat.beq k 181 then (.iinc 7 1, 184, 7, 0, [(1, 0)]) else am_nop))) else (bif Nat.blt k 187 then (bif Nat.beq k 184 then (.goto (-25), 187, 159, 0, []) else am_nop) else (bif Nat.blt k 190 then (bif Nat.beq k 187 then (.iinc 4 1, 190, 4, 0, [(1, 0)]) else am_nop) else (bif Nat.beq k 190 then (.goto (-115), 193, 75, 0, []) else am_nop)))))) else (bif Nat.blt k 212 then (bif Nat.blt k 202 then (bif Nat.blt k 196 then (bif Nat.blt k 194 then (bif Nat.beq k 193 then (.iconst 0, 194, 0, 0, [(0, 0)]) else am_nop) else (bif Nat.beq k 194 then (.istore 4, 196, 4, 0, []) else am_nop)) else (bif Nat.blt k 198 then (bif Nat.beq k 196 then (.iload 4, 198, 4, 0, []) else am_nop) else (bif Nat.blt k 199 then (bif Nat.beq k 198 then (.iconst 4, 199, 0, 0, [(4, 0)]) else am_nop) else (bif Nat.beq k 199 then (.if_icmp .ge 40, 202, 239, 0, []) else am_nop)))) else (bif Nat.blt k 208 then (bif Nat.blt k 203 then (bif Nat.beq k 202 then (.aload_n 0, 203, 0, 0, []) else am_nop) else (bif Nat.blt k 205 then (bif Nat.beq k 203 then (.bipush 10, 205, 0, 0, [(10, 0)]) else am_nop) else (bif Nat.beq k 205 then (.invokevirtual 156, 208, 128, 0, [(0, 807)]) else am_nop))) else (bif Nat.blt k 210 then (bif Nat.beq k 208 then (.istore 5, 210, 5, 0, []) else am_nop) else (bif Nat.blt k 211 then (bif Nat.beq k 210 then (.aload_n 0, 211, 0, 0, []) else am_nop) else (bif Nat.beq k 211 then (.iconst 0, 212, 0, 0, [(0, 0)]) else am_nop))))) else (bif Nat.blt k 222 then (bif Nat.blt k 215 then (bif Nat.blt k 214 then (bif Nat.beq k 212 then (.iload 4, 214, 4, 0, []) else am_nop) else (bif Nat.beq k 214 then (.aload_n 0, 215, 0, 0, []) else am_nop)) else (bif Nat.blt k 218 then (bif Nat.beq k 215 then (.getfield 53, 218, 7, 21, [(0, 583)]) else am_nop) else (bif Nat.blt k 220 then (bif Nat.beq k 218 then (.bipush 10, 220, 0, 0, [(10, 0)]) else am_nop) else (bif Nat.beq k 220 then (.iload 4, 222, 4, 0, []) else am_nop)))) else (bif Nat.blt k 226 then (bif Nat.blt k 223 then (bif Nat.beq k 222 then (.imul, 223, 0, 0, []) else am_nop) else (bif Nat.blt k 225 then (bif Nat.beq k 223 then (.iload 5, 225, 5, 0, []) else am_nop) else (bif Nat.beq k 225 then (.iadd, 226, 0, 0, []) else am_nop))) else (bif Nat.blt k 227 then (bif Nat.beq k 226 then (.iaload, 227, 0, 0, []) else am_nop) else (bif Nat.blt k 229 then (bif Nat.beq k 227 then (.iload 5, 229, 5, 0, []) else am_nop) else (bif Nat.beq k 229 then (.iconst 0, 230, 0, 0, [(0, 0)]) else am_nop))))))) else (bif Nat.blt k 266 then (bif Nat.blt k 251 then (bif Nat.blt k 241 then (bif Nat.blt k 236 then (bif Nat.blt k 233 then (bif Nat.beq k 230 then (.invokevirtual 87, 233, 95, 0, [(0, 674)]) else am_nop) else (bif Nat.beq k 233 then (.iinc 4 1, 236, 4, 0, [(1, 0)]) else am_nop)) else (bif Nat.blt k 239 then (bif Nat.beq k 236 then (.goto (-40), 239, 196, 0, []) else am_nop) else (bif Nat.blt k 240 then (bif Nat.beq k 239 then (.aload_n 0, 240, 0, 0, []) else am_nop) else (bif Nat.beq k 240 then (.iconst 4, 241, 0, 0, [(4, 0)]) else am_nop)))) else (bif Nat.blt k 246 then (bif Nat.blt k 242 then (bif Nat.beq k 241 then (.iload_n 2, 242, 2, 0, []) else am_nop) else (bif Nat.blt k 243 then (bif Nat.beq k 242 then (.iconst 1, 243, 0, 0, [(1, 0)]) else am_nop) else (bif Nat.beq k 243 then (.if_icmp .ne 7, 246, 250, 0, []) else am_nop))) else (bif Nat.blt k 247 then (bif Nat.beq k 246 then (.iconst 2, 247, 0, 0, [(2, 0)]) else am_nop) else (bif Nat.blt k 250 then (bif Nat.beq k 247 then (.goto 4, 250, 251, 0, []) else am_nop) else (bif Nat.beq k 250 then (.iconst 1, 251, 0, 0, [(1, 0)]) else am_nop))))) else (bif Nat.blt k 258 then (bif Nat.blt k 253 then (bif Nat.blt k 252 then (bif Nat.beq k 251 then (.iconst 0, 252, 0, 0, [(0, 0)]) else am_nop) else (bif Nat.beq k 252 then (.iconst 0, 253, 0, 0, [(0, 0)]) else am_nop)) else (bif Nat.blt k 254 then (bif Nat.beq k 253 then (.iconst 0, 254, 0, 0, [(0, 0)]) else am_nop) else (bif Nat.blt k 257 then (bif Nat.beq k 254 then (.invokevirtual 87, 257, 95, 0, [(0, 674)]) else am_nop) else (bif Nat.beq k 257 then (.aload_n 0, 258, 0, 0, []) else am_nop)))) else (bif Nat.blt k 261 then (bif Nat.blt k 259 then (bif Nat.beq k 258 then (.iconst 2, 259, 0, 0, [(2, 0)]) else am_nop) else (bif Nat.blt k 260 then (bif Nat.beq k 259 then (.iload_n 3, 260, 3, 0, []) else am_nop) else (bif Nat.beq k 260 then (.iconst 0, 261, 0, 0, [(0, 0)]) else am_nop))) else (bif Nat.blt k 262 then (bif Nat.beq k 261 then (.iconst 0, 262, 0, 0, [(0, 0)]) else am_nop) else (bif Nat.blt k 263 then (bif Nat.beq k 262 then (.iconst 0, 263, 0, 0, [(0, 0)]) else am_nop) else (bif Nat.beq k 263 then (.invokevirtual 87, 266, 95, 0, [(0, 674)]) else am_nop)))))) else (bif Nat.blt k 281 then (bif Nat.blt k 273 then (bif Nat.blt k 268 then (bif Nat.blt k 267 then (bif Nat.beq k 266 then (.aload_n 0, 267, 0, 0, []) else am_nop) else (bif Nat.beq k 267 then (.iconst 3, 268, 0, 0, [(3, 0)]) else am_nop)) else (bif Nat.blt k 269 then (bif Nat.beq k 268 then (.iload_n 3, 269, 3, 0, []) else am_nop) else (bif Nat.blt k 270 then (bif Nat.beq k 269 then (.aload_n 0, 270, 0, 0, []) else am_nop) else (bif Nat.beq k 270 then (.getfield 20, 273, 7, 5, [(0, 567)]) else am_nop)))) else (bif Nat.blt k 276 then (bif Nat.blt k 274 then (bif Nat.beq k 273 then (.iconst 1, 274, 0, 0, [(1, 0)]) else am_nop) else (bif Nat.blt k 275 then (bif Nat.beq k 274 then (.iadd, 275, 0, 0, []) else am_nop) else (bif Nat.beq k 275 then (.iconst 0, 276, 0, 0, [(0, 0)]) else am_nop))) else (bif Nat.blt k 277 then (bif Nat.beq k 276 then (.iconst 0, 277, 0, 0, [(0, 0)]) else am_nop) else (bif Nat.blt k 280 then (bif Nat.beq k 277 then (.invokevirtual 87, 280, 95, 0, [(0, 674)]) else am_nop) else (bif Nat.beq k 280 then (.iconst 1, 281, 0, 0, [(1, 0)]) else am_nop))))) else (bif Nat.blt k 290 then (bif Nat.blt k 285 then (bif Nat.blt k 283 then (bif Nat.beq k 281 then (.istore 4, 283, 4, 0, []) else am_nop) else (bif Nat.beq k 283 then (.iload 4, 285, 4, 0, []) else am_nop)) else (bif Nat.blt k 286 then (bif Nat.beq k 285 then (.iconst 4, 286, 0, 0, [(4, 0)]) else am_nop) else (bif Nat.blt k 289 then (bif Nat.beq k 286 then (.if_icmp .ge 15, 289, 301, 0, []) else am_nop) else (bif Nat.beq k 289 then (.aload_n 0, 290, 0, 0, []) else am_nop)))) else (bif Nat.blt k 298 then (bif Nat.blt k 292 then (bif Nat.beq k 290 then (.iload 4, 292, 4, 0, []) else am_nop) else (bif Nat.blt k 295 then (bif Nat.beq k 292 then (.invokevirtual 175, 295, 134, 0, [(0, 828)]) else am_nop) else (bif Nat.beq k 295 then (.iinc 4 1, 298, 4, 0, [(1, 0)]) else am_nop))) else (bif Nat.blt k 301 then (bif Nat.beq k 298 then (.goto (-15), 301, 283, 0, []) else am_nop) else (bif Nat.blt k 302 then (bif Nat.beq k 301 then (.iload_n 2, 302, 2, 0, []) else am_nop) else (bif Nat.beq k 302 then (.ireturn, 303, 0, 0, []) else am_nop))))))))
/-- java/lang/Integer.bitCount(I)I -/
def am_c136 (k : Nat) : am_E := bif Nat.blt k 27 then (bif Nat.blt k 14 then (bif Nat.blt k 7 then (bif Nat.blt k 2 then (bif Nat.blt k 1 then (bif Nat.beq k 0 then (.iload_n 0, 1, 0, 0, []) else am_nop) else (bif Nat.beq k 1 then (.iload_n 0, 2, 0, 0, []) else am_nop)) else (bif Nat.blt k 3 then (bif Nat.beq k 2 then (.iconst 1, 3, 0, 0, [(1, 0)]) else am_nop) else (bif Nat.blt k 4 then (bif Nat.beq k 3 then (.iushr, 4, 0, 0, []) else am_nop) else (bif Nat.beq k 4 then (.ldc_w 265, 7, 0, 0, [(1431655765, 451)]) else am_nop)))) else (bif Nat.blt k 9 then (bif Nat.blt k 8 then (bif Nat.beq k 7 then (.iand, 8, 0, 0, []) else am_nop) else (bif Nat.beq k 8 then (.isub, 9, 0, 0, []) else am_nop)) else (bif Nat.blt k 10 then (bif Nat.beq k 9 then (.istore_n 0, 10, 0, 0, []) else am_nop) else (bif Nat.blt k 11 then (bif Nat.beq k 10 then (.iload_n 0, 11, 0, 0, []) else am_nop) else (bif Nat.beq k 11 then (.ldc_w 266, 14, 0, 0, [(858993459, 452)]) else am_nop))))) else (bif Nat.blt k 21 then (bif Nat.blt k 16 then (bif Nat.blt k 15 then (bif Nat.beq k 14 then (.iand, 15, 0, 0, []) else am_nop) else (bif Nat.beq k 15 then (.iload_n 0, 16, 0, 0, []) else am_nop)) else (bif Nat.blt k 17 then (bif Nat.beq k 16 then (.iconst 2, 17, 0, 0, [(2, 0)]) else am_nop) else (bif Nat.blt k 18 then (bif Nat.beq k 17 then (.iushr, 18, 0, 0, []) else am_nop) else (bif Nat.beq k 18 then (.ldc_w 266, 21, 0, 0, [(858993459, 452)]) else am_nop)))) else (bif Nat.blt k 24 then (bif Nat.blt k 22 then (bif Nat.beq k 21 then (.iand, 22, 0, 0, []) else am_nop) else (bif Nat.blt k 23 then (bif Nat.beq k 22 then (.iadd, 23, 0, 0, []) else am_nop) else (bif Nat.beq k 23 then (.istore_n 0, 24, 0, 0, []) else am_nop))) else (bif Nat.blt k 25 then (bif Nat.beq k 24 then (.iload_n 0, 25, 0, 0, []) else am_nop) else (bif Nat.blt k 26 then (bif Nat.beq k 25 then (.iload_n 0, 26, 0, 0, []) else am_nop) else (bif Nat.beq k 26 then (.iconst 4, 27, 0, 0, [(4, 0)]) else am_nop)))))) else (bif Nat.blt k 40 then (bif Nat.blt k 34 then (bif Nat.blt k 29 then (bif Nat.blt k 28 then (bif Nat.beq k 27 then (.iushr, 28, 0, 0, []) else am_nop) else (bif Nat.beq k 28 then (.iadd, 29, 0, 0, []) else am_nop)) else (bif Nat.blt k 32 then (bif Nat.beq k 29 then (.ldc_w 267, 32, 0, 0, [(252645135, 453)]) else am_nop) else (bif Nat.blt k 33 then (bif Nat.beq k 32 then (.iand, 33, 0, 0, []) else am_nop) else (bif Nat.beq k 33 then (.istore_n 0, 34, 0, 0, []) else am_nop)))) else (bif Nat.blt k 36 then (bif Nat.blt k 35 then (bif Nat.beq k 34 then (.iload_n 0, 35, 0, 0, []) else am_nop) else (bif Nat.beq k 35 then (.iload_n 0, 36, 0, 0, []) else am_nop)) else (bif Nat.blt k 38 then (bif Nat.beq k 36 then (.bipush 8, 38, 0, 0, [(8, 0)]) else am_nop) else (bif Nat.blt k 39 then (bif Nat.beq k 38 then (.iushr, 39, 0, 0, []) else am_nop) else (bif Nat.beq k 39 then (.iadd, 40, 0, 0, []) else am_nop))))) else (bif Nat.blt k 46 then (bif Nat.blt k 42 then (bif Nat.blt k 41 then (bif Nat.beq k 40 then (.istore_n 0, 41, 0, 0, []) else am_nop) else (bif Nat.beq k 41 then (.iload_n 0, 42, 0, 0, []) else am_nop)) else (bif Nat.blt k 43 then (bif Nat.beq k 42 then (.iload_n 0, 43, 0, 0, []) else am_nop) else (bif Nat.blt k 45 then (bif Nat.beq k 43 then (.bipush 16, 45, 0, 0, [(16, 0)]) else am_nop) else (bif Nat.beq k 45 then (.iushr, 46, 0, 0, []) else am_nop)))) else (bif Nat.blt k 49 then (bif Nat.blt k 47 then (bif Nat.beq k 46 then (.iadd, 47, 0, 0, []) else am_nop) else (bif Nat.blt k 48 then (bif Nat.beq k 47 then (.istore_n 0, 48, 0, 0, []) else am_nop) else (bif Nat.beq k 48 then (.iload_n 0, 49, 0, 0, []) else am_nop))) else (bif Nat.blt k 51 then (bif Nat.beq k 49 then (.bipush 63, 51, 0, 0, [(63, 0)]) else am_nop) else (bif Nat.blt k 52 then (bif Nat.beq k 51 then (.iand, 52, 0, 0, []) else am_nop) else (bif Nat.beq k 52 then (.ireturn, 53, 0, 0, []) else am_nop))))))
/-- DeedDeskLaw.law([I)Z -/
def am_c137 (k : Nat) : am_E := bif Nat.blt k 452 then (bif Nat.blt k 285 then (bif Nat.blt k 200 then (bif Nat.blt k 155 then (bif Nat.blt k 28 then (bif Nat.blt k 16 then (bif Nat.blt k 8 then (bif Nat.blt k 4 then (bif Nat.blt k 3 then (bif Nat.beq k 0 then (.new 7, 3, 6, 0, [(0, 50)]) else am_nop) else (bif Nat.beq k 3 then (.dup, 4, 0, 0, []) else am_nop)) else (bif Nat.blt k 7 then (bif Nat.beq k 4 then (.invokespecial 9, 7, 49, 0, [(0, 52)]) else am_nop) else (bif Nat.beq k 7 then (.astore_n 1, 8, 1, 0, []) else am_nop))) else (bif Nat.blt k 12 then (bif Nat.blt k 11 then (bif Nat.beq k 8 then (.new 10, 11, 7, 0, [(0, 556)]) else am_nop) else (bif Nat.beq k 11 then (.dup, 12, 0, 0, []) else am_nop)) else (bif Nat.blt k 15 then (bif Nat.beq k 12 then (.invokespecial 12, 15, 84, 0, [(0, 558)]) else am_nop) else (bif Nat.beq k 15 then (.astore_n 2, 16, 2, 0, []) else am_nop)))) else (bif Nat.blt k 20 then (bif Nat.blt k 18 then (bif Nat.blt k 17 then (bif Nat.beq k 16 then (.iconst 0, 17, 0, 0, [(0, 0)]) else am_nop) else (bif Nat.beq k 17 then (.istore_n 3, 18, 3, 0, []) else am_nop)) else (bif Nat.blt k 19 then (bif Nat.beq k 18 then (.iload_n 3, 19, 3, 0, []) else am_nop) else (bif Nat.beq k 19 then (.aload_n 0, 20, 0, 0, []) else am_nop))) else (bif Nat.blt k 23 then (bif Nat.blt k 21 then (bif Nat.beq k 20 then (.arraylength, 21, 0, 0, []) else am_nop) else (bif Nat.beq k 21 then (.bipush 6, 23, 0, 0, [(6, 0)]) else am_nop)) else (bif Nat.blt k 24 then (bif Nat.beq k 23 then (.isub, 24, 0, 0, []) else am_nop) else (bif Nat.blt k 27 then (bif Nat.beq k 24 then (.if_icmp .gt 807, 27, 831, 0, []) else am_nop) else (bif Nat.beq k 27 then (.aload_n 0, 28, 0, 0, []) else am_nop)))))) else (bif Nat.blt k 144 then (bif Nat.blt k 33 then (bif Nat.blt k 30 then (bif Nat.blt k 29 then (bif Nat.beq k 28 then (.iload_n 3, 29, 3, 0, []) else am_nop) else (bif Nat.beq k 29 then (.iaload, 30, 0, 0, []) else am_nop)) else (bif Nat.blt k 32 then (bif Nat.beq k 30 then (.bipush 31, 32, 0, 0, [(31, 0)]) else am_nop) else (bif Nat.beq k 32 then (.iand, 33, 0, 0, []) else am_nop))) else (bif Nat.blt k 141 then (bif Nat.blt k 140 then (bif Nat.beq k 33 then (.tableswitch 792 0 22 #[107, 130, 163, 196, 239, 262, 325, 378, 427, 460, 473, 496, 509, 532, 575, 588, 601, 614, 627, 650, 673, 716, 739], 140, 825, 0, [(0, 140), (1, 163), (2, 196), (3, 229), (4, 272), (5, 295), (6, 358), (7, 411), (8, 460), (9, 493), (10, 506), (11, 529), (12, 542), (13, 565), (14, 608), (15, 621), (16, 634), (17, 647), (18, 660), (19, 683), (20, 706), (21, 749), (22, 772)]) else am_nop) else (bif Nat.beq k 140 then (.aload_n 1, 141, 1, 0, []) else am_nop)) else (bif Nat.blt k 142 then (bif Nat.beq k 141 then (.aload_n 0, 142, 0, 0, []) else am_nop) else (bif Nat.blt k 143 then (bif Nat.beq k 142 then (.iload_n 3, 143, 3, 0, []) else am_nop) else (bif Nat.beq k 143 then (.iconst 1, 144, 0, 0, [(1, 0)]) else am_nop))))) else (bif Nat.blt k 150 then (bif Nat.blt k 146 then (bif Nat.blt k 145 then (bif Nat.beq k 144 then (.iadd, 145, 0, 0, []) else am_nop) else (bif Nat.beq k 145 then (.iaload, 146, 0, 0, []) else am_nop)) else (bif Nat.blt k 149 then (bif Nat.beq k 146 then (.invokevirtual 13, 149, 50, 0, [(0, 229)]) else am_nop) else (bif Nat.beq k 149 then (.pop, 150, 0, 0, []) else am_nop))) else (bif Nat.blt k 152 then (bif Nat.blt k 151 then (bif Nat.beq k 150 then (.aload_n 2, 151, 2, 0, []) else am_nop) else (bif Nat.beq k 151 then (.aload_n 0, 152, 0, 0, []) else am_nop)) else (bif Nat.blt k 153 then (bif Nat.beq k 152 then (.iload_n 3, 153, 3, 0, []) else am_nop) else (bif Nat.blt k 154 then (bif Nat.beq k 153 then (.iconst 1, 154, 0, 0, [(1, 0)]) else am_nop) else (bif Nat.beq k 154 then (.iadd, 155, 0, 0, []) else am_nop))))))) else (bif Nat.blt k 178 then (bif Nat.blt k 167 then (bif Nat.blt k 163 then (bif Nat.blt k 159 then (bif Nat.blt k 156 then (bif Nat.beq k 155 then (.iaload, 156, 0, 0, []) else am_nop) else (bif Nat.beq k 156 then (.invokevirtual 17, 159, 88, 0, [(0, 629)]) else am_nop)) else (bif Nat.blt k 160 then (bif Nat.beq k 159 then (.pop, 160, 0, 0, []) else am_nop) else (bif Nat.beq k 160 then (.goto 665, 163, 825, 0, []) else am_nop))) else (bif Nat.blt k 165 then (bif Nat.blt k 164 then (bif Nat.beq k 163 then (.aload_n 1, 164, 1, 0, []) else am_nop) else (bif Nat.beq k 164 then (.aload_n 0, 165, 0, 0, []) else am_nop)) else (bif Nat.blt k 166 then (bif Nat.beq k 165 then (.iload_n 3, 166, 3, 0, []) else am_nop) else (bif Nat.beq k 166 then (.iconst 1, 167, 0, 0, [(1, 0)]) else am_nop)))) else (bif Nat.blt k 171 then (bif Nat.blt k 169 then (bif Nat.blt k 168 then (bif Nat.beq k 167 then (.iadd, 168, 0, 0, []) else am_nop) else (bif Nat.beq k 168 then (.iaload, 169, 0, 0, []) else am_nop)) else (bif Nat.blt k 170 then (bif Nat.beq k 169 then (.aload_n 0, 170, 0, 0, []) else am_nop) else (bif Nat.beq k 170 then (.iload_n 3, 171, 3, 0, []) else am_nop))) else (bif Nat.blt k 173 then (bif Nat.blt k 172 then (bif Nat.beq k 171 then (.iconst 2, 172, 0, 0, [(2, 0)]) else am_nop) else (bif Nat.beq k 172 then (.iadd, 173, 0, 0, []) else am_nop)) else (bif Nat.blt k 174 then (bif Nat.beq k 173 then (.iaload, 174, 0, 0, []) else am_nop) else (bif Nat.blt k 177 then (bif Nat.beq k 174 then (.invokevirtual 18, 177, 51, 0, [(0, 249)]) else am_nop) else (bif Nat.beq k 177 then (.pop, 178, 0, 0, []) else am_nop)))))) else (bif Nat.blt k 187 then (bif Nat.blt k 182 then (bif Nat.blt k 180 then (bif Nat.blt k 179 then (bif Nat.beq k 178 then (.aload_n 2, 179, 2, 0, []) else am_nop) else (bif Nat.beq k 179 then (.aload_n 0, 180, 0, 0, []) else am_nop)) else (bif Nat.blt k 181 then (bif Nat.beq k 180 then (.iload_n 3, 181, 3, 0, []) else am_nop) else (bif Nat.beq k 181 then (.iconst 1, 182, 0, 0, [(1, 0)]) else am_nop))) else (bif Nat.blt k 184 then (bif Nat.blt k 183 then (bif Nat.beq k 182 then (.iadd, 183, 0, 0, []) else am_nop) else (bif Nat.beq k 183 then (.iaload, 184, 0, 0, []) else am_nop)) else (bif Nat.blt k 185 then (bif Nat.beq k 184 then (.aload_n 0, 185, 0, 0, []) else am_nop) else (bif Nat.blt k 186 then (bif Nat.beq k 185 then (.iload_n 3, 186, 3, 0, []) else am_nop) else (bif Nat.beq k 186 then (.iconst 2, 187, 0, 0, [(2, 0)]) else am_nop))))) else (bif Nat.blt k 193 then (bif Nat.blt k 189 then (bif Nat.blt k 188 then (bif Nat.beq k 187 then (.iadd, 188, 0, 0, []) else am_nop) else (bif Nat.beq k 188 then (.iaload, 189, 0, 0, []) else am_nop)) else (bif Nat.blt k 192 then (bif Nat.beq k 189 then (.invokevirtual 22, 192, 89, 0, [(0, 636)]) else am_nop) else (bif Nat.beq k 192 then (.pop, 193, 0, 0, []) else am_nop))) else (bif Nat.blt k 197 then (bif Nat.blt k 196 then (bif Nat.beq k 193 then (.goto 632, 196, 825, 0, []) else am_nop) else (bif Nat.beq k 196 then (.aload_n 1, 197, 1, 0, []) else am_nop)) else (bif Nat.blt k 198 then (bif Nat.beq k 197 then (.aload_n 0, 198, 0, 0, []) else am_nop) else (bif Nat.blt k 199 then (bif Nat.beq k 198 then (.iload_n 3, 199, 3, 0, []) else am_nop) else (bif Nat.beq k 199 then (.iconst 1, 200, 0, 0, [(1, 0)]) else am_nop)))))))) else (bif Nat.blt k 241 then (bif Nat.blt k 219 then (bif Nat.blt k 210 then (bif Nat.blt k 204 then (bif Nat.blt k 202 then (bif Nat.blt k 201 then (bif Nat.beq k 200 then (.iadd, 201, 0, 0, []) else am_nop) else (bif Nat.beq k 201 then (.iaload, 202, 0, 0, []) else am_nop)) else (bif Nat.blt k 203 then (bif Nat.beq k 202 then (.aload_n 0, 203, 0, 0, []) else am_nop) else (bif Nat.beq k 203 then (.iload_n 3, 204, 3, 0, []) else am_nop))) else (bif Nat.blt k 206 then (bif Nat.blt k 205 then (bif Nat.beq k 204 then (.iconst 2, 205, 0, 0, [(2, 0)]) else am_nop) else (bif Nat.beq k 205 then (.iadd, 206, 0, 0, []) else am_nop)) else (bif Nat.blt k 207 then (bif Nat.beq k 206 then (.iaload, 207, 0, 0, []) else am_nop) else (bif Nat.beq k 207 then (.invokevirtual 23, 210, 52, 0, [(0, 267)]) else am_nop)))) else (bif Nat.blt k 214 then (bif Nat.blt k 212 then (bif Nat.blt k 211 then (bif Nat.beq k 210 then (.pop, 211, 0, 0, []) else am_nop) else (bif Nat.beq k 211 then (.aload_n 2, 212, 2, 0, []) else am_nop)) else (bif Nat.blt k 213 then (bif Nat.beq k 212 then (.aload_n 0, 213, 0, 0, []) else am_nop) else (bif Nat.beq k 213 then (.iload_n 3, 214, 3, 0, []) else am_nop))) else (bif Nat.blt k 216 then (bif Nat.blt k 215 then (bif Nat.beq k 214 then (.iconst 1, 215, 0, 0, [(1, 0)]) else am_nop) else (bif Nat.beq k 215 then (.iadd, 216, 0, 0, []) else am_nop)) else (bif Nat.blt k 217 then (bif Nat.beq k 216 then (.iaload, 217, 0, 0, []) else am_nop) else (bif Nat.blt k 218 then (bif Nat.beq k 217 then (.aload_n 0, 218, 0, 0, []) else am_nop) else (bif Nat.beq k 218 then (.iload_n 3, 219, 3, 0, []) else am_nop)))))) else (bif Nat.blt k 232 then (bif Nat.blt k 225 then (bif Nat.blt k 221 then (bif Nat.blt k 220 then (bif Nat.beq k 219 then (.iconst 2, 220, 0, 0, [(2, 0)]) else am_nop) else (bif Nat.beq k 220 then (.iadd, 221, 0, 0, []) else am_nop)) else (bif Nat.blt k 222 then (bif Nat.beq k 221 then (.iaload, 222, 0, 0, []) else am_nop) else (bif Nat.beq k 222 then (.invokevirtual 26, 225, 91, 0, [(0, 647)]) else am_nop))) else (bif Nat.blt k 229 then (bif Nat.blt k 226 then (bif Nat.beq k 225 then (.pop, 226, 0, 0, []) else am_nop) else (bif Nat.beq k 226 then (.goto 599, 229, 825, 0, []) else am_nop)) else (bif Nat.blt k 230 then (bif Nat.beq k 229 then (.aload_n 1, 230, 1, 0, []) else am_nop) else (bif Nat.blt k 231 then (bif Nat.beq k 230 then (.aload_n 0, 231, 0, 0, []) else am_nop) else (bif Nat.beq k 231 then (.iload_n 3, 232, 3, 0, []) else am_nop))))) else (bif Nat.blt k 236 then (bif Nat.blt k 234 then (bif Nat.blt k 233 then (bif Nat.beq k 232 then (.iconst 1, 233, 0, 0, [(1, 0)]) else am_nop) else (bif Nat.beq k 233 then (.iadd, 234, 0, 0, []) else am_nop)) else (bif Nat.blt k 235 then (bif Nat.beq k 234 then (.iaload, 235, 0, 0, []) else am_nop) else (bif Nat.beq k 235 then (.aload_n 0, 236, 0, 0, []) else am_nop))) else (bif Nat.blt k 238 then (bif Nat.blt k 237 then (bif Nat.beq k 236 then (.iload_n 3, 237, 3, 0, []) else am_nop) else (bif Nat.beq k 237 then (.iconst 2, 238, 0, 0, [(2, 0)]) else am_nop)) else (bif Nat.blt k 239 then (bif Nat.beq k 238 then (.iadd, 239, 0, 0, []) else am_nop) else (bif Nat.blt k 240 then (bif Nat.beq k 239 then (.iaload, 240, 0, 0, []) else am_nop) else (bif Nat.beq k 240 then (.aload_n 0, 241, 0, 0, []) else am_nop))))))) else (bif Nat.blt k 261 then (bif Nat.blt k 252 then (bif Nat.blt k 245 then (bif Nat.blt k 243 then (bif Nat.blt k 242 then (bif Nat.beq k 241 then (.iload_n 3, 242, 3, 0, []) else am_nop) else (bif Nat.beq k 242 then (.iconst 3, 243, 0, 0, [(3, 0)]) else am_nop)) else (bif Nat.blt k 244 then (bif Nat.beq k 243 then (.iadd, 244, 0, 0, []) else am_nop) else (bif Nat.beq k 244 then (.iaload, 245, 0, 0, []) else am_nop))) else (bif Nat.blt k 249 then (bif Nat.blt k 248 then (bif Nat.beq k 245 then (.invokevirtual 27, 248, 53, 0, [(0, 274)]) else am_nop) else (bif Nat.beq k 248 then (.pop, 249, 0, 0, []) else am_nop)) else (bif Nat.blt k 250 then (bif Nat.beq k 249 then (.aload_n 2, 250, 2, 0, []) else am_nop) else (bif Nat.blt k 251 then (bif Nat.beq k 250 then (.aload_n 0, 251, 0, 0, []) else am_nop) else (bif Nat.beq k 251 then (.iload_n 3, 252, 3, 0, []) else am_nop))))) else (bif Nat.blt k 256 then (bif Nat.blt k 254 then (bif Nat.blt k 253 then (bif Nat.beq k 252 then (.iconst 1, 253, 0, 0, [(1, 0)]) else am_nop) else (bif Nat.beq k 253 then (.iadd, 254, 0, 0, []) else am_nop)) else (bif Nat.blt k 255 then (bif Nat.beq k 254 then (.iaload, 255, 0, 0, []) else am_nop) else (bif Nat.beq k 255 then (.aload_n 0, 256, 0, 0, []) else am_nop))) else (bif Nat.blt k 258 then (bif Nat.blt k 257 then (bif Nat.beq k 256 then (.iload_n 3, 257, 3, 0, []) else am_nop) else (bif Nat.beq k 257 then (.iconst 2, 258, 0, 0, [(2, 0)]) else am_nop)) else (bif Nat.blt k 259 then (bif Nat.beq k 258 then (.iadd, 259, 0, 0, []) else am_nop) else (bif Nat.blt k 260 then (bif Nat.beq k 259 then (.iaload, 260, 0, 0, []) else am_nop) else (bif Nat.beq k 260 then (.aload_n 0, 261, 0, 0, []) else am_nop)))))) else (bif Nat.blt k 274 then (bif Nat.blt k 265 then (bif Nat.blt k 263 then (bif Nat.blt k 262 then (bif Nat.beq k 261 then (.iload_n 3, 262, 3, 0, []) else am_nop) else (bif Nat.beq k 262 then (.iconst 3, 263, 0, 0, [(3, 0)]) else am_nop)) else (bif Nat.blt k 264 then (bif Nat.beq k 263 then (.iadd, 264, 0, 0, []) else am_nop) else (bif Nat.beq k 264 then (.iaload, 265, 0, 0, []) else am_nop))) else (bif Nat.blt k 269 then (bif Nat.blt k 268 then (bif Nat.beq k 265 then (.invokevirtual 31, 268, 92, 0, [(0, 651)]) else am_nop) else (bif Nat.beq k 268 then (.pop, 269, 0, 0, []) else am_nop)) else (bif Nat.blt k 272 then (bif Nat.beq k 269 then (.goto 556, 272, 825, 0, []) else am_nop) else (bif Nat.blt k 273 then (bif Nat.beq k 272 then (.aload_n 1, 273, 1, 0, []) else am_nop) else (bif Nat.beq k 273 then (.aload_n 0, 274, 0, 0, []) else am_nop))))) else (bif Nat.blt k 278 then (bif Nat.blt k 276 then (bif Nat.blt k 275 then (bif Nat.beq k 274 then (.iload_n 3, 275, 3, 0, []) else am_nop) else (bif Nat.beq k 275 then (.iconst 1, 276, 0, 0, [(1, 0)]) else am_nop)) else (bif Nat.blt k 277 then (bif Nat.beq k 276 then (.iadd, 277, 0, 0, []) else am_nop) else (bif Nat.beq k 277 then (.iaload, 278, 0, 0, []) else am_nop))) else (bif Nat.blt k 282 then (bif Nat.blt k 281 then (bif Nat.beq k 278 then (.invokevirtual 32, 281, 54, 0, [(0, 285)]) else am_nop) else (bif Nat.beq k 281 then (.pop, 282, 0, 0, []) else am_nop)) else (bif Nat.blt k 283 then (bif Nat.beq k 282 then (.aload_n 2, 283, 2, 0, []) else am_nop) else (bif Nat.blt k 284 then (bif Nat.beq k 283 then (.aload_n 0, 284, 0, 0, []) else am_nop) else (bif Nat.beq k 284 then (.iload_n 3, 285, 3, 0, []) else am_nop))))))))) else (bif Nat.blt k 365 then (bif Nat.blt k 326 then (bif Nat.blt k 306 then (bif Nat.blt k 297 then (bif Nat.blt k 291 then (bif Nat.blt k 287 then (bif Nat.blt k 286 then (bif Nat.beq k 285 then (.iconst 1, 286, 0, 0, [(1, 0)]) else am_nop) else (bif Nat.beq k 286 then (.iadd, 287, 0, 0, []) else am_nop)) else (bif Nat.blt k 288 then (bif Nat.beq k 287 then (.iaload, 288, 0, 0, []) else am_nop) else (bif Nat.beq k 288 then (.invokevirtual 35, 291, 93, 0, [(0, 658)]) else am_nop))) else (bif Nat.blt k 295 then (bif Nat.blt k 292 then (bif Nat.beq k 291 then (.pop, 292, 0, 0, []) else am_nop) else (bif Nat.beq k 292 then (.goto 533, 295, 825, 0, []) else am_nop)) else (bif Nat.blt k 296 then (bif Nat.beq k 295 then (.aload_n 1, 296, 1, 0, []) else am_nop) else (bif Nat.beq k 296 then (.aload_n 0, 297, 0, 0, []) else am_nop)))) else (bif Nat.blt k 301 then (bif Nat.blt k 299 then (bif Nat.blt k 298 then (bif Nat.beq k 297 then (.iload_n 3, 298, 3, 0, []) else am_nop) else (bif Nat.beq k 298 then (.iconst 1, 299, 0, 0, [(1, 0)]) else am_nop)) else (bif Nat.blt k 300 then (bif Nat.beq k 299 then (.iadd, 300, 0, 0, []) else am_nop) else (bif Nat.beq k 300 then (.iaload, 301, 0, 0, []) else am_nop))) else (bif Nat.blt k 303 then (bif Nat.blt k 302 then (bif Nat.beq k 301 then (.aload_n 0, 302, 0, 0, []) else am_nop) else (bif Nat.beq k 302 then (.iload_n 3, 303, 3, 0, []) else am_nop)) else (bif Nat.blt k 304 then (bif Nat.beq k 303 then (.iconst 2, 304, 0, 0, [(2, 0)]) else am_nop) else (bif Nat.blt k 305 then (bif Nat.beq k 304 then (.iadd, 305, 0, 0, []) else am_nop) else (bif Nat.beq k 305 then (.iaload, 306, 0, 0, []) else am_nop)))))) else (bif Nat.blt k 315 then (bif Nat.blt k 310 then (bif Nat.blt k 308 then (bif Nat.blt k 307 then (bif Nat.beq k 306 then (.aload_n 0, 307, 0, 0, []) else am_nop) else (bif Nat.beq k 307 then (.iload_n 3, 308, 3, 0, []) else am_nop)) else (bif Nat.blt k 309 then (bif Nat.beq k 308 then (.iconst 3, 309, 0, 0, [(3, 0)]) else am_nop) else (bif Nat.beq k 309 then (.iadd, 310, 0, 0, []) else am_nop))) else (bif Nat.blt k 312 then (bif Nat.blt k 311 then (bif Nat.beq k 310 then (.iaload, 311, 0, 0, []) else am_nop) else (bif Nat.beq k 311 then (.aload_n 0, 312, 0, 0, []) else am_nop)) else (bif Nat.blt k 313 then (bif Nat.beq k 312 then (.iload_n 3, 313, 3, 0, []) else am_nop) else (bif Nat.blt k 314 then (bif Nat.beq k 313 then (.iconst 4, 314, 0, 0, [(4, 0)]) else am_nop) else (bif Nat.beq k 314 then (.iadd, 315, 0, 0, []) else am_nop))))) else (bif Nat.blt k 319 then (bif Nat.blt k 317 then (bif Nat.blt k 316 then (bif Nat.beq k 315 then (.iaload, 316, 0, 0, []) else am_nop) else (bif Nat.beq k 316 then (.aload_n 0, 317, 0, 0, []) else am_nop)) else (bif Nat.blt k 318 then (bif Nat.beq k 317 then (.iload_n 3, 318, 3, 0, []) else am_nop) else (bif Nat.beq k 318 then (.iconst 5, 319, 0, 0, [(5, 0)]) else am_nop))) else (bif Nat.blt k 321 then (bif Nat.blt k 320 then (bif Nat.beq k 319 then (.iadd, 320, 0, 0, []) else am_nop) else (bif Nat.beq k 320 then (.iaload, 321, 0, 0, []) else am_nop)) else (bif Nat.blt k 324 then (bif Nat.beq k 321 then (.invokevirtual 36, 324, 55, 0, [(0, 289)]) else am_nop) else (bif Nat.blt k 325 then (bif Nat.beq k 324 then (.pop, 325, 0, 0, []) else am_nop) else (bif Nat.beq k 325 then (.aload_n 2, 326, 2, 0, []) else am_nop))))))) else (bif Nat.blt k 343 then (bif Nat.blt k 334 then (bif Nat.blt k 330 then (bif Nat.blt k 328 then (bif Nat.blt k 327 then (bif Nat.beq k 326 then (.aload_n 0, 327, 0, 0, []) else am_nop) else (bif Nat.beq k 327 then (.iload_n 3, 328, 3, 0, []) else am_nop)) else (bif Nat.blt k 329 then (bif Nat.beq k 328 then (.iconst 1, 329, 0, 0, [(1, 0)]) else am_nop) else (bif Nat.beq k 329 then (.iadd, 330, 0, 0, []) else am_nop))) else (bif Nat.blt k 332 then (bif Nat.blt k 331 then (bif Nat.beq k 330 then (.iaload, 331, 0, 0, []) else am_nop) else (bif Nat.beq k 331 then (.aload_n 0, 332, 0, 0, []) else am_nop)) else (bif Nat.blt k 333 then (bif Nat.beq k 332 then (.iload_n 3, 333, 3, 0, []) else am_nop) else (bif Nat.beq k 333 then (.iconst 2, 334, 0, 0, [(2, 0)]) else am_nop)))) else (bif Nat.blt k 338 then (bif Nat.blt k 336 then (bif Nat.blt k 335 then (bif Nat.beq k 334 then (.iadd, 335, 0, 0, []) else am_nop) else (bif Nat.beq k 335 then (.iaload, 336, 0, 0, []) else am_nop)) else (bif Nat.blt k 337 then (bif Nat.beq k 336 then (.aload_n 0, 337, 0, 0, []) else am_nop) else (bif Nat.beq k 337 then (.iload_n 3, 338, 3, 0, []) else am_nop))) else (bif Nat.blt k 340 then (bif Nat.blt k 339 then (bif Nat.beq k 338 then (.iconst 3, 339, 0, 0, [(3, 0)]) else am_nop) else (bif Nat.beq k 339 then (.iadd, 340, 0, 0, []) else am_nop)) else (bif Nat.blt k 341 then (bif Nat.beq k 340 then (.iaload, 341, 0, 0, []) else am_nop) else (bif Nat.blt k 342 then (bif Nat.beq k 341 then (.aload_n 0, 342, 0, 0, []) else am_nop) else (bif Nat.beq k 342 then (.iload_n 3, 343, 3, 0, []) else am_nop)))))) else (bif Nat.blt k 354 then (bif Nat.blt k 347 then (bif Nat.blt k 345 then (bif Nat.blt k 344 then (bif Nat.beq k 343 then (.iconst 4, 344, 0, 0, [(4, 0)]) else am_nop) else (bif Nat.beq k 344 then (.iadd, 345, 0, 0, []) else am_nop)) else (bif Nat.blt k 346 then (bif Nat.beq k 345 then (.iaload, 346, 0, 0, []) else am_nop) else (bif Nat.beq k 346 then (.aload_n 0, 347, 0, 0, []) else am_nop))) else (bif Nat.blt k 349 then (bif Nat.blt k 348 then (bif Nat.beq k 347 then (.iload_n 3, 348, 3, 0, []) else am_nop) else (bif Nat.beq k 348 then (.iconst 5, 349, 0, 0, [(5, 0)]) else am_nop)) else (bif Nat.blt k 350 then (bif Nat.beq k 349 then (.iadd, 350, 0, 0, []) else am_nop) else (bif Nat.blt k 351 then (bif Nat.beq k 350 then (.iaload, 351, 0, 0, []) else am_nop) else (bif Nat.beq k 351 then (.invokevirtual 40, 354, 96, 0, [(0, 662)]) else am_nop))))) else (bif Nat.blt k 360 then (bif Nat.blt k 358 then (bif Nat.blt k 355 then (bif Nat.beq k 354 then (.pop, 355, 0, 0, []) else am_nop) else (bif Nat.beq k 355 then (.goto 470, 358, 825, 0, []) else am_nop)) else (bif Nat.blt k 359 then (bif Nat.beq k 358 then (.aload_n 1, 359, 1, 0, []) else am_nop) else (bif Nat.beq k 359 then (.aload_n 0, 360, 0, 0, []) else am_nop))) else (bif Nat.blt k 362 then (bif Nat.blt k 361 then (bif Nat.beq k 360 then (.iload_n 3, 361, 3, 0, []) else am_nop) else (bif Nat.beq k 361 then (.iconst 1, 362, 0, 0, [(1, 0)]) else am_nop)) else (bif Nat.blt k 363 then (bif Nat.beq k 362 then (.iadd, 363, 0, 0, []) else am_nop) else (bif Nat.blt k 364 then (bif Nat.beq k 363 then (.iaload, 364, 0, 0, []) else am_nop) else (bif Nat.beq k 364 then (.aload_n 0, 365, 0, 0, []) else am_nop)))))))) else (bif Nat.blt k 402 then (bif Nat.blt k 384 then (bif Nat.blt k 373 then (bif Nat.blt k 369 then (bif Nat.blt k 367 then (bif Nat.blt k 366 then (bif Nat.beq k 365 then (.iload_n 3, 366, 3, 0, []) else am_nop) else (bif Nat.beq k 366 then (.iconst 2, 367, 0, 0, [(2, 0)]) else am_nop)) else (bif Nat.blt k 368 then (bif Nat.beq k 367 then (.iadd, 368, 0, 0, []) else am_nop) else (bif Nat.beq k 368 then (.iaload, 369, 0, 0, []) else am_nop))) else (bif Nat.blt k 371 then (bif Nat.blt k 370 then (bif Nat.beq k 369 then (.aload_n 0, 370, 0, 0, []) else am_nop) else (bif Nat.beq k 370 then (.iload_n 3, 371, 3, 0, []) else am_nop)) else (bif Nat.blt k 372 then (bif Nat.beq k 371 then (.iconst 3, 372, 0, 0, [(3, 0)]) else am_nop) else (bif Nat.beq k 372 then (.iadd, 373, 0, 0, []) else am_nop)))) else (bif Nat.blt k 377 then (bif Nat.blt k 375 then (bif Nat.blt k 374 then (bif Nat.beq k 373 then (.iaload, 374, 0, 0, []) else am_nop) else (bif Nat.beq k 374 then (.aload_n 0, 375, 0, 0, []) else am_nop)) else (bif Nat.blt k 376 then (bif Nat.beq k 375 then (.iload_n 3, 376, 3, 0, []) else am_nop) else (bif Nat.beq k 376 then (.iconst 4, 377, 0, 0, [(4, 0)]) else am_nop))) else (bif Nat.blt k 379 then (bif Nat.blt k 378 then (bif Nat.beq k 377 then (.iadd, 378, 0, 0, []) else am_nop) else (bif Nat.beq k 378 then (.iaload, 379, 0, 0, []) else am_nop)) else (bif Nat.blt k 382 then (bif Nat.beq k 379 then (.invokevirtual 41, 382, 56, 0, [(0, 308)]) else am_nop) else (bif Nat.blt k 383 then (bif Nat.beq k 382 then (.pop, 383, 0, 0, []) else am_nop) else (bif Nat.beq k 383 then (.aload_n 2, 384, 2, 0, []) else am_nop)))))) else (bif Nat.blt k 393 then (bif Nat.blt k 388 then (bif Nat.blt k 386 then (bif Nat.blt k 385 then (bif Nat.beq k 384 then (.aload_n 0, 385, 0, 0, []) else am_nop) else (bif Nat.beq k 385 then (.iload_n 3, 386, 3, 0, []) else am_nop)) else (bif Nat.blt k 387 then (bif Nat.beq k 386 then (.iconst 1, 387, 0, 0, [(1, 0)]) else am_nop) else (bif Nat.beq k 387 then (.iadd, 388, 0, 0, []) else am_nop))) else (bif Nat.blt k 390 then (bif Nat.blt k 389 then (bif Nat.beq k 388 then (.iaload, 389, 0, 0, []) else am_nop) else (bif Nat.beq k 389 then (.aload_n 0, 390, 0, 0, []) else am_nop)) else (bif Nat.blt k 391 then (bif Nat.beq k 390 then (.iload_n 3, 391, 3, 0, []) else am_nop) else (bif Nat.blt k 392 then (bif Nat.beq k 391 then (.iconst 2, 392, 0, 0, [(2, 0)]) else am_nop) else (bif Nat.beq k 392 then (.iadd, 393, 0, 0, []) else am_nop))))) else (bif Nat.blt k 397 then (bif Nat.blt k 395 then (bif Nat.blt k 394 then (bif Nat.beq k 393 then (.iaload, 394, 0, 0, []) else am_nop) else (bif Nat.beq k 394 then (.aload_n 0, 395, 0, 0, []) else am_nop)) else (bif Nat.blt k 396 then (bif Nat.beq k 395 then (.iload_n 3, 396, 3, 0, []) else am_nop) else (bif Nat.beq k 396 then (.iconst 3, 397, 0, 0, [(3, 0)]) else am_nop))) else (bif Nat.blt k 399 then (bif Nat.blt k 398 then (bif Nat.beq k 397 then (.iadd, 398, 0, 0, []) else am_nop) else (bif Nat.beq k 398 then (.iaload, 399, 0, 0, []) else am_nop)) else (bif Nat.blt k 400 then (bif Nat.beq k 399 then (.aload_n 0, 400, 0, 0, []) else am_nop) else (bif Nat.blt k 401 then (bif Nat.beq k 400 then (.iload_n 3, 401, 3, 0, []) else am_nop) else (bif Nat.beq k 401 then (.iconst 4, 402, 0, 0, [(4, 0)]) else am_nop))))))) else (bif Nat.blt k 426 then (bif Nat.blt k 415 then (bif Nat.blt k 408 then (bif Nat.blt k 404 then (bif Nat.blt k 403 then (bif Nat.beq k 402 then (.iadd, 403, 0, 0, []) else am_nop) else (bif Nat.beq k 403 then (.iaload, 404, 0, 0, []) else am_nop)) else (bif Nat.blt k 407 then (bif Nat.beq k 404 then (.invokevirtual 45, 407, 104, 0, [(0, 705)]) else am_nop) else (bif Nat.beq k 407 then (.pop, 408, 0, 0, []) else am_nop))) else (bif Nat.blt k 412 then (bif Nat.blt k 411 then (bif Nat.beq k 408 then (.goto 417, 411, 825, 0, []) else am_nop) else (bif Nat.beq k 411 then (.aload_n 1, 412, 1, 0, []) else am_nop)) else (bif Nat.blt k 413 then (bif Nat.beq k 412 then (.aload_n 0, 413, 0, 0, []) else am_nop) else (bif Nat.blt k 414 then (bif Nat.beq k 413 then (.iload_n 3, 414, 3, 0, []) else am_nop) else (bif Nat.beq k 414 then (.iconst 1, 415, 0, 0, [(1, 0)]) else am_nop))))) else (bif Nat.blt k 419 then (bif Nat.blt k 417 then (bif Nat.blt k 416 then (bif Nat.beq k 415 then (.iadd, 416, 0, 0, []) else am_nop) else (bif Nat.beq k 416 then (.iaload, 417, 0, 0, []) else am_nop)) else (bif Nat.blt k 418 then (bif Nat.beq k 417 then (.aload_n 0, 418, 0, 0, []) else am_nop) else (bif Nat.beq k 418 then (.iload_n 3, 419, 3, 0, []) else am_nop))) else (bif Nat.blt k 421 then (bif Nat.blt k 420 then (bif Nat.beq k 419 then (.iconst 2, 420, 0, 0, [(2, 0)]) else am_nop) else (bif Nat.beq k 420 then (.iadd, 421, 0, 0, []) else am_nop)) else (bif Nat.blt k 422 then (bif Nat.beq k 421 then (.iaload, 422, 0, 0, []) else am_nop) else (bif Nat.blt k 425 then (bif Nat.beq k 422 then (.ifCond .eq 7, 425, 429, 0, []) else am_nop) else (bif Nat.beq k 425 then (.iconst 1, 426, 0, 0, [(1, 0)]) else am_nop)))))) else (bif Nat.blt k 439 then (bif Nat.blt k 434 then (bif Nat.blt k 430 then (bif Nat.blt k 429 then (bif Nat.beq k 426 then (.goto 4, 429, 430, 0, []) else am_nop) else (bif Nat.beq k 429 then (.iconst 0, 430, 0, 0, [(0, 0)]) else am_nop)) else (bif Nat.blt k 433 then (bif Nat.beq k 430 then (.invokevirtual 46, 433, 57, 0, [(0, 330)]) else am_nop) else (bif Nat.beq k 433 then (.pop, 434, 0, 0, []) else am_nop))) else (bif Nat.blt k 436 then (bif Nat.blt k 435 then (bif Nat.beq k 434 then (.aload_n 2, 435, 2, 0, []) else am_nop) else (bif Nat.beq k 435 then (.aload_n 0, 436, 0, 0, []) else am_nop)) else (bif Nat.blt k 437 then (bif Nat.beq k 436 then (.iload_n 3, 437, 3, 0, []) else am_nop) else (bif Nat.blt k 438 then (bif Nat.beq k 437 then (.iconst 1, 438, 0, 0, [(1, 0)]) else am_nop) else (bif Nat.beq k 438 then (.iadd, 439, 0, 0, []) else am_nop))))) else (bif Nat.blt k 443 then (bif Nat.blt k 441 then (bif Nat.blt k 440 then (bif Nat.beq k 439 then (.iaload, 440, 0, 0, []) else am_nop) else (bif Nat.beq k 440 then (.aload_n 0, 441, 0, 0, []) else am_nop)) else (bif Nat.blt k 442 then (bif Nat.beq k 441 then (.iload_n 3, 442, 3, 0, []) else am_nop) else (bif Nat.beq k 442 then (.iconst 2, 443, 0, 0, [(2, 0)]) else am_nop))) else (bif Nat.blt k 445 then (bif Nat.blt k 444 then (bif Nat.beq k 443 then (.iadd, 444, 0, 0, []) else am_nop) else (bif Nat.beq k 444 then (.iaload, 445, 0, 0, []) else am_nop)) else (bif Nat.blt k 448 then (bif Nat.beq k 445 then (.ifCond .eq 7, 448, 452, 0, []) else am_nop) else (bif Nat.blt k 449 then (bif Nat.beq k 448 then (.iconst 1, 449, 0, 0, [(1, 0)]) else am_nop) else (bif Nat.beq k 449 then (.goto 4, 452, 453, 0, []) else am_nop)))))))))) else (bif Nat.blt k 653 then (bif Nat.blt k 552 then (bif Nat.blt k 499 then (bif Nat.blt k 475 then (bif Nat.blt k 464 then (bif Nat.blt k 460 then (bif Nat.blt k 456 then (bif Nat.blt k 453 then (bif Nat.beq k 452 then (.iconst 0, 453, 0, 0, [(0, 0)]) else am_nop) else (bif Nat.beq k 453 then (.invokevirtual 50, 456, 97, 0, [(0, 678)]) else am_nop)) else (bif Nat.blt k 457 then (bif Nat.beq k 456 then (.pop, 457, 0, 0, []) else am_nop) else (bif Nat.beq k 457 then (.goto 368, 460, 825, 0, []) else am_nop))) else (bif Nat.blt k 462 then (bif Nat.blt k 461 then (bif Nat.beq k 460 then (.aload_n 1, 461, 1, 0, []) else am_nop) else (bif Nat.beq k 461 then (.aload_n 0, 462, 0, 0, []) else am_nop)) else (bif Nat.blt k 463 then (bif Nat.beq k 462 then (.iload_n 3, 463, 3, 0, []) else am_nop) else (bif Nat.beq k 463 then (.iconst 1, 464, 0, 0, [(1, 0)]) else am_nop)))) else (bif Nat.blt k 468 then (bif Nat.blt k 466 then (bif Nat.blt k 465 then (bif Nat.beq k 464 then (.iadd, 465, 0, 0, []) else am_nop) else (bif Nat.beq k 465 then (.iaload, 466, 0, 0, []) else am_nop)) else (bif Nat.blt k 467 then (bif Nat.beq k 466 then (.aload_n 0, 467, 0, 0, []) else am_nop) else (bif Nat.beq k 467 then (.iload_n 3, 468, 3, 0, []) else am_nop))) else (bif Nat.blt k 470 then (bif Nat.blt k 469 then (bif Nat.beq k 468 then (.iconst 2, 469, 0, 0, [(2, 0)]) else am_nop) else (bif Nat.beq k 469 then (.iadd, 470, 0, 0, []) else am_nop)) else (bif Nat.blt k 471 then (bif Nat.beq k 470 then (.iaload, 471, 0, 0, []) else am_nop) else (bif Nat.blt k 474 then (bif Nat.beq k 471 then (.invokevirtual 51, 474, 58, 0, [(0, 347)]) else am_nop) else (bif Nat.beq k 474 then (.pop, 475, 0, 0, []) else am_nop)))))) else (bif Nat.blt k 484 then (bif Nat.blt k 479 then (bif Nat.blt k 477 then (bif Nat.blt k 476 then (bif Nat.beq k 475 then (.aload_n 2, 476, 2, 0, []) else am_nop) else (bif Nat.beq k 476 then (.aload_n 0, 477, 0, 0, []) else am_nop)) else (bif Nat.blt k 478 then (bif Nat.beq k 477 then (.iload_n 3, 478, 3, 0, []) else am_nop) else (bif Nat.beq k 478 then (.iconst 1, 479, 0, 0, [(1, 0)]) else am_nop))) else (bif Nat.blt k 481 then (bif Nat.blt k 480 then (bif Nat.beq k 479 then (.iadd, 480, 0, 0, []) else am_nop) else (bif Nat.beq k 480 then (.iaload, 481, 0, 0, []) else am_nop)) else (bif Nat.blt k 482 then (bif Nat.beq k 481 then (.aload_n 0, 482, 0, 0, []) else am_nop) else (bif Nat.blt k 483 then (bif Nat.beq k 482 then (.iload_n 3, 483, 3, 0, []) else am_nop) else (bif Nat.beq k 483 then (.iconst 2, 484, 0, 0, [(2, 0)]) else am_nop))))) else (bif Nat.blt k 490 then (bif Nat.blt k 486 then (bif Nat.blt k 485 then (bif Nat.beq k 484 then (.iadd, 485, 0, 0, []) else am_nop) else (bif Nat.beq k 485 then (.iaload, 486, 0, 0, []) else am_nop)) else (bif Nat.blt k 489 then (bif Nat.beq k 486 then (.invokevirtual 54, 489, 98, 0, [(0, 682)]) else am_nop) else (bif Nat.beq k 489 then (.pop, 490, 0, 0, []) else am_nop))) else (bif Nat.blt k 494 then (bif Nat.blt k 493 then (bif Nat.beq k 490 then (.goto 335, 493, 825, 0, []) else am_nop) else (bif Nat.beq k 493 then (.aload_n 1, 494, 1, 0, []) else am_nop)) else (bif Nat.blt k 497 then (bif Nat.beq k 494 then (.invokevirtual 55, 497, 59, 0, [(0, 351)]) else am_nop) else (bif Nat.blt k 498 then (bif Nat.beq k 497 then (.pop, 498, 0, 0, []) else am_nop) else (bif Nat.beq k 498 then (.aload_n 2, 499, 2, 0, []) else am_nop))))))) else (bif Nat.blt k 522 then (bif Nat.blt k 511 then (bif Nat.blt k 507 then (bif Nat.blt k 503 then (bif Nat.blt k 502 then (bif Nat.beq k 499 then (.invokevirtual 59, 502, 99, 0, [(0, 686)]) else am_nop) else (bif Nat.beq k 502 then (.pop, 503, 0, 0, []) else am_nop)) else (bif Nat.blt k 506 then (bif Nat.beq k 503 then (.goto 322, 506, 825, 0, []) else am_nop) else (bif Nat.beq k 506 then (.aload_n 1, 507, 1, 0, []) else am_nop))) else (bif Nat.blt k 509 then (bif Nat.blt k 508 then (bif Nat.beq k 507 then (.aload_n 0, 508, 0, 0, []) else am_nop) else (bif Nat.beq k 508 then (.iload_n 3, 509, 3, 0, []) else am_nop)) else (bif Nat.blt k 510 then (bif Nat.beq k 509 then (.iconst 1, 510, 0, 0, [(1, 0)]) else am_nop) else (bif Nat.beq k 510 then (.iadd, 511, 0, 0, []) else am_nop)))) else (bif Nat.blt k 517 then (bif Nat.blt k 515 then (bif Nat.blt k 512 then (bif Nat.beq k 511 then (.iaload, 512, 0, 0, []) else am_nop) else (bif Nat.beq k 512 then (.invokevirtual 60, 515, 60, 0, [(0, 359)]) else am_nop)) else (bif Nat.blt k 516 then (bif Nat.beq k 515 then (.pop, 516, 0, 0, []) else am_nop) else (bif Nat.beq k 516 then (.aload_n 2, 517, 2, 0, []) else am_nop))) else (bif Nat.blt k 519 then (bif Nat.blt k 518 then (bif Nat.beq k 517 then (.aload_n 0, 518, 0, 0, []) else am_nop) else (bif Nat.beq k 518 then (.iload_n 3, 519, 3, 0, []) else am_nop)) else (bif Nat.blt k 520 then (bif Nat.beq k 519 then (.iconst 1, 520, 0, 0, [(1, 0)]) else am_nop) else (bif Nat.blt k 521 then (bif Nat.beq k 520 then (.iadd, 521, 0, 0, []) else am_nop) else (bif Nat.beq k 521 then (.iaload, 522, 0, 0, []) else am_nop)))))) else (bif Nat.blt k 539 then (bif Nat.blt k 530 then (bif Nat.blt k 526 then (bif Nat.blt k 525 then (bif Nat.beq k 522 then (.invokevirtual 63, 525, 116, 0, [(0, 709)]) else am_nop) else (bif Nat.beq k 525 then (.pop, 526, 0, 0, []) else am_nop)) else (bif Nat.blt k 529 then (bif Nat.beq k 526 then (.goto 299, 529, 825, 0, []) else am_nop) else (bif Nat.beq k 529 then (.aload_n 1, 530, 1, 0, []) else am_nop))) else (bif Nat.blt k 534 then (bif Nat.blt k 533 then (bif Nat.beq k 530 then (.invokevirtual 64, 533, 61, 0, [(0, 398)]) else am_nop) else (bif Nat.beq k 533 then (.pop, 534, 0, 0, []) else am_nop)) else (bif Nat.blt k 535 then (bif Nat.beq k 534 then (.aload_n 2, 535, 2, 0, []) else am_nop) else (bif Nat.blt k 538 then (bif Nat.beq k 535 then (.invokevirtual 67, 538, 117, 0, [(0, 729)]) else am_nop) else (bif Nat.beq k 538 then (.pop, 539, 0, 0, []) else am_nop))))) else (bif Nat.blt k 545 then (bif Nat.blt k 543 then (bif Nat.blt k 542 then (bif Nat.beq k 539 then (.goto 286, 542, 825, 0, []) else am_nop) else (bif Nat.beq k 542 then (.aload_n 1, 543, 1, 0, []) else am_nop)) else (bif Nat.blt k 544 then (bif Nat.beq k 543 then (.aload_n 0, 544, 0, 0, []) else am_nop) else (bif Nat.beq k 544 then (.iload_n 3, 545, 3, 0, []) else am_nop))) else (bif Nat.blt k 547 then (bif Nat.blt k 546 then (bif Nat.beq k 545 then (.iconst 1, 546, 0, 0, [(1, 0)]) else am_nop) else (bif Nat.beq k 546 then (.iadd, 547, 0, 0, []) else am_nop)) else (bif Nat.blt k 548 then (bif Nat.beq k 547 then (.iaload, 548, 0, 0, []) else am_nop) else (bif Nat.blt k 551 then (bif Nat.beq k 548 then (.invokevirtual 68, 551, 62, 0, [(0, 426)]) else am_nop) else (bif Nat.beq k 551 then (.pop, 552, 0, 0, []) else am_nop)))))))) else (bif Nat.blt k 593 then (bif Nat.blt k 573 then (bif Nat.blt k 562 then (bif Nat.blt k 556 then (bif Nat.blt k 554 then (bif Nat.blt k 553 then (bif Nat.beq k 552 then (.aload_n 2, 553, 2, 0, []) else am_nop) else (bif Nat.beq k 553 then (.aload_n 0, 554, 0, 0, []) else am_nop)) else (bif Nat.blt k 555 then (bif Nat.beq k 554 then (.iload_n 3, 555, 3, 0, []) else am_nop) else (bif Nat.beq k 555 then (.iconst 1, 556, 0, 0, [(1, 0)]) else am_nop))) else (bif Nat.blt k 558 then (bif Nat.blt k 557 then (bif Nat.beq k 556 then (.iadd, 557, 0, 0, []) else am_nop) else (bif Nat.beq k 557 then (.iaload, 558, 0, 0, []) else am_nop)) else (bif Nat.blt k 561 then (bif Nat.beq k 558 then (.invokevirtual 71, 561, 118, 0, [(0, 757)]) else am_nop) else (bif Nat.beq k 561 then (.pop, 562, 0, 0, []) else am_nop)))) else (bif Nat.blt k 568 then (bif Nat.blt k 566 then (bif Nat.blt k 565 then (bif Nat.beq k 562 then (.goto 263, 565, 825, 0, []) else am_nop) else (bif Nat.beq k 565 then (.aload_n 1, 566, 1, 0, []) else am_nop)) else (bif Nat.blt k 567 then (bif Nat.beq k 566 then (.aload_n 0, 567, 0, 0, []) else am_nop) else (bif Nat.beq k 567 then (.iload_n 3, 568, 3, 0, []) else am_nop))) else (bif Nat.blt k 570 then (bif Nat.blt k 569 then (bif Nat.beq k 568 then (.iconst 1, 569, 0, 0, [(1, 0)]) else am_nop) else (bif Nat.beq k 569 then (.iadd, 570, 0, 0, []) else am_nop)) else (bif Nat.blt k 571 then (bif Nat.beq k 570 then (.iaload, 571, 0, 0, []) else am_nop) else (bif Nat.blt k 572 then (bif Nat.beq k 571 then (.aload_n 0, 572, 0, 0, []) else am_nop) else (bif Nat.beq k 572 then (.iload_n 3, 573, 3, 0, []) else am_nop)))))) else (bif Nat.blt k 584 then (bif Nat.blt k 577 then (bif Nat.blt k 575 then (bif Nat.blt k 574 then (bif Nat.beq k 573 then (.iconst 2, 574, 0, 0, [(2, 0)]) else am_nop) else (bif Nat.beq k 574 then (.iadd, 575, 0, 0, []) else am_nop)) else (bif Nat.blt k 576 then (bif Nat.beq k 575 then (.iaload, 576, 0, 0, []) else am_nop) else (bif Nat.beq k 576 then (.aload_n 0, 577, 0, 0, []) else am_nop))) else (bif Nat.blt k 579 then (bif Nat.blt k 578 then (bif Nat.beq k 577 then (.iload_n 3, 578, 3, 0, []) else am_nop) else (bif Nat.beq k 578 then (.iconst 3, 579, 0, 0, [(3, 0)]) else am_nop)) else (bif Nat.blt k 580 then (bif Nat.beq k 579 then (.iadd, 580, 0, 0, []) else am_nop) else (bif Nat.blt k 581 then (bif Nat.beq k 580 then (.iaload, 581, 0, 0, []) else am_nop) else (bif Nat.beq k 581 then (.invokevirtual 72, 584, 63, 0, [(0, 431)]) else am_nop))))) else (bif Nat.blt k 588 then (bif Nat.blt k 586 then (bif Nat.blt k 585 then (bif Nat.beq k 584 then (.pop, 585, 0, 0, []) else am_nop) else (bif Nat.beq k 585 then (.aload_n 2, 586, 2, 0, []) else am_nop)) else (bif Nat.blt k 587 then (bif Nat.beq k 586 then (.aload_n 0, 587, 0, 0, []) else am_nop) else (bif Nat.beq k 587 then (.iload_n 3, 588, 3, 0, []) else am_nop))) else (bif Nat.blt k 590 then (bif Nat.blt k 589 then (bif Nat.beq k 588 then (.iconst 1, 589, 0, 0, [(1, 0)]) else am_nop) else (bif Nat.beq k 589 then (.iadd, 590, 0, 0, []) else am_nop)) else (bif Nat.blt k 591 then (bif Nat.beq k 590 then (.iaload, 591, 0, 0, []) else am_nop) else (bif Nat.blt k 592 then (bif Nat.beq k 591 then (.aload_n 0, 592, 0, 0, []) else am_nop) else (bif Nat.beq k 592 then (.iload_n 3, 593, 3, 0, []) else am_nop))))))) else (bif Nat.blt k 621 then (bif Nat.blt k 604 then (bif Nat.blt k 597 then (bif Nat.blt k 595 then (bif Nat.blt k 594 then (bif Nat.beq k 593 then (.iconst 2, 594, 0, 0, [(2, 0)]) else am_nop) else (bif Nat.beq k 594 then (.iadd, 595, 0, 0, []) else am_nop)) else (bif Nat.blt k 596 then (bif Nat.beq k 595 then (.iaload, 596, 0, 0, []) else am_nop) else (bif Nat.beq k 596 then (.aload_n 0, 597, 0, 0, []) else am_nop))) else (bif Nat.blt k 599 then (bif Nat.blt k 598 then (bif Nat.beq k 597 then (.iload_n 3, 598, 3, 0, []) else am_nop) else (bif Nat.beq k 598 then (.iconst 3, 599, 0, 0, [(3, 0)]) else am_nop)) else (bif Nat.blt k 600 then (bif Nat.beq k 599 then (.iadd, 600, 0, 0, []) else am_nop) else (bif Nat.blt k 601 then (bif Nat.beq k 600 then (.iaload, 601, 0, 0, []) else am_nop) else (bif Nat.beq k 601 then (.invokevirtual 75, 604, 120, 0, [(0, 761)]) else am_nop))))) else (bif Nat.blt k 612 then (bif Nat.blt k 608 then (bif Nat.blt k 605 then (bif Nat.beq k 604 then (.pop, 605, 0, 0, []) else am_nop) else (bif Nat.beq k 605 then (.goto 220, 608, 825, 0, []) else am_nop)) else (bif Nat.blt k 609 then (bif Nat.beq k 608 then (.aload_n 1, 609, 1, 0, []) else am_nop) else (bif Nat.beq k 609 then (.invokevirtual 76, 612, 64, 0, [(0, 443)]) else am_nop))) else (bif Nat.blt k 614 then (bif Nat.blt k 613 then (bif Nat.beq k 612 then (.pop, 613, 0, 0, []) else am_nop) else (bif Nat.beq k 613 then (.aload_n 2, 614, 2, 0, []) else am_nop)) else (bif Nat.blt k 617 then (bif Nat.beq k 614 then (.invokevirtual 79, 617, 122, 0, [(0, 768)]) else am_nop) else (bif Nat.blt k 618 then (bif Nat.beq k 617 then (.pop, 618, 0, 0, []) else am_nop) else (bif Nat.beq k 618 then (.goto 207, 621, 825, 0, []) else am_nop)))))) else (bif Nat.blt k 638 then (bif Nat.blt k 627 then (bif Nat.blt k 625 then (bif Nat.blt k 622 then (bif Nat.beq k 621 then (.aload_n 1, 622, 1, 0, []) else am_nop) else (bif Nat.beq k 622 then (.invokevirtual 80, 625, 65, 0, [(0, 455)]) else am_nop)) else (bif Nat.blt k 626 then (bif Nat.beq k 625 then (.pop, 626, 0, 0, []) else am_nop) else (bif Nat.beq k 626 then (.aload_n 2, 627, 2, 0, []) else am_nop))) else (bif Nat.blt k 631 then (bif Nat.blt k 630 then (bif Nat.beq k 627 then (.invokevirtual 83, 630, 123, 0, [(0, 779)]) else am_nop) else (bif Nat.beq k 630 then (.pop, 631, 0, 0, []) else am_nop)) else (bif Nat.blt k 634 then (bif Nat.beq k 631 then (.goto 194, 634, 825, 0, []) else am_nop) else (bif Nat.blt k 635 then (bif Nat.beq k 634 then (.aload_n 1, 635, 1, 0, []) else am_nop) else (bif Nat.beq k 635 then (.invokevirtual 84, 638, 66, 0, [(0, 459)]) else am_nop))))) else (bif Nat.blt k 644 then (bif Nat.blt k 640 then (bif Nat.blt k 639 then (bif Nat.beq k 638 then (.pop, 639, 0, 0, []) else am_nop) else (bif Nat.beq k 639 then (.aload_n 2, 640, 2, 0, []) else am_nop)) else (bif Nat.blt k 643 then (bif Nat.beq k 640 then (.invokevirtual 87, 643, 125, 0, [(0, 783)]) else am_nop) else (bif Nat.beq k 643 then (.pop, 644, 0, 0, []) else am_nop))) else (bif Nat.blt k 648 then (bif Nat.blt k 647 then (bif Nat.beq k 644 then (.goto 181, 647, 825, 0, []) else am_nop) else (bif Nat.beq k 647 then (.aload_n 1, 648, 1, 0, []) else am_nop)) else (bif Nat.blt k 651 then (bif Nat.beq k 648 then (.invokevirtual 88, 651, 67, 0, [(0, 470)]) else am_nop) else (bif Nat.blt k 652 then (bif Nat.beq k 651 then (.pop, 652, 0, 0, []) else am_nop) else (bif Nat.beq k 652 then (.aload_n 2, 653, 2, 0, []) else am_nop))))))))) else (bif Nat.blt k 744 then (bif Nat.blt k 702 then (bif Nat.blt k 676 then (bif Nat.blt k 665 then (bif Nat.blt k 661 then (bif Nat.blt k 657 then (bif Nat.blt k 656 then (bif Nat.beq k 653 then (.invokevirtual 91, 656, 126, 0, [(0, 791)]) else am_nop) else (bif Nat.beq k 656 then (.pop, 657, 0, 0, []) else am_nop)) else (bif Nat.blt k 660 then (bif Nat.beq k 657 then (.goto 168, 660, 825, 0, []) else am_nop) else (bif Nat.beq k 660 then (.aload_n 1, 661, 1, 0, []) else am_nop))) else (bif Nat.blt k 663 then (bif Nat.blt k 662 then (bif Nat.beq k 661 then (.aload_n 0, 662, 0, 0, []) else am_nop) else (bif Nat.beq k 662 then (.iload_n 3, 663, 3, 0, []) else am_nop)) else (bif Nat.blt k 664 then (bif Nat.beq k 663 then (.iconst 1, 664, 0, 0, [(1, 0)]) else am_nop) else (bif Nat.beq k 664 then (.iadd, 665, 0, 0, []) else am_nop)))) else (bif Nat.blt k 671 then (bif Nat.blt k 669 then (bif Nat.blt k 666 then (bif Nat.beq k 665 then (.iaload, 666, 0, 0, []) else am_nop) else (bif Nat.beq k 666 then (.invokevirtual 92, 669, 68, 0, [(0, 471)]) else am_nop)) else (bif Nat.blt k 670 then (bif Nat.beq k 669 then (.pop, 670, 0, 0, []) else am_nop) else (bif Nat.beq k 670 then (.aload_n 2, 671, 2, 0, []) else am_nop))) else (bif Nat.blt k 673 then (bif Nat.blt k 672 then (bif Nat.beq k 671 then (.aload_n 0, 672, 0, 0, []) else am_nop) else (bif Nat.beq k 672 then (.iload_n 3, 673, 3, 0, []) else am_nop)) else (bif Nat.blt k 674 then (bif Nat.beq k 673 then (.iconst 1, 674, 0, 0, [(1, 0)]) else am_nop) else (bif Nat.blt k 675 then (bif Nat.beq k 674 then (.iadd, 675, 0, 0, []) else am_nop) else (bif Nat.beq k 675 then (.iaload, 676, 0, 0, []) else am_nop)))))) else (bif Nat.blt k 689 then (bif Nat.blt k 684 then (bif Nat.blt k 680 then (bif Nat.blt k 679 then (bif Nat.beq k 676 then (.invokevirtual 95, 679, 127, 0, [(0, 795)]) else am_nop) else (bif Nat.beq k 679 then (.pop, 680, 0, 0, []) else am_nop)) else (bif Nat.blt k 683 then (bif Nat.beq k 680 then (.goto 145, 683, 825, 0, []) else am_nop) else (bif Nat.beq k 683 then (.aload_n 1, 684, 1, 0, []) else am_nop))) else (bif Nat.blt k 686 then (bif Nat.blt k 685 then (bif Nat.beq k 684 then (.aload_n 0, 685, 0, 0, []) else am_nop) else (bif Nat.beq k 685 then (.iload_n 3, 686, 3, 0, []) else am_nop)) else (bif Nat.blt k 687 then (bif Nat.beq k 686 then (.iconst 1, 687, 0, 0, [(1, 0)]) else am_nop) else (bif Nat.blt k 688 then (bif Nat.beq k 687 then (.iadd, 688, 0, 0, []) else am_nop) else (bif Nat.beq k 688 then (.iaload, 689, 0, 0, []) else am_nop))))) else (bif Nat.blt k 695 then (bif Nat.blt k 693 then (bif Nat.blt k 692 then (bif Nat.beq k 689 then (.invokevirtual 96, 692, 69, 0, [(0, 475)]) else am_nop) else (bif Nat.beq k 692 then (.pop, 693, 0, 0, []) else am_nop)) else (bif Nat.blt k 694 then (bif Nat.beq k 693 then (.aload_n 2, 694, 2, 0, []) else am_nop) else (bif Nat.beq k 694 then (.aload_n 0, 695, 0, 0, []) else am_nop))) else (bif Nat.blt k 697 then (bif Nat.blt k 696 then (bif Nat.beq k 695 then (.iload_n 3, 696, 3, 0, []) else am_nop) else (bif Nat.beq k 696 then (.iconst 1, 697, 0, 0, [(1, 0)]) else am_nop)) else (bif Nat.blt k 698 then (bif Nat.beq k 697 then (.iadd, 698, 0, 0, []) else am_nop) else (bif Nat.blt k 699 then (bif Nat.beq k 698 then (.iaload, 699, 0, 0, []) else am_nop) else (bif Nat.beq k 699 then (.invokevirtual 99, 702, 135, 0, [(0, 799)]) else am_nop))))))) else (bif Nat.blt k 722 then (bif Nat.blt k 713 then (bif Nat.blt k 708 then (bif Nat.blt k 706 then (bif Nat.blt k 703 then (bif Nat.beq k 702 then (.pop, 703, 0, 0, []) else am_nop) else (bif Nat.beq k 703 then (.goto 122, 706, 825, 0, []) else am_nop)) else (bif Nat.blt k 707 then (bif Nat.beq k 706 then (.aload_n 1, 707, 1, 0, []) else am_nop) else (bif Nat.beq k 707 then (.aload_n 0, 708, 0, 0, []) else am_nop))) else (bif Nat.blt k 710 then (bif Nat.blt k 709 then (bif Nat.beq k 708 then (.iload_n 3, 709, 3, 0, []) else am_nop) else (bif Nat.beq k 709 then (.iconst 1, 710, 0, 0, [(1, 0)]) else am_nop)) else (bif Nat.blt k 711 then (bif Nat.beq k 710 then (.iadd, 711, 0, 0, []) else am_nop) else (bif Nat.blt k 712 then (bif Nat.beq k 711 then (.iaload, 712, 0, 0, []) else am_nop) else (bif Nat.beq k 712 then (.aload_n 0, 713, 0, 0, []) else am_nop))))) else (bif Nat.blt k 717 then (bif Nat.blt k 715 then (bif Nat.blt k 714 then (bif Nat.beq k 713 then (.iload_n 3, 714, 3, 0, []) else am_nop) else (bif Nat.beq k 714 then (.iconst 2, 715, 0, 0, [(2, 0)]) else am_nop)) else (bif Nat.blt k 716 then (bif Nat.beq k 715 then (.iadd, 716, 0, 0, []) else am_nop) else (bif Nat.beq k 716 then (.iaload, 717, 0, 0, []) else am_nop))) else (bif Nat.blt k 719 then (bif Nat.blt k 718 then (bif Nat.beq k 717 then (.aload_n 0, 718, 0, 0, []) else am_nop) else (bif Nat.beq k 718 then (.iload_n 3, 719, 3, 0, []) else am_nop)) else (bif Nat.blt k 720 then (bif Nat.beq k 719 then (.iconst 3, 720, 0, 0, [(3, 0)]) else am_nop) else (bif Nat.blt k 721 then (bif Nat.beq k 720 then (.iadd, 721, 0, 0, []) else am_nop) else (bif Nat.beq k 721 then (.iaload, 722, 0, 0, []) else am_nop)))))) else (bif Nat.blt k 733 then (bif Nat.blt k 728 then (bif Nat.blt k 726 then (bif Nat.blt k 725 then (bif Nat.beq k 722 then (.invokevirtual 100, 725, 70, 0, [(0, 540)]) else am_nop) else (bif Nat.beq k 725 then (.aload_n 2, 726, 2, 0, []) else am_nop)) else (bif Nat.blt k 727 then (bif Nat.beq k 726 then (.aload_n 0, 727, 0, 0, []) else am_nop) else (bif Nat.beq k 727 then (.iload_n 3, 728, 3, 0, []) else am_nop))) else (bif Nat.blt k 730 then (bif Nat.blt k 729 then (bif Nat.beq k 728 then (.iconst 1, 729, 0, 0, [(1, 0)]) else am_nop) else (bif Nat.beq k 729 then (.iadd, 730, 0, 0, []) else am_nop)) else (bif Nat.blt k 731 then (bif Nat.beq k 730 then (.iaload, 731, 0, 0, []) else am_nop) else (bif Nat.blt k 732 then (bif Nat.beq k 731 then (.aload_n 0, 732, 0, 0, []) else am_nop) else (bif Nat.beq k 732 then (.iload_n 3, 733, 3, 0, []) else am_nop))))) else (bif Nat.blt k 737 then (bif Nat.blt k 735 then (bif Nat.blt k 734 then (bif Nat.beq k 733 then (.iconst 2, 734, 0, 0, [(2, 0)]) else am_nop) else (bif Nat.beq k 734 then (.iadd, 735, 0, 0, []) else am_nop)) else (bif Nat.blt k 736 then (bif Nat.beq k 735 then (.iaload, 736, 0, 0, []) else am_nop) else (bif Nat.beq k 736 then (.aload_n 0, 737, 0, 0, []) else am_nop))) else (bif Nat.blt k 739 then (bif Nat.blt k 738 then (bif Nat.beq k 737 then (.iload_n 3, 738, 3, 0, []) else am_nop) else (bif Nat.beq k 738 then (.iconst 3, 739, 0, 0, [(3, 0)]) else am_nop)) else (bif Nat.blt k 740 then (bif Nat.beq k 739 then (.iadd, 740, 0, 0, []) else am_nop) else (bif Nat.blt k 741 then (bif Nat.beq k 740 then (.iaload, 741, 0, 0, []) else am_nop) else (bif Nat.beq k 741 then (.invokevirtual 103, 744, 101, 0, [(0, 690)]) else am_nop)))))))) else (bif Nat.blt k 787 then (bif Nat.blt k 765 then (bif Nat.blt k 754 then (bif Nat.blt k 750 then (bif Nat.blt k 748 then (bif Nat.blt k 747 then (bif Nat.beq k 744 then (.if_icmp .eq 81, 747, 825, 0, []) else am_nop) else (bif Nat.beq k 747 then (.iconst 0, 748, 0, 0, [(0, 0)]) else am_nop)) else (bif Nat.blt k 749 then (bif Nat.beq k 748 then (.ireturn, 749, 0, 0, []) else am_nop) else (bif Nat.beq k 749 then (.aload_n 1, 750, 1, 0, []) else am_nop))) else (bif Nat.blt k 752 then (bif Nat.blt k 751 then (bif Nat.beq k 750 then (.aload_n 0, 751, 0, 0, []) else am_nop) else (bif Nat.beq k 751 then (.iload_n 3, 752, 3, 0, []) else am_nop)) else (bif Nat.blt k 753 then (bif Nat.beq k 752 then (.iconst 1, 753, 0, 0, [(1, 0)]) else am_nop) else (bif Nat.beq k 753 then (.iadd, 754, 0, 0, []) else am_nop)))) else (bif Nat.blt k 760 then (bif Nat.blt k 758 then (bif Nat.blt k 755 then (bif Nat.beq k 754 then (.iaload, 755, 0, 0, []) else am_nop) else (bif Nat.beq k 755 then (.invokevirtual 104, 758, 71, 0, [(0, 548)]) else am_nop)) else (bif Nat.blt k 759 then (bif Nat.beq k 758 then (.pop, 759, 0, 0, []) else am_nop) else (bif Nat.beq k 759 then (.aload_n 2, 760, 2, 0, []) else am_nop))) else (bif Nat.blt k 762 then (bif Nat.blt k 761 then (bif Nat.beq k 760 then (.aload_n 0, 761, 0, 0, []) else am_nop) else (bif Nat.beq k 761 then (.iload_n 3, 762, 3, 0, []) else am_nop)) else (bif Nat.blt k 763 then (bif Nat.beq k 762 then (.iconst 1, 763, 0, 0, [(1, 0)]) else am_nop) else (bif Nat.blt k 764 then (bif Nat.beq k 763 then (.iadd, 764, 0, 0, []) else am_nop) else (bif Nat.beq k 764 then (.iaload, 765, 0, 0, []) else am_nop)))))) else (bif Nat.blt k 778 then (bif Nat.blt k 773 then (bif Nat.blt k 769 then (bif Nat.blt k 768 then (bif Nat.beq k 765 then (.invokevirtual 107, 768, 102, 0, [(0, 697)]) else am_nop) else (bif Nat.beq k 768 then (.pop, 769, 0, 0, []) else am_nop)) else (bif Nat.blt k 772 then (bif Nat.beq k 769 then (.goto 56, 772, 825, 0, []) else am_nop) else (bif Nat.beq k 772 then (.aload_n 1, 773, 1, 0, []) else am_nop))) else (bif Nat.blt k 775 then (bif Nat.blt k 774 then (bif Nat.beq k 773 then (.aload_n 0, 774, 0, 0, []) else am_nop) else (bif Nat.beq k 774 then (.iload_n 3, 775, 3, 0, []) else am_nop)) else (bif Nat.blt k 776 then (bif Nat.beq k 775 then (.iconst 1, 776, 0, 0, [(1, 0)]) else am_nop) else (bif Nat.blt k 777 then (bif Nat.beq k 776 then (.iadd, 777, 0, 0, []) else am_nop) else (bif Nat.beq k 777 then (.iaload, 778, 0, 0, []) else am_nop))))) else (bif Nat.blt k 782 then (bif Nat.blt k 780 then (bif Nat.blt k 779 then (bif Nat.beq k 778 then (.aload_n 0, 779, 0, 0, []) else am_nop) else (bif Nat.beq k 779 then (.iload_n 3, 780, 3, 0, []) else am_nop)) else (bif Nat.blt k 781 then (bif Nat.beq k 780 then (.iconst 2, 781, 0, 0, [(2, 0)]) else am_nop) else (bif Nat.beq k 781 then (.iadd, 782, 0, 0, []) else am_nop))) else (bif Nat.blt k 784 then (bif Nat.blt k 783 then (bif Nat.beq k 782 then (.iaload, 783, 0, 0, []) else am_nop) else (bif Nat.beq k 783 then (.aload_n 0, 784, 0, 0, []) else am_nop)) else (bif Nat.blt k 785 then (bif Nat.beq k 784 then (.iload_n 3, 785, 3, 0, []) else am_nop) else (bif Nat.blt k 786 then (bif Nat.beq k 785 then (.iconst 3, 786, 0, 0, [(3, 0)]) else am_nop) else (bif Nat.beq k 786 then (.iadd, 787, 0, 0, []) else am_nop))))))) else (bif Nat.blt k 807 then (bif Nat.blt k 798 then (bif Nat.blt k 791 then (bif Nat.blt k 789 then (bif Nat.blt k 788 then (bif Nat.beq k 787 then (.iaload, 788, 0, 0, []) else am_nop) else (bif Nat.beq k 788 then (.aload_n 0, 789, 0, 0, []) else am_nop)) else (bif Nat.blt k 790 then (bif Nat.beq k 789 then (.iload_n 3, 790, 3, 0, []) else am_nop) else (bif Nat.beq k 790 then (.iconst 4, 791, 0, 0, [(4, 0)]) else am_nop))) else (bif Nat.blt k 793 then (bif Nat.blt k 792 then (bif Nat.beq k 791 then (.iadd, 792, 0, 0, []) else am_nop) else (bif Nat.beq k 792 then (.iaload, 793, 0, 0, []) else am_nop)) else (bif Nat.blt k 796 then (bif Nat.beq k 793 then (.invokevirtual 108, 796, 72, 0, [(0, 552)]) else am_nop) else (bif Nat.blt k 797 then (bif Nat.beq k 796 then (.pop, 797, 0, 0, []) else am_nop) else (bif Nat.beq k 797 then (.aload_n 2, 798, 2, 0, []) else am_nop))))) else (bif Nat.blt k 802 then (bif Nat.blt k 800 then (bif Nat.blt k 799 then (bif Nat.beq k 798 then (.aload_n 0, 799, 0, 0, []) else am_nop) else (bif Nat.beq k 799 then (.iload_n 3, 800, 3, 0, []) else am_nop)) else (bif Nat.blt k 801 then (bif Nat.beq k 800 then (.iconst 1, 801, 0, 0, [(1, 0)]) else am_nop) else (bif Nat.beq k 801 then (.iadd, 802, 0, 0, []) else am_nop))) else (bif Nat.blt k 804 then (bif Nat.blt k 803 then (bif Nat.beq k 802 then (.iaload, 803, 0, 0, []) else am_nop) else (bif Nat.beq k 803 then (.aload_n 0, 804, 0, 0, []) else am_nop)) else (bif Nat.blt k 805 then (bif Nat.beq k 804 then (.iload_n 3, 805, 3, 0, []) else am_nop) else (bif Nat.blt k 806 then (bif Nat.beq k 805 then (.iconst 2, 806, 0, 0, [(2, 0)]) else am_nop) else (bif Nat.beq k 806 then (.iadd, 807, 0, 0, []) else am_nop)))))) else (bif Nat.blt k 816 then (bif Nat.blt k 811 then (bif Nat.blt k 809 then (bif Nat.blt k 808 then (bif Nat.beq k 807 then (.iaload, 808, 0, 0, []) else am_nop) else (bif Nat.beq k 808 then (.aload_n 0, 809, 0, 0, []) else am_nop)) else (bif Nat.blt k 810 then (bif Nat.beq k 809 then (.iload_n 3, 810, 3, 0, []) else am_nop) else (bif Nat.beq k 810 then (.iconst 3, 811, 0, 0, [(3, 0)]) else am_nop))) else (bif Nat.blt k 813 then (bif Nat.blt k 812 then (bif Nat.beq k 811 then (.iadd, 812, 0, 0, []) else am_nop) else (bif Nat.beq k 812 then (.iaload, 813, 0, 0, []) else am_nop)) else (bif Nat.blt k 814 then (bif Nat.beq k 813 then (.aload_n 0, 814, 0, 0, []) else am_nop) else (bif Nat.blt k 815 then (bif Nat.beq k 814 then (.iload_n 3, 815, 3, 0, []) else am_nop) else (bif Nat.beq k 815 then (.iconst 4, 816, 0, 0, [(4, 0)]) else am_nop))))) else (bif Nat.blt k 822 then (bif Nat.blt k 818 then (bif Nat.blt k 817 then (bif Nat.beq k 816 then (.iadd, 817, 0, 0, []) else am_nop) else (bif Nat.beq k 817 then (.iaload, 818, 0, 0, []) else am_nop)) else (bif Nat.blt k 821 then (bif Nat.beq k 818 then (.invokevirtual 111, 821, 103, 0, [(0, 701)]) else am_nop) else (bif Nat.beq k 821 then (.pop, 822, 0, 0, []) else am_nop))) else (bif Nat.blt k 828 then (bif Nat.blt k 825 then (bif Nat.beq k 822 then (.goto 3, 825, 825, 0, []) else am_nop) else (bif Nat.beq k 825 then (.iinc 3 6, 828, 3, 0, [(6, 0)]) else am_nop)) else (bif Nat.blt k 831 then (bif Nat.beq k 828 then (.goto (-810), 831, 18, 0, []) else am_nop) else (bif Nat.blt k 832 then (bif Nat.beq k 831 then (.iconst 1, 832, 0, 0, [(1, 0)]) else am_nop) else (bif Nat.beq k 832 then (.ireturn, 833, 0, 0, []) else am_nop))))))))))
def am_tr0 (i : Nat) : Nat → am_E := bif Nat.blt i 69 then (bif Nat.blt i 34 then (bif Nat.blt i 17 then (bif Nat.blt i 8 then (bif Nat.blt i 4 then (bif Nat.blt i 2 then (bif Nat.blt i 1 then (am_c0) else (am_c1)) else (bif Nat.blt i 3 then (am_c2) else (am_c3))) else (bif Nat.blt i 6 then (bif Nat.blt i 5 then (am_c4) else (am_c5)) else (bif Nat.blt i 7 then (am_c6) else (am_c7)))) else (bif Nat.blt i 12 then (bif Nat.blt i 10 then (bif Nat.blt i 9 then (am_c8) else (am_c9)) else (bif Nat.blt i 11 then (am_c10) else (am_c11))) else (bif Nat.blt i 14 then (bif Nat.blt i 13 then (am_c12) else (am_c13)) else (bif Nat.blt i 15 then (am_c14) else (bif Nat.blt i 16 then (am_c15) else (am_c16)))))) else (bif Nat.blt i 25 then (bif Nat.blt i 21 then (bif Nat.blt i 19 then (bif Nat.blt i 18 then (am_c17) else (am_c18)) else (bif Nat.blt i 20 then (am_c19) else (am_c20))) else (bif Nat.blt i 23 then (bif Nat.blt i 22 then (am_c21) else (am_c22)) else (bif Nat.blt i 24 then (am_c23) else (am_c24)))) else (bif Nat.blt i 29 then (bif Nat.blt i 27 then (bif Nat.blt i 26 then (am_c25) else (am_c26)) else (bif Nat.blt i 28 then (am_c27) else (am_c28))) else (bif Nat.blt i 31 then (bif Nat.blt i 30 then (am_c29) else (am_c30)) else (bif Nat.blt i 32 then (am_c31) else (bif Nat.blt i 33 then (am_c32) else (am_c33))))))) else (bif Nat.blt i 51 then (bif Nat.blt i 42 then (bif Nat.blt i 38 then (bif Nat.blt i 36 then (bif Nat.blt i 35 then (am_c34) else (am_c35)) else (bif Nat.blt i 37 then (am_c36) else (am_c37))) else (bif Nat.blt i 40 then (bif Nat.blt i 39 then (am_c38) else (am_c39)) else (bif Nat.blt i 41 then (am_c40) else (am_c41)))) else (bif Nat.blt i 46 then (bif Nat.blt i 44 then (bif Nat.blt i 43 then (am_c42) else (am_c43)) else (bif Nat.blt i 45 then (am_c44) else (am_c45))) else (bif Nat.blt i 48 then (bif Nat.blt i 47 then (am_c46) else (am_c47)) else (bif Nat.blt i 49 then (am_c48) else (bif Nat.blt i 50 then (am_c49) else (am_c50)))))) else (bif Nat.blt i 60 then (bif Nat.blt i 55 then (bif Nat.blt i 53 then (bif Nat.blt i 52 then (am_c51) else (am_c52)) else (bif Nat.blt i 54 then (am_c53) else (am_c54))) else (bif Nat.blt i 57 then (bif Nat.blt i 56 then (am_c55) else (am_c56)) else (bif Nat.blt i 58 then (am_c57) else (bif Nat.blt i 59 then (am_c58) else (am_c59))))) else (bif Nat.blt i 64 then (bif Nat.blt i 62 then (bif Nat.blt i 61 then (am_c60) else (am_c61)) else (bif Nat.blt i 63 then (am_c62) else (am_c63))) else (bif Nat.blt i 66 then (bif Nat.blt i 65 then (am_c64) else (am_c65)) else (bif Nat.blt i 67 then (am_c66) else (bif Nat.blt i 68 then (am_c67) else (am_c68)))))))) else (bif Nat.blt i 103 then (bif Nat.blt i 86 then (bif Nat.blt i 77 then (bif Nat.blt i 73 then (bif Nat.blt i 71 then (bif Nat.blt i 70 then (am_c69) else (am_c70)) else (bif Nat.blt i 72 then (am_c71) else (am_c72))) else (bif Nat.blt i 75 then (bif Nat.blt i 74 then (am_c73) else (am_c74)) else (bif Nat.blt i 76 then (am_c75) else (am_c76)))) else (bif Nat.blt i 81 then (bif Nat.blt i 79 then (bif Nat.blt i 78 then (am_c77) else (am_c78)) else (bif Nat.blt i 80 then (am_c79) else (am_c80))) else (bif Nat.blt i 83 then (bif Nat.blt i 82 then (am_c81) else (am_c82)) else (bif Nat.blt i 84 then (am_c83) else (bif Nat.blt i 85 then (am_c84) else (am_c85)))))) else (bif Nat.blt i 94 then (bif Nat.blt i 90 then (bif Nat.blt i 88 then (bif Nat.blt i 87 then (am_c86) else (am_c87)) else (bif Nat.blt i 89 then (am_c88) else (am_c89))) else (bif Nat.blt i 92 then (bif Nat.blt i 91 then (am_c90) else (am_c91)) else (bif Nat.blt i 93 then (am_c92) else (am_c93)))) else (bif Nat.blt i 98 then (bif Nat.blt i 96 then (bif Nat.blt i 95 then (am_c94) else (am_c95)) else (bif Nat.blt i 97 then (am_c96) else (am_c97))) else (bif Nat.blt i 100 then (bif Nat.blt i 99 then (am_c98) else (am_c99)) else (bif Nat.blt i 101 then (am_c100) else (bif Nat.blt i 102 then (am_c101) else (am_c102))))))) else (bif Nat.blt i 120 then (bif Nat.blt i 111 then (bif Nat.blt i 107 then (bif Nat.blt i 105 then (bif Nat.blt i 104 then (am_c103) else (am_c104)) else (bif Nat.blt i 106 then (am_c105) else (am_c106))) else (bif Nat.blt i 109 then (bif Nat.blt i 108 then (am_c107) else (am_c108)) else (bif Nat.blt i 110 then (am_c109) else (am_c110)))) else (bif Nat.blt i 115 then (bif Nat.blt i 113 then (bif Nat.blt i 112 then (am_c111) else (am_c112)) else (bif Nat.blt i 114 then (am_c113) else (am_c114))) else (bif Nat.blt i 117 then (bif Nat.blt i 116 then (am_c115) else (am_c116)) else (bif Nat.blt i 118 then (am_c117) else (bif Nat.blt i 119 then (am_c118) else (am_c119)))))) else (bif Nat.blt i 129 then (bif Nat.blt i 124 then (bif Nat.blt i 122 then (bif Nat.blt i 121 then (am_c120) else (am_c121)) else (bif Nat.blt i 123 then (am_c122) else (am_c123))) else (bif Nat.blt i 126 then (bif Nat.blt i 125 then (am_c124) else (am_c125)) else (bif Nat.blt i 127 then (am_c126) else (bif Nat.blt i 128 then (am_c127) else (am_c128))))) else (bif Nat.blt i 133 then (bif Nat.blt i 131 then (bif Nat.blt i 130 then (am_c129) else (am_c130)) else (bif Nat.blt i 132 then (am_c131) else (am_c132))) else (bif Nat.blt i 135 then (bif Nat.blt i 134 then (am_c133) else (am_c134)) else (bif Nat.blt i 136 then (am_c135) else (bif Nat.blt i 137 then (am_c136) else (am_c137))))))))
def am_cd (i k : Nat) : am_E := bif (Nat.blt i 138 && Nat.blt k (am_sz i)) then am_tr0 i k else am_nop
end
section
/-! A machine of my own over the kit's: cells by number, one memory of ints, one layout; 'am' is its least predicate of runs that end; am_sound (part 04) ties it to W. -/
abbrev am_D : Type := Nat × Nat × (Nat → Nat)
abbrev am_L : Type := List am_D
abbrev am_G : Type := Nat → Nat → Int32
abbrev am_Q : Type := Option Value → am_L → am_G → Prop
abbrev am_S : Type := Option (Nat × (Nat → Int32))
abbrev am_V : Type := List (Option Value)

abbrev am_X : Type := Nat → Nat → Nat → am_V → List Value → am_L → am_G → Nat → Nat → am_S → am_Q → Prop
/-- the script's own number -/
def am_scr : Nat := 1000
def am_at : am_L → Nat → Option am_D
  | [], _ => none
  | d :: _, 0 => some d
  | _ :: l, k + 1 => am_at l k
def am_put : am_L → Nat → am_D → am_L
  | [], _, _ => []
  | _ :: l, 0, e => e :: l
  | d :: l, k + 1, e => d :: am_put l k e
def am_vat : am_V → Nat → Option Value
  | [], _ => none
  | v :: _, 0 => v
  | _ :: l, k + 1 => am_vat l k
def am_vset : am_V → Nat → Value → am_V
  | [], _, _ => []
  | _ :: l, 0, e => some e :: l
  | v :: l, k + 1, e => v :: am_vset l k e
def am_up (g : am_G) (k i : Nat) (x : Int32) : am_G := fun a => if a = k then upd (g k) i x else g a
def am_upc (g : am_G) (k : Nat) (f : Nat → Int32) : am_G := fun a => if a = k then f else g a
/-- the values on a stack -/
def am_kv (sw : List (Int32 × Nat)) (f : Int32 → Prop) : Prop := match sw with | (v, _) :: _ => f v | [] => False
def am_i1 (st : List Value) (f : Int32 → List Value → Prop) : Prop := match st with | .int x :: r => f x r | _ => False
def am_i2 (st : List Value) (f : Int32 → Int32 → List Value → Prop) : Prop := match st with | .int y :: .int x :: r => f x y r | _ => False
def am_l2 (st : List Value) (f : Int64 → Int64 → List Value → Prop) : Prop := match st with | .long y :: .long x :: r => f x y r | _ => False
def am_r1 (st : List Value) (f : Nat → List Value → Prop) : Prop := match st with | .ref x :: r => f x r | _ => False
def am_ia (st : List Value) (f : Nat → Int32 → List Value → Prop) : Prop := match st with | .int i :: .ref k :: r => f k i r | _ => False
def am_iai (st : List Value) (f : Nat → Int32 → Int32 → List Value → Prop) : Prop := match st with | .int x :: .int i :: .ref k :: r => f k i x r | _ => False
def am_ld (lv : am_V) (i : Nat) (f : Value → Prop) : Prop := match am_vat lv i with | some v => f v | none => False
def am_cat1 (v : Value) : Bool := match v with | .int _ => true | .ref _ => true | .null => true | _ => false
def am_isi (v : Value) : Bool := match v with | .int _ => true | _ => false
def am_isr (v : Value) : Bool := match v with | .ref _ => true | _ => false
def am_b (c : Bool) (P : Prop) : Prop := match c with | true => P | false => False
def am_if0 (c : ClassFile.Cond) (x : Int32) (T N : Prop) : Prop := match c with
  | .eq => (x = 0 → T) ∧ (¬ x = 0 → N)
  | .ne => (¬ x = 0 → T) ∧ (x = 0 → N)
  | .lt => (x < 0 → T) ∧ (¬ x < 0 → N)
  | .ge => (0 ≤ x → T) ∧ (¬ 0 ≤ x → N)
  | .gt => (0 < x → T) ∧ (¬ 0 < x → N)
  | .le => (x ≤ 0 → T) ∧ (¬ x ≤ 0 → N)
def am_if2 (c : ClassFile.Cond) (x y : Int32) (T N : Prop) : Prop := match c with
  | .eq => (x = y → T) ∧ (¬ x = y → N)
  | .ne => (¬ x = y → T) ∧ (x = y → N)
  | .lt => (x < y → T) ∧ (¬ x < y → N)
  | .ge => (y ≤ x → T) ∧ (¬ y ≤ x → N)
  | .gt => (y < x → T) ∧ (¬ y < x → N)
  | .le => (x ≤ y → T) ∧ (¬ x ≤ y → N)
/-- a switch: the first number that it is, or none of them -/
def am_sw (x : Int32) (K : Nat → Prop) (d : Nat) : List (Int32 × Nat) → Prop
  | [] => K d
  | (v, t) :: l => (x = v → K t) ∧ (¬ x = v → am_sw x K d l)
def am_words : List Value → Nat
  | [] => 0
  | v :: l => v.category + am_words l
def am_rok (n : Nat) (v : Value) : Bool := match v with | .ref k => Nat.blt k n || Nat.beq k am_scr | _ => true
def am_vok (n : Nat) : am_V → Bool
  | [] => true
  | none :: l => am_vok n l
  | some v :: l => am_rok n v && am_vok n l
def am_sok (n : Nat) : List Value → Bool
  | [] => true
  | v :: l => am_rok n v && am_sok n l
/-- the references of a layout point into it -/
def am_fok (n : Nat) (rf : Nat → Nat) : Nat → Bool
  | 0 => true
  | j + 1 => Nat.ble (rf j) n && am_fok n rf j
def am_lok (n : Nat) : am_L → Bool
  | [] => true
  | d :: l => am_fok n d.2.2 d.2.1 && am_lok n l
def am_fresh (n : Nat) (lv : am_V) (st : List Value) : Bool := am_vok n lv && am_sok n st
def am_pop (n : Nat) (st : List Value) : List Value := st.take n
def am_ent (nl n : Nat) (st : List Value) : am_V := ((st.take n).reverse.map some) ++ List.replicate (nl - n) none
def am_rcv (a : Nat) (L : am_L) (v : Option Value) : Bool := match v with
  | some (.ref k) => (match am_at L k with | some d => Nat.beq d.1 (am_ci a + 2) | none => false)
  | _ => false
def am_cok (a : Nat) (lv : am_V) (st : List Value) (L : am_L) (bc bs : Nat) : Bool :=
  Nat.ble (am_na a) st.length && (st.take (am_na a)).all am_cat1 && Nat.ble (am_words (st.drop (am_na a))) 8 && Nat.ble (am_mc a) bc && Nat.ble (am_ms a) bs
    && (Nat.beq (am_mc a) 0 || am_fresh L.length lv (st.drop (am_na a))) && (Nat.beq (am_kd a) 0 || am_rcv a L ((st.take (am_na a)).getLast?))
def am_call (X : am_X) (d mi nx a : Nat) (lv : am_V) (st : List Value) (L : am_L) (g : am_G) (bc bs : Nat) (sx : am_S) (Q : am_Q) : Prop :=
  am_b (am_cok a lv st L bc bs) (match d with
    | 0 => False
    | d' + 1 => ∃ Q1 : am_Q, X d' a 0 (am_ent (am_nl a) (am_na a) st) [] L g (am_mc a) (am_ms a) none Q1 ∧
        ∀ (r : Option Value) (L' : am_L) (g' : am_G), Q1 r L' g' → X (d' + 1) mi nx lv (r.toList ++ st.drop (am_na a)) L' g' (bc - am_mc a) (bs - am_ms a) sx Q)
def am_inv (X : am_X) (d mi nx a : Nat) (lv : am_V) (st : List Value) (L : am_L) (g : am_G) (bc bs : Nat) (sx : am_S) (Q : am_Q) : Prop :=
  match Nat.blt a 997 with
  | true => am_call X d mi nx a lv st L g bc bs sx Q
  | false => am_b (Nat.blt 0 d && Nat.ble (am_words st) 8) (match Nat.beq a 999 with
    | true => am_r1 st (fun _ r => X d mi nx lv r L g bc bs sx Q)
    | false => match Nat.beq a 998 with
      | true => am_i2 st (fun x y r => X d mi nx lv (.int (if x < y then y else x) :: r) L g bc bs sx Q)
      | false => am_i2 st (fun x y r => X d mi nx lv (.int (if y < x then y else x) :: r) L g bc bs sx Q))
def am_getf (X : am_X) (d mi nx a b : Nat) (lv : am_V) (st : List Value) (L : am_L) (g : am_G) (bc bs : Nat) (sx : am_S) (Q : am_Q) : Prop :=
  am_r1 st (fun k r => match am_at L k with
    | some (t, n, rf) => am_b (Nat.beq t (a + 2) && Nat.blt b n) (match am_isref a b with
      | true => (match rf b with
        | 0 => X d mi nx lv (.null :: r) L g bc bs sx Q
        | v + 1 => X d mi nx lv (.ref v :: r) L g bc bs sx Q)
      | false => X d mi nx lv (.int (g k b) :: r) L g bc bs sx Q)
    | none => False)
def am_putf (X : am_X) (d mi nx a b : Nat) (lv : am_V) (st : List Value) (L : am_L) (g : am_G) (bc bs : Nat) (sx : am_S) (Q : am_Q) : Prop :=
  match st with
  | .int x :: .ref k :: r => (match am_at L k with
    | some (t, n, _) => am_b (Nat.beq t (a + 2) && Nat.blt b n && !am_isref a b) (X d mi nx lv r L (am_up g k b x) bc bs sx Q)
    | none => False)
  | .ref v :: .ref k :: r => (match am_at L k with
    | some (t, n, rf) => am_b (Nat.beq t (a + 2) && Nat.blt b n && am_isref a b) (X d mi nx lv r (am_put L k (t, n, fun j => if j = b then v + 1 else rf j)) g bc bs sx Q)
    | none => False)
  | _ => False
def am_iald (X : am_X) (d mi nx : Nat) (lv : am_V) (st : List Value) (L : am_L) (g : am_G) (bc bs : Nat) (sx : am_S) (Q : am_Q) : Prop :=
  am_ia st (fun k i r => match Nat.beq k am_scr with
    | true => (match sx with
      | some (n, xs) => vp_in i n ∧ X d mi nx lv (.int (xs i.toNatClampNeg) :: r) L g bc bs sx Q
      | none => False)
    | false => (match am_at L k with
      | some (0, n, _) => vp_in i n ∧ X d mi nx lv (.int (g k i.toNatClampNeg) :: r) L g bc bs sx Q
      | _ => False))
def am_iast (X : am_X) (d mi nx : Nat) (lv : am_V) (st : List Value) (L : am_L) (g : am_G) (bc bs : Nat) (sx : am_S) (Q : am_Q) : Prop :=
  am_iai st (fun k i x r => match am_at L k with
    | some (0, n, _) => vp_in i n ∧ X d mi nx lv r L (am_up g k i.toNatClampNeg x) bc bs sx Q
    | _ => False)
def am_aald (X : am_X) (d mi nx : Nat) (lv : am_V) (st : List Value) (L : am_L) (g : am_G) (bc bs : Nat) (sx : am_S) (Q : am_Q) : Prop :=
  am_ia st (fun k i r => match am_at L k with
    | some (1, n, rf) => vp_in i n ∧ (match rf i.toNatClampNeg with
      | 0 => X d mi nx lv (.null :: r) L g bc bs sx Q
      | v + 1 => X d mi nx lv (.ref v :: r) L g bc bs sx Q)
    | _ => False)
def am_aast (X : am_X) (d mi nx : Nat) (lv : am_V) (st : List Value) (L : am_L) (g : am_G) (bc bs : Nat) (sx : am_S) (Q : am_Q) : Prop :=
  match st with
  | .ref v :: .int i :: .ref k :: r => (match am_at L k, am_at L v with
    | some (1, n, rf), some (t, _, _) => am_b (Nat.beq t (am_shc + 2)) (vp_in i n ∧ X d mi nx lv r (am_put L k (1, n, fun j => if j = i.toNatClampNeg then v + 1 else rf j)) g bc bs sx Q)
    | _, _ => False)
  | _ => False
def am_alen (X : am_X) (d mi nx : Nat) (lv : am_V) (st : List Value) (L : am_L) (g : am_G) (bc bs : Nat) (sx : am_S) (Q : am_Q) : Prop :=
  am_r1 st (fun k r => match Nat.beq k am_scr with
    | true => (match sx with
      | some (n, _) => X d mi nx lv (.int (Int32.ofNat n) :: r) L g bc bs sx Q
      | none => False)
    | false => (match am_at L k with
      | some (0, n, _) => X d mi nx lv (.int (Int32.ofNat n) :: r) L g bc bs sx Q
      | some (1, n, _) => X d mi nx lv (.int (Int32.ofNat n) :: r) L g bc bs sx Q
      | _ => False))
/-- a new cell of a layout -/
def am_mk (X : am_X) (d mi nx : Nat) (e : am_D) (lv : am_V) (st : List Value) (L : am_L) (g : am_G) (bc bs : Nat) (sx : am_S) (Q : am_Q) : Prop :=
  am_b (Nat.ble 1 bc && Nat.ble e.2.1 bs && am_fresh L.length lv st && am_lok L.length L && Nat.blt L.length am_scr)
    (X d mi nx lv (.ref L.length :: st) (L ++ [e]) (am_upc g L.length (fun _ => 0)) (bc - 1) (bs - e.2.1) sx Q)
def am_ret (rk : Nat) (st : List Value) (P : Value → Prop) : Prop := match st with
  | [.int v] => (match rk with | 1 => P (.int v) | 2 => (v = 0 ∨ v = 1) ∧ P (.int v) | 3 => P (.int v) | _ => False)
  | _ => False
def am_F (X : am_X) : am_X := fun d mi pc lv st L g bc bs sx Q =>
  match am_cd mi pc with
  | (ins, nx, a, b, sw) =>
  match ins with
  | .iconst _ => am_kv sw (fun v => X d mi nx lv (.int v :: st) L g bc bs sx Q)
  | .bipush _ => am_kv sw (fun v => X d mi nx lv (.int v :: st) L g bc bs sx Q)
  | .sipush _ => am_kv sw (fun v => X d mi nx lv (.int v :: st) L g bc bs sx Q)
  | .ldc _ => am_kv sw (fun v => X d mi nx lv (.int v :: st) L g bc bs sx Q)
  | .ldc_w _ => am_kv sw (fun v => X d mi nx lv (.int v :: st) L g bc bs sx Q)
  | .iload _ => am_ld lv a (fun v => am_b (am_isi v) (X d mi nx lv (v :: st) L g bc bs sx Q))
  | .iload_n _ => am_ld lv a (fun v => am_b (am_isi v) (X d mi nx lv (v :: st) L g bc bs sx Q))
  | .aload _ => am_ld lv a (fun v => am_b (am_isr v) (X d mi nx lv (v :: st) L g bc bs sx Q))
  | .aload_n _ => am_ld lv a (fun v => am_b (am_isr v) (X d mi nx lv (v :: st) L g bc bs sx Q))
  | .istore _ => am_i1 st (fun x r => am_b (Nat.blt a lv.length) (X d mi nx (am_vset lv a (.int x)) r L g bc bs sx Q))
  | .istore_n _ => am_i1 st (fun x r => am_b (Nat.blt a lv.length) (X d mi nx (am_vset lv a (.int x)) r L g bc bs sx Q))
  | .astore _ => am_r1 st (fun x r => am_b (Nat.blt a lv.length) (X d mi nx (am_vset lv a (.ref x)) r L g bc bs sx Q))
  | .astore_n _ => am_r1 st (fun x r => am_b (Nat.blt a lv.length) (X d mi nx (am_vset lv a (.ref x)) r L g bc bs sx Q))
  | .iinc _ _ => am_kv sw (fun c => am_ld lv a (fun v => match v with
      | .int x => X d mi nx (am_vset lv a (.int (x + c))) st L g bc bs sx Q
      | _ => False))
  | .iadd => am_i2 st (fun x y r => X d mi nx lv (.int (x + y) :: r) L g bc bs sx Q)
  | .isub => am_i2 st (fun x y r => X d mi nx lv (.int (x - y) :: r) L g bc bs sx Q)
  | .imul => am_i2 st (fun x y r => X d mi nx lv (.int (x * y) :: r) L g bc bs sx Q)
  | .irem => am_i2 st (fun x y r => (¬ y = 0) ∧ X d mi nx lv (.int (x - x / y * y) :: r) L g bc bs sx Q)
  | .iand => am_i2 st (fun x y r => X d mi nx lv (.int (x &&& y) :: r) L g bc bs sx Q)
  | .ior => am_i2 st (fun x y r => X d mi nx lv (.int (x ||| y) :: r) L g bc bs sx Q)
  | .ixor => am_i2 st (fun x y r => X d mi nx lv (.int (x ^^^ y) :: r) L g bc bs sx Q)
  | .ishl => am_i2 st (fun x y r => X d mi nx lv (.int (x <<< (y &&& 31)) :: r) L g bc bs sx Q)
  | .ishr => am_i2 st (fun x y r => X d mi nx lv (.int (x >>> (y &&& 31)) :: r) L g bc bs sx Q)
  | .iushr => am_i2 st (fun x y r => X d mi nx lv (.int (x.toUInt32 >>> (y.toUInt32 &&& Int32.toUInt32 31)).toInt32 :: r) L g bc bs sx Q)
  | .ineg => am_i1 st (fun x r => X d mi nx lv (.int (-x) :: r) L g bc bs sx Q)
  | .i2b => am_i1 st (fun x r => X d mi nx lv (.int x.toInt8.toInt32 :: r) L g bc bs sx Q)
  | .i2l => am_i1 st (fun x r => X d mi nx lv (.long x.toInt64 :: r) L g bc bs sx Q)
  | .ladd => am_l2 st (fun x y r => X d mi nx lv (.long (x + y) :: r) L g bc bs sx Q)
  | .lcmp => am_l2 st (fun x y r => X d mi nx lv (.int (lg_cmp x y) :: r) L g bc bs sx Q)
  | .dup => (match st with | v :: r => am_b (am_cat1 v) (X d mi nx lv (v :: v :: r) L g bc bs sx Q) | _ => False)
  | .dup_x1 => (match st with | v :: w :: r => am_b (am_cat1 v && am_cat1 w) (X d mi nx lv (v :: w :: v :: r) L g bc bs sx Q) | _ => False)
  | .dup_x2 => (match st with | v :: w :: u :: r => am_b (am_cat1 v && am_cat1 w && am_cat1 u) (X d mi nx lv (v :: w :: u :: v :: r) L g bc bs sx Q) | _ => False)
  | .dup2 => (match st with | v :: w :: r => am_b (am_cat1 v && am_cat1 w) (X d mi nx lv (v :: w :: v :: w :: r) L g bc bs sx Q) | _ => False)
  | .pop => (match st with | v :: r => am_b (am_cat1 v) (X d mi nx lv r L g bc bs sx Q) | _ => False)
  | .ifCond c _ => am_i1 st (fun x r => am_if0 c x (X d mi a lv r L g bc bs sx Q) (X d mi nx lv r L g bc bs sx Q))
  | .if_icmp c _ => am_i2 st (fun x y r => am_if2 c x y (X d mi a lv r L g bc bs sx Q) (X d mi nx lv r L g bc bs sx Q))
  | .goto _ => X d mi a lv st L g bc bs sx Q
  | .tableswitch _ _ _ _ => am_i1 st (fun x r => am_sw x (fun t => X d mi t lv r L g bc bs sx Q) a sw)
  | .lookupswitch _ _ => am_i1 st (fun x r => am_sw x (fun t => X d mi t lv r L g bc bs sx Q) a sw)
  | .getfield _ => am_getf X d mi nx a b lv st L g bc bs sx Q
  | .putfield _ => am_putf X d mi nx a b lv st L g bc bs sx Q
  | .iaload => am_iald X d mi nx lv st L g bc bs sx Q
  | .iastore => am_iast X d mi nx lv st L g bc bs sx Q
  | .aaload => am_aald X d mi nx lv st L g bc bs sx Q
  | .aastore => am_aast X d mi nx lv st L g bc bs sx Q
  | .arraylength => am_alen X d mi nx lv st L g bc bs sx Q
  | .new _ => am_mk X d mi nx (a + 2, am_nf a, fun _ => 0) lv st L g bc bs sx Q
  | .newarray _ => am_i1 st (fun x r => (¬ x < 0 ∧ x.toNatClampNeg ≤ 4096) ∧ am_mk X d mi nx (0, x.toNatClampNeg, fun _ => 0) lv r L g bc bs sx Q)
  | .anewarray _ => am_i1 st (fun x r => (¬ x < 0 ∧ x.toNatClampNeg ≤ 4096) ∧ am_mk X d mi nx (1, x.toNatClampNeg, fun _ => 0) lv r L g bc bs sx Q)
  | .invokespecial _ => am_inv X d mi nx a lv st L g bc bs sx Q
  | .invokevirtual _ => am_inv X d mi nx a lv st L g bc bs sx Q
  | .invokestatic _ => am_inv X d mi nx a lv st L g bc bs sx Q
  | .ireturn => am_ret (am_rk mi) st (fun v => Q (some v) L g)
  | .return_ => (match st with | [] => am_b (Nat.beq (am_rk mi) 0) (Q none L g) | _ => False)
  | _ => False
def am : am_X := fun d mi pc lv st L g bc bs sx Q =>
  ∀ X : am_X, (∀ d mi pc lv st L g bc bs sx Q, am_F X d mi pc lv st L g bc bs sx Q → X d mi pc lv st L g bc bs sx Q) → X d mi pc lv st L g bc bs sx Q
end
section
/-! The tables of part 01 against the bytecode and the Statement's words. -/
def am_has (q : Nat) (w : Cond) : Bool := match lw_tbl[q]? with | some v => decide (v = w) | none => false
def am_good (q : Nat) (w : Cond) : Bool := am_has q w && goodWord w
def am_isN : Cond → Bool
  | .fieldLinkNest _ _ _ _ _ _ => true
  | .methodLinkNest _ _ _ _ => true
  | _ => false
def am_host : String := "DeedDesk"
def am_tg (pc : Nat) (off : Int) (a : Nat) : Bool := decide ((pc : Int) + off = (a : Int))
def am_v1 (sw : List (Int32 × Nat)) (f : Int32 → Nat → Bool) : Bool := match sw with | [(v, q)] => f v q | _ => false
def am_swT (pc : Nat) (lo : Int) (offs : Array Int) : Nat → List (Int32 × Nat) → Bool
  | _, [] => true
  | i, (v, t) :: l => decide (v.toInt = lo + (i : Int)) && (match offs[i]? with | some o => am_tg pc o t | none => false) && am_swT pc lo offs (i + 1) l
def am_swL (pc : Nat) : List (Int × Int) → List (Int32 × Nat) → Bool
  | [], [] => true
  | (k, o) :: ps, (v, t) :: l => decide (v.toInt = k) && am_tg pc o t && am_swL pc ps l
  | _, _ => false
def am_fld (mi idx a b : Nat) (sw : List (Int32 × Nat)) : Bool :=
  Nat.blt a 8 && Nat.blt b (am_nf a) && am_v1 sw (fun v q => match decide (v = 0) with
    | true => am_good q (.fieldLink (am_own mi) idx (am_T a b).1 (am_T a b).2.1 (am_T a b).2.2.1)
    | false => am_has q (.fieldLinkNest (am_own mi) idx (am_T a b).1 (am_T a b).2.1 (am_T a b).2.2.1 am_host))
def am_pfl (mi a b : Nat) (sw : List (Int32 × Nat)) : Bool := match (am_T a b).2.2.2 with
  | false => true
  | true => Nat.beq (am_kd mi) 2 && decide ((am_T a b).1 = am_own mi) && am_v1 sw (fun v _ => decide (v = 0))
def am_cll (mi idx a k : Nat) (sw : List (Int32 × Nat)) : Bool :=
  Nat.blt a (am_NM - 1) && Nat.beq (am_kd a) k && am_v1 sw (fun v q => match decide (v = 0) with
    | true => am_good q (.methodLink (am_own mi) idx (am_yy a))
    | false => am_has q (.methodLinkNest (am_own mi) idx (am_yy a) am_host))
def am_okI (mi pc : Nat) (e : am_E) : Bool := match e with
  | (ins, nx, a, b, sw) => match ins with
    | .iconst i => Nat.beq nx (pc + 1) && am_v1 sw (fun v _ => decide (Int32.ofInt i = v))
    | .bipush i => Nat.beq nx (pc + 2) && am_v1 sw (fun v _ => decide ((Int8.ofInt i).toInt32 = v))
    | .sipush i => Nat.beq nx (pc + 3) && am_v1 sw (fun v _ => decide ((Int16.ofInt i).toInt32 = v))
    | .ldc i => Nat.beq nx (pc + 2) && am_v1 sw (fun v q => am_good q (.constant (am_own mi) i v))
    | .ldc_w i => Nat.beq nx (pc + 3) && am_v1 sw (fun v q => am_good q (.constant (am_own mi) i v))
    | .iload i => Nat.beq nx (pc + 2) && Nat.beq a i
    | .aload i => Nat.beq nx (pc + 2) && Nat.beq a i
    | .istore i => Nat.beq nx (pc + 2) && Nat.beq a i
    | .astore i => Nat.beq nx (pc + 2) && Nat.beq a i
    | .iload_n n => Nat.beq nx (pc + 1) && Nat.beq a n.val
    | .aload_n n => Nat.beq nx (pc + 1) && Nat.beq a n.val
    | .istore_n n => Nat.beq nx (pc + 1) && Nat.beq a n.val
    | .astore_n n => Nat.beq nx (pc + 1) && Nat.beq a n.val
    | .iinc i n => Nat.beq nx (pc + 3) && Nat.beq a i && am_v1 sw (fun v _ => decide (Int32.ofInt n = v))
    | .ifCond _ o => Nat.beq nx (pc + 3) && am_tg pc o a
    | .if_icmp _ o => Nat.beq nx (pc + 3) && am_tg pc o a
    | .goto o => Nat.beq nx (pc + 3) && am_tg pc o a
    | .tableswitch d lo hi offs => am_tg pc d a && am_swT pc lo offs 0 sw && decide (hi = lo + (sw.length : Int) - 1)
    | .lookupswitch d ps => am_tg pc d a && am_swL pc ps.toList sw && (ps.toList.zip (ps.toList.drop 1)).all (fun q => decide (q.1.1 < q.2.1))
    | .getfield i => Nat.beq nx (pc + 3) && am_fld mi i a b sw
    | .putfield i => Nat.beq nx (pc + 3) && am_fld mi i a b sw && am_pfl mi a b sw
    | .new i => Nat.beq nx (pc + 3) && Nat.blt a 8 && am_v1 sw (fun _ q => am_good q (.classLink (am_own mi) i (am_R a)))
    | .newarray t => Nat.beq nx (pc + 2) && decide (t = .int)
    | .anewarray i => Nat.beq nx (pc + 3) && am_v1 sw (fun _ q => am_good q (.classLink (am_own mi) i (am_R am_shc)))
    | .invokevirtual i => Nat.beq nx (pc + 3) && am_cll mi i a 1 sw
    | .invokespecial i => Nat.beq nx (pc + 3) && (match Nat.beq a 999 with
      | true => am_v1 sw (fun _ q => am_good q (.methodLink (am_own mi) i objectInit))
      | false => am_cll mi i a 2 sw)
    | .invokestatic i => Nat.beq nx (pc + 3) && (match Nat.beq a 998 with
      | true => am_v1 sw (fun _ q => am_good q (.methodLink (am_own mi) i Lib.Math.max.name))
      | false => match Nat.beq a 997 with
        | true => am_v1 sw (fun _ q => am_good q (.methodLink (am_own mi) i Lib.Math.min.name))
        | false => am_cll mi i a 0 sw)
    | _ => Nat.beq nx (pc + 1)
def am_okE (mi pc : Nat) (e : am_E) : Bool := match e.1 with
  | .nop => true
  | _ => decide (decode (am_by mi) pc = .ok (e.1, e.2.1 - pc)) && am_okI mi pc e
def am_okP (mi : Nat) : Nat → Bool
  | 0 => true
  | k + 1 => am_okE mi k (am_tr0 mi k) && am_okP mi k
def am_okM (mi : Nat) : Bool :=
  am_good ((am_pw mi).getD 1 0) (match am_kd mi with | 0 => .static (am_yy mi) | _ => .instanceMethod (am_yy mi))
  && (match am_kd mi with | 1 => am_good ((am_pw mi).getD 2 0) (.selects (am_yy mi).cls (am_yy mi) (am_yy mi)) | _ => true)
  && am_good ((am_pw mi).getD 3 0) (.initialized (am_yy mi).cls)
  && decide ((am_yy mi).cls = am_own mi) && (match am_kd mi with | 0 => true | _ => decide ((am_yy mi).cls = am_R (am_ci mi)) && Nat.blt (am_ci mi) 8)
  && decide ((am_yy mi).cls ≠ "java/lang/invoke/MethodHandle") && decide ((am_yy mi).cls ≠ "java/lang/invoke/VarHandle")
  && decide ((parseMethodDescriptor (am_yy mi).desc).map (fun d => d.parameters.length) = some (am_na mi - (match am_kd mi with | 0 => 0 | _ => 1)))
  && (match am_kd mi with | 0 => true | _ => Nat.blt 0 (am_na mi)) && (match am_kd mi with | 2 => decide ((am_yy mi).name = "<init>") && Nat.beq (am_rk mi) 0 | _ => true)
  && (match am_rk mi with | 0 => decide (am_rt mi = none) | 1 => decide (am_rt mi = some .int) | 2 => decide (am_rt mi = some .boolean) | _ => false)
  && Nat.ble (am_na mi) (am_nl mi) && Nat.ble (am_nl mi) 20 && plainName (am_yy mi).cls && Nat.blt (am_kd mi) 3
def am_okC (c : Nat) : Bool :=
  (u_ws (am_R c) (am_T c) (am_nf c)).all (fun w => decide (w ∈ lw_tbl) && goodWord w)
  && (List.range (am_nf c)).all (fun k => decide (parseFieldDescriptor (am_T c k).2.2.1 = some (am_ty c k)) && (match am_isref c k with
      | false => decide (am_ty c k = .int)
      | true => (match am_ty c k with | .object _ => true | .array _ => true | _ => false)))
  && (List.range (am_nf c)).all (fun a => (List.range (am_nf c)).all (fun b => Nat.beq a b || decide ((am_T c a).2.1 ≠ (am_T c b).2.1)))
  && am_good ((am_cw c).getD 0 0) (.instantiable (am_R c) (am_nf c)) && am_good ((am_cw c).getD 1 0) (.initialized (am_R c))
  && (List.range (am_nf c)).all (fun k => decide ((am_T c k).1 = am_R c))
set_option maxRecDepth 100000 in
theorem am_ckC : (List.range 8).all am_okC = true := by decide +kernel
set_option maxRecDepth 100000 in
theorem am_ckM : (List.range 137).all am_okM = true := by decide +kernel
set_option maxRecDepth 100000 in
theorem am_ckP0 : (List.range' 0 20).all (fun i => am_okP i (am_sz i)) = true := by decide +kernel
set_option maxRecDepth 100000 in
theorem am_ckP1 : (List.range' 20 20).all (fun i => am_okP i (am_sz i)) = true := by decide +kernel
set_option maxRecDepth 100000 in
theorem am_ckP2 : (List.range' 40 20).all (fun i => am_okP i (am_sz i)) = true := by decide +kernel
set_option maxRecDepth 100000 in
theorem am_ckP3 : (List.range' 60 23).all (fun i => am_okP i (am_sz i)) = true := by decide +kernel
set_option maxRecDepth 100000 in
theorem am_ckP4 : (List.range' 83 17).all (fun i => am_okP i (am_sz i)) = true := by decide +kernel
set_option maxRecDepth 100000 in
theorem am_ckP5 : (List.range' 100 15).all (fun i => am_okP i (am_sz i)) = true := by decide +kernel
set_option maxRecDepth 100000 in
theorem am_ckP6 : (List.range' 115 22).all (fun i => am_okP i (am_sz i)) = true := by decide +kernel
end
section
/-! The law's own code, in pieces. -/
def am_okQ (a n : Nat) : Bool := (List.range' a n).all (fun pc => am_okE 137 pc (am_tr0 137 pc))
set_option maxRecDepth 100000 in
theorem am_ckQ0 : am_okQ 0 30 = true := by decide +kernel
set_option maxRecDepth 100000 in
theorem am_ckQ1 : am_okQ 30 30 = true := by decide +kernel
set_option maxRecDepth 100000 in
theorem am_ckQ2 : am_okQ 60 30 = true := by decide +kernel
set_option maxRecDepth 100000 in
theorem am_ckQ3 : am_okQ 90 30 = true := by decide +kernel
set_option maxRecDepth 100000 in
theorem am_ckQ4 : am_okQ 120 30 = true := by decide +kernel
set_option maxRecDepth 100000 in
theorem am_ckQ5 : am_okQ 150 30 = true := by decide +kernel
set_option maxRecDepth 100000 in
theorem am_ckQ6 : am_okQ 180 30 = true := by decide +kernel
set_option maxRecDepth 100000 in
theorem am_ckQ7 : am_okQ 210 30 = true := by decide +kernel
set_option maxRecDepth 100000 in
theorem am_ckQ8 : am_okQ 240 30 = true := by decide +kernel
set_option maxRecDepth 100000 in
theorem am_ckQ9 : am_okQ 270 30 = true := by decide +kernel
set_option maxRecDepth 100000 in
theorem am_ckQ10 : am_okQ 300 30 = true := by decide +kernel
set_option maxRecDepth 100000 in
theorem am_ckQ11 : am_okQ 330 30 = true := by decide +kernel
set_option maxRecDepth 100000 in
theorem am_ckQ12 : am_okQ 360 30 = true := by decide +kernel
set_option maxRecDepth 100000 in
theorem am_ckQ13 : am_okQ 390 30 = true := by decide +kernel
set_option maxRecDepth 100000 in
theorem am_ckQ14 : am_okQ 420 30 = true := by decide +kernel
set_option maxRecDepth 100000 in
theorem am_ckQ15 : am_okQ 450 30 = true := by decide +kernel
set_option maxRecDepth 100000 in
theorem am_ckQ16 : am_okQ 480 30 = true := by decide +kernel
set_option maxRecDepth 100000 in
theorem am_ckQ17 : am_okQ 510 30 = true := by decide +kernel
set_option maxRecDepth 100000 in
theorem am_ckQ18 : am_okQ 540 30 = true := by decide +kernel
set_option maxRecDepth 100000 in
theorem am_ckQ19 : am_okQ 570 30 = true := by decide +kernel
set_option maxRecDepth 100000 in
theorem am_ckQ20 : am_okQ 600 30 = true := by decide +kernel
set_option maxRecDepth 100000 in
theorem am_ckQ21 : am_okQ 630 30 = true := by decide +kernel
set_option maxRecDepth 100000 in
theorem am_ckQ22 : am_okQ 660 30 = true := by decide +kernel
set_option maxRecDepth 100000 in
theorem am_ckQ23 : am_okQ 690 30 = true := by decide +kernel
set_option maxRecDepth 100000 in
theorem am_ckQ24 : am_okQ 720 30 = true := by decide +kernel
set_option maxRecDepth 100000 in
theorem am_ckQ25 : am_okQ 750 30 = true := by decide +kernel
set_option maxRecDepth 100000 in
theorem am_ckQ26 : am_okQ 780 30 = true := by decide +kernel
set_option maxRecDepth 100000 in
theorem am_ckQ27 : am_okQ 810 30 = true := by decide +kernel
end
section
/-! The machine's worlds as the kit's worlds. -/
def am_tr (ad : Nat → Nat) : Value → Value
  | .ref k => .ref (ad k)
  | v => v
def am_rf (ad : Nat → Nat) : Nat → Value
  | 0 => .null
  | k + 1 => .ref (ad k)
def am_ro (ad : Nat → Nat) : Nat → Option Nat
  | 0 => none
  | k + 1 => some (ad k)
def am_fs (ad : Nat → Nat) (ci n : Nat) (rf : Nat → Nat) (g : Nat → Int32) : List Value := (List.range n).map (fun j => match am_isref ci j with | true => am_rf ad (rf j) | false => .int (g j))
def am_en (ad : Nat → Nat) (cI cR : ClassId) (d : am_D) (g : Nat → Int32) : va_E := match d with
  | (0, n, _) => .inl (cI, n, .inl g)
  | (1, n, rf) => .inl (cR, n, .inr (.inr (.inr (.inr (fun j => bif Nat.blt j n then am_ro ad (rf j) else none)))))
  | (c + 2, n, rf) => .inr (c, am_fs ad c n rf g)
def am_wd (ad : Nat → Nat) (cI cR : ClassId) (g : am_G) : Nat → am_L → va_W
  | _, [] => []
  | k, d :: l => (ad k, am_en ad cI cR d (g k)) :: am_wd ad cI cR g (k + 1) l
theorem am_wd_get {ad : Nat → Nat} {cI cR : ClassId} {g : am_G} {d : am_D} : ∀ (L : am_L) (k i : Nat), am_at L i = some d → (am_wd ad cI cR g k L)[i]? = some (ad (k + i), am_en ad cI cR d (g (k + i)))
  | [], k, i, h => by simp [am_at] at h
  | e :: L, k, 0, h => by
    simp only [am_at, Option.some.injEq] at h
    subst h
    rfl
  | e :: L, k, i + 1, h => by
    have h1 := am_wd_get (ad := ad) (cI := cI) (cR := cR) (g := g) L (k + 1) i h
    rw [show am_wd ad cI cR g k (e :: L) = (ad k, am_en ad cI cR e (g k)) :: am_wd ad cI cR g (k + 1) L from rfl, List.getElem?_cons_succ, h1, show k + 1 + i = k + (i + 1) by omega]
theorem am_wd_in {ad : Nat → Nat} {cI cR : ClassId} {g : am_G} : ∀ (L : am_L) (k i : Nat) (q : Nat × va_E), (am_wd ad cI cR g k L)[i]? = some q → ∃ d, am_at L i = some d ∧ q = (ad (k + i), am_en ad cI cR d (g (k + i)))
  | [], k, i, q, h => by simp [am_wd] at h
  | e :: L, k, 0, q, h => by
    rw [show am_wd ad cI cR g k (e :: L) = (ad k, am_en ad cI cR e (g k)) :: am_wd ad cI cR g (k + 1) L from rfl, List.getElem?_cons_zero] at h
    cases h
    exact ⟨e, rfl, rfl⟩
  | e :: L, k, i + 1, q, h => by
    rw [show am_wd ad cI cR g k (e :: L) = (ad k, am_en ad cI cR e (g k)) :: am_wd ad cI cR g (k + 1) L from rfl, List.getElem?_cons_succ] at h
    obtain ⟨d, h1, h2⟩ := am_wd_in L (k + 1) i q h
    exact ⟨d, h1, by rw [h2, show k + 1 + i = k + (i + 1) by omega]⟩
theorem am_wd_cong {ad : Nat → Nat} {cI cR : ClassId} {g g' : am_G} : ∀ (L : am_L) (k : Nat), (∀ j, k ≤ j → j < k + L.length → g' j = g j) → am_wd ad cI cR g' k L = am_wd ad cI cR g k L
  | [], k, h => rfl
  | e :: L, k, h => by
    show (ad k, am_en ad cI cR e (g' k)) :: am_wd ad cI cR g' (k + 1) L = (ad k, am_en ad cI cR e (g k)) :: am_wd ad cI cR g (k + 1) L
    rw [h k (Nat.le_refl k) (by simp), am_wd_cong L (k + 1) (fun j h1 h2 => h j (by omega) (by simp only [List.length_cons]; omega))]
theorem am_wd_set {ad : Nat → Nat} {cI cR : ClassId} {g g' : am_G} {d d' : am_D} : ∀ (L : am_L) (k i : Nat), am_at L i = some d → (∀ j, j ≠ k + i → g' j = g j) → (am_wd ad cI cR g k L).set i (ad (k + i), am_en ad cI cR d' (g' (k + i))) = am_wd ad cI cR g' k (am_put L i d')
  | [], k, i, h, _ => by simp [am_at] at h
  | e :: L, k, 0, h, hg => by
    show (ad k, am_en ad cI cR d' (g' k)) :: am_wd ad cI cR g (k + 1) L = (ad k, am_en ad cI cR d' (g' k)) :: am_wd ad cI cR g' (k + 1) L
    rw [am_wd_cong (g := g) (g' := g') L (k + 1) (fun j h1 _ => hg j (by omega))]
  | e :: L, k, i + 1, h, hg => by
    have h1 := am_wd_set (ad := ad) (cI := cI) (cR := cR) (g := g) (g' := g') (d' := d') L (k + 1) i h (fun j hj => hg j (by omega))
    show (ad k, am_en ad cI cR e (g k)) :: (am_wd ad cI cR g (k + 1) L).set i _ = (ad k, am_en ad cI cR e (g' k)) :: am_wd ad cI cR g' (k + 1) (am_put L i d')
    rw [hg k (by omega), show k + (i + 1) = k + 1 + i by omega, h1]
theorem am_put_self {d : am_D} : ∀ (L : am_L) (i : Nat), am_at L i = some d → am_put L i d = L
  | [], i, h => by simp [am_at] at h
  | e :: L, 0, h => by simp only [am_at, Option.some.injEq] at h; subst h; rfl
  | e :: L, i + 1, h => by show e :: am_put L i d = e :: L; rw [am_put_self L i h]
theorem am_put_len : ∀ (L : am_L) (i : Nat) (d : am_D), (am_put L i d).length = L.length
  | [], _, _ => rfl
  | _ :: _, 0, _ => rfl
  | _ :: L, i + 1, d => by show (am_put L i d).length + 1 = L.length + 1; rw [am_put_len]
theorem am_at_lt : ∀ (L : am_L) (i : Nat) (d : am_D), am_at L i = some d → i < L.length
  | [], i, d, h => by simp [am_at] at h
  | _ :: _, 0, _, _ => by simp
  | _ :: L, i + 1, d, h => by
    have := am_at_lt L i d h
    simp only [List.length_cons]; omega
theorem am_wd_app {ad : Nat → Nat} {cI cR : ClassId} {g : am_G} {d : am_D} : ∀ (L : am_L) (k : Nat), am_wd ad cI cR g k (L ++ [d]) = am_wd ad cI cR g k L ++ [(ad (k + L.length), am_en ad cI cR d (g (k + L.length)))]
  | [], k => rfl
  | e :: L, k => by
    show (ad k, _) :: am_wd ad cI cR g (k + 1) (L ++ [d]) = (ad k, _) :: (am_wd ad cI cR g (k + 1) L ++ _)
    rw [am_wd_app L (k + 1), List.length_cons, show k + 1 + L.length = k + (L.length + 1) by omega]
theorem am_rf_cong {ad ad' : Nat → Nat} {n v : Nat} (h : v ≤ n) (ha : ∀ j, j < n → ad' j = ad j) : am_rf ad' v = am_rf ad v := by
  cases v with
  | zero => rfl
  | succ v => show Value.ref (ad' v) = Value.ref (ad v); rw [ha v (by omega)]
theorem am_ro_cong {ad ad' : Nat → Nat} {n v : Nat} (h : v ≤ n) (ha : ∀ j, j < n → ad' j = ad j) : am_ro ad' v = am_ro ad v := by
  cases v with
  | zero => rfl
  | succ v => show some (ad' v) = some (ad v); rw [ha v (by omega)]
theorem am_fok_at {n : Nat} {rf : Nat → Nat} : ∀ (m : Nat), am_fok n rf m = true → ∀ j, j < m → rf j ≤ n
  | 0, _, j, hj => absurd hj (Nat.not_lt_zero j)
  | m + 1, h, j, hj => by
    simp only [am_fok, Bool.and_eq_true] at h
    rcases Nat.lt_succ_iff_lt_or_eq.mp hj with q | q
    · exact am_fok_at m h.2 j q
    · subst q; exact Nat.le_of_ble_eq_true h.1
theorem am_fs_cong {ad ad' : Nat → Nat} {ci n N : Nat} {rf : Nat → Nat} {g : Nat → Int32} (h : am_fok N rf n = true) (ha : ∀ j, j < N → ad' j = ad j) : am_fs ad' ci n rf g = am_fs ad ci n rf g := by
  refine List.map_congr_left (fun j hj => ?_)
  have h1 := am_fok_at n h j (List.mem_range.mp hj)
  cases am_isref ci j with
  | true => exact am_rf_cong h1 ha
  | false => rfl
theorem am_en_cong {ad ad' : Nat → Nat} {cI cR : ClassId} {N : Nat} {d : am_D} {g : Nat → Int32} (h : am_fok N d.2.2 d.2.1 = true) (ha : ∀ j, j < N → ad' j = ad j) : am_en ad' cI cR d g = am_en ad cI cR d g := by
  obtain ⟨t, n, rf⟩ := d
  match t with
  | 0 => rfl
  | 1 =>
    have e : (fun j => bif Nat.blt j n then am_ro ad' (rf j) else none) = (fun j => bif Nat.blt j n then am_ro ad (rf j) else none) := by
      funext j
      cases hj : Nat.blt j n with
      | true => exact am_ro_cong (am_fok_at n h j (by simpa [Nat.blt_eq] using hj)) ha
      | false => rfl
    show Sum.inl (cR, n, Sum.inr (Sum.inr (Sum.inr (Sum.inr _)))) = Sum.inl (cR, n, Sum.inr (Sum.inr (Sum.inr (Sum.inr _))))
    rw [e]
  | c + 2 =>
    show Sum.inr (c, am_fs ad' c n rf g) = Sum.inr (c, am_fs ad c n rf g)
    rw [am_fs_cong h ha]
theorem am_wd_ext {ad ad' : Nat → Nat} {cI cR : ClassId} {g g' : am_G} {N : Nat} : ∀ (L : am_L) (k : Nat), am_lok N L = true → (∀ j, j < N → ad' j = ad j) → k + L.length ≤ N → (∀ j, j < N → g' j = g j) → am_wd ad' cI cR g' k L = am_wd ad cI cR g k L
  | [], k, _, _, _, _ => rfl
  | e :: L, k, h, ha, hk, hg => by
    simp only [am_lok, Bool.and_eq_true] at h
    simp only [List.length_cons] at hk
    show (ad' k, am_en ad' cI cR e (g' k)) :: am_wd ad' cI cR g' (k + 1) L = (ad k, am_en ad cI cR e (g k)) :: am_wd ad cI cR g (k + 1) L
    rw [ha k (by omega), hg k (by omega), am_en_cong h.1 ha, am_wd_ext L (k + 1) h.2 ha (by omega) hg]
theorem am_fs_set_i {ad : Nat → Nat} {ci n b : Nat} {rf : Nat → Nat} {g : Nat → Int32} {x : Int32} (h : am_isref ci b = false) : (am_fs ad ci n rf g).set b (.int x) = am_fs ad ci n rf (upd g b x) := by
  apply List.ext_getElem?
  intro j
  simp only [am_fs, List.getElem?_set, List.getElem?_map, List.getElem?_range', List.length_map, List.length_range]
  by_cases hj : b = j
  · subst hj
    rcases Nat.lt_or_ge b n with q | q
    · simp [q, h, upd]
    · simp [q, Nat.not_lt.mpr q]
  · rw [if_neg hj]
    rcases Nat.lt_or_ge j n with q | q
    · simp [q, upd, Ne.symm hj]
    · simp [q, Nat.not_lt.mpr q]
theorem am_fs_set_r {ad : Nat → Nat} {ci n b v : Nat} {rf : Nat → Nat} {g : Nat → Int32} (h : am_isref ci b = true) : (am_fs ad ci n rf g).set b (.ref (ad v)) = am_fs ad ci n (fun j => if j = b then v + 1 else rf j) g := by
  apply List.ext_getElem?
  intro j
  simp only [am_fs, List.getElem?_set, List.getElem?_map, List.length_map, List.length_range]
  by_cases hj : b = j
  · subst hj
    rcases Nat.lt_or_ge b n with q | q
    · simp [q, h, am_rf]
    · simp [q, Nat.not_lt.mpr q]
  · rw [if_neg hj]
    rcases Nat.lt_or_ge j n with q | q
    · simp [q, Ne.symm hj]
    · simp [q, Nat.not_lt.mpr q]
theorem am_fs_get {ad : Nat → Nat} {ci n b : Nat} {rf : Nat → Nat} {g : Nat → Int32} (h : b < n) : (am_fs ad ci n rf g)[b]? = some (match am_isref ci b with | true => am_rf ad (rf b) | false => .int (g b)) := by
  simp [am_fs, h]
theorem am_fs_len {ad : Nat → Nat} {ci n : Nat} {rf : Nat → Nat} {g : Nat → Int32} : (am_fs ad ci n rf g).length = n := by simp [am_fs]
/-- the locals -/
def am_ps (ad : Nat → Nat) : Nat → am_V → List (Nat × Value)
  | _, [] => []
  | k, none :: l => am_ps ad (k + 1) l
  | k, some v :: l => (k, am_tr ad v) :: am_ps ad (k + 1) l
theorem am_ps_in {ad : Nat → Nat} {v : Value} : ∀ (lv : am_V) (k i : Nat), am_vat lv i = some v → (k + i, am_tr ad v) ∈ am_ps ad k lv
  | [], k, i, h => by simp [am_vat] at h
  | none :: l, k, 0, h => by simp [am_vat] at h
  | some w :: l, k, 0, h => by
    simp only [am_vat, Option.some.injEq] at h
    subst h
    exact List.mem_cons_self
  | none :: l, k, i + 1, h => by
    have := am_ps_in (ad := ad) l (k + 1) i h
    rw [show k + (i + 1) = k + 1 + i by omega]; exact this
  | some w :: l, k, i + 1, h => by
    have := am_ps_in (ad := ad) l (k + 1) i h
    rw [show k + (i + 1) = k + 1 + i by omega]; exact List.mem_cons_of_mem _ this
theorem am_ps_of {ad : Nat → Nat} {q : Nat × Value} : ∀ (lv : am_V) (k : Nat), q ∈ am_ps ad k lv → ∃ i v, am_vat lv i = some v ∧ q = (k + i, am_tr ad v)
  | [], k, h => by cases h
  | none :: l, k, h => by
    obtain ⟨i, v, h1, h2⟩ := am_ps_of l (k + 1) h
    exact ⟨i + 1, v, h1, by rw [h2, show k + 1 + i = k + (i + 1) by omega]⟩
  | some w :: l, k, h => by
    rcases List.mem_cons.mp h with h | h
    · exact ⟨0, w, rfl, h⟩
    · obtain ⟨i, v, h1, h2⟩ := am_ps_of l (k + 1) h
      exact ⟨i + 1, v, h1, by rw [h2, show k + 1 + i = k + (i + 1) by omega]⟩
theorem am_vset_len : ∀ (lv : am_V) (i : Nat) (v : Value), (am_vset lv i v).length = lv.length
  | [], _, _ => rfl
  | _ :: _, 0, _ => rfl
  | _ :: l, i + 1, v => by show (am_vset l i v).length + 1 = l.length + 1; rw [am_vset_len]
theorem am_vset_at {v w : Value} : ∀ (lv : am_V) (i j : Nat), am_vat (am_vset lv i v) j = some w → (j = i ∧ w = v) ∨ (j ≠ i ∧ am_vat lv j = some w)
  | [], i, j, h => by simp [am_vset, am_vat] at h
  | u :: l, 0, 0, h => by simp only [am_vset, am_vat, Option.some.injEq] at h; exact Or.inl ⟨rfl, h.symm⟩
  | u :: l, 0, j + 1, h => Or.inr ⟨by omega, h⟩
  | u :: l, i + 1, 0, h => Or.inr ⟨by omega, h⟩
  | u :: l, i + 1, j + 1, h => by
    rcases am_vset_at l i j h with ⟨a, b⟩ | ⟨a, b⟩
    · exact Or.inl ⟨by omega, b⟩
    · exact Or.inr ⟨by omega, b⟩
def am_Lo (ad : Nat → Nat) (ls : Array Slot) (n : Nat) (lv : am_V) : Prop := lv_has ls n (am_ps ad 0 lv) ∧ lv.length = n ∧ ∀ i v, am_vat lv i = some v → am_cat1 v = true
theorem am_cat1_tr {ad : Nat → Nat} {v : Value} (h : am_cat1 v = true) : (am_tr ad v).category = 1 := by
  cases v <;> first | rfl | (simp [am_cat1] at h)
theorem am_Lo.get {ad : Nat → Nat} {ls : Array Slot} {n i : Nat} {lv : am_V} {v : Value} (h : am_Lo ad ls n lv) (hv : am_vat lv i = some v) : ls[i]? = some (.val (am_tr ad v)) := by
  have h1 := h.1.2.2 _ (am_ps_in (ad := ad) lv 0 i hv)
  rw [Nat.zero_add] at h1
  exact h1
theorem am_Lo.set {ad : Nat → Nat} {ls ls' : Array Slot} {n i : Nat} {lv : am_V} {v : Value} (h : am_Lo ad ls n lv) (hc : am_cat1 v = true) (h' : lv_has ls' n ((i, am_tr ad v) :: (am_ps ad 0 lv).filter (fun q => !(q.1 == i) && !(q.1 + 1 == i && q.2.category == 2)))) : am_Lo ad ls' n (am_vset lv i v) := by
  refine ⟨⟨h'.1, h'.2.1, fun q hq => ?_⟩, by rw [am_vset_len]; exact h.2.1, fun j w hw => ?_⟩
  · obtain ⟨j, w, h1, rfl⟩ := am_ps_of _ _ hq
    rw [Nat.zero_add]
    rcases am_vset_at lv i j h1 with ⟨rfl, rfl⟩ | ⟨a, b⟩
    · exact h'.2.2 _ List.mem_cons_self
    · refine h'.2.2 (j, am_tr ad w) (List.mem_cons_of_mem _ (List.mem_filter.mpr ⟨?_, ?_⟩))
      · have := am_ps_in (ad := ad) lv 0 j b
        rw [Nat.zero_add] at this
        exact this
      · have hc1 := am_cat1_tr (ad := ad) (h.2.2 j w b)
        simp [a, hc1]
  · rcases am_vset_at lv i j hw with ⟨-, rfl⟩ | ⟨-, b⟩
    · exact hc
    · exact h.2.2 j w b
theorem am_tr_eq {ad ad' : Nat → Nat} {n : Nat} {v : Value} (h : am_rok n v = true) (ha : ∀ k, k < n ∨ k = am_scr → ad' k = ad k) : am_tr ad' v = am_tr ad v := by
  cases v with
  | ref k =>
    show Value.ref (ad' k) = Value.ref (ad k)
    simp only [am_rok, Bool.or_eq_true] at h
    rw [ha k]
    rcases h with h | h
    · exact Or.inl (by simpa [Nat.blt_eq] using h)
    · exact Or.inr (Nat.eq_of_beq_eq_true h)
  | _ => rfl
theorem am_st_eq {ad ad' : Nat → Nat} {n : Nat} : ∀ (st : List Value), am_sok n st = true → (∀ k, k < n ∨ k = am_scr → ad' k = ad k) → st.map (am_tr ad') = st.map (am_tr ad)
  | [], _, _ => rfl
  | v :: l, h, ha => by
    simp only [am_sok, Bool.and_eq_true] at h
    rw [List.map_cons, List.map_cons, am_tr_eq h.1 ha, am_st_eq l h.2 ha]
theorem am_ps_eq {ad ad' : Nat → Nat} {n : Nat} : ∀ (lv : am_V) (k : Nat), am_vok n lv = true → (∀ k, k < n ∨ k = am_scr → ad' k = ad k) → am_ps ad' k lv = am_ps ad k lv
  | [], _, _, _ => rfl
  | none :: l, k, h, ha => am_ps_eq l (k + 1) h ha
  | some v :: l, k, h, ha => by
    simp only [am_vok, Bool.and_eq_true] at h
    show (k, am_tr ad' v) :: am_ps ad' (k + 1) l = (k, am_tr ad v) :: am_ps ad (k + 1) l
    rw [am_tr_eq h.1 ha, am_ps_eq l (k + 1) h.2 ha]
theorem am_Lo.eq {ad ad' : Nat → Nat} {ls : Array Slot} {n N : Nat} {lv : am_V} (h : am_Lo ad ls n lv) (hk : am_vok N lv = true) (ha : ∀ k, k < N ∨ k = am_scr → ad' k = ad k) : am_Lo ad' ls n lv := ⟨by rw [am_ps_eq lv 0 hk ha]; exact h.1, h.2⟩
end
section
/-! The machine's runs are the kit's runs. -/
def am_TG : List Cond := lw_tbl.filter goodWord
theorem am_has_of {q : Nat} {w : Cond} (h : am_has q w = true) : w ∈ lw_tbl := by
  unfold am_has at h
  cases e : lw_tbl[q]? with
  | none => rw [e] at h; cases h
  | some v =>
    rw [e] at h
    have h1 : v = w := of_decide_eq_true h
    subst h1
    exact List.mem_of_getElem? e
theorem am_good_of {q : Nat} {w : Cond} (h : am_good q w = true) : w ∈ am_TG := by
  simp only [am_good, Bool.and_eq_true] at h
  exact List.mem_filter.mpr ⟨am_has_of h.1, h.2⟩
theorem am_okP_at {mi : Nat} : ∀ (n : Nat), am_okP mi n = true → ∀ j, j < n → am_okE mi j (am_tr0 mi j) = true
  | 0, _, j, hj => absurd hj (Nat.not_lt_zero j)
  | n + 1, h, j, hj => by
    simp only [am_okP, Bool.and_eq_true] at h
    rcases Nat.lt_succ_iff_lt_or_eq.mp hj with q | q
    · exact am_okP_at n h.2 j q
    · subst q; exact h.1
theorem am_rng {f : Nat → Bool} {a n i : Nat} (h : (List.range' a n).all f = true) (h1 : a ≤ i) (h2 : i < a + n) : f i = true := by
  have := List.all_eq_true.mp h i (List.mem_range'_1.mpr ⟨h1, h2⟩)
  exact this
theorem am_ckQ : ∀ k, k < 28 → am_okQ (30 * k) 30 = true
  | 0, _ => am_ckQ0
  | 1, _ => am_ckQ1
  | 2, _ => am_ckQ2
  | 3, _ => am_ckQ3
  | 4, _ => am_ckQ4
  | 5, _ => am_ckQ5
  | 6, _ => am_ckQ6
  | 7, _ => am_ckQ7
  | 8, _ => am_ckQ8
  | 9, _ => am_ckQ9
  | 10, _ => am_ckQ10
  | 11, _ => am_ckQ11
  | 12, _ => am_ckQ12
  | 13, _ => am_ckQ13
  | 14, _ => am_ckQ14
  | 15, _ => am_ckQ15
  | 16, _ => am_ckQ16
  | 17, _ => am_ckQ17
  | 18, _ => am_ckQ18
  | 19, _ => am_ckQ19
  | 20, _ => am_ckQ20
  | 21, _ => am_ckQ21
  | 22, _ => am_ckQ22
  | 23, _ => am_ckQ23
  | 24, _ => am_ckQ24
  | 25, _ => am_ckQ25
  | 26, _ => am_ckQ26
  | 27, _ => am_ckQ27
  | k + 28, h => absurd h (by omega)
theorem am_ckP : ∀ mi, mi < 137 → am_okP mi (am_sz mi) = true := by
  intro mi h
  rcases Nat.lt_or_ge mi 20 with q | q
  · exact am_rng (f := fun i => am_okP i (am_sz i)) am_ckP0 (by omega) (by omega)
  rcases Nat.lt_or_ge mi 40 with q | q
  · exact am_rng (f := fun i => am_okP i (am_sz i)) am_ckP1 (by omega) (by omega)
  rcases Nat.lt_or_ge mi 60 with q | q
  · exact am_rng (f := fun i => am_okP i (am_sz i)) am_ckP2 (by omega) (by omega)
  rcases Nat.lt_or_ge mi 83 with q | q
  · exact am_rng (f := fun i => am_okP i (am_sz i)) am_ckP3 (by omega) (by omega)
  rcases Nat.lt_or_ge mi 100 with q | q
  · exact am_rng (f := fun i => am_okP i (am_sz i)) am_ckP4 (by omega) (by omega)
  rcases Nat.lt_or_ge mi 115 with q | q
  · exact am_rng (f := fun i => am_okP i (am_sz i)) am_ckP5 (by omega) (by omega)
  exact am_rng (f := fun i => am_okP i (am_sz i)) am_ckP6 (by omega) (by omega)
theorem am_sz_law : am_sz 137 ≤ 840 := by decide +kernel
theorem am_okAt (mi pc : Nat) : am_okE mi pc (am_cd mi pc) = true := by
  unfold am_cd
  cases hc : (Nat.blt mi 138 && Nat.blt pc (am_sz mi)) with
  | false => rfl
  | true =>
    simp only [Bool.and_eq_true, Nat.blt_eq] at hc
    obtain ⟨h1, h2⟩ := hc
    show am_okE mi pc (am_tr0 mi pc) = true
    rcases Nat.lt_or_ge mi 137 with q | q
    · exact am_okP_at _ (am_ckP mi q) pc h2
    · have e : mi = 137 := by omega
      subst e
      have h2 := Nat.lt_of_lt_of_le h2 am_sz_law
      exact am_rng (f := fun pc => am_okE 137 pc (am_tr0 137 pc)) (am_ckQ (pc / 30) (by omega)) (by omega) (by omega)
theorem am_dec_of {mi pc nx a b : Nat} {ins : Instr} {sw : List (Int32 × Nat)} (h : am_okE mi pc (ins, nx, a, b, sw) = true) (hn : ins ≠ .nop) : decode (am_by mi) pc = .ok (ins, nx - pc) ∧ am_okI mi pc (ins, nx, a, b, sw) = true := by
  unfold am_okE at h
  dsimp only at h
  split at h
  · exact absurd rfl hn
  · simp only [Bool.and_eq_true] at h
    exact ⟨of_decide_eq_true h.1, h.2⟩
def am_Cx (p : Program) (R : Room) (s : State) (m : MethodId) (args : Array Value) (meth : Method) (c : Code) (mi d bc bs cells slots : Nat) : Prop :=
  p.tables.exec = Jvm.exec ∧ c.code = am_by mi ∧ c.maxLocals = am_nl mi ∧ s.vm.findClass (am_own mi) = some m.cls ∧ (∀ w ∈ am_TG, w.before args s = true) ∧ (∀ w ∈ lw_tbl, am_isN w = true → va_Nw w s) ∧ va_AO (am_R am_shc) s ∧
    (am_kd mi = 2 → meth.name = "<init>") ∧ d ≤ R.frames ∧ 40 * d ≤ R.locals ∧ cells + bc ≤ R.cells ∧ slots + bs ≤ R.slots
def am_tys (cI cR : ClassId) : List (ClassId × FieldType) := [(cI, .int), (cR, .object (am_R am_shc))]
def am_Wo (D : va_G) (A : Nat → Prop) (cI cR : ClassId) (ad : Nat → Nat) (L : am_L) (g : am_G) (s : State) (H : Heap) (locs : List Loc) : Prop :=
  va_K D am_cls (am_tys cI cR) s ∧ va_P D am_cls (am_wd ad cI cR g 0 L) H ∧ va_D A (am_wd ad cI cR g 0 L) ∧ va_S A s.heap H locs ∧ (∀ q, s.heap.size ≤ q → A q)
def am_Sx (sx : am_S) (ad : Nat → Nat) (A : Nat → Prop) (s : State) : Prop := match sx with
  | none => True
  | some (n, xs) => va_X (ad am_scr) n xs s s.heap ∧ ad am_scr < s.heap.size ∧ ¬ A (ad am_scr)
def am_End (mi pc : Nat) : Option Value → Prop
  | none => am_rk mi = 0 ∧ decode (am_by mi) pc = .ok (.return_, 1)
  | some v => ∃ x : Int32, v = .int x ∧ am_rk mi ≠ 0 ∧ (am_rk mi = 2 → x = 0 ∨ x = 1) ∧ decode (am_by mi) pc = .ok (.ireturn, 1)
def am_Rt (p : Program) (l : Launch) (e : Env) (R : Room) (s : State) (m : MethodId) (args : Array Value) (below : List Frame) (meth : Method) (c : Code) (mi : Nat) (D : va_G) (A : Nat → Prop) (cI cR : ClassId) (ad : Nat → Nat) (n0 bc bs cells slots : Nat) (Q : am_Q) (Z : State → Prop) : Prop :=
  ∀ (r : Option Value) (L' : am_L) (g' : am_G) (ad' : Nat → Nat) (H' : Heap) (locs' : List Loc) (c' s' pc' : Nat) (ls' : Array Slot), Q r L' g' → am_Wo D A cI cR ad' L' g' s H' locs' → n0 ≤ L'.length → (∀ k, k < n0 ∨ k = am_scr → ad' k = ad k) → (bc = 0 → ad' = ad) → c' ≤ cells + bc → s' ≤ slots + bs → am_End mi pc' r →
    W p l e R s m args below meth c H' locs' c' s' Z (F0 m pc' ls' (r.map (am_tr ad')).toList)
def am_Sd : am_X := fun d mi pc lv st L g bc bs sx Q =>
  ∀ (p : Program) (l : Launch) (e : Env) (R : Room) (s : State) (m : MethodId) (args : Array Value) (below : List Frame) (meth : Method) (c : Code) (H : Heap) (locs : List Loc) (cells slots : Nat) (D : va_G) (A : Nat → Prop) (cI cR : ClassId) (ad : Nat → Nat) (Z : State → Prop) (ls : Array Slot),
    am_Cx p R s m args meth c mi d bc bs cells slots → am_Wo D A cI cR ad L g s H locs → am_Lo ad ls (am_nl mi) lv → am_Sx sx ad A s →
    am_Rt p l e R s m args below meth c mi D A cI cR ad L.length bc bs cells slots Q Z → W p l e R s m args below meth c H locs cells slots Z (F0 m pc ls (st.map (am_tr ad)))
theorem am_i1_of {st : List Value} {f : Int32 → List Value → Prop} (h : am_i1 st f) : ∃ x r, st = .int x :: r ∧ f x r := by
  unfold am_i1 at h; split at h
  · exact ⟨_, _, rfl, h⟩
  · exact h.elim
theorem am_i2_of {st : List Value} {f : Int32 → Int32 → List Value → Prop} (h : am_i2 st f) : ∃ x y r, st = .int y :: .int x :: r ∧ f x y r := by
  unfold am_i2 at h; split at h
  · exact ⟨_, _, _, rfl, h⟩
  · exact h.elim
theorem am_l2_of {st : List Value} {f : Int64 → Int64 → List Value → Prop} (h : am_l2 st f) : ∃ x y r, st = .long y :: .long x :: r ∧ f x y r := by
  unfold am_l2 at h; split at h
  · exact ⟨_, _, _, rfl, h⟩
  · exact h.elim
theorem am_r1_of {st : List Value} {f : Nat → List Value → Prop} (h : am_r1 st f) : ∃ x r, st = .ref x :: r ∧ f x r := by
  unfold am_r1 at h; split at h
  · exact ⟨_, _, rfl, h⟩
  · exact h.elim
theorem am_ia_of {st : List Value} {f : Nat → Int32 → List Value → Prop} (h : am_ia st f) : ∃ k i r, st = .int i :: .ref k :: r ∧ f k i r := by
  unfold am_ia at h; split at h
  · exact ⟨_, _, _, rfl, h⟩
  · exact h.elim
theorem am_iai_of {st : List Value} {f : Nat → Int32 → Int32 → List Value → Prop} (h : am_iai st f) : ∃ k i x r, st = .int x :: .int i :: .ref k :: r ∧ f k i x r := by
  unfold am_iai at h; split at h
  · exact ⟨_, _, _, _, rfl, h⟩
  · exact h.elim
theorem am_kv_of {sw : List (Int32 × Nat)} {f : Int32 → Prop} (h : am_kv sw f) : ∃ v q l, sw = (v, q) :: l ∧ f v := by
  unfold am_kv at h; split at h
  · exact ⟨_, _, _, rfl, h⟩
  · exact h.elim
theorem am_ld_of {lv : am_V} {i : Nat} {f : Value → Prop} (h : am_ld lv i f) : ∃ v, am_vat lv i = some v ∧ f v := by
  unfold am_ld at h; split at h
  · rename_i v e; exact ⟨v, e, h⟩
  · exact h.elim
theorem am_b_of {c : Bool} {P : Prop} (h : am_b c P) : c = true ∧ P := by
  cases c
  · exact h.elim
  · exact ⟨rfl, h⟩
theorem am_v1_of {sw : List (Int32 × Nat)} {f : Int32 → Nat → Bool} (h : am_v1 sw f = true) : ∃ v q, sw = [(v, q)] ∧ f v q = true := by
  unfold am_v1 at h; split at h
  · exact ⟨_, _, rfl, h⟩
  · cases h
section AMS
variable {d mi pc nx a b : Nat} {sw : List (Int32 × Nat)} {lv : am_V} {st : List Value} {L : am_L} {g : am_G} {bc bs : Nat} {sx : am_S} {Q : am_Q}
theorem am_go {st st' : List Value} (hstep : ∀ {p : Program} {l : Launch} {e : Env} {R : Room} {s : State} {m : MethodId} {args : Array Value} {below : List Frame} {meth : Method} {c : Code} {H : Heap} {locs : List Loc} {cells slots : Nat} {Z : State → Prop} {ls : Array Slot} {ad : Nat → Nat}, p.tables.exec = Jvm.exec → c.code = am_by mi → W p l e R s m args below meth c H locs cells slots Z (F0 m nx ls (st'.map (am_tr ad))) → W p l e R s m args below meth c H locs cells slots Z (F0 m pc ls (st.map (am_tr ad)))) (h : am_Sd d mi nx lv st' L g bc bs sx Q) : am_Sd d mi pc lv st L g bc bs sx Q := by
  intro p l e R s m args below meth c H locs cells slots D A cI cR ad Z ls hC hW hL hS hR
  exact hstep hC.1 hC.2.1 (h p l e R s m args below meth c H locs cells slots D A cI cR ad Z ls hC hW hL hS hR)
theorem am_s_iconst {i : Int} (ok : am_okE mi pc (.iconst i, nx, a, b, sw) = true) (h : am_kv sw (fun v => am_Sd d mi nx lv (.int v :: st) L g bc bs sx Q)) : am_Sd d mi pc lv st L g bc bs sx Q := by
  obtain ⟨hd, hI⟩ := am_dec_of ok (by intro q; cases q)
  simp only [am_okI, Bool.and_eq_true] at hI
  have hn := Nat.eq_of_beq_eq_true hI.1
  subst hn
  obtain ⟨v, q, rfl, hv⟩ := am_v1_of hI.2
  rw [Nat.add_sub_cancel_left] at hd
  exact am_go (fun hx hb k => lv_iconst hx hb hd (of_decide_eq_true hv) k) h
theorem am_s_bipush {i : Int} (ok : am_okE mi pc (.bipush i, nx, a, b, sw) = true) (h : am_kv sw (fun v => am_Sd d mi nx lv (.int v :: st) L g bc bs sx Q)) : am_Sd d mi pc lv st L g bc bs sx Q := by
  obtain ⟨hd, hI⟩ := am_dec_of ok (by intro q; cases q)
  simp only [am_okI, Bool.and_eq_true] at hI
  have hn := Nat.eq_of_beq_eq_true hI.1
  subst hn
  obtain ⟨v, q, rfl, hv⟩ := am_v1_of hI.2
  rw [Nat.add_sub_cancel_left] at hd
  exact am_go (fun hx hb k => lv_bipush hx hb hd (of_decide_eq_true hv) k) h
theorem am_s_sipush {i : Int} (ok : am_okE mi pc (.sipush i, nx, a, b, sw) = true) (h : am_kv sw (fun v => am_Sd d mi nx lv (.int v :: st) L g bc bs sx Q)) : am_Sd d mi pc lv st L g bc bs sx Q := by
  obtain ⟨hd, hI⟩ := am_dec_of ok (by intro q; cases q)
  simp only [am_okI, Bool.and_eq_true] at hI
  have hn := Nat.eq_of_beq_eq_true hI.1
  subst hn
  obtain ⟨v, q, rfl, hv⟩ := am_v1_of hI.2
  rw [Nat.add_sub_cancel_left] at hd
  exact am_go (fun hx hb k => lv_sipush hx hb hd (of_decide_eq_true hv) k) h
theorem am_s_ldc {i : Nat} (ok : am_okE mi pc (.ldc i, nx, a, b, sw) = true) (h : am_kv sw (fun v => am_Sd d mi nx lv (.int v :: st) L g bc bs sx Q)) : am_Sd d mi pc lv st L g bc bs sx Q := by
  obtain ⟨hd, hI⟩ := am_dec_of ok (by intro q; cases q)
  simp only [am_okI, Bool.and_eq_true] at hI
  have hn := Nat.eq_of_beq_eq_true hI.1
  subst hn
  obtain ⟨v, q, rfl, hv⟩ := am_v1_of hI.2
  rw [Nat.add_sub_cancel_left] at hd
  intro p l e R s m args below meth c H locs cells slots D A cI cR ad Z ls hC hW hL hS hR
  obtain ⟨hx, hb, hml, hown, hts, hC'⟩ := id hC
  exact lv_ldc hx hb hown (hts _ (am_good_of hv)) hd (h p l e R s m args below meth c H locs cells slots D A cI cR ad Z ls hC hW hL hS hR)
theorem am_s_ldc_w {i : Nat} (ok : am_okE mi pc (.ldc_w i, nx, a, b, sw) = true) (h : am_kv sw (fun v => am_Sd d mi nx lv (.int v :: st) L g bc bs sx Q)) : am_Sd d mi pc lv st L g bc bs sx Q := by
  obtain ⟨hd, hI⟩ := am_dec_of ok (by intro q; cases q)
  simp only [am_okI, Bool.and_eq_true] at hI
  have hn := Nat.eq_of_beq_eq_true hI.1
  subst hn
  obtain ⟨v, q, rfl, hv⟩ := am_v1_of hI.2
  rw [Nat.add_sub_cancel_left] at hd
  intro p l e R s m args below meth c H locs cells slots D A cI cR ad Z ls hC hW hL hS hR
  obtain ⟨hx, hb, hml, hown, hts, hC'⟩ := id hC
  exact lv_ldcw hx hb hown (hts _ (am_good_of hv)) hd (h p l e R s m args below meth c H locs cells slots D A cI cR ad Z ls hC hW hL hS hR)
theorem am_s_iload {i : Nat} (ok : am_okE mi pc (.iload i, nx, a, b, sw) = true) (h : am_ld lv a (fun v => am_b (am_isi v) (am_Sd d mi nx lv (v :: st) L g bc bs sx Q))) : am_Sd d mi pc lv st L g bc bs sx Q := by
  obtain ⟨hd, hI⟩ := am_dec_of ok (by intro q; cases q)
  simp only [am_okI, Bool.and_eq_true] at hI
  have hn := Nat.eq_of_beq_eq_true hI.1
  have ha := Nat.eq_of_beq_eq_true hI.2
  subst hn; subst ha
  rw [Nat.add_sub_cancel_left] at hd
  obtain ⟨v, hv, h⟩ := am_ld_of h
  obtain ⟨hi, h⟩ := am_b_of h
  cases v <;> first | (simp [am_isi] at hi; done) | skip
  intro p l e R s m args below meth c H locs cells slots D A cI cR ad Z ls hC hW hL hS hR
  exact lv_iload hC.1 hC.2.1 hd (hL.get hv) (h p l e R s m args below meth c H locs cells slots D A cI cR ad Z ls hC hW hL hS hR)
theorem am_s_iload_n {i : Fin 4} (ok : am_okE mi pc (.iload_n i, nx, a, b, sw) = true) (h : am_ld lv a (fun v => am_b (am_isi v) (am_Sd d mi nx lv (v :: st) L g bc bs sx Q))) : am_Sd d mi pc lv st L g bc bs sx Q := by
  obtain ⟨hd, hI⟩ := am_dec_of ok (by intro q; cases q)
  simp only [am_okI, Bool.and_eq_true] at hI
  have hn := Nat.eq_of_beq_eq_true hI.1
  have ha := Nat.eq_of_beq_eq_true hI.2
  subst hn; subst ha
  rw [Nat.add_sub_cancel_left] at hd
  obtain ⟨v, hv, h⟩ := am_ld_of h
  obtain ⟨hi, h⟩ := am_b_of h
  cases v <;> first | (simp [am_isi] at hi; done) | skip
  intro p l e R s m args below meth c H locs cells slots D A cI cR ad Z ls hC hW hL hS hR
  exact lv_iload_n hC.1 hC.2.1 hd rfl (hL.get hv) (h p l e R s m args below meth c H locs cells slots D A cI cR ad Z ls hC hW hL hS hR)
theorem am_s_aload {i : Nat} (ok : am_okE mi pc (.aload i, nx, a, b, sw) = true) (h : am_ld lv a (fun v => am_b (am_isr v) (am_Sd d mi nx lv (v :: st) L g bc bs sx Q))) : am_Sd d mi pc lv st L g bc bs sx Q := by
  obtain ⟨hd, hI⟩ := am_dec_of ok (by intro q; cases q)
  simp only [am_okI, Bool.and_eq_true] at hI
  have hn := Nat.eq_of_beq_eq_true hI.1
  have ha := Nat.eq_of_beq_eq_true hI.2
  subst hn; subst ha
  rw [Nat.add_sub_cancel_left] at hd
  obtain ⟨v, hv, h⟩ := am_ld_of h
  obtain ⟨hi, h⟩ := am_b_of h
  cases v <;> first | (simp [am_isr] at hi; done) | skip
  intro p l e R s m args below meth c H locs cells slots D A cI cR ad Z ls hC hW hL hS hR
  exact lv_aload hC.1 hC.2.1 hd (hL.get hv) (h p l e R s m args below meth c H locs cells slots D A cI cR ad Z ls hC hW hL hS hR)
theorem am_s_aload_n {i : Fin 4} (ok : am_okE mi pc (.aload_n i, nx, a, b, sw) = true) (h : am_ld lv a (fun v => am_b (am_isr v) (am_Sd d mi nx lv (v :: st) L g bc bs sx Q))) : am_Sd d mi pc lv st L g bc bs sx Q := by
  obtain ⟨hd, hI⟩ := am_dec_of ok (by intro q; cases q)
  simp only [am_okI, Bool.and_eq_true] at hI
  have hn := Nat.eq_of_beq_eq_true hI.1
  have ha := Nat.eq_of_beq_eq_true hI.2
  subst hn; subst ha
  rw [Nat.add_sub_cancel_left] at hd
  obtain ⟨v, hv, h⟩ := am_ld_of h
  obtain ⟨hi, h⟩ := am_b_of h
  cases v <;> first | (simp [am_isr] at hi; done) | skip
  intro p l e R s m args below meth c H locs cells slots D A cI cR ad Z ls hC hW hL hS hR
  exact lv_aload_n hC.1 hC.2.1 hd rfl (hL.get hv) (h p l e R s m args below meth c H locs cells slots D A cI cR ad Z ls hC hW hL hS hR)
theorem am_s_istore {i : Nat} (ok : am_okE mi pc (.istore i, nx, a, b, sw) = true) (h : am_i1 st (fun x r => am_b (Nat.blt a lv.length) (am_Sd d mi nx (am_vset lv a (.int x)) r L g bc bs sx Q))) : am_Sd d mi pc lv st L g bc bs sx Q := by
  obtain ⟨hd, hI⟩ := am_dec_of ok (by intro q; cases q)
  simp only [am_okI, Bool.and_eq_true] at hI
  have hn := Nat.eq_of_beq_eq_true hI.1
  have ha := Nat.eq_of_beq_eq_true hI.2
  subst hn; subst ha
  rw [Nat.add_sub_cancel_left] at hd
  obtain ⟨x, r, rfl, h⟩ := am_i1_of h
  obtain ⟨hlt, h⟩ := am_b_of h
  rw [Nat.blt_eq] at hlt
  intro p l e R s m args below meth c H locs cells slots D A cI cR ad Z ls hC hW hL hS hR
  exact lv_istore hC.1 hC.2.1 hd hL.1 (by rw [← hL.2.1]; exact hlt) rfl (fun ls' hl' => h p l e R s m args below meth c H locs cells slots D A cI cR ad Z ls' hC hW (hL.set (v := .int x) rfl hl') hS hR)
theorem am_s_istore_n {i : Fin 4} (ok : am_okE mi pc (.istore_n i, nx, a, b, sw) = true) (h : am_i1 st (fun x r => am_b (Nat.blt a lv.length) (am_Sd d mi nx (am_vset lv a (.int x)) r L g bc bs sx Q))) : am_Sd d mi pc lv st L g bc bs sx Q := by
  obtain ⟨hd, hI⟩ := am_dec_of ok (by intro q; cases q)
  simp only [am_okI, Bool.and_eq_true] at hI
  have hn := Nat.eq_of_beq_eq_true hI.1
  have ha := Nat.eq_of_beq_eq_true hI.2
  subst hn; subst ha
  rw [Nat.add_sub_cancel_left] at hd
  obtain ⟨x, r, rfl, h⟩ := am_i1_of h
  obtain ⟨hlt, h⟩ := am_b_of h
  rw [Nat.blt_eq] at hlt
  intro p l e R s m args below meth c H locs cells slots D A cI cR ad Z ls hC hW hL hS hR
  exact lv_istore_n hC.1 hC.2.1 hd rfl hL.1 (by rw [← hL.2.1]; exact hlt) rfl (fun ls' hl' => h p l e R s m args below meth c H locs cells slots D A cI cR ad Z ls' hC hW (hL.set (v := .int x) rfl hl') hS hR)
theorem am_s_astore {i : Nat} (ok : am_okE mi pc (.astore i, nx, a, b, sw) = true) (h : am_r1 st (fun x r => am_b (Nat.blt a lv.length) (am_Sd d mi nx (am_vset lv a (.ref x)) r L g bc bs sx Q))) : am_Sd d mi pc lv st L g bc bs sx Q := by
  obtain ⟨hd, hI⟩ := am_dec_of ok (by intro q; cases q)
  simp only [am_okI, Bool.and_eq_true] at hI
  have hn := Nat.eq_of_beq_eq_true hI.1
  have ha := Nat.eq_of_beq_eq_true hI.2
  subst hn; subst ha
  rw [Nat.add_sub_cancel_left] at hd
  obtain ⟨x, r, rfl, h⟩ := am_r1_of h
  obtain ⟨hlt, h⟩ := am_b_of h
  rw [Nat.blt_eq] at hlt
  intro p l e R s m args below meth c H locs cells slots D A cI cR ad Z ls hC hW hL hS hR
  exact lv_astore hC.1 hC.2.1 hd hL.1 (by rw [← hL.2.1]; exact hlt) rfl (fun ls' hl' => h p l e R s m args below meth c H locs cells slots D A cI cR ad Z ls' hC hW (hL.set (v := .ref x) rfl hl') hS hR)
theorem am_s_astore_n {i : Fin 4} (ok : am_okE mi pc (.astore_n i, nx, a, b, sw) = true) (h : am_r1 st (fun x r => am_b (Nat.blt a lv.length) (am_Sd d mi nx (am_vset lv a (.ref x)) r L g bc bs sx Q))) : am_Sd d mi pc lv st L g bc bs sx Q := by
  obtain ⟨hd, hI⟩ := am_dec_of ok (by intro q; cases q)
  simp only [am_okI, Bool.and_eq_true] at hI
  have hn := Nat.eq_of_beq_eq_true hI.1
  have ha := Nat.eq_of_beq_eq_true hI.2
  subst hn; subst ha
  rw [Nat.add_sub_cancel_left] at hd
  obtain ⟨x, r, rfl, h⟩ := am_r1_of h
  obtain ⟨hlt, h⟩ := am_b_of h
  rw [Nat.blt_eq] at hlt
  intro p l e R s m args below meth c H locs cells slots D A cI cR ad Z ls hC hW hL hS hR
  exact lv_astore_n hC.1 hC.2.1 hd rfl hL.1 (by rw [← hL.2.1]; exact hlt) rfl (fun ls' hl' => h p l e R s m args below meth c H locs cells slots D A cI cR ad Z ls' hC hW (hL.set (v := .ref x) rfl hl') hS hR)
theorem am_vat_lt : ∀ (lv : am_V) (i : Nat) (v : Value), am_vat lv i = some v → i < lv.length
  | [], i, v, h => by simp [am_vat] at h
  | _ :: _, 0, _, _ => by simp
  | _ :: l, i + 1, v, h => by
    have := am_vat_lt l i v h
    simp only [List.length_cons]; omega
theorem am_s_iinc {i : Nat} {n : Int} (ok : am_okE mi pc (.iinc i n, nx, a, b, sw) = true) (h : am_kv sw (fun c => am_ld lv a (fun v => match v with | .int x => am_Sd d mi nx (am_vset lv a (.int (x + c))) st L g bc bs sx Q | _ => False))) : am_Sd d mi pc lv st L g bc bs sx Q := by
  obtain ⟨hd, hI⟩ := am_dec_of ok (by intro q; cases q)
  simp only [am_okI, Bool.and_eq_true] at hI
  have hn := Nat.eq_of_beq_eq_true hI.1.1
  have ha := Nat.eq_of_beq_eq_true hI.1.2
  subst hn; subst ha
  obtain ⟨v, q, rfl, hv⟩ := am_v1_of hI.2
  rw [Nat.add_sub_cancel_left] at hd
  have hv := of_decide_eq_true hv
  subst hv
  obtain ⟨w, hw, h⟩ := am_ld_of (show am_ld lv a _ from h)
  cases w <;> first | exact h.elim | skip
  rename_i x
  have hlt := am_vat_lt _ _ _ hw
  intro p l e R s m args below meth c H locs cells slots D A cI cR ad Z ls hC hW hL hS hR
  have hin : (a, Value.int x) ∈ am_ps ad 0 lv := by
    have := am_ps_in (ad := ad) lv 0 a hw
    rw [Nat.zero_add] at this
    exact this
  obtain ⟨k, hk⟩ := List.getElem?_of_mem hin
  exact lv_iinc hC.1 hC.2.1 hd hL.1 hk rfl (by rw [← hL.2.1]; exact hlt) rfl (fun ls' hl' => h p l e R s m args below meth c H locs cells slots D A cI cR ad Z ls' hC hW (hL.set (v := .int _) rfl hl') hS hR)
theorem am_s_iadd (ok : am_okE mi pc (.iadd, nx, a, b, sw) = true) (h : am_i2 st (fun x y r => am_Sd d mi nx lv (.int (x + y) :: r) L g bc bs sx Q)) : am_Sd d mi pc lv st L g bc bs sx Q := by
  obtain ⟨hd, hI⟩ := am_dec_of ok (by intro q; cases q)
  have hn := Nat.eq_of_beq_eq_true (show Nat.beq nx (pc + 1) = true from hI)
  subst hn
  rw [Nat.add_sub_cancel_left] at hd
  obtain ⟨x, y, r, rfl, h⟩ := am_i2_of h
  exact am_go (fun hx hb k => lv_iadd hx hb hd k) h
theorem am_s_isub (ok : am_okE mi pc (.isub, nx, a, b, sw) = true) (h : am_i2 st (fun x y r => am_Sd d mi nx lv (.int (x - y) :: r) L g bc bs sx Q)) : am_Sd d mi pc lv st L g bc bs sx Q := by
  obtain ⟨hd, hI⟩ := am_dec_of ok (by intro q; cases q)
  have hn := Nat.eq_of_beq_eq_true (show Nat.beq nx (pc + 1) = true from hI)
  subst hn
  rw [Nat.add_sub_cancel_left] at hd
  obtain ⟨x, y, r, rfl, h⟩ := am_i2_of h
  exact am_go (fun hx hb k => lv_isub hx hb hd k) h
theorem am_s_imul (ok : am_okE mi pc (.imul, nx, a, b, sw) = true) (h : am_i2 st (fun x y r => am_Sd d mi nx lv (.int (x * y) :: r) L g bc bs sx Q)) : am_Sd d mi pc lv st L g bc bs sx Q := by
  obtain ⟨hd, hI⟩ := am_dec_of ok (by intro q; cases q)
  have hn := Nat.eq_of_beq_eq_true (show Nat.beq nx (pc + 1) = true from hI)
  subst hn
  rw [Nat.add_sub_cancel_left] at hd
  obtain ⟨x, y, r, rfl, h⟩ := am_i2_of h
  exact am_go (fun hx hb k => lv_imul hx hb hd k) h
theorem am_s_iand (ok : am_okE mi pc (.iand, nx, a, b, sw) = true) (h : am_i2 st (fun x y r => am_Sd d mi nx lv (.int (x &&& y) :: r) L g bc bs sx Q)) : am_Sd d mi pc lv st L g bc bs sx Q := by
  obtain ⟨hd, hI⟩ := am_dec_of ok (by intro q; cases q)
  have hn := Nat.eq_of_beq_eq_true (show Nat.beq nx (pc + 1) = true from hI)
  subst hn
  rw [Nat.add_sub_cancel_left] at hd
  obtain ⟨x, y, r, rfl, h⟩ := am_i2_of h
  exact am_go (fun hx hb k => lv_iand hx hb hd k) h
theorem am_s_ior (ok : am_okE mi pc (.ior, nx, a, b, sw) = true) (h : am_i2 st (fun x y r => am_Sd d mi nx lv (.int (x ||| y) :: r) L g bc bs sx Q)) : am_Sd d mi pc lv st L g bc bs sx Q := by
  obtain ⟨hd, hI⟩ := am_dec_of ok (by intro q; cases q)
  have hn := Nat.eq_of_beq_eq_true (show Nat.beq nx (pc + 1) = true from hI)
  subst hn
  rw [Nat.add_sub_cancel_left] at hd
  obtain ⟨x, y, r, rfl, h⟩ := am_i2_of h
  exact am_go (fun hx hb k => lv_ior hx hb hd k) h
theorem am_s_ixor (ok : am_okE mi pc (.ixor, nx, a, b, sw) = true) (h : am_i2 st (fun x y r => am_Sd d mi nx lv (.int (x ^^^ y) :: r) L g bc bs sx Q)) : am_Sd d mi pc lv st L g bc bs sx Q := by
  obtain ⟨hd, hI⟩ := am_dec_of ok (by intro q; cases q)
  have hn := Nat.eq_of_beq_eq_true (show Nat.beq nx (pc + 1) = true from hI)
  subst hn
  rw [Nat.add_sub_cancel_left] at hd
  obtain ⟨x, y, r, rfl, h⟩ := am_i2_of h
  exact am_go (fun hx hb k => lv_ixor hx hb hd k) h
theorem am_s_ishl (ok : am_okE mi pc (.ishl, nx, a, b, sw) = true) (h : am_i2 st (fun x y r => am_Sd d mi nx lv (.int (x <<< (y &&& 31)) :: r) L g bc bs sx Q)) : am_Sd d mi pc lv st L g bc bs sx Q := by
  obtain ⟨hd, hI⟩ := am_dec_of ok (by intro q; cases q)
  have hn := Nat.eq_of_beq_eq_true (show Nat.beq nx (pc + 1) = true from hI)
  subst hn
  rw [Nat.add_sub_cancel_left] at hd
  obtain ⟨x, y, r, rfl, h⟩ := am_i2_of h
  exact am_go (fun hx hb k => lv_ishl hx hb hd k) h
theorem am_s_ishr (ok : am_okE mi pc (.ishr, nx, a, b, sw) = true) (h : am_i2 st (fun x y r => am_Sd d mi nx lv (.int (x >>> (y &&& 31)) :: r) L g bc bs sx Q)) : am_Sd d mi pc lv st L g bc bs sx Q := by
  obtain ⟨hd, hI⟩ := am_dec_of ok (by intro q; cases q)
  have hn := Nat.eq_of_beq_eq_true (show Nat.beq nx (pc + 1) = true from hI)
  subst hn
  rw [Nat.add_sub_cancel_left] at hd
  obtain ⟨x, y, r, rfl, h⟩ := am_i2_of h
  exact am_go (fun hx hb k => lv_ishr hx hb hd k) h
theorem am_s_iushr (ok : am_okE mi pc (.iushr, nx, a, b, sw) = true) (h : am_i2 st (fun x y r => am_Sd d mi nx lv (.int (x.toUInt32 >>> (y.toUInt32 &&& Int32.toUInt32 31)).toInt32 :: r) L g bc bs sx Q)) : am_Sd d mi pc lv st L g bc bs sx Q := by
  obtain ⟨hd, hI⟩ := am_dec_of ok (by intro q; cases q)
  have hn := Nat.eq_of_beq_eq_true (show Nat.beq nx (pc + 1) = true from hI)
  subst hn
  rw [Nat.add_sub_cancel_left] at hd
  obtain ⟨x, y, r, rfl, h⟩ := am_i2_of h
  exact am_go (fun hx hb k => lv_iushr hx hb hd rfl k) h
theorem am_s_irem (ok : am_okE mi pc (.irem, nx, a, b, sw) = true) (h : am_i2 st (fun x y r => (¬ y = 0) ∧ am_Sd d mi nx lv (.int (x - x / y * y) :: r) L g bc bs sx Q)) : am_Sd d mi pc lv st L g bc bs sx Q := by
  obtain ⟨hd, hI⟩ := am_dec_of ok (by intro q; cases q)
  have hn := Nat.eq_of_beq_eq_true (show Nat.beq nx (pc + 1) = true from hI)
  subst hn
  rw [Nat.add_sub_cancel_left] at hd
  obtain ⟨x, y, r, rfl, h0, h⟩ := am_i2_of h
  exact am_go (fun hx hb k => lv_irem hx hb hd h0 k) h
theorem am_s_ineg (ok : am_okE mi pc (.ineg, nx, a, b, sw) = true) (h : am_i1 st (fun x r => am_Sd d mi nx lv (.int (-x) :: r) L g bc bs sx Q)) : am_Sd d mi pc lv st L g bc bs sx Q := by
  obtain ⟨hd, hI⟩ := am_dec_of ok (by intro q; cases q)
  have hn := Nat.eq_of_beq_eq_true (show Nat.beq nx (pc + 1) = true from hI)
  subst hn
  rw [Nat.add_sub_cancel_left] at hd
  obtain ⟨x, r, rfl, h⟩ := am_i1_of h
  exact am_go (fun hx hb k => lv_ineg hx hb hd k) h
theorem am_s_i2b (ok : am_okE mi pc (.i2b, nx, a, b, sw) = true) (h : am_i1 st (fun x r => am_Sd d mi nx lv (.int x.toInt8.toInt32 :: r) L g bc bs sx Q)) : am_Sd d mi pc lv st L g bc bs sx Q := by
  obtain ⟨hd, hI⟩ := am_dec_of ok (by intro q; cases q)
  have hn := Nat.eq_of_beq_eq_true (show Nat.beq nx (pc + 1) = true from hI)
  subst hn
  rw [Nat.add_sub_cancel_left] at hd
  obtain ⟨x, r, rfl, h⟩ := am_i1_of h
  exact am_go (fun hx hb k => lv_i2b hx hb hd rfl k) h
theorem am_s_i2l (ok : am_okE mi pc (.i2l, nx, a, b, sw) = true) (h : am_i1 st (fun x r => am_Sd d mi nx lv (.long x.toInt64 :: r) L g bc bs sx Q)) : am_Sd d mi pc lv st L g bc bs sx Q := by
  obtain ⟨hd, hI⟩ := am_dec_of ok (by intro q; cases q)
  have hn := Nat.eq_of_beq_eq_true (show Nat.beq nx (pc + 1) = true from hI)
  subst hn
  rw [Nat.add_sub_cancel_left] at hd
  obtain ⟨x, r, rfl, h⟩ := am_i1_of h
  exact am_go (fun hx hb k => lv_i2l hx hb hd rfl k) h
theorem am_s_ladd (ok : am_okE mi pc (.ladd, nx, a, b, sw) = true) (h : am_l2 st (fun x y r => am_Sd d mi nx lv (.long (x + y) :: r) L g bc bs sx Q)) : am_Sd d mi pc lv st L g bc bs sx Q := by
  obtain ⟨hd, hI⟩ := am_dec_of ok (by intro q; cases q)
  have hn := Nat.eq_of_beq_eq_true (show Nat.beq nx (pc + 1) = true from hI)
  subst hn
  rw [Nat.add_sub_cancel_left] at hd
  obtain ⟨x, y, r, rfl, h⟩ := am_l2_of h
  exact am_go (fun hx hb k => lv_ladd hx hb hd k) h
theorem am_s_lcmp (ok : am_okE mi pc (.lcmp, nx, a, b, sw) = true) (h : am_l2 st (fun x y r => am_Sd d mi nx lv (.int (lg_cmp x y) :: r) L g bc bs sx Q)) : am_Sd d mi pc lv st L g bc bs sx Q := by
  obtain ⟨hd, hI⟩ := am_dec_of ok (by intro q; cases q)
  have hn := Nat.eq_of_beq_eq_true (show Nat.beq nx (pc + 1) = true from hI)
  subst hn
  rw [Nat.add_sub_cancel_left] at hd
  obtain ⟨x, y, r, rfl, h⟩ := am_l2_of h
  exact am_go (fun hx hb k => W.lcmp hx hb hd k) h
theorem am_s_dup (ok : am_okE mi pc (.dup, nx, a, b, sw) = true) (h : match st with | v :: r => am_b (am_cat1 v) (am_Sd d mi nx lv (v :: v :: r) L g bc bs sx Q) | _ => False) : am_Sd d mi pc lv st L g bc bs sx Q := by
  obtain ⟨hd, hI⟩ := am_dec_of ok (by intro q; cases q)
  have hn := Nat.eq_of_beq_eq_true (show Nat.beq nx (pc + 1) = true from hI)
  subst hn
  rw [Nat.add_sub_cancel_left] at hd
  split at h
  · obtain ⟨h1, h⟩ := am_b_of h
    exact am_go (fun hx hb k => lv_dup hx hb hd (am_cat1_tr h1) k) h
  · exact h.elim
theorem am_s_pop (ok : am_okE mi pc (.pop, nx, a, b, sw) = true) (h : match st with | v :: r => am_b (am_cat1 v) (am_Sd d mi nx lv r L g bc bs sx Q) | _ => False) : am_Sd d mi pc lv st L g bc bs sx Q := by
  obtain ⟨hd, hI⟩ := am_dec_of ok (by intro q; cases q)
  have hn := Nat.eq_of_beq_eq_true (show Nat.beq nx (pc + 1) = true from hI)
  subst hn
  rw [Nat.add_sub_cancel_left] at hd
  split at h
  · obtain ⟨h1, h⟩ := am_b_of h
    exact am_go (fun hx hb k => lv_pop hx hb hd (am_cat1_tr h1) k) h
  · exact h.elim
theorem am_s_dup2 (ok : am_okE mi pc (.dup2, nx, a, b, sw) = true) (h : match st with | v :: w :: r => am_b (am_cat1 v && am_cat1 w) (am_Sd d mi nx lv (v :: w :: v :: w :: r) L g bc bs sx Q) | _ => False) : am_Sd d mi pc lv st L g bc bs sx Q := by
  obtain ⟨hd, hI⟩ := am_dec_of ok (by intro q; cases q)
  have hn := Nat.eq_of_beq_eq_true (show Nat.beq nx (pc + 1) = true from hI)
  subst hn
  rw [Nat.add_sub_cancel_left] at hd
  split at h
  · obtain ⟨h1, h⟩ := am_b_of h
    simp only [Bool.and_eq_true] at h1
    exact am_go (fun hx hb k => lv_dup2_11 hx hb hd (am_cat1_tr h1.1) (am_cat1_tr h1.2) k) h
  · exact h.elim
theorem am_s_dup_x1 (ok : am_okE mi pc (.dup_x1, nx, a, b, sw) = true) (h : match st with | v :: w :: r => am_b (am_cat1 v && am_cat1 w) (am_Sd d mi nx lv (v :: w :: v :: r) L g bc bs sx Q) | _ => False) : am_Sd d mi pc lv st L g bc bs sx Q := by
  obtain ⟨hd, hI⟩ := am_dec_of ok (by intro q; cases q)
  have hn := Nat.eq_of_beq_eq_true (show Nat.beq nx (pc + 1) = true from hI)
  subst hn
  rw [Nat.add_sub_cancel_left] at hd
  split at h
  · obtain ⟨h1, h⟩ := am_b_of h
    simp only [Bool.and_eq_true] at h1
    exact am_go (fun hx hb k => lv_dup_x1 hx hb hd (am_cat1_tr h1.1) (am_cat1_tr h1.2) k) h
  · exact h.elim
theorem am_s_dup_x2 (ok : am_okE mi pc (.dup_x2, nx, a, b, sw) = true) (h : match st with | v :: w :: u :: r => am_b (am_cat1 v && am_cat1 w && am_cat1 u) (am_Sd d mi nx lv (v :: w :: u :: v :: r) L g bc bs sx Q) | _ => False) : am_Sd d mi pc lv st L g bc bs sx Q := by
  obtain ⟨hd, hI⟩ := am_dec_of ok (by intro q; cases q)
  have hn := Nat.eq_of_beq_eq_true (show Nat.beq nx (pc + 1) = true from hI)
  subst hn
  rw [Nat.add_sub_cancel_left] at hd
  split at h
  · obtain ⟨h1, h⟩ := am_b_of h
    simp only [Bool.and_eq_true] at h1
    exact am_go (fun hx hb k => lv_dup_x2 hx hb hd (am_cat1_tr h1.1.1) (am_cat1_tr h1.1.2) (am_cat1_tr h1.2) k) h
  · exact h.elim
theorem am_tg_of {off : Int} (h : am_tg pc off a = true) : (pc : Int) + off = (a : Int) := of_decide_eq_true h
theorem am_s_goto {off : Int} (ok : am_okE mi pc (.goto off, nx, a, b, sw) = true) (h : am_Sd d mi a lv st L g bc bs sx Q) : am_Sd d mi pc lv st L g bc bs sx Q := by
  obtain ⟨hd, hI⟩ := am_dec_of ok (by intro q; cases q)
  simp only [am_okI, Bool.and_eq_true] at hI
  have hn := Nat.eq_of_beq_eq_true hI.1
  subst hn
  rw [Nat.add_sub_cancel_left] at hd
  exact am_go (fun hx hb k => lv_goto hx hb hd (am_tg_of hI.2) k) h
theorem am_s_ifCond {co : ClassFile.Cond} {off : Int} (ok : am_okE mi pc (.ifCond co off, nx, a, b, sw) = true) (h : am_i1 st (fun x r => am_if0 co x (am_Sd d mi a lv r L g bc bs sx Q) (am_Sd d mi nx lv r L g bc bs sx Q))) : am_Sd d mi pc lv st L g bc bs sx Q := by
  obtain ⟨hd, hI⟩ := am_dec_of ok (by intro q; cases q)
  simp only [am_okI, Bool.and_eq_true] at hI
  have hn := Nat.eq_of_beq_eq_true hI.1
  subst hn
  rw [Nat.add_sub_cancel_left] at hd
  obtain ⟨x, r, rfl, h⟩ := am_i1_of h
  intro p l e R s m args below meth c H locs cells slots D A cI cR ad Z ls hC hW hL hS hR
  cases co with
  | eq => exact lv_if_eq hC.1 hC.2.1 hd (am_tg_of hI.2) (fun q => h.1 q p l e R s m args below meth c H locs cells slots D A cI cR ad Z ls hC hW hL hS hR) (fun q => h.2 q p l e R s m args below meth c H locs cells slots D A cI cR ad Z ls hC hW hL hS hR)
  | ne => exact lv_if_ne hC.1 hC.2.1 hd (am_tg_of hI.2) (fun q => h.1 q p l e R s m args below meth c H locs cells slots D A cI cR ad Z ls hC hW hL hS hR) (fun q => h.2 q p l e R s m args below meth c H locs cells slots D A cI cR ad Z ls hC hW hL hS hR)
  | lt => exact lv_if_lt hC.1 hC.2.1 hd (am_tg_of hI.2) (fun q => h.1 q p l e R s m args below meth c H locs cells slots D A cI cR ad Z ls hC hW hL hS hR) (fun q => h.2 q p l e R s m args below meth c H locs cells slots D A cI cR ad Z ls hC hW hL hS hR)
  | ge => exact lv_if_ge hC.1 hC.2.1 hd (am_tg_of hI.2) (fun q => h.1 q p l e R s m args below meth c H locs cells slots D A cI cR ad Z ls hC hW hL hS hR) (fun q => h.2 q p l e R s m args below meth c H locs cells slots D A cI cR ad Z ls hC hW hL hS hR)
  | gt => exact lv_if_gt hC.1 hC.2.1 hd (am_tg_of hI.2) (fun q => h.1 q p l e R s m args below meth c H locs cells slots D A cI cR ad Z ls hC hW hL hS hR) (fun q => h.2 q p l e R s m args below meth c H locs cells slots D A cI cR ad Z ls hC hW hL hS hR)
  | le => exact lv_if_le hC.1 hC.2.1 hd (am_tg_of hI.2) (fun q => h.1 q p l e R s m args below meth c H locs cells slots D A cI cR ad Z ls hC hW hL hS hR) (fun q => h.2 q p l e R s m args below meth c H locs cells slots D A cI cR ad Z ls hC hW hL hS hR)
theorem am_s_if_icmp {co : ClassFile.Cond} {off : Int} (ok : am_okE mi pc (.if_icmp co off, nx, a, b, sw) = true) (h : am_i2 st (fun x y r => am_if2 co x y (am_Sd d mi a lv r L g bc bs sx Q) (am_Sd d mi nx lv r L g bc bs sx Q))) : am_Sd d mi pc lv st L g bc bs sx Q := by
  obtain ⟨hd, hI⟩ := am_dec_of ok (by intro q; cases q)
  simp only [am_okI, Bool.and_eq_true] at hI
  have hn := Nat.eq_of_beq_eq_true hI.1
  subst hn
  rw [Nat.add_sub_cancel_left] at hd
  obtain ⟨x, y, r, rfl, h⟩ := am_i2_of h
  intro p l e R s m args below meth c H locs cells slots D A cI cR ad Z ls hC hW hL hS hR
  cases co with
  | eq => exact lv_icmp_eq hC.1 hC.2.1 hd (am_tg_of hI.2) (fun q => h.1 q p l e R s m args below meth c H locs cells slots D A cI cR ad Z ls hC hW hL hS hR) (fun q => h.2 q p l e R s m args below meth c H locs cells slots D A cI cR ad Z ls hC hW hL hS hR)
  | ne => exact lv_icmp_ne hC.1 hC.2.1 hd (am_tg_of hI.2) (fun q => h.1 q p l e R s m args below meth c H locs cells slots D A cI cR ad Z ls hC hW hL hS hR) (fun q => h.2 q p l e R s m args below meth c H locs cells slots D A cI cR ad Z ls hC hW hL hS hR)
  | lt => exact lv_icmp_lt hC.1 hC.2.1 hd (am_tg_of hI.2) (fun q => h.1 q p l e R s m args below meth c H locs cells slots D A cI cR ad Z ls hC hW hL hS hR) (fun q => h.2 q p l e R s m args below meth c H locs cells slots D A cI cR ad Z ls hC hW hL hS hR)
  | ge => exact lv_icmp_ge hC.1 hC.2.1 hd (am_tg_of hI.2) (fun q => h.1 q p l e R s m args below meth c H locs cells slots D A cI cR ad Z ls hC hW hL hS hR) (fun q => h.2 q p l e R s m args below meth c H locs cells slots D A cI cR ad Z ls hC hW hL hS hR)
  | gt => exact lv_icmp_gt hC.1 hC.2.1 hd (am_tg_of hI.2) (fun q => h.1 q p l e R s m args below meth c H locs cells slots D A cI cR ad Z ls hC hW hL hS hR) (fun q => h.2 q p l e R s m args below meth c H locs cells slots D A cI cR ad Z ls hC hW hL hS hR)
  | le => exact lv_icmp_le hC.1 hC.2.1 hd (am_tg_of hI.2) (fun q => h.1 q p l e R s m args below meth c H locs cells slots D A cI cR ad Z ls hC hW hL hS hR) (fun q => h.2 q p l e R s m args below meth c H locs cells slots D A cI cR ad Z ls hC hW hL hS hR)
theorem am_s_tableswitch {df lo hi : Int} {offs : Array Int} (ok : am_okE mi pc (.tableswitch df lo hi offs, nx, a, b, sw) = true) (h : am_i1 st (fun x r => am_sw x (fun t => am_Sd d mi t lv r L g bc bs sx Q) a sw)) : am_Sd d mi pc lv st L g bc bs sx Q := by
  obtain ⟨hd, hI⟩ := am_dec_of ok (by intro q; cases q)
  simp only [am_okI, Bool.and_eq_true] at hI
  obtain ⟨⟨hI1, hI2⟩, hI3⟩ := hI
  have hI3 := of_decide_eq_true hI3
  obtain ⟨x, r, rfl, h⟩ := am_i1_of h
  intro p l e R s m args below meth c H locs cells slots D A cI cR ad Z ls hC hW hL hS hR
  have key : ∀ (l1 : List (Int32 × Nat)) (i : Nat), am_swT pc lo offs i l1 = true → am_sw x (fun t => am_Sd d mi t lv r L g bc bs sx Q) a l1 → (x.toInt < lo + (i : Int) → x.toInt < lo) → hi = lo + (i : Int) + (l1.length : Int) - 1 → W p l e R s m args below meth c H locs cells slots Z (F0 m pc ls (.int x :: r.map (am_tr ad))) := by
    intro l1
    induction l1 with
    | nil =>
      intro i _ h hlo hhi
      refine lv_tableOut hC.1 hC.2.1 hd ?_ (am_tg_of hI1) (h p l e R s m args below meth c H locs cells slots D A cI cR ad Z ls hC hW hL hS hR)
      simp only [List.length_nil] at hhi
      rcases Int.lt_or_le x.toInt (lo + (i : Int)) with q | q
      · exact Or.inl (hlo q)
      · exact Or.inr (by omega)
    | cons vt l1 ih =>
      obtain ⟨v, t⟩ := vt
      intro i hok h hlo hhi
      simp only [am_swT, Bool.and_eq_true] at hok
      obtain ⟨⟨h1, h2⟩, h3⟩ := hok
      have h1 := of_decide_eq_true h1
      by_cases hx : x = v
      · subst hx
        cases ho : offs[i]? with
        | none => rw [ho] at h2; cases h2
        | some o1 =>
          rw [ho] at h2
          simp only [List.length_cons] at hhi
          refine lv_tableIn hC.1 hC.2.1 hd (by omega) (by omega) (off := o1) ?_ (am_tg_of h2) (h.1 rfl p l e R s m args below meth c H locs cells slots D A cI cR ad Z ls hC hW hL hS hR)
          rw [h1, show (lo + (i : Int) - lo).toNat = i by omega]
          exact ho
      · refine ih (i + 1) h3 (h.2 hx) (fun q => ?_) (by simp only [List.length_cons] at hhi; omega)
        have hne : x.toInt ≠ lo + (i : Int) := fun q2 => hx (Int32.toInt_inj.mp (by rw [q2, h1]))
        exact hlo (by omega)
  exact key sw 0 hI2 h (fun q => by omega) (by omega)
theorem am_s_lookupswitch {df : Int} {ps : Array (Int × Int)} (ok : am_okE mi pc (.lookupswitch df ps, nx, a, b, sw) = true) (h : am_i1 st (fun x r => am_sw x (fun t => am_Sd d mi t lv r L g bc bs sx Q) a sw)) : am_Sd d mi pc lv st L g bc bs sx Q := by
  obtain ⟨hd, hI⟩ := am_dec_of ok (by intro q; cases q)
  simp only [am_okI, Bool.and_eq_true] at hI
  obtain ⟨⟨hI1, hI2⟩, hI3⟩ := hI
  obtain ⟨x, r, rfl, h⟩ := am_i1_of h
  intro p l e R s m args below meth c H locs cells slots D A cI cR ad Z ls hC hW hL hS hR
  have key : ∀ (pl : List (Int × Int)) (l1 : List (Int32 × Nat)), am_swL pc pl l1 = true → am_sw x (fun t => am_Sd d mi t lv r L g bc bs sx Q) a l1 → ∃ (off : Int) (tgt : Nat), Op.lookupswitch.offset pl df x.toInt = off ∧ (pc : Int) + off = (tgt : Int) ∧ am_Sd d mi tgt lv r L g bc bs sx Q := by
    intro pl
    induction pl with
    | nil =>
      intro l1 hok h
      cases l1 with
      | nil => exact ⟨df, a, rfl, am_tg_of hI1, h⟩
      | cons _ _ => cases hok
    | cons ko pl ih =>
      intro l1 hok h
      obtain ⟨k, o1⟩ := ko
      cases l1 with
      | nil => cases hok
      | cons vt l1 =>
        obtain ⟨v, t⟩ := vt
        simp only [am_swL, Bool.and_eq_true] at hok
        obtain ⟨⟨h1, h2⟩, h3⟩ := hok
        have h1 := of_decide_eq_true h1
        by_cases hx : x = v
        · subst hx
          exact ⟨o1, t, by rw [Op.lookupswitch.offset_cons, if_pos h1.symm], am_tg_of h2, h.1 rfl⟩
        · obtain ⟨off, tgt, e1, e2, e3⟩ := ih l1 h3 (h.2 hx)
          exact ⟨off, tgt, by rw [lv_osw hx h1]; exact e1, e2, e3⟩
  obtain ⟨off, tgt, e1, e2, e3⟩ := key ps.toList sw hI2 h
  refine lv_lookup hC.1 hC.2.1 hd ?_ e1 e2 (e3 p l e R s m args below meth c H locs cells slots D A cI cR ad Z ls hC hW hL hS hR)
  rw [List.all_eq_true] at hI3 ⊢
  intro q hq
  exact hI3 q hq
end AMS
end
section
/-! The machine is sound: cells, fields, arrays. -/
theorem am_clsAt : ∀ a, a < 8 → am_cls[a]? = some (am_R a, am_T a, am_nf a)
  | 0, _ => rfl
  | 1, _ => rfl
  | 2, _ => rfl
  | 3, _ => rfl
  | 4, _ => rfl
  | 5, _ => rfl
  | 6, _ => rfl
  | 7, _ => rfl
  | a + 8, h => absurd h (by omega)
theorem am_okC_at {a : Nat} (h : a < 8) : am_okC a = true := List.all_eq_true.mp am_ckC a (List.mem_range.mpr h)
theorem am_C1 {a : Nat} (h : a < 8) : ∀ w ∈ u_ws (am_R a) (am_T a) (am_nf a), w ∈ am_TG := by
  have h1 := am_okC_at h
  simp only [am_okC, Bool.and_eq_true] at h1
  intro w hw
  have h2 := List.all_eq_true.mp h1.1.1.1.1.1 w hw
  simp only [Bool.and_eq_true] at h2
  exact List.mem_filter.mpr ⟨of_decide_eq_true h2.1, h2.2⟩
theorem am_C2 {a : Nat} (h : a < 8) : ∀ k, k < am_nf a → parseFieldDescriptor (am_T a k).2.2.1 = some (am_ty a k) := by
  have h1 := am_okC_at h
  simp only [am_okC, Bool.and_eq_true] at h1
  intro k hk
  have h2 := List.all_eq_true.mp h1.1.1.1.1.2 k (List.mem_range.mpr hk)
  simp only [Bool.and_eq_true] at h2
  exact of_decide_eq_true h2.1
theorem am_C3 {a : Nat} (h : a < 8) {k : Nat} (hk : k < am_nf a) : (am_isref a k = false → am_ty a k = .int) ∧ (am_isref a k = true → (∃ n, am_ty a k = .object n) ∨ ∃ t, am_ty a k = .array t) := by
  have h1 := am_okC_at h
  simp only [am_okC, Bool.and_eq_true] at h1
  have h2 := List.all_eq_true.mp h1.1.1.1.1.2 k (List.mem_range.mpr hk)
  simp only [Bool.and_eq_true] at h2
  have h3 := h2.2
  refine ⟨fun e => ?_, fun e => ?_⟩
  · rw [e] at h3; exact of_decide_eq_true h3
  · rw [e] at h3
    dsimp only at h3
    split at h3
    · rename_i n e2; exact Or.inl ⟨n, e2⟩
    · rename_i t e2; exact Or.inr ⟨t, e2⟩
    · cases h3
theorem am_C4 {a : Nat} (h : a < 8) : ∀ x, x < am_nf a → ∀ y, y < am_nf a → x ≠ y → (am_T a x).2.1 ≠ (am_T a y).2.1 := by
  have h1 := am_okC_at h
  simp only [am_okC, Bool.and_eq_true] at h1
  intro x hx y hy hne
  have h2 := List.all_eq_true.mp (List.all_eq_true.mp h1.1.1.1.2 x (List.mem_range.mpr hx)) y (List.mem_range.mpr hy)
  simp only [Bool.or_eq_true] at h2
  rcases h2 with h2 | h2
  · exact absurd (Nat.eq_of_beq_eq_true h2) hne
  · exact of_decide_eq_true h2
theorem am_C5 {a : Nat} (h : a < 8) : Cond.instantiable (am_R a) (am_nf a) ∈ am_TG ∧ Cond.initialized (am_R a) ∈ am_TG := by
  have h1 := am_okC_at h
  simp only [am_okC, Bool.and_eq_true] at h1
  exact ⟨am_good_of h1.1.1.2, am_good_of h1.1.2⟩
section AMT
variable {d mi pc nx a b : Nat} {sw : List (Int32 × Nat)} {lv : am_V} {st : List Value} {L : am_L} {g : am_G} {bc bs : Nat} {sx : am_S} {Q : am_Q}
variable {p : Program} {l : Launch} {e : Env} {R : Room} {s : State} {m : MethodId} {args : Array Value} {below : List Frame} {meth : Method} {c : Code} {H : Heap} {locs : List Loc} {cells slots : Nat} {Z : State → Prop} {ls : Array Slot} {D : va_G} {A : Nat → Prop} {cI cR : ClassId} {ad : Nat → Nat}
theorem am_getrow {i k n : Nat} {rf : Nat → Nat} {v : Value} {rest : List Value} (hC : am_Cx p R s m args meth c mi d bc bs cells slots) (hW : am_Wo D A cI cR ad L g s H locs) (hd : decode (am_by mi) pc = .ok (.getfield i, 3)) (hf : am_fld mi i a b sw = true) (hk : am_at L k = some (a + 2, n, rf)) (hbn : b < n) (hv : (am_fs ad a n rf (g k))[b]? = some v)
    (kk : W p l e R s m args below meth c H locs cells slots Z (F0 m (pc + 3) ls (v :: rest))) : W p l e R s m args below meth c H locs cells slots Z (F0 m pc ls (.ref (ad k) :: rest)) := by
  obtain ⟨hx, hb, hml, hown, hts, hN, hC'⟩ := hC
  obtain ⟨hK, hP, hD, hS, hA⟩ := hW
  simp only [am_fld, Bool.and_eq_true, Nat.blt_eq] at hf
  obtain ⟨⟨h8, hb'⟩, hf⟩ := hf
  obtain ⟨w, q, rfl, hw⟩ := am_v1_of hf
  have he := am_wd_get (ad := ad) (cI := cI) (cR := cR) (g := g) L 0 k hk
  rw [Nat.zero_add] at he
  split at hw
  · exact va_get (ref := (am_T a b).1) hx hb hts (am_C1 h8) hown hK hP k he (am_clsAt a h8) b hb' (hts _ (am_good_of hw)) (fun _ h9 => h9) hv hd kk
  · exact va_getN (ref := (am_T a b).1) hx hb hts (am_C1 h8) hown hK hP k he (am_clsAt a h8) b hb' (va_Nw.use rfl (hN _ (am_has_of hw) rfl)) (fun _ h9 => h9) hv hd kk
theorem am_s_getfield {i : Nat} (ok : am_okE mi pc (.getfield i, nx, a, b, sw) = true) (h : am_getf am_Sd d mi nx a b lv st L g bc bs sx Q) : am_Sd d mi pc lv st L g bc bs sx Q := by
  obtain ⟨hd, hI⟩ := am_dec_of ok (by intro q; cases q)
  simp only [am_okI, Bool.and_eq_true] at hI
  have hn := Nat.eq_of_beq_eq_true hI.1
  subst hn
  rw [Nat.add_sub_cancel_left] at hd
  obtain ⟨k, r, rfl, h'⟩ := am_r1_of h
  clear h
  have h := h'
  clear h'
  split at h
  · rename_i t n rf hk
    obtain ⟨hc, h'⟩ := am_b_of h
    clear h
    have h := h'
    clear h'
    simp only [Bool.and_eq_true, Nat.blt_eq] at hc
    obtain ⟨hc1, hc2⟩ := hc
    have hc1 := Nat.eq_of_beq_eq_true hc1
    subst hc1
    intro p l e R s m args below meth c H locs cells slots D A cI cR ad Z ls hC hW hL hS hR
    refine am_getrow hC hW hd hI.2 hk hc2 (am_fs_get hc2) ?_
    split at h
    · rename_i hr
      split at h
      · rename_i hz
        rw [hr, hz]
        exact h p l e R s m args below meth c H locs cells slots D A cI cR ad Z ls hC hW hL hS hR
      · rename_i v hz
        rw [hr, hz]
        exact h p l e R s m args below meth c H locs cells slots D A cI cR ad Z ls hC hW hL hS hR
    · rename_i hr
      rw [hr]
      exact h p l e R s m args below meth c H locs cells slots D A cI cR ad Z ls hC hW hL hS hR
  · exact h.elim
theorem am_putrow {i k n : Nat} {rf : Nat → Nat} {v : Value} {rest : List Value} (hC : am_Cx p R s m args meth c mi d bc bs cells slots) (hW : am_Wo D A cI cR ad L g s H locs) (hd : decode (am_by mi) pc = .ok (.putfield i, 3)) (hf : am_fld mi i a b sw = true) (hp : am_pfl mi a b sw = true) (hk : am_at L k = some (a + 2, n, rf)) (hbn : b < n) (hn : narrow (am_ty a b) v = v) (hfit : fits (am_ty a b) v = true)
    (kk : ∀ (H1 : Heap) (locs1 : List Loc), va_P D am_cls ((am_wd ad cI cR g 0 L).set k (ad k, .inr (a, (am_fs ad a n rf (g k)).set b v))) H1 → va_D A ((am_wd ad cI cR g 0 L).set k (ad k, .inr (a, (am_fs ad a n rf (g k)).set b v))) → va_S A s.heap H1 locs1 → W p l e R s m args below meth c H1 locs1 cells slots Z (F0 m (pc + 3) ls rest)) : W p l e R s m args below meth c H locs cells slots Z (F0 m pc ls (v :: .ref (ad k) :: rest)) := by
  obtain ⟨hx, hb, hml, hown, hts, hN, hAO, hin, hC'⟩ := hC
  obtain ⟨hK, hP, hD, hS, hA⟩ := hW
  simp only [am_fld, Bool.and_eq_true, Nat.blt_eq] at hf
  obtain ⟨⟨h8, hb'⟩, hf⟩ := hf
  obtain ⟨w, q, rfl, hw⟩ := am_v1_of hf
  have he := am_wd_get (ad := ad) (cI := cI) (cR := cR) (g := g) L 0 k hk
  rw [Nat.zero_add] at he
  have hl : b < (am_fs ad a n rf (g k)).length := by rw [am_fs_len]; exact hbn
  unfold am_pfl at hp
  split at hp
  · rename_i hfin
    split at hw
    · exact va_put (ref := (am_T a b).1) hx hb hts (am_C1 h8) (am_ty a) (am_C2 h8) (am_C4 h8) hown hK hP hD hS k he (am_clsAt a h8) b hb' (hts _ (am_good_of hw)) (fun _ h9 => h9) hfin (am_C2 h8 b hb') hn hfit hl hd kk
    · exact va_putN (ref := (am_T a b).1) hx hb hts (am_C1 h8) (am_ty a) (am_C2 h8) (am_C4 h8) hown hK hP hD hS k he (am_clsAt a h8) b hb' (va_Nw.use rfl (hN _ (am_has_of hw) rfl)) (fun _ h9 => h9) hfin (am_C2 h8 b hb') hn hfit hl hd kk
  · rename_i hfin
    simp only [Bool.and_eq_true] at hp
    obtain ⟨⟨hp1, hp2⟩, hp3⟩ := hp
    have hp2 := of_decide_eq_true hp2
    have hw0 : decide (w = 0) = true := hp3
    rw [hw0] at hw
    exact va_putF (ref := (am_T a b).1) hx hb hts (am_C1 h8) (am_ty a) (am_C2 h8) (am_C4 h8) hown hK hP hD hS k he (am_clsAt a h8) b hb' (hts _ (am_good_of hw)) (fun _ h9 => h9) hfin (hin (Nat.eq_of_beq_eq_true hp1)) hp2 (am_C2 h8 b hb') hn hfit hl hd kk
theorem am_up_at {g : am_G} {k i : Nat} {x : Int32} : am_up g k i x k = upd (g k) i x := by simp [am_up]
theorem am_up_ne {g : am_G} {k i j : Nat} {x : Int32} (h : j ≠ k) : am_up g k i x j = g j := by simp [am_up, h]
theorem am_fld_of {i : Nat} (hf : am_fld mi i a b sw = true) : a < 8 ∧ b < am_nf a := by
  simp only [am_fld, Bool.and_eq_true, Nat.blt_eq] at hf
  exact hf.1
theorem am_s_putfield {i : Nat} (ok : am_okE mi pc (.putfield i, nx, a, b, sw) = true) (h : am_putf am_Sd d mi nx a b lv st L g bc bs sx Q) : am_Sd d mi pc lv st L g bc bs sx Q := by
  obtain ⟨hd, hI⟩ := am_dec_of ok (by intro q; cases q)
  simp only [am_okI, Bool.and_eq_true] at hI
  obtain ⟨⟨hn, hf⟩, hp⟩ := hI
  have hn := Nat.eq_of_beq_eq_true hn
  subst hn
  rw [Nat.add_sub_cancel_left] at hd
  have h8 := (am_fld_of hf).1
  have hb' := (am_fld_of hf).2
  unfold am_putf at h
  split at h
  · rename_i x k r
    split at h
    · rename_i t n rf hk
      obtain ⟨hc, h'⟩ := am_b_of h
      clear h
      have h := h'
      clear h'
      simp only [Bool.and_eq_true, Nat.blt_eq, Bool.not_eq_true'] at hc
      obtain ⟨⟨hc1, hc2⟩, hr⟩ := hc
      have hc1 := Nat.eq_of_beq_eq_true hc1
      subst hc1
      have hty := (am_C3 h8 hb').1 hr
      intro p l e R s m args below meth c H locs cells slots D A cI cR ad Z ls hC hW hL hS hR
      refine am_putrow hC hW hd hf hp hk hc2 (v := .int x) (by rw [hty]; rfl) (by rw [hty]; rfl) (fun H1 locs1 hP1 hD1 hS1 => ?_)
      have ew : (am_wd ad cI cR g 0 L).set k (ad k, .inr (a, (am_fs ad a n rf (g k)).set b (.int x))) = am_wd ad cI cR (am_up g k b x) 0 L := by
        have h1 := am_wd_set (ad := ad) (cI := cI) (cR := cR) (g := g) (g' := am_up g k b x) (d' := (a + 2, n, rf)) L 0 k hk (fun j hj => am_up_ne (by omega))
        rw [am_put_self L k hk, Nat.zero_add] at h1
        rw [← h1, am_up_at, am_fs_set_i hr]
        rfl
      rw [ew] at hP1 hD1
      exact h p l e R s m args below meth c H1 locs1 cells slots D A cI cR ad Z ls hC ⟨hW.1, hP1, hD1, hS1, hW.2.2.2.2⟩ hL hS hR
    · exact h.elim
  · rename_i v k r
    split at h
    · rename_i t n rf hk
      obtain ⟨hc, h'⟩ := am_b_of h
      clear h
      have h := h'
      clear h'
      simp only [Bool.and_eq_true, Nat.blt_eq] at hc
      obtain ⟨⟨hc1, hc2⟩, hr⟩ := hc
      have hc1 := Nat.eq_of_beq_eq_true hc1
      subst hc1
      have hty := (am_C3 h8 hb').2 hr
      intro p l e R s m args below meth c H locs cells slots D A cI cR ad Z ls hC hW hL hS hR
      refine am_putrow hC hW hd hf hp hk hc2 (v := .ref (ad v)) (by rcases hty with ⟨n, e⟩ | ⟨t, e⟩ <;> rw [e] <;> rfl) (by rcases hty with ⟨n, e⟩ | ⟨t, e⟩ <;> rw [e] <;> rfl) (fun H1 locs1 hP1 hD1 hS1 => ?_)
      have ew : (am_wd ad cI cR g 0 L).set k (ad k, .inr (a, (am_fs ad a n rf (g k)).set b (.ref (ad v)))) = am_wd ad cI cR g 0 (am_put L k (a + 2, n, fun j => if j = b then v + 1 else rf j)) := by
        have h1 := am_wd_set (ad := ad) (cI := cI) (cR := cR) (g := g) (g' := g) (d' := (a + 2, n, fun j => if j = b then v + 1 else rf j)) L 0 k hk (fun j hj => rfl)
        rw [Nat.zero_add] at h1
        rw [← h1, am_fs_set_r hr]
        rfl
      rw [ew] at hP1 hD1
      refine h p l e R s m args below meth c H1 locs1 cells slots D A cI cR ad Z ls hC ⟨hW.1, hP1, hD1, hS1, hW.2.2.2.2⟩ hL hS ?_
      rw [am_put_len]
      exact hR
    · exact h.elim
  · exact h.elim
theorem am_s_iaload (ok : am_okE mi pc (.iaload, nx, a, b, sw) = true) (h : am_iald am_Sd d mi nx lv st L g bc bs sx Q) : am_Sd d mi pc lv st L g bc bs sx Q := by
  obtain ⟨hd, hI⟩ := am_dec_of ok (by intro q; cases q)
  have hn := Nat.eq_of_beq_eq_true (show Nat.beq nx (pc + 1) = true from hI)
  subst hn
  rw [Nat.add_sub_cancel_left] at hd
  obtain ⟨k, i, r, rfl, h'⟩ := am_ia_of h
  clear h
  have h := h'
  clear h'
  split at h
  · rename_i hk
    have hk := Nat.eq_of_beq_eq_true hk
    subst hk
    split at h
    · rename_i n xs
      intro p l e R s m args below meth c H locs cells slots D A cI cR ad Z ls hC hW hL hS hR
      exact va_sld hC.1 hC.2.1 hS.1 hS.2.1 hS.2.2 hW.2.2.2.1 h.1 hd (h.2 p l e R s m args below meth c H locs cells slots D A cI cR ad Z ls hC hW hL hS hR)
    · exact h.elim
  · split at h
    · rename_i n rf hk
      intro p l e R s m args below meth c H locs cells slots D A cI cR ad Z ls hC hW hL hS hR
      have he := am_wd_get (ad := ad) (cI := cI) (cR := cR) (g := g) L 0 k hk
      rw [Nat.zero_add] at he
      exact va_iald hC.1 hC.2.1 hW.1 hW.2.1 k 0 he rfl h.1 hd (h.2 p l e R s m args below meth c H locs cells slots D A cI cR ad Z ls hC hW hL hS hR)
    · exact h.elim
theorem am_s_iastore (ok : am_okE mi pc (.iastore, nx, a, b, sw) = true) (h : am_iast am_Sd d mi nx lv st L g bc bs sx Q) : am_Sd d mi pc lv st L g bc bs sx Q := by
  obtain ⟨hd, hI⟩ := am_dec_of ok (by intro q; cases q)
  have hn := Nat.eq_of_beq_eq_true (show Nat.beq nx (pc + 1) = true from hI)
  subst hn
  rw [Nat.add_sub_cancel_left] at hd
  obtain ⟨k, i, x, r, rfl, h'⟩ := am_iai_of h
  clear h
  have h := h'
  clear h'
  split at h
  · rename_i n rf hk
    intro p l e R s m args below meth c H locs cells slots D A cI cR ad Z ls hC hW hL hS hR
    have he := am_wd_get (ad := ad) (cI := cI) (cR := cR) (g := g) L 0 k hk
    rw [Nat.zero_add] at he
    refine va_iast hC.1 hC.2.1 hW.1 hW.2.1 hW.2.2.1 hW.2.2.2.1 k 0 he rfl h.1 hd (fun H1 locs1 hP1 hD1 hS1 => ?_)
    have ew : (am_wd ad cI cR g 0 L).set k (ad k, .inl (cI, n, .inl (upd (g k) i.toNatClampNeg x))) = am_wd ad cI cR (am_up g k i.toNatClampNeg x) 0 L := by
      have h1 := am_wd_set (ad := ad) (cI := cI) (cR := cR) (g := g) (g' := am_up g k i.toNatClampNeg x) (d' := (0, n, rf)) L 0 k hk (fun j hj => am_up_ne (by omega))
      rw [am_put_self L k hk, Nat.zero_add] at h1
      rw [← h1, am_up_at]
      rfl
    rw [ew] at hP1 hD1
    exact h.2 p l e R s m args below meth c H1 locs1 cells slots D A cI cR ad Z ls hC ⟨hW.1, hP1, hD1, hS1, hW.2.2.2.2⟩ hL hS hR
  · exact h.elim
theorem am_s_aaload (ok : am_okE mi pc (.aaload, nx, a, b, sw) = true) (h : am_aald am_Sd d mi nx lv st L g bc bs sx Q) : am_Sd d mi pc lv st L g bc bs sx Q := by
  obtain ⟨hd, hI⟩ := am_dec_of ok (by intro q; cases q)
  have hn := Nat.eq_of_beq_eq_true (show Nat.beq nx (pc + 1) = true from hI)
  subst hn
  rw [Nat.add_sub_cancel_left] at hd
  obtain ⟨k, i, r, rfl, h'⟩ := am_ia_of h
  clear h
  have h := h'
  clear h'
  split at h
  · rename_i n rf hk
    intro p l e R s m args below meth c H locs cells slots D A cI cR ad Z ls hC hW hL hS hR
    have he := am_wd_get (ad := ad) (cI := cI) (cR := cR) (g := g) L 0 k hk
    rw [Nat.zero_add] at he
    refine va_aldq hC.1 hC.2.1 hW.1 hW.2.1 k 1 he rfl h.1 hd ?_
    have hlt : i.toNatClampNeg < n := Nat.not_le.mp fun q => h.1 (Or.inr q)
    have hlt' : Nat.blt i.toNatClampNeg n = true := by rw [Nat.blt_eq]; exact hlt
    have h2 := h.2
    split at h2
    · rename_i hz
      rw [hlt', hz]
      exact h2 p l e R s m args below meth c H locs cells slots D A cI cR ad Z ls hC hW hL hS hR
    · rename_i v hz
      rw [hlt', hz]
      exact h2 p l e R s m args below meth c H locs cells slots D A cI cR ad Z ls hC hW hL hS hR
  · exact h.elim
theorem am_s_aastore (ok : am_okE mi pc (.aastore, nx, a, b, sw) = true) (h : am_aast am_Sd d mi nx lv st L g bc bs sx Q) : am_Sd d mi pc lv st L g bc bs sx Q := by
  obtain ⟨hd, hI⟩ := am_dec_of ok (by intro q; cases q)
  have hn := Nat.eq_of_beq_eq_true (show Nat.beq nx (pc + 1) = true from hI)
  subst hn
  rw [Nat.add_sub_cancel_left] at hd
  unfold am_aast at h
  split at h
  · rename_i v i k r
    split at h
    · rename_i n rf t n2 rf2 hk hv
      obtain ⟨hc, h'⟩ := am_b_of h
      clear h
      have h := h'
      clear h'
      have hc := Nat.eq_of_beq_eq_true hc
      subst hc
      intro p l e R s m args below meth c H locs cells slots D A cI cR ad Z ls hC hW hL hS hR
      have he := am_wd_get (ad := ad) (cI := cI) (cR := cR) (g := g) L 0 k hk
      have hev := am_wd_get (ad := ad) (cI := cI) (cR := cR) (g := g) L 0 v hv
      rw [Nat.zero_add] at he hev
      have hlt : i.toNatClampNeg < n := Nat.not_le.mp fun q => h.1 (Or.inr q)
      refine va_astq hC.1 hC.2.1 hW.1 hW.2.1 hW.2.2.1 hW.2.2.2.1 k 1 v am_shc (r := (am_R am_shc, am_T am_shc, am_nf am_shc)) he rfl hev (am_clsAt am_shc (by decide)) h.1 hd (fun H1 locs1 hP1 hD1 hS1 => ?_)
      have ef : (va_up (fun j => bif Nat.blt j n then am_ro ad (rf j) else none) i.toNatClampNeg (some (ad v))) = (fun j => bif Nat.blt j n then am_ro ad (if j = i.toNatClampNeg then v + 1 else rf j) else none) := by
        funext j
        by_cases hj : j = i.toNatClampNeg
        · have : Nat.blt j n = true := by rw [Nat.blt_eq, hj]; exact hlt
          simp [va_up, hj, am_ro]
          subst hj
          simp [this]
        · simp [va_up, hj]
      have ew : (am_wd ad cI cR g 0 L).set k (ad k, .inl (cR, n, .inr (.inr (.inr (.inr (va_up (fun j => bif Nat.blt j n then am_ro ad (rf j) else none) i.toNatClampNeg (some (ad v)))))))) = am_wd ad cI cR g 0 (am_put L k (1, n, fun j => if j = i.toNatClampNeg then v + 1 else rf j)) := by
        have h1 := am_wd_set (ad := ad) (cI := cI) (cR := cR) (g := g) (g' := g) (d' := (1, n, fun j => if j = i.toNatClampNeg then v + 1 else rf j)) L 0 k hk (fun j hj => rfl)
        rw [Nat.zero_add] at h1
        rw [← h1, ef]
        rfl
      rw [ew] at hP1 hD1
      refine h.2 p l e R s m args below meth c H1 locs1 cells slots D A cI cR ad Z ls hC ⟨hW.1, hP1, hD1, hS1, hW.2.2.2.2⟩ hL hS ?_
      rw [am_put_len]
      exact hR
    · exact h.elim
  · exact h.elim
theorem am_s_arraylength (ok : am_okE mi pc (.arraylength, nx, a, b, sw) = true) (h : am_alen am_Sd d mi nx lv st L g bc bs sx Q) : am_Sd d mi pc lv st L g bc bs sx Q := by
  obtain ⟨hd, hI⟩ := am_dec_of ok (by intro q; cases q)
  have hn := Nat.eq_of_beq_eq_true (show Nat.beq nx (pc + 1) = true from hI)
  subst hn
  rw [Nat.add_sub_cancel_left] at hd
  obtain ⟨k, r, rfl, h'⟩ := am_r1_of h
  clear h
  have h := h'
  clear h'
  split at h
  · rename_i hk
    have hk := Nat.eq_of_beq_eq_true hk
    subst hk
    split at h
    · intro p l e R s m args below meth c H locs cells slots D A cI cR ad Z ls hC hW hL hS hR
      exact va_slen hC.1 hC.2.1 hS.1 hS.2.1 hS.2.2 hW.2.2.2.1 hd (h p l e R s m args below meth c H locs cells slots D A cI cR ad Z ls hC hW hL hS hR)
    · exact h.elim
  · split at h
    · rename_i n rf hk
      intro p l e R s m args below meth c H locs cells slots D A cI cR ad Z ls hC hW hL hS hR
      have he := am_wd_get (ad := ad) (cI := cI) (cR := cR) (g := g) L 0 k hk
      rw [Nat.zero_add] at he
      exact va_alen hC.1 hC.2.1 hW.1 hW.2.1 k 0 he rfl rfl hd (h p l e R s m args below meth c H locs cells slots D A cI cR ad Z ls hC hW hL hS hR)
    · rename_i n rf hk
      intro p l e R s m args below meth c H locs cells slots D A cI cR ad Z ls hC hW hL hS hR
      have he := am_wd_get (ad := ad) (cI := cI) (cR := cR) (g := g) L 0 k hk
      rw [Nat.zero_add] at he
      exact va_alen hC.1 hC.2.1 hW.1 hW.2.1 k 1 he rfl rfl hd (h p l e R s m args below meth c H locs cells slots D A cI cR ad Z ls hC hW hL hS hR)
    · exact h.elim
end AMT
end
section
/-! The machine is sound: new cells, calls, ends; am_sound. -/
set_option maxRecDepth 100000 in
theorem am_cwAt : ∀ a, a < 137 → lw_tbl[(am_pw a).getD 0 0]? = some (.code (am_yy a) (am_by a) (am_nl a) (am_rt a))
  | 0, _ => rfl
  | 1, _ => rfl
  | 2, _ => rfl
  | 3, _ => rfl
  | 4, _ => rfl
  | 5, _ => rfl
  | 6, _ => rfl
  | 7, _ => rfl
  | 8, _ => rfl
  | 9, _ => rfl
  | 10, _ => rfl
  | 11, _ => rfl
  | 12, _ => rfl
  | 13, _ => rfl
  | 14, _ => rfl
  | 15, _ => rfl
  | 16, _ => rfl
  | 17, _ => rfl
  | 18, _ => rfl
  | 19, _ => rfl
  | 20, _ => rfl
  | 21, _ => rfl
  | 22, _ => rfl
  | 23, _ => rfl
  | 24, _ => rfl
  | 25, _ => rfl
  | 26, _ => rfl
  | 27, _ => rfl
  | 28, _ => rfl
  | 29, _ => rfl
  | 30, _ => rfl
  | 31, _ => rfl
  | 32, _ => rfl
  | 33, _ => rfl
  | 34, _ => rfl
  | 35, _ => rfl
  | 36, _ => rfl
  | 37, _ => rfl
  | 38, _ => rfl
  | 39, _ => rfl
  | 40, _ => rfl
  | 41, _ => rfl
  | 42, _ => rfl
  | 43, _ => rfl
  | 44, _ => rfl
  | 45, _ => rfl
  | 46, _ => rfl
  | 47, _ => rfl
  | 48, _ => rfl
  | 49, _ => rfl
  | 50, _ => rfl
  | 51, _ => rfl
  | 52, _ => rfl
  | 53, _ => rfl
  | 54, _ => rfl
  | 55, _ => rfl
  | 56, _ => rfl
  | 57, _ => rfl
  | 58, _ => rfl
  | 59, _ => rfl
  | 60, _ => rfl
  | 61, _ => rfl
  | 62, _ => rfl
  | 63, _ => rfl
  | 64, _ => rfl
  | 65, _ => rfl
  | 66, _ => rfl
  | 67, _ => rfl
  | 68, _ => rfl
  | 69, _ => rfl
  | 70, _ => rfl
  | 71, _ => rfl
  | 72, _ => rfl
  | 73, _ => rfl
  | 74, _ => rfl
  | 75, _ => rfl
  | 76, _ => rfl
  | 77, _ => rfl
  | 78, _ => rfl
  | 79, _ => rfl
  | 80, _ => rfl
  | 81, _ => rfl
  | 82, _ => rfl
  | 83, _ => rfl
  | 84, _ => rfl
  | 85, _ => rfl
  | 86, _ => rfl
  | 87, _ => rfl
  | 88, _ => rfl
  | 89, _ => rfl
  | 90, _ => rfl
  | 91, _ => rfl
  | 92, _ => rfl
  | 93, _ => rfl
  | 94, _ => rfl
  | 95, _ => rfl
  | 96, _ => rfl
  | 97, _ => rfl
  | 98, _ => rfl
  | 99, _ => rfl
  | 100, _ => rfl
  | 101, _ => rfl
  | 102, _ => rfl
  | 103, _ => rfl
  | 104, _ => rfl
  | 105, _ => rfl
  | 106, _ => rfl
  | 107, _ => rfl
  | 108, _ => rfl
  | 109, _ => rfl
  | 110, _ => rfl
  | 111, _ => rfl
  | 112, _ => rfl
  | 113, _ => rfl
  | 114, _ => rfl
  | 115, _ => rfl
  | 116, _ => rfl
  | 117, _ => rfl
  | 118, _ => rfl
  | 119, _ => rfl
  | 120, _ => rfl
  | 121, _ => rfl
  | 122, _ => rfl
  | 123, _ => rfl
  | 124, _ => rfl
  | 125, _ => rfl
  | 126, _ => rfl
  | 127, _ => rfl
  | 128, _ => rfl
  | 129, _ => rfl
  | 130, _ => rfl
  | 131, _ => rfl
  | 132, _ => rfl
  | 133, _ => rfl
  | 134, _ => rfl
  | 135, _ => rfl
  | 136, _ => rfl
  | a + 137, h => absurd h (by omega)
theorem am_code_in {a : Nat} (h : a < 137) : Cond.code (am_yy a) (am_by a) (am_nl a) (am_rt a) ∈ am_TG := List.mem_filter.mpr ⟨List.mem_of_getElem? (am_cwAt a h), rfl⟩
end
section
theorem am_fok0 (N : Nat) : ∀ n, am_fok N (fun _ => 0) n = true
  | 0 => rfl
  | n + 1 => by simp only [am_fok, Bool.and_eq_true]; exact ⟨Nat.ble_eq.mpr (Nat.zero_le N), am_fok0 N n⟩
def am_WS (a : Nat) : List Cond := .code (am_yy a) (am_by a) (am_nl a) (am_rt a) :: am_TG
def am_Pre (D : va_G) (cI cR : ClassId) (ad : Nat → Nat) (L : am_L) (g : am_G) (sz : Nat) : State → Prop := fun U =>
  U.heap.size = sz ∧ va_P D am_cls (am_wd ad cI cR g 0 L) U.heap ∧ va_K D am_cls (am_tys cI cR) U ∧ va_D (fun _ => True) (am_wd ad cI cR g 0 L) ∧ (∀ w ∈ lw_tbl, am_isN w = true → va_Nw w U) ∧ va_AO (am_R am_shc) U
def am_Qc (D : va_G) (cI cR : ClassId) (ad : Nat → Nat) (n0 bc : Nat) (Q1 : am_Q) (A : Nat → Prop) : Array Value → State → Outcome → State → Prop := fun _ st oc t =>
  (∃ (r : Option Value) (L' : am_L) (g' : am_G) (ad' : Nat → Nat), oc = .returned (r.map (am_tr ad')) ∧ Q1 r L' g' ∧ n0 ≤ L'.length ∧ (∀ k, k < n0 ∨ k = am_scr → ad' k = ad k) ∧ (bc = 0 → ad' = ad) ∧ va_P D am_cls (am_wd ad' cI cR g' 0 L') t.heap ∧ va_D A (am_wd ad' cI cR g' 0 L')) ∧ va_F A st t
theorem am_nw_on {w : Cond} (h : am_isN w = true) : w.onTables = true := by
  cases w <;> first | rfl | (simp [am_isN] at h)
theorem am_nw_warm {w : Cond} (h : am_isN w = true) {s U : State} (hW : s.WarmedH U.vm) (hZ : va_Nw w s) : va_Nw w U := by
  cases w <;> first | exact va_Nw.warmF hW hZ | exact va_Nw.warmM hW hZ | (simp [am_isN] at h)
theorem am_Pre_blind {D : va_G} {cI cR : ClassId} {ad : Nat → Nat} {L : am_L} {g : am_G} {sz : Nat} {av : List Value} : FrameBlind (va_Pc av (am_Pre D cI cR ad L g sz)) := by
  intro a U gf mk q
  obtain ⟨q0, q1, qP, qK, qD, qN, qA⟩ := q
  exact ⟨q0, q1, qP, va_K.moved (u := U) (U := U.calling gf mk a) (Vm.Alike.refl U.vm) qK, qD, fun w hw hi => va_Nw.same (am_nw_on hi) (u := U) rfl (qN w hw hi), va_AO.moved (u := U) (U := U.calling gf mk a) (Vm.Alike.refl U.vm) qA⟩
theorem am_args_lo {ad : Nat → Nat} (n : Nat) : ∀ (vs : List Value) (k : Nat), (∀ v ∈ vs, am_cat1 v = true) → ∀ q ∈ am_ps ad k (vs.map some ++ List.replicate n none), q ∈ lv_args k (vs.map (am_tr ad))
  | [], k, _, q, h => by
    obtain ⟨i, v, h1, -⟩ := am_ps_of _ _ h
    exfalso
    revert h1
    simp only [List.map_nil, List.nil_append]
    clear h
    induction n generalizing i with
    | zero => intro h1; simp [am_vat] at h1
    | succ n ih =>
      intro h1
      rw [List.replicate_succ] at h1
      cases i with
      | zero => simp [am_vat] at h1
      | succ i => exact ih i h1
  | v :: vs, k, hc, q, h => by
    rw [List.map_cons, List.cons_append] at h
    rw [List.map_cons]
    have h1 := am_cat1_tr (ad := ad) (hc v List.mem_cons_self)
    rcases List.mem_cons.mp (show q ∈ (k, am_tr ad v) :: am_ps ad (k + 1) _ from h) with h | h
    · rw [h]; exact List.mem_cons_self
    · refine List.mem_cons_of_mem _ ?_
      rw [if_neg (by omega)]
      exact am_args_lo n vs (k + 1) (fun w hw => hc w (List.mem_cons_of_mem _ hw)) q h
theorem am_sl_len {ad : Nat → Nat} : ∀ (vs : List Value), (∀ v ∈ vs, am_cat1 v = true) → (lg_sl (vs.map (am_tr ad))).length = vs.length
  | [], _ => rfl
  | v :: vs, hc => by
    have h1 := am_cat1_tr (ad := ad) (hc v List.mem_cons_self)
    have h2 := am_sl_len (ad := ad) vs (fun w hw => hc w (List.mem_cons_of_mem _ hw))
    simp only [lg_sl, List.map_cons, List.flatMap_cons, List.length_append, List.length_cons] at h2 ⊢
    rw [if_neg (by omega), h2]
    simp
    omega
theorem am_ent_cat : ∀ (vs : List Value) (n i : Nat) (v : Value), (∀ v ∈ vs, am_cat1 v = true) → am_vat (vs.map some ++ List.replicate n none) i = some v → am_cat1 v = true
  | [], n, i, v, _, h => by
    exfalso
    revert h
    simp only [List.map_nil, List.nil_append]
    induction n generalizing i with
    | zero => intro h1; simp [am_vat] at h1
    | succ n ih =>
      intro h1
      rw [List.replicate_succ] at h1
      cases i with
      | zero => simp [am_vat] at h1
      | succ i => exact ih i h1
  | w :: vs, n, 0, v, hc, h => by
    simp only [List.map_cons, List.cons_append, am_vat, Option.some.injEq] at h
    subst h
    exact hc _ List.mem_cons_self
  | w :: vs, n, i + 1, v, hc, h => am_ent_cat vs n i v (fun u hu => hc u (List.mem_cons_of_mem _ hu)) h
theorem am_words_map {ad : Nat → Nat} : ∀ (st : List Value), ((st.map (am_tr ad)).map fun v => v.category).sum = am_words st
  | [] => rfl
  | v :: l => by
    have h : (am_tr ad v).category = v.category := by cases v <;> rfl
    rw [List.map_cons, List.map_cons, List.sum_cons, h, am_words_map l]
    rfl
theorem am_M {a : Nat} (h : a < 137) : am_okM a = true := List.all_eq_true.mp am_ckM a (List.mem_range.mpr h)
set_option maxHeartbeats 4000000 in
theorem am_met {a d' : Nat} {L : am_L} {g : am_G} {Q1 : am_Q} (ha : a < 137) (vs : List Value) (hlen : vs.length ≤ am_nl a) (hcat : ∀ v ∈ vs, am_cat1 v = true) (h : am_Sd d' a 0 (vs.map some ++ List.replicate (am_nl a - vs.length) none) [] L g (am_mc a) (am_ms a) none Q1) (l : Launch) (D : va_G) (cI cR : ClassId) (ad : Nat → Nat) (sz : Nat) :
    Met l (am_yy a) (am_WS a) ({ frames := d', cells := am_mc a, slots := am_ms a, locals := 40 * d' }) (va_Pc (vs.map (am_tr ad)) (am_Pre D cI cR ad L g sz)) (am_Qc D cI cR ad L.length (am_mc a) Q1 (va_A (am_wd ad cI cR g 0 L) sz)) (am_mc a) (am_ms a) (va_A (am_wd ad cI cR g 0 L) sz) := by
  have hM := am_M ha
  simp only [am_okM, Bool.and_eq_true] at hM
  obtain ⟨⟨⟨⟨⟨⟨⟨⟨⟨⟨⟨⟨⟨⟨m1, m2⟩, m3⟩, m4⟩, m5⟩, m6⟩, m7⟩, m8⟩, m9⟩, m10⟩, m11⟩, m12⟩, m13⟩, m14⟩, m15⟩ := hM
  have m4 := of_decide_eq_true m4
  refine Met.ofW (cc := am_by a) (maxL := am_nl a) (ret := am_rt a) m14 rfl ?_
  intro p e s m args below meth c s₁ B hml hv
  obtain ⟨rfl, hsz, hP, hK, hD0, hN, hAO⟩ := hv
  have hx := B.exec
  have hb := B.bytes
  have hr := B.returns
  have hts := atoms_spec (ws := am_WS a) B.pre
  have hown : s.vm.findClass (am_yy a).cls = some m.cls := findClass_of_methodNamed B.named
  have hlocks := B.notSynchronized
  have hin : meth.name = (am_yy a).name := (name_of_methodNamed B.named B.method).1
  subst hsz
  have hD := hD0.self (sz := s.heap.size)
  have hl := lv_entry (vs.map (am_tr ad)) (n := am_nl a) (by rw [am_sl_len vs hcat]; exact hlen)
  rw [lg_entry_eq]
  generalize (lg_sl (vs.map (am_tr ad)) ++ List.replicate (am_nl a - (lg_sl (vs.map (am_tr ad))).length) Slot.unset).toArray = ls at hl ⊢
  refine h p l e _ s m _ below meth c s.heap [] 0 0 D (va_A (am_wd ad cI cR g 0 L) s.heap.size) cI cR ad _ ls ?_ ?_ ?_ ?_ ?_
  · refine ⟨hx, hb, hml, by rw [← m4]; exact hown, fun w hw => hts w (List.mem_cons_of_mem _ hw), hN, hAO, fun hk => ?_, Nat.le_refl _, Nat.le_refl _, by simp [headSpec], by simp [headSpec]⟩
    rw [hk] at m10
    simp only [Bool.and_eq_true] at m10
    rw [hin]
    exact of_decide_eq_true m10.1
  · exact ⟨hK, hP, hD, va_S.rf, fun q hq => Or.inr hq⟩
  · refine ⟨⟨hl.1, hl.2.1, fun q hq => hl.2.2 q (am_args_lo _ vs 0 hcat q hq)⟩, by simp only [List.length_append, List.length_map, List.length_replicate]; omega, fun i v hi => am_ent_cat vs _ i v hcat hi⟩
  · trivial
  · intro r L' g' ad' H' locs' c' s' pc' ls' hQ hW' hlen' hag hbc hc' hs' hE
    refine W.widen (k := am_mc a) (n := am_ms a) (by omega) (by omega) ?_
    cases r with
    | none =>
      obtain ⟨hk, hdg⟩ := hE
      rw [hk] at m11
      have m11 := of_decide_eq_true m11
      exact W.vret hx hb (by rw [hr, m11]) (fun t ht hWm => ⟨⟨none, L', g', ad', rfl, hQ, hlen', hag, hbc, by rw [ht]; exact hW'.2.1, hW'.2.2.1⟩, hW'.2.2.2.1.F ht⟩) hW'.2.2.2.1.2.2 hdg
    | some v =>
      obtain ⟨x, rfl, hk0, hk2, hdg⟩ := hE
      split at m11
      · rename_i hk; exact absurd hk hk0
      · have m11 := of_decide_eq_true m11
        exact W.iret (v := x) hx hb (by rw [hr, m11]) (fun t ht hWm => ⟨⟨some (.int x), L', g', ad', rfl, hQ, hlen', hag, hbc, by rw [ht]; exact hW'.2.1, hW'.2.2.1⟩, hW'.2.2.2.1.F ht⟩) hW'.2.2.2.1.2.2 hdg
      · rename_i hk
        have m11 := of_decide_eq_true m11
        exact W.zret (v := x) (ty := .boolean) hx hb (by rw [hr, m11]) (by rcases hk2 hk with rfl | rfl <;> rfl) (fun t ht hWm => ⟨⟨some (.int x), L', g', ad', rfl, hQ, hlen', hag, hbc, by rw [ht]; exact hW'.2.1, hW'.2.2.1⟩, hW'.2.2.2.1.F ht⟩) hW'.2.2.2.1.2.2 hdg
      · cases m11
section AMU
variable {d mi pc nx a b : Nat} {sw : List (Int32 × Nat)} {lv : am_V} {st : List Value} {L : am_L} {g : am_G} {bc bs : Nat} {sx : am_S} {Q : am_Q}
variable {p : Program} {l : Launch} {e : Env} {R : Room} {s : State} {m : MethodId} {args : Array Value} {below : List Frame} {meth : Method} {c : Code} {H : Heap} {locs : List Loc} {cells slots : Nat} {Z : State → Prop} {ls : Array Slot} {D : va_G} {A : Nat → Prop} {cI cR : ClassId} {ad : Nat → Nat}
theorem am_callg {n0 b1 mc ms : Nat} {rest st0 : List Value} {Q1 : am_Q} {A1 : Nat → Prop} {a0 : Array Value} (hr : va_Run p l e R s m args below meth c H locs cells slots mc ms (F0 m pc ls st0) rest (am_Qc D cI cR ad n0 b1 Q1 A1 a0) A1) (hS : va_S A s.heap H locs) (hA1 : ∀ q, A1 q → A q)
    (kk : ∀ (r : Option Value) (L' : am_L) (g' : am_G) (ad' : Nat → Nat) (H1 : Heap) (locs1 : List Loc), Q1 r L' g' → n0 ≤ L'.length → (∀ k, k < n0 ∨ k = am_scr → ad' k = ad k) → (b1 = 0 → ad' = ad) → va_P D am_cls (am_wd ad' cI cR g' 0 L') H1 → va_D A1 (am_wd ad' cI cR g' 0 L') → va_S A s.heap H1 locs1 → W p l e R s m args below meth c H1 locs1 (cells + mc) (slots + ms) Z (F0 m (pc + 3) ls ((r.map (am_tr ad')).toList ++ rest))) : W p l e R s m args below meth c H locs cells slots Z (F0 m pc ls st0) := by
  intro T hT X
  obtain ⟨v, st₀, t, T', L1, h0, X', hL, e1, e2, ⟨⟨r, L', g', ad', hv, hq, hn, hag, hb1, hP1, hD1⟩, hz, hk⟩, st⟩ := hr T hT X
  cases hv
  rw [h0] at hz hk
  rw [← e1] at hP1
  obtain ⟨t2, a1, b2⟩ := kk r L' g' ad' T'.heap (locs ++ L1) hq hn hag hb1 hP1 hD1
    ⟨Nat.le_trans hS.1 (by rw [e1]; exact hz), fun q h1 h2 => by rw [e1, hk q (Nat.lt_of_lt_of_le h1 hS.1) (fun z => h2 (hA1 q z))]; exact hS.2.1 q h1 h2, fun q hq => by
      rcases List.mem_append.mp hq with h | h
      · exact hS.2.2 q h
      · exact hA1 _ (hL q h)⟩ T' rfl X'
  exact ⟨t2, st t2 a1, b2⟩
theorem am_world_free (hW : am_Wo D A cI cR ad L g s H locs) : ∀ q, va_A (am_wd ad cI cR g 0 L) H.size q → A q := by
  intro q hq
  rcases hq with ⟨k, e1, h⟩ | h
  · exact hW.2.2.1.2 k (q, e1) h
  · exact hW.2.2.2.2 q (Nat.le_trans hW.2.2.2.1.1 h)
theorem am_pre_at {U : State} (hC : am_Cx p R s m args meth c mi d bc bs cells slots) (hW : am_Wo D A cI cR ad L g s H locs) (hU : U.heap = H) (hm : s.WarmedH U.vm) : am_Pre D cI cR ad L g H.size U := by
  obtain ⟨hx, hb, hml, hown, hts, hN, hAO, hC'⟩ := hC
  exact ⟨by rw [hU], by rw [hU]; exact hW.2.1, va_K.moved hm.alike hW.1, hW.2.2.1.weaken (fun _ _ _ _ => trivial), fun w hw hi => am_nw_warm hi hm (hN w hw hi), hAO.moved hm.alike⟩
theorem am_ws_good {args : Array Value} {s : State} (ha : a < 137) (hts : ∀ w ∈ am_TG, w.before args s = true) : ∀ w ∈ am_WS a, ∀ (a' : Array Value) (U : State), s.WarmedH U.vm → w.before a' U = true := by
  refine pay_in hts (fun w hw => ?_)
  rcases List.mem_cons.mp hw with rfl | hw
  · exact ⟨am_code_in ha, Or.inl rfl⟩
  · exact ⟨hw, good_of_word (List.mem_filter.mp hw).2⟩
/-- a call's run, of the three kinds -/
theorem am_run {i d' : Nat} {Q1 : am_Q} (ha : a < 137) (hcl : am_v1 sw (fun v q => match decide (v = 0) with
    | true => am_good q (.methodLink (am_own mi) i (am_yy a))
    | false => am_has q (.methodLinkNest (am_own mi) i (am_yy a) am_host)) = true) (hdg : decode (am_by mi) pc = .ok ((match am_kd a with | 0 => .invokestatic i | 1 => .invokevirtual i | _ => .invokespecial i), 3))
    (hok : am_cok a lv st L bc bs = true) (h : am_Sd d' a 0 (am_ent (am_nl a) (am_na a) st) [] L g (am_mc a) (am_ms a) none Q1)
    (hC : am_Cx p R s m args meth c mi (d' + 1) bc bs cells slots) (hW : am_Wo D A cI cR ad L g s H locs) (hL : am_Lo ad ls (am_nl mi) lv) : ∃ a0, va_Run p l e R s m args below meth c H locs cells slots (am_mc a) (am_ms a) (F0 m pc ls (st.map (am_tr ad))) ((st.drop (am_na a)).map (am_tr ad)) (am_Qc D cI cR ad L.length (am_mc a) Q1 (va_A (am_wd ad cI cR g 0 L) H.size) a0) (va_A (am_wd ad cI cR g 0 L) H.size) := by
  obtain ⟨hx, hb, hml, hown, hts, hN, hAO, hin, hfr, hlo, hce, hsl⟩ := id hC
  have hM := am_M ha
  simp only [am_okM, Bool.and_eq_true] at hM
  obtain ⟨⟨⟨⟨⟨⟨⟨⟨⟨⟨⟨⟨⟨⟨m1, m2⟩, m3⟩, m4⟩, m5⟩, m6⟩, m7⟩, m8⟩, m9⟩, m10⟩, m11⟩, m12⟩, m13⟩, m14⟩, m15⟩ := hM
  have m4 := of_decide_eq_true m4
  have m8 := of_decide_eq_true m8
  have m12 := Nat.le_of_ble_eq_true m12
  have m13 := Nat.le_of_ble_eq_true m13
  simp only [am_cok, Bool.and_eq_true] at hok
  obtain ⟨⟨⟨⟨⟨⟨k1, k2⟩, k3⟩, k4⟩, k5⟩, k6⟩, k7⟩ := hok
  have k1 := Nat.le_of_ble_eq_true k1
  have k3 := Nat.le_of_ble_eq_true k3
  have k4 := Nat.le_of_ble_eq_true k4
  have k5 := Nat.le_of_ble_eq_true k5
  have hvl : ((st.take (am_na a)).reverse).length = am_na a := by rw [List.length_reverse, List.length_take]; omega
  have hcat : ∀ v ∈ (st.take (am_na a)).reverse, am_cat1 v = true := fun v hv => List.all_eq_true.mp k2 v (List.mem_reverse.mp hv)
  have hent : am_ent (am_nl a) (am_na a) st = ((st.take (am_na a)).reverse).map some ++ List.replicate (am_nl a - ((st.take (am_na a)).reverse).length) none := by rw [hvl]; rfl
  rw [hent] at h
  have hMet := am_met ha (st.take (am_na a)).reverse (by rw [hvl]; exact m12) hcat h l D cI cR ad H.size
  have hmapst : st.map (am_tr ad) = (((st.take (am_na a)).reverse).map (am_tr ad)).reverse ++ (st.drop (am_na a)).map (am_tr ad) := by
    rw [← List.map_reverse, List.reverse_reverse, ← List.map_append, List.take_append_drop]
  have hcode := am_code_in ha
  have hsz : ls.size = am_nl mi := hL.1.1
  have hroom : (((st.drop (am_na a)).map (am_tr ad)).map fun v => v.category).sum ≤ 8 := by rw [am_words_map]; exact k3
  have hpre : ∀ U : State, U.heap = H → s.WarmedH U.vm → va_Pc (((st.take (am_na a)).reverse).map (am_tr ad)) (am_Pre D cI cR ad L g H.size) (((st.take (am_na a)).reverse).map (am_tr ad)).toArray U := fun U hU hm => ⟨rfl, am_pre_at hC hW hU hm⟩
  obtain ⟨w, q, rfl, hw⟩ := am_v1_of hcl
  have hf : cells + am_mc a ≤ R.cells ∧ slots + am_ms a ≤ R.slots := ⟨by omega, by omega⟩
  -- the words' part, without the link
  have hB : (∀ (x : (Cond.methodLink (am_own mi) i (am_yy a)).before args s = true) (n : Nat), (∀ sig, parseMethodDescriptor (am_yy a).desc = some sig → n = sig.parameters.length) → CallB R s args (am_own mi) i (am_yy a) (am_by a) (am_nl a) (am_rt a) (am_WS a) ({ frames := d', cells := am_mc a, slots := am_ms a, locals := 40 * d' }) (am_mc a) (am_ms a) n) := fun x n hn => ⟨rfl, rfl, hfr, by show 8 + (am_nl a + 11) + 40 * d' ≤ R.locals; omega, am_ws_good ha hts, List.mem_cons_self, hts _ hcode, hts _ (am_good_of m3), ⟨of_decide_eq_true m6, of_decide_eq_true m7⟩, hn, x⟩
  have hNB : (∀ (x : (Cond.methodLinkNest (am_own mi) i (am_yy a) am_host).before args s = true) (n : Nat), (∀ sig, parseMethodDescriptor (am_yy a).desc = some sig → n = sig.parameters.length) → va_CN R s args (am_own mi) i (am_yy a) am_host (am_by a) (am_nl a) (am_rt a) (am_WS a) ({ frames := d', cells := am_mc a, slots := am_ms a, locals := 40 * d' }) (am_mc a) (am_ms a) n) := fun x n hn => ⟨⟨rfl, rfl, hfr, by show 8 + (am_nl a + 11) + 40 * d' ≤ R.locals; omega, am_ws_good ha hts, List.mem_cons_self⟩, hts _ hcode, hts _ (am_good_of m3), ⟨of_decide_eq_true m6, of_decide_eq_true m7⟩, hn, x⟩
  cases hkd : am_kd a with
  | zero =>
    rw [hkd] at hdg m1 m8
    have hn : ∀ sig, parseMethodDescriptor (am_yy a).desc = some sig → am_na a = sig.parameters.length := fun sig hs => by
      rw [hs, Option.map_some] at m8
      have m8 : some sig.parameters.length = some (am_na a) := m8
      exact (Option.some.inj m8).symm
    refine ⟨(((st.take (am_na a)).reverse).map (am_tr ad)).toArray, ?_⟩
    split at hw
    · exact va_runS (As := ((st.take (am_na a)).reverse).map (am_tr ad)) ⟨hx, hb, hml, hown, hts⟩ hMet ⟨hB (hts _ (am_good_of hw)) (am_na a) hn, hts _ (am_good_of m1)⟩ ⟨am_Pre_blind, hpre⟩ rfl (by rw [List.length_map, hvl]) hsz hmapst (lv_room hroom) hdg hf
    · exact va_runSN (As := ((st.take (am_na a)).reverse).map (am_tr ad)) ⟨hx, hb, hml, hown, hts⟩ hMet ⟨hNB (va_Nw.use rfl (hN _ (am_has_of hw) rfl)) (am_na a) hn, hts _ (am_good_of m1), trivial⟩ ⟨am_Pre_blind, hpre⟩ rfl (by rw [List.length_map, hvl]) hsz hmapst (lv_room hroom) hdg hf
  | succ kd =>
    rw [hkd] at m1 m8 m9 m5
    have m9 : Nat.blt 0 (am_na a) = true := m9
    have m8 : (parseMethodDescriptor (am_yy a).desc).map (fun d => d.parameters.length) = some (am_na a - 1) := m8
    have m5 : (decide ((am_yy a).cls = am_R (am_ci a)) && Nat.blt (am_ci a) 8) = true := m5
    rw [Nat.blt_eq] at m9
    simp only [Bool.or_eq_true] at k7
    have k7 : am_rcv a L ((st.take (am_na a)).getLast?) = true := by
      rcases k7 with k7 | k7
      · rw [hkd] at k7; exact absurd (Nat.eq_of_beq_eq_true k7) (by omega)
      · exact k7
    -- the receiver
    have hne : (st.take (am_na a)).reverse ≠ [] := fun q => by rw [q] at hvl; simp at hvl; omega
    obtain ⟨v0, vr, hv0⟩ := List.exists_cons_of_ne_nil hne
    have hlast : (st.take (am_na a)).getLast? = some v0 := by rw [← List.head?_reverse, hv0]; rfl
    rw [hlast] at k7
    unfold am_rcv at k7
    split at k7
    · rename_i k0 hq0
      have hq0 := Option.some.inj hq0
      subst hq0
      split at k7
      · rename_i d1 hd1
        have ht := Nat.eq_of_beq_eq_true k7
        obtain ⟨t1, n1, rf1⟩ := d1
        dsimp only at ht
        subst ht
        simp only [Bool.and_eq_true, Nat.blt_eq] at m5
        obtain ⟨m5, m5'⟩ := m5
        have m5 := of_decide_eq_true m5
        have he := am_wd_get (ad := ad) (cI := cI) (cR := cR) (g := g) L 0 k0 hd1
        rw [Nat.zero_add] at he
        have hrecv := va_recv hW.1 hW.2.1 (am_clsAt _ m5') he
        have hrecv' : ∃ cell : Cell, H[ad k0]? = some cell ∧ cell.vm.isStatics = false ∧ s.vm.findClass (am_yy a).cls = some cell.cls := by rw [m5]; exact hrecv
        have hvs : ((st.take (am_na a)).reverse).map (am_tr ad) = .ref (ad k0) :: vr.map (am_tr ad) := by rw [hv0]; rfl
        have hvrl : (vr.map (am_tr ad)).length = am_na a - 1 := by
          rw [List.length_map]
          have := hvl
          rw [hv0, List.length_cons] at this
          omega
        have hn : ∀ sig, parseMethodDescriptor (am_yy a).desc = some sig → am_na a - 1 = sig.parameters.length := fun sig hs => by
          rw [hs, Option.map_some] at m8
          exact (Option.some.inj m8).symm
        rw [hvs] at hpre hMet hmapst
        have hst : st.map (am_tr ad) = (vr.map (am_tr ad)).reverse ++ .ref (ad k0) :: (st.drop (am_na a)).map (am_tr ad) := by
          rw [hmapst, List.reverse_cons, List.append_assoc]; rfl
        refine ⟨(Value.ref (ad k0) :: vr.map (am_tr ad)).toArray, ?_⟩
        cases kd with
        | zero =>
          rw [hkd] at hdg m2
          split at hw
          · exact va_runV (C := (am_yy a).cls) ⟨hx, hb, hml, hown, hts⟩ hMet ⟨hB (hts _ (am_good_of hw)) (am_na a - 1) hn, hts _ (am_good_of m1), hts _ (am_good_of m2)⟩ ⟨am_Pre_blind, hrecv', hpre⟩ rfl hvrl hsz hst (lv_room hroom) hdg hf
          · exact va_runVN (C := (am_yy a).cls) ⟨hx, hb, hml, hown, hts⟩ hMet ⟨hNB (va_Nw.use rfl (hN _ (am_has_of hw) rfl)) (am_na a - 1) hn, hts _ (am_good_of m1), hts _ (am_good_of m2)⟩ ⟨am_Pre_blind, hrecv', hpre⟩ rfl hvrl hsz hst (lv_room hroom) hdg hf
        | succ kd =>
          rw [hkd] at hdg m15
          have hk2 : kd = 0 := by rw [Nat.blt_eq] at m15; omega
          subst hk2
          rw [hkd] at m10
          have m10 : (decide ((am_yy a).name = "<init>") && Nat.beq (am_rk a) 0) = true := m10
          simp only [Bool.and_eq_true] at m10
          obtain ⟨m10, m10'⟩ := m10
          have m10 := of_decide_eq_true m10
          rw [Nat.eq_of_beq_eq_true m10'] at m11
          have m11 := of_decide_eq_true m11
          split at hw
          · have hB1 := hB (hts _ (am_good_of hw)) (am_na a - 1) hn
            rw [m11] at hB1
            exact va_runI ⟨hx, hb, hml, hown, hts⟩ hMet ⟨hB1, m10, hts _ (am_good_of m1)⟩ ⟨am_Pre_blind, hpre⟩ rfl hvrl hsz hst (lv_room hroom) hdg hf
          · have hB1 := hNB (va_Nw.use rfl (hN _ (am_has_of hw) rfl)) (am_na a - 1) hn
            rw [m11] at hB1
            exact va_runIN ⟨hx, hb, hml, hown, hts⟩ hMet ⟨hB1, m10, hts _ (am_good_of m1)⟩ ⟨am_Pre_blind, hpre⟩ rfl hvrl hsz hst (lv_room hroom) hdg hf
      · cases k7
    · cases k7
end AMU
end
section
set_option maxRecDepth 100000 in
theorem am_wob_in : Cond.instanceMethod objectInit ∈ am_TG ∧ Cond.code objectInit ⟨#[0xb1]⟩ 1 none ∈ am_TG := ⟨am_good_of (q := am_wob1) (by decide +kernel), List.mem_filter.mpr ⟨List.mem_of_getElem? (i := am_wob2) rfl, rfl⟩⟩
set_option maxRecDepth 100000 in
theorem am_wmx_in : Cond.static Lib.Math.max.name ∈ am_TG ∧ Cond.code Lib.Math.max.name Lib.Math.max.code 2 (some .int) ∈ am_TG := ⟨am_good_of (q := am_wmx1) (by decide +kernel), List.mem_filter.mpr ⟨List.mem_of_getElem? (i := am_wmx2) rfl, rfl⟩⟩
set_option maxRecDepth 100000 in
theorem am_wmn_in : Cond.static Lib.Math.min.name ∈ am_TG ∧ Cond.code Lib.Math.min.name Lib.Math.min.code 2 (some .int) ∈ am_TG := ⟨am_good_of (q := am_wmn1) (by decide +kernel), List.mem_filter.mpr ⟨List.mem_of_getElem? (i := am_wmn2) rfl, rfl⟩⟩
set_option maxRecDepth 100000 in
theorem am_wmi_in : Cond.initialized "java/lang/Math" ∈ am_TG ∧ Cond.arrayClass .int ∈ am_TG := ⟨am_good_of (q := am_wmi) (by decide +kernel), am_good_of (q := am_wac) (by decide +kernel)⟩
section AMW
variable {d mi pc nx a b : Nat} {sw : List (Int32 × Nat)} {lv : am_V} {st : List Value} {L : am_L} {g : am_G} {bc bs : Nat} {sx : am_S} {Q : am_Q}
variable {p : Program} {l : Launch} {e : Env} {R : Room} {s : State} {m : MethodId} {args : Array Value} {below : List Frame} {meth : Method} {c : Code} {H : Heap} {locs : List Loc} {cells slots : Nat} {Z : State → Prop} {ls : Array Slot} {D : va_G} {A : Nat → Prop} {cI cR : ClassId} {ad : Nat → Nat}
theorem am_Sx.eq {ad' : Nat → Nat} (h : am_Sx sx ad A s) (ha : ad' am_scr = ad am_scr) : am_Sx sx ad' A s := by
  cases sx with
  | none => trivial
  | some q => obtain ⟨n, xs⟩ := q; unfold am_Sx at h ⊢; dsimp only at h ⊢; rw [ha]; exact h
theorem am_Rt.next {ad' : Nat → Nat} {n0 n1 mc ms : Nat} (h : am_Rt p l e R s m args below meth c mi D A cI cR ad n0 bc bs cells slots Q Z) (hn : n0 ≤ n1) (ha : ∀ k, k < n0 ∨ k = am_scr → ad' k = ad k) (h0 : mc = 0 → ad' = ad) (h1 : mc ≤ bc) (h2 : ms ≤ bs) : am_Rt p l e R s m args below meth c mi D A cI cR ad' n1 (bc - mc) (bs - ms) (cells + mc) (slots + ms) Q Z := by
  intro r L' g' ad'' H' locs' c' s' pc' ls' hQ hW hl hag hbc hc hs hE
  refine h r L' g' ad'' H' locs' c' s' pc' ls' hQ hW (Nat.le_trans hn hl) (fun k hk => ?_) (fun hb => ?_) (by omega) (by omega) hE
  · rw [hag k (hk.imp (fun q => Nat.lt_of_lt_of_le q hn) id)]
    exact ha k hk
  · rw [hbc (by omega)]
    exact h0 (by omega)
theorem am_Cx.next {mc ms : Nat} (h : am_Cx p R s m args meth c mi d bc bs cells slots) (h1 : mc ≤ bc) (h2 : ms ≤ bs) : am_Cx p R s m args meth c mi d (bc - mc) (bs - ms) (cells + mc) (slots + ms) := by
  obtain ⟨hx, hb, hml, hown, hts, hN, hAO, hin, hfr, hlo, hce, hsl⟩ := h
  exact ⟨hx, hb, hml, hown, hts, hN, hAO, hin, hfr, hlo, by omega, by omega⟩
theorem am_s_call {i : Nat} (ha : a < 137) (hcl : am_v1 sw (fun v q => match decide (v = 0) with
    | true => am_good q (.methodLink (am_own mi) i (am_yy a))
    | false => am_has q (.methodLinkNest (am_own mi) i (am_yy a) am_host)) = true) (hdg : decode (am_by mi) pc = .ok ((match am_kd a with | 0 => .invokestatic i | 1 => .invokevirtual i | _ => .invokespecial i), 3))
    (h : am_call am_Sd d mi (pc + 3) a lv st L g bc bs sx Q) : am_Sd d mi pc lv st L g bc bs sx Q := by
  obtain ⟨hok, h'⟩ := am_b_of h
  clear h
  cases d with
  | zero => exact h'.elim
  | succ d' =>
    obtain ⟨Q1, h1, h2⟩ := h'
    intro p l e R s m args below meth c H locs cells slots D A cI cR ad Z ls hC hW hL hS hR
    obtain ⟨a0, hrun⟩ := am_run ha hcl hdg hok h1 hC hW hL
    have hok' := hok
    simp only [am_cok, Bool.and_eq_true] at hok'
    obtain ⟨⟨⟨⟨⟨⟨k1, k2⟩, k3⟩, k4⟩, k5⟩, k6⟩, k7⟩ := hok'
    have k4 := Nat.le_of_ble_eq_true k4
    have k5 := Nat.le_of_ble_eq_true k5
    refine am_callg hrun hW.2.2.2.1 (am_world_free hW) (fun r L' g' ad' H1 locs1 hQ1 hn hag hbc hP1 hD1 hS1 => ?_)
    have hkeep : (st.drop (am_na a)).map (am_tr ad) = (st.drop (am_na a)).map (am_tr ad') ∧ am_Lo ad' ls (am_nl mi) lv := by
      simp only [Bool.or_eq_true] at k6
      rcases k6 with k6 | k6
      · have := hbc (Nat.eq_of_beq_eq_true k6)
        subst this
        exact ⟨rfl, hL⟩
      · simp only [am_fresh, Bool.and_eq_true] at k6
        exact ⟨(am_st_eq _ k6.2 hag).symm, hL.eq k6.1 hag⟩
    rw [hkeep.1]
    have e2 : (r.map (am_tr ad')).toList ++ (st.drop (am_na a)).map (am_tr ad') = (r.toList ++ st.drop (am_na a)).map (am_tr ad') := by
      rw [List.map_append]; cases r <;> rfl
    rw [e2]
    exact h2 r L' g' hQ1 p l e R s m args below meth c H1 locs1 (cells + am_mc a) (slots + am_ms a) D A cI cR ad' Z ls (hC.next k4 k5) ⟨hW.1, hP1, hD1.weaken (fun _ q _ hq => am_world_free hW q.1 hq), hS1, hW.2.2.2.2⟩ hkeep.2 (hS.eq (hag _ (Or.inr rfl))) (hR.next hn hag hbc k4 k5)
theorem am_cll_of {i k : Nat} (h : am_cll mi i a k sw = true) : a < 137 ∧ am_kd a = k ∧ am_v1 sw (fun v q => match decide (v = 0) with
    | true => am_good q (.methodLink (am_own mi) i (am_yy a))
    | false => am_has q (.methodLinkNest (am_own mi) i (am_yy a) am_host)) = true := by
  simp only [am_cll, Bool.and_eq_true, Nat.blt_eq] at h
  exact ⟨h.1.1, Nat.eq_of_beq_eq_true h.1.2, h.2⟩
theorem am_inv_lt {X : am_X} (ha : a < 137) (h : am_inv X d mi nx a lv st L g bc bs sx Q) : am_call X d mi nx a lv st L g bc bs sx Q := by
  unfold am_inv at h
  rw [show Nat.blt a 997 = true by rw [Nat.blt_eq]; omega] at h
  exact h
theorem am_s_invokevirtual {i : Nat} (ok : am_okE mi pc (.invokevirtual i, nx, a, b, sw) = true) (h : am_inv am_Sd d mi nx a lv st L g bc bs sx Q) : am_Sd d mi pc lv st L g bc bs sx Q := by
  obtain ⟨hd, hI⟩ := am_dec_of ok (by intro q; cases q)
  simp only [am_okI, Bool.and_eq_true] at hI
  have hn := Nat.eq_of_beq_eq_true hI.1
  subst hn
  rw [Nat.add_sub_cancel_left] at hd
  obtain ⟨h1, h2, h3⟩ := am_cll_of hI.2
  exact am_s_call h1 h3 (by rw [h2]; exact hd) (am_inv_lt h1 h)
theorem am_s_invokespecial {i : Nat} (ok : am_okE mi pc (.invokespecial i, nx, a, b, sw) = true) (h : am_inv am_Sd d mi nx a lv st L g bc bs sx Q) : am_Sd d mi pc lv st L g bc bs sx Q := by
  obtain ⟨hd, hI⟩ := am_dec_of ok (by intro q; cases q)
  simp only [am_okI, Bool.and_eq_true] at hI
  obtain ⟨hn, hI⟩ := hI
  have hn := Nat.eq_of_beq_eq_true hn
  subst hn
  rw [Nat.add_sub_cancel_left] at hd
  split at hI
  · rename_i ha
    have ha := Nat.eq_of_beq_eq_true ha
    subst ha
    obtain ⟨w, q, rfl, hw⟩ := am_v1_of hI
    obtain ⟨hc, h'⟩ := am_b_of (show am_b _ _ from h)
    clear h
    simp only [Bool.and_eq_true, Nat.blt_eq] at hc
    obtain ⟨k, r, rfl, h⟩ := am_r1_of (show am_r1 st _ from h')
    clear h'
    intro p l e R s m args below meth c H locs cells slots D A cI cR ad Z ls hC hW hL hS hR
    obtain ⟨hx, hb, hml, hown, hts, hN, hAO, hin, hfr, hlo, hce, hsl⟩ := id hC
    refine W.objInit (g := F0 m pc ls (.ref (ad k) :: r.map (am_tr ad))) hx hb hown (hts _ (am_good_of hw)) (hts _ am_wob_in.1) (hts _ am_wob_in.2) rfl (by rw [hml]; exact hL.1.1) (rest := r.map (am_tr ad)) rfl hd (by omega) ?_ (h p l e R s m args below meth c H locs cells slots D A cI cR ad Z ls hC hW hL hS hR)
    have hr : ((r.map (am_tr ad)).map fun v => v.category).sum ≤ 8 := by
      rw [am_words_map]
      have := Nat.le_of_ble_eq_true hc.2
      rw [show am_words (Value.ref k :: r) = 1 + am_words r from rfl] at this
      omega
    have := lv_room (m := m) (pc := pc) (ls := ls) (rest := .ref (ad k) :: r.map (am_tr ad)) hr
    omega
  · obtain ⟨h1, h2, h3⟩ := am_cll_of hI
    exact am_s_call h1 h3 (by rw [h2]; exact hd) (am_inv_lt h1 h)
theorem am_s_invokestatic {i : Nat} (ok : am_okE mi pc (.invokestatic i, nx, a, b, sw) = true) (h : am_inv am_Sd d mi nx a lv st L g bc bs sx Q) : am_Sd d mi pc lv st L g bc bs sx Q := by
  obtain ⟨hd, hI⟩ := am_dec_of ok (by intro q; cases q)
  simp only [am_okI, Bool.and_eq_true] at hI
  obtain ⟨hn, hI⟩ := hI
  have hn := Nat.eq_of_beq_eq_true hn
  subst hn
  rw [Nat.add_sub_cancel_left] at hd
  split at hI
  · rename_i ha
    have ha := Nat.eq_of_beq_eq_true ha
    subst ha
    obtain ⟨w, q, rfl, hw⟩ := am_v1_of hI
    obtain ⟨hc, h'⟩ := am_b_of (show am_b _ _ from h)
    clear h
    simp only [Bool.and_eq_true, Nat.blt_eq] at hc
    obtain ⟨x, y, r, rfl, h⟩ := am_i2_of (show am_i2 st _ from h')
    clear h'
    intro p l e R s m args below meth c H locs cells slots D A cI cR ad Z ls hC hW hL hS hR
    obtain ⟨hx, hb, hml, hown, hts, hN, hAO, hin, hfr, hlo, hce, hsl⟩ := id hC
    have hw8 := Nat.le_of_ble_eq_true hc.2
    rw [show am_words (Value.int y :: Value.int x :: r) = 1 + (1 + am_words r) from rfl] at hw8
    exact va_mmax (rest := r.map (am_tr ad)) hx hb (by rw [hml]; exact hL.1.1.symm) hown (hts _ (am_good_of hw)) (hts _ am_wmx_in.1) (hts _ am_wmi_in.1) (hts _ am_wmx_in.2) (by omega) (by rw [am_words_map]; omega) (by omega) (by omega) hd (h p l e R s m args below meth c H locs cells slots D A cI cR ad Z ls hC hW hL hS hR)
  · split at hI
    · rename_i ha0 ha
      have ha := Nat.eq_of_beq_eq_true ha
      subst ha
      obtain ⟨w, q, rfl, hw⟩ := am_v1_of hI
      obtain ⟨hc, h'⟩ := am_b_of (show am_b _ _ from h)
      clear h
      simp only [Bool.and_eq_true, Nat.blt_eq] at hc
      obtain ⟨x, y, r, rfl, h⟩ := am_i2_of (show am_i2 st _ from h')
      clear h'
      intro p l e R s m args below meth c H locs cells slots D A cI cR ad Z ls hC hW hL hS hR
      obtain ⟨hx, hb, hml, hown, hts, hN, hAO, hin, hfr, hlo, hce, hsl⟩ := id hC
      have hw8 := Nat.le_of_ble_eq_true hc.2
      rw [show am_words (Value.int y :: Value.int x :: r) = 1 + (1 + am_words r) from rfl] at hw8
      exact va_mmin (rest := r.map (am_tr ad)) hx hb (by rw [hml]; exact hL.1.1.symm) hown (hts _ (am_good_of hw)) (hts _ am_wmn_in.1) (hts _ am_wmi_in.1) (hts _ am_wmn_in.2) (by omega) (by rw [am_words_map]; omega) (by omega) (by omega) hd (h p l e R s m args below meth c H locs cells slots D A cI cR ad Z ls hC hW hL hS hR)
    · obtain ⟨h1, h2, h3⟩ := am_cll_of hI
      exact am_s_call h1 h3 (by rw [h2]; exact hd) (am_inv_lt h1 h)
theorem am_mk_of {e1 : am_D} (h : am_mk am_Sd d mi nx e1 lv st L g bc bs sx Q) : 1 ≤ bc ∧ e1.2.1 ≤ bs ∧ am_fresh L.length lv st = true ∧ am_lok L.length L = true ∧ L.length < am_scr ∧ am_Sd d mi nx lv (.ref L.length :: st) (L ++ [e1]) (am_upc g L.length (fun _ => 0)) (bc - 1) (bs - e1.2.1) sx Q := by
  obtain ⟨hc, h⟩ := am_b_of h
  simp only [Bool.and_eq_true, Nat.blt_eq] at hc
  obtain ⟨⟨⟨⟨k1, k2⟩, k3⟩, k4⟩, k5⟩ := hc
  exact ⟨Nat.le_of_ble_eq_true k1, Nat.le_of_ble_eq_true k2, k3, k4, k5, h⟩
theorem am_mk_go {t n : Nat} (h : am_mk am_Sd d mi nx (t, n, fun _ => 0) lv st L g bc bs sx Q) (hC : am_Cx p R s m args meth c mi d bc bs cells slots) (hW : am_Wo D A cI cR ad L g s H locs) (hL : am_Lo ad ls (am_nl mi) lv) (hS : am_Sx sx ad A s) (hR : am_Rt p l e R s m args below meth c mi D A cI cR ad L.length bc bs cells slots Q Z)
    (q : Nat) (H1 : Heap) (hP1 : va_P D am_cls (am_wd ad cI cR g 0 L ++ [(q, am_en ad cI cR (t, n, fun _ => 0) (fun _ => 0))]) H1) (hD1 : va_D A (am_wd ad cI cR g 0 L ++ [(q, am_en ad cI cR (t, n, fun _ => 0) (fun _ => 0))])) (hS1 : va_S A s.heap H1 locs) : W p l e R s m args below meth c H1 locs (cells + 1) (slots + n) Z (F0 m nx ls (.ref q :: st.map (am_tr ad))) := by
  obtain ⟨k1, k2, k3, k4, k5, h⟩ := am_mk_of h
  obtain ⟨ad', had⟩ : ∃ f : Nat → Nat, f = fun j => if j = L.length then q else ad j := ⟨_, rfl⟩
  have hq : ad' L.length = q := by rw [had]; simp
  have hag : ∀ k, k < L.length ∨ k = am_scr → ad' k = ad k := by
    intro k hk
    have : k ≠ L.length := by omega
    rw [had]
    simp [this]
  have ew : am_wd ad cI cR g 0 L ++ [(q, am_en ad cI cR (t, n, fun _ => 0) (fun _ => 0))] = am_wd ad' cI cR (am_upc g L.length (fun _ => 0)) 0 (L ++ [(t, n, fun _ => 0)]) := by
    rw [am_wd_app, Nat.zero_add, hq, am_wd_ext (ad := ad) (g := g) (N := L.length) L 0 k4 (fun j hj => hag j (Or.inl hj)) (by omega) (fun j hj => by simp [am_upc, Nat.ne_of_lt hj])]
    congr 3
    rw [show am_upc g L.length (fun _ => 0) L.length = (fun _ => 0) by simp [am_upc]]
    exact (am_en_cong (N := 0) (am_fok0 0 n) (fun j hj => absurd hj (Nat.not_lt_zero j))).symm
  simp only [am_fresh, Bool.and_eq_true] at k3
  rw [ew] at hP1 hD1
  have est : .ref q :: st.map (am_tr ad) = ((Value.ref L.length) :: st).map (am_tr ad') := by
    rw [List.map_cons, am_st_eq st k3.2 hag]
    show _ = Value.ref (ad' L.length) :: _
    rw [hq]
  rw [est]
  refine h p l e R s m args below meth c H1 locs (cells + 1) (slots + n) D A cI cR ad' Z ls (hC.next k1 k2) ⟨hW.1, hP1, hD1, hS1, hW.2.2.2.2⟩ (hL.eq k3.1 hag) (hS.eq (hag _ (Or.inr rfl))) ?_
  refine hR.next (by rw [List.length_append]; omega) hag (fun q => absurd q (by omega)) k1 k2
theorem am_s_new {i : Nat} (ok : am_okE mi pc (.new i, nx, a, b, sw) = true) (h : am_mk am_Sd d mi nx (a + 2, am_nf a, fun _ => 0) lv st L g bc bs sx Q) : am_Sd d mi pc lv st L g bc bs sx Q := by
  obtain ⟨hd, hI⟩ := am_dec_of ok (by intro q; cases q)
  simp only [am_okI, Bool.and_eq_true, Nat.blt_eq] at hI
  obtain ⟨⟨hn, h8⟩, hI⟩ := hI
  have hn := Nat.eq_of_beq_eq_true hn
  subst hn
  rw [Nat.add_sub_cancel_left] at hd
  obtain ⟨w, q, rfl, hw⟩ := am_v1_of hI
  have hk := am_mk_of h
  intro p l e R s m args below meth c H locs cells slots D A cI cR ad Z ls hC hW hL hS hR
  obtain ⟨hx, hb, hml, hown, hts, hN, hAO, hin, hfr, hlo, hce, hsl⟩ := id hC
  have k2 : am_nf a ≤ bs := hk.2.1
  refine va_new (ci := a) (fs := am_fs ad a (am_nf a) (fun _ => 0) (fun _ => 0)) hx hb hts (am_C1 h8) (am_ty a) (am_C2 h8) hown (hts _ (am_good_of hw)) (hts _ (am_C5 h8).1) (hts _ (am_C5 h8).2) hW.1 hW.2.1 hW.2.2.1 hW.2.2.2.1 hW.2.2.2.2 (am_clsAt a h8) (fun j hj => ?_) (by have := hk.1; omega) (by omega) hd (fun q H1 hP1 hD1 hS1 => am_mk_go h hC hW hL hS hR q H1 hP1 hD1 hS1)
  unfold vp_V
  rw [List.getD_eq_getElem?_getD, am_fs_get hj]
  have h3 := am_C3 h8 hj
  cases hr : am_isref a j with
  | true =>
    rcases h3.2 hr with ⟨n, e⟩ | ⟨t, e⟩ <;> rw [e] <;> rfl
  | false => rw [h3.1 hr]; rfl
theorem am_s_newarray {t : ArrayType} (ok : am_okE mi pc (.newarray t, nx, a, b, sw) = true) (h : am_i1 st (fun x r => (¬ x < 0 ∧ x.toNatClampNeg ≤ 4096) ∧ am_mk am_Sd d mi nx (0, x.toNatClampNeg, fun _ => 0) lv r L g bc bs sx Q)) : am_Sd d mi pc lv st L g bc bs sx Q := by
  obtain ⟨hd, hI⟩ := am_dec_of ok (by intro q; cases q)
  simp only [am_okI, Bool.and_eq_true] at hI
  obtain ⟨hn, hI⟩ := hI
  have hn := Nat.eq_of_beq_eq_true hn
  subst hn
  have hI := of_decide_eq_true hI
  subst hI
  rw [Nat.add_sub_cancel_left] at hd
  obtain ⟨x, r, rfl, ⟨h0, h1⟩, h⟩ := am_i1_of h
  have hk := am_mk_of h
  intro p l e R s m args below meth c H locs cells slots D A cI cR ad Z ls hC hW hL hS hR
  obtain ⟨hx, hb, hml, hown, hts, hN, hAO, hin, hfr, hlo, hce, hsl⟩ := id hC
  have k2 : x.toNatClampNeg ≤ bs := hk.2.1
  refine va_newa (atype := .int) (ty := .int) (a0 := (x.toNatClampNeg, .inl (fun _ => 0))) hx hb (hts _ am_wmi_in.2) rfl hW.1 hW.2.1 hW.2.2.1 hW.2.2.2.1 hW.2.2.2.2 (fun _ => rfl) h0 rfl (by show x.toNatClampNeg * 4 ≤ 536870912; omega) (by have := hk.1; omega) (by omega) hd (fun q cA H1 hK1 hP1 hD1 hS1 => ?_)
  have e1 : cA = cI := by
    have f1 : s.vm.findClass _ = some cA := (hK1.2 2 (cA, .int) rfl).2
    have f2 : s.vm.findClass _ = some cI := (hW.1.2 0 (cI, .int) rfl).2
    exact Option.some.inj (f1.symm.trans f2)
  subst e1
  exact am_mk_go h hC hW hL hS hR q H1 hP1 hD1 hS1
theorem am_s_anewarray {i : Nat} (ok : am_okE mi pc (.anewarray i, nx, a, b, sw) = true) (h : am_i1 st (fun x r => (¬ x < 0 ∧ x.toNatClampNeg ≤ 4096) ∧ am_mk am_Sd d mi nx (1, x.toNatClampNeg, fun _ => 0) lv r L g bc bs sx Q)) : am_Sd d mi pc lv st L g bc bs sx Q := by
  obtain ⟨hd, hI⟩ := am_dec_of ok (by intro q; cases q)
  simp only [am_okI, Bool.and_eq_true] at hI
  obtain ⟨hn, hI⟩ := hI
  have hn := Nat.eq_of_beq_eq_true hn
  subst hn
  rw [Nat.add_sub_cancel_left] at hd
  obtain ⟨w, q, rfl, hw⟩ := am_v1_of hI
  obtain ⟨x, r, rfl, ⟨h0, h1⟩, h⟩ := am_i1_of h
  have hk := am_mk_of h
  intro p l e R s m args below meth c H locs cells slots D A cI cR ad Z ls hC hW hL hS hR
  obtain ⟨hx, hb, hml, hown, hts, hN, hAO, hin, hfr, hlo, hce, hsl⟩ := id hC
  have k2 : x.toNatClampNeg ≤ bs := hk.2.1
  refine va_newq hx hb hown (hts _ (am_good_of hw)) hAO hW.1 hW.2.1 hW.2.2.1 hW.2.2.2.1 hW.2.2.2.2 h0 rfl (by omega) (by have := hk.1; omega) (by omega) hd (fun q cA H1 hK1 hP1 hD1 hS1 => ?_)
  have e1 : cA = cR := by
    obtain ⟨kA, comp, -, -, -, f1⟩ := (hK1.2 2 (cA, .object (am_R am_shc)) rfl).2
    obtain ⟨kB, comp2, -, -, -, f2⟩ := (hW.1.2 1 (cR, .object (am_R am_shc)) rfl).2
    exact Option.some.inj (f1.symm.trans f2)
  subst e1
  have e2 : (fun _ => none : Nat → Option Nat) = (fun j => bif Nat.blt j x.toNatClampNeg then am_ro ad 0 else none) := by
    funext j
    cases Nat.blt j x.toNatClampNeg <;> rfl
  rw [e2] at hP1 hD1
  exact am_mk_go h hC hW hL hS hR q H1 hP1 hD1 hS1
theorem am_s_ireturn (ok : am_okE mi pc (.ireturn, nx, a, b, sw) = true) (h : am_ret (am_rk mi) st (fun v => Q (some v) L g)) : am_Sd d mi pc lv st L g bc bs sx Q := by
  obtain ⟨hd, hI⟩ := am_dec_of ok (by intro q; cases q)
  have hn := Nat.eq_of_beq_eq_true (show Nat.beq nx (pc + 1) = true from hI)
  subst hn
  rw [Nat.add_sub_cancel_left] at hd
  unfold am_ret at h
  split at h
  · rename_i v
    intro p l e R s m args below meth c H locs cells slots D A cI cR ad Z ls hC hW hL hS hR
    split at h
    · rename_i hk
      exact hR (some (.int v)) L g ad H locs cells slots pc ls h hW (Nat.le_refl _) (fun _ _ => rfl) (fun _ => rfl) (Nat.le_add_right _ _) (Nat.le_add_right _ _) ⟨v, rfl, by omega, fun q => by omega, hd⟩
    · rename_i hk
      exact hR (some (.int v)) L g ad H locs cells slots pc ls h.2 hW (Nat.le_refl _) (fun _ _ => rfl) (fun _ => rfl) (Nat.le_add_right _ _) (Nat.le_add_right _ _) ⟨v, rfl, by omega, fun q => h.1, hd⟩
    · rename_i hk
      exact hR (some (.int v)) L g ad H locs cells slots pc ls h hW (Nat.le_refl _) (fun _ _ => rfl) (fun _ => rfl) (Nat.le_add_right _ _) (Nat.le_add_right _ _) ⟨v, rfl, by omega, fun q => by omega, hd⟩
    · exact h.elim
  · exact h.elim
theorem am_s_return (ok : am_okE mi pc (.return_, nx, a, b, sw) = true) (h : match st with | [] => am_b (Nat.beq (am_rk mi) 0) (Q none L g) | _ => False) : am_Sd d mi pc lv st L g bc bs sx Q := by
  obtain ⟨hd, hI⟩ := am_dec_of ok (by intro q; cases q)
  have hn := Nat.eq_of_beq_eq_true (show Nat.beq nx (pc + 1) = true from hI)
  subst hn
  rw [Nat.add_sub_cancel_left] at hd
  split at h
  · obtain ⟨hk, h⟩ := am_b_of h
    intro p l e R s m args below meth c H locs cells slots D A cI cR ad Z ls hC hW hL hS hR
    exact hR none L g ad H locs cells slots pc ls h hW (Nat.le_refl _) (fun _ _ => rfl) (fun _ => rfl) (Nat.le_add_right _ _) (Nat.le_add_right _ _) ⟨Nat.eq_of_beq_eq_true hk, hd⟩
  · exact h.elim
theorem am_step (h : am_F am_Sd d mi pc lv st L g bc bs sx Q) : am_Sd d mi pc lv st L g bc bs sx Q := by
  have ok := am_okAt mi pc
  unfold am_F at h
  generalize am_cd mi pc = ent at h ok
  obtain ⟨ins, nx, a, b, sw⟩ := ent
  dsimp only at h
  cases ins with
  | iconst i => exact am_s_iconst ok h
  | bipush i => exact am_s_bipush ok h
  | sipush i => exact am_s_sipush ok h
  | ldc i => exact am_s_ldc ok h
  | ldc_w i => exact am_s_ldc_w ok h
  | iload i => exact am_s_iload ok h
  | iload_n i => exact am_s_iload_n ok h
  | aload i => exact am_s_aload ok h
  | aload_n i => exact am_s_aload_n ok h
  | istore i => exact am_s_istore ok h
  | istore_n i => exact am_s_istore_n ok h
  | astore i => exact am_s_astore ok h
  | astore_n i => exact am_s_astore_n ok h
  | iinc i n => exact am_s_iinc ok h
  | iadd => exact am_s_iadd ok h
  | isub => exact am_s_isub ok h
  | imul => exact am_s_imul ok h
  | irem => exact am_s_irem ok h
  | iand => exact am_s_iand ok h
  | ior => exact am_s_ior ok h
  | ixor => exact am_s_ixor ok h
  | ishl => exact am_s_ishl ok h
  | ishr => exact am_s_ishr ok h
  | iushr => exact am_s_iushr ok h
  | ineg => exact am_s_ineg ok h
  | i2b => exact am_s_i2b ok h
  | i2l => exact am_s_i2l ok h
  | ladd => exact am_s_ladd ok h
  | lcmp => exact am_s_lcmp ok h
  | dup => exact am_s_dup ok h
  | dup_x1 => exact am_s_dup_x1 ok h
  | dup_x2 => exact am_s_dup_x2 ok h
  | dup2 => exact am_s_dup2 ok h
  | pop => exact am_s_pop ok h
  | ifCond c o => exact am_s_ifCond ok h
  | if_icmp c o => exact am_s_if_icmp ok h
  | goto o => exact am_s_goto ok h
  | tableswitch d0 lo hi offs => exact am_s_tableswitch ok h
  | lookupswitch d0 ps => exact am_s_lookupswitch ok h
  | getfield i => exact am_s_getfield ok h
  | putfield i => exact am_s_putfield ok h
  | iaload => exact am_s_iaload ok h
  | iastore => exact am_s_iastore ok h
  | aaload => exact am_s_aaload ok h
  | aastore => exact am_s_aastore ok h
  | arraylength => exact am_s_arraylength ok h
  | new i => exact am_s_new ok h
  | newarray t => exact am_s_newarray ok h
  | anewarray i => exact am_s_anewarray ok h
  | invokespecial i => exact am_s_invokespecial ok h
  | invokevirtual i => exact am_s_invokevirtual ok h
  | invokestatic i => exact am_s_invokestatic ok h
  | ireturn => exact am_s_ireturn ok h
  | return_ => exact am_s_return ok h
  | _ => exact h.elim
/-- THE MACHINE IS SOUND -/
theorem am_sound (h : am d mi pc lv st L g bc bs sx Q) : am_Sd d mi pc lv st L g bc bs sx Q := h am_Sd (fun _ _ _ _ _ _ _ _ _ _ _ h => am_step h)
end AMW
end
section
/-! Runs of the machine: monotone, introduced, some steps at once. -/
section AMM
variable {X Y : am_X} (hXY : ∀ d mi pc lv st L g bc bs sx Q, X d mi pc lv st L g bc bs sx Q → Y d mi pc lv st L g bc bs sx Q)
variable {d mi pc nx a b : Nat} {sw : List (Int32 × Nat)} {lv : am_V} {st : List Value} {L : am_L} {g : am_G} {bc bs : Nat} {sx : am_S} {Q : am_Q}
theorem am_i1_m {f f' : Int32 → List Value → Prop} (h : ∀ x r, f x r → f' x r) (k : am_i1 st f) : am_i1 st f' := by
  obtain ⟨x, r, rfl, k⟩ := am_i1_of k; exact h _ _ k
theorem am_i2_m {f f' : Int32 → Int32 → List Value → Prop} (h : ∀ x y r, f x y r → f' x y r) (k : am_i2 st f) : am_i2 st f' := by
  obtain ⟨x, y, r, rfl, k⟩ := am_i2_of k; exact h _ _ _ k
theorem am_l2_m {f f' : Int64 → Int64 → List Value → Prop} (h : ∀ x y r, f x y r → f' x y r) (k : am_l2 st f) : am_l2 st f' := by
  obtain ⟨x, y, r, rfl, k⟩ := am_l2_of k; exact h _ _ _ k
theorem am_r1_m {f f' : Nat → List Value → Prop} (h : ∀ x r, f x r → f' x r) (k : am_r1 st f) : am_r1 st f' := by
  obtain ⟨x, r, rfl, k⟩ := am_r1_of k; exact h _ _ k
theorem am_ia_m {f f' : Nat → Int32 → List Value → Prop} (h : ∀ x y r, f x y r → f' x y r) (k : am_ia st f) : am_ia st f' := by
  obtain ⟨x, y, r, rfl, k⟩ := am_ia_of k; exact h _ _ _ k
theorem am_iai_m {f f' : Nat → Int32 → Int32 → List Value → Prop} (h : ∀ x y z r, f x y z r → f' x y z r) (k : am_iai st f) : am_iai st f' := by
  obtain ⟨x, y, z, r, rfl, k⟩ := am_iai_of k; exact h _ _ _ _ k
theorem am_kv_m {f f' : Int32 → Prop} (h : ∀ x, f x → f' x) (k : am_kv sw f) : am_kv sw f' := by
  obtain ⟨v, q, l, rfl, k⟩ := am_kv_of k; exact h _ k
theorem am_ld_m {i : Nat} {f f' : Value → Prop} (h : ∀ x, f x → f' x) (k : am_ld lv i f) : am_ld lv i f' := by
  obtain ⟨v, e, k⟩ := am_ld_of k
  unfold am_ld; rw [e]; exact h _ k
theorem am_b_m {c : Bool} {P P' : Prop} (h : P → P') (k : am_b c P) : am_b c P' := by
  cases c
  · exact k
  · exact h k
theorem am_if0_m {co : ClassFile.Cond} {x : Int32} {T T' N N' : Prop} (h1 : T → T') (h2 : N → N') (k : am_if0 co x T N) : am_if0 co x T' N' := by
  cases co <;> exact ⟨fun q => h1 (k.1 q), fun q => h2 (k.2 q)⟩ <;> exact ⟨fun q => h1 (k.1 q), fun q => h2 (k.2 q)⟩
theorem am_if2_m {co : ClassFile.Cond} {x y : Int32} {T T' N N' : Prop} (h1 : T → T') (h2 : N → N') (k : am_if2 co x y T N) : am_if2 co x y T' N' := by
  cases co <;> exact ⟨fun q => h1 (k.1 q), fun q => h2 (k.2 q)⟩ <;> exact ⟨fun q => h1 (k.1 q), fun q => h2 (k.2 q)⟩
theorem am_sw_m {x : Int32} {K K' : Nat → Prop} {df : Nat} (h : ∀ t, K t → K' t) : ∀ (l : List (Int32 × Nat)), am_sw x K df l → am_sw x K' df l
  | [], k => h _ k
  | (v, t) :: l, k => ⟨fun q => h _ (k.1 q), fun q => am_sw_m h l (k.2 q)⟩
theorem am_call_m (hXY : ∀ d mi pc lv st L g bc bs sx Q, X d mi pc lv st L g bc bs sx Q → Y d mi pc lv st L g bc bs sx Q) (k : am_call X d mi nx a lv st L g bc bs sx Q) : am_call Y d mi nx a lv st L g bc bs sx Q := by
  refine am_b_m (fun k => ?_) k
  cases d with
  | zero => exact k
  | succ d' =>
    obtain ⟨Q1, h1, h2⟩ := k
    exact ⟨Q1, hXY _ _ _ _ _ _ _ _ _ _ _ h1, fun r L' g' q => hXY _ _ _ _ _ _ _ _ _ _ _ (h2 r L' g' q)⟩
theorem am_inv_m (hXY : ∀ d mi pc lv st L g bc bs sx Q, X d mi pc lv st L g bc bs sx Q → Y d mi pc lv st L g bc bs sx Q) (k : am_inv X d mi nx a lv st L g bc bs sx Q) : am_inv Y d mi nx a lv st L g bc bs sx Q := by
  unfold am_inv at k ⊢
  split
  · rename_i e; rw [e] at k; exact am_call_m hXY k
  · rename_i e; rw [e] at k
    refine am_b_m (fun k => ?_) k
    split
    · rename_i e2; rw [e2] at k; exact am_r1_m (fun _ _ k => hXY _ _ _ _ _ _ _ _ _ _ _ k) k
    · rename_i e2; rw [e2] at k
      split
      · rename_i e3; rw [e3] at k; exact am_i2_m (fun _ _ _ k => hXY _ _ _ _ _ _ _ _ _ _ _ k) k
      · rename_i e3; rw [e3] at k; exact am_i2_m (fun _ _ _ k => hXY _ _ _ _ _ _ _ _ _ _ _ k) k
theorem am_getf_m (hXY : ∀ d mi pc lv st L g bc bs sx Q, X d mi pc lv st L g bc bs sx Q → Y d mi pc lv st L g bc bs sx Q) (k : am_getf X d mi nx a b lv st L g bc bs sx Q) : am_getf Y d mi nx a b lv st L g bc bs sx Q := by
  refine am_r1_m (fun x r k => ?_) k
  split
  · rename_i e; rw [e] at k
    refine am_b_m (fun k => ?_) k
    split
    · rename_i e2; rw [e2] at k
      split
      · rename_i e3; rw [e3] at k; exact hXY _ _ _ _ _ _ _ _ _ _ _ k
      · rename_i e3; rw [e3] at k; exact hXY _ _ _ _ _ _ _ _ _ _ _ k
    · rename_i e2; rw [e2] at k; exact hXY _ _ _ _ _ _ _ _ _ _ _ k
  · rename_i e; rw [e] at k; exact k
theorem am_putf_m (hXY : ∀ d mi pc lv st L g bc bs sx Q, X d mi pc lv st L g bc bs sx Q → Y d mi pc lv st L g bc bs sx Q) (k : am_putf X d mi nx a b lv st L g bc bs sx Q) : am_putf Y d mi nx a b lv st L g bc bs sx Q := by
  unfold am_putf at k ⊢
  split
  · split
    · rename_i e; dsimp only at k; rw [e] at k; exact am_b_m (fun k => hXY _ _ _ _ _ _ _ _ _ _ _ k) k
    · rename_i e; dsimp only at k; rw [e] at k; exact k
  · split
    · rename_i e; dsimp only at k; rw [e] at k; exact am_b_m (fun k => hXY _ _ _ _ _ _ _ _ _ _ _ k) k
    · rename_i e; dsimp only at k; rw [e] at k; exact k
  · rename_i h1 h2
    split at k
    · rename_i x k0 r; exact absurd rfl (h1 x k0 r)
    · rename_i x k0 r; exact absurd rfl (h2 x k0 r)
    · exact k
theorem am_iald_m (hXY : ∀ d mi pc lv st L g bc bs sx Q, X d mi pc lv st L g bc bs sx Q → Y d mi pc lv st L g bc bs sx Q) (k : am_iald X d mi nx lv st L g bc bs sx Q) : am_iald Y d mi nx lv st L g bc bs sx Q := by
  refine am_ia_m (fun x y r k => ?_) k
  generalize Nat.beq x am_scr = cb at k ⊢
  cases cb with
  | true =>
    cases sx with
    | none => exact k
    | some q => exact ⟨k.1, hXY _ _ _ _ _ _ _ _ _ _ _ k.2⟩
  | false =>
    have k : (match am_at L x with
      | some (0, n, _) => vp_in y n ∧ X d mi nx lv (.int (g x y.toNatClampNeg) :: r) L g bc bs sx Q
      | _ => False) := k
    show (match am_at L x with
      | some (0, n, _) => vp_in y n ∧ Y d mi nx lv (.int (g x y.toNatClampNeg) :: r) L g bc bs sx Q
      | _ => False)
    split at k
    · exact ⟨k.1, hXY _ _ _ _ _ _ _ _ _ _ _ k.2⟩
    · exact k.elim
theorem am_iast_m (hXY : ∀ d mi pc lv st L g bc bs sx Q, X d mi pc lv st L g bc bs sx Q → Y d mi pc lv st L g bc bs sx Q) (k : am_iast X d mi nx lv st L g bc bs sx Q) : am_iast Y d mi nx lv st L g bc bs sx Q := by
  refine am_iai_m (fun x y z r k => ?_) k
  split
  · rename_i e2; rw [e2] at k; exact ⟨k.1, hXY _ _ _ _ _ _ _ _ _ _ _ k.2⟩
  · rename_i e2
    split at k
    · rename_i e3; exact absurd e3 (e2 _ _)
    · exact k
theorem am_aald_m (hXY : ∀ d mi pc lv st L g bc bs sx Q, X d mi pc lv st L g bc bs sx Q → Y d mi pc lv st L g bc bs sx Q) (k : am_aald X d mi nx lv st L g bc bs sx Q) : am_aald Y d mi nx lv st L g bc bs sx Q := by
  refine am_ia_m (fun x y r k => ?_) k
  split
  · rename_i e2; rw [e2] at k
    refine ⟨k.1, ?_⟩
    have k2 := k.2
    split
    · rename_i e3; rw [e3] at k2; exact hXY _ _ _ _ _ _ _ _ _ _ _ k2
    · rename_i e3; rw [e3] at k2; exact hXY _ _ _ _ _ _ _ _ _ _ _ k2
  · rename_i e2
    split at k
    · rename_i e3; exact absurd e3 (e2 _ _)
    · exact k
theorem am_aast_m (hXY : ∀ d mi pc lv st L g bc bs sx Q, X d mi pc lv st L g bc bs sx Q → Y d mi pc lv st L g bc bs sx Q) (k : am_aast X d mi nx lv st L g bc bs sx Q) : am_aast Y d mi nx lv st L g bc bs sx Q := by
  unfold am_aast at k ⊢
  split at k
  · split at k
    · exact am_b_m (fun k => ⟨k.1, hXY _ _ _ _ _ _ _ _ _ _ _ k.2⟩) k
    · exact k.elim
  · exact k.elim
theorem am_alen_m (hXY : ∀ d mi pc lv st L g bc bs sx Q, X d mi pc lv st L g bc bs sx Q → Y d mi pc lv st L g bc bs sx Q) (k : am_alen X d mi nx lv st L g bc bs sx Q) : am_alen Y d mi nx lv st L g bc bs sx Q := by
  refine am_r1_m (fun x r k => ?_) k
  generalize Nat.beq x am_scr = cb at k ⊢
  cases cb with
  | true =>
    cases sx with
    | none => exact k
    | some q => exact hXY _ _ _ _ _ _ _ _ _ _ _ k
  | false =>
    have k : (match am_at L x with
      | some (0, n, _) => X d mi nx lv (.int (Int32.ofNat n) :: r) L g bc bs sx Q
      | some (1, n, _) => X d mi nx lv (.int (Int32.ofNat n) :: r) L g bc bs sx Q
      | _ => False) := k
    show (match am_at L x with
      | some (0, n, _) => Y d mi nx lv (.int (Int32.ofNat n) :: r) L g bc bs sx Q
      | some (1, n, _) => Y d mi nx lv (.int (Int32.ofNat n) :: r) L g bc bs sx Q
      | _ => False)
    split at k
    · exact hXY _ _ _ _ _ _ _ _ _ _ _ k
    · exact hXY _ _ _ _ _ _ _ _ _ _ _ k
    · exact k.elim
theorem am_mk_m (hXY : ∀ d mi pc lv st L g bc bs sx Q, X d mi pc lv st L g bc bs sx Q → Y d mi pc lv st L g bc bs sx Q) {e1 : am_D} (k : am_mk X d mi nx e1 lv st L g bc bs sx Q) : am_mk Y d mi nx e1 lv st L g bc bs sx Q := am_b_m (fun k => hXY _ _ _ _ _ _ _ _ _ _ _ k) k
theorem am_F_m (hXY : ∀ d mi pc lv st L g bc bs sx Q, X d mi pc lv st L g bc bs sx Q → Y d mi pc lv st L g bc bs sx Q) (k : am_F X d mi pc lv st L g bc bs sx Q) : am_F Y d mi pc lv st L g bc bs sx Q := by
  unfold am_F at k ⊢
  generalize am_cd mi pc = ent at k ⊢
  obtain ⟨ins, nx, a, b, sw⟩ := ent
  dsimp only at k ⊢
  cases ins with
  | iconst i => exact am_kv_m (fun _ k => hXY _ _ _ _ _ _ _ _ _ _ _ k) k
  | bipush i => exact am_kv_m (fun _ k => hXY _ _ _ _ _ _ _ _ _ _ _ k) k
  | sipush i => exact am_kv_m (fun _ k => hXY _ _ _ _ _ _ _ _ _ _ _ k) k
  | ldc i => exact am_kv_m (fun _ k => hXY _ _ _ _ _ _ _ _ _ _ _ k) k
  | ldc_w i => exact am_kv_m (fun _ k => hXY _ _ _ _ _ _ _ _ _ _ _ k) k
  | iload i => exact am_ld_m (fun _ k => am_b_m (fun k => hXY _ _ _ _ _ _ _ _ _ _ _ k) k) k
  | iload_n i => exact am_ld_m (fun _ k => am_b_m (fun k => hXY _ _ _ _ _ _ _ _ _ _ _ k) k) k
  | aload i => exact am_ld_m (fun _ k => am_b_m (fun k => hXY _ _ _ _ _ _ _ _ _ _ _ k) k) k
  | aload_n i => exact am_ld_m (fun _ k => am_b_m (fun k => hXY _ _ _ _ _ _ _ _ _ _ _ k) k) k
  | istore i => exact am_i1_m (fun _ _ k => am_b_m (fun k => hXY _ _ _ _ _ _ _ _ _ _ _ k) k) k
  | istore_n i => exact am_i1_m (fun _ _ k => am_b_m (fun k => hXY _ _ _ _ _ _ _ _ _ _ _ k) k) k
  | astore i => exact am_r1_m (fun _ _ k => am_b_m (fun k => hXY _ _ _ _ _ _ _ _ _ _ _ k) k) k
  | astore_n i => exact am_r1_m (fun _ _ k => am_b_m (fun k => hXY _ _ _ _ _ _ _ _ _ _ _ k) k) k
  | iinc i n =>
    refine am_kv_m (fun c k => am_ld_m (fun v k => ?_) k) k
    cases v <;> first | exact hXY _ _ _ _ _ _ _ _ _ _ _ k | exact k
  | iadd => exact am_i2_m (fun _ _ _ k => hXY _ _ _ _ _ _ _ _ _ _ _ k) k
  | isub => exact am_i2_m (fun _ _ _ k => hXY _ _ _ _ _ _ _ _ _ _ _ k) k
  | imul => exact am_i2_m (fun _ _ _ k => hXY _ _ _ _ _ _ _ _ _ _ _ k) k
  | irem => exact am_i2_m (fun _ _ _ k => ⟨k.1, hXY _ _ _ _ _ _ _ _ _ _ _ k.2⟩) k
  | iand => exact am_i2_m (fun _ _ _ k => hXY _ _ _ _ _ _ _ _ _ _ _ k) k
  | ior => exact am_i2_m (fun _ _ _ k => hXY _ _ _ _ _ _ _ _ _ _ _ k) k
  | ixor => exact am_i2_m (fun _ _ _ k => hXY _ _ _ _ _ _ _ _ _ _ _ k) k
  | ishl => exact am_i2_m (fun _ _ _ k => hXY _ _ _ _ _ _ _ _ _ _ _ k) k
  | ishr => exact am_i2_m (fun _ _ _ k => hXY _ _ _ _ _ _ _ _ _ _ _ k) k
  | iushr => exact am_i2_m (fun _ _ _ k => hXY _ _ _ _ _ _ _ _ _ _ _ k) k
  | ineg => exact am_i1_m (fun _ _ k => hXY _ _ _ _ _ _ _ _ _ _ _ k) k
  | i2b => exact am_i1_m (fun _ _ k => hXY _ _ _ _ _ _ _ _ _ _ _ k) k
  | i2l => exact am_i1_m (fun _ _ k => hXY _ _ _ _ _ _ _ _ _ _ _ k) k
  | ladd => exact am_l2_m (fun _ _ _ k => hXY _ _ _ _ _ _ _ _ _ _ _ k) k
  | lcmp => exact am_l2_m (fun _ _ _ k => hXY _ _ _ _ _ _ _ _ _ _ _ k) k
  | dup => cases st <;> first | exact k | exact am_b_m (fun k => hXY _ _ _ _ _ _ _ _ _ _ _ k) k
  | pop => cases st <;> first | exact k | exact am_b_m (fun k => hXY _ _ _ _ _ _ _ _ _ _ _ k) k
  | dup_x1 =>
    rcases st with _ | ⟨v, _ | ⟨w, r⟩⟩
    · exact k
    · exact k
    · exact am_b_m (fun k => hXY _ _ _ _ _ _ _ _ _ _ _ k) k
  | dup2 =>
    rcases st with _ | ⟨v, _ | ⟨w, r⟩⟩
    · exact k
    · exact k
    · exact am_b_m (fun k => hXY _ _ _ _ _ _ _ _ _ _ _ k) k
  | dup_x2 =>
    rcases st with _ | ⟨v, _ | ⟨w, _ | ⟨u, r⟩⟩⟩
    · exact k
    · exact k
    · exact k
    · exact am_b_m (fun k => hXY _ _ _ _ _ _ _ _ _ _ _ k) k
  | ifCond c o => exact am_i1_m (fun _ _ k => am_if0_m (fun k => hXY _ _ _ _ _ _ _ _ _ _ _ k) (fun k => hXY _ _ _ _ _ _ _ _ _ _ _ k) k) k
  | if_icmp c o => exact am_i2_m (fun _ _ _ k => am_if2_m (fun k => hXY _ _ _ _ _ _ _ _ _ _ _ k) (fun k => hXY _ _ _ _ _ _ _ _ _ _ _ k) k) k
  | goto o => exact hXY _ _ _ _ _ _ _ _ _ _ _ k
  | tableswitch d0 lo hi offs => exact am_i1_m (fun _ _ k => am_sw_m (fun _ k => hXY _ _ _ _ _ _ _ _ _ _ _ k) _ k) k
  | lookupswitch d0 ps => exact am_i1_m (fun _ _ k => am_sw_m (fun _ k => hXY _ _ _ _ _ _ _ _ _ _ _ k) _ k) k
  | getfield i => exact am_getf_m hXY k
  | putfield i => exact am_putf_m hXY k
  | iaload => exact am_iald_m hXY k
  | iastore => exact am_iast_m hXY k
  | aaload => exact am_aald_m hXY k
  | aastore => exact am_aast_m hXY k
  | arraylength => exact am_alen_m hXY k
  | new i => exact am_mk_m hXY k
  | newarray t => exact am_i1_m (fun _ _ k => ⟨k.1, am_mk_m hXY k.2⟩) k
  | anewarray i => exact am_i1_m (fun _ _ k => ⟨k.1, am_mk_m hXY k.2⟩) k
  | invokespecial i => exact am_inv_m hXY k
  | invokevirtual i => exact am_inv_m hXY k
  | invokestatic i => exact am_inv_m hXY k
  | ireturn => exact k
  | return_ => exact k
  | _ => exact k.elim
theorem am_in (h : am_F am d mi pc lv st L g bc bs sx Q) : am d mi pc lv st L g bc bs sx Q := fun X hX => hX _ _ _ _ _ _ _ _ _ _ _ (am_F_m (fun _ _ _ _ _ _ _ _ _ _ _ q => q X hX) h)
def am_k : Nat → am_X
  | 0 => am
  | n + 1 => am_F (am_k n)
theorem am_run_k : ∀ (n : Nat) {d mi pc : Nat} {lv : am_V} {st : List Value} {L : am_L} {g : am_G} {bc bs : Nat} {sx : am_S} {Q : am_Q}, am_k n d mi pc lv st L g bc bs sx Q → am d mi pc lv st L g bc bs sx Q
  | 0, _, _, _, _, _, _, _, _, _, _, _, h => h
  | n + 1, _, _, _, _, _, _, _, _, _, _, _, h => am_in (am_F_m (fun _ _ _ _ _ _ _ _ _ _ _ q => am_run_k n q) h)
end AMM
end
section
/-! Words for the walks over the machine. -/
theorem am_cl {d' mi nx a : Nat} {lv E : am_V} {st : List Value} {L : am_L} {g : am_G} {bc bs mc ms : Nat} {sx : am_S} {Q : am_Q} (h : am d' a 0 E [] L g mc ms none (fun r L' g' => am (d' + 1) mi nx lv (r.toList ++ st) L' g' (bc - mc) (bs - ms) sx Q)) :
    ∃ Q1 : am_Q, am d' a 0 E [] L g mc ms none Q1 ∧ ∀ (r : Option Value) (L' : am_L) (g' : am_G), Q1 r L' g' → am (d' + 1) mi nx lv (r.toList ++ st) L' g' (bc - mc) (bs - ms) sx Q := ⟨_, h, fun _ _ _ q => q⟩
def am_bi (b : Bool) : Int32 := match b with | true => 1 | false => 0
theorem bi_f {b : Bool} (h : am_bi b = 0) : b = false := by cases b; rfl; exact absurd h (by decide)
theorem bi_t {b : Bool} (h : ¬ am_bi b = 0) : b = true := by cases b; exact absurd rfl h; rfl
theorem bi_01 (b : Bool) : am_bi b = 0 ∨ am_bi b = 1 := by cases b; exact Or.inl rfl; exact Or.inr rfl
/-- a number's bit, as the class's has() reads it -/
def am_hs (s k : Int32) : Bool := decide ((s >>> (k &&& 31)) &&& 1 = 1)
/-- 0 .. k - 1 -/
def am_ir (n k : Int32) : Bool := decide (0 ≤ n) && decide (n < k)
theorem vpn {n N : Nat} (h : n < N) (hN : N < 2 ^ 31 := by decide) : vp_in (nI n) N := vp_in_nI h hN
theorem ncl {n : Nat} (h : n < 2 ^ 31) : (nI n).toNatClampNeg = n := nI_clamp h
def LYH : am_L := [(8, 4, fun _ => 0), (5, 7, fun _ => 0), (2, 3, fun j => if j = 1 then 4 + 1 else (fun j => if j = 0 then 3 + 1 else (fun _ => 0) j) j), (0, 8, fun _ => 0), (0, 256, fun _ => 0)]
def LY : am_L := [(8, 4, fun j => if j = 3 then 17 + 1 else (fun j => if j = 2 then 15 + 1 else (fun j => if j = 1 then 9 + 1 else (fun j => if j = 0 then 1 + 1 else (fun _ => 0) j) j) j) j), (5, 7, fun j => if j = 2 then 8 + 1 else (fun j => if j = 1 then 5 + 1 else (fun j => if j = 0 then 2 + 1 else (fun _ => 0) j) j) j), (2, 3, fun j => if j = 1 then 4 + 1 else (fun j => if j = 0 then 3 + 1 else (fun _ => 0) j) j), (0, 8, fun _ => 0), (0, 256, fun _ => 0), (4, 5, fun j => if j = 3 then 7 + 1 else (fun j => if j = 0 then 6 + 1 else (fun _ => 0) j) j), (0, 100, fun _ => 0), (0, 20, fun _ => 0), (0, 3, fun _ => 0), (7, 6, fun j => if j = 4 then 14 + 1 else (fun j => if j = 3 then 13 + 1 else (fun j => if j = 2 then 12 + 1 else (fun j => if j = 1 then 11 + 1 else (fun j => if j = 0 then 10 + 1 else (fun _ => 0) j) j) j) j) j), (0, 60, fun _ => 0), (0, 10, fun _ => 0), (0, 10, fun _ => 0), (0, 3, fun _ => 0), (0, 3, fun _ => 0), (3, 2, fun j => if j = 0 then 16 + 1 else (fun _ => 0) j), (0, 40, fun _ => 0), (1, 2, fun j => if j = 1 then 20 + 1 else (fun j => if j = 0 then 18 + 1 else (fun _ => 0) j) j), (6, 3, fun j => if j = 0 then 19 + 1 else (fun _ => 0) j), (0, 60, fun _ => 0), (6, 3, fun j => if j = 0 then 21 + 1 else (fun _ => 0) j), (0, 60, fun _ => 0), (9, 22, fun j => if j = 21 then 34 + 1 else (fun j => if j = 19 then 33 + 1 else (fun j => if j = 18 then 32 + 1 else (fun j => if j = 15 then 31 + 1 else (fun j => if j = 14 then 30 + 1 else (fun j => if j = 13 then 29 + 1 else (fun j => if j = 12 then 28 + 1 else (fun j => if j = 10 then 27 + 1 else (fun j => if j = 9 then 26 + 1 else (fun j => if j = 8 then 25 + 1 else (fun j => if j = 3 then 24 + 1 else (fun j => if j = 2 then 23 + 1 else (fun _ => 0) j) j) j) j) j) j) j) j) j) j) j) j), (0, 8, fun _ => 0), (0, 3, fun _ => 0), (0, 20, fun _ => 0), (0, 80, fun _ => 0), (0, 20, fun _ => 0), (0, 2, fun _ => 0), (0, 2, fun _ => 0), (0, 120, fun _ => 0), (0, 60, fun _ => 0), (0, 11, fun _ => 0), (0, 11, fun _ => 0), (0, 40, fun _ => 0)]
theorem am_fin {Q : am_Q} {r r' : Option Value} {L : am_L} {g g' : am_G} (h : Q r' L g') (e : g = g') (er : r = r' := by rfl) : Q r L g := by subst e; subst er; exact h
theorem nIm5 (n : Nat) : nI n * 5 = nI (n * 5) := pk_mul n 5
theorem nIm10 (n : Nat) : nI n * 10 = nI (n * 10) := pk_mul n 10
theorem nIm4 (n : Nat) : (4 : Int32) * nI n = nI (4 * n) := pk_mul 4 n
theorem nIt10 (n : Nat) : (10 : Int32) * nI n = nI (10 * n) := pk_mul 10 n
theorem nIt60 (n : Nat) : (60 : Int32) * nI n = nI (60 * n) := pk_mul 60 n
theorem nIt5 (n : Nat) : (5 : Int32) * nI n = nI (5 * n) := pk_mul 5 n
theorem nIp2 (n : Nat) : nI n + 2 = nI (n + 2) := nI_add n 2
theorem nIp3 (n : Nat) : nI n + 3 = nI (n + 3) := nI_add n 3
theorem nIp4 (n : Nat) : nI n + 4 = nI (n + 4) := nI_add n 4
theorem vpe {x : Int32} {n N : Nat} (e : x = nI n) (h : n < N) (hN : N < 2 ^ 31 := by decide) : vp_in x N := by rw [e]; exact vp_in_nI h hN
theorem cle {x : Int32} {n : Nat} (e : x = nI n) (h : n < 2 ^ 31) : x.toNatClampNeg = n := by rw [e]; exact nI_clamp h
theorem am_up_un {g : am_G} {k i j : Nat} {x : Int32} (h : j ≠ i) : am_up g k i x k j = g k j := by simp [am_up, upd, h]
theorem am_up_us {g : am_G} {k i : Nat} {x : Int32} : am_up g k i x k i = x := by simp [am_up, upd]
theorem am_up_un2 {g : am_G} {k i k2 j : Nat} {x : Int32} (h : k2 ≠ k) : am_up g k i x k2 j = g k2 j := by simp [am_up, h]
theorem fb_holes : ∀ (m n : Nat) (f : Nat → Nat), (∀ i, i < n → f i < m) → (∀ i j, i < j → j < n → f i ≠ f j) → n ≤ m := by
  intro m
  induction m with
  | zero =>
    intro n f h1 _
    rcases Nat.eq_zero_or_pos n with h | h
    · omega
    · exact absurd (h1 0 h) (Nat.not_lt_zero _)
  | succ m ih =>
    intro n f h1 h2
    by_cases hx : ∃ i, i < n ∧ f i = m
    · obtain ⟨a, ha, hfa⟩ := hx
      have hg := ih (n - 1) (fun i => if i < a then f i else f (i + 1)) (by
        intro i hi
        by_cases q : i < a
        · simp only [if_pos q]
          have b1 := h1 i (by omega)
          have b2 := h2 i a q ha
          omega
        · simp only [if_neg q]
          have b1 := h1 (i + 1) (by omega)
          have b2 := h2 a (i + 1) (by omega) (by omega)
          omega) (by
        intro i j hij hj
        by_cases q : i < a
        · by_cases r : j < a
          · simp only [if_pos q, if_pos r]
            exact h2 i j hij (by omega)
          · simp only [if_pos q, if_neg r]
            exact h2 i (j + 1) (by omega) (by omega)
        · have r : ¬ j < a := by omega
          simp only [if_neg q, if_neg r]
          exact h2 (i + 1) (j + 1) (by omega) (by omega))
      omega
    · have hg := ih n f (fun i hi => by
        have b1 := h1 i hi
        have b2 : f i ≠ m := fun e => hx ⟨i, hi, e⟩
        omega) h2
      omega
end
section
section HOU
variable {d : Nat} {L : am_L} {g : am_G} {bc bs : Nat} {sx : am_S} {Q : am_Q}
theorem w_has {s k : Int32} (h : Q (some (.int (am_bi (am_hs s k)))) L g) : am d 78 0 [some (.int s), some (.int k)] [] L g 0 0 none Q := by
  refine am_run_k 7 (And.intro (fun h6 => ?_) (fun h6 => ?_))
  · refine am_run_k 2 (And.intro (Or.inl rfl) ?_)
    have e : am_hs s k = false := decide_eq_false h6
    rw [e] at h
    exact h
  · refine am_run_k 3 (And.intro (Or.inr rfl) ?_)
    have e : am_hs s k = true := decide_eq_true h6
    rw [e] at h
    exact h
theorem am_ir_f1 {n k : Int32} (h : ¬ 0 ≤ n) : am_ir n k = false := by unfold am_ir; rw [decide_eq_false h]; rfl
theorem am_ir_f2 {n k : Int32} (h : ¬ n < k) : am_ir n k = false := by unfold am_ir; rw [decide_eq_false h]; simp
theorem am_ir_t {n k : Int32} (h : 0 ≤ n) (h2 : n < k) : am_ir n k = true := by unfold am_ir; rw [decide_eq_true h, decide_eq_true h2]; rfl
theorem am_ir_of {n k : Int32} (h : am_ir n k = true) : 0 ≤ n ∧ n < k := by simpa [am_ir] using h
theorem fa_nlt {a b : Int32} : ¬ a < b ↔ b ≤ a := by rw [Int32.lt_iff_toInt_lt, Int32.le_iff_toInt_le]; omega
theorem fa_nle {a b : Int32} : ¬ a ≤ b ↔ b < a := by rw [Int32.lt_iff_toInt_lt, Int32.le_iff_toInt_le]; omega
theorem am_ir_nI {n : Int32} {k : Nat} (hk : k < 2 ^ 31) (h : am_ir n (nI k) = true) : ∃ j, j < k ∧ n = nI j := by
  obtain ⟨h1, h2⟩ := am_ir_of h
  have h3 : vp_in n k := vp_in_iff.mpr ⟨by have := Int32.le_iff_toInt_le.mp h1; simpa using this, by have := Int32.lt_iff_toInt_lt.mp h2; rw [nI_toInt hk] at this; exact this⟩
  exact vp_in_of h3 hk
theorem am_ir_in {n k : Nat} (h : n < k) (hk : k < 2 ^ 31) : am_ir (nI n) (nI k) = true := am_ir_t (nI_pos' (by omega)) (nI_lt h hk)
theorem w_isPlace {n : Int32} (h : Q (some (.int (am_bi (am_ir n 8)))) L g) : am d 73 0 [some (.int n)] [] L g 0 0 none Q := by
  refine am_run_k 2 (And.intro (fun h6 => ?_) (fun h6 => ?_))
  · refine am_run_k 2 (And.intro (Or.inl rfl) ?_)
    rw [am_ir_f1 (fa_nle.mpr h6)] at h
    exact h
  · refine am_run_k 3 (And.intro (fun h7 => ?_) (fun h7 => ?_))
    · refine am_run_k 2 (And.intro (Or.inl rfl) ?_)
      rw [am_ir_f2 (fa_nlt.mpr h7)] at h
      exact h
    · refine am_run_k 3 (And.intro (Or.inr rfl) ?_)
      rw [am_ir_t (fa_nlt.mp h6) (fa_nle.mp h7)] at h
      exact h
theorem w_isTick {n : Int32} (h : Q (some (.int (am_bi (am_ir n 10)))) L g) : am d 74 0 [some (.int n)] [] L g 0 0 none Q := by
  refine am_run_k 2 (And.intro (fun h6 => ?_) (fun h6 => ?_))
  · refine am_run_k 2 (And.intro (Or.inl rfl) ?_)
    rw [am_ir_f1 (fa_nle.mpr h6)] at h
    exact h
  · refine am_run_k 3 (And.intro (fun h7 => ?_) (fun h7 => ?_))
    · refine am_run_k 2 (And.intro (Or.inl rfl) ?_)
      rw [am_ir_f2 (fa_nlt.mpr h7)] at h
      exact h
    · refine am_run_k 3 (And.intro (Or.inr rfl) ?_)
      rw [am_ir_t (fa_nlt.mp h6) (fa_nle.mp h7)] at h
      exact h
theorem w_isThing {n : Int32} (h : Q (some (.int (am_bi (am_ir n 3)))) L g) : am d 75 0 [some (.int n)] [] L g 0 0 none Q := by
  refine am_run_k 2 (And.intro (fun h6 => ?_) (fun h6 => ?_))
  · refine am_run_k 2 (And.intro (Or.inl rfl) ?_)
    rw [am_ir_f1 (fa_nle.mpr h6)] at h
    exact h
  · refine am_run_k 3 (And.intro (fun h7 => ?_) (fun h7 => ?_))
    · refine am_run_k 2 (And.intro (Or.inl rfl) ?_)
      rw [am_ir_f2 (fa_nlt.mpr h7)] at h
      exact h
    · refine am_run_k 3 (And.intro (Or.inr rfl) ?_)
      rw [am_ir_t (fa_nlt.mp h6) (fa_nle.mp h7)] at h
      exact h
theorem w_isSheet {n : Int32} (h : Q (some (.int (am_bi (am_ir n 2)))) L g) : am d 76 0 [some (.int n)] [] L g 0 0 none Q := by
  refine am_run_k 2 (And.intro (fun h6 => ?_) (fun h6 => ?_))
  · refine am_run_k 2 (And.intro (Or.inl rfl) ?_)
    rw [am_ir_f1 (fa_nle.mpr h6)] at h
    exact h
  · refine am_run_k 3 (And.intro (fun h7 => ?_) (fun h7 => ?_))
    · refine am_run_k 2 (And.intro (Or.inl rfl) ?_)
      rw [am_ir_f2 (fa_nlt.mpr h7)] at h
      exact h
    · refine am_run_k 3 (And.intro (Or.inr rfl) ?_)
      rw [am_ir_t (fa_nlt.mp h6) (fa_nle.mp h7)] at h
      exact h
theorem w_isLane {n : Int32} (h : Q (some (.int (am_bi (am_ir n 2)))) L g) : am d 77 0 [some (.int n)] [] L g 0 0 none Q := by
  refine am_run_k 2 (And.intro (fun h6 => ?_) (fun h6 => ?_))
  · refine am_run_k 2 (And.intro (Or.inl rfl) ?_)
    rw [am_ir_f1 (fa_nle.mpr h6)] at h
    exact h
  · refine am_run_k 3 (And.intro (fun h7 => ?_) (fun h7 => ?_))
    · refine am_run_k 2 (And.intro (Or.inl rfl) ?_)
      rw [am_ir_f2 (fa_nlt.mpr h7)] at h
      exact h
    · refine am_run_k 3 (And.intro (Or.inr rfl) ?_)
      rw [am_ir_t (fa_nlt.mp h6) (fa_nle.mp h7)] at h
      exact h
theorem w_joined {a b : Int32} (ha : vp_in a 8) (h : Q (some (.int (am_bi (am_hs (g 3 a.toNatClampNeg) b)))) LY g) : am (d + 1) 2 0 [some (.ref 2), some (.int a), some (.int b)] [] LY g 0 0 none Q := by
  refine am_run_k 4 (And.intro (ha) ?_)
  refine am_run_k 2 (am_cl ?_)
  refine w_has ?_
  refine am_run_k 1 (And.intro (bi_01 _) ?_)
  exact h
theorem and255 (x : Int32) : vp_in (x &&& 255) 256 := pk_andIn x 8 (by decide) (by decide)
theorem w_reached {s : Int32} (h : Q (some (.int (g 4 (s &&& 255).toNatClampNeg))) LY g) : am d 4 0 [some (.ref 2), some (.int s)] [] LY g 0 0 none Q := by
  refine am_run_k 6 (And.intro (and255 s) ?_)
  refine am_run_k 1 ?_
  exact h
theorem l_1_7_LYH {g0 : am_G} (K : ∀ (g : am_G) (x : Int32), (∀ k, k ≠ 3 → g k = g0 k) → (∀ p, p < 8 → g 3 p = 0) → am d 1 26 [some (.ref 2), some (.int x)] [] LYH g 0 0 none Q) : ∀ (n i : Nat) (x : Int32) (g : am_G), i + n = 8 → x = nI i → (∀ k, k ≠ 3 → g k = g0 k) → (∀ p, p < i → g 3 p = 0) → am d 1 7 [some (.ref 2), some (.int x)] [] LYH g 0 0 none Q := by
  intro n
  induction n with
  | zero =>
    intro i x g hi hx h1 h2
    have hi : i = 8 := by omega
    subst hi; subst hx
    refine am_run_k 3 (And.intro (fun h6 => ?_) (fun hx => absurd ((show nI 8 ≤ nI 8 from nI_le (Nat.le_refl 8) (by decide))) hx))
    exact K g _ h1 h2
  | succ n ih =>
    intro i x g hi hx h1 h2
    subst hx
    refine am_run_k 3 (And.intro (fun hx => absurd hx ((nI_ge (b := 8) (by omega) (by decide)))) (fun h6 => ?_))
    refine am_run_k 5 (And.intro (vpn (by omega)) ?_)
    refine am_run_k 2 ?_
    refine ih (i + 1) _ _ (by omega) (nI_1 i) (fun k hk => ?_) (fun p hp => ?_)
    · rw [am_up_ne hk]; exact h1 k hk
    · rw [ncl (by omega)]
      by_cases e : p = i
      · rw [e, am_up_us]
      · rw [am_up_un e]; exact h2 p (by omega)
theorem l_1_28_LYH {g0 : am_G} (K : ∀ g : am_G, (∀ k, k ≠ 4 → g k = g0 k) → (∀ p, p < 256 → g 4 p = nI p) → Q none LYH g) : ∀ (n i : Nat) (x : Int32) (g : am_G), i + n = 256 → x = nI i → (∀ k, k ≠ 4 → g k = g0 k) → (∀ p, p < i → g 4 p = nI p) → am d 1 28 [some (.ref 2), some (.int x)] [] LYH g 0 0 none Q := by
  intro n
  induction n with
  | zero =>
    intro i x g hi hx h1 h2
    have hi : i = 256 := by omega
    subst hi; subst hx
    refine am_run_k 3 (And.intro (fun h6 => ?_) (fun hx => absurd ((show nI 256 ≤ nI 256 from nI_le (Nat.le_refl 256) (by decide))) hx))
    refine am_run_k 1 ?_
    exact K g h1 h2
  | succ n ih =>
    intro i x g hi hx h1 h2
    subst hx
    refine am_run_k 3 (And.intro (fun hx => absurd hx ((nI_ge (b := 256) (by omega) (by decide)))) (fun h6 => ?_))
    refine am_run_k 5 (And.intro (vpn (by omega)) ?_)
    refine am_run_k 2 ?_
    refine ih (i + 1) _ _ (by omega) (nI_1 i) (fun k hk => ?_) (fun p hp => ?_)
    · rw [am_up_ne hk]; exact h1 k hk
    · rw [ncl (by omega)]
      by_cases e : p = i
      · rw [e, am_up_us]
      · rw [am_up_un e]; exact h2 p (by omega)
theorem w_clearDoors_LYH (h : ∀ g' : am_G, (∀ k, k ≠ 2 → k ≠ 3 → k ≠ 4 → g' k = g k) → g' 2 2 = 0 → (∀ p, p < 8 → g' 3 p = 0) → (∀ p, p < 256 → g' 4 p = nI p) → Q none LYH g') : am d 1 0 [some (.ref 2), none] [] LYH g 0 0 none Q := by
  refine am_run_k 5 ?_
  refine l_1_7_LYH (g0 := am_up g 2 2 0) (fun g1 x1 e1 z1 => ?_) 8 0 0 _ rfl rfl (fun k _ => rfl) (fun p hp => absurd hp (by omega))
  refine am_run_k 2 ?_
  refine l_1_28_LYH (g0 := g1) (fun g2 e2 z2 => ?_) 256 0 0 _ rfl rfl (fun k _ => rfl) (fun p hp => absurd hp (by omega))
  refine h g2 (fun k h2 h3 h4 => ?_) ?_ (fun p hp => ?_) z2
  · rw [e2 k h4, e1 k h3, am_up_ne h2]
  · rw [e2 2 (by decide), e1 2 (by decide), am_up_us]
  · rw [e2 3 (by decide)]; exact z1 p hp
theorem l_1_7_LY {g0 : am_G} (K : ∀ (g : am_G) (x : Int32), (∀ k, k ≠ 3 → g k = g0 k) → (∀ p, p < 8 → g 3 p = 0) → am d 1 26 [some (.ref 2), some (.int x)] [] LY g 0 0 none Q) : ∀ (n i : Nat) (x : Int32) (g : am_G), i + n = 8 → x = nI i → (∀ k, k ≠ 3 → g k = g0 k) → (∀ p, p < i → g 3 p = 0) → am d 1 7 [some (.ref 2), some (.int x)] [] LY g 0 0 none Q := by
  intro n
  induction n with
  | zero =>
    intro i x g hi hx h1 h2
    have hi : i = 8 := by omega
    subst hi; subst hx
    refine am_run_k 3 (And.intro (fun h6 => ?_) (fun hx => absurd ((show nI 8 ≤ nI 8 from nI_le (Nat.le_refl 8) (by decide))) hx))
    exact K g _ h1 h2
  | succ n ih =>
    intro i x g hi hx h1 h2
    subst hx
    refine am_run_k 3 (And.intro (fun hx => absurd hx ((nI_ge (b := 8) (by omega) (by decide)))) (fun h6 => ?_))
    refine am_run_k 5 (And.intro (vpn (by omega)) ?_)
    refine am_run_k 2 ?_
    refine ih (i + 1) _ _ (by omega) (nI_1 i) (fun k hk => ?_) (fun p hp => ?_)
    · rw [am_up_ne hk]; exact h1 k hk
    · rw [ncl (by omega)]
      by_cases e : p = i
      · rw [e, am_up_us]
      · rw [am_up_un e]; exact h2 p (by omega)
theorem l_1_28_LY {g0 : am_G} (K : ∀ g : am_G, (∀ k, k ≠ 4 → g k = g0 k) → (∀ p, p < 256 → g 4 p = nI p) → Q none LY g) : ∀ (n i : Nat) (x : Int32) (g : am_G), i + n = 256 → x = nI i → (∀ k, k ≠ 4 → g k = g0 k) → (∀ p, p < i → g 4 p = nI p) → am d 1 28 [some (.ref 2), some (.int x)] [] LY g 0 0 none Q := by
  intro n
  induction n with
  | zero =>
    intro i x g hi hx h1 h2
    have hi : i = 256 := by omega
    subst hi; subst hx
    refine am_run_k 3 (And.intro (fun h6 => ?_) (fun hx => absurd ((show nI 256 ≤ nI 256 from nI_le (Nat.le_refl 256) (by decide))) hx))
    refine am_run_k 1 ?_
    exact K g h1 h2
  | succ n ih =>
    intro i x g hi hx h1 h2
    subst hx
    refine am_run_k 3 (And.intro (fun hx => absurd hx ((nI_ge (b := 256) (by omega) (by decide)))) (fun h6 => ?_))
    refine am_run_k 5 (And.intro (vpn (by omega)) ?_)
    refine am_run_k 2 ?_
    refine ih (i + 1) _ _ (by omega) (nI_1 i) (fun k hk => ?_) (fun p hp => ?_)
    · rw [am_up_ne hk]; exact h1 k hk
    · rw [ncl (by omega)]
      by_cases e : p = i
      · rw [e, am_up_us]
      · rw [am_up_un e]; exact h2 p (by omega)
theorem w_clearDoors_LY (h : ∀ g' : am_G, (∀ k, k ≠ 2 → k ≠ 3 → k ≠ 4 → g' k = g k) → g' 2 2 = 0 → (∀ p, p < 8 → g' 3 p = 0) → (∀ p, p < 256 → g' 4 p = nI p) → Q none LY g') : am d 1 0 [some (.ref 2), none] [] LY g 0 0 none Q := by
  refine am_run_k 5 ?_
  refine l_1_7_LY (g0 := am_up g 2 2 0) (fun g1 x1 e1 z1 => ?_) 8 0 0 _ rfl rfl (fun k _ => rfl) (fun p hp => absurd hp (by omega))
  refine am_run_k 2 ?_
  refine l_1_28_LY (g0 := g1) (fun g2 e2 z2 => ?_) 256 0 0 _ rfl rfl (fun k _ => rfl) (fun p hp => absurd hp (by omega))
  refine h g2 (fun k h2 h3 h4 => ?_) ?_ (fun p hp => ?_) z2
  · rw [e2 k h4, e1 k h3, am_up_ne h2]
  · rw [e2 2 (by decide), e1 2 (by decide), am_up_us]
  · rw [e2 3 (by decide)]; exact z1 p hp
end HOU
end
section
section HOV
variable {d : Nat} {L : am_L} {g : am_G} {bc bs : Nat} {sx : am_S} {Q : am_Q}
/-- one bit -/
def am_sh (k : Int32) : Int32 := (1 : Int32) <<< (k &&& 31)
def nrF (f : Nat → Int32) (i j : Nat) : Nat → Int32 := upd (upd f i (f i ||| am_sh (nI j))) j (upd f i (f i ||| am_sh (nI j)) j ||| am_sh (nI i))
def stF (i j s : Nat) (v : Int32) : Int32 := bif am_hs (nI s) (nI j) then (bif am_hs (nI s) (nI i) then v ||| am_sh (nI j) else v) ||| am_sh (nI i) else (bif am_hs (nI s) (nI i) then v ||| am_sh (nI j) else v)
theorem l_3_36 {i j : Nat} {g0 : am_G} (hi : i < 8) (hj : j < 8) (K : ∀ g : am_G, (∀ k, k ≠ 4 → g k = g0 k) → (∀ s, s < 256 → g 4 s = stF i j s (g0 4 s)) → Q none LY g) : ∀ (n s : Nat) (x : Int32) (g : am_G), s + n = 256 → x = nI s → (∀ k, k ≠ 4 → g k = g0 k) → (∀ p, p < s → g 4 p = stF i j p (g0 4 p)) → (∀ p, s ≤ p → g 4 p = g0 4 p) → am (d + 1) 3 36 [some (.ref 2), some (.int (nI i)), some (.int (nI j)), some (.int x)] [] LY g 0 0 none Q := by
  intro n
  induction n with
  | zero =>
    intro s x g hs hx h1 h2 h3
    have hs : s = 256 := by omega
    subst hs; subst hx
    refine am_run_k 3 (And.intro (fun h6 => ?_) (fun hx => absurd ((show nI 256 ≤ nI 256 from nI_le (Nat.le_refl 256) (by decide))) hx))
    refine am_run_k 1 ?_
    exact K g h1 h2
  | succ n ih =>
    intro s x g hs hx h1 h2 h3
    subst hx
    refine am_run_k 3 (And.intro (fun hx => absurd hx ((nI_ge (b := 256) (by omega) (by decide)))) (fun h6 => ?_))
    refine am_run_k 3 (am_cl ?_)
    refine w_has ?_
    have fin : ∀ v : Int32, v = stF i j s (g0 4 s) → ∀ g' : am_G, (∀ k, k ≠ 4 → g' k = g k) → g' 4 s = v → (∀ p, p ≠ s → g' 4 p = g 4 p) → am (d + 1) 3 36 [some (.ref 2), some (.int (nI i)), some (.int (nI j)), some (.int (nI s + 1))] [] LY g' 0 0 none Q := by
      intro v hv g' e1 e2 e3
      refine ih (s + 1) _ _ (by omega) (nI_1 s) (fun k hk => ?_) (fun p hp => ?_) (fun p hp => ?_)
      · rw [e1 k hk]; exact h1 k hk
      · by_cases e : p = s
        · rw [e, e2, hv]
        · rw [e3 p e]; exact h2 p (by omega)
      · rw [e3 p (by omega)]; exact h3 p (by omega)
    have hb := h3 s (Nat.le_refl s)
    refine am_run_k 1 (And.intro (fun h48 => ?_) (fun h48 => ?_))
    · have f1 := bi_f h48
      refine am_run_k 3 (am_cl ?_)
      refine w_has ?_
      refine am_run_k 1 (And.intro (fun h68 => ?_) (fun h68 => ?_))
      · have f2 := bi_f h68
        refine am_run_k 2 ?_
        exact fin (g 4 s) (by rw [hb]; unfold stF; rw [f1, f2]; rfl) g (fun k _ => rfl) rfl (fun p _ => rfl)
      · have f2 := bi_t h68
        refine am_run_k 5 (And.intro (vpn (by omega)) ?_)
        refine am_run_k 5 (And.intro (vpn (by omega)) ?_)
        refine am_run_k 2 ?_
        refine fin (g 4 s ||| am_sh (nI i)) (by rw [hb]; unfold stF; rw [f1, f2]; rfl) _ (fun k hk => am_up_ne hk) ?_ (fun p hp => ?_)
        · rw [ncl (by omega), am_up_us]; rfl
        · rw [ncl (by omega), am_up_un hp]
    · have f1 := bi_t h48
      refine am_run_k 5 (And.intro (vpn (by omega)) ?_)
      refine am_run_k 5 (And.intro (vpn (by omega)) ?_)
      refine am_run_k 3 (am_cl ?_)
      refine w_has ?_
      refine am_run_k 1 (And.intro (fun h68 => ?_) (fun h68 => ?_))
      · have f2 := bi_f h68
        refine am_run_k 2 ?_
        refine fin (g 4 s ||| am_sh (nI j)) (by rw [hb]; unfold stF; rw [f1, f2]; rfl) _ (fun k hk => am_up_ne hk) ?_ (fun p hp => ?_)
        · rw [ncl (by omega), am_up_us]; rfl
        · rw [ncl (by omega), am_up_un hp]
      · have f2 := bi_t h68
        refine am_run_k 5 (And.intro (vpn (by omega)) ?_)
        refine am_run_k 5 (And.intro (vpn (by omega)) ?_)
        refine am_run_k 2 ?_
        refine fin ((g 4 s ||| am_sh (nI j)) ||| am_sh (nI i)) (by rw [hb]; unfold stF; rw [f1, f2]; rfl) _ (fun k hk => by rw [am_up_ne hk, am_up_ne hk]) ?_ (fun p hp => ?_)
        · rw [ncl (by omega), am_up_us, am_up_us]; rfl
        · rw [ncl (by omega), am_up_un hp, am_up_un hp]
theorem w_join {i j : Nat} (hi : i < 8) (hj : j < 8) (h : ∀ g' : am_G, (∀ k, k ≠ 2 → k ≠ 3 → k ≠ 4 → g' k = g k) → (∀ k, k ≠ 2 → g' 2 k = g 2 k) → g' 2 2 = g 2 2 + 1 → g' 3 = nrF (g 3) i j → (∀ s, s < 256 → g' 4 s = stF i j s (g 4 s)) → Q none LY g') : am (d + 1) 3 0 [some (.ref 2), some (.int (nI i)), some (.int (nI j)), none] [] LY g 0 0 none Q := by
  refine am_run_k 11 (And.intro (vpn hi) ?_)
  refine am_run_k 5 (And.intro (vpn hi) ?_)
  refine am_run_k 5 (And.intro (vpn hj) ?_)
  refine am_run_k 5 (And.intro (vpn hj) ?_)
  refine am_run_k 2 ?_
  refine l_3_36 (g0 := am_up (am_up (am_up g 2 2 (g 2 2 + 1)) 3 i (g 3 i ||| am_sh (nI j))) 3 j (upd (g 3) i (g 3 i ||| am_sh (nI j)) j ||| am_sh (nI i))) hi hj (fun g' e1 e2 => ?_) 256 0 0 _ rfl rfl (fun k hk => ?_) (fun p hp => absurd hp (by omega)) (fun p hp => ?_)
  · refine h g' (fun k h2 h3 h4 => ?_) (fun k hk => ?_) ?_ ?_ (fun s hs => ?_)
    · rw [e1 k h4, am_up_ne h3, am_up_ne h3, am_up_ne h2]
    · rw [e1 2 (by decide), am_up_ne (by decide), am_up_ne (by decide), am_up_un hk]
    · rw [e1 2 (by decide), am_up_ne (by decide), am_up_ne (by decide), am_up_us]
    · rw [e1 3 (by decide)]
      rw [am_up_at, am_up_at, am_up_ne (by decide)]
      rfl
    · rw [e2 s hs, am_up_ne (by decide), am_up_ne (by decide), am_up_ne (by decide)]
  · by_cases e : k = 3
    · subst e
      simp only [am_up_at, ncl (show i < 2 ^ 31 by omega), ncl (show j < 2 ^ 31 by omega)]
      rfl
    · rw [am_up_ne e, am_up_ne e, am_up_ne e, am_up_ne e]
  · simp [am_up]
def dbF (g : am_G) (to : Int32) : Nat → Nat → Int32 → Int32
  | 0, _, _ => 8
  | n + 1, far, set => bif am_hs set to then nI far else dbF g to n (far + 1) (g 4 (set &&& 255).toNatClampNeg)
def dbw (g : am_G) (a b : Int32) : Int32 := dbF g b 8 0 (am_sh a)
theorem l_5_7 {a b : Int32} : ∀ (n far : Nat) (x set : Int32), far + n = 8 → x = nI far → Q (some (.int (dbF g b n far set))) LY g → am (d + 1) 5 7 [some (.ref 2), some (.int a), some (.int b), some (.int set), some (.int x)] [] LY g 0 0 none Q := by
  intro n
  induction n with
  | zero =>
    intro far x set hs hx h
    have hs : far = 8 := by omega
    subst hs; subst hx
    refine am_run_k 3 (And.intro (fun h6 => ?_) (fun hx => absurd ((show nI 8 ≤ nI 8 from nI_le (Nat.le_refl 8) (by decide))) hx))
    refine am_run_k 2 ?_
    exact h
  | succ n ih =>
    intro far x set hs hx h
    subst hx
    refine am_run_k 3 (And.intro (fun hx => absurd hx ((nI_ge (b := 8) (by omega) (by decide)))) (fun h6 => ?_))
    refine am_run_k 3 (am_cl ?_)
    refine w_has ?_
    refine am_run_k 1 (And.intro (fun h19 => ?_) (fun h19 => ?_))
    · have f1 := bi_f h19
      refine am_run_k 3 (am_cl ?_)
      refine w_reached ?_
      refine am_run_k 3 ?_
      refine ih (far + 1) _ _ (by omega) (nI_1 far) ?_
      rw [dbF, f1] at h
      exact h
    · have f1 := bi_t h19
      refine am_run_k 2 ?_
      rw [dbF, f1] at h
      exact h
theorem w_doorsBetween {a b : Int32} (h : Q (some (.int (dbw g a b))) LY g) : am (d + 1) 5 0 [some (.ref 2), some (.int a), some (.int b), none, none] [] LY g 0 0 none Q := by
  refine am_run_k 6 ?_
  exact l_5_7 8 0 0 _ rfl rfl h
def spF (g : am_G) (a b far : Int32) : Nat → Nat → Int32
  | 0, _ => a
  | n + 1, p => bif am_hs (g 3 a.toNatClampNeg) (nI p) && decide (dbw g (nI p) b < far) then nI p else spF g a b far n (p + 1)
def spw (g : am_G) (a b : Int32) : Int32 := spF g a b (dbw g a b) 8 0
theorem l_6_10 {a b far : Int32} (ha : vp_in a 8) : ∀ (n p : Nat) (x : Int32), p + n = 8 → x = nI p → Q (some (.int (spF g a b far n p))) LY g → am (d + 2) 6 10 [some (.ref 2), some (.int a), some (.int b), some (.int far), some (.int x)] [] LY g 0 0 none Q := by
  intro n
  induction n with
  | zero =>
    intro p x hs hx h
    have hs : p = 8 := by omega
    subst hs; subst hx
    refine am_run_k 3 (And.intro (fun h6 => ?_) (fun hx => absurd ((show nI 8 ≤ nI 8 from nI_le (Nat.le_refl 8) (by decide))) hx))
    refine am_run_k 2 ?_
    exact h
  | succ n ih =>
    intro p x hs hx h
    subst hx
    refine am_run_k 3 (And.intro (fun hx => absurd hx ((nI_ge (b := 8) (by omega) (by decide)))) (fun h6 => ?_))
    refine am_run_k 4 (am_cl ?_)
    refine w_joined ha ?_
    refine am_run_k 1 (And.intro (fun h24 => ?_) (fun h24 => ?_))
    · have f1 := bi_f h24
      refine am_run_k 2 ?_
      refine ih (p + 1) _ (by omega) (nI_1 p) ?_
      rw [spF, f1] at h
      exact h
    · have f1 := bi_t h24
      refine am_run_k 4 (am_cl ?_)
      refine w_doorsBetween ?_
      refine am_run_k 2 (And.intro (fun h35 => ?_) (fun h35 => ?_))
      · refine am_run_k 2 ?_
        refine ih (p + 1) _ (by omega) (nI_1 p) ?_
        rw [spF, f1, decide_eq_false (fa_nlt.mpr h35)] at h
        exact h
      · refine am_run_k 2 ?_
        rw [spF, f1, decide_eq_true (fa_nle.mp h35)] at h
        exact h
theorem w_stepTowards {a b : Int32} (ha : vp_in a 8) (h : Q (some (.int (spw g a b))) LY g) : am (d + 2) 6 0 [some (.ref 2), some (.int a), some (.int b), none, none] [] LY g 0 0 none Q := by
  refine am_run_k 4 (am_cl ?_)
  refine w_doorsBetween ?_
  refine am_run_k 3 ?_
  exact l_6_10 ha 8 0 0 rfl rfl h
def nbF (g : am_G) (a : Int32) : Nat → Nat → Int32 → Int32
  | 0, _, _ => a
  | n + 1, o, left => bif am_hs (g 3 a.toNatClampNeg) (nI o) then (bif decide (left = 0) then nI o else nbF g a n (o + 1) (left + (-1))) else nbF g a n (o + 1) left
theorem l_7_5 {a b : Int32} (ha : vp_in a 8) : ∀ (n p : Nat) (x left : Int32), p + n = 8 → x = nI p → Q (some (.int (nbF g a n p left))) LY g → am (d + 2) 7 5 [some (.ref 2), some (.int a), some (.int b), some (.int left), some (.int x)] [] LY g 0 0 none Q := by
  intro n
  induction n with
  | zero =>
    intro p x left hs hx h
    have hs : p = 8 := by omega
    subst hs; subst hx
    refine am_run_k 3 (And.intro (fun h6 => ?_) (fun hx => absurd ((show nI 8 ≤ nI 8 from nI_le (Nat.le_refl 8) (by decide))) hx))
    refine am_run_k 2 ?_
    exact h
  | succ n ih =>
    intro p x left hs hx h
    subst hx
    refine am_run_k 3 (And.intro (fun hx => absurd hx ((nI_ge (b := 8) (by omega) (by decide)))) (fun h6 => ?_))
    refine am_run_k 4 (am_cl ?_)
    refine w_joined ha ?_
    refine am_run_k 1 (And.intro (fun h24 => ?_) (fun h24 => ?_))
    · have f1 := bi_f h24
      refine am_run_k 2 ?_
      refine ih (p + 1) _ _ (by omega) (nI_1 p) ?_
      rw [nbF, f1] at h
      exact h
    · have f1 := bi_t h24
      refine am_run_k 2 (And.intro (fun h35 => ?_) (fun h35 => ?_))
      · refine am_run_k 3 ?_
        refine ih (p + 1) _ _ (by omega) (nI_1 p) ?_
        rw [nbF, f1, decide_eq_false h35] at h
        exact h
      · refine am_run_k 2 ?_
        rw [nbF, f1, decide_eq_true h35] at h
        exact h
theorem w_neighbour {a b : Int32} (ha : vp_in a 8) (h : Q (some (.int (nbF g a 8 0 b))) LY g) : am (d + 2) 7 0 [some (.ref 2), some (.int a), some (.int b), none, none] [] LY g 0 0 none Q := by
  refine am_run_k 4 ?_
  exact l_7_5 ha 8 0 0 _ rfl rfl h
end HOV
end
section
section NOT
variable {d : Nat} {L : am_L} {g : am_G} {bc bs : Nat} {sx : am_S} {Q : am_Q}
theorem w_holds {f : Int32} (h : Q (some (.int (am_bi (am_ir f (g 5 1))))) LY g) : am d 20 0 [some (.ref 5), some (.int f)] [] LY g 0 0 none Q := by
  refine am_run_k 2 (And.intro (fun h6 => ?_) (fun h6 => ?_))
  · refine am_run_k 2 (And.intro (Or.inl rfl) ?_)
    rw [am_ir_f1 (fa_nle.mpr h6)] at h
    exact h
  · refine am_run_k 4 (And.intro (fun h7 => ?_) (fun h7 => ?_))
    · refine am_run_k 2 (And.intro (Or.inl rfl) ?_)
      rw [am_ir_f2 (fa_nlt.mpr h7)] at h
      exact h
    · refine am_run_k 3 (And.intro (Or.inr rfl) ?_)
      rw [am_ir_t (fa_nlt.mp h6) (fa_nle.mp h7)] at h
      exact h
theorem w_isPerson {f : Int32} (h : Q (some (.int (am_bi (am_ir f (g 1 3))))) LY g) : am d 32 0 [some (.ref 1), some (.int f)] [] LY g 0 0 none Q := by
  refine am_run_k 2 (And.intro (fun h6 => ?_) (fun h6 => ?_))
  · refine am_run_k 2 (And.intro (Or.inl rfl) ?_)
    rw [am_ir_f1 (fa_nle.mpr h6)] at h
    exact h
  · refine am_run_k 4 (And.intro (fun h7 => ?_) (fun h7 => ?_))
    · refine am_run_k 2 (And.intro (Or.inl rfl) ?_)
      rw [am_ir_f2 (fa_nlt.mpr h7)] at h
      exact h
    · refine am_run_k 3 (And.intro (Or.inr rfl) ?_)
      rw [am_ir_t (fa_nlt.mp h6) (fa_nle.mp h7)] at h
      exact h
theorem nI51 (k : Nat) : nI k * 5 + 1 = nI (k * 5 + 1) := by rw [nIm5]; exact nI_1 _
theorem nI52 (k : Nat) : nI k * 5 + 2 = nI (k * 5 + 2) := by rw [nIm5]; exact nIp2 _
theorem nI53 (k : Nat) : nI k * 5 + 3 = nI (k * 5 + 3) := by rw [nIm5]; exact nIp3 _
theorem nI54 (k : Nat) : nI k * 5 + 4 = nI (k * 5 + 4) := by rw [nIm5]; exact nIp4 _
theorem w_kind {k : Nat} (hk : k < 20) (h : Q (some (.int (g 6 (k * 5)))) LY g) : am d 21 0 [some (.ref 5), some (.int (nI k))] [] LY g 0 0 none Q := by
  refine am_run_k 6 (And.intro (vpe (nIm5 k) (by omega)) ?_)
  refine am_run_k 1 ?_
  rw [cle (nIm5 k) (by omega)]
  exact h
theorem w_who {k : Nat} (hk : k < 20) (h : Q (some (.int (g 6 (k * 5 + 1)))) LY g) : am d 22 0 [some (.ref 5), some (.int (nI k))] [] LY g 0 0 none Q := by
  refine am_run_k 8 (And.intro (vpe (nI51 k) (by omega)) ?_)
  refine am_run_k 1 ?_
  rw [cle (nI51 k) (by omega)]
  exact h
theorem w_other {k : Nat} (hk : k < 20) (h : Q (some (.int (g 6 (k * 5 + 2)))) LY g) : am d 23 0 [some (.ref 5), some (.int (nI k))] [] LY g 0 0 none Q := by
  refine am_run_k 8 (And.intro (vpe (nI52 k) (by omega)) ?_)
  refine am_run_k 1 ?_
  rw [cle (nI52 k) (by omega)]
  exact h
/-- how many numbers a kind has -/
def am_nm (kd : Int32) : Int32 := if kd = 2 then 2 else if kd = 3 then 2 else if kd = 4 then 1 else if kd = 7 then 4 else 3
theorem w_numbers {kd : Int32} (h : Q (some (.int (am_nm kd))) L g) : am d 24 0 [some (.int kd)] [] L g 0 0 none Q := by
  unfold am_nm at h
  refine am_run_k 2 (And.intro (fun h1 => ?_) (fun h1 => And.intro (fun h2 => ?_) (fun h2 => And.intro (fun h3 => ?_) (fun h3 => And.intro (fun h4 => ?_) (fun h4 => And.intro (fun h5 => ?_) (fun h5 => And.intro (fun h6 => ?_) (fun h6 => ?_)))))))
  · rw [if_pos h1] at h
    refine am_run_k 2 ?_
    exact h
  · rw [if_neg h1, if_pos h2] at h
    refine am_run_k 2 ?_
    exact h
  · rw [if_neg h1, if_neg h2, if_pos h3] at h
    refine am_run_k 2 ?_
    exact h
  · rw [if_neg h1, if_neg h2, if_neg h3, if_neg (by rw [h4]; decide)] at h
    refine am_run_k 2 ?_
    exact h
  · rw [if_neg h1, if_neg h2, if_neg h3, if_neg (by rw [h5]; decide)] at h
    refine am_run_k 2 ?_
    exact h
  · rw [if_neg h1, if_neg h2, if_neg h3, if_pos h6] at h
    refine am_run_k 2 ?_
    exact h
  · rw [if_neg h1, if_neg h2, if_neg h3, if_neg h6] at h
    refine am_run_k 2 ?_
    exact h
/-- a find's row -/
def am_kb (kd b : Int32) : Int32 := if am_nm kd ≤ 1 then 0 else b
def am_kc (kd c : Int32) : Int32 := if am_nm kd ≤ 2 then 0 else c
def am_kx (kd x : Int32) : Int32 := if am_nm kd ≤ 3 then 0 else x
def am_add (g : am_G) (n : Nat) (kd a b c x : Int32) : am_G := am_up (am_up (am_up (am_up (am_up (am_up g 6 (n * 5) kd) 6 (n * 5 + 1) a) 6 (n * 5 + 2) (am_kb kd b)) 6 (n * 5 + 3) (am_kc kd c)) 6 (n * 5 + 4) (am_kx kd x)) 5 1 (nI (n + 1))
theorem w_add {n : Nat} {kd a b c x : Int32} (hn : n < 20) (hc : g 5 1 = nI n) (h : Q none LY (am_add g n kd a b c x)) : am (d + 1) 25 0 [some (.ref 5), some (.int kd), some (.int a), some (.int b), some (.int c), some (.int x), none, none] [] LY g 0 0 none Q := by
  have i0 : g 5 1 * 5 = nI (n * 5) := by rw [hc]; exact nIm5 n
  have i1 : g 5 1 * 5 + 1 = nI (n * 5 + 1) := by rw [hc]; exact nI51 n
  have i2 : g 5 1 * 5 + 2 = nI (n * 5 + 2) := by rw [hc]; exact nI52 n
  have i3 : g 5 1 * 5 + 3 = nI (n * 5 + 3) := by rw [hc]; exact nI53 n
  have i4 : g 5 1 * 5 + 4 = nI (n * 5 + 4) := by rw [hc]; exact nI54 n
  refine am_run_k 7 (am_cl ?_)
  refine w_numbers ?_
  refine am_run_k 6 (And.intro (vpe i0 (by omega)) ?_)
  refine am_run_k 7 (And.intro (vpe i1 (by omega)) ?_)
  have st5 : ∀ (vb vc vx : Int32), vb = am_kb kd b → vc = am_kc kd c → vx = am_kx kd x → am (d + 1) 25 94 [some (.ref 5), some (.int kd), some (.int a), some (.int b), some (.int c), some (.int x), some (.int (g 5 1 * 5)), some (.int (am_nm kd))] [] LY (am_up (am_up (am_up (am_up (am_up g 6 (g 5 1 * 5).toNatClampNeg kd) 6 (g 5 1 * 5 + 1).toNatClampNeg a) 6 (g 5 1 * 5 + 2).toNatClampNeg vb) 6 (g 5 1 * 5 + 3).toNatClampNeg vc) 6 (g 5 1 * 5 + 4).toNatClampNeg vx) 0 0 none Q := by
    intro vb vc vx e1 e2 e3
    refine am_run_k 7 ?_
    refine am_fin h ?_
    rw [cle i0 (by omega), cle i1 (by omega), cle i2 (by omega), cle i3 (by omega), cle i4 (by omega), e1, e2, e3]
    unfold am_add
    congr 1
    rw [← nI_1, ← hc]
    rfl
  have st4 : ∀ (vb vc : Int32), vb = am_kb kd b → vc = am_kc kd c → am (d + 1) 25 73 [some (.ref 5), some (.int kd), some (.int a), some (.int b), some (.int c), some (.int x), some (.int (g 5 1 * 5)), some (.int (am_nm kd))] [] LY (am_up (am_up (am_up (am_up g 6 (g 5 1 * 5).toNatClampNeg kd) 6 (g 5 1 * 5 + 1).toNatClampNeg a) 6 (g 5 1 * 5 + 2).toNatClampNeg vb) 6 (g 5 1 * 5 + 3).toNatClampNeg vc) 0 0 none Q := by
    intro vb vc e1 e2
    refine am_run_k 8 (And.intro (fun h1 => ?_) (fun h1 => ?_))
    · refine am_run_k 2 (And.intro (vpe i4 (by omega)) ?_)
      exact st5 _ _ _ e1 e2 (by unfold am_kx; rw [if_pos h1])
    · refine am_run_k 3 (And.intro (vpe i4 (by omega)) ?_)
      exact st5 _ _ _ e1 e2 (by unfold am_kx; rw [if_neg h1])
  have st3 : ∀ (vb : Int32), vb = am_kb kd b → am (d + 1) 25 52 [some (.ref 5), some (.int kd), some (.int a), some (.int b), some (.int c), some (.int x), some (.int (g 5 1 * 5)), some (.int (am_nm kd))] [] LY (am_up (am_up (am_up g 6 (g 5 1 * 5).toNatClampNeg kd) 6 (g 5 1 * 5 + 1).toNatClampNeg a) 6 (g 5 1 * 5 + 2).toNatClampNeg vb) 0 0 none Q := by
    intro vb e1
    refine am_run_k 8 (And.intro (fun h1 => ?_) (fun h1 => ?_))
    · refine am_run_k 2 (And.intro (vpe i3 (by omega)) ?_)
      exact st4 _ _ e1 (by unfold am_kc; rw [if_pos h1])
    · refine am_run_k 3 (And.intro (vpe i3 (by omega)) ?_)
      exact st4 _ _ e1 (by unfold am_kc; rw [if_neg h1])
  refine am_run_k 8 (And.intro (fun h1 => ?_) (fun h1 => ?_))
  · refine am_run_k 2 (And.intro (vpe i2 (by omega)) ?_)
    exact st3 _ (by unfold am_kb; rw [if_pos h1])
  · refine am_run_k 3 (And.intro (vpe i2 (by omega)) ?_)
    exact st3 _ (by unfold am_kb; rw [if_neg h1])
def am_fgt (g : am_G) : am_G := am_up (am_up (am_up g 5 1 0) 5 2 0) 5 4 0
theorem w_forget (h : Q none LY (am_fgt g)) : am d 26 0 [some (.ref 5)] [] LY g 0 0 none Q := by
  refine am_run_k 10 ?_
  exact h
theorem w_isFound {f : Int32} (h : Q (some (.int (am_bi (am_hs (g 5 2) f)))) LY g) : am (d + 1) 28 0 [some (.ref 5), some (.int f)] [] LY g 0 0 none Q := by
  refine am_run_k 4 (am_cl ?_)
  refine w_has ?_
  refine am_run_k 1 (And.intro (bi_01 _) ?_)
  exact h
theorem w_everyone (h : Q (some (.int (am_sh (g 1 3) - 1))) LY g) : am d 33 0 [some (.ref 1)] [] LY g 0 0 none Q := by
  refine am_run_k 7 ?_
  exact h
theorem w_takenAs0 {ln : Int32} (h : Q (some (.int (if g 18 1 = -1 then -11 else if g 18 1 = ln then 0 else -12))) LY g) : am d 36 0 [some (.ref 18), some (.int ln)] [] LY g 0 0 none Q := by
  refine am_run_k 4 (And.intro (fun h1 => ?_) (fun h1 => ?_))
  · refine am_run_k 4 (And.intro (fun h2 => ?_) (fun h2 => ?_))
    · refine am_run_k 2 ?_
      rw [if_neg h1, if_neg h2] at h
      exact h
    · refine am_run_k 3 ?_
      rw [if_neg h1, if_pos h2] at h
      exact h
  · refine am_run_k 2 ?_
    rw [if_pos h1] at h
    exact h
theorem w_takenAs1 {ln : Int32} (h : Q (some (.int (if g 20 1 = -1 then -11 else if g 20 1 = ln then 0 else -12))) LY g) : am d 36 0 [some (.ref 20), some (.int ln)] [] LY g 0 0 none Q := by
  refine am_run_k 4 (And.intro (fun h1 => ?_) (fun h1 => ?_))
  · refine am_run_k 4 (And.intro (fun h2 => ?_) (fun h2 => ?_))
    · refine am_run_k 2 ?_
      rw [if_neg h1, if_neg h2] at h
      exact h
    · refine am_run_k 3 ?_
      rw [if_neg h1, if_pos h2] at h
      exact h
  · refine am_run_k 2 ?_
    rw [if_pos h1] at h
    exact h
theorem l_37_12_0 {g0 : am_G} {ln : Int32} {m : Nat} (hm : m ≤ 60) (K : ∀ g : am_G, (∀ k, k ≠ 19 → g k = g0 k) → (∀ p, p < m → g 19 p = 0) → (∀ p, m ≤ p → g 19 p = g0 19 p) → Q none LY g) : ∀ (n i : Nat) (x : Int32) (g : am_G), i + n = m → x = nI i → (∀ k, k ≠ 19 → g k = g0 k) → (∀ p, p < i → g 19 p = 0) → (∀ p, i ≤ p → g 19 p = g0 19 p) → am d 37 12 [some (.ref 18), some (.int ln), some (.int (nI m)), some (.int x)] [] LY g 0 0 none Q := by
  intro n
  induction n with
  | zero =>
    intro i x g hi hx h1 h2 h3
    have hi : i = m := by omega
    subst hi; subst hx
    refine am_run_k 3 (And.intro (fun h6 => ?_) (fun hx => absurd ((nI_le (Nat.le_refl i) (by omega))) hx))
    refine am_run_k 1 ?_
    exact K g h1 h2 h3
  | succ n ih =>
    intro i x g hi hx h1 h2 h3
    subst hx
    refine am_run_k 3 (And.intro (fun hx => absurd hx ((nI_ge (by omega) (by omega)))) (fun h6 => ?_))
    refine am_run_k 5 (And.intro (vpn (by omega)) ?_)
    refine am_run_k 2 ?_
    refine ih (i + 1) _ _ (by omega) (nI_1 i) (fun k hk => ?_) (fun p hp => ?_) (fun p hp => ?_)
    · rw [am_up_ne hk]; exact h1 k hk
    · rw [ncl (by omega)]
      by_cases e : p = i
      · rw [e, am_up_us]
      · rw [am_up_un e]; exact h2 p (by omega)
    · rw [ncl (by omega), am_up_un (by omega)]; exact h3 p (by omega)
theorem w_renew0 {ln : Int32} {m : Nat} (hm : m ≤ 60) (h : ∀ g' : am_G, (∀ k, k ≠ 18 → k ≠ 19 → g' k = g k) → g' 18 1 = ln → g' 18 2 = nI m → (∀ p, p < m → g' 19 p = 0) → (∀ p, m ≤ p → g' 19 p = g 19 p) → Q none LY g') : am d 37 0 [some (.ref 18), some (.int ln), some (.int (nI m)), none] [] LY g 0 0 none Q := by
  refine am_run_k 8 ?_
  refine l_37_12_0 (g0 := am_up (am_up g 18 1 ln) 18 2 (nI m)) hm (fun g1 e1 z1 z2 => ?_) m 0 0 _ (Nat.zero_add m) rfl (fun k _ => rfl) (fun p hp => absurd hp (by omega)) (fun p _ => rfl)
  refine h g1 (fun k h2 h3 => ?_) ?_ ?_ z1 (fun p hp => ?_)
  · rw [e1 k h3, am_up_ne h2, am_up_ne h2]
  · rw [e1 18 (by decide), am_up_un (by decide), am_up_us]
  · rw [e1 18 (by decide), am_up_us]
  · rw [z2 p hp, am_up_ne (by decide), am_up_ne (by decide)]
theorem l_37_12_1 {g0 : am_G} {ln : Int32} {m : Nat} (hm : m ≤ 60) (K : ∀ g : am_G, (∀ k, k ≠ 21 → g k = g0 k) → (∀ p, p < m → g 21 p = 0) → (∀ p, m ≤ p → g 21 p = g0 21 p) → Q none LY g) : ∀ (n i : Nat) (x : Int32) (g : am_G), i + n = m → x = nI i → (∀ k, k ≠ 21 → g k = g0 k) → (∀ p, p < i → g 21 p = 0) → (∀ p, i ≤ p → g 21 p = g0 21 p) → am d 37 12 [some (.ref 20), some (.int ln), some (.int (nI m)), some (.int x)] [] LY g 0 0 none Q := by
  intro n
  induction n with
  | zero =>
    intro i x g hi hx h1 h2 h3
    have hi : i = m := by omega
    subst hi; subst hx
    refine am_run_k 3 (And.intro (fun h6 => ?_) (fun hx => absurd ((nI_le (Nat.le_refl i) (by omega))) hx))
    refine am_run_k 1 ?_
    exact K g h1 h2 h3
  | succ n ih =>
    intro i x g hi hx h1 h2 h3
    subst hx
    refine am_run_k 3 (And.intro (fun hx => absurd hx ((nI_ge (by omega) (by omega)))) (fun h6 => ?_))
    refine am_run_k 5 (And.intro (vpn (by omega)) ?_)
    refine am_run_k 2 ?_
    refine ih (i + 1) _ _ (by omega) (nI_1 i) (fun k hk => ?_) (fun p hp => ?_) (fun p hp => ?_)
    · rw [am_up_ne hk]; exact h1 k hk
    · rw [ncl (by omega)]
      by_cases e : p = i
      · rw [e, am_up_us]
      · rw [am_up_un e]; exact h2 p (by omega)
    · rw [ncl (by omega), am_up_un (by omega)]; exact h3 p (by omega)
theorem w_renew1 {ln : Int32} {m : Nat} (hm : m ≤ 60) (h : ∀ g' : am_G, (∀ k, k ≠ 20 → k ≠ 21 → g' k = g k) → g' 20 1 = ln → g' 20 2 = nI m → (∀ p, p < m → g' 21 p = 0) → (∀ p, m ≤ p → g' 21 p = g 21 p) → Q none LY g') : am d 37 0 [some (.ref 20), some (.int ln), some (.int (nI m)), none] [] LY g 0 0 none Q := by
  refine am_run_k 8 ?_
  refine l_37_12_1 (g0 := am_up (am_up g 20 1 ln) 20 2 (nI m)) hm (fun g1 e1 z1 z2 => ?_) m 0 0 _ (Nat.zero_add m) rfl (fun k _ => rfl) (fun p hp => absurd hp (by omega)) (fun p _ => rfl)
  refine h g1 (fun k h2 h3 => ?_) ?_ ?_ z1 (fun p hp => ?_)
  · rw [e1 k h3, am_up_ne h2, am_up_ne h2]
  · rw [e1 20 (by decide), am_up_un (by decide), am_up_us]
  · rw [e1 20 (by decide), am_up_us]
  · rw [z2 p hp, am_up_ne (by decide), am_up_ne (by decide)]
end NOT
end
section
section WAY
variable {d : Nat} {L : am_L} {g : am_G} {bc bs : Nat} {sx : am_S} {Q : am_Q}
def fd2 (a b : Int32) : Bool := am_ir a 3 && am_ir b 10
def fd7 (n a b c x : Int32) : Bool := am_ir a n && (am_ir b n && (!decide (a = b) && (am_ir c 8 && am_ir x 10)))
def fd0 (n kd a b c : Int32) : Bool := am_ir kd 8 && (am_ir a n && (am_ir b 8 && am_ir c 10))
def fdB (n kd a b c x : Int32) : Bool := if kd = 2 ∨ kd = 3 then fd2 a b else if kd = 4 then am_ir a n else if kd = 7 then fd7 n a b c x else fd0 n kd a b c
theorem l_34_40 {kd a b c x : Int32} (h : Q (some (.int (am_bi (fd2 a b)))) LY g) : am (d + 1) 34 40 [some (.ref 1), some (.int kd), some (.int a), some (.int b), some (.int c), some (.int x)] [] LY g 0 0 none Q := by
  unfold fd2 at h
  refine am_run_k 2 (am_cl ?_)
  refine w_isThing ?_
  refine am_run_k 1 (And.intro (fun h1 => ?_) (fun h1 => ?_))
  · refine am_run_k 2 (And.intro (Or.inl rfl) ?_)
    rw [bi_f h1] at h
    exact h
  · refine am_run_k 2 (am_cl ?_)
    refine w_isTick ?_
    refine am_run_k 1 (And.intro (fun h2 => ?_) (fun h2 => ?_))
    · refine am_run_k 2 (And.intro (Or.inl rfl) ?_)
      rw [bi_t h1, bi_f h2] at h
      exact h
    · refine am_run_k 3 (And.intro (Or.inr rfl) ?_)
      rw [bi_t h1, bi_t h2] at h
      exact h
theorem l_34_109 {kd a b c x : Int32} (h : Q (some (.int (am_bi (fd0 (g 1 3) kd a b c)))) LY g) : am (d + 1) 34 109 [some (.ref 1), some (.int kd), some (.int a), some (.int b), some (.int c), some (.int x)] [] LY g 0 0 none Q := by
  unfold fd0 at h
  refine am_run_k 2 (And.intro (fun h6 => ?_) (fun h6 => ?_))
  · refine am_run_k 2 (And.intro (Or.inl rfl) ?_)
    rw [am_ir_f1 (fa_nle.mpr h6)] at h
    exact h
  · refine am_run_k 3 (And.intro (fun h7 => ?_) (fun h7 => ?_))
    · refine am_run_k 2 (And.intro (Or.inl rfl) ?_)
      rw [am_ir_f2 (fa_nlt.mpr h7)] at h
      exact h
    · rw [am_ir_t (fa_nlt.mp h6) (fa_nle.mp h7)] at h
      refine am_run_k 3 (am_cl ?_)
      refine w_isPerson ?_
      refine am_run_k 1 (And.intro (fun h1 => ?_) (fun h1 => ?_))
      · refine am_run_k 2 (And.intro (Or.inl rfl) ?_)
        rw [bi_f h1] at h
        exact h
      · refine am_run_k 2 (am_cl ?_)
        refine w_isPlace ?_
        refine am_run_k 1 (And.intro (fun h2 => ?_) (fun h2 => ?_))
        · refine am_run_k 2 (And.intro (Or.inl rfl) ?_)
          rw [bi_t h1, bi_f h2] at h
          exact h
        · refine am_run_k 2 (am_cl ?_)
          refine w_isTick ?_
          refine am_run_k 1 (And.intro (fun h3 => ?_) (fun h3 => ?_))
          · refine am_run_k 2 (And.intro (Or.inl rfl) ?_)
            rw [bi_t h1, bi_t h2, bi_f h3] at h
            exact h
          · refine am_run_k 3 (And.intro (Or.inr rfl) ?_)
            rw [bi_t h1, bi_t h2, bi_t h3] at h
            exact h
theorem l_34_66 {kd a b c x : Int32} (h : Q (some (.int (am_bi (fd7 (g 1 3) a b c x)))) LY g) : am (d + 1) 34 66 [some (.ref 1), some (.int kd), some (.int a), some (.int b), some (.int c), some (.int x)] [] LY g 0 0 none Q := by
  unfold fd7 at h
  refine am_run_k 3 (am_cl ?_)
  refine w_isPerson ?_
  refine am_run_k 1 (And.intro (fun h1 => ?_) (fun h1 => ?_))
  · refine am_run_k 2 (And.intro (Or.inl rfl) ?_)
    rw [bi_f h1] at h
    exact h
  · refine am_run_k 3 (am_cl ?_)
    refine w_isPerson ?_
    refine am_run_k 1 (And.intro (fun h2 => ?_) (fun h2 => ?_))
    · refine am_run_k 2 (And.intro (Or.inl rfl) ?_)
      rw [bi_t h1, bi_f h2] at h
      exact h
    · refine am_run_k 3 (And.intro (fun h3 => ?_) (fun h3 => ?_))
      · refine am_run_k 2 (And.intro (Or.inl rfl) ?_)
        rw [bi_t h1, bi_t h2, decide_eq_true h3] at h
        exact h
      · refine am_run_k 2 (am_cl ?_)
        refine w_isPlace ?_
        refine am_run_k 1 (And.intro (fun h4 => ?_) (fun h4 => ?_))
        · refine am_run_k 2 (And.intro (Or.inl rfl) ?_)
          rw [bi_t h1, bi_t h2, decide_eq_false h3, bi_f h4] at h
          exact h
        · refine am_run_k 2 (am_cl ?_)
          refine w_isTick ?_
          refine am_run_k 1 (And.intro (fun h5 => ?_) (fun h5 => ?_))
          · refine am_run_k 2 (And.intro (Or.inl rfl) ?_)
            rw [bi_t h1, bi_t h2, decide_eq_false h3, bi_t h4, bi_f h5] at h
            exact h
          · refine am_run_k 3 (And.intro (Or.inr rfl) ?_)
            rw [bi_t h1, bi_t h2, decide_eq_false h3, bi_t h4, bi_t h5] at h
            exact h
theorem w_isFind {kd a b c x : Int32} (h : Q (some (.int (am_bi (fdB (g 1 3) kd a b c x)))) LY g) : am (d + 1) 34 0 [some (.ref 1), some (.int kd), some (.int a), some (.int b), some (.int c), some (.int x)] [] LY g 0 0 none Q := by
  unfold fdB at h
  refine am_run_k 2 (And.intro (fun h1 => ?_) (fun h1 => And.intro (fun h2 => ?_) (fun h2 => And.intro (fun h3 => ?_) (fun h3 => And.intro (fun h4 => ?_) (fun h4 => And.intro (fun h5 => ?_) (fun h5 => And.intro (fun h6 => ?_) (fun h6 => ?_)))))))
  · rw [if_pos (Or.inl h1)] at h
    exact l_34_40 h
  · rw [if_pos (Or.inr h2)] at h
    exact l_34_40 h
  · rw [if_neg (fun q => q.elim h1 h2), if_pos h3] at h
    refine am_run_k 3 (am_cl ?_)
    refine w_isPerson ?_
    refine am_run_k 1 (And.intro (bi_01 _) ?_)
    exact h
  · rw [if_neg (fun q => q.elim h1 h2), if_neg h3, if_neg (by rw [h4]; decide)] at h
    exact l_34_109 h
  · rw [if_neg (fun q => q.elim h1 h2), if_neg h3, if_neg (by rw [h5]; decide)] at h
    exact l_34_109 h
  · rw [if_neg (fun q => q.elim h1 h2), if_neg h3, if_pos h6] at h
    exact l_34_66 h
  · rw [if_neg (fun q => q.elim h1 h2), if_neg h3, if_neg h6] at h
    exact l_34_109 h
/-- a find as told, by numbers -/
def rowOK (kd a b c x : Int32) : Prop := ((kd = 2 ∨ kd = 3) ∧ (∃ w, w < 3 ∧ a = nI w) ∧ ∃ t, t < 10 ∧ b = nI t) ∨ (kd = 4 ∧ ∃ q, q < 6 ∧ a = nI q) ∨ (kd = 7 ∧ (∃ q, q < 6 ∧ a = nI q) ∧ (∃ q, q < 6 ∧ b = nI q) ∧ (∃ p, p < 8 ∧ c = nI p) ∧ ∃ t, t < 10 ∧ x = nI t) ∨ ((kd = 0 ∨ kd = 1 ∨ kd = 5 ∨ kd = 6) ∧ (∃ q, q < 6 ∧ a = nI q) ∧ (∃ p, p < 8 ∧ b = nI p) ∧ ∃ t, t < 10 ∧ c = nI t)
def rowsC (g : am_G) (c : Nat) : Prop := ∀ k, k < c → rowOK (g 6 (k * 5)) (g 6 (k * 5 + 1)) (g 6 (k * 5 + 2)) (g 6 (k * 5 + 3)) (g 6 (k * 5 + 4))
def ordC (g : am_G) (c f : Nat) : Prop := (∀ i, i < f → ∃ q, q < c ∧ g 7 i = nI q) ∧ ∀ i j, i < j → j < f → g 7 i ≠ g 7 j
/-- what the class's questions stand on -/
def VC (g : am_G) : Prop := (∃ n, 2 ≤ n ∧ n ≤ 6 ∧ g 1 3 = nI n) ∧ (∃ t, t < 10 ∧ g 1 5 = nI t) ∧ ∃ c, c ≤ 20 ∧ g 5 1 = nI c ∧ rowsC g c ∧ ∃ f, f ≤ 20 ∧ g 5 4 = nI f ∧ ordC g c f
def scC (g g' : am_G) : Prop := ∀ k, (k < 9 ∨ 14 < k) → g' k = g k
theorem scC.rf {g : am_G} : scC g g := fun _ _ => rfl
theorem scC.tr {g g1 g2 : am_G} (h : scC g g1) (h2 : scC g1 g2) : scC g g2 := fun k hk => (h2 k hk).trans (h k hk)
theorem scC.up {g g1 : am_G} {k i : Nat} {x : Int32} (h : scC g g1) (h2 : 9 ≤ k ∧ k ≤ 14) : scC g (am_up g1 k i x) := fun j hj => by rw [am_up_ne (by omega)]; exact h j hj
theorem VC.sc {g g' : am_G} (h : VC g) (s : scC g g') : VC g' := by
  have e1 := s 1 (by omega)
  have e5 := s 5 (by omega)
  have e6 := s 6 (by omega)
  have e7 := s 7 (by omega)
  unfold VC rowsC ordC at *
  rw [e1, e5, e6, e7]
  exact h
theorem w_cbt {w t : Int32} (hw : vp_in w 3) (h : ∀ r, r = 0 ∨ r = 1 → Q (some (.int r)) LY g) : am d 48 0 [some (.ref 9), some (.int w), some (.int t)] [] LY g 0 0 none Q := by
  refine am_run_k 5 (And.intro (hw) ?_)
  refine am_run_k 1 (And.intro (fun h1 => ?_) (fun h1 => ?_))
  · refine am_run_k 2 (And.intro (Or.inl rfl) ?_)
    exact h _ (Or.inl rfl)
  · refine am_run_k 5 (And.intro (hw) ?_)
    refine am_run_k 1 (And.intro (fun h2 => ?_) (fun h2 => ?_))
    · refine am_run_k 2 (And.intro (Or.inl rfl) ?_)
      exact h _ (Or.inl rfl)
    · refine am_run_k 3 (And.intro (Or.inr rfl) ?_)
      exact h _ (Or.inr rfl)
theorem nIx10 {q t : Nat} : nI q * 10 + nI t = nI (q * 10 + t) := by rw [nIm10]; exact nI_add _ _
theorem l_46_7 {q : Nat} (hq : q < 6) (h : ∀ r, r = 0 ∨ r = 1 → Q (some (.int r)) LY g) : ∀ (n t : Nat) (x s : Int32), t + n = 10 → x = nI t → am (d + 1) 46 7 [some (.ref 9), some (.ref 2), some (.int (nI q)), some (.int s), some (.int x)] [] LY g 0 0 none Q := by
  intro n
  induction n with
  | zero =>
    intro t x s hs hx
    have hs : t = 10 := by omega
    subst hs; subst hx
    refine am_run_k 3 (And.intro (fun h6 => ?_) (fun hx => absurd ((show nI 10 ≤ nI 10 from nI_le (Nat.le_refl 10) (by decide))) hx))
    refine am_run_k 2 (And.intro (fun h7 => ?_) (fun h7 => ?_))
    · refine am_run_k 2 (And.intro (Or.inl rfl) ?_)
      exact h _ (Or.inl rfl)
    · refine am_run_k 3 (And.intro (Or.inr rfl) ?_)
      exact h _ (Or.inr rfl)
  | succ n ih =>
    intro t x s hs hx
    subst hx
    refine am_run_k 3 (And.intro (fun hx => absurd hx ((nI_ge (b := 10) (by omega) (by decide)))) (fun h6 => ?_))
    refine am_run_k 3 (am_cl ?_)
    refine w_reached ?_
    refine am_run_k 8 (And.intro (vpe nIx10 (by omega)) ?_)
    refine am_run_k 4 ?_
    exact ih (t + 1) _ _ (by omega) (nI_1 t)
theorem w_fits {q : Nat} (hq : q < 6) (h : ∀ r, r = 0 ∨ r = 1 → Q (some (.int r)) LY g) : am (d + 1) 46 0 [some (.ref 9), some (.ref 2), some (.int (nI q)), none, none] [] LY g 0 0 none Q := by
  refine am_run_k 4 ?_
  exact l_46_7 hq h 10 0 0 _ rfl rfl
theorem l_47_12 {q : Nat} {w : Int32} {g0 : am_G} (hq : q < 6) (hw : vp_in w 3) (h : ∀ g', scC g0 g' → Q none LY g') : ∀ (n : Nat) (x s1 s2 : Int32) (g : am_G), n ≤ 10 → x = nI n - 1 → scC g0 g → am (d + 1) 47 12 [some (.ref 9), some (.ref 1), some (.int (nI q)), some (.int w), some (.int s1), some (.int s2), some (.int x)] [] LY g 0 0 none Q := by
  intro n
  induction n with
  | zero =>
    intro x s1 s2 g hn hx hg
    subst hx
    refine am_run_k 2 (And.intro (fun h6 => ?_) (fun hx => absurd ((show nI 0 - 1 < 0 by decide)) hx))
    refine am_run_k 1 ?_
    exact h g hg
  | succ n ih =>
    intro x s1 s2 g hn hx hg
    rw [nI_pred] at hx
    subst hx
    refine am_run_k 2 (And.intro (fun hx => absurd hx ((nI_pos (by omega)))) (fun h6 => ?_))
    refine am_run_k 12 (And.intro (vpe nIx10 (by omega)) ?_)
    refine am_run_k 2 (And.intro (vpn (by omega)) ?_)
    refine am_run_k 12 (And.intro (vpe nIx10 (by omega)) ?_)
    refine am_run_k 2 (And.intro (vpn (by omega)) ?_)
    refine am_run_k 4 (am_cl ?_)
    refine w_cbt hw (fun r hr => ?_)
    have tail : ∀ g1, scC g0 g1 → am (d + 1) 47 97 [some (.ref 9), some (.ref 1), some (.int (nI q)), some (.int w), some (.int s1), some (.int s2), some (.int (nI n))] [] LY g1 0 0 none Q := by
      intro g1 hg1
      refine am_run_k 6 (And.intro (vpn (by omega)) ?_)
      refine am_run_k 1 (am_cl ?_)
      refine w_reached ?_
      refine am_run_k 7 (And.intro (vpn (by omega)) ?_)
      refine am_run_k 1 (am_cl ?_)
      refine w_reached ?_
      refine am_run_k 3 ?_
      refine ih _ _ _ g1 (by omega) ?_ hg1
      exact (Int32.sub_eq_add_neg (nI n) 1).symm
    refine am_run_k 1 (And.intro (fun h7 => ?_) (fun h7 => ?_))
    · exact tail _ ((hg.up (by decide)).up (by decide))
    · refine am_run_k 5 (And.intro (vpn (by omega)) ?_)
      refine am_run_k 4 (And.intro (vpn (by omega)) ?_)
      refine am_run_k 5 (And.intro (hw) ?_)
      refine am_run_k 4 (And.intro (vpn (by omega)) ?_)
      exact tail _ (((hg.up (by decide)).up (by decide)).up (by decide))
theorem w_trace {q : Nat} {w : Int32} (hq : q < 6) (hw : vp_in w 3) (h : ∀ g', scC g g' → Q none LY g') : am (d + 1) 47 0 [some (.ref 9), some (.ref 1), some (.int (nI q)), some (.int w), none, none, none] [] LY g 0 0 none Q := by
  refine am_run_k 6 ?_
  exact l_47_12 hq hw h 10 _ _ _ g (by omega) rfl scC.rf
theorem l_45_10 {q n t : Nat} {y : Int32} {g0 : am_G} (hn : n ≤ 6) (ht : t < 10) (e13 : g0 1 3 = nI n) (e15 : g0 1 5 = nI t) (h : ∀ g', scC g0 g' → Q none LY g') : ∀ (m i : Nat) (x z : Int32) (lz : Option Value) (g : am_G), i + m = n → x = nI i → scC g0 g → am d 45 10 [some (.ref 9), some (.ref 1), some (.int (nI q)), some (.int y), some (.int x), lz] [] LY g 0 0 none Q := by
  intro m
  induction m with
  | zero =>
    intro i x z lz g hi hx hg
    have f13 : g 1 3 = nI n := by rw [hg 1 (by omega)]; exact e13
    have hi : i = n := by omega
    subst hi; subst hx
    refine am_run_k 4 (And.intro (fun h6 => ?_) (fun hx => absurd ((show g 1 3 ≤ nI i by rw [f13]; exact nI_le (Nat.le_refl i) (by omega))) hx))
    refine am_run_k 1 ?_
    exact h g hg
  | succ m ih =>
    intro i x z lz g hi hx hg
    subst hx
    have f13 : g 1 3 = nI n := by rw [hg 1 (by omega)]; exact e13
    have f15 : g 1 5 = nI t := by rw [hg 1 (by omega)]; exact e15
    have ei : nI i * 10 + g 1 5 = nI (i * 10 + t) := by rw [f15]; exact nIx10
    refine am_run_k 4 (And.intro (fun hx => absurd hx ((show ¬ g 1 3 ≤ nI i by rw [f13]; exact nI_ge (by omega) (by omega)))) (fun h6 => ?_))
    have tail : ∀ u : Int32, am d 45 41 [some (.ref 9), some (.ref 1), some (.int (nI q)), some (.int y), some (.int (nI i)), some (.int u)] [] LY g 0 0 none Q := by
      intro u
      refine am_run_k 10 (And.intro (vpe ei (by omega)) ?_)
      refine am_run_k 2 (And.intro (fun h7 => ?_) (fun h7 => ?_))
      · refine am_run_k 5 (And.intro (vpe ei (by omega)) ?_)
        refine am_run_k 2 ?_
        exact ih (i + 1) _ 0 _ _ (by omega) (nI_1 i) (hg.up (by decide))
      · refine am_run_k 4 (And.intro (vpe ei (by omega)) ?_)
        refine am_run_k 2 ?_
        exact ih (i + 1) _ 0 _ _ (by omega) (nI_1 i) (hg.up (by decide))
    refine am_run_k 3 (And.intro (fun h8 => ?_) (fun h8 => ?_))
    · refine am_run_k 3 ?_
      exact tail 1
    · refine am_run_k 4 (And.intro (fun h9 => ?_) (fun h9 => ?_))
      · refine am_run_k 2 ?_
        exact tail 0
      · refine am_run_k 3 ?_
        exact tail 1
theorem w_gather {q : Nat} (v : VC g) (h : ∀ g', scC g g' → Q none LY g') : am d 45 0 [some (.ref 9), some (.ref 1), some (.int (nI q)), none, none, none] [] LY g 0 0 none Q := by
  obtain ⟨⟨n, hn1, hn2, e13⟩, ⟨t, ht, e15⟩, -⟩ := v
  refine am_run_k 7 ?_
  exact l_45_10 hn2 ht e13 e15 h n 0 _ 0 _ g (by omega) rfl scC.rf
theorem nIk10 {q t : Nat} {a b : Int32} (ha : a = nI q) (hb : b = nI t) : a * 10 + b = nI (q * 10 + t) := by rw [ha, hb]; exact nIx10
theorem w_hear {k : Nat} (hk : k < 20) (hr : rowOK (g 6 (k * 5)) (g 6 (k * 5 + 1)) (g 6 (k * 5 + 2)) (g 6 (k * 5 + 3)) (g 6 (k * 5 + 4))) (h : ∀ g', scC g g' → Q none LY g') : am (d + 1) 44 0 [some (.ref 9), some (.ref 6), some (.int (nI k * 5)), none, none, none, none] [] LY g 0 0 none Q := by
  have e0 := cle (nIm5 k) (show k * 5 < 2 ^ 31 by omega)
  have e1 := cle (nI51 k) (show k * 5 + 1 < 2 ^ 31 by omega)
  have e2 := cle (nI52 k) (show k * 5 + 2 < 2 ^ 31 by omega)
  have e3 := cle (nI53 k) (show k * 5 + 3 < 2 ^ 31 by omega)
  have e4 := cle (nI54 k) (show k * 5 + 4 < 2 ^ 31 by omega)
  refine am_run_k 5 (And.intro (vpe (nI51 k) (by omega)) ?_)
  refine am_run_k 6 (And.intro (vpe (nI52 k) (by omega)) ?_)
  refine am_run_k 6 (And.intro (vpe (nI53 k) (by omega)) ?_)
  refine am_run_k 6 (And.intro (vpe (nI54 k) (by omega)) ?_)
  refine am_run_k 4 (And.intro (vpe (nIm5 k) (by omega)) ?_)
  rw [e0, e1, e2, e3, e4]
  generalize g 6 (k * 5) = kd at hr
  generalize g 6 (k * 5 + 1) = a at hr
  generalize g 6 (k * 5 + 2) = b at hr
  generalize g 6 (k * 5 + 3) = c at hr
  generalize g 6 (k * 5 + 4) = x at hr
  have s1 : scC g g := scC.rf
  rcases hr with ⟨h23, ⟨w, hw, rfl⟩, t, ht, rfl⟩ | ⟨rfl, q, hq, rfl⟩ | ⟨rfl, ⟨q, hq, rfl⟩, ⟨q2, hq2, rfl⟩, ⟨p, hp, rfl⟩, t, ht, rfl⟩ | ⟨h0, ⟨q, hq, rfl⟩, ⟨p, hp, rfl⟩, t, ht, rfl⟩
  · rcases h23 with rfl | rfl
    · refine am_run_k 1 (And.intro (fun h1 => absurd h1 (by decide)) (fun h1 => And.intro (fun h2 => ?_) (fun h2 => absurd rfl h2)))
      refine am_run_k 7 (And.intro (vpn hw) ?_)
      refine am_run_k 3 (And.intro (vpn hw) ?_)
      refine am_run_k 2 ?_
      exact h _ (s1.up (by decide))
    · refine am_run_k 1 (And.intro (fun h1 => absurd h1 (by decide)) (fun h1 => And.intro (fun h2 => absurd h2 (by decide)) (fun h2 => And.intro (fun h3 => ?_) (fun h3 => absurd rfl h3))))
      refine am_run_k 7 (And.intro (vpn hw) ?_)
      refine am_run_k 5 (And.intro (vpn hw) ?_)
      refine am_run_k 2 ?_
      exact h _ (s1.up (by decide))
  · refine am_run_k 1 (And.intro (fun h1 => absurd h1 (by decide)) (fun h1 => And.intro (fun h2 => absurd h2 (by decide)) (fun h2 => And.intro (fun h3 => absurd h3 (by decide)) (fun h3 => And.intro (fun h4 => ?_) (fun h4 => absurd rfl h4)))))
    refine am_run_k 10 ?_
    exact h _ (s1.up (by decide))
  · refine am_run_k 1 (And.intro (fun h1 => absurd h1 (by decide)) (fun h1 => And.intro (fun h2 => absurd h2 (by decide)) (fun h2 => And.intro (fun h3 => absurd h3 (by decide)) (fun h3 => And.intro (fun h4 => absurd h4 (by decide)) (fun h4 => And.intro (fun h5 => absurd h5 (by decide)) (fun h5 => And.intro (fun h6 => absurd h6 (by decide)) (fun h6 => And.intro (fun h7 => ?_) (fun h7 => absurd rfl h7))))))))
    refine am_run_k 9 (And.intro (vpe nIx10 (by omega)) ?_)
    refine am_run_k 5 (And.intro (vpe nIx10 (by omega)) ?_)
    refine am_run_k 9 (And.intro (vpe nIx10 (by omega)) ?_)
    refine am_run_k 5 (And.intro (vpe nIx10 (by omega)) ?_)
    refine am_run_k 2 ?_
    exact h _ ((s1.up (by decide)).up (by decide))
  · have b129 : am (d + 1) 44 129 [some (.ref 9), some (.ref 6), some (.int (nI k * 5)), some (.int (nI q)), some (.int (nI p)), some (.int (nI t)), some (.int x)] [] LY g 0 0 none Q := by
      refine am_run_k 9 (And.intro (vpe nIx10 (by omega)) ?_)
      refine am_run_k 7 (And.intro (vpe nIx10 (by omega)) ?_)
      refine am_run_k 2 ?_
      exact h _ (s1.up (by decide))
    have b195 : am (d + 1) 44 195 [some (.ref 9), some (.ref 6), some (.int (nI k * 5)), some (.int (nI q)), some (.int (nI p)), some (.int (nI t)), some (.int x)] [] LY g 0 0 none Q := by
      refine am_run_k 9 (And.intro (vpe nIx10 (by omega)) ?_)
      refine am_run_k 5 (And.intro (vpe nIx10 (by omega)) ?_)
      refine am_run_k 1 ?_
      exact h _ (s1.up (by decide))
    rcases h0 with rfl | rfl | rfl | rfl
    · refine am_run_k 1 (And.intro (fun h1 => absurd h1 (by decide)) (fun h1 => And.intro (fun h2 => absurd h2 (by decide)) (fun h2 => And.intro (fun h3 => absurd h3 (by decide)) (fun h3 => And.intro (fun h4 => absurd h4 (by decide)) (fun h4 => And.intro (fun h5 => absurd h5 (by decide)) (fun h5 => And.intro (fun h6 => absurd h6 (by decide)) (fun h6 => And.intro (fun h7 => absurd h7 (by decide)) (fun h7 => b195))))))))
    · exact am_run_k 1 (And.intro (fun h1 => b129) (fun h1 => absurd rfl h1))
    · refine am_run_k 1 (And.intro (fun h1 => absurd h1 (by decide)) (fun h1 => And.intro (fun h2 => absurd h2 (by decide)) (fun h2 => And.intro (fun h3 => absurd h3 (by decide)) (fun h3 => And.intro (fun h4 => absurd h4 (by decide)) (fun h4 => And.intro (fun h5 => b195) (fun h5 => absurd rfl h5))))))
    · refine am_run_k 1 (And.intro (fun h1 => absurd h1 (by decide)) (fun h1 => And.intro (fun h2 => absurd h2 (by decide)) (fun h2 => And.intro (fun h3 => absurd h3 (by decide)) (fun h3 => And.intro (fun h4 => absurd h4 (by decide)) (fun h4 => And.intro (fun h5 => absurd h5 (by decide)) (fun h5 => And.intro (fun h6 => b129) (fun h6 => absurd rfl h6)))))))
end WAY
end
section
section WAZ
variable {d : Nat} {L : am_L} {g : am_G} {bc bs : Nat} {sx : am_S} {Q : am_Q}
theorem l_43_71 {c nb : Nat → Nat} {cc : Nat} {set who : Int32} {g0 : am_G} (hcc : cc ≤ 20) (e51 : g0 5 1 = nI cc) (hr : rowsC g0 cc) (h : ∀ g', scC g0 g' → Q none LY g') : ∀ (n k : Nat) (x : Int32) (lz : Option Value) (g : am_G), k + n = cc → x = nI k → scC g0 g → am (d + 2) 43 71 [some (.ref 9), some (.ref 1), some (.int set), some (.int who), some (.int x), lz] [] LY g 0 0 none Q := by
  intro n
  induction n with
  | zero =>
    intro k x lz g hk hx hg
    have hk : k = cc := by omega
    subst hk; subst hx
    have f51 : g 5 1 = nI k := by rw [hg 5 (by omega)]; exact e51
    refine am_run_k 5 (And.intro (fun h6 => ?_) (fun hx => absurd ((show g 5 1 ≤ nI k by rw [f51]; exact nI_le (Nat.le_refl k) (by omega))) hx))
    refine am_run_k 1 ?_
    exact h g hg
  | succ n ih =>
    intro k x lz g hk hx hg
    subst hx
    have f51 : g 5 1 = nI cc := by rw [hg 5 (by omega)]; exact e51
    refine am_run_k 5 (And.intro (fun hx => absurd hx ((show ¬ g 5 1 ≤ nI k by rw [f51]; exact nI_ge (by omega) (by omega)))) (fun h6 => ?_))
    refine am_run_k 4 (am_cl ?_)
    refine w_kind (k := k) (by omega) ?_
    have nxt : ∀ (lz : Option Value) g1, scC g0 g1 → am (d + 2) 43 145 [some (.ref 9), some (.ref 1), some (.int set), some (.int who), some (.int (nI k)), lz] [] LY g1 0 0 none Q := by
      intro lz g1 hg1
      refine am_run_k 2 ?_
      exact ih (k + 1) _ _ _ (by omega) (nI_1 k) hg1
    have tail : ∀ u : Int32, am (d + 2) 43 114 [some (.ref 9), some (.ref 1), some (.int set), some (.int who), some (.int (nI k)), lz] [.int u] LY g 0 0 none Q := by
      intro u
      refine am_run_k 4 (am_cl ?_)
      refine w_has ?_
      refine am_run_k 1 (And.intro (fun h7 => ?_) (fun h7 => ?_))
      · exact nxt _ g hg
      · refine am_run_k 2 (And.intro (fun h8 => ?_) (fun h8 => ?_))
        · exact nxt _ g hg
        · refine am_run_k 8 (am_cl ?_)
          have e6 : g 6 = g0 6 := hg 6 (by omega)
          refine w_hear (k := k) (by omega) (by rw [e6]; exact hr k (by omega)) (fun g' hg' => ?_)
          exact nxt _ g' (hg.tr hg')
    refine am_run_k 2 (And.intro (fun h9 => ?_) (fun h9 => ?_))
    · refine am_run_k 1 ?_
      exact tail _
    · refine am_run_k 4 (am_cl ?_)
      refine w_who (k := k) (by omega) ?_
      refine am_run_k 2 (And.intro (fun h10 => ?_) (fun h10 => ?_))
      · refine am_run_k 1 ?_
        exact tail _
      · refine am_run_k 2 ?_
        exact tail _
theorem l_43_32 {t : Nat} {set who : Int32} {g0 : am_G} (h : ∀ (g' : am_G) (x : Int32), scC g0 g' → am (d + 2) 43 63 [some (.ref 9), some (.ref 1), some (.int set), some (.int who), some (.int x), none] [] LY g' 0 0 none Q) : ∀ (n k : Nat) (x : Int32) (g : am_G), k + n = 3 → x = nI k → scC g0 g → am (d + 2) 43 32 [some (.ref 9), some (.ref 1), some (.int set), some (.int who), some (.int x), none] [] LY g 0 0 none Q := by
  intro n
  induction n with
  | zero =>
    intro k x g hk hx hg
    have hk : k = 3 := by omega
    subst hk; subst hx
    refine am_run_k 3 (And.intro (fun h6 => ?_) (fun hx => absurd ((show nI 3 ≤ nI 3 from nI_le (Nat.le_refl 3) (by decide))) hx))
    exact h g _ hg
  | succ n ih =>
    intro k x g hk hx hg
    subst hx
    refine am_run_k 3 (And.intro (fun hx => absurd hx ((nI_ge (b := 3) (by omega) (by decide)))) (fun h6 => ?_))
    refine am_run_k 5 (And.intro (vpn (by omega)) ?_)
    refine am_run_k 6 (And.intro (vpn (by omega)) ?_)
    refine am_run_k 2 ?_
    exact ih (k + 1) _ _ (by omega) (nI_1 k) ((hg.up (by decide)).up (by decide))
theorem l_43_3 {set who : Int32} {g0 : am_G} (h : ∀ (g' : am_G) (x : Int32), scC g0 g' → am (d + 2) 43 29 [some (.ref 9), some (.ref 1), some (.int set), some (.int who), some (.int x), none] [] LY g' 0 0 none Q) : ∀ (n k : Nat) (x : Int32) (g : am_G), k + n = 60 → x = nI k → scC g0 g → am (d + 2) 43 3 [some (.ref 9), some (.ref 1), some (.int set), some (.int who), some (.int x), none] [] LY g 0 0 none Q := by
  intro n
  induction n with
  | zero =>
    intro k x g hk hx hg
    have hk : k = 60 := by omega
    subst hk; subst hx
    refine am_run_k 5 (And.intro (fun h6 => ?_) (fun hx => absurd ((show nI 60 ≤ nI 60 from nI_le (Nat.le_refl 60) (by decide))) hx))
    exact h g _ hg
  | succ n ih =>
    intro k x g hk hx hg
    subst hx
    refine am_run_k 5 (And.intro (fun hx => absurd hx ((nI_ge (b := 60) (by omega) (by decide)))) (fun h6 => ?_))
    refine am_run_k 5 (And.intro (vpn (by omega)) ?_)
    refine am_run_k 2 ?_
    exact ih (k + 1) _ _ (by omega) (nI_1 k) (hg.up (by decide))
theorem w_listen {set who : Int32} (v : VC g) (h : ∀ g', scC g g' → Q none LY g') : am (d + 2) 43 0 [some (.ref 9), some (.ref 1), some (.int set), some (.int who), none, none] [] LY g 0 0 none Q := by
  obtain ⟨-, -, c, hc, e51, hr, -⟩ := v
  refine am_run_k 2 ?_
  refine l_43_3 (g0 := g) (fun g1 x1 hg1 => ?_) 60 0 0 g rfl rfl scC.rf
  refine am_run_k 2 ?_
  refine l_43_32 (t := 0) (g0 := g) (fun g2 x2 hg2 => ?_) 3 0 0 g1 rfl rfl hg1
  refine am_run_k 5 ?_
  exact l_43_71 (c := fun x => x) (nb := fun x => x) (g0 := g) hc e51 hr h c 0 0 none _ (Nat.zero_add c) rfl (hg2.up (by decide))
theorem l_40_73 {q : Nat} {set : Int32} {g0 : am_G} (hq : q < 6) (h : ∀ r g', scC g0 g' → Q (some (.int r)) LY g') : ∀ (n k : Nat) (x r : Int32) (g : am_G), k + n = 3 → x = nI k → scC g0 g → am (d + 3) 40 73 [some (.ref 9), some (.ref 1), some (.int set), some (.int (nI q)), some (.int r), some (.int x)] [] LY g 0 0 none Q := by
  intro n
  induction n with
  | zero =>
    intro k x r g hk hx hg
    have hk : k = 3 := by omega
    subst hk; subst hx
    refine am_run_k 3 (And.intro (fun h6 => ?_) (fun hx => absurd ((show nI 3 ≤ nI 3 from nI_le (Nat.le_refl 3) (by decide))) hx))
    refine am_run_k 2 ?_
    exact h r g hg
  | succ n ih =>
    intro k x r g hk hx hg
    subst hx
    refine am_run_k 3 (And.intro (fun hx => absurd hx ((nI_ge (b := 3) (by omega) (by decide)))) (fun h6 => ?_))
    refine am_run_k 5 (am_cl ?_)
    refine w_trace hq (vpn (by omega)) (fun g1 hg1 => ?_)
    refine am_run_k 4 (And.intro (vpe (n := 0) rfl (by decide)) ?_)
    refine am_run_k 1 (And.intro (fun h7 => ?_) (fun h7 => ?_))
    · refine am_run_k 2 ?_
      exact ih (k + 1) _ _ _ (by omega) (nI_1 k) (hg.tr hg1)
    · refine am_run_k 8 ?_
      exact ih (k + 1) _ _ _ (by omega) (nI_1 k) (hg.tr hg1)
theorem l_40_37 {q m : Nat} {set : Int32} {g0 : am_G} (hq : q < 6) (hm : m ≤ 6) (e13 : g0 1 3 = nI m) (h : ∀ r g', scC g0 g' → Q (some (.int r)) LY g') : ∀ (n k : Nat) (x : Int32) (g : am_G), k + n = m → x = nI k → scC g0 g → am (d + 3) 40 37 [some (.ref 9), some (.ref 1), some (.int set), some (.int (nI q)), some (.int x), none] [] LY g 0 0 none Q := by
  intro n
  induction n with
  | zero =>
    intro k x g hk hx hg
    have hk : k = m := by omega
    subst hk; subst hx
    have f13 : g 1 3 = nI k := by rw [hg 1 (by omega)]; exact e13
    refine am_run_k 4 (And.intro (fun h6 => ?_) (fun hx => absurd ((show g 1 3 ≤ nI k by rw [f13]; exact nI_le (Nat.le_refl k) (by omega))) hx))
    refine am_run_k 4 ?_
    exact l_40_73 (g0 := g0) hq h 3 0 0 0 g rfl rfl hg
  | succ n ih =>
    intro k x g hk hx hg
    subst hx
    have f13 : g 1 3 = nI m := by rw [hg 1 (by omega)]; exact e13
    refine am_run_k 4 (And.intro (fun hx => absurd hx ((show ¬ g 1 3 ≤ nI k by rw [f13]; exact nI_ge (by omega) (by omega)))) (fun h6 => ?_))
    refine am_run_k 5 (am_cl ?_)
    refine w_fits (q := k) (by omega) (fun r hr => ?_)
    refine am_run_k 1 (And.intro (fun h7 => ?_) (fun h7 => ?_))
    · refine am_run_k 2 ?_
      exact ih (k + 1) _ _ (by omega) (nI_1 k) hg
    · refine am_run_k 2 ?_
      exact h 0 g hg
theorem w_thingsOf {q : Nat} {set : Int32} (hq : q < 6) (v : VC g) (h : ∀ r g', scC g g' → Q (some (.int r)) LY g') : am (d + 3) 40 0 [some (.ref 9), some (.ref 1), some (.int set), some (.int (nI q)), none, none] [] LY g 0 0 none Q := by
  obtain ⟨m, hm1, hm2, e13⟩ := v.1
  refine am_run_k 5 (am_cl ?_)
  refine w_listen v (fun g1 hg1 => ?_)
  refine am_run_k 4 (And.intro (fun h1 => ?_) (fun h1 => ?_))
  · refine am_run_k 2 ?_
    exact h 0 g1 hg1
  · refine am_run_k 4 (am_cl ?_)
    refine w_has ?_
    refine am_run_k 1 (And.intro (fun h2 => ?_) (fun h2 => ?_))
    · refine am_run_k 4 (am_cl ?_)
      refine w_gather (v.sc hg1) (fun g2 hg2 => ?_)
      refine am_run_k 2 ?_
      exact l_40_37 (g0 := g) hq hm2 e13 h m 0 0 g2 (Nat.zero_add m) rfl (hg1.tr hg2)
    · refine am_run_k 2 ?_
      exact h 0 g1 hg1
theorem l_39_6 {m : Nat} {set am1 : Int32} {g0 : am_G} (hm : m ≤ 6) (v : VC g0) (e13 : g0 1 3 = nI m) (h : ∀ r g', scC g0 g' → Q (some (.int r)) LY g') : ∀ (n k : Nat) (x r : Int32) (g : am_G), k + n = m → x = nI k → scC g0 g → am (d + 4) 39 6 [some (.ref 9), some (.ref 1), some (.int set), some (.int am1), some (.int r), some (.int x)] [] LY g 0 0 none Q := by
  intro n
  induction n with
  | zero =>
    intro k x r g hk hx hg
    have hk : k = m := by omega
    subst hk; subst hx
    have f13 : g 1 3 = nI k := by rw [hg 1 (by omega)]; exact e13
    refine am_run_k 4 (And.intro (fun h6 => ?_) (fun hx => absurd ((show g 1 3 ≤ nI k by rw [f13]; exact nI_le (Nat.le_refl k) (by omega))) hx))
    refine am_run_k 2 ?_
    exact h r g hg
  | succ n ih =>
    intro k x r g hk hx hg
    subst hx
    have f13 : g 1 3 = nI m := by rw [hg 1 (by omega)]; exact e13
    refine am_run_k 4 (And.intro (fun hx => absurd hx ((show ¬ g 1 3 ≤ nI k by rw [f13]; exact nI_ge (by omega) (by omega)))) (fun h6 => ?_))
    refine am_run_k 3 (am_cl ?_)
    refine w_has ?_
    refine am_run_k 1 (And.intro (fun h7 => ?_) (fun h7 => ?_))
    · refine am_run_k 2 ?_
      exact ih (k + 1) _ _ _ (by omega) (nI_1 k) hg
    · refine am_run_k 5 (am_cl ?_)
      refine w_thingsOf (q := k) (by omega) (v.sc hg) (fun r2 g2 hg2 => ?_)
      refine am_run_k 1 (And.intro (fun h8 => ?_) (fun h8 => ?_))
      · refine am_run_k 2 ?_
        exact ih (k + 1) _ _ _ (by omega) (nI_1 k) (hg.tr hg2)
      · refine am_run_k 8 ?_
        exact ih (k + 1) _ _ _ (by omega) (nI_1 k) (hg.tr hg2)
theorem w_suspectsOf {set am1 : Int32} (v : VC g) (h : ∀ r g', scC g g' → Q (some (.int r)) LY g') : am (d + 4) 39 0 [some (.ref 9), some (.ref 1), some (.int set), some (.int am1), none, none] [] LY g 0 0 none Q := by
  obtain ⟨m, hm1, hm2, e13⟩ := id v.1
  refine am_run_k 4 ?_
  exact l_39_6 (g0 := g) hm2 v e13 h m 0 0 0 g (Nat.zero_add m) rfl scC.rf
def fsF (s : Int32) : Nat → Nat → Int32
  | 0, _ => 0
  | n + 1, i => bif am_hs s (nI i) then nI i else fsF s n (i + 1)
theorem l_79_2 {s : Int32} : ∀ (n k : Nat) (x : Int32), k + n = 8 → x = nI k → Q (some (.int (fsF s n k))) L g → am (d + 1) 79 2 [some (.int s), some (.int x)] [] L g 0 0 none Q := by
  intro n
  induction n with
  | zero =>
    intro k x hk hx h
    have hk : k = 8 := by omega
    subst hk; subst hx
    refine am_run_k 3 (And.intro (fun h6 => ?_) (fun hx => absurd ((show nI 8 ≤ nI 8 from nI_le (Nat.le_refl 8) (by decide))) hx))
    refine am_run_k 2 ?_
    exact h
  | succ n ih =>
    intro k x hk hx h
    subst hx
    refine am_run_k 3 (And.intro (fun hx => absurd hx ((nI_ge (b := 8) (by omega) (by decide)))) (fun h6 => ?_))
    refine am_run_k 3 (am_cl ?_)
    refine w_has ?_
    rw [fsF] at h
    refine am_run_k 1 (And.intro (fun h7 => ?_) (fun h7 => ?_))
    · refine am_run_k 2 ?_
      rw [bi_f h7] at h
      exact ih (k + 1) _ (by omega) (nI_1 k) h
    · refine am_run_k 2 ?_
      rw [bi_t h7] at h
      exact h
theorem w_first {s : Int32} (h : Q (some (.int (fsF s 8 0))) L g) : am (d + 1) 79 0 [some (.int s), none] [] L g 0 0 none Q := by
  refine am_run_k 2 ?_
  exact l_79_2 8 0 0 rfl rfl h
theorem fsF_in (s : Int32) : ∀ (n k : Nat), k + n = 8 → ∃ p, p < 8 ∧ fsF s n k = nI p
  | 0, _, _ => ⟨0, by omega, rfl⟩
  | n + 1, k, hk => by
    rw [fsF]
    cases am_hs s (nI k) with
    | true => exact ⟨k, by omega, rfl⟩
    | false => exact fsF_in s n (k + 1) (by omega)
theorem l_41_24 {q tk : Nat} {w : Int32} {g0 : am_G} (hq : q < 6) (hw : vp_in w 3) (htk : tk < 10) (h : ∀ r g', scC g0 g' → Q (some (.int r)) LY g') : ∀ (n t : Nat) (x a b c : Int32) (g : am_G), t + n = tk + 1 → x = nI t → scC g0 g → am (d + 2) 41 24 [some (.ref 9), some (.ref 1), some (.int (nI q)), some (.int w), some (.int (nI tk)), some (.int a), some (.int b), some (.int c), some (.int x)] [] LY g 0 0 none Q := by
  intro n
  induction n with
  | zero =>
    intro t x a b c g ht hx hg
    have ht : t = tk + 1 := by omega
    subst ht; subst hx
    refine am_run_k 3 (And.intro (fun h6 => ?_) (fun hx => absurd ((show nI tk < nI (tk + 1) from nI_lt (by omega) (by omega))) hx))
    refine am_run_k 2 ?_
    exact h _ g hg
  | succ n ih =>
    intro t x a b c g ht hx hg
    subst hx
    refine am_run_k 3 (And.intro (fun hx => absurd hx ((show ¬ nI tk < nI t from nI_nlt (by omega) (by omega)))) (fun h6 => ?_))
    refine am_run_k 2 (am_cl ?_)
    refine w_first ?_
    have nxt : ∀ (a b c : Int32), am (d + 2) 41 120 [some (.ref 9), some (.ref 1), some (.int (nI q)), some (.int w), some (.int (nI tk)), some (.int a), some (.int b), some (.int c), some (.int (nI t))] [] LY g 0 0 none Q := by
      intro a b c
      refine am_run_k 2 ?_
      exact ih (t + 1) _ _ _ _ g (by omega) (nI_1 t) hg
    have tail : ∀ (a b c u : Int32), am (d + 2) 41 69 [some (.ref 9), some (.ref 1), some (.int (nI q)), some (.int w), some (.int (nI tk)), some (.int a), some (.int b), some (.int c), some (.int (nI t))] [.int u] LY g 0 0 none Q := by
      intro a b c u
      refine am_run_k 6 (And.intro (fun h7 => ?_) (fun h7 => ?_))
      · exact nxt _ _ _
      · have ht9 : t + 1 < 10 := by
          rw [nI_1] at h7
          rcases Nat.lt_or_ge (t + 1) 10 with q | q
          · exact q
          · exact absurd (show nI 10 ≤ nI (t + 1) from nI_le q (by omega)) h7
        refine am_run_k 6 (am_cl ?_)
        refine w_reached ?_
        refine am_run_k 2 (And.intro (fun h8 => ?_) (fun h8 => ?_))
        · refine am_run_k 6 (And.intro (vpe (nI_1 t) (by omega)) ?_)
          refine am_run_k 2 ?_
          exact nxt _ _ _
        · refine am_run_k 6 (And.intro (vpe (nI_1 t) (by omega)) ?_)
          refine am_run_k 3 ?_
          exact nxt _ _ _
    refine am_run_k 3 (And.intro (fun h9 => ?_) (fun h9 => ?_))
    · refine am_run_k 2 ?_
      exact tail _ _ _ _
    · refine am_run_k 4 (am_cl ?_)
      refine w_cbt hw (fun r hr => ?_)
      refine am_run_k 1 (And.intro (fun h10 => ?_) (fun h10 => ?_))
      · refine am_run_k 1 ?_
        exact tail _ _ _ _
      · refine am_run_k 5 (And.intro (hw) ?_)
        refine am_run_k 1 (And.intro (fun h11 => ?_) (fun h11 => ?_))
        · refine am_run_k 1 ?_
          exact tail _ _ _ _
        · refine am_run_k 2 ?_
          exact tail _ _ _ _
theorem w_placeAt {q tk : Nat} {w : Int32} (hq : q < 6) (hw : vp_in w 3) (htk : tk < 10) (h : ∀ r g', scC g g' → Q (some (.int r)) LY g') : am (d + 2) 41 0 [some (.ref 9), some (.ref 1), some (.int (nI q)), some (.int w), some (.int (nI tk)), none, none, none, none] [] LY g 0 0 none Q := by
  refine am_run_k 5 (am_cl ?_)
  refine w_trace hq hw (fun g1 hg1 => ?_)
  refine am_run_k 6 (And.intro (vpe (n := 0) rfl (by decide)) ?_)
  refine am_run_k 5 ?_
  exact l_41_24 (g0 := g) hq hw htk h (tk + 1) 0 0 _ _ _ g1 (Nat.zero_add _) rfl hg1
theorem l_30_4 {f c : Nat} (hc : c ≤ 20) (hf : f ≤ 20) (e54 : g 5 4 = nI f) (ho : ordC g c f) (h : ∀ r, Q (some (.int r)) LY g) : ∀ (n i : Nat) (x a : Int32), i + n = f → x = nI i → am (d + 1) 30 4 [some (.ref 5), some (.int a), some (.int x)] [] LY g 0 0 none Q := by
  intro n
  induction n with
  | zero =>
    intro i x a hi hx
    have hi : i = f := by omega
    subst hi; subst hx
    refine am_run_k 4 (And.intro (fun h6 => ?_) (fun hx => absurd ((show g 5 4 ≤ nI i by rw [e54]; exact nI_le (Nat.le_refl i) (by omega))) hx))
    refine am_run_k 2 ?_
    exact h _
  | succ n ih =>
    intro i x a hi hx
    subst hx
    refine am_run_k 4 (And.intro (fun hx => absurd hx ((show ¬ g 5 4 ≤ nI i by rw [e54]; exact nI_ge (by omega) (by omega)))) (fun h6 => ?_))
    refine am_run_k 5 (And.intro (vpn (by omega)) ?_)
    obtain ⟨k, hk, ek⟩ := ho.1 i (by omega)
    rw [ncl (by omega), ek]
    refine am_run_k 1 (am_cl ?_)
    refine w_kind (k := k) (by omega) ?_
    refine am_run_k 2 (And.intro (fun h7 => ?_) (fun h7 => ?_))
    · refine am_run_k 2 ?_
      exact ih (i + 1) _ _ (by omega) (nI_1 i)
    · refine am_run_k 6 (And.intro (vpn (by omega)) ?_)
      refine am_run_k 5 ?_
      exact ih (i + 1) _ _ (by omega) (nI_1 i)
theorem w_foundClues (v : VC g) (h : ∀ r, Q (some (.int r)) LY g) : am (d + 1) 30 0 [some (.ref 5), none, none] [] LY g 0 0 none Q := by
  obtain ⟨-, -, c, hc, e51, hr, f, hf, e54, ho⟩ := v
  refine am_run_k 4 ?_
  exact l_30_4 hc hf e54 ho h f 0 0 0 (Nat.zero_add f) rfl
theorem w_deny {k c : Nat} (hk : k < c) (hc : c ≤ 20) (hI : 5 ≤ g 6 (k * 5)) (hr : rowsC g c) (v : VC g) (h : ∀ r g', r = 0 ∨ r = 1 → scC g g' → Q (some (.int r)) LY g') : am (d + 3) 42 0 [some (.ref 9), some (.ref 1), some (.int (nI k))] [] LY g 0 0 none Q := by
  refine am_run_k 5 (am_cl ?_)
  refine w_foundClues v (fun r => ?_)
  refine am_run_k 6 (am_cl ?_)
  refine w_listen v (fun g1 hg1 => ?_)
  have e6 : g1 6 = g 6 := hg1 6 (by omega)
  have hrow := hr k hk
  have hq : ∃ q, q < 6 ∧ g 6 (k * 5 + 1) = nI q := by
    rcases hrow with ⟨h23, -⟩ | ⟨h4, -⟩ | ⟨-, hq, -⟩ | ⟨-, hq, -⟩
    · rcases h23 with e | e <;> rw [e] at hI <;> exact absurd hI (by decide)
    · rw [h4] at hI; exact absurd hI (by decide)
    · exact hq
    · exact hq
  obtain ⟨q, hq, eq⟩ := hq
  refine am_run_k 7 (am_cl ?_)
  refine w_who (k := k) (by omega) ?_
  refine am_run_k 1 (am_cl ?_)
  rw [e6, eq]
  refine w_fits hq (fun r2 hr2 => ?_)
  refine am_run_k 1 (And.intro (fun h1 => ?_) (fun h1 => ?_))
  · refine am_run_k 3 (And.intro (Or.inr rfl) ?_)
    exact h 1 g1 (Or.inr rfl) hg1
  · refine am_run_k 4 (am_cl ?_)
    refine w_kind (k := k) (by omega) ?_
    refine am_run_k 2 (And.intro (fun h2 => ?_) (fun h2 => ?_))
    · refine am_run_k 2 (And.intro (Or.inl rfl) ?_)
      exact h 0 g1 (Or.inl rfl) hg1
    · refine am_run_k 7 (am_cl ?_)
      refine w_other (k := k) (by omega) ?_
      have hq2 : ∃ q, q < 6 ∧ g 6 (k * 5 + 2) = nI q := by
        have h2 : g 6 (k * 5) = 7 := by rw [← e6]; exact h2
        rcases hrow with ⟨h23, -⟩ | ⟨h4, -⟩ | ⟨-, -, hq, -⟩ | ⟨h0, -⟩
        · rcases h23 with e | e <;> rw [e] at h2 <;> exact absurd h2 (by decide)
        · rw [h4] at h2; exact absurd h2 (by decide)
        · exact hq
        · rcases h0 with e | e | e | e <;> rw [e] at h2 <;> exact absurd h2 (by decide)
      obtain ⟨q2, hq2, eq2⟩ := hq2
      refine am_run_k 1 (am_cl ?_)
      rw [e6, eq2]
      refine w_fits hq2 (fun r3 hr3 => ?_)
      refine am_run_k 1 (And.intro (fun h3 => ?_) (fun h3 => ?_))
      · refine am_run_k 2 (And.intro (Or.inl rfl) ?_)
        exact h 0 g1 (Or.inl rfl) hg1
      · refine am_run_k 3 (And.intro (Or.inr rfl) ?_)
        exact h 1 g1 (Or.inr rfl) hg1
end WAZ
end
section
section FAC
variable {d : Nat} {L : am_L} {g : am_G} {bc bs : Nat} {sx : am_S} {Q : am_Q}
def am_bc (x : Int32) : Int32 :=
  let a := x - ((x.toUInt32 >>> ((1 : Int32).toUInt32 &&& Int32.toUInt32 31)).toInt32 &&& 1431655765)
  let b := (a &&& 858993459) + ((a.toUInt32 >>> ((2 : Int32).toUInt32 &&& Int32.toUInt32 31)).toInt32 &&& 858993459)
  let c := (b + (b.toUInt32 >>> ((4 : Int32).toUInt32 &&& Int32.toUInt32 31)).toInt32) &&& 252645135
  let e := c + (c.toUInt32 >>> ((8 : Int32).toUInt32 &&& Int32.toUInt32 31)).toInt32
  let f := e + (e.toUInt32 >>> ((16 : Int32).toUInt32 &&& Int32.toUInt32 31)).toInt32
  f &&& 63
theorem w_bitCount {x : Int32} (h : Q (some (.int (am_bc x))) L g) : am d 136 0 [some (.int x)] [] L g 0 0 none Q := by
  refine am_run_k 42 ?_
  exact h
theorem w_search : ∀ (b : Nat) {d : Nat} {ch those best : Int32} {g : am_G} {Q : am_Q}, b ≤ 40 → VC g → (∀ r g', scC g g' → Q (some (.int r)) LY g') → am (d + b + 5) 82 0 [some (.ref 1), some (.ref 9), some (.int (nI b)), some (.int ch), some (.int those), some (.int best), none, none, none, none] [] LY g 0 0 none Q := by
  intro b
  induction b with
  | zero =>
    intro d ch those best g Q hb v h
    refine am_run_k 2 (am_cl ?_)
    refine w_bitCount ?_
    refine am_run_k 3 (am_cl ?_)
    refine w_bitCount ?_
    refine am_run_k 4 (And.intro (fun h1 => ?_) (fun h1 => ?_))
    · refine am_run_k 2 (And.intro (fun h2 => ?_) (fun h2 => ?_))
      · refine am_run_k 2 ?_
        exact h _ g scC.rf
      · refine am_run_k 2 (And.intro (fun h3 => ?_) (fun hx => absurd ((show nI 0 ≤ 0 from Int32.le_refl 0)) hx))
        refine am_run_k 2 ?_
        exact h _ g scC.rf
    · refine am_run_k 3 (And.intro (fun h2 => ?_) (fun h2 => ?_))
      · refine am_run_k 3 ?_
        exact h _ g scC.rf
      · refine am_run_k 3 (am_cl ?_)
        refine w_bitCount ?_
        refine am_run_k 1 (And.intro (fun h3 => ?_) (fun h3 => ?_))
        · refine am_run_k 2 ?_
          exact h _ g scC.rf
        · refine am_run_k 3 ?_
          exact h _ g scC.rf
  | succ b ih =>
    intro d ch those best g Q hb v h
    refine am_run_k 2 (am_cl ?_)
    refine w_bitCount ?_
    refine am_run_k 3 (am_cl ?_)
    refine w_bitCount ?_
    refine am_run_k 4 (And.intro (fun h1 => ?_) (fun h1 => ?_))
    · refine am_run_k 2 (And.intro (fun h2 => ?_) (fun h2 => ?_))
      · refine am_run_k 2 ?_
        exact h _ g scC.rf
      · refine am_run_k 2 (And.intro (fun hx => absurd hx ((nI_nle (by omega) (by omega)))) (fun h3 => ?_))
        have go : am (d + (b + 1) + 5) 82 74 [some (.ref 1), some (.ref 9), some (.int (nI (b + 1))), some (.int ch), some (.int those), some (.int best), some (.int (am_bc those)), some (.int (am_bc ch)), none, none] [] LY g 0 0 none Q := by
          refine am_run_k 11 (am_cl ?_)
          refine w_suspectsOf v (fun r1 g1 hg1 => ?_)
          refine am_run_k 1 (am_cl ?_)
          refine w_bitCount ?_
          refine am_run_k 2 (And.intro (fun h5 => ?_) (fun h5 => ?_))
          · refine am_run_k 9 (am_cl ?_)
            show am (d + b + 5) 82 0 [some (.ref 1), some (.ref 9), some (.int (nI (b + 1) - 1)), some (.int ch), some (.int those), some (.int best), none, none, none, none] [] LY g1 0 0 none _
            rw [nI_pred]
            refine ih (by omega) (v.sc hg1) (fun r2 g2 hg2 => ?_)
            refine am_run_k 20 (am_cl ?_)
            refine w_suspectsOf ((v.sc hg1).sc hg2) (fun r3 g3 hg3 => ?_)
            refine am_run_k 2 (am_cl ?_)
            show am (d + b + 5) 82 0 [some (.ref 1), some (.ref 9), some (.int (nI (b + 1) - 1)), some (.int _), some (.int r3), some (.int r2), none, none, none, none] [] LY g3 0 0 none _
            rw [nI_pred]
            refine ih (by omega) (((v.sc hg1).sc hg2).sc hg3) (fun r4 g4 hg4 => ?_)
            refine am_run_k 1 ?_
            exact h r4 g4 (((hg1.tr hg2).tr hg3).tr hg4)
          · refine am_run_k 2 ?_
            exact h _ g1 hg1
        refine am_run_k 3 (And.intro (fun h4 => ?_) (fun h4 => ?_))
        · exact go
        · refine am_run_k 5 (am_cl ?_)
          refine w_bitCount ?_
          refine am_run_k 1 (And.intro (fun h5 => ?_) (fun h5 => ?_))
          · exact go
          · refine am_run_k 2 ?_
            exact h _ g scC.rf
    · refine am_run_k 3 (And.intro (fun h2 => ?_) (fun h2 => ?_))
      · refine am_run_k 3 ?_
        exact h _ g scC.rf
      · refine am_run_k 3 (am_cl ?_)
        refine w_bitCount ?_
        refine am_run_k 1 (And.intro (fun h3 => ?_) (fun h3 => ?_))
        · refine am_run_k 2 ?_
          exact h _ g scC.rf
        · refine am_run_k 3 ?_
          exact h _ g scC.rf
def nm1 (g : am_G) (n : Int32) (k : Nat) : Bool := (!(decide (g 6 (k * 5) = 2) || decide (g 6 (k * 5) = 3)) && decide (n ≤ g 6 (k * 5 + 1))) || (decide (g 6 (k * 5) = 7) && decide (n ≤ g 6 (k * 5 + 2)))
def nmF (g : am_G) (n : Int32) : Nat → Nat → Bool
  | 0, _ => false
  | m + 1, k => bif nm1 g n k then true else nmF g n m (k + 1)
theorem l_27_2 {n : Int32} {c : Nat} (hc : c ≤ 20) (e51 : g 5 1 = nI c) : ∀ (m k : Nat) (x : Int32) (a b : Option Value), k + m = c → x = nI k → Q (some (.int (am_bi (nmF g n m k)))) LY g → am (d + 1) 27 2 [some (.ref 5), some (.int n), some (.int x), a, b] [] LY g 0 0 none Q := by
  intro m
  induction m with
  | zero =>
    intro k x a b hk hx h
    have hk : k = c := by omega
    subst hk; subst hx
    refine am_run_k 4 (And.intro (fun h6 => ?_) (fun hx => absurd ((show g 5 1 ≤ nI k by rw [e51]; exact nI_le (Nat.le_refl k) (by omega))) hx))
    refine am_run_k 2 (And.intro (Or.inl rfl) ?_)
    exact h
  | succ m ih =>
    intro k x a b hk hx h
    subst hx
    refine am_run_k 4 (And.intro (fun hx => absurd hx ((show ¬ g 5 1 ≤ nI k by rw [e51]; exact nI_ge (by omega) (by omega)))) (fun h6 => ?_))
    refine am_run_k 3 (am_cl ?_)
    refine w_kind (k := k) (by omega) ?_
    rw [nmF] at h
    have nxt : ∀ (a b : Option Value), nm1 g n k = false → am (d + 1) 27 64 [some (.ref 5), some (.int n), some (.int (nI k)), a, b] [] LY g 0 0 none Q := by
      intro a b e
      rw [e] at h
      refine am_run_k 2 ?_
      exact ih (k + 1) _ _ _ (by omega) (nI_1 k) h
    have yes : ∀ (a b : Option Value), nm1 g n k = true → am (d + 1) 27 62 [some (.ref 5), some (.int n), some (.int (nI k)), a, b] [] LY g 0 0 none Q := by
      intro a b e
      rw [e] at h
      refine am_run_k 2 (And.intro (Or.inr rfl) ?_)
      exact h
    have t47 : ∀ (b : Option Value), (!(decide (g 6 (k * 5) = 2) || decide (g 6 (k * 5) = 3)) && decide (n ≤ g 6 (k * 5 + 1))) = false → am (d + 1) 27 47 [some (.ref 5), some (.int n), some (.int (nI k)), some (.int (g 6 (k * 5))), b] [] LY g 0 0 none Q := by
      intro b e
      refine am_run_k 3 (And.intro (fun h7 => ?_) (fun h7 => ?_))
      · exact nxt _ _ (by unfold nm1; rw [e, decide_eq_false h7]; rfl)
      · refine am_run_k 3 (am_cl ?_)
        refine w_other (k := k) (by omega) ?_
        refine am_run_k 2 (And.intro (fun h8 => ?_) (fun h8 => ?_))
        · exact nxt _ _ (by unfold nm1; rw [e, decide_eq_true h7, decide_eq_false (fa_nle.mpr h8)]; rfl)
        · exact yes _ _ (by unfold nm1; rw [e, decide_eq_true h7, decide_eq_true (fa_nlt.mp h8)]; rfl)
    have f26 : (decide (g 6 (k * 5) = 2) || decide (g 6 (k * 5) = 3)) = true → am (d + 1) 27 26 [some (.ref 5), some (.int n), some (.int (nI k)), some (.int (g 6 (k * 5))), b] [] LY g 0 0 none Q := by
      intro e
      refine am_run_k 5 (And.intro (fun h9 => ?_) (fun hx => absurd hx ((by decide))))
      exact t47 _ (by rw [e]; rfl)
    refine am_run_k 4 (And.intro (fun h7 => ?_) (fun h7 => ?_))
    · exact f26 (by rw [decide_eq_true h7]; rfl)
    · refine am_run_k 3 (And.intro (fun h8 => ?_) (fun h8 => ?_))
      · refine am_run_k 4 (And.intro (fun hx => absurd hx ((by decide))) (fun h9 => ?_))
        refine am_run_k 3 (am_cl ?_)
        refine w_who (k := k) (by omega) ?_
        refine am_run_k 2 (And.intro (fun h9 => ?_) (fun h9 => ?_))
        · exact yes _ _ (by unfold nm1; rw [decide_eq_false h7, decide_eq_false h8, decide_eq_true h9]; rfl)
        · exact t47 _ (by rw [decide_eq_false h7, decide_eq_false h8, decide_eq_false h9]; rfl)
      · exact f26 (by rw [decide_eq_true h8]; simp)
theorem w_nameOneFrom {n : Int32} {c : Nat} (hc : c ≤ 20) (e51 : g 5 1 = nI c) (h : Q (some (.int (am_bi (nmF g n c 0)))) LY g) : am (d + 1) 27 0 [some (.ref 5), some (.int n), none, none, none] [] LY g 0 0 none Q := by
  refine am_run_k 2 ?_
  exact l_27_2 hc e51 c 0 0 _ _ (Nat.zero_add c) rfl h
end FAC
end
section
section FAD
variable {d : Nat} {L : am_L} {g : am_G} {bc bs : Nat} {sx : am_S} {Q : am_Q}
theorem nI_rng {x : Int32} {a b : Nat} (h1 : nI a ≤ x) (h2 : x ≤ nI b) (hb : b + 1 < 2 ^ 31 := by decide) (ha : a < 2 ^ 31 := by decide) : ∃ m, a ≤ m ∧ m ≤ b ∧ x = nI m := by
  have e1 := Int32.le_iff_toInt_le.mp h1
  have e2 := Int32.le_iff_toInt_le.mp h2
  rw [nI_toInt ha] at e1
  rw [nI_toInt (by omega)] at e2
  have h3 : vp_in x (b + 1) := vp_in_iff.mpr ⟨by omega, by omega⟩
  obtain ⟨j, hj, e⟩ := vp_in_of h3 hb
  subst e
  rw [nI_toInt (by omega)] at e1
  exact ⟨j, by omega, by omega, rfl⟩
/-- the class's state, as far as its calls stand on it -/
def SL (g : am_G) : Prop := (∃ m, m ≤ 60 ∧ g 18 2 = nI m) ∧ ∃ m, m ≤ 60 ∧ g 20 2 = nI m
def IC (g : am_G) : Prop := VC g ∧ SL g
def frC (g g' : am_G) : Prop := ∀ k, 17 ≤ k → g' k = g k
theorem frC.rf {g : am_G} : frC g g := fun _ _ => rfl
theorem IC.sc {g g' : am_G} (h : IC g) (s : scC g g') : IC g' := ⟨h.1.sc s, by unfold SL; rw [s 18 (by omega), s 20 (by omega)]; exact h.2⟩
theorem frC.sc {g g' : am_G} (s : scC g g') : frC g g' := fun k hk => s k (by omega)
theorem frC.up {g : am_G} {k i : Nat} {x : Int32} (hk : k < 17) : frC g (am_up g k i x) := fun j hj => am_up_ne (by omega)
theorem frC.tr {g g1 g2 : am_G} (h : frC g g1) (h2 : frC g1 g2) : frC g g2 := fun k hk => (h2 k hk).trans (h k hk)
theorem SL.fr {g g' : am_G} (h : SL g) (s : frC g g') : SL g' := by unfold SL; rw [s 18 (by omega), s 20 (by omega)]; exact h
theorem VC.of {g g' : am_G} (h : VC g) (e1 : g' 1 = g 1) (e5 : g' 5 = g 5) (e6 : g' 6 = g 6) (e7 : g' 7 = g 7) : VC g' := by
  unfold VC rowsC ordC at *
  rw [e1, e5, e6, e7]
  exact h
theorem f_people {n : Int32} (I : IC g) (h : ∀ r g', IC g' → frC g g' → Q (some (.int r)) LY g') : am (d + 2) 50 0 [some (.ref 0), some (.int n), none] [] LY g 0 0 none Q := by
  obtain ⟨c, hc, e51, hr, hrest⟩ := id I.1.2.2
  refine am_run_k 3 (And.intro (fun h1 => ?_) (fun h1 => ?_))
  · refine am_run_k 2 ?_
    exact h _ g I frC.rf
  · refine am_run_k 3 (And.intro (fun h2 => ?_) (fun h2 => ?_))
    · refine am_run_k 5 (And.intro (fun h3 => ?_) (fun h3 => ?_))
      · refine am_run_k 2 ?_
        exact h _ g I frC.rf
      · refine am_run_k 5 (am_cl ?_)
        refine w_nameOneFrom hc e51 ?_
        refine am_run_k 1 (And.intro (fun h4 => ?_) (fun h4 => ?_))
        · refine am_run_k 10 ?_
          obtain ⟨m, hm1, hm2, e⟩ := nI_rng (a := 2) (b := 6) (fa_nlt.mp h1) h2
          refine h _ _ ⟨⟨⟨m, hm1, hm2, ?_⟩, ?_, c, hc, ?_, ?_, ?_⟩, I.2.fr (frC.up (by decide))⟩ (frC.up (by decide))
          · rw [am_up_us]; exact e
          · obtain ⟨t, ht, et⟩ := I.1.2.1
            exact ⟨t, ht, by rw [am_up_un (by decide)]; exact et⟩
          · rw [am_up_ne (by decide)]; exact e51
          · unfold rowsC; rw [am_up_ne (by decide)]; exact hr
          · unfold ordC; rw [am_up_ne (by decide), am_up_ne (by decide)]; exact hrest
        · refine am_run_k 2 ?_
          exact h _ g I frC.rf
    · refine am_run_k 2 ?_
      exact h _ g I frC.rf
theorem f_door {a b : Int32} (I : IC g) (h : ∀ r g', IC g' → frC g g' → Q (some (.int r)) LY g') : am (d + 2) 51 0 [some (.ref 0), some (.int a), some (.int b)] [] LY g 0 0 none Q := by
  refine am_run_k 2 (am_cl ?_)
  refine w_isPlace ?_
  refine am_run_k 1 (And.intro (fun h1 => ?_) (fun h1 => ?_))
  · refine am_run_k 2 ?_
    exact h _ g I frC.rf
  · refine am_run_k 2 (am_cl ?_)
    refine w_isPlace ?_
    refine am_run_k 1 (And.intro (fun h2 => ?_) (fun h2 => ?_))
    · refine am_run_k 2 ?_
      exact h _ g I frC.rf
    · refine am_run_k 3 (And.intro (fun h3 => ?_) (fun h3 => ?_))
      · obtain ⟨i, hi, ea⟩ := am_ir_nI (k := 8) (by decide) (bi_t h1)
        obtain ⟨j, hj, eb⟩ := am_ir_nI (k := 8) (by decide) (bi_t h2)
        subst ea; subst eb
        refine am_run_k 6 (am_cl ?_)
        refine w_joined (vpn hi) ?_
        refine am_run_k 1 (And.intro (fun h4 => ?_) (fun h4 => ?_))
        · refine am_run_k 6 (And.intro (fun h5 => ?_) (fun h5 => ?_))
          · refine am_run_k 6 (am_cl ?_)
            refine w_join hi hj (fun g1 e1 e2 e3 e4 e5 => ?_)
            refine am_run_k 5 ?_
            have fr : frC g g1 := fun k hk => e1 k (by omega) (by omega) (by omega)
            exact h _ g1 ⟨I.1.of (e1 1 (by decide) (by decide) (by decide)) (e1 5 (by decide) (by decide) (by decide)) (e1 6 (by decide) (by decide) (by decide)) (e1 7 (by decide) (by decide) (by decide)), I.2.fr fr⟩ fr
          · refine am_run_k 2 ?_
            exact h _ g I frC.rf
        · refine am_run_k 2 ?_
          exact h _ g I frC.rf
      · refine am_run_k 2 ?_
        exact h _ g I frC.rf
theorem f_lies {a b : Int32} (I : IC g) (h : ∀ r g', IC g' → frC g g' → Q (some (.int r)) LY g') : am (d + 2) 52 0 [some (.ref 0), some (.int a), some (.int b), none] [] LY g 0 0 none Q := by
  refine am_run_k 2 (am_cl ?_)
  refine w_isThing ?_
  refine am_run_k 1 (And.intro (fun h1 => ?_) (fun h1 => ?_))
  · refine am_run_k 2 ?_
    exact h _ g I frC.rf
  · obtain ⟨i, hi, ea⟩ := am_ir_nI (k := 3) (by decide) (bi_t h1)
    subst ea
    refine am_run_k 2 (am_cl ?_)
    refine w_isPlace ?_
    refine am_run_k 1 (And.intro (fun h2 => ?_) (fun h2 => ?_))
    · refine am_run_k 5 (And.intro (vpn hi) ?_)
      refine am_run_k 7 (And.intro (vpn hi) ?_)
      refine am_run_k 2 ?_
      exact h _ _ ⟨I.1.of (am_up_ne (by decide)) (am_up_ne (by decide)) (am_up_ne (by decide)) (am_up_ne (by decide)), I.2.fr (frC.up (by decide))⟩ (frC.up (by decide))
    · refine am_run_k 2 ?_
      exact h _ g I frC.rf
theorem f_deed {a b c : Int32} (I : IC g) (h : ∀ r g', IC g' → frC g g' → Q (some (.int r)) LY g') : am (d + 2) 53 0 [some (.ref 0), some (.int a), some (.int b), some (.int c)] [] LY g 0 0 none Q := by
  refine am_run_k 2 (am_cl ?_)
  refine w_isPlace ?_
  refine am_run_k 1 (And.intro (fun h1 => ?_) (fun h1 => ?_))
  · refine am_run_k 2 ?_
    exact h _ g I frC.rf
  · refine am_run_k 2 (am_cl ?_)
    refine w_isTick ?_
    refine am_run_k 1 (And.intro (fun h2 => ?_) (fun h2 => ?_))
    · refine am_run_k 2 ?_
      exact h _ g I frC.rf
    · obtain ⟨t, ht, eb⟩ := am_ir_nI (k := 10) (by decide) (bi_t h2)
      subst eb
      have go : am (d + 2) 53 32 [some (.ref 0), some (.int a), some (.int (nI t)), some (.int c)] [] LY g 0 0 none Q := by
        refine am_run_k 14 ?_
        have fr : frC g (am_up (am_up (am_up g 1 4 a) 1 5 (nI t)) 1 6 c) := ((frC.up (by decide)).tr (frC.up (by decide))).tr (frC.up (by decide))
        refine h _ _ ⟨⟨?_, ⟨t, ht, ?_⟩, ?_⟩, I.2.fr fr⟩ fr
        · obtain ⟨n, hn1, hn2, en⟩ := I.1.1
          exact ⟨n, hn1, hn2, by rw [am_up_un (by decide), am_up_un (by decide), am_up_un (by decide)]; exact en⟩
        · rw [am_up_un (by decide), am_up_us]
        · have := I.1.2.2
          unfold rowsC ordC at *
          rw [am_up_ne (by decide), am_up_ne (by decide), am_up_ne (by decide), am_up_ne (by decide), am_up_ne (by decide), am_up_ne (by decide), am_up_ne (by decide), am_up_ne (by decide), am_up_ne (by decide)]
          exact this
      refine am_run_k 3 (And.intro (fun h3 => ?_) (fun h3 => ?_))
      · exact go
      · refine am_run_k 4 (am_cl ?_)
        refine w_isPerson ?_
        refine am_run_k 1 (And.intro (fun h4 => ?_) (fun h4 => ?_))
        · exact go
        · refine am_run_k 2 ?_
          exact h _ g I frC.rf
theorem f_told {a : Int32} (h : ∀ r, Q (some (.int r)) LY g) : am d 54 0 [some (.ref 0), some (.int a)] [] LY g 0 0 none Q := by
  refine am_run_k 2 (And.intro (fun h1 => ?_) (fun h1 => And.intro (fun h2 => ?_) (fun h2 => And.intro (fun h3 => ?_) (fun h3 => And.intro (fun h4 => ?_) (fun h4 => And.intro (fun h5 => ?_) (fun h5 => ?_))))))
  · refine am_run_k 4 ?_
    exact h _
  · refine am_run_k 4 ?_
    exact h _
  · refine am_run_k 5 (And.intro (fun h6 => ?_) (fun h6 => ?_))
    · refine am_run_k 4 ?_
      exact h _
    · refine am_run_k 3 ?_
      exact h _
  · refine am_run_k 4 ?_
    exact h _
  · refine am_run_k 5 ?_
    exact h _
  · refine am_run_k 2 ?_
    exact h _
theorem rowOK_of {n : Nat} {kd a b c x : Int32} (hn : n ≤ 6) (h : fdB (nI n) kd a b c x = true) : rowOK kd a (am_kb kd b) (am_kc kd c) (am_kx kd x) := by
  unfold fdB at h
  have big : ∀ {y : Int32} {k m : Nat}, k ≤ m → k < 2 ^ 31 → am_ir y (nI k) = true → ∃ j, j < m ∧ y = nI j := fun hk hk2 hy => by
    obtain ⟨j, hj, e⟩ := am_ir_nI hk2 hy
    exact ⟨j, by omega, e⟩
  split at h
  · rename_i h23
    simp only [fd2, Bool.and_eq_true] at h
    refine Or.inl ⟨h23, am_ir_nI (k := 3) (by decide) h.1, ?_⟩
    obtain ⟨t, ht, e⟩ := am_ir_nI (k := 10) (by decide) h.2
    refine ⟨t, ht, ?_⟩
    unfold am_kb
    rw [if_neg (by rcases h23 with e | e <;> rw [e] <;> decide)]
    exact e
  · split at h
    · rename_i h4
      exact Or.inr (Or.inl ⟨h4, big hn (by omega) h⟩)
    · split at h
      · rename_i h7
        simp only [fd7, Bool.and_eq_true] at h
        refine Or.inr (Or.inr (Or.inl ⟨h7, big hn (by omega) h.1, ?_, ?_, ?_⟩))
        · unfold am_kb
          rw [if_neg (by rw [h7]; decide)]
          exact big hn (by omega) h.2.1
        · unfold am_kc
          rw [if_neg (by rw [h7]; decide)]
          exact am_ir_nI (k := 8) (by decide) h.2.2.2.1
        · unfold am_kx
          rw [if_neg (by rw [h7]; decide)]
          exact am_ir_nI (k := 10) (by decide) h.2.2.2.2
      · rename_i n23 n4 n7
        simp only [fd0, Bool.and_eq_true] at h
        have hk : kd = 0 ∨ kd = 1 ∨ kd = 5 ∨ kd = 6 := by
          obtain ⟨j, hj, e⟩ := am_ir_nI (k := 8) (by decide) h.1
          rcases (show j = 0 ∨ j = 1 ∨ j = 2 ∨ j = 3 ∨ j = 4 ∨ j = 5 ∨ j = 6 ∨ j = 7 by omega) with q | q | q | q | q | q | q | q <;> subst q
          · exact Or.inl e
          · exact Or.inr (Or.inl e)
          · exact absurd (Or.inl e) n23
          · exact absurd (Or.inr e) n23
          · exact absurd e n4
          · exact Or.inr (Or.inr (Or.inl e))
          · exact Or.inr (Or.inr (Or.inr e))
          · exact absurd e n7
        have nm : am_nm kd = 3 := by rcases hk with e | e | e | e <;> rw [e] <;> decide
        refine Or.inr (Or.inr (Or.inr ⟨hk, big hn (by omega) h.2.1, ?_, ?_⟩))
        · unfold am_kb
          rw [nm, if_neg (by decide)]
          exact am_ir_nI (k := 8) (by decide) h.2.2.1
        · unfold am_kc
          rw [nm, if_neg (by decide)]
          exact am_ir_nI (k := 10) (by decide) h.2.2.2
theorem am_add_row {n : Nat} {kd a b c x : Int32} {k j : Nat} (hk : k < n) (hj : j < 5) : am_add g n kd a b c x 6 (k * 5 + j) = g 6 (k * 5 + j) := by
  unfold am_add
  rw [am_up_ne (by decide), am_up_un (by omega), am_up_un (by omega), am_up_un (by omega), am_up_un (by omega), am_up_un (by omega)]
theorem am_add_ne {n : Nat} {kd a b c x : Int32} {k : Nat} (h5 : k ≠ 5) (h6 : k ≠ 6) : am_add g n kd a b c x k = g k := by
  unfold am_add
  rw [am_up_ne h5, am_up_ne h6, am_up_ne h6, am_up_ne h6, am_up_ne h6, am_up_ne h6]
theorem am_add_5 {n : Nat} {kd a b c x : Int32} {j : Nat} (hj : j ≠ 1) : am_add g n kd a b c x 5 j = g 5 j := by
  unfold am_add
  rw [am_up_un hj, am_up_ne (by decide), am_up_ne (by decide), am_up_ne (by decide), am_up_ne (by decide), am_up_ne (by decide)]
theorem am_add_new {n : Nat} {kd a b c x : Int32} : am_add g n kd a b c x 6 (n * 5) = kd ∧ am_add g n kd a b c x 6 (n * 5 + 1) = a ∧ am_add g n kd a b c x 6 (n * 5 + 2) = am_kb kd b ∧ am_add g n kd a b c x 6 (n * 5 + 3) = am_kc kd c ∧ am_add g n kd a b c x 6 (n * 5 + 4) = am_kx kd x := by
  unfold am_add
  refine ⟨?_, ?_, ?_, ?_, ?_⟩
  · rw [am_up_ne (by decide), am_up_un (by omega), am_up_un (by omega), am_up_un (by omega), am_up_un (by omega), am_up_us]
  · rw [am_up_ne (by decide), am_up_un (by omega), am_up_un (by omega), am_up_un (by omega), am_up_us]
  · rw [am_up_ne (by decide), am_up_un (by omega), am_up_un (by omega), am_up_us]
  · rw [am_up_ne (by decide), am_up_un (by omega), am_up_us]
  · rw [am_up_ne (by decide), am_up_us]
theorem VC.add {n : Nat} {kd a b c x : Int32} (v : VC g) (hn : n < 20) (e51 : g 5 1 = nI n) (hr : rowOK kd a (am_kb kd b) (am_kc kd c) (am_kx kd x)) : VC (am_add g n kd a b c x) := by
  obtain ⟨v1, v2, c0, hc, e, hrow, f, hf, e54, ho⟩ := v
  have hcn : c0 = n := (nI_eq (by omega) (by omega)).mp (e.symm.trans e51)
  subst hcn
  refine ⟨by rw [am_add_ne (by decide) (by decide)]; exact v1, by rw [am_add_ne (by decide) (by decide)]; exact v2, c0 + 1, by omega, by unfold am_add; rw [am_up_us], ?_, f, hf, by rw [am_add_5 (by decide)]; exact e54, ?_⟩
  · intro k hk
    rcases Nat.lt_succ_iff_lt_or_eq.mp hk with q | q
    · have h0 := am_add_row (g := g) (n := c0) (kd := kd) (a := a) (b := b) (c := c) (x := x) (k := k) (j := 0) q (by omega)
      rw [Nat.add_zero] at h0
      rw [h0, am_add_row q (by omega), am_add_row q (by omega), am_add_row q (by omega), am_add_row q (by omega)]
      exact hrow k q
    · subst q
      obtain ⟨n0, n1, n2, n3, n4⟩ := am_add_new (g := g) (n := k) (kd := kd) (a := a) (b := b) (c := c) (x := x)
      rw [n0, n1, n2, n3, n4]
      exact hr
  · unfold ordC at *
    rw [am_add_ne (by decide) (by decide)]
    refine ⟨fun i hi => ?_, ho.2⟩
    obtain ⟨q, hq, eq⟩ := ho.1 i hi
    exact ⟨q, by omega, eq⟩
theorem frC.add {n : Nat} {kd a b c x : Int32} : frC g (am_add g n kd a b c x) := fun k hk => am_add_ne (by omega) (by omega)
theorem cnt_lt {n : Nat} {m : Nat} {x : Int32} (e : x = nI n) (hn : n < 2 ^ 31) (hm : m < 2 ^ 31 := by decide) (h : x < nI m) : n < m := by subst e; exact (nI_ltI hn hm).mp h
theorem f_find {kd a b c x : Int32} (I : IC g) (h : ∀ r g', IC g' → frC g g' → Q (some (.int r)) LY g') : am (d + 2) 55 0 [some (.ref 0), some (.int kd), some (.int a), some (.int b), some (.int c), some (.int x)] [] LY g 0 0 none Q := by
  obtain ⟨n, hn1, hn2, e13⟩ := id I.1.1
  obtain ⟨cc, hc, e51, -⟩ := id I.1.2.2
  refine am_run_k 8 (am_cl ?_)
  refine w_isFind ?_
  refine am_run_k 1 (And.intro (fun h1 => ?_) (fun h1 => ?_))
  · refine am_run_k 6 (And.intro (fun h2 => ?_) (fun h2 => ?_))
    · refine am_run_k 9 (am_cl ?_)
      have hcc : cc < 20 := cnt_lt (m := 20) e51 (by omega) (by decide) h2
      refine w_add hcc e51 ?_
      refine am_run_k 7 ?_
      have hb := bi_t h1
      rw [e13] at hb
      exact h _ _ ⟨I.1.add hcc e51 (rowOK_of hn2 hb), I.2.fr frC.add⟩ frC.add
    · refine am_run_k 2 ?_
      exact h _ g I frC.rf
  · refine am_run_k 2 ?_
    exact h _ g I frC.rf
theorem f_clear (I : IC g) (h : ∀ r g', IC g' → frC g g' → Q (some (.int r)) LY g') : am (d + 2) 59 0 [some (.ref 0), none] [] LY g 0 0 none Q := by
  refine am_run_k 9 (am_cl ?_)
  refine w_forget ?_
  refine am_run_k 2 ?_
  have fr : frC g (am_fgt g) := ((frC.up (by decide)).tr (frC.up (by decide))).tr (frC.up (by decide))
  refine h _ _ ⟨⟨?_, ?_, 0, by omega, ?_, fun k hk => absurd hk (by omega), 0, by omega, ?_, fun i hi => absurd hi (by omega), fun i j hi hj => absurd hj (by omega)⟩, I.2.fr fr⟩ fr
  · unfold am_fgt; rw [am_up_ne (by decide), am_up_ne (by decide), am_up_ne (by decide)]; exact I.1.1
  · unfold am_fgt; rw [am_up_ne (by decide), am_up_ne (by decide), am_up_ne (by decide)]; exact I.1.2.1
  · unfold am_fgt; rw [am_up_un (by decide), am_up_un (by decide), am_up_us]; rfl
  · unfold am_fgt; rw [am_up_us]; rfl
theorem l_29_5 {find : Int32} {b : Int32} {c f : Nat} {g0 : am_G} (hc : c ≤ 20) (hf : f ≤ 20) (e54 : g0 5 4 = nI f) (ho : ordC g0 c f) (K : ∀ (j : Nat) (x : Int32) (g : am_G), j ≤ f → (∀ k, k ≠ 7 → g k = g0 k) → ordC g c j → (∀ i, i < j → g 7 i ≠ find) → am (d + 1) 29 47 [some (.ref 5), some (.int find), some (.int b), some (.int (nI j)), some (.int x)] [] LY g 0 0 none Q) : ∀ (n i j : Nat) (x y : Int32) (g : am_G), i + n = f → j ≤ i → x = nI j → y = nI i → (∀ k, k ≠ 7 → g k = g0 k) → (∀ p, i ≤ p → g 7 p = g0 7 p) → (∃ m : Nat → Nat, (∀ a, a < j → m a < i ∧ g 7 a = g0 7 (m a)) ∧ ∀ a a2, a < a2 → a2 < j → m a < m a2) → (∀ a, a < j → g 7 a ≠ find) → am (d + 1) 29 5 [some (.ref 5), some (.int find), some (.int b), some (.int x), some (.int y)] [] LY g 0 0 none Q := by
  intro n
  induction n with
  | zero =>
    intro i j x y g hi hj hx hy h1 h2 h3 h4
    have hi : i = f := by omega
    subst hi; subst hx; subst hy
    have f54 : g 5 4 = nI i := by rw [h1 5 (by decide)]; exact e54
    refine am_run_k 4 (And.intro (fun h6 => ?_) (fun hx => absurd ((show g 5 4 ≤ nI i by rw [f54]; exact nI_le (Nat.le_refl i) (by omega))) hx))
    obtain ⟨m, hm1, hm2⟩ := h3
    refine K j _ g hj h1 ⟨fun a ha => ?_, fun a a2 ha ha2 => ?_⟩ h4
    · rw [(hm1 a ha).2]; exact ho.1 _ (hm1 a ha).1
    · rw [(hm1 a (by omega)).2, (hm1 a2 ha2).2]; exact ho.2 _ _ (hm2 a a2 ha ha2) (hm1 a2 ha2).1
  | succ n ih =>
    intro i j x y g hi hj hx hy h1 h2 h3 h4
    subst hx; subst hy
    have f54 : g 5 4 = nI f := by rw [h1 5 (by decide)]; exact e54
    refine am_run_k 4 (And.intro (fun hx => absurd hx ((show ¬ g 5 4 ≤ nI i by rw [f54]; exact nI_ge (by omega) (by omega)))) (fun h6 => ?_))
    refine am_run_k 4 (And.intro (vpn (by omega)) ?_)
    obtain ⟨m, hm1, hm2⟩ := h3
    refine am_run_k 2 (And.intro (fun h7 => ?_) (fun h7 => ?_))
    · refine am_run_k 2 ?_
      exact ih (i + 1) j _ _ g (by omega) (by omega) rfl (nI_1 i) h1 (fun p hp => h2 p (by omega)) ⟨m, fun a ha => ⟨Nat.lt_succ_of_lt (hm1 a ha).1, (hm1 a ha).2⟩, hm2⟩ h4
    · refine am_run_k 7 (And.intro (vpn (by omega)) ?_)
      refine am_run_k 1 (And.intro (vpn (by omega)) ?_)
      refine am_run_k 3 ?_
      rw [ncl (by omega)] at h7
      have ex : (nI i).toNatClampNeg = i := ncl (by omega)
      have ej : (nI j).toNatClampNeg = j := ncl (by omega)
      rw [ex, ej]
      refine ih (i + 1) (j + 1) _ _ _ (by omega) (by omega) (nI_1 j) (nI_1 i) (fun k hk => by rw [am_up_ne hk]; exact h1 k hk) (fun p hp => by rw [am_up_un (by omega)]; exact h2 p (by omega)) ⟨fun a => if a = j then i else m a, fun a ha => ?_, fun a a2 ha ha2 => ?_⟩ (fun a ha => ?_)
      · dsimp only
        by_cases e : a = j
        · subst e
          rw [if_pos rfl, am_up_us]
          exact ⟨by omega, h2 i (Nat.le_refl i)⟩
        · rw [if_neg e, am_up_un e]
          exact ⟨Nat.lt_succ_of_lt (hm1 a (by omega)).1, (hm1 a (by omega)).2⟩
      · dsimp only
        by_cases e : a2 = j
        · subst e
          rw [if_pos rfl, if_neg (by omega)]
          exact (hm1 a (by omega)).1
        · rw [if_neg e, if_neg (by omega)]
          exact hm2 a a2 ha (by omega)
      · by_cases e : a = j
        · subst e
          rw [am_up_us]; exact h7
        · rw [am_up_un e]; exact h4 a (by omega)
theorem ordC.room {c j find : Nat} (ho : ordC g c j) (hc : c ≤ 20) (hfind : find < c) (hn : ∀ i, i < j → g 7 i ≠ nI find) : j + 1 ≤ c := by
  have hv : ∀ i, i < j → (g 7 i).toNatClampNeg < c ∧ g 7 i = nI (g 7 i).toNatClampNeg := by
    intro i hi
    obtain ⟨q, hq, e⟩ := ho.1 i hi
    rw [e, ncl (by omega)]
    exact ⟨hq, rfl⟩
  refine fb_holes c (j + 1) (fun i => if i = j then find else (g 7 i).toNatClampNeg) (fun i hi => ?_) (fun i i2 hi hi2 => ?_)
  · split
    · exact hfind
    · exact (hv i (by omega)).1
  · rw [if_neg (by omega)]
    split
    · intro e
      exact hn i (by omega) (by rw [(hv i (by omega)).2, e])
    · intro e
      exact ho.2 i i2 hi (by omega) (by rw [(hv i (by omega)).2, (hv i2 (by omega)).2, e])
theorem w_setFound {fd c f : Nat} {b : Int32} (hc : c ≤ 20) (hf : f ≤ 20) (hfd : fd < c) (e54 : g 5 4 = nI f) (ho : ordC g c f) (h : ∀ (g' : am_G) (f' : Nat), (∀ k, k ≠ 5 → k ≠ 7 → g' k = g k) → (∀ j, j ≠ 2 → j ≠ 4 → g' 5 j = g 5 j) → f' ≤ 20 → g' 5 4 = nI f' → ordC g' c f' → Q none LY g') : am (d + 1) 29 0 [some (.ref 5), some (.int (nI fd)), some (.int b), none, none] [] LY g 0 0 none Q := by
  refine am_run_k 4 ?_
  refine l_29_5 (g0 := g) hc hf e54 ho (fun j x g1 hj h1 h2 h3 => ?_) f 0 0 _ _ g (Nat.zero_add f) (Nat.le_refl 0) rfl rfl (fun k _ => rfl) (fun p _ => rfl) ⟨fun a => a, fun a ha => absurd ha (by omega), fun a a2 ha ha2 => absurd ha2 (by omega)⟩ (fun a ha => absurd ha (by omega))
  have hroom := h2.room hc hfd h3
  refine am_run_k 15 (And.intro (fun h4 => ?_) (fun h4 => ?_))
  · refine am_run_k 1 ?_
    refine h _ j (fun k h5 h7 => ?_) (fun i hi2 hi4 => ?_) (by omega) ?_ ?_
    · rw [am_up_ne h5, am_up_ne h5]; exact h1 k h7
    · rw [am_up_un hi2, am_up_un hi4]; rw [h1 5 (by decide)]
    · rw [am_up_un (by decide), am_up_us]
    · unfold ordC; rw [am_up_ne (by decide), am_up_ne (by decide)]; exact h2
  · refine am_run_k 6 (And.intro (vpe (n := j) (by rw [am_up_un (by decide), am_up_us]) (by omega)) ?_)
    refine am_run_k 15 ?_
    have ej : (am_up (am_up g1 5 4 (nI j)) 5 2 (g1 5 2 &&& (am_sh (nI fd) ^^^ (-1))) 5 4) = nI j := by rw [am_up_un (by decide), am_up_us]
    refine h _ (j + 1) (fun k h5 h7 => ?_) (fun i hi2 hi4 => ?_) (by omega) ?_ ?_
    · rw [am_up_ne h5, am_up_ne h5, am_up_ne h7, am_up_ne h5, am_up_ne h5]; exact h1 k h7
    · rw [am_up_un hi2, am_up_un hi4, am_up_ne (by decide), am_up_un hi2, am_up_un hi4]; rw [h1 5 (by decide)]
    · rw [am_up_un (by decide), am_up_us, am_up_ne (by decide), am_up_un (by decide), am_up_us]; exact nI_1 j
    · unfold ordC
      rw [am_up_ne (by decide), am_up_ne (by decide)]
      rw [am_up_un (k := 5) (i := 2) (j := 4) (by decide), am_up_us, ncl (by omega)]
      rw [am_up_at, am_up_ne (by decide), am_up_ne (by decide)]
      refine ⟨fun i hi => ?_, fun i i2 hi hi2 => ?_⟩
      · by_cases e : i = j
        · exact ⟨fd, hfd, by simp [upd, e]⟩
        · obtain ⟨q, hq, eq⟩ := h2.1 i (by omega)
          exact ⟨q, hq, by simp [upd, e]; exact eq⟩
      · have n1 : i ≠ j := by omega
        by_cases e : i2 = j
        · simp [upd, e, n1]; exact h3 i (by omega)
        · simp [upd, e, n1]; exact h2.2 i i2 hi (by omega)
theorem f_found {a b : Int32} (I : IC g) (h : ∀ r g', IC g' → frC g g' → Q (some (.int r)) LY g') : am (d + 2) 57 0 [some (.ref 0), some (.int a), some (.int b), none] [] LY g 0 0 none Q := by
  obtain ⟨c, hc, e51, hr, f, hf, e54, ho⟩ := id I.1.2.2
  refine am_run_k 5 (am_cl ?_)
  refine w_holds ?_
  refine am_run_k 1 (And.intro (fun h1 => ?_) (fun h1 => ?_))
  · have hb := bi_t h1
    rw [e51] at hb
    obtain ⟨fd, hfd, ea⟩ := am_ir_nI (by omega) hb
    subst ea
    refine am_run_k 5 (am_cl ?_)
    refine w_isFound ?_
    have fin : ∀ u : Int32, am (d + 2) 57 35 [some (.ref 0), some (.int (nI fd)), some (.int b), none] [.int u] LY g 0 0 none Q := by
      intro u
      refine am_run_k 7 (am_cl ?_)
      refine w_setFound hc hf hfd e54 ho (fun g1 f1 q1 q2 q3 q4 q5 => ?_)
      refine am_run_k 2 ?_
      have fr : frC g g1 := fun k hk => q1 k (by omega) (by omega)
      refine h _ g1 ⟨⟨by rw [q1 1 (by decide) (by decide)]; exact I.1.1, by rw [q1 1 (by decide) (by decide)]; exact I.1.2.1, c, hc, by rw [q2 1 (by decide) (by decide)]; exact e51, ?_, f1, q3, q4, q5⟩, I.2.fr fr⟩ fr
      unfold rowsC; rw [q1 6 (by decide) (by decide)]; exact hr
    refine am_run_k 1 (And.intro (fun h2 => ?_) (fun h2 => ?_))
    · refine am_run_k 1 ?_
      exact fin _
    · refine am_run_k 2 ?_
      exact fin _
  · refine am_run_k 2 ?_
    exact h _ g I frC.rf
theorem f_about {a b : Int32} (I : IC g) (h : ∀ r, Q (some (.int r)) LY g) : am (d + 2) 58 0 [some (.ref 0), some (.int a), some (.int b)] [] LY g 0 0 none Q := by
  obtain ⟨c, hc, e51, -⟩ := id I.1.2.2
  refine am_run_k 5 (am_cl ?_)
  refine w_holds ?_
  refine am_run_k 1 (And.intro (fun h1 => ?_) (fun h1 => ?_))
  · refine am_run_k 2 ?_
    exact h _
  · have hb := bi_t h1
    rw [e51] at hb
    obtain ⟨fd, hfd, ea⟩ := am_ir_nI (by omega) hb
    subst ea
    refine am_run_k 2 (And.intro (fun h2 => ?_) (fun h2 => ?_))
    · refine am_run_k 2 ?_
      exact h _
    · refine am_run_k 3 (And.intro (fun h3 => ?_) (fun h3 => ?_))
      · refine am_run_k 3 (And.intro (fun h4 => ?_) (fun h4 => ?_))
        · obtain ⟨m, hm1, hm2, eb⟩ := nI_rng (a := 0) (b := 5) (fa_nlt.mp h2) h3
          subst eb
          have hm5 : m ≠ 5 := fun q => h4 (by rw [q]; rfl)
          have ei : nI fd * 5 + nI m = nI (fd * 5 + m) := by rw [nIm5]; exact nI_add _ _
          refine am_run_k 10 (And.intro (vpe ei (by omega)) ?_)
          refine am_run_k 1 ?_
          exact h _
        · refine am_run_k 5 (am_cl ?_)
          refine w_isFound ?_
          refine am_run_k 1 (And.intro (fun h5 => ?_) (fun h5 => ?_))
          · refine am_run_k 2 ?_
            exact h _
          · refine am_run_k 3 ?_
            exact h _
      · refine am_run_k 2 ?_
        exact h _
end FAD
end
section
section FAE
variable {d : Nat} {L : am_L} {g : am_G} {bc bs : Nat} {sx : am_S} {Q : am_Q}
theorem ix5 {i k : Nat} : nI i + nI k * 5 = nI (i + k * 5) := by rw [nIm5]; exact nI_add _ _
theorem ix51 {i k : Nat} : nI i + nI k * 5 + 1 = nI (i + k * 5 + 1) := by rw [ix5]; exact nI_1 _
theorem ix52 {i k : Nat} : nI i + nI k * 5 + 2 = nI (i + k * 5 + 2) := by rw [ix5]; exact nIp2 _
theorem ix53 {i k : Nat} : nI i + nI k * 5 + 3 = nI (i + k * 5 + 3) := by rw [ix5]; exact nIp3 _
theorem ix54 {i k : Nat} : nI i + nI k * 5 + 4 = nI (i + k * 5 + 4) := by rw [ix5]; exact nIp4 _
def fdA (n : Int32) (f : Nat → Int32) (j : Nat) : Bool := fdB n (f j) (f (j + 1)) (f (j + 2)) (f (j + 3)) (f (j + 4))
theorem l_80_3_19 {i n : Nat} (hn : i + n * 5 ≤ 60) (h0 : (∃ k, k < n ∧ fdA (g 1 3) (g 19) (i + k * 5) = false) → Q (some (.int 0)) LY g) (h1 : (∀ k, k < n → fdA (g 1 3) (g 19) (i + k * 5) = true) → Q (some (.int 1)) LY g) : ∀ (m k : Nat) (x : Int32) (lz : Option Value), k + m = n → x = nI k → (∀ p, p < k → fdA (g 1 3) (g 19) (i + p * 5) = true) → am (d + 2) 80 3 [some (.ref 0), some (.ref 19), some (.int (nI i)), some (.int (nI n)), some (.int x), lz] [] LY g 0 0 none Q := by
  intro m
  induction m with
  | zero =>
    intro k x lz hk hx hp
    have hk : k = n := by omega
    subst hk; subst hx
    refine am_run_k 3 (And.intro (fun h6 => ?_) (fun hx => absurd ((nI_le (Nat.le_refl k) (by omega))) hx))
    refine am_run_k 2 (And.intro (Or.inr rfl) ?_)
    exact h1 hp
  | succ m ih =>
    intro k x lz hk hx hp
    subst hx
    refine am_run_k 3 (And.intro (fun hx => absurd hx ((nI_ge (by omega) (by omega)))) (fun h6 => ?_))
    refine am_run_k 11 (And.intro (vpe ix5 (by omega)) ?_)
    refine am_run_k 5 (And.intro (vpe ix51 (by omega)) ?_)
    refine am_run_k 5 (And.intro (vpe ix52 (by omega)) ?_)
    refine am_run_k 5 (And.intro (vpe ix53 (by omega)) ?_)
    refine am_run_k 5 (And.intro (vpe ix54 (by omega)) ?_)
    rw [cle ix5 (by omega), cle ix51 (by omega), cle ix52 (by omega), cle ix53 (by omega), cle ix54 (by omega)]
    refine am_run_k 1 (am_cl ?_)
    refine w_isFind ?_
    refine am_run_k 1 (And.intro (fun h7 => ?_) (fun h7 => ?_))
    · refine am_run_k 2 ?_
      refine ih (k + 1) _ _ (by omega) (nI_1 k) (fun p hpk => ?_)
      rcases Nat.lt_succ_iff_lt_or_eq.mp hpk with q | q
      · exact hp p q
      · subst q; exact bi_t h7
    · refine am_run_k 2 (And.intro (Or.inl rfl) ?_)
      exact h0 ⟨k, by omega, bi_f h7⟩
theorem w_areFinds_19 {i n : Nat} (hn : i + n * 5 ≤ 60) (h0 : (∃ k, k < n ∧ fdA (g 1 3) (g 19) (i + k * 5) = false) → Q (some (.int 0)) LY g) (h1 : (∀ k, k < n → fdA (g 1 3) (g 19) (i + k * 5) = true) → Q (some (.int 1)) LY g) : am (d + 2) 80 0 [some (.ref 0), some (.ref 19), some (.int (nI i)), some (.int (nI n)), none, none] [] LY g 0 0 none Q := by
  refine am_run_k 2 ?_
  exact l_80_3_19 hn h0 h1 n 0 0 _ (Nat.zero_add n) rfl (fun p hp => absurd hp (by omega))
theorem l_81_3_19 {i n c0 : Nat} {g0 : am_G} (hn : i + n * 5 ≤ 60) (hc : c0 + n ≤ 20) (hok : ∀ k, k < n → fdA (g0 1 3) (g0 19) (i + k * 5) = true) (h : ∀ g', VC g' → frC g0 g' → Q none LY g') : ∀ (m k : Nat) (x : Int32) (lz : Option Value) (g : am_G), k + m = n → x = nI k → VC g → g 5 1 = nI (c0 + k) → (∀ j, j ≠ 5 → j ≠ 6 → g j = g0 j) → am (d + 2) 81 3 [some (.ref 0), some (.ref 19), some (.int (nI i)), some (.int (nI n)), some (.int x), lz] [] LY g 0 0 none Q := by
  intro m
  induction m with
  | zero =>
    intro k x lz g hk hx v e51 he
    have hk : k = n := by omega
    subst hk; subst hx
    refine am_run_k 3 (And.intro (fun h6 => ?_) (fun hx => absurd ((nI_le (Nat.le_refl k) (by omega))) hx))
    refine am_run_k 1 ?_
    exact h g v (fun j hj => he j (by omega) (by omega))
  | succ m ih =>
    intro k x lz g hk hx v e51 he
    subst hx
    refine am_run_k 3 (And.intro (fun hx => absurd hx ((nI_ge (by omega) (by omega)))) (fun h6 => ?_))
    refine am_run_k 12 (And.intro (vpe ix5 (by omega)) ?_)
    refine am_run_k 5 (And.intro (vpe ix51 (by omega)) ?_)
    refine am_run_k 5 (And.intro (vpe ix52 (by omega)) ?_)
    refine am_run_k 5 (And.intro (vpe ix53 (by omega)) ?_)
    refine am_run_k 5 (And.intro (vpe ix54 (by omega)) ?_)
    rw [cle ix5 (by omega), cle ix51 (by omega), cle ix52 (by omega), cle ix53 (by omega), cle ix54 (by omega)]
    refine am_run_k 1 (am_cl ?_)
    refine w_add (n := c0 + k) (by omega) e51 ?_
    refine am_run_k 2 ?_
    obtain ⟨np, hn1, hn2, e13⟩ := id v.1
    have hf := hok k (by omega)
    rw [← he 1 (by decide) (by decide), e13, ← he 19 (by decide) (by decide)] at hf
    refine ih (k + 1) _ _ _ (by omega) (nI_1 k) (v.add (by omega) e51 (rowOK_of hn2 hf)) ?_ (fun j h5 h6 => ?_)
    · unfold am_add; rw [am_up_us]; rfl
    · rw [am_add_ne h5 h6]; exact he j h5 h6
theorem w_layFinds_19 {i n c0 : Nat} (hn : i + n * 5 ≤ 60) (hc : c0 + n ≤ 20) (v : VC g) (e51 : g 5 1 = nI c0) (hok : ∀ k, k < n → fdA (g 1 3) (g 19) (i + k * 5) = true) (h : ∀ g', VC g' → frC g g' → Q none LY g') : am (d + 2) 81 0 [some (.ref 0), some (.ref 19), some (.int (nI i)), some (.int (nI n)), none, none] [] LY g 0 0 none Q := by
  refine am_run_k 2 ?_
  exact l_81_3_19 (g0 := g) hn hc hok h n 0 0 _ g (Nat.zero_add n) rfl v e51 (fun j _ _ => rfl)
theorem l_80_3_21 {i n : Nat} (hn : i + n * 5 ≤ 60) (h0 : (∃ k, k < n ∧ fdA (g 1 3) (g 21) (i + k * 5) = false) → Q (some (.int 0)) LY g) (h1 : (∀ k, k < n → fdA (g 1 3) (g 21) (i + k * 5) = true) → Q (some (.int 1)) LY g) : ∀ (m k : Nat) (x : Int32) (lz : Option Value), k + m = n → x = nI k → (∀ p, p < k → fdA (g 1 3) (g 21) (i + p * 5) = true) → am (d + 2) 80 3 [some (.ref 0), some (.ref 21), some (.int (nI i)), some (.int (nI n)), some (.int x), lz] [] LY g 0 0 none Q := by
  intro m
  induction m with
  | zero =>
    intro k x lz hk hx hp
    have hk : k = n := by omega
    subst hk; subst hx
    refine am_run_k 3 (And.intro (fun h6 => ?_) (fun hx => absurd ((nI_le (Nat.le_refl k) (by omega))) hx))
    refine am_run_k 2 (And.intro (Or.inr rfl) ?_)
    exact h1 hp
  | succ m ih =>
    intro k x lz hk hx hp
    subst hx
    refine am_run_k 3 (And.intro (fun hx => absurd hx ((nI_ge (by omega) (by omega)))) (fun h6 => ?_))
    refine am_run_k 11 (And.intro (vpe ix5 (by omega)) ?_)
    refine am_run_k 5 (And.intro (vpe ix51 (by omega)) ?_)
    refine am_run_k 5 (And.intro (vpe ix52 (by omega)) ?_)
    refine am_run_k 5 (And.intro (vpe ix53 (by omega)) ?_)
    refine am_run_k 5 (And.intro (vpe ix54 (by omega)) ?_)
    rw [cle ix5 (by omega), cle ix51 (by omega), cle ix52 (by omega), cle ix53 (by omega), cle ix54 (by omega)]
    refine am_run_k 1 (am_cl ?_)
    refine w_isFind ?_
    refine am_run_k 1 (And.intro (fun h7 => ?_) (fun h7 => ?_))
    · refine am_run_k 2 ?_
      refine ih (k + 1) _ _ (by omega) (nI_1 k) (fun p hpk => ?_)
      rcases Nat.lt_succ_iff_lt_or_eq.mp hpk with q | q
      · exact hp p q
      · subst q; exact bi_t h7
    · refine am_run_k 2 (And.intro (Or.inl rfl) ?_)
      exact h0 ⟨k, by omega, bi_f h7⟩
theorem w_areFinds_21 {i n : Nat} (hn : i + n * 5 ≤ 60) (h0 : (∃ k, k < n ∧ fdA (g 1 3) (g 21) (i + k * 5) = false) → Q (some (.int 0)) LY g) (h1 : (∀ k, k < n → fdA (g 1 3) (g 21) (i + k * 5) = true) → Q (some (.int 1)) LY g) : am (d + 2) 80 0 [some (.ref 0), some (.ref 21), some (.int (nI i)), some (.int (nI n)), none, none] [] LY g 0 0 none Q := by
  refine am_run_k 2 ?_
  exact l_80_3_21 hn h0 h1 n 0 0 _ (Nat.zero_add n) rfl (fun p hp => absurd hp (by omega))
theorem l_81_3_21 {i n c0 : Nat} {g0 : am_G} (hn : i + n * 5 ≤ 60) (hc : c0 + n ≤ 20) (hok : ∀ k, k < n → fdA (g0 1 3) (g0 21) (i + k * 5) = true) (h : ∀ g', VC g' → frC g0 g' → Q none LY g') : ∀ (m k : Nat) (x : Int32) (lz : Option Value) (g : am_G), k + m = n → x = nI k → VC g → g 5 1 = nI (c0 + k) → (∀ j, j ≠ 5 → j ≠ 6 → g j = g0 j) → am (d + 2) 81 3 [some (.ref 0), some (.ref 21), some (.int (nI i)), some (.int (nI n)), some (.int x), lz] [] LY g 0 0 none Q := by
  intro m
  induction m with
  | zero =>
    intro k x lz g hk hx v e51 he
    have hk : k = n := by omega
    subst hk; subst hx
    refine am_run_k 3 (And.intro (fun h6 => ?_) (fun hx => absurd ((nI_le (Nat.le_refl k) (by omega))) hx))
    refine am_run_k 1 ?_
    exact h g v (fun j hj => he j (by omega) (by omega))
  | succ m ih =>
    intro k x lz g hk hx v e51 he
    subst hx
    refine am_run_k 3 (And.intro (fun hx => absurd hx ((nI_ge (by omega) (by omega)))) (fun h6 => ?_))
    refine am_run_k 12 (And.intro (vpe ix5 (by omega)) ?_)
    refine am_run_k 5 (And.intro (vpe ix51 (by omega)) ?_)
    refine am_run_k 5 (And.intro (vpe ix52 (by omega)) ?_)
    refine am_run_k 5 (And.intro (vpe ix53 (by omega)) ?_)
    refine am_run_k 5 (And.intro (vpe ix54 (by omega)) ?_)
    rw [cle ix5 (by omega), cle ix51 (by omega), cle ix52 (by omega), cle ix53 (by omega), cle ix54 (by omega)]
    refine am_run_k 1 (am_cl ?_)
    refine w_add (n := c0 + k) (by omega) e51 ?_
    refine am_run_k 2 ?_
    obtain ⟨np, hn1, hn2, e13⟩ := id v.1
    have hf := hok k (by omega)
    rw [← he 1 (by decide) (by decide), e13, ← he 21 (by decide) (by decide)] at hf
    refine ih (k + 1) _ _ _ (by omega) (nI_1 k) (v.add (by omega) e51 (rowOK_of hn2 hf)) ?_ (fun j h5 h6 => ?_)
    · unfold am_add; rw [am_up_us]; rfl
    · rw [am_add_ne h5 h6]; exact he j h5 h6
theorem w_layFinds_21 {i n c0 : Nat} (hn : i + n * 5 ≤ 60) (hc : c0 + n ≤ 20) (v : VC g) (e51 : g 5 1 = nI c0) (hok : ∀ k, k < n → fdA (g 1 3) (g 21) (i + k * 5) = true) (h : ∀ g', VC g' → frC g g' → Q none LY g') : am (d + 2) 81 0 [some (.ref 0), some (.ref 21), some (.int (nI i)), some (.int (nI n)), none, none] [] LY g 0 0 none Q := by
  refine am_run_k 2 ?_
  exact l_81_3_21 (g0 := g) hn hc hok h n 0 0 _ g (Nat.zero_add n) rfl v e51 (fun j _ _ => rfl)
theorem nI_sub_lt {m n i : Nat} {x : Int32} (hm : m < 2 ^ 30) (hn : n < 2 ^ 30) (hx : x = nI i) (hi : i < 2 ^ 31) (h : ¬ nI m - nI n < x) : i + n ≤ m := by
  subst hx
  rw [Int32.lt_iff_toInt_lt, pk_sub_toInt hm hn, nI_toInt hi] at h
  omega
theorem l_56_28 {a : Int32} {n s : Nat} {b c : Int32} (hn : n ≤ 12) (I : IC g) (h : ∀ r g', IC g' → frC g g' → Q (some (.int r)) LY g') (sh : s = 18 ∧ a = 0 ∨ s = 20 ∧ a = 1) : am (d + 3) 56 28 [some (.ref 0), some (.int a), some (.int b), some (.int c), some (.int (nI n)), none, none] [] LY g 0 0 none Q := by
  obtain ⟨cc, hc, e51, hr, hrest⟩ := id I.1.2.2
  have go18 : am (d + 3) 56 36 [some (.ref 0), some (.int 0), some (.int b), some (.int c), some (.int (nI n)), some (.ref 18), none] [] LY g 0 0 none Q := by
    obtain ⟨ml, hml, el⟩ := I.2.1
    refine am_run_k 3 (am_cl ?_)
    refine w_takenAs0 ?_
    refine am_run_k 3 (And.intro (fun h1 => ?_) (fun h1 => ?_))
    · refine am_run_k 2 (And.intro (fun h2 => ?_) (fun h2 => ?_))
      · refine am_run_k 2 ?_
        exact h _ g I frC.rf
      · obtain ⟨i, hi, ei⟩ := nI_of (fa_nlt.mpr (fa_nlt.mp h2))
        subst ei
        refine am_run_k 8 (And.intro (fun h3 => ?_) (fun h3 => ?_))
        · refine am_run_k 6 (am_cl ?_)
          have e5 : nI n * 5 = nI (n * 5) := nIm5 n
          have hroom : i + n * 5 ≤ ml := by
            refine nI_sub_lt (m := ml) (n := n * 5) (by omega) (by omega) rfl hi ?_
            rw [← el, ← e5]
            exact fa_nlt.mpr h3
          refine w_areFinds_19 (i := i) (n := n) (by omega) (fun hz => ?_) (fun hz => ?_)
          · refine am_run_k 1 (And.intro (fun hx => absurd hx ((by decide))) (fun h4 => ?_))
            refine am_run_k 2 ?_
            exact h _ g I frC.rf
          · refine am_run_k 1 (And.intro (fun h4 => ?_) (fun hx => absurd hx ((by decide))))
            refine am_run_k 8 (And.intro (fun h5 => ?_) (fun h5 => ?_))
            · refine am_run_k 6 (am_cl ?_)
              have h5 : g 5 1 + nI n ≤ 20 := h5
              rw [e51, nI_add] at h5
              have hcn : cc + n ≤ 20 := (nI_leI (by omega) (by decide)).mp h5
              refine w_layFinds_19 (i := i) (n := n) (c0 := cc) (by omega) hcn I.1 e51 hz (fun g1 v1 f1 => ?_)
              refine am_run_k 5 ?_
              exact h _ g1 ⟨v1, I.2.fr f1⟩ f1
            · refine am_run_k 2 ?_
              exact h _ g I frC.rf
        · refine am_run_k 2 ?_
          exact h _ g I frC.rf
    · refine am_run_k 2 ?_
      exact h _ g I frC.rf
  have go20 : am (d + 3) 56 36 [some (.ref 0), some (.int 1), some (.int b), some (.int c), some (.int (nI n)), some (.ref 20), none] [] LY g 0 0 none Q := by
    obtain ⟨ml, hml, el⟩ := I.2.2
    refine am_run_k 3 (am_cl ?_)
    refine w_takenAs1 ?_
    refine am_run_k 3 (And.intro (fun h1 => ?_) (fun h1 => ?_))
    · refine am_run_k 2 (And.intro (fun h2 => ?_) (fun h2 => ?_))
      · refine am_run_k 2 ?_
        exact h _ g I frC.rf
      · obtain ⟨i, hi, ei⟩ := nI_of (fa_nlt.mpr (fa_nlt.mp h2))
        subst ei
        refine am_run_k 8 (And.intro (fun h3 => ?_) (fun h3 => ?_))
        · refine am_run_k 6 (am_cl ?_)
          have e5 : nI n * 5 = nI (n * 5) := nIm5 n
          have hroom : i + n * 5 ≤ ml := by
            refine nI_sub_lt (m := ml) (n := n * 5) (by omega) (by omega) rfl hi ?_
            rw [← el, ← e5]
            exact fa_nlt.mpr h3
          refine w_areFinds_21 (i := i) (n := n) (by omega) (fun hz => ?_) (fun hz => ?_)
          · refine am_run_k 1 (And.intro (fun hx => absurd hx ((by decide))) (fun h4 => ?_))
            refine am_run_k 2 ?_
            exact h _ g I frC.rf
          · refine am_run_k 1 (And.intro (fun h4 => ?_) (fun hx => absurd hx ((by decide))))
            refine am_run_k 8 (And.intro (fun h5 => ?_) (fun h5 => ?_))
            · refine am_run_k 6 (am_cl ?_)
              have h5 : g 5 1 + nI n ≤ 20 := h5
              rw [e51, nI_add] at h5
              have hcn : cc + n ≤ 20 := (nI_leI (by omega) (by decide)).mp h5
              refine w_layFinds_21 (i := i) (n := n) (c0 := cc) (by omega) hcn I.1 e51 hz (fun g1 v1 f1 => ?_)
              refine am_run_k 5 ?_
              exact h _ g1 ⟨v1, I.2.fr f1⟩ f1
            · refine am_run_k 2 ?_
              exact h _ g I frC.rf
        · refine am_run_k 2 ?_
          exact h _ g I frC.rf
    · refine am_run_k 2 ?_
      exact h _ g I frC.rf
  rcases sh with ⟨e1, e2⟩ | ⟨e1, e2⟩
  · subst e1; subst e2
    refine am_run_k 4 (And.intro (vpe (n := 0) rfl (by decide)) ?_)
    refine am_run_k 1 ?_
    exact go18
  · subst e1; subst e2
    refine am_run_k 4 (And.intro (vpe (n := 1) rfl (by decide)) ?_)
    refine am_run_k 1 ?_
    exact go20
theorem f_finds {a b c n : Int32} (I : IC g) (h : ∀ r g', IC g' → frC g g' → Q (some (.int r)) LY g') : am (d + 3) 56 0 [some (.ref 0), some (.int a), some (.int b), some (.int c), some (.int n), none, none] [] LY g 0 0 none Q := by
  refine am_run_k 2 (am_cl ?_)
  refine w_isSheet ?_
  refine am_run_k 1 (And.intro (fun h1 => ?_) (fun h1 => ?_))
  · refine am_run_k 2 ?_
    exact h _ g I frC.rf
  · obtain ⟨j, hj, ea⟩ := am_ir_nI (k := 2) (by decide) (bi_t h1)
    refine am_run_k 2 (am_cl ?_)
    refine w_isLane ?_
    refine am_run_k 1 (And.intro (fun h2 => ?_) (fun h2 => ?_))
    · refine am_run_k 2 ?_
      exact h _ g I frC.rf
    · refine am_run_k 2 (And.intro (fun h3 => ?_) (fun h3 => ?_))
      · refine am_run_k 2 ?_
        exact h _ g I frC.rf
      · refine am_run_k 3 (And.intro (fun h4 => ?_) (fun h4 => ?_))
        · obtain ⟨m, hm1, hm2, en⟩ := nI_rng (a := 0) (b := 12) (fa_nlt.mp h3) h4
          subst en
          refine l_56_28 (s := if j = 0 then 18 else 20) hm2 I h ?_
          rcases (show j = 0 ∨ j = 1 by omega) with q | q
          · subst q; exact Or.inl ⟨rfl, ea⟩
          · subst q; exact Or.inr ⟨rfl, ea⟩
        · refine am_run_k 2 ?_
          exact h _ g I frC.rf
theorem f_denied {a : Int32} (I : IC g) (h : ∀ r g', IC g' → frC g g' → Q (some (.int r)) LY g') : am (d + 4) 60 0 [some (.ref 0), some (.int a)] [] LY g 0 0 none Q := by
  obtain ⟨c, hc, e51, hr, hrest⟩ := id I.1.2.2
  refine am_run_k 5 (am_cl ?_)
  refine w_holds ?_
  refine am_run_k 1 (And.intro (fun h1 => ?_) (fun h1 => ?_))
  · have hb := bi_t h1
    rw [e51] at hb
    obtain ⟨fd, hfd, ea⟩ := am_ir_nI (by omega) hb
    subst ea
    refine am_run_k 5 (am_cl ?_)
    refine w_kind (k := fd) (by omega) ?_
    refine am_run_k 2 (And.intro (fun h2 => ?_) (fun h2 => ?_))
    · refine am_run_k 6 (am_cl ?_)
      refine w_deny hfd hc h2 hr I.1 (fun r g1 hr1 hg1 => ?_)
      refine am_run_k 1 (And.intro (fun h3 => ?_) (fun h3 => ?_))
      · refine am_run_k 2 ?_
        exact h _ g1 (I.sc hg1) (frC.sc hg1)
      · refine am_run_k 3 ?_
        exact h _ g1 (I.sc hg1) (frC.sc hg1)
    · refine am_run_k 2 ?_
      exact h _ g I frC.rf
  · refine am_run_k 2 ?_
    exact h _ g I frC.rf
theorem f_suspects (I : IC g) (h : ∀ r g', scC g g' → Q (some (.int r)) LY g') : am (d + 5) 61 0 [some (.ref 0)] [] LY g 0 0 none Q := by
  refine am_run_k 11 (am_cl ?_)
  refine w_everyone ?_
  refine am_run_k 1 (am_cl ?_)
  refine w_suspectsOf I.1 (fun r g1 hg1 => ?_)
  refine am_run_k 1 ?_
  exact h r g1 hg1
theorem person {n : Nat} {a : Int32} (e13 : g 1 3 = nI n) (hn : n ≤ 6) (h : am_ir a (g 1 3) = true) : ∃ q, q < 6 ∧ a = nI q := by
  rw [e13] at h
  obtain ⟨q, hq, e⟩ := am_ir_nI (by omega) h
  exact ⟨q, by omega, e⟩
theorem f_with {a : Int32} (I : IC g) (h : ∀ r g', scC g g' → Q (some (.int r)) LY g') : am (d + 4) 62 0 [some (.ref 0), some (.int a)] [] LY g 0 0 none Q := by
  obtain ⟨n, hn1, hn2, e13⟩ := id I.1.1
  refine am_run_k 4 (am_cl ?_)
  refine w_isPerson ?_
  refine am_run_k 1 (And.intro (fun h1 => ?_) (fun h1 => ?_))
  · obtain ⟨q, hq, ea⟩ := person e13 hn2 (bi_t h1)
    subst ea
    refine am_run_k 10 (am_cl ?_)
    refine w_thingsOf hq I.1 (fun r g1 hg1 => ?_)
    refine am_run_k 1 ?_
    exact h r g1 hg1
  · refine am_run_k 2 ?_
    exact h _ g scC.rf
theorem f_way {a b c : Int32} (I : IC g) (h : ∀ r g', scC g g' → Q (some (.int r)) LY g') : am (d + 4) 63 0 [some (.ref 0), some (.int a), some (.int b), some (.int c)] [] LY g 0 0 none Q := by
  obtain ⟨n, hn1, hn2, e13⟩ := id I.1.1
  refine am_run_k 4 (am_cl ?_)
  refine w_isPerson ?_
  refine am_run_k 1 (And.intro (fun h1 => ?_) (fun h1 => ?_))
  · refine am_run_k 2 ?_
    exact h _ g scC.rf
  · obtain ⟨q, hq, ea⟩ := person e13 hn2 (bi_t h1)
    subst ea
    refine am_run_k 2 (am_cl ?_)
    refine w_isThing ?_
    refine am_run_k 1 (And.intro (fun h2 => ?_) (fun h2 => ?_))
    · refine am_run_k 2 ?_
      exact h _ g scC.rf
    · obtain ⟨w, hw, eb⟩ := am_ir_nI (k := 3) (by decide) (bi_t h2)
      subst eb
      refine am_run_k 2 (am_cl ?_)
      refine w_isTick ?_
      refine am_run_k 1 (And.intro (fun h3 => ?_) (fun h3 => ?_))
      · obtain ⟨t, ht, ec⟩ := am_ir_nI (k := 10) (by decide) (bi_t h3)
        subst ec
        refine am_run_k 10 (am_cl ?_)
        refine w_thingsOf hq I.1 (fun r g1 hg1 => ?_)
        refine am_run_k 2 (am_cl ?_)
        refine w_has ?_
        refine am_run_k 1 (And.intro (fun h4 => ?_) (fun h4 => ?_))
        · refine am_run_k 8 (am_cl ?_)
          refine w_placeAt hq (vpn hw) ht (fun r2 g2 hg2 => ?_)
          refine am_run_k 1 ?_
          exact h r2 g2 (hg1.tr hg2)
        · refine am_run_k 2 ?_
          exact h _ g1 hg1
      · refine am_run_k 2 ?_
        exact h _ g scC.rf
theorem f_doer (I : IC g) (h : ∀ r g', scC g g' → Q (some (.int r)) LY g') : am (d + 6) 64 0 [some (.ref 0), none] [] LY g 0 0 none Q := by
  refine am_run_k 2 (am_cl ?_)
  refine f_suspects I (fun r g1 hg1 => ?_)
  refine am_run_k 3 (am_cl ?_)
  refine w_bitCount ?_
  refine am_run_k 2 (And.intro (fun h1 => ?_) (fun h1 => ?_))
  · refine am_run_k 2 ?_
    exact h _ g1 hg1
  · refine am_run_k 2 (am_cl ?_)
    refine w_first ?_
    refine am_run_k 2 ?_
    exact h _ g1 hg1
theorem l_65_14 {c : Nat} {be : Int32} {g0 : am_G} (hc : c ≤ 20) (e51 : g0 5 1 = nI c) (I : IC g0) (h : ∀ r g', scC g0 g' → Q (some (.int r)) LY g') : ∀ (m k : Nat) (x s1 s2 : Int32) (lz : Option Value) (g : am_G), k + m = c → x = nI k → scC g0 g → am (d + 6) 65 14 [some (.ref 0), some (.int be), some (.int s1), some (.int s2), some (.int x), lz] [] LY g 0 0 none Q := by
  intro m
  induction m with
  | zero =>
    intro k x s1 s2 lz g hk hx hg
    have hk : k = c := by omega
    subst hk; subst hx
    have f51 : g 5 1 = nI k := by rw [hg 5 (by omega)]; exact e51
    refine am_run_k 6 (And.intro (fun h6 => ?_) (fun hx => absurd ((show g 5 1 ≤ nI k by rw [f51]; exact nI_le (Nat.le_refl k) (by omega))) hx))
    refine am_run_k 2 ?_
    exact h _ g hg
  | succ m ih =>
    intro k x s1 s2 lz g hk hx hg
    subst hx
    have f51 : g 5 1 = nI c := by rw [hg 5 (by omega)]; exact e51
    refine am_run_k 6 (And.intro (fun hx => absurd hx ((show ¬ g 5 1 ≤ nI k by rw [f51]; exact nI_ge (by omega) (by omega)))) (fun h6 => ?_))
    have nxt : ∀ (s1 s2 : Int32) (lz : Option Value) (g1 : am_G), scC g0 g1 → am (d + 6) 65 94 [some (.ref 0), some (.int be), some (.int s1), some (.int s2), some (.int (nI k)), lz] [] LY g1 0 0 none Q := by
      intro s1 s2 lz g1 hg1
      refine am_run_k 2 ?_
      exact ih (k + 1) _ _ _ _ g1 (by omega) (nI_1 k) hg1
    refine am_run_k 5 (am_cl ?_)
    refine w_isFound ?_
    refine am_run_k 1 (And.intro (fun h7 => ?_) (fun h7 => ?_))
    · exact nxt _ _ _ g hg
    · refine am_run_k 14 (am_cl ?_)
      refine w_suspectsOf (I.sc hg).1 (fun r g1 hg1 => ?_)
      refine am_run_k 1 (am_cl ?_)
      refine w_bitCount ?_
      refine am_run_k 4 (And.intro (fun h8 => ?_) (fun h8 => ?_))
      · exact nxt _ _ _ g1 (hg.tr hg1)
      · refine am_run_k 3 (And.intro (fun h9 => ?_) (fun h9 => ?_))
        · exact nxt _ _ _ g1 (hg.tr hg1)
        · refine am_run_k 4 ?_
          exact nxt _ _ _ g1 (hg.tr hg1)
theorem f_next (I : IC g) (h : ∀ r g', scC g g' → Q (some (.int r)) LY g') : am (d + 6) 65 0 [some (.ref 0), none, none, none, none, none] [] LY g 0 0 none Q := by
  obtain ⟨c, hc, e51, -⟩ := id I.1.2.2
  refine am_run_k 2 (am_cl ?_)
  refine f_suspects I (fun r g1 hg1 => ?_)
  refine am_run_k 7 ?_
  exact l_65_14 (g0 := g) hc e51 I h c 0 0 _ _ _ g1 (Nat.zero_add c) rfl hg1
theorem f_least (I : IC g) (h : ∀ r g', scC g g' → Q (some (.int r)) LY g') : am (d + 26) 67 0 [some (.ref 0)] [] LY g 0 0 none Q := by
  obtain ⟨c, hc, e51, -⟩ := id I.1.2.2
  refine am_run_k 6 (And.intro (fun h1 => ?_) (fun h1 => ?_))
  · refine am_run_k 17 (am_cl ?_)
    refine w_everyone ?_
    refine am_run_k 1 (am_cl ?_)
    refine w_suspectsOf I.1 (fun r g1 hg1 => ?_)
    refine am_run_k 2 (am_cl ?_)
    have hdep : d + 25 = (d + 20 - c) + c + 5 := by omega
    show am (d + 25) 82 0 [some (.ref 1), some (.ref 9), some (.int (g 5 1)), some (.int 0), some (.int r), some (.int (-4)), none, none, none, none] [] LY g1 0 0 none _
    rw [hdep, e51]
    refine w_search c (by omega) (I.1.sc hg1) (fun r2 g2 hg2 => ?_)
    refine am_run_k 1 ?_
    exact h r2 g2 (hg1.tr hg2)
  · refine am_run_k 2 ?_
    exact h _ g scC.rf
theorem f_fewest (I : IC g) (h : ∀ r g', scC g g' → Q (some (.int r)) LY g') : am (d + 27) 66 0 [some (.ref 0), none] [] LY g 0 0 none Q := by
  refine am_run_k 2 (am_cl ?_)
  refine f_least I (fun r g1 hg1 => ?_)
  refine am_run_k 3 (And.intro (fun h1 => ?_) (fun h1 => ?_))
  · refine am_run_k 2 (am_cl ?_)
    refine w_bitCount ?_
    refine am_run_k 1 ?_
    exact h _ g1 hg1
  · refine am_run_k 3 ?_
    exact h _ g1 hg1
theorem l_68_36 {c f q : Nat} {g0 : am_G} (hc : c ≤ 20) (hf : f ≤ 20) (hq : q < 6) (e54 : g0 5 4 = nI f) (ho : ordC g0 c f) (I : IC g0) (h : ∀ r g', scC g0 g' → Q (some (.int r)) LY g') : ∀ (m k : Nat) (x s1 : Int32) (lz : Option Value) (g : am_G), k + m = f → x = nI k → scC g0 g → am (d + 4) 68 36 [some (.ref 0), some (.int (nI q)), some (.int s1), some (.int x), lz] [] LY g 0 0 none Q := by
  intro m
  induction m with
  | zero =>
    intro k x s1 lz g hk hx hg
    have hk : k = f := by omega
    subst hk; subst hx
    have f54 : g 5 4 = nI k := by rw [hg 5 (by omega)]; exact e54
    refine am_run_k 6 (And.intro (fun h6 => ?_) (fun hx => absurd ((show g 5 4 ≤ nI k by rw [f54]; exact nI_le (Nat.le_refl k) (by omega))) hx))
    refine am_run_k 2 ?_
    exact h _ g hg
  | succ m ih =>
    intro k x s1 lz g hk hx hg
    subst hx
    have f54 : g 5 4 = nI f := by rw [hg 5 (by omega)]; exact e54
    refine am_run_k 6 (And.intro (fun hx => absurd hx ((show ¬ g 5 4 ≤ nI k by rw [f54]; exact nI_ge (by omega) (by omega)))) (fun h6 => ?_))
    refine am_run_k 6 (And.intro (vpn (by omega)) ?_)
    refine am_run_k 14 (am_cl ?_)
    refine w_thingsOf hq (I.sc hg).1 (fun r g1 hg1 => ?_)
    refine am_run_k 1 (And.intro (fun h7 => ?_) (fun h7 => ?_))
    · refine am_run_k 2 ?_
      exact ih (k + 1) _ _ _ g1 (by omega) (nI_1 k) (hg.tr hg1)
    · refine am_run_k 2 ?_
      exact h _ g1 (hg.tr hg1)
theorem f_claim {a : Int32} (I : IC g) (h : ∀ r g', scC g g' → Q (some (.int r)) LY g') : am (d + 4) 68 0 [some (.ref 0), some (.int a), none, none, none] [] LY g 0 0 none Q := by
  obtain ⟨n, hn1, hn2, e13⟩ := id I.1.1
  obtain ⟨c, hc, e51, hr, f, hf, e54, ho⟩ := id I.1.2.2
  refine am_run_k 4 (am_cl ?_)
  refine w_isPerson ?_
  refine am_run_k 1 (And.intro (fun h1 => ?_) (fun h1 => ?_))
  · obtain ⟨q, hq, ea⟩ := person e13 hn2 (bi_t h1)
    subst ea
    refine am_run_k 7 (am_cl ?_)
    refine w_thingsOf hq I.1 (fun r g1 hg1 => ?_)
    refine am_run_k 1 (And.intro (fun h2 => ?_) (fun h2 => ?_))
    · refine am_run_k 4 ?_
      exact l_68_36 (g0 := g) hc hf hq e54 ho I h f 0 0 _ _ g1 (Nat.zero_add f) rfl hg1
    · refine am_run_k 2 ?_
      exact h _ g1 hg1
  · refine am_run_k 2 ?_
    exact h _ g scC.rf
/-- the sheets, as the class holds them: a row's lane and length -/
def shA (n a b : Int32) : Int32 := bif am_ir a 2 && (am_ir b 2 && decide (n ≤ 60)) then (if n < 0 then -14 else n) else -1
theorem f_sheet {a b n : Int32} (I : IC g) (h0 : ∀ r, r = shA n a b → r < 0 → Q (some (.int r)) LY g) (h1 : ∀ (m j l : Nat) (g' : am_G), m ≤ 60 → n = nI m → j < 2 → a = nI j → l < 2 → b = nI l → shA n a b = n → IC g' → (∀ k, k ≠ 18 + 2 * j → k ≠ 19 + 2 * j → g' k = g k) → g' (18 + 2 * j) 1 = b → g' (18 + 2 * j) 2 = n → (∀ p, p < m → g' (19 + 2 * j) p = 0) → (∀ p, m ≤ p → g' (19 + 2 * j) p = g (19 + 2 * j) p) → Q (some (.int n)) LY g') : am (d + 2) 70 0 [some (.ref 0), some (.int a), some (.int b), some (.int n)] [] LY g 0 0 none Q := by
  refine am_run_k 2 (am_cl ?_)
  refine w_isSheet ?_
  refine am_run_k 1 (And.intro (fun e1 => ?_) (fun e1 => ?_))
  · refine am_run_k 2 ?_
    refine h0 _ ?_ (by decide)
    unfold shA; rw [bi_f e1]; rfl
  · refine am_run_k 2 (am_cl ?_)
    refine w_isLane ?_
    refine am_run_k 1 (And.intro (fun e2 => ?_) (fun e2 => ?_))
    · refine am_run_k 2 ?_
      refine h0 _ ?_ (by decide)
      unfold shA; rw [bi_t e1, bi_f e2]; rfl
    · refine am_run_k 3 (And.intro (fun e3 => ?_) (fun e3 => ?_))
      · refine am_run_k 2 (And.intro (fun e4 => ?_) (fun e4 => ?_))
        · obtain ⟨m, hm1, hm2, en⟩ := nI_rng (a := 0) (b := 60) e4 e3
          have hs : shA n a b = n := by
            unfold shA; rw [bi_t e1, bi_t e2, decide_eq_true e3, if_neg (fa_nlt.mpr e4)]; rfl
          obtain ⟨l, hl, eb⟩ := am_ir_nI (k := 2) (by decide) (bi_t e2)
          obtain ⟨j, hj, ea⟩ := am_ir_nI (k := 2) (by decide) (bi_t e1)
          have en2 := en
          rcases (show j = 0 ∨ j = 1 by omega) with q | q
          · subst q
            subst ea
            refine am_run_k 4 (And.intro (vpe (n := 0) rfl (by decide)) ?_)
            refine am_run_k 3 (am_cl ?_)
            rw [en2]
            refine w_renew0 (m := m) hm2 (fun g1 q1 q2 q3 q4 q5 => ?_)
            refine am_run_k 2 ?_
            have hh := h1 m 0 l g1 hm2 en hj rfl hl eb hs ⟨I.1.of (q1 1 (by decide) (by decide)) (q1 5 (by decide) (by decide)) (q1 6 (by decide) (by decide)) (q1 7 (by decide) (by decide)), ⟨m, hm2, q3⟩, by rw [q1 20 (by decide) (by decide)]; exact I.2.2⟩ q1 q2 (by rw [en]; exact q3) q4 q5
            rw [en2] at hh
            exact hh
          · subst q
            subst ea
            refine am_run_k 4 (And.intro (vpe (n := 1) rfl (by decide)) ?_)
            refine am_run_k 3 (am_cl ?_)
            rw [en2]
            refine w_renew1 (m := m) hm2 (fun g1 q1 q2 q3 q4 q5 => ?_)
            refine am_run_k 2 ?_
            have hh := h1 m 1 l g1 hm2 en hj rfl hl eb hs ⟨I.1.of (q1 1 (by decide) (by decide)) (q1 5 (by decide) (by decide)) (q1 6 (by decide) (by decide)) (q1 7 (by decide) (by decide)), by rw [q1 18 (by decide) (by decide)]; exact I.2.1, ⟨m, hm2, q3⟩⟩ q1 q2 (by rw [en]; exact q3) q4 q5
            rw [en2] at hh
            exact hh
        · refine am_run_k 2 ?_
          refine h0 _ ?_ (by decide)
          unfold shA; rw [bi_t e1, bi_t e2, decide_eq_true e3, if_pos (fa_nle.mp e4)]; rfl
      · refine am_run_k 2 ?_
        refine h0 _ ?_ (by decide)
        unfold shA; rw [bi_t e1, bi_t e2, decide_eq_false e3]; rfl
end FAE
end
section
section FAF
variable {d : Nat} {L : am_L} {g : am_G} {bc bs : Nat} {sx : am_S} {Q : am_Q}
/-- drop's answer by a sheet's lane and length -/
def drA (a ln sz : Int32) : Int32 := bif am_ir a 2 then (if ln = -1 then -11 else sz) else -1
theorem f_drop {a : Int32} (I : IC g) (h0 : am_ir a 2 = false → Q (some (.int (-1))) LY g) (h1 : ∀ j, j < 2 → a = nI j → g (18 + 2 * j) 1 = -1 → Q (some (.int (-11))) LY g) (h2 : ∀ (j : Nat) (g' : am_G), j < 2 → a = nI j → ¬ g (18 + 2 * j) 1 = -1 → IC g' → (∀ k, k ≠ 18 + 2 * j → g' k = g k) → g' (18 + 2 * j) 1 = -1 → g' (18 + 2 * j) 2 = g (18 + 2 * j) 2 → Q (some (.int (g (18 + 2 * j) 2))) LY g') : am (d + 2) 71 0 [some (.ref 0), some (.int a), none] [] LY g 0 0 none Q := by
  refine am_run_k 2 (am_cl ?_)
  refine w_isSheet ?_
  refine am_run_k 1 (And.intro (fun e1 => ?_) (fun e1 => ?_))
  · obtain ⟨j, hj, ea⟩ := am_ir_nI (k := 2) (by decide) (bi_t e1)
    rcases (show j = 0 ∨ j = 1 by omega) with q | q
    · subst q; subst ea
      refine am_run_k 4 (And.intro (vpe (n := 0) rfl (by decide)) ?_)
      refine am_run_k 5 (And.intro (fun e2 => ?_) (fun e2 => ?_))
      · refine am_run_k 6 ?_
        refine h2 0 _ hj rfl e2 ⟨I.1.of (am_up_ne (by decide)) (am_up_ne (by decide)) (am_up_ne (by decide)) (am_up_ne (by decide)), ?_, by rw [am_up_ne (by decide)]; exact I.2.2⟩ (fun k hk => am_up_ne hk) am_up_us (am_up_un (by decide))
        rw [am_up_un (by decide)]; exact I.2.1
      · refine am_run_k 2 ?_
        exact h1 0 hj rfl e2
    · subst q; subst ea
      refine am_run_k 4 (And.intro (vpe (n := 1) rfl (by decide)) ?_)
      refine am_run_k 5 (And.intro (fun e2 => ?_) (fun e2 => ?_))
      · refine am_run_k 6 ?_
        refine h2 1 _ hj rfl e2 ⟨I.1.of (am_up_ne (by decide)) (am_up_ne (by decide)) (am_up_ne (by decide)) (am_up_ne (by decide)), by rw [am_up_ne (by decide)]; exact I.2.1, ?_⟩ (fun k hk => am_up_ne hk) am_up_us (am_up_un (by decide))
        rw [am_up_un (by decide)]; exact I.2.2
      · refine am_run_k 2 ?_
        exact h1 1 hj rfl e2
  · refine am_run_k 2 ?_
    exact h0 (bi_f e1)
def tkA (ln l : Int32) : Int32 := if ln = -1 then -11 else if ln = l then 0 else -12
/-- item's answer -/
def itA (b i ln sz : Int32) : Int32 := if tkA ln b < 0 then tkA ln b else if i < 0 then -13 else if i < sz then 1 else -13
theorem tkA_cases (ln l : Int32) : tkA ln l < 0 ∨ tkA ln l = 0 := by
  unfold tkA
  split
  · exact Or.inl (by decide)
  · split
    · exact Or.inr rfl
    · exact Or.inl (by decide)
theorem l_72_24_0 {b i v : Int32} (hb : am_ir b 2 = true) (I : IC g) (h : ∀ g', IC g' → (∀ k, k ≠ 19 → g' k = g k) → Q (some (.int (itA b i (g 18 1) (g 18 2)))) LY g') : am (d + 2) 72 24 [some (.ref 0), some (.int 0), some (.int b), some (.int i), some (.int v), some (.ref 18), none] [] LY g 0 0 none Q := by
  obtain ⟨ml, hml, el⟩ := I.2.1
  refine am_run_k 3 (am_cl ?_)
  refine w_takenAs0 ?_
  refine am_run_k 3 (And.intro (fun h1 => ?_) (fun h1 => ?_))
  · have h1' : ¬ tkA (g 18 1) b < 0 := fa_nlt.mpr h1
    refine am_run_k 2 (And.intro (fun h2 => ?_) (fun h2 => ?_))
    · refine am_run_k 2 ?_
      have hh := h g I (fun _ _ => rfl)
      unfold itA at hh
      rw [if_neg h1', if_pos h2] at hh
      exact hh
    · refine am_run_k 4 (And.intro (fun h3 => ?_) (fun h3 => ?_))
      · obtain ⟨j, hj, ei⟩ := nI_of h2
        have hlt : j < ml := by
          rw [el, ei] at h3
          exact (nI_ltI hj (by omega)).mp h3
        have fin : ∀ (u : Int32), am (d + 2) 72 74 [some (.ref 0), some (.int 0), some (.int b), some (.int i), some (.int v), some (.ref 18), some (.int (if g 18 1 = -1 then -11 else if g 18 1 = b then 0 else -12))] [.int u, .int i, .ref 19] LY g 0 0 none Q := by
          intro u
          refine am_run_k 1 (And.intro (vpe ei (by omega)) ?_)
          refine am_run_k 2 ?_
          have hh := h (am_up g 19 i.toNatClampNeg u) ⟨I.1.of (am_up_ne (by decide)) (am_up_ne (by decide)) (am_up_ne (by decide)) (am_up_ne (by decide)), by unfold SL; rw [am_up_ne (by decide), am_up_ne (by decide)]; exact I.2⟩ (fun k hk => am_up_ne hk)
          unfold itA at hh
          rw [if_neg h1', if_neg h2, if_pos h3] at hh
          exact hh
        refine am_run_k 5 (And.intro (fun h4 => ?_) (fun h4 => ?_))
        · refine am_run_k 1 ?_
          exact fin _
        · refine am_run_k 3 ?_
          exact fin _
      · refine am_run_k 2 ?_
        have hh := h g I (fun _ _ => rfl)
        unfold itA at hh
        rw [if_neg h1', if_neg h2, if_neg h3] at hh
        exact hh
  · refine am_run_k 2 ?_
    have hh := h g I (fun _ _ => rfl)
    unfold itA at hh
    rw [if_pos (show tkA (g 18 1) b < 0 from fa_nle.mp h1)] at hh
    exact hh
theorem l_72_24_1 {b i v : Int32} (hb : am_ir b 2 = true) (I : IC g) (h : ∀ g', IC g' → (∀ k, k ≠ 21 → g' k = g k) → Q (some (.int (itA b i (g 20 1) (g 20 2)))) LY g') : am (d + 2) 72 24 [some (.ref 0), some (.int 1), some (.int b), some (.int i), some (.int v), some (.ref 20), none] [] LY g 0 0 none Q := by
  obtain ⟨ml, hml, el⟩ := I.2.2
  refine am_run_k 3 (am_cl ?_)
  refine w_takenAs1 ?_
  refine am_run_k 3 (And.intro (fun h1 => ?_) (fun h1 => ?_))
  · have h1' : ¬ tkA (g 20 1) b < 0 := fa_nlt.mpr h1
    refine am_run_k 2 (And.intro (fun h2 => ?_) (fun h2 => ?_))
    · refine am_run_k 2 ?_
      have hh := h g I (fun _ _ => rfl)
      unfold itA at hh
      rw [if_neg h1', if_pos h2] at hh
      exact hh
    · refine am_run_k 4 (And.intro (fun h3 => ?_) (fun h3 => ?_))
      · obtain ⟨j, hj, ei⟩ := nI_of h2
        have hlt : j < ml := by
          rw [el, ei] at h3
          exact (nI_ltI hj (by omega)).mp h3
        have fin : ∀ (u : Int32), am (d + 2) 72 74 [some (.ref 0), some (.int 1), some (.int b), some (.int i), some (.int v), some (.ref 20), some (.int (if g 20 1 = -1 then -11 else if g 20 1 = b then 0 else -12))] [.int u, .int i, .ref 21] LY g 0 0 none Q := by
          intro u
          refine am_run_k 1 (And.intro (vpe ei (by omega)) ?_)
          refine am_run_k 2 ?_
          have hh := h (am_up g 21 i.toNatClampNeg u) ⟨I.1.of (am_up_ne (by decide)) (am_up_ne (by decide)) (am_up_ne (by decide)) (am_up_ne (by decide)), by unfold SL; rw [am_up_ne (by decide), am_up_ne (by decide)]; exact I.2⟩ (fun k hk => am_up_ne hk)
          unfold itA at hh
          rw [if_neg h1', if_neg h2, if_pos h3] at hh
          exact hh
        refine am_run_k 5 (And.intro (fun h4 => ?_) (fun h4 => ?_))
        · refine am_run_k 1 ?_
          exact fin _
        · refine am_run_k 3 ?_
          exact fin _
      · refine am_run_k 2 ?_
        have hh := h g I (fun _ _ => rfl)
        unfold itA at hh
        rw [if_neg h1', if_neg h2, if_neg h3] at hh
        exact hh
  · refine am_run_k 2 ?_
    have hh := h g I (fun _ _ => rfl)
    unfold itA at hh
    rw [if_pos (show tkA (g 20 1) b < 0 from fa_nle.mp h1)] at hh
    exact hh
theorem f_item {a b i v : Int32} (I : IC g) (h0 : (am_ir a 2 && am_ir b 2) = false → Q (some (.int (-1))) LY g) (h1 : ∀ (j : Nat) (g' : am_G), j < 2 → a = nI j → am_ir b 2 = true → IC g' → (∀ k, k ≠ 19 + 2 * j → g' k = g k) → Q (some (.int (itA b i (g (18 + 2 * j) 1) (g (18 + 2 * j) 2)))) LY g') : am (d + 2) 72 0 [some (.ref 0), some (.int a), some (.int b), some (.int i), some (.int v), none, none] [] LY g 0 0 none Q := by
  refine am_run_k 2 (am_cl ?_)
  refine w_isSheet ?_
  refine am_run_k 1 (And.intro (fun e1 => ?_) (fun e1 => ?_))
  · refine am_run_k 2 ?_
    refine h0 ?_
    rw [bi_f e1]; rfl
  · refine am_run_k 2 (am_cl ?_)
    refine w_isLane ?_
    refine am_run_k 1 (And.intro (fun e2 => ?_) (fun e2 => ?_))
    · obtain ⟨j, hj, ea⟩ := am_ir_nI (k := 2) (by decide) (bi_t e1)
      rcases (show j = 0 ∨ j = 1 by omega) with q | q
      · subst q; subst ea
        refine am_run_k 4 (And.intro (vpe (n := 0) rfl (by decide)) ?_)
        refine am_run_k 1 ?_
        exact l_72_24_0 (bi_t e2) I (fun g' I' f' => h1 0 g' hj rfl (bi_t e2) I' f')
      · subst q; subst ea
        refine am_run_k 4 (And.intro (vpe (n := 1) rfl (by decide)) ?_)
        refine am_run_k 1 ?_
        exact l_72_24_1 (bi_t e2) I (fun g' I' f' => h1 1 g' hj rfl (bi_t e2) I' f')
    · refine am_run_k 2 ?_
      refine h0 ?_
      rw [bi_f e2]; simp
end FAF
end
section
section MAK
variable {d : Nat} {L : am_L} {g : am_G} {bc bs : Nat} {sx : am_S} {Q : am_Q}
def am_lcg (x : Int32) : Int32 := x * 1103515245 + 12345
def am_hi (x : Int32) : Int32 := (x.toUInt32 >>> ((16 : Int32).toUInt32 &&& Int32.toUInt32 31)).toInt32
theorem am_hi_nI (x : Int32) : ∃ q, q < 65536 ∧ am_hi x = nI q := by
  have h := pk_ushr x 16 16 (by decide)
  have hx := x.toBitVec.isLt
  refine ⟨x.toBitVec.toNat / 2 ^ 16, by omega, ?_⟩
  unfold am_hi
  apply Int32.toBitVec_inj.mp
  apply BitVec.eq_of_toNat_eq
  rw [h, pk_tn (by omega)]
theorem am_dr_nI {x : Int32} {k : Nat} (h0 : 0 < k) (hk : k < 2 ^ 31) : ∃ j, j < k ∧ am_hi x - am_hi x / nI k * nI k = nI j := by
  obtain ⟨q, hq, e⟩ := am_hi_nI x
  rw [e, pk_rem (by omega) h0 hk]
  exact ⟨q % k, Nat.mod_lt _ h0, rfl⟩
theorem w_draw {k : Nat} (h0 : 0 < k) (hk : k < 2 ^ 31) (h : ∀ j, j < k → am_hi (am_lcg (g 15 1)) - am_hi (am_lcg (g 15 1)) / nI k * nI k = nI j → Q (some (.int (nI j))) LY (am_up g 15 1 (am_lcg (g 15 1)))) : am d 10 0 [some (.ref 15), some (.int (nI k))] [] LY g 0 0 none Q := by
  refine am_run_k 10 (And.intro (fun hx => absurd hx ((nI_nle h0 hk))) (fun h6 => ?_))
  refine am_run_k 6 (And.intro (nI_ne0 h0 hk) ?_)
  refine am_run_k 2 ?_
  obtain ⟨j, hj, e⟩ := am_dr_nI (x := am_lcg (g 15 1)) h0 hk
  have hh := h j hj e
  rw [← e] at hh
  refine am_fin hh rfl ?_
  rw [am_up_us]
  rfl
theorem w_drawA {m : Int32} (h : ∀ r, Q (some (.int r)) LY (am_up g 15 1 (am_lcg (g 15 1)))) : am d 10 0 [some (.ref 15), some (.int m)] [] LY g 0 0 none Q := by
  refine am_run_k 10 (And.intro (fun h6 => ?_) (fun h6 => ?_))
  · refine am_run_k 2 ?_
    exact h _
  · refine am_run_k 6 (And.intro (fun q => h6 (by rw [q]; decide)) ?_)
    refine am_run_k 2 ?_
    exact h _
theorem w_at {i t : Nat} (hi : i < 4) (ht : t < 10) (h : Q (some (.int (g 16 (i * 10 + t)))) LY g) : am d 11 0 [some (.ref 15), some (.int (nI i)), some (.int (nI t))] [] LY g 0 0 none Q := by
  refine am_run_k 8 (And.intro (vpe nIx10 (by omega)) ?_)
  refine am_run_k 1 ?_
  rw [cle nIx10 (by omega)]
  exact h
def P8 (g : am_G) (i : Nat) : Prop := ∃ p, p < 8 ∧ g 16 i = nI p
theorem P8.up {i j p : Nat} (h : P8 g i) (hp : p < 8) : P8 (am_up g 16 j (nI p)) i := by
  by_cases e : i = j
  · exact ⟨p, hp, by rw [e, am_up_us]⟩
  · obtain ⟨q, hq, eq⟩ := h
    exact ⟨q, hq, by rw [am_up_un e]; exact eq⟩
theorem P8.new {j p : Nat} (hp : p < 8) : P8 (am_up g 16 j (nI p)) j := ⟨p, hp, am_up_us⟩
theorem P8.ne {k i j : Nat} {x : Int32} (hk : k ≠ 16) (h : P8 g i) : P8 (am_up g k j x) i := by
  obtain ⟨q, hq, eq⟩ := h
  exact ⟨q, hq, by rw [am_up_ne (Ne.symm hk)]; exact eq⟩
theorem P8.of {g' : am_G} {i : Nat} (h : P8 g i) (e : g' 16 = g 16) : P8 g' i := by unfold P8; rw [e]; exact h
theorem nbF_in {a : Int32} (ha : ∃ p, p < 8 ∧ a = nI p) : ∀ (n o : Nat) (left : Int32), o + n = 8 → ∃ p, p < 8 ∧ nbF g a n o left = nI p
  | 0, _, _, _ => ha
  | n + 1, o, left, h => by
    rw [nbF]
    cases am_hs (g 3 a.toNatClampNeg) (nI o) with
    | true =>
      cases decide (left = 0) with
      | true => exact ⟨o, by omega, rfl⟩
      | false => exact nbF_in ha n (o + 1) _ (by omega)
    | false => exact nbF_in ha n (o + 1) _ (by omega)
theorem spF_in {a b far : Int32} (ha : ∃ p, p < 8 ∧ a = nI p) : ∀ (n o : Nat), o + n = 8 → ∃ p, p < 8 ∧ spF g a b far n o = nI p
  | 0, _, _ => ha
  | n + 1, o, h => by
    rw [spF]
    cases am_hs (g 3 a.toNatClampNeg) (nI o) && decide (dbw g (nI o) b < far) with
    | true => exact ⟨o, by omega, rfl⟩
    | false => exact spF_in ha n (o + 1) (by omega)
theorem rem8 (a : Nat) (ha : a < 2 ^ 31) : nI a - nI a / 8 * 8 = nI (a % 8) := pk_rem (d := 8) ha (by decide) (by decide)
theorem l_12_31 {g0 : am_G} (h : ∀ g', (∀ k, k ≠ 2 → k ≠ 3 → k ≠ 4 → k ≠ 15 → g' k = g0 k) → Q none LY g') : ∀ (n k : Nat) (x : Int32) (a b : Option Value) (g : am_G), k + n = 2 → x = nI k → (∀ k, k ≠ 2 → k ≠ 3 → k ≠ 4 → k ≠ 15 → g k = g0 k) → am (d + 2) 12 31 [some (.ref 15), some (.ref 2), some (.int x), a, b] [] LY g 0 0 none Q := by
  intro n
  induction n with
  | zero =>
    intro k x a b g hk hx hg
    have hk : k = 2 := by omega
    subst hk; subst hx
    refine am_run_k 3 (And.intro (fun h6 => ?_) (fun hx => absurd ((show nI 2 ≤ nI 2 from nI_le (Nat.le_refl 2) (by decide))) hx))
    refine am_run_k 1 ?_
    exact h g hg
  | succ n ih =>
    intro k x a b g hk hx hg
    subst hx
    refine am_run_k 3 (And.intro (fun hx => absurd hx ((nI_ge (b := 2) (by omega) (by decide)))) (fun h6 => ?_))
    refine am_run_k 3 (am_cl ?_)
    refine w_draw (k := 8) (by decide) (by decide) (fun i hi _ => ?_)
    refine am_run_k 7 (am_cl ?_)
    refine w_draw (k := 5) (by decide) (by decide) (fun j hj _ => ?_)
    refine am_run_k 3 (And.intro (by decide) ?_)
    have e : nI i + 2 + nI j = nI (i + 2 + j) := by rw [nIp2]; exact nI_add _ _
    rw [e]
    have e2 := rem8 (i + 2 + j) (by omega)
    have hg2 : ∀ k, k ≠ 2 → k ≠ 3 → k ≠ 4 → k ≠ 15 → (am_up (am_up g 15 1 (am_lcg (g 15 1))) 15 1 (am_lcg (am_up g 15 1 (am_lcg (g 15 1)) 15 1))) k = g0 k := fun k h2 h3 h4 h15 => by rw [am_up_ne h15, am_up_ne h15]; exact hg k h2 h3 h4 h15
    refine am_run_k 5 (am_cl ?_)
    rw [show nI (i + 2 + j) - nI (i + 2 + j) / 8 * 8 = nI ((i + 2 + j) % 8) from e2]
    refine w_joined (vpn hi) ?_
    refine am_run_k 1 (And.intro (fun h7 => ?_) (fun h7 => ?_))
    · refine am_run_k 2 ?_
      exact ih (k + 1) _ _ _ _ (by omega) (nI_1 k) hg2
    · refine am_run_k 4 (am_cl ?_)
      refine w_join hi (Nat.mod_lt _ (by decide)) (fun g1 q1 q2 q3 q4 q5 => ?_)
      refine am_run_k 2 ?_
      exact ih (k + 1) _ _ _ g1 (by omega) (nI_1 k) (fun k h2 h3 h4 h15 => by rw [q1 k h2 h3 h4]; exact hg2 k h2 h3 h4 h15)
theorem l_12_6 {g0 : am_G} (h : ∀ (g' : am_G) (x : Int32), (∀ k, k ≠ 2 → k ≠ 3 → k ≠ 4 → k ≠ 15 → g' k = g0 k) → am (d + 2) 12 29 [some (.ref 15), some (.ref 2), some (.int x), none, none] [] LY g' 0 0 none Q) : ∀ (n k : Nat) (x : Int32) (g : am_G), k + n = 8 → x = nI k → (∀ k, k ≠ 2 → k ≠ 3 → k ≠ 4 → k ≠ 15 → g k = g0 k) → am (d + 2) 12 6 [some (.ref 15), some (.ref 2), some (.int x), none, none] [] LY g 0 0 none Q := by
  intro n
  induction n with
  | zero =>
    intro k x g hk hx hg
    have hk : k = 8 := by omega
    subst hk; subst hx
    refine am_run_k 3 (And.intro (fun h6 => ?_) (fun hx => absurd ((show nI 8 ≤ nI 8 from nI_le (Nat.le_refl 8) (by decide))) hx))
    exact h g _ hg
  | succ n ih =>
    intro k x g hk hx hg
    subst hx
    refine am_run_k 3 (And.intro (fun hx => absurd hx ((nI_ge (b := 8) (by omega) (by decide)))) (fun h6 => ?_))
    refine am_run_k 7 (And.intro (by decide) ?_)
    rw [nI_1]
    have e2 := rem8 (k + 1) (by omega)
    refine am_run_k 1 (am_cl ?_)
    rw [show nI (k + 1) - nI (k + 1) / 8 * 8 = nI ((k + 1) % 8) from e2]
    refine w_join (i := k) (by omega) (Nat.mod_lt _ (by decide)) (fun g1 q1 q2 q3 q4 q5 => ?_)
    refine am_run_k 2 ?_
    exact ih (k + 1) _ g1 (by omega) (nI_1 k) (fun k h2 h3 h4 h15 => by rw [q1 k h2 h3 h4]; exact hg k h2 h3 h4 h15)
theorem w_build (h : ∀ g', (∀ k, k ≠ 2 → k ≠ 3 → k ≠ 4 → k ≠ 15 → g' k = g k) → Q none LY g') : am (d + 2) 12 0 [some (.ref 15), some (.ref 2), none, none, none] [] LY g 0 0 none Q := by
  refine am_run_k 2 (am_cl ?_)
  refine w_clearDoors_LY (fun g1 q1 q2 q3 q4 => ?_)
  refine am_run_k 2 ?_
  refine l_12_6 (g0 := g) (fun g2 x2 hg2 => ?_) 8 0 0 g1 rfl rfl (fun k h2 h3 h4 _ => q1 k h2 h3 h4)
  refine am_run_k 2 ?_
  exact l_12_31 (g0 := g) h 2 0 0 _ _ g2 rfl rfl hg2
theorem l_13_20 {w : Nat} {g0 : am_G} (hw : w < 4) (h : ∀ g', (∀ k, k ≠ 15 → k ≠ 16 → g' k = g0 k) → (∀ i, P8 g0 i → P8 g' i) → (∀ j, j < 10 → P8 g' (w * 10 + j)) → Q none LY g') : ∀ (n t : Nat) (x pl : Int32) (g : am_G), t + n = 10 → x = nI t → (∃ p, p < 8 ∧ pl = nI p) → (∀ k, k ≠ 15 → k ≠ 16 → g k = g0 k) → (∀ i, P8 g0 i → P8 g i) → (∀ j, j < t → P8 g (w * 10 + j)) → am (d + 3) 13 20 [some (.ref 15), some (.ref 2), some (.int (nI w)), some (.int pl), some (.int x)] [] LY g 0 0 none Q := by
  intro n
  induction n with
  | zero =>
    intro t x pl g ht hx hp h1 h2 h3
    have ht : t = 10 := by omega
    subst ht; subst hx
    refine am_run_k 3 (And.intro (fun h6 => ?_) (fun hx => absurd ((show nI 10 ≤ nI 10 from nI_le (Nat.le_refl 10) (by decide))) hx))
    refine am_run_k 1 ?_
    exact h g h1 h2 h3
  | succ n ih =>
    intro t x pl g ht hx hp h1 h2 h3
    subst hx
    refine am_run_k 3 (And.intro (fun hx => absurd hx ((nI_ge (b := 10) (by omega) (by decide)))) (fun h6 => ?_))
    have tail : ∀ (pl2 : Int32) (g1 : am_G), (∃ p, p < 8 ∧ pl2 = nI p) → (∀ k, k ≠ 15 → g1 k = g k) → am (d + 3) 13 54 [some (.ref 15), some (.ref 2), some (.int (nI w)), some (.int pl2), some (.int (nI t))] [] LY g1 0 0 none Q := by
      intro pl2 g1 hp2 hg1
      refine am_run_k 9 (And.intro (vpe nIx10 (by omega)) ?_)
      refine am_run_k 2 ?_
      rw [cle nIx10 (by omega)]
      obtain ⟨p, hp, rfl⟩ := hp2
      refine ih (t + 1) _ _ _ (by omega) (nI_1 t) ⟨p, hp, rfl⟩ (fun k h15 h16 => ?_) (fun i hi => ?_) (fun j hj => ?_)
      · rw [am_up_ne h16, hg1 k h15]; exact h1 k h15 h16
      · exact ((h2 i hi).of (hg1 16 (by decide))).up hp
      · by_cases e : j = t
        · rw [e]; exact P8.new hp
        · exact ((h3 j (by omega)).of (hg1 16 (by decide))).up hp
    refine am_run_k 3 (am_cl ?_)
    refine w_draw (k := 3) (by decide) (by decide) (fun j hj _ => ?_)
    refine am_run_k 1 (And.intro (fun h7 => ?_) (fun h7 => ?_))
    · exact tail pl _ hp (fun k hk => am_up_ne hk)
    · obtain ⟨p, hp8, ep⟩ := id hp
      refine am_run_k 7 (And.intro (vpe ep (by omega)) ?_)
      refine am_run_k 1 (am_cl ?_)
      refine w_bitCount ?_
      refine am_run_k 1 (am_cl ?_)
      refine w_drawA (fun r => ?_)
      refine am_run_k 1 (am_cl ?_)
      refine w_neighbour (vpe ep hp8) ?_
      refine am_run_k 1 ?_
      exact tail _ _ (nbF_in hp 8 0 r rfl) (fun k hk => by rw [am_up_ne hk, am_up_ne hk])
theorem w_wander {w : Nat} (hw : w < 4) (h : ∀ g', (∀ k, k ≠ 15 → k ≠ 16 → g' k = g k) → (∀ i, P8 g i → P8 g' i) → (∀ j, j < 10 → P8 g' (w * 10 + j)) → Q none LY g') : am (d + 3) 13 0 [some (.ref 15), some (.ref 2), some (.int (nI w)), none, none] [] LY g 0 0 none Q := by
  refine am_run_k 3 (am_cl ?_)
  refine w_draw (k := 8) (by decide) (by decide) (fun p hp _ => ?_)
  refine am_run_k 8 (And.intro (vpe (nIm10 w) (by omega)) ?_)
  refine am_run_k 2 ?_
  rw [cle (nIm10 w) (by omega)]
  refine l_13_20 (g0 := g) hw h 9 1 _ _ _ rfl rfl ⟨p, hp, rfl⟩ (fun k h15 h16 => by rw [am_up_ne h16, am_up_ne h15]) (fun i hi => (hi.ne (by decide)).up hp) (fun j hj => ?_)
  have e : j = 0 := by omega
  subst e
  exact P8.new hp
theorem l_14_22 {w th : Nat} {g0 : am_G} (hw : w < 4) (h : ∀ g', (∀ k, k ≠ 16 → g' k = g0 k) → (∀ i, P8 g0 i → P8 g' i) → Q none LY g') : ∀ (n t : Nat) (x pl : Int32) (g : am_G), t + n = 10 → x = nI t → (∃ p, p < 8 ∧ pl = nI p) → (∀ k, k ≠ 16 → g k = g0 k) → (∀ i, P8 g0 i → P8 g i) → am (d + 3) 14 22 [some (.ref 15), some (.ref 1), some (.int (nI w)), some (.int (nI th)), some (.int pl), some (.int x)] [] LY g 0 0 none Q := by
  intro n
  induction n with
  | zero =>
    intro t x pl g ht hx hp h1 h2
    have ht : t = 10 := by omega
    subst ht; subst hx
    refine am_run_k 3 (And.intro (fun h6 => ?_) (fun hx => absurd ((show nI 10 ≤ nI 10 from nI_le (Nat.le_refl 10) (by decide))) hx))
    refine am_run_k 1 ?_
    exact h g h1 h2
  | succ n ih =>
    intro t x pl g ht hx hp h1 h2
    subst hx
    refine am_run_k 3 (And.intro (fun hx => absurd hx ((nI_ge (b := 10) (by omega) (by decide)))) (fun h6 => ?_))
    obtain ⟨p, hp8, ep⟩ := id hp
    refine am_run_k 6 (am_cl ?_)
    refine w_stepTowards (vpe ep hp8) ?_
    refine am_run_k 10 (And.intro (vpe nIx10 (by omega)) ?_)
    refine am_run_k 2 ?_
    rw [cle nIx10 (by omega)]
    obtain ⟨p2, hp2, ep2⟩ := spF_in (g := g) (b := g 1 4) (far := dbw g pl (g 1 4)) hp 8 0 rfl
    have ep3 : spw g pl (g 1 4) = nI p2 := ep2
    rw [ep3]
    exact ih (t + 1) _ _ _ (by omega) (nI_1 t) ⟨p2, hp2, rfl⟩ (fun k h16 => by rw [am_up_ne h16]; exact h1 k h16) (fun i hi => (h2 i hi).up hp2)
theorem w_approach {w th : Nat} (hw : w < 4) (hth : th < 3) (hly : ∃ p, p < 8 ∧ g 8 th = nI p) (h : ∀ g', (∀ k, k ≠ 16 → g' k = g k) → (∀ i, P8 g i → P8 g' i) → Q none LY g') : am (d + 3) 14 0 [some (.ref 15), some (.ref 1), some (.int (nI w)), some (.int (nI th)), none, none] [] LY g 0 0 none Q := by
  obtain ⟨p, hp, ep⟩ := id hly
  refine am_run_k 4 (And.intro (vpn hth) ?_)
  rw [ncl (by omega)]
  refine am_run_k 8 (And.intro (vpe (nIm10 w) (by omega)) ?_)
  refine am_run_k 2 ?_
  rw [cle (nIm10 w) (by omega)]
  refine l_14_22 (g0 := g) hw h 9 1 _ _ _ rfl rfl hly (fun k h16 => am_up_ne h16) (fun i hi => ?_)
  rw [ep]
  exact hi.up hp
theorem l_15_44 {w : Nat} {aw : Int32} {t1 : Int32} {g0 : am_G} (hw : w < 4) (haw : ∃ p, p < 8 ∧ aw = nI p) (h : ∀ g', (∀ k, k ≠ 16 → g' k = g0 k) → (∀ i, P8 g0 i → P8 g' i) → Q none LY g') : ∀ (n t : Nat) (x : Int32) (g : am_G), t + n = 10 → x = nI t → (∀ k, k ≠ 16 → g k = g0 k) → (∀ i, P8 g0 i → P8 g i) → am (d + 3) 15 44 [some (.ref 15), some (.ref 1), some (.int (nI w)), some (.int t1), some (.int aw), some (.int x)] [] LY g 0 0 none Q := by
  intro n
  induction n with
  | zero =>
    intro t x g ht hx h1 h2
    have ht : t = 10 := by omega
    subst ht; subst hx
    refine am_run_k 3 (And.intro (fun h6 => ?_) (fun hx => absurd ((show nI 10 ≤ nI 10 from nI_le (Nat.le_refl 10) (by decide))) hx))
    refine am_run_k 1 ?_
    exact h g h1 h2
  | succ n ih =>
    intro t x g ht hx h1 h2
    subst hx
    refine am_run_k 3 (And.intro (fun hx => absurd hx ((nI_ge (b := 10) (by omega) (by decide)))) (fun h6 => ?_))
    refine am_run_k 9 (And.intro (vpe nIx10 (by omega)) ?_)
    refine am_run_k 2 ?_
    rw [cle nIx10 (by omega)]
    obtain ⟨p, hp, rfl⟩ := id haw
    exact ih (t + 1) _ _ (by omega) (nI_1 t) (fun k h16 => by rw [am_up_ne h16]; exact h1 k h16) (fun i hi => (h2 i hi).up hp)
theorem w_turnAway {w t : Nat} (hw : w < 4) (ht0 : 0 < t) (ht : t < 10) (e15 : g 1 5 = nI t) (e14 : ∃ p, p < 8 ∧ g 1 4 = nI p) (h8 : ∀ i, i < 40 → P8 g i) (h : ∀ g', (∀ k, k ≠ 16 → g' k = g k) → (∀ i, P8 g i → P8 g' i) → Q none LY g') : am (d + 3) 15 0 [some (.ref 15), some (.ref 1), some (.int (nI w)), none, none, none] [] LY g 0 0 none Q := by
  obtain ⟨t', rfl⟩ : ∃ t', t = t' + 1 := ⟨t - 1, by omega⟩
  refine am_run_k 7 (am_cl ?_)
  rw [e15, show nI (t' + 1) - 1 = nI t' from nI_pred t']
  refine w_at hw (by omega) ?_
  have tail : ∀ (a b : Int32), (∃ p, p < 8 ∧ b = nI p) → am (d + 3) 15 36 [some (.ref 15), some (.ref 1), some (.int (nI w)), some (.int a), none, none] [.int b] LY g 0 0 none Q := by
    intro a b hb
    refine am_run_k 4 ?_
    exact l_15_44 (g0 := g) hw hb h (10 - (t' + 1)) (t' + 1) _ g (by omega) e15 (fun k _ => rfl) (fun i hi => hi)
  refine am_run_k 5 (And.intro (fun h1 => ?_) (fun h1 => ?_))
  · obtain ⟨p, hp, ep⟩ := id e14
    refine am_run_k 6 (am_cl ?_)
    refine w_neighbour (vpe ep hp) ?_
    exact tail _ _ (nbF_in e14 8 0 0 rfl)
  · refine am_run_k 2 ?_
    exact tail _ _ (h8 _ (by omega))
theorem w_writePlace {kd : Int32} {w n : Nat} (hw : w < 4) (hkd : kd = 0 ∨ kd = 5) (hn : n < 20) (v : VC g) (e51 : g 5 1 = nI n) (h8 : ∀ i, i < 40 → P8 g i) (h : ∀ g', VC g' → g' 5 1 = nI (n + 1) → (∀ k, k ≠ 5 → k ≠ 6 → k ≠ 15 → g' k = g k) → Q none LY g') : am (d + 2) 18 0 [some (.ref 15), some (.ref 5), some (.int kd), some (.int (nI w)), none] [] LY g 0 0 none Q := by
  refine am_run_k 3 (am_cl ?_)
  refine w_draw (k := 10) (by decide) (by decide) (fun t ht _ => ?_)
  refine am_run_k 8 (am_cl ?_)
  refine w_at hw ht ?_
  refine am_run_k 3 (am_cl ?_)
  have v2 : VC (am_up g 15 1 (am_lcg (g 15 1))) := v.of (am_up_ne (by decide)) (am_up_ne (by decide)) (am_up_ne (by decide)) (am_up_ne (by decide))
  have f51 : (am_up g 15 1 (am_lcg (g 15 1))) 5 1 = nI n := by rw [am_up_ne (by decide)]; exact e51
  refine w_add hn f51 ?_
  refine am_run_k 1 ?_
  obtain ⟨p, hp, ep⟩ := h8 (w * 10 + t) (by omega)
  rw [am_up_ne (show 16 ≠ 15 by decide), ep]
  refine h _ (v2.add hn f51 ?_) (by unfold am_add; rw [am_up_us]) (fun k h5 h6 h15 => by rw [am_add_ne h5 h6, am_up_ne h15])
  have nm : am_nm kd = 3 := by rcases hkd with e | e <;> rw [e] <;> decide
  refine Or.inr (Or.inr (Or.inr ⟨by rcases hkd with e | e <;> rw [e] <;> simp, ⟨w, by omega, rfl⟩, ⟨p, hp, ?_⟩, ⟨t, ht, ?_⟩⟩))
  · unfold am_kb; rw [nm, if_neg (by decide)]
  · unfold am_kc; rw [nm, if_neg (by decide)]
end MAK
end
section
section MAL
variable {d : Nat} {L : am_L} {g : am_G} {bc bs : Nat} {sx : am_S} {Q : am_Q}
theorem VC.fgt (h1 : ∃ n, 2 ≤ n ∧ n ≤ 6 ∧ g 1 3 = nI n) (h2 : ∃ t, t < 10 ∧ g 1 5 = nI t) : VC (am_fgt g) := by
  refine ⟨?_, ?_, 0, by omega, ?_, fun k hk => absurd hk (by omega), 0, by omega, ?_, fun i hi => absurd hi (by omega), fun i j hi hj => absurd hj (by omega)⟩
  · unfold am_fgt; rw [am_up_ne (by decide), am_up_ne (by decide), am_up_ne (by decide)]; exact h1
  · unfold am_fgt; rw [am_up_ne (by decide), am_up_ne (by decide), am_up_ne (by decide)]; exact h2
  · unfold am_fgt; rw [am_up_un (by decide), am_up_un (by decide), am_up_us]; rfl
  · unfold am_fgt; rw [am_up_us]; rfl
theorem am_fgt_ne {k : Nat} (h : k ≠ 5) : am_fgt g k = g k := by unfold am_fgt; rw [am_up_ne h, am_up_ne h, am_up_ne h]
/-- what a case's writing keeps -/
def kpN (g g' : am_G) : Prop := ∀ k, k ≠ 5 → k ≠ 6 → k ≠ 15 → g' k = g k
theorem kpN.tr {g g1 g2 : am_G} (h : kpN g g1) (h2 : kpN g1 g2) : kpN g g2 := fun k a b c => (h2 k a b c).trans (h k a b c)
theorem kpN.P {g g' : am_G} (h : kpN g g') (h8 : ∀ i, i < 40 → P8 g i) : ∀ i, i < 40 → P8 g' i := fun i hi => (h8 i hi).of (h 16 (by decide) (by decide) (by decide))
theorem kpN.add {g : am_G} {n : Nat} {kd a b c x : Int32} : kpN g (am_add g n kd a b c x) := fun k h5 h6 _ => am_add_ne h5 h6
theorem l_16_10 {dd th : Nat} {g0 : am_G} (h8 : ∀ i, i < 40 → P8 g0 i) (h : ∀ (g' : am_G) (x : Int32), VC g' → g' 5 1 = nI 4 → kpN g0 g' → am (d + 3) 16 33 [some (.ref 15), some (.ref 1), some (.int (nI dd)), some (.int (nI th)), some (.int x)] [] LY g' 0 0 none Q) : ∀ (n k : Nat) (x : Int32) (g : am_G), k + n = 4 → x = nI k → VC g → g 5 1 = nI k → kpN g0 g → am (d + 3) 16 10 [some (.ref 15), some (.ref 1), some (.int (nI dd)), some (.int (nI th)), some (.int x)] [] LY g 0 0 none Q := by
  intro n
  induction n with
  | zero =>
    intro k x g hk hx v e hg
    have hk : k = 4 := by omega
    subst hk; subst hx
    refine am_run_k 3 (And.intro (fun h6 => ?_) (fun hx => absurd ((show nI 4 ≤ nI 4 from nI_le (Nat.le_refl 4) (by decide))) hx))
    exact h g _ v e hg
  | succ n ih =>
    intro k x g hk hx v e hg
    subst hx
    refine am_run_k 3 (And.intro (fun hx => absurd hx ((nI_ge (b := 4) (by omega) (by decide)))) (fun h6 => ?_))
    refine am_run_k 6 (am_cl ?_)
    refine w_writePlace (w := k) (n := k) (by omega) (Or.inl rfl) (by omega) v e (hg.P h8) (fun g1 v1 e1 f1 => ?_)
    refine am_run_k 2 ?_
    exact ih (k + 1) _ g1 (by omega) (nI_1 k) v1 e1 (hg.tr f1)
theorem rowOK_4 {a : Nat} (ha : a < 6) : rowOK 4 (nI a) (am_kb 4 0) (am_kc 4 0) (am_kx 4 0) := Or.inr (Or.inl ⟨rfl, a, ha, rfl⟩)
theorem rowOK_23 {kd : Int32} {w t : Nat} {c x : Int32} (hk : kd = 2 ∨ kd = 3) (hw : w < 3) (ht : t < 10) : rowOK kd (nI w) (am_kb kd (nI t)) (am_kc kd c) (am_kx kd x) := Or.inl ⟨hk, ⟨w, hw, rfl⟩, t, ht, by unfold am_kb; rw [if_neg (by rcases hk with e | e <;> rw [e] <;> decide)]⟩
theorem w_writeClues {dd th t : Nat} (hth : th < 3) (ht : t + 1 < 10) (h13 : ∃ n, 2 ≤ n ∧ n ≤ 6 ∧ g 1 3 = nI n) (e15 : g 1 5 = nI t) (h8 : ∀ i, i < 40 → P8 g i) (h : ∀ g', VC g' → g' 5 1 = nI 7 → kpN g g' → Q none LY g') : am (d + 3) 16 0 [some (.ref 15), some (.ref 1), some (.int (nI dd)), some (.int (nI th)), none] [] LY g 0 0 none Q := by
  refine am_run_k 3 (am_cl ?_)
  refine w_forget ?_
  refine am_run_k 2 ?_
  have f0 : kpN g (am_fgt g) := fun k h5 _ _ => am_fgt_ne h5
  refine l_16_10 (g0 := g) h8 (fun g1 x1 v1 e1 k1 => ?_) 4 0 0 _ rfl rfl (VC.fgt h13 ⟨t, by omega, e15⟩) (by unfold am_fgt; rw [am_up_un (by decide), am_up_un (by decide), am_up_us]; rfl) f0
  have tail : ∀ a : Nat, a < 6 → am (d + 3) 16 54 [some (.ref 15), some (.ref 1), some (.int (nI dd)), some (.int (nI th)), some (.int x1)] [] LY (am_add g1 4 4 (nI a) 0 0 0) 0 0 none Q := by
    intro a ha
    have v2 := v1.add (by omega) e1 (rowOK_4 ha)
    refine am_run_k 8 (am_cl ?_)
    have e2 : am_add g1 4 4 (nI a) 0 0 0 5 1 = nI 5 := by unfold am_add; rw [am_up_us]
    refine w_add (n := 5) (by omega) e2 ?_
    have r3 : rowOK 2 (nI th) (am_kb 2 0) (am_kc 2 0) (am_kx 2 0) := rowOK_23 (t := 0) (Or.inl rfl) hth (by omega)
    have v3 := v2.add (by omega) e2 r3
    refine am_run_k 11 (am_cl ?_)
    have e3 : am_add (am_add g1 4 4 (nI a) 0 0 0) 5 2 (nI th) 0 0 0 5 1 = nI 6 := by unfold am_add; rw [am_up_us]
    have k3 : kpN g (am_add (am_add g1 4 4 (nI a) 0 0 0) 5 2 (nI th) 0 0 0) := (k1.tr kpN.add).tr kpN.add
    have f15 : am_add (am_add g1 4 4 (nI a) 0 0 0) 5 2 (nI th) 0 0 0 1 5 = nI t := by rw [k3 1 (by decide) (by decide) (by decide)]; exact e15
    rw [f15, nI_1]
    refine w_add (n := 6) (by omega) e3 ?_
    refine am_run_k 1 ?_
    exact h _ (v3.add (by omega) e3 (rowOK_23 (Or.inr rfl) hth ht)) (by unfold am_add; rw [am_up_us]) (k3.tr kpN.add)
  refine am_run_k 6 (And.intro (fun h1 => ?_) (fun h1 => ?_))
  · refine am_run_k 5 (am_cl ?_)
    refine w_add (n := 4) (by omega) e1 ?_
    exact tail 1 (by omega)
  · refine am_run_k 6 (am_cl ?_)
    refine w_add (n := 4) (by omega) e1 ?_
    exact tail 2 (by omega)
theorem l_17_2 {t : Nat} {g0 : am_G} (ht : t < 10) (e15 : g0 1 5 = nI t) (e14 : ∃ p, p < 8 ∧ g0 1 4 = nI p) (h8 : ∀ i, i < 40 → P8 g0 i) (h : ∀ g', VC g' → kpN g0 g' → Q none LY g') : ∀ (n w : Nat) (x : Int32) (g : am_G), w + n = 4 → 0 < w → x = nI w → VC g → g 5 1 = nI (4 + 3 * w) → kpN g0 g → am (d + 3) 17 2 [some (.ref 15), some (.ref 1), some (.int x)] [] LY g 0 0 none Q := by
  intro n
  induction n with
  | zero =>
    intro w x g hw hw0 hx v e hg
    have hw : w = 4 := by omega
    subst hw; subst hx
    refine am_run_k 3 (And.intro (fun h6 => ?_) (fun hx => absurd ((show nI 4 ≤ nI 4 from nI_le (Nat.le_refl 4) (by decide))) hx))
    refine am_run_k 1 ?_
    exact h g v hg
  | succ n ih =>
    intro w x g hw hw0 hx v e hg
    subst hx
    refine am_run_k 3 (And.intro (fun hx => absurd hx ((nI_ge (b := 4) (by omega) (by decide)))) (fun h6 => ?_))
    refine am_run_k 6 (am_cl ?_)
    refine w_writePlace (w := w) (n := 4 + 3 * w) (by omega) (Or.inr rfl) (by omega) v e (hg.P h8) (fun g1 v1 e1 f1 => ?_)
    refine am_run_k 6 (am_cl ?_)
    refine w_writePlace (w := w) (n := 4 + 3 * w + 1) (by omega) (Or.inr rfl) (by omega) v1 e1 ((hg.tr f1).P h8) (fun g2 v2 e2 f2 => ?_)
    have k2 := (hg.tr f1).tr f2
    have w8 := k2.P h8
    refine am_run_k 4 (am_cl ?_)
    refine w_at (i := w) (t := 0) (by omega) (by omega) ?_
    refine am_run_k 4 (am_cl ?_)
    refine w_at (i := 0) (t := 0) (by omega) (by omega) ?_
    have nxt : ∀ g3, VC g3 → g3 5 1 = nI (4 + 3 * w + 1 + 1 + 1) → kpN g0 g3 → am (d + 3) 17 82 [some (.ref 15), some (.ref 1), some (.int (nI w))] [] LY g3 0 0 none Q := by
      intro g3 v3 e3 k3
      refine am_run_k 2 ?_
      exact ih (w + 1) _ g3 (by omega) (by omega) (nI_1 w) v3 (by rw [e3, show 4 + 3 * (w + 1) = 4 + 3 * w + 1 + 1 + 1 by omega]) k3
    refine am_run_k 1 (And.intro (fun h7 => ?_) (fun h7 => ?_))
    · obtain ⟨p, hp, ep⟩ := id e14
      refine am_run_k 10 (am_cl ?_)
      rw [k2 1 (by decide) (by decide) (by decide), ep, e15]
      refine w_add (n := 4 + 3 * w + 1 + 1) (by omega) e2 ?_
      refine nxt _ (v2.add (by omega) e2 (Or.inr (Or.inr (Or.inr ⟨Or.inr (Or.inr (Or.inr rfl)), ⟨w, by omega, rfl⟩, ⟨p, hp, ?_⟩, t, ht, ?_⟩)))) (by unfold am_add; rw [am_up_us]) (k2.tr kpN.add)
      · unfold am_kb; rw [if_neg (by decide)]
      · unfold am_kc; rw [if_neg (by decide)]
    · refine am_run_k 9 (am_cl ?_)
      refine w_at (i := w) (t := 0) (by omega) (by omega) ?_
      refine am_run_k 2 (am_cl ?_)
      obtain ⟨p, hp, ep⟩ := w8 (w * 10 + 0) (by omega)
      rw [ep]
      refine w_add (n := 4 + 3 * w + 1 + 1) (by omega) e2 ?_
      refine am_run_k 1 ?_
      refine nxt _ (v2.add (by omega) e2 (Or.inr (Or.inr (Or.inl ⟨rfl, ⟨w, by omega, rfl⟩, ⟨0, by omega, ?_⟩, ⟨p, hp, ?_⟩, 0, by omega, ?_⟩)))) (by unfold am_add; rw [am_up_us]) (k2.tr kpN.add)
      · unfold am_kb; rw [if_neg (by decide)]; rfl
      · unfold am_kc; rw [if_neg (by decide)]
      · unfold am_kx; rw [if_neg (by decide)]; rfl
theorem w_writeSayings {t : Nat} (ht : t < 10) (v : VC g) (e51 : g 5 1 = nI 7) (e15 : g 1 5 = nI t) (e14 : ∃ p, p < 8 ∧ g 1 4 = nI p) (h8 : ∀ i, i < 40 → P8 g i) (h : ∀ g', VC g' → kpN g g' → Q none LY g') : am (d + 3) 17 0 [some (.ref 15), some (.ref 1), none] [] LY g 0 0 none Q := by
  refine am_run_k 2 ?_
  exact l_17_2 (g0 := g) ht e15 e14 h8 h 3 1 1 g rfl (by omega) rfl v e51 (fun k _ _ _ => rfl)
/-- what a case's making leaves alone -/
def kpM (g g' : am_G) : Prop := ∀ k, 17 ≤ k → g' k = g k
theorem l_9_120 {dd th t : Nat} {nu : Int32} {g0 : am_G} (hth : th < 3) (ht0 : 0 < t) (ht : t + 1 < 10) (h13 : ∃ n, 2 ≤ n ∧ n ≤ 6 ∧ g0 1 3 = nI n) (e15 : g0 1 5 = nI t) (e14 : ∃ p, p < 8 ∧ g0 1 4 = nI p) (h : ∀ g', VC g' → (∀ k, 17 ≤ k → g' k = g0 k) → Q (some (.int (nI dd))) LY g') : ∀ (n w : Nat) (x : Int32) (g : am_G), w + n = 4 → 0 < w → x = nI w → (∀ k, k ≠ 16 → g k = g0 k) → (∀ i, i < 40 → P8 g i) → am (d + 4) 9 120 [some (.ref 15), some (.ref 1), some (.int nu), some (.int (nI dd)), some (.int (nI th)), some (.int x)] [] LY g 0 0 none Q := by
  intro n
  induction n with
  | zero =>
    intro w x g hw hw0 hx hg h8
    have hw : w = 4 := by omega
    subst hw; subst hx
    refine am_run_k 3 (And.intro (fun h6 => ?_) (fun hx => absurd ((show nI 4 ≤ nI 4 from nI_le (Nat.le_refl 4) (by decide))) hx))
    have f1 : g 1 = g0 1 := hg 1 (by decide)
    refine am_run_k 5 (am_cl ?_)
    refine w_writeClues hth ht (by rw [f1]; exact h13) (by rw [f1]; exact e15) h8 (fun g1 v1 e1 k1 => ?_)
    refine am_run_k 3 (am_cl ?_)
    have f2 : g1 1 = g0 1 := by rw [k1 1 (by decide) (by decide) (by decide)]; exact f1
    refine w_writeSayings (t := t) (by omega) v1 e1 (by rw [f2]; exact e15) (by rw [f2]; exact e14) (k1.P h8) (fun g2 v2 k2 => ?_)
    refine am_run_k 2 ?_
    refine h g2 v2 (fun k hk => ?_)
    rw [k2 k (by omega) (by omega) (by omega), k1 k (by omega) (by omega) (by omega)]
    exact hg k (by omega)
  | succ n ih =>
    intro w x g hw hw0 hx hg h8
    subst hx
    have f1 : g 1 = g0 1 := hg 1 (by decide)
    refine am_run_k 3 (And.intro (fun hx => absurd hx ((nI_ge (b := 4) (by omega) (by decide)))) (fun h6 => ?_))
    have nxt : ∀ g1, (∀ k, k ≠ 16 → g1 k = g0 k) → (∀ i, i < 40 → P8 g1 i) → am (d + 4) 9 156 [some (.ref 15), some (.ref 1), some (.int nu), some (.int (nI dd)), some (.int (nI th)), some (.int (nI w))] [] LY g1 0 0 none Q := by
      intro g1 q1 q2
      refine am_run_k 2 ?_
      exact ih (w + 1) _ g1 (by omega) (by omega) (nI_1 w) q1 q2
    refine am_run_k 3 (And.intro (fun h7 => ?_) (fun h7 => ?_))
    · exact nxt g hg h8
    · refine am_run_k 5 (am_cl ?_)
      rw [f1, e15]
      refine w_at (i := w) (by omega) (by omega) ?_
      refine am_run_k 3 (And.intro (fun h9 => ?_) (fun h9 => ?_))
      · exact nxt g hg h8
      · refine am_run_k 4 (am_cl ?_)
        refine w_turnAway (w := w) (t := t) (by omega) ht0 (by omega) (by rw [f1]; exact e15) (by rw [f1]; exact e14) h8 (fun g1 q1 q2 => ?_)
        exact nxt g1 (fun k hk => (q1 k hk).trans (hg k hk)) (fun i hi => q2 i (h8 i hi))
theorem l_9_45 {nu : Int32} {g0 : am_G} (K : ∀ (g' : am_G) (x : Int32), (∀ k, k ≠ 15 → k ≠ 16 → g' k = g0 k) → (∀ i, i < 40 → P8 g' i) → am (d + 4) 9 65 [some (.ref 15), some (.ref 1), some (.int nu), some (.int x), none, none] [] LY g' 0 0 none Q) : ∀ (n w : Nat) (x : Int32) (g : am_G), w + n = 4 → x = nI w → (∀ k, k ≠ 15 → k ≠ 16 → g k = g0 k) → (∀ i, i < w * 10 → P8 g i) → am (d + 4) 9 45 [some (.ref 15), some (.ref 1), some (.int nu), some (.int x), none, none] [] LY g 0 0 none Q := by
  intro n
  induction n with
  | zero =>
    intro w x g hw hx hg h8
    have hw : w = 4 := by omega
    subst hw; subst hx
    refine am_run_k 3 (And.intro (fun h6 => ?_) (fun hx => absurd ((show nI 4 ≤ nI 4 from nI_le (Nat.le_refl 4) (by decide))) hx))
    exact K g _ hg h8
  | succ n ih =>
    intro w x g hw hx hg h8
    subst hx
    refine am_run_k 3 (And.intro (fun hx => absurd hx ((nI_ge (b := 4) (by omega) (by decide)))) (fun h6 => ?_))
    refine am_run_k 5 (am_cl ?_)
    refine w_wander (w := w) (by omega) (fun g1 q1 q2 q3 => ?_)
    refine am_run_k 2 ?_
    refine ih (w + 1) _ g1 (by omega) (nI_1 w) (fun k h15 h16 => (q1 k h15 h16).trans (hg k h15 h16)) (fun i hi => ?_)
    rcases Nat.lt_or_ge i (w * 10) with q | q
    · exact q2 i (h8 i q)
    · have := q3 (i - w * 10) (by omega)
      rw [show w * 10 + (i - w * 10) = i by omega] at this
      exact this
theorem l_9_20 {nu : Int32} {g0 : am_G} (K : ∀ (g' : am_G) (x : Int32), (∀ k, k ≠ 8 → k ≠ 15 → g' k = g0 k) → (∀ w, w < 3 → ∃ p, p < 8 ∧ g' 8 w = nI p) → am (d + 4) 9 43 [some (.ref 15), some (.ref 1), some (.int nu), some (.int x), none, none] [] LY g' 0 0 none Q) : ∀ (n w : Nat) (x : Int32) (g : am_G), w + n = 3 → x = nI w → (∀ k, k ≠ 8 → k ≠ 15 → g k = g0 k) → (∀ i, i < w → ∃ p, p < 8 ∧ g 8 i = nI p) → am (d + 4) 9 20 [some (.ref 15), some (.ref 1), some (.int nu), some (.int x), none, none] [] LY g 0 0 none Q := by
  intro n
  induction n with
  | zero =>
    intro w x g hw hx hg h8
    have hw : w = 3 := by omega
    subst hw; subst hx
    refine am_run_k 3 (And.intro (fun h6 => ?_) (fun hx => absurd ((show nI 3 ≤ nI 3 from nI_le (Nat.le_refl 3) (by decide))) hx))
    exact K g _ hg h8
  | succ n ih =>
    intro w x g hw hx hg h8
    subst hx
    refine am_run_k 3 (And.intro (fun hx => absurd hx ((nI_ge (b := 3) (by omega) (by decide)))) (fun h6 => ?_))
    refine am_run_k 6 (am_cl ?_)
    refine w_draw (k := 8) (by decide) (by decide) (fun p hp _ => ?_)
    refine am_run_k 1 (And.intro (vpn (by omega)) ?_)
    refine am_run_k 2 ?_
    rw [ncl (by omega)]
    refine ih (w + 1) _ _ (by omega) (nI_1 w) (fun k h8 h15 => by rw [am_up_ne h8, am_up_ne h15]; exact hg k h8 h15) (fun i hi => ?_)
    by_cases e : i = w
    · exact ⟨p, hp, by rw [e, am_up_us]⟩
    · obtain ⟨q, hq, eq⟩ := h8 i (by omega)
      exact ⟨q, hq, by rw [am_up_un e, am_up_ne (by decide)]; exact eq⟩
theorem w_fill {nu : Int32} (h : ∀ r g', VC g' → (∀ k, 17 ≤ k → g' k = g k) → Q (some (.int r)) LY g') : am (d + 4) 9 0 [some (.ref 15), some (.ref 1), some (.int nu), none, none, none] [] LY g 0 0 none Q := by
  refine am_run_k 10 (am_cl ?_)
  refine w_build (fun g1 q1 => ?_)
  refine am_run_k 2 ?_
  refine l_9_20 (g0 := g1) (fun g2 x2 q2 hl => ?_) 3 0 0 g1 rfl rfl (fun k _ _ => rfl) (fun i hi => absurd hi (by omega))
  refine am_run_k 2 ?_
  refine l_9_45 (g0 := g2) (fun g3 x3 q3 h8 => ?_) 4 0 0 g2 rfl rfl (fun k _ _ => rfl) (fun i hi => absurd hi (by omega))
  refine am_run_k 8 (am_cl ?_)
  refine w_draw (k := 4) (by decide) (by decide) (fun j hj _ => ?_)
  have e5j : (5 : Int32) + nI j = nI (5 + j) := nI_add 5 j
  have hway : ∃ p, p < 8 ∧ (am_up (am_up (am_up g3 1 6 0) 15 1 (am_lcg (am_up g3 1 6 0 15 1))) 1 5 (nI (5 + j))) 16 (5 + j) = nI p := by
    obtain ⟨p, hp, ep⟩ := h8 (5 + j) (by omega)
    exact ⟨p, hp, by rw [am_up_ne (by decide), am_up_ne (by decide), am_up_ne (by decide)]; exact ep⟩
  obtain ⟨p, hp, ep⟩ := hway
  refine am_run_k 8 (And.intro (vpe (n := 5 + j) (by rw [am_up_us]; exact e5j) (by omega)) ?_)
  rw [e5j]
  rw [am_up_us, ncl (by omega), ep]
  refine am_run_k 5 (am_cl ?_)
  refine w_draw (k := 3) (by decide) (by decide) (fun jd hjd _ => ?_)
  refine am_run_k 5 (am_cl ?_)
  rw [show (1 : Int32) + nI jd = nI (1 + jd) from nI_add 1 jd]
  refine w_draw (k := 3) (by decide) (by decide) (fun th hth _ => ?_)
  refine am_run_k 6 (am_cl ?_)
  obtain ⟨g4, hg4⟩ : ∃ g4 : am_G, g4 = (am_up (am_up (am_up (am_up (am_up (am_up g3 1 6 0) 15 1 (am_lcg (am_up g3 1 6 0 15 1))) 1 5 (nI (5 + j))) 1 4 (nI p)) 15 1 (am_lcg ((am_up (am_up (am_up (am_up g3 1 6 0) 15 1 (am_lcg (am_up g3 1 6 0 15 1))) 1 5 (nI (5 + j))) 1 4 (nI p)) 15 1))) 15 1 (am_lcg ((am_up (am_up (am_up (am_up (am_up g3 1 6 0) 15 1 (am_lcg (am_up g3 1 6 0 15 1))) 1 5 (nI (5 + j))) 1 4 (nI p)) 15 1 (am_lcg ((am_up (am_up (am_up (am_up g3 1 6 0) 15 1 (am_lcg (am_up g3 1 6 0 15 1))) 1 5 (nI (5 + j))) 1 4 (nI p)) 15 1))) 15 1))) := ⟨_, rfl⟩
  rw [← hg4]
  have o1 : ∀ k, k ≠ 1 → k ≠ 15 → g4 k = g3 k := fun k h1 h15 => by rw [hg4, am_up_ne h15, am_up_ne h15, am_up_ne h1, am_up_ne h1, am_up_ne h15, am_up_ne h1]
  have o15 : g4 1 5 = nI (5 + j) := by rw [hg4, am_up_ne (by decide), am_up_ne (by decide), am_up_un (by decide), am_up_us]
  have o14 : g4 1 4 = nI p := by rw [hg4, am_up_ne (by decide), am_up_ne (by decide), am_up_us]
  have o13 : g4 1 3 = 4 := by
    rw [hg4, am_up_ne (by decide), am_up_ne (by decide), am_up_un (by decide), am_up_un (by decide), am_up_ne (by decide), am_up_un (by decide), q3 1 (by decide) (by decide), q2 1 (by decide) (by decide), q1 1 (by decide) (by decide) (by decide) (by decide), am_up_us]
  have oly : ∃ p, p < 8 ∧ g4 8 th = nI p := by
    rw [o1 8 (by decide) (by decide), q3 8 (by decide) (by decide)]
    exact hl th hth
  have o8 : ∀ i, i < 40 → P8 g4 i := fun i hi => (h8 i hi).of (o1 16 (by decide) (by decide))
  refine w_approach (w := 1 + jd) (by omega) hth oly (fun g5 q5 q6 => ?_)
  refine am_run_k 2 ?_
  have f1 : g5 1 = g4 1 := q5 1 (by decide)
  refine l_9_120 (g0 := g5) (dd := 1 + jd) (th := th) (t := 5 + j) hth (by omega) (by omega) ⟨4, by omega, by omega, by rw [f1]; exact o13⟩ (by rw [f1]; exact o15) ⟨p, hp, by rw [f1]; exact o14⟩ (fun g6 v6 q7 => ?_) 3 1 1 g5 rfl (by omega) rfl (fun k _ => rfl) (fun i hi => q6 i (o8 i hi))
  refine h _ g6 v6 (fun k hk => ?_)
  rw [q7 k hk, q5 k (by omega), o1 k (by omega) (by omega), q3 k (by omega) (by omega), q2 k (by omega) (by omega), q1 k (by omega) (by omega) (by omega) (by omega), am_up_ne (by omega), am_up_ne (by omega)]
theorem f_make {nu : Int32} (I : IC g) (h : ∀ r g', IC g' → frC g g' → Q (some (.int r)) LY g') : am (d + 5) 69 0 [some (.ref 0), some (.int nu)] [] LY g 0 0 none Q := by
  refine am_run_k 6 (am_cl ?_)
  refine w_fill (fun r g1 v1 f1 => ?_)
  refine am_run_k 1 ?_
  exact h r g1 ⟨v1, I.2.fr f1⟩ f1
end MAL
end
