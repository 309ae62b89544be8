-- ===== PART A: goes FIRST, ahead of the names: the tables' words, and 'selects' of the private methods out of them =====
/-- a private method of a class that the tables say can be made, by its rows of tables_1 -/
def lw_okq (q : MethodName × Nat) : Prop := (q.1.cls ≠ "java/lang/invoke/MethodHandle" ∧ q.1.cls ≠ "java/lang/invoke/VarHandle") ∧ Cond.instantiable q.1.cls q.2 ∈ tables_1 ∧ Cond.privateMethod q.1 ∈ tables_1 ∧ Cond.instanceMethod q.1 ∈ tables_1
theorem lw_p0 : lw_okq (⟨"TitheGrid$Parishes", "touches", "(IIIII)Z"⟩, 4) := ⟨⟨by decide +kernel, by decide +kernel⟩, List.mem_of_getElem? (i := 48) (by decide +kernel), List.mem_of_getElem? (i := 180) (by decide +kernel), List.mem_of_getElem? (i := 181) (by decide +kernel)⟩
theorem lw_p1 : lw_okq (⟨"TitheGrid$State", "firstToSplit", "()I"⟩, 5) := ⟨⟨by decide +kernel, by decide +kernel⟩, List.mem_of_getElem? (i := 19) (by decide +kernel), List.mem_of_getElem? (i := 200) (by decide +kernel), List.mem_of_getElem? (i := 201) (by decide +kernel)⟩
theorem lw_p2 : lw_okq (⟨"TitheGrid$State", "splitCell", "(I)V"⟩, 5) := ⟨⟨by decide +kernel, by decide +kernel⟩, List.mem_of_getElem? (i := 19) (by decide +kernel), List.mem_of_getElem? (i := 248) (by decide +kernel), List.mem_of_getElem? (i := 249) (by decide +kernel)⟩
theorem lw_p3 : lw_okq (⟨"TitheGrid$State", "fullestQuarter", "(III)I"⟩, 5) := ⟨⟨by decide +kernel, by decide +kernel⟩, List.mem_of_getElem? (i := 19) (by decide +kernel), List.mem_of_getElem? (i := 253) (by decide +kernel), List.mem_of_getElem? (i := 254) (by decide +kernel)⟩
theorem lw_p4 : lw_okq (⟨"TitheGrid$State", "foundIn", "(IIII)V"⟩, 5) := ⟨⟨by decide +kernel, by decide +kernel⟩, List.mem_of_getElem? (i := 19) (by decide +kernel), List.mem_of_getElem? (i := 263) (by decide +kernel), List.mem_of_getElem? (i := 264) (by decide +kernel)⟩
theorem lw_p5 : lw_okq (⟨"TitheGrid$State", "titheOf", "(I)I"⟩, 5) := ⟨⟨by decide +kernel, by decide +kernel⟩, List.mem_of_getElem? (i := 19) (by decide +kernel), List.mem_of_getElem? (i := 268) (by decide +kernel), List.mem_of_getElem? (i := 269) (by decide +kernel)⟩
theorem lw_p6 : lw_okq (⟨"TitheGrid$State", "leftAround", "(I)I"⟩, 5) := ⟨⟨by decide +kernel, by decide +kernel⟩, List.mem_of_getElem? (i := 19) (by decide +kernel), List.mem_of_getElem? (i := 368) (by decide +kernel), List.mem_of_getElem? (i := 369) (by decide +kernel)⟩
theorem lw_p7 : lw_okq (⟨"TitheGrid$State", "topAround", "(I)I"⟩, 5) := ⟨⟨by decide +kernel, by decide +kernel⟩, List.mem_of_getElem? (i := 19) (by decide +kernel), List.mem_of_getElem? (i := 372) (by decide +kernel), List.mem_of_getElem? (i := 373) (by decide +kernel)⟩
theorem lw_p8 : lw_okq (⟨"TitheGrid$State", "parishOfQuarter", "(IIII)I"⟩, 5) := ⟨⟨by decide +kernel, by decide +kernel⟩, List.mem_of_getElem? (i := 19) (by decide +kernel), List.mem_of_getElem? (i := 376) (by decide +kernel), List.mem_of_getElem? (i := 377) (by decide +kernel)⟩
theorem lw_p9 : lw_okq (⟨"TitheGrid$State", "absorb", "(II)V"⟩, 5) := ⟨⟨by decide +kernel, by decide +kernel⟩, List.mem_of_getElem? (i := 19) (by decide +kernel), List.mem_of_getElem? (i := 385) (by decide +kernel), List.mem_of_getElem? (i := 386) (by decide +kernel)⟩
theorem lw_p10 : lw_okq (⟨"TitheGrid$Debts", "shift", "(IIII)V"⟩, 1) := ⟨⟨by decide +kernel, by decide +kernel⟩, List.mem_of_getElem? (i := 78) (by decide +kernel), List.mem_of_getElem? (i := 393) (by decide +kernel), List.mem_of_getElem? (i := 394) (by decide +kernel)⟩
theorem lw_p11 : lw_okq (⟨"TitheGrid$Points", "crowdedCells", "(II)I"⟩, 5) := ⟨⟨by decide +kernel, by decide +kernel⟩, List.mem_of_getElem? (i := 25) (by decide +kernel), List.mem_of_getElem? (i := 554) (by decide +kernel), List.mem_of_getElem? (i := 555) (by decide +kernel)⟩
theorem lw_p12 : lw_okq (⟨"TitheGridModel", "records", "()V"⟩, 3) := ⟨⟨by decide +kernel, by decide +kernel⟩, List.mem_of_getElem? (i := 563) (by decide +kernel), List.mem_of_getElem? (i := 589) (by decide +kernel), List.mem_of_getElem? (i := 590) (by decide +kernel)⟩
theorem lw_p13 : lw_okq (⟨"TitheGridModel", "copies", "(II)V"⟩, 3) := ⟨⟨by decide +kernel, by decide +kernel⟩, List.mem_of_getElem? (i := 563) (by decide +kernel), List.mem_of_getElem? (i := 593) (by decide +kernel), List.mem_of_getElem? (i := 594) (by decide +kernel)⟩
theorem lw_p14 : lw_okq (⟨"TitheGridModel", "parishAt", "(II)I"⟩, 3) := ⟨⟨by decide +kernel, by decide +kernel⟩, List.mem_of_getElem? (i := 563) (by decide +kernel), List.mem_of_getElem? (i := 597) (by decide +kernel), List.mem_of_getElem? (i := 598) (by decide +kernel)⟩
theorem lw_p15 : lw_okq (⟨"TitheGridModel", "ofParish", "(II)I"⟩, 3) := ⟨⟨by decide +kernel, by decide +kernel⟩, List.mem_of_getElem? (i := 563) (by decide +kernel), List.mem_of_getElem? (i := 601) (by decide +kernel), List.mem_of_getElem? (i := 602) (by decide +kernel)⟩
def lw_privs_1 : List (MethodName × Nat) := [(⟨"TitheGrid$Parishes", "touches", "(IIIII)Z"⟩, 4), (⟨"TitheGrid$State", "firstToSplit", "()I"⟩, 5), (⟨"TitheGrid$State", "splitCell", "(I)V"⟩, 5), (⟨"TitheGrid$State", "fullestQuarter", "(III)I"⟩, 5), (⟨"TitheGrid$State", "foundIn", "(IIII)V"⟩, 5), (⟨"TitheGrid$State", "titheOf", "(I)I"⟩, 5), (⟨"TitheGrid$State", "leftAround", "(I)I"⟩, 5), (⟨"TitheGrid$State", "topAround", "(I)I"⟩, 5), (⟨"TitheGrid$State", "parishOfQuarter", "(IIII)I"⟩, 5), (⟨"TitheGrid$State", "absorb", "(II)V"⟩, 5), (⟨"TitheGrid$Debts", "shift", "(IIII)V"⟩, 1), (⟨"TitheGrid$Points", "crowdedCells", "(II)I"⟩, 5), (⟨"TitheGridModel", "records", "()V"⟩, 3), (⟨"TitheGridModel", "copies", "(II)V"⟩, 3), (⟨"TitheGridModel", "parishAt", "(II)I"⟩, 3), (⟨"TitheGridModel", "ofParish", "(II)I"⟩, 3)]
theorem lw_r1 : ∀ q ∈ lw_privs_1, lw_okq q := List.forall_mem_cons.mpr ⟨lw_p0, List.forall_mem_cons.mpr ⟨lw_p1, List.forall_mem_cons.mpr ⟨lw_p2, List.forall_mem_cons.mpr ⟨lw_p3, List.forall_mem_cons.mpr ⟨lw_p4, List.forall_mem_cons.mpr ⟨lw_p5, List.forall_mem_cons.mpr ⟨lw_p6, List.forall_mem_cons.mpr ⟨lw_p7, List.forall_mem_cons.mpr ⟨lw_p8, List.forall_mem_cons.mpr ⟨lw_p9, List.forall_mem_cons.mpr ⟨lw_p10, List.forall_mem_cons.mpr ⟨lw_p11, List.forall_mem_cons.mpr ⟨lw_p12, List.forall_mem_cons.mpr ⟨lw_p13, List.forall_mem_cons.mpr ⟨lw_p14, List.forall_mem_cons.mpr ⟨lw_p15, fun _ h => absurd h List.not_mem_nil⟩⟩⟩⟩⟩⟩⟩⟩⟩⟩⟩⟩⟩⟩⟩⟩
theorem lw_p16 : lw_okq (⟨"TitheGridModel", "isParish", "(I)Z"⟩, 3) := ⟨⟨by decide +kernel, by decide +kernel⟩, List.mem_of_getElem? (i := 563) (by decide +kernel), List.mem_of_getElem? (i := 605) (by decide +kernel), List.mem_of_getElem? (i := 606) (by decide +kernel)⟩
theorem lw_p17 : lw_okq (⟨"TitheGridModel", "sideOf", "(I)I"⟩, 3) := ⟨⟨by decide +kernel, by decide +kernel⟩, List.mem_of_getElem? (i := 563) (by decide +kernel), List.mem_of_getElem? (i := 609) (by decide +kernel), List.mem_of_getElem? (i := 610) (by decide +kernel)⟩
theorem lw_p18 : lw_okq (⟨"TitheGridModel", "setLord", "(II)V"⟩, 3) := ⟨⟨by decide +kernel, by decide +kernel⟩, List.mem_of_getElem? (i := 563) (by decide +kernel), List.mem_of_getElem? (i := 613) (by decide +kernel), List.mem_of_getElem? (i := 614) (by decide +kernel)⟩
theorem lw_p19 : lw_okq (⟨"TitheGridModel", "settles", "()V"⟩, 3) := ⟨⟨by decide +kernel, by decide +kernel⟩, List.mem_of_getElem? (i := 563) (by decide +kernel), List.mem_of_getElem? (i := 617) (by decide +kernel), List.mem_of_getElem? (i := 618) (by decide +kernel)⟩
theorem lw_p20 : lw_okq (⟨"TitheGridModel", "toSplit", "()I"⟩, 3) := ⟨⟨by decide +kernel, by decide +kernel⟩, List.mem_of_getElem? (i := 563) (by decide +kernel), List.mem_of_getElem? (i := 621) (by decide +kernel), List.mem_of_getElem? (i := 622) (by decide +kernel)⟩
theorem lw_p21 : lw_okq (⟨"TitheGridModel", "isCrowded", "(I)Z"⟩, 3) := ⟨⟨by decide +kernel, by decide +kernel⟩, List.mem_of_getElem? (i := 563) (by decide +kernel), List.mem_of_getElem? (i := 625) (by decide +kernel), List.mem_of_getElem? (i := 626) (by decide +kernel)⟩
theorem lw_p22 : lw_okq (⟨"TitheGridModel", "pointsInCell", "(III)I"⟩, 3) := ⟨⟨by decide +kernel, by decide +kernel⟩, List.mem_of_getElem? (i := 563) (by decide +kernel), List.mem_of_getElem? (i := 629) (by decide +kernel), List.mem_of_getElem? (i := 630) (by decide +kernel)⟩
theorem lw_p23 : lw_okq (⟨"TitheGridModel", "pointsIn", "(IIII)I"⟩, 3) := ⟨⟨by decide +kernel, by decide +kernel⟩, List.mem_of_getElem? (i := 563) (by decide +kernel), List.mem_of_getElem? (i := 633) (by decide +kernel), List.mem_of_getElem? (i := 634) (by decide +kernel)⟩
theorem lw_p24 : lw_okq (⟨"TitheGridModel", "isPoint", "(I)Z"⟩, 3) := ⟨⟨by decide +kernel, by decide +kernel⟩, List.mem_of_getElem? (i := 563) (by decide +kernel), List.mem_of_getElem? (i := 637) (by decide +kernel), List.mem_of_getElem? (i := 638) (by decide +kernel)⟩
theorem lw_p25 : lw_okq (⟨"TitheGridModel", "ofPoint", "(II)I"⟩, 3) := ⟨⟨by decide +kernel, by decide +kernel⟩, List.mem_of_getElem? (i := 563) (by decide +kernel), List.mem_of_getElem? (i := 641) (by decide +kernel), List.mem_of_getElem? (i := 642) (by decide +kernel)⟩
theorem lw_p26 : lw_okq (⟨"TitheGridModel", "splits", "(I)V"⟩, 3) := ⟨⟨by decide +kernel, by decide +kernel⟩, List.mem_of_getElem? (i := 563) (by decide +kernel), List.mem_of_getElem? (i := 645) (by decide +kernel), List.mem_of_getElem? (i := 646) (by decide +kernel)⟩
theorem lw_p27 : lw_okq (⟨"TitheGridModel", "setParish", "(IIII)V"⟩, 3) := ⟨⟨by decide +kernel, by decide +kernel⟩, List.mem_of_getElem? (i := 563) (by decide +kernel), List.mem_of_getElem? (i := 649) (by decide +kernel), List.mem_of_getElem? (i := 650) (by decide +kernel)⟩
theorem lw_p28 : lw_okq (⟨"TitheGridModel", "founds", "(IIII)V"⟩, 3) := ⟨⟨by decide +kernel, by decide +kernel⟩, List.mem_of_getElem? (i := 563) (by decide +kernel), List.mem_of_getElem? (i := 653) (by decide +kernel), List.mem_of_getElem? (i := 654) (by decide +kernel)⟩
theorem lw_p29 : lw_okq (⟨"TitheGridModel", "owes", "(III)V"⟩, 3) := ⟨⟨by decide +kernel, by decide +kernel⟩, List.mem_of_getElem? (i := 563) (by decide +kernel), List.mem_of_getElem? (i := 657) (by decide +kernel), List.mem_of_getElem? (i := 658) (by decide +kernel)⟩
theorem lw_p30 : lw_okq (⟨"TitheGridModel", "allPoints", "()I"⟩, 3) := ⟨⟨by decide +kernel, by decide +kernel⟩, List.mem_of_getElem? (i := 563) (by decide +kernel), List.mem_of_getElem? (i := 665) (by decide +kernel), List.mem_of_getElem? (i := 666) (by decide +kernel)⟩
theorem lw_p31 : lw_okq (⟨"TitheGridModel", "parishOf", "(I)I"⟩, 3) := ⟨⟨by decide +kernel, by decide +kernel⟩, List.mem_of_getElem? (i := 563) (by decide +kernel), List.mem_of_getElem? (i := 673) (by decide +kernel), List.mem_of_getElem? (i := 674) (by decide +kernel)⟩
def lw_privs_2 : List (MethodName × Nat) := [(⟨"TitheGridModel", "isParish", "(I)Z"⟩, 3), (⟨"TitheGridModel", "sideOf", "(I)I"⟩, 3), (⟨"TitheGridModel", "setLord", "(II)V"⟩, 3), (⟨"TitheGridModel", "settles", "()V"⟩, 3), (⟨"TitheGridModel", "toSplit", "()I"⟩, 3), (⟨"TitheGridModel", "isCrowded", "(I)Z"⟩, 3), (⟨"TitheGridModel", "pointsInCell", "(III)I"⟩, 3), (⟨"TitheGridModel", "pointsIn", "(IIII)I"⟩, 3), (⟨"TitheGridModel", "isPoint", "(I)Z"⟩, 3), (⟨"TitheGridModel", "ofPoint", "(II)I"⟩, 3), (⟨"TitheGridModel", "splits", "(I)V"⟩, 3), (⟨"TitheGridModel", "setParish", "(IIII)V"⟩, 3), (⟨"TitheGridModel", "founds", "(IIII)V"⟩, 3), (⟨"TitheGridModel", "owes", "(III)V"⟩, 3), (⟨"TitheGridModel", "allPoints", "()I"⟩, 3), (⟨"TitheGridModel", "parishOf", "(I)I"⟩, 3)]
theorem lw_r2 : ∀ q ∈ lw_privs_2, lw_okq q := List.forall_mem_cons.mpr ⟨lw_p16, List.forall_mem_cons.mpr ⟨lw_p17, List.forall_mem_cons.mpr ⟨lw_p18, List.forall_mem_cons.mpr ⟨lw_p19, List.forall_mem_cons.mpr ⟨lw_p20, List.forall_mem_cons.mpr ⟨lw_p21, List.forall_mem_cons.mpr ⟨lw_p22, List.forall_mem_cons.mpr ⟨lw_p23, List.forall_mem_cons.mpr ⟨lw_p24, List.forall_mem_cons.mpr ⟨lw_p25, List.forall_mem_cons.mpr ⟨lw_p26, List.forall_mem_cons.mpr ⟨lw_p27, List.forall_mem_cons.mpr ⟨lw_p28, List.forall_mem_cons.mpr ⟨lw_p29, List.forall_mem_cons.mpr ⟨lw_p30, List.forall_mem_cons.mpr ⟨lw_p31, fun _ h => absurd h List.not_mem_nil⟩⟩⟩⟩⟩⟩⟩⟩⟩⟩⟩⟩⟩⟩⟩⟩
theorem lw_p32 : lw_okq (⟨"TitheGridModel", "gift", "(I)I"⟩, 3) := ⟨⟨by decide +kernel, by decide +kernel⟩, List.mem_of_getElem? (i := 563) (by decide +kernel), List.mem_of_getElem? (i := 689) (by decide +kernel), List.mem_of_getElem? (i := 690) (by decide +kernel)⟩
theorem lw_p33 : lw_okq (⟨"TitheGridModel", "debtOf", "(II)I"⟩, 3) := ⟨⟨by decide +kernel, by decide +kernel⟩, List.mem_of_getElem? (i := 563) (by decide +kernel), List.mem_of_getElem? (i := 693) (by decide +kernel), List.mem_of_getElem? (i := 694) (by decide +kernel)⟩
theorem lw_p34 : lw_okq (⟨"TitheGridModel", "canJoin", "(I)Z"⟩, 3) := ⟨⟨by decide +kernel, by decide +kernel⟩, List.mem_of_getElem? (i := 563) (by decide +kernel), List.mem_of_getElem? (i := 701) (by decide +kernel), List.mem_of_getElem? (i := 702) (by decide +kernel)⟩
theorem lw_p35 : lw_okq (⟨"TitheGridModel", "dissolves", "(II)V"⟩, 3) := ⟨⟨by decide +kernel, by decide +kernel⟩, List.mem_of_getElem? (i := 563) (by decide +kernel), List.mem_of_getElem? (i := 705) (by decide +kernel), List.mem_of_getElem? (i := 706) (by decide +kernel)⟩
theorem lw_p36 : lw_okq (⟨"TitheGridModel", "owed", "(I)I"⟩, 3) := ⟨⟨by decide +kernel, by decide +kernel⟩, List.mem_of_getElem? (i := 563) (by decide +kernel), List.mem_of_getElem? (i := 717) (by decide +kernel), List.mem_of_getElem? (i := 718) (by decide +kernel)⟩
def lw_privs_3 : List (MethodName × Nat) := [(⟨"TitheGridModel", "gift", "(I)I"⟩, 3), (⟨"TitheGridModel", "debtOf", "(II)I"⟩, 3), (⟨"TitheGridModel", "canJoin", "(I)Z"⟩, 3), (⟨"TitheGridModel", "dissolves", "(II)V"⟩, 3), (⟨"TitheGridModel", "owed", "(I)I"⟩, 3)]
theorem lw_r3 : ∀ q ∈ lw_privs_3, lw_okq q := List.forall_mem_cons.mpr ⟨lw_p32, List.forall_mem_cons.mpr ⟨lw_p33, List.forall_mem_cons.mpr ⟨lw_p34, List.forall_mem_cons.mpr ⟨lw_p35, List.forall_mem_cons.mpr ⟨lw_p36, fun _ h => absurd h List.not_mem_nil⟩⟩⟩⟩⟩
def lw_privs : List (MethodName × Nat) := lw_privs_1 ++ (lw_privs_2 ++ (lw_privs_3))
def lw_tbl : List Cond := k2_sels lw_privs ++ tables_1
theorem lw_privs_ok : ∀ q ∈ lw_privs, lw_okq q := by
  show ∀ q ∈ lw_privs_1 ++ (lw_privs_2 ++ (lw_privs_3)), lw_okq q
  exact List.forall_mem_append.mpr ⟨lw_r1, List.forall_mem_append.mpr ⟨lw_r2, lw_r3⟩⟩
-- ===== end of PART A; then your names; then what follows =====
/-! ===== BEGIN words of one list among another's, by their places ===== -/

/-! ===== BEGIN printed: names, fields, word lists, decode rows ===== -/
def RX0 : String := "TitheGrid$Debts"
def TX0 : u_T := fun k => match k with
  | _ => ("TitheGrid$Debts", "amounts", "[I", true)
def tyX0 : Nat → FieldType := fun k => match k with
  | _ => .array .int
abbrev wsX00 : List Cond := u_ws RX0 TX0 1
theorem nmX0 : ∀ a, a < 1 → ∀ b, b < 1 → a ≠ b → (TX0 a).2.1 ≠ (TX0 b).2.1 := by decide +kernel
theorem tyX0_ok : ∀ k, k < 1 → parseFieldDescriptor (TX0 k).2.2.1 = some (tyX0 k) := by decide +kernel
abbrev cX0_init : ByteArray := prog_2_method_1_code
def yX0_init : MethodName := ⟨RX0, "<init>", "()V"⟩
abbrev cX0_copyFrom : ByteArray := prog_2_method_2_code
def yX0_copyFrom : MethodName := ⟨RX0, "copyFrom", "(LTitheGrid$Debts;)V"⟩
abbrev cX0_owed : ByteArray := prog_2_method_3_code
def yX0_owed : MethodName := ⟨RX0, "owed", "(II)I"⟩
abbrev cX0_change : ByteArray := prog_2_method_4_code
def yX0_change : MethodName := ⟨RX0, "change", "(III)V"⟩
abbrev cX0_areParishes : ByteArray := prog_2_method_5_code
def yX0_areParishes : MethodName := ⟨RX0, "areParishes", "(II)Z"⟩
abbrev cX0_owedBy : ByteArray := prog_2_method_6_code
def yX0_owedBy : MethodName := ⟨RX0, "owedBy", "(I)I"⟩
abbrev cX0_owedTo : ByteArray := prog_2_method_7_code
def yX0_owedTo : MethodName := ⟨RX0, "owedTo", "(I)I"⟩
abbrev cX0_sum : ByteArray := prog_2_method_8_code
def yX0_sum : MethodName := ⟨RX0, "sum", "()I"⟩
abbrev cX0_firstCreditorOf : ByteArray := prog_2_method_9_code
def yX0_firstCreditorOf : MethodName := ⟨RX0, "firstCreditorOf", "(I)I"⟩
abbrev cX0_passOn : ByteArray := prog_2_method_10_code
def yX0_passOn : MethodName := ⟨RX0, "passOn", "(II)V"⟩
abbrev cX0_shift : ByteArray := prog_2_method_11_code
def yX0_shift : MethodName := ⟨RX0, "shift", "(IIII)V"⟩
def RX1 : String := "TitheGrid$History"
def TX1 : u_T := fun k => match k with
  | 0 => ("TitheGrid$History", "number", "I", false)
  | _ => ("TitheGrid$History", "states", "[LTitheGrid$State;", true)
def tyX1 : Nat → FieldType := fun k => match k with
  | 0 => .int
  | _ => .array (.object "TitheGrid$State")
abbrev wsX10 : List Cond := u_ws RX1 TX1 2
theorem nmX1 : ∀ a, a < 2 → ∀ b, b < 2 → a ≠ b → (TX1 a).2.1 ≠ (TX1 b).2.1 := by decide +kernel
theorem tyX1_ok : ∀ k, k < 2 → parseFieldDescriptor (TX1 k).2.2.1 = some (tyX1 k) := by decide +kernel
abbrev cX1_init : ByteArray := prog_3_method_1_code
def yX1_init : MethodName := ⟨RX1, "<init>", "()V"⟩
abbrev cX1_isEmpty : ByteArray := prog_3_method_2_code
def yX1_isEmpty : MethodName := ⟨RX1, "isEmpty", "()Z"⟩
abbrev cX1_number : ByteArray := prog_3_method_3_code
def yX1_number : MethodName := ⟨RX1, "number", "()I"⟩
abbrev cX1_keep : ByteArray := prog_3_method_4_code
def yX1_keep : MethodName := ⟨RX1, "keep", "(LTitheGrid$State;)V"⟩
abbrev cX1_restoreInto : ByteArray := prog_3_method_5_code
def yX1_restoreInto : MethodName := ⟨RX1, "restoreInto", "(LTitheGrid$State;)V"⟩
def RX2 : String := "TitheGrid$Parishes"
def TX2 : u_T := fun k => match k with
  | 0 => ("TitheGrid$Parishes", "founded", "I", false)
  | 1 => ("TitheGrid$Parishes", "left", "[I", true)
  | 2 => ("TitheGrid$Parishes", "top", "[I", true)
  | _ => ("TitheGrid$Parishes", "scale", "[I", true)
def tyX2 : Nat → FieldType := fun k => match k with
  | 0 => .int
  | 1 => .array .int
  | 2 => .array .int
  | _ => .array .int
abbrev wsX20 : List Cond := u_ws RX2 TX2 4
theorem nmX2 : ∀ a, a < 4 → ∀ b, b < 4 → a ≠ b → (TX2 a).2.1 ≠ (TX2 b).2.1 := by decide +kernel
theorem tyX2_ok : ∀ k, k < 4 → parseFieldDescriptor (TX2 k).2.2.1 = some (tyX2 k) := by decide +kernel
abbrev cX2_init : ByteArray := prog_4_method_1_code
def yX2_init : MethodName := ⟨RX2, "<init>", "()V"⟩
abbrev cX2_copyFrom : ByteArray := prog_4_method_2_code
def yX2_copyFrom : MethodName := ⟨RX2, "copyFrom", "(LTitheGrid$Parishes;)V"⟩
abbrev cX2_exists : ByteArray := prog_4_method_3_code
def yX2_exists : MethodName := ⟨RX2, "exists", "(I)Z"⟩
abbrev cX2_numberFounded : ByteArray := prog_4_method_4_code
def yX2_numberFounded : MethodName := ⟨RX2, "numberFounded", "()I"⟩
abbrev cX2_number : ByteArray := prog_4_method_5_code
def yX2_number : MethodName := ⟨RX2, "number", "()I"⟩
abbrev cX2_leftOf : ByteArray := prog_4_method_6_code
def yX2_leftOf : MethodName := ⟨RX2, "leftOf", "(I)I"⟩
abbrev cX2_topOf : ByteArray := prog_4_method_7_code
def yX2_topOf : MethodName := ⟨RX2, "topOf", "(I)I"⟩
abbrev cX2_rightOf : ByteArray := prog_4_method_8_code
def yX2_rightOf : MethodName := ⟨RX2, "rightOf", "(I)I"⟩
abbrev cX2_bottomOf : ByteArray := prog_4_method_9_code
def yX2_bottomOf : MethodName := ⟨RX2, "bottomOf", "(I)I"⟩
abbrev cX2_scaleOf : ByteArray := prog_4_method_10_code
def yX2_scaleOf : MethodName := ⟨RX2, "scaleOf", "(I)I"⟩
abbrev cX2_found : ByteArray := prog_4_method_11_code
def yX2_found : MethodName := ⟨RX2, "found", "(III)I"⟩
abbrev cX2_giveCell : ByteArray := prog_4_method_12_code
def yX2_giveCell : MethodName := ⟨RX2, "giveCell", "(IIII)V"⟩
abbrev cX2_dissolve : ByteArray := prog_4_method_13_code
def yX2_dissolve : MethodName := ⟨RX2, "dissolve", "(I)V"⟩
abbrev cX2_touches : ByteArray := prog_4_method_14_code
def yX2_touches : MethodName := ⟨RX2, "touches", "(IIIII)Z"⟩
abbrev cX2_parishAt : ByteArray := prog_4_method_15_code
def yX2_parishAt : MethodName := ⟨RX2, "parishAt", "(II)I"⟩
abbrev cX2_numberTouching : ByteArray := prog_4_method_16_code
def yX2_numberTouching : MethodName := ⟨RX2, "numberTouching", "(IIII)I"⟩
abbrev cX2_greatestScale : ByteArray := prog_4_method_17_code
def yX2_greatestScale : MethodName := ⟨RX2, "greatestScale", "()I"⟩
abbrev cX2_withNumberBefore : ByteArray := prog_4_method_18_code
def yX2_withNumberBefore : MethodName := ⟨RX2, "withNumberBefore", "(I)I"⟩
abbrev cX2_everySecondBit : ByteArray := prog_4_method_19_code
def yX2_everySecondBit : MethodName := ⟨RX2, "everySecondBit", "(I)I"⟩
def RX3 : String := "TitheGrid$Points"
def TX3 : u_T := fun k => match k with
  | 0 => ("TitheGrid$Points", "added", "I", false)
  | 1 => ("TitheGrid$Points", "x", "[I", true)
  | 2 => ("TitheGrid$Points", "y", "[I", true)
  | 3 => ("TitheGrid$Points", "wealth", "[I", true)
  | _ => ("TitheGrid$Points", "lord", "[I", true)
def tyX3 : Nat → FieldType := fun k => match k with
  | 0 => .int
  | 1 => .array .int
  | 2 => .array .int
  | 3 => .array .int
  | _ => .array .int
abbrev wsX30 : List Cond := u_ws RX3 TX3 5
theorem nmX3 : ∀ a, a < 5 → ∀ b, b < 5 → a ≠ b → (TX3 a).2.1 ≠ (TX3 b).2.1 := by decide +kernel
theorem tyX3_ok : ∀ k, k < 5 → parseFieldDescriptor (TX3 k).2.2.1 = some (tyX3 k) := by decide +kernel
abbrev cX3_init : ByteArray := prog_5_method_1_code
def yX3_init : MethodName := ⟨RX3, "<init>", "()V"⟩
abbrev cX3_copyFrom : ByteArray := prog_5_method_2_code
def yX3_copyFrom : MethodName := ⟨RX3, "copyFrom", "(LTitheGrid$Points;)V"⟩
abbrev cX3_exists : ByteArray := prog_5_method_3_code
def yX3_exists : MethodName := ⟨RX3, "exists", "(I)Z"⟩
abbrev cX3_areFull : ByteArray := prog_5_method_4_code
def yX3_areFull : MethodName := ⟨RX3, "areFull", "()Z"⟩
abbrev cX3_numberAdded : ByteArray := prog_5_method_5_code
def yX3_numberAdded : MethodName := ⟨RX3, "numberAdded", "()I"⟩
abbrev cX3_xOf : ByteArray := prog_5_method_6_code
def yX3_xOf : MethodName := ⟨RX3, "xOf", "(I)I"⟩
abbrev cX3_yOf : ByteArray := prog_5_method_7_code
def yX3_yOf : MethodName := ⟨RX3, "yOf", "(I)I"⟩
abbrev cX3_wealthOf : ByteArray := prog_5_method_8_code
def yX3_wealthOf : MethodName := ⟨RX3, "wealthOf", "(I)I"⟩
abbrev cX3_lordOf : ByteArray := prog_5_method_9_code
def yX3_lordOf : MethodName := ⟨RX3, "lordOf", "(I)I"⟩
abbrev cX3_place : ByteArray := prog_5_method_10_code
def yX3_place : MethodName := ⟨RX3, "place", "(IIII)I"⟩
abbrev cX3_takeAway : ByteArray := prog_5_method_11_code
def yX3_takeAway : MethodName := ⟨RX3, "takeAway", "(I)V"⟩
abbrev cX3_shift : ByteArray := prog_5_method_12_code
def yX3_shift : MethodName := ⟨RX3, "shift", "(III)V"⟩
abbrev cX3_setLord : ByteArray := prog_5_method_13_code
def yX3_setLord : MethodName := ⟨RX3, "setLord", "(II)V"⟩
abbrev cX3_liesIn : ByteArray := prog_5_method_14_code
def yX3_liesIn : MethodName := ⟨RX3, "liesIn", "(IIIII)Z"⟩
abbrev cX3_number : ByteArray := prog_5_method_15_code
def yX3_number : MethodName := ⟨RX3, "number", "()I"⟩
abbrev cX3_numberIn : ByteArray := prog_5_method_16_code
def yX3_numberIn : MethodName := ⟨RX3, "numberIn", "(IIII)I"⟩
abbrev cX3_wealthIn : ByteArray := prog_5_method_17_code
def yX3_wealthIn : MethodName := ⟨RX3, "wealthIn", "(IIII)I"⟩
abbrev cX3_richestIn : ByteArray := prog_5_method_18_code
def yX3_richestIn : MethodName := ⟨RX3, "richestIn", "(IIII)I"⟩
abbrev cX3_nearestTo : ByteArray := prog_5_method_19_code
def yX3_nearestTo : MethodName := ⟨RX3, "nearestTo", "(II)I"⟩
abbrev cX3_numberUnder : ByteArray := prog_5_method_20_code
def yX3_numberUnder : MethodName := ⟨RX3, "numberUnder", "(I)I"⟩
abbrev cX3_wealthUnder : ByteArray := prog_5_method_21_code
def yX3_wealthUnder : MethodName := ⟨RX3, "wealthUnder", "(I)I"⟩
abbrev cX3_poorestUnder : ByteArray := prog_5_method_22_code
def yX3_poorestUnder : MethodName := ⟨RX3, "poorestUnder", "(IIIII)I"⟩
abbrev cX3_changeLord : ByteArray := prog_5_method_23_code
def yX3_changeLord : MethodName := ⟨RX3, "changeLord", "(IIIIII)V"⟩
abbrev cX3_cellsIfDivided : ByteArray := prog_5_method_24_code
def yX3_cellsIfDivided : MethodName := ⟨RX3, "cellsIfDivided", "(I)I"⟩
abbrev cX3_crowdedCells : ByteArray := prog_5_method_25_code
def yX3_crowdedCells : MethodName := ⟨RX3, "crowdedCells", "(II)I"⟩
def RX4 : String := "TitheGrid$State"
def TX4 : u_T := fun k => match k with
  | 0 => ("TitheGrid$State", "crowd", "I", false)
  | 1 => ("TitheGrid$State", "tithe", "I", false)
  | 2 => ("TitheGrid$State", "points", "LTitheGrid$Points;", true)
  | 3 => ("TitheGrid$State", "parishes", "LTitheGrid$Parishes;", true)
  | _ => ("TitheGrid$State", "debts", "LTitheGrid$Debts;", true)
def tyX4 : Nat → FieldType := fun k => match k with
  | 0 => .int
  | 1 => .int
  | 2 => .object "TitheGrid$Points"
  | 3 => .object "TitheGrid$Parishes"
  | _ => .object "TitheGrid$Debts"
abbrev wsX40 : List Cond := u_ws RX4 TX4 5
theorem nmX4 : ∀ a, a < 5 → ∀ b, b < 5 → a ≠ b → (TX4 a).2.1 ≠ (TX4 b).2.1 := by decide +kernel
theorem tyX4_ok : ∀ k, k < 5 → parseFieldDescriptor (TX4 k).2.2.1 = some (tyX4 k) := by decide +kernel
abbrev cX4_init : ByteArray := prog_6_method_1_code
def yX4_init : MethodName := ⟨RX4, "<init>", "()V"⟩
abbrev cX4_copyFrom : ByteArray := prog_6_method_2_code
def yX4_copyFrom : MethodName := ⟨RX4, "copyFrom", "(LTitheGrid$State;)V"⟩
abbrev cX4_addPoint : ByteArray := prog_6_method_3_code
def yX4_addPoint : MethodName := ⟨RX4, "addPoint", "(III)I"⟩
abbrev cX4_movePoint : ByteArray := prog_6_method_4_code
def yX4_movePoint : MethodName := ⟨RX4, "movePoint", "(III)Z"⟩
abbrev cX4_parishAround : ByteArray := prog_6_method_5_code
def yX4_parishAround : MethodName := ⟨RX4, "parishAround", "(I)I"⟩
abbrev cX4_pointsIn : ByteArray := prog_6_method_6_code
def yX4_pointsIn : MethodName := ⟨RX4, "pointsIn", "(I)I"⟩
abbrev cX4_pointsWithLordElsewhere : ByteArray := prog_6_method_7_code
def yX4_pointsWithLordElsewhere : MethodName := ⟨RX4, "pointsWithLordElsewhere", "()I"⟩
abbrev cX4_splitCrowded : ByteArray := prog_6_method_8_code
def yX4_splitCrowded : MethodName := ⟨RX4, "splitCrowded", "()V"⟩
abbrev cX4_firstToSplit : ByteArray := prog_6_method_9_code
def yX4_firstToSplit : MethodName := ⟨RX4, "firstToSplit", "()I"⟩
abbrev cX4_splitCell : ByteArray := prog_6_method_10_code
def yX4_splitCell : MethodName := ⟨RX4, "splitCell", "(I)V"⟩
abbrev cX4_fullestQuarter : ByteArray := prog_6_method_11_code
def yX4_fullestQuarter : MethodName := ⟨RX4, "fullestQuarter", "(III)I"⟩
abbrev cX4_foundIn : ByteArray := prog_6_method_12_code
def yX4_foundIn : MethodName := ⟨RX4, "foundIn", "(IIII)V"⟩
abbrev cX4_titheOf : ByteArray := prog_6_method_13_code
def yX4_titheOf : MethodName := ⟨RX4, "titheOf", "(I)I"⟩
abbrev cX4_payTithes : ByteArray := prog_6_method_14_code
def yX4_payTithes : MethodName := ⟨RX4, "payTithes", "(I)I"⟩
abbrev cX4_payablePoints : ByteArray := prog_6_method_15_code
def yX4_payablePoints : MethodName := ⟨RX4, "payablePoints", "(I)I"⟩
abbrev cX4_canJoin : ByteArray := prog_6_method_16_code
def yX4_canJoin : MethodName := ⟨RX4, "canJoin", "(I)Z"⟩
abbrev cX4_joinQuarters : ByteArray := prog_6_method_17_code
def yX4_joinQuarters : MethodName := ⟨RX4, "joinQuarters", "(I)I"⟩
abbrev cX4_absorb : ByteArray := prog_6_method_18_code
def yX4_absorb : MethodName := ⟨RX4, "absorb", "(II)V"⟩
abbrev cX4_parishOfQuarter : ByteArray := prog_6_method_19_code
def yX4_parishOfQuarter : MethodName := ⟨RX4, "parishOfQuarter", "(IIII)I"⟩
abbrev cX4_leftAround : ByteArray := prog_6_method_20_code
def yX4_leftAround : MethodName := ⟨RX4, "leftAround", "(I)I"⟩
abbrev cX4_topAround : ByteArray := prog_6_method_21_code
def yX4_topAround : MethodName := ⟨RX4, "topAround", "(I)I"⟩
def RX5 : String := "TitheGrid"
def TX5 : u_T := fun k => match k with
  | 0 => ("TitheGrid", "now", "LTitheGrid$State;", true)
  | _ => ("TitheGrid", "history", "LTitheGrid$History;", true)
def tyX5 : Nat → FieldType := fun k => match k with
  | 0 => .object "TitheGrid$State"
  | _ => .object "TitheGrid$History"
abbrev wsX50 : List Cond := u_ws RX5 TX5 2
theorem nmX5 : ∀ a, a < 2 → ∀ b, b < 2 → a ≠ b → (TX5 a).2.1 ≠ (TX5 b).2.1 := by decide +kernel
theorem tyX5_ok : ∀ k, k < 2 → parseFieldDescriptor (TX5 k).2.2.1 = some (tyX5 k) := by decide +kernel
abbrev cX5_init : ByteArray := prog_1_method_1_code
def yX5_init : MethodName := ⟨RX5, "<init>", "()V"⟩
abbrev cX5_add : ByteArray := prog_1_method_2_code
def yX5_add : MethodName := ⟨RX5, "add", "(III)I"⟩
abbrev cX5_remove : ByteArray := prog_1_method_3_code
def yX5_remove : MethodName := ⟨RX5, "remove", "(I)I"⟩
abbrev cX5_move : ByteArray := prog_1_method_4_code
def yX5_move : MethodName := ⟨RX5, "move", "(III)I"⟩
abbrev cX5_setCrowd : ByteArray := prog_1_method_5_code
def yX5_setCrowd : MethodName := ⟨RX5, "setCrowd", "(I)I"⟩
abbrev cX5_setTithe : ByteArray := prog_1_method_6_code
def yX5_setTithe : MethodName := ⟨RX5, "setTithe", "(I)I"⟩
abbrev cX5_pay : ByteArray := prog_1_method_7_code
def yX5_pay : MethodName := ⟨RX5, "pay", "(I)I"⟩
abbrev cX5_join : ByteArray := prog_1_method_8_code
def yX5_join : MethodName := ⟨RX5, "join", "(I)I"⟩
abbrev cX5_undo : ByteArray := prog_1_method_9_code
def yX5_undo : MethodName := ⟨RX5, "undo", "()I"⟩
abbrev cX5_count : ByteArray := prog_1_method_10_code
def yX5_count : MethodName := ⟨RX5, "count", "(I)I"⟩
abbrev cX5_point : ByteArray := prog_1_method_11_code
def yX5_point : MethodName := ⟨RX5, "point", "(II)I"⟩
abbrev cX5_parish : ByteArray := prog_1_method_12_code
def yX5_parish : MethodName := ⟨RX5, "parish", "(II)I"⟩
abbrev cX5_debt : ByteArray := prog_1_method_13_code
def yX5_debt : MethodName := ⟨RX5, "debt", "(II)I"⟩
abbrev cX5_at : ByteArray := prog_1_method_14_code
def yX5_at : MethodName := ⟨RX5, "at", "(II)I"⟩
abbrev cX5_range : ByteArray := prog_1_method_15_code
def yX5_range : MethodName := ⟨RX5, "range", "(IIIII)I"⟩
abbrev cX5_nearest : ByteArray := prog_1_method_16_code
def yX5_nearest : MethodName := ⟨RX5, "nearest", "(II)I"⟩
abbrev cX5_inOrder : ByteArray := prog_1_method_17_code
def yX5_inOrder : MethodName := ⟨RX5, "inOrder", "(I)I"⟩
abbrev cX5_payable : ByteArray := prog_1_method_18_code
def yX5_payable : MethodName := ⟨RX5, "payable", "(I)I"⟩
abbrev cX5_cellsWith : ByteArray := prog_1_method_19_code
def yX5_cellsWith : MethodName := ⟨RX5, "cellsWith", "(I)I"⟩
abbrev cX5_joinable : ByteArray := prog_1_method_20_code
def yX5_joinable : MethodName := ⟨RX5, "joinable", "()I"⟩
abbrev cX5_isBetween : ByteArray := prog_1_method_21_code
def yX5_isBetween : MethodName := ⟨RX5, "isBetween", "(III)Z"⟩
abbrev cX5_isOnMap : ByteArray := prog_1_method_22_code
def yX5_isOnMap : MethodName := ⟨RX5, "isOnMap", "(II)Z"⟩
abbrev cX5_sideOf : ByteArray := prog_1_method_23_code
def yX5_sideOf : MethodName := ⟨RX5, "sideOf", "(I)I"⟩
abbrev cX5_quarterLeft : ByteArray := prog_1_method_24_code
def yX5_quarterLeft : MethodName := ⟨RX5, "quarterLeft", "(III)I"⟩
abbrev cX5_quarterTop : ByteArray := prog_1_method_25_code
def yX5_quarterTop : MethodName := ⟨RX5, "quarterTop", "(III)I"⟩
def RX6 : String := "TitheGridModel"
def TX6 : u_T := fun k => match k with
  | 0 => ("TitheGridModel", "row", "[I", true)
  | 1 => ("TitheGridModel", "kept", "I", false)
  | _ => ("TitheGridModel", "four", "[I", true)
def tyX6 : Nat → FieldType := fun k => match k with
  | 0 => .array .int
  | 1 => .int
  | _ => .array .int
abbrev wsX60 : List Cond := u_ws RX6 TX6 3
theorem nmX6 : ∀ a, a < 3 → ∀ b, b < 3 → a ≠ b → (TX6 a).2.1 ≠ (TX6 b).2.1 := by decide +kernel
theorem tyX6_ok : ∀ k, k < 3 → parseFieldDescriptor (TX6 k).2.2.1 = some (tyX6 k) := by decide +kernel
abbrev cX6_init : ByteArray := prog_8_method_1_code
def yX6_init : MethodName := ⟨RX6, "<init>", "()V"⟩
abbrev cX6_in : ByteArray := prog_8_method_2_code
def yX6_in : MethodName := ⟨RX6, "in", "(III)Z"⟩
abbrev cX6_copies : ByteArray := prog_8_method_3_code
def yX6_copies : MethodName := ⟨RX6, "copies", "(II)V"⟩
abbrev cX6_records : ByteArray := prog_8_method_4_code
def yX6_records : MethodName := ⟨RX6, "records", "()V"⟩
abbrev cX6_ofPoint : ByteArray := prog_8_method_5_code
def yX6_ofPoint : MethodName := ⟨RX6, "ofPoint", "(II)I"⟩
abbrev cX6_isPoint : ByteArray := prog_8_method_6_code
def yX6_isPoint : MethodName := ⟨RX6, "isPoint", "(I)Z"⟩
abbrev cX6_ofParish : ByteArray := prog_8_method_7_code
def yX6_ofParish : MethodName := ⟨RX6, "ofParish", "(II)I"⟩
abbrev cX6_isParish : ByteArray := prog_8_method_8_code
def yX6_isParish : MethodName := ⟨RX6, "isParish", "(I)Z"⟩
abbrev cX6_isPlace : ByteArray := prog_8_method_9_code
def yX6_isPlace : MethodName := ⟨RX6, "isPlace", "(II)Z"⟩
abbrev cX6_sideOf : ByteArray := prog_8_method_10_code
def yX6_sideOf : MethodName := ⟨RX6, "sideOf", "(I)I"⟩
abbrev cX6_parishAt : ByteArray := prog_8_method_11_code
def yX6_parishAt : MethodName := ⟨RX6, "parishAt", "(II)I"⟩
abbrev cX6_parishOf : ByteArray := prog_8_method_12_code
def yX6_parishOf : MethodName := ⟨RX6, "parishOf", "(I)I"⟩
abbrev cX6_pointsIn : ByteArray := prog_8_method_13_code
def yX6_pointsIn : MethodName := ⟨RX6, "pointsIn", "(IIII)I"⟩
abbrev cX6_pointsInCell : ByteArray := prog_8_method_14_code
def yX6_pointsInCell : MethodName := ⟨RX6, "pointsInCell", "(III)I"⟩
abbrev cX6_debtOf : ByteArray := prog_8_method_15_code
def yX6_debtOf : MethodName := ⟨RX6, "debtOf", "(II)I"⟩
abbrev cX6_owes : ByteArray := prog_8_method_16_code
def yX6_owes : MethodName := ⟨RX6, "owes", "(III)V"⟩
abbrev cX6_owed : ByteArray := prog_8_method_17_code
def yX6_owed : MethodName := ⟨RX6, "owed", "(I)I"⟩
abbrev cX6_setParish : ByteArray := prog_8_method_18_code
def yX6_setParish : MethodName := ⟨RX6, "setParish", "(IIII)V"⟩
abbrev cX6_setLord : ByteArray := prog_8_method_19_code
def yX6_setLord : MethodName := ⟨RX6, "setLord", "(II)V"⟩
abbrev cX6_isCrowded : ByteArray := prog_8_method_20_code
def yX6_isCrowded : MethodName := ⟨RX6, "isCrowded", "(I)Z"⟩
abbrev cX6_toSplit : ByteArray := prog_8_method_21_code
def yX6_toSplit : MethodName := ⟨RX6, "toSplit", "()I"⟩
abbrev cX6_settles : ByteArray := prog_8_method_22_code
def yX6_settles : MethodName := ⟨RX6, "settles", "()V"⟩
abbrev cX6_splits : ByteArray := prog_8_method_23_code
def yX6_splits : MethodName := ⟨RX6, "splits", "(I)V"⟩
abbrev cX6_founds : ByteArray := prog_8_method_24_code
def yX6_founds : MethodName := ⟨RX6, "founds", "(IIII)V"⟩
abbrev cX6_add : ByteArray := prog_8_method_25_code
def yX6_add : MethodName := ⟨RX6, "add", "(III)I"⟩
abbrev cX6_allPoints : ByteArray := prog_8_method_26_code
def yX6_allPoints : MethodName := ⟨RX6, "allPoints", "()I"⟩
abbrev cX6_remove : ByteArray := prog_8_method_27_code
def yX6_remove : MethodName := ⟨RX6, "remove", "(I)I"⟩
abbrev cX6_move : ByteArray := prog_8_method_28_code
def yX6_move : MethodName := ⟨RX6, "move", "(III)I"⟩
abbrev cX6_setCrowd : ByteArray := prog_8_method_29_code
def yX6_setCrowd : MethodName := ⟨RX6, "setCrowd", "(I)I"⟩
abbrev cX6_setTithe : ByteArray := prog_8_method_30_code
def yX6_setTithe : MethodName := ⟨RX6, "setTithe", "(I)I"⟩
abbrev cX6_gift : ByteArray := prog_8_method_31_code
def yX6_gift : MethodName := ⟨RX6, "gift", "(I)I"⟩
abbrev cX6_pay : ByteArray := prog_8_method_32_code
def yX6_pay : MethodName := ⟨RX6, "pay", "(I)I"⟩
abbrev cX6_canJoin : ByteArray := prog_8_method_33_code
def yX6_canJoin : MethodName := ⟨RX6, "canJoin", "(I)Z"⟩
abbrev cX6_join : ByteArray := prog_8_method_34_code
def yX6_join : MethodName := ⟨RX6, "join", "(I)I"⟩
abbrev cX6_dissolves : ByteArray := prog_8_method_35_code
def yX6_dissolves : MethodName := ⟨RX6, "dissolves", "(II)V"⟩
abbrev cX6_undo : ByteArray := prog_8_method_36_code
def yX6_undo : MethodName := ⟨RX6, "undo", "()I"⟩
abbrev cX6_count : ByteArray := prog_8_method_37_code
def yX6_count : MethodName := ⟨RX6, "count", "(I)I"⟩
abbrev cX6_point : ByteArray := prog_8_method_38_code
def yX6_point : MethodName := ⟨RX6, "point", "(II)I"⟩
abbrev cX6_parish : ByteArray := prog_8_method_39_code
def yX6_parish : MethodName := ⟨RX6, "parish", "(II)I"⟩
abbrev cX6_debt : ByteArray := prog_8_method_40_code
def yX6_debt : MethodName := ⟨RX6, "debt", "(II)I"⟩
abbrev cX6_at : ByteArray := prog_8_method_41_code
def yX6_at : MethodName := ⟨RX6, "at", "(II)I"⟩
abbrev cX6_range : ByteArray := prog_8_method_42_code
def yX6_range : MethodName := ⟨RX6, "range", "(IIIII)I"⟩
abbrev cX6_far : ByteArray := prog_8_method_43_code
def yX6_far : MethodName := ⟨RX6, "far", "(II)I"⟩
abbrev cX6_nearest : ByteArray := prog_8_method_44_code
def yX6_nearest : MethodName := ⟨RX6, "nearest", "(II)I"⟩
abbrev cX6_inOrder : ByteArray := prog_8_method_45_code
def yX6_inOrder : MethodName := ⟨RX6, "inOrder", "(I)I"⟩
abbrev cX6_payable : ByteArray := prog_8_method_46_code
def yX6_payable : MethodName := ⟨RX6, "payable", "(I)I"⟩
abbrev cX6_cellsWith : ByteArray := prog_8_method_47_code
def yX6_cellsWith : MethodName := ⟨RX6, "cellsWith", "(I)I"⟩
abbrev cX6_joinable : ByteArray := prog_8_method_48_code
def yX6_joinable : MethodName := ⟨RX6, "joinable", "()I"⟩
def RJ9 : String := "java/lang/Math"
def TJ9 : u_T := fun k => match k with
  | _ => ("", "", "", false)
def tyJ9 : Nat → FieldType := fun k => match k with
  | _ => .int
abbrev cJ9_abs_0f7a4 : ByteArray := prog_9_method_59_code
def yJ9_abs_0f7a4 : MethodName := ⟨RJ9, "abs", "(I)I"⟩
abbrev cJ9_max_7cf53 : ByteArray := prog_9_method_65_code
def yJ9_max_7cf53 : MethodName := ⟨RJ9, "max", "(II)I"⟩
abbrev cJ9_min_7cf53 : ByteArray := prog_9_method_69_code
def yJ9_min_7cf53 : MethodName := ⟨RJ9, "min", "(II)I"⟩
def RJ10 : String := "java/lang/System"
def TJ10 : u_T := fun k => match k with
  | _ => ("", "", "", false)
def tyJ10 : Nat → FieldType := fun k => match k with
  | _ => .int
def RL : String := "TitheGridLaw"
abbrev cL_law : ByteArray := code
def yL_law : MethodName := ⟨RL, "law", "([I)Z"⟩
abbrev vwCl : List vw_C := [(RX0, TX0, 1), (RX1, TX1, 2), (RX2, TX2, 4), (RX3, TX3, 5), (RX4, TX4, 5), (RX5, TX5, 2), (RX6, TX6, 3)]
/-! the words of the tables that hold on, by their places -/
def zT : List Cond := lw_tbl.filter goodWord
theorem zT_in {w : Cond} (h : w ∈ lw_tbl) (g : goodWord w = true) : w ∈ zT := List.mem_filter.mpr ⟨h, g⟩
theorem zT_sub {w : Cond} (h : w ∈ zT) : w ∈ lw_tbl := (List.mem_filter.mp h).1
theorem zT_good {w : Cond} (h : w ∈ zT) : goodWord w = true := (List.mem_filter.mp h).2
theorem zT_t {w : Cond} (h : w ∈ tables_1) (g : goodWord w = true) : w ∈ zT := zT_in (List.mem_append_right _ h) g
theorem zT_1 {w : Cond} (i : Nat) (h : tables_1_1[i]? = some w) (g : goodWord w = true) : w ∈ zT := zT_t (List.mem_append_left _ (List.mem_of_getElem? h)) g
theorem zT_2 {w : Cond} (i : Nat) (h : tables_1_2[i]? = some w) (g : goodWord w = true) : w ∈ zT := zT_t (List.mem_append_right _ (List.mem_append_left _ (List.mem_of_getElem? h))) g
theorem zT_3 {w : Cond} (i : Nat) (h : tables_1_3[i]? = some w) (g : goodWord w = true) : w ∈ zT := zT_t (List.mem_append_right _ (List.mem_append_right _ (List.mem_append_left _ (List.mem_of_getElem? h)))) g
theorem zT_4 {w : Cond} (i : Nat) (h : tables_1_4[i]? = some w) (g : goodWord w = true) : w ∈ zT := zT_t (List.mem_append_right _ (List.mem_append_right _ (List.mem_append_right _ (List.mem_of_getElem? h)))) g
theorem zT_s {w : Cond} (i : Nat) (h : (k2_sels lw_privs)[i]? = some w) (g : goodWord w = true) : w ∈ zT := zT_in (List.mem_append_left _ (List.mem_of_getElem? h)) g
theorem q1_1 : (Jvm.Cond.initialized "TitheGrid") ∈ zT := zT_1 1 rfl rfl
theorem q1_2 : (Jvm.Cond.initialized "TitheGrid$State") ∈ zT := zT_1 2 rfl rfl
theorem q1_3 : (Jvm.Cond.initialized "TitheGrid$Points") ∈ zT := zT_1 3 rfl rfl
theorem q1_4 : (Jvm.Cond.initialized "TitheGrid$Parishes") ∈ zT := zT_1 4 rfl rfl
theorem q1_5 : (Jvm.Cond.initialized "TitheGrid$Debts") ∈ zT := zT_1 5 rfl rfl
theorem q1_6 : (Jvm.Cond.initialized "TitheGrid$History") ∈ zT := zT_1 6 rfl rfl
theorem q1_7 : (Jvm.Cond.initialized "TitheGridModel") ∈ zT := zT_1 7 rfl rfl
theorem q1_8 : (Jvm.Cond.initialized "java/lang/System") ∈ zT := zT_1 8 rfl rfl
theorem q1_9 : (Jvm.Cond.initialized "java/lang/Math") ∈ zT := zT_1 9 rfl rfl
theorem q1_10 : (Jvm.Cond.classLink "TitheGridLaw" (7 : Nat) "TitheGrid") ∈ zT := zT_1 10 rfl rfl
theorem q1_11 : (Jvm.Cond.instantiable "TitheGrid" (2 : Nat)) ∈ zT := zT_1 11 rfl rfl
theorem q1_12 : (Jvm.Cond.methodLink "TitheGridLaw" (9 : Nat) ({ cls := "TitheGrid", name := "<init>", desc := "()V" } : Jvm.MethodName)) ∈ zT := zT_1 12 rfl rfl
theorem q1_13 : (Jvm.Cond.instanceMethod ({ cls := "TitheGrid", name := "<init>", desc := "()V" } : Jvm.MethodName)) ∈ zT := zT_1 13 rfl rfl
theorem q1_14 : (Jvm.Cond.code ({ cls := "TitheGrid", name := "<init>", desc := "()V" } : Jvm.MethodName) prog_1_method_1_code (1 : Nat) (Option.none : Option Jvm.ClassFile.FieldType)) ∈ zT := zT_1 14 rfl rfl
theorem q1_15 : (Jvm.Cond.methodLink "TitheGrid" (1 : Nat) ({ cls := "java/lang/Object", name := "<init>", desc := "()V" } : Jvm.MethodName)) ∈ zT := zT_1 15 rfl rfl
theorem q1_16 : (Jvm.Cond.instanceMethod ({ cls := "java/lang/Object", name := "<init>", desc := "()V" } : Jvm.MethodName)) ∈ zT := zT_1 16 rfl rfl
theorem q1_17 : (Jvm.Cond.code ({ cls := "java/lang/Object", name := "<init>", desc := "()V" } : Jvm.MethodName) object_method_1_code (1 : Nat) (Option.none : Option Jvm.ClassFile.FieldType)) ∈ zT := zT_1 17 rfl rfl
theorem q1_18 : (Jvm.Cond.classLink "TitheGrid" (7 : Nat) "TitheGrid$State") ∈ zT := zT_1 18 rfl rfl
theorem q1_19 : (Jvm.Cond.instantiable "TitheGrid$State" (5 : Nat)) ∈ zT := zT_1 19 rfl rfl
theorem q1_21 : (Jvm.Cond.instanceMethod ({ cls := "TitheGrid$State", name := "<init>", desc := "()V" } : Jvm.MethodName)) ∈ zT := zT_1 21 rfl rfl
theorem q1_22 : (Jvm.Cond.code ({ cls := "TitheGrid$State", name := "<init>", desc := "()V" } : Jvm.MethodName) prog_6_method_1_code (1 : Nat) (Option.none : Option Jvm.ClassFile.FieldType)) ∈ zT := zT_1 22 rfl rfl
theorem q1_23 : (Jvm.Cond.methodLink "TitheGrid$State" (3 : Nat) ({ cls := "java/lang/Object", name := "<init>", desc := "()V" } : Jvm.MethodName)) ∈ zT := zT_1 23 rfl rfl
theorem q1_24 : (Jvm.Cond.classLink "TitheGrid$State" (18 : Nat) "TitheGrid$Points") ∈ zT := zT_1 24 rfl rfl
theorem q1_25 : (Jvm.Cond.instantiable "TitheGrid$Points" (5 : Nat)) ∈ zT := zT_1 25 rfl rfl
theorem q1_27 : (Jvm.Cond.instanceMethod ({ cls := "TitheGrid$Points", name := "<init>", desc := "()V" } : Jvm.MethodName)) ∈ zT := zT_1 27 rfl rfl
theorem q1_28 : (Jvm.Cond.code ({ cls := "TitheGrid$Points", name := "<init>", desc := "()V" } : Jvm.MethodName) prog_5_method_1_code (1 : Nat) (Option.none : Option Jvm.ClassFile.FieldType)) ∈ zT := zT_1 28 rfl rfl
theorem q1_29 : (Jvm.Cond.methodLink "TitheGrid$Points" (3 : Nat) ({ cls := "java/lang/Object", name := "<init>", desc := "()V" } : Jvm.MethodName)) ∈ zT := zT_1 29 rfl rfl
theorem q1_30 : (Jvm.Cond.fieldLink "TitheGrid$Points" (24 : Nat) "TitheGrid$Points" "added" "I") ∈ zT := zT_1 30 rfl rfl
theorem q1_31 : (Jvm.Cond.fieldLink "TitheGrid$Points" (9 : Nat) "TitheGrid$Points" "x" "[I") ∈ zT := zT_1 31 rfl rfl
theorem q1_32 : (Jvm.Cond.fieldLink "TitheGrid$Points" (15 : Nat) "TitheGrid$Points" "y" "[I") ∈ zT := zT_1 32 rfl rfl
theorem q1_33 : (Jvm.Cond.fieldLink "TitheGrid$Points" (18 : Nat) "TitheGrid$Points" "wealth" "[I") ∈ zT := zT_1 33 rfl rfl
theorem q1_34 : (Jvm.Cond.fieldLink "TitheGrid$Points" (21 : Nat) "TitheGrid$Points" "lord" "[I") ∈ zT := zT_1 34 rfl rfl
theorem q1_35 : (Jvm.Cond.lays "TitheGrid$Points" "TitheGrid$Points" "added" "I") ∈ zT := zT_1 35 rfl rfl
theorem q1_37 : (Jvm.Cond.laysFinal "TitheGrid$Points" "TitheGrid$Points" "x" "[I") ∈ zT := zT_1 37 rfl rfl
theorem q1_39 : (Jvm.Cond.laysFinal "TitheGrid$Points" "TitheGrid$Points" "y" "[I") ∈ zT := zT_1 39 rfl rfl
theorem q1_41 : (Jvm.Cond.laysFinal "TitheGrid$Points" "TitheGrid$Points" "wealth" "[I") ∈ zT := zT_1 41 rfl rfl
theorem q1_43 : (Jvm.Cond.laysFinal "TitheGrid$Points" "TitheGrid$Points" "lord" "[I") ∈ zT := zT_1 43 rfl rfl
theorem q1_46 : (Jvm.Cond.arrayClass Jvm.ClassFile.FieldType.int) ∈ zT := zT_1 46 rfl rfl
theorem q1_47 : (Jvm.Cond.classLink "TitheGrid$State" (25 : Nat) "TitheGrid$Parishes") ∈ zT := zT_1 47 rfl rfl
theorem q1_48 : (Jvm.Cond.instantiable "TitheGrid$Parishes" (4 : Nat)) ∈ zT := zT_1 48 rfl rfl
theorem q1_49 : (Jvm.Cond.methodLink "TitheGrid$State" (27 : Nat) ({ cls := "TitheGrid$Parishes", name := "<init>", desc := "()V" } : Jvm.MethodName)) ∈ zT := zT_1 49 rfl rfl
theorem q1_50 : (Jvm.Cond.instanceMethod ({ cls := "TitheGrid$Parishes", name := "<init>", desc := "()V" } : Jvm.MethodName)) ∈ zT := zT_1 50 rfl rfl
theorem q1_51 : (Jvm.Cond.code ({ cls := "TitheGrid$Parishes", name := "<init>", desc := "()V" } : Jvm.MethodName) prog_4_method_1_code (2 : Nat) (Option.none : Option Jvm.ClassFile.FieldType)) ∈ zT := zT_1 51 rfl rfl
theorem q1_52 : (Jvm.Cond.methodLink "TitheGrid$Parishes" (3 : Nat) ({ cls := "java/lang/Object", name := "<init>", desc := "()V" } : Jvm.MethodName)) ∈ zT := zT_1 52 rfl rfl
theorem q1_53 : (Jvm.Cond.methodLink "TitheGrid$Parishes" (21 : Nat) ({ cls := "TitheGrid$Parishes", name := "found", desc := "(III)I" } : Jvm.MethodName)) ∈ zT := zT_1 53 rfl rfl
theorem q1_54 : (Jvm.Cond.instanceMethod ({ cls := "TitheGrid$Parishes", name := "found", desc := "(III)I" } : Jvm.MethodName)) ∈ zT := zT_1 54 rfl rfl
theorem q1_55 : (Jvm.Cond.selects "TitheGrid$Parishes" ({ cls := "TitheGrid$Parishes", name := "found", desc := "(III)I" } : Jvm.MethodName) ({ cls := "TitheGrid$Parishes", name := "found", desc := "(III)I" } : Jvm.MethodName)) ∈ zT := zT_1 55 rfl rfl
theorem q1_56 : (Jvm.Cond.code ({ cls := "TitheGrid$Parishes", name := "found", desc := "(III)I" } : Jvm.MethodName) prog_4_method_11_code (5 : Nat) (Option.some Jvm.ClassFile.FieldType.int)) ∈ zT := zT_1 56 rfl rfl
theorem q1_58 : (Jvm.Cond.static ({ cls := "TitheGrid", name := "isBetween", desc := "(III)Z" } : Jvm.MethodName)) ∈ zT := zT_1 58 rfl rfl
theorem q1_59 : (Jvm.Cond.code ({ cls := "TitheGrid", name := "isBetween", desc := "(III)Z" } : Jvm.MethodName) prog_1_method_21_code (3 : Nat) (Option.some Jvm.ClassFile.FieldType.boolean)) ∈ zT := zT_1 59 rfl rfl
theorem q1_60 : (Jvm.Cond.methodLink "TitheGrid$Parishes" (60 : Nat) ({ cls := "TitheGrid$Parishes", name := "giveCell", desc := "(IIII)V" } : Jvm.MethodName)) ∈ zT := zT_1 60 rfl rfl
theorem q1_61 : (Jvm.Cond.instanceMethod ({ cls := "TitheGrid$Parishes", name := "giveCell", desc := "(IIII)V" } : Jvm.MethodName)) ∈ zT := zT_1 61 rfl rfl
theorem q1_62 : (Jvm.Cond.selects "TitheGrid$Parishes" ({ cls := "TitheGrid$Parishes", name := "giveCell", desc := "(IIII)V" } : Jvm.MethodName) ({ cls := "TitheGrid$Parishes", name := "giveCell", desc := "(IIII)V" } : Jvm.MethodName)) ∈ zT := zT_1 62 rfl rfl
theorem q1_63 : (Jvm.Cond.code ({ cls := "TitheGrid$Parishes", name := "giveCell", desc := "(IIII)V" } : Jvm.MethodName) prog_4_method_12_code (5 : Nat) (Option.none : Option Jvm.ClassFile.FieldType)) ∈ zT := zT_1 63 rfl rfl
theorem q1_64 : (Jvm.Cond.fieldLink "TitheGrid$Parishes" (25 : Nat) "TitheGrid$Parishes" "founded" "I") ∈ zT := zT_1 64 rfl rfl
theorem q1_65 : (Jvm.Cond.fieldLink "TitheGrid$Parishes" (9 : Nat) "TitheGrid$Parishes" "left" "[I") ∈ zT := zT_1 65 rfl rfl
theorem q1_66 : (Jvm.Cond.fieldLink "TitheGrid$Parishes" (15 : Nat) "TitheGrid$Parishes" "top" "[I") ∈ zT := zT_1 66 rfl rfl
theorem q1_67 : (Jvm.Cond.fieldLink "TitheGrid$Parishes" (18 : Nat) "TitheGrid$Parishes" "scale" "[I") ∈ zT := zT_1 67 rfl rfl
theorem q1_68 : (Jvm.Cond.lays "TitheGrid$Parishes" "TitheGrid$Parishes" "founded" "I") ∈ zT := zT_1 68 rfl rfl
theorem q1_70 : (Jvm.Cond.laysFinal "TitheGrid$Parishes" "TitheGrid$Parishes" "left" "[I") ∈ zT := zT_1 70 rfl rfl
theorem q1_72 : (Jvm.Cond.laysFinal "TitheGrid$Parishes" "TitheGrid$Parishes" "top" "[I") ∈ zT := zT_1 72 rfl rfl
theorem q1_74 : (Jvm.Cond.laysFinal "TitheGrid$Parishes" "TitheGrid$Parishes" "scale" "[I") ∈ zT := zT_1 74 rfl rfl
theorem q1_77 : (Jvm.Cond.classLink "TitheGrid$State" (32 : Nat) "TitheGrid$Debts") ∈ zT := zT_1 77 rfl rfl
theorem q1_78 : (Jvm.Cond.instantiable "TitheGrid$Debts" (1 : Nat)) ∈ zT := zT_1 78 rfl rfl
theorem q1_80 : (Jvm.Cond.instanceMethod ({ cls := "TitheGrid$Debts", name := "<init>", desc := "()V" } : Jvm.MethodName)) ∈ zT := zT_1 80 rfl rfl
theorem q1_81 : (Jvm.Cond.code ({ cls := "TitheGrid$Debts", name := "<init>", desc := "()V" } : Jvm.MethodName) prog_2_method_1_code (1 : Nat) (Option.none : Option Jvm.ClassFile.FieldType)) ∈ zT := zT_1 81 rfl rfl
theorem q1_82 : (Jvm.Cond.methodLink "TitheGrid$Debts" (3 : Nat) ({ cls := "java/lang/Object", name := "<init>", desc := "()V" } : Jvm.MethodName)) ∈ zT := zT_1 82 rfl rfl
theorem q1_83 : (Jvm.Cond.fieldLink "TitheGrid$Debts" (9 : Nat) "TitheGrid$Debts" "amounts" "[I") ∈ zT := zT_1 83 rfl rfl
theorem q1_84 : (Jvm.Cond.laysFinal "TitheGrid$Debts" "TitheGrid$Debts" "amounts" "[I") ∈ zT := zT_1 84 rfl rfl
theorem q1_87 : (Jvm.Cond.fieldLink "TitheGrid$State" (9 : Nat) "TitheGrid$State" "crowd" "I") ∈ zT := zT_1 87 rfl rfl
theorem q1_89 : (Jvm.Cond.fieldLink "TitheGrid$State" (15 : Nat) "TitheGrid$State" "tithe" "I") ∈ zT := zT_1 89 rfl rfl
theorem q1_91 : (Jvm.Cond.fieldLink "TitheGrid$State" (21 : Nat) "TitheGrid$State" "points" "LTitheGrid$Points;") ∈ zT := zT_1 91 rfl rfl
theorem q1_93 : (Jvm.Cond.fieldLink "TitheGrid$State" (28 : Nat) "TitheGrid$State" "parishes" "LTitheGrid$Parishes;") ∈ zT := zT_1 93 rfl rfl
theorem q1_95 : (Jvm.Cond.fieldLink "TitheGrid$State" (35 : Nat) "TitheGrid$State" "debts" "LTitheGrid$Debts;") ∈ zT := zT_1 95 rfl rfl
theorem q1_97 : (Jvm.Cond.lays "TitheGrid$State" "TitheGrid$State" "crowd" "I") ∈ zT := zT_1 97 rfl rfl
theorem q1_99 : (Jvm.Cond.lays "TitheGrid$State" "TitheGrid$State" "tithe" "I") ∈ zT := zT_1 99 rfl rfl
theorem q1_101 : (Jvm.Cond.laysFinal "TitheGrid$State" "TitheGrid$State" "points" "LTitheGrid$Points;") ∈ zT := zT_1 101 rfl rfl
theorem q1_103 : (Jvm.Cond.laysFinal "TitheGrid$State" "TitheGrid$State" "parishes" "LTitheGrid$Parishes;") ∈ zT := zT_1 103 rfl rfl
theorem q1_105 : (Jvm.Cond.laysFinal "TitheGrid$State" "TitheGrid$State" "debts" "LTitheGrid$Debts;") ∈ zT := zT_1 105 rfl rfl
theorem q1_108 : (Jvm.Cond.classLink "TitheGrid" (16 : Nat) "TitheGrid$History") ∈ zT := zT_1 108 rfl rfl
theorem q1_109 : (Jvm.Cond.instantiable "TitheGrid$History" (2 : Nat)) ∈ zT := zT_1 109 rfl rfl
theorem q1_110 : (Jvm.Cond.methodLink "TitheGrid" (18 : Nat) ({ cls := "TitheGrid$History", name := "<init>", desc := "()V" } : Jvm.MethodName)) ∈ zT := zT_1 110 rfl rfl
theorem q1_111 : (Jvm.Cond.instanceMethod ({ cls := "TitheGrid$History", name := "<init>", desc := "()V" } : Jvm.MethodName)) ∈ zT := zT_1 111 rfl rfl
theorem q1_112 : (Jvm.Cond.code ({ cls := "TitheGrid$History", name := "<init>", desc := "()V" } : Jvm.MethodName) prog_3_method_1_code (2 : Nat) (Option.none : Option Jvm.ClassFile.FieldType)) ∈ zT := zT_1 112 rfl rfl
theorem q1_113 : (Jvm.Cond.methodLink "TitheGrid$History" (3 : Nat) ({ cls := "java/lang/Object", name := "<init>", desc := "()V" } : Jvm.MethodName)) ∈ zT := zT_1 113 rfl rfl
theorem q1_114 : (Jvm.Cond.classLink "TitheGrid$History" (9 : Nat) "TitheGrid$State") ∈ zT := zT_1 114 rfl rfl
theorem q1_117 : (Jvm.Cond.fieldLink "TitheGrid$History" (18 : Nat) "TitheGrid$History" "number" "I") ∈ zT := zT_1 117 rfl rfl
theorem q1_118 : (Jvm.Cond.fieldLink "TitheGrid$History" (11 : Nat) "TitheGrid$History" "states" "[LTitheGrid$State;") ∈ zT := zT_1 118 rfl rfl
theorem q1_119 : (Jvm.Cond.lays "TitheGrid$History" "TitheGrid$History" "number" "I") ∈ zT := zT_1 119 rfl rfl
theorem q1_121 : (Jvm.Cond.laysFinal "TitheGrid$History" "TitheGrid$History" "states" "[LTitheGrid$State;") ∈ zT := zT_1 121 rfl rfl
theorem q1_124 : (Jvm.Cond.fieldLink "TitheGrid" (10 : Nat) "TitheGrid" "now" "LTitheGrid$State;") ∈ zT := zT_1 124 rfl rfl
theorem q1_125 : (Jvm.Cond.fieldLink "TitheGrid" (19 : Nat) "TitheGrid" "history" "LTitheGrid$History;") ∈ zT := zT_1 125 rfl rfl
theorem q1_126 : (Jvm.Cond.laysFinal "TitheGrid" "TitheGrid" "now" "LTitheGrid$State;") ∈ zT := zT_1 126 rfl rfl
theorem q1_128 : (Jvm.Cond.laysFinal "TitheGrid" "TitheGrid" "history" "LTitheGrid$History;") ∈ zT := zT_1 128 rfl rfl
theorem q1_131 : (Jvm.Cond.methodLink "TitheGridLaw" (13 : Nat) ({ cls := "TitheGrid", name := "add", desc := "(III)I" } : Jvm.MethodName)) ∈ zT := zT_1 131 rfl rfl
theorem q1_132 : (Jvm.Cond.instanceMethod ({ cls := "TitheGrid", name := "add", desc := "(III)I" } : Jvm.MethodName)) ∈ zT := zT_1 132 rfl rfl
theorem q1_133 : (Jvm.Cond.selects "TitheGrid" ({ cls := "TitheGrid", name := "add", desc := "(III)I" } : Jvm.MethodName) ({ cls := "TitheGrid", name := "add", desc := "(III)I" } : Jvm.MethodName)) ∈ zT := zT_1 133 rfl rfl
theorem q1_134 : (Jvm.Cond.code ({ cls := "TitheGrid", name := "add", desc := "(III)I" } : Jvm.MethodName) prog_1_method_2_code (5 : Nat) (Option.some Jvm.ClassFile.FieldType.int)) ∈ zT := zT_1 134 rfl rfl
theorem q1_135 : (Jvm.Cond.methodLink "TitheGrid" (23 : Nat) ({ cls := "TitheGrid", name := "isOnMap", desc := "(II)Z" } : Jvm.MethodName)) ∈ zT := zT_1 135 rfl rfl
theorem q1_136 : (Jvm.Cond.static ({ cls := "TitheGrid", name := "isOnMap", desc := "(II)Z" } : Jvm.MethodName)) ∈ zT := zT_1 136 rfl rfl
theorem q1_137 : (Jvm.Cond.code ({ cls := "TitheGrid", name := "isOnMap", desc := "(II)Z" } : Jvm.MethodName) prog_1_method_22_code (2 : Nat) (Option.some Jvm.ClassFile.FieldType.boolean)) ∈ zT := zT_1 137 rfl rfl
theorem q1_138 : (Jvm.Cond.methodLink "TitheGrid" (27 : Nat) ({ cls := "TitheGrid", name := "isBetween", desc := "(III)Z" } : Jvm.MethodName)) ∈ zT := zT_1 138 rfl rfl
theorem q1_139 : (Jvm.Cond.methodLink "TitheGrid" (35 : Nat) ({ cls := "TitheGrid$Points", name := "areFull", desc := "()Z" } : Jvm.MethodName)) ∈ zT := zT_1 139 rfl rfl
theorem q1_140 : (Jvm.Cond.instanceMethod ({ cls := "TitheGrid$Points", name := "areFull", desc := "()Z" } : Jvm.MethodName)) ∈ zT := zT_1 140 rfl rfl
theorem q1_141 : (Jvm.Cond.selects "TitheGrid$Points" ({ cls := "TitheGrid$Points", name := "areFull", desc := "()Z" } : Jvm.MethodName) ({ cls := "TitheGrid$Points", name := "areFull", desc := "()Z" } : Jvm.MethodName)) ∈ zT := zT_1 141 rfl rfl
theorem q1_142 : (Jvm.Cond.code ({ cls := "TitheGrid$Points", name := "areFull", desc := "()Z" } : Jvm.MethodName) prog_5_method_4_code (1 : Nat) (Option.some Jvm.ClassFile.FieldType.boolean)) ∈ zT := zT_1 142 rfl rfl
theorem q1_143 : (Jvm.Cond.methodLink "TitheGrid" (41 : Nat) ({ cls := "TitheGrid$History", name := "keep", desc := "(LTitheGrid$State;)V" } : Jvm.MethodName)) ∈ zT := zT_1 143 rfl rfl
theorem q1_144 : (Jvm.Cond.instanceMethod ({ cls := "TitheGrid$History", name := "keep", desc := "(LTitheGrid$State;)V" } : Jvm.MethodName)) ∈ zT := zT_1 144 rfl rfl
theorem q1_145 : (Jvm.Cond.selects "TitheGrid$History" ({ cls := "TitheGrid$History", name := "keep", desc := "(LTitheGrid$State;)V" } : Jvm.MethodName) ({ cls := "TitheGrid$History", name := "keep", desc := "(LTitheGrid$State;)V" } : Jvm.MethodName)) ∈ zT := zT_1 145 rfl rfl
theorem q1_146 : (Jvm.Cond.code ({ cls := "TitheGrid$History", name := "keep", desc := "(LTitheGrid$State;)V" } : Jvm.MethodName) prog_3_method_4_code (4 : Nat) (Option.none : Option Jvm.ClassFile.FieldType)) ∈ zT := zT_1 146 rfl rfl
theorem q1_147 : (Jvm.Cond.methodLink "TitheGrid$History" (22 : Nat) ({ cls := "TitheGrid$State", name := "copyFrom", desc := "(LTitheGrid$State;)V" } : Jvm.MethodName)) ∈ zT := zT_1 147 rfl rfl
theorem q1_148 : (Jvm.Cond.instanceMethod ({ cls := "TitheGrid$State", name := "copyFrom", desc := "(LTitheGrid$State;)V" } : Jvm.MethodName)) ∈ zT := zT_1 148 rfl rfl
theorem q1_149 : (Jvm.Cond.selects "TitheGrid$State" ({ cls := "TitheGrid$State", name := "copyFrom", desc := "(LTitheGrid$State;)V" } : Jvm.MethodName) ({ cls := "TitheGrid$State", name := "copyFrom", desc := "(LTitheGrid$State;)V" } : Jvm.MethodName)) ∈ zT := zT_1 149 rfl rfl
theorem q1_150 : (Jvm.Cond.code ({ cls := "TitheGrid$State", name := "copyFrom", desc := "(LTitheGrid$State;)V" } : Jvm.MethodName) prog_6_method_2_code (2 : Nat) (Option.none : Option Jvm.ClassFile.FieldType)) ∈ zT := zT_1 150 rfl rfl
theorem q1_151 : (Jvm.Cond.methodLink "TitheGrid$State" (39 : Nat) ({ cls := "TitheGrid$Points", name := "copyFrom", desc := "(LTitheGrid$Points;)V" } : Jvm.MethodName)) ∈ zT := zT_1 151 rfl rfl
theorem q1_152 : (Jvm.Cond.instanceMethod ({ cls := "TitheGrid$Points", name := "copyFrom", desc := "(LTitheGrid$Points;)V" } : Jvm.MethodName)) ∈ zT := zT_1 152 rfl rfl
theorem q1_153 : (Jvm.Cond.selects "TitheGrid$Points" ({ cls := "TitheGrid$Points", name := "copyFrom", desc := "(LTitheGrid$Points;)V" } : Jvm.MethodName) ({ cls := "TitheGrid$Points", name := "copyFrom", desc := "(LTitheGrid$Points;)V" } : Jvm.MethodName)) ∈ zT := zT_1 153 rfl rfl
theorem q1_154 : (Jvm.Cond.code ({ cls := "TitheGrid$Points", name := "copyFrom", desc := "(LTitheGrid$Points;)V" } : Jvm.MethodName) prog_5_method_2_code (2 : Nat) (Option.none : Option Jvm.ClassFile.FieldType)) ∈ zT := zT_1 154 rfl rfl
theorem q1_155 : (Jvm.Cond.methodLink "TitheGrid$Points" (28 : Nat) ({ cls := "java/lang/System", name := "arraycopy", desc := "(Ljava/lang/Object;ILjava/lang/Object;II)V" } : Jvm.MethodName)) ∈ zT := zT_1 155 rfl rfl
theorem q1_156 : (Jvm.Cond.static ({ cls := "java/lang/System", name := "arraycopy", desc := "(Ljava/lang/Object;ILjava/lang/Object;II)V" } : Jvm.MethodName)) ∈ zT := zT_1 156 rfl rfl
theorem q1_157 : (Jvm.Cond.native ({ cls := "java/lang/System", name := "arraycopy", desc := "(Ljava/lang/Object;ILjava/lang/Object;II)V" } : Jvm.MethodName)) ∈ zT := zT_1 157 rfl rfl
theorem q1_158 : (Jvm.Cond.methodLink "TitheGrid$State" (43 : Nat) ({ cls := "TitheGrid$Parishes", name := "copyFrom", desc := "(LTitheGrid$Parishes;)V" } : Jvm.MethodName)) ∈ zT := zT_1 158 rfl rfl
theorem q1_159 : (Jvm.Cond.instanceMethod ({ cls := "TitheGrid$Parishes", name := "copyFrom", desc := "(LTitheGrid$Parishes;)V" } : Jvm.MethodName)) ∈ zT := zT_1 159 rfl rfl
theorem q1_160 : (Jvm.Cond.selects "TitheGrid$Parishes" ({ cls := "TitheGrid$Parishes", name := "copyFrom", desc := "(LTitheGrid$Parishes;)V" } : Jvm.MethodName) ({ cls := "TitheGrid$Parishes", name := "copyFrom", desc := "(LTitheGrid$Parishes;)V" } : Jvm.MethodName)) ∈ zT := zT_1 160 rfl rfl
theorem q1_161 : (Jvm.Cond.code ({ cls := "TitheGrid$Parishes", name := "copyFrom", desc := "(LTitheGrid$Parishes;)V" } : Jvm.MethodName) prog_4_method_2_code (2 : Nat) (Option.none : Option Jvm.ClassFile.FieldType)) ∈ zT := zT_1 161 rfl rfl
theorem q1_162 : (Jvm.Cond.methodLink "TitheGrid$Parishes" (29 : Nat) ({ cls := "java/lang/System", name := "arraycopy", desc := "(Ljava/lang/Object;ILjava/lang/Object;II)V" } : Jvm.MethodName)) ∈ zT := zT_1 162 rfl rfl
theorem q1_163 : (Jvm.Cond.methodLink "TitheGrid$State" (46 : Nat) ({ cls := "TitheGrid$Debts", name := "copyFrom", desc := "(LTitheGrid$Debts;)V" } : Jvm.MethodName)) ∈ zT := zT_1 163 rfl rfl
theorem q1_164 : (Jvm.Cond.instanceMethod ({ cls := "TitheGrid$Debts", name := "copyFrom", desc := "(LTitheGrid$Debts;)V" } : Jvm.MethodName)) ∈ zT := zT_1 164 rfl rfl
theorem q1_165 : (Jvm.Cond.selects "TitheGrid$Debts" ({ cls := "TitheGrid$Debts", name := "copyFrom", desc := "(LTitheGrid$Debts;)V" } : Jvm.MethodName) ({ cls := "TitheGrid$Debts", name := "copyFrom", desc := "(LTitheGrid$Debts;)V" } : Jvm.MethodName)) ∈ zT := zT_1 165 rfl rfl
theorem q1_166 : (Jvm.Cond.code ({ cls := "TitheGrid$Debts", name := "copyFrom", desc := "(LTitheGrid$Debts;)V" } : Jvm.MethodName) prog_2_method_2_code (2 : Nat) (Option.none : Option Jvm.ClassFile.FieldType)) ∈ zT := zT_1 166 rfl rfl
theorem q1_167 : (Jvm.Cond.methodLink "TitheGrid$Debts" (15 : Nat) ({ cls := "java/lang/System", name := "arraycopy", desc := "(Ljava/lang/Object;ILjava/lang/Object;II)V" } : Jvm.MethodName)) ∈ zT := zT_1 167 rfl rfl
theorem q1_168 : (Jvm.Cond.methodLink "TitheGrid$History" (26 : Nat) ({ cls := "java/lang/Math", name := "min", desc := "(II)I" } : Jvm.MethodName)) ∈ zT := zT_1 168 rfl rfl
theorem q1_169 : (Jvm.Cond.static ({ cls := "java/lang/Math", name := "min", desc := "(II)I" } : Jvm.MethodName)) ∈ zT := zT_1 169 rfl rfl
theorem q1_170 : (Jvm.Cond.code ({ cls := "java/lang/Math", name := "min", desc := "(II)I" } : Jvm.MethodName) prog_9_method_69_code (2 : Nat) (Option.some Jvm.ClassFile.FieldType.int)) ∈ zT := zT_1 170 rfl rfl
theorem q1_171 : (Jvm.Cond.methodLink "TitheGrid" (45 : Nat) ({ cls := "TitheGrid$State", name := "addPoint", desc := "(III)I" } : Jvm.MethodName)) ∈ zT := zT_1 171 rfl rfl
theorem q1_172 : (Jvm.Cond.instanceMethod ({ cls := "TitheGrid$State", name := "addPoint", desc := "(III)I" } : Jvm.MethodName)) ∈ zT := zT_1 172 rfl rfl
theorem q1_173 : (Jvm.Cond.selects "TitheGrid$State" ({ cls := "TitheGrid$State", name := "addPoint", desc := "(III)I" } : Jvm.MethodName) ({ cls := "TitheGrid$State", name := "addPoint", desc := "(III)I" } : Jvm.MethodName)) ∈ zT := zT_1 173 rfl rfl
theorem q1_174 : (Jvm.Cond.code ({ cls := "TitheGrid$State", name := "addPoint", desc := "(III)I" } : Jvm.MethodName) prog_6_method_3_code (4 : Nat) (Option.some Jvm.ClassFile.FieldType.int)) ∈ zT := zT_1 174 rfl rfl
theorem q1_175 : (Jvm.Cond.methodLink "TitheGrid$State" (49 : Nat) ({ cls := "TitheGrid$Parishes", name := "parishAt", desc := "(II)I" } : Jvm.MethodName)) ∈ zT := zT_1 175 rfl rfl
theorem q1_176 : (Jvm.Cond.instanceMethod ({ cls := "TitheGrid$Parishes", name := "parishAt", desc := "(II)I" } : Jvm.MethodName)) ∈ zT := zT_1 176 rfl rfl
theorem q1_177 : (Jvm.Cond.selects "TitheGrid$Parishes" ({ cls := "TitheGrid$Parishes", name := "parishAt", desc := "(II)I" } : Jvm.MethodName) ({ cls := "TitheGrid$Parishes", name := "parishAt", desc := "(II)I" } : Jvm.MethodName)) ∈ zT := zT_1 177 rfl rfl
theorem q1_178 : (Jvm.Cond.code ({ cls := "TitheGrid$Parishes", name := "parishAt", desc := "(II)I" } : Jvm.MethodName) prog_4_method_15_code (4 : Nat) (Option.some Jvm.ClassFile.FieldType.int)) ∈ zT := zT_1 178 rfl rfl
theorem q1_179 : (Jvm.Cond.methodLink "TitheGrid$Parishes" (64 : Nat) ({ cls := "TitheGrid$Parishes", name := "touches", desc := "(IIIII)Z" } : Jvm.MethodName)) ∈ zT := zT_1 179 rfl rfl
theorem q1_181 : (Jvm.Cond.instanceMethod ({ cls := "TitheGrid$Parishes", name := "touches", desc := "(IIIII)Z" } : Jvm.MethodName)) ∈ zT := zT_1 181 rfl rfl
theorem q1_182 : (Jvm.Cond.code ({ cls := "TitheGrid$Parishes", name := "touches", desc := "(IIIII)Z" } : Jvm.MethodName) prog_4_method_14_code (7 : Nat) (Option.some Jvm.ClassFile.FieldType.boolean)) ∈ zT := zT_1 182 rfl rfl
theorem q1_183 : (Jvm.Cond.methodLink "TitheGrid$Parishes" (39 : Nat) ({ cls := "TitheGrid$Parishes", name := "exists", desc := "(I)Z" } : Jvm.MethodName)) ∈ zT := zT_1 183 rfl rfl
theorem q1_184 : (Jvm.Cond.instanceMethod ({ cls := "TitheGrid$Parishes", name := "exists", desc := "(I)Z" } : Jvm.MethodName)) ∈ zT := zT_1 184 rfl rfl
theorem q1_185 : (Jvm.Cond.selects "TitheGrid$Parishes" ({ cls := "TitheGrid$Parishes", name := "exists", desc := "(I)Z" } : Jvm.MethodName) ({ cls := "TitheGrid$Parishes", name := "exists", desc := "(I)Z" } : Jvm.MethodName)) ∈ zT := zT_1 185 rfl rfl
theorem q1_186 : (Jvm.Cond.code ({ cls := "TitheGrid$Parishes", name := "exists", desc := "(I)Z" } : Jvm.MethodName) prog_4_method_3_code (2 : Nat) (Option.some Jvm.ClassFile.FieldType.boolean)) ∈ zT := zT_1 186 rfl rfl
theorem q1_188 : (Jvm.Cond.static ({ cls := "TitheGrid", name := "sideOf", desc := "(I)I" } : Jvm.MethodName)) ∈ zT := zT_1 188 rfl rfl
theorem q1_189 : (Jvm.Cond.code ({ cls := "TitheGrid", name := "sideOf", desc := "(I)I" } : Jvm.MethodName) prog_1_method_23_code (1 : Nat) (Option.some Jvm.ClassFile.FieldType.int)) ∈ zT := zT_1 189 rfl rfl
theorem q1_190 : (Jvm.Cond.methodLink "TitheGrid$State" (53 : Nat) ({ cls := "TitheGrid$Points", name := "place", desc := "(IIII)I" } : Jvm.MethodName)) ∈ zT := zT_1 190 rfl rfl
theorem q1_191 : (Jvm.Cond.instanceMethod ({ cls := "TitheGrid$Points", name := "place", desc := "(IIII)I" } : Jvm.MethodName)) ∈ zT := zT_1 191 rfl rfl
theorem q1_192 : (Jvm.Cond.selects "TitheGrid$Points" ({ cls := "TitheGrid$Points", name := "place", desc := "(IIII)I" } : Jvm.MethodName) ({ cls := "TitheGrid$Points", name := "place", desc := "(IIII)I" } : Jvm.MethodName)) ∈ zT := zT_1 192 rfl rfl
theorem q1_193 : (Jvm.Cond.code ({ cls := "TitheGrid$Points", name := "place", desc := "(IIII)I" } : Jvm.MethodName) prog_5_method_10_code (6 : Nat) (Option.some Jvm.ClassFile.FieldType.int)) ∈ zT := zT_1 193 rfl rfl
theorem q1_195 : (Jvm.Cond.methodLink "TitheGrid" (49 : Nat) ({ cls := "TitheGrid$State", name := "splitCrowded", desc := "()V" } : Jvm.MethodName)) ∈ zT := zT_1 195 rfl rfl
theorem q1_196 : (Jvm.Cond.instanceMethod ({ cls := "TitheGrid$State", name := "splitCrowded", desc := "()V" } : Jvm.MethodName)) ∈ zT := zT_1 196 rfl rfl
theorem q1_197 : (Jvm.Cond.selects "TitheGrid$State" ({ cls := "TitheGrid$State", name := "splitCrowded", desc := "()V" } : Jvm.MethodName) ({ cls := "TitheGrid$State", name := "splitCrowded", desc := "()V" } : Jvm.MethodName)) ∈ zT := zT_1 197 rfl rfl
theorem q1_198 : (Jvm.Cond.code ({ cls := "TitheGrid$State", name := "splitCrowded", desc := "()V" } : Jvm.MethodName) prog_6_method_8_code (3 : Nat) (Option.none : Option Jvm.ClassFile.FieldType)) ∈ zT := zT_1 198 rfl rfl
theorem q1_199 : (Jvm.Cond.methodLink "TitheGrid$State" (97 : Nat) ({ cls := "TitheGrid$State", name := "firstToSplit", desc := "()I" } : Jvm.MethodName)) ∈ zT := zT_1 199 rfl rfl
theorem q1_201 : (Jvm.Cond.instanceMethod ({ cls := "TitheGrid$State", name := "firstToSplit", desc := "()I" } : Jvm.MethodName)) ∈ zT := zT_1 201 rfl rfl
theorem q1_202 : (Jvm.Cond.code ({ cls := "TitheGrid$State", name := "firstToSplit", desc := "()I" } : Jvm.MethodName) prog_6_method_9_code (3 : Nat) (Option.some Jvm.ClassFile.FieldType.int)) ∈ zT := zT_1 202 rfl rfl
theorem q1_203 : (Jvm.Cond.methodLink "TitheGrid$State" (105 : Nat) ({ cls := "TitheGrid$Parishes", name := "numberFounded", desc := "()I" } : Jvm.MethodName)) ∈ zT := zT_1 203 rfl rfl
theorem q1_204 : (Jvm.Cond.instanceMethod ({ cls := "TitheGrid$Parishes", name := "numberFounded", desc := "()I" } : Jvm.MethodName)) ∈ zT := zT_1 204 rfl rfl
theorem q1_205 : (Jvm.Cond.selects "TitheGrid$Parishes" ({ cls := "TitheGrid$Parishes", name := "numberFounded", desc := "()I" } : Jvm.MethodName) ({ cls := "TitheGrid$Parishes", name := "numberFounded", desc := "()I" } : Jvm.MethodName)) ∈ zT := zT_1 205 rfl rfl
theorem q1_206 : (Jvm.Cond.code ({ cls := "TitheGrid$Parishes", name := "numberFounded", desc := "()I" } : Jvm.MethodName) prog_4_method_4_code (1 : Nat) (Option.some Jvm.ClassFile.FieldType.int)) ∈ zT := zT_1 206 rfl rfl
theorem q1_207 : (Jvm.Cond.methodLink "TitheGrid$State" (108 : Nat) ({ cls := "TitheGrid$Parishes", name := "exists", desc := "(I)Z" } : Jvm.MethodName)) ∈ zT := zT_1 207 rfl rfl
theorem q1_208 : (Jvm.Cond.methodLink "TitheGrid$State" (109 : Nat) ({ cls := "TitheGrid$Parishes", name := "scaleOf", desc := "(I)I" } : Jvm.MethodName)) ∈ zT := zT_1 208 rfl rfl
theorem q1_209 : (Jvm.Cond.instanceMethod ({ cls := "TitheGrid$Parishes", name := "scaleOf", desc := "(I)I" } : Jvm.MethodName)) ∈ zT := zT_1 209 rfl rfl
theorem q1_210 : (Jvm.Cond.selects "TitheGrid$Parishes" ({ cls := "TitheGrid$Parishes", name := "scaleOf", desc := "(I)I" } : Jvm.MethodName) ({ cls := "TitheGrid$Parishes", name := "scaleOf", desc := "(I)I" } : Jvm.MethodName)) ∈ zT := zT_1 210 rfl rfl
theorem q1_211 : (Jvm.Cond.code ({ cls := "TitheGrid$Parishes", name := "scaleOf", desc := "(I)I" } : Jvm.MethodName) prog_4_method_10_code (2 : Nat) (Option.some Jvm.ClassFile.FieldType.int)) ∈ zT := zT_1 211 rfl rfl
theorem q1_212 : (Jvm.Cond.methodLink "TitheGrid$State" (112 : Nat) ({ cls := "TitheGrid$State", name := "pointsIn", desc := "(I)I" } : Jvm.MethodName)) ∈ zT := zT_1 212 rfl rfl
theorem q1_213 : (Jvm.Cond.instanceMethod ({ cls := "TitheGrid$State", name := "pointsIn", desc := "(I)I" } : Jvm.MethodName)) ∈ zT := zT_1 213 rfl rfl
theorem q1_214 : (Jvm.Cond.selects "TitheGrid$State" ({ cls := "TitheGrid$State", name := "pointsIn", desc := "(I)I" } : Jvm.MethodName) ({ cls := "TitheGrid$State", name := "pointsIn", desc := "(I)I" } : Jvm.MethodName)) ∈ zT := zT_1 214 rfl rfl
theorem q1_215 : (Jvm.Cond.code ({ cls := "TitheGrid$State", name := "pointsIn", desc := "(I)I" } : Jvm.MethodName) prog_6_method_6_code (2 : Nat) (Option.some Jvm.ClassFile.FieldType.int)) ∈ zT := zT_1 215 rfl rfl
theorem q1_216 : (Jvm.Cond.methodLink "TitheGrid$State" (78 : Nat) ({ cls := "TitheGrid$Parishes", name := "leftOf", desc := "(I)I" } : Jvm.MethodName)) ∈ zT := zT_1 216 rfl rfl
theorem q1_217 : (Jvm.Cond.instanceMethod ({ cls := "TitheGrid$Parishes", name := "leftOf", desc := "(I)I" } : Jvm.MethodName)) ∈ zT := zT_1 217 rfl rfl
theorem q1_218 : (Jvm.Cond.selects "TitheGrid$Parishes" ({ cls := "TitheGrid$Parishes", name := "leftOf", desc := "(I)I" } : Jvm.MethodName) ({ cls := "TitheGrid$Parishes", name := "leftOf", desc := "(I)I" } : Jvm.MethodName)) ∈ zT := zT_1 218 rfl rfl
theorem q1_219 : (Jvm.Cond.code ({ cls := "TitheGrid$Parishes", name := "leftOf", desc := "(I)I" } : Jvm.MethodName) prog_4_method_6_code (2 : Nat) (Option.some Jvm.ClassFile.FieldType.int)) ∈ zT := zT_1 219 rfl rfl
theorem q1_220 : (Jvm.Cond.methodLink "TitheGrid$State" (81 : Nat) ({ cls := "TitheGrid$Parishes", name := "topOf", desc := "(I)I" } : Jvm.MethodName)) ∈ zT := zT_1 220 rfl rfl
theorem q1_221 : (Jvm.Cond.instanceMethod ({ cls := "TitheGrid$Parishes", name := "topOf", desc := "(I)I" } : Jvm.MethodName)) ∈ zT := zT_1 221 rfl rfl
theorem q1_222 : (Jvm.Cond.selects "TitheGrid$Parishes" ({ cls := "TitheGrid$Parishes", name := "topOf", desc := "(I)I" } : Jvm.MethodName) ({ cls := "TitheGrid$Parishes", name := "topOf", desc := "(I)I" } : Jvm.MethodName)) ∈ zT := zT_1 222 rfl rfl
theorem q1_223 : (Jvm.Cond.code ({ cls := "TitheGrid$Parishes", name := "topOf", desc := "(I)I" } : Jvm.MethodName) prog_4_method_7_code (2 : Nat) (Option.some Jvm.ClassFile.FieldType.int)) ∈ zT := zT_1 223 rfl rfl
theorem q1_224 : (Jvm.Cond.methodLink "TitheGrid$State" (84 : Nat) ({ cls := "TitheGrid$Parishes", name := "rightOf", desc := "(I)I" } : Jvm.MethodName)) ∈ zT := zT_1 224 rfl rfl
theorem q1_225 : (Jvm.Cond.instanceMethod ({ cls := "TitheGrid$Parishes", name := "rightOf", desc := "(I)I" } : Jvm.MethodName)) ∈ zT := zT_1 225 rfl rfl
theorem q1_226 : (Jvm.Cond.selects "TitheGrid$Parishes" ({ cls := "TitheGrid$Parishes", name := "rightOf", desc := "(I)I" } : Jvm.MethodName) ({ cls := "TitheGrid$Parishes", name := "rightOf", desc := "(I)I" } : Jvm.MethodName)) ∈ zT := zT_1 226 rfl rfl
theorem q1_227 : (Jvm.Cond.code ({ cls := "TitheGrid$Parishes", name := "rightOf", desc := "(I)I" } : Jvm.MethodName) prog_4_method_8_code (2 : Nat) (Option.some Jvm.ClassFile.FieldType.int)) ∈ zT := zT_1 227 rfl rfl
theorem q1_228 : (Jvm.Cond.methodLink "TitheGrid$Parishes" (43 : Nat) ({ cls := "TitheGrid$Parishes", name := "leftOf", desc := "(I)I" } : Jvm.MethodName)) ∈ zT := zT_1 228 rfl rfl
theorem q1_229 : (Jvm.Cond.methodLink "TitheGrid$Parishes" (47 : Nat) ({ cls := "TitheGrid$Parishes", name := "scaleOf", desc := "(I)I" } : Jvm.MethodName)) ∈ zT := zT_1 229 rfl rfl
theorem q1_230 : (Jvm.Cond.methodLink "TitheGrid$State" (87 : Nat) ({ cls := "TitheGrid$Parishes", name := "bottomOf", desc := "(I)I" } : Jvm.MethodName)) ∈ zT := zT_1 230 rfl rfl
theorem q1_231 : (Jvm.Cond.instanceMethod ({ cls := "TitheGrid$Parishes", name := "bottomOf", desc := "(I)I" } : Jvm.MethodName)) ∈ zT := zT_1 231 rfl rfl
theorem q1_232 : (Jvm.Cond.selects "TitheGrid$Parishes" ({ cls := "TitheGrid$Parishes", name := "bottomOf", desc := "(I)I" } : Jvm.MethodName) ({ cls := "TitheGrid$Parishes", name := "bottomOf", desc := "(I)I" } : Jvm.MethodName)) ∈ zT := zT_1 232 rfl rfl
theorem q1_233 : (Jvm.Cond.code ({ cls := "TitheGrid$Parishes", name := "bottomOf", desc := "(I)I" } : Jvm.MethodName) prog_4_method_9_code (2 : Nat) (Option.some Jvm.ClassFile.FieldType.int)) ∈ zT := zT_1 233 rfl rfl
theorem q1_234 : (Jvm.Cond.methodLink "TitheGrid$Parishes" (53 : Nat) ({ cls := "TitheGrid$Parishes", name := "topOf", desc := "(I)I" } : Jvm.MethodName)) ∈ zT := zT_1 234 rfl rfl
theorem q1_235 : (Jvm.Cond.methodLink "TitheGrid$State" (90 : Nat) ({ cls := "TitheGrid$Points", name := "numberIn", desc := "(IIII)I" } : Jvm.MethodName)) ∈ zT := zT_1 235 rfl rfl
theorem q1_236 : (Jvm.Cond.instanceMethod ({ cls := "TitheGrid$Points", name := "numberIn", desc := "(IIII)I" } : Jvm.MethodName)) ∈ zT := zT_1 236 rfl rfl
theorem q1_237 : (Jvm.Cond.selects "TitheGrid$Points" ({ cls := "TitheGrid$Points", name := "numberIn", desc := "(IIII)I" } : Jvm.MethodName) ({ cls := "TitheGrid$Points", name := "numberIn", desc := "(IIII)I" } : Jvm.MethodName)) ∈ zT := zT_1 237 rfl rfl
theorem q1_238 : (Jvm.Cond.code ({ cls := "TitheGrid$Points", name := "numberIn", desc := "(IIII)I" } : Jvm.MethodName) prog_5_method_16_code (7 : Nat) (Option.some Jvm.ClassFile.FieldType.int)) ∈ zT := zT_1 238 rfl rfl
theorem q1_239 : (Jvm.Cond.methodLink "TitheGrid$Points" (46 : Nat) ({ cls := "TitheGrid$Points", name := "liesIn", desc := "(IIIII)Z" } : Jvm.MethodName)) ∈ zT := zT_1 239 rfl rfl
theorem q2_0 : (Jvm.Cond.instanceMethod ({ cls := "TitheGrid$Points", name := "liesIn", desc := "(IIIII)Z" } : Jvm.MethodName)) ∈ zT := zT_2 0 rfl rfl
theorem q2_1 : (Jvm.Cond.selects "TitheGrid$Points" ({ cls := "TitheGrid$Points", name := "liesIn", desc := "(IIIII)Z" } : Jvm.MethodName) ({ cls := "TitheGrid$Points", name := "liesIn", desc := "(IIIII)Z" } : Jvm.MethodName)) ∈ zT := zT_2 1 rfl rfl
theorem q2_2 : (Jvm.Cond.code ({ cls := "TitheGrid$Points", name := "liesIn", desc := "(IIIII)Z" } : Jvm.MethodName) prog_5_method_14_code (6 : Nat) (Option.some Jvm.ClassFile.FieldType.boolean)) ∈ zT := zT_2 2 rfl rfl
theorem q2_3 : (Jvm.Cond.methodLink "TitheGrid$Points" (34 : Nat) ({ cls := "TitheGrid$Points", name := "exists", desc := "(I)Z" } : Jvm.MethodName)) ∈ zT := zT_2 3 rfl rfl
theorem q2_4 : (Jvm.Cond.instanceMethod ({ cls := "TitheGrid$Points", name := "exists", desc := "(I)Z" } : Jvm.MethodName)) ∈ zT := zT_2 4 rfl rfl
theorem q2_5 : (Jvm.Cond.selects "TitheGrid$Points" ({ cls := "TitheGrid$Points", name := "exists", desc := "(I)Z" } : Jvm.MethodName) ({ cls := "TitheGrid$Points", name := "exists", desc := "(I)Z" } : Jvm.MethodName)) ∈ zT := zT_2 5 rfl rfl
theorem q2_6 : (Jvm.Cond.code ({ cls := "TitheGrid$Points", name := "exists", desc := "(I)Z" } : Jvm.MethodName) prog_5_method_3_code (2 : Nat) (Option.some Jvm.ClassFile.FieldType.boolean)) ∈ zT := zT_2 6 rfl rfl
theorem q2_7 : (Jvm.Cond.methodLink "TitheGrid$State" (101 : Nat) ({ cls := "TitheGrid$State", name := "splitCell", desc := "(I)V" } : Jvm.MethodName)) ∈ zT := zT_2 7 rfl rfl
theorem q2_9 : (Jvm.Cond.instanceMethod ({ cls := "TitheGrid$State", name := "splitCell", desc := "(I)V" } : Jvm.MethodName)) ∈ zT := zT_2 9 rfl rfl
theorem q2_10 : (Jvm.Cond.code ({ cls := "TitheGrid$State", name := "splitCell", desc := "(I)V" } : Jvm.MethodName) prog_6_method_10_code (8 : Nat) (Option.none : Option Jvm.ClassFile.FieldType)) ∈ zT := zT_2 10 rfl rfl
theorem q2_12 : (Jvm.Cond.methodLink "TitheGrid$State" (118 : Nat) ({ cls := "TitheGrid$State", name := "fullestQuarter", desc := "(III)I" } : Jvm.MethodName)) ∈ zT := zT_2 12 rfl rfl
theorem q2_14 : (Jvm.Cond.instanceMethod ({ cls := "TitheGrid$State", name := "fullestQuarter", desc := "(III)I" } : Jvm.MethodName)) ∈ zT := zT_2 14 rfl rfl
theorem q2_15 : (Jvm.Cond.code ({ cls := "TitheGrid$State", name := "fullestQuarter", desc := "(III)I" } : Jvm.MethodName) prog_6_method_11_code (10 : Nat) (Option.some Jvm.ClassFile.FieldType.int)) ∈ zT := zT_2 15 rfl rfl
theorem q2_17 : (Jvm.Cond.static ({ cls := "TitheGrid", name := "quarterLeft", desc := "(III)I" } : Jvm.MethodName)) ∈ zT := zT_2 17 rfl rfl
theorem q2_18 : (Jvm.Cond.code ({ cls := "TitheGrid", name := "quarterLeft", desc := "(III)I" } : Jvm.MethodName) prog_1_method_24_code (3 : Nat) (Option.some Jvm.ClassFile.FieldType.int)) ∈ zT := zT_2 18 rfl rfl
theorem q2_20 : (Jvm.Cond.static ({ cls := "TitheGrid", name := "quarterTop", desc := "(III)I" } : Jvm.MethodName)) ∈ zT := zT_2 20 rfl rfl
theorem q2_21 : (Jvm.Cond.code ({ cls := "TitheGrid", name := "quarterTop", desc := "(III)I" } : Jvm.MethodName) prog_1_method_25_code (3 : Nat) (Option.some Jvm.ClassFile.FieldType.int)) ∈ zT := zT_2 21 rfl rfl
theorem q2_22 : (Jvm.Cond.methodLink "TitheGrid$State" (128 : Nat) ({ cls := "TitheGrid$State", name := "foundIn", desc := "(IIII)V" } : Jvm.MethodName)) ∈ zT := zT_2 22 rfl rfl
theorem q2_24 : (Jvm.Cond.instanceMethod ({ cls := "TitheGrid$State", name := "foundIn", desc := "(IIII)V" } : Jvm.MethodName)) ∈ zT := zT_2 24 rfl rfl
theorem q2_25 : (Jvm.Cond.code ({ cls := "TitheGrid$State", name := "foundIn", desc := "(IIII)V" } : Jvm.MethodName) prog_6_method_12_code (8 : Nat) (Option.none : Option Jvm.ClassFile.FieldType)) ∈ zT := zT_2 25 rfl rfl
theorem q2_26 : (Jvm.Cond.methodLink "TitheGrid$State" (135 : Nat) ({ cls := "TitheGrid$Parishes", name := "found", desc := "(III)I" } : Jvm.MethodName)) ∈ zT := zT_2 26 rfl rfl
theorem q2_27 : (Jvm.Cond.methodLink "TitheGrid$State" (138 : Nat) ({ cls := "TitheGrid$State", name := "titheOf", desc := "(I)I" } : Jvm.MethodName)) ∈ zT := zT_2 27 rfl rfl
theorem q2_29 : (Jvm.Cond.instanceMethod ({ cls := "TitheGrid$State", name := "titheOf", desc := "(I)I" } : Jvm.MethodName)) ∈ zT := zT_2 29 rfl rfl
theorem q2_30 : (Jvm.Cond.code ({ cls := "TitheGrid$State", name := "titheOf", desc := "(I)I" } : Jvm.MethodName) prog_6_method_13_code (2 : Nat) (Option.some Jvm.ClassFile.FieldType.int)) ∈ zT := zT_2 30 rfl rfl
theorem q2_31 : (Jvm.Cond.methodLink "TitheGrid$State" (141 : Nat) ({ cls := "TitheGrid$Debts", name := "change", desc := "(III)V" } : Jvm.MethodName)) ∈ zT := zT_2 31 rfl rfl
theorem q2_32 : (Jvm.Cond.instanceMethod ({ cls := "TitheGrid$Debts", name := "change", desc := "(III)V" } : Jvm.MethodName)) ∈ zT := zT_2 32 rfl rfl
theorem q2_33 : (Jvm.Cond.selects "TitheGrid$Debts" ({ cls := "TitheGrid$Debts", name := "change", desc := "(III)V" } : Jvm.MethodName) ({ cls := "TitheGrid$Debts", name := "change", desc := "(III)V" } : Jvm.MethodName)) ∈ zT := zT_2 33 rfl rfl
theorem q2_34 : (Jvm.Cond.code ({ cls := "TitheGrid$Debts", name := "change", desc := "(III)V" } : Jvm.MethodName) prog_2_method_4_code (4 : Nat) (Option.none : Option Jvm.ClassFile.FieldType)) ∈ zT := zT_2 34 rfl rfl
theorem q2_35 : (Jvm.Cond.methodLink "TitheGrid$Debts" (21 : Nat) ({ cls := "TitheGrid$Debts", name := "areParishes", desc := "(II)Z" } : Jvm.MethodName)) ∈ zT := zT_2 35 rfl rfl
theorem q2_36 : (Jvm.Cond.static ({ cls := "TitheGrid$Debts", name := "areParishes", desc := "(II)Z" } : Jvm.MethodName)) ∈ zT := zT_2 36 rfl rfl
theorem q2_37 : (Jvm.Cond.code ({ cls := "TitheGrid$Debts", name := "areParishes", desc := "(II)Z" } : Jvm.MethodName) prog_2_method_5_code (2 : Nat) (Option.some Jvm.ClassFile.FieldType.boolean)) ∈ zT := zT_2 37 rfl rfl
theorem q2_38 : (Jvm.Cond.methodLink "TitheGrid$State" (144 : Nat) ({ cls := "TitheGrid$Points", name := "changeLord", desc := "(IIIIII)V" } : Jvm.MethodName)) ∈ zT := zT_2 38 rfl rfl
theorem q2_39 : (Jvm.Cond.instanceMethod ({ cls := "TitheGrid$Points", name := "changeLord", desc := "(IIIIII)V" } : Jvm.MethodName)) ∈ zT := zT_2 39 rfl rfl
theorem q2_40 : (Jvm.Cond.selects "TitheGrid$Points" ({ cls := "TitheGrid$Points", name := "changeLord", desc := "(IIIIII)V" } : Jvm.MethodName) ({ cls := "TitheGrid$Points", name := "changeLord", desc := "(IIIIII)V" } : Jvm.MethodName)) ∈ zT := zT_2 40 rfl rfl
theorem q2_41 : (Jvm.Cond.code ({ cls := "TitheGrid$Points", name := "changeLord", desc := "(IIIIII)V" } : Jvm.MethodName) prog_5_method_23_code (8 : Nat) (Option.none : Option Jvm.ClassFile.FieldType)) ∈ zT := zT_2 41 rfl rfl
theorem q2_42 : (Jvm.Cond.methodLink "TitheGrid$State" (132 : Nat) ({ cls := "TitheGrid$Parishes", name := "giveCell", desc := "(IIII)V" } : Jvm.MethodName)) ∈ zT := zT_2 42 rfl rfl
theorem q2_43 : (Jvm.Cond.methodLink "TitheGridLaw" (18 : Nat) ({ cls := "TitheGrid", name := "remove", desc := "(I)I" } : Jvm.MethodName)) ∈ zT := zT_2 43 rfl rfl
theorem q2_44 : (Jvm.Cond.instanceMethod ({ cls := "TitheGrid", name := "remove", desc := "(I)I" } : Jvm.MethodName)) ∈ zT := zT_2 44 rfl rfl
theorem q2_45 : (Jvm.Cond.selects "TitheGrid" ({ cls := "TitheGrid", name := "remove", desc := "(I)I" } : Jvm.MethodName) ({ cls := "TitheGrid", name := "remove", desc := "(I)I" } : Jvm.MethodName)) ∈ zT := zT_2 45 rfl rfl
theorem q2_46 : (Jvm.Cond.code ({ cls := "TitheGrid", name := "remove", desc := "(I)I" } : Jvm.MethodName) prog_1_method_3_code (2 : Nat) (Option.some Jvm.ClassFile.FieldType.int)) ∈ zT := zT_2 46 rfl rfl
theorem q2_47 : (Jvm.Cond.methodLink "TitheGrid" (52 : Nat) ({ cls := "TitheGrid$Points", name := "exists", desc := "(I)Z" } : Jvm.MethodName)) ∈ zT := zT_2 47 rfl rfl
theorem q2_48 : (Jvm.Cond.methodLink "TitheGrid" (56 : Nat) ({ cls := "TitheGrid$Points", name := "takeAway", desc := "(I)V" } : Jvm.MethodName)) ∈ zT := zT_2 48 rfl rfl
theorem q2_49 : (Jvm.Cond.instanceMethod ({ cls := "TitheGrid$Points", name := "takeAway", desc := "(I)V" } : Jvm.MethodName)) ∈ zT := zT_2 49 rfl rfl
theorem q2_50 : (Jvm.Cond.selects "TitheGrid$Points" ({ cls := "TitheGrid$Points", name := "takeAway", desc := "(I)V" } : Jvm.MethodName) ({ cls := "TitheGrid$Points", name := "takeAway", desc := "(I)V" } : Jvm.MethodName)) ∈ zT := zT_2 50 rfl rfl
theorem q2_51 : (Jvm.Cond.code ({ cls := "TitheGrid$Points", name := "takeAway", desc := "(I)V" } : Jvm.MethodName) prog_5_method_11_code (2 : Nat) (Option.none : Option Jvm.ClassFile.FieldType)) ∈ zT := zT_2 51 rfl rfl
theorem q2_52 : (Jvm.Cond.methodLink "TitheGrid" (60 : Nat) ({ cls := "TitheGrid$Points", name := "number", desc := "()I" } : Jvm.MethodName)) ∈ zT := zT_2 52 rfl rfl
theorem q2_53 : (Jvm.Cond.instanceMethod ({ cls := "TitheGrid$Points", name := "number", desc := "()I" } : Jvm.MethodName)) ∈ zT := zT_2 53 rfl rfl
theorem q2_54 : (Jvm.Cond.selects "TitheGrid$Points" ({ cls := "TitheGrid$Points", name := "number", desc := "()I" } : Jvm.MethodName) ({ cls := "TitheGrid$Points", name := "number", desc := "()I" } : Jvm.MethodName)) ∈ zT := zT_2 54 rfl rfl
theorem q2_55 : (Jvm.Cond.code ({ cls := "TitheGrid$Points", name := "number", desc := "()I" } : Jvm.MethodName) prog_5_method_15_code (1 : Nat) (Option.some Jvm.ClassFile.FieldType.int)) ∈ zT := zT_2 55 rfl rfl
theorem q2_56 : (Jvm.Cond.methodLink "TitheGrid$Points" (42 : Nat) ({ cls := "TitheGrid$Points", name := "numberIn", desc := "(IIII)I" } : Jvm.MethodName)) ∈ zT := zT_2 56 rfl rfl
theorem q2_57 : (Jvm.Cond.methodLink "TitheGridLaw" (23 : Nat) ({ cls := "TitheGrid", name := "move", desc := "(III)I" } : Jvm.MethodName)) ∈ zT := zT_2 57 rfl rfl
theorem q2_58 : (Jvm.Cond.instanceMethod ({ cls := "TitheGrid", name := "move", desc := "(III)I" } : Jvm.MethodName)) ∈ zT := zT_2 58 rfl rfl
theorem q2_59 : (Jvm.Cond.selects "TitheGrid" ({ cls := "TitheGrid", name := "move", desc := "(III)I" } : Jvm.MethodName) ({ cls := "TitheGrid", name := "move", desc := "(III)I" } : Jvm.MethodName)) ∈ zT := zT_2 59 rfl rfl
theorem q2_60 : (Jvm.Cond.code ({ cls := "TitheGrid", name := "move", desc := "(III)I" } : Jvm.MethodName) prog_1_method_4_code (5 : Nat) (Option.some Jvm.ClassFile.FieldType.int)) ∈ zT := zT_2 60 rfl rfl
theorem q2_61 : (Jvm.Cond.methodLink "TitheGrid" (64 : Nat) ({ cls := "TitheGrid$State", name := "movePoint", desc := "(III)Z" } : Jvm.MethodName)) ∈ zT := zT_2 61 rfl rfl
theorem q2_62 : (Jvm.Cond.instanceMethod ({ cls := "TitheGrid$State", name := "movePoint", desc := "(III)Z" } : Jvm.MethodName)) ∈ zT := zT_2 62 rfl rfl
theorem q2_63 : (Jvm.Cond.selects "TitheGrid$State" ({ cls := "TitheGrid$State", name := "movePoint", desc := "(III)Z" } : Jvm.MethodName) ({ cls := "TitheGrid$State", name := "movePoint", desc := "(III)Z" } : Jvm.MethodName)) ∈ zT := zT_2 63 rfl rfl
theorem q2_64 : (Jvm.Cond.code ({ cls := "TitheGrid$State", name := "movePoint", desc := "(III)Z" } : Jvm.MethodName) prog_6_method_4_code (6 : Nat) (Option.some Jvm.ClassFile.FieldType.boolean)) ∈ zT := zT_2 64 rfl rfl
theorem q2_65 : (Jvm.Cond.methodLink "TitheGrid$State" (57 : Nat) ({ cls := "TitheGrid$Points", name := "lordOf", desc := "(I)I" } : Jvm.MethodName)) ∈ zT := zT_2 65 rfl rfl
theorem q2_66 : (Jvm.Cond.instanceMethod ({ cls := "TitheGrid$Points", name := "lordOf", desc := "(I)I" } : Jvm.MethodName)) ∈ zT := zT_2 66 rfl rfl
theorem q2_67 : (Jvm.Cond.selects "TitheGrid$Points" ({ cls := "TitheGrid$Points", name := "lordOf", desc := "(I)I" } : Jvm.MethodName) ({ cls := "TitheGrid$Points", name := "lordOf", desc := "(I)I" } : Jvm.MethodName)) ∈ zT := zT_2 67 rfl rfl
theorem q2_68 : (Jvm.Cond.code ({ cls := "TitheGrid$Points", name := "lordOf", desc := "(I)I" } : Jvm.MethodName) prog_5_method_9_code (2 : Nat) (Option.some Jvm.ClassFile.FieldType.int)) ∈ zT := zT_2 68 rfl rfl
theorem q2_69 : (Jvm.Cond.methodLink "TitheGrid$State" (61 : Nat) ({ cls := "TitheGrid$State", name := "parishAround", desc := "(I)I" } : Jvm.MethodName)) ∈ zT := zT_2 69 rfl rfl
theorem q2_70 : (Jvm.Cond.instanceMethod ({ cls := "TitheGrid$State", name := "parishAround", desc := "(I)I" } : Jvm.MethodName)) ∈ zT := zT_2 70 rfl rfl
theorem q2_71 : (Jvm.Cond.selects "TitheGrid$State" ({ cls := "TitheGrid$State", name := "parishAround", desc := "(I)I" } : Jvm.MethodName) ({ cls := "TitheGrid$State", name := "parishAround", desc := "(I)I" } : Jvm.MethodName)) ∈ zT := zT_2 71 rfl rfl
theorem q2_72 : (Jvm.Cond.code ({ cls := "TitheGrid$State", name := "parishAround", desc := "(I)I" } : Jvm.MethodName) prog_6_method_5_code (2 : Nat) (Option.some Jvm.ClassFile.FieldType.int)) ∈ zT := zT_2 72 rfl rfl
theorem q2_73 : (Jvm.Cond.methodLink "TitheGrid$State" (72 : Nat) ({ cls := "TitheGrid$Points", name := "xOf", desc := "(I)I" } : Jvm.MethodName)) ∈ zT := zT_2 73 rfl rfl
theorem q2_74 : (Jvm.Cond.instanceMethod ({ cls := "TitheGrid$Points", name := "xOf", desc := "(I)I" } : Jvm.MethodName)) ∈ zT := zT_2 74 rfl rfl
theorem q2_75 : (Jvm.Cond.selects "TitheGrid$Points" ({ cls := "TitheGrid$Points", name := "xOf", desc := "(I)I" } : Jvm.MethodName) ({ cls := "TitheGrid$Points", name := "xOf", desc := "(I)I" } : Jvm.MethodName)) ∈ zT := zT_2 75 rfl rfl
theorem q2_76 : (Jvm.Cond.code ({ cls := "TitheGrid$Points", name := "xOf", desc := "(I)I" } : Jvm.MethodName) prog_5_method_6_code (2 : Nat) (Option.some Jvm.ClassFile.FieldType.int)) ∈ zT := zT_2 76 rfl rfl
theorem q2_77 : (Jvm.Cond.methodLink "TitheGrid$State" (75 : Nat) ({ cls := "TitheGrid$Points", name := "yOf", desc := "(I)I" } : Jvm.MethodName)) ∈ zT := zT_2 77 rfl rfl
theorem q2_78 : (Jvm.Cond.instanceMethod ({ cls := "TitheGrid$Points", name := "yOf", desc := "(I)I" } : Jvm.MethodName)) ∈ zT := zT_2 78 rfl rfl
theorem q2_79 : (Jvm.Cond.selects "TitheGrid$Points" ({ cls := "TitheGrid$Points", name := "yOf", desc := "(I)I" } : Jvm.MethodName) ({ cls := "TitheGrid$Points", name := "yOf", desc := "(I)I" } : Jvm.MethodName)) ∈ zT := zT_2 79 rfl rfl
theorem q2_80 : (Jvm.Cond.code ({ cls := "TitheGrid$Points", name := "yOf", desc := "(I)I" } : Jvm.MethodName) prog_5_method_7_code (2 : Nat) (Option.some Jvm.ClassFile.FieldType.int)) ∈ zT := zT_2 80 rfl rfl
theorem q2_81 : (Jvm.Cond.methodLink "TitheGrid$State" (64 : Nat) ({ cls := "TitheGrid$Points", name := "shift", desc := "(III)V" } : Jvm.MethodName)) ∈ zT := zT_2 81 rfl rfl
theorem q2_82 : (Jvm.Cond.instanceMethod ({ cls := "TitheGrid$Points", name := "shift", desc := "(III)V" } : Jvm.MethodName)) ∈ zT := zT_2 82 rfl rfl
theorem q2_83 : (Jvm.Cond.selects "TitheGrid$Points" ({ cls := "TitheGrid$Points", name := "shift", desc := "(III)V" } : Jvm.MethodName) ({ cls := "TitheGrid$Points", name := "shift", desc := "(III)V" } : Jvm.MethodName)) ∈ zT := zT_2 83 rfl rfl
theorem q2_84 : (Jvm.Cond.code ({ cls := "TitheGrid$Points", name := "shift", desc := "(III)V" } : Jvm.MethodName) prog_5_method_12_code (4 : Nat) (Option.none : Option Jvm.ClassFile.FieldType)) ∈ zT := zT_2 84 rfl rfl
theorem q2_85 : (Jvm.Cond.methodLink "TitheGrid$State" (68 : Nat) ({ cls := "TitheGrid$Points", name := "setLord", desc := "(II)V" } : Jvm.MethodName)) ∈ zT := zT_2 85 rfl rfl
theorem q2_86 : (Jvm.Cond.instanceMethod ({ cls := "TitheGrid$Points", name := "setLord", desc := "(II)V" } : Jvm.MethodName)) ∈ zT := zT_2 86 rfl rfl
theorem q2_87 : (Jvm.Cond.selects "TitheGrid$Points" ({ cls := "TitheGrid$Points", name := "setLord", desc := "(II)V" } : Jvm.MethodName) ({ cls := "TitheGrid$Points", name := "setLord", desc := "(II)V" } : Jvm.MethodName)) ∈ zT := zT_2 87 rfl rfl
theorem q2_88 : (Jvm.Cond.code ({ cls := "TitheGrid$Points", name := "setLord", desc := "(II)V" } : Jvm.MethodName) prog_5_method_13_code (3 : Nat) (Option.none : Option Jvm.ClassFile.FieldType)) ∈ zT := zT_2 88 rfl rfl
theorem q2_89 : (Jvm.Cond.methodLink "TitheGridLaw" (27 : Nat) ({ cls := "TitheGrid", name := "setCrowd", desc := "(I)I" } : Jvm.MethodName)) ∈ zT := zT_2 89 rfl rfl
theorem q2_90 : (Jvm.Cond.instanceMethod ({ cls := "TitheGrid", name := "setCrowd", desc := "(I)I" } : Jvm.MethodName)) ∈ zT := zT_2 90 rfl rfl
theorem q2_91 : (Jvm.Cond.selects "TitheGrid" ({ cls := "TitheGrid", name := "setCrowd", desc := "(I)I" } : Jvm.MethodName) ({ cls := "TitheGrid", name := "setCrowd", desc := "(I)I" } : Jvm.MethodName)) ∈ zT := zT_2 91 rfl rfl
theorem q2_92 : (Jvm.Cond.code ({ cls := "TitheGrid", name := "setCrowd", desc := "(I)I" } : Jvm.MethodName) prog_1_method_5_code (3 : Nat) (Option.some Jvm.ClassFile.FieldType.int)) ∈ zT := zT_2 92 rfl rfl
theorem q2_93 : (Jvm.Cond.methodLink "TitheGridLaw" (31 : Nat) ({ cls := "TitheGrid", name := "setTithe", desc := "(I)I" } : Jvm.MethodName)) ∈ zT := zT_2 93 rfl rfl
theorem q2_94 : (Jvm.Cond.instanceMethod ({ cls := "TitheGrid", name := "setTithe", desc := "(I)I" } : Jvm.MethodName)) ∈ zT := zT_2 94 rfl rfl
theorem q2_95 : (Jvm.Cond.selects "TitheGrid" ({ cls := "TitheGrid", name := "setTithe", desc := "(I)I" } : Jvm.MethodName) ({ cls := "TitheGrid", name := "setTithe", desc := "(I)I" } : Jvm.MethodName)) ∈ zT := zT_2 95 rfl rfl
theorem q2_96 : (Jvm.Cond.code ({ cls := "TitheGrid", name := "setTithe", desc := "(I)I" } : Jvm.MethodName) prog_1_method_6_code (3 : Nat) (Option.some Jvm.ClassFile.FieldType.int)) ∈ zT := zT_2 96 rfl rfl
theorem q2_97 : (Jvm.Cond.methodLink "TitheGridLaw" (35 : Nat) ({ cls := "TitheGrid", name := "pay", desc := "(I)I" } : Jvm.MethodName)) ∈ zT := zT_2 97 rfl rfl
theorem q2_98 : (Jvm.Cond.instanceMethod ({ cls := "TitheGrid", name := "pay", desc := "(I)I" } : Jvm.MethodName)) ∈ zT := zT_2 98 rfl rfl
theorem q2_99 : (Jvm.Cond.selects "TitheGrid" ({ cls := "TitheGrid", name := "pay", desc := "(I)I" } : Jvm.MethodName) ({ cls := "TitheGrid", name := "pay", desc := "(I)I" } : Jvm.MethodName)) ∈ zT := zT_2 99 rfl rfl
theorem q2_100 : (Jvm.Cond.code ({ cls := "TitheGrid", name := "pay", desc := "(I)I" } : Jvm.MethodName) prog_1_method_7_code (3 : Nat) (Option.some Jvm.ClassFile.FieldType.int)) ∈ zT := zT_2 100 rfl rfl
theorem q2_101 : (Jvm.Cond.methodLink "TitheGrid" (78 : Nat) ({ cls := "TitheGrid$Parishes", name := "exists", desc := "(I)Z" } : Jvm.MethodName)) ∈ zT := zT_2 101 rfl rfl
theorem q2_102 : (Jvm.Cond.methodLink "TitheGrid" (81 : Nat) ({ cls := "TitheGrid$State", name := "payTithes", desc := "(I)I" } : Jvm.MethodName)) ∈ zT := zT_2 102 rfl rfl
theorem q2_103 : (Jvm.Cond.instanceMethod ({ cls := "TitheGrid$State", name := "payTithes", desc := "(I)I" } : Jvm.MethodName)) ∈ zT := zT_2 103 rfl rfl
theorem q2_104 : (Jvm.Cond.selects "TitheGrid$State" ({ cls := "TitheGrid$State", name := "payTithes", desc := "(I)I" } : Jvm.MethodName) ({ cls := "TitheGrid$State", name := "payTithes", desc := "(I)I" } : Jvm.MethodName)) ∈ zT := zT_2 104 rfl rfl
theorem q2_105 : (Jvm.Cond.code ({ cls := "TitheGrid$State", name := "payTithes", desc := "(I)I" } : Jvm.MethodName) prog_6_method_14_code (6 : Nat) (Option.some Jvm.ClassFile.FieldType.int)) ∈ zT := zT_2 105 rfl rfl
theorem q2_106 : (Jvm.Cond.methodLink "TitheGrid$State" (148 : Nat) ({ cls := "TitheGrid$Debts", name := "firstCreditorOf", desc := "(I)I" } : Jvm.MethodName)) ∈ zT := zT_2 106 rfl rfl
theorem q2_107 : (Jvm.Cond.instanceMethod ({ cls := "TitheGrid$Debts", name := "firstCreditorOf", desc := "(I)I" } : Jvm.MethodName)) ∈ zT := zT_2 107 rfl rfl
theorem q2_108 : (Jvm.Cond.selects "TitheGrid$Debts" ({ cls := "TitheGrid$Debts", name := "firstCreditorOf", desc := "(I)I" } : Jvm.MethodName) ({ cls := "TitheGrid$Debts", name := "firstCreditorOf", desc := "(I)I" } : Jvm.MethodName)) ∈ zT := zT_2 108 rfl rfl
theorem q2_109 : (Jvm.Cond.code ({ cls := "TitheGrid$Debts", name := "firstCreditorOf", desc := "(I)I" } : Jvm.MethodName) prog_2_method_9_code (3 : Nat) (Option.some Jvm.ClassFile.FieldType.int)) ∈ zT := zT_2 109 rfl rfl
theorem q2_110 : (Jvm.Cond.methodLink "TitheGrid$Debts" (25 : Nat) ({ cls := "TitheGrid$Debts", name := "owed", desc := "(II)I" } : Jvm.MethodName)) ∈ zT := zT_2 110 rfl rfl
theorem q2_111 : (Jvm.Cond.instanceMethod ({ cls := "TitheGrid$Debts", name := "owed", desc := "(II)I" } : Jvm.MethodName)) ∈ zT := zT_2 111 rfl rfl
theorem q2_112 : (Jvm.Cond.selects "TitheGrid$Debts" ({ cls := "TitheGrid$Debts", name := "owed", desc := "(II)I" } : Jvm.MethodName) ({ cls := "TitheGrid$Debts", name := "owed", desc := "(II)I" } : Jvm.MethodName)) ∈ zT := zT_2 112 rfl rfl
theorem q2_113 : (Jvm.Cond.code ({ cls := "TitheGrid$Debts", name := "owed", desc := "(II)I" } : Jvm.MethodName) prog_2_method_3_code (3 : Nat) (Option.some Jvm.ClassFile.FieldType.int)) ∈ zT := zT_2 113 rfl rfl
theorem q2_114 : (Jvm.Cond.methodLink "TitheGrid$State" (151 : Nat) ({ cls := "TitheGrid$Points", name := "poorestUnder", desc := "(IIIII)I" } : Jvm.MethodName)) ∈ zT := zT_2 114 rfl rfl
theorem q2_115 : (Jvm.Cond.instanceMethod ({ cls := "TitheGrid$Points", name := "poorestUnder", desc := "(IIIII)I" } : Jvm.MethodName)) ∈ zT := zT_2 115 rfl rfl
theorem q2_116 : (Jvm.Cond.selects "TitheGrid$Points" ({ cls := "TitheGrid$Points", name := "poorestUnder", desc := "(IIIII)I" } : Jvm.MethodName) ({ cls := "TitheGrid$Points", name := "poorestUnder", desc := "(IIIII)I" } : Jvm.MethodName)) ∈ zT := zT_2 116 rfl rfl
theorem q2_117 : (Jvm.Cond.code ({ cls := "TitheGrid$Points", name := "poorestUnder", desc := "(IIIII)I" } : Jvm.MethodName) prog_5_method_22_code (10 : Nat) (Option.some Jvm.ClassFile.FieldType.int)) ∈ zT := zT_2 117 rfl rfl
theorem q2_118 : (Jvm.Cond.methodLink "TitheGrid$Points" (59 : Nat) ({ cls := "TitheGrid$Points", name := "lordOf", desc := "(I)I" } : Jvm.MethodName)) ∈ zT := zT_2 118 rfl rfl
theorem q2_119 : (Jvm.Cond.methodLink "TitheGridLaw" (39 : Nat) ({ cls := "TitheGrid", name := "join", desc := "(I)I" } : Jvm.MethodName)) ∈ zT := zT_2 119 rfl rfl
theorem q2_120 : (Jvm.Cond.instanceMethod ({ cls := "TitheGrid", name := "join", desc := "(I)I" } : Jvm.MethodName)) ∈ zT := zT_2 120 rfl rfl
theorem q2_121 : (Jvm.Cond.selects "TitheGrid" ({ cls := "TitheGrid", name := "join", desc := "(I)I" } : Jvm.MethodName) ({ cls := "TitheGrid", name := "join", desc := "(I)I" } : Jvm.MethodName)) ∈ zT := zT_2 121 rfl rfl
theorem q2_122 : (Jvm.Cond.code ({ cls := "TitheGrid", name := "join", desc := "(I)I" } : Jvm.MethodName) prog_1_method_8_code (3 : Nat) (Option.some Jvm.ClassFile.FieldType.int)) ∈ zT := zT_2 122 rfl rfl
theorem q2_123 : (Jvm.Cond.methodLink "TitheGrid" (85 : Nat) ({ cls := "TitheGrid$State", name := "canJoin", desc := "(I)Z" } : Jvm.MethodName)) ∈ zT := zT_2 123 rfl rfl
theorem q2_124 : (Jvm.Cond.instanceMethod ({ cls := "TitheGrid$State", name := "canJoin", desc := "(I)Z" } : Jvm.MethodName)) ∈ zT := zT_2 124 rfl rfl
theorem q2_125 : (Jvm.Cond.selects "TitheGrid$State" ({ cls := "TitheGrid$State", name := "canJoin", desc := "(I)Z" } : Jvm.MethodName) ({ cls := "TitheGrid$State", name := "canJoin", desc := "(I)Z" } : Jvm.MethodName)) ∈ zT := zT_2 125 rfl rfl
theorem q2_126 : (Jvm.Cond.code ({ cls := "TitheGrid$State", name := "canJoin", desc := "(I)Z" } : Jvm.MethodName) prog_6_method_16_code (8 : Nat) (Option.some Jvm.ClassFile.FieldType.boolean)) ∈ zT := zT_2 126 rfl rfl
theorem q2_127 : (Jvm.Cond.methodLink "TitheGrid$State" (163 : Nat) ({ cls := "TitheGrid$State", name := "leftAround", desc := "(I)I" } : Jvm.MethodName)) ∈ zT := zT_2 127 rfl rfl
theorem q2_129 : (Jvm.Cond.instanceMethod ({ cls := "TitheGrid$State", name := "leftAround", desc := "(I)I" } : Jvm.MethodName)) ∈ zT := zT_2 129 rfl rfl
theorem q2_130 : (Jvm.Cond.code ({ cls := "TitheGrid$State", name := "leftAround", desc := "(I)I" } : Jvm.MethodName) prog_6_method_20_code (2 : Nat) (Option.some Jvm.ClassFile.FieldType.int)) ∈ zT := zT_2 130 rfl rfl
theorem q2_131 : (Jvm.Cond.methodLink "TitheGrid$State" (166 : Nat) ({ cls := "TitheGrid$State", name := "topAround", desc := "(I)I" } : Jvm.MethodName)) ∈ zT := zT_2 131 rfl rfl
theorem q2_133 : (Jvm.Cond.instanceMethod ({ cls := "TitheGrid$State", name := "topAround", desc := "(I)I" } : Jvm.MethodName)) ∈ zT := zT_2 133 rfl rfl
theorem q2_134 : (Jvm.Cond.code ({ cls := "TitheGrid$State", name := "topAround", desc := "(I)I" } : Jvm.MethodName) prog_6_method_21_code (2 : Nat) (Option.some Jvm.ClassFile.FieldType.int)) ∈ zT := zT_2 134 rfl rfl
theorem q2_135 : (Jvm.Cond.methodLink "TitheGrid$State" (169 : Nat) ({ cls := "TitheGrid$State", name := "parishOfQuarter", desc := "(IIII)I" } : Jvm.MethodName)) ∈ zT := zT_2 135 rfl rfl
theorem q2_137 : (Jvm.Cond.instanceMethod ({ cls := "TitheGrid$State", name := "parishOfQuarter", desc := "(IIII)I" } : Jvm.MethodName)) ∈ zT := zT_2 137 rfl rfl
theorem q2_138 : (Jvm.Cond.code ({ cls := "TitheGrid$State", name := "parishOfQuarter", desc := "(IIII)I" } : Jvm.MethodName) prog_6_method_19_code (6 : Nat) (Option.some Jvm.ClassFile.FieldType.int)) ∈ zT := zT_2 138 rfl rfl
theorem q2_139 : (Jvm.Cond.methodLink "TitheGrid" (88 : Nat) ({ cls := "TitheGrid$State", name := "joinQuarters", desc := "(I)I" } : Jvm.MethodName)) ∈ zT := zT_2 139 rfl rfl
theorem q2_140 : (Jvm.Cond.instanceMethod ({ cls := "TitheGrid$State", name := "joinQuarters", desc := "(I)I" } : Jvm.MethodName)) ∈ zT := zT_2 140 rfl rfl
theorem q2_141 : (Jvm.Cond.selects "TitheGrid$State" ({ cls := "TitheGrid$State", name := "joinQuarters", desc := "(I)I" } : Jvm.MethodName) ({ cls := "TitheGrid$State", name := "joinQuarters", desc := "(I)I" } : Jvm.MethodName)) ∈ zT := zT_2 141 rfl rfl
theorem q2_142 : (Jvm.Cond.code ({ cls := "TitheGrid$State", name := "joinQuarters", desc := "(I)I" } : Jvm.MethodName) prog_6_method_17_code (7 : Nat) (Option.some Jvm.ClassFile.FieldType.int)) ∈ zT := zT_2 142 rfl rfl
theorem q2_143 : (Jvm.Cond.methodLink "TitheGrid$State" (158 : Nat) ({ cls := "java/lang/Math", name := "min", desc := "(II)I" } : Jvm.MethodName)) ∈ zT := zT_2 143 rfl rfl
theorem q2_144 : (Jvm.Cond.methodLink "TitheGrid$State" (172 : Nat) ({ cls := "TitheGrid$State", name := "absorb", desc := "(II)V" } : Jvm.MethodName)) ∈ zT := zT_2 144 rfl rfl
theorem q2_146 : (Jvm.Cond.instanceMethod ({ cls := "TitheGrid$State", name := "absorb", desc := "(II)V" } : Jvm.MethodName)) ∈ zT := zT_2 146 rfl rfl
theorem q2_147 : (Jvm.Cond.code ({ cls := "TitheGrid$State", name := "absorb", desc := "(II)V" } : Jvm.MethodName) prog_6_method_18_code (3 : Nat) (Option.none : Option Jvm.ClassFile.FieldType)) ∈ zT := zT_2 147 rfl rfl
theorem q2_148 : (Jvm.Cond.methodLink "TitheGrid$State" (175 : Nat) ({ cls := "TitheGrid$Debts", name := "passOn", desc := "(II)V" } : Jvm.MethodName)) ∈ zT := zT_2 148 rfl rfl
theorem q2_149 : (Jvm.Cond.instanceMethod ({ cls := "TitheGrid$Debts", name := "passOn", desc := "(II)V" } : Jvm.MethodName)) ∈ zT := zT_2 149 rfl rfl
theorem q2_150 : (Jvm.Cond.selects "TitheGrid$Debts" ({ cls := "TitheGrid$Debts", name := "passOn", desc := "(II)V" } : Jvm.MethodName) ({ cls := "TitheGrid$Debts", name := "passOn", desc := "(II)V" } : Jvm.MethodName)) ∈ zT := zT_2 150 rfl rfl
theorem q2_151 : (Jvm.Cond.code ({ cls := "TitheGrid$Debts", name := "passOn", desc := "(II)V" } : Jvm.MethodName) prog_2_method_10_code (4 : Nat) (Option.none : Option Jvm.ClassFile.FieldType)) ∈ zT := zT_2 151 rfl rfl
theorem q2_152 : (Jvm.Cond.methodLink "TitheGrid$Debts" (33 : Nat) ({ cls := "TitheGrid$Debts", name := "shift", desc := "(IIII)V" } : Jvm.MethodName)) ∈ zT := zT_2 152 rfl rfl
theorem q2_154 : (Jvm.Cond.instanceMethod ({ cls := "TitheGrid$Debts", name := "shift", desc := "(IIII)V" } : Jvm.MethodName)) ∈ zT := zT_2 154 rfl rfl
theorem q2_155 : (Jvm.Cond.code ({ cls := "TitheGrid$Debts", name := "shift", desc := "(IIII)V" } : Jvm.MethodName) prog_2_method_11_code (6 : Nat) (Option.none : Option Jvm.ClassFile.FieldType)) ∈ zT := zT_2 155 rfl rfl
theorem q2_156 : (Jvm.Cond.methodLink "TitheGrid$Debts" (37 : Nat) ({ cls := "TitheGrid$Debts", name := "change", desc := "(III)V" } : Jvm.MethodName)) ∈ zT := zT_2 156 rfl rfl
theorem q2_157 : (Jvm.Cond.methodLink "TitheGrid$State" (178 : Nat) ({ cls := "TitheGrid$Parishes", name := "dissolve", desc := "(I)V" } : Jvm.MethodName)) ∈ zT := zT_2 157 rfl rfl
theorem q2_158 : (Jvm.Cond.instanceMethod ({ cls := "TitheGrid$Parishes", name := "dissolve", desc := "(I)V" } : Jvm.MethodName)) ∈ zT := zT_2 158 rfl rfl
theorem q2_159 : (Jvm.Cond.selects "TitheGrid$Parishes" ({ cls := "TitheGrid$Parishes", name := "dissolve", desc := "(I)V" } : Jvm.MethodName) ({ cls := "TitheGrid$Parishes", name := "dissolve", desc := "(I)V" } : Jvm.MethodName)) ∈ zT := zT_2 159 rfl rfl
theorem q2_160 : (Jvm.Cond.code ({ cls := "TitheGrid$Parishes", name := "dissolve", desc := "(I)V" } : Jvm.MethodName) prog_4_method_13_code (2 : Nat) (Option.none : Option Jvm.ClassFile.FieldType)) ∈ zT := zT_2 160 rfl rfl
theorem q2_161 : (Jvm.Cond.methodLink "TitheGridLaw" (43 : Nat) ({ cls := "TitheGrid", name := "undo", desc := "()I" } : Jvm.MethodName)) ∈ zT := zT_2 161 rfl rfl
theorem q2_162 : (Jvm.Cond.instanceMethod ({ cls := "TitheGrid", name := "undo", desc := "()I" } : Jvm.MethodName)) ∈ zT := zT_2 162 rfl rfl
theorem q2_163 : (Jvm.Cond.selects "TitheGrid" ({ cls := "TitheGrid", name := "undo", desc := "()I" } : Jvm.MethodName) ({ cls := "TitheGrid", name := "undo", desc := "()I" } : Jvm.MethodName)) ∈ zT := zT_2 163 rfl rfl
theorem q2_164 : (Jvm.Cond.code ({ cls := "TitheGrid", name := "undo", desc := "()I" } : Jvm.MethodName) prog_1_method_9_code (1 : Nat) (Option.some Jvm.ClassFile.FieldType.int)) ∈ zT := zT_2 164 rfl rfl
theorem q2_165 : (Jvm.Cond.methodLink "TitheGrid" (91 : Nat) ({ cls := "TitheGrid$History", name := "isEmpty", desc := "()Z" } : Jvm.MethodName)) ∈ zT := zT_2 165 rfl rfl
theorem q2_166 : (Jvm.Cond.instanceMethod ({ cls := "TitheGrid$History", name := "isEmpty", desc := "()Z" } : Jvm.MethodName)) ∈ zT := zT_2 166 rfl rfl
theorem q2_167 : (Jvm.Cond.selects "TitheGrid$History" ({ cls := "TitheGrid$History", name := "isEmpty", desc := "()Z" } : Jvm.MethodName) ({ cls := "TitheGrid$History", name := "isEmpty", desc := "()Z" } : Jvm.MethodName)) ∈ zT := zT_2 167 rfl rfl
theorem q2_168 : (Jvm.Cond.code ({ cls := "TitheGrid$History", name := "isEmpty", desc := "()Z" } : Jvm.MethodName) prog_3_method_2_code (1 : Nat) (Option.some Jvm.ClassFile.FieldType.boolean)) ∈ zT := zT_2 168 rfl rfl
theorem q2_169 : (Jvm.Cond.methodLink "TitheGrid" (94 : Nat) ({ cls := "TitheGrid$History", name := "restoreInto", desc := "(LTitheGrid$State;)V" } : Jvm.MethodName)) ∈ zT := zT_2 169 rfl rfl
theorem q2_170 : (Jvm.Cond.instanceMethod ({ cls := "TitheGrid$History", name := "restoreInto", desc := "(LTitheGrid$State;)V" } : Jvm.MethodName)) ∈ zT := zT_2 170 rfl rfl
theorem q2_171 : (Jvm.Cond.selects "TitheGrid$History" ({ cls := "TitheGrid$History", name := "restoreInto", desc := "(LTitheGrid$State;)V" } : Jvm.MethodName) ({ cls := "TitheGrid$History", name := "restoreInto", desc := "(LTitheGrid$State;)V" } : Jvm.MethodName)) ∈ zT := zT_2 171 rfl rfl
theorem q2_172 : (Jvm.Cond.code ({ cls := "TitheGrid$History", name := "restoreInto", desc := "(LTitheGrid$State;)V" } : Jvm.MethodName) prog_3_method_5_code (4 : Nat) (Option.none : Option Jvm.ClassFile.FieldType)) ∈ zT := zT_2 172 rfl rfl
theorem q2_173 : (Jvm.Cond.methodLink "TitheGrid$History" (32 : Nat) ({ cls := "java/lang/Math", name := "max", desc := "(II)I" } : Jvm.MethodName)) ∈ zT := zT_2 173 rfl rfl
theorem q2_174 : (Jvm.Cond.static ({ cls := "java/lang/Math", name := "max", desc := "(II)I" } : Jvm.MethodName)) ∈ zT := zT_2 174 rfl rfl
theorem q2_175 : (Jvm.Cond.code ({ cls := "java/lang/Math", name := "max", desc := "(II)I" } : Jvm.MethodName) prog_9_method_65_code (2 : Nat) (Option.some Jvm.ClassFile.FieldType.int)) ∈ zT := zT_2 175 rfl rfl
theorem q2_176 : (Jvm.Cond.methodLink "TitheGrid" (97 : Nat) ({ cls := "TitheGrid$History", name := "number", desc := "()I" } : Jvm.MethodName)) ∈ zT := zT_2 176 rfl rfl
theorem q2_177 : (Jvm.Cond.instanceMethod ({ cls := "TitheGrid$History", name := "number", desc := "()I" } : Jvm.MethodName)) ∈ zT := zT_2 177 rfl rfl
theorem q2_178 : (Jvm.Cond.selects "TitheGrid$History" ({ cls := "TitheGrid$History", name := "number", desc := "()I" } : Jvm.MethodName) ({ cls := "TitheGrid$History", name := "number", desc := "()I" } : Jvm.MethodName)) ∈ zT := zT_2 178 rfl rfl
theorem q2_179 : (Jvm.Cond.code ({ cls := "TitheGrid$History", name := "number", desc := "()I" } : Jvm.MethodName) prog_3_method_3_code (1 : Nat) (Option.some Jvm.ClassFile.FieldType.int)) ∈ zT := zT_2 179 rfl rfl
theorem q2_180 : (Jvm.Cond.methodLink "TitheGridLaw" (48 : Nat) ({ cls := "TitheGrid", name := "count", desc := "(I)I" } : Jvm.MethodName)) ∈ zT := zT_2 180 rfl rfl
theorem q2_181 : (Jvm.Cond.instanceMethod ({ cls := "TitheGrid", name := "count", desc := "(I)I" } : Jvm.MethodName)) ∈ zT := zT_2 181 rfl rfl
theorem q2_182 : (Jvm.Cond.selects "TitheGrid" ({ cls := "TitheGrid", name := "count", desc := "(I)I" } : Jvm.MethodName) ({ cls := "TitheGrid", name := "count", desc := "(I)I" } : Jvm.MethodName)) ∈ zT := zT_2 182 rfl rfl
theorem q2_183 : (Jvm.Cond.code ({ cls := "TitheGrid", name := "count", desc := "(I)I" } : Jvm.MethodName) prog_1_method_10_code (2 : Nat) (Option.some Jvm.ClassFile.FieldType.int)) ∈ zT := zT_2 183 rfl rfl
theorem q2_184 : (Jvm.Cond.methodLink "TitheGrid" (98 : Nat) ({ cls := "TitheGrid$Points", name := "numberAdded", desc := "()I" } : Jvm.MethodName)) ∈ zT := zT_2 184 rfl rfl
theorem q2_185 : (Jvm.Cond.instanceMethod ({ cls := "TitheGrid$Points", name := "numberAdded", desc := "()I" } : Jvm.MethodName)) ∈ zT := zT_2 185 rfl rfl
theorem q2_186 : (Jvm.Cond.selects "TitheGrid$Points" ({ cls := "TitheGrid$Points", name := "numberAdded", desc := "()I" } : Jvm.MethodName) ({ cls := "TitheGrid$Points", name := "numberAdded", desc := "()I" } : Jvm.MethodName)) ∈ zT := zT_2 186 rfl rfl
theorem q2_187 : (Jvm.Cond.code ({ cls := "TitheGrid$Points", name := "numberAdded", desc := "()I" } : Jvm.MethodName) prog_5_method_5_code (1 : Nat) (Option.some Jvm.ClassFile.FieldType.int)) ∈ zT := zT_2 187 rfl rfl
theorem q2_188 : (Jvm.Cond.methodLink "TitheGrid" (101 : Nat) ({ cls := "TitheGrid$Parishes", name := "number", desc := "()I" } : Jvm.MethodName)) ∈ zT := zT_2 188 rfl rfl
theorem q2_189 : (Jvm.Cond.instanceMethod ({ cls := "TitheGrid$Parishes", name := "number", desc := "()I" } : Jvm.MethodName)) ∈ zT := zT_2 189 rfl rfl
theorem q2_190 : (Jvm.Cond.selects "TitheGrid$Parishes" ({ cls := "TitheGrid$Parishes", name := "number", desc := "()I" } : Jvm.MethodName) ({ cls := "TitheGrid$Parishes", name := "number", desc := "()I" } : Jvm.MethodName)) ∈ zT := zT_2 190 rfl rfl
theorem q2_191 : (Jvm.Cond.code ({ cls := "TitheGrid$Parishes", name := "number", desc := "()I" } : Jvm.MethodName) prog_4_method_5_code (1 : Nat) (Option.some Jvm.ClassFile.FieldType.int)) ∈ zT := zT_2 191 rfl rfl
theorem q2_192 : (Jvm.Cond.methodLink "TitheGrid$Parishes" (35 : Nat) ({ cls := "TitheGrid$Parishes", name := "numberTouching", desc := "(IIII)I" } : Jvm.MethodName)) ∈ zT := zT_2 192 rfl rfl
theorem q2_193 : (Jvm.Cond.instanceMethod ({ cls := "TitheGrid$Parishes", name := "numberTouching", desc := "(IIII)I" } : Jvm.MethodName)) ∈ zT := zT_2 193 rfl rfl
theorem q2_194 : (Jvm.Cond.selects "TitheGrid$Parishes" ({ cls := "TitheGrid$Parishes", name := "numberTouching", desc := "(IIII)I" } : Jvm.MethodName) ({ cls := "TitheGrid$Parishes", name := "numberTouching", desc := "(IIII)I" } : Jvm.MethodName)) ∈ zT := zT_2 194 rfl rfl
theorem q2_195 : (Jvm.Cond.code ({ cls := "TitheGrid$Parishes", name := "numberTouching", desc := "(IIII)I" } : Jvm.MethodName) prog_4_method_16_code (7 : Nat) (Option.some Jvm.ClassFile.FieldType.int)) ∈ zT := zT_2 195 rfl rfl
theorem q2_196 : (Jvm.Cond.methodLink "TitheGrid" (102 : Nat) ({ cls := "TitheGrid$Parishes", name := "numberFounded", desc := "()I" } : Jvm.MethodName)) ∈ zT := zT_2 196 rfl rfl
theorem q2_197 : (Jvm.Cond.methodLink "TitheGrid" (109 : Nat) ({ cls := "TitheGrid$Debts", name := "sum", desc := "()I" } : Jvm.MethodName)) ∈ zT := zT_2 197 rfl rfl
theorem q2_198 : (Jvm.Cond.instanceMethod ({ cls := "TitheGrid$Debts", name := "sum", desc := "()I" } : Jvm.MethodName)) ∈ zT := zT_2 198 rfl rfl
theorem q2_199 : (Jvm.Cond.selects "TitheGrid$Debts" ({ cls := "TitheGrid$Debts", name := "sum", desc := "()I" } : Jvm.MethodName) ({ cls := "TitheGrid$Debts", name := "sum", desc := "()I" } : Jvm.MethodName)) ∈ zT := zT_2 199 rfl rfl
theorem q2_200 : (Jvm.Cond.code ({ cls := "TitheGrid$Debts", name := "sum", desc := "()I" } : Jvm.MethodName) prog_2_method_8_code (3 : Nat) (Option.some Jvm.ClassFile.FieldType.int)) ∈ zT := zT_2 200 rfl rfl
theorem q2_201 : (Jvm.Cond.methodLink "TitheGrid$Debts" (29 : Nat) ({ cls := "TitheGrid$Debts", name := "owedBy", desc := "(I)I" } : Jvm.MethodName)) ∈ zT := zT_2 201 rfl rfl
theorem q2_202 : (Jvm.Cond.instanceMethod ({ cls := "TitheGrid$Debts", name := "owedBy", desc := "(I)I" } : Jvm.MethodName)) ∈ zT := zT_2 202 rfl rfl
theorem q2_203 : (Jvm.Cond.selects "TitheGrid$Debts" ({ cls := "TitheGrid$Debts", name := "owedBy", desc := "(I)I" } : Jvm.MethodName) ({ cls := "TitheGrid$Debts", name := "owedBy", desc := "(I)I" } : Jvm.MethodName)) ∈ zT := zT_2 203 rfl rfl
theorem q2_204 : (Jvm.Cond.code ({ cls := "TitheGrid$Debts", name := "owedBy", desc := "(I)I" } : Jvm.MethodName) prog_2_method_6_code (4 : Nat) (Option.some Jvm.ClassFile.FieldType.int)) ∈ zT := zT_2 204 rfl rfl
theorem q2_205 : (Jvm.Cond.methodLink "TitheGrid" (114 : Nat) ({ cls := "TitheGrid$State", name := "pointsWithLordElsewhere", desc := "()I" } : Jvm.MethodName)) ∈ zT := zT_2 205 rfl rfl
theorem q2_206 : (Jvm.Cond.instanceMethod ({ cls := "TitheGrid$State", name := "pointsWithLordElsewhere", desc := "()I" } : Jvm.MethodName)) ∈ zT := zT_2 206 rfl rfl
theorem q2_207 : (Jvm.Cond.selects "TitheGrid$State" ({ cls := "TitheGrid$State", name := "pointsWithLordElsewhere", desc := "()I" } : Jvm.MethodName) ({ cls := "TitheGrid$State", name := "pointsWithLordElsewhere", desc := "()I" } : Jvm.MethodName)) ∈ zT := zT_2 207 rfl rfl
theorem q2_208 : (Jvm.Cond.code ({ cls := "TitheGrid$State", name := "pointsWithLordElsewhere", desc := "()I" } : Jvm.MethodName) prog_6_method_7_code (3 : Nat) (Option.some Jvm.ClassFile.FieldType.int)) ∈ zT := zT_2 208 rfl rfl
theorem q2_209 : (Jvm.Cond.methodLink "TitheGrid$State" (93 : Nat) ({ cls := "TitheGrid$Points", name := "exists", desc := "(I)Z" } : Jvm.MethodName)) ∈ zT := zT_2 209 rfl rfl
theorem q2_210 : (Jvm.Cond.methodLink "TitheGrid" (117 : Nat) ({ cls := "TitheGrid$Parishes", name := "greatestScale", desc := "()I" } : Jvm.MethodName)) ∈ zT := zT_2 210 rfl rfl
theorem q2_211 : (Jvm.Cond.instanceMethod ({ cls := "TitheGrid$Parishes", name := "greatestScale", desc := "()I" } : Jvm.MethodName)) ∈ zT := zT_2 211 rfl rfl
theorem q2_212 : (Jvm.Cond.selects "TitheGrid$Parishes" ({ cls := "TitheGrid$Parishes", name := "greatestScale", desc := "()I" } : Jvm.MethodName) ({ cls := "TitheGrid$Parishes", name := "greatestScale", desc := "()I" } : Jvm.MethodName)) ∈ zT := zT_2 212 rfl rfl
theorem q2_213 : (Jvm.Cond.code ({ cls := "TitheGrid$Parishes", name := "greatestScale", desc := "()I" } : Jvm.MethodName) prog_4_method_17_code (3 : Nat) (Option.some Jvm.ClassFile.FieldType.int)) ∈ zT := zT_2 213 rfl rfl
theorem q2_214 : (Jvm.Cond.methodLink "TitheGrid$Parishes" (68 : Nat) ({ cls := "java/lang/Math", name := "max", desc := "(II)I" } : Jvm.MethodName)) ∈ zT := zT_2 214 rfl rfl
theorem q2_215 : (Jvm.Cond.methodLink "TitheGrid" (120 : Nat) ({ cls := "TitheGrid$Points", name := "wealthIn", desc := "(IIII)I" } : Jvm.MethodName)) ∈ zT := zT_2 215 rfl rfl
theorem q2_216 : (Jvm.Cond.instanceMethod ({ cls := "TitheGrid$Points", name := "wealthIn", desc := "(IIII)I" } : Jvm.MethodName)) ∈ zT := zT_2 216 rfl rfl
theorem q2_217 : (Jvm.Cond.selects "TitheGrid$Points" ({ cls := "TitheGrid$Points", name := "wealthIn", desc := "(IIII)I" } : Jvm.MethodName) ({ cls := "TitheGrid$Points", name := "wealthIn", desc := "(IIII)I" } : Jvm.MethodName)) ∈ zT := zT_2 217 rfl rfl
theorem q2_218 : (Jvm.Cond.code ({ cls := "TitheGrid$Points", name := "wealthIn", desc := "(IIII)I" } : Jvm.MethodName) prog_5_method_17_code (7 : Nat) (Option.some Jvm.ClassFile.FieldType.int)) ∈ zT := zT_2 218 rfl rfl
theorem q2_219 : (Jvm.Cond.methodLink "TitheGridLaw" (52 : Nat) ({ cls := "TitheGrid", name := "point", desc := "(II)I" } : Jvm.MethodName)) ∈ zT := zT_2 219 rfl rfl
theorem q2_220 : (Jvm.Cond.instanceMethod ({ cls := "TitheGrid", name := "point", desc := "(II)I" } : Jvm.MethodName)) ∈ zT := zT_2 220 rfl rfl
theorem q2_221 : (Jvm.Cond.selects "TitheGrid" ({ cls := "TitheGrid", name := "point", desc := "(II)I" } : Jvm.MethodName) ({ cls := "TitheGrid", name := "point", desc := "(II)I" } : Jvm.MethodName)) ∈ zT := zT_2 221 rfl rfl
theorem q2_222 : (Jvm.Cond.code ({ cls := "TitheGrid", name := "point", desc := "(II)I" } : Jvm.MethodName) prog_1_method_11_code (3 : Nat) (Option.some Jvm.ClassFile.FieldType.int)) ∈ zT := zT_2 222 rfl rfl
theorem q2_223 : (Jvm.Cond.methodLink "TitheGrid" (124 : Nat) ({ cls := "TitheGrid$Points", name := "xOf", desc := "(I)I" } : Jvm.MethodName)) ∈ zT := zT_2 223 rfl rfl
theorem q2_224 : (Jvm.Cond.methodLink "TitheGrid" (127 : Nat) ({ cls := "TitheGrid$Points", name := "yOf", desc := "(I)I" } : Jvm.MethodName)) ∈ zT := zT_2 224 rfl rfl
theorem q2_225 : (Jvm.Cond.methodLink "TitheGrid" (130 : Nat) ({ cls := "TitheGrid$Points", name := "wealthOf", desc := "(I)I" } : Jvm.MethodName)) ∈ zT := zT_2 225 rfl rfl
theorem q2_226 : (Jvm.Cond.instanceMethod ({ cls := "TitheGrid$Points", name := "wealthOf", desc := "(I)I" } : Jvm.MethodName)) ∈ zT := zT_2 226 rfl rfl
theorem q2_227 : (Jvm.Cond.selects "TitheGrid$Points" ({ cls := "TitheGrid$Points", name := "wealthOf", desc := "(I)I" } : Jvm.MethodName) ({ cls := "TitheGrid$Points", name := "wealthOf", desc := "(I)I" } : Jvm.MethodName)) ∈ zT := zT_2 227 rfl rfl
theorem q2_228 : (Jvm.Cond.code ({ cls := "TitheGrid$Points", name := "wealthOf", desc := "(I)I" } : Jvm.MethodName) prog_5_method_8_code (2 : Nat) (Option.some Jvm.ClassFile.FieldType.int)) ∈ zT := zT_2 228 rfl rfl
theorem q2_229 : (Jvm.Cond.methodLink "TitheGrid" (133 : Nat) ({ cls := "TitheGrid$State", name := "parishAround", desc := "(I)I" } : Jvm.MethodName)) ∈ zT := zT_2 229 rfl rfl
theorem q2_230 : (Jvm.Cond.methodLink "TitheGrid" (136 : Nat) ({ cls := "TitheGrid$Points", name := "lordOf", desc := "(I)I" } : Jvm.MethodName)) ∈ zT := zT_2 230 rfl rfl
theorem q2_231 : (Jvm.Cond.methodLink "TitheGridLaw" (57 : Nat) ({ cls := "TitheGrid", name := "parish", desc := "(II)I" } : Jvm.MethodName)) ∈ zT := zT_2 231 rfl rfl
theorem q2_232 : (Jvm.Cond.instanceMethod ({ cls := "TitheGrid", name := "parish", desc := "(II)I" } : Jvm.MethodName)) ∈ zT := zT_2 232 rfl rfl
theorem q2_233 : (Jvm.Cond.selects "TitheGrid" ({ cls := "TitheGrid", name := "parish", desc := "(II)I" } : Jvm.MethodName) ({ cls := "TitheGrid", name := "parish", desc := "(II)I" } : Jvm.MethodName)) ∈ zT := zT_2 233 rfl rfl
theorem q2_234 : (Jvm.Cond.code ({ cls := "TitheGrid", name := "parish", desc := "(II)I" } : Jvm.MethodName) prog_1_method_12_code (3 : Nat) (Option.some Jvm.ClassFile.FieldType.int)) ∈ zT := zT_2 234 rfl rfl
theorem q2_235 : (Jvm.Cond.methodLink "TitheGrid" (139 : Nat) ({ cls := "TitheGrid$Parishes", name := "leftOf", desc := "(I)I" } : Jvm.MethodName)) ∈ zT := zT_2 235 rfl rfl
theorem q2_236 : (Jvm.Cond.methodLink "TitheGrid" (142 : Nat) ({ cls := "TitheGrid$Parishes", name := "topOf", desc := "(I)I" } : Jvm.MethodName)) ∈ zT := zT_2 236 rfl rfl
theorem q2_237 : (Jvm.Cond.methodLink "TitheGrid" (145 : Nat) ({ cls := "TitheGrid$Parishes", name := "scaleOf", desc := "(I)I" } : Jvm.MethodName)) ∈ zT := zT_2 237 rfl rfl
theorem q2_238 : (Jvm.Cond.methodLink "TitheGrid" (148 : Nat) ({ cls := "TitheGrid$State", name := "pointsIn", desc := "(I)I" } : Jvm.MethodName)) ∈ zT := zT_2 238 rfl rfl
theorem q2_239 : (Jvm.Cond.methodLink "TitheGrid" (151 : Nat) ({ cls := "TitheGrid$Points", name := "numberUnder", desc := "(I)I" } : Jvm.MethodName)) ∈ zT := zT_2 239 rfl rfl
theorem q3_0 : (Jvm.Cond.instanceMethod ({ cls := "TitheGrid$Points", name := "numberUnder", desc := "(I)I" } : Jvm.MethodName)) ∈ zT := zT_3 0 rfl rfl
theorem q3_1 : (Jvm.Cond.selects "TitheGrid$Points" ({ cls := "TitheGrid$Points", name := "numberUnder", desc := "(I)I" } : Jvm.MethodName) ({ cls := "TitheGrid$Points", name := "numberUnder", desc := "(I)I" } : Jvm.MethodName)) ∈ zT := zT_3 1 rfl rfl
theorem q3_2 : (Jvm.Cond.code ({ cls := "TitheGrid$Points", name := "numberUnder", desc := "(I)I" } : Jvm.MethodName) prog_5_method_20_code (4 : Nat) (Option.some Jvm.ClassFile.FieldType.int)) ∈ zT := zT_3 2 rfl rfl
theorem q3_3 : (Jvm.Cond.methodLink "TitheGrid" (154 : Nat) ({ cls := "TitheGrid$Points", name := "wealthUnder", desc := "(I)I" } : Jvm.MethodName)) ∈ zT := zT_3 3 rfl rfl
theorem q3_4 : (Jvm.Cond.instanceMethod ({ cls := "TitheGrid$Points", name := "wealthUnder", desc := "(I)I" } : Jvm.MethodName)) ∈ zT := zT_3 4 rfl rfl
theorem q3_5 : (Jvm.Cond.selects "TitheGrid$Points" ({ cls := "TitheGrid$Points", name := "wealthUnder", desc := "(I)I" } : Jvm.MethodName) ({ cls := "TitheGrid$Points", name := "wealthUnder", desc := "(I)I" } : Jvm.MethodName)) ∈ zT := zT_3 5 rfl rfl
theorem q3_6 : (Jvm.Cond.code ({ cls := "TitheGrid$Points", name := "wealthUnder", desc := "(I)I" } : Jvm.MethodName) prog_5_method_21_code (4 : Nat) (Option.some Jvm.ClassFile.FieldType.int)) ∈ zT := zT_3 6 rfl rfl
theorem q3_7 : (Jvm.Cond.methodLink "TitheGrid" (157 : Nat) ({ cls := "TitheGrid$Debts", name := "owedBy", desc := "(I)I" } : Jvm.MethodName)) ∈ zT := zT_3 7 rfl rfl
theorem q3_8 : (Jvm.Cond.methodLink "TitheGrid" (160 : Nat) ({ cls := "TitheGrid$Debts", name := "owedTo", desc := "(I)I" } : Jvm.MethodName)) ∈ zT := zT_3 8 rfl rfl
theorem q3_9 : (Jvm.Cond.instanceMethod ({ cls := "TitheGrid$Debts", name := "owedTo", desc := "(I)I" } : Jvm.MethodName)) ∈ zT := zT_3 9 rfl rfl
theorem q3_10 : (Jvm.Cond.selects "TitheGrid$Debts" ({ cls := "TitheGrid$Debts", name := "owedTo", desc := "(I)I" } : Jvm.MethodName) ({ cls := "TitheGrid$Debts", name := "owedTo", desc := "(I)I" } : Jvm.MethodName)) ∈ zT := zT_3 10 rfl rfl
theorem q3_11 : (Jvm.Cond.code ({ cls := "TitheGrid$Debts", name := "owedTo", desc := "(I)I" } : Jvm.MethodName) prog_2_method_7_code (4 : Nat) (Option.some Jvm.ClassFile.FieldType.int)) ∈ zT := zT_3 11 rfl rfl
theorem q3_12 : (Jvm.Cond.methodLink "TitheGridLaw" (61 : Nat) ({ cls := "TitheGrid", name := "debt", desc := "(II)I" } : Jvm.MethodName)) ∈ zT := zT_3 12 rfl rfl
theorem q3_13 : (Jvm.Cond.instanceMethod ({ cls := "TitheGrid", name := "debt", desc := "(II)I" } : Jvm.MethodName)) ∈ zT := zT_3 13 rfl rfl
theorem q3_14 : (Jvm.Cond.selects "TitheGrid" ({ cls := "TitheGrid", name := "debt", desc := "(II)I" } : Jvm.MethodName) ({ cls := "TitheGrid", name := "debt", desc := "(II)I" } : Jvm.MethodName)) ∈ zT := zT_3 14 rfl rfl
theorem q3_15 : (Jvm.Cond.code ({ cls := "TitheGrid", name := "debt", desc := "(II)I" } : Jvm.MethodName) prog_1_method_13_code (3 : Nat) (Option.some Jvm.ClassFile.FieldType.int)) ∈ zT := zT_3 15 rfl rfl
theorem q3_16 : (Jvm.Cond.methodLink "TitheGrid" (163 : Nat) ({ cls := "TitheGrid$Debts", name := "owed", desc := "(II)I" } : Jvm.MethodName)) ∈ zT := zT_3 16 rfl rfl
theorem q3_17 : (Jvm.Cond.methodLink "TitheGridLaw" (65 : Nat) ({ cls := "TitheGrid", name := "at", desc := "(II)I" } : Jvm.MethodName)) ∈ zT := zT_3 17 rfl rfl
theorem q3_18 : (Jvm.Cond.instanceMethod ({ cls := "TitheGrid", name := "at", desc := "(II)I" } : Jvm.MethodName)) ∈ zT := zT_3 18 rfl rfl
theorem q3_19 : (Jvm.Cond.selects "TitheGrid" ({ cls := "TitheGrid", name := "at", desc := "(II)I" } : Jvm.MethodName) ({ cls := "TitheGrid", name := "at", desc := "(II)I" } : Jvm.MethodName)) ∈ zT := zT_3 19 rfl rfl
theorem q3_20 : (Jvm.Cond.code ({ cls := "TitheGrid", name := "at", desc := "(II)I" } : Jvm.MethodName) prog_1_method_14_code (3 : Nat) (Option.some Jvm.ClassFile.FieldType.int)) ∈ zT := zT_3 20 rfl rfl
theorem q3_21 : (Jvm.Cond.methodLink "TitheGrid" (167 : Nat) ({ cls := "TitheGrid$Parishes", name := "parishAt", desc := "(II)I" } : Jvm.MethodName)) ∈ zT := zT_3 21 rfl rfl
theorem q3_22 : (Jvm.Cond.methodLink "TitheGridLaw" (69 : Nat) ({ cls := "TitheGrid", name := "range", desc := "(IIIII)I" } : Jvm.MethodName)) ∈ zT := zT_3 22 rfl rfl
theorem q3_23 : (Jvm.Cond.instanceMethod ({ cls := "TitheGrid", name := "range", desc := "(IIIII)I" } : Jvm.MethodName)) ∈ zT := zT_3 23 rfl rfl
theorem q3_24 : (Jvm.Cond.selects "TitheGrid" ({ cls := "TitheGrid", name := "range", desc := "(IIIII)I" } : Jvm.MethodName) ({ cls := "TitheGrid", name := "range", desc := "(IIIII)I" } : Jvm.MethodName)) ∈ zT := zT_3 24 rfl rfl
theorem q3_25 : (Jvm.Cond.code ({ cls := "TitheGrid", name := "range", desc := "(IIIII)I" } : Jvm.MethodName) prog_1_method_15_code (6 : Nat) (Option.some Jvm.ClassFile.FieldType.int)) ∈ zT := zT_3 25 rfl rfl
theorem q3_26 : (Jvm.Cond.methodLink "TitheGrid" (170 : Nat) ({ cls := "TitheGrid$Points", name := "numberIn", desc := "(IIII)I" } : Jvm.MethodName)) ∈ zT := zT_3 26 rfl rfl
theorem q3_27 : (Jvm.Cond.methodLink "TitheGrid" (173 : Nat) ({ cls := "TitheGrid$Parishes", name := "numberTouching", desc := "(IIII)I" } : Jvm.MethodName)) ∈ zT := zT_3 27 rfl rfl
theorem q3_28 : (Jvm.Cond.methodLink "TitheGrid" (176 : Nat) ({ cls := "TitheGrid$Points", name := "richestIn", desc := "(IIII)I" } : Jvm.MethodName)) ∈ zT := zT_3 28 rfl rfl
theorem q3_29 : (Jvm.Cond.instanceMethod ({ cls := "TitheGrid$Points", name := "richestIn", desc := "(IIII)I" } : Jvm.MethodName)) ∈ zT := zT_3 29 rfl rfl
theorem q3_30 : (Jvm.Cond.selects "TitheGrid$Points" ({ cls := "TitheGrid$Points", name := "richestIn", desc := "(IIII)I" } : Jvm.MethodName) ({ cls := "TitheGrid$Points", name := "richestIn", desc := "(IIII)I" } : Jvm.MethodName)) ∈ zT := zT_3 30 rfl rfl
theorem q3_31 : (Jvm.Cond.code ({ cls := "TitheGrid$Points", name := "richestIn", desc := "(IIII)I" } : Jvm.MethodName) prog_5_method_18_code (7 : Nat) (Option.some Jvm.ClassFile.FieldType.int)) ∈ zT := zT_3 31 rfl rfl
theorem q3_32 : (Jvm.Cond.methodLink "TitheGrid$Points" (50 : Nat) ({ cls := "TitheGrid$Points", name := "wealthOf", desc := "(I)I" } : Jvm.MethodName)) ∈ zT := zT_3 32 rfl rfl
theorem q3_33 : (Jvm.Cond.methodLink "TitheGridLaw" (74 : Nat) ({ cls := "TitheGrid", name := "nearest", desc := "(II)I" } : Jvm.MethodName)) ∈ zT := zT_3 33 rfl rfl
theorem q3_34 : (Jvm.Cond.instanceMethod ({ cls := "TitheGrid", name := "nearest", desc := "(II)I" } : Jvm.MethodName)) ∈ zT := zT_3 34 rfl rfl
theorem q3_35 : (Jvm.Cond.selects "TitheGrid" ({ cls := "TitheGrid", name := "nearest", desc := "(II)I" } : Jvm.MethodName) ({ cls := "TitheGrid", name := "nearest", desc := "(II)I" } : Jvm.MethodName)) ∈ zT := zT_3 35 rfl rfl
theorem q3_36 : (Jvm.Cond.code ({ cls := "TitheGrid", name := "nearest", desc := "(II)I" } : Jvm.MethodName) prog_1_method_16_code (3 : Nat) (Option.some Jvm.ClassFile.FieldType.int)) ∈ zT := zT_3 36 rfl rfl
theorem q3_37 : (Jvm.Cond.methodLink "TitheGrid" (179 : Nat) ({ cls := "TitheGrid$Points", name := "nearestTo", desc := "(II)I" } : Jvm.MethodName)) ∈ zT := zT_3 37 rfl rfl
theorem q3_38 : (Jvm.Cond.instanceMethod ({ cls := "TitheGrid$Points", name := "nearestTo", desc := "(II)I" } : Jvm.MethodName)) ∈ zT := zT_3 38 rfl rfl
theorem q3_39 : (Jvm.Cond.selects "TitheGrid$Points" ({ cls := "TitheGrid$Points", name := "nearestTo", desc := "(II)I" } : Jvm.MethodName) ({ cls := "TitheGrid$Points", name := "nearestTo", desc := "(II)I" } : Jvm.MethodName)) ∈ zT := zT_3 39 rfl rfl
theorem q3_40 : (Jvm.Cond.code ({ cls := "TitheGrid$Points", name := "nearestTo", desc := "(II)I" } : Jvm.MethodName) prog_5_method_19_code (7 : Nat) (Option.some Jvm.ClassFile.FieldType.int)) ∈ zT := zT_3 40 rfl rfl
theorem q3_41 : (Jvm.Cond.methodLink "TitheGrid$Points" (54 : Nat) ({ cls := "java/lang/Math", name := "abs", desc := "(I)I" } : Jvm.MethodName)) ∈ zT := zT_3 41 rfl rfl
theorem q3_42 : (Jvm.Cond.static ({ cls := "java/lang/Math", name := "abs", desc := "(I)I" } : Jvm.MethodName)) ∈ zT := zT_3 42 rfl rfl
theorem q3_43 : (Jvm.Cond.code ({ cls := "java/lang/Math", name := "abs", desc := "(I)I" } : Jvm.MethodName) prog_9_method_59_code (1 : Nat) (Option.some Jvm.ClassFile.FieldType.int)) ∈ zT := zT_3 43 rfl rfl
theorem q3_44 : (Jvm.Cond.methodLink "TitheGridLaw" (78 : Nat) ({ cls := "TitheGrid", name := "inOrder", desc := "(I)I" } : Jvm.MethodName)) ∈ zT := zT_3 44 rfl rfl
theorem q3_45 : (Jvm.Cond.instanceMethod ({ cls := "TitheGrid", name := "inOrder", desc := "(I)I" } : Jvm.MethodName)) ∈ zT := zT_3 45 rfl rfl
theorem q3_46 : (Jvm.Cond.selects "TitheGrid" ({ cls := "TitheGrid", name := "inOrder", desc := "(I)I" } : Jvm.MethodName) ({ cls := "TitheGrid", name := "inOrder", desc := "(I)I" } : Jvm.MethodName)) ∈ zT := zT_3 46 rfl rfl
theorem q3_47 : (Jvm.Cond.code ({ cls := "TitheGrid", name := "inOrder", desc := "(I)I" } : Jvm.MethodName) prog_1_method_17_code (2 : Nat) (Option.some Jvm.ClassFile.FieldType.int)) ∈ zT := zT_3 47 rfl rfl
theorem q3_48 : (Jvm.Cond.methodLink "TitheGrid" (182 : Nat) ({ cls := "TitheGrid$Parishes", name := "withNumberBefore", desc := "(I)I" } : Jvm.MethodName)) ∈ zT := zT_3 48 rfl rfl
theorem q3_49 : (Jvm.Cond.instanceMethod ({ cls := "TitheGrid$Parishes", name := "withNumberBefore", desc := "(I)I" } : Jvm.MethodName)) ∈ zT := zT_3 49 rfl rfl
theorem q3_50 : (Jvm.Cond.selects "TitheGrid$Parishes" ({ cls := "TitheGrid$Parishes", name := "withNumberBefore", desc := "(I)I" } : Jvm.MethodName) ({ cls := "TitheGrid$Parishes", name := "withNumberBefore", desc := "(I)I" } : Jvm.MethodName)) ∈ zT := zT_3 50 rfl rfl
theorem q3_51 : (Jvm.Cond.code ({ cls := "TitheGrid$Parishes", name := "withNumberBefore", desc := "(I)I" } : Jvm.MethodName) prog_4_method_18_code (6 : Nat) (Option.some Jvm.ClassFile.FieldType.int)) ∈ zT := zT_3 51 rfl rfl
theorem q3_52 : (Jvm.Cond.methodLink "TitheGrid$Parishes" (74 : Nat) ({ cls := "TitheGrid$Parishes", name := "everySecondBit", desc := "(I)I" } : Jvm.MethodName)) ∈ zT := zT_3 52 rfl rfl
theorem q3_53 : (Jvm.Cond.static ({ cls := "TitheGrid$Parishes", name := "everySecondBit", desc := "(I)I" } : Jvm.MethodName)) ∈ zT := zT_3 53 rfl rfl
theorem q3_54 : (Jvm.Cond.code ({ cls := "TitheGrid$Parishes", name := "everySecondBit", desc := "(I)I" } : Jvm.MethodName) prog_4_method_19_code (3 : Nat) (Option.some Jvm.ClassFile.FieldType.int)) ∈ zT := zT_3 54 rfl rfl
theorem q3_55 : (Jvm.Cond.methodLink "TitheGrid$Parishes" (77 : Nat) ({ cls := "TitheGrid$Parishes", name := "parishAt", desc := "(II)I" } : Jvm.MethodName)) ∈ zT := zT_3 55 rfl rfl
theorem q3_56 : (Jvm.Cond.methodLink "TitheGridLaw" (82 : Nat) ({ cls := "TitheGrid", name := "payable", desc := "(I)I" } : Jvm.MethodName)) ∈ zT := zT_3 56 rfl rfl
theorem q3_57 : (Jvm.Cond.instanceMethod ({ cls := "TitheGrid", name := "payable", desc := "(I)I" } : Jvm.MethodName)) ∈ zT := zT_3 57 rfl rfl
theorem q3_58 : (Jvm.Cond.selects "TitheGrid" ({ cls := "TitheGrid", name := "payable", desc := "(I)I" } : Jvm.MethodName) ({ cls := "TitheGrid", name := "payable", desc := "(I)I" } : Jvm.MethodName)) ∈ zT := zT_3 58 rfl rfl
theorem q3_59 : (Jvm.Cond.code ({ cls := "TitheGrid", name := "payable", desc := "(I)I" } : Jvm.MethodName) prog_1_method_18_code (2 : Nat) (Option.some Jvm.ClassFile.FieldType.int)) ∈ zT := zT_3 59 rfl rfl
theorem q3_60 : (Jvm.Cond.methodLink "TitheGrid" (185 : Nat) ({ cls := "TitheGrid$State", name := "payablePoints", desc := "(I)I" } : Jvm.MethodName)) ∈ zT := zT_3 60 rfl rfl
theorem q3_61 : (Jvm.Cond.instanceMethod ({ cls := "TitheGrid$State", name := "payablePoints", desc := "(I)I" } : Jvm.MethodName)) ∈ zT := zT_3 61 rfl rfl
theorem q3_62 : (Jvm.Cond.selects "TitheGrid$State" ({ cls := "TitheGrid$State", name := "payablePoints", desc := "(I)I" } : Jvm.MethodName) ({ cls := "TitheGrid$State", name := "payablePoints", desc := "(I)I" } : Jvm.MethodName)) ∈ zT := zT_3 62 rfl rfl
theorem q3_63 : (Jvm.Cond.code ({ cls := "TitheGrid$State", name := "payablePoints", desc := "(I)I" } : Jvm.MethodName) prog_6_method_15_code (4 : Nat) (Option.some Jvm.ClassFile.FieldType.int)) ∈ zT := zT_3 63 rfl rfl
theorem q3_64 : (Jvm.Cond.methodLink "TitheGrid$State" (155 : Nat) ({ cls := "TitheGrid$Debts", name := "owedBy", desc := "(I)I" } : Jvm.MethodName)) ∈ zT := zT_3 64 rfl rfl
theorem q3_65 : (Jvm.Cond.methodLink "TitheGridLaw" (86 : Nat) ({ cls := "TitheGrid", name := "cellsWith", desc := "(I)I" } : Jvm.MethodName)) ∈ zT := zT_3 65 rfl rfl
theorem q3_66 : (Jvm.Cond.instanceMethod ({ cls := "TitheGrid", name := "cellsWith", desc := "(I)I" } : Jvm.MethodName)) ∈ zT := zT_3 66 rfl rfl
theorem q3_67 : (Jvm.Cond.selects "TitheGrid" ({ cls := "TitheGrid", name := "cellsWith", desc := "(I)I" } : Jvm.MethodName) ({ cls := "TitheGrid", name := "cellsWith", desc := "(I)I" } : Jvm.MethodName)) ∈ zT := zT_3 67 rfl rfl
theorem q3_68 : (Jvm.Cond.code ({ cls := "TitheGrid", name := "cellsWith", desc := "(I)I" } : Jvm.MethodName) prog_1_method_19_code (2 : Nat) (Option.some Jvm.ClassFile.FieldType.int)) ∈ zT := zT_3 68 rfl rfl
theorem q3_69 : (Jvm.Cond.methodLink "TitheGrid" (188 : Nat) ({ cls := "TitheGrid$Points", name := "cellsIfDivided", desc := "(I)I" } : Jvm.MethodName)) ∈ zT := zT_3 69 rfl rfl
theorem q3_70 : (Jvm.Cond.instanceMethod ({ cls := "TitheGrid$Points", name := "cellsIfDivided", desc := "(I)I" } : Jvm.MethodName)) ∈ zT := zT_3 70 rfl rfl
theorem q3_71 : (Jvm.Cond.selects "TitheGrid$Points" ({ cls := "TitheGrid$Points", name := "cellsIfDivided", desc := "(I)I" } : Jvm.MethodName) ({ cls := "TitheGrid$Points", name := "cellsIfDivided", desc := "(I)I" } : Jvm.MethodName)) ∈ zT := zT_3 71 rfl rfl
theorem q3_72 : (Jvm.Cond.code ({ cls := "TitheGrid$Points", name := "cellsIfDivided", desc := "(I)I" } : Jvm.MethodName) prog_5_method_24_code (4 : Nat) (Option.some Jvm.ClassFile.FieldType.int)) ∈ zT := zT_3 72 rfl rfl
theorem q3_73 : (Jvm.Cond.methodLink "TitheGrid$Points" (62 : Nat) ({ cls := "TitheGrid$Points", name := "crowdedCells", desc := "(II)I" } : Jvm.MethodName)) ∈ zT := zT_3 73 rfl rfl
theorem q3_75 : (Jvm.Cond.instanceMethod ({ cls := "TitheGrid$Points", name := "crowdedCells", desc := "(II)I" } : Jvm.MethodName)) ∈ zT := zT_3 75 rfl rfl
theorem q3_76 : (Jvm.Cond.code ({ cls := "TitheGrid$Points", name := "crowdedCells", desc := "(II)I" } : Jvm.MethodName) prog_5_method_25_code (9 : Nat) (Option.some Jvm.ClassFile.FieldType.int)) ∈ zT := zT_3 76 rfl rfl
theorem q3_78 : (Jvm.Cond.methodLink "TitheGridLaw" (90 : Nat) ({ cls := "TitheGrid", name := "joinable", desc := "()I" } : Jvm.MethodName)) ∈ zT := zT_3 78 rfl rfl
theorem q3_79 : (Jvm.Cond.instanceMethod ({ cls := "TitheGrid", name := "joinable", desc := "()I" } : Jvm.MethodName)) ∈ zT := zT_3 79 rfl rfl
theorem q3_80 : (Jvm.Cond.selects "TitheGrid" ({ cls := "TitheGrid", name := "joinable", desc := "()I" } : Jvm.MethodName) ({ cls := "TitheGrid", name := "joinable", desc := "()I" } : Jvm.MethodName)) ∈ zT := zT_3 80 rfl rfl
theorem q3_81 : (Jvm.Cond.code ({ cls := "TitheGrid", name := "joinable", desc := "()I" } : Jvm.MethodName) prog_1_method_20_code (2 : Nat) (Option.some Jvm.ClassFile.FieldType.int)) ∈ zT := zT_3 81 rfl rfl
theorem q3_82 : (Jvm.Cond.classLink "TitheGridLaw" (10 : Nat) "TitheGridModel") ∈ zT := zT_3 82 rfl rfl
theorem q3_83 : (Jvm.Cond.instantiable "TitheGridModel" (3 : Nat)) ∈ zT := zT_3 83 rfl rfl
theorem q3_84 : (Jvm.Cond.methodLink "TitheGridLaw" (12 : Nat) ({ cls := "TitheGridModel", name := "<init>", desc := "()V" } : Jvm.MethodName)) ∈ zT := zT_3 84 rfl rfl
theorem q3_85 : (Jvm.Cond.instanceMethod ({ cls := "TitheGridModel", name := "<init>", desc := "()V" } : Jvm.MethodName)) ∈ zT := zT_3 85 rfl rfl
theorem q3_86 : (Jvm.Cond.code ({ cls := "TitheGridModel", name := "<init>", desc := "()V" } : Jvm.MethodName) prog_8_method_1_code (1 : Nat) (Option.none : Option Jvm.ClassFile.FieldType)) ∈ zT := zT_3 86 rfl rfl
theorem q3_87 : (Jvm.Cond.methodLink "TitheGridModel" (1 : Nat) ({ cls := "java/lang/Object", name := "<init>", desc := "()V" } : Jvm.MethodName)) ∈ zT := zT_3 87 rfl rfl
theorem q3_88 : (Jvm.Cond.fieldLink "TitheGridModel" (7 : Nat) "TitheGridModel" "row" "[I") ∈ zT := zT_3 88 rfl rfl
theorem q3_89 : (Jvm.Cond.fieldLink "TitheGridModel" (16 : Nat) "TitheGridModel" "kept" "I") ∈ zT := zT_3 89 rfl rfl
theorem q3_90 : (Jvm.Cond.fieldLink "TitheGridModel" (13 : Nat) "TitheGridModel" "four" "[I") ∈ zT := zT_3 90 rfl rfl
theorem q3_91 : (Jvm.Cond.laysFinal "TitheGridModel" "TitheGridModel" "row" "[I") ∈ zT := zT_3 91 rfl rfl
theorem q3_93 : (Jvm.Cond.lays "TitheGridModel" "TitheGridModel" "kept" "I") ∈ zT := zT_3 93 rfl rfl
theorem q3_95 : (Jvm.Cond.laysFinal "TitheGridModel" "TitheGridModel" "four" "[I") ∈ zT := zT_3 95 rfl rfl
theorem q3_98 : (Jvm.Cond.methodLink "TitheGridLaw" (17 : Nat) ({ cls := "TitheGridModel", name := "add", desc := "(III)I" } : Jvm.MethodName)) ∈ zT := zT_3 98 rfl rfl
theorem q3_99 : (Jvm.Cond.instanceMethod ({ cls := "TitheGridModel", name := "add", desc := "(III)I" } : Jvm.MethodName)) ∈ zT := zT_3 99 rfl rfl
theorem q3_100 : (Jvm.Cond.selects "TitheGridModel" ({ cls := "TitheGridModel", name := "add", desc := "(III)I" } : Jvm.MethodName) ({ cls := "TitheGridModel", name := "add", desc := "(III)I" } : Jvm.MethodName)) ∈ zT := zT_3 100 rfl rfl
theorem q3_101 : (Jvm.Cond.code ({ cls := "TitheGridModel", name := "add", desc := "(III)I" } : Jvm.MethodName) prog_8_method_25_code (5 : Nat) (Option.some Jvm.ClassFile.FieldType.int)) ∈ zT := zT_3 101 rfl rfl
theorem q3_102 : (Jvm.Cond.methodLink "TitheGridModel" (85 : Nat) ({ cls := "TitheGridModel", name := "isPlace", desc := "(II)Z" } : Jvm.MethodName)) ∈ zT := zT_3 102 rfl rfl
theorem q3_103 : (Jvm.Cond.static ({ cls := "TitheGridModel", name := "isPlace", desc := "(II)Z" } : Jvm.MethodName)) ∈ zT := zT_3 103 rfl rfl
theorem q3_104 : (Jvm.Cond.code ({ cls := "TitheGridModel", name := "isPlace", desc := "(II)Z" } : Jvm.MethodName) prog_8_method_9_code (2 : Nat) (Option.some Jvm.ClassFile.FieldType.boolean)) ∈ zT := zT_3 104 rfl rfl
theorem q3_105 : (Jvm.Cond.methodLink "TitheGridModel" (24 : Nat) ({ cls := "TitheGridModel", name := "in", desc := "(III)Z" } : Jvm.MethodName)) ∈ zT := zT_3 105 rfl rfl
theorem q3_106 : (Jvm.Cond.static ({ cls := "TitheGridModel", name := "in", desc := "(III)Z" } : Jvm.MethodName)) ∈ zT := zT_3 106 rfl rfl
theorem q3_107 : (Jvm.Cond.code ({ cls := "TitheGridModel", name := "in", desc := "(III)Z" } : Jvm.MethodName) prog_8_method_2_code (3 : Nat) (Option.some Jvm.ClassFile.FieldType.boolean)) ∈ zT := zT_3 107 rfl rfl
theorem q3_108 : (Jvm.Cond.methodLink "TitheGridModel" (89 : Nat) ({ cls := "TitheGridModel", name := "records", desc := "()V" } : Jvm.MethodName)) ∈ zT := zT_3 108 rfl rfl
theorem q3_110 : (Jvm.Cond.instanceMethod ({ cls := "TitheGridModel", name := "records", desc := "()V" } : Jvm.MethodName)) ∈ zT := zT_3 110 rfl rfl
theorem q3_111 : (Jvm.Cond.code ({ cls := "TitheGridModel", name := "records", desc := "()V" } : Jvm.MethodName) prog_8_method_4_code (2 : Nat) (Option.none : Option Jvm.ClassFile.FieldType)) ∈ zT := zT_3 111 rfl rfl
theorem q3_112 : (Jvm.Cond.methodLink "TitheGridModel" (20 : Nat) ({ cls := "TitheGridModel", name := "copies", desc := "(II)V" } : Jvm.MethodName)) ∈ zT := zT_3 112 rfl rfl
theorem q3_114 : (Jvm.Cond.instanceMethod ({ cls := "TitheGridModel", name := "copies", desc := "(II)V" } : Jvm.MethodName)) ∈ zT := zT_3 114 rfl rfl
theorem q3_115 : (Jvm.Cond.code ({ cls := "TitheGridModel", name := "copies", desc := "(II)V" } : Jvm.MethodName) prog_8_method_3_code (4 : Nat) (Option.none : Option Jvm.ClassFile.FieldType)) ∈ zT := zT_3 115 rfl rfl
theorem q3_116 : (Jvm.Cond.methodLink "TitheGridModel" (43 : Nat) ({ cls := "TitheGridModel", name := "parishAt", desc := "(II)I" } : Jvm.MethodName)) ∈ zT := zT_3 116 rfl rfl
theorem q3_118 : (Jvm.Cond.instanceMethod ({ cls := "TitheGridModel", name := "parishAt", desc := "(II)I" } : Jvm.MethodName)) ∈ zT := zT_3 118 rfl rfl
theorem q3_119 : (Jvm.Cond.code ({ cls := "TitheGridModel", name := "parishAt", desc := "(II)I" } : Jvm.MethodName) prog_8_method_11_code (6 : Nat) (Option.some Jvm.ClassFile.FieldType.int)) ∈ zT := zT_3 119 rfl rfl
theorem q3_120 : (Jvm.Cond.methodLink "TitheGridModel" (32 : Nat) ({ cls := "TitheGridModel", name := "ofParish", desc := "(II)I" } : Jvm.MethodName)) ∈ zT := zT_3 120 rfl rfl
theorem q3_122 : (Jvm.Cond.instanceMethod ({ cls := "TitheGridModel", name := "ofParish", desc := "(II)I" } : Jvm.MethodName)) ∈ zT := zT_3 122 rfl rfl
theorem q3_123 : (Jvm.Cond.code ({ cls := "TitheGridModel", name := "ofParish", desc := "(II)I" } : Jvm.MethodName) prog_8_method_7_code (3 : Nat) (Option.some Jvm.ClassFile.FieldType.int)) ∈ zT := zT_3 123 rfl rfl
theorem q3_124 : (Jvm.Cond.methodLink "TitheGridModel" (35 : Nat) ({ cls := "TitheGridModel", name := "isParish", desc := "(I)Z" } : Jvm.MethodName)) ∈ zT := zT_3 124 rfl rfl
theorem q3_126 : (Jvm.Cond.instanceMethod ({ cls := "TitheGridModel", name := "isParish", desc := "(I)Z" } : Jvm.MethodName)) ∈ zT := zT_3 126 rfl rfl
theorem q3_127 : (Jvm.Cond.code ({ cls := "TitheGridModel", name := "isParish", desc := "(I)Z" } : Jvm.MethodName) prog_8_method_8_code (2 : Nat) (Option.some Jvm.ClassFile.FieldType.boolean)) ∈ zT := zT_3 127 rfl rfl
theorem q3_128 : (Jvm.Cond.methodLink "TitheGridModel" (39 : Nat) ({ cls := "TitheGridModel", name := "sideOf", desc := "(I)I" } : Jvm.MethodName)) ∈ zT := zT_3 128 rfl rfl
theorem q3_130 : (Jvm.Cond.instanceMethod ({ cls := "TitheGridModel", name := "sideOf", desc := "(I)I" } : Jvm.MethodName)) ∈ zT := zT_3 130 rfl rfl
theorem q3_131 : (Jvm.Cond.code ({ cls := "TitheGridModel", name := "sideOf", desc := "(I)I" } : Jvm.MethodName) prog_8_method_10_code (2 : Nat) (Option.some Jvm.ClassFile.FieldType.int)) ∈ zT := zT_3 131 rfl rfl
theorem q3_132 : (Jvm.Cond.methodLink "TitheGridModel" (82 : Nat) ({ cls := "TitheGridModel", name := "setLord", desc := "(II)V" } : Jvm.MethodName)) ∈ zT := zT_3 132 rfl rfl
theorem q3_134 : (Jvm.Cond.instanceMethod ({ cls := "TitheGridModel", name := "setLord", desc := "(II)V" } : Jvm.MethodName)) ∈ zT := zT_3 134 rfl rfl
theorem q3_135 : (Jvm.Cond.code ({ cls := "TitheGridModel", name := "setLord", desc := "(II)V" } : Jvm.MethodName) prog_8_method_19_code (3 : Nat) (Option.none : Option Jvm.ClassFile.FieldType)) ∈ zT := zT_3 135 rfl rfl
theorem q3_136 : (Jvm.Cond.methodLink "TitheGridModel" (92 : Nat) ({ cls := "TitheGridModel", name := "settles", desc := "()V" } : Jvm.MethodName)) ∈ zT := zT_3 136 rfl rfl
theorem q3_138 : (Jvm.Cond.instanceMethod ({ cls := "TitheGridModel", name := "settles", desc := "()V" } : Jvm.MethodName)) ∈ zT := zT_3 138 rfl rfl
theorem q3_139 : (Jvm.Cond.code ({ cls := "TitheGridModel", name := "settles", desc := "()V" } : Jvm.MethodName) prog_8_method_22_code (2 : Nat) (Option.none : Option Jvm.ClassFile.FieldType)) ∈ zT := zT_3 139 rfl rfl
theorem q3_140 : (Jvm.Cond.methodLink "TitheGridModel" (63 : Nat) ({ cls := "TitheGridModel", name := "toSplit", desc := "()I" } : Jvm.MethodName)) ∈ zT := zT_3 140 rfl rfl
theorem q3_142 : (Jvm.Cond.instanceMethod ({ cls := "TitheGridModel", name := "toSplit", desc := "()I" } : Jvm.MethodName)) ∈ zT := zT_3 142 rfl rfl
theorem q3_143 : (Jvm.Cond.code ({ cls := "TitheGridModel", name := "toSplit", desc := "()I" } : Jvm.MethodName) prog_8_method_21_code (2 : Nat) (Option.some Jvm.ClassFile.FieldType.int)) ∈ zT := zT_3 143 rfl rfl
theorem q3_144 : (Jvm.Cond.methodLink "TitheGridModel" (60 : Nat) ({ cls := "TitheGridModel", name := "isCrowded", desc := "(I)Z" } : Jvm.MethodName)) ∈ zT := zT_3 144 rfl rfl
theorem q3_146 : (Jvm.Cond.instanceMethod ({ cls := "TitheGridModel", name := "isCrowded", desc := "(I)Z" } : Jvm.MethodName)) ∈ zT := zT_3 146 rfl rfl
theorem q3_147 : (Jvm.Cond.code ({ cls := "TitheGridModel", name := "isCrowded", desc := "(I)Z" } : Jvm.MethodName) prog_8_method_20_code (2 : Nat) (Option.some Jvm.ClassFile.FieldType.boolean)) ∈ zT := zT_3 147 rfl rfl
theorem q3_148 : (Jvm.Cond.methodLink "TitheGridModel" (56 : Nat) ({ cls := "TitheGridModel", name := "pointsInCell", desc := "(III)I" } : Jvm.MethodName)) ∈ zT := zT_3 148 rfl rfl
theorem q3_150 : (Jvm.Cond.instanceMethod ({ cls := "TitheGridModel", name := "pointsInCell", desc := "(III)I" } : Jvm.MethodName)) ∈ zT := zT_3 150 rfl rfl
theorem q3_151 : (Jvm.Cond.code ({ cls := "TitheGridModel", name := "pointsInCell", desc := "(III)I" } : Jvm.MethodName) prog_8_method_14_code (4 : Nat) (Option.some Jvm.ClassFile.FieldType.int)) ∈ zT := zT_3 151 rfl rfl
theorem q3_152 : (Jvm.Cond.methodLink "TitheGridModel" (49 : Nat) ({ cls := "TitheGridModel", name := "pointsIn", desc := "(IIII)I" } : Jvm.MethodName)) ∈ zT := zT_3 152 rfl rfl
theorem q3_154 : (Jvm.Cond.instanceMethod ({ cls := "TitheGridModel", name := "pointsIn", desc := "(IIII)I" } : Jvm.MethodName)) ∈ zT := zT_3 154 rfl rfl
theorem q3_155 : (Jvm.Cond.code ({ cls := "TitheGridModel", name := "pointsIn", desc := "(IIII)I" } : Jvm.MethodName) prog_8_method_13_code (7 : Nat) (Option.some Jvm.ClassFile.FieldType.int)) ∈ zT := zT_3 155 rfl rfl
theorem q3_156 : (Jvm.Cond.methodLink "TitheGridModel" (46 : Nat) ({ cls := "TitheGridModel", name := "isPoint", desc := "(I)Z" } : Jvm.MethodName)) ∈ zT := zT_3 156 rfl rfl
theorem q3_158 : (Jvm.Cond.instanceMethod ({ cls := "TitheGridModel", name := "isPoint", desc := "(I)Z" } : Jvm.MethodName)) ∈ zT := zT_3 158 rfl rfl
theorem q3_159 : (Jvm.Cond.code ({ cls := "TitheGridModel", name := "isPoint", desc := "(I)Z" } : Jvm.MethodName) prog_8_method_6_code (2 : Nat) (Option.some Jvm.ClassFile.FieldType.boolean)) ∈ zT := zT_3 159 rfl rfl
theorem q3_160 : (Jvm.Cond.methodLink "TitheGridModel" (28 : Nat) ({ cls := "TitheGridModel", name := "ofPoint", desc := "(II)I" } : Jvm.MethodName)) ∈ zT := zT_3 160 rfl rfl
theorem q3_162 : (Jvm.Cond.instanceMethod ({ cls := "TitheGridModel", name := "ofPoint", desc := "(II)I" } : Jvm.MethodName)) ∈ zT := zT_3 162 rfl rfl
theorem q3_163 : (Jvm.Cond.code ({ cls := "TitheGridModel", name := "ofPoint", desc := "(II)I" } : Jvm.MethodName) prog_8_method_5_code (3 : Nat) (Option.some Jvm.ClassFile.FieldType.int)) ∈ zT := zT_3 163 rfl rfl
theorem q3_164 : (Jvm.Cond.methodLink "TitheGridModel" (67 : Nat) ({ cls := "TitheGridModel", name := "splits", desc := "(I)V" } : Jvm.MethodName)) ∈ zT := zT_3 164 rfl rfl
theorem q3_166 : (Jvm.Cond.instanceMethod ({ cls := "TitheGridModel", name := "splits", desc := "(I)V" } : Jvm.MethodName)) ∈ zT := zT_3 166 rfl rfl
theorem q3_167 : (Jvm.Cond.code ({ cls := "TitheGridModel", name := "splits", desc := "(I)V" } : Jvm.MethodName) prog_8_method_23_code (10 : Nat) (Option.none : Option Jvm.ClassFile.FieldType)) ∈ zT := zT_3 167 rfl rfl
theorem q3_168 : (Jvm.Cond.methodLink "TitheGridModel" (71 : Nat) ({ cls := "TitheGridModel", name := "setParish", desc := "(IIII)V" } : Jvm.MethodName)) ∈ zT := zT_3 168 rfl rfl
theorem q3_170 : (Jvm.Cond.instanceMethod ({ cls := "TitheGridModel", name := "setParish", desc := "(IIII)V" } : Jvm.MethodName)) ∈ zT := zT_3 170 rfl rfl
theorem q3_171 : (Jvm.Cond.code ({ cls := "TitheGridModel", name := "setParish", desc := "(IIII)V" } : Jvm.MethodName) prog_8_method_18_code (5 : Nat) (Option.none : Option Jvm.ClassFile.FieldType)) ∈ zT := zT_3 171 rfl rfl
theorem q3_172 : (Jvm.Cond.methodLink "TitheGridModel" (75 : Nat) ({ cls := "TitheGridModel", name := "founds", desc := "(IIII)V" } : Jvm.MethodName)) ∈ zT := zT_3 172 rfl rfl
theorem q3_174 : (Jvm.Cond.instanceMethod ({ cls := "TitheGridModel", name := "founds", desc := "(IIII)V" } : Jvm.MethodName)) ∈ zT := zT_3 174 rfl rfl
theorem q3_175 : (Jvm.Cond.code ({ cls := "TitheGridModel", name := "founds", desc := "(IIII)V" } : Jvm.MethodName) prog_8_method_24_code (10 : Nat) (Option.none : Option Jvm.ClassFile.FieldType)) ∈ zT := zT_3 175 rfl rfl
theorem q3_176 : (Jvm.Cond.methodLink "TitheGridModel" (78 : Nat) ({ cls := "TitheGridModel", name := "owes", desc := "(III)V" } : Jvm.MethodName)) ∈ zT := zT_3 176 rfl rfl
theorem q3_178 : (Jvm.Cond.instanceMethod ({ cls := "TitheGridModel", name := "owes", desc := "(III)V" } : Jvm.MethodName)) ∈ zT := zT_3 178 rfl rfl
theorem q3_179 : (Jvm.Cond.code ({ cls := "TitheGridModel", name := "owes", desc := "(III)V" } : Jvm.MethodName) prog_8_method_16_code (4 : Nat) (Option.none : Option Jvm.ClassFile.FieldType)) ∈ zT := zT_3 179 rfl rfl
theorem q3_180 : (Jvm.Cond.methodLink "TitheGridLaw" (22 : Nat) ({ cls := "TitheGridModel", name := "remove", desc := "(I)I" } : Jvm.MethodName)) ∈ zT := zT_3 180 rfl rfl
theorem q3_181 : (Jvm.Cond.instanceMethod ({ cls := "TitheGridModel", name := "remove", desc := "(I)I" } : Jvm.MethodName)) ∈ zT := zT_3 181 rfl rfl
theorem q3_182 : (Jvm.Cond.selects "TitheGridModel" ({ cls := "TitheGridModel", name := "remove", desc := "(I)I" } : Jvm.MethodName) ({ cls := "TitheGridModel", name := "remove", desc := "(I)I" } : Jvm.MethodName)) ∈ zT := zT_3 182 rfl rfl
theorem q3_183 : (Jvm.Cond.code ({ cls := "TitheGridModel", name := "remove", desc := "(I)I" } : Jvm.MethodName) prog_8_method_27_code (2 : Nat) (Option.some Jvm.ClassFile.FieldType.int)) ∈ zT := zT_3 183 rfl rfl
theorem q3_184 : (Jvm.Cond.methodLink "TitheGridModel" (95 : Nat) ({ cls := "TitheGridModel", name := "allPoints", desc := "()I" } : Jvm.MethodName)) ∈ zT := zT_3 184 rfl rfl
theorem q3_186 : (Jvm.Cond.instanceMethod ({ cls := "TitheGridModel", name := "allPoints", desc := "()I" } : Jvm.MethodName)) ∈ zT := zT_3 186 rfl rfl
theorem q3_187 : (Jvm.Cond.code ({ cls := "TitheGridModel", name := "allPoints", desc := "()I" } : Jvm.MethodName) prog_8_method_26_code (1 : Nat) (Option.some Jvm.ClassFile.FieldType.int)) ∈ zT := zT_3 187 rfl rfl
theorem q3_188 : (Jvm.Cond.methodLink "TitheGridLaw" (26 : Nat) ({ cls := "TitheGridModel", name := "move", desc := "(III)I" } : Jvm.MethodName)) ∈ zT := zT_3 188 rfl rfl
theorem q3_189 : (Jvm.Cond.instanceMethod ({ cls := "TitheGridModel", name := "move", desc := "(III)I" } : Jvm.MethodName)) ∈ zT := zT_3 189 rfl rfl
theorem q3_190 : (Jvm.Cond.selects "TitheGridModel" ({ cls := "TitheGridModel", name := "move", desc := "(III)I" } : Jvm.MethodName) ({ cls := "TitheGridModel", name := "move", desc := "(III)I" } : Jvm.MethodName)) ∈ zT := zT_3 190 rfl rfl
theorem q3_191 : (Jvm.Cond.code ({ cls := "TitheGridModel", name := "move", desc := "(III)I" } : Jvm.MethodName) prog_8_method_28_code (7 : Nat) (Option.some Jvm.ClassFile.FieldType.int)) ∈ zT := zT_3 191 rfl rfl
theorem q3_192 : (Jvm.Cond.methodLink "TitheGridModel" (98 : Nat) ({ cls := "TitheGridModel", name := "parishOf", desc := "(I)I" } : Jvm.MethodName)) ∈ zT := zT_3 192 rfl rfl
theorem q3_194 : (Jvm.Cond.instanceMethod ({ cls := "TitheGridModel", name := "parishOf", desc := "(I)I" } : Jvm.MethodName)) ∈ zT := zT_3 194 rfl rfl
theorem q3_195 : (Jvm.Cond.code ({ cls := "TitheGridModel", name := "parishOf", desc := "(I)I" } : Jvm.MethodName) prog_8_method_12_code (2 : Nat) (Option.some Jvm.ClassFile.FieldType.int)) ∈ zT := zT_3 195 rfl rfl
theorem q3_196 : (Jvm.Cond.methodLink "TitheGridLaw" (30 : Nat) ({ cls := "TitheGridModel", name := "setCrowd", desc := "(I)I" } : Jvm.MethodName)) ∈ zT := zT_3 196 rfl rfl
theorem q3_197 : (Jvm.Cond.instanceMethod ({ cls := "TitheGridModel", name := "setCrowd", desc := "(I)I" } : Jvm.MethodName)) ∈ zT := zT_3 197 rfl rfl
theorem q3_198 : (Jvm.Cond.selects "TitheGridModel" ({ cls := "TitheGridModel", name := "setCrowd", desc := "(I)I" } : Jvm.MethodName) ({ cls := "TitheGridModel", name := "setCrowd", desc := "(I)I" } : Jvm.MethodName)) ∈ zT := zT_3 198 rfl rfl
theorem q3_199 : (Jvm.Cond.code ({ cls := "TitheGridModel", name := "setCrowd", desc := "(I)I" } : Jvm.MethodName) prog_8_method_29_code (3 : Nat) (Option.some Jvm.ClassFile.FieldType.int)) ∈ zT := zT_3 199 rfl rfl
theorem q3_200 : (Jvm.Cond.methodLink "TitheGridLaw" (34 : Nat) ({ cls := "TitheGridModel", name := "setTithe", desc := "(I)I" } : Jvm.MethodName)) ∈ zT := zT_3 200 rfl rfl
theorem q3_201 : (Jvm.Cond.instanceMethod ({ cls := "TitheGridModel", name := "setTithe", desc := "(I)I" } : Jvm.MethodName)) ∈ zT := zT_3 201 rfl rfl
theorem q3_202 : (Jvm.Cond.selects "TitheGridModel" ({ cls := "TitheGridModel", name := "setTithe", desc := "(I)I" } : Jvm.MethodName) ({ cls := "TitheGridModel", name := "setTithe", desc := "(I)I" } : Jvm.MethodName)) ∈ zT := zT_3 202 rfl rfl
theorem q3_203 : (Jvm.Cond.code ({ cls := "TitheGridModel", name := "setTithe", desc := "(I)I" } : Jvm.MethodName) prog_8_method_30_code (3 : Nat) (Option.some Jvm.ClassFile.FieldType.int)) ∈ zT := zT_3 203 rfl rfl
theorem q3_204 : (Jvm.Cond.methodLink "TitheGridLaw" (38 : Nat) ({ cls := "TitheGridModel", name := "pay", desc := "(I)I" } : Jvm.MethodName)) ∈ zT := zT_3 204 rfl rfl
theorem q3_205 : (Jvm.Cond.instanceMethod ({ cls := "TitheGridModel", name := "pay", desc := "(I)I" } : Jvm.MethodName)) ∈ zT := zT_3 205 rfl rfl
theorem q3_206 : (Jvm.Cond.selects "TitheGridModel" ({ cls := "TitheGridModel", name := "pay", desc := "(I)I" } : Jvm.MethodName) ({ cls := "TitheGridModel", name := "pay", desc := "(I)I" } : Jvm.MethodName)) ∈ zT := zT_3 206 rfl rfl
theorem q3_207 : (Jvm.Cond.code ({ cls := "TitheGridModel", name := "pay", desc := "(I)I" } : Jvm.MethodName) prog_8_method_32_code (5 : Nat) (Option.some Jvm.ClassFile.FieldType.int)) ∈ zT := zT_3 207 rfl rfl
theorem q3_208 : (Jvm.Cond.methodLink "TitheGridModel" (101 : Nat) ({ cls := "TitheGridModel", name := "gift", desc := "(I)I" } : Jvm.MethodName)) ∈ zT := zT_3 208 rfl rfl
theorem q3_210 : (Jvm.Cond.instanceMethod ({ cls := "TitheGridModel", name := "gift", desc := "(I)I" } : Jvm.MethodName)) ∈ zT := zT_3 210 rfl rfl
theorem q3_211 : (Jvm.Cond.code ({ cls := "TitheGridModel", name := "gift", desc := "(I)I" } : Jvm.MethodName) prog_8_method_31_code (5 : Nat) (Option.some Jvm.ClassFile.FieldType.int)) ∈ zT := zT_3 211 rfl rfl
theorem q3_212 : (Jvm.Cond.methodLink "TitheGridModel" (53 : Nat) ({ cls := "TitheGridModel", name := "debtOf", desc := "(II)I" } : Jvm.MethodName)) ∈ zT := zT_3 212 rfl rfl
theorem q3_214 : (Jvm.Cond.instanceMethod ({ cls := "TitheGridModel", name := "debtOf", desc := "(II)I" } : Jvm.MethodName)) ∈ zT := zT_3 214 rfl rfl
theorem q3_215 : (Jvm.Cond.code ({ cls := "TitheGridModel", name := "debtOf", desc := "(II)I" } : Jvm.MethodName) prog_8_method_15_code (3 : Nat) (Option.some Jvm.ClassFile.FieldType.int)) ∈ zT := zT_3 215 rfl rfl
theorem q3_216 : (Jvm.Cond.methodLink "TitheGridLaw" (42 : Nat) ({ cls := "TitheGridModel", name := "join", desc := "(I)I" } : Jvm.MethodName)) ∈ zT := zT_3 216 rfl rfl
theorem q3_217 : (Jvm.Cond.instanceMethod ({ cls := "TitheGridModel", name := "join", desc := "(I)I" } : Jvm.MethodName)) ∈ zT := zT_3 217 rfl rfl
theorem q3_218 : (Jvm.Cond.selects "TitheGridModel" ({ cls := "TitheGridModel", name := "join", desc := "(I)I" } : Jvm.MethodName) ({ cls := "TitheGridModel", name := "join", desc := "(I)I" } : Jvm.MethodName)) ∈ zT := zT_3 218 rfl rfl
theorem q3_219 : (Jvm.Cond.code ({ cls := "TitheGridModel", name := "join", desc := "(I)I" } : Jvm.MethodName) prog_8_method_34_code (4 : Nat) (Option.some Jvm.ClassFile.FieldType.int)) ∈ zT := zT_3 219 rfl rfl
theorem q3_220 : (Jvm.Cond.methodLink "TitheGridModel" (104 : Nat) ({ cls := "TitheGridModel", name := "canJoin", desc := "(I)Z" } : Jvm.MethodName)) ∈ zT := zT_3 220 rfl rfl
theorem q3_222 : (Jvm.Cond.instanceMethod ({ cls := "TitheGridModel", name := "canJoin", desc := "(I)Z" } : Jvm.MethodName)) ∈ zT := zT_3 222 rfl rfl
theorem q3_223 : (Jvm.Cond.code ({ cls := "TitheGridModel", name := "canJoin", desc := "(I)Z" } : Jvm.MethodName) prog_8_method_33_code (8 : Nat) (Option.some Jvm.ClassFile.FieldType.boolean)) ∈ zT := zT_3 223 rfl rfl
theorem q3_224 : (Jvm.Cond.methodLink "TitheGridModel" (107 : Nat) ({ cls := "TitheGridModel", name := "dissolves", desc := "(II)V" } : Jvm.MethodName)) ∈ zT := zT_3 224 rfl rfl
theorem q3_226 : (Jvm.Cond.instanceMethod ({ cls := "TitheGridModel", name := "dissolves", desc := "(II)V" } : Jvm.MethodName)) ∈ zT := zT_3 226 rfl rfl
theorem q3_227 : (Jvm.Cond.code ({ cls := "TitheGridModel", name := "dissolves", desc := "(II)V" } : Jvm.MethodName) prog_8_method_35_code (4 : Nat) (Option.none : Option Jvm.ClassFile.FieldType)) ∈ zT := zT_3 227 rfl rfl
theorem q3_228 : (Jvm.Cond.methodLink "TitheGridLaw" (47 : Nat) ({ cls := "TitheGridModel", name := "undo", desc := "()I" } : Jvm.MethodName)) ∈ zT := zT_3 228 rfl rfl
theorem q3_229 : (Jvm.Cond.instanceMethod ({ cls := "TitheGridModel", name := "undo", desc := "()I" } : Jvm.MethodName)) ∈ zT := zT_3 229 rfl rfl
theorem q3_230 : (Jvm.Cond.selects "TitheGridModel" ({ cls := "TitheGridModel", name := "undo", desc := "()I" } : Jvm.MethodName) ({ cls := "TitheGridModel", name := "undo", desc := "()I" } : Jvm.MethodName)) ∈ zT := zT_3 230 rfl rfl
theorem q3_231 : (Jvm.Cond.code ({ cls := "TitheGridModel", name := "undo", desc := "()I" } : Jvm.MethodName) prog_8_method_36_code (1 : Nat) (Option.some Jvm.ClassFile.FieldType.int)) ∈ zT := zT_3 231 rfl rfl
theorem q3_232 : (Jvm.Cond.methodLink "TitheGridLaw" (51 : Nat) ({ cls := "TitheGridModel", name := "count", desc := "(I)I" } : Jvm.MethodName)) ∈ zT := zT_3 232 rfl rfl
theorem q3_233 : (Jvm.Cond.instanceMethod ({ cls := "TitheGridModel", name := "count", desc := "(I)I" } : Jvm.MethodName)) ∈ zT := zT_3 233 rfl rfl
theorem q3_234 : (Jvm.Cond.selects "TitheGridModel" ({ cls := "TitheGridModel", name := "count", desc := "(I)I" } : Jvm.MethodName) ({ cls := "TitheGridModel", name := "count", desc := "(I)I" } : Jvm.MethodName)) ∈ zT := zT_3 234 rfl rfl
theorem q3_235 : (Jvm.Cond.code ({ cls := "TitheGridModel", name := "count", desc := "(I)I" } : Jvm.MethodName) prog_8_method_37_code (8 : Nat) (Option.some Jvm.ClassFile.FieldType.int)) ∈ zT := zT_3 235 rfl rfl
theorem q3_236 : (Jvm.Cond.methodLink "TitheGridModel" (110 : Nat) ({ cls := "TitheGridModel", name := "owed", desc := "(I)I" } : Jvm.MethodName)) ∈ zT := zT_3 236 rfl rfl
theorem q3_238 : (Jvm.Cond.instanceMethod ({ cls := "TitheGridModel", name := "owed", desc := "(I)I" } : Jvm.MethodName)) ∈ zT := zT_3 238 rfl rfl
theorem q3_239 : (Jvm.Cond.code ({ cls := "TitheGridModel", name := "owed", desc := "(I)I" } : Jvm.MethodName) prog_8_method_17_code (4 : Nat) (Option.some Jvm.ClassFile.FieldType.int)) ∈ zT := zT_3 239 rfl rfl
theorem q4_0 : (Jvm.Cond.methodLink "TitheGridLaw" (56 : Nat) ({ cls := "TitheGridModel", name := "point", desc := "(II)I" } : Jvm.MethodName)) ∈ zT := zT_4 0 rfl rfl
theorem q4_1 : (Jvm.Cond.instanceMethod ({ cls := "TitheGridModel", name := "point", desc := "(II)I" } : Jvm.MethodName)) ∈ zT := zT_4 1 rfl rfl
theorem q4_2 : (Jvm.Cond.selects "TitheGridModel" ({ cls := "TitheGridModel", name := "point", desc := "(II)I" } : Jvm.MethodName) ({ cls := "TitheGridModel", name := "point", desc := "(II)I" } : Jvm.MethodName)) ∈ zT := zT_4 2 rfl rfl
theorem q4_3 : (Jvm.Cond.code ({ cls := "TitheGridModel", name := "point", desc := "(II)I" } : Jvm.MethodName) prog_8_method_38_code (3 : Nat) (Option.some Jvm.ClassFile.FieldType.int)) ∈ zT := zT_4 3 rfl rfl
theorem q4_4 : (Jvm.Cond.methodLink "TitheGridLaw" (60 : Nat) ({ cls := "TitheGridModel", name := "parish", desc := "(II)I" } : Jvm.MethodName)) ∈ zT := zT_4 4 rfl rfl
theorem q4_5 : (Jvm.Cond.instanceMethod ({ cls := "TitheGridModel", name := "parish", desc := "(II)I" } : Jvm.MethodName)) ∈ zT := zT_4 5 rfl rfl
theorem q4_6 : (Jvm.Cond.selects "TitheGridModel" ({ cls := "TitheGridModel", name := "parish", desc := "(II)I" } : Jvm.MethodName) ({ cls := "TitheGridModel", name := "parish", desc := "(II)I" } : Jvm.MethodName)) ∈ zT := zT_4 6 rfl rfl
theorem q4_7 : (Jvm.Cond.code ({ cls := "TitheGridModel", name := "parish", desc := "(II)I" } : Jvm.MethodName) prog_8_method_39_code (7 : Nat) (Option.some Jvm.ClassFile.FieldType.int)) ∈ zT := zT_4 7 rfl rfl
theorem q4_8 : (Jvm.Cond.methodLink "TitheGridLaw" (64 : Nat) ({ cls := "TitheGridModel", name := "debt", desc := "(II)I" } : Jvm.MethodName)) ∈ zT := zT_4 8 rfl rfl
theorem q4_9 : (Jvm.Cond.instanceMethod ({ cls := "TitheGridModel", name := "debt", desc := "(II)I" } : Jvm.MethodName)) ∈ zT := zT_4 9 rfl rfl
theorem q4_10 : (Jvm.Cond.selects "TitheGridModel" ({ cls := "TitheGridModel", name := "debt", desc := "(II)I" } : Jvm.MethodName) ({ cls := "TitheGridModel", name := "debt", desc := "(II)I" } : Jvm.MethodName)) ∈ zT := zT_4 10 rfl rfl
theorem q4_11 : (Jvm.Cond.code ({ cls := "TitheGridModel", name := "debt", desc := "(II)I" } : Jvm.MethodName) prog_8_method_40_code (3 : Nat) (Option.some Jvm.ClassFile.FieldType.int)) ∈ zT := zT_4 11 rfl rfl
theorem q4_12 : (Jvm.Cond.methodLink "TitheGridLaw" (68 : Nat) ({ cls := "TitheGridModel", name := "at", desc := "(II)I" } : Jvm.MethodName)) ∈ zT := zT_4 12 rfl rfl
theorem q4_13 : (Jvm.Cond.instanceMethod ({ cls := "TitheGridModel", name := "at", desc := "(II)I" } : Jvm.MethodName)) ∈ zT := zT_4 13 rfl rfl
theorem q4_14 : (Jvm.Cond.selects "TitheGridModel" ({ cls := "TitheGridModel", name := "at", desc := "(II)I" } : Jvm.MethodName) ({ cls := "TitheGridModel", name := "at", desc := "(II)I" } : Jvm.MethodName)) ∈ zT := zT_4 14 rfl rfl
theorem q4_15 : (Jvm.Cond.code ({ cls := "TitheGridModel", name := "at", desc := "(II)I" } : Jvm.MethodName) prog_8_method_41_code (3 : Nat) (Option.some Jvm.ClassFile.FieldType.int)) ∈ zT := zT_4 15 rfl rfl
theorem q4_16 : (Jvm.Cond.methodLink "TitheGridLaw" (73 : Nat) ({ cls := "TitheGridModel", name := "range", desc := "(IIIII)I" } : Jvm.MethodName)) ∈ zT := zT_4 16 rfl rfl
theorem q4_17 : (Jvm.Cond.instanceMethod ({ cls := "TitheGridModel", name := "range", desc := "(IIIII)I" } : Jvm.MethodName)) ∈ zT := zT_4 17 rfl rfl
theorem q4_18 : (Jvm.Cond.selects "TitheGridModel" ({ cls := "TitheGridModel", name := "range", desc := "(IIIII)I" } : Jvm.MethodName) ({ cls := "TitheGridModel", name := "range", desc := "(IIIII)I" } : Jvm.MethodName)) ∈ zT := zT_4 18 rfl rfl
theorem q4_19 : (Jvm.Cond.code ({ cls := "TitheGridModel", name := "range", desc := "(IIIII)I" } : Jvm.MethodName) prog_8_method_42_code (11 : Nat) (Option.some Jvm.ClassFile.FieldType.int)) ∈ zT := zT_4 19 rfl rfl
theorem q4_20 : (Jvm.Cond.methodLink "TitheGridLaw" (77 : Nat) ({ cls := "TitheGridModel", name := "nearest", desc := "(II)I" } : Jvm.MethodName)) ∈ zT := zT_4 20 rfl rfl
theorem q4_21 : (Jvm.Cond.instanceMethod ({ cls := "TitheGridModel", name := "nearest", desc := "(II)I" } : Jvm.MethodName)) ∈ zT := zT_4 21 rfl rfl
theorem q4_22 : (Jvm.Cond.selects "TitheGridModel" ({ cls := "TitheGridModel", name := "nearest", desc := "(II)I" } : Jvm.MethodName) ({ cls := "TitheGridModel", name := "nearest", desc := "(II)I" } : Jvm.MethodName)) ∈ zT := zT_4 22 rfl rfl
theorem q4_23 : (Jvm.Cond.code ({ cls := "TitheGridModel", name := "nearest", desc := "(II)I" } : Jvm.MethodName) prog_8_method_44_code (7 : Nat) (Option.some Jvm.ClassFile.FieldType.int)) ∈ zT := zT_4 23 rfl rfl
theorem q4_24 : (Jvm.Cond.methodLink "TitheGridModel" (113 : Nat) ({ cls := "TitheGridModel", name := "far", desc := "(II)I" } : Jvm.MethodName)) ∈ zT := zT_4 24 rfl rfl
theorem q4_25 : (Jvm.Cond.static ({ cls := "TitheGridModel", name := "far", desc := "(II)I" } : Jvm.MethodName)) ∈ zT := zT_4 25 rfl rfl
theorem q4_26 : (Jvm.Cond.code ({ cls := "TitheGridModel", name := "far", desc := "(II)I" } : Jvm.MethodName) prog_8_method_43_code (2 : Nat) (Option.some Jvm.ClassFile.FieldType.int)) ∈ zT := zT_4 26 rfl rfl
theorem q4_27 : (Jvm.Cond.methodLink "TitheGridLaw" (81 : Nat) ({ cls := "TitheGridModel", name := "inOrder", desc := "(I)I" } : Jvm.MethodName)) ∈ zT := zT_4 27 rfl rfl
theorem q4_28 : (Jvm.Cond.instanceMethod ({ cls := "TitheGridModel", name := "inOrder", desc := "(I)I" } : Jvm.MethodName)) ∈ zT := zT_4 28 rfl rfl
theorem q4_29 : (Jvm.Cond.selects "TitheGridModel" ({ cls := "TitheGridModel", name := "inOrder", desc := "(I)I" } : Jvm.MethodName) ({ cls := "TitheGridModel", name := "inOrder", desc := "(I)I" } : Jvm.MethodName)) ∈ zT := zT_4 29 rfl rfl
theorem q4_30 : (Jvm.Cond.code ({ cls := "TitheGridModel", name := "inOrder", desc := "(I)I" } : Jvm.MethodName) prog_8_method_45_code (7 : Nat) (Option.some Jvm.ClassFile.FieldType.int)) ∈ zT := zT_4 30 rfl rfl
theorem q4_31 : (Jvm.Cond.methodLink "TitheGridLaw" (85 : Nat) ({ cls := "TitheGridModel", name := "payable", desc := "(I)I" } : Jvm.MethodName)) ∈ zT := zT_4 31 rfl rfl
theorem q4_32 : (Jvm.Cond.instanceMethod ({ cls := "TitheGridModel", name := "payable", desc := "(I)I" } : Jvm.MethodName)) ∈ zT := zT_4 32 rfl rfl
theorem q4_33 : (Jvm.Cond.selects "TitheGridModel" ({ cls := "TitheGridModel", name := "payable", desc := "(I)I" } : Jvm.MethodName) ({ cls := "TitheGridModel", name := "payable", desc := "(I)I" } : Jvm.MethodName)) ∈ zT := zT_4 33 rfl rfl
theorem q4_34 : (Jvm.Cond.code ({ cls := "TitheGridModel", name := "payable", desc := "(I)I" } : Jvm.MethodName) prog_8_method_46_code (4 : Nat) (Option.some Jvm.ClassFile.FieldType.int)) ∈ zT := zT_4 34 rfl rfl
theorem q4_35 : (Jvm.Cond.methodLink "TitheGridLaw" (89 : Nat) ({ cls := "TitheGridModel", name := "cellsWith", desc := "(I)I" } : Jvm.MethodName)) ∈ zT := zT_4 35 rfl rfl
theorem q4_36 : (Jvm.Cond.instanceMethod ({ cls := "TitheGridModel", name := "cellsWith", desc := "(I)I" } : Jvm.MethodName)) ∈ zT := zT_4 36 rfl rfl
theorem q4_37 : (Jvm.Cond.selects "TitheGridModel" ({ cls := "TitheGridModel", name := "cellsWith", desc := "(I)I" } : Jvm.MethodName) ({ cls := "TitheGridModel", name := "cellsWith", desc := "(I)I" } : Jvm.MethodName)) ∈ zT := zT_4 37 rfl rfl
theorem q4_38 : (Jvm.Cond.code ({ cls := "TitheGridModel", name := "cellsWith", desc := "(I)I" } : Jvm.MethodName) prog_8_method_47_code (7 : Nat) (Option.some Jvm.ClassFile.FieldType.int)) ∈ zT := zT_4 38 rfl rfl
theorem q4_39 : (Jvm.Cond.methodLink "TitheGridLaw" (93 : Nat) ({ cls := "TitheGridModel", name := "joinable", desc := "()I" } : Jvm.MethodName)) ∈ zT := zT_4 39 rfl rfl
theorem q4_40 : (Jvm.Cond.instanceMethod ({ cls := "TitheGridModel", name := "joinable", desc := "()I" } : Jvm.MethodName)) ∈ zT := zT_4 40 rfl rfl
theorem q4_41 : (Jvm.Cond.selects "TitheGridModel" ({ cls := "TitheGridModel", name := "joinable", desc := "()I" } : Jvm.MethodName) ({ cls := "TitheGridModel", name := "joinable", desc := "()I" } : Jvm.MethodName)) ∈ zT := zT_4 41 rfl rfl
theorem q4_42 : (Jvm.Cond.code ({ cls := "TitheGridModel", name := "joinable", desc := "()I" } : Jvm.MethodName) prog_8_method_48_code (2 : Nat) (Option.some Jvm.ClassFile.FieldType.int)) ∈ zT := zT_4 42 rfl rfl
theorem qs_0 : Cond.selects (⟨"TitheGrid$Parishes", "touches", "(IIIII)Z"⟩ : MethodName).cls ⟨"TitheGrid$Parishes", "touches", "(IIIII)Z"⟩ ⟨"TitheGrid$Parishes", "touches", "(IIIII)Z"⟩ ∈ zT := zT_s 0 rfl rfl
theorem qs_1 : Cond.selects (⟨"TitheGrid$State", "firstToSplit", "()I"⟩ : MethodName).cls ⟨"TitheGrid$State", "firstToSplit", "()I"⟩ ⟨"TitheGrid$State", "firstToSplit", "()I"⟩ ∈ zT := zT_s 1 rfl rfl
theorem qs_2 : Cond.selects (⟨"TitheGrid$State", "splitCell", "(I)V"⟩ : MethodName).cls ⟨"TitheGrid$State", "splitCell", "(I)V"⟩ ⟨"TitheGrid$State", "splitCell", "(I)V"⟩ ∈ zT := zT_s 2 rfl rfl
theorem qs_3 : Cond.selects (⟨"TitheGrid$State", "fullestQuarter", "(III)I"⟩ : MethodName).cls ⟨"TitheGrid$State", "fullestQuarter", "(III)I"⟩ ⟨"TitheGrid$State", "fullestQuarter", "(III)I"⟩ ∈ zT := zT_s 3 rfl rfl
theorem qs_4 : Cond.selects (⟨"TitheGrid$State", "foundIn", "(IIII)V"⟩ : MethodName).cls ⟨"TitheGrid$State", "foundIn", "(IIII)V"⟩ ⟨"TitheGrid$State", "foundIn", "(IIII)V"⟩ ∈ zT := zT_s 4 rfl rfl
theorem qs_5 : Cond.selects (⟨"TitheGrid$State", "titheOf", "(I)I"⟩ : MethodName).cls ⟨"TitheGrid$State", "titheOf", "(I)I"⟩ ⟨"TitheGrid$State", "titheOf", "(I)I"⟩ ∈ zT := zT_s 5 rfl rfl
theorem qs_6 : Cond.selects (⟨"TitheGrid$State", "leftAround", "(I)I"⟩ : MethodName).cls ⟨"TitheGrid$State", "leftAround", "(I)I"⟩ ⟨"TitheGrid$State", "leftAround", "(I)I"⟩ ∈ zT := zT_s 6 rfl rfl
theorem qs_7 : Cond.selects (⟨"TitheGrid$State", "topAround", "(I)I"⟩ : MethodName).cls ⟨"TitheGrid$State", "topAround", "(I)I"⟩ ⟨"TitheGrid$State", "topAround", "(I)I"⟩ ∈ zT := zT_s 7 rfl rfl
theorem qs_8 : Cond.selects (⟨"TitheGrid$State", "parishOfQuarter", "(IIII)I"⟩ : MethodName).cls ⟨"TitheGrid$State", "parishOfQuarter", "(IIII)I"⟩ ⟨"TitheGrid$State", "parishOfQuarter", "(IIII)I"⟩ ∈ zT := zT_s 8 rfl rfl
theorem qs_9 : Cond.selects (⟨"TitheGrid$State", "absorb", "(II)V"⟩ : MethodName).cls ⟨"TitheGrid$State", "absorb", "(II)V"⟩ ⟨"TitheGrid$State", "absorb", "(II)V"⟩ ∈ zT := zT_s 9 rfl rfl
theorem qs_10 : Cond.selects (⟨"TitheGrid$Debts", "shift", "(IIII)V"⟩ : MethodName).cls ⟨"TitheGrid$Debts", "shift", "(IIII)V"⟩ ⟨"TitheGrid$Debts", "shift", "(IIII)V"⟩ ∈ zT := zT_s 10 rfl rfl
theorem qs_11 : Cond.selects (⟨"TitheGrid$Points", "crowdedCells", "(II)I"⟩ : MethodName).cls ⟨"TitheGrid$Points", "crowdedCells", "(II)I"⟩ ⟨"TitheGrid$Points", "crowdedCells", "(II)I"⟩ ∈ zT := zT_s 11 rfl rfl
theorem qs_12 : Cond.selects (⟨"TitheGridModel", "records", "()V"⟩ : MethodName).cls ⟨"TitheGridModel", "records", "()V"⟩ ⟨"TitheGridModel", "records", "()V"⟩ ∈ zT := zT_s 12 rfl rfl
theorem qs_13 : Cond.selects (⟨"TitheGridModel", "copies", "(II)V"⟩ : MethodName).cls ⟨"TitheGridModel", "copies", "(II)V"⟩ ⟨"TitheGridModel", "copies", "(II)V"⟩ ∈ zT := zT_s 13 rfl rfl
theorem qs_14 : Cond.selects (⟨"TitheGridModel", "parishAt", "(II)I"⟩ : MethodName).cls ⟨"TitheGridModel", "parishAt", "(II)I"⟩ ⟨"TitheGridModel", "parishAt", "(II)I"⟩ ∈ zT := zT_s 14 rfl rfl
theorem qs_15 : Cond.selects (⟨"TitheGridModel", "ofParish", "(II)I"⟩ : MethodName).cls ⟨"TitheGridModel", "ofParish", "(II)I"⟩ ⟨"TitheGridModel", "ofParish", "(II)I"⟩ ∈ zT := zT_s 15 rfl rfl
theorem qs_16 : Cond.selects (⟨"TitheGridModel", "isParish", "(I)Z"⟩ : MethodName).cls ⟨"TitheGridModel", "isParish", "(I)Z"⟩ ⟨"TitheGridModel", "isParish", "(I)Z"⟩ ∈ zT := zT_s 16 rfl rfl
theorem qs_17 : Cond.selects (⟨"TitheGridModel", "sideOf", "(I)I"⟩ : MethodName).cls ⟨"TitheGridModel", "sideOf", "(I)I"⟩ ⟨"TitheGridModel", "sideOf", "(I)I"⟩ ∈ zT := zT_s 17 rfl rfl
theorem qs_18 : Cond.selects (⟨"TitheGridModel", "setLord", "(II)V"⟩ : MethodName).cls ⟨"TitheGridModel", "setLord", "(II)V"⟩ ⟨"TitheGridModel", "setLord", "(II)V"⟩ ∈ zT := zT_s 18 rfl rfl
theorem qs_19 : Cond.selects (⟨"TitheGridModel", "settles", "()V"⟩ : MethodName).cls ⟨"TitheGridModel", "settles", "()V"⟩ ⟨"TitheGridModel", "settles", "()V"⟩ ∈ zT := zT_s 19 rfl rfl
theorem qs_20 : Cond.selects (⟨"TitheGridModel", "toSplit", "()I"⟩ : MethodName).cls ⟨"TitheGridModel", "toSplit", "()I"⟩ ⟨"TitheGridModel", "toSplit", "()I"⟩ ∈ zT := zT_s 20 rfl rfl
theorem qs_21 : Cond.selects (⟨"TitheGridModel", "isCrowded", "(I)Z"⟩ : MethodName).cls ⟨"TitheGridModel", "isCrowded", "(I)Z"⟩ ⟨"TitheGridModel", "isCrowded", "(I)Z"⟩ ∈ zT := zT_s 21 rfl rfl
theorem qs_22 : Cond.selects (⟨"TitheGridModel", "pointsInCell", "(III)I"⟩ : MethodName).cls ⟨"TitheGridModel", "pointsInCell", "(III)I"⟩ ⟨"TitheGridModel", "pointsInCell", "(III)I"⟩ ∈ zT := zT_s 22 rfl rfl
theorem qs_23 : Cond.selects (⟨"TitheGridModel", "pointsIn", "(IIII)I"⟩ : MethodName).cls ⟨"TitheGridModel", "pointsIn", "(IIII)I"⟩ ⟨"TitheGridModel", "pointsIn", "(IIII)I"⟩ ∈ zT := zT_s 23 rfl rfl
theorem qs_24 : Cond.selects (⟨"TitheGridModel", "isPoint", "(I)Z"⟩ : MethodName).cls ⟨"TitheGridModel", "isPoint", "(I)Z"⟩ ⟨"TitheGridModel", "isPoint", "(I)Z"⟩ ∈ zT := zT_s 24 rfl rfl
theorem qs_25 : Cond.selects (⟨"TitheGridModel", "ofPoint", "(II)I"⟩ : MethodName).cls ⟨"TitheGridModel", "ofPoint", "(II)I"⟩ ⟨"TitheGridModel", "ofPoint", "(II)I"⟩ ∈ zT := zT_s 25 rfl rfl
theorem qs_26 : Cond.selects (⟨"TitheGridModel", "splits", "(I)V"⟩ : MethodName).cls ⟨"TitheGridModel", "splits", "(I)V"⟩ ⟨"TitheGridModel", "splits", "(I)V"⟩ ∈ zT := zT_s 26 rfl rfl
theorem qs_27 : Cond.selects (⟨"TitheGridModel", "setParish", "(IIII)V"⟩ : MethodName).cls ⟨"TitheGridModel", "setParish", "(IIII)V"⟩ ⟨"TitheGridModel", "setParish", "(IIII)V"⟩ ∈ zT := zT_s 27 rfl rfl
theorem qs_28 : Cond.selects (⟨"TitheGridModel", "founds", "(IIII)V"⟩ : MethodName).cls ⟨"TitheGridModel", "founds", "(IIII)V"⟩ ⟨"TitheGridModel", "founds", "(IIII)V"⟩ ∈ zT := zT_s 28 rfl rfl
theorem qs_29 : Cond.selects (⟨"TitheGridModel", "owes", "(III)V"⟩ : MethodName).cls ⟨"TitheGridModel", "owes", "(III)V"⟩ ⟨"TitheGridModel", "owes", "(III)V"⟩ ∈ zT := zT_s 29 rfl rfl
theorem qs_30 : Cond.selects (⟨"TitheGridModel", "allPoints", "()I"⟩ : MethodName).cls ⟨"TitheGridModel", "allPoints", "()I"⟩ ⟨"TitheGridModel", "allPoints", "()I"⟩ ∈ zT := zT_s 30 rfl rfl
theorem qs_31 : Cond.selects (⟨"TitheGridModel", "parishOf", "(I)I"⟩ : MethodName).cls ⟨"TitheGridModel", "parishOf", "(I)I"⟩ ⟨"TitheGridModel", "parishOf", "(I)I"⟩ ∈ zT := zT_s 31 rfl rfl
theorem qs_32 : Cond.selects (⟨"TitheGridModel", "gift", "(I)I"⟩ : MethodName).cls ⟨"TitheGridModel", "gift", "(I)I"⟩ ⟨"TitheGridModel", "gift", "(I)I"⟩ ∈ zT := zT_s 32 rfl rfl
theorem qs_33 : Cond.selects (⟨"TitheGridModel", "debtOf", "(II)I"⟩ : MethodName).cls ⟨"TitheGridModel", "debtOf", "(II)I"⟩ ⟨"TitheGridModel", "debtOf", "(II)I"⟩ ∈ zT := zT_s 33 rfl rfl
theorem qs_34 : Cond.selects (⟨"TitheGridModel", "canJoin", "(I)Z"⟩ : MethodName).cls ⟨"TitheGridModel", "canJoin", "(I)Z"⟩ ⟨"TitheGridModel", "canJoin", "(I)Z"⟩ ∈ zT := zT_s 34 rfl rfl
theorem qs_35 : Cond.selects (⟨"TitheGridModel", "dissolves", "(II)V"⟩ : MethodName).cls ⟨"TitheGridModel", "dissolves", "(II)V"⟩ ⟨"TitheGridModel", "dissolves", "(II)V"⟩ ∈ zT := zT_s 35 rfl rfl
theorem qs_36 : Cond.selects (⟨"TitheGridModel", "owed", "(I)I"⟩ : MethodName).cls ⟨"TitheGridModel", "owed", "(I)I"⟩ ⟨"TitheGridModel", "owed", "(I)I"⟩ ∈ zT := zT_s 36 rfl rfl
theorem qn1_20 : (Jvm.Cond.methodLinkNest "TitheGrid" (9 : Nat) ({ cls := "TitheGrid$State", name := "<init>", desc := "()V" } : Jvm.MethodName) "TitheGrid") ∈ lw_tbl := List.mem_append_right _ (List.mem_append_left _ (List.mem_of_getElem? (i := 20) rfl))
theorem qn1_26 : (Jvm.Cond.methodLinkNest "TitheGrid$State" (20 : Nat) ({ cls := "TitheGrid$Points", name := "<init>", desc := "()V" } : Jvm.MethodName) "TitheGrid") ∈ lw_tbl := List.mem_append_right _ (List.mem_append_left _ (List.mem_of_getElem? (i := 26) rfl))
theorem qn1_57 : (Jvm.Cond.methodLinkNest "TitheGrid$Parishes" (56 : Nat) ({ cls := "TitheGrid", name := "isBetween", desc := "(III)Z" } : Jvm.MethodName) "TitheGrid") ∈ lw_tbl := List.mem_append_right _ (List.mem_append_left _ (List.mem_of_getElem? (i := 57) rfl))
theorem qn1_79 : (Jvm.Cond.methodLinkNest "TitheGrid$State" (34 : Nat) ({ cls := "TitheGrid$Debts", name := "<init>", desc := "()V" } : Jvm.MethodName) "TitheGrid") ∈ lw_tbl := List.mem_append_right _ (List.mem_append_left _ (List.mem_of_getElem? (i := 79) rfl))
theorem qn1_88 : (Jvm.Cond.fieldLinkNest "TitheGrid" (67 : Nat) "TitheGrid$State" "crowd" "I" "TitheGrid") ∈ lw_tbl := List.mem_append_right _ (List.mem_append_left _ (List.mem_of_getElem? (i := 88) rfl))
theorem qn1_90 : (Jvm.Cond.fieldLinkNest "TitheGrid" (71 : Nat) "TitheGrid$State" "tithe" "I" "TitheGrid") ∈ lw_tbl := List.mem_append_right _ (List.mem_append_left _ (List.mem_of_getElem? (i := 90) rfl))
theorem qn1_92 : (Jvm.Cond.fieldLinkNest "TitheGrid" (31 : Nat) "TitheGrid$State" "points" "LTitheGrid$Points;" "TitheGrid") ∈ lw_tbl := List.mem_append_right _ (List.mem_append_left _ (List.mem_of_getElem? (i := 92) rfl))
theorem qn1_94 : (Jvm.Cond.fieldLinkNest "TitheGrid" (74 : Nat) "TitheGrid$State" "parishes" "LTitheGrid$Parishes;" "TitheGrid") ∈ lw_tbl := List.mem_append_right _ (List.mem_append_left _ (List.mem_of_getElem? (i := 94) rfl))
theorem qn1_96 : (Jvm.Cond.fieldLinkNest "TitheGrid" (105 : Nat) "TitheGrid$State" "debts" "LTitheGrid$Debts;" "TitheGrid") ∈ lw_tbl := List.mem_append_right _ (List.mem_append_left _ (List.mem_of_getElem? (i := 96) rfl))
theorem qn1_115 : (Jvm.Cond.arrayOver (Jvm.ClassFile.FieldType.object "TitheGrid$State")) ∈ lw_tbl := List.mem_append_right _ (List.mem_append_left _ (List.mem_of_getElem? (i := 115) rfl))
theorem qn1_116 : (Jvm.Cond.methodLinkNest "TitheGrid$History" (17 : Nat) ({ cls := "TitheGrid$State", name := "<init>", desc := "()V" } : Jvm.MethodName) "TitheGrid") ∈ lw_tbl := List.mem_append_right _ (List.mem_append_left _ (List.mem_of_getElem? (i := 116) rfl))
theorem qn1_187 : (Jvm.Cond.methodLinkNest "TitheGrid$Parishes" (50 : Nat) ({ cls := "TitheGrid", name := "sideOf", desc := "(I)I" } : Jvm.MethodName) "TitheGrid") ∈ lw_tbl := List.mem_append_right _ (List.mem_append_left _ (List.mem_of_getElem? (i := 187) rfl))
theorem qn1_194 : (Jvm.Cond.methodLinkNest "TitheGrid$Points" (38 : Nat) ({ cls := "TitheGrid", name := "isBetween", desc := "(III)Z" } : Jvm.MethodName) "TitheGrid") ∈ lw_tbl := List.mem_append_right _ (List.mem_append_left _ (List.mem_of_getElem? (i := 194) rfl))
theorem qn2_11 : (Jvm.Cond.methodLinkNest "TitheGrid$State" (115 : Nat) ({ cls := "TitheGrid", name := "sideOf", desc := "(I)I" } : Jvm.MethodName) "TitheGrid") ∈ lw_tbl := List.mem_append_right _ (List.mem_append_right _ (List.mem_append_left _ (List.mem_of_getElem? (i := 11) rfl)))
theorem qn2_16 : (Jvm.Cond.methodLinkNest "TitheGrid$State" (122 : Nat) ({ cls := "TitheGrid", name := "quarterLeft", desc := "(III)I" } : Jvm.MethodName) "TitheGrid") ∈ lw_tbl := List.mem_append_right _ (List.mem_append_right _ (List.mem_append_left _ (List.mem_of_getElem? (i := 16) rfl)))
theorem qn2_19 : (Jvm.Cond.methodLinkNest "TitheGrid$State" (125 : Nat) ({ cls := "TitheGrid", name := "quarterTop", desc := "(III)I" } : Jvm.MethodName) "TitheGrid") ∈ lw_tbl := List.mem_append_right _ (List.mem_append_right _ (List.mem_append_left _ (List.mem_of_getElem? (i := 19) rfl)))
theorem qn3_77 : (Jvm.Cond.methodLinkNest "TitheGrid$Points" (66 : Nat) ({ cls := "TitheGrid", name := "sideOf", desc := "(I)I" } : Jvm.MethodName) "TitheGrid") ∈ lw_tbl := List.mem_append_right _ (List.mem_append_right _ (List.mem_append_right _ (List.mem_append_left _ (List.mem_of_getElem? (i := 77) rfl))))
theorem inZ0 : ∀ w ∈ wsX00, w ∈ zT := by
  show ∀ w ∈ [(Jvm.Cond.laysFinal "TitheGrid$Debts" "TitheGrid$Debts" "amounts" "[I")], w ∈ zT
  exact List.forall_mem_cons.mpr ⟨q1_84, fun _ h => absurd h List.not_mem_nil⟩
theorem inZ1 : ∀ w ∈ wsX10, w ∈ zT := by
  show ∀ w ∈ [(Jvm.Cond.lays "TitheGrid$History" "TitheGrid$History" "number" "I"), (Jvm.Cond.laysFinal "TitheGrid$History" "TitheGrid$History" "states" "[LTitheGrid$State;")], w ∈ zT
  exact List.forall_mem_cons.mpr ⟨q1_119, List.forall_mem_cons.mpr ⟨q1_121, fun _ h => absurd h List.not_mem_nil⟩⟩
theorem inZ2 : ∀ w ∈ wsX20, w ∈ zT := by
  show ∀ w ∈ [(Jvm.Cond.lays "TitheGrid$Parishes" "TitheGrid$Parishes" "founded" "I"), (Jvm.Cond.laysFinal "TitheGrid$Parishes" "TitheGrid$Parishes" "left" "[I"), (Jvm.Cond.laysFinal "TitheGrid$Parishes" "TitheGrid$Parishes" "top" "[I"), (Jvm.Cond.laysFinal "TitheGrid$Parishes" "TitheGrid$Parishes" "scale" "[I")], w ∈ zT
  exact List.forall_mem_cons.mpr ⟨q1_68, List.forall_mem_cons.mpr ⟨q1_70, List.forall_mem_cons.mpr ⟨q1_72, List.forall_mem_cons.mpr ⟨q1_74, fun _ h => absurd h List.not_mem_nil⟩⟩⟩⟩
theorem inZ3 : ∀ w ∈ wsX30, w ∈ zT := by
  show ∀ w ∈ [(Jvm.Cond.lays "TitheGrid$Points" "TitheGrid$Points" "added" "I"), (Jvm.Cond.laysFinal "TitheGrid$Points" "TitheGrid$Points" "x" "[I"), (Jvm.Cond.laysFinal "TitheGrid$Points" "TitheGrid$Points" "y" "[I"), (Jvm.Cond.laysFinal "TitheGrid$Points" "TitheGrid$Points" "wealth" "[I"), (Jvm.Cond.laysFinal "TitheGrid$Points" "TitheGrid$Points" "lord" "[I")], w ∈ zT
  exact List.forall_mem_cons.mpr ⟨q1_35, List.forall_mem_cons.mpr ⟨q1_37, List.forall_mem_cons.mpr ⟨q1_39, List.forall_mem_cons.mpr ⟨q1_41, List.forall_mem_cons.mpr ⟨q1_43, fun _ h => absurd h List.not_mem_nil⟩⟩⟩⟩⟩
theorem inZ4 : ∀ w ∈ wsX40, w ∈ zT := by
  show ∀ w ∈ [(Jvm.Cond.lays "TitheGrid$State" "TitheGrid$State" "crowd" "I"), (Jvm.Cond.lays "TitheGrid$State" "TitheGrid$State" "tithe" "I"), (Jvm.Cond.laysFinal "TitheGrid$State" "TitheGrid$State" "points" "LTitheGrid$Points;"), (Jvm.Cond.laysFinal "TitheGrid$State" "TitheGrid$State" "parishes" "LTitheGrid$Parishes;"), (Jvm.Cond.laysFinal "TitheGrid$State" "TitheGrid$State" "debts" "LTitheGrid$Debts;")], w ∈ zT
  exact List.forall_mem_cons.mpr ⟨q1_97, List.forall_mem_cons.mpr ⟨q1_99, List.forall_mem_cons.mpr ⟨q1_101, List.forall_mem_cons.mpr ⟨q1_103, List.forall_mem_cons.mpr ⟨q1_105, fun _ h => absurd h List.not_mem_nil⟩⟩⟩⟩⟩
theorem inZ5 : ∀ w ∈ wsX50, w ∈ zT := by
  show ∀ w ∈ [(Jvm.Cond.laysFinal "TitheGrid" "TitheGrid" "now" "LTitheGrid$State;"), (Jvm.Cond.laysFinal "TitheGrid" "TitheGrid" "history" "LTitheGrid$History;")], w ∈ zT
  exact List.forall_mem_cons.mpr ⟨q1_126, List.forall_mem_cons.mpr ⟨q1_128, fun _ h => absurd h List.not_mem_nil⟩⟩
theorem inZ6 : ∀ w ∈ wsX60, w ∈ zT := by
  show ∀ w ∈ [(Jvm.Cond.laysFinal "TitheGridModel" "TitheGridModel" "row" "[I"), (Jvm.Cond.lays "TitheGridModel" "TitheGridModel" "kept" "I"), (Jvm.Cond.laysFinal "TitheGridModel" "TitheGridModel" "four" "[I")], w ∈ zT
  exact List.forall_mem_cons.mpr ⟨q3_91, List.forall_mem_cons.mpr ⟨q3_93, List.forall_mem_cons.mpr ⟨q3_95, fun _ h => absurd h List.not_mem_nil⟩⟩⟩
