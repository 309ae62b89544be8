section
-- ===== PART A: goes FIRST, ahead of the names: the tables' words, and 'selects' of the private methods out of them =====
/-- a private method of a class that the tables say can be made, by its rows of tables_1 -/
def lw_okq (q : MethodName × Nat) : Prop := (q.1.cls ≠ "java/lang/invoke/MethodHandle" ∧ q.1.cls ≠ "java/lang/invoke/VarHandle") ∧ Cond.instantiable q.1.cls q.2 ∈ tables_1 ∧ Cond.privateMethod q.1 ∈ tables_1 ∧ Cond.instanceMethod q.1 ∈ tables_1
theorem lw_p0 : lw_okq (⟨"TitheGrid$Parishes", "touches", "(IIIII)Z"⟩, 4) := ⟨⟨by decide +kernel, by decide +kernel⟩, List.mem_of_getElem? (i := 48) (by decide +kernel), List.mem_of_getElem? (i := 180) (by decide +kernel), List.mem_of_getElem? (i := 181) (by decide +kernel)⟩
theorem lw_p1 : lw_okq (⟨"TitheGrid$State", "firstToSplit", "()I"⟩, 5) := ⟨⟨by decide +kernel, by decide +kernel⟩, List.mem_of_getElem? (i := 19) (by decide +kernel), List.mem_of_getElem? (i := 200) (by decide +kernel), List.mem_of_getElem? (i := 201) (by decide +kernel)⟩
theorem lw_p2 : lw_okq (⟨"TitheGrid$State", "splitCell", "(I)V"⟩, 5) := ⟨⟨by decide +kernel, by decide +kernel⟩, List.mem_of_getElem? (i := 19) (by decide +kernel), List.mem_of_getElem? (i := 248) (by decide +kernel), List.mem_of_getElem? (i := 249) (by decide +kernel)⟩
theorem lw_p3 : lw_okq (⟨"TitheGrid$State", "fullestQuarter", "(III)I"⟩, 5) := ⟨⟨by decide +kernel, by decide +kernel⟩, List.mem_of_getElem? (i := 19) (by decide +kernel), List.mem_of_getElem? (i := 253) (by decide +kernel), List.mem_of_getElem? (i := 254) (by decide +kernel)⟩
theorem lw_p4 : lw_okq (⟨"TitheGrid$State", "foundIn", "(IIII)V"⟩, 5) := ⟨⟨by decide +kernel, by decide +kernel⟩, List.mem_of_getElem? (i := 19) (by decide +kernel), List.mem_of_getElem? (i := 263) (by decide +kernel), List.mem_of_getElem? (i := 264) (by decide +kernel)⟩
theorem lw_p5 : lw_okq (⟨"TitheGrid$State", "titheOf", "(I)I"⟩, 5) := ⟨⟨by decide +kernel, by decide +kernel⟩, List.mem_of_getElem? (i := 19) (by decide +kernel), List.mem_of_getElem? (i := 268) (by decide +kernel), List.mem_of_getElem? (i := 269) (by decide +kernel)⟩
theorem lw_p6 : lw_okq (⟨"TitheGrid$State", "leftAround", "(I)I"⟩, 5) := ⟨⟨by decide +kernel, by decide +kernel⟩, List.mem_of_getElem? (i := 19) (by decide +kernel), List.mem_of_getElem? (i := 368) (by decide +kernel), List.mem_of_getElem? (i := 369) (by decide +kernel)⟩
theorem lw_p7 : lw_okq (⟨"TitheGrid$State", "topAround", "(I)I"⟩, 5) := ⟨⟨by decide +kernel, by decide +kernel⟩, List.mem_of_getElem? (i := 19) (by decide +kernel), List.mem_of_getElem? (i := 372) (by decide +kernel), List.mem_of_getElem? (i := 373) (by decide +kernel)⟩
theorem lw_p8 : lw_okq (⟨"TitheGrid$State", "parishOfQuarter", "(IIII)I"⟩, 5) := ⟨⟨by decide +kernel, by decide +kernel⟩, List.mem_of_getElem? (i := 19) (by decide +kernel), List.mem_of_getElem? (i := 376) (by decide +kernel), List.mem_of_getElem? (i := 377) (by decide +kernel)⟩
theorem lw_p9 : lw_okq (⟨"TitheGrid$State", "absorb", "(II)V"⟩, 5) := ⟨⟨by decide +kernel, by decide +kernel⟩, List.mem_of_getElem? (i := 19) (by decide +kernel), List.mem_of_getElem? (i := 385) (by decide +kernel), List.mem_of_getElem? (i := 386) (by decide +kernel)⟩
theorem lw_p10 : lw_okq (⟨"TitheGrid$Debts", "shift", "(IIII)V"⟩, 1) := ⟨⟨by decide +kernel, by decide +kernel⟩, List.mem_of_getElem? (i := 78) (by decide +kernel), List.mem_of_getElem? (i := 393) (by decide +kernel), List.mem_of_getElem? (i := 394) (by decide +kernel)⟩
theorem lw_p11 : lw_okq (⟨"TitheGrid$Points", "crowdedCells", "(II)I"⟩, 5) := ⟨⟨by decide +kernel, by decide +kernel⟩, List.mem_of_getElem? (i := 25) (by decide +kernel), List.mem_of_getElem? (i := 554) (by decide +kernel), List.mem_of_getElem? (i := 555) (by decide +kernel)⟩
theorem lw_p12 : lw_okq (⟨"TitheGridModel", "records", "()V"⟩, 3) := ⟨⟨by decide +kernel, by decide +kernel⟩, List.mem_of_getElem? (i := 563) (by decide +kernel), List.mem_of_getElem? (i := 589) (by decide +kernel), List.mem_of_getElem? (i := 590) (by decide +kernel)⟩
theorem lw_p13 : lw_okq (⟨"TitheGridModel", "copies", "(II)V"⟩, 3) := ⟨⟨by decide +kernel, by decide +kernel⟩, List.mem_of_getElem? (i := 563) (by decide +kernel), List.mem_of_getElem? (i := 593) (by decide +kernel), List.mem_of_getElem? (i := 594) (by decide +kernel)⟩
theorem lw_p14 : lw_okq (⟨"TitheGridModel", "parishAt", "(II)I"⟩, 3) := ⟨⟨by decide +kernel, by decide +kernel⟩, List.mem_of_getElem? (i := 563) (by decide +kernel), List.mem_of_getElem? (i := 597) (by decide +kernel), List.mem_of_getElem? (i := 598) (by decide +kernel)⟩
theorem lw_p15 : lw_okq (⟨"TitheGridModel", "ofParish", "(II)I"⟩, 3) := ⟨⟨by decide +kernel, by decide +kernel⟩, List.mem_of_getElem? (i := 563) (by decide +kernel), List.mem_of_getElem? (i := 601) (by decide +kernel), List.mem_of_getElem? (i := 602) (by decide +kernel)⟩
def lw_privs_1 : List (MethodName × Nat) := [(⟨"TitheGrid$Parishes", "touches", "(IIIII)Z"⟩, 4), (⟨"TitheGrid$State", "firstToSplit", "()I"⟩, 5), (⟨"TitheGrid$State", "splitCell", "(I)V"⟩, 5), (⟨"TitheGrid$State", "fullestQuarter", "(III)I"⟩, 5), (⟨"TitheGrid$State", "foundIn", "(IIII)V"⟩, 5), (⟨"TitheGrid$State", "titheOf", "(I)I"⟩, 5), (⟨"TitheGrid$State", "leftAround", "(I)I"⟩, 5), (⟨"TitheGrid$State", "topAround", "(I)I"⟩, 5), (⟨"TitheGrid$State", "parishOfQuarter", "(IIII)I"⟩, 5), (⟨"TitheGrid$State", "absorb", "(II)V"⟩, 5), (⟨"TitheGrid$Debts", "shift", "(IIII)V"⟩, 1), (⟨"TitheGrid$Points", "crowdedCells", "(II)I"⟩, 5), (⟨"TitheGridModel", "records", "()V"⟩, 3), (⟨"TitheGridModel", "copies", "(II)V"⟩, 3), (⟨"TitheGridModel", "parishAt", "(II)I"⟩, 3), (⟨"TitheGridModel", "ofParish", "(II)I"⟩, 3)]
theorem lw_r1 : ∀ q ∈ lw_privs_1, lw_okq q := List.forall_mem_cons.mpr ⟨lw_p0, List.forall_mem_cons.mpr ⟨lw_p1, List.forall_mem_cons.mpr ⟨lw_p2, List.forall_mem_cons.mpr ⟨lw_p3, List.forall_mem_cons.mpr ⟨lw_p4, List.forall_mem_cons.mpr ⟨lw_p5, List.forall_mem_cons.mpr ⟨lw_p6, List.forall_mem_cons.mpr ⟨lw_p7, List.forall_mem_cons.mpr ⟨lw_p8, List.forall_mem_cons.mpr ⟨lw_p9, List.forall_mem_cons.mpr ⟨lw_p10, List.forall_mem_cons.mpr ⟨lw_p11, List.forall_mem_cons.mpr ⟨lw_p12, List.forall_mem_cons.mpr ⟨lw_p13, List.forall_mem_cons.mpr ⟨lw_p14, List.forall_mem_cons.mpr ⟨lw_p15, fun _ h => absurd h List.not_mem_nil⟩⟩⟩⟩⟩⟩⟩⟩⟩⟩⟩⟩⟩⟩⟩⟩
theorem lw_p16 : lw_okq (⟨"TitheGridModel", "isParish", "(I)Z"⟩, 3) := ⟨⟨by decide +kernel, by decide +kernel⟩, List.mem_of_getElem? (i := 563) (by decide +kernel), List.mem_of_getElem? (i := 605) (by decide +kernel), List.mem_of_getElem? (i := 606) (by decide +kernel)⟩
theorem lw_p17 : lw_okq (⟨"TitheGridModel", "sideOf", "(I)I"⟩, 3) := ⟨⟨by decide +kernel, by decide +kernel⟩, List.mem_of_getElem? (i := 563) (by decide +kernel), List.mem_of_getElem? (i := 609) (by decide +kernel), List.mem_of_getElem? (i := 610) (by decide +kernel)⟩
theorem lw_p18 : lw_okq (⟨"TitheGridModel", "setLord", "(II)V"⟩, 3) := ⟨⟨by decide +kernel, by decide +kernel⟩, List.mem_of_getElem? (i := 563) (by decide +kernel), List.mem_of_getElem? (i := 613) (by decide +kernel), List.mem_of_getElem? (i := 614) (by decide +kernel)⟩
theorem lw_p19 : lw_okq (⟨"TitheGridModel", "settles", "()V"⟩, 3) := ⟨⟨by decide +kernel, by decide +kernel⟩, List.mem_of_getElem? (i := 563) (by decide +kernel), List.mem_of_getElem? (i := 617) (by decide +kernel), List.mem_of_getElem? (i := 618) (by decide +kernel)⟩
theorem lw_p20 : lw_okq (⟨"TitheGridModel", "toSplit", "()I"⟩, 3) := ⟨⟨by decide +kernel, by decide +kernel⟩, List.mem_of_getElem? (i := 563) (by decide +kernel), List.mem_of_getElem? (i := 621) (by decide +kernel), List.mem_of_getElem? (i := 622) (by decide +kernel)⟩
theorem lw_p21 : lw_okq (⟨"TitheGridModel", "isCrowded", "(I)Z"⟩, 3) := ⟨⟨by decide +kernel, by decide +kernel⟩, List.mem_of_getElem? (i := 563) (by decide +kernel), List.mem_of_getElem? (i := 625) (by decide +kernel), List.mem_of_getElem? (i := 626) (by decide +kernel)⟩
theorem lw_p22 : lw_okq (⟨"TitheGridModel", "pointsInCell", "(III)I"⟩, 3) := ⟨⟨by decide +kernel, by decide +kernel⟩, List.mem_of_getElem? (i := 563) (by decide +kernel), List.mem_of_getElem? (i := 629) (by decide +kernel), List.mem_of_getElem? (i := 630) (by decide +kernel)⟩
theorem lw_p23 : lw_okq (⟨"TitheGridModel", "pointsIn", "(IIII)I"⟩, 3) := ⟨⟨by decide +kernel, by decide +kernel⟩, List.mem_of_getElem? (i := 563) (by decide +kernel), List.mem_of_getElem? (i := 633) (by decide +kernel), List.mem_of_getElem? (i := 634) (by decide +kernel)⟩
theorem lw_p24 : lw_okq (⟨"TitheGridModel", "isPoint", "(I)Z"⟩, 3) := ⟨⟨by decide +kernel, by decide +kernel⟩, List.mem_of_getElem? (i := 563) (by decide +kernel), List.mem_of_getElem? (i := 637) (by decide +kernel), List.mem_of_getElem? (i := 638) (by decide +kernel)⟩
theorem lw_p25 : lw_okq (⟨"TitheGridModel", "ofPoint", "(II)I"⟩, 3) := ⟨⟨by decide +kernel, by decide +kernel⟩, List.mem_of_getElem? (i := 563) (by decide +kernel), List.mem_of_getElem? (i := 641) (by decide +kernel), List.mem_of_getElem? (i := 642) (by decide +kernel)⟩
theorem lw_p26 : lw_okq (⟨"TitheGridModel", "splits", "(I)V"⟩, 3) := ⟨⟨by decide +kernel, by decide +kernel⟩, List.mem_of_getElem? (i := 563) (by decide +kernel), List.mem_of_getElem? (i := 645) (by decide +kernel), List.mem_of_getElem? (i := 646) (by decide +kernel)⟩
theorem lw_p27 : lw_okq (⟨"TitheGridModel", "setParish", "(IIII)V"⟩, 3) := ⟨⟨by decide +kernel, by decide +kernel⟩, List.mem_of_getElem? (i := 563) (by decide +kernel), List.mem_of_getElem? (i := 649) (by decide +kernel), List.mem_of_getElem? (i := 650) (by decide +kernel)⟩
theorem lw_p28 : lw_okq (⟨"TitheGridModel", "founds", "(IIII)V"⟩, 3) := ⟨⟨by decide +kernel, by decide +kernel⟩, List.mem_of_getElem? (i := 563) (by decide +kernel), List.mem_of_getElem? (i := 653) (by decide +kernel), List.mem_of_getElem? (i := 654) (by decide +kernel)⟩
theorem lw_p29 : lw_okq (⟨"TitheGridModel", "owes", "(III)V"⟩, 3) := ⟨⟨by decide +kernel, by decide +kernel⟩, List.mem_of_getElem? (i := 563) (by decide +kernel), List.mem_of_getElem? (i := 657) (by decide +kernel), List.mem_of_getElem? (i := 658) (by decide +kernel)⟩
theorem lw_p30 : lw_okq (⟨"TitheGridModel", "allPoints", "()I"⟩, 3) := ⟨⟨by decide +kernel, by decide +kernel⟩, List.mem_of_getElem? (i := 563) (by decide +kernel), List.mem_of_getElem? (i := 665) (by decide +kernel), List.mem_of_getElem? (i := 666) (by decide +kernel)⟩
theorem lw_p31 : lw_okq (⟨"TitheGridModel", "parishOf", "(I)I"⟩, 3) := ⟨⟨by decide +kernel, by decide +kernel⟩, List.mem_of_getElem? (i := 563) (by decide +kernel), List.mem_of_getElem? (i := 673) (by decide +kernel), List.mem_of_getElem? (i := 674) (by decide +kernel)⟩
def lw_privs_2 : List (MethodName × Nat) := [(⟨"TitheGridModel", "isParish", "(I)Z"⟩, 3), (⟨"TitheGridModel", "sideOf", "(I)I"⟩, 3), (⟨"TitheGridModel", "setLord", "(II)V"⟩, 3), (⟨"TitheGridModel", "settles", "()V"⟩, 3), (⟨"TitheGridModel", "toSplit", "()I"⟩, 3), (⟨"TitheGridModel", "isCrowded", "(I)Z"⟩, 3), (⟨"TitheGridModel", "pointsInCell", "(III)I"⟩, 3), (⟨"TitheGridModel", "pointsIn", "(IIII)I"⟩, 3), (⟨"TitheGridModel", "isPoint", "(I)Z"⟩, 3), (⟨"TitheGridModel", "ofPoint", "(II)I"⟩, 3), (⟨"TitheGridModel", "splits", "(I)V"⟩, 3), (⟨"TitheGridModel", "setParish", "(IIII)V"⟩, 3), (⟨"TitheGridModel", "founds", "(IIII)V"⟩, 3), (⟨"TitheGridModel", "owes", "(III)V"⟩, 3), (⟨"TitheGridModel", "allPoints", "()I"⟩, 3), (⟨"TitheGridModel", "parishOf", "(I)I"⟩, 3)]
theorem lw_r2 : ∀ q ∈ lw_privs_2, lw_okq q := List.forall_mem_cons.mpr ⟨lw_p16, List.forall_mem_cons.mpr ⟨lw_p17, List.forall_mem_cons.mpr ⟨lw_p18, List.forall_mem_cons.mpr ⟨lw_p19, List.forall_mem_cons.mpr ⟨lw_p20, List.forall_mem_cons.mpr ⟨lw_p21, List.forall_mem_cons.mpr ⟨lw_p22, List.forall_mem_cons.mpr ⟨lw_p23, List.forall_mem_cons.mpr ⟨lw_p24, List.forall_mem_cons.mpr ⟨lw_p25, List.forall_mem_cons.mpr ⟨lw_p26, List.forall_mem_cons.mpr ⟨lw_p27, List.forall_mem_cons.mpr ⟨lw_p28, List.forall_mem_cons.mpr ⟨lw_p29, List.forall_mem_cons.mpr ⟨lw_p30, List.forall_mem_cons.mpr ⟨lw_p31, fun _ h => absurd h List.not_mem_nil⟩⟩⟩⟩⟩⟩⟩⟩⟩⟩⟩⟩⟩⟩⟩⟩
theorem lw_p32 : lw_okq (⟨"TitheGridModel", "gift", "(I)I"⟩, 3) := ⟨⟨by decide +kernel, by decide +kernel⟩, List.mem_of_getElem? (i := 563) (by decide +kernel), List.mem_of_getElem? (i := 689) (by decide +kernel), List.mem_of_getElem? (i := 690) (by decide +kernel)⟩
theorem lw_p33 : lw_okq (⟨"TitheGridModel", "debtOf", "(II)I"⟩, 3) := ⟨⟨by decide +kernel, by decide +kernel⟩, List.mem_of_getElem? (i := 563) (by decide +kernel), List.mem_of_getElem? (i := 693) (by decide +kernel), List.mem_of_getElem? (i := 694) (by decide +kernel)⟩
theorem lw_p34 : lw_okq (⟨"TitheGridModel", "canJoin", "(I)Z"⟩, 3) := ⟨⟨by decide +kernel, by decide +kernel⟩, List.mem_of_getElem? (i := 563) (by decide +kernel), List.mem_of_getElem? (i := 701) (by decide +kernel), List.mem_of_getElem? (i := 702) (by decide +kernel)⟩
theorem lw_p35 : lw_okq (⟨"TitheGridModel", "dissolves", "(II)V"⟩, 3) := ⟨⟨by decide +kernel, by decide +kernel⟩, List.mem_of_getElem? (i := 563) (by decide +kernel), List.mem_of_getElem? (i := 705) (by decide +kernel), List.mem_of_getElem? (i := 706) (by decide +kernel)⟩
theorem lw_p36 : lw_okq (⟨"TitheGridModel", "owed", "(I)I"⟩, 3) := ⟨⟨by decide +kernel, by decide +kernel⟩, List.mem_of_getElem? (i := 563) (by decide +kernel), List.mem_of_getElem? (i := 717) (by decide +kernel), List.mem_of_getElem? (i := 718) (by decide +kernel)⟩
def lw_privs_3 : List (MethodName × Nat) := [(⟨"TitheGridModel", "gift", "(I)I"⟩, 3), (⟨"TitheGridModel", "debtOf", "(II)I"⟩, 3), (⟨"TitheGridModel", "canJoin", "(I)Z"⟩, 3), (⟨"TitheGridModel", "dissolves", "(II)V"⟩, 3), (⟨"TitheGridModel", "owed", "(I)I"⟩, 3)]
theorem lw_r3 : ∀ q ∈ lw_privs_3, lw_okq q := List.forall_mem_cons.mpr ⟨lw_p32, List.forall_mem_cons.mpr ⟨lw_p33, List.forall_mem_cons.mpr ⟨lw_p34, List.forall_mem_cons.mpr ⟨lw_p35, List.forall_mem_cons.mpr ⟨lw_p36, fun _ h => absurd h List.not_mem_nil⟩⟩⟩⟩⟩
def lw_privs : List (MethodName × Nat) := lw_privs_1 ++ (lw_privs_2 ++ (lw_privs_3))
def lw_tbl : List Cond := k2_sels lw_privs ++ tables_1
theorem lw_privs_ok : ∀ q ∈ lw_privs, lw_okq q := by
  show ∀ q ∈ lw_privs_1 ++ (lw_privs_2 ++ (lw_privs_3)), lw_okq q
  exact List.forall_mem_append.mpr ⟨lw_r1, List.forall_mem_append.mpr ⟨lw_r2, lw_r3⟩⟩
-- ===== end of PART A; then your names; then what follows =====
/-! ===== BEGIN words of one list among another's, by their places ===== -/

/-! ===== BEGIN printed: names, fields, word lists, decode rows ===== -/
def RX0 : String := "TitheGrid$Debts"
def TX0 : u_T := fun k => match k with
  | _ => ("TitheGrid$Debts", "amounts", "[I", true)
def tyX0 : Nat → FieldType := fun k => match k with
  | _ => .array .int
abbrev wsX00 : List Cond := u_ws RX0 TX0 1
theorem nmX0 : ∀ a, a < 1 → ∀ b, b < 1 → a ≠ b → (TX0 a).2.1 ≠ (TX0 b).2.1 := by decide +kernel
theorem tyX0_ok : ∀ k, k < 1 → parseFieldDescriptor (TX0 k).2.2.1 = some (tyX0 k) := by decide +kernel
abbrev cX0_init : ByteArray := prog_2_method_1_code
def yX0_init : MethodName := ⟨RX0, "<init>", "()V"⟩
abbrev cX0_copyFrom : ByteArray := prog_2_method_2_code
def yX0_copyFrom : MethodName := ⟨RX0, "copyFrom", "(LTitheGrid$Debts;)V"⟩
abbrev cX0_owed : ByteArray := prog_2_method_3_code
def yX0_owed : MethodName := ⟨RX0, "owed", "(II)I"⟩
abbrev cX0_change : ByteArray := prog_2_method_4_code
def yX0_change : MethodName := ⟨RX0, "change", "(III)V"⟩
abbrev cX0_areParishes : ByteArray := prog_2_method_5_code
def yX0_areParishes : MethodName := ⟨RX0, "areParishes", "(II)Z"⟩
abbrev cX0_owedBy : ByteArray := prog_2_method_6_code
def yX0_owedBy : MethodName := ⟨RX0, "owedBy", "(I)I"⟩
abbrev cX0_owedTo : ByteArray := prog_2_method_7_code
def yX0_owedTo : MethodName := ⟨RX0, "owedTo", "(I)I"⟩
abbrev cX0_sum : ByteArray := prog_2_method_8_code
def yX0_sum : MethodName := ⟨RX0, "sum", "()I"⟩
abbrev cX0_firstCreditorOf : ByteArray := prog_2_method_9_code
def yX0_firstCreditorOf : MethodName := ⟨RX0, "firstCreditorOf", "(I)I"⟩
abbrev cX0_passOn : ByteArray := prog_2_method_10_code
def yX0_passOn : MethodName := ⟨RX0, "passOn", "(II)V"⟩
abbrev cX0_shift : ByteArray := prog_2_method_11_code
def yX0_shift : MethodName := ⟨RX0, "shift", "(IIII)V"⟩
def RX1 : String := "TitheGrid$History"
def TX1 : u_T := fun k => match k with
  | 0 => ("TitheGrid$History", "number", "I", false)
  | _ => ("TitheGrid$History", "states", "[LTitheGrid$State;", true)
def tyX1 : Nat → FieldType := fun k => match k with
  | 0 => .int
  | _ => .array (.object "TitheGrid$State")
abbrev wsX10 : List Cond := u_ws RX1 TX1 2
theorem nmX1 : ∀ a, a < 2 → ∀ b, b < 2 → a ≠ b → (TX1 a).2.1 ≠ (TX1 b).2.1 := by decide +kernel
theorem tyX1_ok : ∀ k, k < 2 → parseFieldDescriptor (TX1 k).2.2.1 = some (tyX1 k) := by decide +kernel
abbrev cX1_init : ByteArray := prog_3_method_1_code
def yX1_init : MethodName := ⟨RX1, "<init>", "()V"⟩
abbrev cX1_isEmpty : ByteArray := prog_3_method_2_code
def yX1_isEmpty : MethodName := ⟨RX1, "isEmpty", "()Z"⟩
abbrev cX1_number : ByteArray := prog_3_method_3_code
def yX1_number : MethodName := ⟨RX1, "number", "()I"⟩
abbrev cX1_keep : ByteArray := prog_3_method_4_code
def yX1_keep : MethodName := ⟨RX1, "keep", "(LTitheGrid$State;)V"⟩
abbrev cX1_restoreInto : ByteArray := prog_3_method_5_code
def yX1_restoreInto : MethodName := ⟨RX1, "restoreInto", "(LTitheGrid$State;)V"⟩
def RX2 : String := "TitheGrid$Parishes"
def TX2 : u_T := fun k => match k with
  | 0 => ("TitheGrid$Parishes", "founded", "I", false)
  | 1 => ("TitheGrid$Parishes", "left", "[I", true)
  | 2 => ("TitheGrid$Parishes", "top", "[I", true)
  | _ => ("TitheGrid$Parishes", "scale", "[I", true)
def tyX2 : Nat → FieldType := fun k => match k with
  | 0 => .int
  | 1 => .array .int
  | 2 => .array .int
  | _ => .array .int
abbrev wsX20 : List Cond := u_ws RX2 TX2 4
theorem nmX2 : ∀ a, a < 4 → ∀ b, b < 4 → a ≠ b → (TX2 a).2.1 ≠ (TX2 b).2.1 := by decide +kernel
theorem tyX2_ok : ∀ k, k < 4 → parseFieldDescriptor (TX2 k).2.2.1 = some (tyX2 k) := by decide +kernel
abbrev cX2_init : ByteArray := prog_4_method_1_code
def yX2_init : MethodName := ⟨RX2, "<init>", "()V"⟩
abbrev cX2_copyFrom : ByteArray := prog_4_method_2_code
def yX2_copyFrom : MethodName := ⟨RX2, "copyFrom", "(LTitheGrid$Parishes;)V"⟩
abbrev cX2_exists : ByteArray := prog_4_method_3_code
def yX2_exists : MethodName := ⟨RX2, "exists", "(I)Z"⟩
abbrev cX2_numberFounded : ByteArray := prog_4_method_4_code
def yX2_numberFounded : MethodName := ⟨RX2, "numberFounded", "()I"⟩
abbrev cX2_number : ByteArray := prog_4_method_5_code
def yX2_number : MethodName := ⟨RX2, "number", "()I"⟩
abbrev cX2_leftOf : ByteArray := prog_4_method_6_code
def yX2_leftOf : MethodName := ⟨RX2, "leftOf", "(I)I"⟩
abbrev cX2_topOf : ByteArray := prog_4_method_7_code
def yX2_topOf : MethodName := ⟨RX2, "topOf", "(I)I"⟩
abbrev cX2_rightOf : ByteArray := prog_4_method_8_code
def yX2_rightOf : MethodName := ⟨RX2, "rightOf", "(I)I"⟩
abbrev cX2_bottomOf : ByteArray := prog_4_method_9_code
def yX2_bottomOf : MethodName := ⟨RX2, "bottomOf", "(I)I"⟩
abbrev cX2_scaleOf : ByteArray := prog_4_method_10_code
def yX2_scaleOf : MethodName := ⟨RX2, "scaleOf", "(I)I"⟩
abbrev cX2_found : ByteArray := prog_4_method_11_code
def yX2_found : MethodName := ⟨RX2, "found", "(III)I"⟩
abbrev cX2_giveCell : ByteArray := prog_4_method_12_code
def yX2_giveCell : MethodName := ⟨RX2, "giveCell", "(IIII)V"⟩
abbrev cX2_dissolve : ByteArray := prog_4_method_13_code
def yX2_dissolve : MethodName := ⟨RX2, "dissolve", "(I)V"⟩
abbrev cX2_touches : ByteArray := prog_4_method_14_code
def yX2_touches : MethodName := ⟨RX2, "touches", "(IIIII)Z"⟩
abbrev cX2_parishAt : ByteArray := prog_4_method_15_code
def yX2_parishAt : MethodName := ⟨RX2, "parishAt", "(II)I"⟩
abbrev cX2_numberTouching : ByteArray := prog_4_method_16_code
def yX2_numberTouching : MethodName := ⟨RX2, "numberTouching", "(IIII)I"⟩
abbrev cX2_greatestScale : ByteArray := prog_4_method_17_code
def yX2_greatestScale : MethodName := ⟨RX2, "greatestScale", "()I"⟩
abbrev cX2_withNumberBefore : ByteArray := prog_4_method_18_code
def yX2_withNumberBefore : MethodName := ⟨RX2, "withNumberBefore", "(I)I"⟩
abbrev cX2_everySecondBit : ByteArray := prog_4_method_19_code
def yX2_everySecondBit : MethodName := ⟨RX2, "everySecondBit", "(I)I"⟩
def RX3 : String := "TitheGrid$Points"
def TX3 : u_T := fun k => match k with
  | 0 => ("TitheGrid$Points", "added", "I", false)
  | 1 => ("TitheGrid$Points", "x", "[I", true)
  | 2 => ("TitheGrid$Points", "y", "[I", true)
  | 3 => ("TitheGrid$Points", "wealth", "[I", true)
  | _ => ("TitheGrid$Points", "lord", "[I", true)
def tyX3 : Nat → FieldType := fun k => match k with
  | 0 => .int
  | 1 => .array .int
  | 2 => .array .int
  | 3 => .array .int
  | _ => .array .int
abbrev wsX30 : List Cond := u_ws RX3 TX3 5
theorem nmX3 : ∀ a, a < 5 → ∀ b, b < 5 → a ≠ b → (TX3 a).2.1 ≠ (TX3 b).2.1 := by decide +kernel
theorem tyX3_ok : ∀ k, k < 5 → parseFieldDescriptor (TX3 k).2.2.1 = some (tyX3 k) := by decide +kernel
abbrev cX3_init : ByteArray := prog_5_method_1_code
def yX3_init : MethodName := ⟨RX3, "<init>", "()V"⟩
abbrev cX3_copyFrom : ByteArray := prog_5_method_2_code
def yX3_copyFrom : MethodName := ⟨RX3, "copyFrom", "(LTitheGrid$Points;)V"⟩
abbrev cX3_exists : ByteArray := prog_5_method_3_code
def yX3_exists : MethodName := ⟨RX3, "exists", "(I)Z"⟩
abbrev cX3_areFull : ByteArray := prog_5_method_4_code
def yX3_areFull : MethodName := ⟨RX3, "areFull", "()Z"⟩
abbrev cX3_numberAdded : ByteArray := prog_5_method_5_code
def yX3_numberAdded : MethodName := ⟨RX3, "numberAdded", "()I"⟩
abbrev cX3_xOf : ByteArray := prog_5_method_6_code
def yX3_xOf : MethodName := ⟨RX3, "xOf", "(I)I"⟩
abbrev cX3_yOf : ByteArray := prog_5_method_7_code
def yX3_yOf : MethodName := ⟨RX3, "yOf", "(I)I"⟩
abbrev cX3_wealthOf : ByteArray := prog_5_method_8_code
def yX3_wealthOf : MethodName := ⟨RX3, "wealthOf", "(I)I"⟩
abbrev cX3_lordOf : ByteArray := prog_5_method_9_code
def yX3_lordOf : MethodName := ⟨RX3, "lordOf", "(I)I"⟩
abbrev cX3_place : ByteArray := prog_5_method_10_code
def yX3_place : MethodName := ⟨RX3, "place", "(IIII)I"⟩
abbrev cX3_takeAway : ByteArray := prog_5_method_11_code
def yX3_takeAway : MethodName := ⟨RX3, "takeAway", "(I)V"⟩
abbrev cX3_shift : ByteArray := prog_5_method_12_code
def yX3_shift : MethodName := ⟨RX3, "shift", "(III)V"⟩
abbrev cX3_setLord : ByteArray := prog_5_method_13_code
def yX3_setLord : MethodName := ⟨RX3, "setLord", "(II)V"⟩
abbrev cX3_liesIn : ByteArray := prog_5_method_14_code
def yX3_liesIn : MethodName := ⟨RX3, "liesIn", "(IIIII)Z"⟩
abbrev cX3_number : ByteArray := prog_5_method_15_code
def yX3_number : MethodName := ⟨RX3, "number", "()I"⟩
abbrev cX3_numberIn : ByteArray := prog_5_method_16_code
def yX3_numberIn : MethodName := ⟨RX3, "numberIn", "(IIII)I"⟩
abbrev cX3_wealthIn : ByteArray := prog_5_method_17_code
def yX3_wealthIn : MethodName := ⟨RX3, "wealthIn", "(IIII)I"⟩
abbrev cX3_richestIn : ByteArray := prog_5_method_18_code
def yX3_richestIn : MethodName := ⟨RX3, "richestIn", "(IIII)I"⟩
abbrev cX3_nearestTo : ByteArray := prog_5_method_19_code
def yX3_nearestTo : MethodName := ⟨RX3, "nearestTo", "(II)I"⟩
abbrev cX3_numberUnder : ByteArray := prog_5_method_20_code
def yX3_numberUnder : MethodName := ⟨RX3, "numberUnder", "(I)I"⟩
abbrev cX3_wealthUnder : ByteArray := prog_5_method_21_code
def yX3_wealthUnder : MethodName := ⟨RX3, "wealthUnder", "(I)I"⟩
abbrev cX3_poorestUnder : ByteArray := prog_5_method_22_code
def yX3_poorestUnder : MethodName := ⟨RX3, "poorestUnder", "(IIIII)I"⟩
abbrev cX3_changeLord : ByteArray := prog_5_method_23_code
def yX3_changeLord : MethodName := ⟨RX3, "changeLord", "(IIIIII)V"⟩
abbrev cX3_cellsIfDivided : ByteArray := prog_5_method_24_code
def yX3_cellsIfDivided : MethodName := ⟨RX3, "cellsIfDivided", "(I)I"⟩
abbrev cX3_crowdedCells : ByteArray := prog_5_method_25_code
def yX3_crowdedCells : MethodName := ⟨RX3, "crowdedCells", "(II)I"⟩
def RX4 : String := "TitheGrid$State"
def TX4 : u_T := fun k => match k with
  | 0 => ("TitheGrid$State", "crowd", "I", false)
  | 1 => ("TitheGrid$State", "tithe", "I", false)
  | 2 => ("TitheGrid$State", "points", "LTitheGrid$Points;", true)
  | 3 => ("TitheGrid$State", "parishes", "LTitheGrid$Parishes;", true)
  | _ => ("TitheGrid$State", "debts", "LTitheGrid$Debts;", true)
def tyX4 : Nat → FieldType := fun k => match k with
  | 0 => .int
  | 1 => .int
  | 2 => .object "TitheGrid$Points"
  | 3 => .object "TitheGrid$Parishes"
  | _ => .object "TitheGrid$Debts"
abbrev wsX40 : List Cond := u_ws RX4 TX4 5
theorem nmX4 : ∀ a, a < 5 → ∀ b, b < 5 → a ≠ b → (TX4 a).2.1 ≠ (TX4 b).2.1 := by decide +kernel
theorem tyX4_ok : ∀ k, k < 5 → parseFieldDescriptor (TX4 k).2.2.1 = some (tyX4 k) := by decide +kernel
abbrev cX4_init : ByteArray := prog_6_method_1_code
def yX4_init : MethodName := ⟨RX4, "<init>", "()V"⟩
abbrev cX4_copyFrom : ByteArray := prog_6_method_2_code
def yX4_copyFrom : MethodName := ⟨RX4, "copyFrom", "(LTitheGrid$State;)V"⟩
abbrev cX4_addPoint : ByteArray := prog_6_method_3_code
def yX4_addPoint : MethodName := ⟨RX4, "addPoint", "(III)I"⟩
abbrev cX4_movePoint : ByteArray := prog_6_method_4_code
def yX4_movePoint : MethodName := ⟨RX4, "movePoint", "(III)Z"⟩
abbrev cX4_parishAround : ByteArray := prog_6_method_5_code
def yX4_parishAround : MethodName := ⟨RX4, "parishAround", "(I)I"⟩
abbrev cX4_pointsIn : ByteArray := prog_6_method_6_code
def yX4_pointsIn : MethodName := ⟨RX4, "pointsIn", "(I)I"⟩
abbrev cX4_pointsWithLordElsewhere : ByteArray := prog_6_method_7_code
def yX4_pointsWithLordElsewhere : MethodName := ⟨RX4, "pointsWithLordElsewhere", "()I"⟩
abbrev cX4_splitCrowded : ByteArray := prog_6_method_8_code
def yX4_splitCrowded : MethodName := ⟨RX4, "splitCrowded", "()V"⟩
abbrev cX4_firstToSplit : ByteArray := prog_6_method_9_code
def yX4_firstToSplit : MethodName := ⟨RX4, "firstToSplit", "()I"⟩
abbrev cX4_splitCell : ByteArray := prog_6_method_10_code
def yX4_splitCell : MethodName := ⟨RX4, "splitCell", "(I)V"⟩
abbrev cX4_fullestQuarter : ByteArray := prog_6_method_11_code
def yX4_fullestQuarter : MethodName := ⟨RX4, "fullestQuarter", "(III)I"⟩
abbrev cX4_foundIn : ByteArray := prog_6_method_12_code
def yX4_foundIn : MethodName := ⟨RX4, "foundIn", "(IIII)V"⟩
abbrev cX4_titheOf : ByteArray := prog_6_method_13_code
def yX4_titheOf : MethodName := ⟨RX4, "titheOf", "(I)I"⟩
abbrev cX4_payTithes : ByteArray := prog_6_method_14_code
def yX4_payTithes : MethodName := ⟨RX4, "payTithes", "(I)I"⟩
abbrev cX4_payablePoints : ByteArray := prog_6_method_15_code
def yX4_payablePoints : MethodName := ⟨RX4, "payablePoints", "(I)I"⟩
abbrev cX4_canJoin : ByteArray := prog_6_method_16_code
def yX4_canJoin : MethodName := ⟨RX4, "canJoin", "(I)Z"⟩
abbrev cX4_joinQuarters : ByteArray := prog_6_method_17_code
def yX4_joinQuarters : MethodName := ⟨RX4, "joinQuarters", "(I)I"⟩
abbrev cX4_absorb : ByteArray := prog_6_method_18_code
def yX4_absorb : MethodName := ⟨RX4, "absorb", "(II)V"⟩
abbrev cX4_parishOfQuarter : ByteArray := prog_6_method_19_code
def yX4_parishOfQuarter : MethodName := ⟨RX4, "parishOfQuarter", "(IIII)I"⟩
abbrev cX4_leftAround : ByteArray := prog_6_method_20_code
def yX4_leftAround : MethodName := ⟨RX4, "leftAround", "(I)I"⟩
abbrev cX4_topAround : ByteArray := prog_6_method_21_code
def yX4_topAround : MethodName := ⟨RX4, "topAround", "(I)I"⟩
def RX5 : String := "TitheGrid"
def TX5 : u_T := fun k => match k with
  | 0 => ("TitheGrid", "now", "LTitheGrid$State;", true)
  | _ => ("TitheGrid", "history", "LTitheGrid$History;", true)
def tyX5 : Nat → FieldType := fun k => match k with
  | 0 => .object "TitheGrid$State"
  | _ => .object "TitheGrid$History"
abbrev wsX50 : List Cond := u_ws RX5 TX5 2
theorem nmX5 : ∀ a, a < 2 → ∀ b, b < 2 → a ≠ b → (TX5 a).2.1 ≠ (TX5 b).2.1 := by decide +kernel
theorem tyX5_ok : ∀ k, k < 2 → parseFieldDescriptor (TX5 k).2.2.1 = some (tyX5 k) := by decide +kernel
abbrev cX5_init : ByteArray := prog_1_method_1_code
def yX5_init : MethodName := ⟨RX5, "<init>", "()V"⟩
abbrev cX5_add : ByteArray := prog_1_method_2_code
def yX5_add : MethodName := ⟨RX5, "add", "(III)I"⟩
abbrev cX5_remove : ByteArray := prog_1_method_3_code
def yX5_remove : MethodName := ⟨RX5, "remove", "(I)I"⟩
abbrev cX5_move : ByteArray := prog_1_method_4_code
def yX5_move : MethodName := ⟨RX5, "move", "(III)I"⟩
abbrev cX5_setCrowd : ByteArray := prog_1_method_5_code
def yX5_setCrowd : MethodName := ⟨RX5, "setCrowd", "(I)I"⟩
abbrev cX5_setTithe : ByteArray := prog_1_method_6_code
def yX5_setTithe : MethodName := ⟨RX5, "setTithe", "(I)I"⟩
abbrev cX5_pay : ByteArray := prog_1_method_7_code
def yX5_pay : MethodName := ⟨RX5, "pay", "(I)I"⟩
abbrev cX5_join : ByteArray := prog_1_method_8_code
def yX5_join : MethodName := ⟨RX5, "join", "(I)I"⟩
abbrev cX5_undo : ByteArray := prog_1_method_9_code
def yX5_undo : MethodName := ⟨RX5, "undo", "()I"⟩
abbrev cX5_count : ByteArray := prog_1_method_10_code
def yX5_count : MethodName := ⟨RX5, "count", "(I)I"⟩
abbrev cX5_point : ByteArray := prog_1_method_11_code
def yX5_point : MethodName := ⟨RX5, "point", "(II)I"⟩
abbrev cX5_parish : ByteArray := prog_1_method_12_code
def yX5_parish : MethodName := ⟨RX5, "parish", "(II)I"⟩
abbrev cX5_debt : ByteArray := prog_1_method_13_code
def yX5_debt : MethodName := ⟨RX5, "debt", "(II)I"⟩
abbrev cX5_at : ByteArray := prog_1_method_14_code
def yX5_at : MethodName := ⟨RX5, "at", "(II)I"⟩
abbrev cX5_range : ByteArray := prog_1_method_15_code
def yX5_range : MethodName := ⟨RX5, "range", "(IIIII)I"⟩
abbrev cX5_nearest : ByteArray := prog_1_method_16_code
def yX5_nearest : MethodName := ⟨RX5, "nearest", "(II)I"⟩
abbrev cX5_inOrder : ByteArray := prog_1_method_17_code
def yX5_inOrder : MethodName := ⟨RX5, "inOrder", "(I)I"⟩
abbrev cX5_payable : ByteArray := prog_1_method_18_code
def yX5_payable : MethodName := ⟨RX5, "payable", "(I)I"⟩
abbrev cX5_cellsWith : ByteArray := prog_1_method_19_code
def yX5_cellsWith : MethodName := ⟨RX5, "cellsWith", "(I)I"⟩
abbrev cX5_joinable : ByteArray := prog_1_method_20_code
def yX5_joinable : MethodName := ⟨RX5, "joinable", "()I"⟩
abbrev cX5_isBetween : ByteArray := prog_1_method_21_code
def yX5_isBetween : MethodName := ⟨RX5, "isBetween", "(III)Z"⟩
abbrev cX5_isOnMap : ByteArray := prog_1_method_22_code
def yX5_isOnMap : MethodName := ⟨RX5, "isOnMap", "(II)Z"⟩
abbrev cX5_sideOf : ByteArray := prog_1_method_23_code
def yX5_sideOf : MethodName := ⟨RX5, "sideOf", "(I)I"⟩
abbrev cX5_quarterLeft : ByteArray := prog_1_method_24_code
def yX5_quarterLeft : MethodName := ⟨RX5, "quarterLeft", "(III)I"⟩
abbrev cX5_quarterTop : ByteArray := prog_1_method_25_code
def yX5_quarterTop : MethodName := ⟨RX5, "quarterTop", "(III)I"⟩
def RX6 : String := "TitheGridModel"
def TX6 : u_T := fun k => match k with
  | 0 => ("TitheGridModel", "row", "[I", true)
  | 1 => ("TitheGridModel", "kept", "I", false)
  | _ => ("TitheGridModel", "four", "[I", true)
def tyX6 : Nat → FieldType := fun k => match k with
  | 0 => .array .int
  | 1 => .int
  | _ => .array .int
abbrev wsX60 : List Cond := u_ws RX6 TX6 3
theorem nmX6 : ∀ a, a < 3 → ∀ b, b < 3 → a ≠ b → (TX6 a).2.1 ≠ (TX6 b).2.1 := by decide +kernel
theorem tyX6_ok : ∀ k, k < 3 → parseFieldDescriptor (TX6 k).2.2.1 = some (tyX6 k) := by decide +kernel
abbrev cX6_init : ByteArray := prog_8_method_1_code
def yX6_init : MethodName := ⟨RX6, "<init>", "()V"⟩
abbrev cX6_in : ByteArray := prog_8_method_2_code
def yX6_in : MethodName := ⟨RX6, "in", "(III)Z"⟩
abbrev cX6_copies : ByteArray := prog_8_method_3_code
def yX6_copies : MethodName := ⟨RX6, "copies", "(II)V"⟩
abbrev cX6_records : ByteArray := prog_8_method_4_code
def yX6_records : MethodName := ⟨RX6, "records", "()V"⟩
abbrev cX6_ofPoint : ByteArray := prog_8_method_5_code
def yX6_ofPoint : MethodName := ⟨RX6, "ofPoint", "(II)I"⟩
abbrev cX6_isPoint : ByteArray := prog_8_method_6_code
def yX6_isPoint : MethodName := ⟨RX6, "isPoint", "(I)Z"⟩
abbrev cX6_ofParish : ByteArray := prog_8_method_7_code
def yX6_ofParish : MethodName := ⟨RX6, "ofParish", "(II)I"⟩
abbrev cX6_isParish : ByteArray := prog_8_method_8_code
def yX6_isParish : MethodName := ⟨RX6, "isParish", "(I)Z"⟩
abbrev cX6_isPlace : ByteArray := prog_8_method_9_code
def yX6_isPlace : MethodName := ⟨RX6, "isPlace", "(II)Z"⟩
abbrev cX6_sideOf : ByteArray := prog_8_method_10_code
def yX6_sideOf : MethodName := ⟨RX6, "sideOf", "(I)I"⟩
abbrev cX6_parishAt : ByteArray := prog_8_method_11_code
def yX6_parishAt : MethodName := ⟨RX6, "parishAt", "(II)I"⟩
abbrev cX6_parishOf : ByteArray := prog_8_method_12_code
def yX6_parishOf : MethodName := ⟨RX6, "parishOf", "(I)I"⟩
abbrev cX6_pointsIn : ByteArray := prog_8_method_13_code
def yX6_pointsIn : MethodName := ⟨RX6, "pointsIn", "(IIII)I"⟩
abbrev cX6_pointsInCell : ByteArray := prog_8_method_14_code
def yX6_pointsInCell : MethodName := ⟨RX6, "pointsInCell", "(III)I"⟩
abbrev cX6_debtOf : ByteArray := prog_8_method_15_code
def yX6_debtOf : MethodName := ⟨RX6, "debtOf", "(II)I"⟩
abbrev cX6_owes : ByteArray := prog_8_method_16_code
def yX6_owes : MethodName := ⟨RX6, "owes", "(III)V"⟩
abbrev cX6_owed : ByteArray := prog_8_method_17_code
def yX6_owed : MethodName := ⟨RX6, "owed", "(I)I"⟩
abbrev cX6_setParish : ByteArray := prog_8_method_18_code
def yX6_setParish : MethodName := ⟨RX6, "setParish", "(IIII)V"⟩
abbrev cX6_setLord : ByteArray := prog_8_method_19_code
def yX6_setLord : MethodName := ⟨RX6, "setLord", "(II)V"⟩
abbrev cX6_isCrowded : ByteArray := prog_8_method_20_code
def yX6_isCrowded : MethodName := ⟨RX6, "isCrowded", "(I)Z"⟩
abbrev cX6_toSplit : ByteArray := prog_8_method_21_code
def yX6_toSplit : MethodName := ⟨RX6, "toSplit", "()I"⟩
abbrev cX6_settles : ByteArray := prog_8_method_22_code
def yX6_settles : MethodName := ⟨RX6, "settles", "()V"⟩
abbrev cX6_splits : ByteArray := prog_8_method_23_code
def yX6_splits : MethodName := ⟨RX6, "splits", "(I)V"⟩
abbrev cX6_founds : ByteArray := prog_8_method_24_code
def yX6_founds : MethodName := ⟨RX6, "founds", "(IIII)V"⟩
abbrev cX6_add : ByteArray := prog_8_method_25_code
def yX6_add : MethodName := ⟨RX6, "add", "(III)I"⟩
abbrev cX6_allPoints : ByteArray := prog_8_method_26_code
def yX6_allPoints : MethodName := ⟨RX6, "allPoints", "()I"⟩
abbrev cX6_remove : ByteArray := prog_8_method_27_code
def yX6_remove : MethodName := ⟨RX6, "remove", "(I)I"⟩
abbrev cX6_move : ByteArray := prog_8_method_28_code
def yX6_move : MethodName := ⟨RX6, "move", "(III)I"⟩
abbrev cX6_setCrowd : ByteArray := prog_8_method_29_code
def yX6_setCrowd : MethodName := ⟨RX6, "setCrowd", "(I)I"⟩
abbrev cX6_setTithe : ByteArray := prog_8_method_30_code
def yX6_setTithe : MethodName := ⟨RX6, "setTithe", "(I)I"⟩
abbrev cX6_gift : ByteArray := prog_8_method_31_code
def yX6_gift : MethodName := ⟨RX6, "gift", "(I)I"⟩
abbrev cX6_pay : ByteArray := prog_8_method_32_code
def yX6_pay : MethodName := ⟨RX6, "pay", "(I)I"⟩
abbrev cX6_canJoin : ByteArray := prog_8_method_33_code
def yX6_canJoin : MethodName := ⟨RX6, "canJoin", "(I)Z"⟩
abbrev cX6_join : ByteArray := prog_8_method_34_code
def yX6_join : MethodName := ⟨RX6, "join", "(I)I"⟩
abbrev cX6_dissolves : ByteArray := prog_8_method_35_code
def yX6_dissolves : MethodName := ⟨RX6, "dissolves", "(II)V"⟩
abbrev cX6_undo : ByteArray := prog_8_method_36_code
def yX6_undo : MethodName := ⟨RX6, "undo", "()I"⟩
abbrev cX6_count : ByteArray := prog_8_method_37_code
def yX6_count : MethodName := ⟨RX6, "count", "(I)I"⟩
abbrev cX6_point : ByteArray := prog_8_method_38_code
def yX6_point : MethodName := ⟨RX6, "point", "(II)I"⟩
abbrev cX6_parish : ByteArray := prog_8_method_39_code
def yX6_parish : MethodName := ⟨RX6, "parish", "(II)I"⟩
abbrev cX6_debt : ByteArray := prog_8_method_40_code
def yX6_debt : MethodName := ⟨RX6, "debt", "(II)I"⟩
abbrev cX6_at : ByteArray := prog_8_method_41_code
def yX6_at : MethodName := ⟨RX6, "at", "(II)I"⟩
abbrev cX6_range : ByteArray := prog_8_method_42_code
def yX6_range : MethodName := ⟨RX6, "range", "(IIIII)I"⟩
abbrev cX6_far : ByteArray := prog_8_method_43_code
def yX6_far : MethodName := ⟨RX6, "far", "(II)I"⟩
abbrev cX6_nearest : ByteArray := prog_8_method_44_code
def yX6_nearest : MethodName := ⟨RX6, "nearest", "(II)I"⟩
abbrev cX6_inOrder : ByteArray := prog_8_method_45_code
def yX6_inOrder : MethodName := ⟨RX6, "inOrder", "(I)I"⟩
abbrev cX6_payable : ByteArray := prog_8_method_46_code
def yX6_payable : MethodName := ⟨RX6, "payable", "(I)I"⟩
abbrev cX6_cellsWith : ByteArray := prog_8_method_47_code
def yX6_cellsWith : MethodName := ⟨RX6, "cellsWith", "(I)I"⟩
abbrev cX6_joinable : ByteArray := prog_8_method_48_code
def yX6_joinable : MethodName := ⟨RX6, "joinable", "()I"⟩
def RJ9 : String := "java/lang/Math"
def TJ9 : u_T := fun k => match k with
  | _ => ("", "", "", false)
def tyJ9 : Nat → FieldType := fun k => match k with
  | _ => .int
abbrev cJ9_abs_0f7a4 : ByteArray := prog_9_method_59_code
def yJ9_abs_0f7a4 : MethodName := ⟨RJ9, "abs", "(I)I"⟩
abbrev cJ9_max_7cf53 : ByteArray := prog_9_method_65_code
def yJ9_max_7cf53 : MethodName := ⟨RJ9, "max", "(II)I"⟩
abbrev cJ9_min_7cf53 : ByteArray := prog_9_method_69_code
def yJ9_min_7cf53 : MethodName := ⟨RJ9, "min", "(II)I"⟩
def RJ10 : String := "java/lang/System"
def TJ10 : u_T := fun k => match k with
  | _ => ("", "", "", false)
def tyJ10 : Nat → FieldType := fun k => match k with
  | _ => .int
def RL : String := "TitheGridLaw"
abbrev cL_law : ByteArray := code
def yL_law : MethodName := ⟨RL, "law", "([I)Z"⟩
abbrev vwCl : List vw_C := [(RX0, TX0, 1), (RX1, TX1, 2), (RX2, TX2, 4), (RX3, TX3, 5), (RX4, TX4, 5), (RX5, TX5, 2), (RX6, TX6, 3)]
/-! the words of the tables that hold on, by their places -/
def zT : List Cond := lw_tbl.filter goodWord
theorem zT_in {w : Cond} (h : w ∈ lw_tbl) (g : goodWord w = true) : w ∈ zT := List.mem_filter.mpr ⟨h, g⟩
theorem zT_sub {w : Cond} (h : w ∈ zT) : w ∈ lw_tbl := (List.mem_filter.mp h).1
theorem zT_good {w : Cond} (h : w ∈ zT) : goodWord w = true := (List.mem_filter.mp h).2
theorem zT_t {w : Cond} (h : w ∈ tables_1) (g : goodWord w = true) : w ∈ zT := zT_in (List.mem_append_right _ h) g
theorem zT_1 {w : Cond} (i : Nat) (h : tables_1_1[i]? = some w) (g : goodWord w = true) : w ∈ zT := zT_t (List.mem_append_left _ (List.mem_of_getElem? h)) g
theorem zT_2 {w : Cond} (i : Nat) (h : tables_1_2[i]? = some w) (g : goodWord w = true) : w ∈ zT := zT_t (List.mem_append_right _ (List.mem_append_left _ (List.mem_of_getElem? h))) g
theorem zT_3 {w : Cond} (i : Nat) (h : tables_1_3[i]? = some w) (g : goodWord w = true) : w ∈ zT := zT_t (List.mem_append_right _ (List.mem_append_right _ (List.mem_append_left _ (List.mem_of_getElem? h)))) g
theorem zT_4 {w : Cond} (i : Nat) (h : tables_1_4[i]? = some w) (g : goodWord w = true) : w ∈ zT := zT_t (List.mem_append_right _ (List.mem_append_right _ (List.mem_append_right _ (List.mem_of_getElem? h)))) g
theorem zT_s {w : Cond} (i : Nat) (h : (k2_sels lw_privs)[i]? = some w) (g : goodWord w = true) : w ∈ zT := zT_in (List.mem_append_left _ (List.mem_of_getElem? h)) g
theorem q1_1 : (Jvm.Cond.initialized "TitheGrid") ∈ zT := zT_1 1 rfl rfl
theorem q1_2 : (Jvm.Cond.initialized "TitheGrid$State") ∈ zT := zT_1 2 rfl rfl
theorem q1_3 : (Jvm.Cond.initialized "TitheGrid$Points") ∈ zT := zT_1 3 rfl rfl
theorem q1_4 : (Jvm.Cond.initialized "TitheGrid$Parishes") ∈ zT := zT_1 4 rfl rfl
theorem q1_5 : (Jvm.Cond.initialized "TitheGrid$Debts") ∈ zT := zT_1 5 rfl rfl
theorem q1_6 : (Jvm.Cond.initialized "TitheGrid$History") ∈ zT := zT_1 6 rfl rfl
theorem q1_7 : (Jvm.Cond.initialized "TitheGridModel") ∈ zT := zT_1 7 rfl rfl
theorem q1_8 : (Jvm.Cond.initialized "java/lang/System") ∈ zT := zT_1 8 rfl rfl
theorem q1_9 : (Jvm.Cond.initialized "java/lang/Math") ∈ zT := zT_1 9 rfl rfl
theorem q1_10 : (Jvm.Cond.classLink "TitheGridLaw" (7 : Nat) "TitheGrid") ∈ zT := zT_1 10 rfl rfl
theorem q1_11 : (Jvm.Cond.instantiable "TitheGrid" (2 : Nat)) ∈ zT := zT_1 11 rfl rfl
theorem q1_12 : (Jvm.Cond.methodLink "TitheGridLaw" (9 : Nat) ({ cls := "TitheGrid", name := "<init>", desc := "()V" } : Jvm.MethodName)) ∈ zT := zT_1 12 rfl rfl
theorem q1_13 : (Jvm.Cond.instanceMethod ({ cls := "TitheGrid", name := "<init>", desc := "()V" } : Jvm.MethodName)) ∈ zT := zT_1 13 rfl rfl
theorem q1_14 : (Jvm.Cond.code ({ cls := "TitheGrid", name := "<init>", desc := "()V" } : Jvm.MethodName) prog_1_method_1_code (1 : Nat) (Option.none : Option Jvm.ClassFile.FieldType)) ∈ zT := zT_1 14 rfl rfl
theorem q1_15 : (Jvm.Cond.methodLink "TitheGrid" (1 : Nat) ({ cls := "java/lang/Object", name := "<init>", desc := "()V" } : Jvm.MethodName)) ∈ zT := zT_1 15 rfl rfl
theorem q1_16 : (Jvm.Cond.instanceMethod ({ cls := "java/lang/Object", name := "<init>", desc := "()V" } : Jvm.MethodName)) ∈ zT := zT_1 16 rfl rfl
theorem q1_17 : (Jvm.Cond.code ({ cls := "java/lang/Object", name := "<init>", desc := "()V" } : Jvm.MethodName) object_method_1_code (1 : Nat) (Option.none : Option Jvm.ClassFile.FieldType)) ∈ zT := zT_1 17 rfl rfl
theorem q1_18 : (Jvm.Cond.classLink "TitheGrid" (7 : Nat) "TitheGrid$State") ∈ zT := zT_1 18 rfl rfl
theorem q1_19 : (Jvm.Cond.instantiable "TitheGrid$State" (5 : Nat)) ∈ zT := zT_1 19 rfl rfl
theorem q1_21 : (Jvm.Cond.instanceMethod ({ cls := "TitheGrid$State", name := "<init>", desc := "()V" } : Jvm.MethodName)) ∈ zT := zT_1 21 rfl rfl
theorem q1_22 : (Jvm.Cond.code ({ cls := "TitheGrid$State", name := "<init>", desc := "()V" } : Jvm.MethodName) prog_6_method_1_code (1 : Nat) (Option.none : Option Jvm.ClassFile.FieldType)) ∈ zT := zT_1 22 rfl rfl
theorem q1_23 : (Jvm.Cond.methodLink "TitheGrid$State" (3 : Nat) ({ cls := "java/lang/Object", name := "<init>", desc := "()V" } : Jvm.MethodName)) ∈ zT := zT_1 23 rfl rfl
theorem q1_24 : (Jvm.Cond.classLink "TitheGrid$State" (18 : Nat) "TitheGrid$Points") ∈ zT := zT_1 24 rfl rfl
theorem q1_25 : (Jvm.Cond.instantiable "TitheGrid$Points" (5 : Nat)) ∈ zT := zT_1 25 rfl rfl
theorem q1_27 : (Jvm.Cond.instanceMethod ({ cls := "TitheGrid$Points", name := "<init>", desc := "()V" } : Jvm.MethodName)) ∈ zT := zT_1 27 rfl rfl
theorem q1_28 : (Jvm.Cond.code ({ cls := "TitheGrid$Points", name := "<init>", desc := "()V" } : Jvm.MethodName) prog_5_method_1_code (1 : Nat) (Option.none : Option Jvm.ClassFile.FieldType)) ∈ zT := zT_1 28 rfl rfl
theorem q1_29 : (Jvm.Cond.methodLink "TitheGrid$Points" (3 : Nat) ({ cls := "java/lang/Object", name := "<init>", desc := "()V" } : Jvm.MethodName)) ∈ zT := zT_1 29 rfl rfl
theorem q1_30 : (Jvm.Cond.fieldLink "TitheGrid$Points" (24 : Nat) "TitheGrid$Points" "added" "I") ∈ zT := zT_1 30 rfl rfl
theorem q1_31 : (Jvm.Cond.fieldLink "TitheGrid$Points" (9 : Nat) "TitheGrid$Points" "x" "[I") ∈ zT := zT_1 31 rfl rfl
theorem q1_32 : (Jvm.Cond.fieldLink "TitheGrid$Points" (15 : Nat) "TitheGrid$Points" "y" "[I") ∈ zT := zT_1 32 rfl rfl
theorem q1_33 : (Jvm.Cond.fieldLink "TitheGrid$Points" (18 : Nat) "TitheGrid$Points" "wealth" "[I") ∈ zT := zT_1 33 rfl rfl
theorem q1_34 : (Jvm.Cond.fieldLink "TitheGrid$Points" (21 : Nat) "TitheGrid$Points" "lord" "[I") ∈ zT := zT_1 34 rfl rfl
theorem q1_35 : (Jvm.Cond.lays "TitheGrid$Points" "TitheGrid$Points" "added" "I") ∈ zT := zT_1 35 rfl rfl
theorem q1_37 : (Jvm.Cond.laysFinal "TitheGrid$Points" "TitheGrid$Points" "x" "[I") ∈ zT := zT_1 37 rfl rfl
theorem q1_39 : (Jvm.Cond.laysFinal "TitheGrid$Points" "TitheGrid$Points" "y" "[I") ∈ zT := zT_1 39 rfl rfl
theorem q1_41 : (Jvm.Cond.laysFinal "TitheGrid$Points" "TitheGrid$Points" "wealth" "[I") ∈ zT := zT_1 41 rfl rfl
theorem q1_43 : (Jvm.Cond.laysFinal "TitheGrid$Points" "TitheGrid$Points" "lord" "[I") ∈ zT := zT_1 43 rfl rfl
theorem q1_46 : (Jvm.Cond.arrayClass Jvm.ClassFile.FieldType.int) ∈ zT := zT_1 46 rfl rfl
theorem q1_47 : (Jvm.Cond.classLink "TitheGrid$State" (25 : Nat) "TitheGrid$Parishes") ∈ zT := zT_1 47 rfl rfl
theorem q1_48 : (Jvm.Cond.instantiable "TitheGrid$Parishes" (4 : Nat)) ∈ zT := zT_1 48 rfl rfl
theorem q1_49 : (Jvm.Cond.methodLink "TitheGrid$State" (27 : Nat) ({ cls := "TitheGrid$Parishes", name := "<init>", desc := "()V" } : Jvm.MethodName)) ∈ zT := zT_1 49 rfl rfl
theorem q1_50 : (Jvm.Cond.instanceMethod ({ cls := "TitheGrid$Parishes", name := "<init>", desc := "()V" } : Jvm.MethodName)) ∈ zT := zT_1 50 rfl rfl
theorem q1_51 : (Jvm.Cond.code ({ cls := "TitheGrid$Parishes", name := "<init>", desc := "()V" } : Jvm.MethodName) prog_4_method_1_code (2 : Nat) (Option.none : Option Jvm.ClassFile.FieldType)) ∈ zT := zT_1 51 rfl rfl
theorem q1_52 : (Jvm.Cond.methodLink "TitheGrid$Parishes" (3 : Nat) ({ cls := "java/lang/Object", name := "<init>", desc := "()V" } : Jvm.MethodName)) ∈ zT := zT_1 52 rfl rfl
theorem q1_53 : (Jvm.Cond.methodLink "TitheGrid$Parishes" (21 : Nat) ({ cls := "TitheGrid$Parishes", name := "found", desc := "(III)I" } : Jvm.MethodName)) ∈ zT := zT_1 53 rfl rfl
theorem q1_54 : (Jvm.Cond.instanceMethod ({ cls := "TitheGrid$Parishes", name := "found", desc := "(III)I" } : Jvm.MethodName)) ∈ zT := zT_1 54 rfl rfl
theorem q1_55 : (Jvm.Cond.selects "TitheGrid$Parishes" ({ cls := "TitheGrid$Parishes", name := "found", desc := "(III)I" } : Jvm.MethodName) ({ cls := "TitheGrid$Parishes", name := "found", desc := "(III)I" } : Jvm.MethodName)) ∈ zT := zT_1 55 rfl rfl
theorem q1_56 : (Jvm.Cond.code ({ cls := "TitheGrid$Parishes", name := "found", desc := "(III)I" } : Jvm.MethodName) prog_4_method_11_code (5 : Nat) (Option.some Jvm.ClassFile.FieldType.int)) ∈ zT := zT_1 56 rfl rfl
theorem q1_58 : (Jvm.Cond.static ({ cls := "TitheGrid", name := "isBetween", desc := "(III)Z" } : Jvm.MethodName)) ∈ zT := zT_1 58 rfl rfl
theorem q1_59 : (Jvm.Cond.code ({ cls := "TitheGrid", name := "isBetween", desc := "(III)Z" } : Jvm.MethodName) prog_1_method_21_code (3 : Nat) (Option.some Jvm.ClassFile.FieldType.boolean)) ∈ zT := zT_1 59 rfl rfl
theorem q1_60 : (Jvm.Cond.methodLink "TitheGrid$Parishes" (60 : Nat) ({ cls := "TitheGrid$Parishes", name := "giveCell", desc := "(IIII)V" } : Jvm.MethodName)) ∈ zT := zT_1 60 rfl rfl
theorem q1_61 : (Jvm.Cond.instanceMethod ({ cls := "TitheGrid$Parishes", name := "giveCell", desc := "(IIII)V" } : Jvm.MethodName)) ∈ zT := zT_1 61 rfl rfl
theorem q1_62 : (Jvm.Cond.selects "TitheGrid$Parishes" ({ cls := "TitheGrid$Parishes", name := "giveCell", desc := "(IIII)V" } : Jvm.MethodName) ({ cls := "TitheGrid$Parishes", name := "giveCell", desc := "(IIII)V" } : Jvm.MethodName)) ∈ zT := zT_1 62 rfl rfl
theorem q1_63 : (Jvm.Cond.code ({ cls := "TitheGrid$Parishes", name := "giveCell", desc := "(IIII)V" } : Jvm.MethodName) prog_4_method_12_code (5 : Nat) (Option.none : Option Jvm.ClassFile.FieldType)) ∈ zT := zT_1 63 rfl rfl
theorem q1_64 : (Jvm.Cond.fieldLink "TitheGrid$Parishes" (25 : Nat) "TitheGrid$Parishes" "founded" "I") ∈ zT := zT_1 64 rfl rfl
theorem q1_65 : (Jvm.Cond.fieldLink "TitheGrid$Parishes" (9 : Nat) "TitheGrid$Parishes" "left" "[I") ∈ zT := zT_1 65 rfl rfl
theorem q1_66 : (Jvm.Cond.fieldLink "TitheGrid$Parishes" (15 : Nat) "TitheGrid$Parishes" "top" "[I") ∈ zT := zT_1 66 rfl rfl
theorem q1_67 : (Jvm.Cond.fieldLink "TitheGrid$Parishes" (18 : Nat) "TitheGrid$Parishes" "scale" "[I") ∈ zT := zT_1 67 rfl rfl
theorem q1_68 : (Jvm.Cond.lays "TitheGrid$Parishes" "TitheGrid$Parishes" "founded" "I") ∈ zT := zT_1 68 rfl rfl
theorem q1_70 : (Jvm.Cond.laysFinal "TitheGrid$Parishes" "TitheGrid$Parishes" "left" "[I") ∈ zT := zT_1 70 rfl rfl
theorem q1_72 : (Jvm.Cond.laysFinal "TitheGrid$Parishes" "TitheGrid$Parishes" "top" "[I") ∈ zT := zT_1 72 rfl rfl
theorem q1_74 : (Jvm.Cond.laysFinal "TitheGrid$Parishes" "TitheGrid$Parishes" "scale" "[I") ∈ zT := zT_1 74 rfl rfl
theorem q1_77 : (Jvm.Cond.classLink "TitheGrid$State" (32 : Nat) "TitheGrid$Debts") ∈ zT := zT_1 77 rfl rfl
theorem q1_78 : (Jvm.Cond.instantiable "TitheGrid$Debts" (1 : Nat)) ∈ zT := zT_1 78 rfl rfl
theorem q1_80 : (Jvm.Cond.instanceMethod ({ cls := "TitheGrid$Debts", name := "<init>", desc := "()V" } : Jvm.MethodName)) ∈ zT := zT_1 80 rfl rfl
theorem q1_81 : (Jvm.Cond.code ({ cls := "TitheGrid$Debts", name := "<init>", desc := "()V" } : Jvm.MethodName) prog_2_method_1_code (1 : Nat) (Option.none : Option Jvm.ClassFile.FieldType)) ∈ zT := zT_1 81 rfl rfl
theorem q1_82 : (Jvm.Cond.methodLink "TitheGrid$Debts" (3 : Nat) ({ cls := "java/lang/Object", name := "<init>", desc := "()V" } : Jvm.MethodName)) ∈ zT := zT_1 82 rfl rfl
theorem q1_83 : (Jvm.Cond.fieldLink "TitheGrid$Debts" (9 : Nat) "TitheGrid$Debts" "amounts" "[I") ∈ zT := zT_1 83 rfl rfl
theorem q1_84 : (Jvm.Cond.laysFinal "TitheGrid$Debts" "TitheGrid$Debts" "amounts" "[I") ∈ zT := zT_1 84 rfl rfl
theorem q1_87 : (Jvm.Cond.fieldLink "TitheGrid$State" (9 : Nat) "TitheGrid$State" "crowd" "I") ∈ zT := zT_1 87 rfl rfl
theorem q1_89 : (Jvm.Cond.fieldLink "TitheGrid$State" (15 : Nat) "TitheGrid$State" "tithe" "I") ∈ zT := zT_1 89 rfl rfl
theorem q1_91 : (Jvm.Cond.fieldLink "TitheGrid$State" (21 : Nat) "TitheGrid$State" "points" "LTitheGrid$Points;") ∈ zT := zT_1 91 rfl rfl
theorem q1_93 : (Jvm.Cond.fieldLink "TitheGrid$State" (28 : Nat) "TitheGrid$State" "parishes" "LTitheGrid$Parishes;") ∈ zT := zT_1 93 rfl rfl
theorem q1_95 : (Jvm.Cond.fieldLink "TitheGrid$State" (35 : Nat) "TitheGrid$State" "debts" "LTitheGrid$Debts;") ∈ zT := zT_1 95 rfl rfl
theorem q1_97 : (Jvm.Cond.lays "TitheGrid$State" "TitheGrid$State" "crowd" "I") ∈ zT := zT_1 97 rfl rfl
theorem q1_99 : (Jvm.Cond.lays "TitheGrid$State" "TitheGrid$State" "tithe" "I") ∈ zT := zT_1 99 rfl rfl
theorem q1_101 : (Jvm.Cond.laysFinal "TitheGrid$State" "TitheGrid$State" "points" "LTitheGrid$Points;") ∈ zT := zT_1 101 rfl rfl
theorem q1_103 : (Jvm.Cond.laysFinal "TitheGrid$State" "TitheGrid$State" "parishes" "LTitheGrid$Parishes;") ∈ zT := zT_1 103 rfl rfl
theorem q1_105 : (Jvm.Cond.laysFinal "TitheGrid$State" "TitheGrid$State" "debts" "LTitheGrid$Debts;") ∈ zT := zT_1 105 rfl rfl
theorem q1_108 : (Jvm.Cond.classLink "TitheGrid" (16 : Nat) "TitheGrid$History") ∈ zT := zT_1 108 rfl rfl
theorem q1_109 : (Jvm.Cond.instantiable "TitheGrid$History" (2 : Nat)) ∈ zT := zT_1 109 rfl rfl
theorem q1_110 : (Jvm.Cond.methodLink "TitheGrid" (18 : Nat) ({ cls := "TitheGrid$History", name := "<init>", desc := "()V" } : Jvm.MethodName)) ∈ zT := zT_1 110 rfl rfl
theorem q1_111 : (Jvm.Cond.instanceMethod ({ cls := "TitheGrid$History", name := "<init>", desc := "()V" } : Jvm.MethodName)) ∈ zT := zT_1 111 rfl rfl
theorem q1_112 : (Jvm.Cond.code ({ cls := "TitheGrid$History", name := "<init>", desc := "()V" } : Jvm.MethodName) prog_3_method_1_code (2 : Nat) (Option.none : Option Jvm.ClassFile.FieldType)) ∈ zT := zT_1 112 rfl rfl
theorem q1_113 : (Jvm.Cond.methodLink "TitheGrid$History" (3 : Nat) ({ cls := "java/lang/Object", name := "<init>", desc := "()V" } : Jvm.MethodName)) ∈ zT := zT_1 113 rfl rfl
theorem q1_114 : (Jvm.Cond.classLink "TitheGrid$History" (9 : Nat) "TitheGrid$State") ∈ zT := zT_1 114 rfl rfl
theorem q1_117 : (Jvm.Cond.fieldLink "TitheGrid$History" (18 : Nat) "TitheGrid$History" "number" "I") ∈ zT := zT_1 117 rfl rfl
theorem q1_118 : (Jvm.Cond.fieldLink "TitheGrid$History" (11 : Nat) "TitheGrid$History" "states" "[LTitheGrid$State;") ∈ zT := zT_1 118 rfl rfl
theorem q1_119 : (Jvm.Cond.lays "TitheGrid$History" "TitheGrid$History" "number" "I") ∈ zT := zT_1 119 rfl rfl
theorem q1_121 : (Jvm.Cond.laysFinal "TitheGrid$History" "TitheGrid$History" "states" "[LTitheGrid$State;") ∈ zT := zT_1 121 rfl rfl
theorem q1_124 : (Jvm.Cond.fieldLink "TitheGrid" (10 : Nat) "TitheGrid" "now" "LTitheGrid$State;") ∈ zT := zT_1 124 rfl rfl
theorem q1_125 : (Jvm.Cond.fieldLink "TitheGrid" (19 : Nat) "TitheGrid" "history" "LTitheGrid$History;") ∈ zT := zT_1 125 rfl rfl
theorem q1_126 : (Jvm.Cond.laysFinal "TitheGrid" "TitheGrid" "now" "LTitheGrid$State;") ∈ zT := zT_1 126 rfl rfl
theorem q1_128 : (Jvm.Cond.laysFinal "TitheGrid" "TitheGrid" "history" "LTitheGrid$History;") ∈ zT := zT_1 128 rfl rfl
theorem q1_131 : (Jvm.Cond.methodLink "TitheGridLaw" (13 : Nat) ({ cls := "TitheGrid", name := "add", desc := "(III)I" } : Jvm.MethodName)) ∈ zT := zT_1 131 rfl rfl
theorem q1_132 : (Jvm.Cond.instanceMethod ({ cls := "TitheGrid", name := "add", desc := "(III)I" } : Jvm.MethodName)) ∈ zT := zT_1 132 rfl rfl
theorem q1_133 : (Jvm.Cond.selects "TitheGrid" ({ cls := "TitheGrid", name := "add", desc := "(III)I" } : Jvm.MethodName) ({ cls := "TitheGrid", name := "add", desc := "(III)I" } : Jvm.MethodName)) ∈ zT := zT_1 133 rfl rfl
theorem q1_134 : (Jvm.Cond.code ({ cls := "TitheGrid", name := "add", desc := "(III)I" } : Jvm.MethodName) prog_1_method_2_code (5 : Nat) (Option.some Jvm.ClassFile.FieldType.int)) ∈ zT := zT_1 134 rfl rfl
theorem q1_135 : (Jvm.Cond.methodLink "TitheGrid" (23 : Nat) ({ cls := "TitheGrid", name := "isOnMap", desc := "(II)Z" } : Jvm.MethodName)) ∈ zT := zT_1 135 rfl rfl
theorem q1_136 : (Jvm.Cond.static ({ cls := "TitheGrid", name := "isOnMap", desc := "(II)Z" } : Jvm.MethodName)) ∈ zT := zT_1 136 rfl rfl
theorem q1_137 : (Jvm.Cond.code ({ cls := "TitheGrid", name := "isOnMap", desc := "(II)Z" } : Jvm.MethodName) prog_1_method_22_code (2 : Nat) (Option.some Jvm.ClassFile.FieldType.boolean)) ∈ zT := zT_1 137 rfl rfl
theorem q1_138 : (Jvm.Cond.methodLink "TitheGrid" (27 : Nat) ({ cls := "TitheGrid", name := "isBetween", desc := "(III)Z" } : Jvm.MethodName)) ∈ zT := zT_1 138 rfl rfl
theorem q1_139 : (Jvm.Cond.methodLink "TitheGrid" (35 : Nat) ({ cls := "TitheGrid$Points", name := "areFull", desc := "()Z" } : Jvm.MethodName)) ∈ zT := zT_1 139 rfl rfl
theorem q1_140 : (Jvm.Cond.instanceMethod ({ cls := "TitheGrid$Points", name := "areFull", desc := "()Z" } : Jvm.MethodName)) ∈ zT := zT_1 140 rfl rfl
theorem q1_141 : (Jvm.Cond.selects "TitheGrid$Points" ({ cls := "TitheGrid$Points", name := "areFull", desc := "()Z" } : Jvm.MethodName) ({ cls := "TitheGrid$Points", name := "areFull", desc := "()Z" } : Jvm.MethodName)) ∈ zT := zT_1 141 rfl rfl
theorem q1_142 : (Jvm.Cond.code ({ cls := "TitheGrid$Points", name := "areFull", desc := "()Z" } : Jvm.MethodName) prog_5_method_4_code (1 : Nat) (Option.some Jvm.ClassFile.FieldType.boolean)) ∈ zT := zT_1 142 rfl rfl
theorem q1_143 : (Jvm.Cond.methodLink "TitheGrid" (41 : Nat) ({ cls := "TitheGrid$History", name := "keep", desc := "(LTitheGrid$State;)V" } : Jvm.MethodName)) ∈ zT := zT_1 143 rfl rfl
theorem q1_144 : (Jvm.Cond.instanceMethod ({ cls := "TitheGrid$History", name := "keep", desc := "(LTitheGrid$State;)V" } : Jvm.MethodName)) ∈ zT := zT_1 144 rfl rfl
theorem q1_145 : (Jvm.Cond.selects "TitheGrid$History" ({ cls := "TitheGrid$History", name := "keep", desc := "(LTitheGrid$State;)V" } : Jvm.MethodName) ({ cls := "TitheGrid$History", name := "keep", desc := "(LTitheGrid$State;)V" } : Jvm.MethodName)) ∈ zT := zT_1 145 rfl rfl
theorem q1_146 : (Jvm.Cond.code ({ cls := "TitheGrid$History", name := "keep", desc := "(LTitheGrid$State;)V" } : Jvm.MethodName) prog_3_method_4_code (4 : Nat) (Option.none : Option Jvm.ClassFile.FieldType)) ∈ zT := zT_1 146 rfl rfl
theorem q1_147 : (Jvm.Cond.methodLink "TitheGrid$History" (22 : Nat) ({ cls := "TitheGrid$State", name := "copyFrom", desc := "(LTitheGrid$State;)V" } : Jvm.MethodName)) ∈ zT := zT_1 147 rfl rfl
theorem q1_148 : (Jvm.Cond.instanceMethod ({ cls := "TitheGrid$State", name := "copyFrom", desc := "(LTitheGrid$State;)V" } : Jvm.MethodName)) ∈ zT := zT_1 148 rfl rfl
theorem q1_149 : (Jvm.Cond.selects "TitheGrid$State" ({ cls := "TitheGrid$State", name := "copyFrom", desc := "(LTitheGrid$State;)V" } : Jvm.MethodName) ({ cls := "TitheGrid$State", name := "copyFrom", desc := "(LTitheGrid$State;)V" } : Jvm.MethodName)) ∈ zT := zT_1 149 rfl rfl
theorem q1_150 : (Jvm.Cond.code ({ cls := "TitheGrid$State", name := "copyFrom", desc := "(LTitheGrid$State;)V" } : Jvm.MethodName) prog_6_method_2_code (2 : Nat) (Option.none : Option Jvm.ClassFile.FieldType)) ∈ zT := zT_1 150 rfl rfl
theorem q1_151 : (Jvm.Cond.methodLink "TitheGrid$State" (39 : Nat) ({ cls := "TitheGrid$Points", name := "copyFrom", desc := "(LTitheGrid$Points;)V" } : Jvm.MethodName)) ∈ zT := zT_1 151 rfl rfl
theorem q1_152 : (Jvm.Cond.instanceMethod ({ cls := "TitheGrid$Points", name := "copyFrom", desc := "(LTitheGrid$Points;)V" } : Jvm.MethodName)) ∈ zT := zT_1 152 rfl rfl
theorem q1_153 : (Jvm.Cond.selects "TitheGrid$Points" ({ cls := "TitheGrid$Points", name := "copyFrom", desc := "(LTitheGrid$Points;)V" } : Jvm.MethodName) ({ cls := "TitheGrid$Points", name := "copyFrom", desc := "(LTitheGrid$Points;)V" } : Jvm.MethodName)) ∈ zT := zT_1 153 rfl rfl
theorem q1_154 : (Jvm.Cond.code ({ cls := "TitheGrid$Points", name := "copyFrom", desc := "(LTitheGrid$Points;)V" } : Jvm.MethodName) prog_5_method_2_code (2 : Nat) (Option.none : Option Jvm.ClassFile.FieldType)) ∈ zT := zT_1 154 rfl rfl
theorem q1_155 : (Jvm.Cond.methodLink "TitheGrid$Points" (28 : Nat) ({ cls := "java/lang/System", name := "arraycopy", desc := "(Ljava/lang/Object;ILjava/lang/Object;II)V" } : Jvm.MethodName)) ∈ zT := zT_1 155 rfl rfl
theorem q1_156 : (Jvm.Cond.static ({ cls := "java/lang/System", name := "arraycopy", desc := "(Ljava/lang/Object;ILjava/lang/Object;II)V" } : Jvm.MethodName)) ∈ zT := zT_1 156 rfl rfl
theorem q1_157 : (Jvm.Cond.native ({ cls := "java/lang/System", name := "arraycopy", desc := "(Ljava/lang/Object;ILjava/lang/Object;II)V" } : Jvm.MethodName)) ∈ zT := zT_1 157 rfl rfl
theorem q1_158 : (Jvm.Cond.methodLink "TitheGrid$State" (43 : Nat) ({ cls := "TitheGrid$Parishes", name := "copyFrom", desc := "(LTitheGrid$Parishes;)V" } : Jvm.MethodName)) ∈ zT := zT_1 158 rfl rfl
theorem q1_159 : (Jvm.Cond.instanceMethod ({ cls := "TitheGrid$Parishes", name := "copyFrom", desc := "(LTitheGrid$Parishes;)V" } : Jvm.MethodName)) ∈ zT := zT_1 159 rfl rfl
theorem q1_160 : (Jvm.Cond.selects "TitheGrid$Parishes" ({ cls := "TitheGrid$Parishes", name := "copyFrom", desc := "(LTitheGrid$Parishes;)V" } : Jvm.MethodName) ({ cls := "TitheGrid$Parishes", name := "copyFrom", desc := "(LTitheGrid$Parishes;)V" } : Jvm.MethodName)) ∈ zT := zT_1 160 rfl rfl
theorem q1_161 : (Jvm.Cond.code ({ cls := "TitheGrid$Parishes", name := "copyFrom", desc := "(LTitheGrid$Parishes;)V" } : Jvm.MethodName) prog_4_method_2_code (2 : Nat) (Option.none : Option Jvm.ClassFile.FieldType)) ∈ zT := zT_1 161 rfl rfl
theorem q1_162 : (Jvm.Cond.methodLink "TitheGrid$Parishes" (29 : Nat) ({ cls := "java/lang/System", name := "arraycopy", desc := "(Ljava/lang/Object;ILjava/lang/Object;II)V" } : Jvm.MethodName)) ∈ zT := zT_1 162 rfl rfl
theorem q1_163 : (Jvm.Cond.methodLink "TitheGrid$State" (46 : Nat) ({ cls := "TitheGrid$Debts", name := "copyFrom", desc := "(LTitheGrid$Debts;)V" } : Jvm.MethodName)) ∈ zT := zT_1 163 rfl rfl
theorem q1_164 : (Jvm.Cond.instanceMethod ({ cls := "TitheGrid$Debts", name := "copyFrom", desc := "(LTitheGrid$Debts;)V" } : Jvm.MethodName)) ∈ zT := zT_1 164 rfl rfl
theorem q1_165 : (Jvm.Cond.selects "TitheGrid$Debts" ({ cls := "TitheGrid$Debts", name := "copyFrom", desc := "(LTitheGrid$Debts;)V" } : Jvm.MethodName) ({ cls := "TitheGrid$Debts", name := "copyFrom", desc := "(LTitheGrid$Debts;)V" } : Jvm.MethodName)) ∈ zT := zT_1 165 rfl rfl
theorem q1_166 : (Jvm.Cond.code ({ cls := "TitheGrid$Debts", name := "copyFrom", desc := "(LTitheGrid$Debts;)V" } : Jvm.MethodName) prog_2_method_2_code (2 : Nat) (Option.none : Option Jvm.ClassFile.FieldType)) ∈ zT := zT_1 166 rfl rfl
theorem q1_167 : (Jvm.Cond.methodLink "TitheGrid$Debts" (15 : Nat) ({ cls := "java/lang/System", name := "arraycopy", desc := "(Ljava/lang/Object;ILjava/lang/Object;II)V" } : Jvm.MethodName)) ∈ zT := zT_1 167 rfl rfl
theorem q1_168 : (Jvm.Cond.methodLink "TitheGrid$History" (26 : Nat) ({ cls := "java/lang/Math", name := "min", desc := "(II)I" } : Jvm.MethodName)) ∈ zT := zT_1 168 rfl rfl
theorem q1_169 : (Jvm.Cond.static ({ cls := "java/lang/Math", name := "min", desc := "(II)I" } : Jvm.MethodName)) ∈ zT := zT_1 169 rfl rfl
theorem q1_170 : (Jvm.Cond.code ({ cls := "java/lang/Math", name := "min", desc := "(II)I" } : Jvm.MethodName) prog_9_method_69_code (2 : Nat) (Option.some Jvm.ClassFile.FieldType.int)) ∈ zT := zT_1 170 rfl rfl
theorem q1_171 : (Jvm.Cond.methodLink "TitheGrid" (45 : Nat) ({ cls := "TitheGrid$State", name := "addPoint", desc := "(III)I" } : Jvm.MethodName)) ∈ zT := zT_1 171 rfl rfl
theorem q1_172 : (Jvm.Cond.instanceMethod ({ cls := "TitheGrid$State", name := "addPoint", desc := "(III)I" } : Jvm.MethodName)) ∈ zT := zT_1 172 rfl rfl
theorem q1_173 : (Jvm.Cond.selects "TitheGrid$State" ({ cls := "TitheGrid$State", name := "addPoint", desc := "(III)I" } : Jvm.MethodName) ({ cls := "TitheGrid$State", name := "addPoint", desc := "(III)I" } : Jvm.MethodName)) ∈ zT := zT_1 173 rfl rfl
theorem q1_174 : (Jvm.Cond.code ({ cls := "TitheGrid$State", name := "addPoint", desc := "(III)I" } : Jvm.MethodName) prog_6_method_3_code (4 : Nat) (Option.some Jvm.ClassFile.FieldType.int)) ∈ zT := zT_1 174 rfl rfl
theorem q1_175 : (Jvm.Cond.methodLink "TitheGrid$State" (49 : Nat) ({ cls := "TitheGrid$Parishes", name := "parishAt", desc := "(II)I" } : Jvm.MethodName)) ∈ zT := zT_1 175 rfl rfl
theorem q1_176 : (Jvm.Cond.instanceMethod ({ cls := "TitheGrid$Parishes", name := "parishAt", desc := "(II)I" } : Jvm.MethodName)) ∈ zT := zT_1 176 rfl rfl
theorem q1_177 : (Jvm.Cond.selects "TitheGrid$Parishes" ({ cls := "TitheGrid$Parishes", name := "parishAt", desc := "(II)I" } : Jvm.MethodName) ({ cls := "TitheGrid$Parishes", name := "parishAt", desc := "(II)I" } : Jvm.MethodName)) ∈ zT := zT_1 177 rfl rfl
theorem q1_178 : (Jvm.Cond.code ({ cls := "TitheGrid$Parishes", name := "parishAt", desc := "(II)I" } : Jvm.MethodName) prog_4_method_15_code (4 : Nat) (Option.some Jvm.ClassFile.FieldType.int)) ∈ zT := zT_1 178 rfl rfl
theorem q1_179 : (Jvm.Cond.methodLink "TitheGrid$Parishes" (64 : Nat) ({ cls := "TitheGrid$Parishes", name := "touches", desc := "(IIIII)Z" } : Jvm.MethodName)) ∈ zT := zT_1 179 rfl rfl
theorem q1_181 : (Jvm.Cond.instanceMethod ({ cls := "TitheGrid$Parishes", name := "touches", desc := "(IIIII)Z" } : Jvm.MethodName)) ∈ zT := zT_1 181 rfl rfl
theorem q1_182 : (Jvm.Cond.code ({ cls := "TitheGrid$Parishes", name := "touches", desc := "(IIIII)Z" } : Jvm.MethodName) prog_4_method_14_code (7 : Nat) (Option.some Jvm.ClassFile.FieldType.boolean)) ∈ zT := zT_1 182 rfl rfl
theorem q1_183 : (Jvm.Cond.methodLink "TitheGrid$Parishes" (39 : Nat) ({ cls := "TitheGrid$Parishes", name := "exists", desc := "(I)Z" } : Jvm.MethodName)) ∈ zT := zT_1 183 rfl rfl
theorem q1_184 : (Jvm.Cond.instanceMethod ({ cls := "TitheGrid$Parishes", name := "exists", desc := "(I)Z" } : Jvm.MethodName)) ∈ zT := zT_1 184 rfl rfl
theorem q1_185 : (Jvm.Cond.selects "TitheGrid$Parishes" ({ cls := "TitheGrid$Parishes", name := "exists", desc := "(I)Z" } : Jvm.MethodName) ({ cls := "TitheGrid$Parishes", name := "exists", desc := "(I)Z" } : Jvm.MethodName)) ∈ zT := zT_1 185 rfl rfl
theorem q1_186 : (Jvm.Cond.code ({ cls := "TitheGrid$Parishes", name := "exists", desc := "(I)Z" } : Jvm.MethodName) prog_4_method_3_code (2 : Nat) (Option.some Jvm.ClassFile.FieldType.boolean)) ∈ zT := zT_1 186 rfl rfl
theorem q1_188 : (Jvm.Cond.static ({ cls := "TitheGrid", name := "sideOf", desc := "(I)I" } : Jvm.MethodName)) ∈ zT := zT_1 188 rfl rfl
theorem q1_189 : (Jvm.Cond.code ({ cls := "TitheGrid", name := "sideOf", desc := "(I)I" } : Jvm.MethodName) prog_1_method_23_code (1 : Nat) (Option.some Jvm.ClassFile.FieldType.int)) ∈ zT := zT_1 189 rfl rfl
theorem q1_190 : (Jvm.Cond.methodLink "TitheGrid$State" (53 : Nat) ({ cls := "TitheGrid$Points", name := "place", desc := "(IIII)I" } : Jvm.MethodName)) ∈ zT := zT_1 190 rfl rfl
theorem q1_191 : (Jvm.Cond.instanceMethod ({ cls := "TitheGrid$Points", name := "place", desc := "(IIII)I" } : Jvm.MethodName)) ∈ zT := zT_1 191 rfl rfl
theorem q1_192 : (Jvm.Cond.selects "TitheGrid$Points" ({ cls := "TitheGrid$Points", name := "place", desc := "(IIII)I" } : Jvm.MethodName) ({ cls := "TitheGrid$Points", name := "place", desc := "(IIII)I" } : Jvm.MethodName)) ∈ zT := zT_1 192 rfl rfl
theorem q1_193 : (Jvm.Cond.code ({ cls := "TitheGrid$Points", name := "place", desc := "(IIII)I" } : Jvm.MethodName) prog_5_method_10_code (6 : Nat) (Option.some Jvm.ClassFile.FieldType.int)) ∈ zT := zT_1 193 rfl rfl
theorem q1_195 : (Jvm.Cond.methodLink "TitheGrid" (49 : Nat) ({ cls := "TitheGrid$State", name := "splitCrowded", desc := "()V" } : Jvm.MethodName)) ∈ zT := zT_1 195 rfl rfl
theorem q1_196 : (Jvm.Cond.instanceMethod ({ cls := "TitheGrid$State", name := "splitCrowded", desc := "()V" } : Jvm.MethodName)) ∈ zT := zT_1 196 rfl rfl
theorem q1_197 : (Jvm.Cond.selects "TitheGrid$State" ({ cls := "TitheGrid$State", name := "splitCrowded", desc := "()V" } : Jvm.MethodName) ({ cls := "TitheGrid$State", name := "splitCrowded", desc := "()V" } : Jvm.MethodName)) ∈ zT := zT_1 197 rfl rfl
theorem q1_198 : (Jvm.Cond.code ({ cls := "TitheGrid$State", name := "splitCrowded", desc := "()V" } : Jvm.MethodName) prog_6_method_8_code (3 : Nat) (Option.none : Option Jvm.ClassFile.FieldType)) ∈ zT := zT_1 198 rfl rfl
theorem q1_199 : (Jvm.Cond.methodLink "TitheGrid$State" (97 : Nat) ({ cls := "TitheGrid$State", name := "firstToSplit", desc := "()I" } : Jvm.MethodName)) ∈ zT := zT_1 199 rfl rfl
theorem q1_201 : (Jvm.Cond.instanceMethod ({ cls := "TitheGrid$State", name := "firstToSplit", desc := "()I" } : Jvm.MethodName)) ∈ zT := zT_1 201 rfl rfl
theorem q1_202 : (Jvm.Cond.code ({ cls := "TitheGrid$State", name := "firstToSplit", desc := "()I" } : Jvm.MethodName) prog_6_method_9_code (3 : Nat) (Option.some Jvm.ClassFile.FieldType.int)) ∈ zT := zT_1 202 rfl rfl
theorem q1_203 : (Jvm.Cond.methodLink "TitheGrid$State" (105 : Nat) ({ cls := "TitheGrid$Parishes", name := "numberFounded", desc := "()I" } : Jvm.MethodName)) ∈ zT := zT_1 203 rfl rfl
theorem q1_204 : (Jvm.Cond.instanceMethod ({ cls := "TitheGrid$Parishes", name := "numberFounded", desc := "()I" } : Jvm.MethodName)) ∈ zT := zT_1 204 rfl rfl
theorem q1_205 : (Jvm.Cond.selects "TitheGrid$Parishes" ({ cls := "TitheGrid$Parishes", name := "numberFounded", desc := "()I" } : Jvm.MethodName) ({ cls := "TitheGrid$Parishes", name := "numberFounded", desc := "()I" } : Jvm.MethodName)) ∈ zT := zT_1 205 rfl rfl
theorem q1_206 : (Jvm.Cond.code ({ cls := "TitheGrid$Parishes", name := "numberFounded", desc := "()I" } : Jvm.MethodName) prog_4_method_4_code (1 : Nat) (Option.some Jvm.ClassFile.FieldType.int)) ∈ zT := zT_1 206 rfl rfl
theorem q1_207 : (Jvm.Cond.methodLink "TitheGrid$State" (108 : Nat) ({ cls := "TitheGrid$Parishes", name := "exists", desc := "(I)Z" } : Jvm.MethodName)) ∈ zT := zT_1 207 rfl rfl
theorem q1_208 : (Jvm.Cond.methodLink "TitheGrid$State" (109 : Nat) ({ cls := "TitheGrid$Parishes", name := "scaleOf", desc := "(I)I" } : Jvm.MethodName)) ∈ zT := zT_1 208 rfl rfl
theorem q1_209 : (Jvm.Cond.instanceMethod ({ cls := "TitheGrid$Parishes", name := "scaleOf", desc := "(I)I" } : Jvm.MethodName)) ∈ zT := zT_1 209 rfl rfl
theorem q1_210 : (Jvm.Cond.selects "TitheGrid$Parishes" ({ cls := "TitheGrid$Parishes", name := "scaleOf", desc := "(I)I" } : Jvm.MethodName) ({ cls := "TitheGrid$Parishes", name := "scaleOf", desc := "(I)I" } : Jvm.MethodName)) ∈ zT := zT_1 210 rfl rfl
theorem q1_211 : (Jvm.Cond.code ({ cls := "TitheGrid$Parishes", name := "scaleOf", desc := "(I)I" } : Jvm.MethodName) prog_4_method_10_code (2 : Nat) (Option.some Jvm.ClassFile.FieldType.int)) ∈ zT := zT_1 211 rfl rfl
theorem q1_212 : (Jvm.Cond.methodLink "TitheGrid$State" (112 : Nat) ({ cls := "TitheGrid$State", name := "pointsIn", desc := "(I)I" } : Jvm.MethodName)) ∈ zT := zT_1 212 rfl rfl
theorem q1_213 : (Jvm.Cond.instanceMethod ({ cls := "TitheGrid$State", name := "pointsIn", desc := "(I)I" } : Jvm.MethodName)) ∈ zT := zT_1 213 rfl rfl
theorem q1_214 : (Jvm.Cond.selects "TitheGrid$State" ({ cls := "TitheGrid$State", name := "pointsIn", desc := "(I)I" } : Jvm.MethodName) ({ cls := "TitheGrid$State", name := "pointsIn", desc := "(I)I" } : Jvm.MethodName)) ∈ zT := zT_1 214 rfl rfl
theorem q1_215 : (Jvm.Cond.code ({ cls := "TitheGrid$State", name := "pointsIn", desc := "(I)I" } : Jvm.MethodName) prog_6_method_6_code (2 : Nat) (Option.some Jvm.ClassFile.FieldType.int)) ∈ zT := zT_1 215 rfl rfl
theorem q1_216 : (Jvm.Cond.methodLink "TitheGrid$State" (78 : Nat) ({ cls := "TitheGrid$Parishes", name := "leftOf", desc := "(I)I" } : Jvm.MethodName)) ∈ zT := zT_1 216 rfl rfl
theorem q1_217 : (Jvm.Cond.instanceMethod ({ cls := "TitheGrid$Parishes", name := "leftOf", desc := "(I)I" } : Jvm.MethodName)) ∈ zT := zT_1 217 rfl rfl
theorem q1_218 : (Jvm.Cond.selects "TitheGrid$Parishes" ({ cls := "TitheGrid$Parishes", name := "leftOf", desc := "(I)I" } : Jvm.MethodName) ({ cls := "TitheGrid$Parishes", name := "leftOf", desc := "(I)I" } : Jvm.MethodName)) ∈ zT := zT_1 218 rfl rfl
theorem q1_219 : (Jvm.Cond.code ({ cls := "TitheGrid$Parishes", name := "leftOf", desc := "(I)I" } : Jvm.MethodName) prog_4_method_6_code (2 : Nat) (Option.some Jvm.ClassFile.FieldType.int)) ∈ zT := zT_1 219 rfl rfl
theorem q1_220 : (Jvm.Cond.methodLink "TitheGrid$State" (81 : Nat) ({ cls := "TitheGrid$Parishes", name := "topOf", desc := "(I)I" } : Jvm.MethodName)) ∈ zT := zT_1 220 rfl rfl
theorem q1_221 : (Jvm.Cond.instanceMethod ({ cls := "TitheGrid$Parishes", name := "topOf", desc := "(I)I" } : Jvm.MethodName)) ∈ zT := zT_1 221 rfl rfl
theorem q1_222 : (Jvm.Cond.selects "TitheGrid$Parishes" ({ cls := "TitheGrid$Parishes", name := "topOf", desc := "(I)I" } : Jvm.MethodName) ({ cls := "TitheGrid$Parishes", name := "topOf", desc := "(I)I" } : Jvm.MethodName)) ∈ zT := zT_1 222 rfl rfl
theorem q1_223 : (Jvm.Cond.code ({ cls := "TitheGrid$Parishes", name := "topOf", desc := "(I)I" } : Jvm.MethodName) prog_4_method_7_code (2 : Nat) (Option.some Jvm.ClassFile.FieldType.int)) ∈ zT := zT_1 223 rfl rfl
theorem q1_224 : (Jvm.Cond.methodLink "TitheGrid$State" (84 : Nat) ({ cls := "TitheGrid$Parishes", name := "rightOf", desc := "(I)I" } : Jvm.MethodName)) ∈ zT := zT_1 224 rfl rfl
theorem q1_225 : (Jvm.Cond.instanceMethod ({ cls := "TitheGrid$Parishes", name := "rightOf", desc := "(I)I" } : Jvm.MethodName)) ∈ zT := zT_1 225 rfl rfl
theorem q1_226 : (Jvm.Cond.selects "TitheGrid$Parishes" ({ cls := "TitheGrid$Parishes", name := "rightOf", desc := "(I)I" } : Jvm.MethodName) ({ cls := "TitheGrid$Parishes", name := "rightOf", desc := "(I)I" } : Jvm.MethodName)) ∈ zT := zT_1 226 rfl rfl
theorem q1_227 : (Jvm.Cond.code ({ cls := "TitheGrid$Parishes", name := "rightOf", desc := "(I)I" } : Jvm.MethodName) prog_4_method_8_code (2 : Nat) (Option.some Jvm.ClassFile.FieldType.int)) ∈ zT := zT_1 227 rfl rfl
theorem q1_228 : (Jvm.Cond.methodLink "TitheGrid$Parishes" (43 : Nat) ({ cls := "TitheGrid$Parishes", name := "leftOf", desc := "(I)I" } : Jvm.MethodName)) ∈ zT := zT_1 228 rfl rfl
theorem q1_229 : (Jvm.Cond.methodLink "TitheGrid$Parishes" (47 : Nat) ({ cls := "TitheGrid$Parishes", name := "scaleOf", desc := "(I)I" } : Jvm.MethodName)) ∈ zT := zT_1 229 rfl rfl
theorem q1_230 : (Jvm.Cond.methodLink "TitheGrid$State" (87 : Nat) ({ cls := "TitheGrid$Parishes", name := "bottomOf", desc := "(I)I" } : Jvm.MethodName)) ∈ zT := zT_1 230 rfl rfl
theorem q1_231 : (Jvm.Cond.instanceMethod ({ cls := "TitheGrid$Parishes", name := "bottomOf", desc := "(I)I" } : Jvm.MethodName)) ∈ zT := zT_1 231 rfl rfl
theorem q1_232 : (Jvm.Cond.selects "TitheGrid$Parishes" ({ cls := "TitheGrid$Parishes", name := "bottomOf", desc := "(I)I" } : Jvm.MethodName) ({ cls := "TitheGrid$Parishes", name := "bottomOf", desc := "(I)I" } : Jvm.MethodName)) ∈ zT := zT_1 232 rfl rfl
theorem q1_233 : (Jvm.Cond.code ({ cls := "TitheGrid$Parishes", name := "bottomOf", desc := "(I)I" } : Jvm.MethodName) prog_4_method_9_code (2 : Nat) (Option.some Jvm.ClassFile.FieldType.int)) ∈ zT := zT_1 233 rfl rfl
theorem q1_234 : (Jvm.Cond.methodLink "TitheGrid$Parishes" (53 : Nat) ({ cls := "TitheGrid$Parishes", name := "topOf", desc := "(I)I" } : Jvm.MethodName)) ∈ zT := zT_1 234 rfl rfl
theorem q1_235 : (Jvm.Cond.methodLink "TitheGrid$State" (90 : Nat) ({ cls := "TitheGrid$Points", name := "numberIn", desc := "(IIII)I" } : Jvm.MethodName)) ∈ zT := zT_1 235 rfl rfl
theorem q1_236 : (Jvm.Cond.instanceMethod ({ cls := "TitheGrid$Points", name := "numberIn", desc := "(IIII)I" } : Jvm.MethodName)) ∈ zT := zT_1 236 rfl rfl
theorem q1_237 : (Jvm.Cond.selects "TitheGrid$Points" ({ cls := "TitheGrid$Points", name := "numberIn", desc := "(IIII)I" } : Jvm.MethodName) ({ cls := "TitheGrid$Points", name := "numberIn", desc := "(IIII)I" } : Jvm.MethodName)) ∈ zT := zT_1 237 rfl rfl
theorem q1_238 : (Jvm.Cond.code ({ cls := "TitheGrid$Points", name := "numberIn", desc := "(IIII)I" } : Jvm.MethodName) prog_5_method_16_code (7 : Nat) (Option.some Jvm.ClassFile.FieldType.int)) ∈ zT := zT_1 238 rfl rfl
theorem q1_239 : (Jvm.Cond.methodLink "TitheGrid$Points" (46 : Nat) ({ cls := "TitheGrid$Points", name := "liesIn", desc := "(IIIII)Z" } : Jvm.MethodName)) ∈ zT := zT_1 239 rfl rfl
theorem q2_0 : (Jvm.Cond.instanceMethod ({ cls := "TitheGrid$Points", name := "liesIn", desc := "(IIIII)Z" } : Jvm.MethodName)) ∈ zT := zT_2 0 rfl rfl
theorem q2_1 : (Jvm.Cond.selects "TitheGrid$Points" ({ cls := "TitheGrid$Points", name := "liesIn", desc := "(IIIII)Z" } : Jvm.MethodName) ({ cls := "TitheGrid$Points", name := "liesIn", desc := "(IIIII)Z" } : Jvm.MethodName)) ∈ zT := zT_2 1 rfl rfl
theorem q2_2 : (Jvm.Cond.code ({ cls := "TitheGrid$Points", name := "liesIn", desc := "(IIIII)Z" } : Jvm.MethodName) prog_5_method_14_code (6 : Nat) (Option.some Jvm.ClassFile.FieldType.boolean)) ∈ zT := zT_2 2 rfl rfl
theorem q2_3 : (Jvm.Cond.methodLink "TitheGrid$Points" (34 : Nat) ({ cls := "TitheGrid$Points", name := "exists", desc := "(I)Z" } : Jvm.MethodName)) ∈ zT := zT_2 3 rfl rfl
theorem q2_4 : (Jvm.Cond.instanceMethod ({ cls := "TitheGrid$Points", name := "exists", desc := "(I)Z" } : Jvm.MethodName)) ∈ zT := zT_2 4 rfl rfl
theorem q2_5 : (Jvm.Cond.selects "TitheGrid$Points" ({ cls := "TitheGrid$Points", name := "exists", desc := "(I)Z" } : Jvm.MethodName) ({ cls := "TitheGrid$Points", name := "exists", desc := "(I)Z" } : Jvm.MethodName)) ∈ zT := zT_2 5 rfl rfl
theorem q2_6 : (Jvm.Cond.code ({ cls := "TitheGrid$Points", name := "exists", desc := "(I)Z" } : Jvm.MethodName) prog_5_method_3_code (2 : Nat) (Option.some Jvm.ClassFile.FieldType.boolean)) ∈ zT := zT_2 6 rfl rfl
theorem q2_7 : (Jvm.Cond.methodLink "TitheGrid$State" (101 : Nat) ({ cls := "TitheGrid$State", name := "splitCell", desc := "(I)V" } : Jvm.MethodName)) ∈ zT := zT_2 7 rfl rfl
theorem q2_9 : (Jvm.Cond.instanceMethod ({ cls := "TitheGrid$State", name := "splitCell", desc := "(I)V" } : Jvm.MethodName)) ∈ zT := zT_2 9 rfl rfl
theorem q2_10 : (Jvm.Cond.code ({ cls := "TitheGrid$State", name := "splitCell", desc := "(I)V" } : Jvm.MethodName) prog_6_method_10_code (8 : Nat) (Option.none : Option Jvm.ClassFile.FieldType)) ∈ zT := zT_2 10 rfl rfl
theorem q2_12 : (Jvm.Cond.methodLink "TitheGrid$State" (118 : Nat) ({ cls := "TitheGrid$State", name := "fullestQuarter", desc := "(III)I" } : Jvm.MethodName)) ∈ zT := zT_2 12 rfl rfl
theorem q2_14 : (Jvm.Cond.instanceMethod ({ cls := "TitheGrid$State", name := "fullestQuarter", desc := "(III)I" } : Jvm.MethodName)) ∈ zT := zT_2 14 rfl rfl
theorem q2_15 : (Jvm.Cond.code ({ cls := "TitheGrid$State", name := "fullestQuarter", desc := "(III)I" } : Jvm.MethodName) prog_6_method_11_code (10 : Nat) (Option.some Jvm.ClassFile.FieldType.int)) ∈ zT := zT_2 15 rfl rfl
theorem q2_17 : (Jvm.Cond.static ({ cls := "TitheGrid", name := "quarterLeft", desc := "(III)I" } : Jvm.MethodName)) ∈ zT := zT_2 17 rfl rfl
theorem q2_18 : (Jvm.Cond.code ({ cls := "TitheGrid", name := "quarterLeft", desc := "(III)I" } : Jvm.MethodName) prog_1_method_24_code (3 : Nat) (Option.some Jvm.ClassFile.FieldType.int)) ∈ zT := zT_2 18 rfl rfl
theorem q2_20 : (Jvm.Cond.static ({ cls := "TitheGrid", name := "quarterTop", desc := "(III)I" } : Jvm.MethodName)) ∈ zT := zT_2 20 rfl rfl
theorem q2_21 : (Jvm.Cond.code ({ cls := "TitheGrid", name := "quarterTop", desc := "(III)I" } : Jvm.MethodName) prog_1_method_25_code (3 : Nat) (Option.some Jvm.ClassFile.FieldType.int)) ∈ zT := zT_2 21 rfl rfl
theorem q2_22 : (Jvm.Cond.methodLink "TitheGrid$State" (128 : Nat) ({ cls := "TitheGrid$State", name := "foundIn", desc := "(IIII)V" } : Jvm.MethodName)) ∈ zT := zT_2 22 rfl rfl
theorem q2_24 : (Jvm.Cond.instanceMethod ({ cls := "TitheGrid$State", name := "foundIn", desc := "(IIII)V" } : Jvm.MethodName)) ∈ zT := zT_2 24 rfl rfl
theorem q2_25 : (Jvm.Cond.code ({ cls := "TitheGrid$State", name := "foundIn", desc := "(IIII)V" } : Jvm.MethodName) prog_6_method_12_code (8 : Nat) (Option.none : Option Jvm.ClassFile.FieldType)) ∈ zT := zT_2 25 rfl rfl
theorem q2_26 : (Jvm.Cond.methodLink "TitheGrid$State" (135 : Nat) ({ cls := "TitheGrid$Parishes", name := "found", desc := "(III)I" } : Jvm.MethodName)) ∈ zT := zT_2 26 rfl rfl
theorem q2_27 : (Jvm.Cond.methodLink "TitheGrid$State" (138 : Nat) ({ cls := "TitheGrid$State", name := "titheOf", desc := "(I)I" } : Jvm.MethodName)) ∈ zT := zT_2 27 rfl rfl
theorem q2_29 : (Jvm.Cond.instanceMethod ({ cls := "TitheGrid$State", name := "titheOf", desc := "(I)I" } : Jvm.MethodName)) ∈ zT := zT_2 29 rfl rfl
theorem q2_30 : (Jvm.Cond.code ({ cls := "TitheGrid$State", name := "titheOf", desc := "(I)I" } : Jvm.MethodName) prog_6_method_13_code (2 : Nat) (Option.some Jvm.ClassFile.FieldType.int)) ∈ zT := zT_2 30 rfl rfl
theorem q2_31 : (Jvm.Cond.methodLink "TitheGrid$State" (141 : Nat) ({ cls := "TitheGrid$Debts", name := "change", desc := "(III)V" } : Jvm.MethodName)) ∈ zT := zT_2 31 rfl rfl
theorem q2_32 : (Jvm.Cond.instanceMethod ({ cls := "TitheGrid$Debts", name := "change", desc := "(III)V" } : Jvm.MethodName)) ∈ zT := zT_2 32 rfl rfl
theorem q2_33 : (Jvm.Cond.selects "TitheGrid$Debts" ({ cls := "TitheGrid$Debts", name := "change", desc := "(III)V" } : Jvm.MethodName) ({ cls := "TitheGrid$Debts", name := "change", desc := "(III)V" } : Jvm.MethodName)) ∈ zT := zT_2 33 rfl rfl
theorem q2_34 : (Jvm.Cond.code ({ cls := "TitheGrid$Debts", name := "change", desc := "(III)V" } : Jvm.MethodName) prog_2_method_4_code (4 : Nat) (Option.none : Option Jvm.ClassFile.FieldType)) ∈ zT := zT_2 34 rfl rfl
theorem q2_35 : (Jvm.Cond.methodLink "TitheGrid$Debts" (21 : Nat) ({ cls := "TitheGrid$Debts", name := "areParishes", desc := "(II)Z" } : Jvm.MethodName)) ∈ zT := zT_2 35 rfl rfl
theorem q2_36 : (Jvm.Cond.static ({ cls := "TitheGrid$Debts", name := "areParishes", desc := "(II)Z" } : Jvm.MethodName)) ∈ zT := zT_2 36 rfl rfl
theorem q2_37 : (Jvm.Cond.code ({ cls := "TitheGrid$Debts", name := "areParishes", desc := "(II)Z" } : Jvm.MethodName) prog_2_method_5_code (2 : Nat) (Option.some Jvm.ClassFile.FieldType.boolean)) ∈ zT := zT_2 37 rfl rfl
theorem q2_38 : (Jvm.Cond.methodLink "TitheGrid$State" (144 : Nat) ({ cls := "TitheGrid$Points", name := "changeLord", desc := "(IIIIII)V" } : Jvm.MethodName)) ∈ zT := zT_2 38 rfl rfl
theorem q2_39 : (Jvm.Cond.instanceMethod ({ cls := "TitheGrid$Points", name := "changeLord", desc := "(IIIIII)V" } : Jvm.MethodName)) ∈ zT := zT_2 39 rfl rfl
theorem q2_40 : (Jvm.Cond.selects "TitheGrid$Points" ({ cls := "TitheGrid$Points", name := "changeLord", desc := "(IIIIII)V" } : Jvm.MethodName) ({ cls := "TitheGrid$Points", name := "changeLord", desc := "(IIIIII)V" } : Jvm.MethodName)) ∈ zT := zT_2 40 rfl rfl
theorem q2_41 : (Jvm.Cond.code ({ cls := "TitheGrid$Points", name := "changeLord", desc := "(IIIIII)V" } : Jvm.MethodName) prog_5_method_23_code (8 : Nat) (Option.none : Option Jvm.ClassFile.FieldType)) ∈ zT := zT_2 41 rfl rfl
theorem q2_42 : (Jvm.Cond.methodLink "TitheGrid$State" (132 : Nat) ({ cls := "TitheGrid$Parishes", name := "giveCell", desc := "(IIII)V" } : Jvm.MethodName)) ∈ zT := zT_2 42 rfl rfl
theorem q2_43 : (Jvm.Cond.methodLink "TitheGridLaw" (18 : Nat) ({ cls := "TitheGrid", name := "remove", desc := "(I)I" } : Jvm.MethodName)) ∈ zT := zT_2 43 rfl rfl
theorem q2_44 : (Jvm.Cond.instanceMethod ({ cls := "TitheGrid", name := "remove", desc := "(I)I" } : Jvm.MethodName)) ∈ zT := zT_2 44 rfl rfl
theorem q2_45 : (Jvm.Cond.selects "TitheGrid" ({ cls := "TitheGrid", name := "remove", desc := "(I)I" } : Jvm.MethodName) ({ cls := "TitheGrid", name := "remove", desc := "(I)I" } : Jvm.MethodName)) ∈ zT := zT_2 45 rfl rfl
theorem q2_46 : (Jvm.Cond.code ({ cls := "TitheGrid", name := "remove", desc := "(I)I" } : Jvm.MethodName) prog_1_method_3_code (2 : Nat) (Option.some Jvm.ClassFile.FieldType.int)) ∈ zT := zT_2 46 rfl rfl
theorem q2_47 : (Jvm.Cond.methodLink "TitheGrid" (52 : Nat) ({ cls := "TitheGrid$Points", name := "exists", desc := "(I)Z" } : Jvm.MethodName)) ∈ zT := zT_2 47 rfl rfl
theorem q2_48 : (Jvm.Cond.methodLink "TitheGrid" (56 : Nat) ({ cls := "TitheGrid$Points", name := "takeAway", desc := "(I)V" } : Jvm.MethodName)) ∈ zT := zT_2 48 rfl rfl
theorem q2_49 : (Jvm.Cond.instanceMethod ({ cls := "TitheGrid$Points", name := "takeAway", desc := "(I)V" } : Jvm.MethodName)) ∈ zT := zT_2 49 rfl rfl
theorem q2_50 : (Jvm.Cond.selects "TitheGrid$Points" ({ cls := "TitheGrid$Points", name := "takeAway", desc := "(I)V" } : Jvm.MethodName) ({ cls := "TitheGrid$Points", name := "takeAway", desc := "(I)V" } : Jvm.MethodName)) ∈ zT := zT_2 50 rfl rfl
theorem q2_51 : (Jvm.Cond.code ({ cls := "TitheGrid$Points", name := "takeAway", desc := "(I)V" } : Jvm.MethodName) prog_5_method_11_code (2 : Nat) (Option.none : Option Jvm.ClassFile.FieldType)) ∈ zT := zT_2 51 rfl rfl
theorem q2_52 : (Jvm.Cond.methodLink "TitheGrid" (60 : Nat) ({ cls := "TitheGrid$Points", name := "number", desc := "()I" } : Jvm.MethodName)) ∈ zT := zT_2 52 rfl rfl
theorem q2_53 : (Jvm.Cond.instanceMethod ({ cls := "TitheGrid$Points", name := "number", desc := "()I" } : Jvm.MethodName)) ∈ zT := zT_2 53 rfl rfl
theorem q2_54 : (Jvm.Cond.selects "TitheGrid$Points" ({ cls := "TitheGrid$Points", name := "number", desc := "()I" } : Jvm.MethodName) ({ cls := "TitheGrid$Points", name := "number", desc := "()I" } : Jvm.MethodName)) ∈ zT := zT_2 54 rfl rfl
theorem q2_55 : (Jvm.Cond.code ({ cls := "TitheGrid$Points", name := "number", desc := "()I" } : Jvm.MethodName) prog_5_method_15_code (1 : Nat) (Option.some Jvm.ClassFile.FieldType.int)) ∈ zT := zT_2 55 rfl rfl
theorem q2_56 : (Jvm.Cond.methodLink "TitheGrid$Points" (42 : Nat) ({ cls := "TitheGrid$Points", name := "numberIn", desc := "(IIII)I" } : Jvm.MethodName)) ∈ zT := zT_2 56 rfl rfl
theorem q2_57 : (Jvm.Cond.methodLink "TitheGridLaw" (23 : Nat) ({ cls := "TitheGrid", name := "move", desc := "(III)I" } : Jvm.MethodName)) ∈ zT := zT_2 57 rfl rfl
theorem q2_58 : (Jvm.Cond.instanceMethod ({ cls := "TitheGrid", name := "move", desc := "(III)I" } : Jvm.MethodName)) ∈ zT := zT_2 58 rfl rfl
theorem q2_59 : (Jvm.Cond.selects "TitheGrid" ({ cls := "TitheGrid", name := "move", desc := "(III)I" } : Jvm.MethodName) ({ cls := "TitheGrid", name := "move", desc := "(III)I" } : Jvm.MethodName)) ∈ zT := zT_2 59 rfl rfl
theorem q2_60 : (Jvm.Cond.code ({ cls := "TitheGrid", name := "move", desc := "(III)I" } : Jvm.MethodName) prog_1_method_4_code (5 : Nat) (Option.some Jvm.ClassFile.FieldType.int)) ∈ zT := zT_2 60 rfl rfl
theorem q2_61 : (Jvm.Cond.methodLink "TitheGrid" (64 : Nat) ({ cls := "TitheGrid$State", name := "movePoint", desc := "(III)Z" } : Jvm.MethodName)) ∈ zT := zT_2 61 rfl rfl
theorem q2_62 : (Jvm.Cond.instanceMethod ({ cls := "TitheGrid$State", name := "movePoint", desc := "(III)Z" } : Jvm.MethodName)) ∈ zT := zT_2 62 rfl rfl
theorem q2_63 : (Jvm.Cond.selects "TitheGrid$State" ({ cls := "TitheGrid$State", name := "movePoint", desc := "(III)Z" } : Jvm.MethodName) ({ cls := "TitheGrid$State", name := "movePoint", desc := "(III)Z" } : Jvm.MethodName)) ∈ zT := zT_2 63 rfl rfl
theorem q2_64 : (Jvm.Cond.code ({ cls := "TitheGrid$State", name := "movePoint", desc := "(III)Z" } : Jvm.MethodName) prog_6_method_4_code (6 : Nat) (Option.some Jvm.ClassFile.FieldType.boolean)) ∈ zT := zT_2 64 rfl rfl
theorem q2_65 : (Jvm.Cond.methodLink "TitheGrid$State" (57 : Nat) ({ cls := "TitheGrid$Points", name := "lordOf", desc := "(I)I" } : Jvm.MethodName)) ∈ zT := zT_2 65 rfl rfl
theorem q2_66 : (Jvm.Cond.instanceMethod ({ cls := "TitheGrid$Points", name := "lordOf", desc := "(I)I" } : Jvm.MethodName)) ∈ zT := zT_2 66 rfl rfl
theorem q2_67 : (Jvm.Cond.selects "TitheGrid$Points" ({ cls := "TitheGrid$Points", name := "lordOf", desc := "(I)I" } : Jvm.MethodName) ({ cls := "TitheGrid$Points", name := "lordOf", desc := "(I)I" } : Jvm.MethodName)) ∈ zT := zT_2 67 rfl rfl
theorem q2_68 : (Jvm.Cond.code ({ cls := "TitheGrid$Points", name := "lordOf", desc := "(I)I" } : Jvm.MethodName) prog_5_method_9_code (2 : Nat) (Option.some Jvm.ClassFile.FieldType.int)) ∈ zT := zT_2 68 rfl rfl
theorem q2_69 : (Jvm.Cond.methodLink "TitheGrid$State" (61 : Nat) ({ cls := "TitheGrid$State", name := "parishAround", desc := "(I)I" } : Jvm.MethodName)) ∈ zT := zT_2 69 rfl rfl
theorem q2_70 : (Jvm.Cond.instanceMethod ({ cls := "TitheGrid$State", name := "parishAround", desc := "(I)I" } : Jvm.MethodName)) ∈ zT := zT_2 70 rfl rfl
theorem q2_71 : (Jvm.Cond.selects "TitheGrid$State" ({ cls := "TitheGrid$State", name := "parishAround", desc := "(I)I" } : Jvm.MethodName) ({ cls := "TitheGrid$State", name := "parishAround", desc := "(I)I" } : Jvm.MethodName)) ∈ zT := zT_2 71 rfl rfl
theorem q2_72 : (Jvm.Cond.code ({ cls := "TitheGrid$State", name := "parishAround", desc := "(I)I" } : Jvm.MethodName) prog_6_method_5_code (2 : Nat) (Option.some Jvm.ClassFile.FieldType.int)) ∈ zT := zT_2 72 rfl rfl
theorem q2_73 : (Jvm.Cond.methodLink "TitheGrid$State" (72 : Nat) ({ cls := "TitheGrid$Points", name := "xOf", desc := "(I)I" } : Jvm.MethodName)) ∈ zT := zT_2 73 rfl rfl
theorem q2_74 : (Jvm.Cond.instanceMethod ({ cls := "TitheGrid$Points", name := "xOf", desc := "(I)I" } : Jvm.MethodName)) ∈ zT := zT_2 74 rfl rfl
theorem q2_75 : (Jvm.Cond.selects "TitheGrid$Points" ({ cls := "TitheGrid$Points", name := "xOf", desc := "(I)I" } : Jvm.MethodName) ({ cls := "TitheGrid$Points", name := "xOf", desc := "(I)I" } : Jvm.MethodName)) ∈ zT := zT_2 75 rfl rfl
theorem q2_76 : (Jvm.Cond.code ({ cls := "TitheGrid$Points", name := "xOf", desc := "(I)I" } : Jvm.MethodName) prog_5_method_6_code (2 : Nat) (Option.some Jvm.ClassFile.FieldType.int)) ∈ zT := zT_2 76 rfl rfl
theorem q2_77 : (Jvm.Cond.methodLink "TitheGrid$State" (75 : Nat) ({ cls := "TitheGrid$Points", name := "yOf", desc := "(I)I" } : Jvm.MethodName)) ∈ zT := zT_2 77 rfl rfl
theorem q2_78 : (Jvm.Cond.instanceMethod ({ cls := "TitheGrid$Points", name := "yOf", desc := "(I)I" } : Jvm.MethodName)) ∈ zT := zT_2 78 rfl rfl
theorem q2_79 : (Jvm.Cond.selects "TitheGrid$Points" ({ cls := "TitheGrid$Points", name := "yOf", desc := "(I)I" } : Jvm.MethodName) ({ cls := "TitheGrid$Points", name := "yOf", desc := "(I)I" } : Jvm.MethodName)) ∈ zT := zT_2 79 rfl rfl
theorem q2_80 : (Jvm.Cond.code ({ cls := "TitheGrid$Points", name := "yOf", desc := "(I)I" } : Jvm.MethodName) prog_5_method_7_code (2 : Nat) (Option.some Jvm.ClassFile.FieldType.int)) ∈ zT := zT_2 80 rfl rfl
theorem q2_81 : (Jvm.Cond.methodLink "TitheGrid$State" (64 : Nat) ({ cls := "TitheGrid$Points", name := "shift", desc := "(III)V" } : Jvm.MethodName)) ∈ zT := zT_2 81 rfl rfl
theorem q2_82 : (Jvm.Cond.instanceMethod ({ cls := "TitheGrid$Points", name := "shift", desc := "(III)V" } : Jvm.MethodName)) ∈ zT := zT_2 82 rfl rfl
theorem q2_83 : (Jvm.Cond.selects "TitheGrid$Points" ({ cls := "TitheGrid$Points", name := "shift", desc := "(III)V" } : Jvm.MethodName) ({ cls := "TitheGrid$Points", name := "shift", desc := "(III)V" } : Jvm.MethodName)) ∈ zT := zT_2 83 rfl rfl
theorem q2_84 : (Jvm.Cond.code ({ cls := "TitheGrid$Points", name := "shift", desc := "(III)V" } : Jvm.MethodName) prog_5_method_12_code (4 : Nat) (Option.none : Option Jvm.ClassFile.FieldType)) ∈ zT := zT_2 84 rfl rfl
theorem q2_85 : (Jvm.Cond.methodLink "TitheGrid$State" (68 : Nat) ({ cls := "TitheGrid$Points", name := "setLord", desc := "(II)V" } : Jvm.MethodName)) ∈ zT := zT_2 85 rfl rfl
theorem q2_86 : (Jvm.Cond.instanceMethod ({ cls := "TitheGrid$Points", name := "setLord", desc := "(II)V" } : Jvm.MethodName)) ∈ zT := zT_2 86 rfl rfl
theorem q2_87 : (Jvm.Cond.selects "TitheGrid$Points" ({ cls := "TitheGrid$Points", name := "setLord", desc := "(II)V" } : Jvm.MethodName) ({ cls := "TitheGrid$Points", name := "setLord", desc := "(II)V" } : Jvm.MethodName)) ∈ zT := zT_2 87 rfl rfl
theorem q2_88 : (Jvm.Cond.code ({ cls := "TitheGrid$Points", name := "setLord", desc := "(II)V" } : Jvm.MethodName) prog_5_method_13_code (3 : Nat) (Option.none : Option Jvm.ClassFile.FieldType)) ∈ zT := zT_2 88 rfl rfl
theorem q2_89 : (Jvm.Cond.methodLink "TitheGridLaw" (27 : Nat) ({ cls := "TitheGrid", name := "setCrowd", desc := "(I)I" } : Jvm.MethodName)) ∈ zT := zT_2 89 rfl rfl
theorem q2_90 : (Jvm.Cond.instanceMethod ({ cls := "TitheGrid", name := "setCrowd", desc := "(I)I" } : Jvm.MethodName)) ∈ zT := zT_2 90 rfl rfl
theorem q2_91 : (Jvm.Cond.selects "TitheGrid" ({ cls := "TitheGrid", name := "setCrowd", desc := "(I)I" } : Jvm.MethodName) ({ cls := "TitheGrid", name := "setCrowd", desc := "(I)I" } : Jvm.MethodName)) ∈ zT := zT_2 91 rfl rfl
theorem q2_92 : (Jvm.Cond.code ({ cls := "TitheGrid", name := "setCrowd", desc := "(I)I" } : Jvm.MethodName) prog_1_method_5_code (3 : Nat) (Option.some Jvm.ClassFile.FieldType.int)) ∈ zT := zT_2 92 rfl rfl
theorem q2_93 : (Jvm.Cond.methodLink "TitheGridLaw" (31 : Nat) ({ cls := "TitheGrid", name := "setTithe", desc := "(I)I" } : Jvm.MethodName)) ∈ zT := zT_2 93 rfl rfl
theorem q2_94 : (Jvm.Cond.instanceMethod ({ cls := "TitheGrid", name := "setTithe", desc := "(I)I" } : Jvm.MethodName)) ∈ zT := zT_2 94 rfl rfl
theorem q2_95 : (Jvm.Cond.selects "TitheGrid" ({ cls := "TitheGrid", name := "setTithe", desc := "(I)I" } : Jvm.MethodName) ({ cls := "TitheGrid", name := "setTithe", desc := "(I)I" } : Jvm.MethodName)) ∈ zT := zT_2 95 rfl rfl
theorem q2_96 : (Jvm.Cond.code ({ cls := "TitheGrid", name := "setTithe", desc := "(I)I" } : Jvm.MethodName) prog_1_method_6_code (3 : Nat) (Option.some Jvm.ClassFile.FieldType.int)) ∈ zT := zT_2 96 rfl rfl
theorem q2_97 : (Jvm.Cond.methodLink "TitheGridLaw" (35 : Nat) ({ cls := "TitheGrid", name := "pay", desc := "(I)I" } : Jvm.MethodName)) ∈ zT := zT_2 97 rfl rfl
theorem q2_98 : (Jvm.Cond.instanceMethod ({ cls := "TitheGrid", name := "pay", desc := "(I)I" } : Jvm.MethodName)) ∈ zT := zT_2 98 rfl rfl
theorem q2_99 : (Jvm.Cond.selects "TitheGrid" ({ cls := "TitheGrid", name := "pay", desc := "(I)I" } : Jvm.MethodName) ({ cls := "TitheGrid", name := "pay", desc := "(I)I" } : Jvm.MethodName)) ∈ zT := zT_2 99 rfl rfl
theorem q2_100 : (Jvm.Cond.code ({ cls := "TitheGrid", name := "pay", desc := "(I)I" } : Jvm.MethodName) prog_1_method_7_code (3 : Nat) (Option.some Jvm.ClassFile.FieldType.int)) ∈ zT := zT_2 100 rfl rfl
theorem q2_101 : (Jvm.Cond.methodLink "TitheGrid" (78 : Nat) ({ cls := "TitheGrid$Parishes", name := "exists", desc := "(I)Z" } : Jvm.MethodName)) ∈ zT := zT_2 101 rfl rfl
theorem q2_102 : (Jvm.Cond.methodLink "TitheGrid" (81 : Nat) ({ cls := "TitheGrid$State", name := "payTithes", desc := "(I)I" } : Jvm.MethodName)) ∈ zT := zT_2 102 rfl rfl
theorem q2_103 : (Jvm.Cond.instanceMethod ({ cls := "TitheGrid$State", name := "payTithes", desc := "(I)I" } : Jvm.MethodName)) ∈ zT := zT_2 103 rfl rfl
theorem q2_104 : (Jvm.Cond.selects "TitheGrid$State" ({ cls := "TitheGrid$State", name := "payTithes", desc := "(I)I" } : Jvm.MethodName) ({ cls := "TitheGrid$State", name := "payTithes", desc := "(I)I" } : Jvm.MethodName)) ∈ zT := zT_2 104 rfl rfl
theorem q2_105 : (Jvm.Cond.code ({ cls := "TitheGrid$State", name := "payTithes", desc := "(I)I" } : Jvm.MethodName) prog_6_method_14_code (6 : Nat) (Option.some Jvm.ClassFile.FieldType.int)) ∈ zT := zT_2 105 rfl rfl
theorem q2_106 : (Jvm.Cond.methodLink "TitheGrid$State" (148 : Nat) ({ cls := "TitheGrid$Debts", name := "firstCreditorOf", desc := "(I)I" } : Jvm.MethodName)) ∈ zT := zT_2 106 rfl rfl
theorem q2_107 : (Jvm.Cond.instanceMethod ({ cls := "TitheGrid$Debts", name := "firstCreditorOf", desc := "(I)I" } : Jvm.MethodName)) ∈ zT := zT_2 107 rfl rfl
theorem q2_108 : (Jvm.Cond.selects "TitheGrid$Debts" ({ cls := "TitheGrid$Debts", name := "firstCreditorOf", desc := "(I)I" } : Jvm.MethodName) ({ cls := "TitheGrid$Debts", name := "firstCreditorOf", desc := "(I)I" } : Jvm.MethodName)) ∈ zT := zT_2 108 rfl rfl
theorem q2_109 : (Jvm.Cond.code ({ cls := "TitheGrid$Debts", name := "firstCreditorOf", desc := "(I)I" } : Jvm.MethodName) prog_2_method_9_code (3 : Nat) (Option.some Jvm.ClassFile.FieldType.int)) ∈ zT := zT_2 109 rfl rfl
theorem q2_110 : (Jvm.Cond.methodLink "TitheGrid$Debts" (25 : Nat) ({ cls := "TitheGrid$Debts", name := "owed", desc := "(II)I" } : Jvm.MethodName)) ∈ zT := zT_2 110 rfl rfl
theorem q2_111 : (Jvm.Cond.instanceMethod ({ cls := "TitheGrid$Debts", name := "owed", desc := "(II)I" } : Jvm.MethodName)) ∈ zT := zT_2 111 rfl rfl
theorem q2_112 : (Jvm.Cond.selects "TitheGrid$Debts" ({ cls := "TitheGrid$Debts", name := "owed", desc := "(II)I" } : Jvm.MethodName) ({ cls := "TitheGrid$Debts", name := "owed", desc := "(II)I" } : Jvm.MethodName)) ∈ zT := zT_2 112 rfl rfl
theorem q2_113 : (Jvm.Cond.code ({ cls := "TitheGrid$Debts", name := "owed", desc := "(II)I" } : Jvm.MethodName) prog_2_method_3_code (3 : Nat) (Option.some Jvm.ClassFile.FieldType.int)) ∈ zT := zT_2 113 rfl rfl
theorem q2_114 : (Jvm.Cond.methodLink "TitheGrid$State" (151 : Nat) ({ cls := "TitheGrid$Points", name := "poorestUnder", desc := "(IIIII)I" } : Jvm.MethodName)) ∈ zT := zT_2 114 rfl rfl
theorem q2_115 : (Jvm.Cond.instanceMethod ({ cls := "TitheGrid$Points", name := "poorestUnder", desc := "(IIIII)I" } : Jvm.MethodName)) ∈ zT := zT_2 115 rfl rfl
theorem q2_116 : (Jvm.Cond.selects "TitheGrid$Points" ({ cls := "TitheGrid$Points", name := "poorestUnder", desc := "(IIIII)I" } : Jvm.MethodName) ({ cls := "TitheGrid$Points", name := "poorestUnder", desc := "(IIIII)I" } : Jvm.MethodName)) ∈ zT := zT_2 116 rfl rfl
theorem q2_117 : (Jvm.Cond.code ({ cls := "TitheGrid$Points", name := "poorestUnder", desc := "(IIIII)I" } : Jvm.MethodName) prog_5_method_22_code (10 : Nat) (Option.some Jvm.ClassFile.FieldType.int)) ∈ zT := zT_2 117 rfl rfl
theorem q2_118 : (Jvm.Cond.methodLink "TitheGrid$Points" (59 : Nat) ({ cls := "TitheGrid$Points", name := "lordOf", desc := "(I)I" } : Jvm.MethodName)) ∈ zT := zT_2 118 rfl rfl
theorem q2_119 : (Jvm.Cond.methodLink "TitheGridLaw" (39 : Nat) ({ cls := "TitheGrid", name := "join", desc := "(I)I" } : Jvm.MethodName)) ∈ zT := zT_2 119 rfl rfl
theorem q2_120 : (Jvm.Cond.instanceMethod ({ cls := "TitheGrid", name := "join", desc := "(I)I" } : Jvm.MethodName)) ∈ zT := zT_2 120 rfl rfl
theorem q2_121 : (Jvm.Cond.selects "TitheGrid" ({ cls := "TitheGrid", name := "join", desc := "(I)I" } : Jvm.MethodName) ({ cls := "TitheGrid", name := "join", desc := "(I)I" } : Jvm.MethodName)) ∈ zT := zT_2 121 rfl rfl
theorem q2_122 : (Jvm.Cond.code ({ cls := "TitheGrid", name := "join", desc := "(I)I" } : Jvm.MethodName) prog_1_method_8_code (3 : Nat) (Option.some Jvm.ClassFile.FieldType.int)) ∈ zT := zT_2 122 rfl rfl
theorem q2_123 : (Jvm.Cond.methodLink "TitheGrid" (85 : Nat) ({ cls := "TitheGrid$State", name := "canJoin", desc := "(I)Z" } : Jvm.MethodName)) ∈ zT := zT_2 123 rfl rfl
theorem q2_124 : (Jvm.Cond.instanceMethod ({ cls := "TitheGrid$State", name := "canJoin", desc := "(I)Z" } : Jvm.MethodName)) ∈ zT := zT_2 124 rfl rfl
theorem q2_125 : (Jvm.Cond.selects "TitheGrid$State" ({ cls := "TitheGrid$State", name := "canJoin", desc := "(I)Z" } : Jvm.MethodName) ({ cls := "TitheGrid$State", name := "canJoin", desc := "(I)Z" } : Jvm.MethodName)) ∈ zT := zT_2 125 rfl rfl
theorem q2_126 : (Jvm.Cond.code ({ cls := "TitheGrid$State", name := "canJoin", desc := "(I)Z" } : Jvm.MethodName) prog_6_method_16_code (8 : Nat) (Option.some Jvm.ClassFile.FieldType.boolean)) ∈ zT := zT_2 126 rfl rfl
theorem q2_127 : (Jvm.Cond.methodLink "TitheGrid$State" (163 : Nat) ({ cls := "TitheGrid$State", name := "leftAround", desc := "(I)I" } : Jvm.MethodName)) ∈ zT := zT_2 127 rfl rfl
theorem q2_129 : (Jvm.Cond.instanceMethod ({ cls := "TitheGrid$State", name := "leftAround", desc := "(I)I" } : Jvm.MethodName)) ∈ zT := zT_2 129 rfl rfl
theorem q2_130 : (Jvm.Cond.code ({ cls := "TitheGrid$State", name := "leftAround", desc := "(I)I" } : Jvm.MethodName) prog_6_method_20_code (2 : Nat) (Option.some Jvm.ClassFile.FieldType.int)) ∈ zT := zT_2 130 rfl rfl
theorem q2_131 : (Jvm.Cond.methodLink "TitheGrid$State" (166 : Nat) ({ cls := "TitheGrid$State", name := "topAround", desc := "(I)I" } : Jvm.MethodName)) ∈ zT := zT_2 131 rfl rfl
theorem q2_133 : (Jvm.Cond.instanceMethod ({ cls := "TitheGrid$State", name := "topAround", desc := "(I)I" } : Jvm.MethodName)) ∈ zT := zT_2 133 rfl rfl
theorem q2_134 : (Jvm.Cond.code ({ cls := "TitheGrid$State", name := "topAround", desc := "(I)I" } : Jvm.MethodName) prog_6_method_21_code (2 : Nat) (Option.some Jvm.ClassFile.FieldType.int)) ∈ zT := zT_2 134 rfl rfl
theorem q2_135 : (Jvm.Cond.methodLink "TitheGrid$State" (169 : Nat) ({ cls := "TitheGrid$State", name := "parishOfQuarter", desc := "(IIII)I" } : Jvm.MethodName)) ∈ zT := zT_2 135 rfl rfl
theorem q2_137 : (Jvm.Cond.instanceMethod ({ cls := "TitheGrid$State", name := "parishOfQuarter", desc := "(IIII)I" } : Jvm.MethodName)) ∈ zT := zT_2 137 rfl rfl
theorem q2_138 : (Jvm.Cond.code ({ cls := "TitheGrid$State", name := "parishOfQuarter", desc := "(IIII)I" } : Jvm.MethodName) prog_6_method_19_code (6 : Nat) (Option.some Jvm.ClassFile.FieldType.int)) ∈ zT := zT_2 138 rfl rfl
theorem q2_139 : (Jvm.Cond.methodLink "TitheGrid" (88 : Nat) ({ cls := "TitheGrid$State", name := "joinQuarters", desc := "(I)I" } : Jvm.MethodName)) ∈ zT := zT_2 139 rfl rfl
theorem q2_140 : (Jvm.Cond.instanceMethod ({ cls := "TitheGrid$State", name := "joinQuarters", desc := "(I)I" } : Jvm.MethodName)) ∈ zT := zT_2 140 rfl rfl
theorem q2_141 : (Jvm.Cond.selects "TitheGrid$State" ({ cls := "TitheGrid$State", name := "joinQuarters", desc := "(I)I" } : Jvm.MethodName) ({ cls := "TitheGrid$State", name := "joinQuarters", desc := "(I)I" } : Jvm.MethodName)) ∈ zT := zT_2 141 rfl rfl
theorem q2_142 : (Jvm.Cond.code ({ cls := "TitheGrid$State", name := "joinQuarters", desc := "(I)I" } : Jvm.MethodName) prog_6_method_17_code (7 : Nat) (Option.some Jvm.ClassFile.FieldType.int)) ∈ zT := zT_2 142 rfl rfl
theorem q2_143 : (Jvm.Cond.methodLink "TitheGrid$State" (158 : Nat) ({ cls := "java/lang/Math", name := "min", desc := "(II)I" } : Jvm.MethodName)) ∈ zT := zT_2 143 rfl rfl
theorem q2_144 : (Jvm.Cond.methodLink "TitheGrid$State" (172 : Nat) ({ cls := "TitheGrid$State", name := "absorb", desc := "(II)V" } : Jvm.MethodName)) ∈ zT := zT_2 144 rfl rfl
theorem q2_146 : (Jvm.Cond.instanceMethod ({ cls := "TitheGrid$State", name := "absorb", desc := "(II)V" } : Jvm.MethodName)) ∈ zT := zT_2 146 rfl rfl
theorem q2_147 : (Jvm.Cond.code ({ cls := "TitheGrid$State", name := "absorb", desc := "(II)V" } : Jvm.MethodName) prog_6_method_18_code (3 : Nat) (Option.none : Option Jvm.ClassFile.FieldType)) ∈ zT := zT_2 147 rfl rfl
theorem q2_148 : (Jvm.Cond.methodLink "TitheGrid$State" (175 : Nat) ({ cls := "TitheGrid$Debts", name := "passOn", desc := "(II)V" } : Jvm.MethodName)) ∈ zT := zT_2 148 rfl rfl
theorem q2_149 : (Jvm.Cond.instanceMethod ({ cls := "TitheGrid$Debts", name := "passOn", desc := "(II)V" } : Jvm.MethodName)) ∈ zT := zT_2 149 rfl rfl
theorem q2_150 : (Jvm.Cond.selects "TitheGrid$Debts" ({ cls := "TitheGrid$Debts", name := "passOn", desc := "(II)V" } : Jvm.MethodName) ({ cls := "TitheGrid$Debts", name := "passOn", desc := "(II)V" } : Jvm.MethodName)) ∈ zT := zT_2 150 rfl rfl
theorem q2_151 : (Jvm.Cond.code ({ cls := "TitheGrid$Debts", name := "passOn", desc := "(II)V" } : Jvm.MethodName) prog_2_method_10_code (4 : Nat) (Option.none : Option Jvm.ClassFile.FieldType)) ∈ zT := zT_2 151 rfl rfl
theorem q2_152 : (Jvm.Cond.methodLink "TitheGrid$Debts" (33 : Nat) ({ cls := "TitheGrid$Debts", name := "shift", desc := "(IIII)V" } : Jvm.MethodName)) ∈ zT := zT_2 152 rfl rfl
theorem q2_154 : (Jvm.Cond.instanceMethod ({ cls := "TitheGrid$Debts", name := "shift", desc := "(IIII)V" } : Jvm.MethodName)) ∈ zT := zT_2 154 rfl rfl
theorem q2_155 : (Jvm.Cond.code ({ cls := "TitheGrid$Debts", name := "shift", desc := "(IIII)V" } : Jvm.MethodName) prog_2_method_11_code (6 : Nat) (Option.none : Option Jvm.ClassFile.FieldType)) ∈ zT := zT_2 155 rfl rfl
theorem q2_156 : (Jvm.Cond.methodLink "TitheGrid$Debts" (37 : Nat) ({ cls := "TitheGrid$Debts", name := "change", desc := "(III)V" } : Jvm.MethodName)) ∈ zT := zT_2 156 rfl rfl
theorem q2_157 : (Jvm.Cond.methodLink "TitheGrid$State" (178 : Nat) ({ cls := "TitheGrid$Parishes", name := "dissolve", desc := "(I)V" } : Jvm.MethodName)) ∈ zT := zT_2 157 rfl rfl
theorem q2_158 : (Jvm.Cond.instanceMethod ({ cls := "TitheGrid$Parishes", name := "dissolve", desc := "(I)V" } : Jvm.MethodName)) ∈ zT := zT_2 158 rfl rfl
theorem q2_159 : (Jvm.Cond.selects "TitheGrid$Parishes" ({ cls := "TitheGrid$Parishes", name := "dissolve", desc := "(I)V" } : Jvm.MethodName) ({ cls := "TitheGrid$Parishes", name := "dissolve", desc := "(I)V" } : Jvm.MethodName)) ∈ zT := zT_2 159 rfl rfl
theorem q2_160 : (Jvm.Cond.code ({ cls := "TitheGrid$Parishes", name := "dissolve", desc := "(I)V" } : Jvm.MethodName) prog_4_method_13_code (2 : Nat) (Option.none : Option Jvm.ClassFile.FieldType)) ∈ zT := zT_2 160 rfl rfl
theorem q2_161 : (Jvm.Cond.methodLink "TitheGridLaw" (43 : Nat) ({ cls := "TitheGrid", name := "undo", desc := "()I" } : Jvm.MethodName)) ∈ zT := zT_2 161 rfl rfl
theorem q2_162 : (Jvm.Cond.instanceMethod ({ cls := "TitheGrid", name := "undo", desc := "()I" } : Jvm.MethodName)) ∈ zT := zT_2 162 rfl rfl
theorem q2_163 : (Jvm.Cond.selects "TitheGrid" ({ cls := "TitheGrid", name := "undo", desc := "()I" } : Jvm.MethodName) ({ cls := "TitheGrid", name := "undo", desc := "()I" } : Jvm.MethodName)) ∈ zT := zT_2 163 rfl rfl
theorem q2_164 : (Jvm.Cond.code ({ cls := "TitheGrid", name := "undo", desc := "()I" } : Jvm.MethodName) prog_1_method_9_code (1 : Nat) (Option.some Jvm.ClassFile.FieldType.int)) ∈ zT := zT_2 164 rfl rfl
theorem q2_165 : (Jvm.Cond.methodLink "TitheGrid" (91 : Nat) ({ cls := "TitheGrid$History", name := "isEmpty", desc := "()Z" } : Jvm.MethodName)) ∈ zT := zT_2 165 rfl rfl
theorem q2_166 : (Jvm.Cond.instanceMethod ({ cls := "TitheGrid$History", name := "isEmpty", desc := "()Z" } : Jvm.MethodName)) ∈ zT := zT_2 166 rfl rfl
theorem q2_167 : (Jvm.Cond.selects "TitheGrid$History" ({ cls := "TitheGrid$History", name := "isEmpty", desc := "()Z" } : Jvm.MethodName) ({ cls := "TitheGrid$History", name := "isEmpty", desc := "()Z" } : Jvm.MethodName)) ∈ zT := zT_2 167 rfl rfl
theorem q2_168 : (Jvm.Cond.code ({ cls := "TitheGrid$History", name := "isEmpty", desc := "()Z" } : Jvm.MethodName) prog_3_method_2_code (1 : Nat) (Option.some Jvm.ClassFile.FieldType.boolean)) ∈ zT := zT_2 168 rfl rfl
theorem q2_169 : (Jvm.Cond.methodLink "TitheGrid" (94 : Nat) ({ cls := "TitheGrid$History", name := "restoreInto", desc := "(LTitheGrid$State;)V" } : Jvm.MethodName)) ∈ zT := zT_2 169 rfl rfl
theorem q2_170 : (Jvm.Cond.instanceMethod ({ cls := "TitheGrid$History", name := "restoreInto", desc := "(LTitheGrid$State;)V" } : Jvm.MethodName)) ∈ zT := zT_2 170 rfl rfl
theorem q2_171 : (Jvm.Cond.selects "TitheGrid$History" ({ cls := "TitheGrid$History", name := "restoreInto", desc := "(LTitheGrid$State;)V" } : Jvm.MethodName) ({ cls := "TitheGrid$History", name := "restoreInto", desc := "(LTitheGrid$State;)V" } : Jvm.MethodName)) ∈ zT := zT_2 171 rfl rfl
theorem q2_172 : (Jvm.Cond.code ({ cls := "TitheGrid$History", name := "restoreInto", desc := "(LTitheGrid$State;)V" } : Jvm.MethodName) prog_3_method_5_code (4 : Nat) (Option.none : Option Jvm.ClassFile.FieldType)) ∈ zT := zT_2 172 rfl rfl
theorem q2_173 : (Jvm.Cond.methodLink "TitheGrid$History" (32 : Nat) ({ cls := "java/lang/Math", name := "max", desc := "(II)I" } : Jvm.MethodName)) ∈ zT := zT_2 173 rfl rfl
theorem q2_174 : (Jvm.Cond.static ({ cls := "java/lang/Math", name := "max", desc := "(II)I" } : Jvm.MethodName)) ∈ zT := zT_2 174 rfl rfl
theorem q2_175 : (Jvm.Cond.code ({ cls := "java/lang/Math", name := "max", desc := "(II)I" } : Jvm.MethodName) prog_9_method_65_code (2 : Nat) (Option.some Jvm.ClassFile.FieldType.int)) ∈ zT := zT_2 175 rfl rfl
theorem q2_176 : (Jvm.Cond.methodLink "TitheGrid" (97 : Nat) ({ cls := "TitheGrid$History", name := "number", desc := "()I" } : Jvm.MethodName)) ∈ zT := zT_2 176 rfl rfl
theorem q2_177 : (Jvm.Cond.instanceMethod ({ cls := "TitheGrid$History", name := "number", desc := "()I" } : Jvm.MethodName)) ∈ zT := zT_2 177 rfl rfl
theorem q2_178 : (Jvm.Cond.selects "TitheGrid$History" ({ cls := "TitheGrid$History", name := "number", desc := "()I" } : Jvm.MethodName) ({ cls := "TitheGrid$History", name := "number", desc := "()I" } : Jvm.MethodName)) ∈ zT := zT_2 178 rfl rfl
theorem q2_179 : (Jvm.Cond.code ({ cls := "TitheGrid$History", name := "number", desc := "()I" } : Jvm.MethodName) prog_3_method_3_code (1 : Nat) (Option.some Jvm.ClassFile.FieldType.int)) ∈ zT := zT_2 179 rfl rfl
theorem q2_180 : (Jvm.Cond.methodLink "TitheGridLaw" (48 : Nat) ({ cls := "TitheGrid", name := "count", desc := "(I)I" } : Jvm.MethodName)) ∈ zT := zT_2 180 rfl rfl
theorem q2_181 : (Jvm.Cond.instanceMethod ({ cls := "TitheGrid", name := "count", desc := "(I)I" } : Jvm.MethodName)) ∈ zT := zT_2 181 rfl rfl
theorem q2_182 : (Jvm.Cond.selects "TitheGrid" ({ cls := "TitheGrid", name := "count", desc := "(I)I" } : Jvm.MethodName) ({ cls := "TitheGrid", name := "count", desc := "(I)I" } : Jvm.MethodName)) ∈ zT := zT_2 182 rfl rfl
theorem q2_183 : (Jvm.Cond.code ({ cls := "TitheGrid", name := "count", desc := "(I)I" } : Jvm.MethodName) prog_1_method_10_code (2 : Nat) (Option.some Jvm.ClassFile.FieldType.int)) ∈ zT := zT_2 183 rfl rfl
theorem q2_184 : (Jvm.Cond.methodLink "TitheGrid" (98 : Nat) ({ cls := "TitheGrid$Points", name := "numberAdded", desc := "()I" } : Jvm.MethodName)) ∈ zT := zT_2 184 rfl rfl
theorem q2_185 : (Jvm.Cond.instanceMethod ({ cls := "TitheGrid$Points", name := "numberAdded", desc := "()I" } : Jvm.MethodName)) ∈ zT := zT_2 185 rfl rfl
theorem q2_186 : (Jvm.Cond.selects "TitheGrid$Points" ({ cls := "TitheGrid$Points", name := "numberAdded", desc := "()I" } : Jvm.MethodName) ({ cls := "TitheGrid$Points", name := "numberAdded", desc := "()I" } : Jvm.MethodName)) ∈ zT := zT_2 186 rfl rfl
theorem q2_187 : (Jvm.Cond.code ({ cls := "TitheGrid$Points", name := "numberAdded", desc := "()I" } : Jvm.MethodName) prog_5_method_5_code (1 : Nat) (Option.some Jvm.ClassFile.FieldType.int)) ∈ zT := zT_2 187 rfl rfl
theorem q2_188 : (Jvm.Cond.methodLink "TitheGrid" (101 : Nat) ({ cls := "TitheGrid$Parishes", name := "number", desc := "()I" } : Jvm.MethodName)) ∈ zT := zT_2 188 rfl rfl
theorem q2_189 : (Jvm.Cond.instanceMethod ({ cls := "TitheGrid$Parishes", name := "number", desc := "()I" } : Jvm.MethodName)) ∈ zT := zT_2 189 rfl rfl
theorem q2_190 : (Jvm.Cond.selects "TitheGrid$Parishes" ({ cls := "TitheGrid$Parishes", name := "number", desc := "()I" } : Jvm.MethodName) ({ cls := "TitheGrid$Parishes", name := "number", desc := "()I" } : Jvm.MethodName)) ∈ zT := zT_2 190 rfl rfl
theorem q2_191 : (Jvm.Cond.code ({ cls := "TitheGrid$Parishes", name := "number", desc := "()I" } : Jvm.MethodName) prog_4_method_5_code (1 : Nat) (Option.some Jvm.ClassFile.FieldType.int)) ∈ zT := zT_2 191 rfl rfl
theorem q2_192 : (Jvm.Cond.methodLink "TitheGrid$Parishes" (35 : Nat) ({ cls := "TitheGrid$Parishes", name := "numberTouching", desc := "(IIII)I" } : Jvm.MethodName)) ∈ zT := zT_2 192 rfl rfl
theorem q2_193 : (Jvm.Cond.instanceMethod ({ cls := "TitheGrid$Parishes", name := "numberTouching", desc := "(IIII)I" } : Jvm.MethodName)) ∈ zT := zT_2 193 rfl rfl
theorem q2_194 : (Jvm.Cond.selects "TitheGrid$Parishes" ({ cls := "TitheGrid$Parishes", name := "numberTouching", desc := "(IIII)I" } : Jvm.MethodName) ({ cls := "TitheGrid$Parishes", name := "numberTouching", desc := "(IIII)I" } : Jvm.MethodName)) ∈ zT := zT_2 194 rfl rfl
theorem q2_195 : (Jvm.Cond.code ({ cls := "TitheGrid$Parishes", name := "numberTouching", desc := "(IIII)I" } : Jvm.MethodName) prog_4_method_16_code (7 : Nat) (Option.some Jvm.ClassFile.FieldType.int)) ∈ zT := zT_2 195 rfl rfl
theorem q2_196 : (Jvm.Cond.methodLink "TitheGrid" (102 : Nat) ({ cls := "TitheGrid$Parishes", name := "numberFounded", desc := "()I" } : Jvm.MethodName)) ∈ zT := zT_2 196 rfl rfl
theorem q2_197 : (Jvm.Cond.methodLink "TitheGrid" (109 : Nat) ({ cls := "TitheGrid$Debts", name := "sum", desc := "()I" } : Jvm.MethodName)) ∈ zT := zT_2 197 rfl rfl
theorem q2_198 : (Jvm.Cond.instanceMethod ({ cls := "TitheGrid$Debts", name := "sum", desc := "()I" } : Jvm.MethodName)) ∈ zT := zT_2 198 rfl rfl
theorem q2_199 : (Jvm.Cond.selects "TitheGrid$Debts" ({ cls := "TitheGrid$Debts", name := "sum", desc := "()I" } : Jvm.MethodName) ({ cls := "TitheGrid$Debts", name := "sum", desc := "()I" } : Jvm.MethodName)) ∈ zT := zT_2 199 rfl rfl
theorem q2_200 : (Jvm.Cond.code ({ cls := "TitheGrid$Debts", name := "sum", desc := "()I" } : Jvm.MethodName) prog_2_method_8_code (3 : Nat) (Option.some Jvm.ClassFile.FieldType.int)) ∈ zT := zT_2 200 rfl rfl
theorem q2_201 : (Jvm.Cond.methodLink "TitheGrid$Debts" (29 : Nat) ({ cls := "TitheGrid$Debts", name := "owedBy", desc := "(I)I" } : Jvm.MethodName)) ∈ zT := zT_2 201 rfl rfl
theorem q2_202 : (Jvm.Cond.instanceMethod ({ cls := "TitheGrid$Debts", name := "owedBy", desc := "(I)I" } : Jvm.MethodName)) ∈ zT := zT_2 202 rfl rfl
theorem q2_203 : (Jvm.Cond.selects "TitheGrid$Debts" ({ cls := "TitheGrid$Debts", name := "owedBy", desc := "(I)I" } : Jvm.MethodName) ({ cls := "TitheGrid$Debts", name := "owedBy", desc := "(I)I" } : Jvm.MethodName)) ∈ zT := zT_2 203 rfl rfl
theorem q2_204 : (Jvm.Cond.code ({ cls := "TitheGrid$Debts", name := "owedBy", desc := "(I)I" } : Jvm.MethodName) prog_2_method_6_code (4 : Nat) (Option.some Jvm.ClassFile.FieldType.int)) ∈ zT := zT_2 204 rfl rfl
theorem q2_205 : (Jvm.Cond.methodLink "TitheGrid" (114 : Nat) ({ cls := "TitheGrid$State", name := "pointsWithLordElsewhere", desc := "()I" } : Jvm.MethodName)) ∈ zT := zT_2 205 rfl rfl
theorem q2_206 : (Jvm.Cond.instanceMethod ({ cls := "TitheGrid$State", name := "pointsWithLordElsewhere", desc := "()I" } : Jvm.MethodName)) ∈ zT := zT_2 206 rfl rfl
theorem q2_207 : (Jvm.Cond.selects "TitheGrid$State" ({ cls := "TitheGrid$State", name := "pointsWithLordElsewhere", desc := "()I" } : Jvm.MethodName) ({ cls := "TitheGrid$State", name := "pointsWithLordElsewhere", desc := "()I" } : Jvm.MethodName)) ∈ zT := zT_2 207 rfl rfl
theorem q2_208 : (Jvm.Cond.code ({ cls := "TitheGrid$State", name := "pointsWithLordElsewhere", desc := "()I" } : Jvm.MethodName) prog_6_method_7_code (3 : Nat) (Option.some Jvm.ClassFile.FieldType.int)) ∈ zT := zT_2 208 rfl rfl
theorem q2_209 : (Jvm.Cond.methodLink "TitheGrid$State" (93 : Nat) ({ cls := "TitheGrid$Points", name := "exists", desc := "(I)Z" } : Jvm.MethodName)) ∈ zT := zT_2 209 rfl rfl
theorem q2_210 : (Jvm.Cond.methodLink "TitheGrid" (117 : Nat) ({ cls := "TitheGrid$Parishes", name := "greatestScale", desc := "()I" } : Jvm.MethodName)) ∈ zT := zT_2 210 rfl rfl
theorem q2_211 : (Jvm.Cond.instanceMethod ({ cls := "TitheGrid$Parishes", name := "greatestScale", desc := "()I" } : Jvm.MethodName)) ∈ zT := zT_2 211 rfl rfl
theorem q2_212 : (Jvm.Cond.selects "TitheGrid$Parishes" ({ cls := "TitheGrid$Parishes", name := "greatestScale", desc := "()I" } : Jvm.MethodName) ({ cls := "TitheGrid$Parishes", name := "greatestScale", desc := "()I" } : Jvm.MethodName)) ∈ zT := zT_2 212 rfl rfl
theorem q2_213 : (Jvm.Cond.code ({ cls := "TitheGrid$Parishes", name := "greatestScale", desc := "()I" } : Jvm.MethodName) prog_4_method_17_code (3 : Nat) (Option.some Jvm.ClassFile.FieldType.int)) ∈ zT := zT_2 213 rfl rfl
theorem q2_214 : (Jvm.Cond.methodLink "TitheGrid$Parishes" (68 : Nat) ({ cls := "java/lang/Math", name := "max", desc := "(II)I" } : Jvm.MethodName)) ∈ zT := zT_2 214 rfl rfl
theorem q2_215 : (Jvm.Cond.methodLink "TitheGrid" (120 : Nat) ({ cls := "TitheGrid$Points", name := "wealthIn", desc := "(IIII)I" } : Jvm.MethodName)) ∈ zT := zT_2 215 rfl rfl
theorem q2_216 : (Jvm.Cond.instanceMethod ({ cls := "TitheGrid$Points", name := "wealthIn", desc := "(IIII)I" } : Jvm.MethodName)) ∈ zT := zT_2 216 rfl rfl
theorem q2_217 : (Jvm.Cond.selects "TitheGrid$Points" ({ cls := "TitheGrid$Points", name := "wealthIn", desc := "(IIII)I" } : Jvm.MethodName) ({ cls := "TitheGrid$Points", name := "wealthIn", desc := "(IIII)I" } : Jvm.MethodName)) ∈ zT := zT_2 217 rfl rfl
theorem q2_218 : (Jvm.Cond.code ({ cls := "TitheGrid$Points", name := "wealthIn", desc := "(IIII)I" } : Jvm.MethodName) prog_5_method_17_code (7 : Nat) (Option.some Jvm.ClassFile.FieldType.int)) ∈ zT := zT_2 218 rfl rfl
theorem q2_219 : (Jvm.Cond.methodLink "TitheGridLaw" (52 : Nat) ({ cls := "TitheGrid", name := "point", desc := "(II)I" } : Jvm.MethodName)) ∈ zT := zT_2 219 rfl rfl
theorem q2_220 : (Jvm.Cond.instanceMethod ({ cls := "TitheGrid", name := "point", desc := "(II)I" } : Jvm.MethodName)) ∈ zT := zT_2 220 rfl rfl
theorem q2_221 : (Jvm.Cond.selects "TitheGrid" ({ cls := "TitheGrid", name := "point", desc := "(II)I" } : Jvm.MethodName) ({ cls := "TitheGrid", name := "point", desc := "(II)I" } : Jvm.MethodName)) ∈ zT := zT_2 221 rfl rfl
theorem q2_222 : (Jvm.Cond.code ({ cls := "TitheGrid", name := "point", desc := "(II)I" } : Jvm.MethodName) prog_1_method_11_code (3 : Nat) (Option.some Jvm.ClassFile.FieldType.int)) ∈ zT := zT_2 222 rfl rfl
theorem q2_223 : (Jvm.Cond.methodLink "TitheGrid" (124 : Nat) ({ cls := "TitheGrid$Points", name := "xOf", desc := "(I)I" } : Jvm.MethodName)) ∈ zT := zT_2 223 rfl rfl
theorem q2_224 : (Jvm.Cond.methodLink "TitheGrid" (127 : Nat) ({ cls := "TitheGrid$Points", name := "yOf", desc := "(I)I" } : Jvm.MethodName)) ∈ zT := zT_2 224 rfl rfl
theorem q2_225 : (Jvm.Cond.methodLink "TitheGrid" (130 : Nat) ({ cls := "TitheGrid$Points", name := "wealthOf", desc := "(I)I" } : Jvm.MethodName)) ∈ zT := zT_2 225 rfl rfl
theorem q2_226 : (Jvm.Cond.instanceMethod ({ cls := "TitheGrid$Points", name := "wealthOf", desc := "(I)I" } : Jvm.MethodName)) ∈ zT := zT_2 226 rfl rfl
theorem q2_227 : (Jvm.Cond.selects "TitheGrid$Points" ({ cls := "TitheGrid$Points", name := "wealthOf", desc := "(I)I" } : Jvm.MethodName) ({ cls := "TitheGrid$Points", name := "wealthOf", desc := "(I)I" } : Jvm.MethodName)) ∈ zT := zT_2 227 rfl rfl
theorem q2_228 : (Jvm.Cond.code ({ cls := "TitheGrid$Points", name := "wealthOf", desc := "(I)I" } : Jvm.MethodName) prog_5_method_8_code (2 : Nat) (Option.some Jvm.ClassFile.FieldType.int)) ∈ zT := zT_2 228 rfl rfl
theorem q2_229 : (Jvm.Cond.methodLink "TitheGrid" (133 : Nat) ({ cls := "TitheGrid$State", name := "parishAround", desc := "(I)I" } : Jvm.MethodName)) ∈ zT := zT_2 229 rfl rfl
theorem q2_230 : (Jvm.Cond.methodLink "TitheGrid" (136 : Nat) ({ cls := "TitheGrid$Points", name := "lordOf", desc := "(I)I" } : Jvm.MethodName)) ∈ zT := zT_2 230 rfl rfl
theorem q2_231 : (Jvm.Cond.methodLink "TitheGridLaw" (57 : Nat) ({ cls := "TitheGrid", name := "parish", desc := "(II)I" } : Jvm.MethodName)) ∈ zT := zT_2 231 rfl rfl
theorem q2_232 : (Jvm.Cond.instanceMethod ({ cls := "TitheGrid", name := "parish", desc := "(II)I" } : Jvm.MethodName)) ∈ zT := zT_2 232 rfl rfl
theorem q2_233 : (Jvm.Cond.selects "TitheGrid" ({ cls := "TitheGrid", name := "parish", desc := "(II)I" } : Jvm.MethodName) ({ cls := "TitheGrid", name := "parish", desc := "(II)I" } : Jvm.MethodName)) ∈ zT := zT_2 233 rfl rfl
theorem q2_234 : (Jvm.Cond.code ({ cls := "TitheGrid", name := "parish", desc := "(II)I" } : Jvm.MethodName) prog_1_method_12_code (3 : Nat) (Option.some Jvm.ClassFile.FieldType.int)) ∈ zT := zT_2 234 rfl rfl
theorem q2_235 : (Jvm.Cond.methodLink "TitheGrid" (139 : Nat) ({ cls := "TitheGrid$Parishes", name := "leftOf", desc := "(I)I" } : Jvm.MethodName)) ∈ zT := zT_2 235 rfl rfl
theorem q2_236 : (Jvm.Cond.methodLink "TitheGrid" (142 : Nat) ({ cls := "TitheGrid$Parishes", name := "topOf", desc := "(I)I" } : Jvm.MethodName)) ∈ zT := zT_2 236 rfl rfl
theorem q2_237 : (Jvm.Cond.methodLink "TitheGrid" (145 : Nat) ({ cls := "TitheGrid$Parishes", name := "scaleOf", desc := "(I)I" } : Jvm.MethodName)) ∈ zT := zT_2 237 rfl rfl
theorem q2_238 : (Jvm.Cond.methodLink "TitheGrid" (148 : Nat) ({ cls := "TitheGrid$State", name := "pointsIn", desc := "(I)I" } : Jvm.MethodName)) ∈ zT := zT_2 238 rfl rfl
theorem q2_239 : (Jvm.Cond.methodLink "TitheGrid" (151 : Nat) ({ cls := "TitheGrid$Points", name := "numberUnder", desc := "(I)I" } : Jvm.MethodName)) ∈ zT := zT_2 239 rfl rfl
theorem q3_0 : (Jvm.Cond.instanceMethod ({ cls := "TitheGrid$Points", name := "numberUnder", desc := "(I)I" } : Jvm.MethodName)) ∈ zT := zT_3 0 rfl rfl
theorem q3_1 : (Jvm.Cond.selects "TitheGrid$Points" ({ cls := "TitheGrid$Points", name := "numberUnder", desc := "(I)I" } : Jvm.MethodName) ({ cls := "TitheGrid$Points", name := "numberUnder", desc := "(I)I" } : Jvm.MethodName)) ∈ zT := zT_3 1 rfl rfl
theorem q3_2 : (Jvm.Cond.code ({ cls := "TitheGrid$Points", name := "numberUnder", desc := "(I)I" } : Jvm.MethodName) prog_5_method_20_code (4 : Nat) (Option.some Jvm.ClassFile.FieldType.int)) ∈ zT := zT_3 2 rfl rfl
theorem q3_3 : (Jvm.Cond.methodLink "TitheGrid" (154 : Nat) ({ cls := "TitheGrid$Points", name := "wealthUnder", desc := "(I)I" } : Jvm.MethodName)) ∈ zT := zT_3 3 rfl rfl
theorem q3_4 : (Jvm.Cond.instanceMethod ({ cls := "TitheGrid$Points", name := "wealthUnder", desc := "(I)I" } : Jvm.MethodName)) ∈ zT := zT_3 4 rfl rfl
theorem q3_5 : (Jvm.Cond.selects "TitheGrid$Points" ({ cls := "TitheGrid$Points", name := "wealthUnder", desc := "(I)I" } : Jvm.MethodName) ({ cls := "TitheGrid$Points", name := "wealthUnder", desc := "(I)I" } : Jvm.MethodName)) ∈ zT := zT_3 5 rfl rfl
theorem q3_6 : (Jvm.Cond.code ({ cls := "TitheGrid$Points", name := "wealthUnder", desc := "(I)I" } : Jvm.MethodName) prog_5_method_21_code (4 : Nat) (Option.some Jvm.ClassFile.FieldType.int)) ∈ zT := zT_3 6 rfl rfl
theorem q3_7 : (Jvm.Cond.methodLink "TitheGrid" (157 : Nat) ({ cls := "TitheGrid$Debts", name := "owedBy", desc := "(I)I" } : Jvm.MethodName)) ∈ zT := zT_3 7 rfl rfl
theorem q3_8 : (Jvm.Cond.methodLink "TitheGrid" (160 : Nat) ({ cls := "TitheGrid$Debts", name := "owedTo", desc := "(I)I" } : Jvm.MethodName)) ∈ zT := zT_3 8 rfl rfl
theorem q3_9 : (Jvm.Cond.instanceMethod ({ cls := "TitheGrid$Debts", name := "owedTo", desc := "(I)I" } : Jvm.MethodName)) ∈ zT := zT_3 9 rfl rfl
theorem q3_10 : (Jvm.Cond.selects "TitheGrid$Debts" ({ cls := "TitheGrid$Debts", name := "owedTo", desc := "(I)I" } : Jvm.MethodName) ({ cls := "TitheGrid$Debts", name := "owedTo", desc := "(I)I" } : Jvm.MethodName)) ∈ zT := zT_3 10 rfl rfl
theorem q3_11 : (Jvm.Cond.code ({ cls := "TitheGrid$Debts", name := "owedTo", desc := "(I)I" } : Jvm.MethodName) prog_2_method_7_code (4 : Nat) (Option.some Jvm.ClassFile.FieldType.int)) ∈ zT := zT_3 11 rfl rfl
theorem q3_12 : (Jvm.Cond.methodLink "TitheGridLaw" (61 : Nat) ({ cls := "TitheGrid", name := "debt", desc := "(II)I" } : Jvm.MethodName)) ∈ zT := zT_3 12 rfl rfl
theorem q3_13 : (Jvm.Cond.instanceMethod ({ cls := "TitheGrid", name := "debt", desc := "(II)I" } : Jvm.MethodName)) ∈ zT := zT_3 13 rfl rfl
theorem q3_14 : (Jvm.Cond.selects "TitheGrid" ({ cls := "TitheGrid", name := "debt", desc := "(II)I" } : Jvm.MethodName) ({ cls := "TitheGrid", name := "debt", desc := "(II)I" } : Jvm.MethodName)) ∈ zT := zT_3 14 rfl rfl
theorem q3_15 : (Jvm.Cond.code ({ cls := "TitheGrid", name := "debt", desc := "(II)I" } : Jvm.MethodName) prog_1_method_13_code (3 : Nat) (Option.some Jvm.ClassFile.FieldType.int)) ∈ zT := zT_3 15 rfl rfl
theorem q3_16 : (Jvm.Cond.methodLink "TitheGrid" (163 : Nat) ({ cls := "TitheGrid$Debts", name := "owed", desc := "(II)I" } : Jvm.MethodName)) ∈ zT := zT_3 16 rfl rfl
theorem q3_17 : (Jvm.Cond.methodLink "TitheGridLaw" (65 : Nat) ({ cls := "TitheGrid", name := "at", desc := "(II)I" } : Jvm.MethodName)) ∈ zT := zT_3 17 rfl rfl
theorem q3_18 : (Jvm.Cond.instanceMethod ({ cls := "TitheGrid", name := "at", desc := "(II)I" } : Jvm.MethodName)) ∈ zT := zT_3 18 rfl rfl
theorem q3_19 : (Jvm.Cond.selects "TitheGrid" ({ cls := "TitheGrid", name := "at", desc := "(II)I" } : Jvm.MethodName) ({ cls := "TitheGrid", name := "at", desc := "(II)I" } : Jvm.MethodName)) ∈ zT := zT_3 19 rfl rfl
theorem q3_20 : (Jvm.Cond.code ({ cls := "TitheGrid", name := "at", desc := "(II)I" } : Jvm.MethodName) prog_1_method_14_code (3 : Nat) (Option.some Jvm.ClassFile.FieldType.int)) ∈ zT := zT_3 20 rfl rfl
theorem q3_21 : (Jvm.Cond.methodLink "TitheGrid" (167 : Nat) ({ cls := "TitheGrid$Parishes", name := "parishAt", desc := "(II)I" } : Jvm.MethodName)) ∈ zT := zT_3 21 rfl rfl
theorem q3_22 : (Jvm.Cond.methodLink "TitheGridLaw" (69 : Nat) ({ cls := "TitheGrid", name := "range", desc := "(IIIII)I" } : Jvm.MethodName)) ∈ zT := zT_3 22 rfl rfl
theorem q3_23 : (Jvm.Cond.instanceMethod ({ cls := "TitheGrid", name := "range", desc := "(IIIII)I" } : Jvm.MethodName)) ∈ zT := zT_3 23 rfl rfl
theorem q3_24 : (Jvm.Cond.selects "TitheGrid" ({ cls := "TitheGrid", name := "range", desc := "(IIIII)I" } : Jvm.MethodName) ({ cls := "TitheGrid", name := "range", desc := "(IIIII)I" } : Jvm.MethodName)) ∈ zT := zT_3 24 rfl rfl
theorem q3_25 : (Jvm.Cond.code ({ cls := "TitheGrid", name := "range", desc := "(IIIII)I" } : Jvm.MethodName) prog_1_method_15_code (6 : Nat) (Option.some Jvm.ClassFile.FieldType.int)) ∈ zT := zT_3 25 rfl rfl
theorem q3_26 : (Jvm.Cond.methodLink "TitheGrid" (170 : Nat) ({ cls := "TitheGrid$Points", name := "numberIn", desc := "(IIII)I" } : Jvm.MethodName)) ∈ zT := zT_3 26 rfl rfl
theorem q3_27 : (Jvm.Cond.methodLink "TitheGrid" (173 : Nat) ({ cls := "TitheGrid$Parishes", name := "numberTouching", desc := "(IIII)I" } : Jvm.MethodName)) ∈ zT := zT_3 27 rfl rfl
theorem q3_28 : (Jvm.Cond.methodLink "TitheGrid" (176 : Nat) ({ cls := "TitheGrid$Points", name := "richestIn", desc := "(IIII)I" } : Jvm.MethodName)) ∈ zT := zT_3 28 rfl rfl
theorem q3_29 : (Jvm.Cond.instanceMethod ({ cls := "TitheGrid$Points", name := "richestIn", desc := "(IIII)I" } : Jvm.MethodName)) ∈ zT := zT_3 29 rfl rfl
theorem q3_30 : (Jvm.Cond.selects "TitheGrid$Points" ({ cls := "TitheGrid$Points", name := "richestIn", desc := "(IIII)I" } : Jvm.MethodName) ({ cls := "TitheGrid$Points", name := "richestIn", desc := "(IIII)I" } : Jvm.MethodName)) ∈ zT := zT_3 30 rfl rfl
theorem q3_31 : (Jvm.Cond.code ({ cls := "TitheGrid$Points", name := "richestIn", desc := "(IIII)I" } : Jvm.MethodName) prog_5_method_18_code (7 : Nat) (Option.some Jvm.ClassFile.FieldType.int)) ∈ zT := zT_3 31 rfl rfl
theorem q3_32 : (Jvm.Cond.methodLink "TitheGrid$Points" (50 : Nat) ({ cls := "TitheGrid$Points", name := "wealthOf", desc := "(I)I" } : Jvm.MethodName)) ∈ zT := zT_3 32 rfl rfl
theorem q3_33 : (Jvm.Cond.methodLink "TitheGridLaw" (74 : Nat) ({ cls := "TitheGrid", name := "nearest", desc := "(II)I" } : Jvm.MethodName)) ∈ zT := zT_3 33 rfl rfl
theorem q3_34 : (Jvm.Cond.instanceMethod ({ cls := "TitheGrid", name := "nearest", desc := "(II)I" } : Jvm.MethodName)) ∈ zT := zT_3 34 rfl rfl
theorem q3_35 : (Jvm.Cond.selects "TitheGrid" ({ cls := "TitheGrid", name := "nearest", desc := "(II)I" } : Jvm.MethodName) ({ cls := "TitheGrid", name := "nearest", desc := "(II)I" } : Jvm.MethodName)) ∈ zT := zT_3 35 rfl rfl
theorem q3_36 : (Jvm.Cond.code ({ cls := "TitheGrid", name := "nearest", desc := "(II)I" } : Jvm.MethodName) prog_1_method_16_code (3 : Nat) (Option.some Jvm.ClassFile.FieldType.int)) ∈ zT := zT_3 36 rfl rfl
theorem q3_37 : (Jvm.Cond.methodLink "TitheGrid" (179 : Nat) ({ cls := "TitheGrid$Points", name := "nearestTo", desc := "(II)I" } : Jvm.MethodName)) ∈ zT := zT_3 37 rfl rfl
theorem q3_38 : (Jvm.Cond.instanceMethod ({ cls := "TitheGrid$Points", name := "nearestTo", desc := "(II)I" } : Jvm.MethodName)) ∈ zT := zT_3 38 rfl rfl
theorem q3_39 : (Jvm.Cond.selects "TitheGrid$Points" ({ cls := "TitheGrid$Points", name := "nearestTo", desc := "(II)I" } : Jvm.MethodName) ({ cls := "TitheGrid$Points", name := "nearestTo", desc := "(II)I" } : Jvm.MethodName)) ∈ zT := zT_3 39 rfl rfl
theorem q3_40 : (Jvm.Cond.code ({ cls := "TitheGrid$Points", name := "nearestTo", desc := "(II)I" } : Jvm.MethodName) prog_5_method_19_code (7 : Nat) (Option.some Jvm.ClassFile.FieldType.int)) ∈ zT := zT_3 40 rfl rfl
theorem q3_41 : (Jvm.Cond.methodLink "TitheGrid$Points" (54 : Nat) ({ cls := "java/lang/Math", name := "abs", desc := "(I)I" } : Jvm.MethodName)) ∈ zT := zT_3 41 rfl rfl
theorem q3_42 : (Jvm.Cond.static ({ cls := "java/lang/Math", name := "abs", desc := "(I)I" } : Jvm.MethodName)) ∈ zT := zT_3 42 rfl rfl
theorem q3_43 : (Jvm.Cond.code ({ cls := "java/lang/Math", name := "abs", desc := "(I)I" } : Jvm.MethodName) prog_9_method_59_code (1 : Nat) (Option.some Jvm.ClassFile.FieldType.int)) ∈ zT := zT_3 43 rfl rfl
theorem q3_44 : (Jvm.Cond.methodLink "TitheGridLaw" (78 : Nat) ({ cls := "TitheGrid", name := "inOrder", desc := "(I)I" } : Jvm.MethodName)) ∈ zT := zT_3 44 rfl rfl
theorem q3_45 : (Jvm.Cond.instanceMethod ({ cls := "TitheGrid", name := "inOrder", desc := "(I)I" } : Jvm.MethodName)) ∈ zT := zT_3 45 rfl rfl
theorem q3_46 : (Jvm.Cond.selects "TitheGrid" ({ cls := "TitheGrid", name := "inOrder", desc := "(I)I" } : Jvm.MethodName) ({ cls := "TitheGrid", name := "inOrder", desc := "(I)I" } : Jvm.MethodName)) ∈ zT := zT_3 46 rfl rfl
theorem q3_47 : (Jvm.Cond.code ({ cls := "TitheGrid", name := "inOrder", desc := "(I)I" } : Jvm.MethodName) prog_1_method_17_code (2 : Nat) (Option.some Jvm.ClassFile.FieldType.int)) ∈ zT := zT_3 47 rfl rfl
theorem q3_48 : (Jvm.Cond.methodLink "TitheGrid" (182 : Nat) ({ cls := "TitheGrid$Parishes", name := "withNumberBefore", desc := "(I)I" } : Jvm.MethodName)) ∈ zT := zT_3 48 rfl rfl
theorem q3_49 : (Jvm.Cond.instanceMethod ({ cls := "TitheGrid$Parishes", name := "withNumberBefore", desc := "(I)I" } : Jvm.MethodName)) ∈ zT := zT_3 49 rfl rfl
theorem q3_50 : (Jvm.Cond.selects "TitheGrid$Parishes" ({ cls := "TitheGrid$Parishes", name := "withNumberBefore", desc := "(I)I" } : Jvm.MethodName) ({ cls := "TitheGrid$Parishes", name := "withNumberBefore", desc := "(I)I" } : Jvm.MethodName)) ∈ zT := zT_3 50 rfl rfl
theorem q3_51 : (Jvm.Cond.code ({ cls := "TitheGrid$Parishes", name := "withNumberBefore", desc := "(I)I" } : Jvm.MethodName) prog_4_method_18_code (6 : Nat) (Option.some Jvm.ClassFile.FieldType.int)) ∈ zT := zT_3 51 rfl rfl
theorem q3_52 : (Jvm.Cond.methodLink "TitheGrid$Parishes" (74 : Nat) ({ cls := "TitheGrid$Parishes", name := "everySecondBit", desc := "(I)I" } : Jvm.MethodName)) ∈ zT := zT_3 52 rfl rfl
theorem q3_53 : (Jvm.Cond.static ({ cls := "TitheGrid$Parishes", name := "everySecondBit", desc := "(I)I" } : Jvm.MethodName)) ∈ zT := zT_3 53 rfl rfl
theorem q3_54 : (Jvm.Cond.code ({ cls := "TitheGrid$Parishes", name := "everySecondBit", desc := "(I)I" } : Jvm.MethodName) prog_4_method_19_code (3 : Nat) (Option.some Jvm.ClassFile.FieldType.int)) ∈ zT := zT_3 54 rfl rfl
theorem q3_55 : (Jvm.Cond.methodLink "TitheGrid$Parishes" (77 : Nat) ({ cls := "TitheGrid$Parishes", name := "parishAt", desc := "(II)I" } : Jvm.MethodName)) ∈ zT := zT_3 55 rfl rfl
theorem q3_56 : (Jvm.Cond.methodLink "TitheGridLaw" (82 : Nat) ({ cls := "TitheGrid", name := "payable", desc := "(I)I" } : Jvm.MethodName)) ∈ zT := zT_3 56 rfl rfl
theorem q3_57 : (Jvm.Cond.instanceMethod ({ cls := "TitheGrid", name := "payable", desc := "(I)I" } : Jvm.MethodName)) ∈ zT := zT_3 57 rfl rfl
theorem q3_58 : (Jvm.Cond.selects "TitheGrid" ({ cls := "TitheGrid", name := "payable", desc := "(I)I" } : Jvm.MethodName) ({ cls := "TitheGrid", name := "payable", desc := "(I)I" } : Jvm.MethodName)) ∈ zT := zT_3 58 rfl rfl
theorem q3_59 : (Jvm.Cond.code ({ cls := "TitheGrid", name := "payable", desc := "(I)I" } : Jvm.MethodName) prog_1_method_18_code (2 : Nat) (Option.some Jvm.ClassFile.FieldType.int)) ∈ zT := zT_3 59 rfl rfl
theorem q3_60 : (Jvm.Cond.methodLink "TitheGrid" (185 : Nat) ({ cls := "TitheGrid$State", name := "payablePoints", desc := "(I)I" } : Jvm.MethodName)) ∈ zT := zT_3 60 rfl rfl
theorem q3_61 : (Jvm.Cond.instanceMethod ({ cls := "TitheGrid$State", name := "payablePoints", desc := "(I)I" } : Jvm.MethodName)) ∈ zT := zT_3 61 rfl rfl
theorem q3_62 : (Jvm.Cond.selects "TitheGrid$State" ({ cls := "TitheGrid$State", name := "payablePoints", desc := "(I)I" } : Jvm.MethodName) ({ cls := "TitheGrid$State", name := "payablePoints", desc := "(I)I" } : Jvm.MethodName)) ∈ zT := zT_3 62 rfl rfl
theorem q3_63 : (Jvm.Cond.code ({ cls := "TitheGrid$State", name := "payablePoints", desc := "(I)I" } : Jvm.MethodName) prog_6_method_15_code (4 : Nat) (Option.some Jvm.ClassFile.FieldType.int)) ∈ zT := zT_3 63 rfl rfl
theorem q3_64 : (Jvm.Cond.methodLink "TitheGrid$State" (155 : Nat) ({ cls := "TitheGrid$Debts", name := "owedBy", desc := "(I)I" } : Jvm.MethodName)) ∈ zT := zT_3 64 rfl rfl
theorem q3_65 : (Jvm.Cond.methodLink "TitheGridLaw" (86 : Nat) ({ cls := "TitheGrid", name := "cellsWith", desc := "(I)I" } : Jvm.MethodName)) ∈ zT := zT_3 65 rfl rfl
theorem q3_66 : (Jvm.Cond.instanceMethod ({ cls := "TitheGrid", name := "cellsWith", desc := "(I)I" } : Jvm.MethodName)) ∈ zT := zT_3 66 rfl rfl
theorem q3_67 : (Jvm.Cond.selects "TitheGrid" ({ cls := "TitheGrid", name := "cellsWith", desc := "(I)I" } : Jvm.MethodName) ({ cls := "TitheGrid", name := "cellsWith", desc := "(I)I" } : Jvm.MethodName)) ∈ zT := zT_3 67 rfl rfl
theorem q3_68 : (Jvm.Cond.code ({ cls := "TitheGrid", name := "cellsWith", desc := "(I)I" } : Jvm.MethodName) prog_1_method_19_code (2 : Nat) (Option.some Jvm.ClassFile.FieldType.int)) ∈ zT := zT_3 68 rfl rfl
theorem q3_69 : (Jvm.Cond.methodLink "TitheGrid" (188 : Nat) ({ cls := "TitheGrid$Points", name := "cellsIfDivided", desc := "(I)I" } : Jvm.MethodName)) ∈ zT := zT_3 69 rfl rfl
theorem q3_70 : (Jvm.Cond.instanceMethod ({ cls := "TitheGrid$Points", name := "cellsIfDivided", desc := "(I)I" } : Jvm.MethodName)) ∈ zT := zT_3 70 rfl rfl
theorem q3_71 : (Jvm.Cond.selects "TitheGrid$Points" ({ cls := "TitheGrid$Points", name := "cellsIfDivided", desc := "(I)I" } : Jvm.MethodName) ({ cls := "TitheGrid$Points", name := "cellsIfDivided", desc := "(I)I" } : Jvm.MethodName)) ∈ zT := zT_3 71 rfl rfl
theorem q3_72 : (Jvm.Cond.code ({ cls := "TitheGrid$Points", name := "cellsIfDivided", desc := "(I)I" } : Jvm.MethodName) prog_5_method_24_code (4 : Nat) (Option.some Jvm.ClassFile.FieldType.int)) ∈ zT := zT_3 72 rfl rfl
theorem q3_73 : (Jvm.Cond.methodLink "TitheGrid$Points" (62 : Nat) ({ cls := "TitheGrid$Points", name := "crowdedCells", desc := "(II)I" } : Jvm.MethodName)) ∈ zT := zT_3 73 rfl rfl
theorem q3_75 : (Jvm.Cond.instanceMethod ({ cls := "TitheGrid$Points", name := "crowdedCells", desc := "(II)I" } : Jvm.MethodName)) ∈ zT := zT_3 75 rfl rfl
theorem q3_76 : (Jvm.Cond.code ({ cls := "TitheGrid$Points", name := "crowdedCells", desc := "(II)I" } : Jvm.MethodName) prog_5_method_25_code (9 : Nat) (Option.some Jvm.ClassFile.FieldType.int)) ∈ zT := zT_3 76 rfl rfl
theorem q3_78 : (Jvm.Cond.methodLink "TitheGridLaw" (90 : Nat) ({ cls := "TitheGrid", name := "joinable", desc := "()I" } : Jvm.MethodName)) ∈ zT := zT_3 78 rfl rfl
theorem q3_79 : (Jvm.Cond.instanceMethod ({ cls := "TitheGrid", name := "joinable", desc := "()I" } : Jvm.MethodName)) ∈ zT := zT_3 79 rfl rfl
theorem q3_80 : (Jvm.Cond.selects "TitheGrid" ({ cls := "TitheGrid", name := "joinable", desc := "()I" } : Jvm.MethodName) ({ cls := "TitheGrid", name := "joinable", desc := "()I" } : Jvm.MethodName)) ∈ zT := zT_3 80 rfl rfl
theorem q3_81 : (Jvm.Cond.code ({ cls := "TitheGrid", name := "joinable", desc := "()I" } : Jvm.MethodName) prog_1_method_20_code (2 : Nat) (Option.some Jvm.ClassFile.FieldType.int)) ∈ zT := zT_3 81 rfl rfl
theorem q3_82 : (Jvm.Cond.classLink "TitheGridLaw" (10 : Nat) "TitheGridModel") ∈ zT := zT_3 82 rfl rfl
theorem q3_83 : (Jvm.Cond.instantiable "TitheGridModel" (3 : Nat)) ∈ zT := zT_3 83 rfl rfl
theorem q3_84 : (Jvm.Cond.methodLink "TitheGridLaw" (12 : Nat) ({ cls := "TitheGridModel", name := "<init>", desc := "()V" } : Jvm.MethodName)) ∈ zT := zT_3 84 rfl rfl
theorem q3_85 : (Jvm.Cond.instanceMethod ({ cls := "TitheGridModel", name := "<init>", desc := "()V" } : Jvm.MethodName)) ∈ zT := zT_3 85 rfl rfl
theorem q3_86 : (Jvm.Cond.code ({ cls := "TitheGridModel", name := "<init>", desc := "()V" } : Jvm.MethodName) prog_8_method_1_code (1 : Nat) (Option.none : Option Jvm.ClassFile.FieldType)) ∈ zT := zT_3 86 rfl rfl
theorem q3_87 : (Jvm.Cond.methodLink "TitheGridModel" (1 : Nat) ({ cls := "java/lang/Object", name := "<init>", desc := "()V" } : Jvm.MethodName)) ∈ zT := zT_3 87 rfl rfl
theorem q3_88 : (Jvm.Cond.fieldLink "TitheGridModel" (7 : Nat) "TitheGridModel" "row" "[I") ∈ zT := zT_3 88 rfl rfl
theorem q3_89 : (Jvm.Cond.fieldLink "TitheGridModel" (16 : Nat) "TitheGridModel" "kept" "I") ∈ zT := zT_3 89 rfl rfl
theorem q3_90 : (Jvm.Cond.fieldLink "TitheGridModel" (13 : Nat) "TitheGridModel" "four" "[I") ∈ zT := zT_3 90 rfl rfl
theorem q3_91 : (Jvm.Cond.laysFinal "TitheGridModel" "TitheGridModel" "row" "[I") ∈ zT := zT_3 91 rfl rfl
theorem q3_93 : (Jvm.Cond.lays "TitheGridModel" "TitheGridModel" "kept" "I") ∈ zT := zT_3 93 rfl rfl
theorem q3_95 : (Jvm.Cond.laysFinal "TitheGridModel" "TitheGridModel" "four" "[I") ∈ zT := zT_3 95 rfl rfl
theorem q3_98 : (Jvm.Cond.methodLink "TitheGridLaw" (17 : Nat) ({ cls := "TitheGridModel", name := "add", desc := "(III)I" } : Jvm.MethodName)) ∈ zT := zT_3 98 rfl rfl
theorem q3_99 : (Jvm.Cond.instanceMethod ({ cls := "TitheGridModel", name := "add", desc := "(III)I" } : Jvm.MethodName)) ∈ zT := zT_3 99 rfl rfl
theorem q3_100 : (Jvm.Cond.selects "TitheGridModel" ({ cls := "TitheGridModel", name := "add", desc := "(III)I" } : Jvm.MethodName) ({ cls := "TitheGridModel", name := "add", desc := "(III)I" } : Jvm.MethodName)) ∈ zT := zT_3 100 rfl rfl
theorem q3_101 : (Jvm.Cond.code ({ cls := "TitheGridModel", name := "add", desc := "(III)I" } : Jvm.MethodName) prog_8_method_25_code (5 : Nat) (Option.some Jvm.ClassFile.FieldType.int)) ∈ zT := zT_3 101 rfl rfl
theorem q3_102 : (Jvm.Cond.methodLink "TitheGridModel" (85 : Nat) ({ cls := "TitheGridModel", name := "isPlace", desc := "(II)Z" } : Jvm.MethodName)) ∈ zT := zT_3 102 rfl rfl
theorem q3_103 : (Jvm.Cond.static ({ cls := "TitheGridModel", name := "isPlace", desc := "(II)Z" } : Jvm.MethodName)) ∈ zT := zT_3 103 rfl rfl
theorem q3_104 : (Jvm.Cond.code ({ cls := "TitheGridModel", name := "isPlace", desc := "(II)Z" } : Jvm.MethodName) prog_8_method_9_code (2 : Nat) (Option.some Jvm.ClassFile.FieldType.boolean)) ∈ zT := zT_3 104 rfl rfl
theorem q3_105 : (Jvm.Cond.methodLink "TitheGridModel" (24 : Nat) ({ cls := "TitheGridModel", name := "in", desc := "(III)Z" } : Jvm.MethodName)) ∈ zT := zT_3 105 rfl rfl
theorem q3_106 : (Jvm.Cond.static ({ cls := "TitheGridModel", name := "in", desc := "(III)Z" } : Jvm.MethodName)) ∈ zT := zT_3 106 rfl rfl
theorem q3_107 : (Jvm.Cond.code ({ cls := "TitheGridModel", name := "in", desc := "(III)Z" } : Jvm.MethodName) prog_8_method_2_code (3 : Nat) (Option.some Jvm.ClassFile.FieldType.boolean)) ∈ zT := zT_3 107 rfl rfl
theorem q3_108 : (Jvm.Cond.methodLink "TitheGridModel" (89 : Nat) ({ cls := "TitheGridModel", name := "records", desc := "()V" } : Jvm.MethodName)) ∈ zT := zT_3 108 rfl rfl
theorem q3_110 : (Jvm.Cond.instanceMethod ({ cls := "TitheGridModel", name := "records", desc := "()V" } : Jvm.MethodName)) ∈ zT := zT_3 110 rfl rfl
theorem q3_111 : (Jvm.Cond.code ({ cls := "TitheGridModel", name := "records", desc := "()V" } : Jvm.MethodName) prog_8_method_4_code (2 : Nat) (Option.none : Option Jvm.ClassFile.FieldType)) ∈ zT := zT_3 111 rfl rfl
theorem q3_112 : (Jvm.Cond.methodLink "TitheGridModel" (20 : Nat) ({ cls := "TitheGridModel", name := "copies", desc := "(II)V" } : Jvm.MethodName)) ∈ zT := zT_3 112 rfl rfl
theorem q3_114 : (Jvm.Cond.instanceMethod ({ cls := "TitheGridModel", name := "copies", desc := "(II)V" } : Jvm.MethodName)) ∈ zT := zT_3 114 rfl rfl
theorem q3_115 : (Jvm.Cond.code ({ cls := "TitheGridModel", name := "copies", desc := "(II)V" } : Jvm.MethodName) prog_8_method_3_code (4 : Nat) (Option.none : Option Jvm.ClassFile.FieldType)) ∈ zT := zT_3 115 rfl rfl
theorem q3_116 : (Jvm.Cond.methodLink "TitheGridModel" (43 : Nat) ({ cls := "TitheGridModel", name := "parishAt", desc := "(II)I" } : Jvm.MethodName)) ∈ zT := zT_3 116 rfl rfl
theorem q3_118 : (Jvm.Cond.instanceMethod ({ cls := "TitheGridModel", name := "parishAt", desc := "(II)I" } : Jvm.MethodName)) ∈ zT := zT_3 118 rfl rfl
theorem q3_119 : (Jvm.Cond.code ({ cls := "TitheGridModel", name := "parishAt", desc := "(II)I" } : Jvm.MethodName) prog_8_method_11_code (6 : Nat) (Option.some Jvm.ClassFile.FieldType.int)) ∈ zT := zT_3 119 rfl rfl
theorem q3_120 : (Jvm.Cond.methodLink "TitheGridModel" (32 : Nat) ({ cls := "TitheGridModel", name := "ofParish", desc := "(II)I" } : Jvm.MethodName)) ∈ zT := zT_3 120 rfl rfl
theorem q3_122 : (Jvm.Cond.instanceMethod ({ cls := "TitheGridModel", name := "ofParish", desc := "(II)I" } : Jvm.MethodName)) ∈ zT := zT_3 122 rfl rfl
theorem q3_123 : (Jvm.Cond.code ({ cls := "TitheGridModel", name := "ofParish", desc := "(II)I" } : Jvm.MethodName) prog_8_method_7_code (3 : Nat) (Option.some Jvm.ClassFile.FieldType.int)) ∈ zT := zT_3 123 rfl rfl
theorem q3_124 : (Jvm.Cond.methodLink "TitheGridModel" (35 : Nat) ({ cls := "TitheGridModel", name := "isParish", desc := "(I)Z" } : Jvm.MethodName)) ∈ zT := zT_3 124 rfl rfl
theorem q3_126 : (Jvm.Cond.instanceMethod ({ cls := "TitheGridModel", name := "isParish", desc := "(I)Z" } : Jvm.MethodName)) ∈ zT := zT_3 126 rfl rfl
theorem q3_127 : (Jvm.Cond.code ({ cls := "TitheGridModel", name := "isParish", desc := "(I)Z" } : Jvm.MethodName) prog_8_method_8_code (2 : Nat) (Option.some Jvm.ClassFile.FieldType.boolean)) ∈ zT := zT_3 127 rfl rfl
theorem q3_128 : (Jvm.Cond.methodLink "TitheGridModel" (39 : Nat) ({ cls := "TitheGridModel", name := "sideOf", desc := "(I)I" } : Jvm.MethodName)) ∈ zT := zT_3 128 rfl rfl
theorem q3_130 : (Jvm.Cond.instanceMethod ({ cls := "TitheGridModel", name := "sideOf", desc := "(I)I" } : Jvm.MethodName)) ∈ zT := zT_3 130 rfl rfl
theorem q3_131 : (Jvm.Cond.code ({ cls := "TitheGridModel", name := "sideOf", desc := "(I)I" } : Jvm.MethodName) prog_8_method_10_code (2 : Nat) (Option.some Jvm.ClassFile.FieldType.int)) ∈ zT := zT_3 131 rfl rfl
theorem q3_132 : (Jvm.Cond.methodLink "TitheGridModel" (82 : Nat) ({ cls := "TitheGridModel", name := "setLord", desc := "(II)V" } : Jvm.MethodName)) ∈ zT := zT_3 132 rfl rfl
theorem q3_134 : (Jvm.Cond.instanceMethod ({ cls := "TitheGridModel", name := "setLord", desc := "(II)V" } : Jvm.MethodName)) ∈ zT := zT_3 134 rfl rfl
theorem q3_135 : (Jvm.Cond.code ({ cls := "TitheGridModel", name := "setLord", desc := "(II)V" } : Jvm.MethodName) prog_8_method_19_code (3 : Nat) (Option.none : Option Jvm.ClassFile.FieldType)) ∈ zT := zT_3 135 rfl rfl
theorem q3_136 : (Jvm.Cond.methodLink "TitheGridModel" (92 : Nat) ({ cls := "TitheGridModel", name := "settles", desc := "()V" } : Jvm.MethodName)) ∈ zT := zT_3 136 rfl rfl
theorem q3_138 : (Jvm.Cond.instanceMethod ({ cls := "TitheGridModel", name := "settles", desc := "()V" } : Jvm.MethodName)) ∈ zT := zT_3 138 rfl rfl
theorem q3_139 : (Jvm.Cond.code ({ cls := "TitheGridModel", name := "settles", desc := "()V" } : Jvm.MethodName) prog_8_method_22_code (2 : Nat) (Option.none : Option Jvm.ClassFile.FieldType)) ∈ zT := zT_3 139 rfl rfl
theorem q3_140 : (Jvm.Cond.methodLink "TitheGridModel" (63 : Nat) ({ cls := "TitheGridModel", name := "toSplit", desc := "()I" } : Jvm.MethodName)) ∈ zT := zT_3 140 rfl rfl
theorem q3_142 : (Jvm.Cond.instanceMethod ({ cls := "TitheGridModel", name := "toSplit", desc := "()I" } : Jvm.MethodName)) ∈ zT := zT_3 142 rfl rfl
theorem q3_143 : (Jvm.Cond.code ({ cls := "TitheGridModel", name := "toSplit", desc := "()I" } : Jvm.MethodName) prog_8_method_21_code (2 : Nat) (Option.some Jvm.ClassFile.FieldType.int)) ∈ zT := zT_3 143 rfl rfl
theorem q3_144 : (Jvm.Cond.methodLink "TitheGridModel" (60 : Nat) ({ cls := "TitheGridModel", name := "isCrowded", desc := "(I)Z" } : Jvm.MethodName)) ∈ zT := zT_3 144 rfl rfl
theorem q3_146 : (Jvm.Cond.instanceMethod ({ cls := "TitheGridModel", name := "isCrowded", desc := "(I)Z" } : Jvm.MethodName)) ∈ zT := zT_3 146 rfl rfl
theorem q3_147 : (Jvm.Cond.code ({ cls := "TitheGridModel", name := "isCrowded", desc := "(I)Z" } : Jvm.MethodName) prog_8_method_20_code (2 : Nat) (Option.some Jvm.ClassFile.FieldType.boolean)) ∈ zT := zT_3 147 rfl rfl
theorem q3_148 : (Jvm.Cond.methodLink "TitheGridModel" (56 : Nat) ({ cls := "TitheGridModel", name := "pointsInCell", desc := "(III)I" } : Jvm.MethodName)) ∈ zT := zT_3 148 rfl rfl
theorem q3_150 : (Jvm.Cond.instanceMethod ({ cls := "TitheGridModel", name := "pointsInCell", desc := "(III)I" } : Jvm.MethodName)) ∈ zT := zT_3 150 rfl rfl
theorem q3_151 : (Jvm.Cond.code ({ cls := "TitheGridModel", name := "pointsInCell", desc := "(III)I" } : Jvm.MethodName) prog_8_method_14_code (4 : Nat) (Option.some Jvm.ClassFile.FieldType.int)) ∈ zT := zT_3 151 rfl rfl
theorem q3_152 : (Jvm.Cond.methodLink "TitheGridModel" (49 : Nat) ({ cls := "TitheGridModel", name := "pointsIn", desc := "(IIII)I" } : Jvm.MethodName)) ∈ zT := zT_3 152 rfl rfl
theorem q3_154 : (Jvm.Cond.instanceMethod ({ cls := "TitheGridModel", name := "pointsIn", desc := "(IIII)I" } : Jvm.MethodName)) ∈ zT := zT_3 154 rfl rfl
theorem q3_155 : (Jvm.Cond.code ({ cls := "TitheGridModel", name := "pointsIn", desc := "(IIII)I" } : Jvm.MethodName) prog_8_method_13_code (7 : Nat) (Option.some Jvm.ClassFile.FieldType.int)) ∈ zT := zT_3 155 rfl rfl
theorem q3_156 : (Jvm.Cond.methodLink "TitheGridModel" (46 : Nat) ({ cls := "TitheGridModel", name := "isPoint", desc := "(I)Z" } : Jvm.MethodName)) ∈ zT := zT_3 156 rfl rfl
theorem q3_158 : (Jvm.Cond.instanceMethod ({ cls := "TitheGridModel", name := "isPoint", desc := "(I)Z" } : Jvm.MethodName)) ∈ zT := zT_3 158 rfl rfl
theorem q3_159 : (Jvm.Cond.code ({ cls := "TitheGridModel", name := "isPoint", desc := "(I)Z" } : Jvm.MethodName) prog_8_method_6_code (2 : Nat) (Option.some Jvm.ClassFile.FieldType.boolean)) ∈ zT := zT_3 159 rfl rfl
theorem q3_160 : (Jvm.Cond.methodLink "TitheGridModel" (28 : Nat) ({ cls := "TitheGridModel", name := "ofPoint", desc := "(II)I" } : Jvm.MethodName)) ∈ zT := zT_3 160 rfl rfl
theorem q3_162 : (Jvm.Cond.instanceMethod ({ cls := "TitheGridModel", name := "ofPoint", desc := "(II)I" } : Jvm.MethodName)) ∈ zT := zT_3 162 rfl rfl
theorem q3_163 : (Jvm.Cond.code ({ cls := "TitheGridModel", name := "ofPoint", desc := "(II)I" } : Jvm.MethodName) prog_8_method_5_code (3 : Nat) (Option.some Jvm.ClassFile.FieldType.int)) ∈ zT := zT_3 163 rfl rfl
theorem q3_164 : (Jvm.Cond.methodLink "TitheGridModel" (67 : Nat) ({ cls := "TitheGridModel", name := "splits", desc := "(I)V" } : Jvm.MethodName)) ∈ zT := zT_3 164 rfl rfl
theorem q3_166 : (Jvm.Cond.instanceMethod ({ cls := "TitheGridModel", name := "splits", desc := "(I)V" } : Jvm.MethodName)) ∈ zT := zT_3 166 rfl rfl
theorem q3_167 : (Jvm.Cond.code ({ cls := "TitheGridModel", name := "splits", desc := "(I)V" } : Jvm.MethodName) prog_8_method_23_code (10 : Nat) (Option.none : Option Jvm.ClassFile.FieldType)) ∈ zT := zT_3 167 rfl rfl
theorem q3_168 : (Jvm.Cond.methodLink "TitheGridModel" (71 : Nat) ({ cls := "TitheGridModel", name := "setParish", desc := "(IIII)V" } : Jvm.MethodName)) ∈ zT := zT_3 168 rfl rfl
theorem q3_170 : (Jvm.Cond.instanceMethod ({ cls := "TitheGridModel", name := "setParish", desc := "(IIII)V" } : Jvm.MethodName)) ∈ zT := zT_3 170 rfl rfl
theorem q3_171 : (Jvm.Cond.code ({ cls := "TitheGridModel", name := "setParish", desc := "(IIII)V" } : Jvm.MethodName) prog_8_method_18_code (5 : Nat) (Option.none : Option Jvm.ClassFile.FieldType)) ∈ zT := zT_3 171 rfl rfl
theorem q3_172 : (Jvm.Cond.methodLink "TitheGridModel" (75 : Nat) ({ cls := "TitheGridModel", name := "founds", desc := "(IIII)V" } : Jvm.MethodName)) ∈ zT := zT_3 172 rfl rfl
theorem q3_174 : (Jvm.Cond.instanceMethod ({ cls := "TitheGridModel", name := "founds", desc := "(IIII)V" } : Jvm.MethodName)) ∈ zT := zT_3 174 rfl rfl
theorem q3_175 : (Jvm.Cond.code ({ cls := "TitheGridModel", name := "founds", desc := "(IIII)V" } : Jvm.MethodName) prog_8_method_24_code (10 : Nat) (Option.none : Option Jvm.ClassFile.FieldType)) ∈ zT := zT_3 175 rfl rfl
theorem q3_176 : (Jvm.Cond.methodLink "TitheGridModel" (78 : Nat) ({ cls := "TitheGridModel", name := "owes", desc := "(III)V" } : Jvm.MethodName)) ∈ zT := zT_3 176 rfl rfl
theorem q3_178 : (Jvm.Cond.instanceMethod ({ cls := "TitheGridModel", name := "owes", desc := "(III)V" } : Jvm.MethodName)) ∈ zT := zT_3 178 rfl rfl
theorem q3_179 : (Jvm.Cond.code ({ cls := "TitheGridModel", name := "owes", desc := "(III)V" } : Jvm.MethodName) prog_8_method_16_code (4 : Nat) (Option.none : Option Jvm.ClassFile.FieldType)) ∈ zT := zT_3 179 rfl rfl
theorem q3_180 : (Jvm.Cond.methodLink "TitheGridLaw" (22 : Nat) ({ cls := "TitheGridModel", name := "remove", desc := "(I)I" } : Jvm.MethodName)) ∈ zT := zT_3 180 rfl rfl
theorem q3_181 : (Jvm.Cond.instanceMethod ({ cls := "TitheGridModel", name := "remove", desc := "(I)I" } : Jvm.MethodName)) ∈ zT := zT_3 181 rfl rfl
theorem q3_182 : (Jvm.Cond.selects "TitheGridModel" ({ cls := "TitheGridModel", name := "remove", desc := "(I)I" } : Jvm.MethodName) ({ cls := "TitheGridModel", name := "remove", desc := "(I)I" } : Jvm.MethodName)) ∈ zT := zT_3 182 rfl rfl
theorem q3_183 : (Jvm.Cond.code ({ cls := "TitheGridModel", name := "remove", desc := "(I)I" } : Jvm.MethodName) prog_8_method_27_code (2 : Nat) (Option.some Jvm.ClassFile.FieldType.int)) ∈ zT := zT_3 183 rfl rfl
theorem q3_184 : (Jvm.Cond.methodLink "TitheGridModel" (95 : Nat) ({ cls := "TitheGridModel", name := "allPoints", desc := "()I" } : Jvm.MethodName)) ∈ zT := zT_3 184 rfl rfl
theorem q3_186 : (Jvm.Cond.instanceMethod ({ cls := "TitheGridModel", name := "allPoints", desc := "()I" } : Jvm.MethodName)) ∈ zT := zT_3 186 rfl rfl
theorem q3_187 : (Jvm.Cond.code ({ cls := "TitheGridModel", name := "allPoints", desc := "()I" } : Jvm.MethodName) prog_8_method_26_code (1 : Nat) (Option.some Jvm.ClassFile.FieldType.int)) ∈ zT := zT_3 187 rfl rfl
theorem q3_188 : (Jvm.Cond.methodLink "TitheGridLaw" (26 : Nat) ({ cls := "TitheGridModel", name := "move", desc := "(III)I" } : Jvm.MethodName)) ∈ zT := zT_3 188 rfl rfl
theorem q3_189 : (Jvm.Cond.instanceMethod ({ cls := "TitheGridModel", name := "move", desc := "(III)I" } : Jvm.MethodName)) ∈ zT := zT_3 189 rfl rfl
theorem q3_190 : (Jvm.Cond.selects "TitheGridModel" ({ cls := "TitheGridModel", name := "move", desc := "(III)I" } : Jvm.MethodName) ({ cls := "TitheGridModel", name := "move", desc := "(III)I" } : Jvm.MethodName)) ∈ zT := zT_3 190 rfl rfl
theorem q3_191 : (Jvm.Cond.code ({ cls := "TitheGridModel", name := "move", desc := "(III)I" } : Jvm.MethodName) prog_8_method_28_code (7 : Nat) (Option.some Jvm.ClassFile.FieldType.int)) ∈ zT := zT_3 191 rfl rfl
theorem q3_192 : (Jvm.Cond.methodLink "TitheGridModel" (98 : Nat) ({ cls := "TitheGridModel", name := "parishOf", desc := "(I)I" } : Jvm.MethodName)) ∈ zT := zT_3 192 rfl rfl
theorem q3_194 : (Jvm.Cond.instanceMethod ({ cls := "TitheGridModel", name := "parishOf", desc := "(I)I" } : Jvm.MethodName)) ∈ zT := zT_3 194 rfl rfl
theorem q3_195 : (Jvm.Cond.code ({ cls := "TitheGridModel", name := "parishOf", desc := "(I)I" } : Jvm.MethodName) prog_8_method_12_code (2 : Nat) (Option.some Jvm.ClassFile.FieldType.int)) ∈ zT := zT_3 195 rfl rfl
theorem q3_196 : (Jvm.Cond.methodLink "TitheGridLaw" (30 : Nat) ({ cls := "TitheGridModel", name := "setCrowd", desc := "(I)I" } : Jvm.MethodName)) ∈ zT := zT_3 196 rfl rfl
theorem q3_197 : (Jvm.Cond.instanceMethod ({ cls := "TitheGridModel", name := "setCrowd", desc := "(I)I" } : Jvm.MethodName)) ∈ zT := zT_3 197 rfl rfl
theorem q3_198 : (Jvm.Cond.selects "TitheGridModel" ({ cls := "TitheGridModel", name := "setCrowd", desc := "(I)I" } : Jvm.MethodName) ({ cls := "TitheGridModel", name := "setCrowd", desc := "(I)I" } : Jvm.MethodName)) ∈ zT := zT_3 198 rfl rfl
theorem q3_199 : (Jvm.Cond.code ({ cls := "TitheGridModel", name := "setCrowd", desc := "(I)I" } : Jvm.MethodName) prog_8_method_29_code (3 : Nat) (Option.some Jvm.ClassFile.FieldType.int)) ∈ zT := zT_3 199 rfl rfl
theorem q3_200 : (Jvm.Cond.methodLink "TitheGridLaw" (34 : Nat) ({ cls := "TitheGridModel", name := "setTithe", desc := "(I)I" } : Jvm.MethodName)) ∈ zT := zT_3 200 rfl rfl
theorem q3_201 : (Jvm.Cond.instanceMethod ({ cls := "TitheGridModel", name := "setTithe", desc := "(I)I" } : Jvm.MethodName)) ∈ zT := zT_3 201 rfl rfl
theorem q3_202 : (Jvm.Cond.selects "TitheGridModel" ({ cls := "TitheGridModel", name := "setTithe", desc := "(I)I" } : Jvm.MethodName) ({ cls := "TitheGridModel", name := "setTithe", desc := "(I)I" } : Jvm.MethodName)) ∈ zT := zT_3 202 rfl rfl
theorem q3_203 : (Jvm.Cond.code ({ cls := "TitheGridModel", name := "setTithe", desc := "(I)I" } : Jvm.MethodName) prog_8_method_30_code (3 : Nat) (Option.some Jvm.ClassFile.FieldType.int)) ∈ zT := zT_3 203 rfl rfl
theorem q3_204 : (Jvm.Cond.methodLink "TitheGridLaw" (38 : Nat) ({ cls := "TitheGridModel", name := "pay", desc := "(I)I" } : Jvm.MethodName)) ∈ zT := zT_3 204 rfl rfl
theorem q3_205 : (Jvm.Cond.instanceMethod ({ cls := "TitheGridModel", name := "pay", desc := "(I)I" } : Jvm.MethodName)) ∈ zT := zT_3 205 rfl rfl
theorem q3_206 : (Jvm.Cond.selects "TitheGridModel" ({ cls := "TitheGridModel", name := "pay", desc := "(I)I" } : Jvm.MethodName) ({ cls := "TitheGridModel", name := "pay", desc := "(I)I" } : Jvm.MethodName)) ∈ zT := zT_3 206 rfl rfl
theorem q3_207 : (Jvm.Cond.code ({ cls := "TitheGridModel", name := "pay", desc := "(I)I" } : Jvm.MethodName) prog_8_method_32_code (5 : Nat) (Option.some Jvm.ClassFile.FieldType.int)) ∈ zT := zT_3 207 rfl rfl
theorem q3_208 : (Jvm.Cond.methodLink "TitheGridModel" (101 : Nat) ({ cls := "TitheGridModel", name := "gift", desc := "(I)I" } : Jvm.MethodName)) ∈ zT := zT_3 208 rfl rfl
theorem q3_210 : (Jvm.Cond.instanceMethod ({ cls := "TitheGridModel", name := "gift", desc := "(I)I" } : Jvm.MethodName)) ∈ zT := zT_3 210 rfl rfl
theorem q3_211 : (Jvm.Cond.code ({ cls := "TitheGridModel", name := "gift", desc := "(I)I" } : Jvm.MethodName) prog_8_method_31_code (5 : Nat) (Option.some Jvm.ClassFile.FieldType.int)) ∈ zT := zT_3 211 rfl rfl
theorem q3_212 : (Jvm.Cond.methodLink "TitheGridModel" (53 : Nat) ({ cls := "TitheGridModel", name := "debtOf", desc := "(II)I" } : Jvm.MethodName)) ∈ zT := zT_3 212 rfl rfl
theorem q3_214 : (Jvm.Cond.instanceMethod ({ cls := "TitheGridModel", name := "debtOf", desc := "(II)I" } : Jvm.MethodName)) ∈ zT := zT_3 214 rfl rfl
theorem q3_215 : (Jvm.Cond.code ({ cls := "TitheGridModel", name := "debtOf", desc := "(II)I" } : Jvm.MethodName) prog_8_method_15_code (3 : Nat) (Option.some Jvm.ClassFile.FieldType.int)) ∈ zT := zT_3 215 rfl rfl
theorem q3_216 : (Jvm.Cond.methodLink "TitheGridLaw" (42 : Nat) ({ cls := "TitheGridModel", name := "join", desc := "(I)I" } : Jvm.MethodName)) ∈ zT := zT_3 216 rfl rfl
theorem q3_217 : (Jvm.Cond.instanceMethod ({ cls := "TitheGridModel", name := "join", desc := "(I)I" } : Jvm.MethodName)) ∈ zT := zT_3 217 rfl rfl
theorem q3_218 : (Jvm.Cond.selects "TitheGridModel" ({ cls := "TitheGridModel", name := "join", desc := "(I)I" } : Jvm.MethodName) ({ cls := "TitheGridModel", name := "join", desc := "(I)I" } : Jvm.MethodName)) ∈ zT := zT_3 218 rfl rfl
theorem q3_219 : (Jvm.Cond.code ({ cls := "TitheGridModel", name := "join", desc := "(I)I" } : Jvm.MethodName) prog_8_method_34_code (4 : Nat) (Option.some Jvm.ClassFile.FieldType.int)) ∈ zT := zT_3 219 rfl rfl
theorem q3_220 : (Jvm.Cond.methodLink "TitheGridModel" (104 : Nat) ({ cls := "TitheGridModel", name := "canJoin", desc := "(I)Z" } : Jvm.MethodName)) ∈ zT := zT_3 220 rfl rfl
theorem q3_222 : (Jvm.Cond.instanceMethod ({ cls := "TitheGridModel", name := "canJoin", desc := "(I)Z" } : Jvm.MethodName)) ∈ zT := zT_3 222 rfl rfl
theorem q3_223 : (Jvm.Cond.code ({ cls := "TitheGridModel", name := "canJoin", desc := "(I)Z" } : Jvm.MethodName) prog_8_method_33_code (8 : Nat) (Option.some Jvm.ClassFile.FieldType.boolean)) ∈ zT := zT_3 223 rfl rfl
theorem q3_224 : (Jvm.Cond.methodLink "TitheGridModel" (107 : Nat) ({ cls := "TitheGridModel", name := "dissolves", desc := "(II)V" } : Jvm.MethodName)) ∈ zT := zT_3 224 rfl rfl
theorem q3_226 : (Jvm.Cond.instanceMethod ({ cls := "TitheGridModel", name := "dissolves", desc := "(II)V" } : Jvm.MethodName)) ∈ zT := zT_3 226 rfl rfl
theorem q3_227 : (Jvm.Cond.code ({ cls := "TitheGridModel", name := "dissolves", desc := "(II)V" } : Jvm.MethodName) prog_8_method_35_code (4 : Nat) (Option.none : Option Jvm.ClassFile.FieldType)) ∈ zT := zT_3 227 rfl rfl
theorem q3_228 : (Jvm.Cond.methodLink "TitheGridLaw" (47 : Nat) ({ cls := "TitheGridModel", name := "undo", desc := "()I" } : Jvm.MethodName)) ∈ zT := zT_3 228 rfl rfl
theorem q3_229 : (Jvm.Cond.instanceMethod ({ cls := "TitheGridModel", name := "undo", desc := "()I" } : Jvm.MethodName)) ∈ zT := zT_3 229 rfl rfl
theorem q3_230 : (Jvm.Cond.selects "TitheGridModel" ({ cls := "TitheGridModel", name := "undo", desc := "()I" } : Jvm.MethodName) ({ cls := "TitheGridModel", name := "undo", desc := "()I" } : Jvm.MethodName)) ∈ zT := zT_3 230 rfl rfl
theorem q3_231 : (Jvm.Cond.code ({ cls := "TitheGridModel", name := "undo", desc := "()I" } : Jvm.MethodName) prog_8_method_36_code (1 : Nat) (Option.some Jvm.ClassFile.FieldType.int)) ∈ zT := zT_3 231 rfl rfl
theorem q3_232 : (Jvm.Cond.methodLink "TitheGridLaw" (51 : Nat) ({ cls := "TitheGridModel", name := "count", desc := "(I)I" } : Jvm.MethodName)) ∈ zT := zT_3 232 rfl rfl
theorem q3_233 : (Jvm.Cond.instanceMethod ({ cls := "TitheGridModel", name := "count", desc := "(I)I" } : Jvm.MethodName)) ∈ zT := zT_3 233 rfl rfl
theorem q3_234 : (Jvm.Cond.selects "TitheGridModel" ({ cls := "TitheGridModel", name := "count", desc := "(I)I" } : Jvm.MethodName) ({ cls := "TitheGridModel", name := "count", desc := "(I)I" } : Jvm.MethodName)) ∈ zT := zT_3 234 rfl rfl
theorem q3_235 : (Jvm.Cond.code ({ cls := "TitheGridModel", name := "count", desc := "(I)I" } : Jvm.MethodName) prog_8_method_37_code (8 : Nat) (Option.some Jvm.ClassFile.FieldType.int)) ∈ zT := zT_3 235 rfl rfl
theorem q3_236 : (Jvm.Cond.methodLink "TitheGridModel" (110 : Nat) ({ cls := "TitheGridModel", name := "owed", desc := "(I)I" } : Jvm.MethodName)) ∈ zT := zT_3 236 rfl rfl
theorem q3_238 : (Jvm.Cond.instanceMethod ({ cls := "TitheGridModel", name := "owed", desc := "(I)I" } : Jvm.MethodName)) ∈ zT := zT_3 238 rfl rfl
theorem q3_239 : (Jvm.Cond.code ({ cls := "TitheGridModel", name := "owed", desc := "(I)I" } : Jvm.MethodName) prog_8_method_17_code (4 : Nat) (Option.some Jvm.ClassFile.FieldType.int)) ∈ zT := zT_3 239 rfl rfl
theorem q4_0 : (Jvm.Cond.methodLink "TitheGridLaw" (56 : Nat) ({ cls := "TitheGridModel", name := "point", desc := "(II)I" } : Jvm.MethodName)) ∈ zT := zT_4 0 rfl rfl
theorem q4_1 : (Jvm.Cond.instanceMethod ({ cls := "TitheGridModel", name := "point", desc := "(II)I" } : Jvm.MethodName)) ∈ zT := zT_4 1 rfl rfl
theorem q4_2 : (Jvm.Cond.selects "TitheGridModel" ({ cls := "TitheGridModel", name := "point", desc := "(II)I" } : Jvm.MethodName) ({ cls := "TitheGridModel", name := "point", desc := "(II)I" } : Jvm.MethodName)) ∈ zT := zT_4 2 rfl rfl
theorem q4_3 : (Jvm.Cond.code ({ cls := "TitheGridModel", name := "point", desc := "(II)I" } : Jvm.MethodName) prog_8_method_38_code (3 : Nat) (Option.some Jvm.ClassFile.FieldType.int)) ∈ zT := zT_4 3 rfl rfl
theorem q4_4 : (Jvm.Cond.methodLink "TitheGridLaw" (60 : Nat) ({ cls := "TitheGridModel", name := "parish", desc := "(II)I" } : Jvm.MethodName)) ∈ zT := zT_4 4 rfl rfl
theorem q4_5 : (Jvm.Cond.instanceMethod ({ cls := "TitheGridModel", name := "parish", desc := "(II)I" } : Jvm.MethodName)) ∈ zT := zT_4 5 rfl rfl
theorem q4_6 : (Jvm.Cond.selects "TitheGridModel" ({ cls := "TitheGridModel", name := "parish", desc := "(II)I" } : Jvm.MethodName) ({ cls := "TitheGridModel", name := "parish", desc := "(II)I" } : Jvm.MethodName)) ∈ zT := zT_4 6 rfl rfl
theorem q4_7 : (Jvm.Cond.code ({ cls := "TitheGridModel", name := "parish", desc := "(II)I" } : Jvm.MethodName) prog_8_method_39_code (7 : Nat) (Option.some Jvm.ClassFile.FieldType.int)) ∈ zT := zT_4 7 rfl rfl
theorem q4_8 : (Jvm.Cond.methodLink "TitheGridLaw" (64 : Nat) ({ cls := "TitheGridModel", name := "debt", desc := "(II)I" } : Jvm.MethodName)) ∈ zT := zT_4 8 rfl rfl
theorem q4_9 : (Jvm.Cond.instanceMethod ({ cls := "TitheGridModel", name := "debt", desc := "(II)I" } : Jvm.MethodName)) ∈ zT := zT_4 9 rfl rfl
theorem q4_10 : (Jvm.Cond.selects "TitheGridModel" ({ cls := "TitheGridModel", name := "debt", desc := "(II)I" } : Jvm.MethodName) ({ cls := "TitheGridModel", name := "debt", desc := "(II)I" } : Jvm.MethodName)) ∈ zT := zT_4 10 rfl rfl
theorem q4_11 : (Jvm.Cond.code ({ cls := "TitheGridModel", name := "debt", desc := "(II)I" } : Jvm.MethodName) prog_8_method_40_code (3 : Nat) (Option.some Jvm.ClassFile.FieldType.int)) ∈ zT := zT_4 11 rfl rfl
theorem q4_12 : (Jvm.Cond.methodLink "TitheGridLaw" (68 : Nat) ({ cls := "TitheGridModel", name := "at", desc := "(II)I" } : Jvm.MethodName)) ∈ zT := zT_4 12 rfl rfl
theorem q4_13 : (Jvm.Cond.instanceMethod ({ cls := "TitheGridModel", name := "at", desc := "(II)I" } : Jvm.MethodName)) ∈ zT := zT_4 13 rfl rfl
theorem q4_14 : (Jvm.Cond.selects "TitheGridModel" ({ cls := "TitheGridModel", name := "at", desc := "(II)I" } : Jvm.MethodName) ({ cls := "TitheGridModel", name := "at", desc := "(II)I" } : Jvm.MethodName)) ∈ zT := zT_4 14 rfl rfl
theorem q4_15 : (Jvm.Cond.code ({ cls := "TitheGridModel", name := "at", desc := "(II)I" } : Jvm.MethodName) prog_8_method_41_code (3 : Nat) (Option.some Jvm.ClassFile.FieldType.int)) ∈ zT := zT_4 15 rfl rfl
theorem q4_16 : (Jvm.Cond.methodLink "TitheGridLaw" (73 : Nat) ({ cls := "TitheGridModel", name := "range", desc := "(IIIII)I" } : Jvm.MethodName)) ∈ zT := zT_4 16 rfl rfl
theorem q4_17 : (Jvm.Cond.instanceMethod ({ cls := "TitheGridModel", name := "range", desc := "(IIIII)I" } : Jvm.MethodName)) ∈ zT := zT_4 17 rfl rfl
theorem q4_18 : (Jvm.Cond.selects "TitheGridModel" ({ cls := "TitheGridModel", name := "range", desc := "(IIIII)I" } : Jvm.MethodName) ({ cls := "TitheGridModel", name := "range", desc := "(IIIII)I" } : Jvm.MethodName)) ∈ zT := zT_4 18 rfl rfl
theorem q4_19 : (Jvm.Cond.code ({ cls := "TitheGridModel", name := "range", desc := "(IIIII)I" } : Jvm.MethodName) prog_8_method_42_code (11 : Nat) (Option.some Jvm.ClassFile.FieldType.int)) ∈ zT := zT_4 19 rfl rfl
theorem q4_20 : (Jvm.Cond.methodLink "TitheGridLaw" (77 : Nat) ({ cls := "TitheGridModel", name := "nearest", desc := "(II)I" } : Jvm.MethodName)) ∈ zT := zT_4 20 rfl rfl
theorem q4_21 : (Jvm.Cond.instanceMethod ({ cls := "TitheGridModel", name := "nearest", desc := "(II)I" } : Jvm.MethodName)) ∈ zT := zT_4 21 rfl rfl
theorem q4_22 : (Jvm.Cond.selects "TitheGridModel" ({ cls := "TitheGridModel", name := "nearest", desc := "(II)I" } : Jvm.MethodName) ({ cls := "TitheGridModel", name := "nearest", desc := "(II)I" } : Jvm.MethodName)) ∈ zT := zT_4 22 rfl rfl
theorem q4_23 : (Jvm.Cond.code ({ cls := "TitheGridModel", name := "nearest", desc := "(II)I" } : Jvm.MethodName) prog_8_method_44_code (7 : Nat) (Option.some Jvm.ClassFile.FieldType.int)) ∈ zT := zT_4 23 rfl rfl
theorem q4_24 : (Jvm.Cond.methodLink "TitheGridModel" (113 : Nat) ({ cls := "TitheGridModel", name := "far", desc := "(II)I" } : Jvm.MethodName)) ∈ zT := zT_4 24 rfl rfl
theorem q4_25 : (Jvm.Cond.static ({ cls := "TitheGridModel", name := "far", desc := "(II)I" } : Jvm.MethodName)) ∈ zT := zT_4 25 rfl rfl
theorem q4_26 : (Jvm.Cond.code ({ cls := "TitheGridModel", name := "far", desc := "(II)I" } : Jvm.MethodName) prog_8_method_43_code (2 : Nat) (Option.some Jvm.ClassFile.FieldType.int)) ∈ zT := zT_4 26 rfl rfl
theorem q4_27 : (Jvm.Cond.methodLink "TitheGridLaw" (81 : Nat) ({ cls := "TitheGridModel", name := "inOrder", desc := "(I)I" } : Jvm.MethodName)) ∈ zT := zT_4 27 rfl rfl
theorem q4_28 : (Jvm.Cond.instanceMethod ({ cls := "TitheGridModel", name := "inOrder", desc := "(I)I" } : Jvm.MethodName)) ∈ zT := zT_4 28 rfl rfl
theorem q4_29 : (Jvm.Cond.selects "TitheGridModel" ({ cls := "TitheGridModel", name := "inOrder", desc := "(I)I" } : Jvm.MethodName) ({ cls := "TitheGridModel", name := "inOrder", desc := "(I)I" } : Jvm.MethodName)) ∈ zT := zT_4 29 rfl rfl
theorem q4_30 : (Jvm.Cond.code ({ cls := "TitheGridModel", name := "inOrder", desc := "(I)I" } : Jvm.MethodName) prog_8_method_45_code (7 : Nat) (Option.some Jvm.ClassFile.FieldType.int)) ∈ zT := zT_4 30 rfl rfl
theorem q4_31 : (Jvm.Cond.methodLink "TitheGridLaw" (85 : Nat) ({ cls := "TitheGridModel", name := "payable", desc := "(I)I" } : Jvm.MethodName)) ∈ zT := zT_4 31 rfl rfl
theorem q4_32 : (Jvm.Cond.instanceMethod ({ cls := "TitheGridModel", name := "payable", desc := "(I)I" } : Jvm.MethodName)) ∈ zT := zT_4 32 rfl rfl
theorem q4_33 : (Jvm.Cond.selects "TitheGridModel" ({ cls := "TitheGridModel", name := "payable", desc := "(I)I" } : Jvm.MethodName) ({ cls := "TitheGridModel", name := "payable", desc := "(I)I" } : Jvm.MethodName)) ∈ zT := zT_4 33 rfl rfl
theorem q4_34 : (Jvm.Cond.code ({ cls := "TitheGridModel", name := "payable", desc := "(I)I" } : Jvm.MethodName) prog_8_method_46_code (4 : Nat) (Option.some Jvm.ClassFile.FieldType.int)) ∈ zT := zT_4 34 rfl rfl
theorem q4_35 : (Jvm.Cond.methodLink "TitheGridLaw" (89 : Nat) ({ cls := "TitheGridModel", name := "cellsWith", desc := "(I)I" } : Jvm.MethodName)) ∈ zT := zT_4 35 rfl rfl
theorem q4_36 : (Jvm.Cond.instanceMethod ({ cls := "TitheGridModel", name := "cellsWith", desc := "(I)I" } : Jvm.MethodName)) ∈ zT := zT_4 36 rfl rfl
theorem q4_37 : (Jvm.Cond.selects "TitheGridModel" ({ cls := "TitheGridModel", name := "cellsWith", desc := "(I)I" } : Jvm.MethodName) ({ cls := "TitheGridModel", name := "cellsWith", desc := "(I)I" } : Jvm.MethodName)) ∈ zT := zT_4 37 rfl rfl
theorem q4_38 : (Jvm.Cond.code ({ cls := "TitheGridModel", name := "cellsWith", desc := "(I)I" } : Jvm.MethodName) prog_8_method_47_code (7 : Nat) (Option.some Jvm.ClassFile.FieldType.int)) ∈ zT := zT_4 38 rfl rfl
theorem q4_39 : (Jvm.Cond.methodLink "TitheGridLaw" (93 : Nat) ({ cls := "TitheGridModel", name := "joinable", desc := "()I" } : Jvm.MethodName)) ∈ zT := zT_4 39 rfl rfl
theorem q4_40 : (Jvm.Cond.instanceMethod ({ cls := "TitheGridModel", name := "joinable", desc := "()I" } : Jvm.MethodName)) ∈ zT := zT_4 40 rfl rfl
theorem q4_41 : (Jvm.Cond.selects "TitheGridModel" ({ cls := "TitheGridModel", name := "joinable", desc := "()I" } : Jvm.MethodName) ({ cls := "TitheGridModel", name := "joinable", desc := "()I" } : Jvm.MethodName)) ∈ zT := zT_4 41 rfl rfl
theorem q4_42 : (Jvm.Cond.code ({ cls := "TitheGridModel", name := "joinable", desc := "()I" } : Jvm.MethodName) prog_8_method_48_code (2 : Nat) (Option.some Jvm.ClassFile.FieldType.int)) ∈ zT := zT_4 42 rfl rfl
theorem qs_0 : Cond.selects (⟨"TitheGrid$Parishes", "touches", "(IIIII)Z"⟩ : MethodName).cls ⟨"TitheGrid$Parishes", "touches", "(IIIII)Z"⟩ ⟨"TitheGrid$Parishes", "touches", "(IIIII)Z"⟩ ∈ zT := zT_s 0 rfl rfl
theorem qs_1 : Cond.selects (⟨"TitheGrid$State", "firstToSplit", "()I"⟩ : MethodName).cls ⟨"TitheGrid$State", "firstToSplit", "()I"⟩ ⟨"TitheGrid$State", "firstToSplit", "()I"⟩ ∈ zT := zT_s 1 rfl rfl
theorem qs_2 : Cond.selects (⟨"TitheGrid$State", "splitCell", "(I)V"⟩ : MethodName).cls ⟨"TitheGrid$State", "splitCell", "(I)V"⟩ ⟨"TitheGrid$State", "splitCell", "(I)V"⟩ ∈ zT := zT_s 2 rfl rfl
theorem qs_3 : Cond.selects (⟨"TitheGrid$State", "fullestQuarter", "(III)I"⟩ : MethodName).cls ⟨"TitheGrid$State", "fullestQuarter", "(III)I"⟩ ⟨"TitheGrid$State", "fullestQuarter", "(III)I"⟩ ∈ zT := zT_s 3 rfl rfl
theorem qs_4 : Cond.selects (⟨"TitheGrid$State", "foundIn", "(IIII)V"⟩ : MethodName).cls ⟨"TitheGrid$State", "foundIn", "(IIII)V"⟩ ⟨"TitheGrid$State", "foundIn", "(IIII)V"⟩ ∈ zT := zT_s 4 rfl rfl
theorem qs_5 : Cond.selects (⟨"TitheGrid$State", "titheOf", "(I)I"⟩ : MethodName).cls ⟨"TitheGrid$State", "titheOf", "(I)I"⟩ ⟨"TitheGrid$State", "titheOf", "(I)I"⟩ ∈ zT := zT_s 5 rfl rfl
theorem qs_6 : Cond.selects (⟨"TitheGrid$State", "leftAround", "(I)I"⟩ : MethodName).cls ⟨"TitheGrid$State", "leftAround", "(I)I"⟩ ⟨"TitheGrid$State", "leftAround", "(I)I"⟩ ∈ zT := zT_s 6 rfl rfl
theorem qs_7 : Cond.selects (⟨"TitheGrid$State", "topAround", "(I)I"⟩ : MethodName).cls ⟨"TitheGrid$State", "topAround", "(I)I"⟩ ⟨"TitheGrid$State", "topAround", "(I)I"⟩ ∈ zT := zT_s 7 rfl rfl
theorem qs_8 : Cond.selects (⟨"TitheGrid$State", "parishOfQuarter", "(IIII)I"⟩ : MethodName).cls ⟨"TitheGrid$State", "parishOfQuarter", "(IIII)I"⟩ ⟨"TitheGrid$State", "parishOfQuarter", "(IIII)I"⟩ ∈ zT := zT_s 8 rfl rfl
theorem qs_9 : Cond.selects (⟨"TitheGrid$State", "absorb", "(II)V"⟩ : MethodName).cls ⟨"TitheGrid$State", "absorb", "(II)V"⟩ ⟨"TitheGrid$State", "absorb", "(II)V"⟩ ∈ zT := zT_s 9 rfl rfl
theorem qs_10 : Cond.selects (⟨"TitheGrid$Debts", "shift", "(IIII)V"⟩ : MethodName).cls ⟨"TitheGrid$Debts", "shift", "(IIII)V"⟩ ⟨"TitheGrid$Debts", "shift", "(IIII)V"⟩ ∈ zT := zT_s 10 rfl rfl
theorem qs_11 : Cond.selects (⟨"TitheGrid$Points", "crowdedCells", "(II)I"⟩ : MethodName).cls ⟨"TitheGrid$Points", "crowdedCells", "(II)I"⟩ ⟨"TitheGrid$Points", "crowdedCells", "(II)I"⟩ ∈ zT := zT_s 11 rfl rfl
theorem qs_12 : Cond.selects (⟨"TitheGridModel", "records", "()V"⟩ : MethodName).cls ⟨"TitheGridModel", "records", "()V"⟩ ⟨"TitheGridModel", "records", "()V"⟩ ∈ zT := zT_s 12 rfl rfl
theorem qs_13 : Cond.selects (⟨"TitheGridModel", "copies", "(II)V"⟩ : MethodName).cls ⟨"TitheGridModel", "copies", "(II)V"⟩ ⟨"TitheGridModel", "copies", "(II)V"⟩ ∈ zT := zT_s 13 rfl rfl
theorem qs_14 : Cond.selects (⟨"TitheGridModel", "parishAt", "(II)I"⟩ : MethodName).cls ⟨"TitheGridModel", "parishAt", "(II)I"⟩ ⟨"TitheGridModel", "parishAt", "(II)I"⟩ ∈ zT := zT_s 14 rfl rfl
theorem qs_15 : Cond.selects (⟨"TitheGridModel", "ofParish", "(II)I"⟩ : MethodName).cls ⟨"TitheGridModel", "ofParish", "(II)I"⟩ ⟨"TitheGridModel", "ofParish", "(II)I"⟩ ∈ zT := zT_s 15 rfl rfl
theorem qs_16 : Cond.selects (⟨"TitheGridModel", "isParish", "(I)Z"⟩ : MethodName).cls ⟨"TitheGridModel", "isParish", "(I)Z"⟩ ⟨"TitheGridModel", "isParish", "(I)Z"⟩ ∈ zT := zT_s 16 rfl rfl
theorem qs_17 : Cond.selects (⟨"TitheGridModel", "sideOf", "(I)I"⟩ : MethodName).cls ⟨"TitheGridModel", "sideOf", "(I)I"⟩ ⟨"TitheGridModel", "sideOf", "(I)I"⟩ ∈ zT := zT_s 17 rfl rfl
theorem qs_18 : Cond.selects (⟨"TitheGridModel", "setLord", "(II)V"⟩ : MethodName).cls ⟨"TitheGridModel", "setLord", "(II)V"⟩ ⟨"TitheGridModel", "setLord", "(II)V"⟩ ∈ zT := zT_s 18 rfl rfl
theorem qs_19 : Cond.selects (⟨"TitheGridModel", "settles", "()V"⟩ : MethodName).cls ⟨"TitheGridModel", "settles", "()V"⟩ ⟨"TitheGridModel", "settles", "()V"⟩ ∈ zT := zT_s 19 rfl rfl
theorem qs_20 : Cond.selects (⟨"TitheGridModel", "toSplit", "()I"⟩ : MethodName).cls ⟨"TitheGridModel", "toSplit", "()I"⟩ ⟨"TitheGridModel", "toSplit", "()I"⟩ ∈ zT := zT_s 20 rfl rfl
theorem qs_21 : Cond.selects (⟨"TitheGridModel", "isCrowded", "(I)Z"⟩ : MethodName).cls ⟨"TitheGridModel", "isCrowded", "(I)Z"⟩ ⟨"TitheGridModel", "isCrowded", "(I)Z"⟩ ∈ zT := zT_s 21 rfl rfl
theorem qs_22 : Cond.selects (⟨"TitheGridModel", "pointsInCell", "(III)I"⟩ : MethodName).cls ⟨"TitheGridModel", "pointsInCell", "(III)I"⟩ ⟨"TitheGridModel", "pointsInCell", "(III)I"⟩ ∈ zT := zT_s 22 rfl rfl
theorem qs_23 : Cond.selects (⟨"TitheGridModel", "pointsIn", "(IIII)I"⟩ : MethodName).cls ⟨"TitheGridModel", "pointsIn", "(IIII)I"⟩ ⟨"TitheGridModel", "pointsIn", "(IIII)I"⟩ ∈ zT := zT_s 23 rfl rfl
theorem qs_24 : Cond.selects (⟨"TitheGridModel", "isPoint", "(I)Z"⟩ : MethodName).cls ⟨"TitheGridModel", "isPoint", "(I)Z"⟩ ⟨"TitheGridModel", "isPoint", "(I)Z"⟩ ∈ zT := zT_s 24 rfl rfl
theorem qs_25 : Cond.selects (⟨"TitheGridModel", "ofPoint", "(II)I"⟩ : MethodName).cls ⟨"TitheGridModel", "ofPoint", "(II)I"⟩ ⟨"TitheGridModel", "ofPoint", "(II)I"⟩ ∈ zT := zT_s 25 rfl rfl
theorem qs_26 : Cond.selects (⟨"TitheGridModel", "splits", "(I)V"⟩ : MethodName).cls ⟨"TitheGridModel", "splits", "(I)V"⟩ ⟨"TitheGridModel", "splits", "(I)V"⟩ ∈ zT := zT_s 26 rfl rfl
theorem qs_27 : Cond.selects (⟨"TitheGridModel", "setParish", "(IIII)V"⟩ : MethodName).cls ⟨"TitheGridModel", "setParish", "(IIII)V"⟩ ⟨"TitheGridModel", "setParish", "(IIII)V"⟩ ∈ zT := zT_s 27 rfl rfl
theorem qs_28 : Cond.selects (⟨"TitheGridModel", "founds", "(IIII)V"⟩ : MethodName).cls ⟨"TitheGridModel", "founds", "(IIII)V"⟩ ⟨"TitheGridModel", "founds", "(IIII)V"⟩ ∈ zT := zT_s 28 rfl rfl
theorem qs_29 : Cond.selects (⟨"TitheGridModel", "owes", "(III)V"⟩ : MethodName).cls ⟨"TitheGridModel", "owes", "(III)V"⟩ ⟨"TitheGridModel", "owes", "(III)V"⟩ ∈ zT := zT_s 29 rfl rfl
theorem qs_30 : Cond.selects (⟨"TitheGridModel", "allPoints", "()I"⟩ : MethodName).cls ⟨"TitheGridModel", "allPoints", "()I"⟩ ⟨"TitheGridModel", "allPoints", "()I"⟩ ∈ zT := zT_s 30 rfl rfl
theorem qs_31 : Cond.selects (⟨"TitheGridModel", "parishOf", "(I)I"⟩ : MethodName).cls ⟨"TitheGridModel", "parishOf", "(I)I"⟩ ⟨"TitheGridModel", "parishOf", "(I)I"⟩ ∈ zT := zT_s 31 rfl rfl
theorem qs_32 : Cond.selects (⟨"TitheGridModel", "gift", "(I)I"⟩ : MethodName).cls ⟨"TitheGridModel", "gift", "(I)I"⟩ ⟨"TitheGridModel", "gift", "(I)I"⟩ ∈ zT := zT_s 32 rfl rfl
theorem qs_33 : Cond.selects (⟨"TitheGridModel", "debtOf", "(II)I"⟩ : MethodName).cls ⟨"TitheGridModel", "debtOf", "(II)I"⟩ ⟨"TitheGridModel", "debtOf", "(II)I"⟩ ∈ zT := zT_s 33 rfl rfl
theorem qs_34 : Cond.selects (⟨"TitheGridModel", "canJoin", "(I)Z"⟩ : MethodName).cls ⟨"TitheGridModel", "canJoin", "(I)Z"⟩ ⟨"TitheGridModel", "canJoin", "(I)Z"⟩ ∈ zT := zT_s 34 rfl rfl
theorem qs_35 : Cond.selects (⟨"TitheGridModel", "dissolves", "(II)V"⟩ : MethodName).cls ⟨"TitheGridModel", "dissolves", "(II)V"⟩ ⟨"TitheGridModel", "dissolves", "(II)V"⟩ ∈ zT := zT_s 35 rfl rfl
theorem qs_36 : Cond.selects (⟨"TitheGridModel", "owed", "(I)I"⟩ : MethodName).cls ⟨"TitheGridModel", "owed", "(I)I"⟩ ⟨"TitheGridModel", "owed", "(I)I"⟩ ∈ zT := zT_s 36 rfl rfl
theorem qn1_20 : (Jvm.Cond.methodLinkNest "TitheGrid" (9 : Nat) ({ cls := "TitheGrid$State", name := "<init>", desc := "()V" } : Jvm.MethodName) "TitheGrid") ∈ lw_tbl := List.mem_append_right _ (List.mem_append_left _ (List.mem_of_getElem? (i := 20) rfl))
theorem qn1_26 : (Jvm.Cond.methodLinkNest "TitheGrid$State" (20 : Nat) ({ cls := "TitheGrid$Points", name := "<init>", desc := "()V" } : Jvm.MethodName) "TitheGrid") ∈ lw_tbl := List.mem_append_right _ (List.mem_append_left _ (List.mem_of_getElem? (i := 26) rfl))
theorem qn1_57 : (Jvm.Cond.methodLinkNest "TitheGrid$Parishes" (56 : Nat) ({ cls := "TitheGrid", name := "isBetween", desc := "(III)Z" } : Jvm.MethodName) "TitheGrid") ∈ lw_tbl := List.mem_append_right _ (List.mem_append_left _ (List.mem_of_getElem? (i := 57) rfl))
theorem qn1_79 : (Jvm.Cond.methodLinkNest "TitheGrid$State" (34 : Nat) ({ cls := "TitheGrid$Debts", name := "<init>", desc := "()V" } : Jvm.MethodName) "TitheGrid") ∈ lw_tbl := List.mem_append_right _ (List.mem_append_left _ (List.mem_of_getElem? (i := 79) rfl))
theorem qn1_88 : (Jvm.Cond.fieldLinkNest "TitheGrid" (67 : Nat) "TitheGrid$State" "crowd" "I" "TitheGrid") ∈ lw_tbl := List.mem_append_right _ (List.mem_append_left _ (List.mem_of_getElem? (i := 88) rfl))
theorem qn1_90 : (Jvm.Cond.fieldLinkNest "TitheGrid" (71 : Nat) "TitheGrid$State" "tithe" "I" "TitheGrid") ∈ lw_tbl := List.mem_append_right _ (List.mem_append_left _ (List.mem_of_getElem? (i := 90) rfl))
theorem qn1_92 : (Jvm.Cond.fieldLinkNest "TitheGrid" (31 : Nat) "TitheGrid$State" "points" "LTitheGrid$Points;" "TitheGrid") ∈ lw_tbl := List.mem_append_right _ (List.mem_append_left _ (List.mem_of_getElem? (i := 92) rfl))
theorem qn1_94 : (Jvm.Cond.fieldLinkNest "TitheGrid" (74 : Nat) "TitheGrid$State" "parishes" "LTitheGrid$Parishes;" "TitheGrid") ∈ lw_tbl := List.mem_append_right _ (List.mem_append_left _ (List.mem_of_getElem? (i := 94) rfl))
theorem qn1_96 : (Jvm.Cond.fieldLinkNest "TitheGrid" (105 : Nat) "TitheGrid$State" "debts" "LTitheGrid$Debts;" "TitheGrid") ∈ lw_tbl := List.mem_append_right _ (List.mem_append_left _ (List.mem_of_getElem? (i := 96) rfl))
theorem qn1_115 : (Jvm.Cond.arrayOver (Jvm.ClassFile.FieldType.object "TitheGrid$State")) ∈ lw_tbl := List.mem_append_right _ (List.mem_append_left _ (List.mem_of_getElem? (i := 115) rfl))
theorem qn1_116 : (Jvm.Cond.methodLinkNest "TitheGrid$History" (17 : Nat) ({ cls := "TitheGrid$State", name := "<init>", desc := "()V" } : Jvm.MethodName) "TitheGrid") ∈ lw_tbl := List.mem_append_right _ (List.mem_append_left _ (List.mem_of_getElem? (i := 116) rfl))
theorem qn1_187 : (Jvm.Cond.methodLinkNest "TitheGrid$Parishes" (50 : Nat) ({ cls := "TitheGrid", name := "sideOf", desc := "(I)I" } : Jvm.MethodName) "TitheGrid") ∈ lw_tbl := List.mem_append_right _ (List.mem_append_left _ (List.mem_of_getElem? (i := 187) rfl))
theorem qn1_194 : (Jvm.Cond.methodLinkNest "TitheGrid$Points" (38 : Nat) ({ cls := "TitheGrid", name := "isBetween", desc := "(III)Z" } : Jvm.MethodName) "TitheGrid") ∈ lw_tbl := List.mem_append_right _ (List.mem_append_left _ (List.mem_of_getElem? (i := 194) rfl))
theorem qn2_11 : (Jvm.Cond.methodLinkNest "TitheGrid$State" (115 : Nat) ({ cls := "TitheGrid", name := "sideOf", desc := "(I)I" } : Jvm.MethodName) "TitheGrid") ∈ lw_tbl := List.mem_append_right _ (List.mem_append_right _ (List.mem_append_left _ (List.mem_of_getElem? (i := 11) rfl)))
theorem qn2_16 : (Jvm.Cond.methodLinkNest "TitheGrid$State" (122 : Nat) ({ cls := "TitheGrid", name := "quarterLeft", desc := "(III)I" } : Jvm.MethodName) "TitheGrid") ∈ lw_tbl := List.mem_append_right _ (List.mem_append_right _ (List.mem_append_left _ (List.mem_of_getElem? (i := 16) rfl)))
theorem qn2_19 : (Jvm.Cond.methodLinkNest "TitheGrid$State" (125 : Nat) ({ cls := "TitheGrid", name := "quarterTop", desc := "(III)I" } : Jvm.MethodName) "TitheGrid") ∈ lw_tbl := List.mem_append_right _ (List.mem_append_right _ (List.mem_append_left _ (List.mem_of_getElem? (i := 19) rfl)))
theorem qn3_77 : (Jvm.Cond.methodLinkNest "TitheGrid$Points" (66 : Nat) ({ cls := "TitheGrid", name := "sideOf", desc := "(I)I" } : Jvm.MethodName) "TitheGrid") ∈ lw_tbl := List.mem_append_right _ (List.mem_append_right _ (List.mem_append_right _ (List.mem_append_left _ (List.mem_of_getElem? (i := 77) rfl))))
theorem inZ0 : ∀ w ∈ wsX00, w ∈ zT := by
  show ∀ w ∈ [(Jvm.Cond.laysFinal "TitheGrid$Debts" "TitheGrid$Debts" "amounts" "[I")], w ∈ zT
  exact List.forall_mem_cons.mpr ⟨q1_84, fun _ h => absurd h List.not_mem_nil⟩
theorem inZ1 : ∀ w ∈ wsX10, w ∈ zT := by
  show ∀ w ∈ [(Jvm.Cond.lays "TitheGrid$History" "TitheGrid$History" "number" "I"), (Jvm.Cond.laysFinal "TitheGrid$History" "TitheGrid$History" "states" "[LTitheGrid$State;")], w ∈ zT
  exact List.forall_mem_cons.mpr ⟨q1_119, List.forall_mem_cons.mpr ⟨q1_121, fun _ h => absurd h List.not_mem_nil⟩⟩
theorem inZ2 : ∀ w ∈ wsX20, w ∈ zT := by
  show ∀ w ∈ [(Jvm.Cond.lays "TitheGrid$Parishes" "TitheGrid$Parishes" "founded" "I"), (Jvm.Cond.laysFinal "TitheGrid$Parishes" "TitheGrid$Parishes" "left" "[I"), (Jvm.Cond.laysFinal "TitheGrid$Parishes" "TitheGrid$Parishes" "top" "[I"), (Jvm.Cond.laysFinal "TitheGrid$Parishes" "TitheGrid$Parishes" "scale" "[I")], w ∈ zT
  exact List.forall_mem_cons.mpr ⟨q1_68, List.forall_mem_cons.mpr ⟨q1_70, List.forall_mem_cons.mpr ⟨q1_72, List.forall_mem_cons.mpr ⟨q1_74, fun _ h => absurd h List.not_mem_nil⟩⟩⟩⟩
theorem inZ3 : ∀ w ∈ wsX30, w ∈ zT := by
  show ∀ w ∈ [(Jvm.Cond.lays "TitheGrid$Points" "TitheGrid$Points" "added" "I"), (Jvm.Cond.laysFinal "TitheGrid$Points" "TitheGrid$Points" "x" "[I"), (Jvm.Cond.laysFinal "TitheGrid$Points" "TitheGrid$Points" "y" "[I"), (Jvm.Cond.laysFinal "TitheGrid$Points" "TitheGrid$Points" "wealth" "[I"), (Jvm.Cond.laysFinal "TitheGrid$Points" "TitheGrid$Points" "lord" "[I")], w ∈ zT
  exact List.forall_mem_cons.mpr ⟨q1_35, List.forall_mem_cons.mpr ⟨q1_37, List.forall_mem_cons.mpr ⟨q1_39, List.forall_mem_cons.mpr ⟨q1_41, List.forall_mem_cons.mpr ⟨q1_43, fun _ h => absurd h List.not_mem_nil⟩⟩⟩⟩⟩
theorem inZ4 : ∀ w ∈ wsX40, w ∈ zT := by
  show ∀ w ∈ [(Jvm.Cond.lays "TitheGrid$State" "TitheGrid$State" "crowd" "I"), (Jvm.Cond.lays "TitheGrid$State" "TitheGrid$State" "tithe" "I"), (Jvm.Cond.laysFinal "TitheGrid$State" "TitheGrid$State" "points" "LTitheGrid$Points;"), (Jvm.Cond.laysFinal "TitheGrid$State" "TitheGrid$State" "parishes" "LTitheGrid$Parishes;"), (Jvm.Cond.laysFinal "TitheGrid$State" "TitheGrid$State" "debts" "LTitheGrid$Debts;")], w ∈ zT
  exact List.forall_mem_cons.mpr ⟨q1_97, List.forall_mem_cons.mpr ⟨q1_99, List.forall_mem_cons.mpr ⟨q1_101, List.forall_mem_cons.mpr ⟨q1_103, List.forall_mem_cons.mpr ⟨q1_105, fun _ h => absurd h List.not_mem_nil⟩⟩⟩⟩⟩
theorem inZ5 : ∀ w ∈ wsX50, w ∈ zT := by
  show ∀ w ∈ [(Jvm.Cond.laysFinal "TitheGrid" "TitheGrid" "now" "LTitheGrid$State;"), (Jvm.Cond.laysFinal "TitheGrid" "TitheGrid" "history" "LTitheGrid$History;")], w ∈ zT
  exact List.forall_mem_cons.mpr ⟨q1_126, List.forall_mem_cons.mpr ⟨q1_128, fun _ h => absurd h List.not_mem_nil⟩⟩
theorem inZ6 : ∀ w ∈ wsX60, w ∈ zT := by
  show ∀ w ∈ [(Jvm.Cond.laysFinal "TitheGridModel" "TitheGridModel" "row" "[I"), (Jvm.Cond.lays "TitheGridModel" "TitheGridModel" "kept" "I"), (Jvm.Cond.laysFinal "TitheGridModel" "TitheGridModel" "four" "[I")], w ∈ zT
  exact List.forall_mem_cons.mpr ⟨q3_91, List.forall_mem_cons.mpr ⟨q3_93, List.forall_mem_cons.mpr ⟨q3_95, fun _ h => absurd h List.not_mem_nil⟩⟩⟩
end
section
theorem dX0_init_0 : decode cX0_init 0 = .ok (.aload_n 0, 1) := by decide +kernel
theorem dX0_init_1 : decode cX0_init 1 = .ok (.invokespecial 3, 3) := by decide +kernel
theorem dX0_init_4 : decode cX0_init 4 = .ok (.aload_n 0, 1) := by decide +kernel
theorem dX0_init_5 : decode cX0_init 5 = .ok (.sipush 1600, 3) := by decide +kernel
theorem dX0_init_8 : decode cX0_init 8 = .ok (.newarray .int, 2) := by decide +kernel
theorem dX0_init_10 : decode cX0_init 10 = .ok (.putfield 9, 3) := by decide +kernel
theorem dX0_init_13 : decode cX0_init 13 = .ok (.return_, 1) := by decide +kernel
theorem dX0_copyFrom_0 : decode cX0_copyFrom 0 = .ok (.aload_n 1, 1) := by decide +kernel
theorem dX0_copyFrom_1 : decode cX0_copyFrom 1 = .ok (.getfield 9, 3) := by decide +kernel
theorem dX0_copyFrom_4 : decode cX0_copyFrom 4 = .ok (.iconst 0, 1) := by decide +kernel
theorem dX0_copyFrom_5 : decode cX0_copyFrom 5 = .ok (.aload_n 0, 1) := by decide +kernel
theorem dX0_copyFrom_6 : decode cX0_copyFrom 6 = .ok (.getfield 9, 3) := by decide +kernel
theorem dX0_copyFrom_9 : decode cX0_copyFrom 9 = .ok (.iconst 0, 1) := by decide +kernel
theorem dX0_copyFrom_10 : decode cX0_copyFrom 10 = .ok (.sipush 1600, 3) := by decide +kernel
theorem dX0_copyFrom_13 : decode cX0_copyFrom 13 = .ok (.invokestatic 15, 3) := by decide +kernel
theorem dX0_copyFrom_16 : decode cX0_copyFrom 16 = .ok (.return_, 1) := by decide +kernel
theorem dX0_owed_0 : decode cX0_owed 0 = .ok (.iload_n 1, 1) := by decide +kernel
theorem dX0_owed_1 : decode cX0_owed 1 = .ok (.iload_n 2, 1) := by decide +kernel
theorem dX0_owed_2 : decode cX0_owed 2 = .ok (.invokestatic 21, 3) := by decide +kernel
theorem dX0_owed_5 : decode cX0_owed 5 = .ok (.ifCond .eq 17, 3) := by decide +kernel
theorem dX0_owed_8 : decode cX0_owed 8 = .ok (.aload_n 0, 1) := by decide +kernel
theorem dX0_owed_9 : decode cX0_owed 9 = .ok (.getfield 9, 3) := by decide +kernel
theorem dX0_owed_12 : decode cX0_owed 12 = .ok (.iload_n 1, 1) := by decide +kernel
theorem dX0_owed_13 : decode cX0_owed 13 = .ok (.bipush 40, 2) := by decide +kernel
theorem dX0_owed_15 : decode cX0_owed 15 = .ok (.imul, 1) := by decide +kernel
theorem dX0_owed_16 : decode cX0_owed 16 = .ok (.iload_n 2, 1) := by decide +kernel
theorem dX0_owed_17 : decode cX0_owed 17 = .ok (.iadd, 1) := by decide +kernel
theorem dX0_owed_18 : decode cX0_owed 18 = .ok (.iaload, 1) := by decide +kernel
theorem dX0_owed_19 : decode cX0_owed 19 = .ok (.goto 4, 3) := by decide +kernel
theorem dX0_owed_22 : decode cX0_owed 22 = .ok (.iconst 0, 1) := by decide +kernel
theorem dX0_owed_23 : decode cX0_owed 23 = .ok (.ireturn, 1) := by decide +kernel
theorem dX0_change_0 : decode cX0_change 0 = .ok (.iload_n 1, 1) := by decide +kernel
theorem dX0_change_1 : decode cX0_change 1 = .ok (.iload_n 2, 1) := by decide +kernel
theorem dX0_change_2 : decode cX0_change 2 = .ok (.invokestatic 21, 3) := by decide +kernel
theorem dX0_change_5 : decode cX0_change 5 = .ok (.ifCond .eq 18, 3) := by decide +kernel
theorem dX0_change_8 : decode cX0_change 8 = .ok (.aload_n 0, 1) := by decide +kernel
theorem dX0_change_9 : decode cX0_change 9 = .ok (.getfield 9, 3) := by decide +kernel
theorem dX0_change_12 : decode cX0_change 12 = .ok (.iload_n 1, 1) := by decide +kernel
theorem dX0_change_13 : decode cX0_change 13 = .ok (.bipush 40, 2) := by decide +kernel
theorem dX0_change_15 : decode cX0_change 15 = .ok (.imul, 1) := by decide +kernel
theorem dX0_change_16 : decode cX0_change 16 = .ok (.iload_n 2, 1) := by decide +kernel
theorem dX0_change_17 : decode cX0_change 17 = .ok (.iadd, 1) := by decide +kernel
theorem dX0_change_18 : decode cX0_change 18 = .ok (.dup2, 1) := by decide +kernel
theorem dX0_change_19 : decode cX0_change 19 = .ok (.iaload, 1) := by decide +kernel
theorem dX0_change_20 : decode cX0_change 20 = .ok (.iload_n 3, 1) := by decide +kernel
theorem dX0_change_21 : decode cX0_change 21 = .ok (.iadd, 1) := by decide +kernel
theorem dX0_change_22 : decode cX0_change 22 = .ok (.iastore, 1) := by decide +kernel
theorem dX0_change_23 : decode cX0_change 23 = .ok (.return_, 1) := by decide +kernel
theorem dX0_areParishes_0 : decode cX0_areParishes 0 = .ok (.iload_n 0, 1) := by decide +kernel
theorem dX0_areParishes_1 : decode cX0_areParishes 1 = .ok (.ifCond .lt 23, 3) := by decide +kernel
theorem dX0_areParishes_4 : decode cX0_areParishes 4 = .ok (.iload_n 0, 1) := by decide +kernel
theorem dX0_areParishes_5 : decode cX0_areParishes 5 = .ok (.bipush 40, 2) := by decide +kernel
theorem dX0_areParishes_7 : decode cX0_areParishes 7 = .ok (.if_icmp .ge 17, 3) := by decide +kernel
theorem dX0_areParishes_10 : decode cX0_areParishes 10 = .ok (.iload_n 1, 1) := by decide +kernel
theorem dX0_areParishes_11 : decode cX0_areParishes 11 = .ok (.ifCond .lt 13, 3) := by decide +kernel
theorem dX0_areParishes_14 : decode cX0_areParishes 14 = .ok (.iload_n 1, 1) := by decide +kernel
theorem dX0_areParishes_15 : decode cX0_areParishes 15 = .ok (.bipush 40, 2) := by decide +kernel
theorem dX0_areParishes_17 : decode cX0_areParishes 17 = .ok (.if_icmp .ge 7, 3) := by decide +kernel
theorem dX0_areParishes_20 : decode cX0_areParishes 20 = .ok (.iconst 1, 1) := by decide +kernel
theorem dX0_areParishes_21 : decode cX0_areParishes 21 = .ok (.goto 4, 3) := by decide +kernel
theorem dX0_areParishes_24 : decode cX0_areParishes 24 = .ok (.iconst 0, 1) := by decide +kernel
theorem dX0_areParishes_25 : decode cX0_areParishes 25 = .ok (.ireturn, 1) := by decide +kernel
theorem dX0_owedBy_0 : decode cX0_owedBy 0 = .ok (.iconst 0, 1) := by decide +kernel
theorem dX0_owedBy_1 : decode cX0_owedBy 1 = .ok (.istore_n 2, 1) := by decide +kernel
theorem dX0_owedBy_2 : decode cX0_owedBy 2 = .ok (.iconst 0, 1) := by decide +kernel
theorem dX0_owedBy_3 : decode cX0_owedBy 3 = .ok (.istore_n 3, 1) := by decide +kernel
theorem dX0_owedBy_4 : decode cX0_owedBy 4 = .ok (.iload_n 3, 1) := by decide +kernel
theorem dX0_owedBy_5 : decode cX0_owedBy 5 = .ok (.bipush 40, 2) := by decide +kernel
theorem dX0_owedBy_7 : decode cX0_owedBy 7 = .ok (.if_icmp .ge 18, 3) := by decide +kernel
theorem dX0_owedBy_10 : decode cX0_owedBy 10 = .ok (.iload_n 2, 1) := by decide +kernel
theorem dX0_owedBy_11 : decode cX0_owedBy 11 = .ok (.aload_n 0, 1) := by decide +kernel
theorem dX0_owedBy_12 : decode cX0_owedBy 12 = .ok (.iload_n 1, 1) := by decide +kernel
theorem dX0_owedBy_13 : decode cX0_owedBy 13 = .ok (.iload_n 3, 1) := by decide +kernel
theorem dX0_owedBy_14 : decode cX0_owedBy 14 = .ok (.invokevirtual 25, 3) := by decide +kernel
theorem dX0_owedBy_17 : decode cX0_owedBy 17 = .ok (.iadd, 1) := by decide +kernel
theorem dX0_owedBy_18 : decode cX0_owedBy 18 = .ok (.istore_n 2, 1) := by decide +kernel
theorem dX0_owedBy_19 : decode cX0_owedBy 19 = .ok (.iinc 3 1, 3) := by decide +kernel
theorem dX0_owedBy_22 : decode cX0_owedBy 22 = .ok (.goto (-18), 3) := by decide +kernel
theorem dX0_owedBy_25 : decode cX0_owedBy 25 = .ok (.iload_n 2, 1) := by decide +kernel
theorem dX0_owedBy_26 : decode cX0_owedBy 26 = .ok (.ireturn, 1) := by decide +kernel
theorem dX0_owedTo_0 : decode cX0_owedTo 0 = .ok (.iconst 0, 1) := by decide +kernel
theorem dX0_owedTo_1 : decode cX0_owedTo 1 = .ok (.istore_n 2, 1) := by decide +kernel
theorem dX0_owedTo_2 : decode cX0_owedTo 2 = .ok (.iconst 0, 1) := by decide +kernel
theorem dX0_owedTo_3 : decode cX0_owedTo 3 = .ok (.istore_n 3, 1) := by decide +kernel
theorem dX0_owedTo_4 : decode cX0_owedTo 4 = .ok (.iload_n 3, 1) := by decide +kernel
theorem dX0_owedTo_5 : decode cX0_owedTo 5 = .ok (.bipush 40, 2) := by decide +kernel
theorem dX0_owedTo_7 : decode cX0_owedTo 7 = .ok (.if_icmp .ge 18, 3) := by decide +kernel
theorem dX0_owedTo_10 : decode cX0_owedTo 10 = .ok (.iload_n 2, 1) := by decide +kernel
theorem dX0_owedTo_11 : decode cX0_owedTo 11 = .ok (.aload_n 0, 1) := by decide +kernel
theorem dX0_owedTo_12 : decode cX0_owedTo 12 = .ok (.iload_n 3, 1) := by decide +kernel
theorem dX0_owedTo_13 : decode cX0_owedTo 13 = .ok (.iload_n 1, 1) := by decide +kernel
theorem dX0_owedTo_14 : decode cX0_owedTo 14 = .ok (.invokevirtual 25, 3) := by decide +kernel
theorem dX0_owedTo_17 : decode cX0_owedTo 17 = .ok (.iadd, 1) := by decide +kernel
theorem dX0_owedTo_18 : decode cX0_owedTo 18 = .ok (.istore_n 2, 1) := by decide +kernel
theorem dX0_owedTo_19 : decode cX0_owedTo 19 = .ok (.iinc 3 1, 3) := by decide +kernel
theorem dX0_owedTo_22 : decode cX0_owedTo 22 = .ok (.goto (-18), 3) := by decide +kernel
theorem dX0_owedTo_25 : decode cX0_owedTo 25 = .ok (.iload_n 2, 1) := by decide +kernel
theorem dX0_owedTo_26 : decode cX0_owedTo 26 = .ok (.ireturn, 1) := by decide +kernel
theorem dX0_sum_0 : decode cX0_sum 0 = .ok (.iconst 0, 1) := by decide +kernel
theorem dX0_sum_1 : decode cX0_sum 1 = .ok (.istore_n 1, 1) := by decide +kernel
theorem dX0_sum_2 : decode cX0_sum 2 = .ok (.iconst 0, 1) := by decide +kernel
theorem dX0_sum_3 : decode cX0_sum 3 = .ok (.istore_n 2, 1) := by decide +kernel
theorem dX0_sum_4 : decode cX0_sum 4 = .ok (.iload_n 2, 1) := by decide +kernel
theorem dX0_sum_5 : decode cX0_sum 5 = .ok (.bipush 40, 2) := by decide +kernel
theorem dX0_sum_7 : decode cX0_sum 7 = .ok (.if_icmp .ge 17, 3) := by decide +kernel
theorem dX0_sum_10 : decode cX0_sum 10 = .ok (.iload_n 1, 1) := by decide +kernel
theorem dX0_sum_11 : decode cX0_sum 11 = .ok (.aload_n 0, 1) := by decide +kernel
theorem dX0_sum_12 : decode cX0_sum 12 = .ok (.iload_n 2, 1) := by decide +kernel
theorem dX0_sum_13 : decode cX0_sum 13 = .ok (.invokevirtual 29, 3) := by decide +kernel
theorem dX0_sum_16 : decode cX0_sum 16 = .ok (.iadd, 1) := by decide +kernel
theorem dX0_sum_17 : decode cX0_sum 17 = .ok (.istore_n 1, 1) := by decide +kernel
theorem dX0_sum_18 : decode cX0_sum 18 = .ok (.iinc 2 1, 3) := by decide +kernel
theorem dX0_sum_21 : decode cX0_sum 21 = .ok (.goto (-17), 3) := by decide +kernel
theorem dX0_sum_24 : decode cX0_sum 24 = .ok (.iload_n 1, 1) := by decide +kernel
theorem dX0_sum_25 : decode cX0_sum 25 = .ok (.ireturn, 1) := by decide +kernel
theorem dX0_firstCreditorOf_0 : decode cX0_firstCreditorOf 0 = .ok (.iconst 0, 1) := by decide +kernel
theorem dX0_firstCreditorOf_1 : decode cX0_firstCreditorOf 1 = .ok (.istore_n 2, 1) := by decide +kernel
theorem dX0_firstCreditorOf_2 : decode cX0_firstCreditorOf 2 = .ok (.iload_n 2, 1) := by decide +kernel
theorem dX0_firstCreditorOf_3 : decode cX0_firstCreditorOf 3 = .ok (.bipush 40, 2) := by decide +kernel
theorem dX0_firstCreditorOf_5 : decode cX0_firstCreditorOf 5 = .ok (.if_icmp .ge 20, 3) := by decide +kernel
theorem dX0_firstCreditorOf_8 : decode cX0_firstCreditorOf 8 = .ok (.aload_n 0, 1) := by decide +kernel
theorem dX0_firstCreditorOf_9 : decode cX0_firstCreditorOf 9 = .ok (.iload_n 1, 1) := by decide +kernel
theorem dX0_firstCreditorOf_10 : decode cX0_firstCreditorOf 10 = .ok (.iload_n 2, 1) := by decide +kernel
theorem dX0_firstCreditorOf_11 : decode cX0_firstCreditorOf 11 = .ok (.invokevirtual 25, 3) := by decide +kernel
theorem dX0_firstCreditorOf_14 : decode cX0_firstCreditorOf 14 = .ok (.ifCond .le 5, 3) := by decide +kernel
theorem dX0_firstCreditorOf_17 : decode cX0_firstCreditorOf 17 = .ok (.iload_n 2, 1) := by decide +kernel
theorem dX0_firstCreditorOf_18 : decode cX0_firstCreditorOf 18 = .ok (.ireturn, 1) := by decide +kernel
theorem dX0_firstCreditorOf_19 : decode cX0_firstCreditorOf 19 = .ok (.iinc 2 1, 3) := by decide +kernel
theorem dX0_firstCreditorOf_22 : decode cX0_firstCreditorOf 22 = .ok (.goto (-20), 3) := by decide +kernel
theorem dX0_firstCreditorOf_25 : decode cX0_firstCreditorOf 25 = .ok (.bipush (-9), 2) := by decide +kernel
theorem dX0_firstCreditorOf_27 : decode cX0_firstCreditorOf 27 = .ok (.ireturn, 1) := by decide +kernel
theorem dX0_passOn_0 : decode cX0_passOn 0 = .ok (.iconst 0, 1) := by decide +kernel
theorem dX0_passOn_1 : decode cX0_passOn 1 = .ok (.istore_n 3, 1) := by decide +kernel
theorem dX0_passOn_2 : decode cX0_passOn 2 = .ok (.iload_n 3, 1) := by decide +kernel
theorem dX0_passOn_3 : decode cX0_passOn 3 = .ok (.bipush 40, 2) := by decide +kernel
theorem dX0_passOn_5 : decode cX0_passOn 5 = .ok (.if_icmp .ge 17, 3) := by decide +kernel
theorem dX0_passOn_8 : decode cX0_passOn 8 = .ok (.aload_n 0, 1) := by decide +kernel
theorem dX0_passOn_9 : decode cX0_passOn 9 = .ok (.iload_n 1, 1) := by decide +kernel
theorem dX0_passOn_10 : decode cX0_passOn 10 = .ok (.iload_n 3, 1) := by decide +kernel
theorem dX0_passOn_11 : decode cX0_passOn 11 = .ok (.iload_n 2, 1) := by decide +kernel
theorem dX0_passOn_12 : decode cX0_passOn 12 = .ok (.iload_n 3, 1) := by decide +kernel
theorem dX0_passOn_13 : decode cX0_passOn 13 = .ok (.invokevirtual 33, 3) := by decide +kernel
theorem dX0_passOn_16 : decode cX0_passOn 16 = .ok (.iinc 3 1, 3) := by decide +kernel
theorem dX0_passOn_19 : decode cX0_passOn 19 = .ok (.goto (-17), 3) := by decide +kernel
theorem dX0_passOn_22 : decode cX0_passOn 22 = .ok (.iconst 0, 1) := by decide +kernel
theorem dX0_passOn_23 : decode cX0_passOn 23 = .ok (.istore_n 3, 1) := by decide +kernel
theorem dX0_passOn_24 : decode cX0_passOn 24 = .ok (.iload_n 3, 1) := by decide +kernel
theorem dX0_passOn_25 : decode cX0_passOn 25 = .ok (.bipush 40, 2) := by decide +kernel
theorem dX0_passOn_27 : decode cX0_passOn 27 = .ok (.if_icmp .ge 17, 3) := by decide +kernel
theorem dX0_passOn_30 : decode cX0_passOn 30 = .ok (.aload_n 0, 1) := by decide +kernel
theorem dX0_passOn_31 : decode cX0_passOn 31 = .ok (.iload_n 3, 1) := by decide +kernel
theorem dX0_passOn_32 : decode cX0_passOn 32 = .ok (.iload_n 1, 1) := by decide +kernel
theorem dX0_passOn_33 : decode cX0_passOn 33 = .ok (.iload_n 3, 1) := by decide +kernel
theorem dX0_passOn_34 : decode cX0_passOn 34 = .ok (.iload_n 2, 1) := by decide +kernel
theorem dX0_passOn_35 : decode cX0_passOn 35 = .ok (.invokevirtual 33, 3) := by decide +kernel
theorem dX0_passOn_38 : decode cX0_passOn 38 = .ok (.iinc 3 1, 3) := by decide +kernel
theorem dX0_passOn_41 : decode cX0_passOn 41 = .ok (.goto (-17), 3) := by decide +kernel
theorem dX0_passOn_44 : decode cX0_passOn 44 = .ok (.aload_n 0, 1) := by decide +kernel
theorem dX0_passOn_45 : decode cX0_passOn 45 = .ok (.iload_n 2, 1) := by decide +kernel
theorem dX0_passOn_46 : decode cX0_passOn 46 = .ok (.iload_n 2, 1) := by decide +kernel
theorem dX0_passOn_47 : decode cX0_passOn 47 = .ok (.aload_n 0, 1) := by decide +kernel
theorem dX0_passOn_48 : decode cX0_passOn 48 = .ok (.iload_n 2, 1) := by decide +kernel
theorem dX0_passOn_49 : decode cX0_passOn 49 = .ok (.iload_n 2, 1) := by decide +kernel
theorem dX0_passOn_50 : decode cX0_passOn 50 = .ok (.invokevirtual 25, 3) := by decide +kernel
theorem dX0_passOn_53 : decode cX0_passOn 53 = .ok (.ineg, 1) := by decide +kernel
theorem dX0_passOn_54 : decode cX0_passOn 54 = .ok (.invokevirtual 37, 3) := by decide +kernel
theorem dX0_passOn_57 : decode cX0_passOn 57 = .ok (.return_, 1) := by decide +kernel
theorem dX0_shift_0 : decode cX0_shift 0 = .ok (.aload_n 0, 1) := by decide +kernel
theorem dX0_shift_1 : decode cX0_shift 1 = .ok (.iload_n 1, 1) := by decide +kernel
theorem dX0_shift_2 : decode cX0_shift 2 = .ok (.iload_n 2, 1) := by decide +kernel
theorem dX0_shift_3 : decode cX0_shift 3 = .ok (.invokevirtual 25, 3) := by decide +kernel
theorem dX0_shift_6 : decode cX0_shift 6 = .ok (.istore 5, 2) := by decide +kernel
theorem dX0_shift_8 : decode cX0_shift 8 = .ok (.aload_n 0, 1) := by decide +kernel
theorem dX0_shift_9 : decode cX0_shift 9 = .ok (.iload_n 1, 1) := by decide +kernel
theorem dX0_shift_10 : decode cX0_shift 10 = .ok (.iload_n 2, 1) := by decide +kernel
theorem dX0_shift_11 : decode cX0_shift 11 = .ok (.iload 5, 2) := by decide +kernel
theorem dX0_shift_13 : decode cX0_shift 13 = .ok (.ineg, 1) := by decide +kernel
theorem dX0_shift_14 : decode cX0_shift 14 = .ok (.invokevirtual 37, 3) := by decide +kernel
theorem dX0_shift_17 : decode cX0_shift 17 = .ok (.aload_n 0, 1) := by decide +kernel
theorem dX0_shift_18 : decode cX0_shift 18 = .ok (.iload_n 3, 1) := by decide +kernel
theorem dX0_shift_19 : decode cX0_shift 19 = .ok (.iload 4, 2) := by decide +kernel
theorem dX0_shift_21 : decode cX0_shift 21 = .ok (.iload 5, 2) := by decide +kernel
theorem dX0_shift_23 : decode cX0_shift 23 = .ok (.invokevirtual 37, 3) := by decide +kernel
theorem dX0_shift_26 : decode cX0_shift 26 = .ok (.return_, 1) := by decide +kernel
theorem dX1_init_0 : decode cX1_init 0 = .ok (.aload_n 0, 1) := by decide +kernel
theorem dX1_init_1 : decode cX1_init 1 = .ok (.invokespecial 3, 3) := by decide +kernel
theorem dX1_init_4 : decode cX1_init 4 = .ok (.aload_n 0, 1) := by decide +kernel
theorem dX1_init_5 : decode cX1_init 5 = .ok (.iconst 5, 1) := by decide +kernel
theorem dX1_init_6 : decode cX1_init 6 = .ok (.anewarray 9, 3) := by decide +kernel
theorem dX1_init_9 : decode cX1_init 9 = .ok (.putfield 11, 3) := by decide +kernel
theorem dX1_init_12 : decode cX1_init 12 = .ok (.iconst 0, 1) := by decide +kernel
theorem dX1_init_13 : decode cX1_init 13 = .ok (.istore_n 1, 1) := by decide +kernel
theorem dX1_init_14 : decode cX1_init 14 = .ok (.iload_n 1, 1) := by decide +kernel
theorem dX1_init_15 : decode cX1_init 15 = .ok (.iconst 5, 1) := by decide +kernel
theorem dX1_init_16 : decode cX1_init 16 = .ok (.if_icmp .ge 22, 3) := by decide +kernel
theorem dX1_init_19 : decode cX1_init 19 = .ok (.aload_n 0, 1) := by decide +kernel
theorem dX1_init_20 : decode cX1_init 20 = .ok (.getfield 11, 3) := by decide +kernel
theorem dX1_init_23 : decode cX1_init 23 = .ok (.iload_n 1, 1) := by decide +kernel
theorem dX1_init_24 : decode cX1_init 24 = .ok (.new 9, 3) := by decide +kernel
theorem dX1_init_27 : decode cX1_init 27 = .ok (.dup, 1) := by decide +kernel
theorem dX1_init_28 : decode cX1_init 28 = .ok (.invokespecial 17, 3) := by decide +kernel
theorem dX1_init_31 : decode cX1_init 31 = .ok (.aastore, 1) := by decide +kernel
theorem dX1_init_32 : decode cX1_init 32 = .ok (.iinc 1 1, 3) := by decide +kernel
theorem dX1_init_35 : decode cX1_init 35 = .ok (.goto (-21), 3) := by decide +kernel
theorem dX1_init_38 : decode cX1_init 38 = .ok (.return_, 1) := by decide +kernel
theorem dX1_isEmpty_0 : decode cX1_isEmpty 0 = .ok (.aload_n 0, 1) := by decide +kernel
theorem dX1_isEmpty_1 : decode cX1_isEmpty 1 = .ok (.getfield 18, 3) := by decide +kernel
theorem dX1_isEmpty_4 : decode cX1_isEmpty 4 = .ok (.ifCond .ne 7, 3) := by decide +kernel
theorem dX1_isEmpty_7 : decode cX1_isEmpty 7 = .ok (.iconst 1, 1) := by decide +kernel
theorem dX1_isEmpty_8 : decode cX1_isEmpty 8 = .ok (.goto 4, 3) := by decide +kernel
theorem dX1_isEmpty_11 : decode cX1_isEmpty 11 = .ok (.iconst 0, 1) := by decide +kernel
theorem dX1_isEmpty_12 : decode cX1_isEmpty 12 = .ok (.ireturn, 1) := by decide +kernel
theorem dX1_number_0 : decode cX1_number 0 = .ok (.aload_n 0, 1) := by decide +kernel
theorem dX1_number_1 : decode cX1_number 1 = .ok (.getfield 18, 3) := by decide +kernel
theorem dX1_number_4 : decode cX1_number 4 = .ok (.ireturn, 1) := by decide +kernel
theorem dX1_keep_0 : decode cX1_keep 0 = .ok (.aload_n 0, 1) := by decide +kernel
theorem dX1_keep_1 : decode cX1_keep 1 = .ok (.getfield 11, 3) := by decide +kernel
theorem dX1_keep_4 : decode cX1_keep 4 = .ok (.iconst 4, 1) := by decide +kernel
theorem dX1_keep_5 : decode cX1_keep 5 = .ok (.aaload, 1) := by decide +kernel
theorem dX1_keep_6 : decode cX1_keep 6 = .ok (.astore_n 2, 1) := by decide +kernel
theorem dX1_keep_7 : decode cX1_keep 7 = .ok (.iconst 4, 1) := by decide +kernel
theorem dX1_keep_8 : decode cX1_keep 8 = .ok (.istore_n 3, 1) := by decide +kernel
theorem dX1_keep_9 : decode cX1_keep 9 = .ok (.iload_n 3, 1) := by decide +kernel
theorem dX1_keep_10 : decode cX1_keep 10 = .ok (.ifCond .le 23, 3) := by decide +kernel
theorem dX1_keep_13 : decode cX1_keep 13 = .ok (.aload_n 0, 1) := by decide +kernel
theorem dX1_keep_14 : decode cX1_keep 14 = .ok (.getfield 11, 3) := by decide +kernel
theorem dX1_keep_17 : decode cX1_keep 17 = .ok (.iload_n 3, 1) := by decide +kernel
theorem dX1_keep_18 : decode cX1_keep 18 = .ok (.aload_n 0, 1) := by decide +kernel
theorem dX1_keep_19 : decode cX1_keep 19 = .ok (.getfield 11, 3) := by decide +kernel
theorem dX1_keep_22 : decode cX1_keep 22 = .ok (.iload_n 3, 1) := by decide +kernel
theorem dX1_keep_23 : decode cX1_keep 23 = .ok (.iconst 1, 1) := by decide +kernel
theorem dX1_keep_24 : decode cX1_keep 24 = .ok (.isub, 1) := by decide +kernel
theorem dX1_keep_25 : decode cX1_keep 25 = .ok (.aaload, 1) := by decide +kernel
theorem dX1_keep_26 : decode cX1_keep 26 = .ok (.aastore, 1) := by decide +kernel
theorem dX1_keep_27 : decode cX1_keep 27 = .ok (.iinc 3 (-1), 3) := by decide +kernel
theorem dX1_keep_30 : decode cX1_keep 30 = .ok (.goto (-21), 3) := by decide +kernel
theorem dX1_keep_33 : decode cX1_keep 33 = .ok (.aload_n 0, 1) := by decide +kernel
theorem dX1_keep_34 : decode cX1_keep 34 = .ok (.getfield 11, 3) := by decide +kernel
theorem dX1_keep_37 : decode cX1_keep 37 = .ok (.iconst 0, 1) := by decide +kernel
theorem dX1_keep_38 : decode cX1_keep 38 = .ok (.aload_n 2, 1) := by decide +kernel
theorem dX1_keep_39 : decode cX1_keep 39 = .ok (.aastore, 1) := by decide +kernel
theorem dX1_keep_40 : decode cX1_keep 40 = .ok (.aload_n 2, 1) := by decide +kernel
theorem dX1_keep_41 : decode cX1_keep 41 = .ok (.aload_n 1, 1) := by decide +kernel
theorem dX1_keep_42 : decode cX1_keep 42 = .ok (.invokevirtual 22, 3) := by decide +kernel
theorem dX1_keep_45 : decode cX1_keep 45 = .ok (.aload_n 0, 1) := by decide +kernel
theorem dX1_keep_46 : decode cX1_keep 46 = .ok (.aload_n 0, 1) := by decide +kernel
theorem dX1_keep_47 : decode cX1_keep 47 = .ok (.getfield 18, 3) := by decide +kernel
theorem dX1_keep_50 : decode cX1_keep 50 = .ok (.iconst 1, 1) := by decide +kernel
theorem dX1_keep_51 : decode cX1_keep 51 = .ok (.iadd, 1) := by decide +kernel
theorem dX1_keep_52 : decode cX1_keep 52 = .ok (.iconst 5, 1) := by decide +kernel
theorem dX1_keep_53 : decode cX1_keep 53 = .ok (.invokestatic 26, 3) := by decide +kernel
theorem dX1_keep_56 : decode cX1_keep 56 = .ok (.putfield 18, 3) := by decide +kernel
theorem dX1_keep_59 : decode cX1_keep 59 = .ok (.return_, 1) := by decide +kernel
theorem dX1_restoreInto_0 : decode cX1_restoreInto 0 = .ok (.aload_n 0, 1) := by decide +kernel
theorem dX1_restoreInto_1 : decode cX1_restoreInto 1 = .ok (.getfield 11, 3) := by decide +kernel
theorem dX1_restoreInto_4 : decode cX1_restoreInto 4 = .ok (.iconst 0, 1) := by decide +kernel
theorem dX1_restoreInto_5 : decode cX1_restoreInto 5 = .ok (.aaload, 1) := by decide +kernel
theorem dX1_restoreInto_6 : decode cX1_restoreInto 6 = .ok (.astore_n 2, 1) := by decide +kernel
theorem dX1_restoreInto_7 : decode cX1_restoreInto 7 = .ok (.iconst 0, 1) := by decide +kernel
theorem dX1_restoreInto_8 : decode cX1_restoreInto 8 = .ok (.istore_n 3, 1) := by decide +kernel
theorem dX1_restoreInto_9 : decode cX1_restoreInto 9 = .ok (.iload_n 3, 1) := by decide +kernel
theorem dX1_restoreInto_10 : decode cX1_restoreInto 10 = .ok (.iconst 4, 1) := by decide +kernel
theorem dX1_restoreInto_11 : decode cX1_restoreInto 11 = .ok (.if_icmp .ge 23, 3) := by decide +kernel
theorem dX1_restoreInto_14 : decode cX1_restoreInto 14 = .ok (.aload_n 0, 1) := by decide +kernel
theorem dX1_restoreInto_15 : decode cX1_restoreInto 15 = .ok (.getfield 11, 3) := by decide +kernel
theorem dX1_restoreInto_18 : decode cX1_restoreInto 18 = .ok (.iload_n 3, 1) := by decide +kernel
theorem dX1_restoreInto_19 : decode cX1_restoreInto 19 = .ok (.aload_n 0, 1) := by decide +kernel
theorem dX1_restoreInto_20 : decode cX1_restoreInto 20 = .ok (.getfield 11, 3) := by decide +kernel
theorem dX1_restoreInto_23 : decode cX1_restoreInto 23 = .ok (.iload_n 3, 1) := by decide +kernel
theorem dX1_restoreInto_24 : decode cX1_restoreInto 24 = .ok (.iconst 1, 1) := by decide +kernel
theorem dX1_restoreInto_25 : decode cX1_restoreInto 25 = .ok (.iadd, 1) := by decide +kernel
theorem dX1_restoreInto_26 : decode cX1_restoreInto 26 = .ok (.aaload, 1) := by decide +kernel
theorem dX1_restoreInto_27 : decode cX1_restoreInto 27 = .ok (.aastore, 1) := by decide +kernel
theorem dX1_restoreInto_28 : decode cX1_restoreInto 28 = .ok (.iinc 3 1, 3) := by decide +kernel
theorem dX1_restoreInto_31 : decode cX1_restoreInto 31 = .ok (.goto (-22), 3) := by decide +kernel
theorem dX1_restoreInto_34 : decode cX1_restoreInto 34 = .ok (.aload_n 0, 1) := by decide +kernel
theorem dX1_restoreInto_35 : decode cX1_restoreInto 35 = .ok (.getfield 11, 3) := by decide +kernel
theorem dX1_restoreInto_38 : decode cX1_restoreInto 38 = .ok (.iconst 4, 1) := by decide +kernel
theorem dX1_restoreInto_39 : decode cX1_restoreInto 39 = .ok (.aload_n 2, 1) := by decide +kernel
theorem dX1_restoreInto_40 : decode cX1_restoreInto 40 = .ok (.aastore, 1) := by decide +kernel
theorem dX1_restoreInto_41 : decode cX1_restoreInto 41 = .ok (.aload_n 1, 1) := by decide +kernel
theorem dX1_restoreInto_42 : decode cX1_restoreInto 42 = .ok (.aload_n 2, 1) := by decide +kernel
theorem dX1_restoreInto_43 : decode cX1_restoreInto 43 = .ok (.invokevirtual 22, 3) := by decide +kernel
theorem dX1_restoreInto_46 : decode cX1_restoreInto 46 = .ok (.aload_n 0, 1) := by decide +kernel
theorem dX1_restoreInto_47 : decode cX1_restoreInto 47 = .ok (.aload_n 0, 1) := by decide +kernel
theorem dX1_restoreInto_48 : decode cX1_restoreInto 48 = .ok (.getfield 18, 3) := by decide +kernel
theorem dX1_restoreInto_51 : decode cX1_restoreInto 51 = .ok (.iconst 1, 1) := by decide +kernel
theorem dX1_restoreInto_52 : decode cX1_restoreInto 52 = .ok (.isub, 1) := by decide +kernel
theorem dX1_restoreInto_53 : decode cX1_restoreInto 53 = .ok (.iconst 0, 1) := by decide +kernel
theorem dX1_restoreInto_54 : decode cX1_restoreInto 54 = .ok (.invokestatic 32, 3) := by decide +kernel
theorem dX1_restoreInto_57 : decode cX1_restoreInto 57 = .ok (.putfield 18, 3) := by decide +kernel
theorem dX1_restoreInto_60 : decode cX1_restoreInto 60 = .ok (.return_, 1) := by decide +kernel
theorem dX2_init_0 : decode cX2_init 0 = .ok (.aload_n 0, 1) := by decide +kernel
theorem dX2_init_1 : decode cX2_init 1 = .ok (.invokespecial 3, 3) := by decide +kernel
theorem dX2_init_4 : decode cX2_init 4 = .ok (.aload_n 0, 1) := by decide +kernel
theorem dX2_init_5 : decode cX2_init 5 = .ok (.bipush 40, 2) := by decide +kernel
theorem dX2_init_7 : decode cX2_init 7 = .ok (.newarray .int, 2) := by decide +kernel
theorem dX2_init_9 : decode cX2_init 9 = .ok (.putfield 9, 3) := by decide +kernel
theorem dX2_init_12 : decode cX2_init 12 = .ok (.aload_n 0, 1) := by decide +kernel
theorem dX2_init_13 : decode cX2_init 13 = .ok (.bipush 40, 2) := by decide +kernel
theorem dX2_init_15 : decode cX2_init 15 = .ok (.newarray .int, 2) := by decide +kernel
theorem dX2_init_17 : decode cX2_init 17 = .ok (.putfield 15, 3) := by decide +kernel
theorem dX2_init_20 : decode cX2_init 20 = .ok (.aload_n 0, 1) := by decide +kernel
theorem dX2_init_21 : decode cX2_init 21 = .ok (.bipush 40, 2) := by decide +kernel
theorem dX2_init_23 : decode cX2_init 23 = .ok (.newarray .int, 2) := by decide +kernel
theorem dX2_init_25 : decode cX2_init 25 = .ok (.putfield 18, 3) := by decide +kernel
theorem dX2_init_28 : decode cX2_init 28 = .ok (.iconst 0, 1) := by decide +kernel
theorem dX2_init_29 : decode cX2_init 29 = .ok (.istore_n 1, 1) := by decide +kernel
theorem dX2_init_30 : decode cX2_init 30 = .ok (.iload_n 1, 1) := by decide +kernel
theorem dX2_init_31 : decode cX2_init 31 = .ok (.bipush 40, 2) := by decide +kernel
theorem dX2_init_33 : decode cX2_init 33 = .ok (.if_icmp .ge 16, 3) := by decide +kernel
theorem dX2_init_36 : decode cX2_init 36 = .ok (.aload_n 0, 1) := by decide +kernel
theorem dX2_init_37 : decode cX2_init 37 = .ok (.getfield 18, 3) := by decide +kernel
theorem dX2_init_40 : decode cX2_init 40 = .ok (.iload_n 1, 1) := by decide +kernel
theorem dX2_init_41 : decode cX2_init 41 = .ok (.iconst (-1), 1) := by decide +kernel
theorem dX2_init_42 : decode cX2_init 42 = .ok (.iastore, 1) := by decide +kernel
theorem dX2_init_43 : decode cX2_init 43 = .ok (.iinc 1 1, 3) := by decide +kernel
theorem dX2_init_46 : decode cX2_init 46 = .ok (.goto (-16), 3) := by decide +kernel
theorem dX2_init_49 : decode cX2_init 49 = .ok (.aload_n 0, 1) := by decide +kernel
theorem dX2_init_50 : decode cX2_init 50 = .ok (.iconst 0, 1) := by decide +kernel
theorem dX2_init_51 : decode cX2_init 51 = .ok (.iconst 0, 1) := by decide +kernel
theorem dX2_init_52 : decode cX2_init 52 = .ok (.iconst 0, 1) := by decide +kernel
theorem dX2_init_53 : decode cX2_init 53 = .ok (.invokevirtual 21, 3) := by decide +kernel
theorem dX2_init_56 : decode cX2_init 56 = .ok (.pop, 1) := by decide +kernel
theorem dX2_init_57 : decode cX2_init 57 = .ok (.return_, 1) := by decide +kernel
theorem dX2_copyFrom_0 : decode cX2_copyFrom 0 = .ok (.aload_n 0, 1) := by decide +kernel
theorem dX2_copyFrom_1 : decode cX2_copyFrom 1 = .ok (.aload_n 1, 1) := by decide +kernel
theorem dX2_copyFrom_2 : decode cX2_copyFrom 2 = .ok (.getfield 25, 3) := by decide +kernel
theorem dX2_copyFrom_5 : decode cX2_copyFrom 5 = .ok (.putfield 25, 3) := by decide +kernel
theorem dX2_copyFrom_8 : decode cX2_copyFrom 8 = .ok (.aload_n 1, 1) := by decide +kernel
theorem dX2_copyFrom_9 : decode cX2_copyFrom 9 = .ok (.getfield 9, 3) := by decide +kernel
theorem dX2_copyFrom_12 : decode cX2_copyFrom 12 = .ok (.iconst 0, 1) := by decide +kernel
theorem dX2_copyFrom_13 : decode cX2_copyFrom 13 = .ok (.aload_n 0, 1) := by decide +kernel
theorem dX2_copyFrom_14 : decode cX2_copyFrom 14 = .ok (.getfield 9, 3) := by decide +kernel
theorem dX2_copyFrom_17 : decode cX2_copyFrom 17 = .ok (.iconst 0, 1) := by decide +kernel
theorem dX2_copyFrom_18 : decode cX2_copyFrom 18 = .ok (.bipush 40, 2) := by decide +kernel
theorem dX2_copyFrom_20 : decode cX2_copyFrom 20 = .ok (.invokestatic 29, 3) := by decide +kernel
theorem dX2_copyFrom_23 : decode cX2_copyFrom 23 = .ok (.aload_n 1, 1) := by decide +kernel
theorem dX2_copyFrom_24 : decode cX2_copyFrom 24 = .ok (.getfield 15, 3) := by decide +kernel
theorem dX2_copyFrom_27 : decode cX2_copyFrom 27 = .ok (.iconst 0, 1) := by decide +kernel
theorem dX2_copyFrom_28 : decode cX2_copyFrom 28 = .ok (.aload_n 0, 1) := by decide +kernel
theorem dX2_copyFrom_29 : decode cX2_copyFrom 29 = .ok (.getfield 15, 3) := by decide +kernel
theorem dX2_copyFrom_32 : decode cX2_copyFrom 32 = .ok (.iconst 0, 1) := by decide +kernel
theorem dX2_copyFrom_33 : decode cX2_copyFrom 33 = .ok (.bipush 40, 2) := by decide +kernel
theorem dX2_copyFrom_35 : decode cX2_copyFrom 35 = .ok (.invokestatic 29, 3) := by decide +kernel
theorem dX2_copyFrom_38 : decode cX2_copyFrom 38 = .ok (.aload_n 1, 1) := by decide +kernel
theorem dX2_copyFrom_39 : decode cX2_copyFrom 39 = .ok (.getfield 18, 3) := by decide +kernel
theorem dX2_copyFrom_42 : decode cX2_copyFrom 42 = .ok (.iconst 0, 1) := by decide +kernel
theorem dX2_copyFrom_43 : decode cX2_copyFrom 43 = .ok (.aload_n 0, 1) := by decide +kernel
theorem dX2_copyFrom_44 : decode cX2_copyFrom 44 = .ok (.getfield 18, 3) := by decide +kernel
theorem dX2_copyFrom_47 : decode cX2_copyFrom 47 = .ok (.iconst 0, 1) := by decide +kernel
theorem dX2_copyFrom_48 : decode cX2_copyFrom 48 = .ok (.bipush 40, 2) := by decide +kernel
theorem dX2_copyFrom_50 : decode cX2_copyFrom 50 = .ok (.invokestatic 29, 3) := by decide +kernel
theorem dX2_copyFrom_53 : decode cX2_copyFrom 53 = .ok (.return_, 1) := by decide +kernel
theorem dX2_exists_0 : decode cX2_exists 0 = .ok (.iload_n 1, 1) := by decide +kernel
theorem dX2_exists_1 : decode cX2_exists 1 = .ok (.ifCond .lt 23, 3) := by decide +kernel
theorem dX2_exists_4 : decode cX2_exists 4 = .ok (.iload_n 1, 1) := by decide +kernel
theorem dX2_exists_5 : decode cX2_exists 5 = .ok (.bipush 40, 2) := by decide +kernel
theorem dX2_exists_7 : decode cX2_exists 7 = .ok (.if_icmp .ge 17, 3) := by decide +kernel
theorem dX2_exists_10 : decode cX2_exists 10 = .ok (.aload_n 0, 1) := by decide +kernel
theorem dX2_exists_11 : decode cX2_exists 11 = .ok (.getfield 18, 3) := by decide +kernel
theorem dX2_exists_14 : decode cX2_exists 14 = .ok (.iload_n 1, 1) := by decide +kernel
theorem dX2_exists_15 : decode cX2_exists 15 = .ok (.iaload, 1) := by decide +kernel
theorem dX2_exists_16 : decode cX2_exists 16 = .ok (.iconst (-1), 1) := by decide +kernel
theorem dX2_exists_17 : decode cX2_exists 17 = .ok (.if_icmp .eq 7, 3) := by decide +kernel
theorem dX2_exists_20 : decode cX2_exists 20 = .ok (.iconst 1, 1) := by decide +kernel
theorem dX2_exists_21 : decode cX2_exists 21 = .ok (.goto 4, 3) := by decide +kernel
theorem dX2_exists_24 : decode cX2_exists 24 = .ok (.iconst 0, 1) := by decide +kernel
theorem dX2_exists_25 : decode cX2_exists 25 = .ok (.ireturn, 1) := by decide +kernel
theorem dX2_numberFounded_0 : decode cX2_numberFounded 0 = .ok (.aload_n 0, 1) := by decide +kernel
theorem dX2_numberFounded_1 : decode cX2_numberFounded 1 = .ok (.getfield 25, 3) := by decide +kernel
theorem dX2_numberFounded_4 : decode cX2_numberFounded 4 = .ok (.ireturn, 1) := by decide +kernel
theorem dX2_number_0 : decode cX2_number 0 = .ok (.aload_n 0, 1) := by decide +kernel
theorem dX2_number_1 : decode cX2_number 1 = .ok (.iconst 0, 1) := by decide +kernel
theorem dX2_number_2 : decode cX2_number 2 = .ok (.iconst 0, 1) := by decide +kernel
theorem dX2_number_3 : decode cX2_number 3 = .ok (.bipush 63, 2) := by decide +kernel
theorem dX2_number_5 : decode cX2_number 5 = .ok (.bipush 63, 2) := by decide +kernel
theorem dX2_number_7 : decode cX2_number 7 = .ok (.invokevirtual 35, 3) := by decide +kernel
theorem dX2_number_10 : decode cX2_number 10 = .ok (.ireturn, 1) := by decide +kernel
theorem dX2_leftOf_0 : decode cX2_leftOf 0 = .ok (.aload_n 0, 1) := by decide +kernel
theorem dX2_leftOf_1 : decode cX2_leftOf 1 = .ok (.iload_n 1, 1) := by decide +kernel
theorem dX2_leftOf_2 : decode cX2_leftOf 2 = .ok (.invokevirtual 39, 3) := by decide +kernel
theorem dX2_leftOf_5 : decode cX2_leftOf 5 = .ok (.ifCond .eq 12, 3) := by decide +kernel
theorem dX2_leftOf_8 : decode cX2_leftOf 8 = .ok (.aload_n 0, 1) := by decide +kernel
theorem dX2_leftOf_9 : decode cX2_leftOf 9 = .ok (.getfield 9, 3) := by decide +kernel
theorem dX2_leftOf_12 : decode cX2_leftOf 12 = .ok (.iload_n 1, 1) := by decide +kernel
theorem dX2_leftOf_13 : decode cX2_leftOf 13 = .ok (.iaload, 1) := by decide +kernel
theorem dX2_leftOf_14 : decode cX2_leftOf 14 = .ok (.goto 5, 3) := by decide +kernel
theorem dX2_leftOf_17 : decode cX2_leftOf 17 = .ok (.bipush (-9), 2) := by decide +kernel
theorem dX2_leftOf_19 : decode cX2_leftOf 19 = .ok (.ireturn, 1) := by decide +kernel
theorem dX2_topOf_0 : decode cX2_topOf 0 = .ok (.aload_n 0, 1) := by decide +kernel
theorem dX2_topOf_1 : decode cX2_topOf 1 = .ok (.iload_n 1, 1) := by decide +kernel
theorem dX2_topOf_2 : decode cX2_topOf 2 = .ok (.invokevirtual 39, 3) := by decide +kernel
theorem dX2_topOf_5 : decode cX2_topOf 5 = .ok (.ifCond .eq 12, 3) := by decide +kernel
theorem dX2_topOf_8 : decode cX2_topOf 8 = .ok (.aload_n 0, 1) := by decide +kernel
theorem dX2_topOf_9 : decode cX2_topOf 9 = .ok (.getfield 15, 3) := by decide +kernel
theorem dX2_topOf_12 : decode cX2_topOf 12 = .ok (.iload_n 1, 1) := by decide +kernel
theorem dX2_topOf_13 : decode cX2_topOf 13 = .ok (.iaload, 1) := by decide +kernel
theorem dX2_topOf_14 : decode cX2_topOf 14 = .ok (.goto 5, 3) := by decide +kernel
theorem dX2_topOf_17 : decode cX2_topOf 17 = .ok (.bipush (-9), 2) := by decide +kernel
theorem dX2_topOf_19 : decode cX2_topOf 19 = .ok (.ireturn, 1) := by decide +kernel
theorem dX2_rightOf_0 : decode cX2_rightOf 0 = .ok (.aload_n 0, 1) := by decide +kernel
theorem dX2_rightOf_1 : decode cX2_rightOf 1 = .ok (.iload_n 1, 1) := by decide +kernel
theorem dX2_rightOf_2 : decode cX2_rightOf 2 = .ok (.invokevirtual 43, 3) := by decide +kernel
theorem dX2_rightOf_5 : decode cX2_rightOf 5 = .ok (.aload_n 0, 1) := by decide +kernel
theorem dX2_rightOf_6 : decode cX2_rightOf 6 = .ok (.iload_n 1, 1) := by decide +kernel
theorem dX2_rightOf_7 : decode cX2_rightOf 7 = .ok (.invokevirtual 47, 3) := by decide +kernel
theorem dX2_rightOf_10 : decode cX2_rightOf 10 = .ok (.invokestatic 50, 3) := by decide +kernel
theorem dX2_rightOf_13 : decode cX2_rightOf 13 = .ok (.iadd, 1) := by decide +kernel
theorem dX2_rightOf_14 : decode cX2_rightOf 14 = .ok (.iconst 1, 1) := by decide +kernel
theorem dX2_rightOf_15 : decode cX2_rightOf 15 = .ok (.isub, 1) := by decide +kernel
theorem dX2_rightOf_16 : decode cX2_rightOf 16 = .ok (.ireturn, 1) := by decide +kernel
theorem dX2_bottomOf_0 : decode cX2_bottomOf 0 = .ok (.aload_n 0, 1) := by decide +kernel
theorem dX2_bottomOf_1 : decode cX2_bottomOf 1 = .ok (.iload_n 1, 1) := by decide +kernel
theorem dX2_bottomOf_2 : decode cX2_bottomOf 2 = .ok (.invokevirtual 53, 3) := by decide +kernel
theorem dX2_bottomOf_5 : decode cX2_bottomOf 5 = .ok (.aload_n 0, 1) := by decide +kernel
theorem dX2_bottomOf_6 : decode cX2_bottomOf 6 = .ok (.iload_n 1, 1) := by decide +kernel
theorem dX2_bottomOf_7 : decode cX2_bottomOf 7 = .ok (.invokevirtual 47, 3) := by decide +kernel
theorem dX2_bottomOf_10 : decode cX2_bottomOf 10 = .ok (.invokestatic 50, 3) := by decide +kernel
theorem dX2_bottomOf_13 : decode cX2_bottomOf 13 = .ok (.iadd, 1) := by decide +kernel
theorem dX2_bottomOf_14 : decode cX2_bottomOf 14 = .ok (.iconst 1, 1) := by decide +kernel
theorem dX2_bottomOf_15 : decode cX2_bottomOf 15 = .ok (.isub, 1) := by decide +kernel
theorem dX2_bottomOf_16 : decode cX2_bottomOf 16 = .ok (.ireturn, 1) := by decide +kernel
theorem dX2_scaleOf_0 : decode cX2_scaleOf 0 = .ok (.aload_n 0, 1) := by decide +kernel
theorem dX2_scaleOf_1 : decode cX2_scaleOf 1 = .ok (.iload_n 1, 1) := by decide +kernel
theorem dX2_scaleOf_2 : decode cX2_scaleOf 2 = .ok (.invokevirtual 39, 3) := by decide +kernel
theorem dX2_scaleOf_5 : decode cX2_scaleOf 5 = .ok (.ifCond .eq 12, 3) := by decide +kernel
theorem dX2_scaleOf_8 : decode cX2_scaleOf 8 = .ok (.aload_n 0, 1) := by decide +kernel
theorem dX2_scaleOf_9 : decode cX2_scaleOf 9 = .ok (.getfield 18, 3) := by decide +kernel
theorem dX2_scaleOf_12 : decode cX2_scaleOf 12 = .ok (.iload_n 1, 1) := by decide +kernel
theorem dX2_scaleOf_13 : decode cX2_scaleOf 13 = .ok (.iaload, 1) := by decide +kernel
theorem dX2_scaleOf_14 : decode cX2_scaleOf 14 = .ok (.goto 4, 3) := by decide +kernel
theorem dX2_scaleOf_17 : decode cX2_scaleOf 17 = .ok (.iconst (-1), 1) := by decide +kernel
theorem dX2_scaleOf_18 : decode cX2_scaleOf 18 = .ok (.ireturn, 1) := by decide +kernel
theorem dX2_found_0 : decode cX2_found 0 = .ok (.aload_n 0, 1) := by decide +kernel
theorem dX2_found_1 : decode cX2_found 1 = .ok (.getfield 25, 3) := by decide +kernel
theorem dX2_found_4 : decode cX2_found 4 = .ok (.istore 4, 2) := by decide +kernel
theorem dX2_found_6 : decode cX2_found 6 = .ok (.iload 4, 2) := by decide +kernel
theorem dX2_found_8 : decode cX2_found 8 = .ok (.iconst 0, 1) := by decide +kernel
theorem dX2_found_9 : decode cX2_found 9 = .ok (.bipush 39, 2) := by decide +kernel
theorem dX2_found_11 : decode cX2_found 11 = .ok (.invokestatic 56, 3) := by decide +kernel
theorem dX2_found_14 : decode cX2_found 14 = .ok (.ifCond .ne 6, 3) := by decide +kernel
theorem dX2_found_17 : decode cX2_found 17 = .ok (.bipush (-9), 2) := by decide +kernel
theorem dX2_found_19 : decode cX2_found 19 = .ok (.ireturn, 1) := by decide +kernel
theorem dX2_found_20 : decode cX2_found 20 = .ok (.aload_n 0, 1) := by decide +kernel
theorem dX2_found_21 : decode cX2_found 21 = .ok (.dup, 1) := by decide +kernel
theorem dX2_found_22 : decode cX2_found 22 = .ok (.getfield 25, 3) := by decide +kernel
theorem dX2_found_25 : decode cX2_found 25 = .ok (.iconst 1, 1) := by decide +kernel
theorem dX2_found_26 : decode cX2_found 26 = .ok (.iadd, 1) := by decide +kernel
theorem dX2_found_27 : decode cX2_found 27 = .ok (.putfield 25, 3) := by decide +kernel
theorem dX2_found_30 : decode cX2_found 30 = .ok (.aload_n 0, 1) := by decide +kernel
theorem dX2_found_31 : decode cX2_found 31 = .ok (.iload 4, 2) := by decide +kernel
theorem dX2_found_33 : decode cX2_found 33 = .ok (.iload_n 1, 1) := by decide +kernel
theorem dX2_found_34 : decode cX2_found 34 = .ok (.iload_n 2, 1) := by decide +kernel
theorem dX2_found_35 : decode cX2_found 35 = .ok (.iload_n 3, 1) := by decide +kernel
theorem dX2_found_36 : decode cX2_found 36 = .ok (.invokevirtual 60, 3) := by decide +kernel
theorem dX2_found_39 : decode cX2_found 39 = .ok (.iload 4, 2) := by decide +kernel
theorem dX2_found_41 : decode cX2_found 41 = .ok (.ireturn, 1) := by decide +kernel
theorem dX2_giveCell_0 : decode cX2_giveCell 0 = .ok (.iload_n 1, 1) := by decide +kernel
theorem dX2_giveCell_1 : decode cX2_giveCell 1 = .ok (.iconst 0, 1) := by decide +kernel
theorem dX2_giveCell_2 : decode cX2_giveCell 2 = .ok (.bipush 39, 2) := by decide +kernel
theorem dX2_giveCell_4 : decode cX2_giveCell 4 = .ok (.invokestatic 56, 3) := by decide +kernel
theorem dX2_giveCell_7 : decode cX2_giveCell 7 = .ok (.ifCond .eq 25, 3) := by decide +kernel
theorem dX2_giveCell_10 : decode cX2_giveCell 10 = .ok (.aload_n 0, 1) := by decide +kernel
theorem dX2_giveCell_11 : decode cX2_giveCell 11 = .ok (.getfield 9, 3) := by decide +kernel
theorem dX2_giveCell_14 : decode cX2_giveCell 14 = .ok (.iload_n 1, 1) := by decide +kernel
theorem dX2_giveCell_15 : decode cX2_giveCell 15 = .ok (.iload_n 2, 1) := by decide +kernel
theorem dX2_giveCell_16 : decode cX2_giveCell 16 = .ok (.iastore, 1) := by decide +kernel
theorem dX2_giveCell_17 : decode cX2_giveCell 17 = .ok (.aload_n 0, 1) := by decide +kernel
theorem dX2_giveCell_18 : decode cX2_giveCell 18 = .ok (.getfield 15, 3) := by decide +kernel
theorem dX2_giveCell_21 : decode cX2_giveCell 21 = .ok (.iload_n 1, 1) := by decide +kernel
theorem dX2_giveCell_22 : decode cX2_giveCell 22 = .ok (.iload_n 3, 1) := by decide +kernel
theorem dX2_giveCell_23 : decode cX2_giveCell 23 = .ok (.iastore, 1) := by decide +kernel
theorem dX2_giveCell_24 : decode cX2_giveCell 24 = .ok (.aload_n 0, 1) := by decide +kernel
theorem dX2_giveCell_25 : decode cX2_giveCell 25 = .ok (.getfield 18, 3) := by decide +kernel
theorem dX2_giveCell_28 : decode cX2_giveCell 28 = .ok (.iload_n 1, 1) := by decide +kernel
theorem dX2_giveCell_29 : decode cX2_giveCell 29 = .ok (.iload 4, 2) := by decide +kernel
theorem dX2_giveCell_31 : decode cX2_giveCell 31 = .ok (.iastore, 1) := by decide +kernel
theorem dX2_giveCell_32 : decode cX2_giveCell 32 = .ok (.return_, 1) := by decide +kernel
theorem dX2_dissolve_0 : decode cX2_dissolve 0 = .ok (.aload_n 0, 1) := by decide +kernel
theorem dX2_dissolve_1 : decode cX2_dissolve 1 = .ok (.iload_n 1, 1) := by decide +kernel
theorem dX2_dissolve_2 : decode cX2_dissolve 2 = .ok (.invokevirtual 39, 3) := by decide +kernel
theorem dX2_dissolve_5 : decode cX2_dissolve 5 = .ok (.ifCond .eq 10, 3) := by decide +kernel
theorem dX2_dissolve_8 : decode cX2_dissolve 8 = .ok (.aload_n 0, 1) := by decide +kernel
theorem dX2_dissolve_9 : decode cX2_dissolve 9 = .ok (.getfield 18, 3) := by decide +kernel
theorem dX2_dissolve_12 : decode cX2_dissolve 12 = .ok (.iload_n 1, 1) := by decide +kernel
theorem dX2_dissolve_13 : decode cX2_dissolve 13 = .ok (.iconst (-1), 1) := by decide +kernel
theorem dX2_dissolve_14 : decode cX2_dissolve 14 = .ok (.iastore, 1) := by decide +kernel
theorem dX2_dissolve_15 : decode cX2_dissolve 15 = .ok (.return_, 1) := by decide +kernel
theorem dX2_touches_0 : decode cX2_touches 0 = .ok (.aload_n 0, 1) := by decide +kernel
theorem dX2_touches_1 : decode cX2_touches 1 = .ok (.iload_n 1, 1) := by decide +kernel
theorem dX2_touches_2 : decode cX2_touches 2 = .ok (.invokevirtual 39, 3) := by decide +kernel
theorem dX2_touches_5 : decode cX2_touches 5 = .ok (.ifCond .ne 5, 3) := by decide +kernel
theorem dX2_touches_8 : decode cX2_touches 8 = .ok (.iconst 0, 1) := by decide +kernel
theorem dX2_touches_9 : decode cX2_touches 9 = .ok (.ireturn, 1) := by decide +kernel
theorem dX2_touches_10 : decode cX2_touches 10 = .ok (.aload_n 0, 1) := by decide +kernel
theorem dX2_touches_11 : decode cX2_touches 11 = .ok (.getfield 18, 3) := by decide +kernel
theorem dX2_touches_14 : decode cX2_touches 14 = .ok (.iload_n 1, 1) := by decide +kernel
theorem dX2_touches_15 : decode cX2_touches 15 = .ok (.iaload, 1) := by decide +kernel
theorem dX2_touches_16 : decode cX2_touches 16 = .ok (.invokestatic 50, 3) := by decide +kernel
theorem dX2_touches_19 : decode cX2_touches 19 = .ok (.istore 6, 2) := by decide +kernel
theorem dX2_touches_21 : decode cX2_touches 21 = .ok (.aload_n 0, 1) := by decide +kernel
theorem dX2_touches_22 : decode cX2_touches 22 = .ok (.getfield 9, 3) := by decide +kernel
theorem dX2_touches_25 : decode cX2_touches 25 = .ok (.iload_n 1, 1) := by decide +kernel
theorem dX2_touches_26 : decode cX2_touches 26 = .ok (.iaload, 1) := by decide +kernel
theorem dX2_touches_27 : decode cX2_touches 27 = .ok (.iload 4, 2) := by decide +kernel
theorem dX2_touches_29 : decode cX2_touches 29 = .ok (.if_icmp .gt 44, 3) := by decide +kernel
theorem dX2_touches_32 : decode cX2_touches 32 = .ok (.aload_n 0, 1) := by decide +kernel
theorem dX2_touches_33 : decode cX2_touches 33 = .ok (.getfield 9, 3) := by decide +kernel
theorem dX2_touches_36 : decode cX2_touches 36 = .ok (.iload_n 1, 1) := by decide +kernel
theorem dX2_touches_37 : decode cX2_touches 37 = .ok (.iaload, 1) := by decide +kernel
theorem dX2_touches_38 : decode cX2_touches 38 = .ok (.iload 6, 2) := by decide +kernel
theorem dX2_touches_40 : decode cX2_touches 40 = .ok (.iadd, 1) := by decide +kernel
theorem dX2_touches_41 : decode cX2_touches 41 = .ok (.iload_n 2, 1) := by decide +kernel
theorem dX2_touches_42 : decode cX2_touches 42 = .ok (.if_icmp .le 31, 3) := by decide +kernel
theorem dX2_touches_45 : decode cX2_touches 45 = .ok (.aload_n 0, 1) := by decide +kernel
theorem dX2_touches_46 : decode cX2_touches 46 = .ok (.getfield 15, 3) := by decide +kernel
theorem dX2_touches_49 : decode cX2_touches 49 = .ok (.iload_n 1, 1) := by decide +kernel
theorem dX2_touches_50 : decode cX2_touches 50 = .ok (.iaload, 1) := by decide +kernel
theorem dX2_touches_51 : decode cX2_touches 51 = .ok (.iload 5, 2) := by decide +kernel
theorem dX2_touches_53 : decode cX2_touches 53 = .ok (.if_icmp .gt 20, 3) := by decide +kernel
theorem dX2_touches_56 : decode cX2_touches 56 = .ok (.aload_n 0, 1) := by decide +kernel
theorem dX2_touches_57 : decode cX2_touches 57 = .ok (.getfield 15, 3) := by decide +kernel
theorem dX2_touches_60 : decode cX2_touches 60 = .ok (.iload_n 1, 1) := by decide +kernel
theorem dX2_touches_61 : decode cX2_touches 61 = .ok (.iaload, 1) := by decide +kernel
theorem dX2_touches_62 : decode cX2_touches 62 = .ok (.iload 6, 2) := by decide +kernel
theorem dX2_touches_64 : decode cX2_touches 64 = .ok (.iadd, 1) := by decide +kernel
theorem dX2_touches_65 : decode cX2_touches 65 = .ok (.iload_n 3, 1) := by decide +kernel
theorem dX2_touches_66 : decode cX2_touches 66 = .ok (.if_icmp .le 7, 3) := by decide +kernel
theorem dX2_touches_69 : decode cX2_touches 69 = .ok (.iconst 1, 1) := by decide +kernel
theorem dX2_touches_70 : decode cX2_touches 70 = .ok (.goto 4, 3) := by decide +kernel
theorem dX2_touches_73 : decode cX2_touches 73 = .ok (.iconst 0, 1) := by decide +kernel
theorem dX2_touches_74 : decode cX2_touches 74 = .ok (.ireturn, 1) := by decide +kernel
theorem dX2_parishAt_0 : decode cX2_parishAt 0 = .ok (.iconst 0, 1) := by decide +kernel
theorem dX2_parishAt_1 : decode cX2_parishAt 1 = .ok (.istore_n 3, 1) := by decide +kernel
theorem dX2_parishAt_2 : decode cX2_parishAt 2 = .ok (.iload_n 3, 1) := by decide +kernel
theorem dX2_parishAt_3 : decode cX2_parishAt 3 = .ok (.bipush 40, 2) := by decide +kernel
theorem dX2_parishAt_5 : decode cX2_parishAt 5 = .ok (.if_icmp .ge 23, 3) := by decide +kernel
theorem dX2_parishAt_8 : decode cX2_parishAt 8 = .ok (.aload_n 0, 1) := by decide +kernel
theorem dX2_parishAt_9 : decode cX2_parishAt 9 = .ok (.iload_n 3, 1) := by decide +kernel
theorem dX2_parishAt_10 : decode cX2_parishAt 10 = .ok (.iload_n 1, 1) := by decide +kernel
theorem dX2_parishAt_11 : decode cX2_parishAt 11 = .ok (.iload_n 2, 1) := by decide +kernel
theorem dX2_parishAt_12 : decode cX2_parishAt 12 = .ok (.iload_n 1, 1) := by decide +kernel
theorem dX2_parishAt_13 : decode cX2_parishAt 13 = .ok (.iload_n 2, 1) := by decide +kernel
theorem dX2_parishAt_14 : decode cX2_parishAt 14 = .ok (.invokevirtual 64, 3) := by decide +kernel
theorem dX2_parishAt_17 : decode cX2_parishAt 17 = .ok (.ifCond .eq 5, 3) := by decide +kernel
theorem dX2_parishAt_20 : decode cX2_parishAt 20 = .ok (.iload_n 3, 1) := by decide +kernel
theorem dX2_parishAt_21 : decode cX2_parishAt 21 = .ok (.ireturn, 1) := by decide +kernel
theorem dX2_parishAt_22 : decode cX2_parishAt 22 = .ok (.iinc 3 1, 3) := by decide +kernel
theorem dX2_parishAt_25 : decode cX2_parishAt 25 = .ok (.goto (-23), 3) := by decide +kernel
theorem dX2_parishAt_28 : decode cX2_parishAt 28 = .ok (.bipush (-9), 2) := by decide +kernel
theorem dX2_parishAt_30 : decode cX2_parishAt 30 = .ok (.ireturn, 1) := by decide +kernel
theorem dX2_numberTouching_0 : decode cX2_numberTouching 0 = .ok (.iconst 0, 1) := by decide +kernel
theorem dX2_numberTouching_1 : decode cX2_numberTouching 1 = .ok (.istore 5, 2) := by decide +kernel
theorem dX2_numberTouching_3 : decode cX2_numberTouching 3 = .ok (.iconst 0, 1) := by decide +kernel
theorem dX2_numberTouching_4 : decode cX2_numberTouching 4 = .ok (.istore 6, 2) := by decide +kernel
theorem dX2_numberTouching_6 : decode cX2_numberTouching 6 = .ok (.iload 6, 2) := by decide +kernel
theorem dX2_numberTouching_8 : decode cX2_numberTouching 8 = .ok (.bipush 40, 2) := by decide +kernel
theorem dX2_numberTouching_10 : decode cX2_numberTouching 10 = .ok (.if_icmp .ge 26, 3) := by decide +kernel
theorem dX2_numberTouching_13 : decode cX2_numberTouching 13 = .ok (.aload_n 0, 1) := by decide +kernel
theorem dX2_numberTouching_14 : decode cX2_numberTouching 14 = .ok (.iload 6, 2) := by decide +kernel
theorem dX2_numberTouching_16 : decode cX2_numberTouching 16 = .ok (.iload_n 1, 1) := by decide +kernel
theorem dX2_numberTouching_17 : decode cX2_numberTouching 17 = .ok (.iload_n 2, 1) := by decide +kernel
theorem dX2_numberTouching_18 : decode cX2_numberTouching 18 = .ok (.iload_n 3, 1) := by decide +kernel
theorem dX2_numberTouching_19 : decode cX2_numberTouching 19 = .ok (.iload 4, 2) := by decide +kernel
theorem dX2_numberTouching_21 : decode cX2_numberTouching 21 = .ok (.invokevirtual 64, 3) := by decide +kernel
theorem dX2_numberTouching_24 : decode cX2_numberTouching 24 = .ok (.ifCond .eq 6, 3) := by decide +kernel
theorem dX2_numberTouching_27 : decode cX2_numberTouching 27 = .ok (.iinc 5 1, 3) := by decide +kernel
theorem dX2_numberTouching_30 : decode cX2_numberTouching 30 = .ok (.iinc 6 1, 3) := by decide +kernel
theorem dX2_numberTouching_33 : decode cX2_numberTouching 33 = .ok (.goto (-27), 3) := by decide +kernel
theorem dX2_numberTouching_36 : decode cX2_numberTouching 36 = .ok (.iload 5, 2) := by decide +kernel
theorem dX2_numberTouching_38 : decode cX2_numberTouching 38 = .ok (.ireturn, 1) := by decide +kernel
theorem dX2_greatestScale_0 : decode cX2_greatestScale 0 = .ok (.iconst 0, 1) := by decide +kernel
theorem dX2_greatestScale_1 : decode cX2_greatestScale 1 = .ok (.istore_n 1, 1) := by decide +kernel
theorem dX2_greatestScale_2 : decode cX2_greatestScale 2 = .ok (.iconst 0, 1) := by decide +kernel
theorem dX2_greatestScale_3 : decode cX2_greatestScale 3 = .ok (.istore_n 2, 1) := by decide +kernel
theorem dX2_greatestScale_4 : decode cX2_greatestScale 4 = .ok (.iload_n 2, 1) := by decide +kernel
theorem dX2_greatestScale_5 : decode cX2_greatestScale 5 = .ok (.bipush 40, 2) := by decide +kernel
theorem dX2_greatestScale_7 : decode cX2_greatestScale 7 = .ok (.if_icmp .ge 19, 3) := by decide +kernel
theorem dX2_greatestScale_10 : decode cX2_greatestScale 10 = .ok (.iload_n 1, 1) := by decide +kernel
theorem dX2_greatestScale_11 : decode cX2_greatestScale 11 = .ok (.aload_n 0, 1) := by decide +kernel
theorem dX2_greatestScale_12 : decode cX2_greatestScale 12 = .ok (.iload_n 2, 1) := by decide +kernel
theorem dX2_greatestScale_13 : decode cX2_greatestScale 13 = .ok (.invokevirtual 47, 3) := by decide +kernel
theorem dX2_greatestScale_16 : decode cX2_greatestScale 16 = .ok (.invokestatic 68, 3) := by decide +kernel
theorem dX2_greatestScale_19 : decode cX2_greatestScale 19 = .ok (.istore_n 1, 1) := by decide +kernel
theorem dX2_greatestScale_20 : decode cX2_greatestScale 20 = .ok (.iinc 2 1, 3) := by decide +kernel
theorem dX2_greatestScale_23 : decode cX2_greatestScale 23 = .ok (.goto (-19), 3) := by decide +kernel
theorem dX2_greatestScale_26 : decode cX2_greatestScale 26 = .ok (.iload_n 1, 1) := by decide +kernel
theorem dX2_greatestScale_27 : decode cX2_greatestScale 27 = .ok (.ireturn, 1) := by decide +kernel
theorem dX2_withNumberBefore_0 : decode cX2_withNumberBefore 0 = .ok (.iconst 0, 1) := by decide +kernel
theorem dX2_withNumberBefore_1 : decode cX2_withNumberBefore 1 = .ok (.istore_n 2, 1) := by decide +kernel
theorem dX2_withNumberBefore_2 : decode cX2_withNumberBefore 2 = .ok (.iconst 0, 1) := by decide +kernel
theorem dX2_withNumberBefore_3 : decode cX2_withNumberBefore 3 = .ok (.istore_n 3, 1) := by decide +kernel
theorem dX2_withNumberBefore_4 : decode cX2_withNumberBefore 4 = .ok (.iload_n 3, 1) := by decide +kernel
theorem dX2_withNumberBefore_5 : decode cX2_withNumberBefore 5 = .ok (.bipush 40, 2) := by decide +kernel
theorem dX2_withNumberBefore_7 : decode cX2_withNumberBefore 7 = .ok (.if_icmp .ge 59, 3) := by decide +kernel
theorem dX2_withNumberBefore_10 : decode cX2_withNumberBefore 10 = .ok (.iload_n 2, 1) := by decide +kernel
theorem dX2_withNumberBefore_11 : decode cX2_withNumberBefore 11 = .ok (.sipush 4096, 3) := by decide +kernel
theorem dX2_withNumberBefore_14 : decode cX2_withNumberBefore 14 = .ok (.if_icmp .ge 52, 3) := by decide +kernel
theorem dX2_withNumberBefore_17 : decode cX2_withNumberBefore 17 = .ok (.aload_n 0, 1) := by decide +kernel
theorem dX2_withNumberBefore_18 : decode cX2_withNumberBefore 18 = .ok (.iload_n 2, 1) := by decide +kernel
theorem dX2_withNumberBefore_19 : decode cX2_withNumberBefore 19 = .ok (.invokestatic 74, 3) := by decide +kernel
theorem dX2_withNumberBefore_22 : decode cX2_withNumberBefore 22 = .ok (.iload_n 2, 1) := by decide +kernel
theorem dX2_withNumberBefore_23 : decode cX2_withNumberBefore 23 = .ok (.iconst 1, 1) := by decide +kernel
theorem dX2_withNumberBefore_24 : decode cX2_withNumberBefore 24 = .ok (.ishr, 1) := by decide +kernel
theorem dX2_withNumberBefore_25 : decode cX2_withNumberBefore 25 = .ok (.invokestatic 74, 3) := by decide +kernel
theorem dX2_withNumberBefore_28 : decode cX2_withNumberBefore 28 = .ok (.invokevirtual 77, 3) := by decide +kernel
theorem dX2_withNumberBefore_31 : decode cX2_withNumberBefore 31 = .ok (.istore 4, 2) := by decide +kernel
theorem dX2_withNumberBefore_33 : decode cX2_withNumberBefore 33 = .ok (.iload_n 3, 1) := by decide +kernel
theorem dX2_withNumberBefore_34 : decode cX2_withNumberBefore 34 = .ok (.iload_n 1, 1) := by decide +kernel
theorem dX2_withNumberBefore_35 : decode cX2_withNumberBefore 35 = .ok (.if_icmp .ne 6, 3) := by decide +kernel
theorem dX2_withNumberBefore_38 : decode cX2_withNumberBefore 38 = .ok (.iload 4, 2) := by decide +kernel
theorem dX2_withNumberBefore_40 : decode cX2_withNumberBefore 40 = .ok (.ireturn, 1) := by decide +kernel
theorem dX2_withNumberBefore_41 : decode cX2_withNumberBefore 41 = .ok (.aload_n 0, 1) := by decide +kernel
theorem dX2_withNumberBefore_42 : decode cX2_withNumberBefore 42 = .ok (.iload 4, 2) := by decide +kernel
theorem dX2_withNumberBefore_44 : decode cX2_withNumberBefore 44 = .ok (.invokevirtual 47, 3) := by decide +kernel
theorem dX2_withNumberBefore_47 : decode cX2_withNumberBefore 47 = .ok (.invokestatic 50, 3) := by decide +kernel
theorem dX2_withNumberBefore_50 : decode cX2_withNumberBefore 50 = .ok (.istore 5, 2) := by decide +kernel
theorem dX2_withNumberBefore_52 : decode cX2_withNumberBefore 52 = .ok (.iload_n 2, 1) := by decide +kernel
theorem dX2_withNumberBefore_53 : decode cX2_withNumberBefore 53 = .ok (.iload 5, 2) := by decide +kernel
theorem dX2_withNumberBefore_55 : decode cX2_withNumberBefore 55 = .ok (.iload 5, 2) := by decide +kernel
theorem dX2_withNumberBefore_57 : decode cX2_withNumberBefore 57 = .ok (.imul, 1) := by decide +kernel
theorem dX2_withNumberBefore_58 : decode cX2_withNumberBefore 58 = .ok (.iadd, 1) := by decide +kernel
theorem dX2_withNumberBefore_59 : decode cX2_withNumberBefore 59 = .ok (.istore_n 2, 1) := by decide +kernel
theorem dX2_withNumberBefore_60 : decode cX2_withNumberBefore 60 = .ok (.iinc 3 1, 3) := by decide +kernel
theorem dX2_withNumberBefore_63 : decode cX2_withNumberBefore 63 = .ok (.goto (-59), 3) := by decide +kernel
theorem dX2_withNumberBefore_66 : decode cX2_withNumberBefore 66 = .ok (.bipush (-9), 2) := by decide +kernel
theorem dX2_withNumberBefore_68 : decode cX2_withNumberBefore 68 = .ok (.ireturn, 1) := by decide +kernel
theorem dX2_everySecondBit_0 : decode cX2_everySecondBit 0 = .ok (.iconst 0, 1) := by decide +kernel
theorem dX2_everySecondBit_1 : decode cX2_everySecondBit 1 = .ok (.istore_n 1, 1) := by decide +kernel
theorem dX2_everySecondBit_2 : decode cX2_everySecondBit 2 = .ok (.iconst 0, 1) := by decide +kernel
theorem dX2_everySecondBit_3 : decode cX2_everySecondBit 3 = .ok (.istore_n 2, 1) := by decide +kernel
theorem dX2_everySecondBit_4 : decode cX2_everySecondBit 4 = .ok (.iload_n 2, 1) := by decide +kernel
theorem dX2_everySecondBit_5 : decode cX2_everySecondBit 5 = .ok (.bipush 6, 2) := by decide +kernel
theorem dX2_everySecondBit_7 : decode cX2_everySecondBit 7 = .ok (.if_icmp .ge 21, 3) := by decide +kernel
theorem dX2_everySecondBit_10 : decode cX2_everySecondBit 10 = .ok (.iload_n 1, 1) := by decide +kernel
theorem dX2_everySecondBit_11 : decode cX2_everySecondBit 11 = .ok (.iload_n 0, 1) := by decide +kernel
theorem dX2_everySecondBit_12 : decode cX2_everySecondBit 12 = .ok (.iconst 2, 1) := by decide +kernel
theorem dX2_everySecondBit_13 : decode cX2_everySecondBit 13 = .ok (.iload_n 2, 1) := by decide +kernel
theorem dX2_everySecondBit_14 : decode cX2_everySecondBit 14 = .ok (.imul, 1) := by decide +kernel
theorem dX2_everySecondBit_15 : decode cX2_everySecondBit 15 = .ok (.ishr, 1) := by decide +kernel
theorem dX2_everySecondBit_16 : decode cX2_everySecondBit 16 = .ok (.iconst 1, 1) := by decide +kernel
theorem dX2_everySecondBit_17 : decode cX2_everySecondBit 17 = .ok (.iand, 1) := by decide +kernel
theorem dX2_everySecondBit_18 : decode cX2_everySecondBit 18 = .ok (.iload_n 2, 1) := by decide +kernel
theorem dX2_everySecondBit_19 : decode cX2_everySecondBit 19 = .ok (.ishl, 1) := by decide +kernel
theorem dX2_everySecondBit_20 : decode cX2_everySecondBit 20 = .ok (.ior, 1) := by decide +kernel
theorem dX2_everySecondBit_21 : decode cX2_everySecondBit 21 = .ok (.istore_n 1, 1) := by decide +kernel
theorem dX2_everySecondBit_22 : decode cX2_everySecondBit 22 = .ok (.iinc 2 1, 3) := by decide +kernel
theorem dX2_everySecondBit_25 : decode cX2_everySecondBit 25 = .ok (.goto (-21), 3) := by decide +kernel
theorem dX2_everySecondBit_28 : decode cX2_everySecondBit 28 = .ok (.iload_n 1, 1) := by decide +kernel
theorem dX2_everySecondBit_29 : decode cX2_everySecondBit 29 = .ok (.ireturn, 1) := by decide +kernel
theorem dX3_init_0 : decode cX3_init 0 = .ok (.aload_n 0, 1) := by decide +kernel
theorem dX3_init_1 : decode cX3_init 1 = .ok (.invokespecial 3, 3) := by decide +kernel
theorem dX3_init_4 : decode cX3_init 4 = .ok (.aload_n 0, 1) := by decide +kernel
theorem dX3_init_5 : decode cX3_init 5 = .ok (.bipush 40, 2) := by decide +kernel
theorem dX3_init_7 : decode cX3_init 7 = .ok (.newarray .int, 2) := by decide +kernel
theorem dX3_init_9 : decode cX3_init 9 = .ok (.putfield 9, 3) := by decide +kernel
theorem dX3_init_12 : decode cX3_init 12 = .ok (.aload_n 0, 1) := by decide +kernel
theorem dX3_init_13 : decode cX3_init 13 = .ok (.bipush 40, 2) := by decide +kernel
theorem dX3_init_15 : decode cX3_init 15 = .ok (.newarray .int, 2) := by decide +kernel
theorem dX3_init_17 : decode cX3_init 17 = .ok (.putfield 15, 3) := by decide +kernel
theorem dX3_init_20 : decode cX3_init 20 = .ok (.aload_n 0, 1) := by decide +kernel
theorem dX3_init_21 : decode cX3_init 21 = .ok (.bipush 40, 2) := by decide +kernel
theorem dX3_init_23 : decode cX3_init 23 = .ok (.newarray .int, 2) := by decide +kernel
theorem dX3_init_25 : decode cX3_init 25 = .ok (.putfield 18, 3) := by decide +kernel
theorem dX3_init_28 : decode cX3_init 28 = .ok (.aload_n 0, 1) := by decide +kernel
theorem dX3_init_29 : decode cX3_init 29 = .ok (.bipush 40, 2) := by decide +kernel
theorem dX3_init_31 : decode cX3_init 31 = .ok (.newarray .int, 2) := by decide +kernel
theorem dX3_init_33 : decode cX3_init 33 = .ok (.putfield 21, 3) := by decide +kernel
theorem dX3_init_36 : decode cX3_init 36 = .ok (.return_, 1) := by decide +kernel
theorem dX3_copyFrom_0 : decode cX3_copyFrom 0 = .ok (.aload_n 0, 1) := by decide +kernel
theorem dX3_copyFrom_1 : decode cX3_copyFrom 1 = .ok (.aload_n 1, 1) := by decide +kernel
theorem dX3_copyFrom_2 : decode cX3_copyFrom 2 = .ok (.getfield 24, 3) := by decide +kernel
theorem dX3_copyFrom_5 : decode cX3_copyFrom 5 = .ok (.putfield 24, 3) := by decide +kernel
theorem dX3_copyFrom_8 : decode cX3_copyFrom 8 = .ok (.aload_n 1, 1) := by decide +kernel
theorem dX3_copyFrom_9 : decode cX3_copyFrom 9 = .ok (.getfield 9, 3) := by decide +kernel
theorem dX3_copyFrom_12 : decode cX3_copyFrom 12 = .ok (.iconst 0, 1) := by decide +kernel
theorem dX3_copyFrom_13 : decode cX3_copyFrom 13 = .ok (.aload_n 0, 1) := by decide +kernel
theorem dX3_copyFrom_14 : decode cX3_copyFrom 14 = .ok (.getfield 9, 3) := by decide +kernel
theorem dX3_copyFrom_17 : decode cX3_copyFrom 17 = .ok (.iconst 0, 1) := by decide +kernel
theorem dX3_copyFrom_18 : decode cX3_copyFrom 18 = .ok (.bipush 40, 2) := by decide +kernel
theorem dX3_copyFrom_20 : decode cX3_copyFrom 20 = .ok (.invokestatic 28, 3) := by decide +kernel
theorem dX3_copyFrom_23 : decode cX3_copyFrom 23 = .ok (.aload_n 1, 1) := by decide +kernel
theorem dX3_copyFrom_24 : decode cX3_copyFrom 24 = .ok (.getfield 15, 3) := by decide +kernel
theorem dX3_copyFrom_27 : decode cX3_copyFrom 27 = .ok (.iconst 0, 1) := by decide +kernel
theorem dX3_copyFrom_28 : decode cX3_copyFrom 28 = .ok (.aload_n 0, 1) := by decide +kernel
theorem dX3_copyFrom_29 : decode cX3_copyFrom 29 = .ok (.getfield 15, 3) := by decide +kernel
theorem dX3_copyFrom_32 : decode cX3_copyFrom 32 = .ok (.iconst 0, 1) := by decide +kernel
theorem dX3_copyFrom_33 : decode cX3_copyFrom 33 = .ok (.bipush 40, 2) := by decide +kernel
theorem dX3_copyFrom_35 : decode cX3_copyFrom 35 = .ok (.invokestatic 28, 3) := by decide +kernel
theorem dX3_copyFrom_38 : decode cX3_copyFrom 38 = .ok (.aload_n 1, 1) := by decide +kernel
theorem dX3_copyFrom_39 : decode cX3_copyFrom 39 = .ok (.getfield 18, 3) := by decide +kernel
theorem dX3_copyFrom_42 : decode cX3_copyFrom 42 = .ok (.iconst 0, 1) := by decide +kernel
theorem dX3_copyFrom_43 : decode cX3_copyFrom 43 = .ok (.aload_n 0, 1) := by decide +kernel
theorem dX3_copyFrom_44 : decode cX3_copyFrom 44 = .ok (.getfield 18, 3) := by decide +kernel
theorem dX3_copyFrom_47 : decode cX3_copyFrom 47 = .ok (.iconst 0, 1) := by decide +kernel
theorem dX3_copyFrom_48 : decode cX3_copyFrom 48 = .ok (.bipush 40, 2) := by decide +kernel
theorem dX3_copyFrom_50 : decode cX3_copyFrom 50 = .ok (.invokestatic 28, 3) := by decide +kernel
theorem dX3_copyFrom_53 : decode cX3_copyFrom 53 = .ok (.aload_n 1, 1) := by decide +kernel
theorem dX3_copyFrom_54 : decode cX3_copyFrom 54 = .ok (.getfield 21, 3) := by decide +kernel
theorem dX3_copyFrom_57 : decode cX3_copyFrom 57 = .ok (.iconst 0, 1) := by decide +kernel
theorem dX3_copyFrom_58 : decode cX3_copyFrom 58 = .ok (.aload_n 0, 1) := by decide +kernel
theorem dX3_copyFrom_59 : decode cX3_copyFrom 59 = .ok (.getfield 21, 3) := by decide +kernel
theorem dX3_copyFrom_62 : decode cX3_copyFrom 62 = .ok (.iconst 0, 1) := by decide +kernel
theorem dX3_copyFrom_63 : decode cX3_copyFrom 63 = .ok (.bipush 40, 2) := by decide +kernel
theorem dX3_copyFrom_65 : decode cX3_copyFrom 65 = .ok (.invokestatic 28, 3) := by decide +kernel
theorem dX3_copyFrom_68 : decode cX3_copyFrom 68 = .ok (.return_, 1) := by decide +kernel
theorem dX3_exists_0 : decode cX3_exists 0 = .ok (.iload_n 1, 1) := by decide +kernel
theorem dX3_exists_1 : decode cX3_exists 1 = .ok (.ifCond .lt 22, 3) := by decide +kernel
theorem dX3_exists_4 : decode cX3_exists 4 = .ok (.iload_n 1, 1) := by decide +kernel
theorem dX3_exists_5 : decode cX3_exists 5 = .ok (.bipush 40, 2) := by decide +kernel
theorem dX3_exists_7 : decode cX3_exists 7 = .ok (.if_icmp .ge 16, 3) := by decide +kernel
theorem dX3_exists_10 : decode cX3_exists 10 = .ok (.aload_n 0, 1) := by decide +kernel
theorem dX3_exists_11 : decode cX3_exists 11 = .ok (.getfield 18, 3) := by decide +kernel
theorem dX3_exists_14 : decode cX3_exists 14 = .ok (.iload_n 1, 1) := by decide +kernel
theorem dX3_exists_15 : decode cX3_exists 15 = .ok (.iaload, 1) := by decide +kernel
theorem dX3_exists_16 : decode cX3_exists 16 = .ok (.ifCond .le 7, 3) := by decide +kernel
theorem dX3_exists_19 : decode cX3_exists 19 = .ok (.iconst 1, 1) := by decide +kernel
theorem dX3_exists_20 : decode cX3_exists 20 = .ok (.goto 4, 3) := by decide +kernel
theorem dX3_exists_23 : decode cX3_exists 23 = .ok (.iconst 0, 1) := by decide +kernel
theorem dX3_exists_24 : decode cX3_exists 24 = .ok (.ireturn, 1) := by decide +kernel
theorem dX3_areFull_0 : decode cX3_areFull 0 = .ok (.aload_n 0, 1) := by decide +kernel
theorem dX3_areFull_1 : decode cX3_areFull 1 = .ok (.getfield 24, 3) := by decide +kernel
theorem dX3_areFull_4 : decode cX3_areFull 4 = .ok (.bipush 40, 2) := by decide +kernel
theorem dX3_areFull_6 : decode cX3_areFull 6 = .ok (.if_icmp .lt 7, 3) := by decide +kernel
theorem dX3_areFull_9 : decode cX3_areFull 9 = .ok (.iconst 1, 1) := by decide +kernel
theorem dX3_areFull_10 : decode cX3_areFull 10 = .ok (.goto 4, 3) := by decide +kernel
theorem dX3_areFull_13 : decode cX3_areFull 13 = .ok (.iconst 0, 1) := by decide +kernel
theorem dX3_areFull_14 : decode cX3_areFull 14 = .ok (.ireturn, 1) := by decide +kernel
theorem dX3_numberAdded_0 : decode cX3_numberAdded 0 = .ok (.aload_n 0, 1) := by decide +kernel
theorem dX3_numberAdded_1 : decode cX3_numberAdded 1 = .ok (.getfield 24, 3) := by decide +kernel
theorem dX3_numberAdded_4 : decode cX3_numberAdded 4 = .ok (.ireturn, 1) := by decide +kernel
theorem dX3_xOf_0 : decode cX3_xOf 0 = .ok (.aload_n 0, 1) := by decide +kernel
theorem dX3_xOf_1 : decode cX3_xOf 1 = .ok (.iload_n 1, 1) := by decide +kernel
theorem dX3_xOf_2 : decode cX3_xOf 2 = .ok (.invokevirtual 34, 3) := by decide +kernel
theorem dX3_xOf_5 : decode cX3_xOf 5 = .ok (.ifCond .eq 12, 3) := by decide +kernel
theorem dX3_xOf_8 : decode cX3_xOf 8 = .ok (.aload_n 0, 1) := by decide +kernel
theorem dX3_xOf_9 : decode cX3_xOf 9 = .ok (.getfield 9, 3) := by decide +kernel
theorem dX3_xOf_12 : decode cX3_xOf 12 = .ok (.iload_n 1, 1) := by decide +kernel
theorem dX3_xOf_13 : decode cX3_xOf 13 = .ok (.iaload, 1) := by decide +kernel
theorem dX3_xOf_14 : decode cX3_xOf 14 = .ok (.goto 5, 3) := by decide +kernel
theorem dX3_xOf_17 : decode cX3_xOf 17 = .ok (.bipush (-9), 2) := by decide +kernel
theorem dX3_xOf_19 : decode cX3_xOf 19 = .ok (.ireturn, 1) := by decide +kernel
theorem dX3_yOf_0 : decode cX3_yOf 0 = .ok (.aload_n 0, 1) := by decide +kernel
theorem dX3_yOf_1 : decode cX3_yOf 1 = .ok (.iload_n 1, 1) := by decide +kernel
theorem dX3_yOf_2 : decode cX3_yOf 2 = .ok (.invokevirtual 34, 3) := by decide +kernel
theorem dX3_yOf_5 : decode cX3_yOf 5 = .ok (.ifCond .eq 12, 3) := by decide +kernel
theorem dX3_yOf_8 : decode cX3_yOf 8 = .ok (.aload_n 0, 1) := by decide +kernel
theorem dX3_yOf_9 : decode cX3_yOf 9 = .ok (.getfield 15, 3) := by decide +kernel
theorem dX3_yOf_12 : decode cX3_yOf 12 = .ok (.iload_n 1, 1) := by decide +kernel
theorem dX3_yOf_13 : decode cX3_yOf 13 = .ok (.iaload, 1) := by decide +kernel
theorem dX3_yOf_14 : decode cX3_yOf 14 = .ok (.goto 5, 3) := by decide +kernel
theorem dX3_yOf_17 : decode cX3_yOf 17 = .ok (.bipush (-9), 2) := by decide +kernel
theorem dX3_yOf_19 : decode cX3_yOf 19 = .ok (.ireturn, 1) := by decide +kernel
theorem dX3_wealthOf_0 : decode cX3_wealthOf 0 = .ok (.aload_n 0, 1) := by decide +kernel
theorem dX3_wealthOf_1 : decode cX3_wealthOf 1 = .ok (.iload_n 1, 1) := by decide +kernel
theorem dX3_wealthOf_2 : decode cX3_wealthOf 2 = .ok (.invokevirtual 34, 3) := by decide +kernel
theorem dX3_wealthOf_5 : decode cX3_wealthOf 5 = .ok (.ifCond .eq 12, 3) := by decide +kernel
theorem dX3_wealthOf_8 : decode cX3_wealthOf 8 = .ok (.aload_n 0, 1) := by decide +kernel
theorem dX3_wealthOf_9 : decode cX3_wealthOf 9 = .ok (.getfield 18, 3) := by decide +kernel
theorem dX3_wealthOf_12 : decode cX3_wealthOf 12 = .ok (.iload_n 1, 1) := by decide +kernel
theorem dX3_wealthOf_13 : decode cX3_wealthOf 13 = .ok (.iaload, 1) := by decide +kernel
theorem dX3_wealthOf_14 : decode cX3_wealthOf 14 = .ok (.goto 4, 3) := by decide +kernel
theorem dX3_wealthOf_17 : decode cX3_wealthOf 17 = .ok (.iconst 0, 1) := by decide +kernel
theorem dX3_wealthOf_18 : decode cX3_wealthOf 18 = .ok (.ireturn, 1) := by decide +kernel
theorem dX3_lordOf_0 : decode cX3_lordOf 0 = .ok (.aload_n 0, 1) := by decide +kernel
theorem dX3_lordOf_1 : decode cX3_lordOf 1 = .ok (.iload_n 1, 1) := by decide +kernel
theorem dX3_lordOf_2 : decode cX3_lordOf 2 = .ok (.invokevirtual 34, 3) := by decide +kernel
theorem dX3_lordOf_5 : decode cX3_lordOf 5 = .ok (.ifCond .eq 12, 3) := by decide +kernel
theorem dX3_lordOf_8 : decode cX3_lordOf 8 = .ok (.aload_n 0, 1) := by decide +kernel
theorem dX3_lordOf_9 : decode cX3_lordOf 9 = .ok (.getfield 21, 3) := by decide +kernel
theorem dX3_lordOf_12 : decode cX3_lordOf 12 = .ok (.iload_n 1, 1) := by decide +kernel
theorem dX3_lordOf_13 : decode cX3_lordOf 13 = .ok (.iaload, 1) := by decide +kernel
theorem dX3_lordOf_14 : decode cX3_lordOf 14 = .ok (.goto 5, 3) := by decide +kernel
theorem dX3_lordOf_17 : decode cX3_lordOf 17 = .ok (.bipush (-9), 2) := by decide +kernel
theorem dX3_lordOf_19 : decode cX3_lordOf 19 = .ok (.ireturn, 1) := by decide +kernel
theorem dX3_place_0 : decode cX3_place 0 = .ok (.aload_n 0, 1) := by decide +kernel
theorem dX3_place_1 : decode cX3_place 1 = .ok (.getfield 24, 3) := by decide +kernel
theorem dX3_place_4 : decode cX3_place 4 = .ok (.istore 5, 2) := by decide +kernel
theorem dX3_place_6 : decode cX3_place 6 = .ok (.iload 5, 2) := by decide +kernel
theorem dX3_place_8 : decode cX3_place 8 = .ok (.iconst 0, 1) := by decide +kernel
theorem dX3_place_9 : decode cX3_place 9 = .ok (.bipush 39, 2) := by decide +kernel
theorem dX3_place_11 : decode cX3_place 11 = .ok (.invokestatic 38, 3) := by decide +kernel
theorem dX3_place_14 : decode cX3_place 14 = .ok (.ifCond .ne 6, 3) := by decide +kernel
theorem dX3_place_17 : decode cX3_place 17 = .ok (.bipush (-3), 2) := by decide +kernel
theorem dX3_place_19 : decode cX3_place 19 = .ok (.ireturn, 1) := by decide +kernel
theorem dX3_place_20 : decode cX3_place 20 = .ok (.aload_n 0, 1) := by decide +kernel
theorem dX3_place_21 : decode cX3_place 21 = .ok (.dup, 1) := by decide +kernel
theorem dX3_place_22 : decode cX3_place 22 = .ok (.getfield 24, 3) := by decide +kernel
theorem dX3_place_25 : decode cX3_place 25 = .ok (.iconst 1, 1) := by decide +kernel
theorem dX3_place_26 : decode cX3_place 26 = .ok (.iadd, 1) := by decide +kernel
theorem dX3_place_27 : decode cX3_place 27 = .ok (.putfield 24, 3) := by decide +kernel
theorem dX3_place_30 : decode cX3_place 30 = .ok (.aload_n 0, 1) := by decide +kernel
theorem dX3_place_31 : decode cX3_place 31 = .ok (.getfield 9, 3) := by decide +kernel
theorem dX3_place_34 : decode cX3_place 34 = .ok (.iload 5, 2) := by decide +kernel
theorem dX3_place_36 : decode cX3_place 36 = .ok (.iload_n 1, 1) := by decide +kernel
theorem dX3_place_37 : decode cX3_place 37 = .ok (.iastore, 1) := by decide +kernel
theorem dX3_place_38 : decode cX3_place 38 = .ok (.aload_n 0, 1) := by decide +kernel
theorem dX3_place_39 : decode cX3_place 39 = .ok (.getfield 15, 3) := by decide +kernel
theorem dX3_place_42 : decode cX3_place 42 = .ok (.iload 5, 2) := by decide +kernel
theorem dX3_place_44 : decode cX3_place 44 = .ok (.iload_n 2, 1) := by decide +kernel
theorem dX3_place_45 : decode cX3_place 45 = .ok (.iastore, 1) := by decide +kernel
theorem dX3_place_46 : decode cX3_place 46 = .ok (.aload_n 0, 1) := by decide +kernel
theorem dX3_place_47 : decode cX3_place 47 = .ok (.getfield 18, 3) := by decide +kernel
theorem dX3_place_50 : decode cX3_place 50 = .ok (.iload 5, 2) := by decide +kernel
theorem dX3_place_52 : decode cX3_place 52 = .ok (.iload_n 3, 1) := by decide +kernel
theorem dX3_place_53 : decode cX3_place 53 = .ok (.iastore, 1) := by decide +kernel
theorem dX3_place_54 : decode cX3_place 54 = .ok (.aload_n 0, 1) := by decide +kernel
theorem dX3_place_55 : decode cX3_place 55 = .ok (.getfield 21, 3) := by decide +kernel
theorem dX3_place_58 : decode cX3_place 58 = .ok (.iload 5, 2) := by decide +kernel
theorem dX3_place_60 : decode cX3_place 60 = .ok (.iload 4, 2) := by decide +kernel
theorem dX3_place_62 : decode cX3_place 62 = .ok (.iastore, 1) := by decide +kernel
theorem dX3_place_63 : decode cX3_place 63 = .ok (.iload 5, 2) := by decide +kernel
theorem dX3_place_65 : decode cX3_place 65 = .ok (.ireturn, 1) := by decide +kernel
theorem dX3_takeAway_0 : decode cX3_takeAway 0 = .ok (.aload_n 0, 1) := by decide +kernel
theorem dX3_takeAway_1 : decode cX3_takeAway 1 = .ok (.iload_n 1, 1) := by decide +kernel
theorem dX3_takeAway_2 : decode cX3_takeAway 2 = .ok (.invokevirtual 34, 3) := by decide +kernel
theorem dX3_takeAway_5 : decode cX3_takeAway 5 = .ok (.ifCond .eq 10, 3) := by decide +kernel
theorem dX3_takeAway_8 : decode cX3_takeAway 8 = .ok (.aload_n 0, 1) := by decide +kernel
theorem dX3_takeAway_9 : decode cX3_takeAway 9 = .ok (.getfield 18, 3) := by decide +kernel
theorem dX3_takeAway_12 : decode cX3_takeAway 12 = .ok (.iload_n 1, 1) := by decide +kernel
theorem dX3_takeAway_13 : decode cX3_takeAway 13 = .ok (.iconst 0, 1) := by decide +kernel
theorem dX3_takeAway_14 : decode cX3_takeAway 14 = .ok (.iastore, 1) := by decide +kernel
theorem dX3_takeAway_15 : decode cX3_takeAway 15 = .ok (.return_, 1) := by decide +kernel
theorem dX3_shift_0 : decode cX3_shift 0 = .ok (.aload_n 0, 1) := by decide +kernel
theorem dX3_shift_1 : decode cX3_shift 1 = .ok (.iload_n 1, 1) := by decide +kernel
theorem dX3_shift_2 : decode cX3_shift 2 = .ok (.invokevirtual 34, 3) := by decide +kernel
theorem dX3_shift_5 : decode cX3_shift 5 = .ok (.ifCond .eq 17, 3) := by decide +kernel
theorem dX3_shift_8 : decode cX3_shift 8 = .ok (.aload_n 0, 1) := by decide +kernel
theorem dX3_shift_9 : decode cX3_shift 9 = .ok (.getfield 9, 3) := by decide +kernel
theorem dX3_shift_12 : decode cX3_shift 12 = .ok (.iload_n 1, 1) := by decide +kernel
theorem dX3_shift_13 : decode cX3_shift 13 = .ok (.iload_n 2, 1) := by decide +kernel
theorem dX3_shift_14 : decode cX3_shift 14 = .ok (.iastore, 1) := by decide +kernel
theorem dX3_shift_15 : decode cX3_shift 15 = .ok (.aload_n 0, 1) := by decide +kernel
theorem dX3_shift_16 : decode cX3_shift 16 = .ok (.getfield 15, 3) := by decide +kernel
theorem dX3_shift_19 : decode cX3_shift 19 = .ok (.iload_n 1, 1) := by decide +kernel
theorem dX3_shift_20 : decode cX3_shift 20 = .ok (.iload_n 3, 1) := by decide +kernel
theorem dX3_shift_21 : decode cX3_shift 21 = .ok (.iastore, 1) := by decide +kernel
theorem dX3_shift_22 : decode cX3_shift 22 = .ok (.return_, 1) := by decide +kernel
theorem dX3_setLord_0 : decode cX3_setLord 0 = .ok (.aload_n 0, 1) := by decide +kernel
theorem dX3_setLord_1 : decode cX3_setLord 1 = .ok (.iload_n 1, 1) := by decide +kernel
theorem dX3_setLord_2 : decode cX3_setLord 2 = .ok (.invokevirtual 34, 3) := by decide +kernel
theorem dX3_setLord_5 : decode cX3_setLord 5 = .ok (.ifCond .eq 10, 3) := by decide +kernel
theorem dX3_setLord_8 : decode cX3_setLord 8 = .ok (.aload_n 0, 1) := by decide +kernel
theorem dX3_setLord_9 : decode cX3_setLord 9 = .ok (.getfield 21, 3) := by decide +kernel
theorem dX3_setLord_12 : decode cX3_setLord 12 = .ok (.iload_n 1, 1) := by decide +kernel
theorem dX3_setLord_13 : decode cX3_setLord 13 = .ok (.iload_n 2, 1) := by decide +kernel
theorem dX3_setLord_14 : decode cX3_setLord 14 = .ok (.iastore, 1) := by decide +kernel
theorem dX3_setLord_15 : decode cX3_setLord 15 = .ok (.return_, 1) := by decide +kernel
theorem dX3_liesIn_0 : decode cX3_liesIn 0 = .ok (.aload_n 0, 1) := by decide +kernel
theorem dX3_liesIn_1 : decode cX3_liesIn 1 = .ok (.iload_n 1, 1) := by decide +kernel
theorem dX3_liesIn_2 : decode cX3_liesIn 2 = .ok (.invokevirtual 34, 3) := by decide +kernel
theorem dX3_liesIn_5 : decode cX3_liesIn 5 = .ok (.ifCond .eq 37, 3) := by decide +kernel
theorem dX3_liesIn_8 : decode cX3_liesIn 8 = .ok (.aload_n 0, 1) := by decide +kernel
theorem dX3_liesIn_9 : decode cX3_liesIn 9 = .ok (.getfield 9, 3) := by decide +kernel
theorem dX3_liesIn_12 : decode cX3_liesIn 12 = .ok (.iload_n 1, 1) := by decide +kernel
theorem dX3_liesIn_13 : decode cX3_liesIn 13 = .ok (.iaload, 1) := by decide +kernel
theorem dX3_liesIn_14 : decode cX3_liesIn 14 = .ok (.iload_n 2, 1) := by decide +kernel
theorem dX3_liesIn_15 : decode cX3_liesIn 15 = .ok (.iload 4, 2) := by decide +kernel
theorem dX3_liesIn_17 : decode cX3_liesIn 17 = .ok (.invokestatic 38, 3) := by decide +kernel
theorem dX3_liesIn_20 : decode cX3_liesIn 20 = .ok (.ifCond .eq 22, 3) := by decide +kernel
theorem dX3_liesIn_23 : decode cX3_liesIn 23 = .ok (.aload_n 0, 1) := by decide +kernel
theorem dX3_liesIn_24 : decode cX3_liesIn 24 = .ok (.getfield 15, 3) := by decide +kernel
theorem dX3_liesIn_27 : decode cX3_liesIn 27 = .ok (.iload_n 1, 1) := by decide +kernel
theorem dX3_liesIn_28 : decode cX3_liesIn 28 = .ok (.iaload, 1) := by decide +kernel
theorem dX3_liesIn_29 : decode cX3_liesIn 29 = .ok (.iload_n 3, 1) := by decide +kernel
theorem dX3_liesIn_30 : decode cX3_liesIn 30 = .ok (.iload 5, 2) := by decide +kernel
theorem dX3_liesIn_32 : decode cX3_liesIn 32 = .ok (.invokestatic 38, 3) := by decide +kernel
theorem dX3_liesIn_35 : decode cX3_liesIn 35 = .ok (.ifCond .eq 7, 3) := by decide +kernel
theorem dX3_liesIn_38 : decode cX3_liesIn 38 = .ok (.iconst 1, 1) := by decide +kernel
theorem dX3_liesIn_39 : decode cX3_liesIn 39 = .ok (.goto 4, 3) := by decide +kernel
theorem dX3_liesIn_42 : decode cX3_liesIn 42 = .ok (.iconst 0, 1) := by decide +kernel
theorem dX3_liesIn_43 : decode cX3_liesIn 43 = .ok (.ireturn, 1) := by decide +kernel
theorem dX3_number_0 : decode cX3_number 0 = .ok (.aload_n 0, 1) := by decide +kernel
theorem dX3_number_1 : decode cX3_number 1 = .ok (.iconst 0, 1) := by decide +kernel
theorem dX3_number_2 : decode cX3_number 2 = .ok (.iconst 0, 1) := by decide +kernel
theorem dX3_number_3 : decode cX3_number 3 = .ok (.bipush 63, 2) := by decide +kernel
theorem dX3_number_5 : decode cX3_number 5 = .ok (.bipush 63, 2) := by decide +kernel
theorem dX3_number_7 : decode cX3_number 7 = .ok (.invokevirtual 42, 3) := by decide +kernel
theorem dX3_number_10 : decode cX3_number 10 = .ok (.ireturn, 1) := by decide +kernel
theorem dX3_numberIn_0 : decode cX3_numberIn 0 = .ok (.iconst 0, 1) := by decide +kernel
theorem dX3_numberIn_1 : decode cX3_numberIn 1 = .ok (.istore 5, 2) := by decide +kernel
theorem dX3_numberIn_3 : decode cX3_numberIn 3 = .ok (.iconst 0, 1) := by decide +kernel
theorem dX3_numberIn_4 : decode cX3_numberIn 4 = .ok (.istore 6, 2) := by decide +kernel
theorem dX3_numberIn_6 : decode cX3_numberIn 6 = .ok (.iload 6, 2) := by decide +kernel
theorem dX3_numberIn_8 : decode cX3_numberIn 8 = .ok (.bipush 40, 2) := by decide +kernel
theorem dX3_numberIn_10 : decode cX3_numberIn 10 = .ok (.if_icmp .ge 26, 3) := by decide +kernel
theorem dX3_numberIn_13 : decode cX3_numberIn 13 = .ok (.aload_n 0, 1) := by decide +kernel
theorem dX3_numberIn_14 : decode cX3_numberIn 14 = .ok (.iload 6, 2) := by decide +kernel
theorem dX3_numberIn_16 : decode cX3_numberIn 16 = .ok (.iload_n 1, 1) := by decide +kernel
theorem dX3_numberIn_17 : decode cX3_numberIn 17 = .ok (.iload_n 2, 1) := by decide +kernel
theorem dX3_numberIn_18 : decode cX3_numberIn 18 = .ok (.iload_n 3, 1) := by decide +kernel
theorem dX3_numberIn_19 : decode cX3_numberIn 19 = .ok (.iload 4, 2) := by decide +kernel
theorem dX3_numberIn_21 : decode cX3_numberIn 21 = .ok (.invokevirtual 46, 3) := by decide +kernel
theorem dX3_numberIn_24 : decode cX3_numberIn 24 = .ok (.ifCond .eq 6, 3) := by decide +kernel
theorem dX3_numberIn_27 : decode cX3_numberIn 27 = .ok (.iinc 5 1, 3) := by decide +kernel
theorem dX3_numberIn_30 : decode cX3_numberIn 30 = .ok (.iinc 6 1, 3) := by decide +kernel
theorem dX3_numberIn_33 : decode cX3_numberIn 33 = .ok (.goto (-27), 3) := by decide +kernel
theorem dX3_numberIn_36 : decode cX3_numberIn 36 = .ok (.iload 5, 2) := by decide +kernel
theorem dX3_numberIn_38 : decode cX3_numberIn 38 = .ok (.ireturn, 1) := by decide +kernel
theorem dX3_wealthIn_0 : decode cX3_wealthIn 0 = .ok (.iconst 0, 1) := by decide +kernel
theorem dX3_wealthIn_1 : decode cX3_wealthIn 1 = .ok (.istore 5, 2) := by decide +kernel
theorem dX3_wealthIn_3 : decode cX3_wealthIn 3 = .ok (.iconst 0, 1) := by decide +kernel
theorem dX3_wealthIn_4 : decode cX3_wealthIn 4 = .ok (.istore 6, 2) := by decide +kernel
theorem dX3_wealthIn_6 : decode cX3_wealthIn 6 = .ok (.iload 6, 2) := by decide +kernel
theorem dX3_wealthIn_8 : decode cX3_wealthIn 8 = .ok (.bipush 40, 2) := by decide +kernel
theorem dX3_wealthIn_10 : decode cX3_wealthIn 10 = .ok (.if_icmp .ge 35, 3) := by decide +kernel
theorem dX3_wealthIn_13 : decode cX3_wealthIn 13 = .ok (.aload_n 0, 1) := by decide +kernel
theorem dX3_wealthIn_14 : decode cX3_wealthIn 14 = .ok (.iload 6, 2) := by decide +kernel
theorem dX3_wealthIn_16 : decode cX3_wealthIn 16 = .ok (.iload_n 1, 1) := by decide +kernel
theorem dX3_wealthIn_17 : decode cX3_wealthIn 17 = .ok (.iload_n 2, 1) := by decide +kernel
theorem dX3_wealthIn_18 : decode cX3_wealthIn 18 = .ok (.iload_n 3, 1) := by decide +kernel
theorem dX3_wealthIn_19 : decode cX3_wealthIn 19 = .ok (.iload 4, 2) := by decide +kernel
theorem dX3_wealthIn_21 : decode cX3_wealthIn 21 = .ok (.invokevirtual 46, 3) := by decide +kernel
theorem dX3_wealthIn_24 : decode cX3_wealthIn 24 = .ok (.ifCond .eq 15, 3) := by decide +kernel
theorem dX3_wealthIn_27 : decode cX3_wealthIn 27 = .ok (.iload 5, 2) := by decide +kernel
theorem dX3_wealthIn_29 : decode cX3_wealthIn 29 = .ok (.aload_n 0, 1) := by decide +kernel
theorem dX3_wealthIn_30 : decode cX3_wealthIn 30 = .ok (.getfield 18, 3) := by decide +kernel
theorem dX3_wealthIn_33 : decode cX3_wealthIn 33 = .ok (.iload 6, 2) := by decide +kernel
theorem dX3_wealthIn_35 : decode cX3_wealthIn 35 = .ok (.iaload, 1) := by decide +kernel
theorem dX3_wealthIn_36 : decode cX3_wealthIn 36 = .ok (.iadd, 1) := by decide +kernel
theorem dX3_wealthIn_37 : decode cX3_wealthIn 37 = .ok (.istore 5, 2) := by decide +kernel
theorem dX3_wealthIn_39 : decode cX3_wealthIn 39 = .ok (.iinc 6 1, 3) := by decide +kernel
theorem dX3_wealthIn_42 : decode cX3_wealthIn 42 = .ok (.goto (-36), 3) := by decide +kernel
theorem dX3_wealthIn_45 : decode cX3_wealthIn 45 = .ok (.iload 5, 2) := by decide +kernel
theorem dX3_wealthIn_47 : decode cX3_wealthIn 47 = .ok (.ireturn, 1) := by decide +kernel
theorem dX3_richestIn_0 : decode cX3_richestIn 0 = .ok (.bipush (-9), 2) := by decide +kernel
theorem dX3_richestIn_2 : decode cX3_richestIn 2 = .ok (.istore 5, 2) := by decide +kernel
theorem dX3_richestIn_4 : decode cX3_richestIn 4 = .ok (.iconst 0, 1) := by decide +kernel
theorem dX3_richestIn_5 : decode cX3_richestIn 5 = .ok (.istore 6, 2) := by decide +kernel
theorem dX3_richestIn_7 : decode cX3_richestIn 7 = .ok (.iload 6, 2) := by decide +kernel
theorem dX3_richestIn_9 : decode cX3_richestIn 9 = .ok (.bipush 40, 2) := by decide +kernel
theorem dX3_richestIn_11 : decode cX3_richestIn 11 = .ok (.if_icmp .ge 43, 3) := by decide +kernel
theorem dX3_richestIn_14 : decode cX3_richestIn 14 = .ok (.aload_n 0, 1) := by decide +kernel
theorem dX3_richestIn_15 : decode cX3_richestIn 15 = .ok (.iload 6, 2) := by decide +kernel
theorem dX3_richestIn_17 : decode cX3_richestIn 17 = .ok (.iload_n 1, 1) := by decide +kernel
theorem dX3_richestIn_18 : decode cX3_richestIn 18 = .ok (.iload_n 2, 1) := by decide +kernel
theorem dX3_richestIn_19 : decode cX3_richestIn 19 = .ok (.iload_n 3, 1) := by decide +kernel
theorem dX3_richestIn_20 : decode cX3_richestIn 20 = .ok (.iload 4, 2) := by decide +kernel
theorem dX3_richestIn_22 : decode cX3_richestIn 22 = .ok (.invokevirtual 46, 3) := by decide +kernel
theorem dX3_richestIn_25 : decode cX3_richestIn 25 = .ok (.ifCond .eq 23, 3) := by decide +kernel
theorem dX3_richestIn_28 : decode cX3_richestIn 28 = .ok (.aload_n 0, 1) := by decide +kernel
theorem dX3_richestIn_29 : decode cX3_richestIn 29 = .ok (.getfield 18, 3) := by decide +kernel
theorem dX3_richestIn_32 : decode cX3_richestIn 32 = .ok (.iload 6, 2) := by decide +kernel
theorem dX3_richestIn_34 : decode cX3_richestIn 34 = .ok (.iaload, 1) := by decide +kernel
theorem dX3_richestIn_35 : decode cX3_richestIn 35 = .ok (.aload_n 0, 1) := by decide +kernel
theorem dX3_richestIn_36 : decode cX3_richestIn 36 = .ok (.iload 5, 2) := by decide +kernel
theorem dX3_richestIn_38 : decode cX3_richestIn 38 = .ok (.invokevirtual 50, 3) := by decide +kernel
theorem dX3_richestIn_41 : decode cX3_richestIn 41 = .ok (.if_icmp .le 7, 3) := by decide +kernel
theorem dX3_richestIn_44 : decode cX3_richestIn 44 = .ok (.iload 6, 2) := by decide +kernel
theorem dX3_richestIn_46 : decode cX3_richestIn 46 = .ok (.istore 5, 2) := by decide +kernel
theorem dX3_richestIn_48 : decode cX3_richestIn 48 = .ok (.iinc 6 1, 3) := by decide +kernel
theorem dX3_richestIn_51 : decode cX3_richestIn 51 = .ok (.goto (-44), 3) := by decide +kernel
theorem dX3_richestIn_54 : decode cX3_richestIn 54 = .ok (.iload 5, 2) := by decide +kernel
theorem dX3_richestIn_56 : decode cX3_richestIn 56 = .ok (.ireturn, 1) := by decide +kernel
theorem dX3_nearestTo_0 : decode cX3_nearestTo 0 = .ok (.bipush (-9), 2) := by decide +kernel
theorem dX3_nearestTo_2 : decode cX3_nearestTo 2 = .ok (.istore_n 3, 1) := by decide +kernel
theorem dX3_nearestTo_3 : decode cX3_nearestTo 3 = .ok (.sipush 128, 3) := by decide +kernel
theorem dX3_nearestTo_6 : decode cX3_nearestTo 6 = .ok (.istore 4, 2) := by decide +kernel
theorem dX3_nearestTo_8 : decode cX3_nearestTo 8 = .ok (.iconst 0, 1) := by decide +kernel
theorem dX3_nearestTo_9 : decode cX3_nearestTo 9 = .ok (.istore 5, 2) := by decide +kernel
theorem dX3_nearestTo_11 : decode cX3_nearestTo 11 = .ok (.iload 5, 2) := by decide +kernel
theorem dX3_nearestTo_13 : decode cX3_nearestTo 13 = .ok (.bipush 40, 2) := by decide +kernel
theorem dX3_nearestTo_15 : decode cX3_nearestTo 15 = .ok (.if_icmp .ge 59, 3) := by decide +kernel
theorem dX3_nearestTo_18 : decode cX3_nearestTo 18 = .ok (.aload_n 0, 1) := by decide +kernel
theorem dX3_nearestTo_19 : decode cX3_nearestTo 19 = .ok (.getfield 9, 3) := by decide +kernel
theorem dX3_nearestTo_22 : decode cX3_nearestTo 22 = .ok (.iload 5, 2) := by decide +kernel
theorem dX3_nearestTo_24 : decode cX3_nearestTo 24 = .ok (.iaload, 1) := by decide +kernel
theorem dX3_nearestTo_25 : decode cX3_nearestTo 25 = .ok (.iload_n 1, 1) := by decide +kernel
theorem dX3_nearestTo_26 : decode cX3_nearestTo 26 = .ok (.isub, 1) := by decide +kernel
theorem dX3_nearestTo_27 : decode cX3_nearestTo 27 = .ok (.invokestatic 54, 3) := by decide +kernel
theorem dX3_nearestTo_30 : decode cX3_nearestTo 30 = .ok (.aload_n 0, 1) := by decide +kernel
theorem dX3_nearestTo_31 : decode cX3_nearestTo 31 = .ok (.getfield 15, 3) := by decide +kernel
theorem dX3_nearestTo_34 : decode cX3_nearestTo 34 = .ok (.iload 5, 2) := by decide +kernel
theorem dX3_nearestTo_36 : decode cX3_nearestTo 36 = .ok (.iaload, 1) := by decide +kernel
theorem dX3_nearestTo_37 : decode cX3_nearestTo 37 = .ok (.iload_n 2, 1) := by decide +kernel
theorem dX3_nearestTo_38 : decode cX3_nearestTo 38 = .ok (.isub, 1) := by decide +kernel
theorem dX3_nearestTo_39 : decode cX3_nearestTo 39 = .ok (.invokestatic 54, 3) := by decide +kernel
theorem dX3_nearestTo_42 : decode cX3_nearestTo 42 = .ok (.iadd, 1) := by decide +kernel
theorem dX3_nearestTo_43 : decode cX3_nearestTo 43 = .ok (.istore 6, 2) := by decide +kernel
theorem dX3_nearestTo_45 : decode cX3_nearestTo 45 = .ok (.aload_n 0, 1) := by decide +kernel
theorem dX3_nearestTo_46 : decode cX3_nearestTo 46 = .ok (.iload 5, 2) := by decide +kernel
theorem dX3_nearestTo_48 : decode cX3_nearestTo 48 = .ok (.invokevirtual 34, 3) := by decide +kernel
theorem dX3_nearestTo_51 : decode cX3_nearestTo 51 = .ok (.ifCond .eq 17, 3) := by decide +kernel
theorem dX3_nearestTo_54 : decode cX3_nearestTo 54 = .ok (.iload 6, 2) := by decide +kernel
theorem dX3_nearestTo_56 : decode cX3_nearestTo 56 = .ok (.iload 4, 2) := by decide +kernel
theorem dX3_nearestTo_58 : decode cX3_nearestTo 58 = .ok (.if_icmp .ge 10, 3) := by decide +kernel
theorem dX3_nearestTo_61 : decode cX3_nearestTo 61 = .ok (.iload 5, 2) := by decide +kernel
theorem dX3_nearestTo_63 : decode cX3_nearestTo 63 = .ok (.istore_n 3, 1) := by decide +kernel
theorem dX3_nearestTo_64 : decode cX3_nearestTo 64 = .ok (.iload 6, 2) := by decide +kernel
theorem dX3_nearestTo_66 : decode cX3_nearestTo 66 = .ok (.istore 4, 2) := by decide +kernel
theorem dX3_nearestTo_68 : decode cX3_nearestTo 68 = .ok (.iinc 5 1, 3) := by decide +kernel
theorem dX3_nearestTo_71 : decode cX3_nearestTo 71 = .ok (.goto (-60), 3) := by decide +kernel
theorem dX3_nearestTo_74 : decode cX3_nearestTo 74 = .ok (.iload_n 3, 1) := by decide +kernel
theorem dX3_nearestTo_75 : decode cX3_nearestTo 75 = .ok (.ireturn, 1) := by decide +kernel
theorem dX3_numberUnder_0 : decode cX3_numberUnder 0 = .ok (.iconst 0, 1) := by decide +kernel
theorem dX3_numberUnder_1 : decode cX3_numberUnder 1 = .ok (.istore_n 2, 1) := by decide +kernel
theorem dX3_numberUnder_2 : decode cX3_numberUnder 2 = .ok (.iconst 0, 1) := by decide +kernel
theorem dX3_numberUnder_3 : decode cX3_numberUnder 3 = .ok (.istore_n 3, 1) := by decide +kernel
theorem dX3_numberUnder_4 : decode cX3_numberUnder 4 = .ok (.iload_n 3, 1) := by decide +kernel
theorem dX3_numberUnder_5 : decode cX3_numberUnder 5 = .ok (.bipush 40, 2) := by decide +kernel
theorem dX3_numberUnder_7 : decode cX3_numberUnder 7 = .ok (.if_icmp .ge 21, 3) := by decide +kernel
theorem dX3_numberUnder_10 : decode cX3_numberUnder 10 = .ok (.aload_n 0, 1) := by decide +kernel
theorem dX3_numberUnder_11 : decode cX3_numberUnder 11 = .ok (.iload_n 3, 1) := by decide +kernel
theorem dX3_numberUnder_12 : decode cX3_numberUnder 12 = .ok (.invokevirtual 59, 3) := by decide +kernel
theorem dX3_numberUnder_15 : decode cX3_numberUnder 15 = .ok (.iload_n 1, 1) := by decide +kernel
theorem dX3_numberUnder_16 : decode cX3_numberUnder 16 = .ok (.if_icmp .ne 6, 3) := by decide +kernel
theorem dX3_numberUnder_19 : decode cX3_numberUnder 19 = .ok (.iinc 2 1, 3) := by decide +kernel
theorem dX3_numberUnder_22 : decode cX3_numberUnder 22 = .ok (.iinc 3 1, 3) := by decide +kernel
theorem dX3_numberUnder_25 : decode cX3_numberUnder 25 = .ok (.goto (-21), 3) := by decide +kernel
theorem dX3_numberUnder_28 : decode cX3_numberUnder 28 = .ok (.iload_n 2, 1) := by decide +kernel
theorem dX3_numberUnder_29 : decode cX3_numberUnder 29 = .ok (.ireturn, 1) := by decide +kernel
theorem dX3_wealthUnder_0 : decode cX3_wealthUnder 0 = .ok (.iconst 0, 1) := by decide +kernel
theorem dX3_wealthUnder_1 : decode cX3_wealthUnder 1 = .ok (.istore_n 2, 1) := by decide +kernel
theorem dX3_wealthUnder_2 : decode cX3_wealthUnder 2 = .ok (.iconst 0, 1) := by decide +kernel
theorem dX3_wealthUnder_3 : decode cX3_wealthUnder 3 = .ok (.istore_n 3, 1) := by decide +kernel
theorem dX3_wealthUnder_4 : decode cX3_wealthUnder 4 = .ok (.iload_n 3, 1) := by decide +kernel
theorem dX3_wealthUnder_5 : decode cX3_wealthUnder 5 = .ok (.bipush 40, 2) := by decide +kernel
theorem dX3_wealthUnder_7 : decode cX3_wealthUnder 7 = .ok (.if_icmp .ge 27, 3) := by decide +kernel
theorem dX3_wealthUnder_10 : decode cX3_wealthUnder 10 = .ok (.aload_n 0, 1) := by decide +kernel
theorem dX3_wealthUnder_11 : decode cX3_wealthUnder 11 = .ok (.iload_n 3, 1) := by decide +kernel
theorem dX3_wealthUnder_12 : decode cX3_wealthUnder 12 = .ok (.invokevirtual 59, 3) := by decide +kernel
theorem dX3_wealthUnder_15 : decode cX3_wealthUnder 15 = .ok (.iload_n 1, 1) := by decide +kernel
theorem dX3_wealthUnder_16 : decode cX3_wealthUnder 16 = .ok (.if_icmp .ne 12, 3) := by decide +kernel
theorem dX3_wealthUnder_19 : decode cX3_wealthUnder 19 = .ok (.iload_n 2, 1) := by decide +kernel
theorem dX3_wealthUnder_20 : decode cX3_wealthUnder 20 = .ok (.aload_n 0, 1) := by decide +kernel
theorem dX3_wealthUnder_21 : decode cX3_wealthUnder 21 = .ok (.getfield 18, 3) := by decide +kernel
theorem dX3_wealthUnder_24 : decode cX3_wealthUnder 24 = .ok (.iload_n 3, 1) := by decide +kernel
theorem dX3_wealthUnder_25 : decode cX3_wealthUnder 25 = .ok (.iaload, 1) := by decide +kernel
theorem dX3_wealthUnder_26 : decode cX3_wealthUnder 26 = .ok (.iadd, 1) := by decide +kernel
theorem dX3_wealthUnder_27 : decode cX3_wealthUnder 27 = .ok (.istore_n 2, 1) := by decide +kernel
theorem dX3_wealthUnder_28 : decode cX3_wealthUnder 28 = .ok (.iinc 3 1, 3) := by decide +kernel
theorem dX3_wealthUnder_31 : decode cX3_wealthUnder 31 = .ok (.goto (-27), 3) := by decide +kernel
theorem dX3_wealthUnder_34 : decode cX3_wealthUnder 34 = .ok (.iload_n 2, 1) := by decide +kernel
theorem dX3_wealthUnder_35 : decode cX3_wealthUnder 35 = .ok (.ireturn, 1) := by decide +kernel
theorem dX3_poorestUnder_0 : decode cX3_poorestUnder 0 = .ok (.bipush (-9), 2) := by decide +kernel
theorem dX3_poorestUnder_2 : decode cX3_poorestUnder 2 = .ok (.istore 6, 2) := by decide +kernel
theorem dX3_poorestUnder_4 : decode cX3_poorestUnder 4 = .ok (.bipush 101, 2) := by decide +kernel
theorem dX3_poorestUnder_6 : decode cX3_poorestUnder 6 = .ok (.istore 7, 2) := by decide +kernel
theorem dX3_poorestUnder_8 : decode cX3_poorestUnder 8 = .ok (.iconst 0, 1) := by decide +kernel
theorem dX3_poorestUnder_9 : decode cX3_poorestUnder 9 = .ok (.istore 8, 2) := by decide +kernel
theorem dX3_poorestUnder_11 : decode cX3_poorestUnder 11 = .ok (.iload 8, 2) := by decide +kernel
theorem dX3_poorestUnder_13 : decode cX3_poorestUnder 13 = .ok (.bipush 40, 2) := by decide +kernel
theorem dX3_poorestUnder_15 : decode cX3_poorestUnder 15 = .ok (.if_icmp .ge 71, 3) := by decide +kernel
theorem dX3_poorestUnder_18 : decode cX3_poorestUnder 18 = .ok (.aload_n 0, 1) := by decide +kernel
theorem dX3_poorestUnder_19 : decode cX3_poorestUnder 19 = .ok (.iload 8, 2) := by decide +kernel
theorem dX3_poorestUnder_21 : decode cX3_poorestUnder 21 = .ok (.invokevirtual 59, 3) := by decide +kernel
theorem dX3_poorestUnder_24 : decode cX3_poorestUnder 24 = .ok (.iload_n 1, 1) := by decide +kernel
theorem dX3_poorestUnder_25 : decode cX3_poorestUnder 25 = .ok (.if_icmp .ne 22, 3) := by decide +kernel
theorem dX3_poorestUnder_28 : decode cX3_poorestUnder 28 = .ok (.aload_n 0, 1) := by decide +kernel
theorem dX3_poorestUnder_29 : decode cX3_poorestUnder 29 = .ok (.iload 8, 2) := by decide +kernel
theorem dX3_poorestUnder_31 : decode cX3_poorestUnder 31 = .ok (.iload_n 2, 1) := by decide +kernel
theorem dX3_poorestUnder_32 : decode cX3_poorestUnder 32 = .ok (.iload_n 3, 1) := by decide +kernel
theorem dX3_poorestUnder_33 : decode cX3_poorestUnder 33 = .ok (.iload 4, 2) := by decide +kernel
theorem dX3_poorestUnder_35 : decode cX3_poorestUnder 35 = .ok (.iload 5, 2) := by decide +kernel
theorem dX3_poorestUnder_37 : decode cX3_poorestUnder 37 = .ok (.invokevirtual 46, 3) := by decide +kernel
theorem dX3_poorestUnder_40 : decode cX3_poorestUnder 40 = .ok (.ifCond .eq 7, 3) := by decide +kernel
theorem dX3_poorestUnder_43 : decode cX3_poorestUnder 43 = .ok (.iconst 1, 1) := by decide +kernel
theorem dX3_poorestUnder_44 : decode cX3_poorestUnder 44 = .ok (.goto 4, 3) := by decide +kernel
theorem dX3_poorestUnder_47 : decode cX3_poorestUnder 47 = .ok (.iconst 0, 1) := by decide +kernel
theorem dX3_poorestUnder_48 : decode cX3_poorestUnder 48 = .ok (.istore 9, 2) := by decide +kernel
theorem dX3_poorestUnder_50 : decode cX3_poorestUnder 50 = .ok (.iload 9, 2) := by decide +kernel
theorem dX3_poorestUnder_52 : decode cX3_poorestUnder 52 = .ok (.ifCond .eq 28, 3) := by decide +kernel
theorem dX3_poorestUnder_55 : decode cX3_poorestUnder 55 = .ok (.aload_n 0, 1) := by decide +kernel
theorem dX3_poorestUnder_56 : decode cX3_poorestUnder 56 = .ok (.getfield 18, 3) := by decide +kernel
theorem dX3_poorestUnder_59 : decode cX3_poorestUnder 59 = .ok (.iload 8, 2) := by decide +kernel
theorem dX3_poorestUnder_61 : decode cX3_poorestUnder 61 = .ok (.iaload, 1) := by decide +kernel
theorem dX3_poorestUnder_62 : decode cX3_poorestUnder 62 = .ok (.iload 7, 2) := by decide +kernel
theorem dX3_poorestUnder_64 : decode cX3_poorestUnder 64 = .ok (.if_icmp .ge 16, 3) := by decide +kernel
theorem dX3_poorestUnder_67 : decode cX3_poorestUnder 67 = .ok (.iload 8, 2) := by decide +kernel
theorem dX3_poorestUnder_69 : decode cX3_poorestUnder 69 = .ok (.istore 6, 2) := by decide +kernel
theorem dX3_poorestUnder_71 : decode cX3_poorestUnder 71 = .ok (.aload_n 0, 1) := by decide +kernel
theorem dX3_poorestUnder_72 : decode cX3_poorestUnder 72 = .ok (.getfield 18, 3) := by decide +kernel
theorem dX3_poorestUnder_75 : decode cX3_poorestUnder 75 = .ok (.iload 8, 2) := by decide +kernel
theorem dX3_poorestUnder_77 : decode cX3_poorestUnder 77 = .ok (.iaload, 1) := by decide +kernel
theorem dX3_poorestUnder_78 : decode cX3_poorestUnder 78 = .ok (.istore 7, 2) := by decide +kernel
theorem dX3_poorestUnder_80 : decode cX3_poorestUnder 80 = .ok (.iinc 8 1, 3) := by decide +kernel
theorem dX3_poorestUnder_83 : decode cX3_poorestUnder 83 = .ok (.goto (-72), 3) := by decide +kernel
theorem dX3_poorestUnder_86 : decode cX3_poorestUnder 86 = .ok (.iload 6, 2) := by decide +kernel
theorem dX3_poorestUnder_88 : decode cX3_poorestUnder 88 = .ok (.ireturn, 1) := by decide +kernel
theorem dX3_changeLord_0 : decode cX3_changeLord 0 = .ok (.iconst 0, 1) := by decide +kernel
theorem dX3_changeLord_1 : decode cX3_changeLord 1 = .ok (.istore 7, 2) := by decide +kernel
theorem dX3_changeLord_3 : decode cX3_changeLord 3 = .ok (.iload 7, 2) := by decide +kernel
theorem dX3_changeLord_5 : decode cX3_changeLord 5 = .ok (.bipush 40, 2) := by decide +kernel
theorem dX3_changeLord_7 : decode cX3_changeLord 7 = .ok (.if_icmp .ge 44, 3) := by decide +kernel
theorem dX3_changeLord_10 : decode cX3_changeLord 10 = .ok (.aload_n 0, 1) := by decide +kernel
theorem dX3_changeLord_11 : decode cX3_changeLord 11 = .ok (.iload 7, 2) := by decide +kernel
theorem dX3_changeLord_13 : decode cX3_changeLord 13 = .ok (.iload_n 3, 1) := by decide +kernel
theorem dX3_changeLord_14 : decode cX3_changeLord 14 = .ok (.iload 4, 2) := by decide +kernel
theorem dX3_changeLord_16 : decode cX3_changeLord 16 = .ok (.iload 5, 2) := by decide +kernel
theorem dX3_changeLord_18 : decode cX3_changeLord 18 = .ok (.iload 6, 2) := by decide +kernel
theorem dX3_changeLord_20 : decode cX3_changeLord 20 = .ok (.invokevirtual 46, 3) := by decide +kernel
theorem dX3_changeLord_23 : decode cX3_changeLord 23 = .ok (.ifCond .eq 22, 3) := by decide +kernel
theorem dX3_changeLord_26 : decode cX3_changeLord 26 = .ok (.aload_n 0, 1) := by decide +kernel
theorem dX3_changeLord_27 : decode cX3_changeLord 27 = .ok (.getfield 21, 3) := by decide +kernel
theorem dX3_changeLord_30 : decode cX3_changeLord 30 = .ok (.iload 7, 2) := by decide +kernel
theorem dX3_changeLord_32 : decode cX3_changeLord 32 = .ok (.iaload, 1) := by decide +kernel
theorem dX3_changeLord_33 : decode cX3_changeLord 33 = .ok (.iload_n 1, 1) := by decide +kernel
theorem dX3_changeLord_34 : decode cX3_changeLord 34 = .ok (.if_icmp .ne 11, 3) := by decide +kernel
theorem dX3_changeLord_37 : decode cX3_changeLord 37 = .ok (.aload_n 0, 1) := by decide +kernel
theorem dX3_changeLord_38 : decode cX3_changeLord 38 = .ok (.getfield 21, 3) := by decide +kernel
theorem dX3_changeLord_41 : decode cX3_changeLord 41 = .ok (.iload 7, 2) := by decide +kernel
theorem dX3_changeLord_43 : decode cX3_changeLord 43 = .ok (.iload_n 2, 1) := by decide +kernel
theorem dX3_changeLord_44 : decode cX3_changeLord 44 = .ok (.iastore, 1) := by decide +kernel
theorem dX3_changeLord_45 : decode cX3_changeLord 45 = .ok (.iinc 7 1, 3) := by decide +kernel
theorem dX3_changeLord_48 : decode cX3_changeLord 48 = .ok (.goto (-45), 3) := by decide +kernel
theorem dX3_changeLord_51 : decode cX3_changeLord 51 = .ok (.return_, 1) := by decide +kernel
theorem dX3_cellsIfDivided_0 : decode cX3_cellsIfDivided 0 = .ok (.iconst 1, 1) := by decide +kernel
theorem dX3_cellsIfDivided_1 : decode cX3_cellsIfDivided 1 = .ok (.istore_n 2, 1) := by decide +kernel
theorem dX3_cellsIfDivided_2 : decode cX3_cellsIfDivided 2 = .ok (.iconst 0, 1) := by decide +kernel
theorem dX3_cellsIfDivided_3 : decode cX3_cellsIfDivided 3 = .ok (.istore_n 3, 1) := by decide +kernel
theorem dX3_cellsIfDivided_4 : decode cX3_cellsIfDivided 4 = .ok (.iload_n 3, 1) := by decide +kernel
theorem dX3_cellsIfDivided_5 : decode cX3_cellsIfDivided 5 = .ok (.iconst 4, 1) := by decide +kernel
theorem dX3_cellsIfDivided_6 : decode cX3_cellsIfDivided 6 = .ok (.if_icmp .ge 20, 3) := by decide +kernel
theorem dX3_cellsIfDivided_9 : decode cX3_cellsIfDivided 9 = .ok (.iload_n 2, 1) := by decide +kernel
theorem dX3_cellsIfDivided_10 : decode cX3_cellsIfDivided 10 = .ok (.iconst 3, 1) := by decide +kernel
theorem dX3_cellsIfDivided_11 : decode cX3_cellsIfDivided 11 = .ok (.aload_n 0, 1) := by decide +kernel
theorem dX3_cellsIfDivided_12 : decode cX3_cellsIfDivided 12 = .ok (.iload_n 3, 1) := by decide +kernel
theorem dX3_cellsIfDivided_13 : decode cX3_cellsIfDivided 13 = .ok (.iload_n 1, 1) := by decide +kernel
theorem dX3_cellsIfDivided_14 : decode cX3_cellsIfDivided 14 = .ok (.invokevirtual 62, 3) := by decide +kernel
theorem dX3_cellsIfDivided_17 : decode cX3_cellsIfDivided 17 = .ok (.imul, 1) := by decide +kernel
theorem dX3_cellsIfDivided_18 : decode cX3_cellsIfDivided 18 = .ok (.iadd, 1) := by decide +kernel
theorem dX3_cellsIfDivided_19 : decode cX3_cellsIfDivided 19 = .ok (.istore_n 2, 1) := by decide +kernel
theorem dX3_cellsIfDivided_20 : decode cX3_cellsIfDivided 20 = .ok (.iinc 3 1, 3) := by decide +kernel
theorem dX3_cellsIfDivided_23 : decode cX3_cellsIfDivided 23 = .ok (.goto (-19), 3) := by decide +kernel
theorem dX3_cellsIfDivided_26 : decode cX3_cellsIfDivided 26 = .ok (.iload_n 2, 1) := by decide +kernel
theorem dX3_cellsIfDivided_27 : decode cX3_cellsIfDivided 27 = .ok (.ireturn, 1) := by decide +kernel
theorem dX3_crowdedCells_0 : decode cX3_crowdedCells 0 = .ok (.iload_n 1, 1) := by decide +kernel
theorem dX3_crowdedCells_1 : decode cX3_crowdedCells 1 = .ok (.invokestatic 66, 3) := by decide +kernel
theorem dX3_crowdedCells_4 : decode cX3_crowdedCells 4 = .ok (.istore_n 3, 1) := by decide +kernel
theorem dX3_crowdedCells_5 : decode cX3_crowdedCells 5 = .ok (.iconst 0, 1) := by decide +kernel
theorem dX3_crowdedCells_6 : decode cX3_crowdedCells 6 = .ok (.istore 4, 2) := by decide +kernel
theorem dX3_crowdedCells_8 : decode cX3_crowdedCells 8 = .ok (.iconst 0, 1) := by decide +kernel
theorem dX3_crowdedCells_9 : decode cX3_crowdedCells 9 = .ok (.istore 5, 2) := by decide +kernel
theorem dX3_crowdedCells_11 : decode cX3_crowdedCells 11 = .ok (.iload 5, 2) := by decide +kernel
theorem dX3_crowdedCells_13 : decode cX3_crowdedCells 13 = .ok (.iconst 1, 1) := by decide +kernel
theorem dX3_crowdedCells_14 : decode cX3_crowdedCells 14 = .ok (.iload_n 1, 1) := by decide +kernel
theorem dX3_crowdedCells_15 : decode cX3_crowdedCells 15 = .ok (.ishl, 1) := by decide +kernel
theorem dX3_crowdedCells_16 : decode cX3_crowdedCells 16 = .ok (.if_icmp .ge 65, 3) := by decide +kernel
theorem dX3_crowdedCells_19 : decode cX3_crowdedCells 19 = .ok (.iconst 0, 1) := by decide +kernel
theorem dX3_crowdedCells_20 : decode cX3_crowdedCells 20 = .ok (.istore 6, 2) := by decide +kernel
theorem dX3_crowdedCells_22 : decode cX3_crowdedCells 22 = .ok (.iload 6, 2) := by decide +kernel
theorem dX3_crowdedCells_24 : decode cX3_crowdedCells 24 = .ok (.iconst 1, 1) := by decide +kernel
theorem dX3_crowdedCells_25 : decode cX3_crowdedCells 25 = .ok (.iload_n 1, 1) := by decide +kernel
theorem dX3_crowdedCells_26 : decode cX3_crowdedCells 26 = .ok (.ishl, 1) := by decide +kernel
theorem dX3_crowdedCells_27 : decode cX3_crowdedCells 27 = .ok (.if_icmp .ge 48, 3) := by decide +kernel
theorem dX3_crowdedCells_30 : decode cX3_crowdedCells 30 = .ok (.iload 6, 2) := by decide +kernel
theorem dX3_crowdedCells_32 : decode cX3_crowdedCells 32 = .ok (.iload_n 3, 1) := by decide +kernel
theorem dX3_crowdedCells_33 : decode cX3_crowdedCells 33 = .ok (.imul, 1) := by decide +kernel
theorem dX3_crowdedCells_34 : decode cX3_crowdedCells 34 = .ok (.istore 7, 2) := by decide +kernel
theorem dX3_crowdedCells_36 : decode cX3_crowdedCells 36 = .ok (.iload 5, 2) := by decide +kernel
theorem dX3_crowdedCells_38 : decode cX3_crowdedCells 38 = .ok (.iload_n 3, 1) := by decide +kernel
theorem dX3_crowdedCells_39 : decode cX3_crowdedCells 39 = .ok (.imul, 1) := by decide +kernel
theorem dX3_crowdedCells_40 : decode cX3_crowdedCells 40 = .ok (.istore 8, 2) := by decide +kernel
theorem dX3_crowdedCells_42 : decode cX3_crowdedCells 42 = .ok (.aload_n 0, 1) := by decide +kernel
theorem dX3_crowdedCells_43 : decode cX3_crowdedCells 43 = .ok (.iload 7, 2) := by decide +kernel
theorem dX3_crowdedCells_45 : decode cX3_crowdedCells 45 = .ok (.iload 8, 2) := by decide +kernel
theorem dX3_crowdedCells_47 : decode cX3_crowdedCells 47 = .ok (.iload 7, 2) := by decide +kernel
theorem dX3_crowdedCells_49 : decode cX3_crowdedCells 49 = .ok (.iload_n 3, 1) := by decide +kernel
theorem dX3_crowdedCells_50 : decode cX3_crowdedCells 50 = .ok (.iadd, 1) := by decide +kernel
theorem dX3_crowdedCells_51 : decode cX3_crowdedCells 51 = .ok (.iconst 1, 1) := by decide +kernel
theorem dX3_crowdedCells_52 : decode cX3_crowdedCells 52 = .ok (.isub, 1) := by decide +kernel
theorem dX3_crowdedCells_53 : decode cX3_crowdedCells 53 = .ok (.iload 8, 2) := by decide +kernel
theorem dX3_crowdedCells_55 : decode cX3_crowdedCells 55 = .ok (.iload_n 3, 1) := by decide +kernel
theorem dX3_crowdedCells_56 : decode cX3_crowdedCells 56 = .ok (.iadd, 1) := by decide +kernel
theorem dX3_crowdedCells_57 : decode cX3_crowdedCells 57 = .ok (.iconst 1, 1) := by decide +kernel
theorem dX3_crowdedCells_58 : decode cX3_crowdedCells 58 = .ok (.isub, 1) := by decide +kernel
theorem dX3_crowdedCells_59 : decode cX3_crowdedCells 59 = .ok (.invokevirtual 42, 3) := by decide +kernel
theorem dX3_crowdedCells_62 : decode cX3_crowdedCells 62 = .ok (.iload_n 2, 1) := by decide +kernel
theorem dX3_crowdedCells_63 : decode cX3_crowdedCells 63 = .ok (.if_icmp .le 6, 3) := by decide +kernel
theorem dX3_crowdedCells_66 : decode cX3_crowdedCells 66 = .ok (.iinc 4 1, 3) := by decide +kernel
theorem dX3_crowdedCells_69 : decode cX3_crowdedCells 69 = .ok (.iinc 6 1, 3) := by decide +kernel
theorem dX3_crowdedCells_72 : decode cX3_crowdedCells 72 = .ok (.goto (-50), 3) := by decide +kernel
theorem dX3_crowdedCells_75 : decode cX3_crowdedCells 75 = .ok (.iinc 5 1, 3) := by decide +kernel
theorem dX3_crowdedCells_78 : decode cX3_crowdedCells 78 = .ok (.goto (-67), 3) := by decide +kernel
theorem dX3_crowdedCells_81 : decode cX3_crowdedCells 81 = .ok (.iload 4, 2) := by decide +kernel
theorem dX3_crowdedCells_83 : decode cX3_crowdedCells 83 = .ok (.ireturn, 1) := by decide +kernel
theorem dX4_init_0 : decode cX4_init 0 = .ok (.aload_n 0, 1) := by decide +kernel
theorem dX4_init_1 : decode cX4_init 1 = .ok (.invokespecial 3, 3) := by decide +kernel
theorem dX4_init_4 : decode cX4_init 4 = .ok (.aload_n 0, 1) := by decide +kernel
theorem dX4_init_5 : decode cX4_init 5 = .ok (.iconst 4, 1) := by decide +kernel
theorem dX4_init_6 : decode cX4_init 6 = .ok (.putfield 9, 3) := by decide +kernel
theorem dX4_init_9 : decode cX4_init 9 = .ok (.aload_n 0, 1) := by decide +kernel
theorem dX4_init_10 : decode cX4_init 10 = .ok (.iconst 3, 1) := by decide +kernel
theorem dX4_init_11 : decode cX4_init 11 = .ok (.putfield 15, 3) := by decide +kernel
theorem dX4_init_14 : decode cX4_init 14 = .ok (.aload_n 0, 1) := by decide +kernel
theorem dX4_init_15 : decode cX4_init 15 = .ok (.new 18, 3) := by decide +kernel
theorem dX4_init_18 : decode cX4_init 18 = .ok (.dup, 1) := by decide +kernel
theorem dX4_init_19 : decode cX4_init 19 = .ok (.invokespecial 20, 3) := by decide +kernel
theorem dX4_init_22 : decode cX4_init 22 = .ok (.putfield 21, 3) := by decide +kernel
theorem dX4_init_25 : decode cX4_init 25 = .ok (.aload_n 0, 1) := by decide +kernel
theorem dX4_init_26 : decode cX4_init 26 = .ok (.new 25, 3) := by decide +kernel
theorem dX4_init_29 : decode cX4_init 29 = .ok (.dup, 1) := by decide +kernel
theorem dX4_init_30 : decode cX4_init 30 = .ok (.invokespecial 27, 3) := by decide +kernel
theorem dX4_init_33 : decode cX4_init 33 = .ok (.putfield 28, 3) := by decide +kernel
theorem dX4_init_36 : decode cX4_init 36 = .ok (.aload_n 0, 1) := by decide +kernel
theorem dX4_init_37 : decode cX4_init 37 = .ok (.new 32, 3) := by decide +kernel
theorem dX4_init_40 : decode cX4_init 40 = .ok (.dup, 1) := by decide +kernel
theorem dX4_init_41 : decode cX4_init 41 = .ok (.invokespecial 34, 3) := by decide +kernel
theorem dX4_init_44 : decode cX4_init 44 = .ok (.putfield 35, 3) := by decide +kernel
theorem dX4_init_47 : decode cX4_init 47 = .ok (.return_, 1) := by decide +kernel
theorem dX4_copyFrom_0 : decode cX4_copyFrom 0 = .ok (.aload_n 0, 1) := by decide +kernel
theorem dX4_copyFrom_1 : decode cX4_copyFrom 1 = .ok (.aload_n 1, 1) := by decide +kernel
theorem dX4_copyFrom_2 : decode cX4_copyFrom 2 = .ok (.getfield 9, 3) := by decide +kernel
theorem dX4_copyFrom_5 : decode cX4_copyFrom 5 = .ok (.putfield 9, 3) := by decide +kernel
theorem dX4_copyFrom_8 : decode cX4_copyFrom 8 = .ok (.aload_n 0, 1) := by decide +kernel
theorem dX4_copyFrom_9 : decode cX4_copyFrom 9 = .ok (.aload_n 1, 1) := by decide +kernel
theorem dX4_copyFrom_10 : decode cX4_copyFrom 10 = .ok (.getfield 15, 3) := by decide +kernel
theorem dX4_copyFrom_13 : decode cX4_copyFrom 13 = .ok (.putfield 15, 3) := by decide +kernel
theorem dX4_copyFrom_16 : decode cX4_copyFrom 16 = .ok (.aload_n 0, 1) := by decide +kernel
theorem dX4_copyFrom_17 : decode cX4_copyFrom 17 = .ok (.getfield 21, 3) := by decide +kernel
theorem dX4_copyFrom_20 : decode cX4_copyFrom 20 = .ok (.aload_n 1, 1) := by decide +kernel
theorem dX4_copyFrom_21 : decode cX4_copyFrom 21 = .ok (.getfield 21, 3) := by decide +kernel
theorem dX4_copyFrom_24 : decode cX4_copyFrom 24 = .ok (.invokevirtual 39, 3) := by decide +kernel
theorem dX4_copyFrom_27 : decode cX4_copyFrom 27 = .ok (.aload_n 0, 1) := by decide +kernel
theorem dX4_copyFrom_28 : decode cX4_copyFrom 28 = .ok (.getfield 28, 3) := by decide +kernel
theorem dX4_copyFrom_31 : decode cX4_copyFrom 31 = .ok (.aload_n 1, 1) := by decide +kernel
theorem dX4_copyFrom_32 : decode cX4_copyFrom 32 = .ok (.getfield 28, 3) := by decide +kernel
theorem dX4_copyFrom_35 : decode cX4_copyFrom 35 = .ok (.invokevirtual 43, 3) := by decide +kernel
theorem dX4_copyFrom_38 : decode cX4_copyFrom 38 = .ok (.aload_n 0, 1) := by decide +kernel
theorem dX4_copyFrom_39 : decode cX4_copyFrom 39 = .ok (.getfield 35, 3) := by decide +kernel
theorem dX4_copyFrom_42 : decode cX4_copyFrom 42 = .ok (.aload_n 1, 1) := by decide +kernel
theorem dX4_copyFrom_43 : decode cX4_copyFrom 43 = .ok (.getfield 35, 3) := by decide +kernel
theorem dX4_copyFrom_46 : decode cX4_copyFrom 46 = .ok (.invokevirtual 46, 3) := by decide +kernel
theorem dX4_copyFrom_49 : decode cX4_copyFrom 49 = .ok (.return_, 1) := by decide +kernel
theorem dX4_addPoint_0 : decode cX4_addPoint 0 = .ok (.aload_n 0, 1) := by decide +kernel
theorem dX4_addPoint_1 : decode cX4_addPoint 1 = .ok (.getfield 21, 3) := by decide +kernel
theorem dX4_addPoint_4 : decode cX4_addPoint 4 = .ok (.iload_n 1, 1) := by decide +kernel
theorem dX4_addPoint_5 : decode cX4_addPoint 5 = .ok (.iload_n 2, 1) := by decide +kernel
theorem dX4_addPoint_6 : decode cX4_addPoint 6 = .ok (.iload_n 3, 1) := by decide +kernel
theorem dX4_addPoint_7 : decode cX4_addPoint 7 = .ok (.aload_n 0, 1) := by decide +kernel
theorem dX4_addPoint_8 : decode cX4_addPoint 8 = .ok (.getfield 28, 3) := by decide +kernel
theorem dX4_addPoint_11 : decode cX4_addPoint 11 = .ok (.iload_n 1, 1) := by decide +kernel
theorem dX4_addPoint_12 : decode cX4_addPoint 12 = .ok (.iload_n 2, 1) := by decide +kernel
theorem dX4_addPoint_13 : decode cX4_addPoint 13 = .ok (.invokevirtual 49, 3) := by decide +kernel
theorem dX4_addPoint_16 : decode cX4_addPoint 16 = .ok (.invokevirtual 53, 3) := by decide +kernel
theorem dX4_addPoint_19 : decode cX4_addPoint 19 = .ok (.ireturn, 1) := by decide +kernel
theorem dX4_movePoint_0 : decode cX4_movePoint 0 = .ok (.aload_n 0, 1) := by decide +kernel
theorem dX4_movePoint_1 : decode cX4_movePoint 1 = .ok (.getfield 21, 3) := by decide +kernel
theorem dX4_movePoint_4 : decode cX4_movePoint 4 = .ok (.iload_n 1, 1) := by decide +kernel
theorem dX4_movePoint_5 : decode cX4_movePoint 5 = .ok (.invokevirtual 57, 3) := by decide +kernel
theorem dX4_movePoint_8 : decode cX4_movePoint 8 = .ok (.istore 4, 2) := by decide +kernel
theorem dX4_movePoint_10 : decode cX4_movePoint 10 = .ok (.iload 4, 2) := by decide +kernel
theorem dX4_movePoint_12 : decode cX4_movePoint 12 = .ok (.aload_n 0, 1) := by decide +kernel
theorem dX4_movePoint_13 : decode cX4_movePoint 13 = .ok (.iload_n 1, 1) := by decide +kernel
theorem dX4_movePoint_14 : decode cX4_movePoint 14 = .ok (.invokevirtual 61, 3) := by decide +kernel
theorem dX4_movePoint_17 : decode cX4_movePoint 17 = .ok (.if_icmp .ne 7, 3) := by decide +kernel
theorem dX4_movePoint_20 : decode cX4_movePoint 20 = .ok (.iconst 1, 1) := by decide +kernel
theorem dX4_movePoint_21 : decode cX4_movePoint 21 = .ok (.goto 4, 3) := by decide +kernel
theorem dX4_movePoint_24 : decode cX4_movePoint 24 = .ok (.iconst 0, 1) := by decide +kernel
theorem dX4_movePoint_25 : decode cX4_movePoint 25 = .ok (.istore 5, 2) := by decide +kernel
theorem dX4_movePoint_27 : decode cX4_movePoint 27 = .ok (.aload_n 0, 1) := by decide +kernel
theorem dX4_movePoint_28 : decode cX4_movePoint 28 = .ok (.getfield 21, 3) := by decide +kernel
theorem dX4_movePoint_31 : decode cX4_movePoint 31 = .ok (.iload_n 1, 1) := by decide +kernel
theorem dX4_movePoint_32 : decode cX4_movePoint 32 = .ok (.iload_n 2, 1) := by decide +kernel
theorem dX4_movePoint_33 : decode cX4_movePoint 33 = .ok (.iload_n 3, 1) := by decide +kernel
theorem dX4_movePoint_34 : decode cX4_movePoint 34 = .ok (.invokevirtual 64, 3) := by decide +kernel
theorem dX4_movePoint_37 : decode cX4_movePoint 37 = .ok (.iload 5, 2) := by decide +kernel
theorem dX4_movePoint_39 : decode cX4_movePoint 39 = .ok (.ifCond .eq 16, 3) := by decide +kernel
theorem dX4_movePoint_42 : decode cX4_movePoint 42 = .ok (.aload_n 0, 1) := by decide +kernel
theorem dX4_movePoint_43 : decode cX4_movePoint 43 = .ok (.getfield 21, 3) := by decide +kernel
theorem dX4_movePoint_46 : decode cX4_movePoint 46 = .ok (.iload_n 1, 1) := by decide +kernel
theorem dX4_movePoint_47 : decode cX4_movePoint 47 = .ok (.aload_n 0, 1) := by decide +kernel
theorem dX4_movePoint_48 : decode cX4_movePoint 48 = .ok (.iload_n 1, 1) := by decide +kernel
theorem dX4_movePoint_49 : decode cX4_movePoint 49 = .ok (.invokevirtual 61, 3) := by decide +kernel
theorem dX4_movePoint_52 : decode cX4_movePoint 52 = .ok (.invokevirtual 68, 3) := by decide +kernel
theorem dX4_movePoint_55 : decode cX4_movePoint 55 = .ok (.aload_n 0, 1) := by decide +kernel
theorem dX4_movePoint_56 : decode cX4_movePoint 56 = .ok (.getfield 21, 3) := by decide +kernel
theorem dX4_movePoint_59 : decode cX4_movePoint 59 = .ok (.iload_n 1, 1) := by decide +kernel
theorem dX4_movePoint_60 : decode cX4_movePoint 60 = .ok (.invokevirtual 57, 3) := by decide +kernel
theorem dX4_movePoint_63 : decode cX4_movePoint 63 = .ok (.iload 4, 2) := by decide +kernel
theorem dX4_movePoint_65 : decode cX4_movePoint 65 = .ok (.if_icmp .eq 7, 3) := by decide +kernel
theorem dX4_movePoint_68 : decode cX4_movePoint 68 = .ok (.iconst 1, 1) := by decide +kernel
theorem dX4_movePoint_69 : decode cX4_movePoint 69 = .ok (.goto 4, 3) := by decide +kernel
theorem dX4_movePoint_72 : decode cX4_movePoint 72 = .ok (.iconst 0, 1) := by decide +kernel
theorem dX4_movePoint_73 : decode cX4_movePoint 73 = .ok (.ireturn, 1) := by decide +kernel
theorem dX4_parishAround_0 : decode cX4_parishAround 0 = .ok (.aload_n 0, 1) := by decide +kernel
theorem dX4_parishAround_1 : decode cX4_parishAround 1 = .ok (.getfield 28, 3) := by decide +kernel
theorem dX4_parishAround_4 : decode cX4_parishAround 4 = .ok (.aload_n 0, 1) := by decide +kernel
theorem dX4_parishAround_5 : decode cX4_parishAround 5 = .ok (.getfield 21, 3) := by decide +kernel
theorem dX4_parishAround_8 : decode cX4_parishAround 8 = .ok (.iload_n 1, 1) := by decide +kernel
theorem dX4_parishAround_9 : decode cX4_parishAround 9 = .ok (.invokevirtual 72, 3) := by decide +kernel
theorem dX4_parishAround_12 : decode cX4_parishAround 12 = .ok (.aload_n 0, 1) := by decide +kernel
theorem dX4_parishAround_13 : decode cX4_parishAround 13 = .ok (.getfield 21, 3) := by decide +kernel
theorem dX4_parishAround_16 : decode cX4_parishAround 16 = .ok (.iload_n 1, 1) := by decide +kernel
theorem dX4_parishAround_17 : decode cX4_parishAround 17 = .ok (.invokevirtual 75, 3) := by decide +kernel
theorem dX4_parishAround_20 : decode cX4_parishAround 20 = .ok (.invokevirtual 49, 3) := by decide +kernel
theorem dX4_parishAround_23 : decode cX4_parishAround 23 = .ok (.ireturn, 1) := by decide +kernel
theorem dX4_pointsIn_0 : decode cX4_pointsIn 0 = .ok (.aload_n 0, 1) := by decide +kernel
theorem dX4_pointsIn_1 : decode cX4_pointsIn 1 = .ok (.getfield 21, 3) := by decide +kernel
theorem dX4_pointsIn_4 : decode cX4_pointsIn 4 = .ok (.aload_n 0, 1) := by decide +kernel
theorem dX4_pointsIn_5 : decode cX4_pointsIn 5 = .ok (.getfield 28, 3) := by decide +kernel
theorem dX4_pointsIn_8 : decode cX4_pointsIn 8 = .ok (.iload_n 1, 1) := by decide +kernel
theorem dX4_pointsIn_9 : decode cX4_pointsIn 9 = .ok (.invokevirtual 78, 3) := by decide +kernel
theorem dX4_pointsIn_12 : decode cX4_pointsIn 12 = .ok (.aload_n 0, 1) := by decide +kernel
theorem dX4_pointsIn_13 : decode cX4_pointsIn 13 = .ok (.getfield 28, 3) := by decide +kernel
theorem dX4_pointsIn_16 : decode cX4_pointsIn 16 = .ok (.iload_n 1, 1) := by decide +kernel
theorem dX4_pointsIn_17 : decode cX4_pointsIn 17 = .ok (.invokevirtual 81, 3) := by decide +kernel
theorem dX4_pointsIn_20 : decode cX4_pointsIn 20 = .ok (.aload_n 0, 1) := by decide +kernel
theorem dX4_pointsIn_21 : decode cX4_pointsIn 21 = .ok (.getfield 28, 3) := by decide +kernel
theorem dX4_pointsIn_24 : decode cX4_pointsIn 24 = .ok (.iload_n 1, 1) := by decide +kernel
theorem dX4_pointsIn_25 : decode cX4_pointsIn 25 = .ok (.invokevirtual 84, 3) := by decide +kernel
theorem dX4_pointsIn_28 : decode cX4_pointsIn 28 = .ok (.aload_n 0, 1) := by decide +kernel
theorem dX4_pointsIn_29 : decode cX4_pointsIn 29 = .ok (.getfield 28, 3) := by decide +kernel
theorem dX4_pointsIn_32 : decode cX4_pointsIn 32 = .ok (.iload_n 1, 1) := by decide +kernel
theorem dX4_pointsIn_33 : decode cX4_pointsIn 33 = .ok (.invokevirtual 87, 3) := by decide +kernel
theorem dX4_pointsIn_36 : decode cX4_pointsIn 36 = .ok (.invokevirtual 90, 3) := by decide +kernel
theorem dX4_pointsIn_39 : decode cX4_pointsIn 39 = .ok (.ireturn, 1) := by decide +kernel
theorem dX4_pointsWithLordElsewhere_0 : decode cX4_pointsWithLordElsewhere 0 = .ok (.iconst 0, 1) := by decide +kernel
theorem dX4_pointsWithLordElsewhere_1 : decode cX4_pointsWithLordElsewhere 1 = .ok (.istore_n 1, 1) := by decide +kernel
theorem dX4_pointsWithLordElsewhere_2 : decode cX4_pointsWithLordElsewhere 2 = .ok (.iconst 0, 1) := by decide +kernel
theorem dX4_pointsWithLordElsewhere_3 : decode cX4_pointsWithLordElsewhere 3 = .ok (.istore_n 2, 1) := by decide +kernel
theorem dX4_pointsWithLordElsewhere_4 : decode cX4_pointsWithLordElsewhere 4 = .ok (.iload_n 2, 1) := by decide +kernel
theorem dX4_pointsWithLordElsewhere_5 : decode cX4_pointsWithLordElsewhere 5 = .ok (.bipush 40, 2) := by decide +kernel
theorem dX4_pointsWithLordElsewhere_7 : decode cX4_pointsWithLordElsewhere 7 = .ok (.if_icmp .ge 39, 3) := by decide +kernel
theorem dX4_pointsWithLordElsewhere_10 : decode cX4_pointsWithLordElsewhere 10 = .ok (.aload_n 0, 1) := by decide +kernel
theorem dX4_pointsWithLordElsewhere_11 : decode cX4_pointsWithLordElsewhere 11 = .ok (.getfield 21, 3) := by decide +kernel
theorem dX4_pointsWithLordElsewhere_14 : decode cX4_pointsWithLordElsewhere 14 = .ok (.iload_n 2, 1) := by decide +kernel
theorem dX4_pointsWithLordElsewhere_15 : decode cX4_pointsWithLordElsewhere 15 = .ok (.invokevirtual 93, 3) := by decide +kernel
theorem dX4_pointsWithLordElsewhere_18 : decode cX4_pointsWithLordElsewhere 18 = .ok (.ifCond .eq 22, 3) := by decide +kernel
theorem dX4_pointsWithLordElsewhere_21 : decode cX4_pointsWithLordElsewhere 21 = .ok (.aload_n 0, 1) := by decide +kernel
theorem dX4_pointsWithLordElsewhere_22 : decode cX4_pointsWithLordElsewhere 22 = .ok (.getfield 21, 3) := by decide +kernel
theorem dX4_pointsWithLordElsewhere_25 : decode cX4_pointsWithLordElsewhere 25 = .ok (.iload_n 2, 1) := by decide +kernel
theorem dX4_pointsWithLordElsewhere_26 : decode cX4_pointsWithLordElsewhere 26 = .ok (.invokevirtual 57, 3) := by decide +kernel
theorem dX4_pointsWithLordElsewhere_29 : decode cX4_pointsWithLordElsewhere 29 = .ok (.aload_n 0, 1) := by decide +kernel
theorem dX4_pointsWithLordElsewhere_30 : decode cX4_pointsWithLordElsewhere 30 = .ok (.iload_n 2, 1) := by decide +kernel
theorem dX4_pointsWithLordElsewhere_31 : decode cX4_pointsWithLordElsewhere 31 = .ok (.invokevirtual 61, 3) := by decide +kernel
theorem dX4_pointsWithLordElsewhere_34 : decode cX4_pointsWithLordElsewhere 34 = .ok (.if_icmp .eq 6, 3) := by decide +kernel
theorem dX4_pointsWithLordElsewhere_37 : decode cX4_pointsWithLordElsewhere 37 = .ok (.iinc 1 1, 3) := by decide +kernel
theorem dX4_pointsWithLordElsewhere_40 : decode cX4_pointsWithLordElsewhere 40 = .ok (.iinc 2 1, 3) := by decide +kernel
theorem dX4_pointsWithLordElsewhere_43 : decode cX4_pointsWithLordElsewhere 43 = .ok (.goto (-39), 3) := by decide +kernel
theorem dX4_pointsWithLordElsewhere_46 : decode cX4_pointsWithLordElsewhere 46 = .ok (.iload_n 1, 1) := by decide +kernel
theorem dX4_pointsWithLordElsewhere_47 : decode cX4_pointsWithLordElsewhere 47 = .ok (.ireturn, 1) := by decide +kernel
theorem dX4_splitCrowded_0 : decode cX4_splitCrowded 0 = .ok (.iconst 0, 1) := by decide +kernel
theorem dX4_splitCrowded_1 : decode cX4_splitCrowded 1 = .ok (.istore_n 1, 1) := by decide +kernel
theorem dX4_splitCrowded_2 : decode cX4_splitCrowded 2 = .ok (.iload_n 1, 1) := by decide +kernel
theorem dX4_splitCrowded_3 : decode cX4_splitCrowded 3 = .ok (.bipush 40, 2) := by decide +kernel
theorem dX4_splitCrowded_5 : decode cX4_splitCrowded 5 = .ok (.if_icmp .ge 26, 3) := by decide +kernel
theorem dX4_splitCrowded_8 : decode cX4_splitCrowded 8 = .ok (.aload_n 0, 1) := by decide +kernel
theorem dX4_splitCrowded_9 : decode cX4_splitCrowded 9 = .ok (.invokevirtual 97, 3) := by decide +kernel
theorem dX4_splitCrowded_12 : decode cX4_splitCrowded 12 = .ok (.istore_n 2, 1) := by decide +kernel
theorem dX4_splitCrowded_13 : decode cX4_splitCrowded 13 = .ok (.iload_n 2, 1) := by decide +kernel
theorem dX4_splitCrowded_14 : decode cX4_splitCrowded 14 = .ok (.bipush (-9), 2) := by decide +kernel
theorem dX4_splitCrowded_16 : decode cX4_splitCrowded 16 = .ok (.if_icmp .ne 4, 3) := by decide +kernel
theorem dX4_splitCrowded_19 : decode cX4_splitCrowded 19 = .ok (.return_, 1) := by decide +kernel
theorem dX4_splitCrowded_20 : decode cX4_splitCrowded 20 = .ok (.aload_n 0, 1) := by decide +kernel
theorem dX4_splitCrowded_21 : decode cX4_splitCrowded 21 = .ok (.iload_n 2, 1) := by decide +kernel
theorem dX4_splitCrowded_22 : decode cX4_splitCrowded 22 = .ok (.invokevirtual 101, 3) := by decide +kernel
theorem dX4_splitCrowded_25 : decode cX4_splitCrowded 25 = .ok (.iinc 1 1, 3) := by decide +kernel
theorem dX4_splitCrowded_28 : decode cX4_splitCrowded 28 = .ok (.goto (-26), 3) := by decide +kernel
theorem dX4_splitCrowded_31 : decode cX4_splitCrowded 31 = .ok (.return_, 1) := by decide +kernel
theorem dX4_firstToSplit_0 : decode cX4_firstToSplit 0 = .ok (.aload_n 0, 1) := by decide +kernel
theorem dX4_firstToSplit_1 : decode cX4_firstToSplit 1 = .ok (.getfield 28, 3) := by decide +kernel
theorem dX4_firstToSplit_4 : decode cX4_firstToSplit 4 = .ok (.invokevirtual 105, 3) := by decide +kernel
theorem dX4_firstToSplit_7 : decode cX4_firstToSplit 7 = .ok (.bipush 38, 2) := by decide +kernel
theorem dX4_firstToSplit_9 : decode cX4_firstToSplit 9 = .ok (.if_icmp .lt 6, 3) := by decide +kernel
theorem dX4_firstToSplit_12 : decode cX4_firstToSplit 12 = .ok (.bipush (-9), 2) := by decide +kernel
theorem dX4_firstToSplit_14 : decode cX4_firstToSplit 14 = .ok (.ireturn, 1) := by decide +kernel
theorem dX4_firstToSplit_15 : decode cX4_firstToSplit 15 = .ok (.iconst 0, 1) := by decide +kernel
theorem dX4_firstToSplit_16 : decode cX4_firstToSplit 16 = .ok (.istore_n 1, 1) := by decide +kernel
theorem dX4_firstToSplit_17 : decode cX4_firstToSplit 17 = .ok (.iload_n 1, 1) := by decide +kernel
theorem dX4_firstToSplit_18 : decode cX4_firstToSplit 18 = .ok (.bipush 40, 2) := by decide +kernel
theorem dX4_firstToSplit_20 : decode cX4_firstToSplit 20 = .ok (.if_icmp .ge 56, 3) := by decide +kernel
theorem dX4_firstToSplit_23 : decode cX4_firstToSplit 23 = .ok (.aload_n 0, 1) := by decide +kernel
theorem dX4_firstToSplit_24 : decode cX4_firstToSplit 24 = .ok (.getfield 28, 3) := by decide +kernel
theorem dX4_firstToSplit_27 : decode cX4_firstToSplit 27 = .ok (.iload_n 1, 1) := by decide +kernel
theorem dX4_firstToSplit_28 : decode cX4_firstToSplit 28 = .ok (.invokevirtual 108, 3) := by decide +kernel
theorem dX4_firstToSplit_31 : decode cX4_firstToSplit 31 = .ok (.ifCond .eq 19, 3) := by decide +kernel
theorem dX4_firstToSplit_34 : decode cX4_firstToSplit 34 = .ok (.aload_n 0, 1) := by decide +kernel
theorem dX4_firstToSplit_35 : decode cX4_firstToSplit 35 = .ok (.getfield 28, 3) := by decide +kernel
theorem dX4_firstToSplit_38 : decode cX4_firstToSplit 38 = .ok (.iload_n 1, 1) := by decide +kernel
theorem dX4_firstToSplit_39 : decode cX4_firstToSplit 39 = .ok (.invokevirtual 109, 3) := by decide +kernel
theorem dX4_firstToSplit_42 : decode cX4_firstToSplit 42 = .ok (.iconst 4, 1) := by decide +kernel
theorem dX4_firstToSplit_43 : decode cX4_firstToSplit 43 = .ok (.if_icmp .ge 7, 3) := by decide +kernel
theorem dX4_firstToSplit_46 : decode cX4_firstToSplit 46 = .ok (.iconst 1, 1) := by decide +kernel
theorem dX4_firstToSplit_47 : decode cX4_firstToSplit 47 = .ok (.goto 4, 3) := by decide +kernel
theorem dX4_firstToSplit_50 : decode cX4_firstToSplit 50 = .ok (.iconst 0, 1) := by decide +kernel
theorem dX4_firstToSplit_51 : decode cX4_firstToSplit 51 = .ok (.istore_n 2, 1) := by decide +kernel
theorem dX4_firstToSplit_52 : decode cX4_firstToSplit 52 = .ok (.iload_n 2, 1) := by decide +kernel
theorem dX4_firstToSplit_53 : decode cX4_firstToSplit 53 = .ok (.ifCond .eq 17, 3) := by decide +kernel
theorem dX4_firstToSplit_56 : decode cX4_firstToSplit 56 = .ok (.aload_n 0, 1) := by decide +kernel
theorem dX4_firstToSplit_57 : decode cX4_firstToSplit 57 = .ok (.iload_n 1, 1) := by decide +kernel
theorem dX4_firstToSplit_58 : decode cX4_firstToSplit 58 = .ok (.invokevirtual 112, 3) := by decide +kernel
theorem dX4_firstToSplit_61 : decode cX4_firstToSplit 61 = .ok (.aload_n 0, 1) := by decide +kernel
theorem dX4_firstToSplit_62 : decode cX4_firstToSplit 62 = .ok (.getfield 9, 3) := by decide +kernel
theorem dX4_firstToSplit_65 : decode cX4_firstToSplit 65 = .ok (.if_icmp .le 5, 3) := by decide +kernel
theorem dX4_firstToSplit_68 : decode cX4_firstToSplit 68 = .ok (.iload_n 1, 1) := by decide +kernel
theorem dX4_firstToSplit_69 : decode cX4_firstToSplit 69 = .ok (.ireturn, 1) := by decide +kernel
theorem dX4_firstToSplit_70 : decode cX4_firstToSplit 70 = .ok (.iinc 1 1, 3) := by decide +kernel
theorem dX4_firstToSplit_73 : decode cX4_firstToSplit 73 = .ok (.goto (-56), 3) := by decide +kernel
theorem dX4_firstToSplit_76 : decode cX4_firstToSplit 76 = .ok (.bipush (-9), 2) := by decide +kernel
theorem dX4_firstToSplit_78 : decode cX4_firstToSplit 78 = .ok (.ireturn, 1) := by decide +kernel
theorem dX4_splitCell_0 : decode cX4_splitCell 0 = .ok (.aload_n 0, 1) := by decide +kernel
theorem dX4_splitCell_1 : decode cX4_splitCell 1 = .ok (.getfield 28, 3) := by decide +kernel
theorem dX4_splitCell_4 : decode cX4_splitCell 4 = .ok (.iload_n 1, 1) := by decide +kernel
theorem dX4_splitCell_5 : decode cX4_splitCell 5 = .ok (.invokevirtual 78, 3) := by decide +kernel
theorem dX4_splitCell_8 : decode cX4_splitCell 8 = .ok (.istore_n 2, 1) := by decide +kernel
theorem dX4_splitCell_9 : decode cX4_splitCell 9 = .ok (.aload_n 0, 1) := by decide +kernel
theorem dX4_splitCell_10 : decode cX4_splitCell 10 = .ok (.getfield 28, 3) := by decide +kernel
theorem dX4_splitCell_13 : decode cX4_splitCell 13 = .ok (.iload_n 1, 1) := by decide +kernel
theorem dX4_splitCell_14 : decode cX4_splitCell 14 = .ok (.invokevirtual 81, 3) := by decide +kernel
theorem dX4_splitCell_17 : decode cX4_splitCell 17 = .ok (.istore_n 3, 1) := by decide +kernel
theorem dX4_splitCell_18 : decode cX4_splitCell 18 = .ok (.aload_n 0, 1) := by decide +kernel
theorem dX4_splitCell_19 : decode cX4_splitCell 19 = .ok (.getfield 28, 3) := by decide +kernel
theorem dX4_splitCell_22 : decode cX4_splitCell 22 = .ok (.iload_n 1, 1) := by decide +kernel
theorem dX4_splitCell_23 : decode cX4_splitCell 23 = .ok (.invokevirtual 109, 3) := by decide +kernel
theorem dX4_splitCell_26 : decode cX4_splitCell 26 = .ok (.iconst 1, 1) := by decide +kernel
theorem dX4_splitCell_27 : decode cX4_splitCell 27 = .ok (.iadd, 1) := by decide +kernel
theorem dX4_splitCell_28 : decode cX4_splitCell 28 = .ok (.istore 4, 2) := by decide +kernel
theorem dX4_splitCell_30 : decode cX4_splitCell 30 = .ok (.iload 4, 2) := by decide +kernel
theorem dX4_splitCell_32 : decode cX4_splitCell 32 = .ok (.invokestatic 115, 3) := by decide +kernel
theorem dX4_splitCell_35 : decode cX4_splitCell 35 = .ok (.istore 5, 2) := by decide +kernel
theorem dX4_splitCell_37 : decode cX4_splitCell 37 = .ok (.aload_n 0, 1) := by decide +kernel
theorem dX4_splitCell_38 : decode cX4_splitCell 38 = .ok (.iload_n 2, 1) := by decide +kernel
theorem dX4_splitCell_39 : decode cX4_splitCell 39 = .ok (.iload_n 3, 1) := by decide +kernel
theorem dX4_splitCell_40 : decode cX4_splitCell 40 = .ok (.iload 5, 2) := by decide +kernel
theorem dX4_splitCell_42 : decode cX4_splitCell 42 = .ok (.invokevirtual 118, 3) := by decide +kernel
theorem dX4_splitCell_45 : decode cX4_splitCell 45 = .ok (.istore 6, 2) := by decide +kernel
theorem dX4_splitCell_47 : decode cX4_splitCell 47 = .ok (.iconst 0, 1) := by decide +kernel
theorem dX4_splitCell_48 : decode cX4_splitCell 48 = .ok (.istore 7, 2) := by decide +kernel
theorem dX4_splitCell_50 : decode cX4_splitCell 50 = .ok (.iload 7, 2) := by decide +kernel
theorem dX4_splitCell_52 : decode cX4_splitCell 52 = .ok (.iconst 4, 1) := by decide +kernel
theorem dX4_splitCell_53 : decode cX4_splitCell 53 = .ok (.if_icmp .ge 39, 3) := by decide +kernel
theorem dX4_splitCell_56 : decode cX4_splitCell 56 = .ok (.iload 7, 2) := by decide +kernel
theorem dX4_splitCell_58 : decode cX4_splitCell 58 = .ok (.iload 6, 2) := by decide +kernel
theorem dX4_splitCell_60 : decode cX4_splitCell 60 = .ok (.if_icmp .eq 26, 3) := by decide +kernel
theorem dX4_splitCell_63 : decode cX4_splitCell 63 = .ok (.aload_n 0, 1) := by decide +kernel
theorem dX4_splitCell_64 : decode cX4_splitCell 64 = .ok (.iload_n 2, 1) := by decide +kernel
theorem dX4_splitCell_65 : decode cX4_splitCell 65 = .ok (.iload 5, 2) := by decide +kernel
theorem dX4_splitCell_67 : decode cX4_splitCell 67 = .ok (.iload 7, 2) := by decide +kernel
theorem dX4_splitCell_69 : decode cX4_splitCell 69 = .ok (.invokestatic 122, 3) := by decide +kernel
theorem dX4_splitCell_72 : decode cX4_splitCell 72 = .ok (.iload_n 3, 1) := by decide +kernel
theorem dX4_splitCell_73 : decode cX4_splitCell 73 = .ok (.iload 5, 2) := by decide +kernel
theorem dX4_splitCell_75 : decode cX4_splitCell 75 = .ok (.iload 7, 2) := by decide +kernel
theorem dX4_splitCell_77 : decode cX4_splitCell 77 = .ok (.invokestatic 125, 3) := by decide +kernel
theorem dX4_splitCell_80 : decode cX4_splitCell 80 = .ok (.iload 4, 2) := by decide +kernel
theorem dX4_splitCell_82 : decode cX4_splitCell 82 = .ok (.iload_n 1, 1) := by decide +kernel
theorem dX4_splitCell_83 : decode cX4_splitCell 83 = .ok (.invokevirtual 128, 3) := by decide +kernel
theorem dX4_splitCell_86 : decode cX4_splitCell 86 = .ok (.iinc 7 1, 3) := by decide +kernel
theorem dX4_splitCell_89 : decode cX4_splitCell 89 = .ok (.goto (-39), 3) := by decide +kernel
theorem dX4_splitCell_92 : decode cX4_splitCell 92 = .ok (.aload_n 0, 1) := by decide +kernel
theorem dX4_splitCell_93 : decode cX4_splitCell 93 = .ok (.getfield 28, 3) := by decide +kernel
theorem dX4_splitCell_96 : decode cX4_splitCell 96 = .ok (.iload_n 1, 1) := by decide +kernel
theorem dX4_splitCell_97 : decode cX4_splitCell 97 = .ok (.iload_n 2, 1) := by decide +kernel
theorem dX4_splitCell_98 : decode cX4_splitCell 98 = .ok (.iload 5, 2) := by decide +kernel
theorem dX4_splitCell_100 : decode cX4_splitCell 100 = .ok (.iload 6, 2) := by decide +kernel
theorem dX4_splitCell_102 : decode cX4_splitCell 102 = .ok (.invokestatic 122, 3) := by decide +kernel
theorem dX4_splitCell_105 : decode cX4_splitCell 105 = .ok (.iload_n 3, 1) := by decide +kernel
theorem dX4_splitCell_106 : decode cX4_splitCell 106 = .ok (.iload 5, 2) := by decide +kernel
theorem dX4_splitCell_108 : decode cX4_splitCell 108 = .ok (.iload 6, 2) := by decide +kernel
theorem dX4_splitCell_110 : decode cX4_splitCell 110 = .ok (.invokestatic 125, 3) := by decide +kernel
theorem dX4_splitCell_113 : decode cX4_splitCell 113 = .ok (.iload 4, 2) := by decide +kernel
theorem dX4_splitCell_115 : decode cX4_splitCell 115 = .ok (.invokevirtual 132, 3) := by decide +kernel
theorem dX4_splitCell_118 : decode cX4_splitCell 118 = .ok (.return_, 1) := by decide +kernel
theorem dX4_fullestQuarter_0 : decode cX4_fullestQuarter 0 = .ok (.iconst 0, 1) := by decide +kernel
theorem dX4_fullestQuarter_1 : decode cX4_fullestQuarter 1 = .ok (.istore 4, 2) := by decide +kernel
theorem dX4_fullestQuarter_3 : decode cX4_fullestQuarter 3 = .ok (.iconst (-1), 1) := by decide +kernel
theorem dX4_fullestQuarter_4 : decode cX4_fullestQuarter 4 = .ok (.istore 5, 2) := by decide +kernel
theorem dX4_fullestQuarter_6 : decode cX4_fullestQuarter 6 = .ok (.iconst 0, 1) := by decide +kernel
theorem dX4_fullestQuarter_7 : decode cX4_fullestQuarter 7 = .ok (.istore 6, 2) := by decide +kernel
theorem dX4_fullestQuarter_9 : decode cX4_fullestQuarter 9 = .ok (.iload 6, 2) := by decide +kernel
theorem dX4_fullestQuarter_11 : decode cX4_fullestQuarter 11 = .ok (.iconst 4, 1) := by decide +kernel
theorem dX4_fullestQuarter_12 : decode cX4_fullestQuarter 12 = .ok (.if_icmp .ge 67, 3) := by decide +kernel
theorem dX4_fullestQuarter_15 : decode cX4_fullestQuarter 15 = .ok (.iload_n 1, 1) := by decide +kernel
theorem dX4_fullestQuarter_16 : decode cX4_fullestQuarter 16 = .ok (.iload_n 3, 1) := by decide +kernel
theorem dX4_fullestQuarter_17 : decode cX4_fullestQuarter 17 = .ok (.iload 6, 2) := by decide +kernel
theorem dX4_fullestQuarter_19 : decode cX4_fullestQuarter 19 = .ok (.invokestatic 122, 3) := by decide +kernel
theorem dX4_fullestQuarter_22 : decode cX4_fullestQuarter 22 = .ok (.istore 7, 2) := by decide +kernel
theorem dX4_fullestQuarter_24 : decode cX4_fullestQuarter 24 = .ok (.iload_n 2, 1) := by decide +kernel
theorem dX4_fullestQuarter_25 : decode cX4_fullestQuarter 25 = .ok (.iload_n 3, 1) := by decide +kernel
theorem dX4_fullestQuarter_26 : decode cX4_fullestQuarter 26 = .ok (.iload 6, 2) := by decide +kernel
theorem dX4_fullestQuarter_28 : decode cX4_fullestQuarter 28 = .ok (.invokestatic 125, 3) := by decide +kernel
theorem dX4_fullestQuarter_31 : decode cX4_fullestQuarter 31 = .ok (.istore 8, 2) := by decide +kernel
theorem dX4_fullestQuarter_33 : decode cX4_fullestQuarter 33 = .ok (.aload_n 0, 1) := by decide +kernel
theorem dX4_fullestQuarter_34 : decode cX4_fullestQuarter 34 = .ok (.getfield 21, 3) := by decide +kernel
theorem dX4_fullestQuarter_37 : decode cX4_fullestQuarter 37 = .ok (.iload 7, 2) := by decide +kernel
theorem dX4_fullestQuarter_39 : decode cX4_fullestQuarter 39 = .ok (.iload 8, 2) := by decide +kernel
theorem dX4_fullestQuarter_41 : decode cX4_fullestQuarter 41 = .ok (.iload 7, 2) := by decide +kernel
theorem dX4_fullestQuarter_43 : decode cX4_fullestQuarter 43 = .ok (.iload_n 3, 1) := by decide +kernel
theorem dX4_fullestQuarter_44 : decode cX4_fullestQuarter 44 = .ok (.iadd, 1) := by decide +kernel
theorem dX4_fullestQuarter_45 : decode cX4_fullestQuarter 45 = .ok (.iconst 1, 1) := by decide +kernel
theorem dX4_fullestQuarter_46 : decode cX4_fullestQuarter 46 = .ok (.isub, 1) := by decide +kernel
theorem dX4_fullestQuarter_47 : decode cX4_fullestQuarter 47 = .ok (.iload 8, 2) := by decide +kernel
theorem dX4_fullestQuarter_49 : decode cX4_fullestQuarter 49 = .ok (.iload_n 3, 1) := by decide +kernel
theorem dX4_fullestQuarter_50 : decode cX4_fullestQuarter 50 = .ok (.iadd, 1) := by decide +kernel
theorem dX4_fullestQuarter_51 : decode cX4_fullestQuarter 51 = .ok (.iconst 1, 1) := by decide +kernel
theorem dX4_fullestQuarter_52 : decode cX4_fullestQuarter 52 = .ok (.isub, 1) := by decide +kernel
theorem dX4_fullestQuarter_53 : decode cX4_fullestQuarter 53 = .ok (.invokevirtual 90, 3) := by decide +kernel
theorem dX4_fullestQuarter_56 : decode cX4_fullestQuarter 56 = .ok (.istore 9, 2) := by decide +kernel
theorem dX4_fullestQuarter_58 : decode cX4_fullestQuarter 58 = .ok (.iload 9, 2) := by decide +kernel
theorem dX4_fullestQuarter_60 : decode cX4_fullestQuarter 60 = .ok (.iload 5, 2) := by decide +kernel
theorem dX4_fullestQuarter_62 : decode cX4_fullestQuarter 62 = .ok (.if_icmp .le 11, 3) := by decide +kernel
theorem dX4_fullestQuarter_65 : decode cX4_fullestQuarter 65 = .ok (.iload 6, 2) := by decide +kernel
theorem dX4_fullestQuarter_67 : decode cX4_fullestQuarter 67 = .ok (.istore 4, 2) := by decide +kernel
theorem dX4_fullestQuarter_69 : decode cX4_fullestQuarter 69 = .ok (.iload 9, 2) := by decide +kernel
theorem dX4_fullestQuarter_71 : decode cX4_fullestQuarter 71 = .ok (.istore 5, 2) := by decide +kernel
theorem dX4_fullestQuarter_73 : decode cX4_fullestQuarter 73 = .ok (.iinc 6 1, 3) := by decide +kernel
theorem dX4_fullestQuarter_76 : decode cX4_fullestQuarter 76 = .ok (.goto (-67), 3) := by decide +kernel
theorem dX4_fullestQuarter_79 : decode cX4_fullestQuarter 79 = .ok (.iload 4, 2) := by decide +kernel
theorem dX4_fullestQuarter_81 : decode cX4_fullestQuarter 81 = .ok (.ireturn, 1) := by decide +kernel
theorem dX4_foundIn_0 : decode cX4_foundIn 0 = .ok (.aload_n 0, 1) := by decide +kernel
theorem dX4_foundIn_1 : decode cX4_foundIn 1 = .ok (.getfield 28, 3) := by decide +kernel
theorem dX4_foundIn_4 : decode cX4_foundIn 4 = .ok (.iload_n 1, 1) := by decide +kernel
theorem dX4_foundIn_5 : decode cX4_foundIn 5 = .ok (.iload_n 2, 1) := by decide +kernel
theorem dX4_foundIn_6 : decode cX4_foundIn 6 = .ok (.iload_n 3, 1) := by decide +kernel
theorem dX4_foundIn_7 : decode cX4_foundIn 7 = .ok (.invokevirtual 135, 3) := by decide +kernel
theorem dX4_foundIn_10 : decode cX4_foundIn 10 = .ok (.istore 5, 2) := by decide +kernel
theorem dX4_foundIn_12 : decode cX4_foundIn 12 = .ok (.aload_n 0, 1) := by decide +kernel
theorem dX4_foundIn_13 : decode cX4_foundIn 13 = .ok (.getfield 28, 3) := by decide +kernel
theorem dX4_foundIn_16 : decode cX4_foundIn 16 = .ok (.iload 5, 2) := by decide +kernel
theorem dX4_foundIn_18 : decode cX4_foundIn 18 = .ok (.invokevirtual 84, 3) := by decide +kernel
theorem dX4_foundIn_21 : decode cX4_foundIn 21 = .ok (.istore 6, 2) := by decide +kernel
theorem dX4_foundIn_23 : decode cX4_foundIn 23 = .ok (.aload_n 0, 1) := by decide +kernel
theorem dX4_foundIn_24 : decode cX4_foundIn 24 = .ok (.getfield 28, 3) := by decide +kernel
theorem dX4_foundIn_27 : decode cX4_foundIn 27 = .ok (.iload 5, 2) := by decide +kernel
theorem dX4_foundIn_29 : decode cX4_foundIn 29 = .ok (.invokevirtual 87, 3) := by decide +kernel
theorem dX4_foundIn_32 : decode cX4_foundIn 32 = .ok (.istore 7, 2) := by decide +kernel
theorem dX4_foundIn_34 : decode cX4_foundIn 34 = .ok (.aload_n 0, 1) := by decide +kernel
theorem dX4_foundIn_35 : decode cX4_foundIn 35 = .ok (.getfield 35, 3) := by decide +kernel
theorem dX4_foundIn_38 : decode cX4_foundIn 38 = .ok (.iload 5, 2) := by decide +kernel
theorem dX4_foundIn_40 : decode cX4_foundIn 40 = .ok (.iload 4, 2) := by decide +kernel
theorem dX4_foundIn_42 : decode cX4_foundIn 42 = .ok (.aload_n 0, 1) := by decide +kernel
theorem dX4_foundIn_43 : decode cX4_foundIn 43 = .ok (.aload_n 0, 1) := by decide +kernel
theorem dX4_foundIn_44 : decode cX4_foundIn 44 = .ok (.getfield 21, 3) := by decide +kernel
theorem dX4_foundIn_47 : decode cX4_foundIn 47 = .ok (.iload_n 1, 1) := by decide +kernel
theorem dX4_foundIn_48 : decode cX4_foundIn 48 = .ok (.iload_n 2, 1) := by decide +kernel
theorem dX4_foundIn_49 : decode cX4_foundIn 49 = .ok (.iload 6, 2) := by decide +kernel
theorem dX4_foundIn_51 : decode cX4_foundIn 51 = .ok (.iload 7, 2) := by decide +kernel
theorem dX4_foundIn_53 : decode cX4_foundIn 53 = .ok (.invokevirtual 90, 3) := by decide +kernel
theorem dX4_foundIn_56 : decode cX4_foundIn 56 = .ok (.invokevirtual 138, 3) := by decide +kernel
theorem dX4_foundIn_59 : decode cX4_foundIn 59 = .ok (.invokevirtual 141, 3) := by decide +kernel
theorem dX4_foundIn_62 : decode cX4_foundIn 62 = .ok (.aload_n 0, 1) := by decide +kernel
theorem dX4_foundIn_63 : decode cX4_foundIn 63 = .ok (.getfield 21, 3) := by decide +kernel
theorem dX4_foundIn_66 : decode cX4_foundIn 66 = .ok (.iload 4, 2) := by decide +kernel
theorem dX4_foundIn_68 : decode cX4_foundIn 68 = .ok (.iload 5, 2) := by decide +kernel
theorem dX4_foundIn_70 : decode cX4_foundIn 70 = .ok (.iload_n 1, 1) := by decide +kernel
theorem dX4_foundIn_71 : decode cX4_foundIn 71 = .ok (.iload_n 2, 1) := by decide +kernel
theorem dX4_foundIn_72 : decode cX4_foundIn 72 = .ok (.iload 6, 2) := by decide +kernel
theorem dX4_foundIn_74 : decode cX4_foundIn 74 = .ok (.iload 7, 2) := by decide +kernel
theorem dX4_foundIn_76 : decode cX4_foundIn 76 = .ok (.invokevirtual 144, 3) := by decide +kernel
theorem dX4_foundIn_79 : decode cX4_foundIn 79 = .ok (.return_, 1) := by decide +kernel
theorem dX4_titheOf_0 : decode cX4_titheOf 0 = .ok (.aload_n 0, 1) := by decide +kernel
theorem dX4_titheOf_1 : decode cX4_titheOf 1 = .ok (.getfield 15, 3) := by decide +kernel
theorem dX4_titheOf_4 : decode cX4_titheOf 4 = .ok (.ifCond .le 19, 3) := by decide +kernel
theorem dX4_titheOf_7 : decode cX4_titheOf 7 = .ok (.iload_n 1, 1) := by decide +kernel
theorem dX4_titheOf_8 : decode cX4_titheOf 8 = .ok (.aload_n 0, 1) := by decide +kernel
theorem dX4_titheOf_9 : decode cX4_titheOf 9 = .ok (.getfield 15, 3) := by decide +kernel
theorem dX4_titheOf_12 : decode cX4_titheOf 12 = .ok (.iadd, 1) := by decide +kernel
theorem dX4_titheOf_13 : decode cX4_titheOf 13 = .ok (.iconst 1, 1) := by decide +kernel
theorem dX4_titheOf_14 : decode cX4_titheOf 14 = .ok (.isub, 1) := by decide +kernel
theorem dX4_titheOf_15 : decode cX4_titheOf 15 = .ok (.aload_n 0, 1) := by decide +kernel
theorem dX4_titheOf_16 : decode cX4_titheOf 16 = .ok (.getfield 15, 3) := by decide +kernel
theorem dX4_titheOf_19 : decode cX4_titheOf 19 = .ok (.idiv, 1) := by decide +kernel
theorem dX4_titheOf_20 : decode cX4_titheOf 20 = .ok (.goto 4, 3) := by decide +kernel
theorem dX4_titheOf_23 : decode cX4_titheOf 23 = .ok (.iconst 0, 1) := by decide +kernel
theorem dX4_titheOf_24 : decode cX4_titheOf 24 = .ok (.ireturn, 1) := by decide +kernel
theorem dX4_payTithes_0 : decode cX4_payTithes 0 = .ok (.iconst 0, 1) := by decide +kernel
theorem dX4_payTithes_1 : decode cX4_payTithes 1 = .ok (.istore_n 2, 1) := by decide +kernel
theorem dX4_payTithes_2 : decode cX4_payTithes 2 = .ok (.iconst 0, 1) := by decide +kernel
theorem dX4_payTithes_3 : decode cX4_payTithes 3 = .ok (.istore_n 3, 1) := by decide +kernel
theorem dX4_payTithes_4 : decode cX4_payTithes 4 = .ok (.iload_n 3, 1) := by decide +kernel
theorem dX4_payTithes_5 : decode cX4_payTithes 5 = .ok (.bipush 40, 2) := by decide +kernel
theorem dX4_payTithes_7 : decode cX4_payTithes 7 = .ok (.if_icmp .ge 102, 3) := by decide +kernel
theorem dX4_payTithes_10 : decode cX4_payTithes 10 = .ok (.aload_n 0, 1) := by decide +kernel
theorem dX4_payTithes_11 : decode cX4_payTithes 11 = .ok (.getfield 35, 3) := by decide +kernel
theorem dX4_payTithes_14 : decode cX4_payTithes 14 = .ok (.iload_n 1, 1) := by decide +kernel
theorem dX4_payTithes_15 : decode cX4_payTithes 15 = .ok (.invokevirtual 148, 3) := by decide +kernel
theorem dX4_payTithes_18 : decode cX4_payTithes 18 = .ok (.istore 4, 2) := by decide +kernel
theorem dX4_payTithes_20 : decode cX4_payTithes 20 = .ok (.aload_n 0, 1) := by decide +kernel
theorem dX4_payTithes_21 : decode cX4_payTithes 21 = .ok (.getfield 21, 3) := by decide +kernel
theorem dX4_payTithes_24 : decode cX4_payTithes 24 = .ok (.iload_n 1, 1) := by decide +kernel
theorem dX4_payTithes_25 : decode cX4_payTithes 25 = .ok (.aload_n 0, 1) := by decide +kernel
theorem dX4_payTithes_26 : decode cX4_payTithes 26 = .ok (.getfield 28, 3) := by decide +kernel
theorem dX4_payTithes_29 : decode cX4_payTithes 29 = .ok (.iload_n 1, 1) := by decide +kernel
theorem dX4_payTithes_30 : decode cX4_payTithes 30 = .ok (.invokevirtual 78, 3) := by decide +kernel
theorem dX4_payTithes_33 : decode cX4_payTithes 33 = .ok (.aload_n 0, 1) := by decide +kernel
theorem dX4_payTithes_34 : decode cX4_payTithes 34 = .ok (.getfield 28, 3) := by decide +kernel
theorem dX4_payTithes_37 : decode cX4_payTithes 37 = .ok (.iload_n 1, 1) := by decide +kernel
theorem dX4_payTithes_38 : decode cX4_payTithes 38 = .ok (.invokevirtual 81, 3) := by decide +kernel
theorem dX4_payTithes_41 : decode cX4_payTithes 41 = .ok (.aload_n 0, 1) := by decide +kernel
theorem dX4_payTithes_42 : decode cX4_payTithes 42 = .ok (.getfield 28, 3) := by decide +kernel
theorem dX4_payTithes_45 : decode cX4_payTithes 45 = .ok (.iload_n 1, 1) := by decide +kernel
theorem dX4_payTithes_46 : decode cX4_payTithes 46 = .ok (.invokevirtual 84, 3) := by decide +kernel
theorem dX4_payTithes_49 : decode cX4_payTithes 49 = .ok (.aload_n 0, 1) := by decide +kernel
theorem dX4_payTithes_50 : decode cX4_payTithes 50 = .ok (.getfield 28, 3) := by decide +kernel
theorem dX4_payTithes_53 : decode cX4_payTithes 53 = .ok (.iload_n 1, 1) := by decide +kernel
theorem dX4_payTithes_54 : decode cX4_payTithes 54 = .ok (.invokevirtual 87, 3) := by decide +kernel
theorem dX4_payTithes_57 : decode cX4_payTithes 57 = .ok (.invokevirtual 151, 3) := by decide +kernel
theorem dX4_payTithes_60 : decode cX4_payTithes 60 = .ok (.istore 5, 2) := by decide +kernel
theorem dX4_payTithes_62 : decode cX4_payTithes 62 = .ok (.iload 4, 2) := by decide +kernel
theorem dX4_payTithes_64 : decode cX4_payTithes 64 = .ok (.bipush (-9), 2) := by decide +kernel
theorem dX4_payTithes_66 : decode cX4_payTithes 66 = .ok (.if_icmp .eq 10, 3) := by decide +kernel
theorem dX4_payTithes_69 : decode cX4_payTithes 69 = .ok (.iload 5, 2) := by decide +kernel
theorem dX4_payTithes_71 : decode cX4_payTithes 71 = .ok (.bipush (-9), 2) := by decide +kernel
theorem dX4_payTithes_73 : decode cX4_payTithes 73 = .ok (.if_icmp .ne 5, 3) := by decide +kernel
theorem dX4_payTithes_76 : decode cX4_payTithes 76 = .ok (.iload_n 2, 1) := by decide +kernel
theorem dX4_payTithes_77 : decode cX4_payTithes 77 = .ok (.ireturn, 1) := by decide +kernel
theorem dX4_payTithes_78 : decode cX4_payTithes 78 = .ok (.aload_n 0, 1) := by decide +kernel
theorem dX4_payTithes_79 : decode cX4_payTithes 79 = .ok (.getfield 21, 3) := by decide +kernel
theorem dX4_payTithes_82 : decode cX4_payTithes 82 = .ok (.iload 5, 2) := by decide +kernel
theorem dX4_payTithes_84 : decode cX4_payTithes 84 = .ok (.iload 4, 2) := by decide +kernel
theorem dX4_payTithes_86 : decode cX4_payTithes 86 = .ok (.invokevirtual 68, 3) := by decide +kernel
theorem dX4_payTithes_89 : decode cX4_payTithes 89 = .ok (.aload_n 0, 1) := by decide +kernel
theorem dX4_payTithes_90 : decode cX4_payTithes 90 = .ok (.getfield 35, 3) := by decide +kernel
theorem dX4_payTithes_93 : decode cX4_payTithes 93 = .ok (.iload_n 1, 1) := by decide +kernel
theorem dX4_payTithes_94 : decode cX4_payTithes 94 = .ok (.iload 4, 2) := by decide +kernel
theorem dX4_payTithes_96 : decode cX4_payTithes 96 = .ok (.iconst (-1), 1) := by decide +kernel
theorem dX4_payTithes_97 : decode cX4_payTithes 97 = .ok (.invokevirtual 141, 3) := by decide +kernel
theorem dX4_payTithes_100 : decode cX4_payTithes 100 = .ok (.iinc 2 1, 3) := by decide +kernel
theorem dX4_payTithes_103 : decode cX4_payTithes 103 = .ok (.iinc 3 1, 3) := by decide +kernel
theorem dX4_payTithes_106 : decode cX4_payTithes 106 = .ok (.goto (-102), 3) := by decide +kernel
theorem dX4_payTithes_109 : decode cX4_payTithes 109 = .ok (.iload_n 2, 1) := by decide +kernel
theorem dX4_payTithes_110 : decode cX4_payTithes 110 = .ok (.ireturn, 1) := by decide +kernel
theorem dX4_payablePoints_0 : decode cX4_payablePoints 0 = .ok (.iconst 0, 1) := by decide +kernel
theorem dX4_payablePoints_1 : decode cX4_payablePoints 1 = .ok (.istore_n 2, 1) := by decide +kernel
theorem dX4_payablePoints_2 : decode cX4_payablePoints 2 = .ok (.iconst 0, 1) := by decide +kernel
theorem dX4_payablePoints_3 : decode cX4_payablePoints 3 = .ok (.istore_n 3, 1) := by decide +kernel
theorem dX4_payablePoints_4 : decode cX4_payablePoints 4 = .ok (.iload_n 3, 1) := by decide +kernel
theorem dX4_payablePoints_5 : decode cX4_payablePoints 5 = .ok (.bipush 40, 2) := by decide +kernel
theorem dX4_payablePoints_7 : decode cX4_payablePoints 7 = .ok (.if_icmp .ge 33, 3) := by decide +kernel
theorem dX4_payablePoints_10 : decode cX4_payablePoints 10 = .ok (.aload_n 0, 1) := by decide +kernel
theorem dX4_payablePoints_11 : decode cX4_payablePoints 11 = .ok (.getfield 21, 3) := by decide +kernel
theorem dX4_payablePoints_14 : decode cX4_payablePoints 14 = .ok (.iload_n 3, 1) := by decide +kernel
theorem dX4_payablePoints_15 : decode cX4_payablePoints 15 = .ok (.invokevirtual 57, 3) := by decide +kernel
theorem dX4_payablePoints_18 : decode cX4_payablePoints 18 = .ok (.iload_n 1, 1) := by decide +kernel
theorem dX4_payablePoints_19 : decode cX4_payablePoints 19 = .ok (.if_icmp .ne 15, 3) := by decide +kernel
theorem dX4_payablePoints_22 : decode cX4_payablePoints 22 = .ok (.aload_n 0, 1) := by decide +kernel
theorem dX4_payablePoints_23 : decode cX4_payablePoints 23 = .ok (.iload_n 3, 1) := by decide +kernel
theorem dX4_payablePoints_24 : decode cX4_payablePoints 24 = .ok (.invokevirtual 61, 3) := by decide +kernel
theorem dX4_payablePoints_27 : decode cX4_payablePoints 27 = .ok (.iload_n 1, 1) := by decide +kernel
theorem dX4_payablePoints_28 : decode cX4_payablePoints 28 = .ok (.if_icmp .ne 6, 3) := by decide +kernel
theorem dX4_payablePoints_31 : decode cX4_payablePoints 31 = .ok (.iinc 2 1, 3) := by decide +kernel
theorem dX4_payablePoints_34 : decode cX4_payablePoints 34 = .ok (.iinc 3 1, 3) := by decide +kernel
theorem dX4_payablePoints_37 : decode cX4_payablePoints 37 = .ok (.goto (-33), 3) := by decide +kernel
theorem dX4_payablePoints_40 : decode cX4_payablePoints 40 = .ok (.iload_n 2, 1) := by decide +kernel
theorem dX4_payablePoints_41 : decode cX4_payablePoints 41 = .ok (.aload_n 0, 1) := by decide +kernel
theorem dX4_payablePoints_42 : decode cX4_payablePoints 42 = .ok (.getfield 35, 3) := by decide +kernel
theorem dX4_payablePoints_45 : decode cX4_payablePoints 45 = .ok (.iload_n 1, 1) := by decide +kernel
theorem dX4_payablePoints_46 : decode cX4_payablePoints 46 = .ok (.invokevirtual 155, 3) := by decide +kernel
theorem dX4_payablePoints_49 : decode cX4_payablePoints 49 = .ok (.invokestatic 158, 3) := by decide +kernel
theorem dX4_payablePoints_52 : decode cX4_payablePoints 52 = .ok (.ireturn, 1) := by decide +kernel
theorem dX4_canJoin_0 : decode cX4_canJoin 0 = .ok (.aload_n 0, 1) := by decide +kernel
theorem dX4_canJoin_1 : decode cX4_canJoin 1 = .ok (.getfield 28, 3) := by decide +kernel
theorem dX4_canJoin_4 : decode cX4_canJoin 4 = .ok (.iload_n 1, 1) := by decide +kernel
theorem dX4_canJoin_5 : decode cX4_canJoin 5 = .ok (.invokevirtual 109, 3) := by decide +kernel
theorem dX4_canJoin_8 : decode cX4_canJoin 8 = .ok (.istore_n 2, 1) := by decide +kernel
theorem dX4_canJoin_9 : decode cX4_canJoin 9 = .ok (.iload_n 2, 1) := by decide +kernel
theorem dX4_canJoin_10 : decode cX4_canJoin 10 = .ok (.iconst 1, 1) := by decide +kernel
theorem dX4_canJoin_11 : decode cX4_canJoin 11 = .ok (.if_icmp .ge 5, 3) := by decide +kernel
theorem dX4_canJoin_14 : decode cX4_canJoin 14 = .ok (.iconst 0, 1) := by decide +kernel
theorem dX4_canJoin_15 : decode cX4_canJoin 15 = .ok (.ireturn, 1) := by decide +kernel
theorem dX4_canJoin_16 : decode cX4_canJoin 16 = .ok (.aload_n 0, 1) := by decide +kernel
theorem dX4_canJoin_17 : decode cX4_canJoin 17 = .ok (.iload_n 1, 1) := by decide +kernel
theorem dX4_canJoin_18 : decode cX4_canJoin 18 = .ok (.invokevirtual 163, 3) := by decide +kernel
theorem dX4_canJoin_21 : decode cX4_canJoin 21 = .ok (.istore_n 3, 1) := by decide +kernel
theorem dX4_canJoin_22 : decode cX4_canJoin 22 = .ok (.aload_n 0, 1) := by decide +kernel
theorem dX4_canJoin_23 : decode cX4_canJoin 23 = .ok (.iload_n 1, 1) := by decide +kernel
theorem dX4_canJoin_24 : decode cX4_canJoin 24 = .ok (.invokevirtual 166, 3) := by decide +kernel
theorem dX4_canJoin_27 : decode cX4_canJoin 27 = .ok (.istore 4, 2) := by decide +kernel
theorem dX4_canJoin_29 : decode cX4_canJoin 29 = .ok (.iconst 0, 1) := by decide +kernel
theorem dX4_canJoin_30 : decode cX4_canJoin 30 = .ok (.istore 5, 2) := by decide +kernel
theorem dX4_canJoin_32 : decode cX4_canJoin 32 = .ok (.iconst 0, 1) := by decide +kernel
theorem dX4_canJoin_33 : decode cX4_canJoin 33 = .ok (.istore 6, 2) := by decide +kernel
theorem dX4_canJoin_35 : decode cX4_canJoin 35 = .ok (.iload 6, 2) := by decide +kernel
theorem dX4_canJoin_37 : decode cX4_canJoin 37 = .ok (.iconst 4, 1) := by decide +kernel
theorem dX4_canJoin_38 : decode cX4_canJoin 38 = .ok (.if_icmp .ge 47, 3) := by decide +kernel
theorem dX4_canJoin_41 : decode cX4_canJoin 41 = .ok (.aload_n 0, 1) := by decide +kernel
theorem dX4_canJoin_42 : decode cX4_canJoin 42 = .ok (.iload_n 3, 1) := by decide +kernel
theorem dX4_canJoin_43 : decode cX4_canJoin 43 = .ok (.iload 4, 2) := by decide +kernel
theorem dX4_canJoin_45 : decode cX4_canJoin 45 = .ok (.iload_n 2, 1) := by decide +kernel
theorem dX4_canJoin_46 : decode cX4_canJoin 46 = .ok (.iload 6, 2) := by decide +kernel
theorem dX4_canJoin_48 : decode cX4_canJoin 48 = .ok (.invokevirtual 169, 3) := by decide +kernel
theorem dX4_canJoin_51 : decode cX4_canJoin 51 = .ok (.istore 7, 2) := by decide +kernel
theorem dX4_canJoin_53 : decode cX4_canJoin 53 = .ok (.aload_n 0, 1) := by decide +kernel
theorem dX4_canJoin_54 : decode cX4_canJoin 54 = .ok (.getfield 28, 3) := by decide +kernel
theorem dX4_canJoin_57 : decode cX4_canJoin 57 = .ok (.iload 7, 2) := by decide +kernel
theorem dX4_canJoin_59 : decode cX4_canJoin 59 = .ok (.invokevirtual 109, 3) := by decide +kernel
theorem dX4_canJoin_62 : decode cX4_canJoin 62 = .ok (.iload_n 2, 1) := by decide +kernel
theorem dX4_canJoin_63 : decode cX4_canJoin 63 = .ok (.if_icmp .eq 5, 3) := by decide +kernel
theorem dX4_canJoin_66 : decode cX4_canJoin 66 = .ok (.iconst 0, 1) := by decide +kernel
theorem dX4_canJoin_67 : decode cX4_canJoin 67 = .ok (.ireturn, 1) := by decide +kernel
theorem dX4_canJoin_68 : decode cX4_canJoin 68 = .ok (.iload 5, 2) := by decide +kernel
theorem dX4_canJoin_70 : decode cX4_canJoin 70 = .ok (.aload_n 0, 1) := by decide +kernel
theorem dX4_canJoin_71 : decode cX4_canJoin 71 = .ok (.iload 7, 2) := by decide +kernel
theorem dX4_canJoin_73 : decode cX4_canJoin 73 = .ok (.invokevirtual 112, 3) := by decide +kernel
theorem dX4_canJoin_76 : decode cX4_canJoin 76 = .ok (.iadd, 1) := by decide +kernel
theorem dX4_canJoin_77 : decode cX4_canJoin 77 = .ok (.istore 5, 2) := by decide +kernel
theorem dX4_canJoin_79 : decode cX4_canJoin 79 = .ok (.iinc 6 1, 3) := by decide +kernel
theorem dX4_canJoin_82 : decode cX4_canJoin 82 = .ok (.goto (-47), 3) := by decide +kernel
theorem dX4_canJoin_85 : decode cX4_canJoin 85 = .ok (.iload 5, 2) := by decide +kernel
theorem dX4_canJoin_87 : decode cX4_canJoin 87 = .ok (.aload_n 0, 1) := by decide +kernel
theorem dX4_canJoin_88 : decode cX4_canJoin 88 = .ok (.getfield 9, 3) := by decide +kernel
theorem dX4_canJoin_91 : decode cX4_canJoin 91 = .ok (.if_icmp .gt 7, 3) := by decide +kernel
theorem dX4_canJoin_94 : decode cX4_canJoin 94 = .ok (.iconst 1, 1) := by decide +kernel
theorem dX4_canJoin_95 : decode cX4_canJoin 95 = .ok (.goto 4, 3) := by decide +kernel
theorem dX4_canJoin_98 : decode cX4_canJoin 98 = .ok (.iconst 0, 1) := by decide +kernel
theorem dX4_canJoin_99 : decode cX4_canJoin 99 = .ok (.ireturn, 1) := by decide +kernel
theorem dX4_joinQuarters_0 : decode cX4_joinQuarters 0 = .ok (.aload_n 0, 1) := by decide +kernel
theorem dX4_joinQuarters_1 : decode cX4_joinQuarters 1 = .ok (.iload_n 1, 1) := by decide +kernel
theorem dX4_joinQuarters_2 : decode cX4_joinQuarters 2 = .ok (.invokevirtual 163, 3) := by decide +kernel
theorem dX4_joinQuarters_5 : decode cX4_joinQuarters 5 = .ok (.istore_n 2, 1) := by decide +kernel
theorem dX4_joinQuarters_6 : decode cX4_joinQuarters 6 = .ok (.aload_n 0, 1) := by decide +kernel
theorem dX4_joinQuarters_7 : decode cX4_joinQuarters 7 = .ok (.iload_n 1, 1) := by decide +kernel
theorem dX4_joinQuarters_8 : decode cX4_joinQuarters 8 = .ok (.invokevirtual 166, 3) := by decide +kernel
theorem dX4_joinQuarters_11 : decode cX4_joinQuarters 11 = .ok (.istore_n 3, 1) := by decide +kernel
theorem dX4_joinQuarters_12 : decode cX4_joinQuarters 12 = .ok (.aload_n 0, 1) := by decide +kernel
theorem dX4_joinQuarters_13 : decode cX4_joinQuarters 13 = .ok (.getfield 28, 3) := by decide +kernel
theorem dX4_joinQuarters_16 : decode cX4_joinQuarters 16 = .ok (.iload_n 1, 1) := by decide +kernel
theorem dX4_joinQuarters_17 : decode cX4_joinQuarters 17 = .ok (.invokevirtual 109, 3) := by decide +kernel
theorem dX4_joinQuarters_20 : decode cX4_joinQuarters 20 = .ok (.istore 4, 2) := by decide +kernel
theorem dX4_joinQuarters_22 : decode cX4_joinQuarters 22 = .ok (.iload_n 1, 1) := by decide +kernel
theorem dX4_joinQuarters_23 : decode cX4_joinQuarters 23 = .ok (.istore 5, 2) := by decide +kernel
theorem dX4_joinQuarters_25 : decode cX4_joinQuarters 25 = .ok (.iconst 0, 1) := by decide +kernel
theorem dX4_joinQuarters_26 : decode cX4_joinQuarters 26 = .ok (.istore 6, 2) := by decide +kernel
theorem dX4_joinQuarters_28 : decode cX4_joinQuarters 28 = .ok (.iload 6, 2) := by decide +kernel
theorem dX4_joinQuarters_30 : decode cX4_joinQuarters 30 = .ok (.iconst 4, 1) := by decide +kernel
theorem dX4_joinQuarters_31 : decode cX4_joinQuarters 31 = .ok (.if_icmp .ge 26, 3) := by decide +kernel
theorem dX4_joinQuarters_34 : decode cX4_joinQuarters 34 = .ok (.iload 5, 2) := by decide +kernel
theorem dX4_joinQuarters_36 : decode cX4_joinQuarters 36 = .ok (.aload_n 0, 1) := by decide +kernel
theorem dX4_joinQuarters_37 : decode cX4_joinQuarters 37 = .ok (.iload_n 2, 1) := by decide +kernel
theorem dX4_joinQuarters_38 : decode cX4_joinQuarters 38 = .ok (.iload_n 3, 1) := by decide +kernel
theorem dX4_joinQuarters_39 : decode cX4_joinQuarters 39 = .ok (.iload 4, 2) := by decide +kernel
theorem dX4_joinQuarters_41 : decode cX4_joinQuarters 41 = .ok (.iload 6, 2) := by decide +kernel
theorem dX4_joinQuarters_43 : decode cX4_joinQuarters 43 = .ok (.invokevirtual 169, 3) := by decide +kernel
theorem dX4_joinQuarters_46 : decode cX4_joinQuarters 46 = .ok (.invokestatic 158, 3) := by decide +kernel
theorem dX4_joinQuarters_49 : decode cX4_joinQuarters 49 = .ok (.istore 5, 2) := by decide +kernel
theorem dX4_joinQuarters_51 : decode cX4_joinQuarters 51 = .ok (.iinc 6 1, 3) := by decide +kernel
theorem dX4_joinQuarters_54 : decode cX4_joinQuarters 54 = .ok (.goto (-26), 3) := by decide +kernel
theorem dX4_joinQuarters_57 : decode cX4_joinQuarters 57 = .ok (.iconst 0, 1) := by decide +kernel
theorem dX4_joinQuarters_58 : decode cX4_joinQuarters 58 = .ok (.istore 6, 2) := by decide +kernel
theorem dX4_joinQuarters_60 : decode cX4_joinQuarters 60 = .ok (.iload 6, 2) := by decide +kernel
theorem dX4_joinQuarters_62 : decode cX4_joinQuarters 62 = .ok (.iconst 4, 1) := by decide +kernel
theorem dX4_joinQuarters_63 : decode cX4_joinQuarters 63 = .ok (.if_icmp .ge 25, 3) := by decide +kernel
theorem dX4_joinQuarters_66 : decode cX4_joinQuarters 66 = .ok (.aload_n 0, 1) := by decide +kernel
theorem dX4_joinQuarters_67 : decode cX4_joinQuarters 67 = .ok (.aload_n 0, 1) := by decide +kernel
theorem dX4_joinQuarters_68 : decode cX4_joinQuarters 68 = .ok (.iload_n 2, 1) := by decide +kernel
theorem dX4_joinQuarters_69 : decode cX4_joinQuarters 69 = .ok (.iload_n 3, 1) := by decide +kernel
theorem dX4_joinQuarters_70 : decode cX4_joinQuarters 70 = .ok (.iload 4, 2) := by decide +kernel
theorem dX4_joinQuarters_72 : decode cX4_joinQuarters 72 = .ok (.iload 6, 2) := by decide +kernel
theorem dX4_joinQuarters_74 : decode cX4_joinQuarters 74 = .ok (.invokevirtual 169, 3) := by decide +kernel
theorem dX4_joinQuarters_77 : decode cX4_joinQuarters 77 = .ok (.iload 5, 2) := by decide +kernel
theorem dX4_joinQuarters_79 : decode cX4_joinQuarters 79 = .ok (.invokevirtual 172, 3) := by decide +kernel
theorem dX4_joinQuarters_82 : decode cX4_joinQuarters 82 = .ok (.iinc 6 1, 3) := by decide +kernel
theorem dX4_joinQuarters_85 : decode cX4_joinQuarters 85 = .ok (.goto (-25), 3) := by decide +kernel
theorem dX4_joinQuarters_88 : decode cX4_joinQuarters 88 = .ok (.aload_n 0, 1) := by decide +kernel
theorem dX4_joinQuarters_89 : decode cX4_joinQuarters 89 = .ok (.getfield 28, 3) := by decide +kernel
theorem dX4_joinQuarters_92 : decode cX4_joinQuarters 92 = .ok (.iload 5, 2) := by decide +kernel
theorem dX4_joinQuarters_94 : decode cX4_joinQuarters 94 = .ok (.iload_n 2, 1) := by decide +kernel
theorem dX4_joinQuarters_95 : decode cX4_joinQuarters 95 = .ok (.iload_n 3, 1) := by decide +kernel
theorem dX4_joinQuarters_96 : decode cX4_joinQuarters 96 = .ok (.iload 4, 2) := by decide +kernel
theorem dX4_joinQuarters_98 : decode cX4_joinQuarters 98 = .ok (.iconst 1, 1) := by decide +kernel
theorem dX4_joinQuarters_99 : decode cX4_joinQuarters 99 = .ok (.isub, 1) := by decide +kernel
theorem dX4_joinQuarters_100 : decode cX4_joinQuarters 100 = .ok (.invokevirtual 132, 3) := by decide +kernel
theorem dX4_joinQuarters_103 : decode cX4_joinQuarters 103 = .ok (.iload 5, 2) := by decide +kernel
theorem dX4_joinQuarters_105 : decode cX4_joinQuarters 105 = .ok (.ireturn, 1) := by decide +kernel
theorem dX4_absorb_0 : decode cX4_absorb 0 = .ok (.iload_n 1, 1) := by decide +kernel
theorem dX4_absorb_1 : decode cX4_absorb 1 = .ok (.iload_n 2, 1) := by decide +kernel
theorem dX4_absorb_2 : decode cX4_absorb 2 = .ok (.if_icmp .eq 35, 3) := by decide +kernel
theorem dX4_absorb_5 : decode cX4_absorb 5 = .ok (.aload_n 0, 1) := by decide +kernel
theorem dX4_absorb_6 : decode cX4_absorb 6 = .ok (.getfield 21, 3) := by decide +kernel
theorem dX4_absorb_9 : decode cX4_absorb 9 = .ok (.iload_n 1, 1) := by decide +kernel
theorem dX4_absorb_10 : decode cX4_absorb 10 = .ok (.iload_n 2, 1) := by decide +kernel
theorem dX4_absorb_11 : decode cX4_absorb 11 = .ok (.iconst 0, 1) := by decide +kernel
theorem dX4_absorb_12 : decode cX4_absorb 12 = .ok (.iconst 0, 1) := by decide +kernel
theorem dX4_absorb_13 : decode cX4_absorb 13 = .ok (.bipush 63, 2) := by decide +kernel
theorem dX4_absorb_15 : decode cX4_absorb 15 = .ok (.bipush 63, 2) := by decide +kernel
theorem dX4_absorb_17 : decode cX4_absorb 17 = .ok (.invokevirtual 144, 3) := by decide +kernel
theorem dX4_absorb_20 : decode cX4_absorb 20 = .ok (.aload_n 0, 1) := by decide +kernel
theorem dX4_absorb_21 : decode cX4_absorb 21 = .ok (.getfield 35, 3) := by decide +kernel
theorem dX4_absorb_24 : decode cX4_absorb 24 = .ok (.iload_n 1, 1) := by decide +kernel
theorem dX4_absorb_25 : decode cX4_absorb 25 = .ok (.iload_n 2, 1) := by decide +kernel
theorem dX4_absorb_26 : decode cX4_absorb 26 = .ok (.invokevirtual 175, 3) := by decide +kernel
theorem dX4_absorb_29 : decode cX4_absorb 29 = .ok (.aload_n 0, 1) := by decide +kernel
theorem dX4_absorb_30 : decode cX4_absorb 30 = .ok (.getfield 28, 3) := by decide +kernel
theorem dX4_absorb_33 : decode cX4_absorb 33 = .ok (.iload_n 1, 1) := by decide +kernel
theorem dX4_absorb_34 : decode cX4_absorb 34 = .ok (.invokevirtual 178, 3) := by decide +kernel
theorem dX4_absorb_37 : decode cX4_absorb 37 = .ok (.return_, 1) := by decide +kernel
theorem dX4_parishOfQuarter_0 : decode cX4_parishOfQuarter 0 = .ok (.iload_n 3, 1) := by decide +kernel
theorem dX4_parishOfQuarter_1 : decode cX4_parishOfQuarter 1 = .ok (.invokestatic 115, 3) := by decide +kernel
theorem dX4_parishOfQuarter_4 : decode cX4_parishOfQuarter 4 = .ok (.istore 5, 2) := by decide +kernel
theorem dX4_parishOfQuarter_6 : decode cX4_parishOfQuarter 6 = .ok (.aload_n 0, 1) := by decide +kernel
theorem dX4_parishOfQuarter_7 : decode cX4_parishOfQuarter 7 = .ok (.getfield 28, 3) := by decide +kernel
theorem dX4_parishOfQuarter_10 : decode cX4_parishOfQuarter 10 = .ok (.iload_n 1, 1) := by decide +kernel
theorem dX4_parishOfQuarter_11 : decode cX4_parishOfQuarter 11 = .ok (.iload 5, 2) := by decide +kernel
theorem dX4_parishOfQuarter_13 : decode cX4_parishOfQuarter 13 = .ok (.iload 4, 2) := by decide +kernel
theorem dX4_parishOfQuarter_15 : decode cX4_parishOfQuarter 15 = .ok (.invokestatic 122, 3) := by decide +kernel
theorem dX4_parishOfQuarter_18 : decode cX4_parishOfQuarter 18 = .ok (.iload_n 2, 1) := by decide +kernel
theorem dX4_parishOfQuarter_19 : decode cX4_parishOfQuarter 19 = .ok (.iload 5, 2) := by decide +kernel
theorem dX4_parishOfQuarter_21 : decode cX4_parishOfQuarter 21 = .ok (.iload 4, 2) := by decide +kernel
theorem dX4_parishOfQuarter_23 : decode cX4_parishOfQuarter 23 = .ok (.invokestatic 125, 3) := by decide +kernel
theorem dX4_parishOfQuarter_26 : decode cX4_parishOfQuarter 26 = .ok (.invokevirtual 49, 3) := by decide +kernel
theorem dX4_parishOfQuarter_29 : decode cX4_parishOfQuarter 29 = .ok (.ireturn, 1) := by decide +kernel
theorem dX4_leftAround_0 : decode cX4_leftAround 0 = .ok (.aload_n 0, 1) := by decide +kernel
theorem dX4_leftAround_1 : decode cX4_leftAround 1 = .ok (.getfield 28, 3) := by decide +kernel
theorem dX4_leftAround_4 : decode cX4_leftAround 4 = .ok (.iload_n 1, 1) := by decide +kernel
theorem dX4_leftAround_5 : decode cX4_leftAround 5 = .ok (.invokevirtual 78, 3) := by decide +kernel
theorem dX4_leftAround_8 : decode cX4_leftAround 8 = .ok (.aload_n 0, 1) := by decide +kernel
theorem dX4_leftAround_9 : decode cX4_leftAround 9 = .ok (.getfield 28, 3) := by decide +kernel
theorem dX4_leftAround_12 : decode cX4_leftAround 12 = .ok (.iload_n 1, 1) := by decide +kernel
theorem dX4_leftAround_13 : decode cX4_leftAround 13 = .ok (.invokevirtual 109, 3) := by decide +kernel
theorem dX4_leftAround_16 : decode cX4_leftAround 16 = .ok (.invokestatic 115, 3) := by decide +kernel
theorem dX4_leftAround_19 : decode cX4_leftAround 19 = .ok (.iconst (-1), 1) := by decide +kernel
theorem dX4_leftAround_20 : decode cX4_leftAround 20 = .ok (.ixor, 1) := by decide +kernel
theorem dX4_leftAround_21 : decode cX4_leftAround 21 = .ok (.iand, 1) := by decide +kernel
theorem dX4_leftAround_22 : decode cX4_leftAround 22 = .ok (.ireturn, 1) := by decide +kernel
theorem dX4_topAround_0 : decode cX4_topAround 0 = .ok (.aload_n 0, 1) := by decide +kernel
theorem dX4_topAround_1 : decode cX4_topAround 1 = .ok (.getfield 28, 3) := by decide +kernel
theorem dX4_topAround_4 : decode cX4_topAround 4 = .ok (.iload_n 1, 1) := by decide +kernel
theorem dX4_topAround_5 : decode cX4_topAround 5 = .ok (.invokevirtual 81, 3) := by decide +kernel
theorem dX4_topAround_8 : decode cX4_topAround 8 = .ok (.aload_n 0, 1) := by decide +kernel
theorem dX4_topAround_9 : decode cX4_topAround 9 = .ok (.getfield 28, 3) := by decide +kernel
theorem dX4_topAround_12 : decode cX4_topAround 12 = .ok (.iload_n 1, 1) := by decide +kernel
theorem dX4_topAround_13 : decode cX4_topAround 13 = .ok (.invokevirtual 109, 3) := by decide +kernel
theorem dX4_topAround_16 : decode cX4_topAround 16 = .ok (.invokestatic 115, 3) := by decide +kernel
theorem dX4_topAround_19 : decode cX4_topAround 19 = .ok (.iconst (-1), 1) := by decide +kernel
theorem dX4_topAround_20 : decode cX4_topAround 20 = .ok (.ixor, 1) := by decide +kernel
theorem dX4_topAround_21 : decode cX4_topAround 21 = .ok (.iand, 1) := by decide +kernel
theorem dX4_topAround_22 : decode cX4_topAround 22 = .ok (.ireturn, 1) := by decide +kernel
theorem dX5_init_0 : decode cX5_init 0 = .ok (.aload_n 0, 1) := by decide +kernel
theorem dX5_init_1 : decode cX5_init 1 = .ok (.invokespecial 1, 3) := by decide +kernel
theorem dX5_init_4 : decode cX5_init 4 = .ok (.aload_n 0, 1) := by decide +kernel
theorem dX5_init_5 : decode cX5_init 5 = .ok (.new 7, 3) := by decide +kernel
theorem dX5_init_8 : decode cX5_init 8 = .ok (.dup, 1) := by decide +kernel
theorem dX5_init_9 : decode cX5_init 9 = .ok (.invokespecial 9, 3) := by decide +kernel
theorem dX5_init_12 : decode cX5_init 12 = .ok (.putfield 10, 3) := by decide +kernel
theorem dX5_init_15 : decode cX5_init 15 = .ok (.aload_n 0, 1) := by decide +kernel
theorem dX5_init_16 : decode cX5_init 16 = .ok (.new 16, 3) := by decide +kernel
theorem dX5_init_19 : decode cX5_init 19 = .ok (.dup, 1) := by decide +kernel
theorem dX5_init_20 : decode cX5_init 20 = .ok (.invokespecial 18, 3) := by decide +kernel
theorem dX5_init_23 : decode cX5_init 23 = .ok (.putfield 19, 3) := by decide +kernel
theorem dX5_init_26 : decode cX5_init 26 = .ok (.return_, 1) := by decide +kernel
theorem dX5_add_0 : decode cX5_add 0 = .ok (.iload_n 1, 1) := by decide +kernel
theorem dX5_add_1 : decode cX5_add 1 = .ok (.iload_n 2, 1) := by decide +kernel
theorem dX5_add_2 : decode cX5_add 2 = .ok (.invokestatic 23, 3) := by decide +kernel
theorem dX5_add_5 : decode cX5_add 5 = .ok (.ifCond .eq 13, 3) := by decide +kernel
theorem dX5_add_8 : decode cX5_add 8 = .ok (.iload_n 3, 1) := by decide +kernel
theorem dX5_add_9 : decode cX5_add 9 = .ok (.iconst 1, 1) := by decide +kernel
theorem dX5_add_10 : decode cX5_add 10 = .ok (.bipush 100, 2) := by decide +kernel
theorem dX5_add_12 : decode cX5_add 12 = .ok (.invokestatic 27, 3) := by decide +kernel
theorem dX5_add_15 : decode cX5_add 15 = .ok (.ifCond .ne 5, 3) := by decide +kernel
theorem dX5_add_18 : decode cX5_add 18 = .ok (.iconst (-1), 1) := by decide +kernel
theorem dX5_add_19 : decode cX5_add 19 = .ok (.ireturn, 1) := by decide +kernel
theorem dX5_add_20 : decode cX5_add 20 = .ok (.aload_n 0, 1) := by decide +kernel
theorem dX5_add_21 : decode cX5_add 21 = .ok (.getfield 10, 3) := by decide +kernel
theorem dX5_add_24 : decode cX5_add 24 = .ok (.getfield 31, 3) := by decide +kernel
theorem dX5_add_27 : decode cX5_add 27 = .ok (.invokevirtual 35, 3) := by decide +kernel
theorem dX5_add_30 : decode cX5_add 30 = .ok (.ifCond .eq 6, 3) := by decide +kernel
theorem dX5_add_33 : decode cX5_add 33 = .ok (.bipush (-3), 2) := by decide +kernel
theorem dX5_add_35 : decode cX5_add 35 = .ok (.ireturn, 1) := by decide +kernel
theorem dX5_add_36 : decode cX5_add 36 = .ok (.aload_n 0, 1) := by decide +kernel
theorem dX5_add_37 : decode cX5_add 37 = .ok (.getfield 19, 3) := by decide +kernel
theorem dX5_add_40 : decode cX5_add 40 = .ok (.aload_n 0, 1) := by decide +kernel
theorem dX5_add_41 : decode cX5_add 41 = .ok (.getfield 10, 3) := by decide +kernel
theorem dX5_add_44 : decode cX5_add 44 = .ok (.invokevirtual 41, 3) := by decide +kernel
theorem dX5_add_47 : decode cX5_add 47 = .ok (.aload_n 0, 1) := by decide +kernel
theorem dX5_add_48 : decode cX5_add 48 = .ok (.getfield 10, 3) := by decide +kernel
theorem dX5_add_51 : decode cX5_add 51 = .ok (.iload_n 1, 1) := by decide +kernel
theorem dX5_add_52 : decode cX5_add 52 = .ok (.iload_n 2, 1) := by decide +kernel
theorem dX5_add_53 : decode cX5_add 53 = .ok (.iload_n 3, 1) := by decide +kernel
theorem dX5_add_54 : decode cX5_add 54 = .ok (.invokevirtual 45, 3) := by decide +kernel
theorem dX5_add_57 : decode cX5_add 57 = .ok (.istore 4, 2) := by decide +kernel
theorem dX5_add_59 : decode cX5_add 59 = .ok (.aload_n 0, 1) := by decide +kernel
theorem dX5_add_60 : decode cX5_add 60 = .ok (.getfield 10, 3) := by decide +kernel
theorem dX5_add_63 : decode cX5_add 63 = .ok (.invokevirtual 49, 3) := by decide +kernel
theorem dX5_add_66 : decode cX5_add 66 = .ok (.iload 4, 2) := by decide +kernel
theorem dX5_add_68 : decode cX5_add 68 = .ok (.ireturn, 1) := by decide +kernel
theorem dX5_remove_0 : decode cX5_remove 0 = .ok (.aload_n 0, 1) := by decide +kernel
theorem dX5_remove_1 : decode cX5_remove 1 = .ok (.getfield 10, 3) := by decide +kernel
theorem dX5_remove_4 : decode cX5_remove 4 = .ok (.getfield 31, 3) := by decide +kernel
theorem dX5_remove_7 : decode cX5_remove 7 = .ok (.iload_n 1, 1) := by decide +kernel
theorem dX5_remove_8 : decode cX5_remove 8 = .ok (.invokevirtual 52, 3) := by decide +kernel
theorem dX5_remove_11 : decode cX5_remove 11 = .ok (.ifCond .ne 5, 3) := by decide +kernel
theorem dX5_remove_14 : decode cX5_remove 14 = .ok (.iconst (-1), 1) := by decide +kernel
theorem dX5_remove_15 : decode cX5_remove 15 = .ok (.ireturn, 1) := by decide +kernel
theorem dX5_remove_16 : decode cX5_remove 16 = .ok (.aload_n 0, 1) := by decide +kernel
theorem dX5_remove_17 : decode cX5_remove 17 = .ok (.getfield 19, 3) := by decide +kernel
theorem dX5_remove_20 : decode cX5_remove 20 = .ok (.aload_n 0, 1) := by decide +kernel
theorem dX5_remove_21 : decode cX5_remove 21 = .ok (.getfield 10, 3) := by decide +kernel
theorem dX5_remove_24 : decode cX5_remove 24 = .ok (.invokevirtual 41, 3) := by decide +kernel
theorem dX5_remove_27 : decode cX5_remove 27 = .ok (.aload_n 0, 1) := by decide +kernel
theorem dX5_remove_28 : decode cX5_remove 28 = .ok (.getfield 10, 3) := by decide +kernel
theorem dX5_remove_31 : decode cX5_remove 31 = .ok (.getfield 31, 3) := by decide +kernel
theorem dX5_remove_34 : decode cX5_remove 34 = .ok (.iload_n 1, 1) := by decide +kernel
theorem dX5_remove_35 : decode cX5_remove 35 = .ok (.invokevirtual 56, 3) := by decide +kernel
theorem dX5_remove_38 : decode cX5_remove 38 = .ok (.aload_n 0, 1) := by decide +kernel
theorem dX5_remove_39 : decode cX5_remove 39 = .ok (.getfield 10, 3) := by decide +kernel
theorem dX5_remove_42 : decode cX5_remove 42 = .ok (.invokevirtual 49, 3) := by decide +kernel
theorem dX5_remove_45 : decode cX5_remove 45 = .ok (.aload_n 0, 1) := by decide +kernel
theorem dX5_remove_46 : decode cX5_remove 46 = .ok (.getfield 10, 3) := by decide +kernel
theorem dX5_remove_49 : decode cX5_remove 49 = .ok (.getfield 31, 3) := by decide +kernel
theorem dX5_remove_52 : decode cX5_remove 52 = .ok (.invokevirtual 60, 3) := by decide +kernel
theorem dX5_remove_55 : decode cX5_remove 55 = .ok (.ireturn, 1) := by decide +kernel
theorem dX5_move_0 : decode cX5_move 0 = .ok (.aload_n 0, 1) := by decide +kernel
theorem dX5_move_1 : decode cX5_move 1 = .ok (.getfield 10, 3) := by decide +kernel
theorem dX5_move_4 : decode cX5_move 4 = .ok (.getfield 31, 3) := by decide +kernel
theorem dX5_move_7 : decode cX5_move 7 = .ok (.iload_n 1, 1) := by decide +kernel
theorem dX5_move_8 : decode cX5_move 8 = .ok (.invokevirtual 52, 3) := by decide +kernel
theorem dX5_move_11 : decode cX5_move 11 = .ok (.ifCond .eq 11, 3) := by decide +kernel
theorem dX5_move_14 : decode cX5_move 14 = .ok (.iload_n 2, 1) := by decide +kernel
theorem dX5_move_15 : decode cX5_move 15 = .ok (.iload_n 3, 1) := by decide +kernel
theorem dX5_move_16 : decode cX5_move 16 = .ok (.invokestatic 23, 3) := by decide +kernel
theorem dX5_move_19 : decode cX5_move 19 = .ok (.ifCond .ne 5, 3) := by decide +kernel
theorem dX5_move_22 : decode cX5_move 22 = .ok (.iconst (-1), 1) := by decide +kernel
theorem dX5_move_23 : decode cX5_move 23 = .ok (.ireturn, 1) := by decide +kernel
theorem dX5_move_24 : decode cX5_move 24 = .ok (.aload_n 0, 1) := by decide +kernel
theorem dX5_move_25 : decode cX5_move 25 = .ok (.getfield 19, 3) := by decide +kernel
theorem dX5_move_28 : decode cX5_move 28 = .ok (.aload_n 0, 1) := by decide +kernel
theorem dX5_move_29 : decode cX5_move 29 = .ok (.getfield 10, 3) := by decide +kernel
theorem dX5_move_32 : decode cX5_move 32 = .ok (.invokevirtual 41, 3) := by decide +kernel
theorem dX5_move_35 : decode cX5_move 35 = .ok (.aload_n 0, 1) := by decide +kernel
theorem dX5_move_36 : decode cX5_move 36 = .ok (.getfield 10, 3) := by decide +kernel
theorem dX5_move_39 : decode cX5_move 39 = .ok (.iload_n 1, 1) := by decide +kernel
theorem dX5_move_40 : decode cX5_move 40 = .ok (.iload_n 2, 1) := by decide +kernel
theorem dX5_move_41 : decode cX5_move 41 = .ok (.iload_n 3, 1) := by decide +kernel
theorem dX5_move_42 : decode cX5_move 42 = .ok (.invokevirtual 64, 3) := by decide +kernel
theorem dX5_move_45 : decode cX5_move 45 = .ok (.istore 4, 2) := by decide +kernel
theorem dX5_move_47 : decode cX5_move 47 = .ok (.aload_n 0, 1) := by decide +kernel
theorem dX5_move_48 : decode cX5_move 48 = .ok (.getfield 10, 3) := by decide +kernel
theorem dX5_move_51 : decode cX5_move 51 = .ok (.invokevirtual 49, 3) := by decide +kernel
theorem dX5_move_54 : decode cX5_move 54 = .ok (.iload 4, 2) := by decide +kernel
theorem dX5_move_56 : decode cX5_move 56 = .ok (.ifCond .eq 7, 3) := by decide +kernel
theorem dX5_move_59 : decode cX5_move 59 = .ok (.iconst 1, 1) := by decide +kernel
theorem dX5_move_60 : decode cX5_move 60 = .ok (.goto 4, 3) := by decide +kernel
theorem dX5_move_63 : decode cX5_move 63 = .ok (.iconst 0, 1) := by decide +kernel
theorem dX5_move_64 : decode cX5_move 64 = .ok (.ireturn, 1) := by decide +kernel
theorem dX5_setCrowd_0 : decode cX5_setCrowd 0 = .ok (.iload_n 1, 1) := by decide +kernel
theorem dX5_setCrowd_1 : decode cX5_setCrowd 1 = .ok (.iconst 2, 1) := by decide +kernel
theorem dX5_setCrowd_2 : decode cX5_setCrowd 2 = .ok (.bipush 9, 2) := by decide +kernel
theorem dX5_setCrowd_4 : decode cX5_setCrowd 4 = .ok (.invokestatic 27, 3) := by decide +kernel
theorem dX5_setCrowd_7 : decode cX5_setCrowd 7 = .ok (.ifCond .ne 5, 3) := by decide +kernel
theorem dX5_setCrowd_10 : decode cX5_setCrowd 10 = .ok (.iconst (-1), 1) := by decide +kernel
theorem dX5_setCrowd_11 : decode cX5_setCrowd 11 = .ok (.ireturn, 1) := by decide +kernel
theorem dX5_setCrowd_12 : decode cX5_setCrowd 12 = .ok (.aload_n 0, 1) := by decide +kernel
theorem dX5_setCrowd_13 : decode cX5_setCrowd 13 = .ok (.getfield 19, 3) := by decide +kernel
theorem dX5_setCrowd_16 : decode cX5_setCrowd 16 = .ok (.aload_n 0, 1) := by decide +kernel
theorem dX5_setCrowd_17 : decode cX5_setCrowd 17 = .ok (.getfield 10, 3) := by decide +kernel
theorem dX5_setCrowd_20 : decode cX5_setCrowd 20 = .ok (.invokevirtual 41, 3) := by decide +kernel
theorem dX5_setCrowd_23 : decode cX5_setCrowd 23 = .ok (.aload_n 0, 1) := by decide +kernel
theorem dX5_setCrowd_24 : decode cX5_setCrowd 24 = .ok (.getfield 10, 3) := by decide +kernel
theorem dX5_setCrowd_27 : decode cX5_setCrowd 27 = .ok (.getfield 67, 3) := by decide +kernel
theorem dX5_setCrowd_30 : decode cX5_setCrowd 30 = .ok (.istore_n 2, 1) := by decide +kernel
theorem dX5_setCrowd_31 : decode cX5_setCrowd 31 = .ok (.aload_n 0, 1) := by decide +kernel
theorem dX5_setCrowd_32 : decode cX5_setCrowd 32 = .ok (.getfield 10, 3) := by decide +kernel
theorem dX5_setCrowd_35 : decode cX5_setCrowd 35 = .ok (.iload_n 1, 1) := by decide +kernel
theorem dX5_setCrowd_36 : decode cX5_setCrowd 36 = .ok (.putfield 67, 3) := by decide +kernel
theorem dX5_setCrowd_39 : decode cX5_setCrowd 39 = .ok (.aload_n 0, 1) := by decide +kernel
theorem dX5_setCrowd_40 : decode cX5_setCrowd 40 = .ok (.getfield 10, 3) := by decide +kernel
theorem dX5_setCrowd_43 : decode cX5_setCrowd 43 = .ok (.invokevirtual 49, 3) := by decide +kernel
theorem dX5_setCrowd_46 : decode cX5_setCrowd 46 = .ok (.iload_n 2, 1) := by decide +kernel
theorem dX5_setCrowd_47 : decode cX5_setCrowd 47 = .ok (.ireturn, 1) := by decide +kernel
theorem dX5_setTithe_0 : decode cX5_setTithe 0 = .ok (.iload_n 1, 1) := by decide +kernel
theorem dX5_setTithe_1 : decode cX5_setTithe 1 = .ok (.iconst 1, 1) := by decide +kernel
theorem dX5_setTithe_2 : decode cX5_setTithe 2 = .ok (.bipush 9, 2) := by decide +kernel
theorem dX5_setTithe_4 : decode cX5_setTithe 4 = .ok (.invokestatic 27, 3) := by decide +kernel
theorem dX5_setTithe_7 : decode cX5_setTithe 7 = .ok (.ifCond .ne 5, 3) := by decide +kernel
theorem dX5_setTithe_10 : decode cX5_setTithe 10 = .ok (.iconst (-1), 1) := by decide +kernel
theorem dX5_setTithe_11 : decode cX5_setTithe 11 = .ok (.ireturn, 1) := by decide +kernel
theorem dX5_setTithe_12 : decode cX5_setTithe 12 = .ok (.aload_n 0, 1) := by decide +kernel
theorem dX5_setTithe_13 : decode cX5_setTithe 13 = .ok (.getfield 19, 3) := by decide +kernel
theorem dX5_setTithe_16 : decode cX5_setTithe 16 = .ok (.aload_n 0, 1) := by decide +kernel
theorem dX5_setTithe_17 : decode cX5_setTithe 17 = .ok (.getfield 10, 3) := by decide +kernel
theorem dX5_setTithe_20 : decode cX5_setTithe 20 = .ok (.invokevirtual 41, 3) := by decide +kernel
theorem dX5_setTithe_23 : decode cX5_setTithe 23 = .ok (.aload_n 0, 1) := by decide +kernel
theorem dX5_setTithe_24 : decode cX5_setTithe 24 = .ok (.getfield 10, 3) := by decide +kernel
theorem dX5_setTithe_27 : decode cX5_setTithe 27 = .ok (.getfield 71, 3) := by decide +kernel
theorem dX5_setTithe_30 : decode cX5_setTithe 30 = .ok (.istore_n 2, 1) := by decide +kernel
theorem dX5_setTithe_31 : decode cX5_setTithe 31 = .ok (.aload_n 0, 1) := by decide +kernel
theorem dX5_setTithe_32 : decode cX5_setTithe 32 = .ok (.getfield 10, 3) := by decide +kernel
theorem dX5_setTithe_35 : decode cX5_setTithe 35 = .ok (.iload_n 1, 1) := by decide +kernel
theorem dX5_setTithe_36 : decode cX5_setTithe 36 = .ok (.putfield 71, 3) := by decide +kernel
theorem dX5_setTithe_39 : decode cX5_setTithe 39 = .ok (.aload_n 0, 1) := by decide +kernel
theorem dX5_setTithe_40 : decode cX5_setTithe 40 = .ok (.getfield 10, 3) := by decide +kernel
theorem dX5_setTithe_43 : decode cX5_setTithe 43 = .ok (.invokevirtual 49, 3) := by decide +kernel
theorem dX5_setTithe_46 : decode cX5_setTithe 46 = .ok (.iload_n 2, 1) := by decide +kernel
theorem dX5_setTithe_47 : decode cX5_setTithe 47 = .ok (.ireturn, 1) := by decide +kernel
theorem dX5_pay_0 : decode cX5_pay 0 = .ok (.aload_n 0, 1) := by decide +kernel
theorem dX5_pay_1 : decode cX5_pay 1 = .ok (.getfield 10, 3) := by decide +kernel
theorem dX5_pay_4 : decode cX5_pay 4 = .ok (.getfield 74, 3) := by decide +kernel
theorem dX5_pay_7 : decode cX5_pay 7 = .ok (.iload_n 1, 1) := by decide +kernel
theorem dX5_pay_8 : decode cX5_pay 8 = .ok (.invokevirtual 78, 3) := by decide +kernel
theorem dX5_pay_11 : decode cX5_pay 11 = .ok (.ifCond .ne 5, 3) := by decide +kernel
theorem dX5_pay_14 : decode cX5_pay 14 = .ok (.iconst (-1), 1) := by decide +kernel
theorem dX5_pay_15 : decode cX5_pay 15 = .ok (.ireturn, 1) := by decide +kernel
theorem dX5_pay_16 : decode cX5_pay 16 = .ok (.aload_n 0, 1) := by decide +kernel
theorem dX5_pay_17 : decode cX5_pay 17 = .ok (.getfield 19, 3) := by decide +kernel
theorem dX5_pay_20 : decode cX5_pay 20 = .ok (.aload_n 0, 1) := by decide +kernel
theorem dX5_pay_21 : decode cX5_pay 21 = .ok (.getfield 10, 3) := by decide +kernel
theorem dX5_pay_24 : decode cX5_pay 24 = .ok (.invokevirtual 41, 3) := by decide +kernel
theorem dX5_pay_27 : decode cX5_pay 27 = .ok (.aload_n 0, 1) := by decide +kernel
theorem dX5_pay_28 : decode cX5_pay 28 = .ok (.getfield 10, 3) := by decide +kernel
theorem dX5_pay_31 : decode cX5_pay 31 = .ok (.iload_n 1, 1) := by decide +kernel
theorem dX5_pay_32 : decode cX5_pay 32 = .ok (.invokevirtual 81, 3) := by decide +kernel
theorem dX5_pay_35 : decode cX5_pay 35 = .ok (.istore_n 2, 1) := by decide +kernel
theorem dX5_pay_36 : decode cX5_pay 36 = .ok (.aload_n 0, 1) := by decide +kernel
theorem dX5_pay_37 : decode cX5_pay 37 = .ok (.getfield 10, 3) := by decide +kernel
theorem dX5_pay_40 : decode cX5_pay 40 = .ok (.invokevirtual 49, 3) := by decide +kernel
theorem dX5_pay_43 : decode cX5_pay 43 = .ok (.iload_n 2, 1) := by decide +kernel
theorem dX5_pay_44 : decode cX5_pay 44 = .ok (.ireturn, 1) := by decide +kernel
theorem dX5_join_0 : decode cX5_join 0 = .ok (.aload_n 0, 1) := by decide +kernel
theorem dX5_join_1 : decode cX5_join 1 = .ok (.getfield 10, 3) := by decide +kernel
theorem dX5_join_4 : decode cX5_join 4 = .ok (.getfield 74, 3) := by decide +kernel
theorem dX5_join_7 : decode cX5_join 7 = .ok (.iload_n 1, 1) := by decide +kernel
theorem dX5_join_8 : decode cX5_join 8 = .ok (.invokevirtual 78, 3) := by decide +kernel
theorem dX5_join_11 : decode cX5_join 11 = .ok (.ifCond .ne 5, 3) := by decide +kernel
theorem dX5_join_14 : decode cX5_join 14 = .ok (.iconst (-1), 1) := by decide +kernel
theorem dX5_join_15 : decode cX5_join 15 = .ok (.ireturn, 1) := by decide +kernel
theorem dX5_join_16 : decode cX5_join 16 = .ok (.aload_n 0, 1) := by decide +kernel
theorem dX5_join_17 : decode cX5_join 17 = .ok (.getfield 10, 3) := by decide +kernel
theorem dX5_join_20 : decode cX5_join 20 = .ok (.iload_n 1, 1) := by decide +kernel
theorem dX5_join_21 : decode cX5_join 21 = .ok (.invokevirtual 85, 3) := by decide +kernel
theorem dX5_join_24 : decode cX5_join 24 = .ok (.ifCond .ne 6, 3) := by decide +kernel
theorem dX5_join_27 : decode cX5_join 27 = .ok (.bipush (-2), 2) := by decide +kernel
theorem dX5_join_29 : decode cX5_join 29 = .ok (.ireturn, 1) := by decide +kernel
theorem dX5_join_30 : decode cX5_join 30 = .ok (.aload_n 0, 1) := by decide +kernel
theorem dX5_join_31 : decode cX5_join 31 = .ok (.getfield 19, 3) := by decide +kernel
theorem dX5_join_34 : decode cX5_join 34 = .ok (.aload_n 0, 1) := by decide +kernel
theorem dX5_join_35 : decode cX5_join 35 = .ok (.getfield 10, 3) := by decide +kernel
theorem dX5_join_38 : decode cX5_join 38 = .ok (.invokevirtual 41, 3) := by decide +kernel
theorem dX5_join_41 : decode cX5_join 41 = .ok (.aload_n 0, 1) := by decide +kernel
theorem dX5_join_42 : decode cX5_join 42 = .ok (.getfield 10, 3) := by decide +kernel
theorem dX5_join_45 : decode cX5_join 45 = .ok (.iload_n 1, 1) := by decide +kernel
theorem dX5_join_46 : decode cX5_join 46 = .ok (.invokevirtual 88, 3) := by decide +kernel
theorem dX5_join_49 : decode cX5_join 49 = .ok (.istore_n 2, 1) := by decide +kernel
theorem dX5_join_50 : decode cX5_join 50 = .ok (.aload_n 0, 1) := by decide +kernel
theorem dX5_join_51 : decode cX5_join 51 = .ok (.getfield 10, 3) := by decide +kernel
theorem dX5_join_54 : decode cX5_join 54 = .ok (.invokevirtual 49, 3) := by decide +kernel
theorem dX5_join_57 : decode cX5_join 57 = .ok (.iload_n 2, 1) := by decide +kernel
theorem dX5_join_58 : decode cX5_join 58 = .ok (.ireturn, 1) := by decide +kernel
theorem dX5_undo_0 : decode cX5_undo 0 = .ok (.aload_n 0, 1) := by decide +kernel
theorem dX5_undo_1 : decode cX5_undo 1 = .ok (.getfield 19, 3) := by decide +kernel
theorem dX5_undo_4 : decode cX5_undo 4 = .ok (.invokevirtual 91, 3) := by decide +kernel
theorem dX5_undo_7 : decode cX5_undo 7 = .ok (.ifCond .eq 6, 3) := by decide +kernel
theorem dX5_undo_10 : decode cX5_undo 10 = .ok (.bipush (-2), 2) := by decide +kernel
theorem dX5_undo_12 : decode cX5_undo 12 = .ok (.ireturn, 1) := by decide +kernel
theorem dX5_undo_13 : decode cX5_undo 13 = .ok (.aload_n 0, 1) := by decide +kernel
theorem dX5_undo_14 : decode cX5_undo 14 = .ok (.getfield 19, 3) := by decide +kernel
theorem dX5_undo_17 : decode cX5_undo 17 = .ok (.aload_n 0, 1) := by decide +kernel
theorem dX5_undo_18 : decode cX5_undo 18 = .ok (.getfield 10, 3) := by decide +kernel
theorem dX5_undo_21 : decode cX5_undo 21 = .ok (.invokevirtual 94, 3) := by decide +kernel
theorem dX5_undo_24 : decode cX5_undo 24 = .ok (.aload_n 0, 1) := by decide +kernel
theorem dX5_undo_25 : decode cX5_undo 25 = .ok (.getfield 19, 3) := by decide +kernel
theorem dX5_undo_28 : decode cX5_undo 28 = .ok (.invokevirtual 97, 3) := by decide +kernel
theorem dX5_undo_31 : decode cX5_undo 31 = .ok (.ireturn, 1) := by decide +kernel
theorem dX5_count_0 : decode cX5_count 0 = .ok (.iload_n 1, 1) := by decide +kernel
theorem dX5_count_1 : decode cX5_count 1 = .ok (.tableswitch 174 0 10 #[59, 70, 81, 92, 103, 111, 119, 130, 138, 149, 166], 59) := by decide +kernel
theorem dX5_count_60 : decode cX5_count 60 = .ok (.aload_n 0, 1) := by decide +kernel
theorem dX5_count_61 : decode cX5_count 61 = .ok (.getfield 10, 3) := by decide +kernel
theorem dX5_count_64 : decode cX5_count 64 = .ok (.getfield 31, 3) := by decide +kernel
theorem dX5_count_67 : decode cX5_count 67 = .ok (.invokevirtual 60, 3) := by decide +kernel
theorem dX5_count_70 : decode cX5_count 70 = .ok (.ireturn, 1) := by decide +kernel
theorem dX5_count_71 : decode cX5_count 71 = .ok (.aload_n 0, 1) := by decide +kernel
theorem dX5_count_72 : decode cX5_count 72 = .ok (.getfield 10, 3) := by decide +kernel
theorem dX5_count_75 : decode cX5_count 75 = .ok (.getfield 31, 3) := by decide +kernel
theorem dX5_count_78 : decode cX5_count 78 = .ok (.invokevirtual 98, 3) := by decide +kernel
theorem dX5_count_81 : decode cX5_count 81 = .ok (.ireturn, 1) := by decide +kernel
theorem dX5_count_82 : decode cX5_count 82 = .ok (.aload_n 0, 1) := by decide +kernel
theorem dX5_count_83 : decode cX5_count 83 = .ok (.getfield 10, 3) := by decide +kernel
theorem dX5_count_86 : decode cX5_count 86 = .ok (.getfield 74, 3) := by decide +kernel
theorem dX5_count_89 : decode cX5_count 89 = .ok (.invokevirtual 101, 3) := by decide +kernel
theorem dX5_count_92 : decode cX5_count 92 = .ok (.ireturn, 1) := by decide +kernel
theorem dX5_count_93 : decode cX5_count 93 = .ok (.aload_n 0, 1) := by decide +kernel
theorem dX5_count_94 : decode cX5_count 94 = .ok (.getfield 10, 3) := by decide +kernel
theorem dX5_count_97 : decode cX5_count 97 = .ok (.getfield 74, 3) := by decide +kernel
theorem dX5_count_100 : decode cX5_count 100 = .ok (.invokevirtual 102, 3) := by decide +kernel
theorem dX5_count_103 : decode cX5_count 103 = .ok (.ireturn, 1) := by decide +kernel
theorem dX5_count_104 : decode cX5_count 104 = .ok (.aload_n 0, 1) := by decide +kernel
theorem dX5_count_105 : decode cX5_count 105 = .ok (.getfield 10, 3) := by decide +kernel
theorem dX5_count_108 : decode cX5_count 108 = .ok (.getfield 67, 3) := by decide +kernel
theorem dX5_count_111 : decode cX5_count 111 = .ok (.ireturn, 1) := by decide +kernel
theorem dX5_count_112 : decode cX5_count 112 = .ok (.aload_n 0, 1) := by decide +kernel
theorem dX5_count_113 : decode cX5_count 113 = .ok (.getfield 10, 3) := by decide +kernel
theorem dX5_count_116 : decode cX5_count 116 = .ok (.getfield 71, 3) := by decide +kernel
theorem dX5_count_119 : decode cX5_count 119 = .ok (.ireturn, 1) := by decide +kernel
theorem dX5_count_120 : decode cX5_count 120 = .ok (.aload_n 0, 1) := by decide +kernel
theorem dX5_count_121 : decode cX5_count 121 = .ok (.getfield 10, 3) := by decide +kernel
theorem dX5_count_124 : decode cX5_count 124 = .ok (.getfield 105, 3) := by decide +kernel
theorem dX5_count_127 : decode cX5_count 127 = .ok (.invokevirtual 109, 3) := by decide +kernel
theorem dX5_count_130 : decode cX5_count 130 = .ok (.ireturn, 1) := by decide +kernel
theorem dX5_count_131 : decode cX5_count 131 = .ok (.aload_n 0, 1) := by decide +kernel
theorem dX5_count_132 : decode cX5_count 132 = .ok (.getfield 10, 3) := by decide +kernel
theorem dX5_count_135 : decode cX5_count 135 = .ok (.invokevirtual 114, 3) := by decide +kernel
theorem dX5_count_138 : decode cX5_count 138 = .ok (.ireturn, 1) := by decide +kernel
theorem dX5_count_139 : decode cX5_count 139 = .ok (.aload_n 0, 1) := by decide +kernel
theorem dX5_count_140 : decode cX5_count 140 = .ok (.getfield 10, 3) := by decide +kernel
theorem dX5_count_143 : decode cX5_count 143 = .ok (.getfield 74, 3) := by decide +kernel
theorem dX5_count_146 : decode cX5_count 146 = .ok (.invokevirtual 117, 3) := by decide +kernel
theorem dX5_count_149 : decode cX5_count 149 = .ok (.ireturn, 1) := by decide +kernel
theorem dX5_count_150 : decode cX5_count 150 = .ok (.aload_n 0, 1) := by decide +kernel
theorem dX5_count_151 : decode cX5_count 151 = .ok (.getfield 10, 3) := by decide +kernel
theorem dX5_count_154 : decode cX5_count 154 = .ok (.getfield 31, 3) := by decide +kernel
theorem dX5_count_157 : decode cX5_count 157 = .ok (.iconst 0, 1) := by decide +kernel
theorem dX5_count_158 : decode cX5_count 158 = .ok (.iconst 0, 1) := by decide +kernel
theorem dX5_count_159 : decode cX5_count 159 = .ok (.bipush 63, 2) := by decide +kernel
theorem dX5_count_161 : decode cX5_count 161 = .ok (.bipush 63, 2) := by decide +kernel
theorem dX5_count_163 : decode cX5_count 163 = .ok (.invokevirtual 120, 3) := by decide +kernel
theorem dX5_count_166 : decode cX5_count 166 = .ok (.ireturn, 1) := by decide +kernel
theorem dX5_count_167 : decode cX5_count 167 = .ok (.aload_n 0, 1) := by decide +kernel
theorem dX5_count_168 : decode cX5_count 168 = .ok (.getfield 19, 3) := by decide +kernel
theorem dX5_count_171 : decode cX5_count 171 = .ok (.invokevirtual 97, 3) := by decide +kernel
theorem dX5_count_174 : decode cX5_count 174 = .ok (.ireturn, 1) := by decide +kernel
theorem dX5_count_175 : decode cX5_count 175 = .ok (.iconst (-1), 1) := by decide +kernel
theorem dX5_count_176 : decode cX5_count 176 = .ok (.ireturn, 1) := by decide +kernel
theorem dX5_point_0 : decode cX5_point 0 = .ok (.aload_n 0, 1) := by decide +kernel
theorem dX5_point_1 : decode cX5_point 1 = .ok (.getfield 10, 3) := by decide +kernel
theorem dX5_point_4 : decode cX5_point 4 = .ok (.getfield 31, 3) := by decide +kernel
theorem dX5_point_7 : decode cX5_point 7 = .ok (.iload_n 1, 1) := by decide +kernel
theorem dX5_point_8 : decode cX5_point 8 = .ok (.invokevirtual 52, 3) := by decide +kernel
theorem dX5_point_11 : decode cX5_point 11 = .ok (.ifCond .ne 5, 3) := by decide +kernel
theorem dX5_point_14 : decode cX5_point 14 = .ok (.iconst (-1), 1) := by decide +kernel
theorem dX5_point_15 : decode cX5_point 15 = .ok (.ireturn, 1) := by decide +kernel
theorem dX5_point_16 : decode cX5_point 16 = .ok (.iload_n 2, 1) := by decide +kernel
theorem dX5_point_17 : decode cX5_point 17 = .ok (.tableswitch 92 0 4 #[35, 47, 59, 71, 80], 35) := by decide +kernel
theorem dX5_point_52 : decode cX5_point 52 = .ok (.aload_n 0, 1) := by decide +kernel
theorem dX5_point_53 : decode cX5_point 53 = .ok (.getfield 10, 3) := by decide +kernel
theorem dX5_point_56 : decode cX5_point 56 = .ok (.getfield 31, 3) := by decide +kernel
theorem dX5_point_59 : decode cX5_point 59 = .ok (.iload_n 1, 1) := by decide +kernel
theorem dX5_point_60 : decode cX5_point 60 = .ok (.invokevirtual 124, 3) := by decide +kernel
theorem dX5_point_63 : decode cX5_point 63 = .ok (.ireturn, 1) := by decide +kernel
theorem dX5_point_64 : decode cX5_point 64 = .ok (.aload_n 0, 1) := by decide +kernel
theorem dX5_point_65 : decode cX5_point 65 = .ok (.getfield 10, 3) := by decide +kernel
theorem dX5_point_68 : decode cX5_point 68 = .ok (.getfield 31, 3) := by decide +kernel
theorem dX5_point_71 : decode cX5_point 71 = .ok (.iload_n 1, 1) := by decide +kernel
theorem dX5_point_72 : decode cX5_point 72 = .ok (.invokevirtual 127, 3) := by decide +kernel
theorem dX5_point_75 : decode cX5_point 75 = .ok (.ireturn, 1) := by decide +kernel
theorem dX5_point_76 : decode cX5_point 76 = .ok (.aload_n 0, 1) := by decide +kernel
theorem dX5_point_77 : decode cX5_point 77 = .ok (.getfield 10, 3) := by decide +kernel
theorem dX5_point_80 : decode cX5_point 80 = .ok (.getfield 31, 3) := by decide +kernel
theorem dX5_point_83 : decode cX5_point 83 = .ok (.iload_n 1, 1) := by decide +kernel
theorem dX5_point_84 : decode cX5_point 84 = .ok (.invokevirtual 130, 3) := by decide +kernel
theorem dX5_point_87 : decode cX5_point 87 = .ok (.ireturn, 1) := by decide +kernel
theorem dX5_point_88 : decode cX5_point 88 = .ok (.aload_n 0, 1) := by decide +kernel
theorem dX5_point_89 : decode cX5_point 89 = .ok (.getfield 10, 3) := by decide +kernel
theorem dX5_point_92 : decode cX5_point 92 = .ok (.iload_n 1, 1) := by decide +kernel
theorem dX5_point_93 : decode cX5_point 93 = .ok (.invokevirtual 133, 3) := by decide +kernel
theorem dX5_point_96 : decode cX5_point 96 = .ok (.ireturn, 1) := by decide +kernel
theorem dX5_point_97 : decode cX5_point 97 = .ok (.aload_n 0, 1) := by decide +kernel
theorem dX5_point_98 : decode cX5_point 98 = .ok (.getfield 10, 3) := by decide +kernel
theorem dX5_point_101 : decode cX5_point 101 = .ok (.getfield 31, 3) := by decide +kernel
theorem dX5_point_104 : decode cX5_point 104 = .ok (.iload_n 1, 1) := by decide +kernel
theorem dX5_point_105 : decode cX5_point 105 = .ok (.invokevirtual 136, 3) := by decide +kernel
theorem dX5_point_108 : decode cX5_point 108 = .ok (.ireturn, 1) := by decide +kernel
theorem dX5_point_109 : decode cX5_point 109 = .ok (.iconst (-1), 1) := by decide +kernel
theorem dX5_point_110 : decode cX5_point 110 = .ok (.ireturn, 1) := by decide +kernel
theorem dX5_parish_0 : decode cX5_parish 0 = .ok (.aload_n 0, 1) := by decide +kernel
theorem dX5_parish_1 : decode cX5_parish 1 = .ok (.getfield 10, 3) := by decide +kernel
theorem dX5_parish_4 : decode cX5_parish 4 = .ok (.getfield 74, 3) := by decide +kernel
theorem dX5_parish_7 : decode cX5_parish 7 = .ok (.iload_n 1, 1) := by decide +kernel
theorem dX5_parish_8 : decode cX5_parish 8 = .ok (.invokevirtual 78, 3) := by decide +kernel
theorem dX5_parish_11 : decode cX5_parish 11 = .ok (.ifCond .ne 5, 3) := by decide +kernel
theorem dX5_parish_14 : decode cX5_parish 14 = .ok (.iconst (-1), 1) := by decide +kernel
theorem dX5_parish_15 : decode cX5_parish 15 = .ok (.ireturn, 1) := by decide +kernel
theorem dX5_parish_16 : decode cX5_parish 16 = .ok (.iload_n 2, 1) := by decide +kernel
theorem dX5_parish_17 : decode cX5_parish 17 = .ok (.tableswitch 140 0 7 #[47, 59, 71, 83, 92, 104, 116, 128], 47) := by decide +kernel
theorem dX5_parish_64 : decode cX5_parish 64 = .ok (.aload_n 0, 1) := by decide +kernel
theorem dX5_parish_65 : decode cX5_parish 65 = .ok (.getfield 10, 3) := by decide +kernel
theorem dX5_parish_68 : decode cX5_parish 68 = .ok (.getfield 74, 3) := by decide +kernel
theorem dX5_parish_71 : decode cX5_parish 71 = .ok (.iload_n 1, 1) := by decide +kernel
theorem dX5_parish_72 : decode cX5_parish 72 = .ok (.invokevirtual 139, 3) := by decide +kernel
theorem dX5_parish_75 : decode cX5_parish 75 = .ok (.ireturn, 1) := by decide +kernel
theorem dX5_parish_76 : decode cX5_parish 76 = .ok (.aload_n 0, 1) := by decide +kernel
theorem dX5_parish_77 : decode cX5_parish 77 = .ok (.getfield 10, 3) := by decide +kernel
theorem dX5_parish_80 : decode cX5_parish 80 = .ok (.getfield 74, 3) := by decide +kernel
theorem dX5_parish_83 : decode cX5_parish 83 = .ok (.iload_n 1, 1) := by decide +kernel
theorem dX5_parish_84 : decode cX5_parish 84 = .ok (.invokevirtual 142, 3) := by decide +kernel
theorem dX5_parish_87 : decode cX5_parish 87 = .ok (.ireturn, 1) := by decide +kernel
theorem dX5_parish_88 : decode cX5_parish 88 = .ok (.aload_n 0, 1) := by decide +kernel
theorem dX5_parish_89 : decode cX5_parish 89 = .ok (.getfield 10, 3) := by decide +kernel
theorem dX5_parish_92 : decode cX5_parish 92 = .ok (.getfield 74, 3) := by decide +kernel
theorem dX5_parish_95 : decode cX5_parish 95 = .ok (.iload_n 1, 1) := by decide +kernel
theorem dX5_parish_96 : decode cX5_parish 96 = .ok (.invokevirtual 145, 3) := by decide +kernel
theorem dX5_parish_99 : decode cX5_parish 99 = .ok (.ireturn, 1) := by decide +kernel
theorem dX5_parish_100 : decode cX5_parish 100 = .ok (.aload_n 0, 1) := by decide +kernel
theorem dX5_parish_101 : decode cX5_parish 101 = .ok (.getfield 10, 3) := by decide +kernel
theorem dX5_parish_104 : decode cX5_parish 104 = .ok (.iload_n 1, 1) := by decide +kernel
theorem dX5_parish_105 : decode cX5_parish 105 = .ok (.invokevirtual 148, 3) := by decide +kernel
theorem dX5_parish_108 : decode cX5_parish 108 = .ok (.ireturn, 1) := by decide +kernel
theorem dX5_parish_109 : decode cX5_parish 109 = .ok (.aload_n 0, 1) := by decide +kernel
theorem dX5_parish_110 : decode cX5_parish 110 = .ok (.getfield 10, 3) := by decide +kernel
theorem dX5_parish_113 : decode cX5_parish 113 = .ok (.getfield 31, 3) := by decide +kernel
theorem dX5_parish_116 : decode cX5_parish 116 = .ok (.iload_n 1, 1) := by decide +kernel
theorem dX5_parish_117 : decode cX5_parish 117 = .ok (.invokevirtual 151, 3) := by decide +kernel
theorem dX5_parish_120 : decode cX5_parish 120 = .ok (.ireturn, 1) := by decide +kernel
theorem dX5_parish_121 : decode cX5_parish 121 = .ok (.aload_n 0, 1) := by decide +kernel
theorem dX5_parish_122 : decode cX5_parish 122 = .ok (.getfield 10, 3) := by decide +kernel
theorem dX5_parish_125 : decode cX5_parish 125 = .ok (.getfield 31, 3) := by decide +kernel
theorem dX5_parish_128 : decode cX5_parish 128 = .ok (.iload_n 1, 1) := by decide +kernel
theorem dX5_parish_129 : decode cX5_parish 129 = .ok (.invokevirtual 154, 3) := by decide +kernel
theorem dX5_parish_132 : decode cX5_parish 132 = .ok (.ireturn, 1) := by decide +kernel
theorem dX5_parish_133 : decode cX5_parish 133 = .ok (.aload_n 0, 1) := by decide +kernel
theorem dX5_parish_134 : decode cX5_parish 134 = .ok (.getfield 10, 3) := by decide +kernel
theorem dX5_parish_137 : decode cX5_parish 137 = .ok (.getfield 105, 3) := by decide +kernel
theorem dX5_parish_140 : decode cX5_parish 140 = .ok (.iload_n 1, 1) := by decide +kernel
theorem dX5_parish_141 : decode cX5_parish 141 = .ok (.invokevirtual 157, 3) := by decide +kernel
theorem dX5_parish_144 : decode cX5_parish 144 = .ok (.ireturn, 1) := by decide +kernel
theorem dX5_parish_145 : decode cX5_parish 145 = .ok (.aload_n 0, 1) := by decide +kernel
theorem dX5_parish_146 : decode cX5_parish 146 = .ok (.getfield 10, 3) := by decide +kernel
theorem dX5_parish_149 : decode cX5_parish 149 = .ok (.getfield 105, 3) := by decide +kernel
theorem dX5_parish_152 : decode cX5_parish 152 = .ok (.iload_n 1, 1) := by decide +kernel
theorem dX5_parish_153 : decode cX5_parish 153 = .ok (.invokevirtual 160, 3) := by decide +kernel
theorem dX5_parish_156 : decode cX5_parish 156 = .ok (.ireturn, 1) := by decide +kernel
theorem dX5_parish_157 : decode cX5_parish 157 = .ok (.iconst (-1), 1) := by decide +kernel
theorem dX5_parish_158 : decode cX5_parish 158 = .ok (.ireturn, 1) := by decide +kernel
theorem dX5_debt_0 : decode cX5_debt 0 = .ok (.aload_n 0, 1) := by decide +kernel
theorem dX5_debt_1 : decode cX5_debt 1 = .ok (.getfield 10, 3) := by decide +kernel
theorem dX5_debt_4 : decode cX5_debt 4 = .ok (.getfield 74, 3) := by decide +kernel
theorem dX5_debt_7 : decode cX5_debt 7 = .ok (.iload_n 1, 1) := by decide +kernel
theorem dX5_debt_8 : decode cX5_debt 8 = .ok (.invokevirtual 78, 3) := by decide +kernel
theorem dX5_debt_11 : decode cX5_debt 11 = .ok (.ifCond .eq 17, 3) := by decide +kernel
theorem dX5_debt_14 : decode cX5_debt 14 = .ok (.aload_n 0, 1) := by decide +kernel
theorem dX5_debt_15 : decode cX5_debt 15 = .ok (.getfield 10, 3) := by decide +kernel
theorem dX5_debt_18 : decode cX5_debt 18 = .ok (.getfield 74, 3) := by decide +kernel
theorem dX5_debt_21 : decode cX5_debt 21 = .ok (.iload_n 2, 1) := by decide +kernel
theorem dX5_debt_22 : decode cX5_debt 22 = .ok (.invokevirtual 78, 3) := by decide +kernel
theorem dX5_debt_25 : decode cX5_debt 25 = .ok (.ifCond .ne 5, 3) := by decide +kernel
theorem dX5_debt_28 : decode cX5_debt 28 = .ok (.iconst (-1), 1) := by decide +kernel
theorem dX5_debt_29 : decode cX5_debt 29 = .ok (.ireturn, 1) := by decide +kernel
theorem dX5_debt_30 : decode cX5_debt 30 = .ok (.aload_n 0, 1) := by decide +kernel
theorem dX5_debt_31 : decode cX5_debt 31 = .ok (.getfield 10, 3) := by decide +kernel
theorem dX5_debt_34 : decode cX5_debt 34 = .ok (.getfield 105, 3) := by decide +kernel
theorem dX5_debt_37 : decode cX5_debt 37 = .ok (.iload_n 1, 1) := by decide +kernel
theorem dX5_debt_38 : decode cX5_debt 38 = .ok (.iload_n 2, 1) := by decide +kernel
theorem dX5_debt_39 : decode cX5_debt 39 = .ok (.invokevirtual 163, 3) := by decide +kernel
theorem dX5_debt_42 : decode cX5_debt 42 = .ok (.ireturn, 1) := by decide +kernel
theorem dX5_at_0 : decode cX5_at 0 = .ok (.iload_n 1, 1) := by decide +kernel
theorem dX5_at_1 : decode cX5_at 1 = .ok (.iload_n 2, 1) := by decide +kernel
theorem dX5_at_2 : decode cX5_at 2 = .ok (.invokestatic 23, 3) := by decide +kernel
theorem dX5_at_5 : decode cX5_at 5 = .ok (.ifCond .eq 18, 3) := by decide +kernel
theorem dX5_at_8 : decode cX5_at 8 = .ok (.aload_n 0, 1) := by decide +kernel
theorem dX5_at_9 : decode cX5_at 9 = .ok (.getfield 10, 3) := by decide +kernel
theorem dX5_at_12 : decode cX5_at 12 = .ok (.getfield 74, 3) := by decide +kernel
theorem dX5_at_15 : decode cX5_at 15 = .ok (.iload_n 1, 1) := by decide +kernel
theorem dX5_at_16 : decode cX5_at 16 = .ok (.iload_n 2, 1) := by decide +kernel
theorem dX5_at_17 : decode cX5_at 17 = .ok (.invokevirtual 167, 3) := by decide +kernel
theorem dX5_at_20 : decode cX5_at 20 = .ok (.goto 4, 3) := by decide +kernel
theorem dX5_at_23 : decode cX5_at 23 = .ok (.iconst (-1), 1) := by decide +kernel
theorem dX5_at_24 : decode cX5_at 24 = .ok (.ireturn, 1) := by decide +kernel
theorem dX5_range_0 : decode cX5_range 0 = .ok (.iload_n 1, 1) := by decide +kernel
theorem dX5_range_1 : decode cX5_range 1 = .ok (.iload_n 2, 1) := by decide +kernel
theorem dX5_range_2 : decode cX5_range 2 = .ok (.invokestatic 23, 3) := by decide +kernel
theorem dX5_range_5 : decode cX5_range 5 = .ok (.ifCond .eq 23, 3) := by decide +kernel
theorem dX5_range_8 : decode cX5_range 8 = .ok (.iload_n 3, 1) := by decide +kernel
theorem dX5_range_9 : decode cX5_range 9 = .ok (.iload 4, 2) := by decide +kernel
theorem dX5_range_11 : decode cX5_range 11 = .ok (.invokestatic 23, 3) := by decide +kernel
theorem dX5_range_14 : decode cX5_range 14 = .ok (.ifCond .eq 14, 3) := by decide +kernel
theorem dX5_range_17 : decode cX5_range 17 = .ok (.iload_n 3, 1) := by decide +kernel
theorem dX5_range_18 : decode cX5_range 18 = .ok (.iload_n 1, 1) := by decide +kernel
theorem dX5_range_19 : decode cX5_range 19 = .ok (.if_icmp .lt 9, 3) := by decide +kernel
theorem dX5_range_22 : decode cX5_range 22 = .ok (.iload 4, 2) := by decide +kernel
theorem dX5_range_24 : decode cX5_range 24 = .ok (.iload_n 2, 1) := by decide +kernel
theorem dX5_range_25 : decode cX5_range 25 = .ok (.if_icmp .ge 5, 3) := by decide +kernel
theorem dX5_range_28 : decode cX5_range 28 = .ok (.iconst (-1), 1) := by decide +kernel
theorem dX5_range_29 : decode cX5_range 29 = .ok (.ireturn, 1) := by decide +kernel
theorem dX5_range_30 : decode cX5_range 30 = .ok (.iload 5, 2) := by decide +kernel
theorem dX5_range_32 : decode cX5_range 32 = .ok (.tableswitch 96 0 3 #[32, 48, 64, 80], 32) := by decide +kernel
theorem dX5_range_64 : decode cX5_range 64 = .ok (.aload_n 0, 1) := by decide +kernel
theorem dX5_range_65 : decode cX5_range 65 = .ok (.getfield 10, 3) := by decide +kernel
theorem dX5_range_68 : decode cX5_range 68 = .ok (.getfield 31, 3) := by decide +kernel
theorem dX5_range_71 : decode cX5_range 71 = .ok (.iload_n 1, 1) := by decide +kernel
theorem dX5_range_72 : decode cX5_range 72 = .ok (.iload_n 2, 1) := by decide +kernel
theorem dX5_range_73 : decode cX5_range 73 = .ok (.iload_n 3, 1) := by decide +kernel
theorem dX5_range_74 : decode cX5_range 74 = .ok (.iload 4, 2) := by decide +kernel
theorem dX5_range_76 : decode cX5_range 76 = .ok (.invokevirtual 170, 3) := by decide +kernel
theorem dX5_range_79 : decode cX5_range 79 = .ok (.ireturn, 1) := by decide +kernel
theorem dX5_range_80 : decode cX5_range 80 = .ok (.aload_n 0, 1) := by decide +kernel
theorem dX5_range_81 : decode cX5_range 81 = .ok (.getfield 10, 3) := by decide +kernel
theorem dX5_range_84 : decode cX5_range 84 = .ok (.getfield 31, 3) := by decide +kernel
theorem dX5_range_87 : decode cX5_range 87 = .ok (.iload_n 1, 1) := by decide +kernel
theorem dX5_range_88 : decode cX5_range 88 = .ok (.iload_n 2, 1) := by decide +kernel
theorem dX5_range_89 : decode cX5_range 89 = .ok (.iload_n 3, 1) := by decide +kernel
theorem dX5_range_90 : decode cX5_range 90 = .ok (.iload 4, 2) := by decide +kernel
theorem dX5_range_92 : decode cX5_range 92 = .ok (.invokevirtual 120, 3) := by decide +kernel
theorem dX5_range_95 : decode cX5_range 95 = .ok (.ireturn, 1) := by decide +kernel
theorem dX5_range_96 : decode cX5_range 96 = .ok (.aload_n 0, 1) := by decide +kernel
theorem dX5_range_97 : decode cX5_range 97 = .ok (.getfield 10, 3) := by decide +kernel
theorem dX5_range_100 : decode cX5_range 100 = .ok (.getfield 74, 3) := by decide +kernel
theorem dX5_range_103 : decode cX5_range 103 = .ok (.iload_n 1, 1) := by decide +kernel
theorem dX5_range_104 : decode cX5_range 104 = .ok (.iload_n 2, 1) := by decide +kernel
theorem dX5_range_105 : decode cX5_range 105 = .ok (.iload_n 3, 1) := by decide +kernel
theorem dX5_range_106 : decode cX5_range 106 = .ok (.iload 4, 2) := by decide +kernel
theorem dX5_range_108 : decode cX5_range 108 = .ok (.invokevirtual 173, 3) := by decide +kernel
theorem dX5_range_111 : decode cX5_range 111 = .ok (.ireturn, 1) := by decide +kernel
theorem dX5_range_112 : decode cX5_range 112 = .ok (.aload_n 0, 1) := by decide +kernel
theorem dX5_range_113 : decode cX5_range 113 = .ok (.getfield 10, 3) := by decide +kernel
theorem dX5_range_116 : decode cX5_range 116 = .ok (.getfield 31, 3) := by decide +kernel
theorem dX5_range_119 : decode cX5_range 119 = .ok (.iload_n 1, 1) := by decide +kernel
theorem dX5_range_120 : decode cX5_range 120 = .ok (.iload_n 2, 1) := by decide +kernel
theorem dX5_range_121 : decode cX5_range 121 = .ok (.iload_n 3, 1) := by decide +kernel
theorem dX5_range_122 : decode cX5_range 122 = .ok (.iload 4, 2) := by decide +kernel
theorem dX5_range_124 : decode cX5_range 124 = .ok (.invokevirtual 176, 3) := by decide +kernel
theorem dX5_range_127 : decode cX5_range 127 = .ok (.ireturn, 1) := by decide +kernel
theorem dX5_range_128 : decode cX5_range 128 = .ok (.iconst (-1), 1) := by decide +kernel
theorem dX5_range_129 : decode cX5_range 129 = .ok (.ireturn, 1) := by decide +kernel
theorem dX5_nearest_0 : decode cX5_nearest 0 = .ok (.iload_n 1, 1) := by decide +kernel
theorem dX5_nearest_1 : decode cX5_nearest 1 = .ok (.iload_n 2, 1) := by decide +kernel
theorem dX5_nearest_2 : decode cX5_nearest 2 = .ok (.invokestatic 23, 3) := by decide +kernel
theorem dX5_nearest_5 : decode cX5_nearest 5 = .ok (.ifCond .eq 18, 3) := by decide +kernel
theorem dX5_nearest_8 : decode cX5_nearest 8 = .ok (.aload_n 0, 1) := by decide +kernel
theorem dX5_nearest_9 : decode cX5_nearest 9 = .ok (.getfield 10, 3) := by decide +kernel
theorem dX5_nearest_12 : decode cX5_nearest 12 = .ok (.getfield 31, 3) := by decide +kernel
theorem dX5_nearest_15 : decode cX5_nearest 15 = .ok (.iload_n 1, 1) := by decide +kernel
theorem dX5_nearest_16 : decode cX5_nearest 16 = .ok (.iload_n 2, 1) := by decide +kernel
theorem dX5_nearest_17 : decode cX5_nearest 17 = .ok (.invokevirtual 179, 3) := by decide +kernel
theorem dX5_nearest_20 : decode cX5_nearest 20 = .ok (.goto 4, 3) := by decide +kernel
theorem dX5_nearest_23 : decode cX5_nearest 23 = .ok (.iconst (-1), 1) := by decide +kernel
theorem dX5_nearest_24 : decode cX5_nearest 24 = .ok (.ireturn, 1) := by decide +kernel
theorem dX5_inOrder_0 : decode cX5_inOrder 0 = .ok (.iload_n 1, 1) := by decide +kernel
theorem dX5_inOrder_1 : decode cX5_inOrder 1 = .ok (.ifCond .ge 7, 3) := by decide +kernel
theorem dX5_inOrder_4 : decode cX5_inOrder 4 = .ok (.iconst (-1), 1) := by decide +kernel
theorem dX5_inOrder_5 : decode cX5_inOrder 5 = .ok (.goto 14, 3) := by decide +kernel
theorem dX5_inOrder_8 : decode cX5_inOrder 8 = .ok (.aload_n 0, 1) := by decide +kernel
theorem dX5_inOrder_9 : decode cX5_inOrder 9 = .ok (.getfield 10, 3) := by decide +kernel
theorem dX5_inOrder_12 : decode cX5_inOrder 12 = .ok (.getfield 74, 3) := by decide +kernel
theorem dX5_inOrder_15 : decode cX5_inOrder 15 = .ok (.iload_n 1, 1) := by decide +kernel
theorem dX5_inOrder_16 : decode cX5_inOrder 16 = .ok (.invokevirtual 182, 3) := by decide +kernel
theorem dX5_inOrder_19 : decode cX5_inOrder 19 = .ok (.ireturn, 1) := by decide +kernel
theorem dX5_payable_0 : decode cX5_payable 0 = .ok (.aload_n 0, 1) := by decide +kernel
theorem dX5_payable_1 : decode cX5_payable 1 = .ok (.getfield 10, 3) := by decide +kernel
theorem dX5_payable_4 : decode cX5_payable 4 = .ok (.getfield 74, 3) := by decide +kernel
theorem dX5_payable_7 : decode cX5_payable 7 = .ok (.iload_n 1, 1) := by decide +kernel
theorem dX5_payable_8 : decode cX5_payable 8 = .ok (.invokevirtual 78, 3) := by decide +kernel
theorem dX5_payable_11 : decode cX5_payable 11 = .ok (.ifCond .eq 14, 3) := by decide +kernel
theorem dX5_payable_14 : decode cX5_payable 14 = .ok (.aload_n 0, 1) := by decide +kernel
theorem dX5_payable_15 : decode cX5_payable 15 = .ok (.getfield 10, 3) := by decide +kernel
theorem dX5_payable_18 : decode cX5_payable 18 = .ok (.iload_n 1, 1) := by decide +kernel
theorem dX5_payable_19 : decode cX5_payable 19 = .ok (.invokevirtual 185, 3) := by decide +kernel
theorem dX5_payable_22 : decode cX5_payable 22 = .ok (.goto 4, 3) := by decide +kernel
theorem dX5_payable_25 : decode cX5_payable 25 = .ok (.iconst (-1), 1) := by decide +kernel
theorem dX5_payable_26 : decode cX5_payable 26 = .ok (.ireturn, 1) := by decide +kernel
theorem dX5_cellsWith_0 : decode cX5_cellsWith 0 = .ok (.iload_n 1, 1) := by decide +kernel
theorem dX5_cellsWith_1 : decode cX5_cellsWith 1 = .ok (.iconst 2, 1) := by decide +kernel
theorem dX5_cellsWith_2 : decode cX5_cellsWith 2 = .ok (.bipush 9, 2) := by decide +kernel
theorem dX5_cellsWith_4 : decode cX5_cellsWith 4 = .ok (.invokestatic 27, 3) := by decide +kernel
theorem dX5_cellsWith_7 : decode cX5_cellsWith 7 = .ok (.ifCond .ne 5, 3) := by decide +kernel
theorem dX5_cellsWith_10 : decode cX5_cellsWith 10 = .ok (.iconst (-1), 1) := by decide +kernel
theorem dX5_cellsWith_11 : decode cX5_cellsWith 11 = .ok (.ireturn, 1) := by decide +kernel
theorem dX5_cellsWith_12 : decode cX5_cellsWith 12 = .ok (.aload_n 0, 1) := by decide +kernel
theorem dX5_cellsWith_13 : decode cX5_cellsWith 13 = .ok (.getfield 10, 3) := by decide +kernel
theorem dX5_cellsWith_16 : decode cX5_cellsWith 16 = .ok (.getfield 31, 3) := by decide +kernel
theorem dX5_cellsWith_19 : decode cX5_cellsWith 19 = .ok (.iload_n 1, 1) := by decide +kernel
theorem dX5_cellsWith_20 : decode cX5_cellsWith 20 = .ok (.invokevirtual 188, 3) := by decide +kernel
theorem dX5_cellsWith_23 : decode cX5_cellsWith 23 = .ok (.ireturn, 1) := by decide +kernel
theorem dX5_joinable_0 : decode cX5_joinable 0 = .ok (.iconst 0, 1) := by decide +kernel
theorem dX5_joinable_1 : decode cX5_joinable 1 = .ok (.istore_n 1, 1) := by decide +kernel
theorem dX5_joinable_2 : decode cX5_joinable 2 = .ok (.iload_n 1, 1) := by decide +kernel
theorem dX5_joinable_3 : decode cX5_joinable 3 = .ok (.bipush 40, 2) := by decide +kernel
theorem dX5_joinable_5 : decode cX5_joinable 5 = .ok (.if_icmp .ge 22, 3) := by decide +kernel
theorem dX5_joinable_8 : decode cX5_joinable 8 = .ok (.aload_n 0, 1) := by decide +kernel
theorem dX5_joinable_9 : decode cX5_joinable 9 = .ok (.getfield 10, 3) := by decide +kernel
theorem dX5_joinable_12 : decode cX5_joinable 12 = .ok (.iload_n 1, 1) := by decide +kernel
theorem dX5_joinable_13 : decode cX5_joinable 13 = .ok (.invokevirtual 85, 3) := by decide +kernel
theorem dX5_joinable_16 : decode cX5_joinable 16 = .ok (.ifCond .eq 5, 3) := by decide +kernel
theorem dX5_joinable_19 : decode cX5_joinable 19 = .ok (.iload_n 1, 1) := by decide +kernel
theorem dX5_joinable_20 : decode cX5_joinable 20 = .ok (.ireturn, 1) := by decide +kernel
theorem dX5_joinable_21 : decode cX5_joinable 21 = .ok (.iinc 1 1, 3) := by decide +kernel
theorem dX5_joinable_24 : decode cX5_joinable 24 = .ok (.goto (-22), 3) := by decide +kernel
theorem dX5_joinable_27 : decode cX5_joinable 27 = .ok (.bipush (-9), 2) := by decide +kernel
theorem dX5_joinable_29 : decode cX5_joinable 29 = .ok (.ireturn, 1) := by decide +kernel
theorem dX5_isBetween_0 : decode cX5_isBetween 0 = .ok (.iload_n 0, 1) := by decide +kernel
theorem dX5_isBetween_1 : decode cX5_isBetween 1 = .ok (.iload_n 1, 1) := by decide +kernel
theorem dX5_isBetween_2 : decode cX5_isBetween 2 = .ok (.if_icmp .lt 12, 3) := by decide +kernel
theorem dX5_isBetween_5 : decode cX5_isBetween 5 = .ok (.iload_n 0, 1) := by decide +kernel
theorem dX5_isBetween_6 : decode cX5_isBetween 6 = .ok (.iload_n 2, 1) := by decide +kernel
theorem dX5_isBetween_7 : decode cX5_isBetween 7 = .ok (.if_icmp .gt 7, 3) := by decide +kernel
theorem dX5_isBetween_10 : decode cX5_isBetween 10 = .ok (.iconst 1, 1) := by decide +kernel
theorem dX5_isBetween_11 : decode cX5_isBetween 11 = .ok (.goto 4, 3) := by decide +kernel
theorem dX5_isBetween_14 : decode cX5_isBetween 14 = .ok (.iconst 0, 1) := by decide +kernel
theorem dX5_isBetween_15 : decode cX5_isBetween 15 = .ok (.ireturn, 1) := by decide +kernel
theorem dX5_isOnMap_0 : decode cX5_isOnMap 0 = .ok (.iload_n 0, 1) := by decide +kernel
theorem dX5_isOnMap_1 : decode cX5_isOnMap 1 = .ok (.iconst 0, 1) := by decide +kernel
theorem dX5_isOnMap_2 : decode cX5_isOnMap 2 = .ok (.bipush 63, 2) := by decide +kernel
theorem dX5_isOnMap_4 : decode cX5_isOnMap 4 = .ok (.invokestatic 27, 3) := by decide +kernel
theorem dX5_isOnMap_7 : decode cX5_isOnMap 7 = .ok (.ifCond .eq 17, 3) := by decide +kernel
theorem dX5_isOnMap_10 : decode cX5_isOnMap 10 = .ok (.iload_n 1, 1) := by decide +kernel
theorem dX5_isOnMap_11 : decode cX5_isOnMap 11 = .ok (.iconst 0, 1) := by decide +kernel
theorem dX5_isOnMap_12 : decode cX5_isOnMap 12 = .ok (.bipush 63, 2) := by decide +kernel
theorem dX5_isOnMap_14 : decode cX5_isOnMap 14 = .ok (.invokestatic 27, 3) := by decide +kernel
theorem dX5_isOnMap_17 : decode cX5_isOnMap 17 = .ok (.ifCond .eq 7, 3) := by decide +kernel
theorem dX5_isOnMap_20 : decode cX5_isOnMap 20 = .ok (.iconst 1, 1) := by decide +kernel
theorem dX5_isOnMap_21 : decode cX5_isOnMap 21 = .ok (.goto 4, 3) := by decide +kernel
theorem dX5_isOnMap_24 : decode cX5_isOnMap 24 = .ok (.iconst 0, 1) := by decide +kernel
theorem dX5_isOnMap_25 : decode cX5_isOnMap 25 = .ok (.ireturn, 1) := by decide +kernel
theorem dX5_sideOf_0 : decode cX5_sideOf 0 = .ok (.iload_n 0, 1) := by decide +kernel
theorem dX5_sideOf_1 : decode cX5_sideOf 1 = .ok (.ifCond .lt 15, 3) := by decide +kernel
theorem dX5_sideOf_4 : decode cX5_sideOf 4 = .ok (.iload_n 0, 1) := by decide +kernel
theorem dX5_sideOf_5 : decode cX5_sideOf 5 = .ok (.iconst 4, 1) := by decide +kernel
theorem dX5_sideOf_6 : decode cX5_sideOf 6 = .ok (.if_icmp .gt 10, 3) := by decide +kernel
theorem dX5_sideOf_9 : decode cX5_sideOf 9 = .ok (.bipush 64, 2) := by decide +kernel
theorem dX5_sideOf_11 : decode cX5_sideOf 11 = .ok (.iload_n 0, 1) := by decide +kernel
theorem dX5_sideOf_12 : decode cX5_sideOf 12 = .ok (.ishr, 1) := by decide +kernel
theorem dX5_sideOf_13 : decode cX5_sideOf 13 = .ok (.goto 4, 3) := by decide +kernel
theorem dX5_sideOf_16 : decode cX5_sideOf 16 = .ok (.iconst 0, 1) := by decide +kernel
theorem dX5_sideOf_17 : decode cX5_sideOf 17 = .ok (.ireturn, 1) := by decide +kernel
theorem dX5_quarterLeft_0 : decode cX5_quarterLeft 0 = .ok (.iload_n 0, 1) := by decide +kernel
theorem dX5_quarterLeft_1 : decode cX5_quarterLeft 1 = .ok (.iload_n 2, 1) := by decide +kernel
theorem dX5_quarterLeft_2 : decode cX5_quarterLeft 2 = .ok (.iconst 1, 1) := by decide +kernel
theorem dX5_quarterLeft_3 : decode cX5_quarterLeft 3 = .ok (.iand, 1) := by decide +kernel
theorem dX5_quarterLeft_4 : decode cX5_quarterLeft 4 = .ok (.iload_n 1, 1) := by decide +kernel
theorem dX5_quarterLeft_5 : decode cX5_quarterLeft 5 = .ok (.imul, 1) := by decide +kernel
theorem dX5_quarterLeft_6 : decode cX5_quarterLeft 6 = .ok (.iadd, 1) := by decide +kernel
theorem dX5_quarterLeft_7 : decode cX5_quarterLeft 7 = .ok (.ireturn, 1) := by decide +kernel
theorem dX5_quarterTop_0 : decode cX5_quarterTop 0 = .ok (.iload_n 0, 1) := by decide +kernel
theorem dX5_quarterTop_1 : decode cX5_quarterTop 1 = .ok (.iload_n 2, 1) := by decide +kernel
theorem dX5_quarterTop_2 : decode cX5_quarterTop 2 = .ok (.iconst 1, 1) := by decide +kernel
theorem dX5_quarterTop_3 : decode cX5_quarterTop 3 = .ok (.ishr, 1) := by decide +kernel
theorem dX5_quarterTop_4 : decode cX5_quarterTop 4 = .ok (.iload_n 1, 1) := by decide +kernel
theorem dX5_quarterTop_5 : decode cX5_quarterTop 5 = .ok (.imul, 1) := by decide +kernel
theorem dX5_quarterTop_6 : decode cX5_quarterTop 6 = .ok (.iadd, 1) := by decide +kernel
theorem dX5_quarterTop_7 : decode cX5_quarterTop 7 = .ok (.ireturn, 1) := by decide +kernel
end
section
theorem dX6_init_0 : decode cX6_init 0 = .ok (.aload_n 0, 1) := by decide +kernel
theorem dX6_init_1 : decode cX6_init 1 = .ok (.invokespecial 1, 3) := by decide +kernel
theorem dX6_init_4 : decode cX6_init 4 = .ok (.aload_n 0, 1) := by decide +kernel
theorem dX6_init_5 : decode cX6_init 5 = .ok (.sipush 11784, 3) := by decide +kernel
theorem dX6_init_8 : decode cX6_init 8 = .ok (.newarray .int, 2) := by decide +kernel
theorem dX6_init_10 : decode cX6_init 10 = .ok (.putfield 7, 3) := by decide +kernel
theorem dX6_init_13 : decode cX6_init 13 = .ok (.aload_n 0, 1) := by decide +kernel
theorem dX6_init_14 : decode cX6_init 14 = .ok (.iconst 4, 1) := by decide +kernel
theorem dX6_init_15 : decode cX6_init 15 = .ok (.newarray .int, 2) := by decide +kernel
theorem dX6_init_17 : decode cX6_init 17 = .ok (.putfield 13, 3) := by decide +kernel
theorem dX6_init_20 : decode cX6_init 20 = .ok (.aload_n 0, 1) := by decide +kernel
theorem dX6_init_21 : decode cX6_init 21 = .ok (.getfield 7, 3) := by decide +kernel
theorem dX6_init_24 : decode cX6_init 24 = .ok (.iconst 0, 1) := by decide +kernel
theorem dX6_init_25 : decode cX6_init 25 = .ok (.iconst 4, 1) := by decide +kernel
theorem dX6_init_26 : decode cX6_init 26 = .ok (.iastore, 1) := by decide +kernel
theorem dX6_init_27 : decode cX6_init 27 = .ok (.aload_n 0, 1) := by decide +kernel
theorem dX6_init_28 : decode cX6_init 28 = .ok (.getfield 7, 3) := by decide +kernel
theorem dX6_init_31 : decode cX6_init 31 = .ok (.iconst 1, 1) := by decide +kernel
theorem dX6_init_32 : decode cX6_init 32 = .ok (.iconst 3, 1) := by decide +kernel
theorem dX6_init_33 : decode cX6_init 33 = .ok (.iastore, 1) := by decide +kernel
theorem dX6_init_34 : decode cX6_init 34 = .ok (.aload_n 0, 1) := by decide +kernel
theorem dX6_init_35 : decode cX6_init 35 = .ok (.getfield 7, 3) := by decide +kernel
theorem dX6_init_38 : decode cX6_init 38 = .ok (.iconst 3, 1) := by decide +kernel
theorem dX6_init_39 : decode cX6_init 39 = .ok (.iconst 1, 1) := by decide +kernel
theorem dX6_init_40 : decode cX6_init 40 = .ok (.iastore, 1) := by decide +kernel
theorem dX6_init_41 : decode cX6_init 41 = .ok (.aload_n 0, 1) := by decide +kernel
theorem dX6_init_42 : decode cX6_init 42 = .ok (.getfield 7, 3) := by decide +kernel
theorem dX6_init_45 : decode cX6_init 45 = .ok (.sipush 204, 3) := by decide +kernel
theorem dX6_init_48 : decode cX6_init 48 = .ok (.iconst 1, 1) := by decide +kernel
theorem dX6_init_49 : decode cX6_init 49 = .ok (.iastore, 1) := by decide +kernel
theorem dX6_init_50 : decode cX6_init 50 = .ok (.return_, 1) := by decide +kernel
theorem dX6_in_0 : decode cX6_in 0 = .ok (.iload_n 0, 1) := by decide +kernel
theorem dX6_in_1 : decode cX6_in 1 = .ok (.iload_n 1, 1) := by decide +kernel
theorem dX6_in_2 : decode cX6_in 2 = .ok (.if_icmp .lt 12, 3) := by decide +kernel
theorem dX6_in_5 : decode cX6_in 5 = .ok (.iload_n 0, 1) := by decide +kernel
theorem dX6_in_6 : decode cX6_in 6 = .ok (.iload_n 2, 1) := by decide +kernel
theorem dX6_in_7 : decode cX6_in 7 = .ok (.if_icmp .gt 7, 3) := by decide +kernel
theorem dX6_in_10 : decode cX6_in 10 = .ok (.iconst 1, 1) := by decide +kernel
theorem dX6_in_11 : decode cX6_in 11 = .ok (.goto 4, 3) := by decide +kernel
theorem dX6_in_14 : decode cX6_in 14 = .ok (.iconst 0, 1) := by decide +kernel
theorem dX6_in_15 : decode cX6_in 15 = .ok (.ireturn, 1) := by decide +kernel
theorem dX6_copies_0 : decode cX6_copies 0 = .ok (.iconst 0, 1) := by decide +kernel
theorem dX6_copies_1 : decode cX6_copies 1 = .ok (.istore_n 3, 1) := by decide +kernel
theorem dX6_copies_2 : decode cX6_copies 2 = .ok (.iload_n 3, 1) := by decide +kernel
theorem dX6_copies_3 : decode cX6_copies 3 = .ok (.sipush 1964, 3) := by decide +kernel
theorem dX6_copies_6 : decode cX6_copies 6 = .ok (.if_icmp .ge 25, 3) := by decide +kernel
theorem dX6_copies_9 : decode cX6_copies 9 = .ok (.aload_n 0, 1) := by decide +kernel
theorem dX6_copies_10 : decode cX6_copies 10 = .ok (.getfield 7, 3) := by decide +kernel
theorem dX6_copies_13 : decode cX6_copies 13 = .ok (.iload_n 2, 1) := by decide +kernel
theorem dX6_copies_14 : decode cX6_copies 14 = .ok (.iload_n 3, 1) := by decide +kernel
theorem dX6_copies_15 : decode cX6_copies 15 = .ok (.iadd, 1) := by decide +kernel
theorem dX6_copies_16 : decode cX6_copies 16 = .ok (.aload_n 0, 1) := by decide +kernel
theorem dX6_copies_17 : decode cX6_copies 17 = .ok (.getfield 7, 3) := by decide +kernel
theorem dX6_copies_20 : decode cX6_copies 20 = .ok (.iload_n 1, 1) := by decide +kernel
theorem dX6_copies_21 : decode cX6_copies 21 = .ok (.iload_n 3, 1) := by decide +kernel
theorem dX6_copies_22 : decode cX6_copies 22 = .ok (.iadd, 1) := by decide +kernel
theorem dX6_copies_23 : decode cX6_copies 23 = .ok (.iaload, 1) := by decide +kernel
theorem dX6_copies_24 : decode cX6_copies 24 = .ok (.iastore, 1) := by decide +kernel
theorem dX6_copies_25 : decode cX6_copies 25 = .ok (.iinc 3 1, 3) := by decide +kernel
theorem dX6_copies_28 : decode cX6_copies 28 = .ok (.goto (-26), 3) := by decide +kernel
theorem dX6_copies_31 : decode cX6_copies 31 = .ok (.return_, 1) := by decide +kernel
theorem dX6_records_0 : decode cX6_records 0 = .ok (.aload_n 0, 1) := by decide +kernel
theorem dX6_records_1 : decode cX6_records 1 = .ok (.getfield 16, 3) := by decide +kernel
theorem dX6_records_4 : decode cX6_records 4 = .ok (.iconst 5, 1) := by decide +kernel
theorem dX6_records_5 : decode cX6_records 5 = .ok (.if_icmp .ne 42, 3) := by decide +kernel
theorem dX6_records_8 : decode cX6_records 8 = .ok (.iconst 1, 1) := by decide +kernel
theorem dX6_records_9 : decode cX6_records 9 = .ok (.istore_n 1, 1) := by decide +kernel
theorem dX6_records_10 : decode cX6_records 10 = .ok (.iload_n 1, 1) := by decide +kernel
theorem dX6_records_11 : decode cX6_records 11 = .ok (.iconst 5, 1) := by decide +kernel
theorem dX6_records_12 : decode cX6_records 12 = .ok (.if_icmp .ge 25, 3) := by decide +kernel
theorem dX6_records_15 : decode cX6_records 15 = .ok (.aload_n 0, 1) := by decide +kernel
theorem dX6_records_16 : decode cX6_records 16 = .ok (.sipush 1964, 3) := by decide +kernel
theorem dX6_records_19 : decode cX6_records 19 = .ok (.iload_n 1, 1) := by decide +kernel
theorem dX6_records_20 : decode cX6_records 20 = .ok (.iconst 1, 1) := by decide +kernel
theorem dX6_records_21 : decode cX6_records 21 = .ok (.iadd, 1) := by decide +kernel
theorem dX6_records_22 : decode cX6_records 22 = .ok (.imul, 1) := by decide +kernel
theorem dX6_records_23 : decode cX6_records 23 = .ok (.sipush 1964, 3) := by decide +kernel
theorem dX6_records_26 : decode cX6_records 26 = .ok (.iload_n 1, 1) := by decide +kernel
theorem dX6_records_27 : decode cX6_records 27 = .ok (.imul, 1) := by decide +kernel
theorem dX6_records_28 : decode cX6_records 28 = .ok (.invokevirtual 20, 3) := by decide +kernel
theorem dX6_records_31 : decode cX6_records 31 = .ok (.iinc 1 1, 3) := by decide +kernel
theorem dX6_records_34 : decode cX6_records 34 = .ok (.goto (-24), 3) := by decide +kernel
theorem dX6_records_37 : decode cX6_records 37 = .ok (.aload_n 0, 1) := by decide +kernel
theorem dX6_records_38 : decode cX6_records 38 = .ok (.dup, 1) := by decide +kernel
theorem dX6_records_39 : decode cX6_records 39 = .ok (.getfield 16, 3) := by decide +kernel
theorem dX6_records_42 : decode cX6_records 42 = .ok (.iconst 1, 1) := by decide +kernel
theorem dX6_records_43 : decode cX6_records 43 = .ok (.isub, 1) := by decide +kernel
theorem dX6_records_44 : decode cX6_records 44 = .ok (.putfield 16, 3) := by decide +kernel
theorem dX6_records_47 : decode cX6_records 47 = .ok (.aload_n 0, 1) := by decide +kernel
theorem dX6_records_48 : decode cX6_records 48 = .ok (.dup, 1) := by decide +kernel
theorem dX6_records_49 : decode cX6_records 49 = .ok (.getfield 16, 3) := by decide +kernel
theorem dX6_records_52 : decode cX6_records 52 = .ok (.iconst 1, 1) := by decide +kernel
theorem dX6_records_53 : decode cX6_records 53 = .ok (.iadd, 1) := by decide +kernel
theorem dX6_records_54 : decode cX6_records 54 = .ok (.putfield 16, 3) := by decide +kernel
theorem dX6_records_57 : decode cX6_records 57 = .ok (.aload_n 0, 1) := by decide +kernel
theorem dX6_records_58 : decode cX6_records 58 = .ok (.iconst 0, 1) := by decide +kernel
theorem dX6_records_59 : decode cX6_records 59 = .ok (.sipush 1964, 3) := by decide +kernel
theorem dX6_records_62 : decode cX6_records 62 = .ok (.aload_n 0, 1) := by decide +kernel
theorem dX6_records_63 : decode cX6_records 63 = .ok (.getfield 16, 3) := by decide +kernel
theorem dX6_records_66 : decode cX6_records 66 = .ok (.imul, 1) := by decide +kernel
theorem dX6_records_67 : decode cX6_records 67 = .ok (.invokevirtual 20, 3) := by decide +kernel
theorem dX6_records_70 : decode cX6_records 70 = .ok (.return_, 1) := by decide +kernel
theorem dX6_ofPoint_0 : decode cX6_ofPoint 0 = .ok (.aload_n 0, 1) := by decide +kernel
theorem dX6_ofPoint_1 : decode cX6_ofPoint 1 = .ok (.getfield 7, 3) := by decide +kernel
theorem dX6_ofPoint_4 : decode cX6_ofPoint 4 = .ok (.iconst 4, 1) := by decide +kernel
theorem dX6_ofPoint_5 : decode cX6_ofPoint 5 = .ok (.iconst 5, 1) := by decide +kernel
theorem dX6_ofPoint_6 : decode cX6_ofPoint 6 = .ok (.iload_n 1, 1) := by decide +kernel
theorem dX6_ofPoint_7 : decode cX6_ofPoint 7 = .ok (.imul, 1) := by decide +kernel
theorem dX6_ofPoint_8 : decode cX6_ofPoint 8 = .ok (.iadd, 1) := by decide +kernel
theorem dX6_ofPoint_9 : decode cX6_ofPoint 9 = .ok (.iload_n 2, 1) := by decide +kernel
theorem dX6_ofPoint_10 : decode cX6_ofPoint 10 = .ok (.iadd, 1) := by decide +kernel
theorem dX6_ofPoint_11 : decode cX6_ofPoint 11 = .ok (.iaload, 1) := by decide +kernel
theorem dX6_ofPoint_12 : decode cX6_ofPoint 12 = .ok (.ireturn, 1) := by decide +kernel
theorem dX6_isPoint_0 : decode cX6_isPoint 0 = .ok (.iload_n 1, 1) := by decide +kernel
theorem dX6_isPoint_1 : decode cX6_isPoint 1 = .ok (.iconst 0, 1) := by decide +kernel
theorem dX6_isPoint_2 : decode cX6_isPoint 2 = .ok (.aload_n 0, 1) := by decide +kernel
theorem dX6_isPoint_3 : decode cX6_isPoint 3 = .ok (.getfield 7, 3) := by decide +kernel
theorem dX6_isPoint_6 : decode cX6_isPoint 6 = .ok (.iconst 2, 1) := by decide +kernel
theorem dX6_isPoint_7 : decode cX6_isPoint 7 = .ok (.iaload, 1) := by decide +kernel
theorem dX6_isPoint_8 : decode cX6_isPoint 8 = .ok (.iconst 1, 1) := by decide +kernel
theorem dX6_isPoint_9 : decode cX6_isPoint 9 = .ok (.isub, 1) := by decide +kernel
theorem dX6_isPoint_10 : decode cX6_isPoint 10 = .ok (.invokestatic 24, 3) := by decide +kernel
theorem dX6_isPoint_13 : decode cX6_isPoint 13 = .ok (.ifCond .eq 17, 3) := by decide +kernel
theorem dX6_isPoint_16 : decode cX6_isPoint 16 = .ok (.aload_n 0, 1) := by decide +kernel
theorem dX6_isPoint_17 : decode cX6_isPoint 17 = .ok (.iload_n 1, 1) := by decide +kernel
theorem dX6_isPoint_18 : decode cX6_isPoint 18 = .ok (.iconst 3, 1) := by decide +kernel
theorem dX6_isPoint_19 : decode cX6_isPoint 19 = .ok (.invokevirtual 28, 3) := by decide +kernel
theorem dX6_isPoint_22 : decode cX6_isPoint 22 = .ok (.iconst 1, 1) := by decide +kernel
theorem dX6_isPoint_23 : decode cX6_isPoint 23 = .ok (.if_icmp .ne 7, 3) := by decide +kernel
theorem dX6_isPoint_26 : decode cX6_isPoint 26 = .ok (.iconst 1, 1) := by decide +kernel
theorem dX6_isPoint_27 : decode cX6_isPoint 27 = .ok (.goto 4, 3) := by decide +kernel
theorem dX6_isPoint_30 : decode cX6_isPoint 30 = .ok (.iconst 0, 1) := by decide +kernel
theorem dX6_isPoint_31 : decode cX6_isPoint 31 = .ok (.ireturn, 1) := by decide +kernel
theorem dX6_ofParish_0 : decode cX6_ofParish 0 = .ok (.aload_n 0, 1) := by decide +kernel
theorem dX6_ofParish_1 : decode cX6_ofParish 1 = .ok (.getfield 7, 3) := by decide +kernel
theorem dX6_ofParish_4 : decode cX6_ofParish 4 = .ok (.sipush 204, 3) := by decide +kernel
theorem dX6_ofParish_7 : decode cX6_ofParish 7 = .ok (.iconst 4, 1) := by decide +kernel
theorem dX6_ofParish_8 : decode cX6_ofParish 8 = .ok (.iload_n 1, 1) := by decide +kernel
theorem dX6_ofParish_9 : decode cX6_ofParish 9 = .ok (.imul, 1) := by decide +kernel
theorem dX6_ofParish_10 : decode cX6_ofParish 10 = .ok (.iadd, 1) := by decide +kernel
theorem dX6_ofParish_11 : decode cX6_ofParish 11 = .ok (.iload_n 2, 1) := by decide +kernel
theorem dX6_ofParish_12 : decode cX6_ofParish 12 = .ok (.iadd, 1) := by decide +kernel
theorem dX6_ofParish_13 : decode cX6_ofParish 13 = .ok (.iaload, 1) := by decide +kernel
theorem dX6_ofParish_14 : decode cX6_ofParish 14 = .ok (.ireturn, 1) := by decide +kernel
theorem dX6_isParish_0 : decode cX6_isParish 0 = .ok (.iload_n 1, 1) := by decide +kernel
theorem dX6_isParish_1 : decode cX6_isParish 1 = .ok (.iconst 0, 1) := by decide +kernel
theorem dX6_isParish_2 : decode cX6_isParish 2 = .ok (.aload_n 0, 1) := by decide +kernel
theorem dX6_isParish_3 : decode cX6_isParish 3 = .ok (.getfield 7, 3) := by decide +kernel
theorem dX6_isParish_6 : decode cX6_isParish 6 = .ok (.iconst 3, 1) := by decide +kernel
theorem dX6_isParish_7 : decode cX6_isParish 7 = .ok (.iaload, 1) := by decide +kernel
theorem dX6_isParish_8 : decode cX6_isParish 8 = .ok (.iconst 1, 1) := by decide +kernel
theorem dX6_isParish_9 : decode cX6_isParish 9 = .ok (.isub, 1) := by decide +kernel
theorem dX6_isParish_10 : decode cX6_isParish 10 = .ok (.invokestatic 24, 3) := by decide +kernel
theorem dX6_isParish_13 : decode cX6_isParish 13 = .ok (.ifCond .eq 17, 3) := by decide +kernel
theorem dX6_isParish_16 : decode cX6_isParish 16 = .ok (.aload_n 0, 1) := by decide +kernel
theorem dX6_isParish_17 : decode cX6_isParish 17 = .ok (.iload_n 1, 1) := by decide +kernel
theorem dX6_isParish_18 : decode cX6_isParish 18 = .ok (.iconst 0, 1) := by decide +kernel
theorem dX6_isParish_19 : decode cX6_isParish 19 = .ok (.invokevirtual 32, 3) := by decide +kernel
theorem dX6_isParish_22 : decode cX6_isParish 22 = .ok (.iconst 1, 1) := by decide +kernel
theorem dX6_isParish_23 : decode cX6_isParish 23 = .ok (.if_icmp .ne 7, 3) := by decide +kernel
theorem dX6_isParish_26 : decode cX6_isParish 26 = .ok (.iconst 1, 1) := by decide +kernel
theorem dX6_isParish_27 : decode cX6_isParish 27 = .ok (.goto 4, 3) := by decide +kernel
theorem dX6_isParish_30 : decode cX6_isParish 30 = .ok (.iconst 0, 1) := by decide +kernel
theorem dX6_isParish_31 : decode cX6_isParish 31 = .ok (.ireturn, 1) := by decide +kernel
theorem dX6_isPlace_0 : decode cX6_isPlace 0 = .ok (.iload_n 0, 1) := by decide +kernel
theorem dX6_isPlace_1 : decode cX6_isPlace 1 = .ok (.iconst 0, 1) := by decide +kernel
theorem dX6_isPlace_2 : decode cX6_isPlace 2 = .ok (.bipush 63, 2) := by decide +kernel
theorem dX6_isPlace_4 : decode cX6_isPlace 4 = .ok (.invokestatic 24, 3) := by decide +kernel
theorem dX6_isPlace_7 : decode cX6_isPlace 7 = .ok (.ifCond .eq 17, 3) := by decide +kernel
theorem dX6_isPlace_10 : decode cX6_isPlace 10 = .ok (.iload_n 1, 1) := by decide +kernel
theorem dX6_isPlace_11 : decode cX6_isPlace 11 = .ok (.iconst 0, 1) := by decide +kernel
theorem dX6_isPlace_12 : decode cX6_isPlace 12 = .ok (.bipush 63, 2) := by decide +kernel
theorem dX6_isPlace_14 : decode cX6_isPlace 14 = .ok (.invokestatic 24, 3) := by decide +kernel
theorem dX6_isPlace_17 : decode cX6_isPlace 17 = .ok (.ifCond .eq 7, 3) := by decide +kernel
theorem dX6_isPlace_20 : decode cX6_isPlace 20 = .ok (.iconst 1, 1) := by decide +kernel
theorem dX6_isPlace_21 : decode cX6_isPlace 21 = .ok (.goto 4, 3) := by decide +kernel
theorem dX6_isPlace_24 : decode cX6_isPlace 24 = .ok (.iconst 0, 1) := by decide +kernel
theorem dX6_isPlace_25 : decode cX6_isPlace 25 = .ok (.ireturn, 1) := by decide +kernel
theorem dX6_sideOf_0 : decode cX6_sideOf 0 = .ok (.bipush 64, 2) := by decide +kernel
theorem dX6_sideOf_2 : decode cX6_sideOf 2 = .ok (.aload_n 0, 1) := by decide +kernel
theorem dX6_sideOf_3 : decode cX6_sideOf 3 = .ok (.iload_n 1, 1) := by decide +kernel
theorem dX6_sideOf_4 : decode cX6_sideOf 4 = .ok (.iconst 3, 1) := by decide +kernel
theorem dX6_sideOf_5 : decode cX6_sideOf 5 = .ok (.invokevirtual 32, 3) := by decide +kernel
theorem dX6_sideOf_8 : decode cX6_sideOf 8 = .ok (.ishr, 1) := by decide +kernel
theorem dX6_sideOf_9 : decode cX6_sideOf 9 = .ok (.ireturn, 1) := by decide +kernel
theorem dX6_parishAt_0 : decode cX6_parishAt 0 = .ok (.iconst 0, 1) := by decide +kernel
theorem dX6_parishAt_1 : decode cX6_parishAt 1 = .ok (.istore_n 3, 1) := by decide +kernel
theorem dX6_parishAt_2 : decode cX6_parishAt 2 = .ok (.iload_n 3, 1) := by decide +kernel
theorem dX6_parishAt_3 : decode cX6_parishAt 3 = .ok (.aload_n 0, 1) := by decide +kernel
theorem dX6_parishAt_4 : decode cX6_parishAt 4 = .ok (.getfield 7, 3) := by decide +kernel
theorem dX6_parishAt_7 : decode cX6_parishAt 7 = .ok (.iconst 3, 1) := by decide +kernel
theorem dX6_parishAt_8 : decode cX6_parishAt 8 = .ok (.iaload, 1) := by decide +kernel
theorem dX6_parishAt_9 : decode cX6_parishAt 9 = .ok (.if_icmp .ge 71, 3) := by decide +kernel
theorem dX6_parishAt_12 : decode cX6_parishAt 12 = .ok (.iload_n 1, 1) := by decide +kernel
theorem dX6_parishAt_13 : decode cX6_parishAt 13 = .ok (.aload_n 0, 1) := by decide +kernel
theorem dX6_parishAt_14 : decode cX6_parishAt 14 = .ok (.iload_n 3, 1) := by decide +kernel
theorem dX6_parishAt_15 : decode cX6_parishAt 15 = .ok (.iconst 1, 1) := by decide +kernel
theorem dX6_parishAt_16 : decode cX6_parishAt 16 = .ok (.invokevirtual 32, 3) := by decide +kernel
theorem dX6_parishAt_19 : decode cX6_parishAt 19 = .ok (.isub, 1) := by decide +kernel
theorem dX6_parishAt_20 : decode cX6_parishAt 20 = .ok (.istore 4, 2) := by decide +kernel
theorem dX6_parishAt_22 : decode cX6_parishAt 22 = .ok (.iload_n 2, 1) := by decide +kernel
theorem dX6_parishAt_23 : decode cX6_parishAt 23 = .ok (.aload_n 0, 1) := by decide +kernel
theorem dX6_parishAt_24 : decode cX6_parishAt 24 = .ok (.iload_n 3, 1) := by decide +kernel
theorem dX6_parishAt_25 : decode cX6_parishAt 25 = .ok (.iconst 2, 1) := by decide +kernel
theorem dX6_parishAt_26 : decode cX6_parishAt 26 = .ok (.invokevirtual 32, 3) := by decide +kernel
theorem dX6_parishAt_29 : decode cX6_parishAt 29 = .ok (.isub, 1) := by decide +kernel
theorem dX6_parishAt_30 : decode cX6_parishAt 30 = .ok (.istore 5, 2) := by decide +kernel
theorem dX6_parishAt_32 : decode cX6_parishAt 32 = .ok (.aload_n 0, 1) := by decide +kernel
theorem dX6_parishAt_33 : decode cX6_parishAt 33 = .ok (.iload_n 3, 1) := by decide +kernel
theorem dX6_parishAt_34 : decode cX6_parishAt 34 = .ok (.invokevirtual 35, 3) := by decide +kernel
theorem dX6_parishAt_37 : decode cX6_parishAt 37 = .ok (.ifCond .eq 37, 3) := by decide +kernel
theorem dX6_parishAt_40 : decode cX6_parishAt 40 = .ok (.iload 4, 2) := by decide +kernel
theorem dX6_parishAt_42 : decode cX6_parishAt 42 = .ok (.iconst 0, 1) := by decide +kernel
theorem dX6_parishAt_43 : decode cX6_parishAt 43 = .ok (.aload_n 0, 1) := by decide +kernel
theorem dX6_parishAt_44 : decode cX6_parishAt 44 = .ok (.iload_n 3, 1) := by decide +kernel
theorem dX6_parishAt_45 : decode cX6_parishAt 45 = .ok (.invokevirtual 39, 3) := by decide +kernel
theorem dX6_parishAt_48 : decode cX6_parishAt 48 = .ok (.iconst 1, 1) := by decide +kernel
theorem dX6_parishAt_49 : decode cX6_parishAt 49 = .ok (.isub, 1) := by decide +kernel
theorem dX6_parishAt_50 : decode cX6_parishAt 50 = .ok (.invokestatic 24, 3) := by decide +kernel
theorem dX6_parishAt_53 : decode cX6_parishAt 53 = .ok (.ifCond .eq 21, 3) := by decide +kernel
theorem dX6_parishAt_56 : decode cX6_parishAt 56 = .ok (.iload 5, 2) := by decide +kernel
theorem dX6_parishAt_58 : decode cX6_parishAt 58 = .ok (.iconst 0, 1) := by decide +kernel
theorem dX6_parishAt_59 : decode cX6_parishAt 59 = .ok (.aload_n 0, 1) := by decide +kernel
theorem dX6_parishAt_60 : decode cX6_parishAt 60 = .ok (.iload_n 3, 1) := by decide +kernel
theorem dX6_parishAt_61 : decode cX6_parishAt 61 = .ok (.invokevirtual 39, 3) := by decide +kernel
theorem dX6_parishAt_64 : decode cX6_parishAt 64 = .ok (.iconst 1, 1) := by decide +kernel
theorem dX6_parishAt_65 : decode cX6_parishAt 65 = .ok (.isub, 1) := by decide +kernel
theorem dX6_parishAt_66 : decode cX6_parishAt 66 = .ok (.invokestatic 24, 3) := by decide +kernel
theorem dX6_parishAt_69 : decode cX6_parishAt 69 = .ok (.ifCond .eq 5, 3) := by decide +kernel
theorem dX6_parishAt_72 : decode cX6_parishAt 72 = .ok (.iload_n 3, 1) := by decide +kernel
theorem dX6_parishAt_73 : decode cX6_parishAt 73 = .ok (.ireturn, 1) := by decide +kernel
theorem dX6_parishAt_74 : decode cX6_parishAt 74 = .ok (.iinc 3 1, 3) := by decide +kernel
theorem dX6_parishAt_77 : decode cX6_parishAt 77 = .ok (.goto (-75), 3) := by decide +kernel
theorem dX6_parishAt_80 : decode cX6_parishAt 80 = .ok (.bipush (-9), 2) := by decide +kernel
theorem dX6_parishAt_82 : decode cX6_parishAt 82 = .ok (.ireturn, 1) := by decide +kernel
theorem dX6_parishOf_0 : decode cX6_parishOf 0 = .ok (.aload_n 0, 1) := by decide +kernel
theorem dX6_parishOf_1 : decode cX6_parishOf 1 = .ok (.aload_n 0, 1) := by decide +kernel
theorem dX6_parishOf_2 : decode cX6_parishOf 2 = .ok (.iload_n 1, 1) := by decide +kernel
theorem dX6_parishOf_3 : decode cX6_parishOf 3 = .ok (.iconst 0, 1) := by decide +kernel
theorem dX6_parishOf_4 : decode cX6_parishOf 4 = .ok (.invokevirtual 28, 3) := by decide +kernel
theorem dX6_parishOf_7 : decode cX6_parishOf 7 = .ok (.aload_n 0, 1) := by decide +kernel
theorem dX6_parishOf_8 : decode cX6_parishOf 8 = .ok (.iload_n 1, 1) := by decide +kernel
theorem dX6_parishOf_9 : decode cX6_parishOf 9 = .ok (.iconst 1, 1) := by decide +kernel
theorem dX6_parishOf_10 : decode cX6_parishOf 10 = .ok (.invokevirtual 28, 3) := by decide +kernel
theorem dX6_parishOf_13 : decode cX6_parishOf 13 = .ok (.invokevirtual 43, 3) := by decide +kernel
theorem dX6_parishOf_16 : decode cX6_parishOf 16 = .ok (.ireturn, 1) := by decide +kernel
theorem dX6_pointsIn_0 : decode cX6_pointsIn 0 = .ok (.iconst 0, 1) := by decide +kernel
theorem dX6_pointsIn_1 : decode cX6_pointsIn 1 = .ok (.istore 5, 2) := by decide +kernel
theorem dX6_pointsIn_3 : decode cX6_pointsIn 3 = .ok (.iconst 0, 1) := by decide +kernel
theorem dX6_pointsIn_4 : decode cX6_pointsIn 4 = .ok (.istore 6, 2) := by decide +kernel
theorem dX6_pointsIn_6 : decode cX6_pointsIn 6 = .ok (.iload 6, 2) := by decide +kernel
theorem dX6_pointsIn_8 : decode cX6_pointsIn 8 = .ok (.aload_n 0, 1) := by decide +kernel
theorem dX6_pointsIn_9 : decode cX6_pointsIn 9 = .ok (.getfield 7, 3) := by decide +kernel
theorem dX6_pointsIn_12 : decode cX6_pointsIn 12 = .ok (.iconst 2, 1) := by decide +kernel
theorem dX6_pointsIn_13 : decode cX6_pointsIn 13 = .ok (.iaload, 1) := by decide +kernel
theorem dX6_pointsIn_14 : decode cX6_pointsIn 14 = .ok (.if_icmp .ge 59, 3) := by decide +kernel
theorem dX6_pointsIn_17 : decode cX6_pointsIn 17 = .ok (.iload 5, 2) := by decide +kernel
theorem dX6_pointsIn_19 : decode cX6_pointsIn 19 = .ok (.aload_n 0, 1) := by decide +kernel
theorem dX6_pointsIn_20 : decode cX6_pointsIn 20 = .ok (.iload 6, 2) := by decide +kernel
theorem dX6_pointsIn_22 : decode cX6_pointsIn 22 = .ok (.invokevirtual 46, 3) := by decide +kernel
theorem dX6_pointsIn_25 : decode cX6_pointsIn 25 = .ok (.ifCond .eq 38, 3) := by decide +kernel
theorem dX6_pointsIn_28 : decode cX6_pointsIn 28 = .ok (.aload_n 0, 1) := by decide +kernel
theorem dX6_pointsIn_29 : decode cX6_pointsIn 29 = .ok (.iload 6, 2) := by decide +kernel
theorem dX6_pointsIn_31 : decode cX6_pointsIn 31 = .ok (.iconst 0, 1) := by decide +kernel
theorem dX6_pointsIn_32 : decode cX6_pointsIn 32 = .ok (.invokevirtual 28, 3) := by decide +kernel
theorem dX6_pointsIn_35 : decode cX6_pointsIn 35 = .ok (.iload_n 1, 1) := by decide +kernel
theorem dX6_pointsIn_36 : decode cX6_pointsIn 36 = .ok (.iload_n 3, 1) := by decide +kernel
theorem dX6_pointsIn_37 : decode cX6_pointsIn 37 = .ok (.invokestatic 24, 3) := by decide +kernel
theorem dX6_pointsIn_40 : decode cX6_pointsIn 40 = .ok (.ifCond .eq 23, 3) := by decide +kernel
theorem dX6_pointsIn_43 : decode cX6_pointsIn 43 = .ok (.aload_n 0, 1) := by decide +kernel
theorem dX6_pointsIn_44 : decode cX6_pointsIn 44 = .ok (.iload 6, 2) := by decide +kernel
theorem dX6_pointsIn_46 : decode cX6_pointsIn 46 = .ok (.iconst 1, 1) := by decide +kernel
theorem dX6_pointsIn_47 : decode cX6_pointsIn 47 = .ok (.invokevirtual 28, 3) := by decide +kernel
theorem dX6_pointsIn_50 : decode cX6_pointsIn 50 = .ok (.iload_n 2, 1) := by decide +kernel
theorem dX6_pointsIn_51 : decode cX6_pointsIn 51 = .ok (.iload 4, 2) := by decide +kernel
theorem dX6_pointsIn_53 : decode cX6_pointsIn 53 = .ok (.invokestatic 24, 3) := by decide +kernel
theorem dX6_pointsIn_56 : decode cX6_pointsIn 56 = .ok (.ifCond .eq 7, 3) := by decide +kernel
theorem dX6_pointsIn_59 : decode cX6_pointsIn 59 = .ok (.iconst 1, 1) := by decide +kernel
theorem dX6_pointsIn_60 : decode cX6_pointsIn 60 = .ok (.goto 4, 3) := by decide +kernel
theorem dX6_pointsIn_63 : decode cX6_pointsIn 63 = .ok (.iconst 0, 1) := by decide +kernel
theorem dX6_pointsIn_64 : decode cX6_pointsIn 64 = .ok (.iadd, 1) := by decide +kernel
theorem dX6_pointsIn_65 : decode cX6_pointsIn 65 = .ok (.istore 5, 2) := by decide +kernel
theorem dX6_pointsIn_67 : decode cX6_pointsIn 67 = .ok (.iinc 6 1, 3) := by decide +kernel
theorem dX6_pointsIn_70 : decode cX6_pointsIn 70 = .ok (.goto (-64), 3) := by decide +kernel
theorem dX6_pointsIn_73 : decode cX6_pointsIn 73 = .ok (.iload 5, 2) := by decide +kernel
theorem dX6_pointsIn_75 : decode cX6_pointsIn 75 = .ok (.ireturn, 1) := by decide +kernel
theorem dX6_pointsInCell_0 : decode cX6_pointsInCell 0 = .ok (.aload_n 0, 1) := by decide +kernel
theorem dX6_pointsInCell_1 : decode cX6_pointsInCell 1 = .ok (.iload_n 1, 1) := by decide +kernel
theorem dX6_pointsInCell_2 : decode cX6_pointsInCell 2 = .ok (.iload_n 2, 1) := by decide +kernel
theorem dX6_pointsInCell_3 : decode cX6_pointsInCell 3 = .ok (.iload_n 1, 1) := by decide +kernel
theorem dX6_pointsInCell_4 : decode cX6_pointsInCell 4 = .ok (.iload_n 3, 1) := by decide +kernel
theorem dX6_pointsInCell_5 : decode cX6_pointsInCell 5 = .ok (.iadd, 1) := by decide +kernel
theorem dX6_pointsInCell_6 : decode cX6_pointsInCell 6 = .ok (.iconst 1, 1) := by decide +kernel
theorem dX6_pointsInCell_7 : decode cX6_pointsInCell 7 = .ok (.isub, 1) := by decide +kernel
theorem dX6_pointsInCell_8 : decode cX6_pointsInCell 8 = .ok (.iload_n 2, 1) := by decide +kernel
theorem dX6_pointsInCell_9 : decode cX6_pointsInCell 9 = .ok (.iload_n 3, 1) := by decide +kernel
theorem dX6_pointsInCell_10 : decode cX6_pointsInCell 10 = .ok (.iadd, 1) := by decide +kernel
theorem dX6_pointsInCell_11 : decode cX6_pointsInCell 11 = .ok (.iconst 1, 1) := by decide +kernel
theorem dX6_pointsInCell_12 : decode cX6_pointsInCell 12 = .ok (.isub, 1) := by decide +kernel
theorem dX6_pointsInCell_13 : decode cX6_pointsInCell 13 = .ok (.invokevirtual 49, 3) := by decide +kernel
theorem dX6_pointsInCell_16 : decode cX6_pointsInCell 16 = .ok (.ireturn, 1) := by decide +kernel
theorem dX6_debtOf_0 : decode cX6_debtOf 0 = .ok (.aload_n 0, 1) := by decide +kernel
theorem dX6_debtOf_1 : decode cX6_debtOf 1 = .ok (.getfield 7, 3) := by decide +kernel
theorem dX6_debtOf_4 : decode cX6_debtOf 4 = .ok (.sipush 364, 3) := by decide +kernel
theorem dX6_debtOf_7 : decode cX6_debtOf 7 = .ok (.bipush 40, 2) := by decide +kernel
theorem dX6_debtOf_9 : decode cX6_debtOf 9 = .ok (.iload_n 1, 1) := by decide +kernel
theorem dX6_debtOf_10 : decode cX6_debtOf 10 = .ok (.imul, 1) := by decide +kernel
theorem dX6_debtOf_11 : decode cX6_debtOf 11 = .ok (.iadd, 1) := by decide +kernel
theorem dX6_debtOf_12 : decode cX6_debtOf 12 = .ok (.iload_n 2, 1) := by decide +kernel
theorem dX6_debtOf_13 : decode cX6_debtOf 13 = .ok (.iadd, 1) := by decide +kernel
theorem dX6_debtOf_14 : decode cX6_debtOf 14 = .ok (.iaload, 1) := by decide +kernel
theorem dX6_debtOf_15 : decode cX6_debtOf 15 = .ok (.ireturn, 1) := by decide +kernel
theorem dX6_owes_0 : decode cX6_owes 0 = .ok (.aload_n 0, 1) := by decide +kernel
theorem dX6_owes_1 : decode cX6_owes 1 = .ok (.getfield 7, 3) := by decide +kernel
theorem dX6_owes_4 : decode cX6_owes 4 = .ok (.sipush 364, 3) := by decide +kernel
theorem dX6_owes_7 : decode cX6_owes 7 = .ok (.bipush 40, 2) := by decide +kernel
theorem dX6_owes_9 : decode cX6_owes 9 = .ok (.iload_n 1, 1) := by decide +kernel
theorem dX6_owes_10 : decode cX6_owes 10 = .ok (.imul, 1) := by decide +kernel
theorem dX6_owes_11 : decode cX6_owes 11 = .ok (.iadd, 1) := by decide +kernel
theorem dX6_owes_12 : decode cX6_owes 12 = .ok (.iload_n 2, 1) := by decide +kernel
theorem dX6_owes_13 : decode cX6_owes 13 = .ok (.iadd, 1) := by decide +kernel
theorem dX6_owes_14 : decode cX6_owes 14 = .ok (.dup2, 1) := by decide +kernel
theorem dX6_owes_15 : decode cX6_owes 15 = .ok (.iaload, 1) := by decide +kernel
theorem dX6_owes_16 : decode cX6_owes 16 = .ok (.iload_n 3, 1) := by decide +kernel
theorem dX6_owes_17 : decode cX6_owes 17 = .ok (.iadd, 1) := by decide +kernel
theorem dX6_owes_18 : decode cX6_owes 18 = .ok (.iastore, 1) := by decide +kernel
theorem dX6_owes_19 : decode cX6_owes 19 = .ok (.return_, 1) := by decide +kernel
theorem dX6_owed_0 : decode cX6_owed 0 = .ok (.iconst 0, 1) := by decide +kernel
theorem dX6_owed_1 : decode cX6_owed 1 = .ok (.istore_n 2, 1) := by decide +kernel
theorem dX6_owed_2 : decode cX6_owed 2 = .ok (.iconst 0, 1) := by decide +kernel
theorem dX6_owed_3 : decode cX6_owed 3 = .ok (.istore_n 3, 1) := by decide +kernel
theorem dX6_owed_4 : decode cX6_owed 4 = .ok (.iload_n 3, 1) := by decide +kernel
theorem dX6_owed_5 : decode cX6_owed 5 = .ok (.bipush 40, 2) := by decide +kernel
theorem dX6_owed_7 : decode cX6_owed 7 = .ok (.if_icmp .ge 18, 3) := by decide +kernel
theorem dX6_owed_10 : decode cX6_owed 10 = .ok (.iload_n 2, 1) := by decide +kernel
theorem dX6_owed_11 : decode cX6_owed 11 = .ok (.aload_n 0, 1) := by decide +kernel
theorem dX6_owed_12 : decode cX6_owed 12 = .ok (.iload_n 1, 1) := by decide +kernel
theorem dX6_owed_13 : decode cX6_owed 13 = .ok (.iload_n 3, 1) := by decide +kernel
theorem dX6_owed_14 : decode cX6_owed 14 = .ok (.invokevirtual 53, 3) := by decide +kernel
theorem dX6_owed_17 : decode cX6_owed 17 = .ok (.iadd, 1) := by decide +kernel
theorem dX6_owed_18 : decode cX6_owed 18 = .ok (.istore_n 2, 1) := by decide +kernel
theorem dX6_owed_19 : decode cX6_owed 19 = .ok (.iinc 3 1, 3) := by decide +kernel
theorem dX6_owed_22 : decode cX6_owed 22 = .ok (.goto (-18), 3) := by decide +kernel
theorem dX6_owed_25 : decode cX6_owed 25 = .ok (.iload_n 2, 1) := by decide +kernel
theorem dX6_owed_26 : decode cX6_owed 26 = .ok (.ireturn, 1) := by decide +kernel
theorem dX6_setParish_0 : decode cX6_setParish 0 = .ok (.aload_n 0, 1) := by decide +kernel
theorem dX6_setParish_1 : decode cX6_setParish 1 = .ok (.getfield 7, 3) := by decide +kernel
theorem dX6_setParish_4 : decode cX6_setParish 4 = .ok (.sipush 204, 3) := by decide +kernel
theorem dX6_setParish_7 : decode cX6_setParish 7 = .ok (.iconst 4, 1) := by decide +kernel
theorem dX6_setParish_8 : decode cX6_setParish 8 = .ok (.iload_n 1, 1) := by decide +kernel
theorem dX6_setParish_9 : decode cX6_setParish 9 = .ok (.imul, 1) := by decide +kernel
theorem dX6_setParish_10 : decode cX6_setParish 10 = .ok (.iadd, 1) := by decide +kernel
theorem dX6_setParish_11 : decode cX6_setParish 11 = .ok (.iconst 1, 1) := by decide +kernel
theorem dX6_setParish_12 : decode cX6_setParish 12 = .ok (.iastore, 1) := by decide +kernel
theorem dX6_setParish_13 : decode cX6_setParish 13 = .ok (.aload_n 0, 1) := by decide +kernel
theorem dX6_setParish_14 : decode cX6_setParish 14 = .ok (.getfield 7, 3) := by decide +kernel
theorem dX6_setParish_17 : decode cX6_setParish 17 = .ok (.sipush 204, 3) := by decide +kernel
theorem dX6_setParish_20 : decode cX6_setParish 20 = .ok (.iconst 4, 1) := by decide +kernel
theorem dX6_setParish_21 : decode cX6_setParish 21 = .ok (.iload_n 1, 1) := by decide +kernel
theorem dX6_setParish_22 : decode cX6_setParish 22 = .ok (.imul, 1) := by decide +kernel
theorem dX6_setParish_23 : decode cX6_setParish 23 = .ok (.iadd, 1) := by decide +kernel
theorem dX6_setParish_24 : decode cX6_setParish 24 = .ok (.iconst 1, 1) := by decide +kernel
theorem dX6_setParish_25 : decode cX6_setParish 25 = .ok (.iadd, 1) := by decide +kernel
theorem dX6_setParish_26 : decode cX6_setParish 26 = .ok (.iload_n 2, 1) := by decide +kernel
theorem dX6_setParish_27 : decode cX6_setParish 27 = .ok (.iastore, 1) := by decide +kernel
theorem dX6_setParish_28 : decode cX6_setParish 28 = .ok (.aload_n 0, 1) := by decide +kernel
theorem dX6_setParish_29 : decode cX6_setParish 29 = .ok (.getfield 7, 3) := by decide +kernel
theorem dX6_setParish_32 : decode cX6_setParish 32 = .ok (.sipush 204, 3) := by decide +kernel
theorem dX6_setParish_35 : decode cX6_setParish 35 = .ok (.iconst 4, 1) := by decide +kernel
theorem dX6_setParish_36 : decode cX6_setParish 36 = .ok (.iload_n 1, 1) := by decide +kernel
theorem dX6_setParish_37 : decode cX6_setParish 37 = .ok (.imul, 1) := by decide +kernel
theorem dX6_setParish_38 : decode cX6_setParish 38 = .ok (.iadd, 1) := by decide +kernel
theorem dX6_setParish_39 : decode cX6_setParish 39 = .ok (.iconst 2, 1) := by decide +kernel
theorem dX6_setParish_40 : decode cX6_setParish 40 = .ok (.iadd, 1) := by decide +kernel
theorem dX6_setParish_41 : decode cX6_setParish 41 = .ok (.iload_n 3, 1) := by decide +kernel
theorem dX6_setParish_42 : decode cX6_setParish 42 = .ok (.iastore, 1) := by decide +kernel
theorem dX6_setParish_43 : decode cX6_setParish 43 = .ok (.aload_n 0, 1) := by decide +kernel
theorem dX6_setParish_44 : decode cX6_setParish 44 = .ok (.getfield 7, 3) := by decide +kernel
theorem dX6_setParish_47 : decode cX6_setParish 47 = .ok (.sipush 204, 3) := by decide +kernel
theorem dX6_setParish_50 : decode cX6_setParish 50 = .ok (.iconst 4, 1) := by decide +kernel
theorem dX6_setParish_51 : decode cX6_setParish 51 = .ok (.iload_n 1, 1) := by decide +kernel
theorem dX6_setParish_52 : decode cX6_setParish 52 = .ok (.imul, 1) := by decide +kernel
theorem dX6_setParish_53 : decode cX6_setParish 53 = .ok (.iadd, 1) := by decide +kernel
theorem dX6_setParish_54 : decode cX6_setParish 54 = .ok (.iconst 3, 1) := by decide +kernel
theorem dX6_setParish_55 : decode cX6_setParish 55 = .ok (.iadd, 1) := by decide +kernel
theorem dX6_setParish_56 : decode cX6_setParish 56 = .ok (.iload 4, 2) := by decide +kernel
theorem dX6_setParish_58 : decode cX6_setParish 58 = .ok (.iastore, 1) := by decide +kernel
theorem dX6_setParish_59 : decode cX6_setParish 59 = .ok (.return_, 1) := by decide +kernel
theorem dX6_setLord_0 : decode cX6_setLord 0 = .ok (.aload_n 0, 1) := by decide +kernel
theorem dX6_setLord_1 : decode cX6_setLord 1 = .ok (.getfield 7, 3) := by decide +kernel
theorem dX6_setLord_4 : decode cX6_setLord 4 = .ok (.iconst 4, 1) := by decide +kernel
theorem dX6_setLord_5 : decode cX6_setLord 5 = .ok (.iconst 5, 1) := by decide +kernel
theorem dX6_setLord_6 : decode cX6_setLord 6 = .ok (.iload_n 1, 1) := by decide +kernel
theorem dX6_setLord_7 : decode cX6_setLord 7 = .ok (.imul, 1) := by decide +kernel
theorem dX6_setLord_8 : decode cX6_setLord 8 = .ok (.iadd, 1) := by decide +kernel
theorem dX6_setLord_9 : decode cX6_setLord 9 = .ok (.iconst 4, 1) := by decide +kernel
theorem dX6_setLord_10 : decode cX6_setLord 10 = .ok (.iadd, 1) := by decide +kernel
theorem dX6_setLord_11 : decode cX6_setLord 11 = .ok (.iload_n 2, 1) := by decide +kernel
theorem dX6_setLord_12 : decode cX6_setLord 12 = .ok (.iastore, 1) := by decide +kernel
theorem dX6_setLord_13 : decode cX6_setLord 13 = .ok (.return_, 1) := by decide +kernel
theorem dX6_isCrowded_0 : decode cX6_isCrowded 0 = .ok (.aload_n 0, 1) := by decide +kernel
theorem dX6_isCrowded_1 : decode cX6_isCrowded 1 = .ok (.aload_n 0, 1) := by decide +kernel
theorem dX6_isCrowded_2 : decode cX6_isCrowded 2 = .ok (.iload_n 1, 1) := by decide +kernel
theorem dX6_isCrowded_3 : decode cX6_isCrowded 3 = .ok (.iconst 1, 1) := by decide +kernel
theorem dX6_isCrowded_4 : decode cX6_isCrowded 4 = .ok (.invokevirtual 32, 3) := by decide +kernel
theorem dX6_isCrowded_7 : decode cX6_isCrowded 7 = .ok (.aload_n 0, 1) := by decide +kernel
theorem dX6_isCrowded_8 : decode cX6_isCrowded 8 = .ok (.iload_n 1, 1) := by decide +kernel
theorem dX6_isCrowded_9 : decode cX6_isCrowded 9 = .ok (.iconst 2, 1) := by decide +kernel
theorem dX6_isCrowded_10 : decode cX6_isCrowded 10 = .ok (.invokevirtual 32, 3) := by decide +kernel
theorem dX6_isCrowded_13 : decode cX6_isCrowded 13 = .ok (.aload_n 0, 1) := by decide +kernel
theorem dX6_isCrowded_14 : decode cX6_isCrowded 14 = .ok (.iload_n 1, 1) := by decide +kernel
theorem dX6_isCrowded_15 : decode cX6_isCrowded 15 = .ok (.invokevirtual 39, 3) := by decide +kernel
theorem dX6_isCrowded_18 : decode cX6_isCrowded 18 = .ok (.invokevirtual 56, 3) := by decide +kernel
theorem dX6_isCrowded_21 : decode cX6_isCrowded 21 = .ok (.aload_n 0, 1) := by decide +kernel
theorem dX6_isCrowded_22 : decode cX6_isCrowded 22 = .ok (.getfield 7, 3) := by decide +kernel
theorem dX6_isCrowded_25 : decode cX6_isCrowded 25 = .ok (.iconst 0, 1) := by decide +kernel
theorem dX6_isCrowded_26 : decode cX6_isCrowded 26 = .ok (.iaload, 1) := by decide +kernel
theorem dX6_isCrowded_27 : decode cX6_isCrowded 27 = .ok (.if_icmp .le 7, 3) := by decide +kernel
theorem dX6_isCrowded_30 : decode cX6_isCrowded 30 = .ok (.iconst 1, 1) := by decide +kernel
theorem dX6_isCrowded_31 : decode cX6_isCrowded 31 = .ok (.goto 4, 3) := by decide +kernel
theorem dX6_isCrowded_34 : decode cX6_isCrowded 34 = .ok (.iconst 0, 1) := by decide +kernel
theorem dX6_isCrowded_35 : decode cX6_isCrowded 35 = .ok (.ireturn, 1) := by decide +kernel
theorem dX6_toSplit_0 : decode cX6_toSplit 0 = .ok (.iconst 0, 1) := by decide +kernel
theorem dX6_toSplit_1 : decode cX6_toSplit 1 = .ok (.istore_n 1, 1) := by decide +kernel
theorem dX6_toSplit_2 : decode cX6_toSplit 2 = .ok (.iload_n 1, 1) := by decide +kernel
theorem dX6_toSplit_3 : decode cX6_toSplit 3 = .ok (.aload_n 0, 1) := by decide +kernel
theorem dX6_toSplit_4 : decode cX6_toSplit 4 = .ok (.getfield 7, 3) := by decide +kernel
theorem dX6_toSplit_7 : decode cX6_toSplit 7 = .ok (.iconst 3, 1) := by decide +kernel
theorem dX6_toSplit_8 : decode cX6_toSplit 8 = .ok (.iaload, 1) := by decide +kernel
theorem dX6_toSplit_9 : decode cX6_toSplit 9 = .ok (.if_icmp .ge 37, 3) := by decide +kernel
theorem dX6_toSplit_12 : decode cX6_toSplit 12 = .ok (.aload_n 0, 1) := by decide +kernel
theorem dX6_toSplit_13 : decode cX6_toSplit 13 = .ok (.iload_n 1, 1) := by decide +kernel
theorem dX6_toSplit_14 : decode cX6_toSplit 14 = .ok (.invokevirtual 35, 3) := by decide +kernel
theorem dX6_toSplit_17 : decode cX6_toSplit 17 = .ok (.ifCond .eq 23, 3) := by decide +kernel
theorem dX6_toSplit_20 : decode cX6_toSplit 20 = .ok (.aload_n 0, 1) := by decide +kernel
theorem dX6_toSplit_21 : decode cX6_toSplit 21 = .ok (.iload_n 1, 1) := by decide +kernel
theorem dX6_toSplit_22 : decode cX6_toSplit 22 = .ok (.iconst 3, 1) := by decide +kernel
theorem dX6_toSplit_23 : decode cX6_toSplit 23 = .ok (.invokevirtual 32, 3) := by decide +kernel
theorem dX6_toSplit_26 : decode cX6_toSplit 26 = .ok (.iconst 4, 1) := by decide +kernel
theorem dX6_toSplit_27 : decode cX6_toSplit 27 = .ok (.if_icmp .ge 13, 3) := by decide +kernel
theorem dX6_toSplit_30 : decode cX6_toSplit 30 = .ok (.aload_n 0, 1) := by decide +kernel
theorem dX6_toSplit_31 : decode cX6_toSplit 31 = .ok (.iload_n 1, 1) := by decide +kernel
theorem dX6_toSplit_32 : decode cX6_toSplit 32 = .ok (.invokevirtual 60, 3) := by decide +kernel
theorem dX6_toSplit_35 : decode cX6_toSplit 35 = .ok (.ifCond .eq 5, 3) := by decide +kernel
theorem dX6_toSplit_38 : decode cX6_toSplit 38 = .ok (.iload_n 1, 1) := by decide +kernel
theorem dX6_toSplit_39 : decode cX6_toSplit 39 = .ok (.ireturn, 1) := by decide +kernel
theorem dX6_toSplit_40 : decode cX6_toSplit 40 = .ok (.iinc 1 1, 3) := by decide +kernel
theorem dX6_toSplit_43 : decode cX6_toSplit 43 = .ok (.goto (-41), 3) := by decide +kernel
theorem dX6_toSplit_46 : decode cX6_toSplit 46 = .ok (.bipush (-9), 2) := by decide +kernel
theorem dX6_toSplit_48 : decode cX6_toSplit 48 = .ok (.ireturn, 1) := by decide +kernel
theorem dX6_settles_0 : decode cX6_settles 0 = .ok (.aload_n 0, 1) := by decide +kernel
theorem dX6_settles_1 : decode cX6_settles 1 = .ok (.invokevirtual 63, 3) := by decide +kernel
theorem dX6_settles_4 : decode cX6_settles 4 = .ok (.istore_n 1, 1) := by decide +kernel
theorem dX6_settles_5 : decode cX6_settles 5 = .ok (.iload_n 1, 1) := by decide +kernel
theorem dX6_settles_6 : decode cX6_settles 6 = .ok (.bipush (-9), 2) := by decide +kernel
theorem dX6_settles_8 : decode cX6_settles 8 = .ok (.if_icmp .eq 27, 3) := by decide +kernel
theorem dX6_settles_11 : decode cX6_settles 11 = .ok (.aload_n 0, 1) := by decide +kernel
theorem dX6_settles_12 : decode cX6_settles 12 = .ok (.getfield 7, 3) := by decide +kernel
theorem dX6_settles_15 : decode cX6_settles 15 = .ok (.iconst 3, 1) := by decide +kernel
theorem dX6_settles_16 : decode cX6_settles 16 = .ok (.iaload, 1) := by decide +kernel
theorem dX6_settles_17 : decode cX6_settles 17 = .ok (.bipush 38, 2) := by decide +kernel
theorem dX6_settles_19 : decode cX6_settles 19 = .ok (.if_icmp .ge 16, 3) := by decide +kernel
theorem dX6_settles_22 : decode cX6_settles 22 = .ok (.aload_n 0, 1) := by decide +kernel
theorem dX6_settles_23 : decode cX6_settles 23 = .ok (.iload_n 1, 1) := by decide +kernel
theorem dX6_settles_24 : decode cX6_settles 24 = .ok (.invokevirtual 67, 3) := by decide +kernel
theorem dX6_settles_27 : decode cX6_settles 27 = .ok (.aload_n 0, 1) := by decide +kernel
theorem dX6_settles_28 : decode cX6_settles 28 = .ok (.invokevirtual 63, 3) := by decide +kernel
theorem dX6_settles_31 : decode cX6_settles 31 = .ok (.istore_n 1, 1) := by decide +kernel
theorem dX6_settles_32 : decode cX6_settles 32 = .ok (.goto (-27), 3) := by decide +kernel
theorem dX6_settles_35 : decode cX6_settles 35 = .ok (.return_, 1) := by decide +kernel
theorem dX6_splits_0 : decode cX6_splits 0 = .ok (.aload_n 0, 1) := by decide +kernel
theorem dX6_splits_1 : decode cX6_splits 1 = .ok (.iload_n 1, 1) := by decide +kernel
theorem dX6_splits_2 : decode cX6_splits 2 = .ok (.iconst 1, 1) := by decide +kernel
theorem dX6_splits_3 : decode cX6_splits 3 = .ok (.invokevirtual 32, 3) := by decide +kernel
theorem dX6_splits_6 : decode cX6_splits 6 = .ok (.istore_n 2, 1) := by decide +kernel
theorem dX6_splits_7 : decode cX6_splits 7 = .ok (.aload_n 0, 1) := by decide +kernel
theorem dX6_splits_8 : decode cX6_splits 8 = .ok (.iload_n 1, 1) := by decide +kernel
theorem dX6_splits_9 : decode cX6_splits 9 = .ok (.iconst 2, 1) := by decide +kernel
theorem dX6_splits_10 : decode cX6_splits 10 = .ok (.invokevirtual 32, 3) := by decide +kernel
theorem dX6_splits_13 : decode cX6_splits 13 = .ok (.istore_n 3, 1) := by decide +kernel
theorem dX6_splits_14 : decode cX6_splits 14 = .ok (.aload_n 0, 1) := by decide +kernel
theorem dX6_splits_15 : decode cX6_splits 15 = .ok (.iload_n 1, 1) := by decide +kernel
theorem dX6_splits_16 : decode cX6_splits 16 = .ok (.iconst 3, 1) := by decide +kernel
theorem dX6_splits_17 : decode cX6_splits 17 = .ok (.invokevirtual 32, 3) := by decide +kernel
theorem dX6_splits_20 : decode cX6_splits 20 = .ok (.iconst 1, 1) := by decide +kernel
theorem dX6_splits_21 : decode cX6_splits 21 = .ok (.iadd, 1) := by decide +kernel
theorem dX6_splits_22 : decode cX6_splits 22 = .ok (.istore 4, 2) := by decide +kernel
theorem dX6_splits_24 : decode cX6_splits 24 = .ok (.bipush 64, 2) := by decide +kernel
theorem dX6_splits_26 : decode cX6_splits 26 = .ok (.iload 4, 2) := by decide +kernel
theorem dX6_splits_28 : decode cX6_splits 28 = .ok (.ishr, 1) := by decide +kernel
theorem dX6_splits_29 : decode cX6_splits 29 = .ok (.istore 5, 2) := by decide +kernel
theorem dX6_splits_31 : decode cX6_splits 31 = .ok (.iconst 0, 1) := by decide +kernel
theorem dX6_splits_32 : decode cX6_splits 32 = .ok (.istore 6, 2) := by decide +kernel
theorem dX6_splits_34 : decode cX6_splits 34 = .ok (.iconst (-1), 1) := by decide +kernel
theorem dX6_splits_35 : decode cX6_splits 35 = .ok (.istore 7, 2) := by decide +kernel
theorem dX6_splits_37 : decode cX6_splits 37 = .ok (.iconst 0, 1) := by decide +kernel
theorem dX6_splits_38 : decode cX6_splits 38 = .ok (.istore 8, 2) := by decide +kernel
theorem dX6_splits_40 : decode cX6_splits 40 = .ok (.iload 8, 2) := by decide +kernel
theorem dX6_splits_42 : decode cX6_splits 42 = .ok (.iconst 4, 1) := by decide +kernel
theorem dX6_splits_43 : decode cX6_splits 43 = .ok (.if_icmp .ge 67, 3) := by decide +kernel
theorem dX6_splits_46 : decode cX6_splits 46 = .ok (.aload_n 0, 1) := by decide +kernel
theorem dX6_splits_47 : decode cX6_splits 47 = .ok (.iload_n 2, 1) := by decide +kernel
theorem dX6_splits_48 : decode cX6_splits 48 = .ok (.iload 5, 2) := by decide +kernel
theorem dX6_splits_50 : decode cX6_splits 50 = .ok (.iload 8, 2) := by decide +kernel
theorem dX6_splits_52 : decode cX6_splits 52 = .ok (.iconst 2, 1) := by decide +kernel
theorem dX6_splits_53 : decode cX6_splits 53 = .ok (.irem, 1) := by decide +kernel
theorem dX6_splits_54 : decode cX6_splits 54 = .ok (.imul, 1) := by decide +kernel
theorem dX6_splits_55 : decode cX6_splits 55 = .ok (.iadd, 1) := by decide +kernel
theorem dX6_splits_56 : decode cX6_splits 56 = .ok (.iload_n 3, 1) := by decide +kernel
theorem dX6_splits_57 : decode cX6_splits 57 = .ok (.iload 5, 2) := by decide +kernel
theorem dX6_splits_59 : decode cX6_splits 59 = .ok (.iload 8, 2) := by decide +kernel
theorem dX6_splits_61 : decode cX6_splits 61 = .ok (.iconst 2, 1) := by decide +kernel
theorem dX6_splits_62 : decode cX6_splits 62 = .ok (.idiv, 1) := by decide +kernel
theorem dX6_splits_63 : decode cX6_splits 63 = .ok (.imul, 1) := by decide +kernel
theorem dX6_splits_64 : decode cX6_splits 64 = .ok (.iadd, 1) := by decide +kernel
theorem dX6_splits_65 : decode cX6_splits 65 = .ok (.iload 5, 2) := by decide +kernel
theorem dX6_splits_67 : decode cX6_splits 67 = .ok (.invokevirtual 56, 3) := by decide +kernel
theorem dX6_splits_70 : decode cX6_splits 70 = .ok (.istore 9, 2) := by decide +kernel
theorem dX6_splits_72 : decode cX6_splits 72 = .ok (.iload 9, 2) := by decide +kernel
theorem dX6_splits_74 : decode cX6_splits 74 = .ok (.iload 7, 2) := by decide +kernel
theorem dX6_splits_76 : decode cX6_splits 76 = .ok (.if_icmp .le 8, 3) := by decide +kernel
theorem dX6_splits_79 : decode cX6_splits 79 = .ok (.iload 8, 2) := by decide +kernel
theorem dX6_splits_81 : decode cX6_splits 81 = .ok (.goto 5, 3) := by decide +kernel
theorem dX6_splits_84 : decode cX6_splits 84 = .ok (.iload 6, 2) := by decide +kernel
theorem dX6_splits_86 : decode cX6_splits 86 = .ok (.istore 6, 2) := by decide +kernel
theorem dX6_splits_88 : decode cX6_splits 88 = .ok (.iload 9, 2) := by decide +kernel
theorem dX6_splits_90 : decode cX6_splits 90 = .ok (.iload 7, 2) := by decide +kernel
theorem dX6_splits_92 : decode cX6_splits 92 = .ok (.if_icmp .le 8, 3) := by decide +kernel
theorem dX6_splits_95 : decode cX6_splits 95 = .ok (.iload 9, 2) := by decide +kernel
theorem dX6_splits_97 : decode cX6_splits 97 = .ok (.goto 5, 3) := by decide +kernel
theorem dX6_splits_100 : decode cX6_splits 100 = .ok (.iload 7, 2) := by decide +kernel
theorem dX6_splits_102 : decode cX6_splits 102 = .ok (.istore 7, 2) := by decide +kernel
theorem dX6_splits_104 : decode cX6_splits 104 = .ok (.iinc 8 1, 3) := by decide +kernel
theorem dX6_splits_107 : decode cX6_splits 107 = .ok (.goto (-67), 3) := by decide +kernel
theorem dX6_splits_110 : decode cX6_splits 110 = .ok (.aload_n 0, 1) := by decide +kernel
theorem dX6_splits_111 : decode cX6_splits 111 = .ok (.iload_n 1, 1) := by decide +kernel
theorem dX6_splits_112 : decode cX6_splits 112 = .ok (.iload_n 2, 1) := by decide +kernel
theorem dX6_splits_113 : decode cX6_splits 113 = .ok (.iload 5, 2) := by decide +kernel
theorem dX6_splits_115 : decode cX6_splits 115 = .ok (.iload 6, 2) := by decide +kernel
theorem dX6_splits_117 : decode cX6_splits 117 = .ok (.iconst 2, 1) := by decide +kernel
theorem dX6_splits_118 : decode cX6_splits 118 = .ok (.irem, 1) := by decide +kernel
theorem dX6_splits_119 : decode cX6_splits 119 = .ok (.imul, 1) := by decide +kernel
theorem dX6_splits_120 : decode cX6_splits 120 = .ok (.iadd, 1) := by decide +kernel
theorem dX6_splits_121 : decode cX6_splits 121 = .ok (.iload_n 3, 1) := by decide +kernel
theorem dX6_splits_122 : decode cX6_splits 122 = .ok (.iload 5, 2) := by decide +kernel
theorem dX6_splits_124 : decode cX6_splits 124 = .ok (.iload 6, 2) := by decide +kernel
theorem dX6_splits_126 : decode cX6_splits 126 = .ok (.iconst 2, 1) := by decide +kernel
theorem dX6_splits_127 : decode cX6_splits 127 = .ok (.idiv, 1) := by decide +kernel
theorem dX6_splits_128 : decode cX6_splits 128 = .ok (.imul, 1) := by decide +kernel
theorem dX6_splits_129 : decode cX6_splits 129 = .ok (.iadd, 1) := by decide +kernel
theorem dX6_splits_130 : decode cX6_splits 130 = .ok (.iload 4, 2) := by decide +kernel
theorem dX6_splits_132 : decode cX6_splits 132 = .ok (.invokevirtual 71, 3) := by decide +kernel
theorem dX6_splits_135 : decode cX6_splits 135 = .ok (.iconst 0, 1) := by decide +kernel
theorem dX6_splits_136 : decode cX6_splits 136 = .ok (.istore 8, 2) := by decide +kernel
theorem dX6_splits_138 : decode cX6_splits 138 = .ok (.iload 8, 2) := by decide +kernel
theorem dX6_splits_140 : decode cX6_splits 140 = .ok (.iconst 4, 1) := by decide +kernel
theorem dX6_splits_141 : decode cX6_splits 141 = .ok (.if_icmp .ge 41, 3) := by decide +kernel
theorem dX6_splits_144 : decode cX6_splits 144 = .ok (.iload 8, 2) := by decide +kernel
theorem dX6_splits_146 : decode cX6_splits 146 = .ok (.iload 6, 2) := by decide +kernel
theorem dX6_splits_148 : decode cX6_splits 148 = .ok (.if_icmp .eq 28, 3) := by decide +kernel
theorem dX6_splits_151 : decode cX6_splits 151 = .ok (.aload_n 0, 1) := by decide +kernel
theorem dX6_splits_152 : decode cX6_splits 152 = .ok (.iload_n 1, 1) := by decide +kernel
theorem dX6_splits_153 : decode cX6_splits 153 = .ok (.iload_n 2, 1) := by decide +kernel
theorem dX6_splits_154 : decode cX6_splits 154 = .ok (.iload 5, 2) := by decide +kernel
theorem dX6_splits_156 : decode cX6_splits 156 = .ok (.iload 8, 2) := by decide +kernel
theorem dX6_splits_158 : decode cX6_splits 158 = .ok (.iconst 2, 1) := by decide +kernel
theorem dX6_splits_159 : decode cX6_splits 159 = .ok (.irem, 1) := by decide +kernel
theorem dX6_splits_160 : decode cX6_splits 160 = .ok (.imul, 1) := by decide +kernel
theorem dX6_splits_161 : decode cX6_splits 161 = .ok (.iadd, 1) := by decide +kernel
theorem dX6_splits_162 : decode cX6_splits 162 = .ok (.iload_n 3, 1) := by decide +kernel
theorem dX6_splits_163 : decode cX6_splits 163 = .ok (.iload 5, 2) := by decide +kernel
theorem dX6_splits_165 : decode cX6_splits 165 = .ok (.iload 8, 2) := by decide +kernel
theorem dX6_splits_167 : decode cX6_splits 167 = .ok (.iconst 2, 1) := by decide +kernel
theorem dX6_splits_168 : decode cX6_splits 168 = .ok (.idiv, 1) := by decide +kernel
theorem dX6_splits_169 : decode cX6_splits 169 = .ok (.imul, 1) := by decide +kernel
theorem dX6_splits_170 : decode cX6_splits 170 = .ok (.iadd, 1) := by decide +kernel
theorem dX6_splits_171 : decode cX6_splits 171 = .ok (.iload 4, 2) := by decide +kernel
theorem dX6_splits_173 : decode cX6_splits 173 = .ok (.invokevirtual 75, 3) := by decide +kernel
theorem dX6_splits_176 : decode cX6_splits 176 = .ok (.iinc 8 1, 3) := by decide +kernel
theorem dX6_splits_179 : decode cX6_splits 179 = .ok (.goto (-41), 3) := by decide +kernel
theorem dX6_splits_182 : decode cX6_splits 182 = .ok (.return_, 1) := by decide +kernel
theorem dX6_founds_0 : decode cX6_founds 0 = .ok (.aload_n 0, 1) := by decide +kernel
theorem dX6_founds_1 : decode cX6_founds 1 = .ok (.getfield 7, 3) := by decide +kernel
theorem dX6_founds_4 : decode cX6_founds 4 = .ok (.iconst 3, 1) := by decide +kernel
theorem dX6_founds_5 : decode cX6_founds 5 = .ok (.iaload, 1) := by decide +kernel
theorem dX6_founds_6 : decode cX6_founds 6 = .ok (.istore 5, 2) := by decide +kernel
theorem dX6_founds_8 : decode cX6_founds 8 = .ok (.bipush 64, 2) := by decide +kernel
theorem dX6_founds_10 : decode cX6_founds 10 = .ok (.iload 4, 2) := by decide +kernel
theorem dX6_founds_12 : decode cX6_founds 12 = .ok (.ishr, 1) := by decide +kernel
theorem dX6_founds_13 : decode cX6_founds 13 = .ok (.istore 6, 2) := by decide +kernel
theorem dX6_founds_15 : decode cX6_founds 15 = .ok (.aload_n 0, 1) := by decide +kernel
theorem dX6_founds_16 : decode cX6_founds 16 = .ok (.getfield 7, 3) := by decide +kernel
theorem dX6_founds_19 : decode cX6_founds 19 = .ok (.iconst 3, 1) := by decide +kernel
theorem dX6_founds_20 : decode cX6_founds 20 = .ok (.dup2, 1) := by decide +kernel
theorem dX6_founds_21 : decode cX6_founds 21 = .ok (.iaload, 1) := by decide +kernel
theorem dX6_founds_22 : decode cX6_founds 22 = .ok (.iconst 1, 1) := by decide +kernel
theorem dX6_founds_23 : decode cX6_founds 23 = .ok (.iadd, 1) := by decide +kernel
theorem dX6_founds_24 : decode cX6_founds 24 = .ok (.iastore, 1) := by decide +kernel
theorem dX6_founds_25 : decode cX6_founds 25 = .ok (.aload_n 0, 1) := by decide +kernel
theorem dX6_founds_26 : decode cX6_founds 26 = .ok (.iload 5, 2) := by decide +kernel
theorem dX6_founds_28 : decode cX6_founds 28 = .ok (.iload_n 2, 1) := by decide +kernel
theorem dX6_founds_29 : decode cX6_founds 29 = .ok (.iload_n 3, 1) := by decide +kernel
theorem dX6_founds_30 : decode cX6_founds 30 = .ok (.iload 4, 2) := by decide +kernel
theorem dX6_founds_32 : decode cX6_founds 32 = .ok (.invokevirtual 71, 3) := by decide +kernel
theorem dX6_founds_35 : decode cX6_founds 35 = .ok (.aload_n 0, 1) := by decide +kernel
theorem dX6_founds_36 : decode cX6_founds 36 = .ok (.iload_n 2, 1) := by decide +kernel
theorem dX6_founds_37 : decode cX6_founds 37 = .ok (.iload_n 3, 1) := by decide +kernel
theorem dX6_founds_38 : decode cX6_founds 38 = .ok (.iload 6, 2) := by decide +kernel
theorem dX6_founds_40 : decode cX6_founds 40 = .ok (.invokevirtual 56, 3) := by decide +kernel
theorem dX6_founds_43 : decode cX6_founds 43 = .ok (.istore 7, 2) := by decide +kernel
theorem dX6_founds_45 : decode cX6_founds 45 = .ok (.aload_n 0, 1) := by decide +kernel
theorem dX6_founds_46 : decode cX6_founds 46 = .ok (.iload 5, 2) := by decide +kernel
theorem dX6_founds_48 : decode cX6_founds 48 = .ok (.iload_n 1, 1) := by decide +kernel
theorem dX6_founds_49 : decode cX6_founds 49 = .ok (.iload 7, 2) := by decide +kernel
theorem dX6_founds_51 : decode cX6_founds 51 = .ok (.aload_n 0, 1) := by decide +kernel
theorem dX6_founds_52 : decode cX6_founds 52 = .ok (.getfield 7, 3) := by decide +kernel
theorem dX6_founds_55 : decode cX6_founds 55 = .ok (.iconst 1, 1) := by decide +kernel
theorem dX6_founds_56 : decode cX6_founds 56 = .ok (.iaload, 1) := by decide +kernel
theorem dX6_founds_57 : decode cX6_founds 57 = .ok (.iadd, 1) := by decide +kernel
theorem dX6_founds_58 : decode cX6_founds 58 = .ok (.iconst 1, 1) := by decide +kernel
theorem dX6_founds_59 : decode cX6_founds 59 = .ok (.isub, 1) := by decide +kernel
theorem dX6_founds_60 : decode cX6_founds 60 = .ok (.aload_n 0, 1) := by decide +kernel
theorem dX6_founds_61 : decode cX6_founds 61 = .ok (.getfield 7, 3) := by decide +kernel
theorem dX6_founds_64 : decode cX6_founds 64 = .ok (.iconst 1, 1) := by decide +kernel
theorem dX6_founds_65 : decode cX6_founds 65 = .ok (.iaload, 1) := by decide +kernel
theorem dX6_founds_66 : decode cX6_founds 66 = .ok (.idiv, 1) := by decide +kernel
theorem dX6_founds_67 : decode cX6_founds 67 = .ok (.invokevirtual 78, 3) := by decide +kernel
theorem dX6_founds_70 : decode cX6_founds 70 = .ok (.iconst 0, 1) := by decide +kernel
theorem dX6_founds_71 : decode cX6_founds 71 = .ok (.istore 8, 2) := by decide +kernel
theorem dX6_founds_73 : decode cX6_founds 73 = .ok (.iload 8, 2) := by decide +kernel
theorem dX6_founds_75 : decode cX6_founds 75 = .ok (.aload_n 0, 1) := by decide +kernel
theorem dX6_founds_76 : decode cX6_founds 76 = .ok (.getfield 7, 3) := by decide +kernel
theorem dX6_founds_79 : decode cX6_founds 79 = .ok (.iconst 2, 1) := by decide +kernel
theorem dX6_founds_80 : decode cX6_founds 80 = .ok (.iaload, 1) := by decide +kernel
theorem dX6_founds_81 : decode cX6_founds 81 = .ok (.if_icmp .ge 89, 3) := by decide +kernel
theorem dX6_founds_84 : decode cX6_founds 84 = .ok (.aload_n 0, 1) := by decide +kernel
theorem dX6_founds_85 : decode cX6_founds 85 = .ok (.iload 8, 2) := by decide +kernel
theorem dX6_founds_87 : decode cX6_founds 87 = .ok (.iconst 0, 1) := by decide +kernel
theorem dX6_founds_88 : decode cX6_founds 88 = .ok (.invokevirtual 28, 3) := by decide +kernel
theorem dX6_founds_91 : decode cX6_founds 91 = .ok (.iload_n 2, 1) := by decide +kernel
theorem dX6_founds_92 : decode cX6_founds 92 = .ok (.iload_n 2, 1) := by decide +kernel
theorem dX6_founds_93 : decode cX6_founds 93 = .ok (.iload 6, 2) := by decide +kernel
theorem dX6_founds_95 : decode cX6_founds 95 = .ok (.iadd, 1) := by decide +kernel
theorem dX6_founds_96 : decode cX6_founds 96 = .ok (.iconst 1, 1) := by decide +kernel
theorem dX6_founds_97 : decode cX6_founds 97 = .ok (.isub, 1) := by decide +kernel
theorem dX6_founds_98 : decode cX6_founds 98 = .ok (.invokestatic 24, 3) := by decide +kernel
theorem dX6_founds_101 : decode cX6_founds 101 = .ok (.ifCond .eq 27, 3) := by decide +kernel
theorem dX6_founds_104 : decode cX6_founds 104 = .ok (.aload_n 0, 1) := by decide +kernel
theorem dX6_founds_105 : decode cX6_founds 105 = .ok (.iload 8, 2) := by decide +kernel
theorem dX6_founds_107 : decode cX6_founds 107 = .ok (.iconst 1, 1) := by decide +kernel
theorem dX6_founds_108 : decode cX6_founds 108 = .ok (.invokevirtual 28, 3) := by decide +kernel
theorem dX6_founds_111 : decode cX6_founds 111 = .ok (.iload_n 3, 1) := by decide +kernel
theorem dX6_founds_112 : decode cX6_founds 112 = .ok (.iload_n 3, 1) := by decide +kernel
theorem dX6_founds_113 : decode cX6_founds 113 = .ok (.iload 6, 2) := by decide +kernel
theorem dX6_founds_115 : decode cX6_founds 115 = .ok (.iadd, 1) := by decide +kernel
theorem dX6_founds_116 : decode cX6_founds 116 = .ok (.iconst 1, 1) := by decide +kernel
theorem dX6_founds_117 : decode cX6_founds 117 = .ok (.isub, 1) := by decide +kernel
theorem dX6_founds_118 : decode cX6_founds 118 = .ok (.invokestatic 24, 3) := by decide +kernel
theorem dX6_founds_121 : decode cX6_founds 121 = .ok (.ifCond .eq 7, 3) := by decide +kernel
theorem dX6_founds_124 : decode cX6_founds 124 = .ok (.iconst 1, 1) := by decide +kernel
theorem dX6_founds_125 : decode cX6_founds 125 = .ok (.goto 4, 3) := by decide +kernel
theorem dX6_founds_128 : decode cX6_founds 128 = .ok (.iconst 0, 1) := by decide +kernel
theorem dX6_founds_129 : decode cX6_founds 129 = .ok (.istore 9, 2) := by decide +kernel
theorem dX6_founds_131 : decode cX6_founds 131 = .ok (.aload_n 0, 1) := by decide +kernel
theorem dX6_founds_132 : decode cX6_founds 132 = .ok (.iload 8, 2) := by decide +kernel
theorem dX6_founds_134 : decode cX6_founds 134 = .ok (.invokevirtual 46, 3) := by decide +kernel
theorem dX6_founds_137 : decode cX6_founds 137 = .ok (.ifCond .eq 27, 3) := by decide +kernel
theorem dX6_founds_140 : decode cX6_founds 140 = .ok (.iload 9, 2) := by decide +kernel
theorem dX6_founds_142 : decode cX6_founds 142 = .ok (.ifCond .eq 22, 3) := by decide +kernel
theorem dX6_founds_145 : decode cX6_founds 145 = .ok (.aload_n 0, 1) := by decide +kernel
theorem dX6_founds_146 : decode cX6_founds 146 = .ok (.iload 8, 2) := by decide +kernel
theorem dX6_founds_148 : decode cX6_founds 148 = .ok (.iconst 4, 1) := by decide +kernel
theorem dX6_founds_149 : decode cX6_founds 149 = .ok (.invokevirtual 28, 3) := by decide +kernel
theorem dX6_founds_152 : decode cX6_founds 152 = .ok (.iload_n 1, 1) := by decide +kernel
theorem dX6_founds_153 : decode cX6_founds 153 = .ok (.if_icmp .ne 11, 3) := by decide +kernel
theorem dX6_founds_156 : decode cX6_founds 156 = .ok (.aload_n 0, 1) := by decide +kernel
theorem dX6_founds_157 : decode cX6_founds 157 = .ok (.iload 8, 2) := by decide +kernel
theorem dX6_founds_159 : decode cX6_founds 159 = .ok (.iload 5, 2) := by decide +kernel
theorem dX6_founds_161 : decode cX6_founds 161 = .ok (.invokevirtual 82, 3) := by decide +kernel
theorem dX6_founds_164 : decode cX6_founds 164 = .ok (.iinc 8 1, 3) := by decide +kernel
theorem dX6_founds_167 : decode cX6_founds 167 = .ok (.goto (-94), 3) := by decide +kernel
theorem dX6_founds_170 : decode cX6_founds 170 = .ok (.return_, 1) := by decide +kernel
theorem dX6_add_0 : decode cX6_add 0 = .ok (.iload_n 1, 1) := by decide +kernel
theorem dX6_add_1 : decode cX6_add 1 = .ok (.iload_n 2, 1) := by decide +kernel
theorem dX6_add_2 : decode cX6_add 2 = .ok (.invokestatic 85, 3) := by decide +kernel
theorem dX6_add_5 : decode cX6_add 5 = .ok (.ifCond .eq 13, 3) := by decide +kernel
theorem dX6_add_8 : decode cX6_add 8 = .ok (.iload_n 3, 1) := by decide +kernel
theorem dX6_add_9 : decode cX6_add 9 = .ok (.iconst 1, 1) := by decide +kernel
theorem dX6_add_10 : decode cX6_add 10 = .ok (.bipush 100, 2) := by decide +kernel
theorem dX6_add_12 : decode cX6_add 12 = .ok (.invokestatic 24, 3) := by decide +kernel
theorem dX6_add_15 : decode cX6_add 15 = .ok (.ifCond .ne 5, 3) := by decide +kernel
theorem dX6_add_18 : decode cX6_add 18 = .ok (.iconst (-1), 1) := by decide +kernel
theorem dX6_add_19 : decode cX6_add 19 = .ok (.ireturn, 1) := by decide +kernel
theorem dX6_add_20 : decode cX6_add 20 = .ok (.aload_n 0, 1) := by decide +kernel
theorem dX6_add_21 : decode cX6_add 21 = .ok (.getfield 7, 3) := by decide +kernel
theorem dX6_add_24 : decode cX6_add 24 = .ok (.iconst 2, 1) := by decide +kernel
theorem dX6_add_25 : decode cX6_add 25 = .ok (.iaload, 1) := by decide +kernel
theorem dX6_add_26 : decode cX6_add 26 = .ok (.bipush 40, 2) := by decide +kernel
theorem dX6_add_28 : decode cX6_add 28 = .ok (.if_icmp .ne 6, 3) := by decide +kernel
theorem dX6_add_31 : decode cX6_add 31 = .ok (.bipush (-3), 2) := by decide +kernel
theorem dX6_add_33 : decode cX6_add 33 = .ok (.ireturn, 1) := by decide +kernel
theorem dX6_add_34 : decode cX6_add 34 = .ok (.aload_n 0, 1) := by decide +kernel
theorem dX6_add_35 : decode cX6_add 35 = .ok (.invokevirtual 89, 3) := by decide +kernel
theorem dX6_add_38 : decode cX6_add 38 = .ok (.aload_n 0, 1) := by decide +kernel
theorem dX6_add_39 : decode cX6_add 39 = .ok (.getfield 7, 3) := by decide +kernel
theorem dX6_add_42 : decode cX6_add 42 = .ok (.iconst 2, 1) := by decide +kernel
theorem dX6_add_43 : decode cX6_add 43 = .ok (.iaload, 1) := by decide +kernel
theorem dX6_add_44 : decode cX6_add 44 = .ok (.istore 4, 2) := by decide +kernel
theorem dX6_add_46 : decode cX6_add 46 = .ok (.aload_n 0, 1) := by decide +kernel
theorem dX6_add_47 : decode cX6_add 47 = .ok (.getfield 7, 3) := by decide +kernel
theorem dX6_add_50 : decode cX6_add 50 = .ok (.iconst 2, 1) := by decide +kernel
theorem dX6_add_51 : decode cX6_add 51 = .ok (.dup2, 1) := by decide +kernel
theorem dX6_add_52 : decode cX6_add 52 = .ok (.iaload, 1) := by decide +kernel
theorem dX6_add_53 : decode cX6_add 53 = .ok (.iconst 1, 1) := by decide +kernel
theorem dX6_add_54 : decode cX6_add 54 = .ok (.iadd, 1) := by decide +kernel
theorem dX6_add_55 : decode cX6_add 55 = .ok (.iastore, 1) := by decide +kernel
theorem dX6_add_56 : decode cX6_add 56 = .ok (.aload_n 0, 1) := by decide +kernel
theorem dX6_add_57 : decode cX6_add 57 = .ok (.getfield 7, 3) := by decide +kernel
theorem dX6_add_60 : decode cX6_add 60 = .ok (.iconst 4, 1) := by decide +kernel
theorem dX6_add_61 : decode cX6_add 61 = .ok (.iconst 5, 1) := by decide +kernel
theorem dX6_add_62 : decode cX6_add 62 = .ok (.iload 4, 2) := by decide +kernel
theorem dX6_add_64 : decode cX6_add 64 = .ok (.imul, 1) := by decide +kernel
theorem dX6_add_65 : decode cX6_add 65 = .ok (.iadd, 1) := by decide +kernel
theorem dX6_add_66 : decode cX6_add 66 = .ok (.iconst 0, 1) := by decide +kernel
theorem dX6_add_67 : decode cX6_add 67 = .ok (.iadd, 1) := by decide +kernel
theorem dX6_add_68 : decode cX6_add 68 = .ok (.iload_n 1, 1) := by decide +kernel
theorem dX6_add_69 : decode cX6_add 69 = .ok (.iastore, 1) := by decide +kernel
theorem dX6_add_70 : decode cX6_add 70 = .ok (.aload_n 0, 1) := by decide +kernel
theorem dX6_add_71 : decode cX6_add 71 = .ok (.getfield 7, 3) := by decide +kernel
theorem dX6_add_74 : decode cX6_add 74 = .ok (.iconst 4, 1) := by decide +kernel
theorem dX6_add_75 : decode cX6_add 75 = .ok (.iconst 5, 1) := by decide +kernel
theorem dX6_add_76 : decode cX6_add 76 = .ok (.iload 4, 2) := by decide +kernel
theorem dX6_add_78 : decode cX6_add 78 = .ok (.imul, 1) := by decide +kernel
theorem dX6_add_79 : decode cX6_add 79 = .ok (.iadd, 1) := by decide +kernel
theorem dX6_add_80 : decode cX6_add 80 = .ok (.iconst 1, 1) := by decide +kernel
theorem dX6_add_81 : decode cX6_add 81 = .ok (.iadd, 1) := by decide +kernel
theorem dX6_add_82 : decode cX6_add 82 = .ok (.iload_n 2, 1) := by decide +kernel
theorem dX6_add_83 : decode cX6_add 83 = .ok (.iastore, 1) := by decide +kernel
theorem dX6_add_84 : decode cX6_add 84 = .ok (.aload_n 0, 1) := by decide +kernel
theorem dX6_add_85 : decode cX6_add 85 = .ok (.getfield 7, 3) := by decide +kernel
theorem dX6_add_88 : decode cX6_add 88 = .ok (.iconst 4, 1) := by decide +kernel
theorem dX6_add_89 : decode cX6_add 89 = .ok (.iconst 5, 1) := by decide +kernel
theorem dX6_add_90 : decode cX6_add 90 = .ok (.iload 4, 2) := by decide +kernel
theorem dX6_add_92 : decode cX6_add 92 = .ok (.imul, 1) := by decide +kernel
theorem dX6_add_93 : decode cX6_add 93 = .ok (.iadd, 1) := by decide +kernel
theorem dX6_add_94 : decode cX6_add 94 = .ok (.iconst 2, 1) := by decide +kernel
theorem dX6_add_95 : decode cX6_add 95 = .ok (.iadd, 1) := by decide +kernel
theorem dX6_add_96 : decode cX6_add 96 = .ok (.iload_n 3, 1) := by decide +kernel
theorem dX6_add_97 : decode cX6_add 97 = .ok (.iastore, 1) := by decide +kernel
theorem dX6_add_98 : decode cX6_add 98 = .ok (.aload_n 0, 1) := by decide +kernel
theorem dX6_add_99 : decode cX6_add 99 = .ok (.getfield 7, 3) := by decide +kernel
theorem dX6_add_102 : decode cX6_add 102 = .ok (.iconst 4, 1) := by decide +kernel
theorem dX6_add_103 : decode cX6_add 103 = .ok (.iconst 5, 1) := by decide +kernel
theorem dX6_add_104 : decode cX6_add 104 = .ok (.iload 4, 2) := by decide +kernel
theorem dX6_add_106 : decode cX6_add 106 = .ok (.imul, 1) := by decide +kernel
theorem dX6_add_107 : decode cX6_add 107 = .ok (.iadd, 1) := by decide +kernel
theorem dX6_add_108 : decode cX6_add 108 = .ok (.iconst 3, 1) := by decide +kernel
theorem dX6_add_109 : decode cX6_add 109 = .ok (.iadd, 1) := by decide +kernel
theorem dX6_add_110 : decode cX6_add 110 = .ok (.iconst 1, 1) := by decide +kernel
theorem dX6_add_111 : decode cX6_add 111 = .ok (.iastore, 1) := by decide +kernel
theorem dX6_add_112 : decode cX6_add 112 = .ok (.aload_n 0, 1) := by decide +kernel
theorem dX6_add_113 : decode cX6_add 113 = .ok (.iload 4, 2) := by decide +kernel
theorem dX6_add_115 : decode cX6_add 115 = .ok (.aload_n 0, 1) := by decide +kernel
theorem dX6_add_116 : decode cX6_add 116 = .ok (.iload_n 1, 1) := by decide +kernel
theorem dX6_add_117 : decode cX6_add 117 = .ok (.iload_n 2, 1) := by decide +kernel
theorem dX6_add_118 : decode cX6_add 118 = .ok (.invokevirtual 43, 3) := by decide +kernel
theorem dX6_add_121 : decode cX6_add 121 = .ok (.invokevirtual 82, 3) := by decide +kernel
theorem dX6_add_124 : decode cX6_add 124 = .ok (.aload_n 0, 1) := by decide +kernel
theorem dX6_add_125 : decode cX6_add 125 = .ok (.invokevirtual 92, 3) := by decide +kernel
theorem dX6_add_128 : decode cX6_add 128 = .ok (.iload 4, 2) := by decide +kernel
theorem dX6_add_130 : decode cX6_add 130 = .ok (.ireturn, 1) := by decide +kernel
theorem dX6_allPoints_0 : decode cX6_allPoints 0 = .ok (.aload_n 0, 1) := by decide +kernel
theorem dX6_allPoints_1 : decode cX6_allPoints 1 = .ok (.iconst 0, 1) := by decide +kernel
theorem dX6_allPoints_2 : decode cX6_allPoints 2 = .ok (.iconst 0, 1) := by decide +kernel
theorem dX6_allPoints_3 : decode cX6_allPoints 3 = .ok (.bipush 63, 2) := by decide +kernel
theorem dX6_allPoints_5 : decode cX6_allPoints 5 = .ok (.bipush 63, 2) := by decide +kernel
theorem dX6_allPoints_7 : decode cX6_allPoints 7 = .ok (.invokevirtual 49, 3) := by decide +kernel
theorem dX6_allPoints_10 : decode cX6_allPoints 10 = .ok (.ireturn, 1) := by decide +kernel
theorem dX6_remove_0 : decode cX6_remove 0 = .ok (.aload_n 0, 1) := by decide +kernel
theorem dX6_remove_1 : decode cX6_remove 1 = .ok (.iload_n 1, 1) := by decide +kernel
theorem dX6_remove_2 : decode cX6_remove 2 = .ok (.invokevirtual 46, 3) := by decide +kernel
theorem dX6_remove_5 : decode cX6_remove 5 = .ok (.ifCond .ne 5, 3) := by decide +kernel
theorem dX6_remove_8 : decode cX6_remove 8 = .ok (.iconst (-1), 1) := by decide +kernel
theorem dX6_remove_9 : decode cX6_remove 9 = .ok (.ireturn, 1) := by decide +kernel
theorem dX6_remove_10 : decode cX6_remove 10 = .ok (.aload_n 0, 1) := by decide +kernel
theorem dX6_remove_11 : decode cX6_remove 11 = .ok (.invokevirtual 89, 3) := by decide +kernel
theorem dX6_remove_14 : decode cX6_remove 14 = .ok (.aload_n 0, 1) := by decide +kernel
theorem dX6_remove_15 : decode cX6_remove 15 = .ok (.getfield 7, 3) := by decide +kernel
theorem dX6_remove_18 : decode cX6_remove 18 = .ok (.iconst 4, 1) := by decide +kernel
theorem dX6_remove_19 : decode cX6_remove 19 = .ok (.iconst 5, 1) := by decide +kernel
theorem dX6_remove_20 : decode cX6_remove 20 = .ok (.iload_n 1, 1) := by decide +kernel
theorem dX6_remove_21 : decode cX6_remove 21 = .ok (.imul, 1) := by decide +kernel
theorem dX6_remove_22 : decode cX6_remove 22 = .ok (.iadd, 1) := by decide +kernel
theorem dX6_remove_23 : decode cX6_remove 23 = .ok (.iconst 3, 1) := by decide +kernel
theorem dX6_remove_24 : decode cX6_remove 24 = .ok (.iadd, 1) := by decide +kernel
theorem dX6_remove_25 : decode cX6_remove 25 = .ok (.iconst 0, 1) := by decide +kernel
theorem dX6_remove_26 : decode cX6_remove 26 = .ok (.iastore, 1) := by decide +kernel
theorem dX6_remove_27 : decode cX6_remove 27 = .ok (.aload_n 0, 1) := by decide +kernel
theorem dX6_remove_28 : decode cX6_remove 28 = .ok (.invokevirtual 92, 3) := by decide +kernel
theorem dX6_remove_31 : decode cX6_remove 31 = .ok (.aload_n 0, 1) := by decide +kernel
theorem dX6_remove_32 : decode cX6_remove 32 = .ok (.invokevirtual 95, 3) := by decide +kernel
theorem dX6_remove_35 : decode cX6_remove 35 = .ok (.ireturn, 1) := by decide +kernel
theorem dX6_move_0 : decode cX6_move 0 = .ok (.aload_n 0, 1) := by decide +kernel
theorem dX6_move_1 : decode cX6_move 1 = .ok (.iload_n 1, 1) := by decide +kernel
theorem dX6_move_2 : decode cX6_move 2 = .ok (.invokevirtual 46, 3) := by decide +kernel
theorem dX6_move_5 : decode cX6_move 5 = .ok (.ifCond .eq 11, 3) := by decide +kernel
theorem dX6_move_8 : decode cX6_move 8 = .ok (.iload_n 2, 1) := by decide +kernel
theorem dX6_move_9 : decode cX6_move 9 = .ok (.iload_n 3, 1) := by decide +kernel
theorem dX6_move_10 : decode cX6_move 10 = .ok (.invokestatic 85, 3) := by decide +kernel
theorem dX6_move_13 : decode cX6_move 13 = .ok (.ifCond .ne 5, 3) := by decide +kernel
theorem dX6_move_16 : decode cX6_move 16 = .ok (.iconst (-1), 1) := by decide +kernel
theorem dX6_move_17 : decode cX6_move 17 = .ok (.ireturn, 1) := by decide +kernel
theorem dX6_move_18 : decode cX6_move 18 = .ok (.aload_n 0, 1) := by decide +kernel
theorem dX6_move_19 : decode cX6_move 19 = .ok (.invokevirtual 89, 3) := by decide +kernel
theorem dX6_move_22 : decode cX6_move 22 = .ok (.aload_n 0, 1) := by decide +kernel
theorem dX6_move_23 : decode cX6_move 23 = .ok (.iload_n 1, 1) := by decide +kernel
theorem dX6_move_24 : decode cX6_move 24 = .ok (.iconst 4, 1) := by decide +kernel
theorem dX6_move_25 : decode cX6_move 25 = .ok (.invokevirtual 28, 3) := by decide +kernel
theorem dX6_move_28 : decode cX6_move 28 = .ok (.istore 4, 2) := by decide +kernel
theorem dX6_move_30 : decode cX6_move 30 = .ok (.iload 4, 2) := by decide +kernel
theorem dX6_move_32 : decode cX6_move 32 = .ok (.aload_n 0, 1) := by decide +kernel
theorem dX6_move_33 : decode cX6_move 33 = .ok (.iload_n 1, 1) := by decide +kernel
theorem dX6_move_34 : decode cX6_move 34 = .ok (.invokevirtual 98, 3) := by decide +kernel
theorem dX6_move_37 : decode cX6_move 37 = .ok (.if_icmp .ne 7, 3) := by decide +kernel
theorem dX6_move_40 : decode cX6_move 40 = .ok (.iconst 1, 1) := by decide +kernel
theorem dX6_move_41 : decode cX6_move 41 = .ok (.goto 4, 3) := by decide +kernel
theorem dX6_move_44 : decode cX6_move 44 = .ok (.iconst 0, 1) := by decide +kernel
theorem dX6_move_45 : decode cX6_move 45 = .ok (.istore 5, 2) := by decide +kernel
theorem dX6_move_47 : decode cX6_move 47 = .ok (.aload_n 0, 1) := by decide +kernel
theorem dX6_move_48 : decode cX6_move 48 = .ok (.getfield 7, 3) := by decide +kernel
theorem dX6_move_51 : decode cX6_move 51 = .ok (.iconst 4, 1) := by decide +kernel
theorem dX6_move_52 : decode cX6_move 52 = .ok (.iconst 5, 1) := by decide +kernel
theorem dX6_move_53 : decode cX6_move 53 = .ok (.iload_n 1, 1) := by decide +kernel
theorem dX6_move_54 : decode cX6_move 54 = .ok (.imul, 1) := by decide +kernel
theorem dX6_move_55 : decode cX6_move 55 = .ok (.iadd, 1) := by decide +kernel
theorem dX6_move_56 : decode cX6_move 56 = .ok (.iconst 0, 1) := by decide +kernel
theorem dX6_move_57 : decode cX6_move 57 = .ok (.iadd, 1) := by decide +kernel
theorem dX6_move_58 : decode cX6_move 58 = .ok (.iload_n 2, 1) := by decide +kernel
theorem dX6_move_59 : decode cX6_move 59 = .ok (.iastore, 1) := by decide +kernel
theorem dX6_move_60 : decode cX6_move 60 = .ok (.aload_n 0, 1) := by decide +kernel
theorem dX6_move_61 : decode cX6_move 61 = .ok (.getfield 7, 3) := by decide +kernel
theorem dX6_move_64 : decode cX6_move 64 = .ok (.iconst 4, 1) := by decide +kernel
theorem dX6_move_65 : decode cX6_move 65 = .ok (.iconst 5, 1) := by decide +kernel
theorem dX6_move_66 : decode cX6_move 66 = .ok (.iload_n 1, 1) := by decide +kernel
theorem dX6_move_67 : decode cX6_move 67 = .ok (.imul, 1) := by decide +kernel
theorem dX6_move_68 : decode cX6_move 68 = .ok (.iadd, 1) := by decide +kernel
theorem dX6_move_69 : decode cX6_move 69 = .ok (.iconst 1, 1) := by decide +kernel
theorem dX6_move_70 : decode cX6_move 70 = .ok (.iadd, 1) := by decide +kernel
theorem dX6_move_71 : decode cX6_move 71 = .ok (.iload_n 3, 1) := by decide +kernel
theorem dX6_move_72 : decode cX6_move 72 = .ok (.iastore, 1) := by decide +kernel
theorem dX6_move_73 : decode cX6_move 73 = .ok (.iload 5, 2) := by decide +kernel
theorem dX6_move_75 : decode cX6_move 75 = .ok (.ifCond .eq 12, 3) := by decide +kernel
theorem dX6_move_78 : decode cX6_move 78 = .ok (.aload_n 0, 1) := by decide +kernel
theorem dX6_move_79 : decode cX6_move 79 = .ok (.iload_n 2, 1) := by decide +kernel
theorem dX6_move_80 : decode cX6_move 80 = .ok (.iload_n 3, 1) := by decide +kernel
theorem dX6_move_81 : decode cX6_move 81 = .ok (.invokevirtual 43, 3) := by decide +kernel
theorem dX6_move_84 : decode cX6_move 84 = .ok (.goto 5, 3) := by decide +kernel
theorem dX6_move_87 : decode cX6_move 87 = .ok (.iload 4, 2) := by decide +kernel
theorem dX6_move_89 : decode cX6_move 89 = .ok (.istore 6, 2) := by decide +kernel
theorem dX6_move_91 : decode cX6_move 91 = .ok (.aload_n 0, 1) := by decide +kernel
theorem dX6_move_92 : decode cX6_move 92 = .ok (.iload_n 1, 1) := by decide +kernel
theorem dX6_move_93 : decode cX6_move 93 = .ok (.iload 6, 2) := by decide +kernel
theorem dX6_move_95 : decode cX6_move 95 = .ok (.invokevirtual 82, 3) := by decide +kernel
theorem dX6_move_98 : decode cX6_move 98 = .ok (.aload_n 0, 1) := by decide +kernel
theorem dX6_move_99 : decode cX6_move 99 = .ok (.invokevirtual 92, 3) := by decide +kernel
theorem dX6_move_102 : decode cX6_move 102 = .ok (.iload 6, 2) := by decide +kernel
theorem dX6_move_104 : decode cX6_move 104 = .ok (.iload 4, 2) := by decide +kernel
theorem dX6_move_106 : decode cX6_move 106 = .ok (.if_icmp .ne 7, 3) := by decide +kernel
theorem dX6_move_109 : decode cX6_move 109 = .ok (.iconst 0, 1) := by decide +kernel
theorem dX6_move_110 : decode cX6_move 110 = .ok (.goto 4, 3) := by decide +kernel
theorem dX6_move_113 : decode cX6_move 113 = .ok (.iconst 1, 1) := by decide +kernel
theorem dX6_move_114 : decode cX6_move 114 = .ok (.ireturn, 1) := by decide +kernel
theorem dX6_setCrowd_0 : decode cX6_setCrowd 0 = .ok (.iload_n 1, 1) := by decide +kernel
theorem dX6_setCrowd_1 : decode cX6_setCrowd 1 = .ok (.iconst 2, 1) := by decide +kernel
theorem dX6_setCrowd_2 : decode cX6_setCrowd 2 = .ok (.bipush 9, 2) := by decide +kernel
theorem dX6_setCrowd_4 : decode cX6_setCrowd 4 = .ok (.invokestatic 24, 3) := by decide +kernel
theorem dX6_setCrowd_7 : decode cX6_setCrowd 7 = .ok (.ifCond .ne 5, 3) := by decide +kernel
theorem dX6_setCrowd_10 : decode cX6_setCrowd 10 = .ok (.iconst (-1), 1) := by decide +kernel
theorem dX6_setCrowd_11 : decode cX6_setCrowd 11 = .ok (.ireturn, 1) := by decide +kernel
theorem dX6_setCrowd_12 : decode cX6_setCrowd 12 = .ok (.aload_n 0, 1) := by decide +kernel
theorem dX6_setCrowd_13 : decode cX6_setCrowd 13 = .ok (.invokevirtual 89, 3) := by decide +kernel
theorem dX6_setCrowd_16 : decode cX6_setCrowd 16 = .ok (.aload_n 0, 1) := by decide +kernel
theorem dX6_setCrowd_17 : decode cX6_setCrowd 17 = .ok (.getfield 7, 3) := by decide +kernel
theorem dX6_setCrowd_20 : decode cX6_setCrowd 20 = .ok (.iconst 0, 1) := by decide +kernel
theorem dX6_setCrowd_21 : decode cX6_setCrowd 21 = .ok (.iaload, 1) := by decide +kernel
theorem dX6_setCrowd_22 : decode cX6_setCrowd 22 = .ok (.istore_n 2, 1) := by decide +kernel
theorem dX6_setCrowd_23 : decode cX6_setCrowd 23 = .ok (.aload_n 0, 1) := by decide +kernel
theorem dX6_setCrowd_24 : decode cX6_setCrowd 24 = .ok (.getfield 7, 3) := by decide +kernel
theorem dX6_setCrowd_27 : decode cX6_setCrowd 27 = .ok (.iconst 0, 1) := by decide +kernel
theorem dX6_setCrowd_28 : decode cX6_setCrowd 28 = .ok (.iload_n 1, 1) := by decide +kernel
theorem dX6_setCrowd_29 : decode cX6_setCrowd 29 = .ok (.iastore, 1) := by decide +kernel
theorem dX6_setCrowd_30 : decode cX6_setCrowd 30 = .ok (.aload_n 0, 1) := by decide +kernel
theorem dX6_setCrowd_31 : decode cX6_setCrowd 31 = .ok (.invokevirtual 92, 3) := by decide +kernel
theorem dX6_setCrowd_34 : decode cX6_setCrowd 34 = .ok (.iload_n 2, 1) := by decide +kernel
theorem dX6_setCrowd_35 : decode cX6_setCrowd 35 = .ok (.ireturn, 1) := by decide +kernel
theorem dX6_setTithe_0 : decode cX6_setTithe 0 = .ok (.iload_n 1, 1) := by decide +kernel
theorem dX6_setTithe_1 : decode cX6_setTithe 1 = .ok (.iconst 1, 1) := by decide +kernel
theorem dX6_setTithe_2 : decode cX6_setTithe 2 = .ok (.bipush 9, 2) := by decide +kernel
theorem dX6_setTithe_4 : decode cX6_setTithe 4 = .ok (.invokestatic 24, 3) := by decide +kernel
theorem dX6_setTithe_7 : decode cX6_setTithe 7 = .ok (.ifCond .ne 5, 3) := by decide +kernel
theorem dX6_setTithe_10 : decode cX6_setTithe 10 = .ok (.iconst (-1), 1) := by decide +kernel
theorem dX6_setTithe_11 : decode cX6_setTithe 11 = .ok (.ireturn, 1) := by decide +kernel
theorem dX6_setTithe_12 : decode cX6_setTithe 12 = .ok (.aload_n 0, 1) := by decide +kernel
theorem dX6_setTithe_13 : decode cX6_setTithe 13 = .ok (.invokevirtual 89, 3) := by decide +kernel
theorem dX6_setTithe_16 : decode cX6_setTithe 16 = .ok (.aload_n 0, 1) := by decide +kernel
theorem dX6_setTithe_17 : decode cX6_setTithe 17 = .ok (.getfield 7, 3) := by decide +kernel
theorem dX6_setTithe_20 : decode cX6_setTithe 20 = .ok (.iconst 1, 1) := by decide +kernel
theorem dX6_setTithe_21 : decode cX6_setTithe 21 = .ok (.iaload, 1) := by decide +kernel
theorem dX6_setTithe_22 : decode cX6_setTithe 22 = .ok (.istore_n 2, 1) := by decide +kernel
theorem dX6_setTithe_23 : decode cX6_setTithe 23 = .ok (.aload_n 0, 1) := by decide +kernel
theorem dX6_setTithe_24 : decode cX6_setTithe 24 = .ok (.getfield 7, 3) := by decide +kernel
theorem dX6_setTithe_27 : decode cX6_setTithe 27 = .ok (.iconst 1, 1) := by decide +kernel
theorem dX6_setTithe_28 : decode cX6_setTithe 28 = .ok (.iload_n 1, 1) := by decide +kernel
theorem dX6_setTithe_29 : decode cX6_setTithe 29 = .ok (.iastore, 1) := by decide +kernel
theorem dX6_setTithe_30 : decode cX6_setTithe 30 = .ok (.aload_n 0, 1) := by decide +kernel
theorem dX6_setTithe_31 : decode cX6_setTithe 31 = .ok (.invokevirtual 92, 3) := by decide +kernel
theorem dX6_setTithe_34 : decode cX6_setTithe 34 = .ok (.iload_n 2, 1) := by decide +kernel
theorem dX6_setTithe_35 : decode cX6_setTithe 35 = .ok (.ireturn, 1) := by decide +kernel
theorem dX6_gift_0 : decode cX6_gift 0 = .ok (.bipush (-9), 2) := by decide +kernel
theorem dX6_gift_2 : decode cX6_gift 2 = .ok (.istore_n 2, 1) := by decide +kernel
theorem dX6_gift_3 : decode cX6_gift 3 = .ok (.iconst 0, 1) := by decide +kernel
theorem dX6_gift_4 : decode cX6_gift 4 = .ok (.istore_n 3, 1) := by decide +kernel
theorem dX6_gift_5 : decode cX6_gift 5 = .ok (.iload_n 3, 1) := by decide +kernel
theorem dX6_gift_6 : decode cX6_gift 6 = .ok (.aload_n 0, 1) := by decide +kernel
theorem dX6_gift_7 : decode cX6_gift 7 = .ok (.getfield 7, 3) := by decide +kernel
theorem dX6_gift_10 : decode cX6_gift 10 = .ok (.iconst 2, 1) := by decide +kernel
theorem dX6_gift_11 : decode cX6_gift 11 = .ok (.iaload, 1) := by decide +kernel
theorem dX6_gift_12 : decode cX6_gift 12 = .ok (.if_icmp .ge 75, 3) := by decide +kernel
theorem dX6_gift_15 : decode cX6_gift 15 = .ok (.aload_n 0, 1) := by decide +kernel
theorem dX6_gift_16 : decode cX6_gift 16 = .ok (.iload_n 3, 1) := by decide +kernel
theorem dX6_gift_17 : decode cX6_gift 17 = .ok (.invokevirtual 46, 3) := by decide +kernel
theorem dX6_gift_20 : decode cX6_gift 20 = .ok (.ifCond .eq 26, 3) := by decide +kernel
theorem dX6_gift_23 : decode cX6_gift 23 = .ok (.aload_n 0, 1) := by decide +kernel
theorem dX6_gift_24 : decode cX6_gift 24 = .ok (.iload_n 3, 1) := by decide +kernel
theorem dX6_gift_25 : decode cX6_gift 25 = .ok (.iconst 4, 1) := by decide +kernel
theorem dX6_gift_26 : decode cX6_gift 26 = .ok (.invokevirtual 28, 3) := by decide +kernel
theorem dX6_gift_29 : decode cX6_gift 29 = .ok (.iload_n 1, 1) := by decide +kernel
theorem dX6_gift_30 : decode cX6_gift 30 = .ok (.if_icmp .ne 16, 3) := by decide +kernel
theorem dX6_gift_33 : decode cX6_gift 33 = .ok (.aload_n 0, 1) := by decide +kernel
theorem dX6_gift_34 : decode cX6_gift 34 = .ok (.iload_n 3, 1) := by decide +kernel
theorem dX6_gift_35 : decode cX6_gift 35 = .ok (.invokevirtual 98, 3) := by decide +kernel
theorem dX6_gift_38 : decode cX6_gift 38 = .ok (.iload_n 1, 1) := by decide +kernel
theorem dX6_gift_39 : decode cX6_gift 39 = .ok (.if_icmp .ne 7, 3) := by decide +kernel
theorem dX6_gift_42 : decode cX6_gift 42 = .ok (.iconst 1, 1) := by decide +kernel
theorem dX6_gift_43 : decode cX6_gift 43 = .ok (.goto 4, 3) := by decide +kernel
theorem dX6_gift_46 : decode cX6_gift 46 = .ok (.iconst 0, 1) := by decide +kernel
theorem dX6_gift_47 : decode cX6_gift 47 = .ok (.istore 4, 2) := by decide +kernel
theorem dX6_gift_49 : decode cX6_gift 49 = .ok (.iload 4, 2) := by decide +kernel
theorem dX6_gift_51 : decode cX6_gift 51 = .ok (.ifCond .eq 28, 3) := by decide +kernel
theorem dX6_gift_54 : decode cX6_gift 54 = .ok (.iload_n 2, 1) := by decide +kernel
theorem dX6_gift_55 : decode cX6_gift 55 = .ok (.bipush (-9), 2) := by decide +kernel
theorem dX6_gift_57 : decode cX6_gift 57 = .ok (.if_icmp .eq 18, 3) := by decide +kernel
theorem dX6_gift_60 : decode cX6_gift 60 = .ok (.aload_n 0, 1) := by decide +kernel
theorem dX6_gift_61 : decode cX6_gift 61 = .ok (.iload_n 3, 1) := by decide +kernel
theorem dX6_gift_62 : decode cX6_gift 62 = .ok (.iconst 2, 1) := by decide +kernel
theorem dX6_gift_63 : decode cX6_gift 63 = .ok (.invokevirtual 28, 3) := by decide +kernel
theorem dX6_gift_66 : decode cX6_gift 66 = .ok (.aload_n 0, 1) := by decide +kernel
theorem dX6_gift_67 : decode cX6_gift 67 = .ok (.iload_n 2, 1) := by decide +kernel
theorem dX6_gift_68 : decode cX6_gift 68 = .ok (.iconst 2, 1) := by decide +kernel
theorem dX6_gift_69 : decode cX6_gift 69 = .ok (.invokevirtual 28, 3) := by decide +kernel
theorem dX6_gift_72 : decode cX6_gift 72 = .ok (.if_icmp .ge 7, 3) := by decide +kernel
theorem dX6_gift_75 : decode cX6_gift 75 = .ok (.iload_n 3, 1) := by decide +kernel
theorem dX6_gift_76 : decode cX6_gift 76 = .ok (.goto 4, 3) := by decide +kernel
theorem dX6_gift_79 : decode cX6_gift 79 = .ok (.iload_n 2, 1) := by decide +kernel
theorem dX6_gift_80 : decode cX6_gift 80 = .ok (.istore_n 2, 1) := by decide +kernel
theorem dX6_gift_81 : decode cX6_gift 81 = .ok (.iinc 3 1, 3) := by decide +kernel
theorem dX6_gift_84 : decode cX6_gift 84 = .ok (.goto (-79), 3) := by decide +kernel
theorem dX6_gift_87 : decode cX6_gift 87 = .ok (.iload_n 2, 1) := by decide +kernel
theorem dX6_gift_88 : decode cX6_gift 88 = .ok (.ireturn, 1) := by decide +kernel
theorem dX6_pay_0 : decode cX6_pay 0 = .ok (.aload_n 0, 1) := by decide +kernel
theorem dX6_pay_1 : decode cX6_pay 1 = .ok (.iload_n 1, 1) := by decide +kernel
theorem dX6_pay_2 : decode cX6_pay 2 = .ok (.invokevirtual 35, 3) := by decide +kernel
theorem dX6_pay_5 : decode cX6_pay 5 = .ok (.ifCond .ne 5, 3) := by decide +kernel
theorem dX6_pay_8 : decode cX6_pay 8 = .ok (.iconst (-1), 1) := by decide +kernel
theorem dX6_pay_9 : decode cX6_pay 9 = .ok (.ireturn, 1) := by decide +kernel
theorem dX6_pay_10 : decode cX6_pay 10 = .ok (.aload_n 0, 1) := by decide +kernel
theorem dX6_pay_11 : decode cX6_pay 11 = .ok (.invokevirtual 89, 3) := by decide +kernel
theorem dX6_pay_14 : decode cX6_pay 14 = .ok (.iconst 0, 1) := by decide +kernel
theorem dX6_pay_15 : decode cX6_pay 15 = .ok (.istore_n 2, 1) := by decide +kernel
theorem dX6_pay_16 : decode cX6_pay 16 = .ok (.iconst 0, 1) := by decide +kernel
theorem dX6_pay_17 : decode cX6_pay 17 = .ok (.istore_n 3, 1) := by decide +kernel
theorem dX6_pay_18 : decode cX6_pay 18 = .ok (.iload_n 3, 1) := by decide +kernel
theorem dX6_pay_19 : decode cX6_pay 19 = .ok (.bipush 40, 2) := by decide +kernel
theorem dX6_pay_21 : decode cX6_pay 21 = .ok (.if_icmp .ge 59, 3) := by decide +kernel
theorem dX6_pay_24 : decode cX6_pay 24 = .ok (.aload_n 0, 1) := by decide +kernel
theorem dX6_pay_25 : decode cX6_pay 25 = .ok (.iload_n 1, 1) := by decide +kernel
theorem dX6_pay_26 : decode cX6_pay 26 = .ok (.invokevirtual 101, 3) := by decide +kernel
theorem dX6_pay_29 : decode cX6_pay 29 = .ok (.istore 4, 2) := by decide +kernel
theorem dX6_pay_31 : decode cX6_pay 31 = .ok (.aload_n 0, 1) := by decide +kernel
theorem dX6_pay_32 : decode cX6_pay 32 = .ok (.iload_n 1, 1) := by decide +kernel
theorem dX6_pay_33 : decode cX6_pay 33 = .ok (.iload_n 3, 1) := by decide +kernel
theorem dX6_pay_34 : decode cX6_pay 34 = .ok (.invokevirtual 53, 3) := by decide +kernel
theorem dX6_pay_37 : decode cX6_pay 37 = .ok (.ifCond .le 37, 3) := by decide +kernel
theorem dX6_pay_40 : decode cX6_pay 40 = .ok (.iload 4, 2) := by decide +kernel
theorem dX6_pay_42 : decode cX6_pay 42 = .ok (.bipush (-9), 2) := by decide +kernel
theorem dX6_pay_44 : decode cX6_pay 44 = .ok (.if_icmp .eq 30, 3) := by decide +kernel
theorem dX6_pay_47 : decode cX6_pay 47 = .ok (.aload_n 0, 1) := by decide +kernel
theorem dX6_pay_48 : decode cX6_pay 48 = .ok (.iload 4, 2) := by decide +kernel
theorem dX6_pay_50 : decode cX6_pay 50 = .ok (.iload_n 3, 1) := by decide +kernel
theorem dX6_pay_51 : decode cX6_pay 51 = .ok (.invokevirtual 82, 3) := by decide +kernel
theorem dX6_pay_54 : decode cX6_pay 54 = .ok (.aload_n 0, 1) := by decide +kernel
theorem dX6_pay_55 : decode cX6_pay 55 = .ok (.iload_n 1, 1) := by decide +kernel
theorem dX6_pay_56 : decode cX6_pay 56 = .ok (.iload_n 3, 1) := by decide +kernel
theorem dX6_pay_57 : decode cX6_pay 57 = .ok (.iconst (-1), 1) := by decide +kernel
theorem dX6_pay_58 : decode cX6_pay 58 = .ok (.invokevirtual 78, 3) := by decide +kernel
theorem dX6_pay_61 : decode cX6_pay 61 = .ok (.iinc 2 1, 3) := by decide +kernel
theorem dX6_pay_64 : decode cX6_pay 64 = .ok (.aload_n 0, 1) := by decide +kernel
theorem dX6_pay_65 : decode cX6_pay 65 = .ok (.iload_n 1, 1) := by decide +kernel
theorem dX6_pay_66 : decode cX6_pay 66 = .ok (.invokevirtual 101, 3) := by decide +kernel
theorem dX6_pay_69 : decode cX6_pay 69 = .ok (.istore 4, 2) := by decide +kernel
theorem dX6_pay_71 : decode cX6_pay 71 = .ok (.goto (-40), 3) := by decide +kernel
theorem dX6_pay_74 : decode cX6_pay 74 = .ok (.iinc 3 1, 3) := by decide +kernel
theorem dX6_pay_77 : decode cX6_pay 77 = .ok (.goto (-59), 3) := by decide +kernel
theorem dX6_pay_80 : decode cX6_pay 80 = .ok (.aload_n 0, 1) := by decide +kernel
theorem dX6_pay_81 : decode cX6_pay 81 = .ok (.invokevirtual 92, 3) := by decide +kernel
theorem dX6_pay_84 : decode cX6_pay 84 = .ok (.iload_n 2, 1) := by decide +kernel
theorem dX6_pay_85 : decode cX6_pay 85 = .ok (.ireturn, 1) := by decide +kernel
theorem dX6_canJoin_0 : decode cX6_canJoin 0 = .ok (.aload_n 0, 1) := by decide +kernel
theorem dX6_canJoin_1 : decode cX6_canJoin 1 = .ok (.iload_n 1, 1) := by decide +kernel
theorem dX6_canJoin_2 : decode cX6_canJoin 2 = .ok (.iconst 3, 1) := by decide +kernel
theorem dX6_canJoin_3 : decode cX6_canJoin 3 = .ok (.invokevirtual 32, 3) := by decide +kernel
theorem dX6_canJoin_6 : decode cX6_canJoin 6 = .ok (.istore_n 2, 1) := by decide +kernel
theorem dX6_canJoin_7 : decode cX6_canJoin 7 = .ok (.iload_n 2, 1) := by decide +kernel
theorem dX6_canJoin_8 : decode cX6_canJoin 8 = .ok (.ifCond .ne 5, 3) := by decide +kernel
theorem dX6_canJoin_11 : decode cX6_canJoin 11 = .ok (.iconst 0, 1) := by decide +kernel
theorem dX6_canJoin_12 : decode cX6_canJoin 12 = .ok (.ireturn, 1) := by decide +kernel
theorem dX6_canJoin_13 : decode cX6_canJoin 13 = .ok (.bipush 64, 2) := by decide +kernel
theorem dX6_canJoin_15 : decode cX6_canJoin 15 = .ok (.iload_n 2, 1) := by decide +kernel
theorem dX6_canJoin_16 : decode cX6_canJoin 16 = .ok (.ishr, 1) := by decide +kernel
theorem dX6_canJoin_17 : decode cX6_canJoin 17 = .ok (.istore_n 3, 1) := by decide +kernel
theorem dX6_canJoin_18 : decode cX6_canJoin 18 = .ok (.aload_n 0, 1) := by decide +kernel
theorem dX6_canJoin_19 : decode cX6_canJoin 19 = .ok (.iload_n 1, 1) := by decide +kernel
theorem dX6_canJoin_20 : decode cX6_canJoin 20 = .ok (.iconst 1, 1) := by decide +kernel
theorem dX6_canJoin_21 : decode cX6_canJoin 21 = .ok (.invokevirtual 32, 3) := by decide +kernel
theorem dX6_canJoin_24 : decode cX6_canJoin 24 = .ok (.iconst 2, 1) := by decide +kernel
theorem dX6_canJoin_25 : decode cX6_canJoin 25 = .ok (.iload_n 3, 1) := by decide +kernel
theorem dX6_canJoin_26 : decode cX6_canJoin 26 = .ok (.imul, 1) := by decide +kernel
theorem dX6_canJoin_27 : decode cX6_canJoin 27 = .ok (.idiv, 1) := by decide +kernel
theorem dX6_canJoin_28 : decode cX6_canJoin 28 = .ok (.iconst 2, 1) := by decide +kernel
theorem dX6_canJoin_29 : decode cX6_canJoin 29 = .ok (.iload_n 3, 1) := by decide +kernel
theorem dX6_canJoin_30 : decode cX6_canJoin 30 = .ok (.imul, 1) := by decide +kernel
theorem dX6_canJoin_31 : decode cX6_canJoin 31 = .ok (.imul, 1) := by decide +kernel
theorem dX6_canJoin_32 : decode cX6_canJoin 32 = .ok (.istore 4, 2) := by decide +kernel
theorem dX6_canJoin_34 : decode cX6_canJoin 34 = .ok (.aload_n 0, 1) := by decide +kernel
theorem dX6_canJoin_35 : decode cX6_canJoin 35 = .ok (.iload_n 1, 1) := by decide +kernel
theorem dX6_canJoin_36 : decode cX6_canJoin 36 = .ok (.iconst 2, 1) := by decide +kernel
theorem dX6_canJoin_37 : decode cX6_canJoin 37 = .ok (.invokevirtual 32, 3) := by decide +kernel
theorem dX6_canJoin_40 : decode cX6_canJoin 40 = .ok (.iconst 2, 1) := by decide +kernel
theorem dX6_canJoin_41 : decode cX6_canJoin 41 = .ok (.iload_n 3, 1) := by decide +kernel
theorem dX6_canJoin_42 : decode cX6_canJoin 42 = .ok (.imul, 1) := by decide +kernel
theorem dX6_canJoin_43 : decode cX6_canJoin 43 = .ok (.idiv, 1) := by decide +kernel
theorem dX6_canJoin_44 : decode cX6_canJoin 44 = .ok (.iconst 2, 1) := by decide +kernel
theorem dX6_canJoin_45 : decode cX6_canJoin 45 = .ok (.iload_n 3, 1) := by decide +kernel
theorem dX6_canJoin_46 : decode cX6_canJoin 46 = .ok (.imul, 1) := by decide +kernel
theorem dX6_canJoin_47 : decode cX6_canJoin 47 = .ok (.imul, 1) := by decide +kernel
theorem dX6_canJoin_48 : decode cX6_canJoin 48 = .ok (.istore 5, 2) := by decide +kernel
theorem dX6_canJoin_50 : decode cX6_canJoin 50 = .ok (.aload_n 0, 1) := by decide +kernel
theorem dX6_canJoin_51 : decode cX6_canJoin 51 = .ok (.iload 4, 2) := by decide +kernel
theorem dX6_canJoin_53 : decode cX6_canJoin 53 = .ok (.iload 5, 2) := by decide +kernel
theorem dX6_canJoin_55 : decode cX6_canJoin 55 = .ok (.iconst 2, 1) := by decide +kernel
theorem dX6_canJoin_56 : decode cX6_canJoin 56 = .ok (.iload_n 3, 1) := by decide +kernel
theorem dX6_canJoin_57 : decode cX6_canJoin 57 = .ok (.imul, 1) := by decide +kernel
theorem dX6_canJoin_58 : decode cX6_canJoin 58 = .ok (.invokevirtual 56, 3) := by decide +kernel
theorem dX6_canJoin_61 : decode cX6_canJoin 61 = .ok (.aload_n 0, 1) := by decide +kernel
theorem dX6_canJoin_62 : decode cX6_canJoin 62 = .ok (.getfield 7, 3) := by decide +kernel
theorem dX6_canJoin_65 : decode cX6_canJoin 65 = .ok (.iconst 0, 1) := by decide +kernel
theorem dX6_canJoin_66 : decode cX6_canJoin 66 = .ok (.iaload, 1) := by decide +kernel
theorem dX6_canJoin_67 : decode cX6_canJoin 67 = .ok (.if_icmp .gt 7, 3) := by decide +kernel
theorem dX6_canJoin_70 : decode cX6_canJoin 70 = .ok (.iconst 1, 1) := by decide +kernel
theorem dX6_canJoin_71 : decode cX6_canJoin 71 = .ok (.goto 4, 3) := by decide +kernel
theorem dX6_canJoin_74 : decode cX6_canJoin 74 = .ok (.iconst 0, 1) := by decide +kernel
theorem dX6_canJoin_75 : decode cX6_canJoin 75 = .ok (.istore 6, 2) := by decide +kernel
theorem dX6_canJoin_77 : decode cX6_canJoin 77 = .ok (.iconst 0, 1) := by decide +kernel
theorem dX6_canJoin_78 : decode cX6_canJoin 78 = .ok (.istore 7, 2) := by decide +kernel
theorem dX6_canJoin_80 : decode cX6_canJoin 80 = .ok (.iload 7, 2) := by decide +kernel
theorem dX6_canJoin_82 : decode cX6_canJoin 82 = .ok (.iconst 4, 1) := by decide +kernel
theorem dX6_canJoin_83 : decode cX6_canJoin 83 = .ok (.if_icmp .ge 66, 3) := by decide +kernel
theorem dX6_canJoin_86 : decode cX6_canJoin 86 = .ok (.aload_n 0, 1) := by decide +kernel
theorem dX6_canJoin_87 : decode cX6_canJoin 87 = .ok (.getfield 13, 3) := by decide +kernel
theorem dX6_canJoin_90 : decode cX6_canJoin 90 = .ok (.iload 7, 2) := by decide +kernel
theorem dX6_canJoin_92 : decode cX6_canJoin 92 = .ok (.aload_n 0, 1) := by decide +kernel
theorem dX6_canJoin_93 : decode cX6_canJoin 93 = .ok (.iload 4, 2) := by decide +kernel
theorem dX6_canJoin_95 : decode cX6_canJoin 95 = .ok (.iload_n 3, 1) := by decide +kernel
theorem dX6_canJoin_96 : decode cX6_canJoin 96 = .ok (.iload 7, 2) := by decide +kernel
theorem dX6_canJoin_98 : decode cX6_canJoin 98 = .ok (.iconst 2, 1) := by decide +kernel
theorem dX6_canJoin_99 : decode cX6_canJoin 99 = .ok (.irem, 1) := by decide +kernel
theorem dX6_canJoin_100 : decode cX6_canJoin 100 = .ok (.imul, 1) := by decide +kernel
theorem dX6_canJoin_101 : decode cX6_canJoin 101 = .ok (.iadd, 1) := by decide +kernel
theorem dX6_canJoin_102 : decode cX6_canJoin 102 = .ok (.iload 5, 2) := by decide +kernel
theorem dX6_canJoin_104 : decode cX6_canJoin 104 = .ok (.iload_n 3, 1) := by decide +kernel
theorem dX6_canJoin_105 : decode cX6_canJoin 105 = .ok (.iload 7, 2) := by decide +kernel
theorem dX6_canJoin_107 : decode cX6_canJoin 107 = .ok (.iconst 2, 1) := by decide +kernel
theorem dX6_canJoin_108 : decode cX6_canJoin 108 = .ok (.idiv, 1) := by decide +kernel
theorem dX6_canJoin_109 : decode cX6_canJoin 109 = .ok (.imul, 1) := by decide +kernel
theorem dX6_canJoin_110 : decode cX6_canJoin 110 = .ok (.iadd, 1) := by decide +kernel
theorem dX6_canJoin_111 : decode cX6_canJoin 111 = .ok (.invokevirtual 43, 3) := by decide +kernel
theorem dX6_canJoin_114 : decode cX6_canJoin 114 = .ok (.iastore, 1) := by decide +kernel
theorem dX6_canJoin_115 : decode cX6_canJoin 115 = .ok (.iload 6, 2) := by decide +kernel
theorem dX6_canJoin_117 : decode cX6_canJoin 117 = .ok (.ifCond .eq 23, 3) := by decide +kernel
theorem dX6_canJoin_120 : decode cX6_canJoin 120 = .ok (.aload_n 0, 1) := by decide +kernel
theorem dX6_canJoin_121 : decode cX6_canJoin 121 = .ok (.aload_n 0, 1) := by decide +kernel
theorem dX6_canJoin_122 : decode cX6_canJoin 122 = .ok (.getfield 13, 3) := by decide +kernel
theorem dX6_canJoin_125 : decode cX6_canJoin 125 = .ok (.iload 7, 2) := by decide +kernel
theorem dX6_canJoin_127 : decode cX6_canJoin 127 = .ok (.iaload, 1) := by decide +kernel
theorem dX6_canJoin_128 : decode cX6_canJoin 128 = .ok (.iconst 3, 1) := by decide +kernel
theorem dX6_canJoin_129 : decode cX6_canJoin 129 = .ok (.invokevirtual 32, 3) := by decide +kernel
theorem dX6_canJoin_132 : decode cX6_canJoin 132 = .ok (.iload_n 2, 1) := by decide +kernel
theorem dX6_canJoin_133 : decode cX6_canJoin 133 = .ok (.if_icmp .ne 7, 3) := by decide +kernel
theorem dX6_canJoin_136 : decode cX6_canJoin 136 = .ok (.iconst 1, 1) := by decide +kernel
theorem dX6_canJoin_137 : decode cX6_canJoin 137 = .ok (.goto 4, 3) := by decide +kernel
theorem dX6_canJoin_140 : decode cX6_canJoin 140 = .ok (.iconst 0, 1) := by decide +kernel
theorem dX6_canJoin_141 : decode cX6_canJoin 141 = .ok (.istore 6, 2) := by decide +kernel
theorem dX6_canJoin_143 : decode cX6_canJoin 143 = .ok (.iinc 7 1, 3) := by decide +kernel
theorem dX6_canJoin_146 : decode cX6_canJoin 146 = .ok (.goto (-66), 3) := by decide +kernel
theorem dX6_canJoin_149 : decode cX6_canJoin 149 = .ok (.iload 6, 2) := by decide +kernel
theorem dX6_canJoin_151 : decode cX6_canJoin 151 = .ok (.ireturn, 1) := by decide +kernel
theorem dX6_join_0 : decode cX6_join 0 = .ok (.aload_n 0, 1) := by decide +kernel
theorem dX6_join_1 : decode cX6_join 1 = .ok (.iload_n 1, 1) := by decide +kernel
theorem dX6_join_2 : decode cX6_join 2 = .ok (.invokevirtual 35, 3) := by decide +kernel
theorem dX6_join_5 : decode cX6_join 5 = .ok (.ifCond .ne 5, 3) := by decide +kernel
theorem dX6_join_8 : decode cX6_join 8 = .ok (.iconst (-1), 1) := by decide +kernel
theorem dX6_join_9 : decode cX6_join 9 = .ok (.ireturn, 1) := by decide +kernel
theorem dX6_join_10 : decode cX6_join 10 = .ok (.aload_n 0, 1) := by decide +kernel
theorem dX6_join_11 : decode cX6_join 11 = .ok (.iload_n 1, 1) := by decide +kernel
theorem dX6_join_12 : decode cX6_join 12 = .ok (.invokevirtual 104, 3) := by decide +kernel
theorem dX6_join_15 : decode cX6_join 15 = .ok (.ifCond .ne 6, 3) := by decide +kernel
theorem dX6_join_18 : decode cX6_join 18 = .ok (.bipush (-2), 2) := by decide +kernel
theorem dX6_join_20 : decode cX6_join 20 = .ok (.ireturn, 1) := by decide +kernel
theorem dX6_join_21 : decode cX6_join 21 = .ok (.aload_n 0, 1) := by decide +kernel
theorem dX6_join_22 : decode cX6_join 22 = .ok (.invokevirtual 89, 3) := by decide +kernel
theorem dX6_join_25 : decode cX6_join 25 = .ok (.aload_n 0, 1) := by decide +kernel
theorem dX6_join_26 : decode cX6_join 26 = .ok (.getfield 13, 3) := by decide +kernel
theorem dX6_join_29 : decode cX6_join 29 = .ok (.iconst 0, 1) := by decide +kernel
theorem dX6_join_30 : decode cX6_join 30 = .ok (.iaload, 1) := by decide +kernel
theorem dX6_join_31 : decode cX6_join 31 = .ok (.istore_n 2, 1) := by decide +kernel
theorem dX6_join_32 : decode cX6_join 32 = .ok (.iconst 1, 1) := by decide +kernel
theorem dX6_join_33 : decode cX6_join 33 = .ok (.istore_n 3, 1) := by decide +kernel
theorem dX6_join_34 : decode cX6_join 34 = .ok (.iload_n 3, 1) := by decide +kernel
theorem dX6_join_35 : decode cX6_join 35 = .ok (.iconst 4, 1) := by decide +kernel
theorem dX6_join_36 : decode cX6_join 36 = .ok (.if_icmp .ge 30, 3) := by decide +kernel
theorem dX6_join_39 : decode cX6_join 39 = .ok (.aload_n 0, 1) := by decide +kernel
theorem dX6_join_40 : decode cX6_join 40 = .ok (.getfield 13, 3) := by decide +kernel
theorem dX6_join_43 : decode cX6_join 43 = .ok (.iload_n 3, 1) := by decide +kernel
theorem dX6_join_44 : decode cX6_join 44 = .ok (.iaload, 1) := by decide +kernel
theorem dX6_join_45 : decode cX6_join 45 = .ok (.iload_n 2, 1) := by decide +kernel
theorem dX6_join_46 : decode cX6_join 46 = .ok (.if_icmp .ge 12, 3) := by decide +kernel
theorem dX6_join_49 : decode cX6_join 49 = .ok (.aload_n 0, 1) := by decide +kernel
theorem dX6_join_50 : decode cX6_join 50 = .ok (.getfield 13, 3) := by decide +kernel
theorem dX6_join_53 : decode cX6_join 53 = .ok (.iload_n 3, 1) := by decide +kernel
theorem dX6_join_54 : decode cX6_join 54 = .ok (.iaload, 1) := by decide +kernel
theorem dX6_join_55 : decode cX6_join 55 = .ok (.goto 4, 3) := by decide +kernel
theorem dX6_join_58 : decode cX6_join 58 = .ok (.iload_n 2, 1) := by decide +kernel
theorem dX6_join_59 : decode cX6_join 59 = .ok (.istore_n 2, 1) := by decide +kernel
theorem dX6_join_60 : decode cX6_join 60 = .ok (.iinc 3 1, 3) := by decide +kernel
theorem dX6_join_63 : decode cX6_join 63 = .ok (.goto (-29), 3) := by decide +kernel
theorem dX6_join_66 : decode cX6_join 66 = .ok (.aload_n 0, 1) := by decide +kernel
theorem dX6_join_67 : decode cX6_join 67 = .ok (.iload_n 2, 1) := by decide +kernel
theorem dX6_join_68 : decode cX6_join 68 = .ok (.aload_n 0, 1) := by decide +kernel
theorem dX6_join_69 : decode cX6_join 69 = .ok (.aload_n 0, 1) := by decide +kernel
theorem dX6_join_70 : decode cX6_join 70 = .ok (.getfield 13, 3) := by decide +kernel
theorem dX6_join_73 : decode cX6_join 73 = .ok (.iconst 0, 1) := by decide +kernel
theorem dX6_join_74 : decode cX6_join 74 = .ok (.iaload, 1) := by decide +kernel
theorem dX6_join_75 : decode cX6_join 75 = .ok (.iconst 1, 1) := by decide +kernel
theorem dX6_join_76 : decode cX6_join 76 = .ok (.invokevirtual 32, 3) := by decide +kernel
theorem dX6_join_79 : decode cX6_join 79 = .ok (.aload_n 0, 1) := by decide +kernel
theorem dX6_join_80 : decode cX6_join 80 = .ok (.aload_n 0, 1) := by decide +kernel
theorem dX6_join_81 : decode cX6_join 81 = .ok (.getfield 13, 3) := by decide +kernel
theorem dX6_join_84 : decode cX6_join 84 = .ok (.iconst 0, 1) := by decide +kernel
theorem dX6_join_85 : decode cX6_join 85 = .ok (.iaload, 1) := by decide +kernel
theorem dX6_join_86 : decode cX6_join 86 = .ok (.iconst 2, 1) := by decide +kernel
theorem dX6_join_87 : decode cX6_join 87 = .ok (.invokevirtual 32, 3) := by decide +kernel
theorem dX6_join_90 : decode cX6_join 90 = .ok (.aload_n 0, 1) := by decide +kernel
theorem dX6_join_91 : decode cX6_join 91 = .ok (.aload_n 0, 1) := by decide +kernel
theorem dX6_join_92 : decode cX6_join 92 = .ok (.getfield 13, 3) := by decide +kernel
theorem dX6_join_95 : decode cX6_join 95 = .ok (.iconst 0, 1) := by decide +kernel
theorem dX6_join_96 : decode cX6_join 96 = .ok (.iaload, 1) := by decide +kernel
theorem dX6_join_97 : decode cX6_join 97 = .ok (.iconst 3, 1) := by decide +kernel
theorem dX6_join_98 : decode cX6_join 98 = .ok (.invokevirtual 32, 3) := by decide +kernel
theorem dX6_join_101 : decode cX6_join 101 = .ok (.iconst 1, 1) := by decide +kernel
theorem dX6_join_102 : decode cX6_join 102 = .ok (.isub, 1) := by decide +kernel
theorem dX6_join_103 : decode cX6_join 103 = .ok (.invokevirtual 71, 3) := by decide +kernel
theorem dX6_join_106 : decode cX6_join 106 = .ok (.iconst 0, 1) := by decide +kernel
theorem dX6_join_107 : decode cX6_join 107 = .ok (.istore_n 3, 1) := by decide +kernel
theorem dX6_join_108 : decode cX6_join 108 = .ok (.iload_n 3, 1) := by decide +kernel
theorem dX6_join_109 : decode cX6_join 109 = .ok (.iconst 4, 1) := by decide +kernel
theorem dX6_join_110 : decode cX6_join 110 = .ok (.if_icmp .ge 30, 3) := by decide +kernel
theorem dX6_join_113 : decode cX6_join 113 = .ok (.aload_n 0, 1) := by decide +kernel
theorem dX6_join_114 : decode cX6_join 114 = .ok (.getfield 13, 3) := by decide +kernel
theorem dX6_join_117 : decode cX6_join 117 = .ok (.iload_n 3, 1) := by decide +kernel
theorem dX6_join_118 : decode cX6_join 118 = .ok (.iaload, 1) := by decide +kernel
theorem dX6_join_119 : decode cX6_join 119 = .ok (.iload_n 2, 1) := by decide +kernel
theorem dX6_join_120 : decode cX6_join 120 = .ok (.if_icmp .eq 14, 3) := by decide +kernel
theorem dX6_join_123 : decode cX6_join 123 = .ok (.aload_n 0, 1) := by decide +kernel
theorem dX6_join_124 : decode cX6_join 124 = .ok (.aload_n 0, 1) := by decide +kernel
theorem dX6_join_125 : decode cX6_join 125 = .ok (.getfield 13, 3) := by decide +kernel
theorem dX6_join_128 : decode cX6_join 128 = .ok (.iload_n 3, 1) := by decide +kernel
theorem dX6_join_129 : decode cX6_join 129 = .ok (.iaload, 1) := by decide +kernel
theorem dX6_join_130 : decode cX6_join 130 = .ok (.iload_n 2, 1) := by decide +kernel
theorem dX6_join_131 : decode cX6_join 131 = .ok (.invokevirtual 107, 3) := by decide +kernel
theorem dX6_join_134 : decode cX6_join 134 = .ok (.iinc 3 1, 3) := by decide +kernel
theorem dX6_join_137 : decode cX6_join 137 = .ok (.goto (-29), 3) := by decide +kernel
theorem dX6_join_140 : decode cX6_join 140 = .ok (.aload_n 0, 1) := by decide +kernel
theorem dX6_join_141 : decode cX6_join 141 = .ok (.iload_n 2, 1) := by decide +kernel
theorem dX6_join_142 : decode cX6_join 142 = .ok (.iload_n 2, 1) := by decide +kernel
theorem dX6_join_143 : decode cX6_join 143 = .ok (.aload_n 0, 1) := by decide +kernel
theorem dX6_join_144 : decode cX6_join 144 = .ok (.iload_n 2, 1) := by decide +kernel
theorem dX6_join_145 : decode cX6_join 145 = .ok (.iload_n 2, 1) := by decide +kernel
theorem dX6_join_146 : decode cX6_join 146 = .ok (.invokevirtual 53, 3) := by decide +kernel
theorem dX6_join_149 : decode cX6_join 149 = .ok (.ineg, 1) := by decide +kernel
theorem dX6_join_150 : decode cX6_join 150 = .ok (.invokevirtual 78, 3) := by decide +kernel
theorem dX6_join_153 : decode cX6_join 153 = .ok (.aload_n 0, 1) := by decide +kernel
theorem dX6_join_154 : decode cX6_join 154 = .ok (.invokevirtual 92, 3) := by decide +kernel
theorem dX6_join_157 : decode cX6_join 157 = .ok (.iload_n 2, 1) := by decide +kernel
theorem dX6_join_158 : decode cX6_join 158 = .ok (.ireturn, 1) := by decide +kernel
theorem dX6_dissolves_0 : decode cX6_dissolves 0 = .ok (.aload_n 0, 1) := by decide +kernel
theorem dX6_dissolves_1 : decode cX6_dissolves 1 = .ok (.getfield 7, 3) := by decide +kernel
theorem dX6_dissolves_4 : decode cX6_dissolves 4 = .ok (.sipush 204, 3) := by decide +kernel
theorem dX6_dissolves_7 : decode cX6_dissolves 7 = .ok (.iconst 4, 1) := by decide +kernel
theorem dX6_dissolves_8 : decode cX6_dissolves 8 = .ok (.iload_n 1, 1) := by decide +kernel
theorem dX6_dissolves_9 : decode cX6_dissolves 9 = .ok (.imul, 1) := by decide +kernel
theorem dX6_dissolves_10 : decode cX6_dissolves 10 = .ok (.iadd, 1) := by decide +kernel
theorem dX6_dissolves_11 : decode cX6_dissolves 11 = .ok (.iconst 0, 1) := by decide +kernel
theorem dX6_dissolves_12 : decode cX6_dissolves 12 = .ok (.iastore, 1) := by decide +kernel
theorem dX6_dissolves_13 : decode cX6_dissolves 13 = .ok (.iconst 0, 1) := by decide +kernel
theorem dX6_dissolves_14 : decode cX6_dissolves 14 = .ok (.istore_n 3, 1) := by decide +kernel
theorem dX6_dissolves_15 : decode cX6_dissolves 15 = .ok (.iload_n 3, 1) := by decide +kernel
theorem dX6_dissolves_16 : decode cX6_dissolves 16 = .ok (.aload_n 0, 1) := by decide +kernel
theorem dX6_dissolves_17 : decode cX6_dissolves 17 = .ok (.getfield 7, 3) := by decide +kernel
theorem dX6_dissolves_20 : decode cX6_dissolves 20 = .ok (.iconst 2, 1) := by decide +kernel
theorem dX6_dissolves_21 : decode cX6_dissolves 21 = .ok (.iaload, 1) := by decide +kernel
theorem dX6_dissolves_22 : decode cX6_dissolves 22 = .ok (.if_icmp .ge 25, 3) := by decide +kernel
theorem dX6_dissolves_25 : decode cX6_dissolves 25 = .ok (.aload_n 0, 1) := by decide +kernel
theorem dX6_dissolves_26 : decode cX6_dissolves 26 = .ok (.iload_n 3, 1) := by decide +kernel
theorem dX6_dissolves_27 : decode cX6_dissolves 27 = .ok (.iconst 4, 1) := by decide +kernel
theorem dX6_dissolves_28 : decode cX6_dissolves 28 = .ok (.invokevirtual 28, 3) := by decide +kernel
theorem dX6_dissolves_31 : decode cX6_dissolves 31 = .ok (.iload_n 1, 1) := by decide +kernel
theorem dX6_dissolves_32 : decode cX6_dissolves 32 = .ok (.if_icmp .ne 9, 3) := by decide +kernel
theorem dX6_dissolves_35 : decode cX6_dissolves 35 = .ok (.aload_n 0, 1) := by decide +kernel
theorem dX6_dissolves_36 : decode cX6_dissolves 36 = .ok (.iload_n 3, 1) := by decide +kernel
theorem dX6_dissolves_37 : decode cX6_dissolves 37 = .ok (.iload_n 2, 1) := by decide +kernel
theorem dX6_dissolves_38 : decode cX6_dissolves 38 = .ok (.invokevirtual 82, 3) := by decide +kernel
theorem dX6_dissolves_41 : decode cX6_dissolves 41 = .ok (.iinc 3 1, 3) := by decide +kernel
theorem dX6_dissolves_44 : decode cX6_dissolves 44 = .ok (.goto (-29), 3) := by decide +kernel
theorem dX6_dissolves_47 : decode cX6_dissolves 47 = .ok (.iconst 0, 1) := by decide +kernel
theorem dX6_dissolves_48 : decode cX6_dissolves 48 = .ok (.istore_n 3, 1) := by decide +kernel
theorem dX6_dissolves_49 : decode cX6_dissolves 49 = .ok (.iload_n 3, 1) := by decide +kernel
theorem dX6_dissolves_50 : decode cX6_dissolves 50 = .ok (.bipush 40, 2) := by decide +kernel
theorem dX6_dissolves_52 : decode cX6_dissolves 52 = .ok (.if_icmp .ge 34, 3) := by decide +kernel
theorem dX6_dissolves_55 : decode cX6_dissolves 55 = .ok (.aload_n 0, 1) := by decide +kernel
theorem dX6_dissolves_56 : decode cX6_dissolves 56 = .ok (.iload_n 2, 1) := by decide +kernel
theorem dX6_dissolves_57 : decode cX6_dissolves 57 = .ok (.iload_n 3, 1) := by decide +kernel
theorem dX6_dissolves_58 : decode cX6_dissolves 58 = .ok (.aload_n 0, 1) := by decide +kernel
theorem dX6_dissolves_59 : decode cX6_dissolves 59 = .ok (.iload_n 1, 1) := by decide +kernel
theorem dX6_dissolves_60 : decode cX6_dissolves 60 = .ok (.iload_n 3, 1) := by decide +kernel
theorem dX6_dissolves_61 : decode cX6_dissolves 61 = .ok (.invokevirtual 53, 3) := by decide +kernel
theorem dX6_dissolves_64 : decode cX6_dissolves 64 = .ok (.invokevirtual 78, 3) := by decide +kernel
theorem dX6_dissolves_67 : decode cX6_dissolves 67 = .ok (.aload_n 0, 1) := by decide +kernel
theorem dX6_dissolves_68 : decode cX6_dissolves 68 = .ok (.iload_n 1, 1) := by decide +kernel
theorem dX6_dissolves_69 : decode cX6_dissolves 69 = .ok (.iload_n 3, 1) := by decide +kernel
theorem dX6_dissolves_70 : decode cX6_dissolves 70 = .ok (.aload_n 0, 1) := by decide +kernel
theorem dX6_dissolves_71 : decode cX6_dissolves 71 = .ok (.iload_n 1, 1) := by decide +kernel
theorem dX6_dissolves_72 : decode cX6_dissolves 72 = .ok (.iload_n 3, 1) := by decide +kernel
theorem dX6_dissolves_73 : decode cX6_dissolves 73 = .ok (.invokevirtual 53, 3) := by decide +kernel
theorem dX6_dissolves_76 : decode cX6_dissolves 76 = .ok (.ineg, 1) := by decide +kernel
theorem dX6_dissolves_77 : decode cX6_dissolves 77 = .ok (.invokevirtual 78, 3) := by decide +kernel
theorem dX6_dissolves_80 : decode cX6_dissolves 80 = .ok (.iinc 3 1, 3) := by decide +kernel
theorem dX6_dissolves_83 : decode cX6_dissolves 83 = .ok (.goto (-34), 3) := by decide +kernel
theorem dX6_dissolves_86 : decode cX6_dissolves 86 = .ok (.iconst 0, 1) := by decide +kernel
theorem dX6_dissolves_87 : decode cX6_dissolves 87 = .ok (.istore_n 3, 1) := by decide +kernel
theorem dX6_dissolves_88 : decode cX6_dissolves 88 = .ok (.iload_n 3, 1) := by decide +kernel
theorem dX6_dissolves_89 : decode cX6_dissolves 89 = .ok (.bipush 40, 2) := by decide +kernel
theorem dX6_dissolves_91 : decode cX6_dissolves 91 = .ok (.if_icmp .ge 34, 3) := by decide +kernel
theorem dX6_dissolves_94 : decode cX6_dissolves 94 = .ok (.aload_n 0, 1) := by decide +kernel
theorem dX6_dissolves_95 : decode cX6_dissolves 95 = .ok (.iload_n 3, 1) := by decide +kernel
theorem dX6_dissolves_96 : decode cX6_dissolves 96 = .ok (.iload_n 2, 1) := by decide +kernel
theorem dX6_dissolves_97 : decode cX6_dissolves 97 = .ok (.aload_n 0, 1) := by decide +kernel
theorem dX6_dissolves_98 : decode cX6_dissolves 98 = .ok (.iload_n 3, 1) := by decide +kernel
theorem dX6_dissolves_99 : decode cX6_dissolves 99 = .ok (.iload_n 1, 1) := by decide +kernel
theorem dX6_dissolves_100 : decode cX6_dissolves 100 = .ok (.invokevirtual 53, 3) := by decide +kernel
theorem dX6_dissolves_103 : decode cX6_dissolves 103 = .ok (.invokevirtual 78, 3) := by decide +kernel
theorem dX6_dissolves_106 : decode cX6_dissolves 106 = .ok (.aload_n 0, 1) := by decide +kernel
theorem dX6_dissolves_107 : decode cX6_dissolves 107 = .ok (.iload_n 3, 1) := by decide +kernel
theorem dX6_dissolves_108 : decode cX6_dissolves 108 = .ok (.iload_n 1, 1) := by decide +kernel
theorem dX6_dissolves_109 : decode cX6_dissolves 109 = .ok (.aload_n 0, 1) := by decide +kernel
theorem dX6_dissolves_110 : decode cX6_dissolves 110 = .ok (.iload_n 3, 1) := by decide +kernel
theorem dX6_dissolves_111 : decode cX6_dissolves 111 = .ok (.iload_n 1, 1) := by decide +kernel
theorem dX6_dissolves_112 : decode cX6_dissolves 112 = .ok (.invokevirtual 53, 3) := by decide +kernel
theorem dX6_dissolves_115 : decode cX6_dissolves 115 = .ok (.ineg, 1) := by decide +kernel
theorem dX6_dissolves_116 : decode cX6_dissolves 116 = .ok (.invokevirtual 78, 3) := by decide +kernel
theorem dX6_dissolves_119 : decode cX6_dissolves 119 = .ok (.iinc 3 1, 3) := by decide +kernel
theorem dX6_dissolves_122 : decode cX6_dissolves 122 = .ok (.goto (-34), 3) := by decide +kernel
theorem dX6_dissolves_125 : decode cX6_dissolves 125 = .ok (.return_, 1) := by decide +kernel
theorem dX6_undo_0 : decode cX6_undo 0 = .ok (.aload_n 0, 1) := by decide +kernel
theorem dX6_undo_1 : decode cX6_undo 1 = .ok (.getfield 16, 3) := by decide +kernel
theorem dX6_undo_4 : decode cX6_undo 4 = .ok (.ifCond .ne 6, 3) := by decide +kernel
theorem dX6_undo_7 : decode cX6_undo 7 = .ok (.bipush (-2), 2) := by decide +kernel
theorem dX6_undo_9 : decode cX6_undo 9 = .ok (.ireturn, 1) := by decide +kernel
theorem dX6_undo_10 : decode cX6_undo 10 = .ok (.aload_n 0, 1) := by decide +kernel
theorem dX6_undo_11 : decode cX6_undo 11 = .ok (.sipush 1964, 3) := by decide +kernel
theorem dX6_undo_14 : decode cX6_undo 14 = .ok (.aload_n 0, 1) := by decide +kernel
theorem dX6_undo_15 : decode cX6_undo 15 = .ok (.getfield 16, 3) := by decide +kernel
theorem dX6_undo_18 : decode cX6_undo 18 = .ok (.imul, 1) := by decide +kernel
theorem dX6_undo_19 : decode cX6_undo 19 = .ok (.iconst 0, 1) := by decide +kernel
theorem dX6_undo_20 : decode cX6_undo 20 = .ok (.invokevirtual 20, 3) := by decide +kernel
theorem dX6_undo_23 : decode cX6_undo 23 = .ok (.aload_n 0, 1) := by decide +kernel
theorem dX6_undo_24 : decode cX6_undo 24 = .ok (.dup, 1) := by decide +kernel
theorem dX6_undo_25 : decode cX6_undo 25 = .ok (.getfield 16, 3) := by decide +kernel
theorem dX6_undo_28 : decode cX6_undo 28 = .ok (.iconst 1, 1) := by decide +kernel
theorem dX6_undo_29 : decode cX6_undo 29 = .ok (.isub, 1) := by decide +kernel
theorem dX6_undo_30 : decode cX6_undo 30 = .ok (.putfield 16, 3) := by decide +kernel
theorem dX6_undo_33 : decode cX6_undo 33 = .ok (.aload_n 0, 1) := by decide +kernel
theorem dX6_undo_34 : decode cX6_undo 34 = .ok (.getfield 16, 3) := by decide +kernel
theorem dX6_undo_37 : decode cX6_undo 37 = .ok (.ireturn, 1) := by decide +kernel
theorem dX6_count_0 : decode cX6_count 0 = .ok (.iconst 0, 1) := by decide +kernel
theorem dX6_count_1 : decode cX6_count 1 = .ok (.istore_n 2, 1) := by decide +kernel
theorem dX6_count_2 : decode cX6_count 2 = .ok (.iconst 0, 1) := by decide +kernel
theorem dX6_count_3 : decode cX6_count 3 = .ok (.istore_n 3, 1) := by decide +kernel
theorem dX6_count_4 : decode cX6_count 4 = .ok (.iconst 0, 1) := by decide +kernel
theorem dX6_count_5 : decode cX6_count 5 = .ok (.istore 4, 2) := by decide +kernel
theorem dX6_count_7 : decode cX6_count 7 = .ok (.iconst 0, 1) := by decide +kernel
theorem dX6_count_8 : decode cX6_count 8 = .ok (.istore 5, 2) := by decide +kernel
theorem dX6_count_10 : decode cX6_count 10 = .ok (.iload 5, 2) := by decide +kernel
theorem dX6_count_12 : decode cX6_count 12 = .ok (.aload_n 0, 1) := by decide +kernel
theorem dX6_count_13 : decode cX6_count 13 = .ok (.getfield 7, 3) := by decide +kernel
theorem dX6_count_16 : decode cX6_count 16 = .ok (.iconst 3, 1) := by decide +kernel
theorem dX6_count_17 : decode cX6_count 17 = .ok (.iaload, 1) := by decide +kernel
theorem dX6_count_18 : decode cX6_count 18 = .ok (.if_icmp .ge 70, 3) := by decide +kernel
theorem dX6_count_21 : decode cX6_count 21 = .ok (.aload_n 0, 1) := by decide +kernel
theorem dX6_count_22 : decode cX6_count 22 = .ok (.iload 5, 2) := by decide +kernel
theorem dX6_count_24 : decode cX6_count 24 = .ok (.invokevirtual 35, 3) := by decide +kernel
theorem dX6_count_27 : decode cX6_count 27 = .ok (.istore 6, 2) := by decide +kernel
theorem dX6_count_29 : decode cX6_count 29 = .ok (.iload_n 2, 1) := by decide +kernel
theorem dX6_count_30 : decode cX6_count 30 = .ok (.iload 6, 2) := by decide +kernel
theorem dX6_count_32 : decode cX6_count 32 = .ok (.ifCond .eq 7, 3) := by decide +kernel
theorem dX6_count_35 : decode cX6_count 35 = .ok (.iconst 1, 1) := by decide +kernel
theorem dX6_count_36 : decode cX6_count 36 = .ok (.goto 4, 3) := by decide +kernel
theorem dX6_count_39 : decode cX6_count 39 = .ok (.iconst 0, 1) := by decide +kernel
theorem dX6_count_40 : decode cX6_count 40 = .ok (.iadd, 1) := by decide +kernel
theorem dX6_count_41 : decode cX6_count 41 = .ok (.istore_n 2, 1) := by decide +kernel
theorem dX6_count_42 : decode cX6_count 42 = .ok (.iload_n 3, 1) := by decide +kernel
theorem dX6_count_43 : decode cX6_count 43 = .ok (.aload_n 0, 1) := by decide +kernel
theorem dX6_count_44 : decode cX6_count 44 = .ok (.iload 5, 2) := by decide +kernel
theorem dX6_count_46 : decode cX6_count 46 = .ok (.invokevirtual 110, 3) := by decide +kernel
theorem dX6_count_49 : decode cX6_count 49 = .ok (.iadd, 1) := by decide +kernel
theorem dX6_count_50 : decode cX6_count 50 = .ok (.istore_n 3, 1) := by decide +kernel
theorem dX6_count_51 : decode cX6_count 51 = .ok (.iload 6, 2) := by decide +kernel
theorem dX6_count_53 : decode cX6_count 53 = .ok (.ifCond .eq 25, 3) := by decide +kernel
theorem dX6_count_56 : decode cX6_count 56 = .ok (.aload_n 0, 1) := by decide +kernel
theorem dX6_count_57 : decode cX6_count 57 = .ok (.iload 5, 2) := by decide +kernel
theorem dX6_count_59 : decode cX6_count 59 = .ok (.iconst 3, 1) := by decide +kernel
theorem dX6_count_60 : decode cX6_count 60 = .ok (.invokevirtual 32, 3) := by decide +kernel
theorem dX6_count_63 : decode cX6_count 63 = .ok (.iload 4, 2) := by decide +kernel
theorem dX6_count_65 : decode cX6_count 65 = .ok (.if_icmp .le 13, 3) := by decide +kernel
theorem dX6_count_68 : decode cX6_count 68 = .ok (.aload_n 0, 1) := by decide +kernel
theorem dX6_count_69 : decode cX6_count 69 = .ok (.iload 5, 2) := by decide +kernel
theorem dX6_count_71 : decode cX6_count 71 = .ok (.iconst 3, 1) := by decide +kernel
theorem dX6_count_72 : decode cX6_count 72 = .ok (.invokevirtual 32, 3) := by decide +kernel
theorem dX6_count_75 : decode cX6_count 75 = .ok (.goto 5, 3) := by decide +kernel
theorem dX6_count_78 : decode cX6_count 78 = .ok (.iload 4, 2) := by decide +kernel
theorem dX6_count_80 : decode cX6_count 80 = .ok (.istore 4, 2) := by decide +kernel
theorem dX6_count_82 : decode cX6_count 82 = .ok (.iinc 5 1, 3) := by decide +kernel
theorem dX6_count_85 : decode cX6_count 85 = .ok (.goto (-75), 3) := by decide +kernel
theorem dX6_count_88 : decode cX6_count 88 = .ok (.iconst 0, 1) := by decide +kernel
theorem dX6_count_89 : decode cX6_count 89 = .ok (.istore 5, 2) := by decide +kernel
theorem dX6_count_91 : decode cX6_count 91 = .ok (.iconst 0, 1) := by decide +kernel
theorem dX6_count_92 : decode cX6_count 92 = .ok (.istore 6, 2) := by decide +kernel
theorem dX6_count_94 : decode cX6_count 94 = .ok (.iconst 0, 1) := by decide +kernel
theorem dX6_count_95 : decode cX6_count 95 = .ok (.istore 7, 2) := by decide +kernel
theorem dX6_count_97 : decode cX6_count 97 = .ok (.iload 7, 2) := by decide +kernel
theorem dX6_count_99 : decode cX6_count 99 = .ok (.aload_n 0, 1) := by decide +kernel
theorem dX6_count_100 : decode cX6_count 100 = .ok (.getfield 7, 3) := by decide +kernel
theorem dX6_count_103 : decode cX6_count 103 = .ok (.iconst 2, 1) := by decide +kernel
theorem dX6_count_104 : decode cX6_count 104 = .ok (.iaload, 1) := by decide +kernel
theorem dX6_count_105 : decode cX6_count 105 = .ok (.if_icmp .ge 69, 3) := by decide +kernel
theorem dX6_count_108 : decode cX6_count 108 = .ok (.iload 5, 2) := by decide +kernel
theorem dX6_count_110 : decode cX6_count 110 = .ok (.aload_n 0, 1) := by decide +kernel
theorem dX6_count_111 : decode cX6_count 111 = .ok (.iload 7, 2) := by decide +kernel
theorem dX6_count_113 : decode cX6_count 113 = .ok (.invokevirtual 46, 3) := by decide +kernel
theorem dX6_count_116 : decode cX6_count 116 = .ok (.ifCond .eq 23, 3) := by decide +kernel
theorem dX6_count_119 : decode cX6_count 119 = .ok (.aload_n 0, 1) := by decide +kernel
theorem dX6_count_120 : decode cX6_count 120 = .ok (.iload 7, 2) := by decide +kernel
theorem dX6_count_122 : decode cX6_count 122 = .ok (.iconst 4, 1) := by decide +kernel
theorem dX6_count_123 : decode cX6_count 123 = .ok (.invokevirtual 28, 3) := by decide +kernel
theorem dX6_count_126 : decode cX6_count 126 = .ok (.aload_n 0, 1) := by decide +kernel
theorem dX6_count_127 : decode cX6_count 127 = .ok (.iload 7, 2) := by decide +kernel
theorem dX6_count_129 : decode cX6_count 129 = .ok (.invokevirtual 98, 3) := by decide +kernel
theorem dX6_count_132 : decode cX6_count 132 = .ok (.if_icmp .eq 7, 3) := by decide +kernel
theorem dX6_count_135 : decode cX6_count 135 = .ok (.iconst 1, 1) := by decide +kernel
theorem dX6_count_136 : decode cX6_count 136 = .ok (.goto 4, 3) := by decide +kernel
theorem dX6_count_139 : decode cX6_count 139 = .ok (.iconst 0, 1) := by decide +kernel
theorem dX6_count_140 : decode cX6_count 140 = .ok (.iadd, 1) := by decide +kernel
theorem dX6_count_141 : decode cX6_count 141 = .ok (.istore 5, 2) := by decide +kernel
theorem dX6_count_143 : decode cX6_count 143 = .ok (.iload 6, 2) := by decide +kernel
theorem dX6_count_145 : decode cX6_count 145 = .ok (.aload_n 0, 1) := by decide +kernel
theorem dX6_count_146 : decode cX6_count 146 = .ok (.iload 7, 2) := by decide +kernel
theorem dX6_count_148 : decode cX6_count 148 = .ok (.invokevirtual 46, 3) := by decide +kernel
theorem dX6_count_151 : decode cX6_count 151 = .ok (.ifCond .eq 13, 3) := by decide +kernel
theorem dX6_count_154 : decode cX6_count 154 = .ok (.aload_n 0, 1) := by decide +kernel
theorem dX6_count_155 : decode cX6_count 155 = .ok (.iload 7, 2) := by decide +kernel
theorem dX6_count_157 : decode cX6_count 157 = .ok (.iconst 2, 1) := by decide +kernel
theorem dX6_count_158 : decode cX6_count 158 = .ok (.invokevirtual 28, 3) := by decide +kernel
theorem dX6_count_161 : decode cX6_count 161 = .ok (.goto 4, 3) := by decide +kernel
theorem dX6_count_164 : decode cX6_count 164 = .ok (.iconst 0, 1) := by decide +kernel
theorem dX6_count_165 : decode cX6_count 165 = .ok (.iadd, 1) := by decide +kernel
theorem dX6_count_166 : decode cX6_count 166 = .ok (.istore 6, 2) := by decide +kernel
theorem dX6_count_168 : decode cX6_count 168 = .ok (.iinc 7 1, 3) := by decide +kernel
theorem dX6_count_171 : decode cX6_count 171 = .ok (.goto (-74), 3) := by decide +kernel
theorem dX6_count_174 : decode cX6_count 174 = .ok (.iload_n 1, 1) := by decide +kernel
theorem dX6_count_175 : decode cX6_count 175 = .ok (.tableswitch 108 0 10 #[57, 62, 69, 71, 78, 85, 92, 94, 97, 100, 103], 57) := by decide +kernel
theorem dX6_count_232 : decode cX6_count 232 = .ok (.aload_n 0, 1) := by decide +kernel
theorem dX6_count_233 : decode cX6_count 233 = .ok (.invokevirtual 95, 3) := by decide +kernel
theorem dX6_count_236 : decode cX6_count 236 = .ok (.ireturn, 1) := by decide +kernel
theorem dX6_count_237 : decode cX6_count 237 = .ok (.aload_n 0, 1) := by decide +kernel
theorem dX6_count_238 : decode cX6_count 238 = .ok (.getfield 7, 3) := by decide +kernel
theorem dX6_count_241 : decode cX6_count 241 = .ok (.iconst 2, 1) := by decide +kernel
theorem dX6_count_242 : decode cX6_count 242 = .ok (.iaload, 1) := by decide +kernel
theorem dX6_count_243 : decode cX6_count 243 = .ok (.ireturn, 1) := by decide +kernel
theorem dX6_count_244 : decode cX6_count 244 = .ok (.iload_n 2, 1) := by decide +kernel
theorem dX6_count_245 : decode cX6_count 245 = .ok (.ireturn, 1) := by decide +kernel
theorem dX6_count_246 : decode cX6_count 246 = .ok (.aload_n 0, 1) := by decide +kernel
theorem dX6_count_247 : decode cX6_count 247 = .ok (.getfield 7, 3) := by decide +kernel
theorem dX6_count_250 : decode cX6_count 250 = .ok (.iconst 3, 1) := by decide +kernel
theorem dX6_count_251 : decode cX6_count 251 = .ok (.iaload, 1) := by decide +kernel
theorem dX6_count_252 : decode cX6_count 252 = .ok (.ireturn, 1) := by decide +kernel
theorem dX6_count_253 : decode cX6_count 253 = .ok (.aload_n 0, 1) := by decide +kernel
theorem dX6_count_254 : decode cX6_count 254 = .ok (.getfield 7, 3) := by decide +kernel
theorem dX6_count_257 : decode cX6_count 257 = .ok (.iconst 0, 1) := by decide +kernel
theorem dX6_count_258 : decode cX6_count 258 = .ok (.iaload, 1) := by decide +kernel
theorem dX6_count_259 : decode cX6_count 259 = .ok (.ireturn, 1) := by decide +kernel
theorem dX6_count_260 : decode cX6_count 260 = .ok (.aload_n 0, 1) := by decide +kernel
theorem dX6_count_261 : decode cX6_count 261 = .ok (.getfield 7, 3) := by decide +kernel
theorem dX6_count_264 : decode cX6_count 264 = .ok (.iconst 1, 1) := by decide +kernel
theorem dX6_count_265 : decode cX6_count 265 = .ok (.iaload, 1) := by decide +kernel
theorem dX6_count_266 : decode cX6_count 266 = .ok (.ireturn, 1) := by decide +kernel
theorem dX6_count_267 : decode cX6_count 267 = .ok (.iload_n 3, 1) := by decide +kernel
theorem dX6_count_268 : decode cX6_count 268 = .ok (.ireturn, 1) := by decide +kernel
theorem dX6_count_269 : decode cX6_count 269 = .ok (.iload 5, 2) := by decide +kernel
theorem dX6_count_271 : decode cX6_count 271 = .ok (.ireturn, 1) := by decide +kernel
theorem dX6_count_272 : decode cX6_count 272 = .ok (.iload 4, 2) := by decide +kernel
theorem dX6_count_274 : decode cX6_count 274 = .ok (.ireturn, 1) := by decide +kernel
theorem dX6_count_275 : decode cX6_count 275 = .ok (.iload 6, 2) := by decide +kernel
theorem dX6_count_277 : decode cX6_count 277 = .ok (.ireturn, 1) := by decide +kernel
theorem dX6_count_278 : decode cX6_count 278 = .ok (.aload_n 0, 1) := by decide +kernel
theorem dX6_count_279 : decode cX6_count 279 = .ok (.getfield 16, 3) := by decide +kernel
theorem dX6_count_282 : decode cX6_count 282 = .ok (.ireturn, 1) := by decide +kernel
theorem dX6_count_283 : decode cX6_count 283 = .ok (.iconst (-1), 1) := by decide +kernel
theorem dX6_count_284 : decode cX6_count 284 = .ok (.ireturn, 1) := by decide +kernel
theorem dX6_point_0 : decode cX6_point 0 = .ok (.aload_n 0, 1) := by decide +kernel
theorem dX6_point_1 : decode cX6_point 1 = .ok (.iload_n 1, 1) := by decide +kernel
theorem dX6_point_2 : decode cX6_point 2 = .ok (.invokevirtual 46, 3) := by decide +kernel
theorem dX6_point_5 : decode cX6_point 5 = .ok (.ifCond .eq 12, 3) := by decide +kernel
theorem dX6_point_8 : decode cX6_point 8 = .ok (.iload_n 2, 1) := by decide +kernel
theorem dX6_point_9 : decode cX6_point 9 = .ok (.iconst 0, 1) := by decide +kernel
theorem dX6_point_10 : decode cX6_point 10 = .ok (.iconst 4, 1) := by decide +kernel
theorem dX6_point_11 : decode cX6_point 11 = .ok (.invokestatic 24, 3) := by decide +kernel
theorem dX6_point_14 : decode cX6_point 14 = .ok (.ifCond .ne 5, 3) := by decide +kernel
theorem dX6_point_17 : decode cX6_point 17 = .ok (.iconst (-1), 1) := by decide +kernel
theorem dX6_point_18 : decode cX6_point 18 = .ok (.ireturn, 1) := by decide +kernel
theorem dX6_point_19 : decode cX6_point 19 = .ok (.iload_n 2, 1) := by decide +kernel
theorem dX6_point_20 : decode cX6_point 20 = .ok (.iconst 3, 1) := by decide +kernel
theorem dX6_point_21 : decode cX6_point 21 = .ok (.if_icmp .ge 12, 3) := by decide +kernel
theorem dX6_point_24 : decode cX6_point 24 = .ok (.aload_n 0, 1) := by decide +kernel
theorem dX6_point_25 : decode cX6_point 25 = .ok (.iload_n 1, 1) := by decide +kernel
theorem dX6_point_26 : decode cX6_point 26 = .ok (.iload_n 2, 1) := by decide +kernel
theorem dX6_point_27 : decode cX6_point 27 = .ok (.invokevirtual 28, 3) := by decide +kernel
theorem dX6_point_30 : decode cX6_point 30 = .ok (.goto 22, 3) := by decide +kernel
theorem dX6_point_33 : decode cX6_point 33 = .ok (.iload_n 2, 1) := by decide +kernel
theorem dX6_point_34 : decode cX6_point 34 = .ok (.iconst 3, 1) := by decide +kernel
theorem dX6_point_35 : decode cX6_point 35 = .ok (.if_icmp .ne 11, 3) := by decide +kernel
theorem dX6_point_38 : decode cX6_point 38 = .ok (.aload_n 0, 1) := by decide +kernel
theorem dX6_point_39 : decode cX6_point 39 = .ok (.iload_n 1, 1) := by decide +kernel
theorem dX6_point_40 : decode cX6_point 40 = .ok (.invokevirtual 98, 3) := by decide +kernel
theorem dX6_point_43 : decode cX6_point 43 = .ok (.goto 9, 3) := by decide +kernel
theorem dX6_point_46 : decode cX6_point 46 = .ok (.aload_n 0, 1) := by decide +kernel
theorem dX6_point_47 : decode cX6_point 47 = .ok (.iload_n 1, 1) := by decide +kernel
theorem dX6_point_48 : decode cX6_point 48 = .ok (.iconst 4, 1) := by decide +kernel
theorem dX6_point_49 : decode cX6_point 49 = .ok (.invokevirtual 28, 3) := by decide +kernel
theorem dX6_point_52 : decode cX6_point 52 = .ok (.ireturn, 1) := by decide +kernel
theorem dX6_parish_0 : decode cX6_parish 0 = .ok (.aload_n 0, 1) := by decide +kernel
theorem dX6_parish_1 : decode cX6_parish 1 = .ok (.iload_n 1, 1) := by decide +kernel
theorem dX6_parish_2 : decode cX6_parish 2 = .ok (.invokevirtual 35, 3) := by decide +kernel
theorem dX6_parish_5 : decode cX6_parish 5 = .ok (.ifCond .eq 13, 3) := by decide +kernel
theorem dX6_parish_8 : decode cX6_parish 8 = .ok (.iload_n 2, 1) := by decide +kernel
theorem dX6_parish_9 : decode cX6_parish 9 = .ok (.iconst 0, 1) := by decide +kernel
theorem dX6_parish_10 : decode cX6_parish 10 = .ok (.bipush 7, 2) := by decide +kernel
theorem dX6_parish_12 : decode cX6_parish 12 = .ok (.invokestatic 24, 3) := by decide +kernel
theorem dX6_parish_15 : decode cX6_parish 15 = .ok (.ifCond .ne 5, 3) := by decide +kernel
theorem dX6_parish_18 : decode cX6_parish 18 = .ok (.iconst (-1), 1) := by decide +kernel
theorem dX6_parish_19 : decode cX6_parish 19 = .ok (.ireturn, 1) := by decide +kernel
theorem dX6_parish_20 : decode cX6_parish 20 = .ok (.iconst 0, 1) := by decide +kernel
theorem dX6_parish_21 : decode cX6_parish 21 = .ok (.istore_n 3, 1) := by decide +kernel
theorem dX6_parish_22 : decode cX6_parish 22 = .ok (.iconst 0, 1) := by decide +kernel
theorem dX6_parish_23 : decode cX6_parish 23 = .ok (.istore 4, 2) := by decide +kernel
theorem dX6_parish_25 : decode cX6_parish 25 = .ok (.iconst 0, 1) := by decide +kernel
theorem dX6_parish_26 : decode cX6_parish 26 = .ok (.istore 5, 2) := by decide +kernel
theorem dX6_parish_28 : decode cX6_parish 28 = .ok (.iload 5, 2) := by decide +kernel
theorem dX6_parish_30 : decode cX6_parish 30 = .ok (.aload_n 0, 1) := by decide +kernel
theorem dX6_parish_31 : decode cX6_parish 31 = .ok (.getfield 7, 3) := by decide +kernel
theorem dX6_parish_34 : decode cX6_parish 34 = .ok (.iconst 2, 1) := by decide +kernel
theorem dX6_parish_35 : decode cX6_parish 35 = .ok (.iaload, 1) := by decide +kernel
theorem dX6_parish_36 : decode cX6_parish 36 = .ok (.if_icmp .ge 70, 3) := by decide +kernel
theorem dX6_parish_39 : decode cX6_parish 39 = .ok (.aload_n 0, 1) := by decide +kernel
theorem dX6_parish_40 : decode cX6_parish 40 = .ok (.iload 5, 2) := by decide +kernel
theorem dX6_parish_42 : decode cX6_parish 42 = .ok (.invokevirtual 46, 3) := by decide +kernel
theorem dX6_parish_45 : decode cX6_parish 45 = .ok (.ifCond .eq 18, 3) := by decide +kernel
theorem dX6_parish_48 : decode cX6_parish 48 = .ok (.aload_n 0, 1) := by decide +kernel
theorem dX6_parish_49 : decode cX6_parish 49 = .ok (.iload 5, 2) := by decide +kernel
theorem dX6_parish_51 : decode cX6_parish 51 = .ok (.iconst 4, 1) := by decide +kernel
theorem dX6_parish_52 : decode cX6_parish 52 = .ok (.invokevirtual 28, 3) := by decide +kernel
theorem dX6_parish_55 : decode cX6_parish 55 = .ok (.iload_n 1, 1) := by decide +kernel
theorem dX6_parish_56 : decode cX6_parish 56 = .ok (.if_icmp .ne 7, 3) := by decide +kernel
theorem dX6_parish_59 : decode cX6_parish 59 = .ok (.iconst 1, 1) := by decide +kernel
theorem dX6_parish_60 : decode cX6_parish 60 = .ok (.goto 4, 3) := by decide +kernel
theorem dX6_parish_63 : decode cX6_parish 63 = .ok (.iconst 0, 1) := by decide +kernel
theorem dX6_parish_64 : decode cX6_parish 64 = .ok (.istore 6, 2) := by decide +kernel
theorem dX6_parish_66 : decode cX6_parish 66 = .ok (.iload_n 3, 1) := by decide +kernel
theorem dX6_parish_67 : decode cX6_parish 67 = .ok (.iload 6, 2) := by decide +kernel
theorem dX6_parish_69 : decode cX6_parish 69 = .ok (.ifCond .eq 7, 3) := by decide +kernel
theorem dX6_parish_72 : decode cX6_parish 72 = .ok (.iconst 1, 1) := by decide +kernel
theorem dX6_parish_73 : decode cX6_parish 73 = .ok (.goto 4, 3) := by decide +kernel
theorem dX6_parish_76 : decode cX6_parish 76 = .ok (.iconst 0, 1) := by decide +kernel
theorem dX6_parish_77 : decode cX6_parish 77 = .ok (.iadd, 1) := by decide +kernel
theorem dX6_parish_78 : decode cX6_parish 78 = .ok (.istore_n 3, 1) := by decide +kernel
theorem dX6_parish_79 : decode cX6_parish 79 = .ok (.iload 4, 2) := by decide +kernel
theorem dX6_parish_81 : decode cX6_parish 81 = .ok (.iload 6, 2) := by decide +kernel
theorem dX6_parish_83 : decode cX6_parish 83 = .ok (.ifCond .eq 13, 3) := by decide +kernel
theorem dX6_parish_86 : decode cX6_parish 86 = .ok (.aload_n 0, 1) := by decide +kernel
theorem dX6_parish_87 : decode cX6_parish 87 = .ok (.iload 5, 2) := by decide +kernel
theorem dX6_parish_89 : decode cX6_parish 89 = .ok (.iconst 2, 1) := by decide +kernel
theorem dX6_parish_90 : decode cX6_parish 90 = .ok (.invokevirtual 28, 3) := by decide +kernel
theorem dX6_parish_93 : decode cX6_parish 93 = .ok (.goto 4, 3) := by decide +kernel
theorem dX6_parish_96 : decode cX6_parish 96 = .ok (.iconst 0, 1) := by decide +kernel
theorem dX6_parish_97 : decode cX6_parish 97 = .ok (.iadd, 1) := by decide +kernel
theorem dX6_parish_98 : decode cX6_parish 98 = .ok (.istore 4, 2) := by decide +kernel
theorem dX6_parish_100 : decode cX6_parish 100 = .ok (.iinc 5 1, 3) := by decide +kernel
theorem dX6_parish_103 : decode cX6_parish 103 = .ok (.goto (-75), 3) := by decide +kernel
theorem dX6_parish_106 : decode cX6_parish 106 = .ok (.iconst 0, 1) := by decide +kernel
theorem dX6_parish_107 : decode cX6_parish 107 = .ok (.istore 5, 2) := by decide +kernel
theorem dX6_parish_109 : decode cX6_parish 109 = .ok (.iconst 0, 1) := by decide +kernel
theorem dX6_parish_110 : decode cX6_parish 110 = .ok (.istore 6, 2) := by decide +kernel
theorem dX6_parish_112 : decode cX6_parish 112 = .ok (.iload 6, 2) := by decide +kernel
theorem dX6_parish_114 : decode cX6_parish 114 = .ok (.bipush 40, 2) := by decide +kernel
theorem dX6_parish_116 : decode cX6_parish 116 = .ok (.if_icmp .ge 21, 3) := by decide +kernel
theorem dX6_parish_119 : decode cX6_parish 119 = .ok (.iload 5, 2) := by decide +kernel
theorem dX6_parish_121 : decode cX6_parish 121 = .ok (.aload_n 0, 1) := by decide +kernel
theorem dX6_parish_122 : decode cX6_parish 122 = .ok (.iload 6, 2) := by decide +kernel
theorem dX6_parish_124 : decode cX6_parish 124 = .ok (.iload_n 1, 1) := by decide +kernel
theorem dX6_parish_125 : decode cX6_parish 125 = .ok (.invokevirtual 53, 3) := by decide +kernel
theorem dX6_parish_128 : decode cX6_parish 128 = .ok (.iadd, 1) := by decide +kernel
theorem dX6_parish_129 : decode cX6_parish 129 = .ok (.istore 5, 2) := by decide +kernel
theorem dX6_parish_131 : decode cX6_parish 131 = .ok (.iinc 6 1, 3) := by decide +kernel
theorem dX6_parish_134 : decode cX6_parish 134 = .ok (.goto (-22), 3) := by decide +kernel
theorem dX6_parish_137 : decode cX6_parish 137 = .ok (.iload_n 2, 1) := by decide +kernel
theorem dX6_parish_138 : decode cX6_parish 138 = .ok (.tableswitch 84 0 6 #[42, 42, 42, 51, 73, 75, 78], 42) := by decide +kernel
theorem dX6_parish_180 : decode cX6_parish 180 = .ok (.aload_n 0, 1) := by decide +kernel
theorem dX6_parish_181 : decode cX6_parish 181 = .ok (.iload_n 1, 1) := by decide +kernel
theorem dX6_parish_182 : decode cX6_parish 182 = .ok (.iload_n 2, 1) := by decide +kernel
theorem dX6_parish_183 : decode cX6_parish 183 = .ok (.iconst 1, 1) := by decide +kernel
theorem dX6_parish_184 : decode cX6_parish 184 = .ok (.iadd, 1) := by decide +kernel
theorem dX6_parish_185 : decode cX6_parish 185 = .ok (.invokevirtual 32, 3) := by decide +kernel
theorem dX6_parish_188 : decode cX6_parish 188 = .ok (.ireturn, 1) := by decide +kernel
theorem dX6_parish_189 : decode cX6_parish 189 = .ok (.aload_n 0, 1) := by decide +kernel
theorem dX6_parish_190 : decode cX6_parish 190 = .ok (.aload_n 0, 1) := by decide +kernel
theorem dX6_parish_191 : decode cX6_parish 191 = .ok (.iload_n 1, 1) := by decide +kernel
theorem dX6_parish_192 : decode cX6_parish 192 = .ok (.iconst 1, 1) := by decide +kernel
theorem dX6_parish_193 : decode cX6_parish 193 = .ok (.invokevirtual 32, 3) := by decide +kernel
theorem dX6_parish_196 : decode cX6_parish 196 = .ok (.aload_n 0, 1) := by decide +kernel
theorem dX6_parish_197 : decode cX6_parish 197 = .ok (.iload_n 1, 1) := by decide +kernel
theorem dX6_parish_198 : decode cX6_parish 198 = .ok (.iconst 2, 1) := by decide +kernel
theorem dX6_parish_199 : decode cX6_parish 199 = .ok (.invokevirtual 32, 3) := by decide +kernel
theorem dX6_parish_202 : decode cX6_parish 202 = .ok (.aload_n 0, 1) := by decide +kernel
theorem dX6_parish_203 : decode cX6_parish 203 = .ok (.iload_n 1, 1) := by decide +kernel
theorem dX6_parish_204 : decode cX6_parish 204 = .ok (.invokevirtual 39, 3) := by decide +kernel
theorem dX6_parish_207 : decode cX6_parish 207 = .ok (.invokevirtual 56, 3) := by decide +kernel
theorem dX6_parish_210 : decode cX6_parish 210 = .ok (.ireturn, 1) := by decide +kernel
theorem dX6_parish_211 : decode cX6_parish 211 = .ok (.iload_n 3, 1) := by decide +kernel
theorem dX6_parish_212 : decode cX6_parish 212 = .ok (.ireturn, 1) := by decide +kernel
theorem dX6_parish_213 : decode cX6_parish 213 = .ok (.iload 4, 2) := by decide +kernel
theorem dX6_parish_215 : decode cX6_parish 215 = .ok (.ireturn, 1) := by decide +kernel
theorem dX6_parish_216 : decode cX6_parish 216 = .ok (.aload_n 0, 1) := by decide +kernel
theorem dX6_parish_217 : decode cX6_parish 217 = .ok (.iload_n 1, 1) := by decide +kernel
theorem dX6_parish_218 : decode cX6_parish 218 = .ok (.invokevirtual 110, 3) := by decide +kernel
theorem dX6_parish_221 : decode cX6_parish 221 = .ok (.ireturn, 1) := by decide +kernel
theorem dX6_parish_222 : decode cX6_parish 222 = .ok (.iload 5, 2) := by decide +kernel
theorem dX6_parish_224 : decode cX6_parish 224 = .ok (.ireturn, 1) := by decide +kernel
theorem dX6_debt_0 : decode cX6_debt 0 = .ok (.aload_n 0, 1) := by decide +kernel
theorem dX6_debt_1 : decode cX6_debt 1 = .ok (.iload_n 1, 1) := by decide +kernel
theorem dX6_debt_2 : decode cX6_debt 2 = .ok (.invokevirtual 35, 3) := by decide +kernel
theorem dX6_debt_5 : decode cX6_debt 5 = .ok (.ifCond .eq 20, 3) := by decide +kernel
theorem dX6_debt_8 : decode cX6_debt 8 = .ok (.aload_n 0, 1) := by decide +kernel
theorem dX6_debt_9 : decode cX6_debt 9 = .ok (.iload_n 2, 1) := by decide +kernel
theorem dX6_debt_10 : decode cX6_debt 10 = .ok (.invokevirtual 35, 3) := by decide +kernel
theorem dX6_debt_13 : decode cX6_debt 13 = .ok (.ifCond .eq 12, 3) := by decide +kernel
theorem dX6_debt_16 : decode cX6_debt 16 = .ok (.aload_n 0, 1) := by decide +kernel
theorem dX6_debt_17 : decode cX6_debt 17 = .ok (.iload_n 1, 1) := by decide +kernel
theorem dX6_debt_18 : decode cX6_debt 18 = .ok (.iload_n 2, 1) := by decide +kernel
theorem dX6_debt_19 : decode cX6_debt 19 = .ok (.invokevirtual 53, 3) := by decide +kernel
theorem dX6_debt_22 : decode cX6_debt 22 = .ok (.goto 4, 3) := by decide +kernel
theorem dX6_debt_25 : decode cX6_debt 25 = .ok (.iconst (-1), 1) := by decide +kernel
theorem dX6_debt_26 : decode cX6_debt 26 = .ok (.ireturn, 1) := by decide +kernel
theorem dX6_at_0 : decode cX6_at 0 = .ok (.iload_n 1, 1) := by decide +kernel
theorem dX6_at_1 : decode cX6_at 1 = .ok (.iload_n 2, 1) := by decide +kernel
theorem dX6_at_2 : decode cX6_at 2 = .ok (.invokestatic 85, 3) := by decide +kernel
theorem dX6_at_5 : decode cX6_at 5 = .ok (.ifCond .eq 12, 3) := by decide +kernel
theorem dX6_at_8 : decode cX6_at 8 = .ok (.aload_n 0, 1) := by decide +kernel
theorem dX6_at_9 : decode cX6_at 9 = .ok (.iload_n 1, 1) := by decide +kernel
theorem dX6_at_10 : decode cX6_at 10 = .ok (.iload_n 2, 1) := by decide +kernel
theorem dX6_at_11 : decode cX6_at 11 = .ok (.invokevirtual 43, 3) := by decide +kernel
theorem dX6_at_14 : decode cX6_at 14 = .ok (.goto 4, 3) := by decide +kernel
theorem dX6_at_17 : decode cX6_at 17 = .ok (.iconst (-1), 1) := by decide +kernel
theorem dX6_at_18 : decode cX6_at 18 = .ok (.ireturn, 1) := by decide +kernel
theorem dX6_range_0 : decode cX6_range 0 = .ok (.iload_n 1, 1) := by decide +kernel
theorem dX6_range_1 : decode cX6_range 1 = .ok (.iload_n 2, 1) := by decide +kernel
theorem dX6_range_2 : decode cX6_range 2 = .ok (.invokestatic 85, 3) := by decide +kernel
theorem dX6_range_5 : decode cX6_range 5 = .ok (.ifCond .eq 34, 3) := by decide +kernel
theorem dX6_range_8 : decode cX6_range 8 = .ok (.iload_n 3, 1) := by decide +kernel
theorem dX6_range_9 : decode cX6_range 9 = .ok (.iload_n 1, 1) := by decide +kernel
theorem dX6_range_10 : decode cX6_range 10 = .ok (.bipush 63, 2) := by decide +kernel
theorem dX6_range_12 : decode cX6_range 12 = .ok (.invokestatic 24, 3) := by decide +kernel
theorem dX6_range_15 : decode cX6_range 15 = .ok (.ifCond .eq 24, 3) := by decide +kernel
theorem dX6_range_18 : decode cX6_range 18 = .ok (.iload 4, 2) := by decide +kernel
theorem dX6_range_20 : decode cX6_range 20 = .ok (.iload_n 2, 1) := by decide +kernel
theorem dX6_range_21 : decode cX6_range 21 = .ok (.bipush 63, 2) := by decide +kernel
theorem dX6_range_23 : decode cX6_range 23 = .ok (.invokestatic 24, 3) := by decide +kernel
theorem dX6_range_26 : decode cX6_range 26 = .ok (.ifCond .eq 13, 3) := by decide +kernel
theorem dX6_range_29 : decode cX6_range 29 = .ok (.iload 5, 2) := by decide +kernel
theorem dX6_range_31 : decode cX6_range 31 = .ok (.iconst 0, 1) := by decide +kernel
theorem dX6_range_32 : decode cX6_range 32 = .ok (.iconst 3, 1) := by decide +kernel
theorem dX6_range_33 : decode cX6_range 33 = .ok (.invokestatic 24, 3) := by decide +kernel
theorem dX6_range_36 : decode cX6_range 36 = .ok (.ifCond .ne 5, 3) := by decide +kernel
theorem dX6_range_39 : decode cX6_range 39 = .ok (.iconst (-1), 1) := by decide +kernel
theorem dX6_range_40 : decode cX6_range 40 = .ok (.ireturn, 1) := by decide +kernel
theorem dX6_range_41 : decode cX6_range 41 = .ok (.iload 5, 2) := by decide +kernel
theorem dX6_range_43 : decode cX6_range 43 = .ok (.ifCond .ne 13, 3) := by decide +kernel
theorem dX6_range_46 : decode cX6_range 46 = .ok (.aload_n 0, 1) := by decide +kernel
theorem dX6_range_47 : decode cX6_range 47 = .ok (.iload_n 1, 1) := by decide +kernel
theorem dX6_range_48 : decode cX6_range 48 = .ok (.iload_n 2, 1) := by decide +kernel
theorem dX6_range_49 : decode cX6_range 49 = .ok (.iload_n 3, 1) := by decide +kernel
theorem dX6_range_50 : decode cX6_range 50 = .ok (.iload 4, 2) := by decide +kernel
theorem dX6_range_52 : decode cX6_range 52 = .ok (.invokevirtual 49, 3) := by decide +kernel
theorem dX6_range_55 : decode cX6_range 55 = .ok (.ireturn, 1) := by decide +kernel
theorem dX6_range_56 : decode cX6_range 56 = .ok (.iload 5, 2) := by decide +kernel
theorem dX6_range_58 : decode cX6_range 58 = .ok (.iconst 2, 1) := by decide +kernel
theorem dX6_range_59 : decode cX6_range 59 = .ok (.if_icmp .ne 117, 3) := by decide +kernel
theorem dX6_range_62 : decode cX6_range 62 = .ok (.iconst 0, 1) := by decide +kernel
theorem dX6_range_63 : decode cX6_range 63 = .ok (.istore 6, 2) := by decide +kernel
theorem dX6_range_65 : decode cX6_range 65 = .ok (.iconst 0, 1) := by decide +kernel
theorem dX6_range_66 : decode cX6_range 66 = .ok (.istore 7, 2) := by decide +kernel
theorem dX6_range_68 : decode cX6_range 68 = .ok (.iload 7, 2) := by decide +kernel
theorem dX6_range_70 : decode cX6_range 70 = .ok (.aload_n 0, 1) := by decide +kernel
theorem dX6_range_71 : decode cX6_range 71 = .ok (.getfield 7, 3) := by decide +kernel
theorem dX6_range_74 : decode cX6_range 74 = .ok (.iconst 3, 1) := by decide +kernel
theorem dX6_range_75 : decode cX6_range 75 = .ok (.iaload, 1) := by decide +kernel
theorem dX6_range_76 : decode cX6_range 76 = .ok (.if_icmp .ge 97, 3) := by decide +kernel
theorem dX6_range_79 : decode cX6_range 79 = .ok (.aload_n 0, 1) := by decide +kernel
theorem dX6_range_80 : decode cX6_range 80 = .ok (.iload 7, 2) := by decide +kernel
theorem dX6_range_82 : decode cX6_range 82 = .ok (.iconst 1, 1) := by decide +kernel
theorem dX6_range_83 : decode cX6_range 83 = .ok (.invokevirtual 32, 3) := by decide +kernel
theorem dX6_range_86 : decode cX6_range 86 = .ok (.istore 8, 2) := by decide +kernel
theorem dX6_range_88 : decode cX6_range 88 = .ok (.aload_n 0, 1) := by decide +kernel
theorem dX6_range_89 : decode cX6_range 89 = .ok (.iload 7, 2) := by decide +kernel
theorem dX6_range_91 : decode cX6_range 91 = .ok (.iconst 2, 1) := by decide +kernel
theorem dX6_range_92 : decode cX6_range 92 = .ok (.invokevirtual 32, 3) := by decide +kernel
theorem dX6_range_95 : decode cX6_range 95 = .ok (.istore 9, 2) := by decide +kernel
theorem dX6_range_97 : decode cX6_range 97 = .ok (.iload 8, 2) := by decide +kernel
theorem dX6_range_99 : decode cX6_range 99 = .ok (.iload_n 3, 1) := by decide +kernel
theorem dX6_range_100 : decode cX6_range 100 = .ok (.if_icmp .gt 40, 3) := by decide +kernel
theorem dX6_range_103 : decode cX6_range 103 = .ok (.iload 8, 2) := by decide +kernel
theorem dX6_range_105 : decode cX6_range 105 = .ok (.aload_n 0, 1) := by decide +kernel
theorem dX6_range_106 : decode cX6_range 106 = .ok (.iload 7, 2) := by decide +kernel
theorem dX6_range_108 : decode cX6_range 108 = .ok (.invokevirtual 39, 3) := by decide +kernel
theorem dX6_range_111 : decode cX6_range 111 = .ok (.iadd, 1) := by decide +kernel
theorem dX6_range_112 : decode cX6_range 112 = .ok (.iload_n 1, 1) := by decide +kernel
theorem dX6_range_113 : decode cX6_range 113 = .ok (.if_icmp .le 27, 3) := by decide +kernel
theorem dX6_range_116 : decode cX6_range 116 = .ok (.iload 9, 2) := by decide +kernel
theorem dX6_range_118 : decode cX6_range 118 = .ok (.iload 4, 2) := by decide +kernel
theorem dX6_range_120 : decode cX6_range 120 = .ok (.if_icmp .gt 20, 3) := by decide +kernel
theorem dX6_range_123 : decode cX6_range 123 = .ok (.iload 9, 2) := by decide +kernel
theorem dX6_range_125 : decode cX6_range 125 = .ok (.aload_n 0, 1) := by decide +kernel
theorem dX6_range_126 : decode cX6_range 126 = .ok (.iload 7, 2) := by decide +kernel
theorem dX6_range_128 : decode cX6_range 128 = .ok (.invokevirtual 39, 3) := by decide +kernel
theorem dX6_range_131 : decode cX6_range 131 = .ok (.iadd, 1) := by decide +kernel
theorem dX6_range_132 : decode cX6_range 132 = .ok (.iload_n 2, 1) := by decide +kernel
theorem dX6_range_133 : decode cX6_range 133 = .ok (.if_icmp .le 7, 3) := by decide +kernel
theorem dX6_range_136 : decode cX6_range 136 = .ok (.iconst 1, 1) := by decide +kernel
theorem dX6_range_137 : decode cX6_range 137 = .ok (.goto 4, 3) := by decide +kernel
theorem dX6_range_140 : decode cX6_range 140 = .ok (.iconst 0, 1) := by decide +kernel
theorem dX6_range_141 : decode cX6_range 141 = .ok (.istore 10, 2) := by decide +kernel
theorem dX6_range_143 : decode cX6_range 143 = .ok (.iload 6, 2) := by decide +kernel
theorem dX6_range_145 : decode cX6_range 145 = .ok (.aload_n 0, 1) := by decide +kernel
theorem dX6_range_146 : decode cX6_range 146 = .ok (.iload 7, 2) := by decide +kernel
theorem dX6_range_148 : decode cX6_range 148 = .ok (.invokevirtual 35, 3) := by decide +kernel
theorem dX6_range_151 : decode cX6_range 151 = .ok (.ifCond .eq 12, 3) := by decide +kernel
theorem dX6_range_154 : decode cX6_range 154 = .ok (.iload 10, 2) := by decide +kernel
theorem dX6_range_156 : decode cX6_range 156 = .ok (.ifCond .eq 7, 3) := by decide +kernel
theorem dX6_range_159 : decode cX6_range 159 = .ok (.iconst 1, 1) := by decide +kernel
theorem dX6_range_160 : decode cX6_range 160 = .ok (.goto 4, 3) := by decide +kernel
theorem dX6_range_163 : decode cX6_range 163 = .ok (.iconst 0, 1) := by decide +kernel
theorem dX6_range_164 : decode cX6_range 164 = .ok (.iadd, 1) := by decide +kernel
theorem dX6_range_165 : decode cX6_range 165 = .ok (.istore 6, 2) := by decide +kernel
theorem dX6_range_167 : decode cX6_range 167 = .ok (.iinc 7 1, 3) := by decide +kernel
theorem dX6_range_170 : decode cX6_range 170 = .ok (.goto (-102), 3) := by decide +kernel
theorem dX6_range_173 : decode cX6_range 173 = .ok (.iload 6, 2) := by decide +kernel
theorem dX6_range_175 : decode cX6_range 175 = .ok (.ireturn, 1) := by decide +kernel
theorem dX6_range_176 : decode cX6_range 176 = .ok (.iconst 0, 1) := by decide +kernel
theorem dX6_range_177 : decode cX6_range 177 = .ok (.istore 6, 2) := by decide +kernel
theorem dX6_range_179 : decode cX6_range 179 = .ok (.bipush (-9), 2) := by decide +kernel
theorem dX6_range_181 : decode cX6_range 181 = .ok (.istore 7, 2) := by decide +kernel
theorem dX6_range_183 : decode cX6_range 183 = .ok (.iconst 0, 1) := by decide +kernel
theorem dX6_range_184 : decode cX6_range 184 = .ok (.istore 8, 2) := by decide +kernel
theorem dX6_range_186 : decode cX6_range 186 = .ok (.iload 8, 2) := by decide +kernel
theorem dX6_range_188 : decode cX6_range 188 = .ok (.aload_n 0, 1) := by decide +kernel
theorem dX6_range_189 : decode cX6_range 189 = .ok (.getfield 7, 3) := by decide +kernel
theorem dX6_range_192 : decode cX6_range 192 = .ok (.iconst 2, 1) := by decide +kernel
theorem dX6_range_193 : decode cX6_range 193 = .ok (.iaload, 1) := by decide +kernel
theorem dX6_range_194 : decode cX6_range 194 = .ok (.if_icmp .ge 94, 3) := by decide +kernel
theorem dX6_range_197 : decode cX6_range 197 = .ok (.aload_n 0, 1) := by decide +kernel
theorem dX6_range_198 : decode cX6_range 198 = .ok (.iload 8, 2) := by decide +kernel
theorem dX6_range_200 : decode cX6_range 200 = .ok (.invokevirtual 46, 3) := by decide +kernel
theorem dX6_range_203 : decode cX6_range 203 = .ok (.ifCond .eq 79, 3) := by decide +kernel
theorem dX6_range_206 : decode cX6_range 206 = .ok (.aload_n 0, 1) := by decide +kernel
theorem dX6_range_207 : decode cX6_range 207 = .ok (.iload 8, 2) := by decide +kernel
theorem dX6_range_209 : decode cX6_range 209 = .ok (.iconst 0, 1) := by decide +kernel
theorem dX6_range_210 : decode cX6_range 210 = .ok (.invokevirtual 28, 3) := by decide +kernel
theorem dX6_range_213 : decode cX6_range 213 = .ok (.iload_n 1, 1) := by decide +kernel
theorem dX6_range_214 : decode cX6_range 214 = .ok (.iload_n 3, 1) := by decide +kernel
theorem dX6_range_215 : decode cX6_range 215 = .ok (.invokestatic 24, 3) := by decide +kernel
theorem dX6_range_218 : decode cX6_range 218 = .ok (.ifCond .eq 64, 3) := by decide +kernel
theorem dX6_range_221 : decode cX6_range 221 = .ok (.aload_n 0, 1) := by decide +kernel
theorem dX6_range_222 : decode cX6_range 222 = .ok (.iload 8, 2) := by decide +kernel
theorem dX6_range_224 : decode cX6_range 224 = .ok (.iconst 1, 1) := by decide +kernel
theorem dX6_range_225 : decode cX6_range 225 = .ok (.invokevirtual 28, 3) := by decide +kernel
theorem dX6_range_228 : decode cX6_range 228 = .ok (.iload_n 2, 1) := by decide +kernel
theorem dX6_range_229 : decode cX6_range 229 = .ok (.iload 4, 2) := by decide +kernel
theorem dX6_range_231 : decode cX6_range 231 = .ok (.invokestatic 24, 3) := by decide +kernel
theorem dX6_range_234 : decode cX6_range 234 = .ok (.ifCond .eq 48, 3) := by decide +kernel
theorem dX6_range_237 : decode cX6_range 237 = .ok (.iload 6, 2) := by decide +kernel
theorem dX6_range_239 : decode cX6_range 239 = .ok (.aload_n 0, 1) := by decide +kernel
theorem dX6_range_240 : decode cX6_range 240 = .ok (.iload 8, 2) := by decide +kernel
theorem dX6_range_242 : decode cX6_range 242 = .ok (.iconst 2, 1) := by decide +kernel
theorem dX6_range_243 : decode cX6_range 243 = .ok (.invokevirtual 28, 3) := by decide +kernel
theorem dX6_range_246 : decode cX6_range 246 = .ok (.iadd, 1) := by decide +kernel
theorem dX6_range_247 : decode cX6_range 247 = .ok (.istore 6, 2) := by decide +kernel
theorem dX6_range_249 : decode cX6_range 249 = .ok (.iload 7, 2) := by decide +kernel
theorem dX6_range_251 : decode cX6_range 251 = .ok (.bipush (-9), 2) := by decide +kernel
theorem dX6_range_253 : decode cX6_range 253 = .ok (.if_icmp .eq 20, 3) := by decide +kernel
theorem dX6_range_256 : decode cX6_range 256 = .ok (.aload_n 0, 1) := by decide +kernel
theorem dX6_range_257 : decode cX6_range 257 = .ok (.iload 8, 2) := by decide +kernel
theorem dX6_range_259 : decode cX6_range 259 = .ok (.iconst 2, 1) := by decide +kernel
theorem dX6_range_260 : decode cX6_range 260 = .ok (.invokevirtual 28, 3) := by decide +kernel
theorem dX6_range_263 : decode cX6_range 263 = .ok (.aload_n 0, 1) := by decide +kernel
theorem dX6_range_264 : decode cX6_range 264 = .ok (.iload 7, 2) := by decide +kernel
theorem dX6_range_266 : decode cX6_range 266 = .ok (.iconst 2, 1) := by decide +kernel
theorem dX6_range_267 : decode cX6_range 267 = .ok (.invokevirtual 28, 3) := by decide +kernel
theorem dX6_range_270 : decode cX6_range 270 = .ok (.if_icmp .le 8, 3) := by decide +kernel
theorem dX6_range_273 : decode cX6_range 273 = .ok (.iload 8, 2) := by decide +kernel
theorem dX6_range_275 : decode cX6_range 275 = .ok (.goto 5, 3) := by decide +kernel
theorem dX6_range_278 : decode cX6_range 278 = .ok (.iload 7, 2) := by decide +kernel
theorem dX6_range_280 : decode cX6_range 280 = .ok (.istore 7, 2) := by decide +kernel
theorem dX6_range_282 : decode cX6_range 282 = .ok (.iinc 8 1, 3) := by decide +kernel
theorem dX6_range_285 : decode cX6_range 285 = .ok (.goto (-99), 3) := by decide +kernel
theorem dX6_range_288 : decode cX6_range 288 = .ok (.iload 5, 2) := by decide +kernel
theorem dX6_range_290 : decode cX6_range 290 = .ok (.iconst 1, 1) := by decide +kernel
theorem dX6_range_291 : decode cX6_range 291 = .ok (.if_icmp .ne 8, 3) := by decide +kernel
theorem dX6_range_294 : decode cX6_range 294 = .ok (.iload 6, 2) := by decide +kernel
theorem dX6_range_296 : decode cX6_range 296 = .ok (.goto 5, 3) := by decide +kernel
theorem dX6_range_299 : decode cX6_range 299 = .ok (.iload 7, 2) := by decide +kernel
theorem dX6_range_301 : decode cX6_range 301 = .ok (.ireturn, 1) := by decide +kernel
theorem dX6_far_0 : decode cX6_far 0 = .ok (.iload_n 0, 1) := by decide +kernel
theorem dX6_far_1 : decode cX6_far 1 = .ok (.iload_n 1, 1) := by decide +kernel
theorem dX6_far_2 : decode cX6_far 2 = .ok (.if_icmp .ge 9, 3) := by decide +kernel
theorem dX6_far_5 : decode cX6_far 5 = .ok (.iload_n 1, 1) := by decide +kernel
theorem dX6_far_6 : decode cX6_far 6 = .ok (.iload_n 0, 1) := by decide +kernel
theorem dX6_far_7 : decode cX6_far 7 = .ok (.isub, 1) := by decide +kernel
theorem dX6_far_8 : decode cX6_far 8 = .ok (.goto 6, 3) := by decide +kernel
theorem dX6_far_11 : decode cX6_far 11 = .ok (.iload_n 0, 1) := by decide +kernel
theorem dX6_far_12 : decode cX6_far 12 = .ok (.iload_n 1, 1) := by decide +kernel
theorem dX6_far_13 : decode cX6_far 13 = .ok (.isub, 1) := by decide +kernel
theorem dX6_far_14 : decode cX6_far 14 = .ok (.ireturn, 1) := by decide +kernel
theorem dX6_nearest_0 : decode cX6_nearest 0 = .ok (.iload_n 1, 1) := by decide +kernel
theorem dX6_nearest_1 : decode cX6_nearest 1 = .ok (.iload_n 2, 1) := by decide +kernel
theorem dX6_nearest_2 : decode cX6_nearest 2 = .ok (.invokestatic 85, 3) := by decide +kernel
theorem dX6_nearest_5 : decode cX6_nearest 5 = .ok (.ifCond .ne 5, 3) := by decide +kernel
theorem dX6_nearest_8 : decode cX6_nearest 8 = .ok (.iconst (-1), 1) := by decide +kernel
theorem dX6_nearest_9 : decode cX6_nearest 9 = .ok (.ireturn, 1) := by decide +kernel
theorem dX6_nearest_10 : decode cX6_nearest 10 = .ok (.bipush (-9), 2) := by decide +kernel
theorem dX6_nearest_12 : decode cX6_nearest 12 = .ok (.istore_n 3, 1) := by decide +kernel
theorem dX6_nearest_13 : decode cX6_nearest 13 = .ok (.iconst 0, 1) := by decide +kernel
theorem dX6_nearest_14 : decode cX6_nearest 14 = .ok (.istore 4, 2) := by decide +kernel
theorem dX6_nearest_16 : decode cX6_nearest 16 = .ok (.iconst 0, 1) := by decide +kernel
theorem dX6_nearest_17 : decode cX6_nearest 17 = .ok (.istore 5, 2) := by decide +kernel
theorem dX6_nearest_19 : decode cX6_nearest 19 = .ok (.iload 5, 2) := by decide +kernel
theorem dX6_nearest_21 : decode cX6_nearest 21 = .ok (.aload_n 0, 1) := by decide +kernel
theorem dX6_nearest_22 : decode cX6_nearest 22 = .ok (.getfield 7, 3) := by decide +kernel
theorem dX6_nearest_25 : decode cX6_nearest 25 = .ok (.iconst 2, 1) := by decide +kernel
theorem dX6_nearest_26 : decode cX6_nearest 26 = .ok (.iaload, 1) := by decide +kernel
theorem dX6_nearest_27 : decode cX6_nearest 27 = .ok (.if_icmp .ge 63, 3) := by decide +kernel
theorem dX6_nearest_30 : decode cX6_nearest 30 = .ok (.iload_n 1, 1) := by decide +kernel
theorem dX6_nearest_31 : decode cX6_nearest 31 = .ok (.aload_n 0, 1) := by decide +kernel
theorem dX6_nearest_32 : decode cX6_nearest 32 = .ok (.iload 5, 2) := by decide +kernel
theorem dX6_nearest_34 : decode cX6_nearest 34 = .ok (.iconst 0, 1) := by decide +kernel
theorem dX6_nearest_35 : decode cX6_nearest 35 = .ok (.invokevirtual 28, 3) := by decide +kernel
theorem dX6_nearest_38 : decode cX6_nearest 38 = .ok (.invokestatic 113, 3) := by decide +kernel
theorem dX6_nearest_41 : decode cX6_nearest 41 = .ok (.iload_n 2, 1) := by decide +kernel
theorem dX6_nearest_42 : decode cX6_nearest 42 = .ok (.aload_n 0, 1) := by decide +kernel
theorem dX6_nearest_43 : decode cX6_nearest 43 = .ok (.iload 5, 2) := by decide +kernel
theorem dX6_nearest_45 : decode cX6_nearest 45 = .ok (.iconst 1, 1) := by decide +kernel
theorem dX6_nearest_46 : decode cX6_nearest 46 = .ok (.invokevirtual 28, 3) := by decide +kernel
theorem dX6_nearest_49 : decode cX6_nearest 49 = .ok (.invokestatic 113, 3) := by decide +kernel
theorem dX6_nearest_52 : decode cX6_nearest 52 = .ok (.iadd, 1) := by decide +kernel
theorem dX6_nearest_53 : decode cX6_nearest 53 = .ok (.istore 6, 2) := by decide +kernel
theorem dX6_nearest_55 : decode cX6_nearest 55 = .ok (.aload_n 0, 1) := by decide +kernel
theorem dX6_nearest_56 : decode cX6_nearest 56 = .ok (.iload 5, 2) := by decide +kernel
theorem dX6_nearest_58 : decode cX6_nearest 58 = .ok (.invokevirtual 46, 3) := by decide +kernel
theorem dX6_nearest_61 : decode cX6_nearest 61 = .ok (.ifCond .eq 23, 3) := by decide +kernel
theorem dX6_nearest_64 : decode cX6_nearest 64 = .ok (.iload_n 3, 1) := by decide +kernel
theorem dX6_nearest_65 : decode cX6_nearest 65 = .ok (.bipush (-9), 2) := by decide +kernel
theorem dX6_nearest_67 : decode cX6_nearest 67 = .ok (.if_icmp .eq 10, 3) := by decide +kernel
theorem dX6_nearest_70 : decode cX6_nearest 70 = .ok (.iload 6, 2) := by decide +kernel
theorem dX6_nearest_72 : decode cX6_nearest 72 = .ok (.iload 4, 2) := by decide +kernel
theorem dX6_nearest_74 : decode cX6_nearest 74 = .ok (.if_icmp .ge 10, 3) := by decide +kernel
theorem dX6_nearest_77 : decode cX6_nearest 77 = .ok (.iload 5, 2) := by decide +kernel
theorem dX6_nearest_79 : decode cX6_nearest 79 = .ok (.istore_n 3, 1) := by decide +kernel
theorem dX6_nearest_80 : decode cX6_nearest 80 = .ok (.iload 6, 2) := by decide +kernel
theorem dX6_nearest_82 : decode cX6_nearest 82 = .ok (.istore 4, 2) := by decide +kernel
theorem dX6_nearest_84 : decode cX6_nearest 84 = .ok (.iinc 5 1, 3) := by decide +kernel
theorem dX6_nearest_87 : decode cX6_nearest 87 = .ok (.goto (-68), 3) := by decide +kernel
theorem dX6_nearest_90 : decode cX6_nearest 90 = .ok (.iload_n 3, 1) := by decide +kernel
theorem dX6_nearest_91 : decode cX6_nearest 91 = .ok (.ireturn, 1) := by decide +kernel
theorem dX6_inOrder_0 : decode cX6_inOrder 0 = .ok (.iload_n 1, 1) := by decide +kernel
theorem dX6_inOrder_1 : decode cX6_inOrder 1 = .ok (.ifCond .ge 5, 3) := by decide +kernel
theorem dX6_inOrder_4 : decode cX6_inOrder 4 = .ok (.iconst (-1), 1) := by decide +kernel
theorem dX6_inOrder_5 : decode cX6_inOrder 5 = .ok (.ireturn, 1) := by decide +kernel
theorem dX6_inOrder_6 : decode cX6_inOrder 6 = .ok (.iconst 0, 1) := by decide +kernel
theorem dX6_inOrder_7 : decode cX6_inOrder 7 = .ok (.istore_n 2, 1) := by decide +kernel
theorem dX6_inOrder_8 : decode cX6_inOrder 8 = .ok (.iconst 0, 1) := by decide +kernel
theorem dX6_inOrder_9 : decode cX6_inOrder 9 = .ok (.istore_n 3, 1) := by decide +kernel
theorem dX6_inOrder_10 : decode cX6_inOrder 10 = .ok (.iload_n 3, 1) := by decide +kernel
theorem dX6_inOrder_11 : decode cX6_inOrder 11 = .ok (.sipush 256, 3) := by decide +kernel
theorem dX6_inOrder_14 : decode cX6_inOrder 14 = .ok (.if_icmp .ge 113, 3) := by decide +kernel
theorem dX6_inOrder_17 : decode cX6_inOrder 17 = .ok (.iconst 0, 1) := by decide +kernel
theorem dX6_inOrder_18 : decode cX6_inOrder 18 = .ok (.istore 4, 2) := by decide +kernel
theorem dX6_inOrder_20 : decode cX6_inOrder 20 = .ok (.iconst 0, 1) := by decide +kernel
theorem dX6_inOrder_21 : decode cX6_inOrder 21 = .ok (.istore 5, 2) := by decide +kernel
theorem dX6_inOrder_23 : decode cX6_inOrder 23 = .ok (.iconst 0, 1) := by decide +kernel
theorem dX6_inOrder_24 : decode cX6_inOrder 24 = .ok (.istore 6, 2) := by decide +kernel
theorem dX6_inOrder_26 : decode cX6_inOrder 26 = .ok (.iload 6, 2) := by decide +kernel
theorem dX6_inOrder_28 : decode cX6_inOrder 28 = .ok (.iconst 4, 1) := by decide +kernel
theorem dX6_inOrder_29 : decode cX6_inOrder 29 = .ok (.if_icmp .ge 47, 3) := by decide +kernel
theorem dX6_inOrder_32 : decode cX6_inOrder 32 = .ok (.iload 4, 2) := by decide +kernel
theorem dX6_inOrder_34 : decode cX6_inOrder 34 = .ok (.iload_n 3, 1) := by decide +kernel
theorem dX6_inOrder_35 : decode cX6_inOrder 35 = .ok (.iconst 2, 1) := by decide +kernel
theorem dX6_inOrder_36 : decode cX6_inOrder 36 = .ok (.iload 6, 2) := by decide +kernel
theorem dX6_inOrder_38 : decode cX6_inOrder 38 = .ok (.imul, 1) := by decide +kernel
theorem dX6_inOrder_39 : decode cX6_inOrder 39 = .ok (.ishr, 1) := by decide +kernel
theorem dX6_inOrder_40 : decode cX6_inOrder 40 = .ok (.iconst 1, 1) := by decide +kernel
theorem dX6_inOrder_41 : decode cX6_inOrder 41 = .ok (.iand, 1) := by decide +kernel
theorem dX6_inOrder_42 : decode cX6_inOrder 42 = .ok (.iconst 4, 1) := by decide +kernel
theorem dX6_inOrder_43 : decode cX6_inOrder 43 = .ok (.iload 6, 2) := by decide +kernel
theorem dX6_inOrder_45 : decode cX6_inOrder 45 = .ok (.ishl, 1) := by decide +kernel
theorem dX6_inOrder_46 : decode cX6_inOrder 46 = .ok (.imul, 1) := by decide +kernel
theorem dX6_inOrder_47 : decode cX6_inOrder 47 = .ok (.iadd, 1) := by decide +kernel
theorem dX6_inOrder_48 : decode cX6_inOrder 48 = .ok (.istore 4, 2) := by decide +kernel
theorem dX6_inOrder_50 : decode cX6_inOrder 50 = .ok (.iload 5, 2) := by decide +kernel
theorem dX6_inOrder_52 : decode cX6_inOrder 52 = .ok (.iload_n 3, 1) := by decide +kernel
theorem dX6_inOrder_53 : decode cX6_inOrder 53 = .ok (.iconst 2, 1) := by decide +kernel
theorem dX6_inOrder_54 : decode cX6_inOrder 54 = .ok (.iload 6, 2) := by decide +kernel
theorem dX6_inOrder_56 : decode cX6_inOrder 56 = .ok (.imul, 1) := by decide +kernel
theorem dX6_inOrder_57 : decode cX6_inOrder 57 = .ok (.iconst 1, 1) := by decide +kernel
theorem dX6_inOrder_58 : decode cX6_inOrder 58 = .ok (.iadd, 1) := by decide +kernel
theorem dX6_inOrder_59 : decode cX6_inOrder 59 = .ok (.ishr, 1) := by decide +kernel
theorem dX6_inOrder_60 : decode cX6_inOrder 60 = .ok (.iconst 1, 1) := by decide +kernel
theorem dX6_inOrder_61 : decode cX6_inOrder 61 = .ok (.iand, 1) := by decide +kernel
theorem dX6_inOrder_62 : decode cX6_inOrder 62 = .ok (.iconst 4, 1) := by decide +kernel
theorem dX6_inOrder_63 : decode cX6_inOrder 63 = .ok (.iload 6, 2) := by decide +kernel
theorem dX6_inOrder_65 : decode cX6_inOrder 65 = .ok (.ishl, 1) := by decide +kernel
theorem dX6_inOrder_66 : decode cX6_inOrder 66 = .ok (.imul, 1) := by decide +kernel
theorem dX6_inOrder_67 : decode cX6_inOrder 67 = .ok (.iadd, 1) := by decide +kernel
theorem dX6_inOrder_68 : decode cX6_inOrder 68 = .ok (.istore 5, 2) := by decide +kernel
theorem dX6_inOrder_70 : decode cX6_inOrder 70 = .ok (.iinc 6 1, 3) := by decide +kernel
theorem dX6_inOrder_73 : decode cX6_inOrder 73 = .ok (.goto (-47), 3) := by decide +kernel
theorem dX6_inOrder_76 : decode cX6_inOrder 76 = .ok (.aload_n 0, 1) := by decide +kernel
theorem dX6_inOrder_77 : decode cX6_inOrder 77 = .ok (.iload 4, 2) := by decide +kernel
theorem dX6_inOrder_79 : decode cX6_inOrder 79 = .ok (.iload 5, 2) := by decide +kernel
theorem dX6_inOrder_81 : decode cX6_inOrder 81 = .ok (.invokevirtual 43, 3) := by decide +kernel
theorem dX6_inOrder_84 : decode cX6_inOrder 84 = .ok (.istore 6, 2) := by decide +kernel
theorem dX6_inOrder_86 : decode cX6_inOrder 86 = .ok (.aload_n 0, 1) := by decide +kernel
theorem dX6_inOrder_87 : decode cX6_inOrder 87 = .ok (.iload 6, 2) := by decide +kernel
theorem dX6_inOrder_89 : decode cX6_inOrder 89 = .ok (.iconst 1, 1) := by decide +kernel
theorem dX6_inOrder_90 : decode cX6_inOrder 90 = .ok (.invokevirtual 32, 3) := by decide +kernel
theorem dX6_inOrder_93 : decode cX6_inOrder 93 = .ok (.iload 4, 2) := by decide +kernel
theorem dX6_inOrder_95 : decode cX6_inOrder 95 = .ok (.if_icmp .ne 26, 3) := by decide +kernel
theorem dX6_inOrder_98 : decode cX6_inOrder 98 = .ok (.aload_n 0, 1) := by decide +kernel
theorem dX6_inOrder_99 : decode cX6_inOrder 99 = .ok (.iload 6, 2) := by decide +kernel
theorem dX6_inOrder_101 : decode cX6_inOrder 101 = .ok (.iconst 2, 1) := by decide +kernel
theorem dX6_inOrder_102 : decode cX6_inOrder 102 = .ok (.invokevirtual 32, 3) := by decide +kernel
theorem dX6_inOrder_105 : decode cX6_inOrder 105 = .ok (.iload 5, 2) := by decide +kernel
theorem dX6_inOrder_107 : decode cX6_inOrder 107 = .ok (.if_icmp .ne 14, 3) := by decide +kernel
theorem dX6_inOrder_110 : decode cX6_inOrder 110 = .ok (.iload_n 2, 1) := by decide +kernel
theorem dX6_inOrder_111 : decode cX6_inOrder 111 = .ok (.iload_n 1, 1) := by decide +kernel
theorem dX6_inOrder_112 : decode cX6_inOrder 112 = .ok (.if_icmp .ne 6, 3) := by decide +kernel
theorem dX6_inOrder_115 : decode cX6_inOrder 115 = .ok (.iload 6, 2) := by decide +kernel
theorem dX6_inOrder_117 : decode cX6_inOrder 117 = .ok (.ireturn, 1) := by decide +kernel
theorem dX6_inOrder_118 : decode cX6_inOrder 118 = .ok (.iinc 2 1, 3) := by decide +kernel
theorem dX6_inOrder_121 : decode cX6_inOrder 121 = .ok (.iinc 3 1, 3) := by decide +kernel
theorem dX6_inOrder_124 : decode cX6_inOrder 124 = .ok (.goto (-114), 3) := by decide +kernel
theorem dX6_inOrder_127 : decode cX6_inOrder 127 = .ok (.bipush (-9), 2) := by decide +kernel
theorem dX6_inOrder_129 : decode cX6_inOrder 129 = .ok (.ireturn, 1) := by decide +kernel
theorem dX6_payable_0 : decode cX6_payable 0 = .ok (.aload_n 0, 1) := by decide +kernel
theorem dX6_payable_1 : decode cX6_payable 1 = .ok (.iload_n 1, 1) := by decide +kernel
theorem dX6_payable_2 : decode cX6_payable 2 = .ok (.invokevirtual 35, 3) := by decide +kernel
theorem dX6_payable_5 : decode cX6_payable 5 = .ok (.ifCond .ne 5, 3) := by decide +kernel
theorem dX6_payable_8 : decode cX6_payable 8 = .ok (.iconst (-1), 1) := by decide +kernel
theorem dX6_payable_9 : decode cX6_payable 9 = .ok (.ireturn, 1) := by decide +kernel
theorem dX6_payable_10 : decode cX6_payable 10 = .ok (.iconst 0, 1) := by decide +kernel
theorem dX6_payable_11 : decode cX6_payable 11 = .ok (.istore_n 2, 1) := by decide +kernel
theorem dX6_payable_12 : decode cX6_payable 12 = .ok (.iconst 0, 1) := by decide +kernel
theorem dX6_payable_13 : decode cX6_payable 13 = .ok (.istore_n 3, 1) := by decide +kernel
theorem dX6_payable_14 : decode cX6_payable 14 = .ok (.iload_n 3, 1) := by decide +kernel
theorem dX6_payable_15 : decode cX6_payable 15 = .ok (.aload_n 0, 1) := by decide +kernel
theorem dX6_payable_16 : decode cX6_payable 16 = .ok (.getfield 7, 3) := by decide +kernel
theorem dX6_payable_19 : decode cX6_payable 19 = .ok (.iconst 2, 1) := by decide +kernel
theorem dX6_payable_20 : decode cX6_payable 20 = .ok (.iaload, 1) := by decide +kernel
theorem dX6_payable_21 : decode cX6_payable 21 = .ok (.if_icmp .ge 44, 3) := by decide +kernel
theorem dX6_payable_24 : decode cX6_payable 24 = .ok (.iload_n 2, 1) := by decide +kernel
theorem dX6_payable_25 : decode cX6_payable 25 = .ok (.aload_n 0, 1) := by decide +kernel
theorem dX6_payable_26 : decode cX6_payable 26 = .ok (.iload_n 3, 1) := by decide +kernel
theorem dX6_payable_27 : decode cX6_payable 27 = .ok (.invokevirtual 46, 3) := by decide +kernel
theorem dX6_payable_30 : decode cX6_payable 30 = .ok (.ifCond .eq 26, 3) := by decide +kernel
theorem dX6_payable_33 : decode cX6_payable 33 = .ok (.aload_n 0, 1) := by decide +kernel
theorem dX6_payable_34 : decode cX6_payable 34 = .ok (.iload_n 3, 1) := by decide +kernel
theorem dX6_payable_35 : decode cX6_payable 35 = .ok (.iconst 4, 1) := by decide +kernel
theorem dX6_payable_36 : decode cX6_payable 36 = .ok (.invokevirtual 28, 3) := by decide +kernel
theorem dX6_payable_39 : decode cX6_payable 39 = .ok (.iload_n 1, 1) := by decide +kernel
theorem dX6_payable_40 : decode cX6_payable 40 = .ok (.if_icmp .ne 16, 3) := by decide +kernel
theorem dX6_payable_43 : decode cX6_payable 43 = .ok (.aload_n 0, 1) := by decide +kernel
theorem dX6_payable_44 : decode cX6_payable 44 = .ok (.iload_n 3, 1) := by decide +kernel
theorem dX6_payable_45 : decode cX6_payable 45 = .ok (.invokevirtual 98, 3) := by decide +kernel
theorem dX6_payable_48 : decode cX6_payable 48 = .ok (.iload_n 1, 1) := by decide +kernel
theorem dX6_payable_49 : decode cX6_payable 49 = .ok (.if_icmp .ne 7, 3) := by decide +kernel
theorem dX6_payable_52 : decode cX6_payable 52 = .ok (.iconst 1, 1) := by decide +kernel
theorem dX6_payable_53 : decode cX6_payable 53 = .ok (.goto 4, 3) := by decide +kernel
theorem dX6_payable_56 : decode cX6_payable 56 = .ok (.iconst 0, 1) := by decide +kernel
theorem dX6_payable_57 : decode cX6_payable 57 = .ok (.iadd, 1) := by decide +kernel
theorem dX6_payable_58 : decode cX6_payable 58 = .ok (.istore_n 2, 1) := by decide +kernel
theorem dX6_payable_59 : decode cX6_payable 59 = .ok (.iinc 3 1, 3) := by decide +kernel
theorem dX6_payable_62 : decode cX6_payable 62 = .ok (.goto (-48), 3) := by decide +kernel
theorem dX6_payable_65 : decode cX6_payable 65 = .ok (.aload_n 0, 1) := by decide +kernel
theorem dX6_payable_66 : decode cX6_payable 66 = .ok (.iload_n 1, 1) := by decide +kernel
theorem dX6_payable_67 : decode cX6_payable 67 = .ok (.invokevirtual 110, 3) := by decide +kernel
theorem dX6_payable_70 : decode cX6_payable 70 = .ok (.istore_n 3, 1) := by decide +kernel
theorem dX6_payable_71 : decode cX6_payable 71 = .ok (.iload_n 2, 1) := by decide +kernel
theorem dX6_payable_72 : decode cX6_payable 72 = .ok (.iload_n 3, 1) := by decide +kernel
theorem dX6_payable_73 : decode cX6_payable 73 = .ok (.if_icmp .ge 7, 3) := by decide +kernel
theorem dX6_payable_76 : decode cX6_payable 76 = .ok (.iload_n 2, 1) := by decide +kernel
theorem dX6_payable_77 : decode cX6_payable 77 = .ok (.goto 4, 3) := by decide +kernel
theorem dX6_payable_80 : decode cX6_payable 80 = .ok (.iload_n 3, 1) := by decide +kernel
theorem dX6_payable_81 : decode cX6_payable 81 = .ok (.ireturn, 1) := by decide +kernel
theorem dX6_cellsWith_0 : decode cX6_cellsWith 0 = .ok (.iload_n 1, 1) := by decide +kernel
theorem dX6_cellsWith_1 : decode cX6_cellsWith 1 = .ok (.iconst 2, 1) := by decide +kernel
theorem dX6_cellsWith_2 : decode cX6_cellsWith 2 = .ok (.bipush 9, 2) := by decide +kernel
theorem dX6_cellsWith_4 : decode cX6_cellsWith 4 = .ok (.invokestatic 24, 3) := by decide +kernel
theorem dX6_cellsWith_7 : decode cX6_cellsWith 7 = .ok (.ifCond .ne 5, 3) := by decide +kernel
theorem dX6_cellsWith_10 : decode cX6_cellsWith 10 = .ok (.iconst (-1), 1) := by decide +kernel
theorem dX6_cellsWith_11 : decode cX6_cellsWith 11 = .ok (.ireturn, 1) := by decide +kernel
theorem dX6_cellsWith_12 : decode cX6_cellsWith 12 = .ok (.iconst 1, 1) := by decide +kernel
theorem dX6_cellsWith_13 : decode cX6_cellsWith 13 = .ok (.istore_n 2, 1) := by decide +kernel
theorem dX6_cellsWith_14 : decode cX6_cellsWith 14 = .ok (.iconst 0, 1) := by decide +kernel
theorem dX6_cellsWith_15 : decode cX6_cellsWith 15 = .ok (.istore_n 3, 1) := by decide +kernel
theorem dX6_cellsWith_16 : decode cX6_cellsWith 16 = .ok (.iload_n 3, 1) := by decide +kernel
theorem dX6_cellsWith_17 : decode cX6_cellsWith 17 = .ok (.iconst 4, 1) := by decide +kernel
theorem dX6_cellsWith_18 : decode cX6_cellsWith 18 = .ok (.if_icmp .ge 77, 3) := by decide +kernel
theorem dX6_cellsWith_21 : decode cX6_cellsWith 21 = .ok (.bipush 64, 2) := by decide +kernel
theorem dX6_cellsWith_23 : decode cX6_cellsWith 23 = .ok (.iload_n 3, 1) := by decide +kernel
theorem dX6_cellsWith_24 : decode cX6_cellsWith 24 = .ok (.ishr, 1) := by decide +kernel
theorem dX6_cellsWith_25 : decode cX6_cellsWith 25 = .ok (.istore 4, 2) := by decide +kernel
theorem dX6_cellsWith_27 : decode cX6_cellsWith 27 = .ok (.iconst 0, 1) := by decide +kernel
theorem dX6_cellsWith_28 : decode cX6_cellsWith 28 = .ok (.istore 5, 2) := by decide +kernel
theorem dX6_cellsWith_30 : decode cX6_cellsWith 30 = .ok (.iload 5, 2) := by decide +kernel
theorem dX6_cellsWith_32 : decode cX6_cellsWith 32 = .ok (.bipush 64, 2) := by decide +kernel
theorem dX6_cellsWith_34 : decode cX6_cellsWith 34 = .ok (.if_icmp .ge 55, 3) := by decide +kernel
theorem dX6_cellsWith_37 : decode cX6_cellsWith 37 = .ok (.iconst 0, 1) := by decide +kernel
theorem dX6_cellsWith_38 : decode cX6_cellsWith 38 = .ok (.istore 6, 2) := by decide +kernel
theorem dX6_cellsWith_40 : decode cX6_cellsWith 40 = .ok (.iload 6, 2) := by decide +kernel
theorem dX6_cellsWith_42 : decode cX6_cellsWith 42 = .ok (.bipush 64, 2) := by decide +kernel
theorem dX6_cellsWith_44 : decode cX6_cellsWith 44 = .ok (.if_icmp .ge 35, 3) := by decide +kernel
theorem dX6_cellsWith_47 : decode cX6_cellsWith 47 = .ok (.iload_n 2, 1) := by decide +kernel
theorem dX6_cellsWith_48 : decode cX6_cellsWith 48 = .ok (.aload_n 0, 1) := by decide +kernel
theorem dX6_cellsWith_49 : decode cX6_cellsWith 49 = .ok (.iload 5, 2) := by decide +kernel
theorem dX6_cellsWith_51 : decode cX6_cellsWith 51 = .ok (.iload 6, 2) := by decide +kernel
theorem dX6_cellsWith_53 : decode cX6_cellsWith 53 = .ok (.iload 4, 2) := by decide +kernel
theorem dX6_cellsWith_55 : decode cX6_cellsWith 55 = .ok (.invokevirtual 56, 3) := by decide +kernel
theorem dX6_cellsWith_58 : decode cX6_cellsWith 58 = .ok (.iload_n 1, 1) := by decide +kernel
theorem dX6_cellsWith_59 : decode cX6_cellsWith 59 = .ok (.if_icmp .le 7, 3) := by decide +kernel
theorem dX6_cellsWith_62 : decode cX6_cellsWith 62 = .ok (.iconst 3, 1) := by decide +kernel
theorem dX6_cellsWith_63 : decode cX6_cellsWith 63 = .ok (.goto 4, 3) := by decide +kernel
theorem dX6_cellsWith_66 : decode cX6_cellsWith 66 = .ok (.iconst 0, 1) := by decide +kernel
theorem dX6_cellsWith_67 : decode cX6_cellsWith 67 = .ok (.iadd, 1) := by decide +kernel
theorem dX6_cellsWith_68 : decode cX6_cellsWith 68 = .ok (.istore_n 2, 1) := by decide +kernel
theorem dX6_cellsWith_69 : decode cX6_cellsWith 69 = .ok (.iload 6, 2) := by decide +kernel
theorem dX6_cellsWith_71 : decode cX6_cellsWith 71 = .ok (.iload 4, 2) := by decide +kernel
theorem dX6_cellsWith_73 : decode cX6_cellsWith 73 = .ok (.iadd, 1) := by decide +kernel
theorem dX6_cellsWith_74 : decode cX6_cellsWith 74 = .ok (.istore 6, 2) := by decide +kernel
theorem dX6_cellsWith_76 : decode cX6_cellsWith 76 = .ok (.goto (-36), 3) := by decide +kernel
theorem dX6_cellsWith_79 : decode cX6_cellsWith 79 = .ok (.iload 5, 2) := by decide +kernel
theorem dX6_cellsWith_81 : decode cX6_cellsWith 81 = .ok (.iload 4, 2) := by decide +kernel
theorem dX6_cellsWith_83 : decode cX6_cellsWith 83 = .ok (.iadd, 1) := by decide +kernel
theorem dX6_cellsWith_84 : decode cX6_cellsWith 84 = .ok (.istore 5, 2) := by decide +kernel
theorem dX6_cellsWith_86 : decode cX6_cellsWith 86 = .ok (.goto (-56), 3) := by decide +kernel
theorem dX6_cellsWith_89 : decode cX6_cellsWith 89 = .ok (.iinc 3 1, 3) := by decide +kernel
theorem dX6_cellsWith_92 : decode cX6_cellsWith 92 = .ok (.goto (-76), 3) := by decide +kernel
theorem dX6_cellsWith_95 : decode cX6_cellsWith 95 = .ok (.iload_n 2, 1) := by decide +kernel
theorem dX6_cellsWith_96 : decode cX6_cellsWith 96 = .ok (.ireturn, 1) := by decide +kernel
theorem dX6_joinable_0 : decode cX6_joinable 0 = .ok (.iconst 0, 1) := by decide +kernel
theorem dX6_joinable_1 : decode cX6_joinable 1 = .ok (.istore_n 1, 1) := by decide +kernel
theorem dX6_joinable_2 : decode cX6_joinable 2 = .ok (.iload_n 1, 1) := by decide +kernel
theorem dX6_joinable_3 : decode cX6_joinable 3 = .ok (.aload_n 0, 1) := by decide +kernel
theorem dX6_joinable_4 : decode cX6_joinable 4 = .ok (.getfield 7, 3) := by decide +kernel
theorem dX6_joinable_7 : decode cX6_joinable 7 = .ok (.iconst 3, 1) := by decide +kernel
theorem dX6_joinable_8 : decode cX6_joinable 8 = .ok (.iaload, 1) := by decide +kernel
theorem dX6_joinable_9 : decode cX6_joinable 9 = .ok (.if_icmp .ge 27, 3) := by decide +kernel
theorem dX6_joinable_12 : decode cX6_joinable 12 = .ok (.aload_n 0, 1) := by decide +kernel
theorem dX6_joinable_13 : decode cX6_joinable 13 = .ok (.iload_n 1, 1) := by decide +kernel
theorem dX6_joinable_14 : decode cX6_joinable 14 = .ok (.invokevirtual 35, 3) := by decide +kernel
theorem dX6_joinable_17 : decode cX6_joinable 17 = .ok (.ifCond .eq 13, 3) := by decide +kernel
theorem dX6_joinable_20 : decode cX6_joinable 20 = .ok (.aload_n 0, 1) := by decide +kernel
theorem dX6_joinable_21 : decode cX6_joinable 21 = .ok (.iload_n 1, 1) := by decide +kernel
theorem dX6_joinable_22 : decode cX6_joinable 22 = .ok (.invokevirtual 104, 3) := by decide +kernel
theorem dX6_joinable_25 : decode cX6_joinable 25 = .ok (.ifCond .eq 5, 3) := by decide +kernel
theorem dX6_joinable_28 : decode cX6_joinable 28 = .ok (.iload_n 1, 1) := by decide +kernel
theorem dX6_joinable_29 : decode cX6_joinable 29 = .ok (.ireturn, 1) := by decide +kernel
theorem dX6_joinable_30 : decode cX6_joinable 30 = .ok (.iinc 1 1, 3) := by decide +kernel
theorem dX6_joinable_33 : decode cX6_joinable 33 = .ok (.goto (-31), 3) := by decide +kernel
theorem dX6_joinable_36 : decode cX6_joinable 36 = .ok (.bipush (-9), 2) := by decide +kernel
theorem dX6_joinable_38 : decode cX6_joinable 38 = .ok (.ireturn, 1) := by decide +kernel
theorem dL_law_0 : decode cL_law 0 = .ok (.new 7, 3) := by decide +kernel
theorem dL_law_3 : decode cL_law 3 = .ok (.dup, 1) := by decide +kernel
theorem dL_law_4 : decode cL_law 4 = .ok (.invokespecial 9, 3) := by decide +kernel
theorem dL_law_7 : decode cL_law 7 = .ok (.astore_n 1, 1) := by decide +kernel
theorem dL_law_8 : decode cL_law 8 = .ok (.new 10, 3) := by decide +kernel
theorem dL_law_11 : decode cL_law 11 = .ok (.dup, 1) := by decide +kernel
theorem dL_law_12 : decode cL_law 12 = .ok (.invokespecial 12, 3) := by decide +kernel
theorem dL_law_15 : decode cL_law 15 = .ok (.astore_n 2, 1) := by decide +kernel
theorem dL_law_16 : decode cL_law 16 = .ok (.iconst 0, 1) := by decide +kernel
theorem dL_law_17 : decode cL_law 17 = .ok (.istore_n 3, 1) := by decide +kernel
theorem dL_law_18 : decode cL_law 18 = .ok (.iload_n 3, 1) := by decide +kernel
theorem dL_law_19 : decode cL_law 19 = .ok (.aload_n 0, 1) := by decide +kernel
theorem dL_law_20 : decode cL_law 20 = .ok (.arraylength, 1) := by decide +kernel
theorem dL_law_21 : decode cL_law 21 = .ok (.bipush 6, 2) := by decide +kernel
theorem dL_law_23 : decode cL_law 23 = .ok (.isub, 1) := by decide +kernel
theorem dL_law_24 : decode cL_law 24 = .ok (.if_icmp .gt 653, 3) := by decide +kernel
theorem dL_law_27 : decode cL_law 27 = .ok (.aload_n 0, 1) := by decide +kernel
theorem dL_law_28 : decode cL_law 28 = .ok (.iload_n 3, 1) := by decide +kernel
theorem dL_law_29 : decode cL_law 29 = .ok (.iaload, 1) := by decide +kernel
theorem dL_law_30 : decode cL_law 30 = .ok (.bipush 31, 2) := by decide +kernel
theorem dL_law_32 : decode cL_law 32 = .ok (.iand, 1) := by decide +kernel
theorem dL_law_33 : decode cL_law 33 = .ok (.tableswitch 638 0 18 #[91, 134, 157, 200, 223, 246, 269, 292, 305, 328, 361, 394, 427, 460, 523, 556, 579, 602, 625], 91) := by decide +kernel
theorem dL_law_124 : decode cL_law 124 = .ok (.aload_n 1, 1) := by decide +kernel
theorem dL_law_125 : decode cL_law 125 = .ok (.aload_n 0, 1) := by decide +kernel
theorem dL_law_126 : decode cL_law 126 = .ok (.iload_n 3, 1) := by decide +kernel
theorem dL_law_127 : decode cL_law 127 = .ok (.iconst 1, 1) := by decide +kernel
theorem dL_law_128 : decode cL_law 128 = .ok (.iadd, 1) := by decide +kernel
theorem dL_law_129 : decode cL_law 129 = .ok (.iaload, 1) := by decide +kernel
theorem dL_law_130 : decode cL_law 130 = .ok (.aload_n 0, 1) := by decide +kernel
theorem dL_law_131 : decode cL_law 131 = .ok (.iload_n 3, 1) := by decide +kernel
theorem dL_law_132 : decode cL_law 132 = .ok (.iconst 2, 1) := by decide +kernel
theorem dL_law_133 : decode cL_law 133 = .ok (.iadd, 1) := by decide +kernel
theorem dL_law_134 : decode cL_law 134 = .ok (.iaload, 1) := by decide +kernel
theorem dL_law_135 : decode cL_law 135 = .ok (.aload_n 0, 1) := by decide +kernel
theorem dL_law_136 : decode cL_law 136 = .ok (.iload_n 3, 1) := by decide +kernel
theorem dL_law_137 : decode cL_law 137 = .ok (.iconst 3, 1) := by decide +kernel
theorem dL_law_138 : decode cL_law 138 = .ok (.iadd, 1) := by decide +kernel
theorem dL_law_139 : decode cL_law 139 = .ok (.iaload, 1) := by decide +kernel
theorem dL_law_140 : decode cL_law 140 = .ok (.invokevirtual 13, 3) := by decide +kernel
theorem dL_law_143 : decode cL_law 143 = .ok (.aload_n 2, 1) := by decide +kernel
theorem dL_law_144 : decode cL_law 144 = .ok (.aload_n 0, 1) := by decide +kernel
theorem dL_law_145 : decode cL_law 145 = .ok (.iload_n 3, 1) := by decide +kernel
theorem dL_law_146 : decode cL_law 146 = .ok (.iconst 1, 1) := by decide +kernel
theorem dL_law_147 : decode cL_law 147 = .ok (.iadd, 1) := by decide +kernel
theorem dL_law_148 : decode cL_law 148 = .ok (.iaload, 1) := by decide +kernel
theorem dL_law_149 : decode cL_law 149 = .ok (.aload_n 0, 1) := by decide +kernel
theorem dL_law_150 : decode cL_law 150 = .ok (.iload_n 3, 1) := by decide +kernel
theorem dL_law_151 : decode cL_law 151 = .ok (.iconst 2, 1) := by decide +kernel
theorem dL_law_152 : decode cL_law 152 = .ok (.iadd, 1) := by decide +kernel
theorem dL_law_153 : decode cL_law 153 = .ok (.iaload, 1) := by decide +kernel
theorem dL_law_154 : decode cL_law 154 = .ok (.aload_n 0, 1) := by decide +kernel
theorem dL_law_155 : decode cL_law 155 = .ok (.iload_n 3, 1) := by decide +kernel
theorem dL_law_156 : decode cL_law 156 = .ok (.iconst 3, 1) := by decide +kernel
theorem dL_law_157 : decode cL_law 157 = .ok (.iadd, 1) := by decide +kernel
theorem dL_law_158 : decode cL_law 158 = .ok (.iaload, 1) := by decide +kernel
theorem dL_law_159 : decode cL_law 159 = .ok (.invokevirtual 17, 3) := by decide +kernel
theorem dL_law_162 : decode cL_law 162 = .ok (.if_icmp .eq 509, 3) := by decide +kernel
theorem dL_law_165 : decode cL_law 165 = .ok (.iconst 0, 1) := by decide +kernel
theorem dL_law_166 : decode cL_law 166 = .ok (.ireturn, 1) := by decide +kernel
theorem dL_law_167 : decode cL_law 167 = .ok (.aload_n 1, 1) := by decide +kernel
theorem dL_law_168 : decode cL_law 168 = .ok (.aload_n 0, 1) := by decide +kernel
theorem dL_law_169 : decode cL_law 169 = .ok (.iload_n 3, 1) := by decide +kernel
theorem dL_law_170 : decode cL_law 170 = .ok (.iconst 1, 1) := by decide +kernel
theorem dL_law_171 : decode cL_law 171 = .ok (.iadd, 1) := by decide +kernel
theorem dL_law_172 : decode cL_law 172 = .ok (.iaload, 1) := by decide +kernel
theorem dL_law_173 : decode cL_law 173 = .ok (.invokevirtual 18, 3) := by decide +kernel
theorem dL_law_176 : decode cL_law 176 = .ok (.aload_n 2, 1) := by decide +kernel
theorem dL_law_177 : decode cL_law 177 = .ok (.aload_n 0, 1) := by decide +kernel
theorem dL_law_178 : decode cL_law 178 = .ok (.iload_n 3, 1) := by decide +kernel
theorem dL_law_179 : decode cL_law 179 = .ok (.iconst 1, 1) := by decide +kernel
theorem dL_law_180 : decode cL_law 180 = .ok (.iadd, 1) := by decide +kernel
theorem dL_law_181 : decode cL_law 181 = .ok (.iaload, 1) := by decide +kernel
theorem dL_law_182 : decode cL_law 182 = .ok (.invokevirtual 22, 3) := by decide +kernel
theorem dL_law_185 : decode cL_law 185 = .ok (.if_icmp .eq 486, 3) := by decide +kernel
theorem dL_law_188 : decode cL_law 188 = .ok (.iconst 0, 1) := by decide +kernel
theorem dL_law_189 : decode cL_law 189 = .ok (.ireturn, 1) := by decide +kernel
theorem dL_law_190 : decode cL_law 190 = .ok (.aload_n 1, 1) := by decide +kernel
theorem dL_law_191 : decode cL_law 191 = .ok (.aload_n 0, 1) := by decide +kernel
theorem dL_law_192 : decode cL_law 192 = .ok (.iload_n 3, 1) := by decide +kernel
theorem dL_law_193 : decode cL_law 193 = .ok (.iconst 1, 1) := by decide +kernel
theorem dL_law_194 : decode cL_law 194 = .ok (.iadd, 1) := by decide +kernel
theorem dL_law_195 : decode cL_law 195 = .ok (.iaload, 1) := by decide +kernel
theorem dL_law_196 : decode cL_law 196 = .ok (.aload_n 0, 1) := by decide +kernel
theorem dL_law_197 : decode cL_law 197 = .ok (.iload_n 3, 1) := by decide +kernel
theorem dL_law_198 : decode cL_law 198 = .ok (.iconst 2, 1) := by decide +kernel
theorem dL_law_199 : decode cL_law 199 = .ok (.iadd, 1) := by decide +kernel
theorem dL_law_200 : decode cL_law 200 = .ok (.iaload, 1) := by decide +kernel
theorem dL_law_201 : decode cL_law 201 = .ok (.aload_n 0, 1) := by decide +kernel
theorem dL_law_202 : decode cL_law 202 = .ok (.iload_n 3, 1) := by decide +kernel
theorem dL_law_203 : decode cL_law 203 = .ok (.iconst 3, 1) := by decide +kernel
theorem dL_law_204 : decode cL_law 204 = .ok (.iadd, 1) := by decide +kernel
theorem dL_law_205 : decode cL_law 205 = .ok (.iaload, 1) := by decide +kernel
theorem dL_law_206 : decode cL_law 206 = .ok (.invokevirtual 23, 3) := by decide +kernel
theorem dL_law_209 : decode cL_law 209 = .ok (.aload_n 2, 1) := by decide +kernel
theorem dL_law_210 : decode cL_law 210 = .ok (.aload_n 0, 1) := by decide +kernel
theorem dL_law_211 : decode cL_law 211 = .ok (.iload_n 3, 1) := by decide +kernel
theorem dL_law_212 : decode cL_law 212 = .ok (.iconst 1, 1) := by decide +kernel
theorem dL_law_213 : decode cL_law 213 = .ok (.iadd, 1) := by decide +kernel
theorem dL_law_214 : decode cL_law 214 = .ok (.iaload, 1) := by decide +kernel
theorem dL_law_215 : decode cL_law 215 = .ok (.aload_n 0, 1) := by decide +kernel
theorem dL_law_216 : decode cL_law 216 = .ok (.iload_n 3, 1) := by decide +kernel
theorem dL_law_217 : decode cL_law 217 = .ok (.iconst 2, 1) := by decide +kernel
theorem dL_law_218 : decode cL_law 218 = .ok (.iadd, 1) := by decide +kernel
theorem dL_law_219 : decode cL_law 219 = .ok (.iaload, 1) := by decide +kernel
theorem dL_law_220 : decode cL_law 220 = .ok (.aload_n 0, 1) := by decide +kernel
theorem dL_law_221 : decode cL_law 221 = .ok (.iload_n 3, 1) := by decide +kernel
theorem dL_law_222 : decode cL_law 222 = .ok (.iconst 3, 1) := by decide +kernel
theorem dL_law_223 : decode cL_law 223 = .ok (.iadd, 1) := by decide +kernel
theorem dL_law_224 : decode cL_law 224 = .ok (.iaload, 1) := by decide +kernel
theorem dL_law_225 : decode cL_law 225 = .ok (.invokevirtual 26, 3) := by decide +kernel
theorem dL_law_228 : decode cL_law 228 = .ok (.if_icmp .eq 443, 3) := by decide +kernel
theorem dL_law_231 : decode cL_law 231 = .ok (.iconst 0, 1) := by decide +kernel
theorem dL_law_232 : decode cL_law 232 = .ok (.ireturn, 1) := by decide +kernel
theorem dL_law_233 : decode cL_law 233 = .ok (.aload_n 1, 1) := by decide +kernel
theorem dL_law_234 : decode cL_law 234 = .ok (.aload_n 0, 1) := by decide +kernel
theorem dL_law_235 : decode cL_law 235 = .ok (.iload_n 3, 1) := by decide +kernel
theorem dL_law_236 : decode cL_law 236 = .ok (.iconst 1, 1) := by decide +kernel
theorem dL_law_237 : decode cL_law 237 = .ok (.iadd, 1) := by decide +kernel
theorem dL_law_238 : decode cL_law 238 = .ok (.iaload, 1) := by decide +kernel
theorem dL_law_239 : decode cL_law 239 = .ok (.invokevirtual 27, 3) := by decide +kernel
theorem dL_law_242 : decode cL_law 242 = .ok (.aload_n 2, 1) := by decide +kernel
theorem dL_law_243 : decode cL_law 243 = .ok (.aload_n 0, 1) := by decide +kernel
theorem dL_law_244 : decode cL_law 244 = .ok (.iload_n 3, 1) := by decide +kernel
theorem dL_law_245 : decode cL_law 245 = .ok (.iconst 1, 1) := by decide +kernel
theorem dL_law_246 : decode cL_law 246 = .ok (.iadd, 1) := by decide +kernel
theorem dL_law_247 : decode cL_law 247 = .ok (.iaload, 1) := by decide +kernel
theorem dL_law_248 : decode cL_law 248 = .ok (.invokevirtual 30, 3) := by decide +kernel
theorem dL_law_251 : decode cL_law 251 = .ok (.if_icmp .eq 420, 3) := by decide +kernel
theorem dL_law_254 : decode cL_law 254 = .ok (.iconst 0, 1) := by decide +kernel
theorem dL_law_255 : decode cL_law 255 = .ok (.ireturn, 1) := by decide +kernel
theorem dL_law_256 : decode cL_law 256 = .ok (.aload_n 1, 1) := by decide +kernel
theorem dL_law_257 : decode cL_law 257 = .ok (.aload_n 0, 1) := by decide +kernel
theorem dL_law_258 : decode cL_law 258 = .ok (.iload_n 3, 1) := by decide +kernel
theorem dL_law_259 : decode cL_law 259 = .ok (.iconst 1, 1) := by decide +kernel
theorem dL_law_260 : decode cL_law 260 = .ok (.iadd, 1) := by decide +kernel
theorem dL_law_261 : decode cL_law 261 = .ok (.iaload, 1) := by decide +kernel
theorem dL_law_262 : decode cL_law 262 = .ok (.invokevirtual 31, 3) := by decide +kernel
theorem dL_law_265 : decode cL_law 265 = .ok (.aload_n 2, 1) := by decide +kernel
theorem dL_law_266 : decode cL_law 266 = .ok (.aload_n 0, 1) := by decide +kernel
theorem dL_law_267 : decode cL_law 267 = .ok (.iload_n 3, 1) := by decide +kernel
theorem dL_law_268 : decode cL_law 268 = .ok (.iconst 1, 1) := by decide +kernel
theorem dL_law_269 : decode cL_law 269 = .ok (.iadd, 1) := by decide +kernel
theorem dL_law_270 : decode cL_law 270 = .ok (.iaload, 1) := by decide +kernel
theorem dL_law_271 : decode cL_law 271 = .ok (.invokevirtual 34, 3) := by decide +kernel
theorem dL_law_274 : decode cL_law 274 = .ok (.if_icmp .eq 397, 3) := by decide +kernel
theorem dL_law_277 : decode cL_law 277 = .ok (.iconst 0, 1) := by decide +kernel
theorem dL_law_278 : decode cL_law 278 = .ok (.ireturn, 1) := by decide +kernel
theorem dL_law_279 : decode cL_law 279 = .ok (.aload_n 1, 1) := by decide +kernel
theorem dL_law_280 : decode cL_law 280 = .ok (.aload_n 0, 1) := by decide +kernel
theorem dL_law_281 : decode cL_law 281 = .ok (.iload_n 3, 1) := by decide +kernel
theorem dL_law_282 : decode cL_law 282 = .ok (.iconst 1, 1) := by decide +kernel
theorem dL_law_283 : decode cL_law 283 = .ok (.iadd, 1) := by decide +kernel
theorem dL_law_284 : decode cL_law 284 = .ok (.iaload, 1) := by decide +kernel
theorem dL_law_285 : decode cL_law 285 = .ok (.invokevirtual 35, 3) := by decide +kernel
theorem dL_law_288 : decode cL_law 288 = .ok (.aload_n 2, 1) := by decide +kernel
theorem dL_law_289 : decode cL_law 289 = .ok (.aload_n 0, 1) := by decide +kernel
theorem dL_law_290 : decode cL_law 290 = .ok (.iload_n 3, 1) := by decide +kernel
theorem dL_law_291 : decode cL_law 291 = .ok (.iconst 1, 1) := by decide +kernel
theorem dL_law_292 : decode cL_law 292 = .ok (.iadd, 1) := by decide +kernel
theorem dL_law_293 : decode cL_law 293 = .ok (.iaload, 1) := by decide +kernel
theorem dL_law_294 : decode cL_law 294 = .ok (.invokevirtual 38, 3) := by decide +kernel
theorem dL_law_297 : decode cL_law 297 = .ok (.if_icmp .eq 374, 3) := by decide +kernel
theorem dL_law_300 : decode cL_law 300 = .ok (.iconst 0, 1) := by decide +kernel
theorem dL_law_301 : decode cL_law 301 = .ok (.ireturn, 1) := by decide +kernel
theorem dL_law_302 : decode cL_law 302 = .ok (.aload_n 1, 1) := by decide +kernel
theorem dL_law_303 : decode cL_law 303 = .ok (.aload_n 0, 1) := by decide +kernel
theorem dL_law_304 : decode cL_law 304 = .ok (.iload_n 3, 1) := by decide +kernel
theorem dL_law_305 : decode cL_law 305 = .ok (.iconst 1, 1) := by decide +kernel
theorem dL_law_306 : decode cL_law 306 = .ok (.iadd, 1) := by decide +kernel
theorem dL_law_307 : decode cL_law 307 = .ok (.iaload, 1) := by decide +kernel
theorem dL_law_308 : decode cL_law 308 = .ok (.invokevirtual 39, 3) := by decide +kernel
theorem dL_law_311 : decode cL_law 311 = .ok (.aload_n 2, 1) := by decide +kernel
theorem dL_law_312 : decode cL_law 312 = .ok (.aload_n 0, 1) := by decide +kernel
theorem dL_law_313 : decode cL_law 313 = .ok (.iload_n 3, 1) := by decide +kernel
theorem dL_law_314 : decode cL_law 314 = .ok (.iconst 1, 1) := by decide +kernel
theorem dL_law_315 : decode cL_law 315 = .ok (.iadd, 1) := by decide +kernel
theorem dL_law_316 : decode cL_law 316 = .ok (.iaload, 1) := by decide +kernel
theorem dL_law_317 : decode cL_law 317 = .ok (.invokevirtual 42, 3) := by decide +kernel
theorem dL_law_320 : decode cL_law 320 = .ok (.if_icmp .eq 351, 3) := by decide +kernel
theorem dL_law_323 : decode cL_law 323 = .ok (.iconst 0, 1) := by decide +kernel
theorem dL_law_324 : decode cL_law 324 = .ok (.ireturn, 1) := by decide +kernel
theorem dL_law_325 : decode cL_law 325 = .ok (.aload_n 1, 1) := by decide +kernel
theorem dL_law_326 : decode cL_law 326 = .ok (.invokevirtual 43, 3) := by decide +kernel
theorem dL_law_329 : decode cL_law 329 = .ok (.aload_n 2, 1) := by decide +kernel
theorem dL_law_330 : decode cL_law 330 = .ok (.invokevirtual 47, 3) := by decide +kernel
theorem dL_law_333 : decode cL_law 333 = .ok (.if_icmp .eq 338, 3) := by decide +kernel
theorem dL_law_336 : decode cL_law 336 = .ok (.iconst 0, 1) := by decide +kernel
theorem dL_law_337 : decode cL_law 337 = .ok (.ireturn, 1) := by decide +kernel
theorem dL_law_338 : decode cL_law 338 = .ok (.aload_n 1, 1) := by decide +kernel
theorem dL_law_339 : decode cL_law 339 = .ok (.aload_n 0, 1) := by decide +kernel
theorem dL_law_340 : decode cL_law 340 = .ok (.iload_n 3, 1) := by decide +kernel
theorem dL_law_341 : decode cL_law 341 = .ok (.iconst 1, 1) := by decide +kernel
theorem dL_law_342 : decode cL_law 342 = .ok (.iadd, 1) := by decide +kernel
theorem dL_law_343 : decode cL_law 343 = .ok (.iaload, 1) := by decide +kernel
theorem dL_law_344 : decode cL_law 344 = .ok (.invokevirtual 48, 3) := by decide +kernel
theorem dL_law_347 : decode cL_law 347 = .ok (.aload_n 2, 1) := by decide +kernel
theorem dL_law_348 : decode cL_law 348 = .ok (.aload_n 0, 1) := by decide +kernel
theorem dL_law_349 : decode cL_law 349 = .ok (.iload_n 3, 1) := by decide +kernel
theorem dL_law_350 : decode cL_law 350 = .ok (.iconst 1, 1) := by decide +kernel
theorem dL_law_351 : decode cL_law 351 = .ok (.iadd, 1) := by decide +kernel
theorem dL_law_352 : decode cL_law 352 = .ok (.iaload, 1) := by decide +kernel
theorem dL_law_353 : decode cL_law 353 = .ok (.invokevirtual 51, 3) := by decide +kernel
theorem dL_law_356 : decode cL_law 356 = .ok (.if_icmp .eq 315, 3) := by decide +kernel
theorem dL_law_359 : decode cL_law 359 = .ok (.iconst 0, 1) := by decide +kernel
theorem dL_law_360 : decode cL_law 360 = .ok (.ireturn, 1) := by decide +kernel
theorem dL_law_361 : decode cL_law 361 = .ok (.aload_n 1, 1) := by decide +kernel
theorem dL_law_362 : decode cL_law 362 = .ok (.aload_n 0, 1) := by decide +kernel
theorem dL_law_363 : decode cL_law 363 = .ok (.iload_n 3, 1) := by decide +kernel
theorem dL_law_364 : decode cL_law 364 = .ok (.iconst 1, 1) := by decide +kernel
theorem dL_law_365 : decode cL_law 365 = .ok (.iadd, 1) := by decide +kernel
theorem dL_law_366 : decode cL_law 366 = .ok (.iaload, 1) := by decide +kernel
theorem dL_law_367 : decode cL_law 367 = .ok (.aload_n 0, 1) := by decide +kernel
theorem dL_law_368 : decode cL_law 368 = .ok (.iload_n 3, 1) := by decide +kernel
theorem dL_law_369 : decode cL_law 369 = .ok (.iconst 2, 1) := by decide +kernel
theorem dL_law_370 : decode cL_law 370 = .ok (.iadd, 1) := by decide +kernel
theorem dL_law_371 : decode cL_law 371 = .ok (.iaload, 1) := by decide +kernel
theorem dL_law_372 : decode cL_law 372 = .ok (.invokevirtual 52, 3) := by decide +kernel
theorem dL_law_375 : decode cL_law 375 = .ok (.aload_n 2, 1) := by decide +kernel
theorem dL_law_376 : decode cL_law 376 = .ok (.aload_n 0, 1) := by decide +kernel
theorem dL_law_377 : decode cL_law 377 = .ok (.iload_n 3, 1) := by decide +kernel
theorem dL_law_378 : decode cL_law 378 = .ok (.iconst 1, 1) := by decide +kernel
theorem dL_law_379 : decode cL_law 379 = .ok (.iadd, 1) := by decide +kernel
theorem dL_law_380 : decode cL_law 380 = .ok (.iaload, 1) := by decide +kernel
theorem dL_law_381 : decode cL_law 381 = .ok (.aload_n 0, 1) := by decide +kernel
theorem dL_law_382 : decode cL_law 382 = .ok (.iload_n 3, 1) := by decide +kernel
theorem dL_law_383 : decode cL_law 383 = .ok (.iconst 2, 1) := by decide +kernel
theorem dL_law_384 : decode cL_law 384 = .ok (.iadd, 1) := by decide +kernel
theorem dL_law_385 : decode cL_law 385 = .ok (.iaload, 1) := by decide +kernel
theorem dL_law_386 : decode cL_law 386 = .ok (.invokevirtual 56, 3) := by decide +kernel
theorem dL_law_389 : decode cL_law 389 = .ok (.if_icmp .eq 282, 3) := by decide +kernel
theorem dL_law_392 : decode cL_law 392 = .ok (.iconst 0, 1) := by decide +kernel
theorem dL_law_393 : decode cL_law 393 = .ok (.ireturn, 1) := by decide +kernel
theorem dL_law_394 : decode cL_law 394 = .ok (.aload_n 1, 1) := by decide +kernel
theorem dL_law_395 : decode cL_law 395 = .ok (.aload_n 0, 1) := by decide +kernel
theorem dL_law_396 : decode cL_law 396 = .ok (.iload_n 3, 1) := by decide +kernel
theorem dL_law_397 : decode cL_law 397 = .ok (.iconst 1, 1) := by decide +kernel
theorem dL_law_398 : decode cL_law 398 = .ok (.iadd, 1) := by decide +kernel
theorem dL_law_399 : decode cL_law 399 = .ok (.iaload, 1) := by decide +kernel
theorem dL_law_400 : decode cL_law 400 = .ok (.aload_n 0, 1) := by decide +kernel
theorem dL_law_401 : decode cL_law 401 = .ok (.iload_n 3, 1) := by decide +kernel
theorem dL_law_402 : decode cL_law 402 = .ok (.iconst 2, 1) := by decide +kernel
theorem dL_law_403 : decode cL_law 403 = .ok (.iadd, 1) := by decide +kernel
theorem dL_law_404 : decode cL_law 404 = .ok (.iaload, 1) := by decide +kernel
theorem dL_law_405 : decode cL_law 405 = .ok (.invokevirtual 57, 3) := by decide +kernel
theorem dL_law_408 : decode cL_law 408 = .ok (.aload_n 2, 1) := by decide +kernel
theorem dL_law_409 : decode cL_law 409 = .ok (.aload_n 0, 1) := by decide +kernel
theorem dL_law_410 : decode cL_law 410 = .ok (.iload_n 3, 1) := by decide +kernel
theorem dL_law_411 : decode cL_law 411 = .ok (.iconst 1, 1) := by decide +kernel
theorem dL_law_412 : decode cL_law 412 = .ok (.iadd, 1) := by decide +kernel
theorem dL_law_413 : decode cL_law 413 = .ok (.iaload, 1) := by decide +kernel
theorem dL_law_414 : decode cL_law 414 = .ok (.aload_n 0, 1) := by decide +kernel
theorem dL_law_415 : decode cL_law 415 = .ok (.iload_n 3, 1) := by decide +kernel
theorem dL_law_416 : decode cL_law 416 = .ok (.iconst 2, 1) := by decide +kernel
theorem dL_law_417 : decode cL_law 417 = .ok (.iadd, 1) := by decide +kernel
theorem dL_law_418 : decode cL_law 418 = .ok (.iaload, 1) := by decide +kernel
theorem dL_law_419 : decode cL_law 419 = .ok (.invokevirtual 60, 3) := by decide +kernel
theorem dL_law_422 : decode cL_law 422 = .ok (.if_icmp .eq 249, 3) := by decide +kernel
theorem dL_law_425 : decode cL_law 425 = .ok (.iconst 0, 1) := by decide +kernel
theorem dL_law_426 : decode cL_law 426 = .ok (.ireturn, 1) := by decide +kernel
theorem dL_law_427 : decode cL_law 427 = .ok (.aload_n 1, 1) := by decide +kernel
theorem dL_law_428 : decode cL_law 428 = .ok (.aload_n 0, 1) := by decide +kernel
theorem dL_law_429 : decode cL_law 429 = .ok (.iload_n 3, 1) := by decide +kernel
theorem dL_law_430 : decode cL_law 430 = .ok (.iconst 1, 1) := by decide +kernel
theorem dL_law_431 : decode cL_law 431 = .ok (.iadd, 1) := by decide +kernel
theorem dL_law_432 : decode cL_law 432 = .ok (.iaload, 1) := by decide +kernel
theorem dL_law_433 : decode cL_law 433 = .ok (.aload_n 0, 1) := by decide +kernel
theorem dL_law_434 : decode cL_law 434 = .ok (.iload_n 3, 1) := by decide +kernel
theorem dL_law_435 : decode cL_law 435 = .ok (.iconst 2, 1) := by decide +kernel
theorem dL_law_436 : decode cL_law 436 = .ok (.iadd, 1) := by decide +kernel
theorem dL_law_437 : decode cL_law 437 = .ok (.iaload, 1) := by decide +kernel
theorem dL_law_438 : decode cL_law 438 = .ok (.invokevirtual 61, 3) := by decide +kernel
theorem dL_law_441 : decode cL_law 441 = .ok (.aload_n 2, 1) := by decide +kernel
theorem dL_law_442 : decode cL_law 442 = .ok (.aload_n 0, 1) := by decide +kernel
theorem dL_law_443 : decode cL_law 443 = .ok (.iload_n 3, 1) := by decide +kernel
theorem dL_law_444 : decode cL_law 444 = .ok (.iconst 1, 1) := by decide +kernel
theorem dL_law_445 : decode cL_law 445 = .ok (.iadd, 1) := by decide +kernel
theorem dL_law_446 : decode cL_law 446 = .ok (.iaload, 1) := by decide +kernel
theorem dL_law_447 : decode cL_law 447 = .ok (.aload_n 0, 1) := by decide +kernel
theorem dL_law_448 : decode cL_law 448 = .ok (.iload_n 3, 1) := by decide +kernel
theorem dL_law_449 : decode cL_law 449 = .ok (.iconst 2, 1) := by decide +kernel
theorem dL_law_450 : decode cL_law 450 = .ok (.iadd, 1) := by decide +kernel
theorem dL_law_451 : decode cL_law 451 = .ok (.iaload, 1) := by decide +kernel
theorem dL_law_452 : decode cL_law 452 = .ok (.invokevirtual 64, 3) := by decide +kernel
theorem dL_law_455 : decode cL_law 455 = .ok (.if_icmp .eq 216, 3) := by decide +kernel
theorem dL_law_458 : decode cL_law 458 = .ok (.iconst 0, 1) := by decide +kernel
theorem dL_law_459 : decode cL_law 459 = .ok (.ireturn, 1) := by decide +kernel
theorem dL_law_460 : decode cL_law 460 = .ok (.aload_n 1, 1) := by decide +kernel
theorem dL_law_461 : decode cL_law 461 = .ok (.aload_n 0, 1) := by decide +kernel
theorem dL_law_462 : decode cL_law 462 = .ok (.iload_n 3, 1) := by decide +kernel
theorem dL_law_463 : decode cL_law 463 = .ok (.iconst 1, 1) := by decide +kernel
theorem dL_law_464 : decode cL_law 464 = .ok (.iadd, 1) := by decide +kernel
theorem dL_law_465 : decode cL_law 465 = .ok (.iaload, 1) := by decide +kernel
theorem dL_law_466 : decode cL_law 466 = .ok (.aload_n 0, 1) := by decide +kernel
theorem dL_law_467 : decode cL_law 467 = .ok (.iload_n 3, 1) := by decide +kernel
theorem dL_law_468 : decode cL_law 468 = .ok (.iconst 2, 1) := by decide +kernel
theorem dL_law_469 : decode cL_law 469 = .ok (.iadd, 1) := by decide +kernel
theorem dL_law_470 : decode cL_law 470 = .ok (.iaload, 1) := by decide +kernel
theorem dL_law_471 : decode cL_law 471 = .ok (.invokevirtual 65, 3) := by decide +kernel
theorem dL_law_474 : decode cL_law 474 = .ok (.aload_n 2, 1) := by decide +kernel
theorem dL_law_475 : decode cL_law 475 = .ok (.aload_n 0, 1) := by decide +kernel
theorem dL_law_476 : decode cL_law 476 = .ok (.iload_n 3, 1) := by decide +kernel
theorem dL_law_477 : decode cL_law 477 = .ok (.iconst 1, 1) := by decide +kernel
theorem dL_law_478 : decode cL_law 478 = .ok (.iadd, 1) := by decide +kernel
theorem dL_law_479 : decode cL_law 479 = .ok (.iaload, 1) := by decide +kernel
theorem dL_law_480 : decode cL_law 480 = .ok (.aload_n 0, 1) := by decide +kernel
theorem dL_law_481 : decode cL_law 481 = .ok (.iload_n 3, 1) := by decide +kernel
theorem dL_law_482 : decode cL_law 482 = .ok (.iconst 2, 1) := by decide +kernel
theorem dL_law_483 : decode cL_law 483 = .ok (.iadd, 1) := by decide +kernel
theorem dL_law_484 : decode cL_law 484 = .ok (.iaload, 1) := by decide +kernel
theorem dL_law_485 : decode cL_law 485 = .ok (.invokevirtual 68, 3) := by decide +kernel
theorem dL_law_488 : decode cL_law 488 = .ok (.if_icmp .eq 183, 3) := by decide +kernel
theorem dL_law_491 : decode cL_law 491 = .ok (.iconst 0, 1) := by decide +kernel
theorem dL_law_492 : decode cL_law 492 = .ok (.ireturn, 1) := by decide +kernel
theorem dL_law_493 : decode cL_law 493 = .ok (.aload_n 1, 1) := by decide +kernel
theorem dL_law_494 : decode cL_law 494 = .ok (.aload_n 0, 1) := by decide +kernel
theorem dL_law_495 : decode cL_law 495 = .ok (.iload_n 3, 1) := by decide +kernel
theorem dL_law_496 : decode cL_law 496 = .ok (.iconst 1, 1) := by decide +kernel
theorem dL_law_497 : decode cL_law 497 = .ok (.iadd, 1) := by decide +kernel
theorem dL_law_498 : decode cL_law 498 = .ok (.iaload, 1) := by decide +kernel
theorem dL_law_499 : decode cL_law 499 = .ok (.aload_n 0, 1) := by decide +kernel
theorem dL_law_500 : decode cL_law 500 = .ok (.iload_n 3, 1) := by decide +kernel
theorem dL_law_501 : decode cL_law 501 = .ok (.iconst 2, 1) := by decide +kernel
theorem dL_law_502 : decode cL_law 502 = .ok (.iadd, 1) := by decide +kernel
theorem dL_law_503 : decode cL_law 503 = .ok (.iaload, 1) := by decide +kernel
theorem dL_law_504 : decode cL_law 504 = .ok (.aload_n 0, 1) := by decide +kernel
theorem dL_law_505 : decode cL_law 505 = .ok (.iload_n 3, 1) := by decide +kernel
theorem dL_law_506 : decode cL_law 506 = .ok (.iconst 3, 1) := by decide +kernel
theorem dL_law_507 : decode cL_law 507 = .ok (.iadd, 1) := by decide +kernel
theorem dL_law_508 : decode cL_law 508 = .ok (.iaload, 1) := by decide +kernel
theorem dL_law_509 : decode cL_law 509 = .ok (.aload_n 0, 1) := by decide +kernel
theorem dL_law_510 : decode cL_law 510 = .ok (.iload_n 3, 1) := by decide +kernel
theorem dL_law_511 : decode cL_law 511 = .ok (.iconst 4, 1) := by decide +kernel
theorem dL_law_512 : decode cL_law 512 = .ok (.iadd, 1) := by decide +kernel
theorem dL_law_513 : decode cL_law 513 = .ok (.iaload, 1) := by decide +kernel
theorem dL_law_514 : decode cL_law 514 = .ok (.aload_n 0, 1) := by decide +kernel
theorem dL_law_515 : decode cL_law 515 = .ok (.iload_n 3, 1) := by decide +kernel
theorem dL_law_516 : decode cL_law 516 = .ok (.iconst 5, 1) := by decide +kernel
theorem dL_law_517 : decode cL_law 517 = .ok (.iadd, 1) := by decide +kernel
theorem dL_law_518 : decode cL_law 518 = .ok (.iaload, 1) := by decide +kernel
theorem dL_law_519 : decode cL_law 519 = .ok (.invokevirtual 69, 3) := by decide +kernel
theorem dL_law_522 : decode cL_law 522 = .ok (.aload_n 2, 1) := by decide +kernel
theorem dL_law_523 : decode cL_law 523 = .ok (.aload_n 0, 1) := by decide +kernel
theorem dL_law_524 : decode cL_law 524 = .ok (.iload_n 3, 1) := by decide +kernel
theorem dL_law_525 : decode cL_law 525 = .ok (.iconst 1, 1) := by decide +kernel
theorem dL_law_526 : decode cL_law 526 = .ok (.iadd, 1) := by decide +kernel
theorem dL_law_527 : decode cL_law 527 = .ok (.iaload, 1) := by decide +kernel
theorem dL_law_528 : decode cL_law 528 = .ok (.aload_n 0, 1) := by decide +kernel
theorem dL_law_529 : decode cL_law 529 = .ok (.iload_n 3, 1) := by decide +kernel
theorem dL_law_530 : decode cL_law 530 = .ok (.iconst 2, 1) := by decide +kernel
theorem dL_law_531 : decode cL_law 531 = .ok (.iadd, 1) := by decide +kernel
theorem dL_law_532 : decode cL_law 532 = .ok (.iaload, 1) := by decide +kernel
theorem dL_law_533 : decode cL_law 533 = .ok (.aload_n 0, 1) := by decide +kernel
theorem dL_law_534 : decode cL_law 534 = .ok (.iload_n 3, 1) := by decide +kernel
theorem dL_law_535 : decode cL_law 535 = .ok (.iconst 3, 1) := by decide +kernel
theorem dL_law_536 : decode cL_law 536 = .ok (.iadd, 1) := by decide +kernel
theorem dL_law_537 : decode cL_law 537 = .ok (.iaload, 1) := by decide +kernel
theorem dL_law_538 : decode cL_law 538 = .ok (.aload_n 0, 1) := by decide +kernel
theorem dL_law_539 : decode cL_law 539 = .ok (.iload_n 3, 1) := by decide +kernel
theorem dL_law_540 : decode cL_law 540 = .ok (.iconst 4, 1) := by decide +kernel
theorem dL_law_541 : decode cL_law 541 = .ok (.iadd, 1) := by decide +kernel
theorem dL_law_542 : decode cL_law 542 = .ok (.iaload, 1) := by decide +kernel
theorem dL_law_543 : decode cL_law 543 = .ok (.aload_n 0, 1) := by decide +kernel
theorem dL_law_544 : decode cL_law 544 = .ok (.iload_n 3, 1) := by decide +kernel
theorem dL_law_545 : decode cL_law 545 = .ok (.iconst 5, 1) := by decide +kernel
theorem dL_law_546 : decode cL_law 546 = .ok (.iadd, 1) := by decide +kernel
theorem dL_law_547 : decode cL_law 547 = .ok (.iaload, 1) := by decide +kernel
theorem dL_law_548 : decode cL_law 548 = .ok (.invokevirtual 73, 3) := by decide +kernel
theorem dL_law_551 : decode cL_law 551 = .ok (.if_icmp .eq 120, 3) := by decide +kernel
theorem dL_law_554 : decode cL_law 554 = .ok (.iconst 0, 1) := by decide +kernel
theorem dL_law_555 : decode cL_law 555 = .ok (.ireturn, 1) := by decide +kernel
theorem dL_law_556 : decode cL_law 556 = .ok (.aload_n 1, 1) := by decide +kernel
theorem dL_law_557 : decode cL_law 557 = .ok (.aload_n 0, 1) := by decide +kernel
theorem dL_law_558 : decode cL_law 558 = .ok (.iload_n 3, 1) := by decide +kernel
theorem dL_law_559 : decode cL_law 559 = .ok (.iconst 1, 1) := by decide +kernel
theorem dL_law_560 : decode cL_law 560 = .ok (.iadd, 1) := by decide +kernel
theorem dL_law_561 : decode cL_law 561 = .ok (.iaload, 1) := by decide +kernel
theorem dL_law_562 : decode cL_law 562 = .ok (.aload_n 0, 1) := by decide +kernel
theorem dL_law_563 : decode cL_law 563 = .ok (.iload_n 3, 1) := by decide +kernel
theorem dL_law_564 : decode cL_law 564 = .ok (.iconst 2, 1) := by decide +kernel
theorem dL_law_565 : decode cL_law 565 = .ok (.iadd, 1) := by decide +kernel
theorem dL_law_566 : decode cL_law 566 = .ok (.iaload, 1) := by decide +kernel
theorem dL_law_567 : decode cL_law 567 = .ok (.invokevirtual 74, 3) := by decide +kernel
theorem dL_law_570 : decode cL_law 570 = .ok (.aload_n 2, 1) := by decide +kernel
theorem dL_law_571 : decode cL_law 571 = .ok (.aload_n 0, 1) := by decide +kernel
theorem dL_law_572 : decode cL_law 572 = .ok (.iload_n 3, 1) := by decide +kernel
theorem dL_law_573 : decode cL_law 573 = .ok (.iconst 1, 1) := by decide +kernel
theorem dL_law_574 : decode cL_law 574 = .ok (.iadd, 1) := by decide +kernel
theorem dL_law_575 : decode cL_law 575 = .ok (.iaload, 1) := by decide +kernel
theorem dL_law_576 : decode cL_law 576 = .ok (.aload_n 0, 1) := by decide +kernel
theorem dL_law_577 : decode cL_law 577 = .ok (.iload_n 3, 1) := by decide +kernel
theorem dL_law_578 : decode cL_law 578 = .ok (.iconst 2, 1) := by decide +kernel
theorem dL_law_579 : decode cL_law 579 = .ok (.iadd, 1) := by decide +kernel
theorem dL_law_580 : decode cL_law 580 = .ok (.iaload, 1) := by decide +kernel
theorem dL_law_581 : decode cL_law 581 = .ok (.invokevirtual 77, 3) := by decide +kernel
theorem dL_law_584 : decode cL_law 584 = .ok (.if_icmp .eq 87, 3) := by decide +kernel
theorem dL_law_587 : decode cL_law 587 = .ok (.iconst 0, 1) := by decide +kernel
theorem dL_law_588 : decode cL_law 588 = .ok (.ireturn, 1) := by decide +kernel
theorem dL_law_589 : decode cL_law 589 = .ok (.aload_n 1, 1) := by decide +kernel
theorem dL_law_590 : decode cL_law 590 = .ok (.aload_n 0, 1) := by decide +kernel
theorem dL_law_591 : decode cL_law 591 = .ok (.iload_n 3, 1) := by decide +kernel
theorem dL_law_592 : decode cL_law 592 = .ok (.iconst 1, 1) := by decide +kernel
theorem dL_law_593 : decode cL_law 593 = .ok (.iadd, 1) := by decide +kernel
theorem dL_law_594 : decode cL_law 594 = .ok (.iaload, 1) := by decide +kernel
theorem dL_law_595 : decode cL_law 595 = .ok (.invokevirtual 78, 3) := by decide +kernel
theorem dL_law_598 : decode cL_law 598 = .ok (.aload_n 2, 1) := by decide +kernel
theorem dL_law_599 : decode cL_law 599 = .ok (.aload_n 0, 1) := by decide +kernel
theorem dL_law_600 : decode cL_law 600 = .ok (.iload_n 3, 1) := by decide +kernel
theorem dL_law_601 : decode cL_law 601 = .ok (.iconst 1, 1) := by decide +kernel
theorem dL_law_602 : decode cL_law 602 = .ok (.iadd, 1) := by decide +kernel
theorem dL_law_603 : decode cL_law 603 = .ok (.iaload, 1) := by decide +kernel
theorem dL_law_604 : decode cL_law 604 = .ok (.invokevirtual 81, 3) := by decide +kernel
theorem dL_law_607 : decode cL_law 607 = .ok (.if_icmp .eq 64, 3) := by decide +kernel
theorem dL_law_610 : decode cL_law 610 = .ok (.iconst 0, 1) := by decide +kernel
theorem dL_law_611 : decode cL_law 611 = .ok (.ireturn, 1) := by decide +kernel
theorem dL_law_612 : decode cL_law 612 = .ok (.aload_n 1, 1) := by decide +kernel
theorem dL_law_613 : decode cL_law 613 = .ok (.aload_n 0, 1) := by decide +kernel
theorem dL_law_614 : decode cL_law 614 = .ok (.iload_n 3, 1) := by decide +kernel
theorem dL_law_615 : decode cL_law 615 = .ok (.iconst 1, 1) := by decide +kernel
theorem dL_law_616 : decode cL_law 616 = .ok (.iadd, 1) := by decide +kernel
theorem dL_law_617 : decode cL_law 617 = .ok (.iaload, 1) := by decide +kernel
theorem dL_law_618 : decode cL_law 618 = .ok (.invokevirtual 82, 3) := by decide +kernel
theorem dL_law_621 : decode cL_law 621 = .ok (.aload_n 2, 1) := by decide +kernel
theorem dL_law_622 : decode cL_law 622 = .ok (.aload_n 0, 1) := by decide +kernel
theorem dL_law_623 : decode cL_law 623 = .ok (.iload_n 3, 1) := by decide +kernel
theorem dL_law_624 : decode cL_law 624 = .ok (.iconst 1, 1) := by decide +kernel
theorem dL_law_625 : decode cL_law 625 = .ok (.iadd, 1) := by decide +kernel
theorem dL_law_626 : decode cL_law 626 = .ok (.iaload, 1) := by decide +kernel
theorem dL_law_627 : decode cL_law 627 = .ok (.invokevirtual 85, 3) := by decide +kernel
theorem dL_law_630 : decode cL_law 630 = .ok (.if_icmp .eq 41, 3) := by decide +kernel
theorem dL_law_633 : decode cL_law 633 = .ok (.iconst 0, 1) := by decide +kernel
theorem dL_law_634 : decode cL_law 634 = .ok (.ireturn, 1) := by decide +kernel
theorem dL_law_635 : decode cL_law 635 = .ok (.aload_n 1, 1) := by decide +kernel
theorem dL_law_636 : decode cL_law 636 = .ok (.aload_n 0, 1) := by decide +kernel
theorem dL_law_637 : decode cL_law 637 = .ok (.iload_n 3, 1) := by decide +kernel
theorem dL_law_638 : decode cL_law 638 = .ok (.iconst 1, 1) := by decide +kernel
theorem dL_law_639 : decode cL_law 639 = .ok (.iadd, 1) := by decide +kernel
theorem dL_law_640 : decode cL_law 640 = .ok (.iaload, 1) := by decide +kernel
theorem dL_law_641 : decode cL_law 641 = .ok (.invokevirtual 86, 3) := by decide +kernel
theorem dL_law_644 : decode cL_law 644 = .ok (.aload_n 2, 1) := by decide +kernel
theorem dL_law_645 : decode cL_law 645 = .ok (.aload_n 0, 1) := by decide +kernel
theorem dL_law_646 : decode cL_law 646 = .ok (.iload_n 3, 1) := by decide +kernel
theorem dL_law_647 : decode cL_law 647 = .ok (.iconst 1, 1) := by decide +kernel
theorem dL_law_648 : decode cL_law 648 = .ok (.iadd, 1) := by decide +kernel
theorem dL_law_649 : decode cL_law 649 = .ok (.iaload, 1) := by decide +kernel
theorem dL_law_650 : decode cL_law 650 = .ok (.invokevirtual 89, 3) := by decide +kernel
theorem dL_law_653 : decode cL_law 653 = .ok (.if_icmp .eq 18, 3) := by decide +kernel
theorem dL_law_656 : decode cL_law 656 = .ok (.iconst 0, 1) := by decide +kernel
theorem dL_law_657 : decode cL_law 657 = .ok (.ireturn, 1) := by decide +kernel
theorem dL_law_658 : decode cL_law 658 = .ok (.aload_n 1, 1) := by decide +kernel
theorem dL_law_659 : decode cL_law 659 = .ok (.invokevirtual 90, 3) := by decide +kernel
theorem dL_law_662 : decode cL_law 662 = .ok (.aload_n 2, 1) := by decide +kernel
theorem dL_law_663 : decode cL_law 663 = .ok (.invokevirtual 93, 3) := by decide +kernel
theorem dL_law_666 : decode cL_law 666 = .ok (.if_icmp .eq 5, 3) := by decide +kernel
theorem dL_law_669 : decode cL_law 669 = .ok (.iconst 0, 1) := by decide +kernel
theorem dL_law_670 : decode cL_law 670 = .ok (.ireturn, 1) := by decide +kernel
theorem dL_law_671 : decode cL_law 671 = .ok (.iinc 3 6, 3) := by decide +kernel
theorem dL_law_674 : decode cL_law 674 = .ok (.goto (-656), 3) := by decide +kernel
theorem dL_law_677 : decode cL_law 677 = .ok (.iconst 1, 1) := by decide +kernel
theorem dL_law_678 : decode cL_law 678 = .ok (.ireturn, 1) := by decide +kernel
end
section
/-! my own layer over the kit: worlds with fixed addresses, read-only and writing contracts, calls of them -/
def zA (wd : va_W) : Nat → Prop := fun q => ∃ (k : Nat) (e : va_E), wd[k]? = some (q, e)
def zNW (U : State) : Prop :=
  va_Nw (.methodLinkNest "TitheGrid" 9 yX4_init "TitheGrid") U ∧ va_Nw (.methodLinkNest "TitheGrid$State" 20 yX3_init "TitheGrid") U ∧ va_Nw (.methodLinkNest "TitheGrid$Parishes" 56 yX5_isBetween "TitheGrid") U ∧ va_Nw (.methodLinkNest "TitheGrid$State" 34 yX0_init "TitheGrid") U ∧ va_Nw (.methodLinkNest "TitheGrid$History" 17 yX4_init "TitheGrid") U ∧ va_Nw (.methodLinkNest "TitheGrid$Parishes" 50 yX5_sideOf "TitheGrid") U ∧ va_Nw (.methodLinkNest "TitheGrid$Points" 38 yX5_isBetween "TitheGrid") U ∧ va_Nw (.methodLinkNest "TitheGrid$State" 115 yX5_sideOf "TitheGrid") U ∧ va_Nw (.methodLinkNest "TitheGrid$State" 122 yX5_quarterLeft "TitheGrid") U ∧ va_Nw (.methodLinkNest "TitheGrid$State" 125 yX5_quarterTop "TitheGrid") U ∧ va_Nw (.methodLinkNest "TitheGrid$Points" 66 yX5_sideOf "TitheGrid") U ∧
  va_Nw (.fieldLinkNest "TitheGrid" 67 "TitheGrid$State" "crowd" "I" "TitheGrid") U ∧ va_Nw (.fieldLinkNest "TitheGrid" 71 "TitheGrid$State" "tithe" "I" "TitheGrid") U ∧ va_Nw (.fieldLinkNest "TitheGrid" 31 "TitheGrid$State" "points" "LTitheGrid$Points;" "TitheGrid") U ∧ va_Nw (.fieldLinkNest "TitheGrid" 74 "TitheGrid$State" "parishes" "LTitheGrid$Parishes;" "TitheGrid") U ∧ va_Nw (.fieldLinkNest "TitheGrid" 105 "TitheGrid$State" "debts" "LTitheGrid$Debts;" "TitheGrid") U
theorem zNW.warm {s U : State} (hW : s.WarmedH U.vm) (h : zNW s) : zNW U := by
  obtain ⟨h1, h2, h3, h4, h5, h6, h7, h8, h9, h10, h11, h12, h13, h14, h15, h16⟩ := h
  exact ⟨h1.warmM hW, h2.warmM hW, h3.warmM hW, h4.warmM hW, h5.warmM hW, h6.warmM hW, h7.warmM hW, h8.warmM hW, h9.warmM hW, h10.warmM hW, h11.warmM hW, h12.warmF hW, h13.warmF hW, h14.warmF hW, h15.warmF hW, h16.warmF hW⟩
theorem zNW.same {s U : State} (hW : s.vm = U.vm) (h : zNW s) : zNW U := by
  obtain ⟨h1, h2, h3, h4, h5, h6, h7, h8, h9, h10, h11, h12, h13, h14, h15, h16⟩ := h
  exact ⟨h1.same rfl hW, h2.same rfl hW, h3.same rfl hW, h4.same rfl hW, h5.same rfl hW, h6.same rfl hW, h7.same rfl hW, h8.same rfl hW, h9.same rfl hW, h10.same rfl hW, h11.same rfl hW, h12.same rfl hW, h13.same rfl hW, h14.same rfl hW, h15.same rfl hW, h16.same rfl hW⟩
def zK (D : va_G) (cI cQ : ClassId) (U : State) : Prop := va_K D vwCl [(cI, .int), (cQ, .object RX4)] U ∧ zNW U
theorem zK.warm {D : va_G} {cI cQ : ClassId} {s U : State} (hW : s.WarmedH U.vm) (h : zK D cI cQ s) : zK D cI cQ U := ⟨va_K.moved hW.alike h.1, h.2.warm hW⟩
theorem zK.same {D : va_G} {cI cQ : ClassId} {s U : State} (hW : s.vm = U.vm) (h : zK D cI cQ s) : zK D cI cQ U := ⟨va_K.moved (by rw [hW]; exact Vm.Alike.refl _) h.1, h.2.same hW⟩
/-- a start: the world, the tables -/
abbrev zP (av : List Value) (D : va_G) (cI cQ : ClassId) (wd : va_W) : Array Value → State → Prop := va_Pc av (fun U => va_P D vwCl wd U.heap ∧ zK D cI cQ U)
abbrev zPW (av : List Value) (D : va_G) (cI cQ : ClassId) (wd : va_W) : Array Value → State → Prop := va_Pc av (fun U => va_P D vwCl wd U.heap ∧ zK D cI cQ U ∧ va_D (fun _ => True) wd)
def zQ (D : va_G) (wd : va_W) (v : Option Value) (wd' : va_W) : Array Value → State → Outcome → State → Prop := fun _ st o t => o = .returned v ∧ va_P D vwCl wd' t.heap ∧ va_F (zA wd) st t
/-- a method that writes nothing: its answer -/
abbrev zRO (l : Launch) (y : MethodName) (ws : List Cond) (fr lo : Nat) (av : List Value) (D : va_G) (cI cQ : ClassId) (wd : va_W) (v : Int32) : Prop :=
  Met l y ws ({ frames := fr, cells := 0, slots := 0, locals := lo }) (zP av D cI cQ wd) (vp_Si (fun r => r = v)) 0 0 (fun _ => False)
/-- a method that writes in its world: its answer, the world behind it -/
abbrev zWR (l : Launch) (y : MethodName) (ws : List Cond) (fr lo : Nat) (av : List Value) (D : va_G) (cI cQ : ClassId) (wd : va_W) (v : Option Value) (wd' : va_W) : Prop :=
  Met l y ws ({ frames := fr, cells := 0, slots := 0, locals := lo }) (zPW av D cI cQ wd) (zQ D wd v wd') 0 0 (zA wd)
theorem zP_blind {av : List Value} {D : va_G} {cI cQ : ClassId} {wd : va_W} : FrameBlind (zP av D cI cQ wd) := fun a U g mk q => ⟨q.1, q.2.1, zK.same (s := U) (U := U.calling g mk a) rfl q.2.2⟩
theorem zPW_blind {av : List Value} {D : va_G} {cI cQ : ClassId} {wd : va_W} : FrameBlind (zPW av D cI cQ wd) := fun a U g mk q => ⟨q.1, q.2.1, zK.same (s := U) (U := U.calling g mk a) rfl q.2.2.1, q.2.2.2⟩
theorem z_pv {s : State} {H : Heap} {D : va_G} {cI cQ : ClassId} {wd : va_W} {b ci : Nat} {fs : List Value} {As : List Value} {q : vw_C} (hK : zK D cI cQ s) (hP : va_P D vwCl wd H) (he : wd[0]? = some (b, .inr (ci, fs))) (hc : vwCl[ci]? = some q) : PreV s H q.1 b (zP (.ref b :: As) D cI cQ wd) As :=
  ⟨zP_blind, va_recv hK.1 hP hc he, fun U hU hW => ⟨rfl, by rw [hU]; exact hP, hK.warm hW⟩⟩
theorem z_pvw {s : State} {H : Heap} {D : va_G} {cI cQ : ClassId} {wd : va_W} {b ci : Nat} {fs : List Value} {As : List Value} {q : vw_C} {A : Nat → Prop} (hK : zK D cI cQ s) (hP : va_P D vwCl wd H) (hD : va_D A wd) (he : wd[0]? = some (b, .inr (ci, fs))) (hc : vwCl[ci]? = some q) : PreV s H q.1 b (zPW (.ref b :: As) D cI cQ wd) As :=
  ⟨zPW_blind, va_recv hK.1 hP hc he, fun U hU hW => ⟨rfl, by rw [hU]; exact hP, hK.warm hW, hD.weaken (fun _ _ _ _ => trivial)⟩⟩
theorem z_ps {s : State} {H : Heap} {D : va_G} {cI cQ : ClassId} {wd : va_W} {As : List Value} (hK : zK D cI cQ s) (hP : va_P D vwCl wd H) : PreS s H (zP As D cI cQ wd) As :=
  ⟨zP_blind, fun U hU hW => ⟨rfl, by rw [hU]; exact hP, hK.warm hW⟩⟩
theorem z_nil {D : va_G} {H : Heap} : va_P D vwCl [] H := fun k q h => by simp at h
/-- the cells at the places ps, put anew -/
def zPut : va_W → List Nat → va_W → va_W
  | X, p :: ps, e :: es => zPut (X.set p e) ps es
  | X, _, _ => X
theorem zPut_at : ∀ (ps : List Nat) (es X : va_W) (k : Nat) (q : Nat × va_E), (zPut X ps es)[k]? = some q → (X[k]? = some q ∧ (k ∉ ps.take es.length)) ∨ ∃ j : Nat, ps[j]? = some k ∧ es[j]? = some q
  | [], es, X, k, q, h => by
    left; exact ⟨by simpa [zPut] using h, by simp⟩
  | p :: ps, [], X, k, q, h => by
    left; exact ⟨by simpa [zPut] using h, by simp⟩
  | p :: ps, e :: es, X, k, q, h => by
    have h := zPut_at ps es (X.set p e) k q (by simpa [zPut] using h)
    rcases h with ⟨h1, h2⟩ | ⟨j, h1, h2⟩
    · by_cases hk : k = p
      · subst hk
        right
        refine ⟨0, by simp, ?_⟩
        have hl : k < X.length := by
          have := (List.getElem?_eq_some_iff.mp h1).1
          simpa using this
        rw [List.getElem?_set_self hl] at h1
        simpa using h1
      · left
        rw [List.getElem?_set_ne (Ne.symm hk)] at h1
        refine ⟨h1, ?_⟩
        simp only [List.length_cons, List.take_succ_cons, List.mem_cons, not_or]
        exact ⟨hk, h2⟩
    · right
      exact ⟨j + 1, by simpa using h1, by simpa using h2⟩
theorem z_map {ps : List Nat} {X wd : va_W} (hC : ps.map (fun i => X[i]?) = wd.map some) : ps.length = wd.length ∧ ∀ (j k : Nat), ps[j]? = some k → ∃ q, wd[j]? = some q ∧ X[k]? = some q := by
  refine ⟨by simpa using congrArg List.length hC, fun j k h => ?_⟩
  have h1 : (ps.map (fun i => X[i]?))[j]? = some (X[k]?) := by rw [List.getElem?_map, h]; rfl
  rw [hC, List.getElem?_map] at h1
  cases hj : wd[j]? with
  | none => rw [hj] at h1; cases h1
  | some q => rw [hj] at h1; exact ⟨q, rfl, (Option.some.inj h1).symm⟩
theorem z_map2 {ps : List Nat} {X wd : va_W} (hC : ps.map (fun i => X[i]?) = wd.map some) (j : Nat) (q : Nat × va_E) (h : wd[j]? = some q) : ∃ k, ps[j]? = some k ∧ X[k]? = some q := by
  have h1 : (ps.map (fun i => X[i]?))[j]? = some (some q) := by rw [hC, List.getElem?_map, h]; rfl
  rw [List.getElem?_map] at h1
  cases hi : ps[j]? with
  | none => rw [hi] at h1; cases h1
  | some i => rw [hi] at h1; exact ⟨i, rfl, Option.some.inj h1⟩
theorem z_adr {wd wd' : va_W} (h : wd'.map (fun q => q.1) = wd.map (fun q => q.1)) (j : Nat) (q : Nat × va_E) (hj : wd'[j]? = some q) : ∃ q0, wd[j]? = some q0 ∧ q0.1 = q.1 := by
  have h1 : (wd'.map (fun q => q.1))[j]? = some q.1 := by rw [List.getElem?_map, hj]; rfl
  rw [h, List.getElem?_map] at h1
  cases hi : wd[j]? with
  | none => rw [hi] at h1; cases h1
  | some i => rw [hi] at h1; exact ⟨i, rfl, Option.some.inj h1⟩
theorem z_put {D : va_G} {A : Nat → Prop} {X X' wd wd' : va_W} {H H1 : Heap} (hP : va_P D vwCl X H) (hD : va_D A X) (ps : List Nat) (hC : ps.map (fun i => X[i]?) = wd.map some) (ha : wd'.map (fun q => q.1) = wd.map (fun q => q.1)) (hX : zPut X ps wd' = X')
    (hP1 : va_P D vwCl wd' H1) (hk : ∀ q : Nat, q < H.size → ¬ zA wd q → H1[q]? = H[q]?) : va_P D vwCl X' H1 ∧ va_D A X' := by
  subst hX
  obtain ⟨hlen, hm⟩ := z_map hC
  have hlen' : wd'.length = wd.length := by simpa using congrArg List.length ha
  have key : ∀ (k : Nat) (q : Nat × va_E), (zPut X ps wd')[k]? = some q → (X[k]? = some q ∧ k ∉ ps) ∨ ∃ j : Nat, ps[j]? = some k ∧ wd'[j]? = some q := by
    intro k q h
    rcases zPut_at ps wd' X k q h with ⟨h1, h2⟩ | h2
    · left
      refine ⟨h1, ?_⟩
      rw [hlen', ← hlen, List.take_length] at h2
      exact h2
    · exact Or.inr h2
  refine ⟨fun k q h => ?_, ?_⟩
  · rcases key k q h with ⟨h1, h2⟩ | ⟨j, h1, h2⟩
    · have hat := hP k q h1
      refine hat.kept (hk q.1 hat.lt ?_)
      rintro ⟨k2, e2, h3⟩
      obtain ⟨k3, h4, h5⟩ := z_map2 hC k2 _ h3
      have h6 := hD.1 k k3 q (q.1, e2) h1 h5 rfl
      subst h6
      exact h2 (List.mem_of_getElem? h4)
    · exact hP1 j q h2
  · have old : ∀ (k : Nat) (q : Nat × va_E), (zPut X ps wd')[k]? = some q → ∃ q0, X[k]? = some q0 ∧ q0.1 = q.1 := by
      intro k q h
      rcases key k q h with ⟨h1, h2⟩ | ⟨j, h1, h2⟩
      · exact ⟨q, h1, rfl⟩
      · obtain ⟨q0, h3, h4⟩ := z_adr ha j q h2
        obtain ⟨q1, h5, h6⟩ := hm j k h1
        have : q1 = q0 := Option.some.inj (h5.symm.trans h3)
        subst this
        exact ⟨q1, h6, h4⟩
    refine ⟨fun i j x y hi hj hxy => ?_, fun k q h => ?_⟩
    · obtain ⟨x0, h1, h2⟩ := old i x hi
      obtain ⟨y0, h3, h4⟩ := old j y hj
      exact hD.1 i j x0 y0 h1 h3 (h2.trans (hxy.trans h4.symm))
    · obtain ⟨x0, h1, h2⟩ := old k q h
      rw [← h2]
      exact hD.2 k x0 h1
theorem z_inA {A : Nat → Prop} {X wd : va_W} (hD : va_D A X) (ps : List Nat) (hC : ps.map (fun i => X[i]?) = wd.map some) (q : Nat) (h : zA wd q) : A q := by
  obtain ⟨k, e, h1⟩ := h
  obtain ⟨k3, h4, h5⟩ := z_map2 hC k _ h1
  exact hD.2 k3 _ h5
theorem z_selfD {A : Nat → Prop} {wd : va_W} (h : va_D A wd) : va_D (zA wd) wd := ⟨h.1, fun k q hk => ⟨k, q.2, hk⟩⟩
section ZK
variable {p : Program} {l : Launch} {e : Env} {R : Room} {s : State} {m : MethodId} {args : Array Value} {below : List Frame} {meth : Method} {c : Code} {H : Heap} {locs : List Loc} {cells slots : Nat} {Q : State → Prop} {pc : Nat} {ls : Array Slot} {rest st0 : List Value} {a : Array Value}
/-- a call that writes nothing -/
theorem z_ro {v : Int32} (hr : va_Run p l e R s m args below meth c H locs cells slots 0 0 (F0 m pc ls st0) rest (vp_Si (fun r => r = v) a) (fun _ => False))
    (kk : W p l e R s m args below meth c H locs cells slots Q (F0 m (pc + 3) ls (.int v :: rest))) : W p l e R s m args below meth c H locs cells slots Q (F0 m pc ls st0) := by
  intro T hT X
  obtain ⟨v', st₀, t, T', L, h0, X', hL, e1, e2, ⟨r, hv, hp, hh⟩, st⟩ := hr T hT X
  cases hv
  subst hp
  obtain ⟨t2, a1, b1⟩ := kk T' (by rw [e1, hh, h0]) (Stand.forget X' (fun q h => (hL q h).elim))
  exact ⟨t2, st t2 a1, b1⟩
theorem z_w {v : Option Value} {D : va_G} {wd wd' X X' : va_W} {A : Nat → Prop} {H0 : Heap} (hr : va_Run p l e R s m args below meth c H locs cells slots 0 0 (F0 m pc ls st0) rest (zQ D wd v wd' a) (zA wd))
    (hP : va_P D vwCl X H) (hD : va_D A X) (hS : va_S A H0 H locs) (ps : List Nat) (hC : ps.map (fun i => X[i]?) = wd.map some) (ha : wd'.map (fun q => q.1) = wd.map (fun q => q.1)) (hX : zPut X ps wd' = X')
    (kk : ∀ (H1 : Heap) (locs1 : List Loc), va_P D vwCl X' H1 → va_D A X' → va_S A H0 H1 locs1 → W p l e R s m args below meth c H1 locs1 cells slots Q (F0 m (pc + 3) ls (v.toList ++ rest))) : W p l e R s m args below meth c H locs cells slots Q (F0 m pc ls st0) := by
  intro T hT X0
  obtain ⟨v', st₀, t, T', L, h0, X', hL, e1, e2, ⟨hv, hp, hz, hk⟩, st⟩ := hr T hT X0
  have hv := Outcome.returned.inj hv
  subst hv
  rw [h0] at hz hk
  obtain ⟨hP1, hD1⟩ := z_put (H1 := T'.heap) hP hD ps hC ha hX (by rw [e1]; exact hp) (fun q h1 h2 => by rw [e1]; exact hk q h1 h2)
  obtain ⟨t2, a1, b1⟩ := kk T'.heap (locs ++ L) hP1 hD1
    ⟨Nat.le_trans hS.1 (by rw [e1]; exact hz), fun q h1 h2 => by rw [e1, hk q (Nat.lt_of_lt_of_le h1 hS.1) (fun z => h2 (z_inA hD ps hC q z))]; exact hS.2.1 q h1 h2, fun q hq => by
      rcases List.mem_append.mp hq with h | h
      · exact hS.2.2 q h
      · exact z_inA hD ps hC _ (hL q h)⟩ T' rfl X'
  exact ⟨t2, st t2 a1, b1⟩
theorem z_wv {D : va_G} {wd wd' X X' : va_W} {A : Nat → Prop} {H0 : Heap} (hr : va_Run p l e R s m args below meth c H locs cells slots 0 0 (F0 m pc ls st0) rest (zQ D wd none wd' a) (zA wd))
    (hP : va_P D vwCl X H) (hD : va_D A X) (hS : va_S A H0 H locs) (ps : List Nat) (hC : ps.map (fun i => X[i]?) = wd.map some) (ha : wd'.map (fun q => q.1) = wd.map (fun q => q.1)) (hX : zPut X ps wd' = X')
    (kk : ∀ (H1 : Heap) (locs1 : List Loc), va_P D vwCl X' H1 → va_D A X' → va_S A H0 H1 locs1 → W p l e R s m args below meth c H1 locs1 cells slots Q (F0 m (pc + 3) ls rest)) : W p l e R s m args below meth c H locs cells slots Q (F0 m pc ls st0) := z_w hr hP hD hS ps hC ha hX kk
theorem z_wi {v : Int32} {D : va_G} {wd wd' X X' : va_W} {A : Nat → Prop} {H0 : Heap} (hr : va_Run p l e R s m args below meth c H locs cells slots 0 0 (F0 m pc ls st0) rest (zQ D wd (some (.int v)) wd' a) (zA wd))
    (hP : va_P D vwCl X H) (hD : va_D A X) (hS : va_S A H0 H locs) (ps : List Nat) (hC : ps.map (fun i => X[i]?) = wd.map some) (ha : wd'.map (fun q => q.1) = wd.map (fun q => q.1)) (hX : zPut X ps wd' = X')
    (kk : ∀ (H1 : Heap) (locs1 : List Loc), va_P D vwCl X' H1 → va_D A X' → va_S A H0 H1 locs1 → W p l e R s m args below meth c H1 locs1 cells slots Q (F0 m (pc + 3) ls (.int v :: rest))) : W p l e R s m args below meth c H locs cells slots Q (F0 m pc ls st0) := z_w hr hP hD hS ps hC ha hX kk
/-- ends -/
theorem z_iret {cc : ByteArray} {v w : Int32} {ty : FieldType} {free : Addr → Prop} (hx : p.tables.exec = Jvm.exec) (hb : c.code = cc) (hr : meth.sig.returnType = some ty) (hn : narrow ty (.int v) = .int v) (hlocks : meth.locks = false) (he : v = w) {pc : Nat} {ls : Array Slot} (hdg : decode cc pc = .ok (.ireturn, 1)) :
    W p l e R s m args below meth c s.heap [] cells slots (MQ below (vp_Si (fun r => r = w)) args s cells slots free) (F0 m pc ls [.int v]) :=
  W.zret hx hb hr hn (fun t ht _ => ⟨v, rfl, he, ht⟩) (fun q h => by cases h) hdg hlocks
theorem z_wvret {cc : ByteArray} {D : va_G} {wd wd1 wd' : va_W} (hx : p.tables.exec = Jvm.exec) (hb : c.code = cc) (hr : meth.sig.returnType = none) (hlocks : meth.locks = false) (hP : va_P D vwCl wd1 H) (hS : va_S (zA wd) s.heap H locs) (he : wd1 = wd') {pc : Nat} {ls : Array Slot} (hdg : decode cc pc = .ok (.return_, 1)) :
    W p l e R s m args below meth c H locs cells slots (MQ below (zQ D wd none wd') args s cells slots (zA wd)) (F0 m pc ls []) :=
  W.vret hx hb hr (fun t ht _ => ⟨rfl, by rw [ht, ← he]; exact hP, hS.F ht⟩) hS.2.2 hdg hlocks
theorem z_wiret {cc : ByteArray} {D : va_G} {wd wd1 wd' : va_W} {v w : Int32} {ty : FieldType} (hx : p.tables.exec = Jvm.exec) (hb : c.code = cc) (hr : meth.sig.returnType = some ty) (hn : narrow ty (.int v) = .int v) (hlocks : meth.locks = false) (hP : va_P D vwCl wd1 H) (hS : va_S (zA wd) s.heap H locs) (hv : v = w) (he : wd1 = wd') {pc : Nat} {ls : Array Slot} (hdg : decode cc pc = .ok (.ireturn, 1)) :
    W p l e R s m args below meth c H locs cells slots (MQ below (zQ D wd (some (.int w)) wd') args s cells slots (zA wd)) (F0 m pc ls [.int v]) :=
  W.zret hx hb hr hn (fun t ht _ => ⟨by rw [hv], by rw [ht, ← he]; exact hP, hS.F ht⟩) hS.2.2 hdg hlocks
end ZK
/-- how a method's contract begins -/
theorem zRO.of {l : Launch} {y : MethodName} {ws ws' : List Cond} {fr lo : Nat} {av : List Value} {D : va_G} {cI cQ : ClassId} {wd : va_W} {v : Int32} {cc : ByteArray} {maxL : Nat} {ret : Option FieldType}
    (hy : plainName y.cls = true) (hw : ws = Cond.code y cc maxL ret :: ws') (hlen : (lg_sl av).length ≤ maxL)
    (body : ∀ (p : Program) (e : Env) (s : State) (m : MethodId) (args : Array Value) (below : List Frame) (meth : Method) (c : Code), p.tables.exec = Jvm.exec → c.code = cc → meth.sig.returnType = ret → (∀ w ∈ ws, w.before args s = true) → s.vm.findClass y.cls = some m.cls → meth.locks = false → c.maxLocals = maxL → va_P D vwCl wd s.heap → zK D cI cQ s → ∀ ls, lv_has ls maxL (lv_args 0 av) →
      W p l e ({ frames := fr, cells := 0, slots := 0, locals := lo }) s m args below meth c s.heap [] 0 0 (MQ below (vp_Si (fun r => r = v)) args s 0 0 (fun _ => False)) (F0 m 0 ls [])) : zRO l y ws fr lo av D cI cQ wd v := by
  refine Met.ofW (cc := cc) (maxL := maxL) (ret := ret) hy hw ?_
  intro p e s m args below meth c s₁ B hml hv
  obtain ⟨rfl, hP, hK⟩ := hv
  rw [lg_entry_eq]
  exact body p e s m _ below meth c B.exec B.bytes B.returns (atoms_spec (ws := ws) B.pre) (findClass_of_methodNamed B.named) B.notSynchronized hml hP hK _ (lv_entry av hlen)
theorem zWR.of {l : Launch} {y : MethodName} {ws ws' : List Cond} {fr lo : Nat} {av : List Value} {D : va_G} {cI cQ : ClassId} {wd wd' : va_W} {v : Option Value} {cc : ByteArray} {maxL : Nat} {ret : Option FieldType}
    (hy : plainName y.cls = true) (hw : ws = Cond.code y cc maxL ret :: ws') (hlen : (lg_sl av).length ≤ maxL)
    (body : ∀ (p : Program) (e : Env) (s : State) (m : MethodId) (args : Array Value) (below : List Frame) (meth : Method) (c : Code), p.tables.exec = Jvm.exec → c.code = cc → meth.sig.returnType = ret → (∀ w ∈ ws, w.before args s = true) → s.vm.findClass y.cls = some m.cls → meth.locks = false → c.maxLocals = maxL → va_P D vwCl wd s.heap → va_D (zA wd) wd → va_S (zA wd) s.heap s.heap [] → zK D cI cQ s → ∀ ls, lv_has ls maxL (lv_args 0 av) →
      W p l e ({ frames := fr, cells := 0, slots := 0, locals := lo }) s m args below meth c s.heap [] 0 0 (MQ below (zQ D wd v wd') args s 0 0 (zA wd)) (F0 m 0 ls [])) : zWR l y ws fr lo av D cI cQ wd v wd' := by
  refine Met.ofW (cc := cc) (maxL := maxL) (ret := ret) hy hw ?_
  intro p e s m args below meth c s₁ B hml hv
  obtain ⟨rfl, hP, hK, hD⟩ := hv
  rw [lg_entry_eq]
  exact body p e s m _ below meth c B.exec B.bytes B.returns (atoms_spec (ws := ws) B.pre) (findClass_of_methodNamed B.named) B.notSynchronized hml hP (z_selfD hD) va_S.rf hK _ (lv_entry av hlen)
/-- booleans -/
def bI (b : Bool) : Int32 := if b then 1 else 0
theorem bI_t {b : Bool} (h : ¬ bI b = 0) : b = true := by cases b <;> simp [bI] at h ⊢
theorem bI_f {b : Bool} (h : bI b = 0) : b = false := by cases b <;> simp [bI] at h ⊢
theorem bI_nar (b : Bool) : narrow .boolean (.int (bI b)) = .int (bI b) := by cases b <;> rfl
theorem zcwB {R : Room} {s : State} {args : Array Value} {own : String} {index : Nat} {y : MethodName} {bytes : ByteArray} {maxL : Nat} {ret : Option FieldType} {fr lo : Nat} (n : Nat) (hz : ∀ w ∈ zT, w.before args s = true) (q1 : Cond.methodLink own index y ∈ zT) (q4 : Cond.initialized y.cls ∈ zT) (q5 : Cond.code y bytes maxL ret ∈ zT)
    (hd : y.cls ≠ "java/lang/invoke/MethodHandle" ∧ y.cls ≠ "java/lang/invoke/VarHandle" ∧ (parseMethodDescriptor y.desc).map (fun d => d.parameters.length) = some n) (h1 : fr + 1 ≤ R.frames) (h2 : 8 + (maxL + 11) + lo ≤ R.locals) :
    CallB R s args own index y bytes maxL ret (Cond.code y bytes maxL ret :: zT) ({ frames := fr, cells := 0, slots := 0, locals := lo }) 0 0 n := by
  refine ⟨rfl, rfl, h1, h2, fun w hw a' U hW => ?_, List.mem_cons_self, hz _ q5, hz _ q4, ⟨hd.1, hd.2.1⟩, fun sig h => ?_, hz _ q1⟩
  · rcases List.mem_cons.mp hw with h | h
    · subst h; exact word_at hW (good_of_word (zT_good q5)) (hz _ q5)
    · exact word_at hW (good_of_word (zT_good h)) (hz _ h)
  · have h2 := hd.2.2
    rw [h] at h2
    exact (Option.some.inj h2).symm
theorem zcwV {R : Room} {s : State} {args : Array Value} {own : String} {index : Nat} {y : MethodName} {bytes : ByteArray} {maxL : Nat} {ret : Option FieldType} {fr lo : Nat} {C : String} (n : Nat) (hz : ∀ w ∈ zT, w.before args s = true) (q1 : Cond.methodLink own index y ∈ zT) (q2 : Cond.instanceMethod y ∈ zT) (q3 : Cond.selects C y y ∈ zT) (q4 : Cond.initialized y.cls ∈ zT) (q5 : Cond.code y bytes maxL ret ∈ zT)
    (hd : y.cls ≠ "java/lang/invoke/MethodHandle" ∧ y.cls ≠ "java/lang/invoke/VarHandle" ∧ (parseMethodDescriptor y.desc).map (fun d => d.parameters.length) = some n) (h1 : fr + 1 ≤ R.frames) (h2 : 8 + (maxL + 11) + lo ≤ R.locals) :
    CallW R s args own C index y bytes maxL ret (Cond.code y bytes maxL ret :: zT) ({ frames := fr, cells := 0, slots := 0, locals := lo }) 0 0 n :=
  ⟨zcwB n hz q1 q4 q5 hd h1 h2, hz _ q2, hz _ q3⟩
theorem zcwS {R : Room} {s : State} {args : Array Value} {own : String} {index : Nat} {y : MethodName} {bytes : ByteArray} {maxL : Nat} {ret : Option FieldType} {fr lo : Nat} (n : Nat) (hz : ∀ w ∈ zT, w.before args s = true) (q1 : Cond.methodLink own index y ∈ zT) (q2 : Cond.static y ∈ zT) (q4 : Cond.initialized y.cls ∈ zT) (q5 : Cond.code y bytes maxL ret ∈ zT)
    (hd : y.cls ≠ "java/lang/invoke/MethodHandle" ∧ y.cls ≠ "java/lang/invoke/VarHandle" ∧ (parseMethodDescriptor y.desc).map (fun d => d.parameters.length) = some n) (h1 : fr + 1 ≤ R.frames) (h2 : 8 + (maxL + 11) + lo ≤ R.locals) :
    CallB R s args own index y bytes maxL ret (Cond.code y bytes maxL ret :: zT) ({ frames := fr, cells := 0, slots := 0, locals := lo }) 0 0 n ∧ (Cond.static y).before args s = true :=
  ⟨zcwB n hz q1 q4 q5 hd h1 h2, hz _ q2⟩
theorem zcnS {R : Room} {s : State} {args : Array Value} {own host : String} {index : Nat} {y : MethodName} {bytes : ByteArray} {maxL : Nat} {ret : Option FieldType} {fr lo : Nat} (n : Nat) (hz : ∀ w ∈ zT, w.before args s = true) (q2 : Cond.static y ∈ zT) (q4 : Cond.initialized y.cls ∈ zT) (q5 : Cond.code y bytes maxL ret ∈ zT) (hl : va_Nw (.methodLinkNest own index y host) s)
    (hd : y.cls ≠ "java/lang/invoke/MethodHandle" ∧ y.cls ≠ "java/lang/invoke/VarHandle" ∧ (parseMethodDescriptor y.desc).map (fun d => d.parameters.length) = some n) (h1 : fr + 1 ≤ R.frames) (h2 : 8 + (maxL + 11) + lo ≤ R.locals) :
    va_CN R s args own index y host bytes maxL ret (Cond.code y bytes maxL ret :: zT) ({ frames := fr, cells := 0, slots := 0, locals := lo }) 0 0 n ∧ (Cond.static y).before args s = true ∧ True := by
  refine ⟨⟨⟨rfl, rfl, h1, h2, fun w hw a' U hW => ?_, List.mem_cons_self⟩, hz _ q5, hz _ q4, ⟨hd.1, hd.2.1⟩, fun sig h => ?_, va_Nw.use rfl hl⟩, hz _ q2, trivial⟩
  · rcases List.mem_cons.mp hw with h | h
    · subst h; exact word_at hW (good_of_word (zT_good q5)) (hz _ q5)
    · exact word_at hW (good_of_word (zT_good h)) (hz _ h)
  · have h2 := hd.2.2
    rw [h] at h2
    exact (Option.some.inj h2).symm
end
section
/-! the state of the class as a value; its cells -/
abbrev FI : Type := Nat → Int32
abbrev CS : Type := (Int32 × Int32) × (Int32 × FI × FI × FI × FI) × (Int32 × FI × FI × FI) × FI
abbrev sCr (S : CS) : Int32 := S.1.1
abbrev sTi (S : CS) : Int32 := S.1.2
abbrev sAd (S : CS) : Int32 := S.2.1.1
abbrev sX (S : CS) : FI := S.2.1.2.1
abbrev sY (S : CS) : FI := S.2.1.2.2.1
abbrev sW (S : CS) : FI := S.2.1.2.2.2.1
abbrev sL (S : CS) : FI := S.2.1.2.2.2.2
abbrev sFo (S : CS) : Int32 := S.2.2.1.1
abbrev sLe (S : CS) : FI := S.2.2.1.2.1
abbrev sTo (S : CS) : FI := S.2.2.1.2.2.1
abbrev sSc (S : CS) : FI := S.2.2.1.2.2.2
abbrev sD (S : CS) : FI := S.2.2.2
abbrev uCr (S : CS) (v : Int32) : CS := ((v, S.1.2), S.2)
abbrev uTi (S : CS) (v : Int32) : CS := ((S.1.1, v), S.2)
abbrev uAd (S : CS) (v : Int32) : CS := (S.1, (v, S.2.1.2), S.2.2)
abbrev uX (S : CS) (v : FI) : CS := (S.1, (S.2.1.1, v, S.2.1.2.2), S.2.2)
abbrev uY (S : CS) (v : FI) : CS := (S.1, (S.2.1.1, S.2.1.2.1, v, S.2.1.2.2.2), S.2.2)
abbrev uW (S : CS) (v : FI) : CS := (S.1, (S.2.1.1, S.2.1.2.1, S.2.1.2.2.1, v, S.2.1.2.2.2.2), S.2.2)
abbrev uL (S : CS) (v : FI) : CS := (S.1, (S.2.1.1, S.2.1.2.1, S.2.1.2.2.1, S.2.1.2.2.2.1, v), S.2.2)
abbrev uFo (S : CS) (v : Int32) : CS := (S.1, S.2.1, (v, S.2.2.1.2), S.2.2.2)
abbrev uLe (S : CS) (v : FI) : CS := (S.1, S.2.1, (S.2.2.1.1, v, S.2.2.1.2.2), S.2.2.2)
abbrev uTo (S : CS) (v : FI) : CS := (S.1, S.2.1, (S.2.2.1.1, S.2.2.1.2.1, v, S.2.2.1.2.2.2), S.2.2.2)
abbrev uSc (S : CS) (v : FI) : CS := (S.1, S.2.1, (S.2.2.1.1, S.2.2.1.2.1, S.2.2.1.2.2.1, v), S.2.2.2)
abbrev uD (S : CS) (v : FI) : CS := (S.1, S.2.1, S.2.2.1, v)
/-- points' cells: q 1 the object, q 2 .. q 5 its rows -/
abbrev zPts (cI : ClassId) (q : Nat → Nat) (S : CS) : va_W := [(q 1, .inr (3, [.int (sAd S), .ref (q 2), .ref (q 3), .ref (q 4), .ref (q 5)])), (q 2, .inl (cI, 40, .inl (sX S))), (q 3, .inl (cI, 40, .inl (sY S))), (q 4, .inl (cI, 40, .inl (sW S))), (q 5, .inl (cI, 40, .inl (sL S)))]
abbrev zPar (cI : ClassId) (q : Nat → Nat) (S : CS) : va_W := [(q 6, .inr (2, [.int (sFo S), .ref (q 7), .ref (q 8), .ref (q 9)])), (q 7, .inl (cI, 40, .inl (sLe S))), (q 8, .inl (cI, 40, .inl (sTo S))), (q 9, .inl (cI, 40, .inl (sSc S)))]
abbrev zDeb (cI : ClassId) (q : Nat → Nat) (S : CS) : va_W := [(q 10, .inr (0, [.ref (q 11)])), (q 11, .inl (cI, 1600, .inl (sD S)))]
abbrev zSta (cI : ClassId) (q : Nat → Nat) (S : CS) : va_W := [(q 0, .inr (4, [.int (sCr S), .int (sTi S), .ref (q 1), .ref (q 6), .ref (q 10)])), (q 1, .inr (3, [.int (sAd S), .ref (q 2), .ref (q 3), .ref (q 4), .ref (q 5)])), (q 2, .inl (cI, 40, .inl (sX S))), (q 3, .inl (cI, 40, .inl (sY S))), (q 4, .inl (cI, 40, .inl (sW S))), (q 5, .inl (cI, 40, .inl (sL S))), (q 6, .inr (2, [.int (sFo S), .ref (q 7), .ref (q 8), .ref (q 9)])), (q 7, .inl (cI, 40, .inl (sLe S))), (q 8, .inl (cI, 40, .inl (sTo S))), (q 9, .inl (cI, 40, .inl (sSc S))), (q 10, .inr (0, [.ref (q 11)])), (q 11, .inl (cI, 1600, .inl (sD S)))]
/-- the reference: its row of numbers, how many states it keeps, its four -/
abbrev MS : Type := FI × Int32 × FI
abbrev mR (M : MS) : FI := M.1
abbrev mK (M : MS) : Int32 := M.2.1
abbrev mF (M : MS) : FI := M.2.2
abbrev uR (M : MS) (v : FI) : MS := (v, M.2)
abbrev uK (M : MS) (v : Int32) : MS := (M.1, v, M.2.2)
abbrev uF (M : MS) (v : FI) : MS := (M.1, M.2.1, v)
abbrev zMod (cI : ClassId) (r : Nat → Nat) (M : MS) : va_W := [(r 0, .inr (6, [.ref (r 1), .int (mK M), .ref (r 2)])), (r 1, .inl (cI, 11784, .inl (mR M))), (r 2, .inl (cI, 4, .inl (mF M)))]
abbrev nC (i : Int32) : Nat := i.toNatClampNeg
theorem z_in40 {i : Int32} (h0 : ¬ i < 0) (h1 : ¬ (40 : Int32) ≤ i) : vp_in i 40 := by
  rw [vp_in_iff]
  have h2 : ¬ i.toInt < 0 := fun h => h0 (Int32.lt_iff_toInt_lt.mpr h)
  have h3 : ¬ (40 : Int) ≤ i.toInt := fun h => h1 (Int32.le_iff_toInt_le.mpr h)
  omega
theorem z_exit {k N : Nat} (hN : N < 2 ^ 31) (h1 : k ≤ N) (c : nI N ≤ nI k) : k = N := by
  have := (nI_leI hN (by omega : k < 2 ^ 31)).mp c
  omega
theorem z_cont {k N : Nat} (hN : N < 2 ^ 31) (h1 : k ≤ N) (c : ¬ nI N ≤ nI k) : k < N := by
  rcases Nat.lt_or_ge k N with h | h
  · exact h
  · exact absurd (nI_le h (by omega)) c
def btw (n lo hi : Int32) : Bool := !decide (n < lo) && !decide (hi < n)
/-- a value behind a seal: nothing unfolds it by itself -/
noncomputable def sl {α : Type} (x : α) : α := Classical.choose (⟨x, rfl⟩ : ∃ y : α, y = x)
theorem sl_eq {α : Type} (x : α) : sl x = x := Classical.choose_spec (⟨x, rfl⟩ : ∃ y : α, y = x)
theorem z_app2 {a b c d : va_W} (h : a = b) (h2 : c = d) : a ++ c = b ++ d := by rw [h, h2]
end
section
/-! small numbers, and the points -/
theorem z_swN {n : Nat} {x : Int32} (hn : n < 2 ^ 31) (h : ∀ k, k < n → ¬ x = nI k) : x.toInt < 0 ∨ ((n : Int) - 1) < x.toInt := by
  rcases Int.lt_or_le x.toInt 0 with h0 | h0
  · exact Or.inl h0
  · right
    rcases Int.lt_or_le ((n : Int) - 1) x.toInt with h1 | h1
    · exact h1
    · exfalso
      have hx : x = nI x.toInt.toNat := by
        apply Int32.toInt_inj.mp
        rw [nI_toInt (by omega)]
        omega
      exact h x.toInt.toNat (by omega) hx
def onMap (x y : Int32) : Bool := btw x 0 63 && btw y 0 63
def sideF (sc : Int32) : Int32 := if !decide (sc < 0) && !decide (4 < sc) then 64 >>> (sc &&& 31) else 0
def qLef (left side quarter : Int32) : Int32 := left + (quarter &&& 1) * side
def qTop (top side quarter : Int32) : Int32 := top + (quarter >>> ((1 : Int32) &&& 31)) * side
def pEx (S : CS) (i : Int32) : Bool := !decide (i < 0) && !decide (40 ≤ i) && !decide (sW S i.toNatClampNeg ≤ 0)
theorem pEx_in {S : CS} {i : Int32} (h : pEx S i = true) : vp_in i 40 := by
  simp [pEx] at h
  exact z_in40 (Int32.not_lt.mpr h.1.1) (Int32.not_le.mpr h.1.2)
def pXof (S : CS) (i : Int32) : Int32 := if pEx S i then sX S i.toNatClampNeg else -9
def pYof (S : CS) (i : Int32) : Int32 := if pEx S i then sY S i.toNatClampNeg else -9
def pWof (S : CS) (i : Int32) : Int32 := if pEx S i then sW S i.toNatClampNeg else 0
def pLof (S : CS) (i : Int32) : Int32 := if pEx S i then sL S i.toNatClampNeg else -9
def pRoom (S : CS) : Bool := btw (sAd S) 0 39
theorem btw_in {i : Int32} (h : btw i 0 39 = true) : vp_in i 40 := by
  simp [btw] at h
  refine z_in40 (Int32.not_lt.mpr h.1) (fun h2 => ?_)
  have h3 := Int32.le_iff_toInt_le.mp h.2
  have h4 := Int32.le_iff_toInt_le.mp h2
  have e1 : (39 : Int32).toInt = 39 := by decide
  have e2 : (40 : Int32).toInt = 40 := by decide
  omega
def pAd1 (S : CS) : Int32 := if pRoom S then sAd S + 1 else sAd S
def pPut (S : CS) (f : FI) (v : Int32) : FI := if pRoom S then upd f (sAd S).toNatClampNeg v else f
def pSetAt (S : CS) (f : FI) (i v : Int32) : FI := if pEx S i then upd f i.toNatClampNeg v else f
def pLies (S : CS) (i l t r b : Int32) : Bool := pEx S i && btw (sX S i.toNatClampNeg) l r && btw (sY S i.toNatClampNeg) t b
def pNum (S : CS) (l t r b : Int32) : Nat → Int32
  | 0 => 0
  | k + 1 => if pLies S (nI k) l t r b then pNum S l t r b k + 1 else pNum S l t r b k
def pWea (S : CS) (l t r b : Int32) : Nat → Int32
  | 0 => 0
  | k + 1 => if pLies S (nI k) l t r b then pWea S l t r b k + sW S (nI k).toNatClampNeg else pWea S l t r b k
def pRich (S : CS) (l t r b : Int32) : Nat → Int32
  | 0 => -9
  | k + 1 => if pLies S (nI k) l t r b && !decide (sW S (nI k).toNatClampNeg ≤ pWof S (pRich S l t r b k)) then nI k else pRich S l t r b k
def iAbs (x : Int32) : Int32 := if 0 ≤ x then x else 0 - x
def pDist (S : CS) (tx ty i : Int32) : Int32 := iAbs (sX S i.toNatClampNeg - tx) + iAbs (sY S i.toNatClampNeg - ty)
def pNear (S : CS) (tx ty : Int32) : Nat → Int32 × Int32
  | 0 => (-9, 128)
  | k + 1 => if pEx S (nI k) && !decide ((pNear S tx ty k).2 ≤ pDist S tx ty (nI k)) then (nI k, pDist S tx ty (nI k)) else pNear S tx ty k
def pNumU (S : CS) (pa : Int32) : Nat → Int32
  | 0 => 0
  | k + 1 => if pLof S (nI k) = pa then pNumU S pa k + 1 else pNumU S pa k
def pWeaU (S : CS) (pa : Int32) : Nat → Int32
  | 0 => 0
  | k + 1 => if pLof S (nI k) = pa then pWeaU S pa k + sW S (nI k).toNatClampNeg else pWeaU S pa k
def pPoor (S : CS) (pa l t r b : Int32) : Nat → Int32 × Int32
  | 0 => (-9, 101)
  | k + 1 => if decide (pLof S (nI k) = pa) && pLies S (nI k) l t r b && !decide ((pPoor S pa l t r b k).2 ≤ sW S (nI k).toNatClampNeg) then (nI k, sW S (nI k).toNatClampNeg) else pPoor S pa l t r b k
def pChl (S : CS) (fr to l t r b : Int32) : Nat → FI
  | 0 => sL S
  | k + 1 => if pLies S (nI k) l t r b && decide (pChl S fr to l t r b k (nI k).toNatClampNeg = fr) then upd (pChl S fr to l t r b k) (nI k).toNatClampNeg to else pChl S fr to l t r b k
theorem z_sw3 {x : Int32} (h0 : ¬ x = 0) (h1 : ¬ x = 1) (h2 : ¬ x = 2) (h3 : ¬ x = 3) : x.toInt < 0 ∨ (3 : Int) < x.toInt := z_swN (n := 4) (by decide) (fun k hk => by
  match k, hk with
  | 0, _ => exact h0
  | 1, _ => exact h1
  | 2, _ => exact h2
  | 3, _ => exact h3
  | k + 4, hk => exact absurd hk (by omega))
theorem z_sw4 {x : Int32} (h0 : ¬ x = 0) (h1 : ¬ x = 1) (h2 : ¬ x = 2) (h3 : ¬ x = 3) (h4 : ¬ x = 4) : x.toInt < 0 ∨ (4 : Int) < x.toInt := z_swN (n := 5) (by decide) (fun k hk => by
  match k, hk with
  | 0, _ => exact h0
  | 1, _ => exact h1
  | 2, _ => exact h2
  | 3, _ => exact h3
  | 4, _ => exact h4
  | k + 5, hk => exact absurd hk (by omega))
theorem z_sw7 {x : Int32} (h0 : ¬ x = 0) (h1 : ¬ x = 1) (h2 : ¬ x = 2) (h3 : ¬ x = 3) (h4 : ¬ x = 4) (h5 : ¬ x = 5) (h6 : ¬ x = 6) (h7 : ¬ x = 7) : x.toInt < 0 ∨ (7 : Int) < x.toInt := z_swN (n := 8) (by decide) (fun k hk => by
  match k, hk with
  | 0, _ => exact h0
  | 1, _ => exact h1
  | 2, _ => exact h2
  | 3, _ => exact h3
  | 4, _ => exact h4
  | 5, _ => exact h5
  | 6, _ => exact h6
  | 7, _ => exact h7
  | k + 8, hk => exact absurd hk (by omega))
theorem z_sw10 {x : Int32} (h0 : ¬ x = 0) (h1 : ¬ x = 1) (h2 : ¬ x = 2) (h3 : ¬ x = 3) (h4 : ¬ x = 4) (h5 : ¬ x = 5) (h6 : ¬ x = 6) (h7 : ¬ x = 7) (h8 : ¬ x = 8) (h9 : ¬ x = 9) (h10 : ¬ x = 10) : x.toInt < 0 ∨ (10 : Int) < x.toInt := z_swN (n := 11) (by decide) (fun k hk => by
  match k, hk with
  | 0, _ => exact h0
  | 1, _ => exact h1
  | 2, _ => exact h2
  | 3, _ => exact h3
  | 4, _ => exact h4
  | 5, _ => exact h5
  | 6, _ => exact h6
  | 7, _ => exact h7
  | 8, _ => exact h8
  | 9, _ => exact h9
  | 10, _ => exact h10
  | k + 11, hk => exact absurd hk (by omega))
theorem z_sw18 {x : Int32} (h0 : ¬ x = 0) (h1 : ¬ x = 1) (h2 : ¬ x = 2) (h3 : ¬ x = 3) (h4 : ¬ x = 4) (h5 : ¬ x = 5) (h6 : ¬ x = 6) (h7 : ¬ x = 7) (h8 : ¬ x = 8) (h9 : ¬ x = 9) (h10 : ¬ x = 10) (h11 : ¬ x = 11) (h12 : ¬ x = 12) (h13 : ¬ x = 13) (h14 : ¬ x = 14) (h15 : ¬ x = 15) (h16 : ¬ x = 16) (h17 : ¬ x = 17) (h18 : ¬ x = 18) : x.toInt < 0 ∨ (18 : Int) < x.toInt := z_swN (n := 19) (by decide) (fun k hk => by
  match k, hk with
  | 0, _ => exact h0
  | 1, _ => exact h1
  | 2, _ => exact h2
  | 3, _ => exact h3
  | 4, _ => exact h4
  | 5, _ => exact h5
  | 6, _ => exact h6
  | 7, _ => exact h7
  | 8, _ => exact h8
  | 9, _ => exact h9
  | 10, _ => exact h10
  | 11, _ => exact h11
  | 12, _ => exact h12
  | 13, _ => exact h13
  | 14, _ => exact h14
  | 15, _ => exact h15
  | 16, _ => exact h16
  | 17, _ => exact h17
  | 18, _ => exact h18
  | k + 19, hk => exact absurd hk (by omega))
theorem uCr_self (S : CS) : uCr S (sCr S) = S := rfl
theorem uCr_u (S : CS) (v w : Int32) : uCr (uCr S v) w = uCr S w := rfl
theorem sCr_u (S : CS) (v : Int32) : sCr (uCr S v) = v := rfl
theorem uTi_self (S : CS) : uTi S (sTi S) = S := rfl
theorem uTi_u (S : CS) (v w : Int32) : uTi (uTi S v) w = uTi S w := rfl
theorem sTi_u (S : CS) (v : Int32) : sTi (uTi S v) = v := rfl
theorem uAd_self (S : CS) : uAd S (sAd S) = S := rfl
theorem uAd_u (S : CS) (v w : Int32) : uAd (uAd S v) w = uAd S w := rfl
theorem sAd_u (S : CS) (v : Int32) : sAd (uAd S v) = v := rfl
theorem uX_self (S : CS) : uX S (sX S) = S := rfl
theorem uX_u (S : CS) (v w : FI) : uX (uX S v) w = uX S w := rfl
theorem sX_u (S : CS) (v : FI) : sX (uX S v) = v := rfl
theorem uY_self (S : CS) : uY S (sY S) = S := rfl
theorem uY_u (S : CS) (v w : FI) : uY (uY S v) w = uY S w := rfl
theorem sY_u (S : CS) (v : FI) : sY (uY S v) = v := rfl
theorem uW_self (S : CS) : uW S (sW S) = S := rfl
theorem uW_u (S : CS) (v w : FI) : uW (uW S v) w = uW S w := rfl
theorem sW_u (S : CS) (v : FI) : sW (uW S v) = v := rfl
theorem uL_self (S : CS) : uL S (sL S) = S := rfl
theorem uL_u (S : CS) (v w : FI) : uL (uL S v) w = uL S w := rfl
theorem sL_u (S : CS) (v : FI) : sL (uL S v) = v := rfl
theorem uFo_self (S : CS) : uFo S (sFo S) = S := rfl
theorem uFo_u (S : CS) (v w : Int32) : uFo (uFo S v) w = uFo S w := rfl
theorem sFo_u (S : CS) (v : Int32) : sFo (uFo S v) = v := rfl
theorem uLe_self (S : CS) : uLe S (sLe S) = S := rfl
theorem uLe_u (S : CS) (v w : FI) : uLe (uLe S v) w = uLe S w := rfl
theorem sLe_u (S : CS) (v : FI) : sLe (uLe S v) = v := rfl
theorem uTo_self (S : CS) : uTo S (sTo S) = S := rfl
theorem uTo_u (S : CS) (v w : FI) : uTo (uTo S v) w = uTo S w := rfl
theorem sTo_u (S : CS) (v : FI) : sTo (uTo S v) = v := rfl
theorem uSc_self (S : CS) : uSc S (sSc S) = S := rfl
theorem uSc_u (S : CS) (v w : FI) : uSc (uSc S v) w = uSc S w := rfl
theorem sSc_u (S : CS) (v : FI) : sSc (uSc S v) = v := rfl
theorem uD_self (S : CS) : uD S (sD S) = S := rfl
theorem uD_u (S : CS) (v w : FI) : uD (uD S v) w = uD S w := rfl
theorem sD_u (S : CS) (v : FI) : sD (uD S v) = v := rfl
def pCol (S : CS) (sd cr ro : Int32) (acc : Int32) : Nat → Int32
  | 0 => acc
  | k + 1 => if pNum S (nI k * sd) (ro * sd) (nI k * sd + sd - 1) (ro * sd + sd - 1) 40 ≤ cr then pCol S sd cr ro acc k else pCol S sd cr ro acc k + 1
def pRow (S : CS) (sd cr : Int32) (N : Nat) : Nat → Int32
  | 0 => 0
  | k + 1 => pCol S sd cr (nI k) (pRow S sd cr N k) N
def pDiv (S : CS) (cr : Int32) : Nat → Int32
  | 0 => 1
  | k + 1 => pDiv S cr k + 3 * pRow S (sideF (nI k)) cr (2 ^ k) (2 ^ k)
theorem z_sh4 : ∀ k, k < 4 → 2 ^ k < 1000 ∧ (1 : Int32) <<< (nI k &&& 31) = nI (2 ^ k) := by decide
end
section
theorem hd_X5_isBetween : yX5_isBetween.cls ≠ "java/lang/invoke/MethodHandle" ∧ yX5_isBetween.cls ≠ "java/lang/invoke/VarHandle" ∧ (parseMethodDescriptor yX5_isBetween.desc).map (fun d => d.parameters.length) = some 3 := by decide +kernel
theorem hd_X5_isOnMap : yX5_isOnMap.cls ≠ "java/lang/invoke/MethodHandle" ∧ yX5_isOnMap.cls ≠ "java/lang/invoke/VarHandle" ∧ (parseMethodDescriptor yX5_isOnMap.desc).map (fun d => d.parameters.length) = some 2 := by decide +kernel
theorem hd_X5_sideOf : yX5_sideOf.cls ≠ "java/lang/invoke/MethodHandle" ∧ yX5_sideOf.cls ≠ "java/lang/invoke/VarHandle" ∧ (parseMethodDescriptor yX5_sideOf.desc).map (fun d => d.parameters.length) = some 1 := by decide +kernel
theorem hd_X5_quarterLeft : yX5_quarterLeft.cls ≠ "java/lang/invoke/MethodHandle" ∧ yX5_quarterLeft.cls ≠ "java/lang/invoke/VarHandle" ∧ (parseMethodDescriptor yX5_quarterLeft.desc).map (fun d => d.parameters.length) = some 3 := by decide +kernel
theorem hd_X5_quarterTop : yX5_quarterTop.cls ≠ "java/lang/invoke/MethodHandle" ∧ yX5_quarterTop.cls ≠ "java/lang/invoke/VarHandle" ∧ (parseMethodDescriptor yX5_quarterTop.desc).map (fun d => d.parameters.length) = some 3 := by decide +kernel
theorem hd_X3_exists : yX3_exists.cls ≠ "java/lang/invoke/MethodHandle" ∧ yX3_exists.cls ≠ "java/lang/invoke/VarHandle" ∧ (parseMethodDescriptor yX3_exists.desc).map (fun d => d.parameters.length) = some 1 := by decide +kernel
theorem hd_X3_areFull : yX3_areFull.cls ≠ "java/lang/invoke/MethodHandle" ∧ yX3_areFull.cls ≠ "java/lang/invoke/VarHandle" ∧ (parseMethodDescriptor yX3_areFull.desc).map (fun d => d.parameters.length) = some 0 := by decide +kernel
theorem hd_X3_numberAdded : yX3_numberAdded.cls ≠ "java/lang/invoke/MethodHandle" ∧ yX3_numberAdded.cls ≠ "java/lang/invoke/VarHandle" ∧ (parseMethodDescriptor yX3_numberAdded.desc).map (fun d => d.parameters.length) = some 0 := by decide +kernel
theorem hd_X3_xOf : yX3_xOf.cls ≠ "java/lang/invoke/MethodHandle" ∧ yX3_xOf.cls ≠ "java/lang/invoke/VarHandle" ∧ (parseMethodDescriptor yX3_xOf.desc).map (fun d => d.parameters.length) = some 1 := by decide +kernel
theorem hd_X3_yOf : yX3_yOf.cls ≠ "java/lang/invoke/MethodHandle" ∧ yX3_yOf.cls ≠ "java/lang/invoke/VarHandle" ∧ (parseMethodDescriptor yX3_yOf.desc).map (fun d => d.parameters.length) = some 1 := by decide +kernel
theorem hd_X3_wealthOf : yX3_wealthOf.cls ≠ "java/lang/invoke/MethodHandle" ∧ yX3_wealthOf.cls ≠ "java/lang/invoke/VarHandle" ∧ (parseMethodDescriptor yX3_wealthOf.desc).map (fun d => d.parameters.length) = some 1 := by decide +kernel
theorem hd_X3_lordOf : yX3_lordOf.cls ≠ "java/lang/invoke/MethodHandle" ∧ yX3_lordOf.cls ≠ "java/lang/invoke/VarHandle" ∧ (parseMethodDescriptor yX3_lordOf.desc).map (fun d => d.parameters.length) = some 1 := by decide +kernel
theorem hd_X3_place : yX3_place.cls ≠ "java/lang/invoke/MethodHandle" ∧ yX3_place.cls ≠ "java/lang/invoke/VarHandle" ∧ (parseMethodDescriptor yX3_place.desc).map (fun d => d.parameters.length) = some 4 := by decide +kernel
theorem hd_X3_takeAway : yX3_takeAway.cls ≠ "java/lang/invoke/MethodHandle" ∧ yX3_takeAway.cls ≠ "java/lang/invoke/VarHandle" ∧ (parseMethodDescriptor yX3_takeAway.desc).map (fun d => d.parameters.length) = some 1 := by decide +kernel
theorem hd_X3_shift : yX3_shift.cls ≠ "java/lang/invoke/MethodHandle" ∧ yX3_shift.cls ≠ "java/lang/invoke/VarHandle" ∧ (parseMethodDescriptor yX3_shift.desc).map (fun d => d.parameters.length) = some 3 := by decide +kernel
theorem hd_X3_setLord : yX3_setLord.cls ≠ "java/lang/invoke/MethodHandle" ∧ yX3_setLord.cls ≠ "java/lang/invoke/VarHandle" ∧ (parseMethodDescriptor yX3_setLord.desc).map (fun d => d.parameters.length) = some 2 := by decide +kernel
theorem hd_X3_liesIn : yX3_liesIn.cls ≠ "java/lang/invoke/MethodHandle" ∧ yX3_liesIn.cls ≠ "java/lang/invoke/VarHandle" ∧ (parseMethodDescriptor yX3_liesIn.desc).map (fun d => d.parameters.length) = some 5 := by decide +kernel
theorem hd_X3_numberIn : yX3_numberIn.cls ≠ "java/lang/invoke/MethodHandle" ∧ yX3_numberIn.cls ≠ "java/lang/invoke/VarHandle" ∧ (parseMethodDescriptor yX3_numberIn.desc).map (fun d => d.parameters.length) = some 4 := by decide +kernel
theorem hd_X3_number : yX3_number.cls ≠ "java/lang/invoke/MethodHandle" ∧ yX3_number.cls ≠ "java/lang/invoke/VarHandle" ∧ (parseMethodDescriptor yX3_number.desc).map (fun d => d.parameters.length) = some 0 := by decide +kernel
theorem hd_X3_wealthIn : yX3_wealthIn.cls ≠ "java/lang/invoke/MethodHandle" ∧ yX3_wealthIn.cls ≠ "java/lang/invoke/VarHandle" ∧ (parseMethodDescriptor yX3_wealthIn.desc).map (fun d => d.parameters.length) = some 4 := by decide +kernel
theorem hd_X3_richestIn : yX3_richestIn.cls ≠ "java/lang/invoke/MethodHandle" ∧ yX3_richestIn.cls ≠ "java/lang/invoke/VarHandle" ∧ (parseMethodDescriptor yX3_richestIn.desc).map (fun d => d.parameters.length) = some 4 := by decide +kernel
theorem hd_X3_nearestTo : yX3_nearestTo.cls ≠ "java/lang/invoke/MethodHandle" ∧ yX3_nearestTo.cls ≠ "java/lang/invoke/VarHandle" ∧ (parseMethodDescriptor yX3_nearestTo.desc).map (fun d => d.parameters.length) = some 2 := by decide +kernel
theorem hd_X3_numberUnder : yX3_numberUnder.cls ≠ "java/lang/invoke/MethodHandle" ∧ yX3_numberUnder.cls ≠ "java/lang/invoke/VarHandle" ∧ (parseMethodDescriptor yX3_numberUnder.desc).map (fun d => d.parameters.length) = some 1 := by decide +kernel
theorem hd_X3_wealthUnder : yX3_wealthUnder.cls ≠ "java/lang/invoke/MethodHandle" ∧ yX3_wealthUnder.cls ≠ "java/lang/invoke/VarHandle" ∧ (parseMethodDescriptor yX3_wealthUnder.desc).map (fun d => d.parameters.length) = some 1 := by decide +kernel
theorem hd_X3_poorestUnder : yX3_poorestUnder.cls ≠ "java/lang/invoke/MethodHandle" ∧ yX3_poorestUnder.cls ≠ "java/lang/invoke/VarHandle" ∧ (parseMethodDescriptor yX3_poorestUnder.desc).map (fun d => d.parameters.length) = some 5 := by decide +kernel
theorem hd_X3_changeLord : yX3_changeLord.cls ≠ "java/lang/invoke/MethodHandle" ∧ yX3_changeLord.cls ≠ "java/lang/invoke/VarHandle" ∧ (parseMethodDescriptor yX3_changeLord.desc).map (fun d => d.parameters.length) = some 6 := by decide +kernel
theorem hd_X3_crowdedCells : yX3_crowdedCells.cls ≠ "java/lang/invoke/MethodHandle" ∧ yX3_crowdedCells.cls ≠ "java/lang/invoke/VarHandle" ∧ (parseMethodDescriptor yX3_crowdedCells.desc).map (fun d => d.parameters.length) = some 2 := by decide +kernel
theorem hd_X3_cellsIfDivided : yX3_cellsIfDivided.cls ≠ "java/lang/invoke/MethodHandle" ∧ yX3_cellsIfDivided.cls ≠ "java/lang/invoke/VarHandle" ∧ (parseMethodDescriptor yX3_cellsIfDivided.desc).map (fun d => d.parameters.length) = some 1 := by decide +kernel
set_option maxHeartbeats 800000 in
set_option maxRecDepth 100000 in
theorem c_X5_isBetween (l : Launch) (D : va_G) (cI cQ : ClassId) (n lo hi : Int32) : zRO l yX5_isBetween (Cond.code yX5_isBetween cX5_isBetween 3 (some .boolean) :: zT) 0 0 [.int n, .int lo, .int hi] D cI cQ ([]) (bI (btw n lo hi)) := by
  refine zRO.of (cc := cX5_isBetween) (maxL := 3) (ret := some .boolean) (by decide +kernel) rfl (Nat.le_of_ble_eq_true rfl) ?_
  intro pg e s mi args below meth cd hx hb hr hts hown hlocks hml hP hK ls hl
  have hz : ∀ w ∈ zT, w.before args s = true := fun w h => hts w (List.mem_cons_of_mem _ h)
  have hl : lv_has ls 3 [(0, .int (n)), (1, .int (lo)), (2, .int (hi))] := hl
  refine lv_iload_n hx hb dX5_isBetween_0 rfl (lv_at hl 0 rfl) ?_
  refine lv_iload_n hx hb dX5_isBetween_1 rfl (lv_at hl 1 rfl) ?_
  refine lv_icmp_lt (tgt := 14) hx hb dX5_isBetween_2 (by decide) (fun c_2 => ?_) (fun c_2 => ?_)
  · have c_2 : (n : Int32) < lo := c_2
    refine lv_iconst (v := 0) hx hb dX5_isBetween_14 (by decide) ?_
    exact z_iret hx hb hr rfl hlocks (by simp [btw, bI, c_2]) dX5_isBetween_15
  · have c_2 : ¬ ((n : Int32) < lo) := c_2
    refine lv_iload_n hx hb dX5_isBetween_5 rfl (lv_at hl 0 rfl) ?_
    refine lv_iload_n hx hb dX5_isBetween_6 rfl (lv_at hl 2 rfl) ?_
    refine lv_icmp_gt (tgt := 14) hx hb dX5_isBetween_7 (by decide) (fun c_7 => ?_) (fun c_7 => ?_)
    · have c_7 : (hi : Int32) < n := c_7
      refine lv_iconst (v := 0) hx hb dX5_isBetween_14 (by decide) ?_
      exact z_iret hx hb hr rfl hlocks (by simp [btw, bI, c_2, c_7]) dX5_isBetween_15
    · have c_7 : ¬ ((hi : Int32) < n) := c_7
      refine lv_iconst (v := 1) hx hb dX5_isBetween_10 (by decide) ?_
      refine lv_goto (tgt := 15) hx hb dX5_isBetween_11 (by decide) ?_
      exact z_iret hx hb hr rfl hlocks (by simp [btw, bI, c_2, c_7]) dX5_isBetween_15
set_option maxHeartbeats 800000 in
set_option maxRecDepth 100000 in
theorem c_X5_isOnMap (l : Launch) (D : va_G) (cI cQ : ClassId) (x y : Int32) : zRO l yX5_isOnMap (Cond.code yX5_isOnMap cX5_isOnMap 2 (some .boolean) :: zT) 1 22 [.int x, .int y] D cI cQ ([]) (bI (onMap x y)) := by
  refine zRO.of (cc := cX5_isOnMap) (maxL := 2) (ret := some .boolean) (by decide +kernel) rfl (Nat.le_of_ble_eq_true rfl) ?_
  intro pg e s mi args below meth cd hx hb hr hts hown hlocks hml hP hK ls hl
  have hz : ∀ w ∈ zT, w.before args s = true := fun w h => hts w (List.mem_cons_of_mem _ h)
  have hl : lv_has ls 2 [(0, .int (x)), (1, .int (y))] := hl
  refine lv_iload_n hx hb dX5_isOnMap_0 rfl (lv_at hl 0 rfl) ?_
  refine lv_iconst (v := 0) hx hb dX5_isOnMap_1 (by decide) ?_
  refine lv_bipush (v := 63) hx hb dX5_isOnMap_2 (by decide) ?_
  refine z_ro (va_runS (As := [.int (x), .int (0 : Int32), .int (63 : Int32)]) (rest := []) ⟨hx, hb, hml, hown, hz⟩ (c_X5_isBetween l D cI cQ x (0 : Int32) (63 : Int32)) (zcwS 3 hz q1_138 q1_58 q1_1 q1_59 hd_X5_isBetween (Nat.le_of_ble_eq_true rfl) (Nat.le_of_ble_eq_true rfl)) (z_ps hK z_nil) rfl rfl hl.1 rfl (lv_room (Nat.le_of_ble_eq_true rfl)) dX5_isOnMap_4 ⟨(Nat.le_of_ble_eq_true rfl), (Nat.le_of_ble_eq_true rfl)⟩) ?_
  refine lv_if_eq (tgt := 24) hx hb dX5_isOnMap_7 (by decide) (fun c_7 => ?_) (fun c_7 => ?_)
  · have c_7 : (btw x (0 : Int32) (63 : Int32)) = false := bI_f c_7
    refine lv_iconst (v := 0) hx hb dX5_isOnMap_24 (by decide) ?_
    exact z_iret hx hb hr rfl hlocks (by simp [onMap, bI, c_7]) dX5_isOnMap_25
  · have c_7 : (btw x (0 : Int32) (63 : Int32)) = true := bI_t c_7
    refine lv_iload_n hx hb dX5_isOnMap_10 rfl (lv_at hl 1 rfl) ?_
    refine lv_iconst (v := 0) hx hb dX5_isOnMap_11 (by decide) ?_
    refine lv_bipush (v := 63) hx hb dX5_isOnMap_12 (by decide) ?_
    refine z_ro (va_runS (As := [.int (y), .int (0 : Int32), .int (63 : Int32)]) (rest := []) ⟨hx, hb, hml, hown, hz⟩ (c_X5_isBetween l D cI cQ y (0 : Int32) (63 : Int32)) (zcwS 3 hz q1_138 q1_58 q1_1 q1_59 hd_X5_isBetween (Nat.le_of_ble_eq_true rfl) (Nat.le_of_ble_eq_true rfl)) (z_ps hK z_nil) rfl rfl hl.1 rfl (lv_room (Nat.le_of_ble_eq_true rfl)) dX5_isOnMap_14 ⟨(Nat.le_of_ble_eq_true rfl), (Nat.le_of_ble_eq_true rfl)⟩) ?_
    refine lv_if_eq (tgt := 24) hx hb dX5_isOnMap_17 (by decide) (fun c_17 => ?_) (fun c_17 => ?_)
    · have c_17 : (btw y (0 : Int32) (63 : Int32)) = false := bI_f c_17
      refine lv_iconst (v := 0) hx hb dX5_isOnMap_24 (by decide) ?_
      exact z_iret hx hb hr rfl hlocks (by simp [onMap, bI, c_7, c_17]) dX5_isOnMap_25
    · have c_17 : (btw y (0 : Int32) (63 : Int32)) = true := bI_t c_17
      refine lv_iconst (v := 1) hx hb dX5_isOnMap_20 (by decide) ?_
      refine lv_goto (tgt := 25) hx hb dX5_isOnMap_21 (by decide) ?_
      exact z_iret hx hb hr rfl hlocks (by simp [onMap, bI, c_7, c_17]) dX5_isOnMap_25
set_option maxHeartbeats 800000 in
set_option maxRecDepth 100000 in
theorem c_X5_sideOf (l : Launch) (D : va_G) (cI cQ : ClassId) (sc : Int32) : zRO l yX5_sideOf (Cond.code yX5_sideOf cX5_sideOf 1 (some .int) :: zT) 0 0 [.int sc] D cI cQ ([]) (sideF sc) := by
  refine zRO.of (cc := cX5_sideOf) (maxL := 1) (ret := some .int) (by decide +kernel) rfl (Nat.le_of_ble_eq_true rfl) ?_
  intro pg e s mi args below meth cd hx hb hr hts hown hlocks hml hP hK ls hl
  have hz : ∀ w ∈ zT, w.before args s = true := fun w h => hts w (List.mem_cons_of_mem _ h)
  have hl : lv_has ls 1 [(0, .int (sc))] := hl
  refine lv_iload_n hx hb dX5_sideOf_0 rfl (lv_at hl 0 rfl) ?_
  refine lv_if_lt (tgt := 16) hx hb dX5_sideOf_1 (by decide) (fun c_1 => ?_) (fun c_1 => ?_)
  · have c_1 : (sc : Int32) < 0 := c_1
    refine lv_iconst (v := 0) hx hb dX5_sideOf_16 (by decide) ?_
    exact z_iret hx hb hr rfl hlocks (by simp [sideF, c_1]) dX5_sideOf_17
  · have c_1 : ¬ ((sc : Int32) < 0) := c_1
    refine lv_iload_n hx hb dX5_sideOf_4 rfl (lv_at hl 0 rfl) ?_
    refine lv_iconst (v := 4) hx hb dX5_sideOf_5 (by decide) ?_
    refine lv_icmp_gt (tgt := 16) hx hb dX5_sideOf_6 (by decide) (fun c_6 => ?_) (fun c_6 => ?_)
    · have c_6 : ((4 : Int32) : Int32) < sc := c_6
      refine lv_iconst (v := 0) hx hb dX5_sideOf_16 (by decide) ?_
      exact z_iret hx hb hr rfl hlocks (by simp [sideF, c_1, c_6]) dX5_sideOf_17
    · have c_6 : ¬ (((4 : Int32) : Int32) < sc) := c_6
      refine lv_bipush (v := 64) hx hb dX5_sideOf_9 (by decide) ?_
      refine lv_iload_n hx hb dX5_sideOf_11 rfl (lv_at hl 0 rfl) ?_
      refine lv_ishr hx hb dX5_sideOf_12 ?_
      refine lv_goto (tgt := 17) hx hb dX5_sideOf_13 (by decide) ?_
      exact z_iret hx hb hr rfl hlocks (by simp [sideF, c_1, c_6]) dX5_sideOf_17
set_option maxHeartbeats 800000 in
set_option maxRecDepth 100000 in
theorem c_X5_quarterLeft (l : Launch) (D : va_G) (cI cQ : ClassId) (le si qu : Int32) : zRO l yX5_quarterLeft (Cond.code yX5_quarterLeft cX5_quarterLeft 3 (some .int) :: zT) 0 0 [.int le, .int si, .int qu] D cI cQ ([]) (qLef le si qu) := by
  refine zRO.of (cc := cX5_quarterLeft) (maxL := 3) (ret := some .int) (by decide +kernel) rfl (Nat.le_of_ble_eq_true rfl) ?_
  intro pg e s mi args below meth cd hx hb hr hts hown hlocks hml hP hK ls hl
  have hz : ∀ w ∈ zT, w.before args s = true := fun w h => hts w (List.mem_cons_of_mem _ h)
  have hl : lv_has ls 3 [(0, .int (le)), (1, .int (si)), (2, .int (qu))] := hl
  refine lv_iload_n hx hb dX5_quarterLeft_0 rfl (lv_at hl 0 rfl) ?_
  refine lv_iload_n hx hb dX5_quarterLeft_1 rfl (lv_at hl 2 rfl) ?_
  refine lv_iconst (v := 1) hx hb dX5_quarterLeft_2 (by decide) ?_
  refine lv_iand hx hb dX5_quarterLeft_3 ?_
  refine lv_iload_n hx hb dX5_quarterLeft_4 rfl (lv_at hl 1 rfl) ?_
  refine lv_imul hx hb dX5_quarterLeft_5 ?_
  refine lv_iadd hx hb dX5_quarterLeft_6 ?_
  exact z_iret hx hb hr rfl hlocks (by rfl) dX5_quarterLeft_7
set_option maxHeartbeats 800000 in
set_option maxRecDepth 100000 in
theorem c_X5_quarterTop (l : Launch) (D : va_G) (cI cQ : ClassId) (le si qu : Int32) : zRO l yX5_quarterTop (Cond.code yX5_quarterTop cX5_quarterTop 3 (some .int) :: zT) 0 0 [.int le, .int si, .int qu] D cI cQ ([]) (qTop le si qu) := by
  refine zRO.of (cc := cX5_quarterTop) (maxL := 3) (ret := some .int) (by decide +kernel) rfl (Nat.le_of_ble_eq_true rfl) ?_
  intro pg e s mi args below meth cd hx hb hr hts hown hlocks hml hP hK ls hl
  have hz : ∀ w ∈ zT, w.before args s = true := fun w h => hts w (List.mem_cons_of_mem _ h)
  have hl : lv_has ls 3 [(0, .int (le)), (1, .int (si)), (2, .int (qu))] := hl
  refine lv_iload_n hx hb dX5_quarterTop_0 rfl (lv_at hl 0 rfl) ?_
  refine lv_iload_n hx hb dX5_quarterTop_1 rfl (lv_at hl 2 rfl) ?_
  refine lv_iconst (v := 1) hx hb dX5_quarterTop_2 (by decide) ?_
  refine lv_ishr hx hb dX5_quarterTop_3 ?_
  refine lv_iload_n hx hb dX5_quarterTop_4 rfl (lv_at hl 1 rfl) ?_
  refine lv_imul hx hb dX5_quarterTop_5 ?_
  refine lv_iadd hx hb dX5_quarterTop_6 ?_
  exact z_iret hx hb hr rfl hlocks (by simp [qTop]) dX5_quarterTop_7
set_option maxHeartbeats 800000 in
set_option maxRecDepth 100000 in
theorem c_X3_exists (l : Launch) (D : va_G) (cI cQ : ClassId) (q : Nat → Nat) (S : CS) (i : Int32) : zRO l yX3_exists (Cond.code yX3_exists cX3_exists 2 (some .boolean) :: zT) 0 0 [.ref (q 1), .int i] D cI cQ (zPts cI q S) (bI (pEx S i)) := by
  refine zRO.of (cc := cX3_exists) (maxL := 2) (ret := some .boolean) (by decide +kernel) rfl (Nat.le_of_ble_eq_true rfl) ?_
  intro pg e s mi args below meth cd hx hb hr hts hown hlocks hml hP hK ls hl
  have hz : ∀ w ∈ zT, w.before args s = true := fun w h => hts w (List.mem_cons_of_mem _ h)
  have hl : lv_has ls 2 [(0, .ref (q 1)), (1, .int (i))] := hl
  refine lv_iload_n hx hb dX3_exists_0 rfl (lv_at hl 1 rfl) ?_
  refine lv_if_lt (tgt := 23) hx hb dX3_exists_1 (by decide) (fun c_1 => ?_) (fun c_1 => ?_)
  · have c_1 : (i : Int32) < 0 := c_1
    refine lv_iconst (v := 0) hx hb dX3_exists_23 (by decide) ?_
    exact z_iret hx hb hr rfl hlocks (by simp [pEx, bI, c_1]) dX3_exists_24
  · have c_1 : ¬ ((i : Int32) < 0) := c_1
    refine lv_iload_n hx hb dX3_exists_4 rfl (lv_at hl 1 rfl) ?_
    refine lv_bipush (v := 40) hx hb dX3_exists_5 (by decide) ?_
    refine lv_icmp_ge (tgt := 23) hx hb dX3_exists_7 (by decide) (fun c_7 => ?_) (fun c_7 => ?_)
    · have c_7 : ((40 : Int32) : Int32) ≤ i := c_7
      refine lv_iconst (v := 0) hx hb dX3_exists_23 (by decide) ?_
      exact z_iret hx hb hr rfl hlocks (by simp [pEx, bI, c_1, c_7]) dX3_exists_24
    · have c_7 : ¬ (((40 : Int32) : Int32) ≤ i) := c_7
      refine lv_aload_n hx hb dX3_exists_10 rfl (lv_at hl 0 rfl) ?_
      refine va_get (D := D) (ci := 3) (v := .ref (q 4)) (C := RX3) (T := TX3) (N := 5) hx hb hz inZ3 hown hK.1 hP 0 rfl rfl 3 (by decide) (hz _ q1_33) (fun _ h9 => h9) rfl dX3_exists_11 ?_
      refine lv_iload_n hx hb dX3_exists_14 rfl (lv_at hl 1 rfl) ?_
      refine va_iald (f := sW S) hx hb hK.1 hP 3 0 rfl rfl (i := i) (z_in40 c_1 c_7) dX3_exists_15 ?_
      refine lv_if_le (tgt := 23) hx hb dX3_exists_16 (by decide) (fun c_16 => ?_) (fun c_16 => ?_)
      · have c_16 : ((sW S) i.toNatClampNeg : Int32) ≤ 0 := c_16
        refine lv_iconst (v := 0) hx hb dX3_exists_23 (by decide) ?_
        exact z_iret hx hb hr rfl hlocks (by simp [pEx, bI, c_1, c_7, c_16]) dX3_exists_24
      · have c_16 : ¬ (((sW S) i.toNatClampNeg : Int32) ≤ 0) := c_16
        refine lv_iconst (v := 1) hx hb dX3_exists_19 (by decide) ?_
        refine lv_goto (tgt := 24) hx hb dX3_exists_20 (by decide) ?_
        exact z_iret hx hb hr rfl hlocks (by simp [pEx, bI, c_1, c_7, c_16]) dX3_exists_24
set_option maxHeartbeats 800000 in
set_option maxRecDepth 100000 in
theorem c_X3_areFull (l : Launch) (D : va_G) (cI cQ : ClassId) (q : Nat → Nat) (S : CS) : zRO l yX3_areFull (Cond.code yX3_areFull cX3_areFull 1 (some .boolean) :: zT) 0 0 [.ref (q 1)] D cI cQ (zPts cI q S) (bI (!decide (sAd S < 40))) := by
  refine zRO.of (cc := cX3_areFull) (maxL := 1) (ret := some .boolean) (by decide +kernel) rfl (Nat.le_of_ble_eq_true rfl) ?_
  intro pg e s mi args below meth cd hx hb hr hts hown hlocks hml hP hK ls hl
  have hz : ∀ w ∈ zT, w.before args s = true := fun w h => hts w (List.mem_cons_of_mem _ h)
  have hl : lv_has ls 1 [(0, .ref (q 1))] := hl
  refine lv_aload_n hx hb dX3_areFull_0 rfl (lv_at hl 0 rfl) ?_
  refine va_get (D := D) (ci := 3) (v := .int (sAd S)) (C := RX3) (T := TX3) (N := 5) hx hb hz inZ3 hown hK.1 hP 0 rfl rfl 0 (by decide) (hz _ q1_30) (fun _ h9 => h9) rfl dX3_areFull_1 ?_
  refine lv_bipush (v := 40) hx hb dX3_areFull_4 (by decide) ?_
  refine lv_icmp_lt (tgt := 13) hx hb dX3_areFull_6 (by decide) (fun c_6 => ?_) (fun c_6 => ?_)
  · have c_6 : (sAd S : Int32) < (40 : Int32) := c_6
    refine lv_iconst (v := 0) hx hb dX3_areFull_13 (by decide) ?_
    exact z_iret hx hb hr rfl hlocks (by simp [bI, c_6]) dX3_areFull_14
  · have c_6 : ¬ ((sAd S : Int32) < (40 : Int32)) := c_6
    refine lv_iconst (v := 1) hx hb dX3_areFull_9 (by decide) ?_
    refine lv_goto (tgt := 14) hx hb dX3_areFull_10 (by decide) ?_
    exact z_iret hx hb hr rfl hlocks (by simp [bI, c_6]) dX3_areFull_14
set_option maxHeartbeats 800000 in
set_option maxRecDepth 100000 in
theorem c_X3_numberAdded (l : Launch) (D : va_G) (cI cQ : ClassId) (q : Nat → Nat) (S : CS) : zRO l yX3_numberAdded (Cond.code yX3_numberAdded cX3_numberAdded 1 (some .int) :: zT) 0 0 [.ref (q 1)] D cI cQ (zPts cI q S) (sAd S) := by
  refine zRO.of (cc := cX3_numberAdded) (maxL := 1) (ret := some .int) (by decide +kernel) rfl (Nat.le_of_ble_eq_true rfl) ?_
  intro pg e s mi args below meth cd hx hb hr hts hown hlocks hml hP hK ls hl
  have hz : ∀ w ∈ zT, w.before args s = true := fun w h => hts w (List.mem_cons_of_mem _ h)
  have hl : lv_has ls 1 [(0, .ref (q 1))] := hl
  refine lv_aload_n hx hb dX3_numberAdded_0 rfl (lv_at hl 0 rfl) ?_
  refine va_get (D := D) (ci := 3) (v := .int (sAd S)) (C := RX3) (T := TX3) (N := 5) hx hb hz inZ3 hown hK.1 hP 0 rfl rfl 0 (by decide) (hz _ q1_30) (fun _ h9 => h9) rfl dX3_numberAdded_1 ?_
  exact z_iret hx hb hr rfl hlocks (by simp []) dX3_numberAdded_4
set_option maxHeartbeats 800000 in
set_option maxRecDepth 100000 in
theorem c_X3_xOf (l : Launch) (D : va_G) (cI cQ : ClassId) (q : Nat → Nat) (S : CS) (i : Int32) : zRO l yX3_xOf (Cond.code yX3_xOf cX3_xOf 2 (some .int) :: zT) 1 21 [.ref (q 1), .int i] D cI cQ (zPts cI q S) (pXof S i) := by
  refine zRO.of (cc := cX3_xOf) (maxL := 2) (ret := some .int) (by decide +kernel) rfl (Nat.le_of_ble_eq_true rfl) ?_
  intro pg e s mi args below meth cd hx hb hr hts hown hlocks hml hP hK ls hl
  have hz : ∀ w ∈ zT, w.before args s = true := fun w h => hts w (List.mem_cons_of_mem _ h)
  have hl : lv_has ls 2 [(0, .ref (q 1)), (1, .int (i))] := hl
  refine lv_aload_n hx hb dX3_xOf_0 rfl (lv_at hl 0 rfl) ?_
  refine lv_iload_n hx hb dX3_xOf_1 rfl (lv_at hl 1 rfl) ?_
  refine z_ro (va_runV (As := [.int (i)]) (rest := []) ⟨hx, hb, hml, hown, hz⟩ (c_X3_exists l D cI cQ q S i) (zcwV 1 hz q2_3 q2_4 q2_5 q1_3 q2_6 hd_X3_exists (Nat.le_of_ble_eq_true rfl) (Nat.le_of_ble_eq_true rfl)) (z_pv (ci := 3) (q := (RX3, TX3, 5)) hK hP rfl rfl) rfl rfl hl.1 rfl (lv_room (Nat.le_of_ble_eq_true rfl)) dX3_xOf_2 ⟨(Nat.le_of_ble_eq_true rfl), (Nat.le_of_ble_eq_true rfl)⟩) ?_
  refine lv_if_eq (tgt := 17) hx hb dX3_xOf_5 (by decide) (fun c_5 => ?_) (fun c_5 => ?_)
  · have c_5 : (pEx S i) = false := bI_f c_5
    refine lv_bipush (v := (-9)) hx hb dX3_xOf_17 (by decide) ?_
    exact z_iret hx hb hr rfl hlocks (by simp [pXof, c_5]) dX3_xOf_19
  · have c_5 : (pEx S i) = true := bI_t c_5
    refine lv_aload_n hx hb dX3_xOf_8 rfl (lv_at hl 0 rfl) ?_
    refine va_get (D := D) (ci := 3) (v := .ref (q 2)) (C := RX3) (T := TX3) (N := 5) hx hb hz inZ3 hown hK.1 hP 0 rfl rfl 1 (by decide) (hz _ q1_31) (fun _ h9 => h9) rfl dX3_xOf_9 ?_
    refine lv_iload_n hx hb dX3_xOf_12 rfl (lv_at hl 1 rfl) ?_
    refine va_iald (f := sX S) hx hb hK.1 hP 1 0 rfl rfl (i := i) (pEx_in c_5) dX3_xOf_13 ?_
    refine lv_goto (tgt := 19) hx hb dX3_xOf_14 (by decide) ?_
    exact z_iret hx hb hr rfl hlocks (by simp [pXof, c_5]) dX3_xOf_19
set_option maxHeartbeats 800000 in
set_option maxRecDepth 100000 in
theorem c_X3_yOf (l : Launch) (D : va_G) (cI cQ : ClassId) (q : Nat → Nat) (S : CS) (i : Int32) : zRO l yX3_yOf (Cond.code yX3_yOf cX3_yOf 2 (some .int) :: zT) 1 21 [.ref (q 1), .int i] D cI cQ (zPts cI q S) (pYof S i) := by
  refine zRO.of (cc := cX3_yOf) (maxL := 2) (ret := some .int) (by decide +kernel) rfl (Nat.le_of_ble_eq_true rfl) ?_
  intro pg e s mi args below meth cd hx hb hr hts hown hlocks hml hP hK ls hl
  have hz : ∀ w ∈ zT, w.before args s = true := fun w h => hts w (List.mem_cons_of_mem _ h)
  have hl : lv_has ls 2 [(0, .ref (q 1)), (1, .int (i))] := hl
  refine lv_aload_n hx hb dX3_yOf_0 rfl (lv_at hl 0 rfl) ?_
  refine lv_iload_n hx hb dX3_yOf_1 rfl (lv_at hl 1 rfl) ?_
  refine z_ro (va_runV (As := [.int (i)]) (rest := []) ⟨hx, hb, hml, hown, hz⟩ (c_X3_exists l D cI cQ q S i) (zcwV 1 hz q2_3 q2_4 q2_5 q1_3 q2_6 hd_X3_exists (Nat.le_of_ble_eq_true rfl) (Nat.le_of_ble_eq_true rfl)) (z_pv (ci := 3) (q := (RX3, TX3, 5)) hK hP rfl rfl) rfl rfl hl.1 rfl (lv_room (Nat.le_of_ble_eq_true rfl)) dX3_yOf_2 ⟨(Nat.le_of_ble_eq_true rfl), (Nat.le_of_ble_eq_true rfl)⟩) ?_
  refine lv_if_eq (tgt := 17) hx hb dX3_yOf_5 (by decide) (fun c_5 => ?_) (fun c_5 => ?_)
  · have c_5 : (pEx S i) = false := bI_f c_5
    refine lv_bipush (v := (-9)) hx hb dX3_yOf_17 (by decide) ?_
    exact z_iret hx hb hr rfl hlocks (by simp [pYof, c_5]) dX3_yOf_19
  · have c_5 : (pEx S i) = true := bI_t c_5
    refine lv_aload_n hx hb dX3_yOf_8 rfl (lv_at hl 0 rfl) ?_
    refine va_get (D := D) (ci := 3) (v := .ref (q 3)) (C := RX3) (T := TX3) (N := 5) hx hb hz inZ3 hown hK.1 hP 0 rfl rfl 2 (by decide) (hz _ q1_32) (fun _ h9 => h9) rfl dX3_yOf_9 ?_
    refine lv_iload_n hx hb dX3_yOf_12 rfl (lv_at hl 1 rfl) ?_
    refine va_iald (f := sY S) hx hb hK.1 hP 2 0 rfl rfl (i := i) (pEx_in c_5) dX3_yOf_13 ?_
    refine lv_goto (tgt := 19) hx hb dX3_yOf_14 (by decide) ?_
    exact z_iret hx hb hr rfl hlocks (by simp [pYof, c_5]) dX3_yOf_19
set_option maxHeartbeats 800000 in
set_option maxRecDepth 100000 in
theorem c_X3_wealthOf (l : Launch) (D : va_G) (cI cQ : ClassId) (q : Nat → Nat) (S : CS) (i : Int32) : zRO l yX3_wealthOf (Cond.code yX3_wealthOf cX3_wealthOf 2 (some .int) :: zT) 1 21 [.ref (q 1), .int i] D cI cQ (zPts cI q S) (pWof S i) := by
  refine zRO.of (cc := cX3_wealthOf) (maxL := 2) (ret := some .int) (by decide +kernel) rfl (Nat.le_of_ble_eq_true rfl) ?_
  intro pg e s mi args below meth cd hx hb hr hts hown hlocks hml hP hK ls hl
  have hz : ∀ w ∈ zT, w.before args s = true := fun w h => hts w (List.mem_cons_of_mem _ h)
  have hl : lv_has ls 2 [(0, .ref (q 1)), (1, .int (i))] := hl
  refine lv_aload_n hx hb dX3_wealthOf_0 rfl (lv_at hl 0 rfl) ?_
  refine lv_iload_n hx hb dX3_wealthOf_1 rfl (lv_at hl 1 rfl) ?_
  refine z_ro (va_runV (As := [.int (i)]) (rest := []) ⟨hx, hb, hml, hown, hz⟩ (c_X3_exists l D cI cQ q S i) (zcwV 1 hz q2_3 q2_4 q2_5 q1_3 q2_6 hd_X3_exists (Nat.le_of_ble_eq_true rfl) (Nat.le_of_ble_eq_true rfl)) (z_pv (ci := 3) (q := (RX3, TX3, 5)) hK hP rfl rfl) rfl rfl hl.1 rfl (lv_room (Nat.le_of_ble_eq_true rfl)) dX3_wealthOf_2 ⟨(Nat.le_of_ble_eq_true rfl), (Nat.le_of_ble_eq_true rfl)⟩) ?_
  refine lv_if_eq (tgt := 17) hx hb dX3_wealthOf_5 (by decide) (fun c_5 => ?_) (fun c_5 => ?_)
  · have c_5 : (pEx S i) = false := bI_f c_5
    refine lv_iconst (v := 0) hx hb dX3_wealthOf_17 (by decide) ?_
    exact z_iret hx hb hr rfl hlocks (by simp [pWof, c_5]) dX3_wealthOf_18
  · have c_5 : (pEx S i) = true := bI_t c_5
    refine lv_aload_n hx hb dX3_wealthOf_8 rfl (lv_at hl 0 rfl) ?_
    refine va_get (D := D) (ci := 3) (v := .ref (q 4)) (C := RX3) (T := TX3) (N := 5) hx hb hz inZ3 hown hK.1 hP 0 rfl rfl 3 (by decide) (hz _ q1_33) (fun _ h9 => h9) rfl dX3_wealthOf_9 ?_
    refine lv_iload_n hx hb dX3_wealthOf_12 rfl (lv_at hl 1 rfl) ?_
    refine va_iald (f := sW S) hx hb hK.1 hP 3 0 rfl rfl (i := i) (pEx_in c_5) dX3_wealthOf_13 ?_
    refine lv_goto (tgt := 18) hx hb dX3_wealthOf_14 (by decide) ?_
    exact z_iret hx hb hr rfl hlocks (by simp [pWof, c_5]) dX3_wealthOf_18
set_option maxHeartbeats 800000 in
set_option maxRecDepth 100000 in
theorem c_X3_lordOf (l : Launch) (D : va_G) (cI cQ : ClassId) (q : Nat → Nat) (S : CS) (i : Int32) : zRO l yX3_lordOf (Cond.code yX3_lordOf cX3_lordOf 2 (some .int) :: zT) 1 21 [.ref (q 1), .int i] D cI cQ (zPts cI q S) (pLof S i) := by
  refine zRO.of (cc := cX3_lordOf) (maxL := 2) (ret := some .int) (by decide +kernel) rfl (Nat.le_of_ble_eq_true rfl) ?_
  intro pg e s mi args below meth cd hx hb hr hts hown hlocks hml hP hK ls hl
  have hz : ∀ w ∈ zT, w.before args s = true := fun w h => hts w (List.mem_cons_of_mem _ h)
  have hl : lv_has ls 2 [(0, .ref (q 1)), (1, .int (i))] := hl
  refine lv_aload_n hx hb dX3_lordOf_0 rfl (lv_at hl 0 rfl) ?_
  refine lv_iload_n hx hb dX3_lordOf_1 rfl (lv_at hl 1 rfl) ?_
  refine z_ro (va_runV (As := [.int (i)]) (rest := []) ⟨hx, hb, hml, hown, hz⟩ (c_X3_exists l D cI cQ q S i) (zcwV 1 hz q2_3 q2_4 q2_5 q1_3 q2_6 hd_X3_exists (Nat.le_of_ble_eq_true rfl) (Nat.le_of_ble_eq_true rfl)) (z_pv (ci := 3) (q := (RX3, TX3, 5)) hK hP rfl rfl) rfl rfl hl.1 rfl (lv_room (Nat.le_of_ble_eq_true rfl)) dX3_lordOf_2 ⟨(Nat.le_of_ble_eq_true rfl), (Nat.le_of_ble_eq_true rfl)⟩) ?_
  refine lv_if_eq (tgt := 17) hx hb dX3_lordOf_5 (by decide) (fun c_5 => ?_) (fun c_5 => ?_)
  · have c_5 : (pEx S i) = false := bI_f c_5
    refine lv_bipush (v := (-9)) hx hb dX3_lordOf_17 (by decide) ?_
    exact z_iret hx hb hr rfl hlocks (by simp [pLof, c_5]) dX3_lordOf_19
  · have c_5 : (pEx S i) = true := bI_t c_5
    refine lv_aload_n hx hb dX3_lordOf_8 rfl (lv_at hl 0 rfl) ?_
    refine va_get (D := D) (ci := 3) (v := .ref (q 5)) (C := RX3) (T := TX3) (N := 5) hx hb hz inZ3 hown hK.1 hP 0 rfl rfl 4 (by decide) (hz _ q1_34) (fun _ h9 => h9) rfl dX3_lordOf_9 ?_
    refine lv_iload_n hx hb dX3_lordOf_12 rfl (lv_at hl 1 rfl) ?_
    refine va_iald (f := sL S) hx hb hK.1 hP 4 0 rfl rfl (i := i) (pEx_in c_5) dX3_lordOf_13 ?_
    refine lv_goto (tgt := 19) hx hb dX3_lordOf_14 (by decide) ?_
    exact z_iret hx hb hr rfl hlocks (by simp [pLof, c_5]) dX3_lordOf_19
set_option maxHeartbeats 800000 in
set_option maxRecDepth 100000 in
theorem c_X3_place (l : Launch) (D : va_G) (cI cQ : ClassId) (q : Nat → Nat) (S : CS) (nx ny nw_ no : Int32) (g1 : Int32) (hg1 : g1 = pAd1 S) (g2 : FI) (hg2 : g2 = pPut S (sX S) nx) (g3 : FI) (hg3 : g3 = pPut S (sY S) ny) (g4 : FI) (hg4 : g4 = pPut S (sW S) nw_) (g5 : FI) (hg5 : g5 = pPut S (sL S) no) : zWR l yX3_place (Cond.code yX3_place cX3_place 6 (some .int) :: zT) 1 22 [.ref (q 1), .int nx, .int ny, .int nw_, .int no] D cI cQ (zPts cI q S) (some (.int ((if pRoom S then sAd S else -3)))) (zPts cI q (uL (uW (uY (uX (uAd S g1) g2) g3) g4) g5)) := by
  refine zWR.of (cc := cX3_place) (maxL := 6) (ret := some .int) (by decide +kernel) rfl (Nat.le_of_ble_eq_true rfl) ?_
  intro pg e s mi args below meth cd hx hb hr hts hown hlocks hml hP hD hS hK ls hl
  have hz : ∀ w ∈ zT, w.before args s = true := fun w h => hts w (List.mem_cons_of_mem _ h)
  have hl : lv_has ls 6 [(0, .ref (q 1)), (1, .int (nx)), (2, .int (ny)), (3, .int (nw_)), (4, .int (no))] := hl
  refine lv_aload_n hx hb dX3_place_0 rfl (lv_at hl 0 rfl) ?_
  refine va_get (D := D) (ci := 3) (v := .int (sAd S)) (C := RX3) (T := TX3) (N := 5) hx hb hz inZ3 hown hK.1 hP 0 rfl rfl 0 (by decide) (hz _ q1_30) (fun _ h9 => h9) rfl dX3_place_1 ?_
  refine lv_istore (lv' := [(5, .int (sAd S)), (0, .ref (q 1)), (1, .int (nx)), (2, .int (ny)), (3, .int (nw_)), (4, .int (no))]) hx hb dX3_place_4 hl (by decide) rfl (fun ls hl => ?_)
  refine lv_iload hx hb dX3_place_6 (lv_at hl 0 rfl) ?_
  refine lv_iconst (v := 0) hx hb dX3_place_8 (by decide) ?_
  refine lv_bipush (v := 39) hx hb dX3_place_9 (by decide) ?_
  refine z_ro (va_runSN (As := [.int (sAd S), .int (0 : Int32), .int (39 : Int32)]) (rest := []) ⟨hx, hb, hml, hown, hz⟩ (c_X5_isBetween l D cI cQ (sAd S) (0 : Int32) (39 : Int32)) (zcnS 3 hz q1_58 q1_1 q1_59 (hK.2.2.2.2.2.2.2.1) hd_X5_isBetween (Nat.le_of_ble_eq_true rfl) (Nat.le_of_ble_eq_true rfl)) (z_ps hK z_nil) rfl rfl hl.1 rfl (lv_room (Nat.le_of_ble_eq_true rfl)) dX3_place_11 ⟨(Nat.le_of_ble_eq_true rfl), (Nat.le_of_ble_eq_true rfl)⟩) ?_
  refine lv_if_ne (tgt := 20) hx hb dX3_place_14 (by decide) (fun c_14 => ?_) (fun c_14 => ?_)
  · have c_14 : (btw (sAd S) (0 : Int32) (39 : Int32)) = true := bI_t c_14
    refine lv_aload_n hx hb dX3_place_20 rfl (lv_at hl 1 rfl) ?_
    refine lv_dup hx hb dX3_place_21 rfl ?_
    refine va_get (D := D) (ci := 3) (v := .int (sAd S)) (C := RX3) (T := TX3) (N := 5) hx hb hz inZ3 hown hK.1 hP 0 rfl rfl 0 (by decide) (hz _ q1_30) (fun _ h9 => h9) rfl dX3_place_22 ?_
    refine lv_iconst (v := 1) hx hb dX3_place_25 (by decide) ?_
    refine lv_iadd hx hb dX3_place_26 ?_
    refine va_put (D := D) (ci := 3) (v := .int ((sAd S) + (1 : Int32))) (ty := .int) (C := RX3) (T := TX3) (N := 5) hx hb hz inZ3 tyX3 tyX3_ok nmX3 hown hK.1 hP hD hS 0 rfl rfl 0 (by decide) (hz _ q1_30) (fun _ h9 => h9) rfl (by decide +kernel) rfl rfl (Nat.le_of_ble_eq_true rfl) dX3_place_27 (fun H locs hP hD hS => ?_)
    have hP : va_P D vwCl (zPts cI q (uAd S ((sAd S) + (1 : Int32)))) H := hP
    have hD : va_D (zA (zPts cI q S)) (zPts cI q (uAd S ((sAd S) + (1 : Int32)))) := hD
    refine lv_aload_n hx hb dX3_place_30 rfl (lv_at hl 1 rfl) ?_
    refine va_get (D := D) (ci := 3) (v := .ref (q 2)) (C := RX3) (T := TX3) (N := 5) hx hb hz inZ3 hown hK.1 hP 0 rfl rfl 1 (by decide) (hz _ q1_31) (fun _ h9 => h9) rfl dX3_place_31 ?_
    refine lv_iload hx hb dX3_place_34 (lv_at hl 0 rfl) ?_
    refine lv_iload_n hx hb dX3_place_36 rfl (lv_at hl 2 rfl) ?_
    refine va_iast hx hb hK.1 hP hD hS 1 0 rfl rfl (i := sAd S) (btw_in c_14) dX3_place_37 (fun H locs hP hD hS => ?_)
    have hP : va_P D vwCl (zPts cI q (uX (uAd S ((sAd S) + (1 : Int32))) (upd (sX S) (sAd S).toNatClampNeg nx))) H := hP
    have hD : va_D (zA (zPts cI q S)) (zPts cI q (uX (uAd S ((sAd S) + (1 : Int32))) (upd (sX S) (sAd S).toNatClampNeg nx))) := hD
    refine lv_aload_n hx hb dX3_place_38 rfl (lv_at hl 1 rfl) ?_
    refine va_get (D := D) (ci := 3) (v := .ref (q 3)) (C := RX3) (T := TX3) (N := 5) hx hb hz inZ3 hown hK.1 hP 0 rfl rfl 2 (by decide) (hz _ q1_32) (fun _ h9 => h9) rfl dX3_place_39 ?_
    refine lv_iload hx hb dX3_place_42 (lv_at hl 0 rfl) ?_
    refine lv_iload_n hx hb dX3_place_44 rfl (lv_at hl 3 rfl) ?_
    refine va_iast hx hb hK.1 hP hD hS 2 0 rfl rfl (i := sAd S) (btw_in c_14) dX3_place_45 (fun H locs hP hD hS => ?_)
    have hP : va_P D vwCl (zPts cI q (uY (uX (uAd S ((sAd S) + (1 : Int32))) (upd (sX S) (sAd S).toNatClampNeg nx)) (upd (sY S) (sAd S).toNatClampNeg ny))) H := hP
    have hD : va_D (zA (zPts cI q S)) (zPts cI q (uY (uX (uAd S ((sAd S) + (1 : Int32))) (upd (sX S) (sAd S).toNatClampNeg nx)) (upd (sY S) (sAd S).toNatClampNeg ny))) := hD
    refine lv_aload_n hx hb dX3_place_46 rfl (lv_at hl 1 rfl) ?_
    refine va_get (D := D) (ci := 3) (v := .ref (q 4)) (C := RX3) (T := TX3) (N := 5) hx hb hz inZ3 hown hK.1 hP 0 rfl rfl 3 (by decide) (hz _ q1_33) (fun _ h9 => h9) rfl dX3_place_47 ?_
    refine lv_iload hx hb dX3_place_50 (lv_at hl 0 rfl) ?_
    refine lv_iload_n hx hb dX3_place_52 rfl (lv_at hl 4 rfl) ?_
    refine va_iast hx hb hK.1 hP hD hS 3 0 rfl rfl (i := sAd S) (btw_in c_14) dX3_place_53 (fun H locs hP hD hS => ?_)
    have hP : va_P D vwCl (zPts cI q (uW (uY (uX (uAd S ((sAd S) + (1 : Int32))) (upd (sX S) (sAd S).toNatClampNeg nx)) (upd (sY S) (sAd S).toNatClampNeg ny)) (upd (sW S) (sAd S).toNatClampNeg nw_))) H := hP
    have hD : va_D (zA (zPts cI q S)) (zPts cI q (uW (uY (uX (uAd S ((sAd S) + (1 : Int32))) (upd (sX S) (sAd S).toNatClampNeg nx)) (upd (sY S) (sAd S).toNatClampNeg ny)) (upd (sW S) (sAd S).toNatClampNeg nw_))) := hD
    refine lv_aload_n hx hb dX3_place_54 rfl (lv_at hl 1 rfl) ?_
    refine va_get (D := D) (ci := 3) (v := .ref (q 5)) (C := RX3) (T := TX3) (N := 5) hx hb hz inZ3 hown hK.1 hP 0 rfl rfl 4 (by decide) (hz _ q1_34) (fun _ h9 => h9) rfl dX3_place_55 ?_
    refine lv_iload hx hb dX3_place_58 (lv_at hl 0 rfl) ?_
    refine lv_iload hx hb dX3_place_60 (lv_at hl 5 rfl) ?_
    refine va_iast hx hb hK.1 hP hD hS 4 0 rfl rfl (i := sAd S) (btw_in c_14) dX3_place_62 (fun H locs hP hD hS => ?_)
    have hP : va_P D vwCl (zPts cI q (uL (uW (uY (uX (uAd S ((sAd S) + (1 : Int32))) (upd (sX S) (sAd S).toNatClampNeg nx)) (upd (sY S) (sAd S).toNatClampNeg ny)) (upd (sW S) (sAd S).toNatClampNeg nw_)) (upd (sL S) (sAd S).toNatClampNeg no))) H := hP
    have hD : va_D (zA (zPts cI q S)) (zPts cI q (uL (uW (uY (uX (uAd S ((sAd S) + (1 : Int32))) (upd (sX S) (sAd S).toNatClampNeg nx)) (upd (sY S) (sAd S).toNatClampNeg ny)) (upd (sW S) (sAd S).toNatClampNeg nw_)) (upd (sL S) (sAd S).toNatClampNeg no))) := hD
    refine lv_iload hx hb dX3_place_63 (lv_at hl 0 rfl) ?_
    exact z_wiret hx hb hr rfl hlocks hP hS (by simp [pRoom, c_14]) (congrArg (fun T => zPts cI q T) (show uL (uW (uY (uX (uAd S ((sAd S) + (1 : Int32))) (upd (sX S) (sAd S).toNatClampNeg nx)) (upd (sY S) (sAd S).toNatClampNeg ny)) (upd (sW S) (sAd S).toNatClampNeg nw_)) (upd (sL S) (sAd S).toNatClampNeg no) = uL (uW (uY (uX (uAd S g1) g2) g3) g4) g5 from by subst hg1; subst hg2; subst hg3; subst hg4; subst hg5; simp [pAd1, pPut, pRoom, c_14, uX_self, uY_self, uW_self, uL_self, uAd_self])) dX3_place_65
  · have c_14 : (btw (sAd S) (0 : Int32) (39 : Int32)) = false := bI_f c_14
    refine lv_bipush (v := (-3)) hx hb dX3_place_17 (by decide) ?_
    exact z_wiret hx hb hr rfl hlocks hP hS (by simp [pRoom, c_14]) (congrArg (fun T => zPts cI q T) (show S = uL (uW (uY (uX (uAd S g1) g2) g3) g4) g5 from by subst hg1; subst hg2; subst hg3; subst hg4; subst hg5; simp [pAd1, pPut, pRoom, c_14, uX_self, uY_self, uW_self, uL_self, uAd_self])) dX3_place_19
set_option maxHeartbeats 800000 in
set_option maxRecDepth 100000 in
theorem c_X3_takeAway (l : Launch) (D : va_G) (cI cQ : ClassId) (q : Nat → Nat) (S : CS) (i : Int32) (g1 : FI) (hg1 : g1 = pSetAt S (sW S) i 0) : zWR l yX3_takeAway (Cond.code yX3_takeAway cX3_takeAway 2 (none) :: zT) 1 21 [.ref (q 1), .int i] D cI cQ (zPts cI q S) none (zPts cI q (uW S g1)) := by
  refine zWR.of (cc := cX3_takeAway) (maxL := 2) (ret := none) (by decide +kernel) rfl (Nat.le_of_ble_eq_true rfl) ?_
  intro pg e s mi args below meth cd hx hb hr hts hown hlocks hml hP hD hS hK ls hl
  have hz : ∀ w ∈ zT, w.before args s = true := fun w h => hts w (List.mem_cons_of_mem _ h)
  have hl : lv_has ls 2 [(0, .ref (q 1)), (1, .int (i))] := hl
  refine lv_aload_n hx hb dX3_takeAway_0 rfl (lv_at hl 0 rfl) ?_
  refine lv_iload_n hx hb dX3_takeAway_1 rfl (lv_at hl 1 rfl) ?_
  refine z_ro (va_runV (As := [.int (i)]) (rest := []) ⟨hx, hb, hml, hown, hz⟩ (c_X3_exists l D cI cQ q S i) (zcwV 1 hz q2_3 q2_4 q2_5 q1_3 q2_6 hd_X3_exists (Nat.le_of_ble_eq_true rfl) (Nat.le_of_ble_eq_true rfl)) (z_pv (ci := 3) (q := (RX3, TX3, 5)) hK hP rfl rfl) rfl rfl hl.1 rfl (lv_room (Nat.le_of_ble_eq_true rfl)) dX3_takeAway_2 ⟨(Nat.le_of_ble_eq_true rfl), (Nat.le_of_ble_eq_true rfl)⟩) ?_
  refine lv_if_eq (tgt := 15) hx hb dX3_takeAway_5 (by decide) (fun c_5 => ?_) (fun c_5 => ?_)
  · have c_5 : (pEx S i) = false := bI_f c_5
    exact z_wvret hx hb hr hlocks hP hS (congrArg (fun T => zPts cI q T) (show S = uW S g1 from by subst hg1; simp [pSetAt, c_5, uW_self])) dX3_takeAway_15
  · have c_5 : (pEx S i) = true := bI_t c_5
    refine lv_aload_n hx hb dX3_takeAway_8 rfl (lv_at hl 0 rfl) ?_
    refine va_get (D := D) (ci := 3) (v := .ref (q 4)) (C := RX3) (T := TX3) (N := 5) hx hb hz inZ3 hown hK.1 hP 0 rfl rfl 3 (by decide) (hz _ q1_33) (fun _ h9 => h9) rfl dX3_takeAway_9 ?_
    refine lv_iload_n hx hb dX3_takeAway_12 rfl (lv_at hl 1 rfl) ?_
    refine lv_iconst (v := 0) hx hb dX3_takeAway_13 (by decide) ?_
    refine va_iast hx hb hK.1 hP hD hS 3 0 rfl rfl (i := i) (pEx_in c_5) dX3_takeAway_14 (fun H locs hP hD hS => ?_)
    have hP : va_P D vwCl (zPts cI q (uW S (upd (sW S) i.toNatClampNeg (0 : Int32)))) H := hP
    have hD : va_D (zA (zPts cI q S)) (zPts cI q (uW S (upd (sW S) i.toNatClampNeg (0 : Int32)))) := hD
    exact z_wvret hx hb hr hlocks hP hS (congrArg (fun T => zPts cI q T) (show uW S (upd (sW S) i.toNatClampNeg (0 : Int32)) = uW S g1 from by subst hg1; simp [pSetAt, c_5, uW_self])) dX3_takeAway_15
set_option maxHeartbeats 800000 in
set_option maxRecDepth 100000 in
theorem c_X3_shift (l : Launch) (D : va_G) (cI cQ : ClassId) (q : Nat → Nat) (S : CS) (i nx ny : Int32) (g1 : FI) (hg1 : g1 = pSetAt S (sX S) i nx) (g2 : FI) (hg2 : g2 = pSetAt S (sY S) i ny) : zWR l yX3_shift (Cond.code yX3_shift cX3_shift 4 (none) :: zT) 1 21 [.ref (q 1), .int i, .int nx, .int ny] D cI cQ (zPts cI q S) none (zPts cI q (uY (uX S g1) g2)) := by
  refine zWR.of (cc := cX3_shift) (maxL := 4) (ret := none) (by decide +kernel) rfl (Nat.le_of_ble_eq_true rfl) ?_
  intro pg e s mi args below meth cd hx hb hr hts hown hlocks hml hP hD hS hK ls hl
  have hz : ∀ w ∈ zT, w.before args s = true := fun w h => hts w (List.mem_cons_of_mem _ h)
  have hl : lv_has ls 4 [(0, .ref (q 1)), (1, .int (i)), (2, .int (nx)), (3, .int (ny))] := hl
  refine lv_aload_n hx hb dX3_shift_0 rfl (lv_at hl 0 rfl) ?_
  refine lv_iload_n hx hb dX3_shift_1 rfl (lv_at hl 1 rfl) ?_
  refine z_ro (va_runV (As := [.int (i)]) (rest := []) ⟨hx, hb, hml, hown, hz⟩ (c_X3_exists l D cI cQ q S i) (zcwV 1 hz q2_3 q2_4 q2_5 q1_3 q2_6 hd_X3_exists (Nat.le_of_ble_eq_true rfl) (Nat.le_of_ble_eq_true rfl)) (z_pv (ci := 3) (q := (RX3, TX3, 5)) hK hP rfl rfl) rfl rfl hl.1 rfl (lv_room (Nat.le_of_ble_eq_true rfl)) dX3_shift_2 ⟨(Nat.le_of_ble_eq_true rfl), (Nat.le_of_ble_eq_true rfl)⟩) ?_
  refine lv_if_eq (tgt := 22) hx hb dX3_shift_5 (by decide) (fun c_5 => ?_) (fun c_5 => ?_)
  · have c_5 : (pEx S i) = false := bI_f c_5
    exact z_wvret hx hb hr hlocks hP hS (congrArg (fun T => zPts cI q T) (show S = uY (uX S g1) g2 from by subst hg1; subst hg2; simp [pSetAt, c_5, uX_self, uY_self])) dX3_shift_22
  · have c_5 : (pEx S i) = true := bI_t c_5
    refine lv_aload_n hx hb dX3_shift_8 rfl (lv_at hl 0 rfl) ?_
    refine va_get (D := D) (ci := 3) (v := .ref (q 2)) (C := RX3) (T := TX3) (N := 5) hx hb hz inZ3 hown hK.1 hP 0 rfl rfl 1 (by decide) (hz _ q1_31) (fun _ h9 => h9) rfl dX3_shift_9 ?_
    refine lv_iload_n hx hb dX3_shift_12 rfl (lv_at hl 1 rfl) ?_
    refine lv_iload_n hx hb dX3_shift_13 rfl (lv_at hl 2 rfl) ?_
    refine va_iast hx hb hK.1 hP hD hS 1 0 rfl rfl (i := i) (pEx_in c_5) dX3_shift_14 (fun H locs hP hD hS => ?_)
    have hP : va_P D vwCl (zPts cI q (uX S (upd (sX S) i.toNatClampNeg nx))) H := hP
    have hD : va_D (zA (zPts cI q S)) (zPts cI q (uX S (upd (sX S) i.toNatClampNeg nx))) := hD
    refine lv_aload_n hx hb dX3_shift_15 rfl (lv_at hl 0 rfl) ?_
    refine va_get (D := D) (ci := 3) (v := .ref (q 3)) (C := RX3) (T := TX3) (N := 5) hx hb hz inZ3 hown hK.1 hP 0 rfl rfl 2 (by decide) (hz _ q1_32) (fun _ h9 => h9) rfl dX3_shift_16 ?_
    refine lv_iload_n hx hb dX3_shift_19 rfl (lv_at hl 1 rfl) ?_
    refine lv_iload_n hx hb dX3_shift_20 rfl (lv_at hl 3 rfl) ?_
    refine va_iast hx hb hK.1 hP hD hS 2 0 rfl rfl (i := i) (pEx_in c_5) dX3_shift_21 (fun H locs hP hD hS => ?_)
    have hP : va_P D vwCl (zPts cI q (uY (uX S (upd (sX S) i.toNatClampNeg nx)) (upd (sY S) i.toNatClampNeg ny))) H := hP
    have hD : va_D (zA (zPts cI q S)) (zPts cI q (uY (uX S (upd (sX S) i.toNatClampNeg nx)) (upd (sY S) i.toNatClampNeg ny))) := hD
    exact z_wvret hx hb hr hlocks hP hS (congrArg (fun T => zPts cI q T) (show uY (uX S (upd (sX S) i.toNatClampNeg nx)) (upd (sY S) i.toNatClampNeg ny) = uY (uX S g1) g2 from by subst hg1; subst hg2; simp [pSetAt, c_5, uX_self, uY_self])) dX3_shift_22
set_option maxHeartbeats 800000 in
set_option maxRecDepth 100000 in
theorem c_X3_setLord (l : Launch) (D : va_G) (cI cQ : ClassId) (q : Nat → Nat) (S : CS) (i no : Int32) (g1 : FI) (hg1 : g1 = pSetAt S (sL S) i no) : zWR l yX3_setLord (Cond.code yX3_setLord cX3_setLord 3 (none) :: zT) 1 21 [.ref (q 1), .int i, .int no] D cI cQ (zPts cI q S) none (zPts cI q (uL S g1)) := by
  refine zWR.of (cc := cX3_setLord) (maxL := 3) (ret := none) (by decide +kernel) rfl (Nat.le_of_ble_eq_true rfl) ?_
  intro pg e s mi args below meth cd hx hb hr hts hown hlocks hml hP hD hS hK ls hl
  have hz : ∀ w ∈ zT, w.before args s = true := fun w h => hts w (List.mem_cons_of_mem _ h)
  have hl : lv_has ls 3 [(0, .ref (q 1)), (1, .int (i)), (2, .int (no))] := hl
  refine lv_aload_n hx hb dX3_setLord_0 rfl (lv_at hl 0 rfl) ?_
  refine lv_iload_n hx hb dX3_setLord_1 rfl (lv_at hl 1 rfl) ?_
  refine z_ro (va_runV (As := [.int (i)]) (rest := []) ⟨hx, hb, hml, hown, hz⟩ (c_X3_exists l D cI cQ q S i) (zcwV 1 hz q2_3 q2_4 q2_5 q1_3 q2_6 hd_X3_exists (Nat.le_of_ble_eq_true rfl) (Nat.le_of_ble_eq_true rfl)) (z_pv (ci := 3) (q := (RX3, TX3, 5)) hK hP rfl rfl) rfl rfl hl.1 rfl (lv_room (Nat.le_of_ble_eq_true rfl)) dX3_setLord_2 ⟨(Nat.le_of_ble_eq_true rfl), (Nat.le_of_ble_eq_true rfl)⟩) ?_
  refine lv_if_eq (tgt := 15) hx hb dX3_setLord_5 (by decide) (fun c_5 => ?_) (fun c_5 => ?_)
  · have c_5 : (pEx S i) = false := bI_f c_5
    exact z_wvret hx hb hr hlocks hP hS (congrArg (fun T => zPts cI q T) (show S = uL S g1 from by subst hg1; simp [pSetAt, c_5, uL_self])) dX3_setLord_15
  · have c_5 : (pEx S i) = true := bI_t c_5
    refine lv_aload_n hx hb dX3_setLord_8 rfl (lv_at hl 0 rfl) ?_
    refine va_get (D := D) (ci := 3) (v := .ref (q 5)) (C := RX3) (T := TX3) (N := 5) hx hb hz inZ3 hown hK.1 hP 0 rfl rfl 4 (by decide) (hz _ q1_34) (fun _ h9 => h9) rfl dX3_setLord_9 ?_
    refine lv_iload_n hx hb dX3_setLord_12 rfl (lv_at hl 1 rfl) ?_
    refine lv_iload_n hx hb dX3_setLord_13 rfl (lv_at hl 2 rfl) ?_
    refine va_iast hx hb hK.1 hP hD hS 4 0 rfl rfl (i := i) (pEx_in c_5) dX3_setLord_14 (fun H locs hP hD hS => ?_)
    have hP : va_P D vwCl (zPts cI q (uL S (upd (sL S) i.toNatClampNeg no))) H := hP
    have hD : va_D (zA (zPts cI q S)) (zPts cI q (uL S (upd (sL S) i.toNatClampNeg no))) := hD
    exact z_wvret hx hb hr hlocks hP hS (congrArg (fun T => zPts cI q T) (show uL S (upd (sL S) i.toNatClampNeg no) = uL S g1 from by subst hg1; simp [pSetAt, c_5, uL_self])) dX3_setLord_15
set_option maxHeartbeats 800000 in
set_option maxRecDepth 100000 in
theorem c_X3_liesIn (l : Launch) (D : va_G) (cI cQ : ClassId) (q : Nat → Nat) (S : CS) (i le to ri bo : Int32) : zRO l yX3_liesIn (Cond.code yX3_liesIn cX3_liesIn 6 (some .boolean) :: zT) 1 22 [.ref (q 1), .int i, .int le, .int to, .int ri, .int bo] D cI cQ (zPts cI q S) (bI (pLies S i le to ri bo)) := by
  refine zRO.of (cc := cX3_liesIn) (maxL := 6) (ret := some .boolean) (by decide +kernel) rfl (Nat.le_of_ble_eq_true rfl) ?_
  intro pg e s mi args below meth cd hx hb hr hts hown hlocks hml hP hK ls hl
  have hz : ∀ w ∈ zT, w.before args s = true := fun w h => hts w (List.mem_cons_of_mem _ h)
  have hl : lv_has ls 6 [(0, .ref (q 1)), (1, .int (i)), (2, .int (le)), (3, .int (to)), (4, .int (ri)), (5, .int (bo))] := hl
  refine lv_aload_n hx hb dX3_liesIn_0 rfl (lv_at hl 0 rfl) ?_
  refine lv_iload_n hx hb dX3_liesIn_1 rfl (lv_at hl 1 rfl) ?_
  refine z_ro (va_runV (As := [.int (i)]) (rest := []) ⟨hx, hb, hml, hown, hz⟩ (c_X3_exists l D cI cQ q S i) (zcwV 1 hz q2_3 q2_4 q2_5 q1_3 q2_6 hd_X3_exists (Nat.le_of_ble_eq_true rfl) (Nat.le_of_ble_eq_true rfl)) (z_pv (ci := 3) (q := (RX3, TX3, 5)) hK hP rfl rfl) rfl rfl hl.1 rfl (lv_room (Nat.le_of_ble_eq_true rfl)) dX3_liesIn_2 ⟨(Nat.le_of_ble_eq_true rfl), (Nat.le_of_ble_eq_true rfl)⟩) ?_
  refine lv_if_eq (tgt := 42) hx hb dX3_liesIn_5 (by decide) (fun c_5 => ?_) (fun c_5 => ?_)
  · have c_5 : (pEx S i) = false := bI_f c_5
    refine lv_iconst (v := 0) hx hb dX3_liesIn_42 (by decide) ?_
    exact z_iret hx hb hr rfl hlocks (by simp [pLies, bI, c_5]) dX3_liesIn_43
  · have c_5 : (pEx S i) = true := bI_t c_5
    refine lv_aload_n hx hb dX3_liesIn_8 rfl (lv_at hl 0 rfl) ?_
    refine va_get (D := D) (ci := 3) (v := .ref (q 2)) (C := RX3) (T := TX3) (N := 5) hx hb hz inZ3 hown hK.1 hP 0 rfl rfl 1 (by decide) (hz _ q1_31) (fun _ h9 => h9) rfl dX3_liesIn_9 ?_
    refine lv_iload_n hx hb dX3_liesIn_12 rfl (lv_at hl 1 rfl) ?_
    refine va_iald (f := sX S) hx hb hK.1 hP 1 0 rfl rfl (i := i) (pEx_in c_5) dX3_liesIn_13 ?_
    refine lv_iload_n hx hb dX3_liesIn_14 rfl (lv_at hl 2 rfl) ?_
    refine lv_iload hx hb dX3_liesIn_15 (lv_at hl 4 rfl) ?_
    refine z_ro (va_runSN (As := [.int ((sX S) i.toNatClampNeg), .int (le), .int (ri)]) (rest := []) ⟨hx, hb, hml, hown, hz⟩ (c_X5_isBetween l D cI cQ ((sX S) i.toNatClampNeg) le ri) (zcnS 3 hz q1_58 q1_1 q1_59 (hK.2.2.2.2.2.2.2.1) hd_X5_isBetween (Nat.le_of_ble_eq_true rfl) (Nat.le_of_ble_eq_true rfl)) (z_ps hK z_nil) rfl rfl hl.1 rfl (lv_room (Nat.le_of_ble_eq_true rfl)) dX3_liesIn_17 ⟨(Nat.le_of_ble_eq_true rfl), (Nat.le_of_ble_eq_true rfl)⟩) ?_
    refine lv_if_eq (tgt := 42) hx hb dX3_liesIn_20 (by decide) (fun c_20 => ?_) (fun c_20 => ?_)
    · have c_20 : (btw ((sX S) i.toNatClampNeg) le ri) = false := bI_f c_20
      refine lv_iconst (v := 0) hx hb dX3_liesIn_42 (by decide) ?_
      exact z_iret hx hb hr rfl hlocks (by simp [pLies, bI, c_5, c_20]) dX3_liesIn_43
    · have c_20 : (btw ((sX S) i.toNatClampNeg) le ri) = true := bI_t c_20
      refine lv_aload_n hx hb dX3_liesIn_23 rfl (lv_at hl 0 rfl) ?_
      refine va_get (D := D) (ci := 3) (v := .ref (q 3)) (C := RX3) (T := TX3) (N := 5) hx hb hz inZ3 hown hK.1 hP 0 rfl rfl 2 (by decide) (hz _ q1_32) (fun _ h9 => h9) rfl dX3_liesIn_24 ?_
      refine lv_iload_n hx hb dX3_liesIn_27 rfl (lv_at hl 1 rfl) ?_
      refine va_iald (f := sY S) hx hb hK.1 hP 2 0 rfl rfl (i := i) (pEx_in c_5) dX3_liesIn_28 ?_
      refine lv_iload_n hx hb dX3_liesIn_29 rfl (lv_at hl 3 rfl) ?_
      refine lv_iload hx hb dX3_liesIn_30 (lv_at hl 5 rfl) ?_
      refine z_ro (va_runSN (As := [.int ((sY S) i.toNatClampNeg), .int (to), .int (bo)]) (rest := []) ⟨hx, hb, hml, hown, hz⟩ (c_X5_isBetween l D cI cQ ((sY S) i.toNatClampNeg) to bo) (zcnS 3 hz q1_58 q1_1 q1_59 (hK.2.2.2.2.2.2.2.1) hd_X5_isBetween (Nat.le_of_ble_eq_true rfl) (Nat.le_of_ble_eq_true rfl)) (z_ps hK z_nil) rfl rfl hl.1 rfl (lv_room (Nat.le_of_ble_eq_true rfl)) dX3_liesIn_32 ⟨(Nat.le_of_ble_eq_true rfl), (Nat.le_of_ble_eq_true rfl)⟩) ?_
      refine lv_if_eq (tgt := 42) hx hb dX3_liesIn_35 (by decide) (fun c_35 => ?_) (fun c_35 => ?_)
      · have c_35 : (btw ((sY S) i.toNatClampNeg) to bo) = false := bI_f c_35
        refine lv_iconst (v := 0) hx hb dX3_liesIn_42 (by decide) ?_
        exact z_iret hx hb hr rfl hlocks (by simp [pLies, bI, c_5, c_20, c_35]) dX3_liesIn_43
      · have c_35 : (btw ((sY S) i.toNatClampNeg) to bo) = true := bI_t c_35
        refine lv_iconst (v := 1) hx hb dX3_liesIn_38 (by decide) ?_
        refine lv_goto (tgt := 43) hx hb dX3_liesIn_39 (by decide) ?_
        exact z_iret hx hb hr rfl hlocks (by simp [pLies, bI, c_5, c_20, c_35]) dX3_liesIn_43
set_option maxHeartbeats 800000 in
set_option maxRecDepth 100000 in
theorem c_X3_numberIn (l : Launch) (D : va_G) (cI cQ : ClassId) (q : Nat → Nat) (S : CS) (le to ri bo : Int32) : zRO l yX3_numberIn (Cond.code yX3_numberIn cX3_numberIn 7 (some .int) :: zT) 2 47 [.ref (q 1), .int le, .int to, .int ri, .int bo] D cI cQ (zPts cI q S) (pNum S le to ri bo 40) := by
  refine zRO.of (cc := cX3_numberIn) (maxL := 7) (ret := some .int) (by decide +kernel) rfl (Nat.le_of_ble_eq_true rfl) ?_
  intro pg e s mi args below meth cd hx hb hr hts hown hlocks hml hP hK ls hl
  have hz : ∀ w ∈ zT, w.before args s = true := fun w h => hts w (List.mem_cons_of_mem _ h)
  have hl : lv_has ls 7 [(0, .ref (q 1)), (1, .int (le)), (2, .int (to)), (3, .int (ri)), (4, .int (bo))] := hl
  refine lv_iconst (v := 0) hx hb dX3_numberIn_0 (by decide) ?_
  refine lv_istore (lv' := [(5, .int (0 : Int32)), (0, .ref (q 1)), (1, .int (le)), (2, .int (to)), (3, .int (ri)), (4, .int (bo))]) hx hb dX3_numberIn_1 hl (by decide) rfl (fun ls hl => ?_)
  refine lv_iconst (v := 0) hx hb dX3_numberIn_3 (by decide) ?_
  refine lv_istore (lv' := [(6, .int (0 : Int32)), (5, .int (0 : Int32)), (0, .ref (q 1)), (1, .int (le)), (2, .int (to)), (3, .int (ri)), (4, .int (bo))]) hx hb dX3_numberIn_4 hl (by decide) rfl (fun ls hl => ?_)
  have L6 : ∀ (n6 k6 : Nat), k6 ≤ 40 → 40 < k6 + n6 → ∀ (ls : Array Slot), lv_has ls 7 [(6, .int (nI k6)), (5, .int (pNum S le to ri bo k6)), (0, .ref (q 1)), (1, .int (le)), (2, .int (to)), (3, .int (ri)), (4, .int (bo))] → W pg l e ({ frames := 2, cells := 0, slots := 0, locals := 47 }) s mi args below meth cd s.heap [] 0 0 (MQ below (vp_Si (fun r => r = pNum S le to ri bo 40)) args s 0 0 (fun _ => False)) (F0 mi 6 ls []) := by
    intro n6
    induction n6 with
    | zero => intro k6 h1 h2; exact absurd h2 (by omega)
    | succ n6 ih6 =>
      intro k6 h1_6 h2_6  ls hl
      refine lv_iload hx hb dX3_numberIn_6 (lv_at hl 0 rfl) ?_
      refine lv_bipush (v := 40) hx hb dX3_numberIn_8 (by decide) ?_
      refine lv_icmp_ge (tgt := 36) hx hb dX3_numberIn_10 (by decide) (fun c_10 => ?_) (fun c_10 => ?_)
      · have c_10 : ((40 : Int32) : Int32) ≤ nI k6 := c_10
        have hk_6 : k6 = 40 := z_exit (by decide) h1_6 c_10
        refine lv_iload hx hb dX3_numberIn_36 (lv_at hl 1 rfl) ?_
        exact z_iret hx hb hr rfl hlocks (by rw [hk_6]) dX3_numberIn_38
      · have c_10 : ¬ (((40 : Int32) : Int32) ≤ nI k6) := c_10
        have hk_6 : k6 < 40 := z_cont (by decide) h1_6 c_10
        refine lv_aload_n hx hb dX3_numberIn_13 rfl (lv_at hl 2 rfl) ?_
        refine lv_iload hx hb dX3_numberIn_14 (lv_at hl 0 rfl) ?_
        refine lv_iload_n hx hb dX3_numberIn_16 rfl (lv_at hl 3 rfl) ?_
        refine lv_iload_n hx hb dX3_numberIn_17 rfl (lv_at hl 4 rfl) ?_
        refine lv_iload_n hx hb dX3_numberIn_18 rfl (lv_at hl 5 rfl) ?_
        refine lv_iload hx hb dX3_numberIn_19 (lv_at hl 6 rfl) ?_
        refine z_ro (va_runV (As := [.int (nI k6), .int (le), .int (to), .int (ri), .int (bo)]) (rest := []) ⟨hx, hb, hml, hown, hz⟩ (c_X3_liesIn l D cI cQ q S (nI k6) le to ri bo) (zcwV 5 hz q1_239 q2_0 q2_1 q1_3 q2_2 hd_X3_liesIn (Nat.le_of_ble_eq_true rfl) (Nat.le_of_ble_eq_true rfl)) (z_pv (ci := 3) (q := (RX3, TX3, 5)) hK hP rfl rfl) rfl rfl hl.1 rfl (lv_room (Nat.le_of_ble_eq_true rfl)) dX3_numberIn_21 ⟨(Nat.le_of_ble_eq_true rfl), (Nat.le_of_ble_eq_true rfl)⟩) ?_
        refine lv_if_eq (tgt := 30) hx hb dX3_numberIn_24 (by decide) (fun c_24 => ?_) (fun c_24 => ?_)
        · have c_24 : (pLies S (nI k6) le to ri bo) = false := bI_f c_24
          refine lv_iinc (v := (nI k6) + 1) (lv' := [(6, .int ((nI k6) + 1)), (5, .int (pNum S le to ri bo k6)), (0, .ref (q 1)), (1, .int (le)), (2, .int (to)), (3, .int (ri)), (4, .int (bo))]) hx hb dX3_numberIn_30 hl (k := 0) rfl rfl (by decide) rfl (fun ls hl => ?_)
          refine lv_goto (tgt := 6) hx hb dX3_numberIn_33 (by decide) ?_
          have e6_6 : (nI (k6 + 1) : Int32) = (nI k6) + 1 := (nI_1 _).symm
          have e6_5 : (pNum S le to ri bo (k6 + 1) : Int32) = pNum S le to ri bo k6 := (by simp [pNum, c_10, c_24])
          exact ih6 (k6 + 1) (by omega) (by omega) _ (by rw [e6_6, e6_5]; exact lv_sub hl [0, 1, 2, 3, 4, 5, 6] rfl)
        · have c_24 : (pLies S (nI k6) le to ri bo) = true := bI_t c_24
          refine lv_iinc (v := (pNum S le to ri bo k6) + 1) (lv' := [(5, .int ((pNum S le to ri bo k6) + 1)), (6, .int (nI k6)), (0, .ref (q 1)), (1, .int (le)), (2, .int (to)), (3, .int (ri)), (4, .int (bo))]) hx hb dX3_numberIn_27 hl (k := 1) rfl rfl (by decide) rfl (fun ls hl => ?_)
          refine lv_iinc (v := (nI k6) + 1) (lv' := [(6, .int ((nI k6) + 1)), (5, .int ((pNum S le to ri bo k6) + 1)), (0, .ref (q 1)), (1, .int (le)), (2, .int (to)), (3, .int (ri)), (4, .int (bo))]) hx hb dX3_numberIn_30 hl (k := 1) rfl rfl (by decide) rfl (fun ls hl => ?_)
          refine lv_goto (tgt := 6) hx hb dX3_numberIn_33 (by decide) ?_
          have e6_6 : (nI (k6 + 1) : Int32) = (nI k6) + 1 := (nI_1 _).symm
          have e6_5 : (pNum S le to ri bo (k6 + 1) : Int32) = (pNum S le to ri bo k6) + 1 := (by simp [pNum, c_10, c_24])
          exact ih6 (k6 + 1) (by omega) (by omega) _ (by rw [e6_6, e6_5]; exact lv_sub hl [0, 1, 2, 3, 4, 5, 6] rfl)
  have e6_6 : (nI 0 : Int32) = (0 : Int32) := rfl
  have e6_5 : (pNum S le to ri bo 0 : Int32) = (0 : Int32) := (by rfl)
  exact L6 (40 + 1) (0) (Nat.zero_le _) (by omega) _ (by rw [e6_6, e6_5]; exact lv_sub hl [0, 1, 2, 3, 4, 5, 6] rfl)
set_option maxHeartbeats 800000 in
set_option maxRecDepth 100000 in
theorem c_X3_number (l : Launch) (D : va_G) (cI cQ : ClassId) (q : Nat → Nat) (S : CS) : zRO l yX3_number (Cond.code yX3_number cX3_number 1 (some .int) :: zT) 3 73 [.ref (q 1)] D cI cQ (zPts cI q S) (pNum S 0 0 63 63 40) := by
  refine zRO.of (cc := cX3_number) (maxL := 1) (ret := some .int) (by decide +kernel) rfl (Nat.le_of_ble_eq_true rfl) ?_
  intro pg e s mi args below meth cd hx hb hr hts hown hlocks hml hP hK ls hl
  have hz : ∀ w ∈ zT, w.before args s = true := fun w h => hts w (List.mem_cons_of_mem _ h)
  have hl : lv_has ls 1 [(0, .ref (q 1))] := hl
  refine lv_aload_n hx hb dX3_number_0 rfl (lv_at hl 0 rfl) ?_
  refine lv_iconst (v := 0) hx hb dX3_number_1 (by decide) ?_
  refine lv_iconst (v := 0) hx hb dX3_number_2 (by decide) ?_
  refine lv_bipush (v := 63) hx hb dX3_number_3 (by decide) ?_
  refine lv_bipush (v := 63) hx hb dX3_number_5 (by decide) ?_
  refine z_ro (va_runV (As := [.int (0 : Int32), .int (0 : Int32), .int (63 : Int32), .int (63 : Int32)]) (rest := []) ⟨hx, hb, hml, hown, hz⟩ (c_X3_numberIn l D cI cQ q S (0 : Int32) (0 : Int32) (63 : Int32) (63 : Int32)) (zcwV 4 hz q2_56 q1_236 q1_237 q1_3 q1_238 hd_X3_numberIn (Nat.le_of_ble_eq_true rfl) (Nat.le_of_ble_eq_true rfl)) (z_pv (ci := 3) (q := (RX3, TX3, 5)) hK hP rfl rfl) rfl rfl hl.1 rfl (lv_room (Nat.le_of_ble_eq_true rfl)) dX3_number_7 ⟨(Nat.le_of_ble_eq_true rfl), (Nat.le_of_ble_eq_true rfl)⟩) ?_
  exact z_iret hx hb hr rfl hlocks (by rfl) dX3_number_10
set_option maxHeartbeats 800000 in
set_option maxRecDepth 100000 in
theorem c_X3_wealthIn (l : Launch) (D : va_G) (cI cQ : ClassId) (q : Nat → Nat) (S : CS) (le to ri bo : Int32) : zRO l yX3_wealthIn (Cond.code yX3_wealthIn cX3_wealthIn 7 (some .int) :: zT) 2 47 [.ref (q 1), .int le, .int to, .int ri, .int bo] D cI cQ (zPts cI q S) (pWea S le to ri bo 40) := by
  refine zRO.of (cc := cX3_wealthIn) (maxL := 7) (ret := some .int) (by decide +kernel) rfl (Nat.le_of_ble_eq_true rfl) ?_
  intro pg e s mi args below meth cd hx hb hr hts hown hlocks hml hP hK ls hl
  have hz : ∀ w ∈ zT, w.before args s = true := fun w h => hts w (List.mem_cons_of_mem _ h)
  have hl : lv_has ls 7 [(0, .ref (q 1)), (1, .int (le)), (2, .int (to)), (3, .int (ri)), (4, .int (bo))] := hl
  refine lv_iconst (v := 0) hx hb dX3_wealthIn_0 (by decide) ?_
  refine lv_istore (lv' := [(5, .int (0 : Int32)), (0, .ref (q 1)), (1, .int (le)), (2, .int (to)), (3, .int (ri)), (4, .int (bo))]) hx hb dX3_wealthIn_1 hl (by decide) rfl (fun ls hl => ?_)
  refine lv_iconst (v := 0) hx hb dX3_wealthIn_3 (by decide) ?_
  refine lv_istore (lv' := [(6, .int (0 : Int32)), (5, .int (0 : Int32)), (0, .ref (q 1)), (1, .int (le)), (2, .int (to)), (3, .int (ri)), (4, .int (bo))]) hx hb dX3_wealthIn_4 hl (by decide) rfl (fun ls hl => ?_)
  have L6 : ∀ (n6 k6 : Nat), k6 ≤ 40 → 40 < k6 + n6 → ∀ (ls : Array Slot), lv_has ls 7 [(6, .int (nI k6)), (5, .int (pWea S le to ri bo k6)), (0, .ref (q 1)), (1, .int (le)), (2, .int (to)), (3, .int (ri)), (4, .int (bo))] → W pg l e ({ frames := 2, cells := 0, slots := 0, locals := 47 }) s mi args below meth cd s.heap [] 0 0 (MQ below (vp_Si (fun r => r = pWea S le to ri bo 40)) args s 0 0 (fun _ => False)) (F0 mi 6 ls []) := by
    intro n6
    induction n6 with
    | zero => intro k6 h1 h2; exact absurd h2 (by omega)
    | succ n6 ih6 =>
      intro k6 h1_6 h2_6  ls hl
      refine lv_iload hx hb dX3_wealthIn_6 (lv_at hl 0 rfl) ?_
      refine lv_bipush (v := 40) hx hb dX3_wealthIn_8 (by decide) ?_
      refine lv_icmp_ge (tgt := 45) hx hb dX3_wealthIn_10 (by decide) (fun c_10 => ?_) (fun c_10 => ?_)
      · have c_10 : ((40 : Int32) : Int32) ≤ nI k6 := c_10
        have hk_6 : k6 = 40 := z_exit (by decide) h1_6 c_10
        refine lv_iload hx hb dX3_wealthIn_45 (lv_at hl 1 rfl) ?_
        exact z_iret hx hb hr rfl hlocks (by rw [hk_6]) dX3_wealthIn_47
      · have c_10 : ¬ (((40 : Int32) : Int32) ≤ nI k6) := c_10
        have hk_6 : k6 < 40 := z_cont (by decide) h1_6 c_10
        refine lv_aload_n hx hb dX3_wealthIn_13 rfl (lv_at hl 2 rfl) ?_
        refine lv_iload hx hb dX3_wealthIn_14 (lv_at hl 0 rfl) ?_
        refine lv_iload_n hx hb dX3_wealthIn_16 rfl (lv_at hl 3 rfl) ?_
        refine lv_iload_n hx hb dX3_wealthIn_17 rfl (lv_at hl 4 rfl) ?_
        refine lv_iload_n hx hb dX3_wealthIn_18 rfl (lv_at hl 5 rfl) ?_
        refine lv_iload hx hb dX3_wealthIn_19 (lv_at hl 6 rfl) ?_
        refine z_ro (va_runV (As := [.int (nI k6), .int (le), .int (to), .int (ri), .int (bo)]) (rest := []) ⟨hx, hb, hml, hown, hz⟩ (c_X3_liesIn l D cI cQ q S (nI k6) le to ri bo) (zcwV 5 hz q1_239 q2_0 q2_1 q1_3 q2_2 hd_X3_liesIn (Nat.le_of_ble_eq_true rfl) (Nat.le_of_ble_eq_true rfl)) (z_pv (ci := 3) (q := (RX3, TX3, 5)) hK hP rfl rfl) rfl rfl hl.1 rfl (lv_room (Nat.le_of_ble_eq_true rfl)) dX3_wealthIn_21 ⟨(Nat.le_of_ble_eq_true rfl), (Nat.le_of_ble_eq_true rfl)⟩) ?_
        refine lv_if_eq (tgt := 39) hx hb dX3_wealthIn_24 (by decide) (fun c_24 => ?_) (fun c_24 => ?_)
        · have c_24 : (pLies S (nI k6) le to ri bo) = false := bI_f c_24
          refine lv_iinc (v := (nI k6) + 1) (lv' := [(6, .int ((nI k6) + 1)), (5, .int (pWea S le to ri bo k6)), (0, .ref (q 1)), (1, .int (le)), (2, .int (to)), (3, .int (ri)), (4, .int (bo))]) hx hb dX3_wealthIn_39 hl (k := 0) rfl rfl (by decide) rfl (fun ls hl => ?_)
          refine lv_goto (tgt := 6) hx hb dX3_wealthIn_42 (by decide) ?_
          have e6_6 : (nI (k6 + 1) : Int32) = (nI k6) + 1 := (nI_1 _).symm
          have e6_5 : (pWea S le to ri bo (k6 + 1) : Int32) = pWea S le to ri bo k6 := (by simp [pWea, c_10, c_24])
          exact ih6 (k6 + 1) (by omega) (by omega) _ (by rw [e6_6, e6_5]; exact lv_sub hl [0, 1, 2, 3, 4, 5, 6] rfl)
        · have c_24 : (pLies S (nI k6) le to ri bo) = true := bI_t c_24
          refine lv_iload hx hb dX3_wealthIn_27 (lv_at hl 1 rfl) ?_
          refine lv_aload_n hx hb dX3_wealthIn_29 rfl (lv_at hl 2 rfl) ?_
          refine va_get (D := D) (ci := 3) (v := .ref (q 4)) (C := RX3) (T := TX3) (N := 5) hx hb hz inZ3 hown hK.1 hP 0 rfl rfl 3 (by decide) (hz _ q1_33) (fun _ h9 => h9) rfl dX3_wealthIn_30 ?_
          refine lv_iload hx hb dX3_wealthIn_33 (lv_at hl 0 rfl) ?_
          refine va_iald (f := sW S) hx hb hK.1 hP 3 0 rfl rfl (i := nI k6) (vp_in_nI hk_6 (by decide)) dX3_wealthIn_35 ?_
          refine lv_iadd hx hb dX3_wealthIn_36 ?_
          refine lv_istore (lv' := [(5, .int ((pWea S le to ri bo k6) + ((sW S) (nI k6).toNatClampNeg))), (6, .int (nI k6)), (0, .ref (q 1)), (1, .int (le)), (2, .int (to)), (3, .int (ri)), (4, .int (bo))]) hx hb dX3_wealthIn_37 hl (by decide) rfl (fun ls hl => ?_)
          refine lv_iinc (v := (nI k6) + 1) (lv' := [(6, .int ((nI k6) + 1)), (5, .int ((pWea S le to ri bo k6) + ((sW S) (nI k6).toNatClampNeg))), (0, .ref (q 1)), (1, .int (le)), (2, .int (to)), (3, .int (ri)), (4, .int (bo))]) hx hb dX3_wealthIn_39 hl (k := 1) rfl rfl (by decide) rfl (fun ls hl => ?_)
          refine lv_goto (tgt := 6) hx hb dX3_wealthIn_42 (by decide) ?_
          have e6_6 : (nI (k6 + 1) : Int32) = (nI k6) + 1 := (nI_1 _).symm
          have e6_5 : (pWea S le to ri bo (k6 + 1) : Int32) = (pWea S le to ri bo k6) + ((sW S) (nI k6).toNatClampNeg) := (by simp [pWea, c_10, c_24])
          exact ih6 (k6 + 1) (by omega) (by omega) _ (by rw [e6_6, e6_5]; exact lv_sub hl [0, 1, 2, 3, 4, 5, 6] rfl)
  have e6_6 : (nI 0 : Int32) = (0 : Int32) := rfl
  have e6_5 : (pWea S le to ri bo 0 : Int32) = (0 : Int32) := (by rfl)
  exact L6 (40 + 1) (0) (Nat.zero_le _) (by omega) _ (by rw [e6_6, e6_5]; exact lv_sub hl [0, 1, 2, 3, 4, 5, 6] rfl)
set_option maxHeartbeats 800000 in
set_option maxRecDepth 100000 in
theorem c_X3_richestIn (l : Launch) (D : va_G) (cI cQ : ClassId) (q : Nat → Nat) (S : CS) (le to ri bo : Int32) : zRO l yX3_richestIn (Cond.code yX3_richestIn cX3_richestIn 7 (some .int) :: zT) 2 47 [.ref (q 1), .int le, .int to, .int ri, .int bo] D cI cQ (zPts cI q S) (pRich S le to ri bo 40) := by
  refine zRO.of (cc := cX3_richestIn) (maxL := 7) (ret := some .int) (by decide +kernel) rfl (Nat.le_of_ble_eq_true rfl) ?_
  intro pg e s mi args below meth cd hx hb hr hts hown hlocks hml hP hK ls hl
  have hz : ∀ w ∈ zT, w.before args s = true := fun w h => hts w (List.mem_cons_of_mem _ h)
  have hl : lv_has ls 7 [(0, .ref (q 1)), (1, .int (le)), (2, .int (to)), (3, .int (ri)), (4, .int (bo))] := hl
  refine lv_bipush (v := (-9)) hx hb dX3_richestIn_0 (by decide) ?_
  refine lv_istore (lv' := [(5, .int (-9 : Int32)), (0, .ref (q 1)), (1, .int (le)), (2, .int (to)), (3, .int (ri)), (4, .int (bo))]) hx hb dX3_richestIn_2 hl (by decide) rfl (fun ls hl => ?_)
  refine lv_iconst (v := 0) hx hb dX3_richestIn_4 (by decide) ?_
  refine lv_istore (lv' := [(6, .int (0 : Int32)), (5, .int (-9 : Int32)), (0, .ref (q 1)), (1, .int (le)), (2, .int (to)), (3, .int (ri)), (4, .int (bo))]) hx hb dX3_richestIn_5 hl (by decide) rfl (fun ls hl => ?_)
  have L7 : ∀ (n7 k7 : Nat), k7 ≤ 40 → 40 < k7 + n7 → ∀ (ls : Array Slot), lv_has ls 7 [(6, .int (nI k7)), (5, .int (pRich S le to ri bo k7)), (0, .ref (q 1)), (1, .int (le)), (2, .int (to)), (3, .int (ri)), (4, .int (bo))] → W pg l e ({ frames := 2, cells := 0, slots := 0, locals := 47 }) s mi args below meth cd s.heap [] 0 0 (MQ below (vp_Si (fun r => r = pRich S le to ri bo 40)) args s 0 0 (fun _ => False)) (F0 mi 7 ls []) := by
    intro n7
    induction n7 with
    | zero => intro k7 h1 h2; exact absurd h2 (by omega)
    | succ n7 ih7 =>
      intro k7 h1_7 h2_7  ls hl
      refine lv_iload hx hb dX3_richestIn_7 (lv_at hl 0 rfl) ?_
      refine lv_bipush (v := 40) hx hb dX3_richestIn_9 (by decide) ?_
      refine lv_icmp_ge (tgt := 54) hx hb dX3_richestIn_11 (by decide) (fun c_11 => ?_) (fun c_11 => ?_)
      · have c_11 : ((40 : Int32) : Int32) ≤ nI k7 := c_11
        have hk_7 : k7 = 40 := z_exit (by decide) h1_7 c_11
        refine lv_iload hx hb dX3_richestIn_54 (lv_at hl 1 rfl) ?_
        exact z_iret hx hb hr rfl hlocks (by rw [hk_7]) dX3_richestIn_56
      · have c_11 : ¬ (((40 : Int32) : Int32) ≤ nI k7) := c_11
        have hk_7 : k7 < 40 := z_cont (by decide) h1_7 c_11
        refine lv_aload_n hx hb dX3_richestIn_14 rfl (lv_at hl 2 rfl) ?_
        refine lv_iload hx hb dX3_richestIn_15 (lv_at hl 0 rfl) ?_
        refine lv_iload_n hx hb dX3_richestIn_17 rfl (lv_at hl 3 rfl) ?_
        refine lv_iload_n hx hb dX3_richestIn_18 rfl (lv_at hl 4 rfl) ?_
        refine lv_iload_n hx hb dX3_richestIn_19 rfl (lv_at hl 5 rfl) ?_
        refine lv_iload hx hb dX3_richestIn_20 (lv_at hl 6 rfl) ?_
        refine z_ro (va_runV (As := [.int (nI k7), .int (le), .int (to), .int (ri), .int (bo)]) (rest := []) ⟨hx, hb, hml, hown, hz⟩ (c_X3_liesIn l D cI cQ q S (nI k7) le to ri bo) (zcwV 5 hz q1_239 q2_0 q2_1 q1_3 q2_2 hd_X3_liesIn (Nat.le_of_ble_eq_true rfl) (Nat.le_of_ble_eq_true rfl)) (z_pv (ci := 3) (q := (RX3, TX3, 5)) hK hP rfl rfl) rfl rfl hl.1 rfl (lv_room (Nat.le_of_ble_eq_true rfl)) dX3_richestIn_22 ⟨(Nat.le_of_ble_eq_true rfl), (Nat.le_of_ble_eq_true rfl)⟩) ?_
        refine lv_if_eq (tgt := 48) hx hb dX3_richestIn_25 (by decide) (fun c_25 => ?_) (fun c_25 => ?_)
        · have c_25 : (pLies S (nI k7) le to ri bo) = false := bI_f c_25
          refine lv_iinc (v := (nI k7) + 1) (lv' := [(6, .int ((nI k7) + 1)), (5, .int (pRich S le to ri bo k7)), (0, .ref (q 1)), (1, .int (le)), (2, .int (to)), (3, .int (ri)), (4, .int (bo))]) hx hb dX3_richestIn_48 hl (k := 0) rfl rfl (by decide) rfl (fun ls hl => ?_)
          refine lv_goto (tgt := 7) hx hb dX3_richestIn_51 (by decide) ?_
          have e7_6 : (nI (k7 + 1) : Int32) = (nI k7) + 1 := (nI_1 _).symm
          have e7_5 : (pRich S le to ri bo (k7 + 1) : Int32) = pRich S le to ri bo k7 := (by simp [pRich, c_11, c_25])
          exact ih7 (k7 + 1) (by omega) (by omega) _ (by rw [e7_6, e7_5]; exact lv_sub hl [0, 1, 2, 3, 4, 5, 6] rfl)
        · have c_25 : (pLies S (nI k7) le to ri bo) = true := bI_t c_25
          refine lv_aload_n hx hb dX3_richestIn_28 rfl (lv_at hl 2 rfl) ?_
          refine va_get (D := D) (ci := 3) (v := .ref (q 4)) (C := RX3) (T := TX3) (N := 5) hx hb hz inZ3 hown hK.1 hP 0 rfl rfl 3 (by decide) (hz _ q1_33) (fun _ h9 => h9) rfl dX3_richestIn_29 ?_
          refine lv_iload hx hb dX3_richestIn_32 (lv_at hl 0 rfl) ?_
          refine va_iald (f := sW S) hx hb hK.1 hP 3 0 rfl rfl (i := nI k7) (vp_in_nI hk_7 (by decide)) dX3_richestIn_34 ?_
          refine lv_aload_n hx hb dX3_richestIn_35 rfl (lv_at hl 2 rfl) ?_
          refine lv_iload hx hb dX3_richestIn_36 (lv_at hl 1 rfl) ?_
          refine z_ro (va_runV (As := [.int (pRich S le to ri bo k7)]) (rest := [.int ((sW S) (nI k7).toNatClampNeg)]) ⟨hx, hb, hml, hown, hz⟩ (c_X3_wealthOf l D cI cQ q S (pRich S le to ri bo k7)) (zcwV 1 hz q3_32 q2_226 q2_227 q1_3 q2_228 hd_X3_wealthOf (Nat.le_of_ble_eq_true rfl) (Nat.le_of_ble_eq_true rfl)) (z_pv (ci := 3) (q := (RX3, TX3, 5)) hK hP rfl rfl) rfl rfl hl.1 rfl (lv_room (Nat.le_of_ble_eq_true rfl)) dX3_richestIn_38 ⟨(Nat.le_of_ble_eq_true rfl), (Nat.le_of_ble_eq_true rfl)⟩) ?_
          refine lv_icmp_le (tgt := 48) hx hb dX3_richestIn_41 (by decide) (fun c_41 => ?_) (fun c_41 => ?_)
          · have c_41 : ((sW S) (nI k7).toNatClampNeg : Int32) ≤ pWof S (pRich S le to ri bo k7) := c_41
            refine lv_iinc (v := (nI k7) + 1) (lv' := [(6, .int ((nI k7) + 1)), (5, .int (pRich S le to ri bo k7)), (0, .ref (q 1)), (1, .int (le)), (2, .int (to)), (3, .int (ri)), (4, .int (bo))]) hx hb dX3_richestIn_48 hl (k := 0) rfl rfl (by decide) rfl (fun ls hl => ?_)
            refine lv_goto (tgt := 7) hx hb dX3_richestIn_51 (by decide) ?_
            have e7_6 : (nI (k7 + 1) : Int32) = (nI k7) + 1 := (nI_1 _).symm
            have e7_5 : (pRich S le to ri bo (k7 + 1) : Int32) = pRich S le to ri bo k7 := (by simp [pRich, c_11, c_25, c_41])
            exact ih7 (k7 + 1) (by omega) (by omega) _ (by rw [e7_6, e7_5]; exact lv_sub hl [0, 1, 2, 3, 4, 5, 6] rfl)
          · have c_41 : ¬ (((sW S) (nI k7).toNatClampNeg : Int32) ≤ pWof S (pRich S le to ri bo k7)) := c_41
            refine lv_iload hx hb dX3_richestIn_44 (lv_at hl 0 rfl) ?_
            refine lv_istore (lv' := [(5, .int (nI k7)), (6, .int (nI k7)), (0, .ref (q 1)), (1, .int (le)), (2, .int (to)), (3, .int (ri)), (4, .int (bo))]) hx hb dX3_richestIn_46 hl (by decide) rfl (fun ls hl => ?_)
            refine lv_iinc (v := (nI k7) + 1) (lv' := [(6, .int ((nI k7) + 1)), (5, .int (nI k7)), (0, .ref (q 1)), (1, .int (le)), (2, .int (to)), (3, .int (ri)), (4, .int (bo))]) hx hb dX3_richestIn_48 hl (k := 1) rfl rfl (by decide) rfl (fun ls hl => ?_)
            refine lv_goto (tgt := 7) hx hb dX3_richestIn_51 (by decide) ?_
            have e7_6 : (nI (k7 + 1) : Int32) = (nI k7) + 1 := (nI_1 _).symm
            have e7_5 : (pRich S le to ri bo (k7 + 1) : Int32) = nI k7 := (by simp [pRich, c_11, c_25, c_41])
            exact ih7 (k7 + 1) (by omega) (by omega) _ (by rw [e7_6, e7_5]; exact lv_sub hl [0, 1, 2, 3, 4, 5, 6] rfl)
  have e7_6 : (nI 0 : Int32) = (0 : Int32) := rfl
  have e7_5 : (pRich S le to ri bo 0 : Int32) = (-9 : Int32) := (by rfl)
  exact L7 (40 + 1) (0) (Nat.zero_le _) (by omega) _ (by rw [e7_6, e7_5]; exact lv_sub hl [0, 1, 2, 3, 4, 5, 6] rfl)
set_option maxHeartbeats 800000 in
set_option maxRecDepth 100000 in
theorem c_X3_nearestTo (l : Launch) (D : va_G) (cI cQ : ClassId) (q : Nat → Nat) (S : CS) (tx ty : Int32) : zRO l yX3_nearestTo (Cond.code yX3_nearestTo cX3_nearestTo 7 (some .int) :: zT) 1 24 [.ref (q 1), .int tx, .int ty] D cI cQ (zPts cI q S) ((pNear S tx ty 40).1) := by
  refine zRO.of (cc := cX3_nearestTo) (maxL := 7) (ret := some .int) (by decide +kernel) rfl (Nat.le_of_ble_eq_true rfl) ?_
  intro pg e s mi args below meth cd hx hb hr hts hown hlocks hml hP hK ls hl
  have hz : ∀ w ∈ zT, w.before args s = true := fun w h => hts w (List.mem_cons_of_mem _ h)
  have hl : lv_has ls 7 [(0, .ref (q 1)), (1, .int (tx)), (2, .int (ty))] := hl
  refine lv_bipush (v := (-9)) hx hb dX3_nearestTo_0 (by decide) ?_
  refine lv_istore_n (lv' := [(3, .int (-9 : Int32)), (0, .ref (q 1)), (1, .int (tx)), (2, .int (ty))]) hx hb dX3_nearestTo_2 rfl hl (by decide) rfl (fun ls hl => ?_)
  refine lv_sipush (v := 128) hx hb dX3_nearestTo_3 (by decide) ?_
  refine lv_istore (lv' := [(4, .int (128 : Int32)), (3, .int (-9 : Int32)), (0, .ref (q 1)), (1, .int (tx)), (2, .int (ty))]) hx hb dX3_nearestTo_6 hl (by decide) rfl (fun ls hl => ?_)
  refine lv_iconst (v := 0) hx hb dX3_nearestTo_8 (by decide) ?_
  refine lv_istore (lv' := [(5, .int (0 : Int32)), (4, .int (128 : Int32)), (3, .int (-9 : Int32)), (0, .ref (q 1)), (1, .int (tx)), (2, .int (ty))]) hx hb dX3_nearestTo_9 hl (by decide) rfl (fun ls hl => ?_)
  have L11 : ∀ (n11 k11 : Nat), k11 ≤ 40 → 40 < k11 + n11 → ∀ (ls : Array Slot), lv_has ls 7 [(5, .int (nI k11)), (3, .int ((pNear S tx ty k11).1)), (4, .int ((pNear S tx ty k11).2)), (0, .ref (q 1)), (1, .int (tx)), (2, .int (ty))] → W pg l e ({ frames := 1, cells := 0, slots := 0, locals := 24 }) s mi args below meth cd s.heap [] 0 0 (MQ below (vp_Si (fun r => r = (pNear S tx ty 40).1)) args s 0 0 (fun _ => False)) (F0 mi 11 ls []) := by
    intro n11
    induction n11 with
    | zero => intro k11 h1 h2; exact absurd h2 (by omega)
    | succ n11 ih11 =>
      intro k11 h1_11 h2_11  ls hl
      refine lv_iload hx hb dX3_nearestTo_11 (lv_at hl 0 rfl) ?_
      refine lv_bipush (v := 40) hx hb dX3_nearestTo_13 (by decide) ?_
      refine lv_icmp_ge (tgt := 74) hx hb dX3_nearestTo_15 (by decide) (fun c_15 => ?_) (fun c_15 => ?_)
      · have c_15 : ((40 : Int32) : Int32) ≤ nI k11 := c_15
        have hk_11 : k11 = 40 := z_exit (by decide) h1_11 c_15
        refine lv_iload_n hx hb dX3_nearestTo_74 rfl (lv_at hl 1 rfl) ?_
        exact z_iret hx hb hr rfl hlocks (by rw [hk_11]) dX3_nearestTo_75
      · have c_15 : ¬ (((40 : Int32) : Int32) ≤ nI k11) := c_15
        have hk_11 : k11 < 40 := z_cont (by decide) h1_11 c_15
        refine lv_aload_n hx hb dX3_nearestTo_18 rfl (lv_at hl 3 rfl) ?_
        refine va_get (D := D) (ci := 3) (v := .ref (q 2)) (C := RX3) (T := TX3) (N := 5) hx hb hz inZ3 hown hK.1 hP 0 rfl rfl 1 (by decide) (hz _ q1_31) (fun _ h9 => h9) rfl dX3_nearestTo_19 ?_
        refine lv_iload hx hb dX3_nearestTo_22 (lv_at hl 0 rfl) ?_
        refine va_iald (f := sX S) hx hb hK.1 hP 1 0 rfl rfl (i := nI k11) (vp_in_nI hk_11 (by decide)) dX3_nearestTo_24 ?_
        refine lv_iload_n hx hb dX3_nearestTo_25 rfl (lv_at hl 4 rfl) ?_
        refine lv_isub hx hb dX3_nearestTo_26 ?_
        refine va_mabs hx hb (by rw [hml]; exact hl.1.symm) hown (hz _ q3_41) (hz _ q3_42) (hz _ q1_9) (hz _ q3_43) (Nat.le_of_ble_eq_true rfl) (Nat.le_of_ble_eq_true rfl) (Nat.le_of_ble_eq_true rfl) (Nat.le_of_ble_eq_true rfl) dX3_nearestTo_27 ?_
        refine lv_aload_n hx hb dX3_nearestTo_30 rfl (lv_at hl 3 rfl) ?_
        refine va_get (D := D) (ci := 3) (v := .ref (q 3)) (C := RX3) (T := TX3) (N := 5) hx hb hz inZ3 hown hK.1 hP 0 rfl rfl 2 (by decide) (hz _ q1_32) (fun _ h9 => h9) rfl dX3_nearestTo_31 ?_
        refine lv_iload hx hb dX3_nearestTo_34 (lv_at hl 0 rfl) ?_
        refine va_iald (f := sY S) hx hb hK.1 hP 2 0 rfl rfl (i := nI k11) (vp_in_nI hk_11 (by decide)) dX3_nearestTo_36 ?_
        refine lv_iload_n hx hb dX3_nearestTo_37 rfl (lv_at hl 5 rfl) ?_
        refine lv_isub hx hb dX3_nearestTo_38 ?_
        refine va_mabs hx hb (by rw [hml]; exact hl.1.symm) hown (hz _ q3_41) (hz _ q3_42) (hz _ q1_9) (hz _ q3_43) (Nat.le_of_ble_eq_true rfl) (Nat.le_of_ble_eq_true rfl) (Nat.le_of_ble_eq_true rfl) (Nat.le_of_ble_eq_true rfl) dX3_nearestTo_39 ?_
        refine lv_iadd hx hb dX3_nearestTo_42 ?_
        refine lv_istore (lv' := [(6, .int (pDist S tx ty (nI k11))), (5, .int (nI k11)), (3, .int ((pNear S tx ty k11).1)), (4, .int ((pNear S tx ty k11).2)), (0, .ref (q 1)), (1, .int (tx)), (2, .int (ty))]) hx hb dX3_nearestTo_43 hl (by decide) rfl (fun ls hl => ?_)
        refine lv_aload_n hx hb dX3_nearestTo_45 rfl (lv_at hl 4 rfl) ?_
        refine lv_iload hx hb dX3_nearestTo_46 (lv_at hl 1 rfl) ?_
        refine z_ro (va_runV (As := [.int (nI k11)]) (rest := []) ⟨hx, hb, hml, hown, hz⟩ (c_X3_exists l D cI cQ q S (nI k11)) (zcwV 1 hz q2_3 q2_4 q2_5 q1_3 q2_6 hd_X3_exists (Nat.le_of_ble_eq_true rfl) (Nat.le_of_ble_eq_true rfl)) (z_pv (ci := 3) (q := (RX3, TX3, 5)) hK hP rfl rfl) rfl rfl hl.1 rfl (lv_room (Nat.le_of_ble_eq_true rfl)) dX3_nearestTo_48 ⟨(Nat.le_of_ble_eq_true rfl), (Nat.le_of_ble_eq_true rfl)⟩) ?_
        refine lv_if_eq (tgt := 68) hx hb dX3_nearestTo_51 (by decide) (fun c_51 => ?_) (fun c_51 => ?_)
        · have c_51 : (pEx S (nI k11)) = false := bI_f c_51
          refine lv_iinc (v := (nI k11) + 1) (lv' := [(5, .int ((nI k11) + 1)), (6, .int (pDist S tx ty (nI k11))), (3, .int ((pNear S tx ty k11).1)), (4, .int ((pNear S tx ty k11).2)), (0, .ref (q 1)), (1, .int (tx)), (2, .int (ty))]) hx hb dX3_nearestTo_68 hl (k := 1) rfl rfl (by decide) rfl (fun ls hl => ?_)
          refine lv_goto (tgt := 11) hx hb dX3_nearestTo_71 (by decide) ?_
          have e11_5 : (nI (k11 + 1) : Int32) = (nI k11) + 1 := (nI_1 _).symm
          have e11_3 : ((pNear S tx ty (k11 + 1)).1 : Int32) = (pNear S tx ty k11).1 := (by simp [pNear, c_15, c_51])
          have e11_4 : ((pNear S tx ty (k11 + 1)).2 : Int32) = (pNear S tx ty k11).2 := (by simp [pNear, c_15, c_51])
          exact ih11 (k11 + 1) (by omega) (by omega) _ (by rw [e11_5, e11_3, e11_4]; exact lv_sub hl [0, 2, 3, 4, 5, 6] rfl)
        · have c_51 : (pEx S (nI k11)) = true := bI_t c_51
          refine lv_iload hx hb dX3_nearestTo_54 (lv_at hl 0 rfl) ?_
          refine lv_iload hx hb dX3_nearestTo_56 (lv_at hl 3 rfl) ?_
          refine lv_icmp_ge (tgt := 68) hx hb dX3_nearestTo_58 (by decide) (fun c_58 => ?_) (fun c_58 => ?_)
          · have c_58 : ((pNear S tx ty k11).2 : Int32) ≤ pDist S tx ty (nI k11) := c_58
            refine lv_iinc (v := (nI k11) + 1) (lv' := [(5, .int ((nI k11) + 1)), (6, .int (pDist S tx ty (nI k11))), (3, .int ((pNear S tx ty k11).1)), (4, .int ((pNear S tx ty k11).2)), (0, .ref (q 1)), (1, .int (tx)), (2, .int (ty))]) hx hb dX3_nearestTo_68 hl (k := 1) rfl rfl (by decide) rfl (fun ls hl => ?_)
            refine lv_goto (tgt := 11) hx hb dX3_nearestTo_71 (by decide) ?_
            have e11_5 : (nI (k11 + 1) : Int32) = (nI k11) + 1 := (nI_1 _).symm
            have e11_3 : ((pNear S tx ty (k11 + 1)).1 : Int32) = (pNear S tx ty k11).1 := (by simp [pNear, c_15, c_51, c_58])
            have e11_4 : ((pNear S tx ty (k11 + 1)).2 : Int32) = (pNear S tx ty k11).2 := (by simp [pNear, c_15, c_51, c_58])
            exact ih11 (k11 + 1) (by omega) (by omega) _ (by rw [e11_5, e11_3, e11_4]; exact lv_sub hl [0, 2, 3, 4, 5, 6] rfl)
          · have c_58 : ¬ (((pNear S tx ty k11).2 : Int32) ≤ pDist S tx ty (nI k11)) := c_58
            refine lv_iload hx hb dX3_nearestTo_61 (lv_at hl 1 rfl) ?_
            refine lv_istore_n (lv' := [(3, .int (nI k11)), (6, .int (pDist S tx ty (nI k11))), (5, .int (nI k11)), (4, .int ((pNear S tx ty k11).2)), (0, .ref (q 1)), (1, .int (tx)), (2, .int (ty))]) hx hb dX3_nearestTo_63 rfl hl (by decide) rfl (fun ls hl => ?_)
            refine lv_iload hx hb dX3_nearestTo_64 (lv_at hl 1 rfl) ?_
            refine lv_istore (lv' := [(4, .int (pDist S tx ty (nI k11))), (3, .int (nI k11)), (6, .int (pDist S tx ty (nI k11))), (5, .int (nI k11)), (0, .ref (q 1)), (1, .int (tx)), (2, .int (ty))]) hx hb dX3_nearestTo_66 hl (by decide) rfl (fun ls hl => ?_)
            refine lv_iinc (v := (nI k11) + 1) (lv' := [(5, .int ((nI k11) + 1)), (4, .int (pDist S tx ty (nI k11))), (3, .int (nI k11)), (6, .int (pDist S tx ty (nI k11))), (0, .ref (q 1)), (1, .int (tx)), (2, .int (ty))]) hx hb dX3_nearestTo_68 hl (k := 3) rfl rfl (by decide) rfl (fun ls hl => ?_)
            refine lv_goto (tgt := 11) hx hb dX3_nearestTo_71 (by decide) ?_
            have e11_5 : (nI (k11 + 1) : Int32) = (nI k11) + 1 := (nI_1 _).symm
            have e11_3 : ((pNear S tx ty (k11 + 1)).1 : Int32) = nI k11 := (by simp [pNear, c_15, c_51, c_58])
            have e11_4 : ((pNear S tx ty (k11 + 1)).2 : Int32) = pDist S tx ty (nI k11) := (by simp [pNear, c_15, c_51, c_58])
            exact ih11 (k11 + 1) (by omega) (by omega) _ (by rw [e11_5, e11_3, e11_4]; exact lv_sub hl [0, 2, 1, 4, 5, 6] rfl)
  have e11_5 : (nI 0 : Int32) = (0 : Int32) := rfl
  have e11_3 : ((pNear S tx ty 0).1 : Int32) = (-9 : Int32) := (by rfl)
  have e11_4 : ((pNear S tx ty 0).2 : Int32) = (128 : Int32) := (by rfl)
  exact L11 (40 + 1) (0) (Nat.zero_le _) (by omega) _ (by rw [e11_5, e11_3, e11_4]; exact lv_sub hl [0, 2, 1, 3, 4, 5] rfl)
set_option maxHeartbeats 800000 in
set_option maxRecDepth 100000 in
theorem c_X3_numberUnder (l : Launch) (D : va_G) (cI cQ : ClassId) (q : Nat → Nat) (S : CS) (pa : Int32) : zRO l yX3_numberUnder (Cond.code yX3_numberUnder cX3_numberUnder 4 (some .int) :: zT) 2 42 [.ref (q 1), .int pa] D cI cQ (zPts cI q S) (pNumU S pa 40) := by
  refine zRO.of (cc := cX3_numberUnder) (maxL := 4) (ret := some .int) (by decide +kernel) rfl (Nat.le_of_ble_eq_true rfl) ?_
  intro pg e s mi args below meth cd hx hb hr hts hown hlocks hml hP hK ls hl
  have hz : ∀ w ∈ zT, w.before args s = true := fun w h => hts w (List.mem_cons_of_mem _ h)
  have hl : lv_has ls 4 [(0, .ref (q 1)), (1, .int (pa))] := hl
  refine lv_iconst (v := 0) hx hb dX3_numberUnder_0 (by decide) ?_
  refine lv_istore_n (lv' := [(2, .int (0 : Int32)), (0, .ref (q 1)), (1, .int (pa))]) hx hb dX3_numberUnder_1 rfl hl (by decide) rfl (fun ls hl => ?_)
  refine lv_iconst (v := 0) hx hb dX3_numberUnder_2 (by decide) ?_
  refine lv_istore_n (lv' := [(3, .int (0 : Int32)), (2, .int (0 : Int32)), (0, .ref (q 1)), (1, .int (pa))]) hx hb dX3_numberUnder_3 rfl hl (by decide) rfl (fun ls hl => ?_)
  have L4 : ∀ (n4 k4 : Nat), k4 ≤ 40 → 40 < k4 + n4 → ∀ (ls : Array Slot), lv_has ls 4 [(3, .int (nI k4)), (2, .int (pNumU S pa k4)), (0, .ref (q 1)), (1, .int (pa))] → W pg l e ({ frames := 2, cells := 0, slots := 0, locals := 42 }) s mi args below meth cd s.heap [] 0 0 (MQ below (vp_Si (fun r => r = pNumU S pa 40)) args s 0 0 (fun _ => False)) (F0 mi 4 ls []) := by
    intro n4
    induction n4 with
    | zero => intro k4 h1 h2; exact absurd h2 (by omega)
    | succ n4 ih4 =>
      intro k4 h1_4 h2_4  ls hl
      refine lv_iload_n hx hb dX3_numberUnder_4 rfl (lv_at hl 0 rfl) ?_
      refine lv_bipush (v := 40) hx hb dX3_numberUnder_5 (by decide) ?_
      refine lv_icmp_ge (tgt := 28) hx hb dX3_numberUnder_7 (by decide) (fun c_7 => ?_) (fun c_7 => ?_)
      · have c_7 : ((40 : Int32) : Int32) ≤ nI k4 := c_7
        have hk_4 : k4 = 40 := z_exit (by decide) h1_4 c_7
        refine lv_iload_n hx hb dX3_numberUnder_28 rfl (lv_at hl 1 rfl) ?_
        exact z_iret hx hb hr rfl hlocks (by rw [hk_4]) dX3_numberUnder_29
      · have c_7 : ¬ (((40 : Int32) : Int32) ≤ nI k4) := c_7
        have hk_4 : k4 < 40 := z_cont (by decide) h1_4 c_7
        refine lv_aload_n hx hb dX3_numberUnder_10 rfl (lv_at hl 2 rfl) ?_
        refine lv_iload_n hx hb dX3_numberUnder_11 rfl (lv_at hl 0 rfl) ?_
        refine z_ro (va_runV (As := [.int (nI k4)]) (rest := []) ⟨hx, hb, hml, hown, hz⟩ (c_X3_lordOf l D cI cQ q S (nI k4)) (zcwV 1 hz q2_118 q2_66 q2_67 q1_3 q2_68 hd_X3_lordOf (Nat.le_of_ble_eq_true rfl) (Nat.le_of_ble_eq_true rfl)) (z_pv (ci := 3) (q := (RX3, TX3, 5)) hK hP rfl rfl) rfl rfl hl.1 rfl (lv_room (Nat.le_of_ble_eq_true rfl)) dX3_numberUnder_12 ⟨(Nat.le_of_ble_eq_true rfl), (Nat.le_of_ble_eq_true rfl)⟩) ?_
        refine lv_iload_n hx hb dX3_numberUnder_15 rfl (lv_at hl 3 rfl) ?_
        refine lv_icmp_ne (tgt := 22) hx hb dX3_numberUnder_16 (by decide) (fun c_16 => ?_) (fun c_16 => ?_)
        · have c_16 : ¬ ((pLof S (nI k4) : Int32) = pa) := c_16
          refine lv_iinc (v := (nI k4) + 1) (lv' := [(3, .int ((nI k4) + 1)), (2, .int (pNumU S pa k4)), (0, .ref (q 1)), (1, .int (pa))]) hx hb dX3_numberUnder_22 hl (k := 0) rfl rfl (by decide) rfl (fun ls hl => ?_)
          refine lv_goto (tgt := 4) hx hb dX3_numberUnder_25 (by decide) ?_
          have e4_3 : (nI (k4 + 1) : Int32) = (nI k4) + 1 := (nI_1 _).symm
          have e4_2 : (pNumU S pa (k4 + 1) : Int32) = pNumU S pa k4 := (by simp [pNumU, c_7, c_16])
          exact ih4 (k4 + 1) (by omega) (by omega) _ (by rw [e4_3, e4_2]; exact lv_sub hl [0, 1, 2, 3] rfl)
        · have c_16 : (pLof S (nI k4) : Int32) = pa := c_16
          refine lv_iinc (v := (pNumU S pa k4) + 1) (lv' := [(2, .int ((pNumU S pa k4) + 1)), (3, .int (nI k4)), (0, .ref (q 1)), (1, .int (pa))]) hx hb dX3_numberUnder_19 hl (k := 1) rfl rfl (by decide) rfl (fun ls hl => ?_)
          refine lv_iinc (v := (nI k4) + 1) (lv' := [(3, .int ((nI k4) + 1)), (2, .int ((pNumU S pa k4) + 1)), (0, .ref (q 1)), (1, .int (pa))]) hx hb dX3_numberUnder_22 hl (k := 1) rfl rfl (by decide) rfl (fun ls hl => ?_)
          refine lv_goto (tgt := 4) hx hb dX3_numberUnder_25 (by decide) ?_
          have e4_3 : (nI (k4 + 1) : Int32) = (nI k4) + 1 := (nI_1 _).symm
          have e4_2 : (pNumU S pa (k4 + 1) : Int32) = (pNumU S pa k4) + 1 := (by simp [pNumU, c_7, c_16])
          exact ih4 (k4 + 1) (by omega) (by omega) _ (by rw [e4_3, e4_2]; exact lv_sub hl [0, 1, 2, 3] rfl)
  have e4_3 : (nI 0 : Int32) = (0 : Int32) := rfl
  have e4_2 : (pNumU S pa 0 : Int32) = (0 : Int32) := (by rfl)
  exact L4 (40 + 1) (0) (Nat.zero_le _) (by omega) _ (by rw [e4_3, e4_2]; exact lv_sub hl [0, 1, 2, 3] rfl)
set_option maxHeartbeats 800000 in
set_option maxRecDepth 100000 in
theorem c_X3_wealthUnder (l : Launch) (D : va_G) (cI cQ : ClassId) (q : Nat → Nat) (S : CS) (pa : Int32) : zRO l yX3_wealthUnder (Cond.code yX3_wealthUnder cX3_wealthUnder 4 (some .int) :: zT) 2 42 [.ref (q 1), .int pa] D cI cQ (zPts cI q S) (pWeaU S pa 40) := by
  refine zRO.of (cc := cX3_wealthUnder) (maxL := 4) (ret := some .int) (by decide +kernel) rfl (Nat.le_of_ble_eq_true rfl) ?_
  intro pg e s mi args below meth cd hx hb hr hts hown hlocks hml hP hK ls hl
  have hz : ∀ w ∈ zT, w.before args s = true := fun w h => hts w (List.mem_cons_of_mem _ h)
  have hl : lv_has ls 4 [(0, .ref (q 1)), (1, .int (pa))] := hl
  refine lv_iconst (v := 0) hx hb dX3_wealthUnder_0 (by decide) ?_
  refine lv_istore_n (lv' := [(2, .int (0 : Int32)), (0, .ref (q 1)), (1, .int (pa))]) hx hb dX3_wealthUnder_1 rfl hl (by decide) rfl (fun ls hl => ?_)
  refine lv_iconst (v := 0) hx hb dX3_wealthUnder_2 (by decide) ?_
  refine lv_istore_n (lv' := [(3, .int (0 : Int32)), (2, .int (0 : Int32)), (0, .ref (q 1)), (1, .int (pa))]) hx hb dX3_wealthUnder_3 rfl hl (by decide) rfl (fun ls hl => ?_)
  have L4 : ∀ (n4 k4 : Nat), k4 ≤ 40 → 40 < k4 + n4 → ∀ (ls : Array Slot), lv_has ls 4 [(3, .int (nI k4)), (2, .int (pWeaU S pa k4)), (0, .ref (q 1)), (1, .int (pa))] → W pg l e ({ frames := 2, cells := 0, slots := 0, locals := 42 }) s mi args below meth cd s.heap [] 0 0 (MQ below (vp_Si (fun r => r = pWeaU S pa 40)) args s 0 0 (fun _ => False)) (F0 mi 4 ls []) := by
    intro n4
    induction n4 with
    | zero => intro k4 h1 h2; exact absurd h2 (by omega)
    | succ n4 ih4 =>
      intro k4 h1_4 h2_4  ls hl
      refine lv_iload_n hx hb dX3_wealthUnder_4 rfl (lv_at hl 0 rfl) ?_
      refine lv_bipush (v := 40) hx hb dX3_wealthUnder_5 (by decide) ?_
      refine lv_icmp_ge (tgt := 34) hx hb dX3_wealthUnder_7 (by decide) (fun c_7 => ?_) (fun c_7 => ?_)
      · have c_7 : ((40 : Int32) : Int32) ≤ nI k4 := c_7
        have hk_4 : k4 = 40 := z_exit (by decide) h1_4 c_7
        refine lv_iload_n hx hb dX3_wealthUnder_34 rfl (lv_at hl 1 rfl) ?_
        exact z_iret hx hb hr rfl hlocks (by rw [hk_4]) dX3_wealthUnder_35
      · have c_7 : ¬ (((40 : Int32) : Int32) ≤ nI k4) := c_7
        have hk_4 : k4 < 40 := z_cont (by decide) h1_4 c_7
        refine lv_aload_n hx hb dX3_wealthUnder_10 rfl (lv_at hl 2 rfl) ?_
        refine lv_iload_n hx hb dX3_wealthUnder_11 rfl (lv_at hl 0 rfl) ?_
        refine z_ro (va_runV (As := [.int (nI k4)]) (rest := []) ⟨hx, hb, hml, hown, hz⟩ (c_X3_lordOf l D cI cQ q S (nI k4)) (zcwV 1 hz q2_118 q2_66 q2_67 q1_3 q2_68 hd_X3_lordOf (Nat.le_of_ble_eq_true rfl) (Nat.le_of_ble_eq_true rfl)) (z_pv (ci := 3) (q := (RX3, TX3, 5)) hK hP rfl rfl) rfl rfl hl.1 rfl (lv_room (Nat.le_of_ble_eq_true rfl)) dX3_wealthUnder_12 ⟨(Nat.le_of_ble_eq_true rfl), (Nat.le_of_ble_eq_true rfl)⟩) ?_
        refine lv_iload_n hx hb dX3_wealthUnder_15 rfl (lv_at hl 3 rfl) ?_
        refine lv_icmp_ne (tgt := 28) hx hb dX3_wealthUnder_16 (by decide) (fun c_16 => ?_) (fun c_16 => ?_)
        · have c_16 : ¬ ((pLof S (nI k4) : Int32) = pa) := c_16
          refine lv_iinc (v := (nI k4) + 1) (lv' := [(3, .int ((nI k4) + 1)), (2, .int (pWeaU S pa k4)), (0, .ref (q 1)), (1, .int (pa))]) hx hb dX3_wealthUnder_28 hl (k := 0) rfl rfl (by decide) rfl (fun ls hl => ?_)
          refine lv_goto (tgt := 4) hx hb dX3_wealthUnder_31 (by decide) ?_
          have e4_3 : (nI (k4 + 1) : Int32) = (nI k4) + 1 := (nI_1 _).symm
          have e4_2 : (pWeaU S pa (k4 + 1) : Int32) = pWeaU S pa k4 := (by simp [pWeaU, c_7, c_16])
          exact ih4 (k4 + 1) (by omega) (by omega) _ (by rw [e4_3, e4_2]; exact lv_sub hl [0, 1, 2, 3] rfl)
        · have c_16 : (pLof S (nI k4) : Int32) = pa := c_16
          refine lv_iload_n hx hb dX3_wealthUnder_19 rfl (lv_at hl 1 rfl) ?_
          refine lv_aload_n hx hb dX3_wealthUnder_20 rfl (lv_at hl 2 rfl) ?_
          refine va_get (D := D) (ci := 3) (v := .ref (q 4)) (C := RX3) (T := TX3) (N := 5) hx hb hz inZ3 hown hK.1 hP 0 rfl rfl 3 (by decide) (hz _ q1_33) (fun _ h9 => h9) rfl dX3_wealthUnder_21 ?_
          refine lv_iload_n hx hb dX3_wealthUnder_24 rfl (lv_at hl 0 rfl) ?_
          refine va_iald (f := sW S) hx hb hK.1 hP 3 0 rfl rfl (i := nI k4) (vp_in_nI hk_4 (by decide)) dX3_wealthUnder_25 ?_
          refine lv_iadd hx hb dX3_wealthUnder_26 ?_
          refine lv_istore_n (lv' := [(2, .int ((pWeaU S pa k4) + ((sW S) (nI k4).toNatClampNeg))), (3, .int (nI k4)), (0, .ref (q 1)), (1, .int (pa))]) hx hb dX3_wealthUnder_27 rfl hl (by decide) rfl (fun ls hl => ?_)
          refine lv_iinc (v := (nI k4) + 1) (lv' := [(3, .int ((nI k4) + 1)), (2, .int ((pWeaU S pa k4) + ((sW S) (nI k4).toNatClampNeg))), (0, .ref (q 1)), (1, .int (pa))]) hx hb dX3_wealthUnder_28 hl (k := 1) rfl rfl (by decide) rfl (fun ls hl => ?_)
          refine lv_goto (tgt := 4) hx hb dX3_wealthUnder_31 (by decide) ?_
          have e4_3 : (nI (k4 + 1) : Int32) = (nI k4) + 1 := (nI_1 _).symm
          have e4_2 : (pWeaU S pa (k4 + 1) : Int32) = (pWeaU S pa k4) + ((sW S) (nI k4).toNatClampNeg) := (by simp [pWeaU, c_7, c_16])
          exact ih4 (k4 + 1) (by omega) (by omega) _ (by rw [e4_3, e4_2]; exact lv_sub hl [0, 1, 2, 3] rfl)
  have e4_3 : (nI 0 : Int32) = (0 : Int32) := rfl
  have e4_2 : (pWeaU S pa 0 : Int32) = (0 : Int32) := (by rfl)
  exact L4 (40 + 1) (0) (Nat.zero_le _) (by omega) _ (by rw [e4_3, e4_2]; exact lv_sub hl [0, 1, 2, 3] rfl)
set_option maxHeartbeats 800000 in
set_option maxRecDepth 100000 in
theorem c_X3_poorestUnder (l : Launch) (D : va_G) (cI cQ : ClassId) (q : Nat → Nat) (S : CS) (pa le to ri bo : Int32) : zRO l yX3_poorestUnder (Cond.code yX3_poorestUnder cX3_poorestUnder 10 (some .int) :: zT) 2 47 [.ref (q 1), .int pa, .int le, .int to, .int ri, .int bo] D cI cQ (zPts cI q S) ((pPoor S pa le to ri bo 40).1) := by
  refine zRO.of (cc := cX3_poorestUnder) (maxL := 10) (ret := some .int) (by decide +kernel) rfl (Nat.le_of_ble_eq_true rfl) ?_
  intro pg e s mi args below meth cd hx hb hr hts hown hlocks hml hP hK ls hl
  have hz : ∀ w ∈ zT, w.before args s = true := fun w h => hts w (List.mem_cons_of_mem _ h)
  have hl : lv_has ls 10 [(0, .ref (q 1)), (1, .int (pa)), (2, .int (le)), (3, .int (to)), (4, .int (ri)), (5, .int (bo))] := hl
  refine lv_bipush (v := (-9)) hx hb dX3_poorestUnder_0 (by decide) ?_
  refine lv_istore (lv' := [(6, .int (-9 : Int32)), (0, .ref (q 1)), (1, .int (pa)), (2, .int (le)), (3, .int (to)), (4, .int (ri)), (5, .int (bo))]) hx hb dX3_poorestUnder_2 hl (by decide) rfl (fun ls hl => ?_)
  refine lv_bipush (v := 101) hx hb dX3_poorestUnder_4 (by decide) ?_
  refine lv_istore (lv' := [(7, .int (101 : Int32)), (6, .int (-9 : Int32)), (0, .ref (q 1)), (1, .int (pa)), (2, .int (le)), (3, .int (to)), (4, .int (ri)), (5, .int (bo))]) hx hb dX3_poorestUnder_6 hl (by decide) rfl (fun ls hl => ?_)
  refine lv_iconst (v := 0) hx hb dX3_poorestUnder_8 (by decide) ?_
  refine lv_istore (lv' := [(8, .int (0 : Int32)), (7, .int (101 : Int32)), (6, .int (-9 : Int32)), (0, .ref (q 1)), (1, .int (pa)), (2, .int (le)), (3, .int (to)), (4, .int (ri)), (5, .int (bo))]) hx hb dX3_poorestUnder_9 hl (by decide) rfl (fun ls hl => ?_)
  have L11 : ∀ (n11 k11 : Nat), k11 ≤ 40 → 40 < k11 + n11 → ∀ (ls : Array Slot), lv_has ls 10 [(8, .int (nI k11)), (6, .int ((pPoor S pa le to ri bo k11).1)), (7, .int ((pPoor S pa le to ri bo k11).2)), (0, .ref (q 1)), (1, .int (pa)), (2, .int (le)), (3, .int (to)), (4, .int (ri)), (5, .int (bo))] → W pg l e ({ frames := 2, cells := 0, slots := 0, locals := 47 }) s mi args below meth cd s.heap [] 0 0 (MQ below (vp_Si (fun r => r = (pPoor S pa le to ri bo 40).1)) args s 0 0 (fun _ => False)) (F0 mi 11 ls []) := by
    intro n11
    induction n11 with
    | zero => intro k11 h1 h2; exact absurd h2 (by omega)
    | succ n11 ih11 =>
      intro k11 h1_11 h2_11  ls hl
      refine lv_iload hx hb dX3_poorestUnder_11 (lv_at hl 0 rfl) ?_
      refine lv_bipush (v := 40) hx hb dX3_poorestUnder_13 (by decide) ?_
      refine lv_icmp_ge (tgt := 86) hx hb dX3_poorestUnder_15 (by decide) (fun c_15 => ?_) (fun c_15 => ?_)
      · have c_15 : ((40 : Int32) : Int32) ≤ nI k11 := c_15
        have hk_11 : k11 = 40 := z_exit (by decide) h1_11 c_15
        refine lv_iload hx hb dX3_poorestUnder_86 (lv_at hl 1 rfl) ?_
        exact z_iret hx hb hr rfl hlocks (by rw [hk_11]) dX3_poorestUnder_88
      · have c_15 : ¬ (((40 : Int32) : Int32) ≤ nI k11) := c_15
        have hk_11 : k11 < 40 := z_cont (by decide) h1_11 c_15
        refine lv_aload_n hx hb dX3_poorestUnder_18 rfl (lv_at hl 3 rfl) ?_
        refine lv_iload hx hb dX3_poorestUnder_19 (lv_at hl 0 rfl) ?_
        refine z_ro (va_runV (As := [.int (nI k11)]) (rest := []) ⟨hx, hb, hml, hown, hz⟩ (c_X3_lordOf l D cI cQ q S (nI k11)) (zcwV 1 hz q2_118 q2_66 q2_67 q1_3 q2_68 hd_X3_lordOf (Nat.le_of_ble_eq_true rfl) (Nat.le_of_ble_eq_true rfl)) (z_pv (ci := 3) (q := (RX3, TX3, 5)) hK hP rfl rfl) rfl rfl hl.1 rfl (lv_room (Nat.le_of_ble_eq_true rfl)) dX3_poorestUnder_21 ⟨(Nat.le_of_ble_eq_true rfl), (Nat.le_of_ble_eq_true rfl)⟩) ?_
        refine lv_iload_n hx hb dX3_poorestUnder_24 rfl (lv_at hl 4 rfl) ?_
        refine lv_icmp_ne (tgt := 47) hx hb dX3_poorestUnder_25 (by decide) (fun c_25 => ?_) (fun c_25 => ?_)
        · have c_25 : ¬ ((pLof S (nI k11) : Int32) = pa) := c_25
          refine lv_iconst (v := 0) hx hb dX3_poorestUnder_47 (by decide) ?_
          refine lv_istore (lv' := [(9, .int (0 : Int32)), (8, .int (nI k11)), (6, .int ((pPoor S pa le to ri bo k11).1)), (7, .int ((pPoor S pa le to ri bo k11).2)), (0, .ref (q 1)), (1, .int (pa)), (2, .int (le)), (3, .int (to)), (4, .int (ri)), (5, .int (bo))]) hx hb dX3_poorestUnder_48 hl (by decide) rfl (fun ls hl => ?_)
          refine lv_iload hx hb dX3_poorestUnder_50 (lv_at hl 0 rfl) ?_
          refine lv_if_eq (tgt := 80) hx hb dX3_poorestUnder_52 (by decide) (fun _ => ?_) (fun c_ => absurd (by decide) c_)
          refine lv_iinc (v := (nI k11) + 1) (lv' := [(8, .int ((nI k11) + 1)), (9, .int (0 : Int32)), (6, .int ((pPoor S pa le to ri bo k11).1)), (7, .int ((pPoor S pa le to ri bo k11).2)), (0, .ref (q 1)), (1, .int (pa)), (2, .int (le)), (3, .int (to)), (4, .int (ri)), (5, .int (bo))]) hx hb dX3_poorestUnder_80 hl (k := 1) rfl rfl (by decide) rfl (fun ls hl => ?_)
          refine lv_goto (tgt := 11) hx hb dX3_poorestUnder_83 (by decide) ?_
          have e11_8 : (nI (k11 + 1) : Int32) = (nI k11) + 1 := (nI_1 _).symm
          have e11_6 : ((pPoor S pa le to ri bo (k11 + 1)).1 : Int32) = (pPoor S pa le to ri bo k11).1 := (by simp [pPoor, c_15, c_25])
          have e11_7 : ((pPoor S pa le to ri bo (k11 + 1)).2 : Int32) = (pPoor S pa le to ri bo k11).2 := (by simp [pPoor, c_15, c_25])
          exact ih11 (k11 + 1) (by omega) (by omega) _ (by rw [e11_8, e11_6, e11_7]; exact lv_sub hl [0, 2, 3, 4, 5, 6, 7, 8, 9] rfl)
        · have c_25 : (pLof S (nI k11) : Int32) = pa := c_25
          refine lv_aload_n hx hb dX3_poorestUnder_28 rfl (lv_at hl 3 rfl) ?_
          refine lv_iload hx hb dX3_poorestUnder_29 (lv_at hl 0 rfl) ?_
          refine lv_iload_n hx hb dX3_poorestUnder_31 rfl (lv_at hl 5 rfl) ?_
          refine lv_iload_n hx hb dX3_poorestUnder_32 rfl (lv_at hl 6 rfl) ?_
          refine lv_iload hx hb dX3_poorestUnder_33 (lv_at hl 7 rfl) ?_
          refine lv_iload hx hb dX3_poorestUnder_35 (lv_at hl 8 rfl) ?_
          refine z_ro (va_runV (As := [.int (nI k11), .int (le), .int (to), .int (ri), .int (bo)]) (rest := []) ⟨hx, hb, hml, hown, hz⟩ (c_X3_liesIn l D cI cQ q S (nI k11) le to ri bo) (zcwV 5 hz q1_239 q2_0 q2_1 q1_3 q2_2 hd_X3_liesIn (Nat.le_of_ble_eq_true rfl) (Nat.le_of_ble_eq_true rfl)) (z_pv (ci := 3) (q := (RX3, TX3, 5)) hK hP rfl rfl) rfl rfl hl.1 rfl (lv_room (Nat.le_of_ble_eq_true rfl)) dX3_poorestUnder_37 ⟨(Nat.le_of_ble_eq_true rfl), (Nat.le_of_ble_eq_true rfl)⟩) ?_
          refine lv_if_eq (tgt := 47) hx hb dX3_poorestUnder_40 (by decide) (fun c_40 => ?_) (fun c_40 => ?_)
          · have c_40 : (pLies S (nI k11) le to ri bo) = false := bI_f c_40
            refine lv_iconst (v := 0) hx hb dX3_poorestUnder_47 (by decide) ?_
            refine lv_istore (lv' := [(9, .int (0 : Int32)), (8, .int (nI k11)), (6, .int ((pPoor S pa le to ri bo k11).1)), (7, .int ((pPoor S pa le to ri bo k11).2)), (0, .ref (q 1)), (1, .int (pa)), (2, .int (le)), (3, .int (to)), (4, .int (ri)), (5, .int (bo))]) hx hb dX3_poorestUnder_48 hl (by decide) rfl (fun ls hl => ?_)
            refine lv_iload hx hb dX3_poorestUnder_50 (lv_at hl 0 rfl) ?_
            refine lv_if_eq (tgt := 80) hx hb dX3_poorestUnder_52 (by decide) (fun _ => ?_) (fun c_ => absurd (by decide) c_)
            refine lv_iinc (v := (nI k11) + 1) (lv' := [(8, .int ((nI k11) + 1)), (9, .int (0 : Int32)), (6, .int ((pPoor S pa le to ri bo k11).1)), (7, .int ((pPoor S pa le to ri bo k11).2)), (0, .ref (q 1)), (1, .int (pa)), (2, .int (le)), (3, .int (to)), (4, .int (ri)), (5, .int (bo))]) hx hb dX3_poorestUnder_80 hl (k := 1) rfl rfl (by decide) rfl (fun ls hl => ?_)
            refine lv_goto (tgt := 11) hx hb dX3_poorestUnder_83 (by decide) ?_
            have e11_8 : (nI (k11 + 1) : Int32) = (nI k11) + 1 := (nI_1 _).symm
            have e11_6 : ((pPoor S pa le to ri bo (k11 + 1)).1 : Int32) = (pPoor S pa le to ri bo k11).1 := (by simp [pPoor, c_15, c_25, c_40])
            have e11_7 : ((pPoor S pa le to ri bo (k11 + 1)).2 : Int32) = (pPoor S pa le to ri bo k11).2 := (by simp [pPoor, c_15, c_25, c_40])
            exact ih11 (k11 + 1) (by omega) (by omega) _ (by rw [e11_8, e11_6, e11_7]; exact lv_sub hl [0, 2, 3, 4, 5, 6, 7, 8, 9] rfl)
          · have c_40 : (pLies S (nI k11) le to ri bo) = true := bI_t c_40
            refine lv_iconst (v := 1) hx hb dX3_poorestUnder_43 (by decide) ?_
            refine lv_goto (tgt := 48) hx hb dX3_poorestUnder_44 (by decide) ?_
            refine lv_istore (lv' := [(9, .int (1 : Int32)), (8, .int (nI k11)), (6, .int ((pPoor S pa le to ri bo k11).1)), (7, .int ((pPoor S pa le to ri bo k11).2)), (0, .ref (q 1)), (1, .int (pa)), (2, .int (le)), (3, .int (to)), (4, .int (ri)), (5, .int (bo))]) hx hb dX3_poorestUnder_48 hl (by decide) rfl (fun ls hl => ?_)
            refine lv_iload hx hb dX3_poorestUnder_50 (lv_at hl 0 rfl) ?_
            refine lv_if_eq (tgt := 80) hx hb dX3_poorestUnder_52 (by decide) (fun c_ => absurd c_ (by decide)) (fun _ => ?_)
            refine lv_aload_n hx hb dX3_poorestUnder_55 rfl (lv_at hl 4 rfl) ?_
            refine va_get (D := D) (ci := 3) (v := .ref (q 4)) (C := RX3) (T := TX3) (N := 5) hx hb hz inZ3 hown hK.1 hP 0 rfl rfl 3 (by decide) (hz _ q1_33) (fun _ h9 => h9) rfl dX3_poorestUnder_56 ?_
            refine lv_iload hx hb dX3_poorestUnder_59 (lv_at hl 1 rfl) ?_
            refine va_iald (f := sW S) hx hb hK.1 hP 3 0 rfl rfl (i := nI k11) (vp_in_nI hk_11 (by decide)) dX3_poorestUnder_61 ?_
            refine lv_iload hx hb dX3_poorestUnder_62 (lv_at hl 3 rfl) ?_
            refine lv_icmp_ge (tgt := 80) hx hb dX3_poorestUnder_64 (by decide) (fun c_64 => ?_) (fun c_64 => ?_)
            · have c_64 : ((pPoor S pa le to ri bo k11).2 : Int32) ≤ (sW S) (nI k11).toNatClampNeg := c_64
              refine lv_iinc (v := (nI k11) + 1) (lv' := [(8, .int ((nI k11) + 1)), (9, .int (1 : Int32)), (6, .int ((pPoor S pa le to ri bo k11).1)), (7, .int ((pPoor S pa le to ri bo k11).2)), (0, .ref (q 1)), (1, .int (pa)), (2, .int (le)), (3, .int (to)), (4, .int (ri)), (5, .int (bo))]) hx hb dX3_poorestUnder_80 hl (k := 1) rfl rfl (by decide) rfl (fun ls hl => ?_)
              refine lv_goto (tgt := 11) hx hb dX3_poorestUnder_83 (by decide) ?_
              have e11_8 : (nI (k11 + 1) : Int32) = (nI k11) + 1 := (nI_1 _).symm
              have e11_6 : ((pPoor S pa le to ri bo (k11 + 1)).1 : Int32) = (pPoor S pa le to ri bo k11).1 := (by simp [pPoor, c_15, c_25, c_40, c_64])
              have e11_7 : ((pPoor S pa le to ri bo (k11 + 1)).2 : Int32) = (pPoor S pa le to ri bo k11).2 := (by simp [pPoor, c_15, c_25, c_40, c_64])
              exact ih11 (k11 + 1) (by omega) (by omega) _ (by rw [e11_8, e11_6, e11_7]; exact lv_sub hl [0, 2, 3, 4, 5, 6, 7, 8, 9] rfl)
            · have c_64 : ¬ (((pPoor S pa le to ri bo k11).2 : Int32) ≤ (sW S) (nI k11).toNatClampNeg) := c_64
              refine lv_iload hx hb dX3_poorestUnder_67 (lv_at hl 1 rfl) ?_
              refine lv_istore (lv' := [(6, .int (nI k11)), (9, .int (1 : Int32)), (8, .int (nI k11)), (7, .int ((pPoor S pa le to ri bo k11).2)), (0, .ref (q 1)), (1, .int (pa)), (2, .int (le)), (3, .int (to)), (4, .int (ri)), (5, .int (bo))]) hx hb dX3_poorestUnder_69 hl (by decide) rfl (fun ls hl => ?_)
              refine lv_aload_n hx hb dX3_poorestUnder_71 rfl (lv_at hl 4 rfl) ?_
              refine va_get (D := D) (ci := 3) (v := .ref (q 4)) (C := RX3) (T := TX3) (N := 5) hx hb hz inZ3 hown hK.1 hP 0 rfl rfl 3 (by decide) (hz _ q1_33) (fun _ h9 => h9) rfl dX3_poorestUnder_72 ?_
              refine lv_iload hx hb dX3_poorestUnder_75 (lv_at hl 2 rfl) ?_
              refine va_iald (f := sW S) hx hb hK.1 hP 3 0 rfl rfl (i := nI k11) (vp_in_nI hk_11 (by decide)) dX3_poorestUnder_77 ?_
              refine lv_istore (lv' := [(7, .int ((sW S) (nI k11).toNatClampNeg)), (6, .int (nI k11)), (9, .int (1 : Int32)), (8, .int (nI k11)), (0, .ref (q 1)), (1, .int (pa)), (2, .int (le)), (3, .int (to)), (4, .int (ri)), (5, .int (bo))]) hx hb dX3_poorestUnder_78 hl (by decide) rfl (fun ls hl => ?_)
              refine lv_iinc (v := (nI k11) + 1) (lv' := [(8, .int ((nI k11) + 1)), (7, .int ((sW S) (nI k11).toNatClampNeg)), (6, .int (nI k11)), (9, .int (1 : Int32)), (0, .ref (q 1)), (1, .int (pa)), (2, .int (le)), (3, .int (to)), (4, .int (ri)), (5, .int (bo))]) hx hb dX3_poorestUnder_80 hl (k := 3) rfl rfl (by decide) rfl (fun ls hl => ?_)
              refine lv_goto (tgt := 11) hx hb dX3_poorestUnder_83 (by decide) ?_
              have e11_8 : (nI (k11 + 1) : Int32) = (nI k11) + 1 := (nI_1 _).symm
              have e11_6 : ((pPoor S pa le to ri bo (k11 + 1)).1 : Int32) = nI k11 := (by simp [pPoor, c_15, c_25, c_40, c_64])
              have e11_7 : ((pPoor S pa le to ri bo (k11 + 1)).2 : Int32) = (sW S) (nI k11).toNatClampNeg := (by simp [pPoor, c_15, c_25, c_40, c_64])
              exact ih11 (k11 + 1) (by omega) (by omega) _ (by rw [e11_8, e11_6, e11_7]; exact lv_sub hl [0, 2, 1, 4, 5, 6, 7, 8, 9] rfl)
  have e11_8 : (nI 0 : Int32) = (0 : Int32) := rfl
  have e11_6 : ((pPoor S pa le to ri bo 0).1 : Int32) = (-9 : Int32) := (by rfl)
  have e11_7 : ((pPoor S pa le to ri bo 0).2 : Int32) = (101 : Int32) := (by rfl)
  exact L11 (40 + 1) (0) (Nat.zero_le _) (by omega) _ (by rw [e11_8, e11_6, e11_7]; exact lv_sub hl [0, 2, 1, 3, 4, 5, 6, 7, 8] rfl)
set_option maxHeartbeats 800000 in
set_option maxRecDepth 100000 in
theorem c_X3_changeLord (l : Launch) (D : va_G) (cI cQ : ClassId) (q : Nat → Nat) (S : CS) (fr no le to ri bo : Int32) (g1 : FI) (hg1 : g1 = pChl S fr no le to ri bo 40) : zWR l yX3_changeLord (Cond.code yX3_changeLord cX3_changeLord 8 (none) :: zT) 2 47 [.ref (q 1), .int fr, .int no, .int le, .int to, .int ri, .int bo] D cI cQ (zPts cI q S) none (zPts cI q (uL S g1)) := by
  refine zWR.of (cc := cX3_changeLord) (maxL := 8) (ret := none) (by decide +kernel) rfl (Nat.le_of_ble_eq_true rfl) ?_
  intro pg e s mi args below meth cd hx hb hr hts hown hlocks hml hP hD hS hK ls hl
  have hz : ∀ w ∈ zT, w.before args s = true := fun w h => hts w (List.mem_cons_of_mem _ h)
  have hl : lv_has ls 8 [(0, .ref (q 1)), (1, .int (fr)), (2, .int (no)), (3, .int (le)), (4, .int (to)), (5, .int (ri)), (6, .int (bo))] := hl
  refine lv_iconst (v := 0) hx hb dX3_changeLord_0 (by decide) ?_
  refine lv_istore (lv' := [(7, .int (0 : Int32)), (0, .ref (q 1)), (1, .int (fr)), (2, .int (no)), (3, .int (le)), (4, .int (to)), (5, .int (ri)), (6, .int (bo))]) hx hb dX3_changeLord_1 hl (by decide) rfl (fun ls hl => ?_)
  have L3 : ∀ (n3 k3 : Nat), k3 ≤ 40 → 40 < k3 + n3 → ∀ (H : Heap) (locs : List Loc), va_P D vwCl (zPts cI q (uL S (pChl S fr no le to ri bo k3))) H → va_D (zA (zPts cI q S)) (zPts cI q (uL S (pChl S fr no le to ri bo k3))) → va_S (zA (zPts cI q S)) s.heap H locs → ∀ (ls : Array Slot), lv_has ls 8 [(7, .int (nI k3)), (0, .ref (q 1)), (1, .int (fr)), (2, .int (no)), (3, .int (le)), (4, .int (to)), (5, .int (ri)), (6, .int (bo))] → W pg l e ({ frames := 2, cells := 0, slots := 0, locals := 47 }) s mi args below meth cd H locs 0 0 (MQ below (zQ D (zPts cI q S) none (zPts cI q (uL S g1))) args s 0 0 (zA (zPts cI q S))) (F0 mi 3 ls []) := by
    intro n3
    induction n3 with
    | zero => intro k3 h1 h2; exact absurd h2 (by omega)
    | succ n3 ih3 =>
      intro k3 h1_3 h2_3  H locs hP hD hS ls hl
      refine lv_iload hx hb dX3_changeLord_3 (lv_at hl 0 rfl) ?_
      refine lv_bipush (v := 40) hx hb dX3_changeLord_5 (by decide) ?_
      refine lv_icmp_ge (tgt := 51) hx hb dX3_changeLord_7 (by decide) (fun c_7 => ?_) (fun c_7 => ?_)
      · have c_7 : ((40 : Int32) : Int32) ≤ nI k3 := c_7
        have hk_3 : k3 = 40 := z_exit (by decide) h1_3 c_7
        exact z_wvret hx hb hr hlocks hP hS (congrArg (fun T => zPts cI q T) (show uL S (pChl S fr no le to ri bo k3) = uL S g1 from by subst hg1; rw [hk_3])) dX3_changeLord_51
      · have c_7 : ¬ (((40 : Int32) : Int32) ≤ nI k3) := c_7
        have hk_3 : k3 < 40 := z_cont (by decide) h1_3 c_7
        refine lv_aload_n hx hb dX3_changeLord_10 rfl (lv_at hl 1 rfl) ?_
        refine lv_iload hx hb dX3_changeLord_11 (lv_at hl 0 rfl) ?_
        refine lv_iload_n hx hb dX3_changeLord_13 rfl (lv_at hl 4 rfl) ?_
        refine lv_iload hx hb dX3_changeLord_14 (lv_at hl 5 rfl) ?_
        refine lv_iload hx hb dX3_changeLord_16 (lv_at hl 6 rfl) ?_
        refine lv_iload hx hb dX3_changeLord_18 (lv_at hl 7 rfl) ?_
        refine z_ro (va_runV (As := [.int (nI k3), .int (le), .int (to), .int (ri), .int (bo)]) (rest := []) ⟨hx, hb, hml, hown, hz⟩ (c_X3_liesIn l D cI cQ q (uL S (pChl S fr no le to ri bo k3)) (nI k3) le to ri bo) (zcwV 5 hz q1_239 q2_0 q2_1 q1_3 q2_2 hd_X3_liesIn (Nat.le_of_ble_eq_true rfl) (Nat.le_of_ble_eq_true rfl)) (z_pv (ci := 3) (q := (RX3, TX3, 5)) hK hP rfl rfl) rfl rfl hl.1 rfl (lv_room (Nat.le_of_ble_eq_true rfl)) dX3_changeLord_20 ⟨(Nat.le_of_ble_eq_true rfl), (Nat.le_of_ble_eq_true rfl)⟩) ?_
        refine lv_if_eq (tgt := 45) hx hb dX3_changeLord_23 (by decide) (fun c_23 => ?_) (fun c_23 => ?_)
        · have c_23 : (pLies S (nI k3) le to ri bo) = false := bI_f c_23
          refine lv_iinc (v := (nI k3) + 1) (lv' := [(7, .int ((nI k3) + 1)), (0, .ref (q 1)), (1, .int (fr)), (2, .int (no)), (3, .int (le)), (4, .int (to)), (5, .int (ri)), (6, .int (bo))]) hx hb dX3_changeLord_45 hl (k := 0) rfl rfl (by decide) rfl (fun ls hl => ?_)
          refine lv_goto (tgt := 3) hx hb dX3_changeLord_48 (by decide) ?_
          have e3_7 : (nI (k3 + 1) : Int32) = (nI k3) + 1 := (nI_1 _).symm
          have eS3 : uL S (pChl S fr no le to ri bo (k3 + 1)) = uL S (pChl S fr no le to ri bo k3) := by simp [pChl, uL_u, c_7, c_23]
          exact ih3 (k3 + 1) (by omega) (by omega) H locs (by rw [eS3]; exact hP) (by rw [eS3]; exact hD) hS _ (by rw [e3_7]; exact lv_sub hl [0, 1, 2, 3, 4, 5, 6, 7] rfl)
        · have c_23 : (pLies S (nI k3) le to ri bo) = true := bI_t c_23
          refine lv_aload_n hx hb dX3_changeLord_26 rfl (lv_at hl 1 rfl) ?_
          refine va_get (D := D) (ci := 3) (v := .ref (q 5)) (C := RX3) (T := TX3) (N := 5) hx hb hz inZ3 hown hK.1 hP 0 rfl rfl 4 (by decide) (hz _ q1_34) (fun _ h9 => h9) rfl dX3_changeLord_27 ?_
          refine lv_iload hx hb dX3_changeLord_30 (lv_at hl 0 rfl) ?_
          refine va_iald (f := pChl S fr no le to ri bo k3) hx hb hK.1 hP 4 0 rfl rfl (i := nI k3) (vp_in_nI hk_3 (by decide)) dX3_changeLord_32 ?_
          refine lv_iload_n hx hb dX3_changeLord_33 rfl (lv_at hl 2 rfl) ?_
          refine lv_icmp_ne (tgt := 45) hx hb dX3_changeLord_34 (by decide) (fun c_34 => ?_) (fun c_34 => ?_)
          · have c_34 : ¬ (((pChl S fr no le to ri bo k3) (nI k3).toNatClampNeg : Int32) = fr) := c_34
            refine lv_iinc (v := (nI k3) + 1) (lv' := [(7, .int ((nI k3) + 1)), (0, .ref (q 1)), (1, .int (fr)), (2, .int (no)), (3, .int (le)), (4, .int (to)), (5, .int (ri)), (6, .int (bo))]) hx hb dX3_changeLord_45 hl (k := 0) rfl rfl (by decide) rfl (fun ls hl => ?_)
            refine lv_goto (tgt := 3) hx hb dX3_changeLord_48 (by decide) ?_
            have e3_7 : (nI (k3 + 1) : Int32) = (nI k3) + 1 := (nI_1 _).symm
            have eS3 : uL S (pChl S fr no le to ri bo (k3 + 1)) = uL S (pChl S fr no le to ri bo k3) := by simp [pChl, uL_u, c_7, c_23, c_34]
            exact ih3 (k3 + 1) (by omega) (by omega) H locs (by rw [eS3]; exact hP) (by rw [eS3]; exact hD) hS _ (by rw [e3_7]; exact lv_sub hl [0, 1, 2, 3, 4, 5, 6, 7] rfl)
          · have c_34 : ((pChl S fr no le to ri bo k3) (nI k3).toNatClampNeg : Int32) = fr := c_34
            refine lv_aload_n hx hb dX3_changeLord_37 rfl (lv_at hl 1 rfl) ?_
            refine va_get (D := D) (ci := 3) (v := .ref (q 5)) (C := RX3) (T := TX3) (N := 5) hx hb hz inZ3 hown hK.1 hP 0 rfl rfl 4 (by decide) (hz _ q1_34) (fun _ h9 => h9) rfl dX3_changeLord_38 ?_
            refine lv_iload hx hb dX3_changeLord_41 (lv_at hl 0 rfl) ?_
            refine lv_iload_n hx hb dX3_changeLord_43 rfl (lv_at hl 3 rfl) ?_
            refine va_iast hx hb hK.1 hP hD hS 4 0 rfl rfl (i := nI k3) (vp_in_nI hk_3 (by decide)) dX3_changeLord_44 (fun H locs hP hD hS => ?_)
            have hP : va_P D vwCl (zPts cI q (uL S (upd (pChl S fr no le to ri bo k3) (nI k3).toNatClampNeg no))) H := hP
            have hD : va_D (zA (zPts cI q S)) (zPts cI q (uL S (upd (pChl S fr no le to ri bo k3) (nI k3).toNatClampNeg no))) := hD
            refine lv_iinc (v := (nI k3) + 1) (lv' := [(7, .int ((nI k3) + 1)), (0, .ref (q 1)), (1, .int (fr)), (2, .int (no)), (3, .int (le)), (4, .int (to)), (5, .int (ri)), (6, .int (bo))]) hx hb dX3_changeLord_45 hl (k := 0) rfl rfl (by decide) rfl (fun ls hl => ?_)
            refine lv_goto (tgt := 3) hx hb dX3_changeLord_48 (by decide) ?_
            have e3_7 : (nI (k3 + 1) : Int32) = (nI k3) + 1 := (nI_1 _).symm
            have eS3 : uL S (pChl S fr no le to ri bo (k3 + 1)) = uL S (upd (pChl S fr no le to ri bo k3) (nI k3).toNatClampNeg no) := by simp [pChl, uL_u, c_7, c_23, c_34]
            exact ih3 (k3 + 1) (by omega) (by omega) H locs (by rw [eS3]; exact hP) (by rw [eS3]; exact hD) hS _ (by rw [e3_7]; exact lv_sub hl [0, 1, 2, 3, 4, 5, 6, 7] rfl)
  have e3_7 : (nI 0 : Int32) = (0 : Int32) := rfl
  have eS3 : uL S (pChl S fr no le to ri bo 0) = S := by rfl
  exact L3 (40 + 1) (0) (Nat.zero_le _) (by omega) s.heap [] (by rw [eS3]; exact hP) (by rw [eS3]; exact hD) hS _ (by rw [e3_7]; exact lv_sub hl [0, 1, 2, 3, 4, 5, 6, 7] rfl)
set_option maxHeartbeats 800000 in
set_option maxRecDepth 100000 in
theorem c_X3_crowdedCells (l : Launch) (D : va_G) (cI cQ : ClassId) (q : Nat → Nat) (S : CS) (sc cr : Int32) (N : Nat) (hN : N < 1000) (hsh : (1 : Int32) <<< (sc &&& 31) = nI N) : zRO l yX3_crowdedCells (Cond.code yX3_crowdedCells cX3_crowdedCells 9 (some .int) :: zT) 3 73 [.ref (q 1), .int sc, .int cr] D cI cQ (zPts cI q S) (pRow S (sideF sc) cr N N) := by
  refine zRO.of (cc := cX3_crowdedCells) (maxL := 9) (ret := some .int) (by decide +kernel) rfl (Nat.le_of_ble_eq_true rfl) ?_
  intro pg e s mi args below meth cd hx hb hr hts hown hlocks hml hP hK ls hl
  have hz : ∀ w ∈ zT, w.before args s = true := fun w h => hts w (List.mem_cons_of_mem _ h)
  have hl : lv_has ls 9 [(0, .ref (q 1)), (1, .int (sc)), (2, .int (cr))] := hl
  refine lv_iload_n hx hb dX3_crowdedCells_0 rfl (lv_at hl 1 rfl) ?_
  refine z_ro (va_runSN (As := [.int (sc)]) (rest := []) ⟨hx, hb, hml, hown, hz⟩ (c_X5_sideOf l D cI cQ sc) (zcnS 1 hz q1_188 q1_1 q1_189 (hK.2.2.2.2.2.2.2.2.2.2.2.1) hd_X5_sideOf (Nat.le_of_ble_eq_true rfl) (Nat.le_of_ble_eq_true rfl)) (z_ps hK z_nil) rfl rfl hl.1 rfl (lv_room (Nat.le_of_ble_eq_true rfl)) dX3_crowdedCells_1 ⟨(Nat.le_of_ble_eq_true rfl), (Nat.le_of_ble_eq_true rfl)⟩) ?_
  refine lv_istore_n (lv' := [(3, .int (sideF sc)), (0, .ref (q 1)), (1, .int (sc)), (2, .int (cr))]) hx hb dX3_crowdedCells_4 rfl hl (by decide) rfl (fun ls hl => ?_)
  refine lv_iconst (v := 0) hx hb dX3_crowdedCells_5 (by decide) ?_
  refine lv_istore (lv' := [(4, .int (0 : Int32)), (3, .int (sideF sc)), (0, .ref (q 1)), (1, .int (sc)), (2, .int (cr))]) hx hb dX3_crowdedCells_6 hl (by decide) rfl (fun ls hl => ?_)
  refine lv_iconst (v := 0) hx hb dX3_crowdedCells_8 (by decide) ?_
  refine lv_istore (lv' := [(5, .int (0 : Int32)), (4, .int (0 : Int32)), (3, .int (sideF sc)), (0, .ref (q 1)), (1, .int (sc)), (2, .int (cr))]) hx hb dX3_crowdedCells_9 hl (by decide) rfl (fun ls hl => ?_)
  have L11 : ∀ (n11 k11 : Nat), k11 ≤ N → N < k11 + n11 → ∀ (ls : Array Slot), lv_has ls 9 [(5, .int (nI k11)), (4, .int (pRow S (sideF sc) cr N k11)), (3, .int (sideF sc)), (0, .ref (q 1)), (1, .int (sc)), (2, .int (cr))] → W pg l e ({ frames := 3, cells := 0, slots := 0, locals := 73 }) s mi args below meth cd s.heap [] 0 0 (MQ below (vp_Si (fun r => r = pRow S (sideF sc) cr N N)) args s 0 0 (fun _ => False)) (F0 mi 11 ls []) := by
    intro n11
    induction n11 with
    | zero => intro k11 h1 h2; exact absurd h2 (by omega)
    | succ n11 ih11 =>
      intro k11 h1_11 h2_11  ls hl
      refine lv_iload hx hb dX3_crowdedCells_11 (lv_at hl 0 rfl) ?_
      refine lv_iconst (v := 1) hx hb dX3_crowdedCells_13 (by decide) ?_
      refine lv_iload_n hx hb dX3_crowdedCells_14 rfl (lv_at hl 4 rfl) ?_
      refine lv_ishl hx hb dX3_crowdedCells_15 ?_
      refine lv_icmp_ge (tgt := 81) hx hb dX3_crowdedCells_16 (by decide) (fun c_16 => ?_) (fun c_16 => ?_)
      · have c_16 : ((1 : Int32) <<< (sc &&& 31) : Int32) ≤ nI k11 := c_16
        rw [hsh] at c_16
        have hk_11 : k11 = N := z_exit (by omega) h1_11 c_16
        refine lv_iload hx hb dX3_crowdedCells_81 (lv_at hl 1 rfl) ?_
        exact z_iret hx hb hr rfl hlocks (by rw [hk_11]) dX3_crowdedCells_83
      · have c_16 : ¬ (((1 : Int32) <<< (sc &&& 31) : Int32) ≤ nI k11) := c_16
        rw [hsh] at c_16
        have hk_11 : k11 < N := z_cont (by omega) h1_11 c_16
        refine lv_iconst (v := 0) hx hb dX3_crowdedCells_19 (by decide) ?_
        refine lv_istore (lv' := [(6, .int (0 : Int32)), (5, .int (nI k11)), (4, .int (pRow S (sideF sc) cr N k11)), (3, .int (sideF sc)), (0, .ref (q 1)), (1, .int (sc)), (2, .int (cr))]) hx hb dX3_crowdedCells_20 hl (by decide) rfl (fun ls hl => ?_)
        have L22 : ∀ (n22 k22 : Nat), k22 ≤ N → N < k22 + n22 → ∀ (ls : Array Slot), lv_has ls 9 [(6, .int (nI k22)), (4, .int (pCol S (sideF sc) cr (nI k11) (pRow S (sideF sc) cr N k11) k22)), (5, .int (nI k11)), (3, .int (sideF sc)), (0, .ref (q 1)), (1, .int (sc)), (2, .int (cr))] → W pg l e ({ frames := 3, cells := 0, slots := 0, locals := 73 }) s mi args below meth cd s.heap [] 0 0 (MQ below (vp_Si (fun r => r = pRow S (sideF sc) cr N N)) args s 0 0 (fun _ => False)) (F0 mi 22 ls []) := by
          intro n22
          induction n22 with
          | zero => intro k22 h1 h2; exact absurd h2 (by omega)
          | succ n22 ih22 =>
            intro k22 h1_22 h2_22  ls hl
            refine lv_iload hx hb dX3_crowdedCells_22 (lv_at hl 0 rfl) ?_
            refine lv_iconst (v := 1) hx hb dX3_crowdedCells_24 (by decide) ?_
            refine lv_iload_n hx hb dX3_crowdedCells_25 rfl (lv_at hl 5 rfl) ?_
            refine lv_ishl hx hb dX3_crowdedCells_26 ?_
            refine lv_icmp_ge (tgt := 75) hx hb dX3_crowdedCells_27 (by decide) (fun c_27 => ?_) (fun c_27 => ?_)
            · have c_27 : ((1 : Int32) <<< (sc &&& 31) : Int32) ≤ nI k22 := c_27
              rw [hsh] at c_27
              have hk_22 : k22 = N := z_exit (by omega) h1_22 c_27
              refine lv_iinc (v := (nI k11) + 1) (lv' := [(5, .int ((nI k11) + 1)), (6, .int (nI k22)), (4, .int (pCol S (sideF sc) cr (nI k11) (pRow S (sideF sc) cr N k11) k22)), (3, .int (sideF sc)), (0, .ref (q 1)), (1, .int (sc)), (2, .int (cr))]) hx hb dX3_crowdedCells_75 hl (k := 2) rfl rfl (by decide) rfl (fun ls hl => ?_)
              refine lv_goto (tgt := 11) hx hb dX3_crowdedCells_78 (by decide) ?_
              have e11_5 : (nI (k11 + 1) : Int32) = (nI k11) + 1 := (nI_1 _).symm
              have e11_4 : (pRow S (sideF sc) cr N (k11 + 1) : Int32) = pCol S (sideF sc) cr (nI k11) (pRow S (sideF sc) cr N k11) k22 := (by simp [pRow, hk_22])
              exact ih11 (k11 + 1) (by omega) (by omega) _ (by rw [e11_5, e11_4]; exact lv_sub hl [0, 2, 3, 4, 5, 6] rfl)
            · have c_27 : ¬ (((1 : Int32) <<< (sc &&& 31) : Int32) ≤ nI k22) := c_27
              rw [hsh] at c_27
              have hk_22 : k22 < N := z_cont (by omega) h1_22 c_27
              refine lv_iload hx hb dX3_crowdedCells_30 (lv_at hl 0 rfl) ?_
              refine lv_iload_n hx hb dX3_crowdedCells_32 rfl (lv_at hl 3 rfl) ?_
              refine lv_imul hx hb dX3_crowdedCells_33 ?_
              refine lv_istore (lv' := [(7, .int ((nI k22) * (sideF sc))), (6, .int (nI k22)), (4, .int (pCol S (sideF sc) cr (nI k11) (pRow S (sideF sc) cr N k11) k22)), (5, .int (nI k11)), (3, .int (sideF sc)), (0, .ref (q 1)), (1, .int (sc)), (2, .int (cr))]) hx hb dX3_crowdedCells_34 hl (by decide) rfl (fun ls hl => ?_)
              refine lv_iload hx hb dX3_crowdedCells_36 (lv_at hl 3 rfl) ?_
              refine lv_iload_n hx hb dX3_crowdedCells_38 rfl (lv_at hl 4 rfl) ?_
              refine lv_imul hx hb dX3_crowdedCells_39 ?_
              refine lv_istore (lv' := [(8, .int ((nI k11) * (sideF sc))), (7, .int ((nI k22) * (sideF sc))), (6, .int (nI k22)), (4, .int (pCol S (sideF sc) cr (nI k11) (pRow S (sideF sc) cr N k11) k22)), (5, .int (nI k11)), (3, .int (sideF sc)), (0, .ref (q 1)), (1, .int (sc)), (2, .int (cr))]) hx hb dX3_crowdedCells_40 hl (by decide) rfl (fun ls hl => ?_)
              refine lv_aload_n hx hb dX3_crowdedCells_42 rfl (lv_at hl 6 rfl) ?_
              refine lv_iload hx hb dX3_crowdedCells_43 (lv_at hl 1 rfl) ?_
              refine lv_iload hx hb dX3_crowdedCells_45 (lv_at hl 0 rfl) ?_
              refine lv_iload hx hb dX3_crowdedCells_47 (lv_at hl 1 rfl) ?_
              refine lv_iload_n hx hb dX3_crowdedCells_49 rfl (lv_at hl 5 rfl) ?_
              refine lv_iadd hx hb dX3_crowdedCells_50 ?_
              refine lv_iconst (v := 1) hx hb dX3_crowdedCells_51 (by decide) ?_
              refine lv_isub hx hb dX3_crowdedCells_52 ?_
              refine lv_iload hx hb dX3_crowdedCells_53 (lv_at hl 0 rfl) ?_
              refine lv_iload_n hx hb dX3_crowdedCells_55 rfl (lv_at hl 5 rfl) ?_
              refine lv_iadd hx hb dX3_crowdedCells_56 ?_
              refine lv_iconst (v := 1) hx hb dX3_crowdedCells_57 (by decide) ?_
              refine lv_isub hx hb dX3_crowdedCells_58 ?_
              refine z_ro (va_runV (As := [.int ((nI k22) * (sideF sc)), .int ((nI k11) * (sideF sc)), .int ((((nI k22) * (sideF sc)) + (sideF sc)) - (1 : Int32)), .int ((((nI k11) * (sideF sc)) + (sideF sc)) - (1 : Int32))]) (rest := []) ⟨hx, hb, hml, hown, hz⟩ (c_X3_numberIn l D cI cQ q S ((nI k22) * (sideF sc)) ((nI k11) * (sideF sc)) ((((nI k22) * (sideF sc)) + (sideF sc)) - (1 : Int32)) ((((nI k11) * (sideF sc)) + (sideF sc)) - (1 : Int32))) (zcwV 4 hz q2_56 q1_236 q1_237 q1_3 q1_238 hd_X3_numberIn (Nat.le_of_ble_eq_true rfl) (Nat.le_of_ble_eq_true rfl)) (z_pv (ci := 3) (q := (RX3, TX3, 5)) hK hP rfl rfl) rfl rfl hl.1 rfl (lv_room (Nat.le_of_ble_eq_true rfl)) dX3_crowdedCells_59 ⟨(Nat.le_of_ble_eq_true rfl), (Nat.le_of_ble_eq_true rfl)⟩) ?_
              refine lv_iload_n hx hb dX3_crowdedCells_62 rfl (lv_at hl 8 rfl) ?_
              refine lv_icmp_le (tgt := 69) hx hb dX3_crowdedCells_63 (by decide) (fun c_63 => ?_) (fun c_63 => ?_)
              · have c_63 : (pNum S ((nI k22) * (sideF sc)) ((nI k11) * (sideF sc)) ((((nI k22) * (sideF sc)) + (sideF sc)) - (1 : Int32)) ((((nI k11) * (sideF sc)) + (sideF sc)) - (1 : Int32)) 40 : Int32) ≤ cr := c_63
                refine lv_iinc (v := (nI k22) + 1) (lv' := [(6, .int ((nI k22) + 1)), (8, .int ((nI k11) * (sideF sc))), (7, .int ((nI k22) * (sideF sc))), (4, .int (pCol S (sideF sc) cr (nI k11) (pRow S (sideF sc) cr N k11) k22)), (5, .int (nI k11)), (3, .int (sideF sc)), (0, .ref (q 1)), (1, .int (sc)), (2, .int (cr))]) hx hb dX3_crowdedCells_69 hl (k := 2) rfl rfl (by decide) rfl (fun ls hl => ?_)
                refine lv_goto (tgt := 22) hx hb dX3_crowdedCells_72 (by decide) ?_
                have e22_6 : (nI (k22 + 1) : Int32) = (nI k22) + 1 := (nI_1 _).symm
                have e22_4 : (pCol S (sideF sc) cr (nI k11) (pRow S (sideF sc) cr N k11) (k22 + 1) : Int32) = pCol S (sideF sc) cr (nI k11) (pRow S (sideF sc) cr N k11) k22 := (by simp [pCol, c_63])
                exact ih22 (k22 + 1) (by omega) (by omega) _ (by rw [e22_6, e22_4]; exact lv_sub hl [0, 3, 4, 5, 6, 7, 8] rfl)
              · have c_63 : ¬ ((pNum S ((nI k22) * (sideF sc)) ((nI k11) * (sideF sc)) ((((nI k22) * (sideF sc)) + (sideF sc)) - (1 : Int32)) ((((nI k11) * (sideF sc)) + (sideF sc)) - (1 : Int32)) 40 : Int32) ≤ cr) := c_63
                refine lv_iinc (v := (pCol S (sideF sc) cr (nI k11) (pRow S (sideF sc) cr N k11) k22) + 1) (lv' := [(4, .int ((pCol S (sideF sc) cr (nI k11) (pRow S (sideF sc) cr N k11) k22) + 1)), (8, .int ((nI k11) * (sideF sc))), (7, .int ((nI k22) * (sideF sc))), (6, .int (nI k22)), (5, .int (nI k11)), (3, .int (sideF sc)), (0, .ref (q 1)), (1, .int (sc)), (2, .int (cr))]) hx hb dX3_crowdedCells_66 hl (k := 3) rfl rfl (by decide) rfl (fun ls hl => ?_)
                refine lv_iinc (v := (nI k22) + 1) (lv' := [(6, .int ((nI k22) + 1)), (4, .int ((pCol S (sideF sc) cr (nI k11) (pRow S (sideF sc) cr N k11) k22) + 1)), (8, .int ((nI k11) * (sideF sc))), (7, .int ((nI k22) * (sideF sc))), (5, .int (nI k11)), (3, .int (sideF sc)), (0, .ref (q 1)), (1, .int (sc)), (2, .int (cr))]) hx hb dX3_crowdedCells_69 hl (k := 3) rfl rfl (by decide) rfl (fun ls hl => ?_)
                refine lv_goto (tgt := 22) hx hb dX3_crowdedCells_72 (by decide) ?_
                have e22_6 : (nI (k22 + 1) : Int32) = (nI k22) + 1 := (nI_1 _).symm
                have e22_4 : (pCol S (sideF sc) cr (nI k11) (pRow S (sideF sc) cr N k11) (k22 + 1) : Int32) = (pCol S (sideF sc) cr (nI k11) (pRow S (sideF sc) cr N k11) k22) + 1 := (by simp [pCol, c_63])
                exact ih22 (k22 + 1) (by omega) (by omega) _ (by rw [e22_6, e22_4]; exact lv_sub hl [0, 1, 4, 5, 6, 7, 8] rfl)
        have e22_6 : (nI 0 : Int32) = (0 : Int32) := rfl
        have e22_4 : (pCol S (sideF sc) cr (nI k11) (pRow S (sideF sc) cr N k11) 0 : Int32) = pRow S (sideF sc) cr N k11 := (by rfl)
        exact L22 (N + 1) (0) (Nat.zero_le _) (by omega) _ (by rw [e22_6, e22_4]; exact lv_sub hl [0, 2, 1, 3, 4, 5, 6] rfl)
  have e11_5 : (nI 0 : Int32) = (0 : Int32) := rfl
  have e11_4 : (pRow S (sideF sc) cr N 0 : Int32) = (0 : Int32) := (by rfl)
  exact L11 (N + 1) (0) (Nat.zero_le _) (by omega) _ (by rw [e11_5, e11_4]; exact lv_sub hl [0, 1, 2, 3, 4, 5] rfl)
set_option maxHeartbeats 800000 in
set_option maxRecDepth 100000 in
theorem c_X3_cellsIfDivided (l : Launch) (D : va_G) (cI cQ : ClassId) (q : Nat → Nat) (S : CS) (cr : Int32) : zRO l yX3_cellsIfDivided (Cond.code yX3_cellsIfDivided cX3_cellsIfDivided 4 (some .int) :: zT) 4 101 [.ref (q 1), .int cr] D cI cQ (zPts cI q S) (pDiv S cr 4) := by
  refine zRO.of (cc := cX3_cellsIfDivided) (maxL := 4) (ret := some .int) (by decide +kernel) rfl (Nat.le_of_ble_eq_true rfl) ?_
  intro pg e s mi args below meth cd hx hb hr hts hown hlocks hml hP hK ls hl
  have hz : ∀ w ∈ zT, w.before args s = true := fun w h => hts w (List.mem_cons_of_mem _ h)
  have hl : lv_has ls 4 [(0, .ref (q 1)), (1, .int (cr))] := hl
  refine lv_iconst (v := 1) hx hb dX3_cellsIfDivided_0 (by decide) ?_
  refine lv_istore_n (lv' := [(2, .int (1 : Int32)), (0, .ref (q 1)), (1, .int (cr))]) hx hb dX3_cellsIfDivided_1 rfl hl (by decide) rfl (fun ls hl => ?_)
  refine lv_iconst (v := 0) hx hb dX3_cellsIfDivided_2 (by decide) ?_
  refine lv_istore_n (lv' := [(3, .int (0 : Int32)), (2, .int (1 : Int32)), (0, .ref (q 1)), (1, .int (cr))]) hx hb dX3_cellsIfDivided_3 rfl hl (by decide) rfl (fun ls hl => ?_)
  have L4 : ∀ (n4 k4 : Nat), k4 ≤ 4 → 4 < k4 + n4 → ∀ (ls : Array Slot), lv_has ls 4 [(3, .int (nI k4)), (2, .int (pDiv S cr k4)), (0, .ref (q 1)), (1, .int (cr))] → W pg l e ({ frames := 4, cells := 0, slots := 0, locals := 101 }) s mi args below meth cd s.heap [] 0 0 (MQ below (vp_Si (fun r => r = pDiv S cr 4)) args s 0 0 (fun _ => False)) (F0 mi 4 ls []) := by
    intro n4
    induction n4 with
    | zero => intro k4 h1 h2; exact absurd h2 (by omega)
    | succ n4 ih4 =>
      intro k4 h1_4 h2_4  ls hl
      refine lv_iload_n hx hb dX3_cellsIfDivided_4 rfl (lv_at hl 0 rfl) ?_
      refine lv_iconst (v := 4) hx hb dX3_cellsIfDivided_5 (by decide) ?_
      refine lv_icmp_ge (tgt := 26) hx hb dX3_cellsIfDivided_6 (by decide) (fun c_6 => ?_) (fun c_6 => ?_)
      · have c_6 : ((4 : Int32) : Int32) ≤ nI k4 := c_6
        have hk_4 : k4 = 4 := z_exit (by decide) h1_4 c_6
        refine lv_iload_n hx hb dX3_cellsIfDivided_26 rfl (lv_at hl 1 rfl) ?_
        exact z_iret hx hb hr rfl hlocks (by rw [hk_4]) dX3_cellsIfDivided_27
      · have c_6 : ¬ (((4 : Int32) : Int32) ≤ nI k4) := c_6
        have hk_4 : k4 < 4 := z_cont (by decide) h1_4 c_6
        refine lv_iload_n hx hb dX3_cellsIfDivided_9 rfl (lv_at hl 1 rfl) ?_
        refine lv_iconst (v := 3) hx hb dX3_cellsIfDivided_10 (by decide) ?_
        refine lv_aload_n hx hb dX3_cellsIfDivided_11 rfl (lv_at hl 2 rfl) ?_
        refine lv_iload_n hx hb dX3_cellsIfDivided_12 rfl (lv_at hl 0 rfl) ?_
        refine lv_iload_n hx hb dX3_cellsIfDivided_13 rfl (lv_at hl 3 rfl) ?_
        refine z_ro (va_runV (As := [.int (nI k4), .int (cr)]) (rest := [.int (3 : Int32), .int (pDiv S cr k4)]) ⟨hx, hb, hml, hown, hz⟩ (c_X3_crowdedCells l D cI cQ q S (nI k4) cr (2 ^ k4) ((z_sh4 k4 hk_4).1) ((z_sh4 k4 hk_4).2)) (zcwV 2 hz q3_73 q3_75 qs_11 q1_3 q3_76 hd_X3_crowdedCells (Nat.le_of_ble_eq_true rfl) (Nat.le_of_ble_eq_true rfl)) (z_pv (ci := 3) (q := (RX3, TX3, 5)) hK hP rfl rfl) rfl rfl hl.1 rfl (lv_room (Nat.le_of_ble_eq_true rfl)) dX3_cellsIfDivided_14 ⟨(Nat.le_of_ble_eq_true rfl), (Nat.le_of_ble_eq_true rfl)⟩) ?_
        refine lv_imul hx hb dX3_cellsIfDivided_17 ?_
        refine lv_iadd hx hb dX3_cellsIfDivided_18 ?_
        refine lv_istore_n (lv' := [(2, .int ((pDiv S cr k4) + ((3 : Int32) * (pRow S (sideF (nI k4)) cr (2 ^ k4) (2 ^ k4))))), (3, .int (nI k4)), (0, .ref (q 1)), (1, .int (cr))]) hx hb dX3_cellsIfDivided_19 rfl hl (by decide) rfl (fun ls hl => ?_)
        refine lv_iinc (v := (nI k4) + 1) (lv' := [(3, .int ((nI k4) + 1)), (2, .int ((pDiv S cr k4) + ((3 : Int32) * (pRow S (sideF (nI k4)) cr (2 ^ k4) (2 ^ k4))))), (0, .ref (q 1)), (1, .int (cr))]) hx hb dX3_cellsIfDivided_20 hl (k := 1) rfl rfl (by decide) rfl (fun ls hl => ?_)
        refine lv_goto (tgt := 4) hx hb dX3_cellsIfDivided_23 (by decide) ?_
        have e4_3 : (nI (k4 + 1) : Int32) = (nI k4) + 1 := (nI_1 _).symm
        have e4_2 : (pDiv S cr (k4 + 1) : Int32) = (pDiv S cr k4) + ((3 : Int32) * (pRow S (sideF (nI k4)) cr (2 ^ k4) (2 ^ k4))) := (by simp [pDiv, c_6])
        exact ih4 (k4 + 1) (by omega) (by omega) _ (by rw [e4_3, e4_2]; exact lv_sub hl [0, 1, 2, 3] rfl)
  have e4_3 : (nI 0 : Int32) = (0 : Int32) := rfl
  have e4_2 : (pDiv S cr 0 : Int32) = (1 : Int32) := (by rfl)
  exact L4 (4 + 1) (0) (Nat.zero_le _) (by omega) _ (by rw [e4_3, e4_2]; exact lv_sub hl [0, 1, 2, 3] rfl)
end
section
/-! parishes and debts: what their methods answer -/
def fnd (f : Nat → Bool) : Nat → Nat → Int32
  | 0, _ => -9
  | n + 1, k => if f k then nI k else fnd f n (k + 1)
theorem fnd_yes {f : Nat → Bool} {N k : Nat} (hk : k < N) (h : f k = true) : fnd f (N - k) k = nI k := by
  rw [show N - k = (N - (k + 1)) + 1 by omega, fnd, if_pos h]
theorem fnd_no {f : Nat → Bool} {N k : Nat} (hk : k < N) (h : f k = false) : fnd f (N - k) k = fnd f (N - (k + 1)) (k + 1) := by
  rw [show N - k = (N - (k + 1)) + 1 by omega, fnd, if_neg (by rw [h]; decide)]
def rEx (S : CS) (i : Int32) : Bool := !decide (i < 0) && !decide (40 ≤ i) && !decide (sSc S i.toNatClampNeg = -1)
theorem rEx_in {S : CS} {i : Int32} (h : rEx S i = true) : vp_in i 40 := by
  simp [rEx] at h
  exact z_in40 (Int32.not_lt.mpr h.1.1) (Int32.not_le.mpr h.1.2)
def rLe (S : CS) (i : Int32) : Int32 := if rEx S i then sLe S i.toNatClampNeg else -9
def rTo (S : CS) (i : Int32) : Int32 := if rEx S i then sTo S i.toNatClampNeg else -9
def rSc (S : CS) (i : Int32) : Int32 := if rEx S i then sSc S i.toNatClampNeg else -1
def rRi (S : CS) (i : Int32) : Int32 := rLe S i + sideF (rSc S i) - 1
def rBo (S : CS) (i : Int32) : Int32 := rTo S i + sideF (rSc S i) - 1
def rGiv (f : FI) (pa v : Int32) : FI := if btw pa 0 39 then upd f pa.toNatClampNeg v else f
def rRoom (S : CS) : Bool := btw (sFo S) 0 39
def rFo1 (S : CS) : Int32 := if rRoom S then sFo S + 1 else sFo S
def rDis (S : CS) (pa : Int32) : FI := if rEx S pa then upd (sSc S) pa.toNatClampNeg (-1) else sSc S
def rTou (S : CS) (i x y tx ty : Int32) : Bool := rEx S i && !decide (tx < sLe S i.toNatClampNeg) && !decide (sLe S i.toNatClampNeg + sideF (sSc S i.toNatClampNeg) ≤ x) && !decide (ty < sTo S i.toNatClampNeg) && !decide (sTo S i.toNatClampNeg + sideF (sSc S i.toNatClampNeg) ≤ y)
def rAt (S : CS) (x y : Int32) : Int32 := fnd (fun k => rTou S (nI k) x y x y) 40 0
def rNumT (S : CS) (x y tx ty : Int32) : Nat → Int32
  | 0 => 0
  | k + 1 => if rTou S (nI k) x y tx ty then rNumT S x y tx ty k + 1 else rNumT S x y tx ty k
def rGr (S : CS) : Nat → Int32
  | 0 => 0
  | k + 1 => if rGr S k < rSc S (nI k) then rSc S (nI k) else rGr S k
def eB (pl : Int32) : Nat → Int32
  | 0 => 0
  | k + 1 => eB pl k ||| (((pl >>> (((2 : Int32) * nI k) &&& 31)) &&& 1) <<< (nI k &&& 31))
def wPar (S : CS) (pl : Int32) : Int32 := rAt S (eB pl 6) (eB (pl >>> ((1 : Int32) &&& 31)) 6)
def wPl (S : CS) : Nat → Int32
  | 0 => 0
  | k + 1 => wPl S k + sideF (rSc S (wPar S (wPl S k))) * sideF (rSc S (wPar S (wPl S k)))
def wGo (S : CS) (nu : Int32) : Nat → Nat → Int32
  | 0, _ => -9
  | n + 1, k => if 4096 ≤ wPl S k then -9 else if nI k = nu then wPar S (wPl S k) else wGo S nu n (k + 1)
def wNB (S : CS) (nu : Int32) : Int32 := wGo S nu 40 0
theorem wGo_out {S : CS} {nu : Int32} {N k : Nat} (hk : k < N) (h : (4096 : Int32) ≤ wPl S k) : wGo S nu (N - k) k = -9 := by
  rw [show N - k = (N - (k + 1)) + 1 by omega, wGo, if_pos h]
theorem wGo_hit {S : CS} {nu : Int32} {N k : Nat} (hk : k < N) (h : ¬ (4096 : Int32) ≤ wPl S k) (h2 : nI k = nu) : wGo S nu (N - k) k = wPar S (wPl S k) := by
  rw [show N - k = (N - (k + 1)) + 1 by omega, wGo, if_neg h, if_pos h2]
theorem wGo_on {S : CS} {nu : Int32} {N k : Nat} (hk : k < N) (h : ¬ (4096 : Int32) ≤ wPl S k) (h2 : ¬ nI k = nu) : wGo S nu (N - k) k = wGo S nu (N - (k + 1)) (k + 1) := by
  rw [show N - k = (N - (k + 1)) + 1 by omega, wGo, if_neg h, if_neg h2]
def dOk (a b : Int32) : Bool := !decide (a < 0) && !decide (40 ≤ a) && !decide (b < 0) && !decide (40 ≤ b)
theorem z_nI40 {i : Int32} (h : vp_in i 40) : ∃ j : Nat, j < 40 ∧ i = nI j := vp_in_of h (by decide)
theorem dOk_in {a b : Int32} (h : dOk a b = true) : vp_in (a * 40 + b) 1600 := by
  simp [dOk] at h
  obtain ⟨j, hj, rfl⟩ := z_nI40 (z_in40 (Int32.not_lt.mpr h.1.1.1) (Int32.not_le.mpr h.1.1.2))
  obtain ⟨k, hk, rfl⟩ := z_nI40 (z_in40 (Int32.not_lt.mpr h.1.2) (Int32.not_le.mpr h.2))
  rw [show nI j * 40 + nI k = nI (j * 40 + k) from by rw [show (40 : Int32) = nI 40 from rfl, pk_mul, nI_add]]
  exact vp_in_nI (by omega) (by decide)
def dOwF (f : FI) (a b : Int32) : Int32 := if dOk a b then f (a * 40 + b).toNatClampNeg else 0
def dCh (f : FI) (a b v : Int32) : FI := if dOk a b then upd f (a * 40 + b).toNatClampNeg (f (a * 40 + b).toNatClampNeg + v) else f
def dSh (f : FI) (a b na nb : Int32) : FI := dCh (dCh f a b (-(dOwF f a b))) na nb (dOwF f a b)
def dP1 (f : FI) (fr to : Int32) : Nat → FI
  | 0 => f
  | k + 1 => dSh (dP1 f fr to k) fr (nI k) to (nI k)
def dP2 (f : FI) (fr to : Int32) : Nat → FI
  | 0 => f
  | k + 1 => dSh (dP2 f fr to k) (nI k) fr (nI k) to
def dDrop (f : FI) (to : Int32) : FI := dCh f to to (-(dOwF f to to))
def dPass (f : FI) (fr to : Int32) : FI := dDrop (dP2 (dP1 f fr to 40) fr to 40) to
def dBy (f : FI) (a : Int32) : Nat → Int32
  | 0 => 0
  | k + 1 => dBy f a k + dOwF f a (nI k)
def dTo (f : FI) (a : Int32) : Nat → Int32
  | 0 => 0
  | k + 1 => dTo f a k + dOwF f (nI k) a
def dSum (f : FI) : Nat → Int32
  | 0 => 0
  | k + 1 => dSum f k + dBy f (nI k) 40
def dFst (f : FI) (a : Int32) : Int32 := fnd (fun k => !decide (dOwF f a (nI k) ≤ 0)) 40 0
end
section
theorem hd_X2_exists : yX2_exists.cls ≠ "java/lang/invoke/MethodHandle" ∧ yX2_exists.cls ≠ "java/lang/invoke/VarHandle" ∧ (parseMethodDescriptor yX2_exists.desc).map (fun d => d.parameters.length) = some 1 := by decide +kernel
theorem hd_X2_numberFounded : yX2_numberFounded.cls ≠ "java/lang/invoke/MethodHandle" ∧ yX2_numberFounded.cls ≠ "java/lang/invoke/VarHandle" ∧ (parseMethodDescriptor yX2_numberFounded.desc).map (fun d => d.parameters.length) = some 0 := by decide +kernel
theorem hd_X2_leftOf : yX2_leftOf.cls ≠ "java/lang/invoke/MethodHandle" ∧ yX2_leftOf.cls ≠ "java/lang/invoke/VarHandle" ∧ (parseMethodDescriptor yX2_leftOf.desc).map (fun d => d.parameters.length) = some 1 := by decide +kernel
theorem hd_X2_topOf : yX2_topOf.cls ≠ "java/lang/invoke/MethodHandle" ∧ yX2_topOf.cls ≠ "java/lang/invoke/VarHandle" ∧ (parseMethodDescriptor yX2_topOf.desc).map (fun d => d.parameters.length) = some 1 := by decide +kernel
theorem hd_X2_scaleOf : yX2_scaleOf.cls ≠ "java/lang/invoke/MethodHandle" ∧ yX2_scaleOf.cls ≠ "java/lang/invoke/VarHandle" ∧ (parseMethodDescriptor yX2_scaleOf.desc).map (fun d => d.parameters.length) = some 1 := by decide +kernel
theorem hd_X2_rightOf : yX2_rightOf.cls ≠ "java/lang/invoke/MethodHandle" ∧ yX2_rightOf.cls ≠ "java/lang/invoke/VarHandle" ∧ (parseMethodDescriptor yX2_rightOf.desc).map (fun d => d.parameters.length) = some 1 := by decide +kernel
theorem hd_X2_bottomOf : yX2_bottomOf.cls ≠ "java/lang/invoke/MethodHandle" ∧ yX2_bottomOf.cls ≠ "java/lang/invoke/VarHandle" ∧ (parseMethodDescriptor yX2_bottomOf.desc).map (fun d => d.parameters.length) = some 1 := by decide +kernel
theorem hd_X2_giveCell : yX2_giveCell.cls ≠ "java/lang/invoke/MethodHandle" ∧ yX2_giveCell.cls ≠ "java/lang/invoke/VarHandle" ∧ (parseMethodDescriptor yX2_giveCell.desc).map (fun d => d.parameters.length) = some 4 := by decide +kernel
theorem hd_X2_found : yX2_found.cls ≠ "java/lang/invoke/MethodHandle" ∧ yX2_found.cls ≠ "java/lang/invoke/VarHandle" ∧ (parseMethodDescriptor yX2_found.desc).map (fun d => d.parameters.length) = some 3 := by decide +kernel
theorem hd_X2_dissolve : yX2_dissolve.cls ≠ "java/lang/invoke/MethodHandle" ∧ yX2_dissolve.cls ≠ "java/lang/invoke/VarHandle" ∧ (parseMethodDescriptor yX2_dissolve.desc).map (fun d => d.parameters.length) = some 1 := by decide +kernel
theorem hd_X2_touches : yX2_touches.cls ≠ "java/lang/invoke/MethodHandle" ∧ yX2_touches.cls ≠ "java/lang/invoke/VarHandle" ∧ (parseMethodDescriptor yX2_touches.desc).map (fun d => d.parameters.length) = some 5 := by decide +kernel
theorem hd_X2_parishAt : yX2_parishAt.cls ≠ "java/lang/invoke/MethodHandle" ∧ yX2_parishAt.cls ≠ "java/lang/invoke/VarHandle" ∧ (parseMethodDescriptor yX2_parishAt.desc).map (fun d => d.parameters.length) = some 2 := by decide +kernel
theorem hd_X2_numberTouching : yX2_numberTouching.cls ≠ "java/lang/invoke/MethodHandle" ∧ yX2_numberTouching.cls ≠ "java/lang/invoke/VarHandle" ∧ (parseMethodDescriptor yX2_numberTouching.desc).map (fun d => d.parameters.length) = some 4 := by decide +kernel
theorem hd_X2_number : yX2_number.cls ≠ "java/lang/invoke/MethodHandle" ∧ yX2_number.cls ≠ "java/lang/invoke/VarHandle" ∧ (parseMethodDescriptor yX2_number.desc).map (fun d => d.parameters.length) = some 0 := by decide +kernel
theorem hd_X2_greatestScale : yX2_greatestScale.cls ≠ "java/lang/invoke/MethodHandle" ∧ yX2_greatestScale.cls ≠ "java/lang/invoke/VarHandle" ∧ (parseMethodDescriptor yX2_greatestScale.desc).map (fun d => d.parameters.length) = some 0 := by decide +kernel
theorem hd_X2_everySecondBit : yX2_everySecondBit.cls ≠ "java/lang/invoke/MethodHandle" ∧ yX2_everySecondBit.cls ≠ "java/lang/invoke/VarHandle" ∧ (parseMethodDescriptor yX2_everySecondBit.desc).map (fun d => d.parameters.length) = some 1 := by decide +kernel
theorem hd_X2_withNumberBefore : yX2_withNumberBefore.cls ≠ "java/lang/invoke/MethodHandle" ∧ yX2_withNumberBefore.cls ≠ "java/lang/invoke/VarHandle" ∧ (parseMethodDescriptor yX2_withNumberBefore.desc).map (fun d => d.parameters.length) = some 1 := by decide +kernel
theorem hd_X0_areParishes : yX0_areParishes.cls ≠ "java/lang/invoke/MethodHandle" ∧ yX0_areParishes.cls ≠ "java/lang/invoke/VarHandle" ∧ (parseMethodDescriptor yX0_areParishes.desc).map (fun d => d.parameters.length) = some 2 := by decide +kernel
theorem hd_X0_owed : yX0_owed.cls ≠ "java/lang/invoke/MethodHandle" ∧ yX0_owed.cls ≠ "java/lang/invoke/VarHandle" ∧ (parseMethodDescriptor yX0_owed.desc).map (fun d => d.parameters.length) = some 2 := by decide +kernel
theorem hd_X0_change : yX0_change.cls ≠ "java/lang/invoke/MethodHandle" ∧ yX0_change.cls ≠ "java/lang/invoke/VarHandle" ∧ (parseMethodDescriptor yX0_change.desc).map (fun d => d.parameters.length) = some 3 := by decide +kernel
theorem hd_X0_shift : yX0_shift.cls ≠ "java/lang/invoke/MethodHandle" ∧ yX0_shift.cls ≠ "java/lang/invoke/VarHandle" ∧ (parseMethodDescriptor yX0_shift.desc).map (fun d => d.parameters.length) = some 4 := by decide +kernel
theorem hd_X0_owedBy : yX0_owedBy.cls ≠ "java/lang/invoke/MethodHandle" ∧ yX0_owedBy.cls ≠ "java/lang/invoke/VarHandle" ∧ (parseMethodDescriptor yX0_owedBy.desc).map (fun d => d.parameters.length) = some 1 := by decide +kernel
theorem hd_X0_owedTo : yX0_owedTo.cls ≠ "java/lang/invoke/MethodHandle" ∧ yX0_owedTo.cls ≠ "java/lang/invoke/VarHandle" ∧ (parseMethodDescriptor yX0_owedTo.desc).map (fun d => d.parameters.length) = some 1 := by decide +kernel
theorem hd_X0_sum : yX0_sum.cls ≠ "java/lang/invoke/MethodHandle" ∧ yX0_sum.cls ≠ "java/lang/invoke/VarHandle" ∧ (parseMethodDescriptor yX0_sum.desc).map (fun d => d.parameters.length) = some 0 := by decide +kernel
theorem hd_X0_firstCreditorOf : yX0_firstCreditorOf.cls ≠ "java/lang/invoke/MethodHandle" ∧ yX0_firstCreditorOf.cls ≠ "java/lang/invoke/VarHandle" ∧ (parseMethodDescriptor yX0_firstCreditorOf.desc).map (fun d => d.parameters.length) = some 1 := by decide +kernel
theorem hd_X0_passOn : yX0_passOn.cls ≠ "java/lang/invoke/MethodHandle" ∧ yX0_passOn.cls ≠ "java/lang/invoke/VarHandle" ∧ (parseMethodDescriptor yX0_passOn.desc).map (fun d => d.parameters.length) = some 2 := by decide +kernel
set_option maxHeartbeats 800000 in
set_option maxRecDepth 100000 in
theorem c_X2_exists (l : Launch) (D : va_G) (cI cQ : ClassId) (q : Nat → Nat) (S : CS) (i : Int32) : zRO l yX2_exists (Cond.code yX2_exists cX2_exists 2 (some .boolean) :: zT) 0 0 [.ref (q 6), .int i] D cI cQ (zPar cI q S) (bI (rEx S i)) := by
  refine zRO.of (cc := cX2_exists) (maxL := 2) (ret := some .boolean) (by decide +kernel) rfl (Nat.le_of_ble_eq_true rfl) ?_
  intro pg e s mi args below meth cd hx hb hr hts hown hlocks hml hP hK ls hl
  have hz : ∀ w ∈ zT, w.before args s = true := fun w h => hts w (List.mem_cons_of_mem _ h)
  have hl : lv_has ls 2 [(0, .ref (q 6)), (1, .int (i))] := hl
  refine lv_iload_n hx hb dX2_exists_0 rfl (lv_at hl 1 rfl) ?_
  refine lv_if_lt (tgt := 24) hx hb dX2_exists_1 (by decide) (fun c_1 => ?_) (fun c_1 => ?_)
  · have c_1 : (i : Int32) < 0 := c_1
    refine lv_iconst (v := 0) hx hb dX2_exists_24 (by decide) ?_
    exact z_iret hx hb hr rfl hlocks (by simp [rEx, bI, c_1]) dX2_exists_25
  · have c_1 : ¬ ((i : Int32) < 0) := c_1
    refine lv_iload_n hx hb dX2_exists_4 rfl (lv_at hl 1 rfl) ?_
    refine lv_bipush (v := 40) hx hb dX2_exists_5 (by decide) ?_
    refine lv_icmp_ge (tgt := 24) hx hb dX2_exists_7 (by decide) (fun c_7 => ?_) (fun c_7 => ?_)
    · have c_7 : ((40 : Int32) : Int32) ≤ i := c_7
      refine lv_iconst (v := 0) hx hb dX2_exists_24 (by decide) ?_
      exact z_iret hx hb hr rfl hlocks (by simp [rEx, bI, c_1, c_7]) dX2_exists_25
    · have c_7 : ¬ (((40 : Int32) : Int32) ≤ i) := c_7
      refine lv_aload_n hx hb dX2_exists_10 rfl (lv_at hl 0 rfl) ?_
      refine va_get (D := D) (ci := 2) (v := .ref (q 9)) (C := RX2) (T := TX2) (N := 4) hx hb hz inZ2 hown hK.1 hP 0 rfl rfl 3 (by decide) (hz _ q1_67) (fun _ h9 => h9) rfl dX2_exists_11 ?_
      refine lv_iload_n hx hb dX2_exists_14 rfl (lv_at hl 1 rfl) ?_
      refine va_iald (f := sSc S) hx hb hK.1 hP 3 0 rfl rfl (i := i) (z_in40 c_1 c_7) dX2_exists_15 ?_
      refine lv_iconst (v := (-1)) hx hb dX2_exists_16 (by decide) ?_
      refine lv_icmp_eq (tgt := 24) hx hb dX2_exists_17 (by decide) (fun c_17 => ?_) (fun c_17 => ?_)
      · have c_17 : ((sSc S) i.toNatClampNeg : Int32) = (-1 : Int32) := c_17
        refine lv_iconst (v := 0) hx hb dX2_exists_24 (by decide) ?_
        exact z_iret hx hb hr rfl hlocks (by simp [rEx, bI, c_1, c_7, c_17]) dX2_exists_25
      · have c_17 : ¬ (((sSc S) i.toNatClampNeg : Int32) = (-1 : Int32)) := c_17
        refine lv_iconst (v := 1) hx hb dX2_exists_20 (by decide) ?_
        refine lv_goto (tgt := 25) hx hb dX2_exists_21 (by decide) ?_
        exact z_iret hx hb hr rfl hlocks (by simp [rEx, bI, c_1, c_7, c_17]) dX2_exists_25
set_option maxHeartbeats 800000 in
set_option maxRecDepth 100000 in
theorem c_X2_numberFounded (l : Launch) (D : va_G) (cI cQ : ClassId) (q : Nat → Nat) (S : CS) : zRO l yX2_numberFounded (Cond.code yX2_numberFounded cX2_numberFounded 1 (some .int) :: zT) 0 0 [.ref (q 6)] D cI cQ (zPar cI q S) (sFo S) := by
  refine zRO.of (cc := cX2_numberFounded) (maxL := 1) (ret := some .int) (by decide +kernel) rfl (Nat.le_of_ble_eq_true rfl) ?_
  intro pg e s mi args below meth cd hx hb hr hts hown hlocks hml hP hK ls hl
  have hz : ∀ w ∈ zT, w.before args s = true := fun w h => hts w (List.mem_cons_of_mem _ h)
  have hl : lv_has ls 1 [(0, .ref (q 6))] := hl
  refine lv_aload_n hx hb dX2_numberFounded_0 rfl (lv_at hl 0 rfl) ?_
  refine va_get (D := D) (ci := 2) (v := .int (sFo S)) (C := RX2) (T := TX2) (N := 4) hx hb hz inZ2 hown hK.1 hP 0 rfl rfl 0 (by decide) (hz _ q1_64) (fun _ h9 => h9) rfl dX2_numberFounded_1 ?_
  exact z_iret hx hb hr rfl hlocks (by simp []) dX2_numberFounded_4
set_option maxHeartbeats 800000 in
set_option maxRecDepth 100000 in
theorem c_X2_leftOf (l : Launch) (D : va_G) (cI cQ : ClassId) (q : Nat → Nat) (S : CS) (i : Int32) : zRO l yX2_leftOf (Cond.code yX2_leftOf cX2_leftOf 2 (some .int) :: zT) 1 21 [.ref (q 6), .int i] D cI cQ (zPar cI q S) (rLe S i) := by
  refine zRO.of (cc := cX2_leftOf) (maxL := 2) (ret := some .int) (by decide +kernel) rfl (Nat.le_of_ble_eq_true rfl) ?_
  intro pg e s mi args below meth cd hx hb hr hts hown hlocks hml hP hK ls hl
  have hz : ∀ w ∈ zT, w.before args s = true := fun w h => hts w (List.mem_cons_of_mem _ h)
  have hl : lv_has ls 2 [(0, .ref (q 6)), (1, .int (i))] := hl
  refine lv_aload_n hx hb dX2_leftOf_0 rfl (lv_at hl 0 rfl) ?_
  refine lv_iload_n hx hb dX2_leftOf_1 rfl (lv_at hl 1 rfl) ?_
  refine z_ro (va_runV (As := [.int (i)]) (rest := []) ⟨hx, hb, hml, hown, hz⟩ (c_X2_exists l D cI cQ q S i) (zcwV 1 hz q1_183 q1_184 q1_185 q1_4 q1_186 hd_X2_exists (Nat.le_of_ble_eq_true rfl) (Nat.le_of_ble_eq_true rfl)) (z_pv (ci := 2) (q := (RX2, TX2, 4)) hK hP rfl rfl) rfl rfl hl.1 rfl (lv_room (Nat.le_of_ble_eq_true rfl)) dX2_leftOf_2 ⟨(Nat.le_of_ble_eq_true rfl), (Nat.le_of_ble_eq_true rfl)⟩) ?_
  refine lv_if_eq (tgt := 17) hx hb dX2_leftOf_5 (by decide) (fun c_5 => ?_) (fun c_5 => ?_)
  · have c_5 : (rEx S i) = false := bI_f c_5
    refine lv_bipush (v := (-9)) hx hb dX2_leftOf_17 (by decide) ?_
    exact z_iret hx hb hr rfl hlocks (by simp [rLe, c_5]) dX2_leftOf_19
  · have c_5 : (rEx S i) = true := bI_t c_5
    refine lv_aload_n hx hb dX2_leftOf_8 rfl (lv_at hl 0 rfl) ?_
    refine va_get (D := D) (ci := 2) (v := .ref (q 7)) (C := RX2) (T := TX2) (N := 4) hx hb hz inZ2 hown hK.1 hP 0 rfl rfl 1 (by decide) (hz _ q1_65) (fun _ h9 => h9) rfl dX2_leftOf_9 ?_
    refine lv_iload_n hx hb dX2_leftOf_12 rfl (lv_at hl 1 rfl) ?_
    refine va_iald (f := sLe S) hx hb hK.1 hP 1 0 rfl rfl (i := i) (rEx_in c_5) dX2_leftOf_13 ?_
    refine lv_goto (tgt := 19) hx hb dX2_leftOf_14 (by decide) ?_
    exact z_iret hx hb hr rfl hlocks (by simp [rLe, c_5]) dX2_leftOf_19
set_option maxHeartbeats 800000 in
set_option maxRecDepth 100000 in
theorem c_X2_topOf (l : Launch) (D : va_G) (cI cQ : ClassId) (q : Nat → Nat) (S : CS) (i : Int32) : zRO l yX2_topOf (Cond.code yX2_topOf cX2_topOf 2 (some .int) :: zT) 1 21 [.ref (q 6), .int i] D cI cQ (zPar cI q S) (rTo S i) := by
  refine zRO.of (cc := cX2_topOf) (maxL := 2) (ret := some .int) (by decide +kernel) rfl (Nat.le_of_ble_eq_true rfl) ?_
  intro pg e s mi args below meth cd hx hb hr hts hown hlocks hml hP hK ls hl
  have hz : ∀ w ∈ zT, w.before args s = true := fun w h => hts w (List.mem_cons_of_mem _ h)
  have hl : lv_has ls 2 [(0, .ref (q 6)), (1, .int (i))] := hl
  refine lv_aload_n hx hb dX2_topOf_0 rfl (lv_at hl 0 rfl) ?_
  refine lv_iload_n hx hb dX2_topOf_1 rfl (lv_at hl 1 rfl) ?_
  refine z_ro (va_runV (As := [.int (i)]) (rest := []) ⟨hx, hb, hml, hown, hz⟩ (c_X2_exists l D cI cQ q S i) (zcwV 1 hz q1_183 q1_184 q1_185 q1_4 q1_186 hd_X2_exists (Nat.le_of_ble_eq_true rfl) (Nat.le_of_ble_eq_true rfl)) (z_pv (ci := 2) (q := (RX2, TX2, 4)) hK hP rfl rfl) rfl rfl hl.1 rfl (lv_room (Nat.le_of_ble_eq_true rfl)) dX2_topOf_2 ⟨(Nat.le_of_ble_eq_true rfl), (Nat.le_of_ble_eq_true rfl)⟩) ?_
  refine lv_if_eq (tgt := 17) hx hb dX2_topOf_5 (by decide) (fun c_5 => ?_) (fun c_5 => ?_)
  · have c_5 : (rEx S i) = false := bI_f c_5
    refine lv_bipush (v := (-9)) hx hb dX2_topOf_17 (by decide) ?_
    exact z_iret hx hb hr rfl hlocks (by simp [rTo, c_5]) dX2_topOf_19
  · have c_5 : (rEx S i) = true := bI_t c_5
    refine lv_aload_n hx hb dX2_topOf_8 rfl (lv_at hl 0 rfl) ?_
    refine va_get (D := D) (ci := 2) (v := .ref (q 8)) (C := RX2) (T := TX2) (N := 4) hx hb hz inZ2 hown hK.1 hP 0 rfl rfl 2 (by decide) (hz _ q1_66) (fun _ h9 => h9) rfl dX2_topOf_9 ?_
    refine lv_iload_n hx hb dX2_topOf_12 rfl (lv_at hl 1 rfl) ?_
    refine va_iald (f := sTo S) hx hb hK.1 hP 2 0 rfl rfl (i := i) (rEx_in c_5) dX2_topOf_13 ?_
    refine lv_goto (tgt := 19) hx hb dX2_topOf_14 (by decide) ?_
    exact z_iret hx hb hr rfl hlocks (by simp [rTo, c_5]) dX2_topOf_19
set_option maxHeartbeats 800000 in
set_option maxRecDepth 100000 in
theorem c_X2_scaleOf (l : Launch) (D : va_G) (cI cQ : ClassId) (q : Nat → Nat) (S : CS) (i : Int32) : zRO l yX2_scaleOf (Cond.code yX2_scaleOf cX2_scaleOf 2 (some .int) :: zT) 1 21 [.ref (q 6), .int i] D cI cQ (zPar cI q S) (rSc S i) := by
  refine zRO.of (cc := cX2_scaleOf) (maxL := 2) (ret := some .int) (by decide +kernel) rfl (Nat.le_of_ble_eq_true rfl) ?_
  intro pg e s mi args below meth cd hx hb hr hts hown hlocks hml hP hK ls hl
  have hz : ∀ w ∈ zT, w.before args s = true := fun w h => hts w (List.mem_cons_of_mem _ h)
  have hl : lv_has ls 2 [(0, .ref (q 6)), (1, .int (i))] := hl
  refine lv_aload_n hx hb dX2_scaleOf_0 rfl (lv_at hl 0 rfl) ?_
  refine lv_iload_n hx hb dX2_scaleOf_1 rfl (lv_at hl 1 rfl) ?_
  refine z_ro (va_runV (As := [.int (i)]) (rest := []) ⟨hx, hb, hml, hown, hz⟩ (c_X2_exists l D cI cQ q S i) (zcwV 1 hz q1_183 q1_184 q1_185 q1_4 q1_186 hd_X2_exists (Nat.le_of_ble_eq_true rfl) (Nat.le_of_ble_eq_true rfl)) (z_pv (ci := 2) (q := (RX2, TX2, 4)) hK hP rfl rfl) rfl rfl hl.1 rfl (lv_room (Nat.le_of_ble_eq_true rfl)) dX2_scaleOf_2 ⟨(Nat.le_of_ble_eq_true rfl), (Nat.le_of_ble_eq_true rfl)⟩) ?_
  refine lv_if_eq (tgt := 17) hx hb dX2_scaleOf_5 (by decide) (fun c_5 => ?_) (fun c_5 => ?_)
  · have c_5 : (rEx S i) = false := bI_f c_5
    refine lv_iconst (v := (-1)) hx hb dX2_scaleOf_17 (by decide) ?_
    exact z_iret hx hb hr rfl hlocks (by simp [rSc, c_5]) dX2_scaleOf_18
  · have c_5 : (rEx S i) = true := bI_t c_5
    refine lv_aload_n hx hb dX2_scaleOf_8 rfl (lv_at hl 0 rfl) ?_
    refine va_get (D := D) (ci := 2) (v := .ref (q 9)) (C := RX2) (T := TX2) (N := 4) hx hb hz inZ2 hown hK.1 hP 0 rfl rfl 3 (by decide) (hz _ q1_67) (fun _ h9 => h9) rfl dX2_scaleOf_9 ?_
    refine lv_iload_n hx hb dX2_scaleOf_12 rfl (lv_at hl 1 rfl) ?_
    refine va_iald (f := sSc S) hx hb hK.1 hP 3 0 rfl rfl (i := i) (rEx_in c_5) dX2_scaleOf_13 ?_
    refine lv_goto (tgt := 18) hx hb dX2_scaleOf_14 (by decide) ?_
    exact z_iret hx hb hr rfl hlocks (by simp [rSc, c_5]) dX2_scaleOf_18
set_option maxHeartbeats 800000 in
set_option maxRecDepth 100000 in
theorem c_X2_rightOf (l : Launch) (D : va_G) (cI cQ : ClassId) (q : Nat → Nat) (S : CS) (i : Int32) : zRO l yX2_rightOf (Cond.code yX2_rightOf cX2_rightOf 2 (some .int) :: zT) 2 42 [.ref (q 6), .int i] D cI cQ (zPar cI q S) (rRi S i) := by
  refine zRO.of (cc := cX2_rightOf) (maxL := 2) (ret := some .int) (by decide +kernel) rfl (Nat.le_of_ble_eq_true rfl) ?_
  intro pg e s mi args below meth cd hx hb hr hts hown hlocks hml hP hK ls hl
  have hz : ∀ w ∈ zT, w.before args s = true := fun w h => hts w (List.mem_cons_of_mem _ h)
  have hl : lv_has ls 2 [(0, .ref (q 6)), (1, .int (i))] := hl
  refine lv_aload_n hx hb dX2_rightOf_0 rfl (lv_at hl 0 rfl) ?_
  refine lv_iload_n hx hb dX2_rightOf_1 rfl (lv_at hl 1 rfl) ?_
  refine z_ro (va_runV (As := [.int (i)]) (rest := []) ⟨hx, hb, hml, hown, hz⟩ (c_X2_leftOf l D cI cQ q S i) (zcwV 1 hz q1_228 q1_217 q1_218 q1_4 q1_219 hd_X2_leftOf (Nat.le_of_ble_eq_true rfl) (Nat.le_of_ble_eq_true rfl)) (z_pv (ci := 2) (q := (RX2, TX2, 4)) hK hP rfl rfl) rfl rfl hl.1 rfl (lv_room (Nat.le_of_ble_eq_true rfl)) dX2_rightOf_2 ⟨(Nat.le_of_ble_eq_true rfl), (Nat.le_of_ble_eq_true rfl)⟩) ?_
  refine lv_aload_n hx hb dX2_rightOf_5 rfl (lv_at hl 0 rfl) ?_
  refine lv_iload_n hx hb dX2_rightOf_6 rfl (lv_at hl 1 rfl) ?_
  refine z_ro (va_runV (As := [.int (i)]) (rest := [.int (rLe S i)]) ⟨hx, hb, hml, hown, hz⟩ (c_X2_scaleOf l D cI cQ q S i) (zcwV 1 hz q1_229 q1_209 q1_210 q1_4 q1_211 hd_X2_scaleOf (Nat.le_of_ble_eq_true rfl) (Nat.le_of_ble_eq_true rfl)) (z_pv (ci := 2) (q := (RX2, TX2, 4)) hK hP rfl rfl) rfl rfl hl.1 rfl (lv_room (Nat.le_of_ble_eq_true rfl)) dX2_rightOf_7 ⟨(Nat.le_of_ble_eq_true rfl), (Nat.le_of_ble_eq_true rfl)⟩) ?_
  refine z_ro (va_runSN (As := [.int (rSc S i)]) (rest := [.int (rLe S i)]) ⟨hx, hb, hml, hown, hz⟩ (c_X5_sideOf l D cI cQ (rSc S i)) (zcnS 1 hz q1_188 q1_1 q1_189 (hK.2.2.2.2.2.2.1) hd_X5_sideOf (Nat.le_of_ble_eq_true rfl) (Nat.le_of_ble_eq_true rfl)) (z_ps hK z_nil) rfl rfl hl.1 rfl (lv_room (Nat.le_of_ble_eq_true rfl)) dX2_rightOf_10 ⟨(Nat.le_of_ble_eq_true rfl), (Nat.le_of_ble_eq_true rfl)⟩) ?_
  refine lv_iadd hx hb dX2_rightOf_13 ?_
  refine lv_iconst (v := 1) hx hb dX2_rightOf_14 (by decide) ?_
  refine lv_isub hx hb dX2_rightOf_15 ?_
  exact z_iret hx hb hr rfl hlocks (by rfl) dX2_rightOf_16
set_option maxHeartbeats 800000 in
set_option maxRecDepth 100000 in
theorem c_X2_bottomOf (l : Launch) (D : va_G) (cI cQ : ClassId) (q : Nat → Nat) (S : CS) (i : Int32) : zRO l yX2_bottomOf (Cond.code yX2_bottomOf cX2_bottomOf 2 (some .int) :: zT) 2 42 [.ref (q 6), .int i] D cI cQ (zPar cI q S) (rBo S i) := by
  refine zRO.of (cc := cX2_bottomOf) (maxL := 2) (ret := some .int) (by decide +kernel) rfl (Nat.le_of_ble_eq_true rfl) ?_
  intro pg e s mi args below meth cd hx hb hr hts hown hlocks hml hP hK ls hl
  have hz : ∀ w ∈ zT, w.before args s = true := fun w h => hts w (List.mem_cons_of_mem _ h)
  have hl : lv_has ls 2 [(0, .ref (q 6)), (1, .int (i))] := hl
  refine lv_aload_n hx hb dX2_bottomOf_0 rfl (lv_at hl 0 rfl) ?_
  refine lv_iload_n hx hb dX2_bottomOf_1 rfl (lv_at hl 1 rfl) ?_
  refine z_ro (va_runV (As := [.int (i)]) (rest := []) ⟨hx, hb, hml, hown, hz⟩ (c_X2_topOf l D cI cQ q S i) (zcwV 1 hz q1_234 q1_221 q1_222 q1_4 q1_223 hd_X2_topOf (Nat.le_of_ble_eq_true rfl) (Nat.le_of_ble_eq_true rfl)) (z_pv (ci := 2) (q := (RX2, TX2, 4)) hK hP rfl rfl) rfl rfl hl.1 rfl (lv_room (Nat.le_of_ble_eq_true rfl)) dX2_bottomOf_2 ⟨(Nat.le_of_ble_eq_true rfl), (Nat.le_of_ble_eq_true rfl)⟩) ?_
  refine lv_aload_n hx hb dX2_bottomOf_5 rfl (lv_at hl 0 rfl) ?_
  refine lv_iload_n hx hb dX2_bottomOf_6 rfl (lv_at hl 1 rfl) ?_
  refine z_ro (va_runV (As := [.int (i)]) (rest := [.int (rTo S i)]) ⟨hx, hb, hml, hown, hz⟩ (c_X2_scaleOf l D cI cQ q S i) (zcwV 1 hz q1_229 q1_209 q1_210 q1_4 q1_211 hd_X2_scaleOf (Nat.le_of_ble_eq_true rfl) (Nat.le_of_ble_eq_true rfl)) (z_pv (ci := 2) (q := (RX2, TX2, 4)) hK hP rfl rfl) rfl rfl hl.1 rfl (lv_room (Nat.le_of_ble_eq_true rfl)) dX2_bottomOf_7 ⟨(Nat.le_of_ble_eq_true rfl), (Nat.le_of_ble_eq_true rfl)⟩) ?_
  refine z_ro (va_runSN (As := [.int (rSc S i)]) (rest := [.int (rTo S i)]) ⟨hx, hb, hml, hown, hz⟩ (c_X5_sideOf l D cI cQ (rSc S i)) (zcnS 1 hz q1_188 q1_1 q1_189 (hK.2.2.2.2.2.2.1) hd_X5_sideOf (Nat.le_of_ble_eq_true rfl) (Nat.le_of_ble_eq_true rfl)) (z_ps hK z_nil) rfl rfl hl.1 rfl (lv_room (Nat.le_of_ble_eq_true rfl)) dX2_bottomOf_10 ⟨(Nat.le_of_ble_eq_true rfl), (Nat.le_of_ble_eq_true rfl)⟩) ?_
  refine lv_iadd hx hb dX2_bottomOf_13 ?_
  refine lv_iconst (v := 1) hx hb dX2_bottomOf_14 (by decide) ?_
  refine lv_isub hx hb dX2_bottomOf_15 ?_
  exact z_iret hx hb hr rfl hlocks (by rfl) dX2_bottomOf_16
set_option maxHeartbeats 800000 in
set_option maxRecDepth 100000 in
theorem c_X2_giveCell (l : Launch) (D : va_G) (cI cQ : ClassId) (q : Nat → Nat) (S : CS) (pa nl nt ns : Int32) (g1 : FI) (hg1 : g1 = rGiv (sLe S) pa nl) (g2 : FI) (hg2 : g2 = rGiv (sTo S) pa nt) (g3 : FI) (hg3 : g3 = rGiv (sSc S) pa ns) : zWR l yX2_giveCell (Cond.code yX2_giveCell cX2_giveCell 5 (none) :: zT) 1 22 [.ref (q 6), .int pa, .int nl, .int nt, .int ns] D cI cQ (zPar cI q S) none (zPar cI q (uSc (uTo (uLe S g1) g2) g3)) := by
  refine zWR.of (cc := cX2_giveCell) (maxL := 5) (ret := none) (by decide +kernel) rfl (Nat.le_of_ble_eq_true rfl) ?_
  intro pg e s mi args below meth cd hx hb hr hts hown hlocks hml hP hD hS hK ls hl
  have hz : ∀ w ∈ zT, w.before args s = true := fun w h => hts w (List.mem_cons_of_mem _ h)
  have hl : lv_has ls 5 [(0, .ref (q 6)), (1, .int (pa)), (2, .int (nl)), (3, .int (nt)), (4, .int (ns))] := hl
  refine lv_iload_n hx hb dX2_giveCell_0 rfl (lv_at hl 1 rfl) ?_
  refine lv_iconst (v := 0) hx hb dX2_giveCell_1 (by decide) ?_
  refine lv_bipush (v := 39) hx hb dX2_giveCell_2 (by decide) ?_
  refine z_ro (va_runSN (As := [.int (pa), .int (0 : Int32), .int (39 : Int32)]) (rest := []) ⟨hx, hb, hml, hown, hz⟩ (c_X5_isBetween l D cI cQ pa (0 : Int32) (39 : Int32)) (zcnS 3 hz q1_58 q1_1 q1_59 (hK.2.2.2.1) hd_X5_isBetween (Nat.le_of_ble_eq_true rfl) (Nat.le_of_ble_eq_true rfl)) (z_ps hK z_nil) rfl rfl hl.1 rfl (lv_room (Nat.le_of_ble_eq_true rfl)) dX2_giveCell_4 ⟨(Nat.le_of_ble_eq_true rfl), (Nat.le_of_ble_eq_true rfl)⟩) ?_
  refine lv_if_eq (tgt := 32) hx hb dX2_giveCell_7 (by decide) (fun c_7 => ?_) (fun c_7 => ?_)
  · have c_7 : (btw pa (0 : Int32) (39 : Int32)) = false := bI_f c_7
    exact z_wvret hx hb hr hlocks hP hS (congrArg (fun T => zPar cI q T) (show S = uSc (uTo (uLe S g1) g2) g3 from by subst hg1; subst hg2; subst hg3; simp [rGiv, c_7, uSc_self, uTo_self, uLe_self])) dX2_giveCell_32
  · have c_7 : (btw pa (0 : Int32) (39 : Int32)) = true := bI_t c_7
    refine lv_aload_n hx hb dX2_giveCell_10 rfl (lv_at hl 0 rfl) ?_
    refine va_get (D := D) (ci := 2) (v := .ref (q 7)) (C := RX2) (T := TX2) (N := 4) hx hb hz inZ2 hown hK.1 hP 0 rfl rfl 1 (by decide) (hz _ q1_65) (fun _ h9 => h9) rfl dX2_giveCell_11 ?_
    refine lv_iload_n hx hb dX2_giveCell_14 rfl (lv_at hl 1 rfl) ?_
    refine lv_iload_n hx hb dX2_giveCell_15 rfl (lv_at hl 2 rfl) ?_
    refine va_iast hx hb hK.1 hP hD hS 1 0 rfl rfl (i := pa) (btw_in c_7) dX2_giveCell_16 (fun H locs hP hD hS => ?_)
    have hP : va_P D vwCl (zPar cI q (uLe S (upd (sLe S) pa.toNatClampNeg nl))) H := hP
    have hD : va_D (zA (zPar cI q S)) (zPar cI q (uLe S (upd (sLe S) pa.toNatClampNeg nl))) := hD
    refine lv_aload_n hx hb dX2_giveCell_17 rfl (lv_at hl 0 rfl) ?_
    refine va_get (D := D) (ci := 2) (v := .ref (q 8)) (C := RX2) (T := TX2) (N := 4) hx hb hz inZ2 hown hK.1 hP 0 rfl rfl 2 (by decide) (hz _ q1_66) (fun _ h9 => h9) rfl dX2_giveCell_18 ?_
    refine lv_iload_n hx hb dX2_giveCell_21 rfl (lv_at hl 1 rfl) ?_
    refine lv_iload_n hx hb dX2_giveCell_22 rfl (lv_at hl 3 rfl) ?_
    refine va_iast hx hb hK.1 hP hD hS 2 0 rfl rfl (i := pa) (btw_in c_7) dX2_giveCell_23 (fun H locs hP hD hS => ?_)
    have hP : va_P D vwCl (zPar cI q (uTo (uLe S (upd (sLe S) pa.toNatClampNeg nl)) (upd (sTo S) pa.toNatClampNeg nt))) H := hP
    have hD : va_D (zA (zPar cI q S)) (zPar cI q (uTo (uLe S (upd (sLe S) pa.toNatClampNeg nl)) (upd (sTo S) pa.toNatClampNeg nt))) := hD
    refine lv_aload_n hx hb dX2_giveCell_24 rfl (lv_at hl 0 rfl) ?_
    refine va_get (D := D) (ci := 2) (v := .ref (q 9)) (C := RX2) (T := TX2) (N := 4) hx hb hz inZ2 hown hK.1 hP 0 rfl rfl 3 (by decide) (hz _ q1_67) (fun _ h9 => h9) rfl dX2_giveCell_25 ?_
    refine lv_iload_n hx hb dX2_giveCell_28 rfl (lv_at hl 1 rfl) ?_
    refine lv_iload hx hb dX2_giveCell_29 (lv_at hl 4 rfl) ?_
    refine va_iast hx hb hK.1 hP hD hS 3 0 rfl rfl (i := pa) (btw_in c_7) dX2_giveCell_31 (fun H locs hP hD hS => ?_)
    have hP : va_P D vwCl (zPar cI q (uSc (uTo (uLe S (upd (sLe S) pa.toNatClampNeg nl)) (upd (sTo S) pa.toNatClampNeg nt)) (upd (sSc S) pa.toNatClampNeg ns))) H := hP
    have hD : va_D (zA (zPar cI q S)) (zPar cI q (uSc (uTo (uLe S (upd (sLe S) pa.toNatClampNeg nl)) (upd (sTo S) pa.toNatClampNeg nt)) (upd (sSc S) pa.toNatClampNeg ns))) := hD
    exact z_wvret hx hb hr hlocks hP hS (congrArg (fun T => zPar cI q T) (show uSc (uTo (uLe S (upd (sLe S) pa.toNatClampNeg nl)) (upd (sTo S) pa.toNatClampNeg nt)) (upd (sSc S) pa.toNatClampNeg ns) = uSc (uTo (uLe S g1) g2) g3 from by subst hg1; subst hg2; subst hg3; simp [rGiv, c_7, uSc_self, uTo_self, uLe_self])) dX2_giveCell_32
set_option maxHeartbeats 800000 in
set_option maxRecDepth 100000 in
theorem c_X2_found (l : Launch) (D : va_G) (cI cQ : ClassId) (q : Nat → Nat) (S : CS) (nl nt ns : Int32) (g1 : Int32) (hg1 : g1 = rFo1 S) (g2 : FI) (hg2 : g2 = rGiv (sLe S) (sFo S) nl) (g3 : FI) (hg3 : g3 = rGiv (sTo S) (sFo S) nt) (g4 : FI) (hg4 : g4 = rGiv (sSc S) (sFo S) ns) : zWR l yX2_found (Cond.code yX2_found cX2_found 5 (some .int) :: zT) 2 46 [.ref (q 6), .int nl, .int nt, .int ns] D cI cQ (zPar cI q S) (some (.int ((if rRoom S then sFo S else -9)))) (zPar cI q (uSc (uTo (uLe (uFo S g1) g2) g3) g4)) := by
  refine zWR.of (cc := cX2_found) (maxL := 5) (ret := some .int) (by decide +kernel) rfl (Nat.le_of_ble_eq_true rfl) ?_
  intro pg e s mi args below meth cd hx hb hr hts hown hlocks hml hP hD hS hK ls hl
  have hz : ∀ w ∈ zT, w.before args s = true := fun w h => hts w (List.mem_cons_of_mem _ h)
  have hl : lv_has ls 5 [(0, .ref (q 6)), (1, .int (nl)), (2, .int (nt)), (3, .int (ns))] := hl
  refine lv_aload_n hx hb dX2_found_0 rfl (lv_at hl 0 rfl) ?_
  refine va_get (D := D) (ci := 2) (v := .int (sFo S)) (C := RX2) (T := TX2) (N := 4) hx hb hz inZ2 hown hK.1 hP 0 rfl rfl 0 (by decide) (hz _ q1_64) (fun _ h9 => h9) rfl dX2_found_1 ?_
  refine lv_istore (lv' := [(4, .int (sFo S)), (0, .ref (q 6)), (1, .int (nl)), (2, .int (nt)), (3, .int (ns))]) hx hb dX2_found_4 hl (by decide) rfl (fun ls hl => ?_)
  refine lv_iload hx hb dX2_found_6 (lv_at hl 0 rfl) ?_
  refine lv_iconst (v := 0) hx hb dX2_found_8 (by decide) ?_
  refine lv_bipush (v := 39) hx hb dX2_found_9 (by decide) ?_
  refine z_ro (va_runSN (As := [.int (sFo S), .int (0 : Int32), .int (39 : Int32)]) (rest := []) ⟨hx, hb, hml, hown, hz⟩ (c_X5_isBetween l D cI cQ (sFo S) (0 : Int32) (39 : Int32)) (zcnS 3 hz q1_58 q1_1 q1_59 (hK.2.2.2.1) hd_X5_isBetween (Nat.le_of_ble_eq_true rfl) (Nat.le_of_ble_eq_true rfl)) (z_ps hK z_nil) rfl rfl hl.1 rfl (lv_room (Nat.le_of_ble_eq_true rfl)) dX2_found_11 ⟨(Nat.le_of_ble_eq_true rfl), (Nat.le_of_ble_eq_true rfl)⟩) ?_
  refine lv_if_ne (tgt := 20) hx hb dX2_found_14 (by decide) (fun c_14 => ?_) (fun c_14 => ?_)
  · have c_14 : (btw (sFo S) (0 : Int32) (39 : Int32)) = true := bI_t c_14
    refine lv_aload_n hx hb dX2_found_20 rfl (lv_at hl 1 rfl) ?_
    refine lv_dup hx hb dX2_found_21 rfl ?_
    refine va_get (D := D) (ci := 2) (v := .int (sFo S)) (C := RX2) (T := TX2) (N := 4) hx hb hz inZ2 hown hK.1 hP 0 rfl rfl 0 (by decide) (hz _ q1_64) (fun _ h9 => h9) rfl dX2_found_22 ?_
    refine lv_iconst (v := 1) hx hb dX2_found_25 (by decide) ?_
    refine lv_iadd hx hb dX2_found_26 ?_
    refine va_put (D := D) (ci := 2) (v := .int ((sFo S) + (1 : Int32))) (ty := .int) (C := RX2) (T := TX2) (N := 4) hx hb hz inZ2 tyX2 tyX2_ok nmX2 hown hK.1 hP hD hS 0 rfl rfl 0 (by decide) (hz _ q1_64) (fun _ h9 => h9) rfl (by decide +kernel) rfl rfl (Nat.le_of_ble_eq_true rfl) dX2_found_27 (fun H locs hP hD hS => ?_)
    have hP : va_P D vwCl (zPar cI q (uFo S ((sFo S) + (1 : Int32)))) H := hP
    have hD : va_D (zA (zPar cI q S)) (zPar cI q (uFo S ((sFo S) + (1 : Int32)))) := hD
    refine lv_aload_n hx hb dX2_found_30 rfl (lv_at hl 1 rfl) ?_
    refine lv_iload hx hb dX2_found_31 (lv_at hl 0 rfl) ?_
    refine lv_iload_n hx hb dX2_found_33 rfl (lv_at hl 2 rfl) ?_
    refine lv_iload_n hx hb dX2_found_34 rfl (lv_at hl 3 rfl) ?_
    refine lv_iload_n hx hb dX2_found_35 rfl (lv_at hl 4 rfl) ?_
    obtain ⟨g_1, hg_1⟩ : ∃ z : FI, z = rGiv ((sLe S)) (sFo S) nl := ⟨_, rfl⟩
    obtain ⟨g_2, hg_2⟩ : ∃ z : FI, z = rGiv ((sTo S)) (sFo S) nt := ⟨_, rfl⟩
    obtain ⟨g_3, hg_3⟩ : ∃ z : FI, z = rGiv ((sSc S)) (sFo S) ns := ⟨_, rfl⟩
    refine z_wv (X' := zPar cI q (uSc (uTo (uLe (uFo S ((sFo S) + (1 : Int32))) g_1) g_2) g_3)) (va_runV (As := [.int (sFo S), .int (nl), .int (nt), .int (ns)]) (rest := []) ⟨hx, hb, hml, hown, hz⟩ (c_X2_giveCell l D cI cQ q (uFo S ((sFo S) + (1 : Int32))) (sFo S) nl nt ns g_1 hg_1 g_2 hg_2 g_3 hg_3) (zcwV 4 hz q1_60 q1_61 q1_62 q1_4 q1_63 hd_X2_giveCell (Nat.le_of_ble_eq_true rfl) (Nat.le_of_ble_eq_true rfl)) (z_pvw (ci := 2) (q := (RX2, TX2, 4)) hK hP hD rfl rfl) rfl rfl hl.1 rfl (lv_room (Nat.le_of_ble_eq_true rfl)) dX2_found_36 ⟨(Nat.le_of_ble_eq_true rfl), (Nat.le_of_ble_eq_true rfl)⟩) hP hD hS [0, 1, 2, 3] rfl rfl rfl (fun H locs hP hD hS => ?_)
    refine lv_iload hx hb dX2_found_39 (lv_at hl 0 rfl) ?_
    exact z_wiret hx hb hr rfl hlocks hP hS (by simp [rRoom, c_14]) (congrArg (fun T => zPar cI q T) (show uSc (uTo (uLe (uFo S ((sFo S) + (1 : Int32))) g_1) g_2) g_3 = uSc (uTo (uLe (uFo S g1) g2) g3) g4 from by subst hg_3; subst hg_2; subst hg_1; subst hg1; subst hg2; subst hg3; subst hg4; simp [rFo1, rRoom, c_14, rGiv, uSc_self, uTo_self, uLe_self, uFo_self])) dX2_found_41
  · have c_14 : (btw (sFo S) (0 : Int32) (39 : Int32)) = false := bI_f c_14
    refine lv_bipush (v := (-9)) hx hb dX2_found_17 (by decide) ?_
    exact z_wiret hx hb hr rfl hlocks hP hS (by simp [rRoom, c_14]) (congrArg (fun T => zPar cI q T) (show S = uSc (uTo (uLe (uFo S g1) g2) g3) g4 from by subst hg1; subst hg2; subst hg3; subst hg4; simp [rFo1, rRoom, c_14, rGiv, uSc_self, uTo_self, uLe_self, uFo_self])) dX2_found_19
set_option maxHeartbeats 800000 in
set_option maxRecDepth 100000 in
theorem c_X2_dissolve (l : Launch) (D : va_G) (cI cQ : ClassId) (q : Nat → Nat) (S : CS) (pa : Int32) (g1 : FI) (hg1 : g1 = rDis S pa) : zWR l yX2_dissolve (Cond.code yX2_dissolve cX2_dissolve 2 (none) :: zT) 1 21 [.ref (q 6), .int pa] D cI cQ (zPar cI q S) none (zPar cI q (uSc S g1)) := by
  refine zWR.of (cc := cX2_dissolve) (maxL := 2) (ret := none) (by decide +kernel) rfl (Nat.le_of_ble_eq_true rfl) ?_
  intro pg e s mi args below meth cd hx hb hr hts hown hlocks hml hP hD hS hK ls hl
  have hz : ∀ w ∈ zT, w.before args s = true := fun w h => hts w (List.mem_cons_of_mem _ h)
  have hl : lv_has ls 2 [(0, .ref (q 6)), (1, .int (pa))] := hl
  refine lv_aload_n hx hb dX2_dissolve_0 rfl (lv_at hl 0 rfl) ?_
  refine lv_iload_n hx hb dX2_dissolve_1 rfl (lv_at hl 1 rfl) ?_
  refine z_ro (va_runV (As := [.int (pa)]) (rest := []) ⟨hx, hb, hml, hown, hz⟩ (c_X2_exists l D cI cQ q S pa) (zcwV 1 hz q1_183 q1_184 q1_185 q1_4 q1_186 hd_X2_exists (Nat.le_of_ble_eq_true rfl) (Nat.le_of_ble_eq_true rfl)) (z_pv (ci := 2) (q := (RX2, TX2, 4)) hK hP rfl rfl) rfl rfl hl.1 rfl (lv_room (Nat.le_of_ble_eq_true rfl)) dX2_dissolve_2 ⟨(Nat.le_of_ble_eq_true rfl), (Nat.le_of_ble_eq_true rfl)⟩) ?_
  refine lv_if_eq (tgt := 15) hx hb dX2_dissolve_5 (by decide) (fun c_5 => ?_) (fun c_5 => ?_)
  · have c_5 : (rEx S pa) = false := bI_f c_5
    exact z_wvret hx hb hr hlocks hP hS (congrArg (fun T => zPar cI q T) (show S = uSc S g1 from by subst hg1; simp [rDis, c_5, uSc_self])) dX2_dissolve_15
  · have c_5 : (rEx S pa) = true := bI_t c_5
    refine lv_aload_n hx hb dX2_dissolve_8 rfl (lv_at hl 0 rfl) ?_
    refine va_get (D := D) (ci := 2) (v := .ref (q 9)) (C := RX2) (T := TX2) (N := 4) hx hb hz inZ2 hown hK.1 hP 0 rfl rfl 3 (by decide) (hz _ q1_67) (fun _ h9 => h9) rfl dX2_dissolve_9 ?_
    refine lv_iload_n hx hb dX2_dissolve_12 rfl (lv_at hl 1 rfl) ?_
    refine lv_iconst (v := (-1)) hx hb dX2_dissolve_13 (by decide) ?_
    refine va_iast hx hb hK.1 hP hD hS 3 0 rfl rfl (i := pa) (rEx_in c_5) dX2_dissolve_14 (fun H locs hP hD hS => ?_)
    have hP : va_P D vwCl (zPar cI q (uSc S (upd (sSc S) pa.toNatClampNeg (-1 : Int32)))) H := hP
    have hD : va_D (zA (zPar cI q S)) (zPar cI q (uSc S (upd (sSc S) pa.toNatClampNeg (-1 : Int32)))) := hD
    exact z_wvret hx hb hr hlocks hP hS (congrArg (fun T => zPar cI q T) (show uSc S (upd (sSc S) pa.toNatClampNeg (-1 : Int32)) = uSc S g1 from by subst hg1; simp [rDis, c_5, uSc_self])) dX2_dissolve_15
set_option maxHeartbeats 800000 in
set_option maxRecDepth 100000 in
theorem c_X2_touches (l : Launch) (D : va_G) (cI cQ : ClassId) (q : Nat → Nat) (S : CS) (i x y tx ty : Int32) : zRO l yX2_touches (Cond.code yX2_touches cX2_touches 7 (some .boolean) :: zT) 1 21 [.ref (q 6), .int i, .int x, .int y, .int tx, .int ty] D cI cQ (zPar cI q S) (bI (rTou S i x y tx ty)) := by
  refine zRO.of (cc := cX2_touches) (maxL := 7) (ret := some .boolean) (by decide +kernel) rfl (Nat.le_of_ble_eq_true rfl) ?_
  intro pg e s mi args below meth cd hx hb hr hts hown hlocks hml hP hK ls hl
  have hz : ∀ w ∈ zT, w.before args s = true := fun w h => hts w (List.mem_cons_of_mem _ h)
  have hl : lv_has ls 7 [(0, .ref (q 6)), (1, .int (i)), (2, .int (x)), (3, .int (y)), (4, .int (tx)), (5, .int (ty))] := hl
  refine lv_aload_n hx hb dX2_touches_0 rfl (lv_at hl 0 rfl) ?_
  refine lv_iload_n hx hb dX2_touches_1 rfl (lv_at hl 1 rfl) ?_
  refine z_ro (va_runV (As := [.int (i)]) (rest := []) ⟨hx, hb, hml, hown, hz⟩ (c_X2_exists l D cI cQ q S i) (zcwV 1 hz q1_183 q1_184 q1_185 q1_4 q1_186 hd_X2_exists (Nat.le_of_ble_eq_true rfl) (Nat.le_of_ble_eq_true rfl)) (z_pv (ci := 2) (q := (RX2, TX2, 4)) hK hP rfl rfl) rfl rfl hl.1 rfl (lv_room (Nat.le_of_ble_eq_true rfl)) dX2_touches_2 ⟨(Nat.le_of_ble_eq_true rfl), (Nat.le_of_ble_eq_true rfl)⟩) ?_
  refine lv_if_ne (tgt := 10) hx hb dX2_touches_5 (by decide) (fun c_5 => ?_) (fun c_5 => ?_)
  · have c_5 : (rEx S i) = true := bI_t c_5
    refine lv_aload_n hx hb dX2_touches_10 rfl (lv_at hl 0 rfl) ?_
    refine va_get (D := D) (ci := 2) (v := .ref (q 9)) (C := RX2) (T := TX2) (N := 4) hx hb hz inZ2 hown hK.1 hP 0 rfl rfl 3 (by decide) (hz _ q1_67) (fun _ h9 => h9) rfl dX2_touches_11 ?_
    refine lv_iload_n hx hb dX2_touches_14 rfl (lv_at hl 1 rfl) ?_
    refine va_iald (f := sSc S) hx hb hK.1 hP 3 0 rfl rfl (i := i) (rEx_in c_5) dX2_touches_15 ?_
    refine z_ro (va_runSN (As := [.int ((sSc S) i.toNatClampNeg)]) (rest := []) ⟨hx, hb, hml, hown, hz⟩ (c_X5_sideOf l D cI cQ ((sSc S) i.toNatClampNeg)) (zcnS 1 hz q1_188 q1_1 q1_189 (hK.2.2.2.2.2.2.1) hd_X5_sideOf (Nat.le_of_ble_eq_true rfl) (Nat.le_of_ble_eq_true rfl)) (z_ps hK z_nil) rfl rfl hl.1 rfl (lv_room (Nat.le_of_ble_eq_true rfl)) dX2_touches_16 ⟨(Nat.le_of_ble_eq_true rfl), (Nat.le_of_ble_eq_true rfl)⟩) ?_
    refine lv_istore (lv' := [(6, .int (sideF ((sSc S) i.toNatClampNeg))), (0, .ref (q 6)), (1, .int (i)), (2, .int (x)), (3, .int (y)), (4, .int (tx)), (5, .int (ty))]) hx hb dX2_touches_19 hl (by decide) rfl (fun ls hl => ?_)
    refine lv_aload_n hx hb dX2_touches_21 rfl (lv_at hl 1 rfl) ?_
    refine va_get (D := D) (ci := 2) (v := .ref (q 7)) (C := RX2) (T := TX2) (N := 4) hx hb hz inZ2 hown hK.1 hP 0 rfl rfl 1 (by decide) (hz _ q1_65) (fun _ h9 => h9) rfl dX2_touches_22 ?_
    refine lv_iload_n hx hb dX2_touches_25 rfl (lv_at hl 2 rfl) ?_
    refine va_iald (f := sLe S) hx hb hK.1 hP 1 0 rfl rfl (i := i) (rEx_in c_5) dX2_touches_26 ?_
    refine lv_iload hx hb dX2_touches_27 (lv_at hl 5 rfl) ?_
    refine lv_icmp_gt (tgt := 73) hx hb dX2_touches_29 (by decide) (fun c_29 => ?_) (fun c_29 => ?_)
    · have c_29 : (tx : Int32) < (sLe S) i.toNatClampNeg := c_29
      refine lv_iconst (v := 0) hx hb dX2_touches_73 (by decide) ?_
      exact z_iret hx hb hr rfl hlocks (by simp [rTou, bI, c_5, c_29]) dX2_touches_74
    · have c_29 : ¬ ((tx : Int32) < (sLe S) i.toNatClampNeg) := c_29
      refine lv_aload_n hx hb dX2_touches_32 rfl (lv_at hl 1 rfl) ?_
      refine va_get (D := D) (ci := 2) (v := .ref (q 7)) (C := RX2) (T := TX2) (N := 4) hx hb hz inZ2 hown hK.1 hP 0 rfl rfl 1 (by decide) (hz _ q1_65) (fun _ h9 => h9) rfl dX2_touches_33 ?_
      refine lv_iload_n hx hb dX2_touches_36 rfl (lv_at hl 2 rfl) ?_
      refine va_iald (f := sLe S) hx hb hK.1 hP 1 0 rfl rfl (i := i) (rEx_in c_5) dX2_touches_37 ?_
      refine lv_iload hx hb dX2_touches_38 (lv_at hl 0 rfl) ?_
      refine lv_iadd hx hb dX2_touches_40 ?_
      refine lv_iload_n hx hb dX2_touches_41 rfl (lv_at hl 3 rfl) ?_
      refine lv_icmp_le (tgt := 73) hx hb dX2_touches_42 (by decide) (fun c_42 => ?_) (fun c_42 => ?_)
      · have c_42 : (((sLe S) i.toNatClampNeg) + (sideF ((sSc S) i.toNatClampNeg)) : Int32) ≤ x := c_42
        refine lv_iconst (v := 0) hx hb dX2_touches_73 (by decide) ?_
        exact z_iret hx hb hr rfl hlocks (by simp [rTou, bI, c_5, c_29, c_42]) dX2_touches_74
      · have c_42 : ¬ ((((sLe S) i.toNatClampNeg) + (sideF ((sSc S) i.toNatClampNeg)) : Int32) ≤ x) := c_42
        refine lv_aload_n hx hb dX2_touches_45 rfl (lv_at hl 1 rfl) ?_
        refine va_get (D := D) (ci := 2) (v := .ref (q 8)) (C := RX2) (T := TX2) (N := 4) hx hb hz inZ2 hown hK.1 hP 0 rfl rfl 2 (by decide) (hz _ q1_66) (fun _ h9 => h9) rfl dX2_touches_46 ?_
        refine lv_iload_n hx hb dX2_touches_49 rfl (lv_at hl 2 rfl) ?_
        refine va_iald (f := sTo S) hx hb hK.1 hP 2 0 rfl rfl (i := i) (rEx_in c_5) dX2_touches_50 ?_
        refine lv_iload hx hb dX2_touches_51 (lv_at hl 6 rfl) ?_
        refine lv_icmp_gt (tgt := 73) hx hb dX2_touches_53 (by decide) (fun c_53 => ?_) (fun c_53 => ?_)
        · have c_53 : (ty : Int32) < (sTo S) i.toNatClampNeg := c_53
          refine lv_iconst (v := 0) hx hb dX2_touches_73 (by decide) ?_
          exact z_iret hx hb hr rfl hlocks (by simp [rTou, bI, c_5, c_29, c_42, c_53]) dX2_touches_74
        · have c_53 : ¬ ((ty : Int32) < (sTo S) i.toNatClampNeg) := c_53
          refine lv_aload_n hx hb dX2_touches_56 rfl (lv_at hl 1 rfl) ?_
          refine va_get (D := D) (ci := 2) (v := .ref (q 8)) (C := RX2) (T := TX2) (N := 4) hx hb hz inZ2 hown hK.1 hP 0 rfl rfl 2 (by decide) (hz _ q1_66) (fun _ h9 => h9) rfl dX2_touches_57 ?_
          refine lv_iload_n hx hb dX2_touches_60 rfl (lv_at hl 2 rfl) ?_
          refine va_iald (f := sTo S) hx hb hK.1 hP 2 0 rfl rfl (i := i) (rEx_in c_5) dX2_touches_61 ?_
          refine lv_iload hx hb dX2_touches_62 (lv_at hl 0 rfl) ?_
          refine lv_iadd hx hb dX2_touches_64 ?_
          refine lv_iload_n hx hb dX2_touches_65 rfl (lv_at hl 4 rfl) ?_
          refine lv_icmp_le (tgt := 73) hx hb dX2_touches_66 (by decide) (fun c_66 => ?_) (fun c_66 => ?_)
          · have c_66 : (((sTo S) i.toNatClampNeg) + (sideF ((sSc S) i.toNatClampNeg)) : Int32) ≤ y := c_66
            refine lv_iconst (v := 0) hx hb dX2_touches_73 (by decide) ?_
            exact z_iret hx hb hr rfl hlocks (by simp [rTou, bI, c_5, c_29, c_42, c_53, c_66]) dX2_touches_74
          · have c_66 : ¬ ((((sTo S) i.toNatClampNeg) + (sideF ((sSc S) i.toNatClampNeg)) : Int32) ≤ y) := c_66
            refine lv_iconst (v := 1) hx hb dX2_touches_69 (by decide) ?_
            refine lv_goto (tgt := 74) hx hb dX2_touches_70 (by decide) ?_
            exact z_iret hx hb hr rfl hlocks (by simp [rTou, bI, c_5, c_29, c_42, c_53, c_66]) dX2_touches_74
  · have c_5 : (rEx S i) = false := bI_f c_5
    refine lv_iconst (v := 0) hx hb dX2_touches_8 (by decide) ?_
    exact z_iret hx hb hr rfl hlocks (by simp [rTou, bI, c_5]) dX2_touches_9
set_option maxHeartbeats 800000 in
set_option maxRecDepth 100000 in
theorem c_X2_parishAt (l : Launch) (D : va_G) (cI cQ : ClassId) (q : Nat → Nat) (S : CS) (x y : Int32) : zRO l yX2_parishAt (Cond.code yX2_parishAt cX2_parishAt 4 (some .int) :: zT) 2 47 [.ref (q 6), .int x, .int y] D cI cQ (zPar cI q S) (rAt S x y) := by
  refine zRO.of (cc := cX2_parishAt) (maxL := 4) (ret := some .int) (by decide +kernel) rfl (Nat.le_of_ble_eq_true rfl) ?_
  intro pg e s mi args below meth cd hx hb hr hts hown hlocks hml hP hK ls hl
  have hz : ∀ w ∈ zT, w.before args s = true := fun w h => hts w (List.mem_cons_of_mem _ h)
  have hl : lv_has ls 4 [(0, .ref (q 6)), (1, .int (x)), (2, .int (y))] := hl
  refine lv_iconst (v := 0) hx hb dX2_parishAt_0 (by decide) ?_
  refine lv_istore_n (lv' := [(3, .int (0 : Int32)), (0, .ref (q 6)), (1, .int (x)), (2, .int (y))]) hx hb dX2_parishAt_1 rfl hl (by decide) rfl (fun ls hl => ?_)
  have L2 : ∀ (n2 k2 : Nat), k2 ≤ 40 → 40 < k2 + n2 → (rAt S x y = fnd (fun k => rTou S (nI k) x y x y) (40 - k2) k2) → ∀ (ls : Array Slot), lv_has ls 4 [(3, .int (nI k2)), (0, .ref (q 6)), (1, .int (x)), (2, .int (y))] → W pg l e ({ frames := 2, cells := 0, slots := 0, locals := 47 }) s mi args below meth cd s.heap [] 0 0 (MQ below (vp_Si (fun r => r = rAt S x y)) args s 0 0 (fun _ => False)) (F0 mi 2 ls []) := by
    intro n2
    induction n2 with
    | zero => intro k2 h1 h2; exact absurd h2 (by omega)
    | succ n2 ih2 =>
      intro k2 h1_2 h2_2 he ls hl
      refine lv_iload_n hx hb dX2_parishAt_2 rfl (lv_at hl 0 rfl) ?_
      refine lv_bipush (v := 40) hx hb dX2_parishAt_3 (by decide) ?_
      refine lv_icmp_ge (tgt := 28) hx hb dX2_parishAt_5 (by decide) (fun c_5 => ?_) (fun c_5 => ?_)
      · have c_5 : ((40 : Int32) : Int32) ≤ nI k2 := c_5
        have hk_2 : k2 = 40 := z_exit (by decide) h1_2 c_5
        refine lv_bipush (v := (-9)) hx hb dX2_parishAt_28 (by decide) ?_
        exact z_iret hx hb hr rfl hlocks (by rw [he, hk_2]; rfl) dX2_parishAt_30
      · have c_5 : ¬ (((40 : Int32) : Int32) ≤ nI k2) := c_5
        have hk_2 : k2 < 40 := z_cont (by decide) h1_2 c_5
        refine lv_aload_n hx hb dX2_parishAt_8 rfl (lv_at hl 1 rfl) ?_
        refine lv_iload_n hx hb dX2_parishAt_9 rfl (lv_at hl 0 rfl) ?_
        refine lv_iload_n hx hb dX2_parishAt_10 rfl (lv_at hl 2 rfl) ?_
        refine lv_iload_n hx hb dX2_parishAt_11 rfl (lv_at hl 3 rfl) ?_
        refine lv_iload_n hx hb dX2_parishAt_12 rfl (lv_at hl 2 rfl) ?_
        refine lv_iload_n hx hb dX2_parishAt_13 rfl (lv_at hl 3 rfl) ?_
        refine z_ro (va_runV (As := [.int (nI k2), .int (x), .int (y), .int (x), .int (y)]) (rest := []) ⟨hx, hb, hml, hown, hz⟩ (c_X2_touches l D cI cQ q S (nI k2) x y x y) (zcwV 5 hz q1_179 q1_181 qs_0 q1_4 q1_182 hd_X2_touches (Nat.le_of_ble_eq_true rfl) (Nat.le_of_ble_eq_true rfl)) (z_pv (ci := 2) (q := (RX2, TX2, 4)) hK hP rfl rfl) rfl rfl hl.1 rfl (lv_room (Nat.le_of_ble_eq_true rfl)) dX2_parishAt_14 ⟨(Nat.le_of_ble_eq_true rfl), (Nat.le_of_ble_eq_true rfl)⟩) ?_
        refine lv_if_eq (tgt := 22) hx hb dX2_parishAt_17 (by decide) (fun c_17 => ?_) (fun c_17 => ?_)
        · have c_17 : (rTou S (nI k2) x y x y) = false := bI_f c_17
          refine lv_iinc (v := (nI k2) + 1) (lv' := [(3, .int ((nI k2) + 1)), (0, .ref (q 6)), (1, .int (x)), (2, .int (y))]) hx hb dX2_parishAt_22 hl (k := 0) rfl rfl (by decide) rfl (fun ls hl => ?_)
          refine lv_goto (tgt := 2) hx hb dX2_parishAt_25 (by decide) ?_
          have e2_3 : (nI (k2 + 1) : Int32) = (nI k2) + 1 := (nI_1 _).symm
          exact ih2 (k2 + 1) (by omega) (by omega) (he.trans (fnd_no hk_2 c_17)) _ (by rw [e2_3]; exact lv_sub hl [0, 1, 2, 3] rfl)
        · have c_17 : (rTou S (nI k2) x y x y) = true := bI_t c_17
          refine lv_iload_n hx hb dX2_parishAt_20 rfl (lv_at hl 0 rfl) ?_
          exact z_iret hx hb hr rfl hlocks (by exact (he.trans (fnd_yes hk_2 c_17)).symm) dX2_parishAt_21
  have e2_3 : (nI 0 : Int32) = (0 : Int32) := rfl
  exact L2 (40 + 1) (0) (Nat.zero_le _) (by omega) (rfl) _ (by rw [e2_3]; exact lv_sub hl [0, 1, 2, 3] rfl)
set_option maxHeartbeats 800000 in
set_option maxRecDepth 100000 in
theorem c_X2_numberTouching (l : Launch) (D : va_G) (cI cQ : ClassId) (q : Nat → Nat) (S : CS) (x y tx ty : Int32) : zRO l yX2_numberTouching (Cond.code yX2_numberTouching cX2_numberTouching 7 (some .int) :: zT) 2 47 [.ref (q 6), .int x, .int y, .int tx, .int ty] D cI cQ (zPar cI q S) (rNumT S x y tx ty 40) := by
  refine zRO.of (cc := cX2_numberTouching) (maxL := 7) (ret := some .int) (by decide +kernel) rfl (Nat.le_of_ble_eq_true rfl) ?_
  intro pg e s mi args below meth cd hx hb hr hts hown hlocks hml hP hK ls hl
  have hz : ∀ w ∈ zT, w.before args s = true := fun w h => hts w (List.mem_cons_of_mem _ h)
  have hl : lv_has ls 7 [(0, .ref (q 6)), (1, .int (x)), (2, .int (y)), (3, .int (tx)), (4, .int (ty))] := hl
  refine lv_iconst (v := 0) hx hb dX2_numberTouching_0 (by decide) ?_
  refine lv_istore (lv' := [(5, .int (0 : Int32)), (0, .ref (q 6)), (1, .int (x)), (2, .int (y)), (3, .int (tx)), (4, .int (ty))]) hx hb dX2_numberTouching_1 hl (by decide) rfl (fun ls hl => ?_)
  refine lv_iconst (v := 0) hx hb dX2_numberTouching_3 (by decide) ?_
  refine lv_istore (lv' := [(6, .int (0 : Int32)), (5, .int (0 : Int32)), (0, .ref (q 6)), (1, .int (x)), (2, .int (y)), (3, .int (tx)), (4, .int (ty))]) hx hb dX2_numberTouching_4 hl (by decide) rfl (fun ls hl => ?_)
  have L6 : ∀ (n6 k6 : Nat), k6 ≤ 40 → 40 < k6 + n6 → ∀ (ls : Array Slot), lv_has ls 7 [(6, .int (nI k6)), (5, .int (rNumT S x y tx ty k6)), (0, .ref (q 6)), (1, .int (x)), (2, .int (y)), (3, .int (tx)), (4, .int (ty))] → W pg l e ({ frames := 2, cells := 0, slots := 0, locals := 47 }) s mi args below meth cd s.heap [] 0 0 (MQ below (vp_Si (fun r => r = rNumT S x y tx ty 40)) args s 0 0 (fun _ => False)) (F0 mi 6 ls []) := by
    intro n6
    induction n6 with
    | zero => intro k6 h1 h2; exact absurd h2 (by omega)
    | succ n6 ih6 =>
      intro k6 h1_6 h2_6  ls hl
      refine lv_iload hx hb dX2_numberTouching_6 (lv_at hl 0 rfl) ?_
      refine lv_bipush (v := 40) hx hb dX2_numberTouching_8 (by decide) ?_
      refine lv_icmp_ge (tgt := 36) hx hb dX2_numberTouching_10 (by decide) (fun c_10 => ?_) (fun c_10 => ?_)
      · have c_10 : ((40 : Int32) : Int32) ≤ nI k6 := c_10
        have hk_6 : k6 = 40 := z_exit (by decide) h1_6 c_10
        refine lv_iload hx hb dX2_numberTouching_36 (lv_at hl 1 rfl) ?_
        exact z_iret hx hb hr rfl hlocks (by rw [hk_6]) dX2_numberTouching_38
      · have c_10 : ¬ (((40 : Int32) : Int32) ≤ nI k6) := c_10
        have hk_6 : k6 < 40 := z_cont (by decide) h1_6 c_10
        refine lv_aload_n hx hb dX2_numberTouching_13 rfl (lv_at hl 2 rfl) ?_
        refine lv_iload hx hb dX2_numberTouching_14 (lv_at hl 0 rfl) ?_
        refine lv_iload_n hx hb dX2_numberTouching_16 rfl (lv_at hl 3 rfl) ?_
        refine lv_iload_n hx hb dX2_numberTouching_17 rfl (lv_at hl 4 rfl) ?_
        refine lv_iload_n hx hb dX2_numberTouching_18 rfl (lv_at hl 5 rfl) ?_
        refine lv_iload hx hb dX2_numberTouching_19 (lv_at hl 6 rfl) ?_
        refine z_ro (va_runV (As := [.int (nI k6), .int (x), .int (y), .int (tx), .int (ty)]) (rest := []) ⟨hx, hb, hml, hown, hz⟩ (c_X2_touches l D cI cQ q S (nI k6) x y tx ty) (zcwV 5 hz q1_179 q1_181 qs_0 q1_4 q1_182 hd_X2_touches (Nat.le_of_ble_eq_true rfl) (Nat.le_of_ble_eq_true rfl)) (z_pv (ci := 2) (q := (RX2, TX2, 4)) hK hP rfl rfl) rfl rfl hl.1 rfl (lv_room (Nat.le_of_ble_eq_true rfl)) dX2_numberTouching_21 ⟨(Nat.le_of_ble_eq_true rfl), (Nat.le_of_ble_eq_true rfl)⟩) ?_
        refine lv_if_eq (tgt := 30) hx hb dX2_numberTouching_24 (by decide) (fun c_24 => ?_) (fun c_24 => ?_)
        · have c_24 : (rTou S (nI k6) x y tx ty) = false := bI_f c_24
          refine lv_iinc (v := (nI k6) + 1) (lv' := [(6, .int ((nI k6) + 1)), (5, .int (rNumT S x y tx ty k6)), (0, .ref (q 6)), (1, .int (x)), (2, .int (y)), (3, .int (tx)), (4, .int (ty))]) hx hb dX2_numberTouching_30 hl (k := 0) rfl rfl (by decide) rfl (fun ls hl => ?_)
          refine lv_goto (tgt := 6) hx hb dX2_numberTouching_33 (by decide) ?_
          have e6_6 : (nI (k6 + 1) : Int32) = (nI k6) + 1 := (nI_1 _).symm
          have e6_5 : (rNumT S x y tx ty (k6 + 1) : Int32) = rNumT S x y tx ty k6 := (by simp [rNumT, c_10, c_24])
          exact ih6 (k6 + 1) (by omega) (by omega) _ (by rw [e6_6, e6_5]; exact lv_sub hl [0, 1, 2, 3, 4, 5, 6] rfl)
        · have c_24 : (rTou S (nI k6) x y tx ty) = true := bI_t c_24
          refine lv_iinc (v := (rNumT S x y tx ty k6) + 1) (lv' := [(5, .int ((rNumT S x y tx ty k6) + 1)), (6, .int (nI k6)), (0, .ref (q 6)), (1, .int (x)), (2, .int (y)), (3, .int (tx)), (4, .int (ty))]) hx hb dX2_numberTouching_27 hl (k := 1) rfl rfl (by decide) rfl (fun ls hl => ?_)
          refine lv_iinc (v := (nI k6) + 1) (lv' := [(6, .int ((nI k6) + 1)), (5, .int ((rNumT S x y tx ty k6) + 1)), (0, .ref (q 6)), (1, .int (x)), (2, .int (y)), (3, .int (tx)), (4, .int (ty))]) hx hb dX2_numberTouching_30 hl (k := 1) rfl rfl (by decide) rfl (fun ls hl => ?_)
          refine lv_goto (tgt := 6) hx hb dX2_numberTouching_33 (by decide) ?_
          have e6_6 : (nI (k6 + 1) : Int32) = (nI k6) + 1 := (nI_1 _).symm
          have e6_5 : (rNumT S x y tx ty (k6 + 1) : Int32) = (rNumT S x y tx ty k6) + 1 := (by simp [rNumT, c_10, c_24])
          exact ih6 (k6 + 1) (by omega) (by omega) _ (by rw [e6_6, e6_5]; exact lv_sub hl [0, 1, 2, 3, 4, 5, 6] rfl)
  have e6_6 : (nI 0 : Int32) = (0 : Int32) := rfl
  have e6_5 : (rNumT S x y tx ty 0 : Int32) = (0 : Int32) := (by rfl)
  exact L6 (40 + 1) (0) (Nat.zero_le _) (by omega) _ (by rw [e6_6, e6_5]; exact lv_sub hl [0, 1, 2, 3, 4, 5, 6] rfl)
set_option maxHeartbeats 800000 in
set_option maxRecDepth 100000 in
theorem c_X2_number (l : Launch) (D : va_G) (cI cQ : ClassId) (q : Nat → Nat) (S : CS) : zRO l yX2_number (Cond.code yX2_number cX2_number 1 (some .int) :: zT) 3 73 [.ref (q 6)] D cI cQ (zPar cI q S) (rNumT S 0 0 63 63 40) := by
  refine zRO.of (cc := cX2_number) (maxL := 1) (ret := some .int) (by decide +kernel) rfl (Nat.le_of_ble_eq_true rfl) ?_
  intro pg e s mi args below meth cd hx hb hr hts hown hlocks hml hP hK ls hl
  have hz : ∀ w ∈ zT, w.before args s = true := fun w h => hts w (List.mem_cons_of_mem _ h)
  have hl : lv_has ls 1 [(0, .ref (q 6))] := hl
  refine lv_aload_n hx hb dX2_number_0 rfl (lv_at hl 0 rfl) ?_
  refine lv_iconst (v := 0) hx hb dX2_number_1 (by decide) ?_
  refine lv_iconst (v := 0) hx hb dX2_number_2 (by decide) ?_
  refine lv_bipush (v := 63) hx hb dX2_number_3 (by decide) ?_
  refine lv_bipush (v := 63) hx hb dX2_number_5 (by decide) ?_
  refine z_ro (va_runV (As := [.int (0 : Int32), .int (0 : Int32), .int (63 : Int32), .int (63 : Int32)]) (rest := []) ⟨hx, hb, hml, hown, hz⟩ (c_X2_numberTouching l D cI cQ q S (0 : Int32) (0 : Int32) (63 : Int32) (63 : Int32)) (zcwV 4 hz q2_192 q2_193 q2_194 q1_4 q2_195 hd_X2_numberTouching (Nat.le_of_ble_eq_true rfl) (Nat.le_of_ble_eq_true rfl)) (z_pv (ci := 2) (q := (RX2, TX2, 4)) hK hP rfl rfl) rfl rfl hl.1 rfl (lv_room (Nat.le_of_ble_eq_true rfl)) dX2_number_7 ⟨(Nat.le_of_ble_eq_true rfl), (Nat.le_of_ble_eq_true rfl)⟩) ?_
  exact z_iret hx hb hr rfl hlocks (by rfl) dX2_number_10
set_option maxHeartbeats 800000 in
set_option maxRecDepth 100000 in
theorem c_X2_greatestScale (l : Launch) (D : va_G) (cI cQ : ClassId) (q : Nat → Nat) (S : CS) : zRO l yX2_greatestScale (Cond.code yX2_greatestScale cX2_greatestScale 3 (some .int) :: zT) 2 42 [.ref (q 6)] D cI cQ (zPar cI q S) (rGr S 40) := by
  refine zRO.of (cc := cX2_greatestScale) (maxL := 3) (ret := some .int) (by decide +kernel) rfl (Nat.le_of_ble_eq_true rfl) ?_
  intro pg e s mi args below meth cd hx hb hr hts hown hlocks hml hP hK ls hl
  have hz : ∀ w ∈ zT, w.before args s = true := fun w h => hts w (List.mem_cons_of_mem _ h)
  have hl : lv_has ls 3 [(0, .ref (q 6))] := hl
  refine lv_iconst (v := 0) hx hb dX2_greatestScale_0 (by decide) ?_
  refine lv_istore_n (lv' := [(1, .int (0 : Int32)), (0, .ref (q 6))]) hx hb dX2_greatestScale_1 rfl hl (by decide) rfl (fun ls hl => ?_)
  refine lv_iconst (v := 0) hx hb dX2_greatestScale_2 (by decide) ?_
  refine lv_istore_n (lv' := [(2, .int (0 : Int32)), (1, .int (0 : Int32)), (0, .ref (q 6))]) hx hb dX2_greatestScale_3 rfl hl (by decide) rfl (fun ls hl => ?_)
  have L4 : ∀ (n4 k4 : Nat), k4 ≤ 40 → 40 < k4 + n4 → ∀ (ls : Array Slot), lv_has ls 3 [(2, .int (nI k4)), (1, .int (rGr S k4)), (0, .ref (q 6))] → W pg l e ({ frames := 2, cells := 0, slots := 0, locals := 42 }) s mi args below meth cd s.heap [] 0 0 (MQ below (vp_Si (fun r => r = rGr S 40)) args s 0 0 (fun _ => False)) (F0 mi 4 ls []) := by
    intro n4
    induction n4 with
    | zero => intro k4 h1 h2; exact absurd h2 (by omega)
    | succ n4 ih4 =>
      intro k4 h1_4 h2_4  ls hl
      refine lv_iload_n hx hb dX2_greatestScale_4 rfl (lv_at hl 0 rfl) ?_
      refine lv_bipush (v := 40) hx hb dX2_greatestScale_5 (by decide) ?_
      refine lv_icmp_ge (tgt := 26) hx hb dX2_greatestScale_7 (by decide) (fun c_7 => ?_) (fun c_7 => ?_)
      · have c_7 : ((40 : Int32) : Int32) ≤ nI k4 := c_7
        have hk_4 : k4 = 40 := z_exit (by decide) h1_4 c_7
        refine lv_iload_n hx hb dX2_greatestScale_26 rfl (lv_at hl 1 rfl) ?_
        exact z_iret hx hb hr rfl hlocks (by rw [hk_4]) dX2_greatestScale_27
      · have c_7 : ¬ (((40 : Int32) : Int32) ≤ nI k4) := c_7
        have hk_4 : k4 < 40 := z_cont (by decide) h1_4 c_7
        refine lv_iload_n hx hb dX2_greatestScale_10 rfl (lv_at hl 1 rfl) ?_
        refine lv_aload_n hx hb dX2_greatestScale_11 rfl (lv_at hl 2 rfl) ?_
        refine lv_iload_n hx hb dX2_greatestScale_12 rfl (lv_at hl 0 rfl) ?_
        refine z_ro (va_runV (As := [.int (nI k4)]) (rest := [.int (rGr S k4)]) ⟨hx, hb, hml, hown, hz⟩ (c_X2_scaleOf l D cI cQ q S (nI k4)) (zcwV 1 hz q1_229 q1_209 q1_210 q1_4 q1_211 hd_X2_scaleOf (Nat.le_of_ble_eq_true rfl) (Nat.le_of_ble_eq_true rfl)) (z_pv (ci := 2) (q := (RX2, TX2, 4)) hK hP rfl rfl) rfl rfl hl.1 rfl (lv_room (Nat.le_of_ble_eq_true rfl)) dX2_greatestScale_13 ⟨(Nat.le_of_ble_eq_true rfl), (Nat.le_of_ble_eq_true rfl)⟩) ?_
        refine va_mmax hx hb (by rw [hml]; exact hl.1.symm) hown (hz _ q2_214) (hz _ q2_174) (hz _ q1_9) (hz _ q2_175) (Nat.le_of_ble_eq_true rfl) (Nat.le_of_ble_eq_true rfl) (Nat.le_of_ble_eq_true rfl) (Nat.le_of_ble_eq_true rfl) dX2_greatestScale_16 ?_
        refine lv_istore_n (lv' := [(1, .int (if (rGr S k4) < (rSc S (nI k4)) then (rSc S (nI k4)) else (rGr S k4))), (2, .int (nI k4)), (0, .ref (q 6))]) hx hb dX2_greatestScale_19 rfl hl (by decide) rfl (fun ls hl => ?_)
        refine lv_iinc (v := (nI k4) + 1) (lv' := [(2, .int ((nI k4) + 1)), (1, .int (if (rGr S k4) < (rSc S (nI k4)) then (rSc S (nI k4)) else (rGr S k4))), (0, .ref (q 6))]) hx hb dX2_greatestScale_20 hl (k := 1) rfl rfl (by decide) rfl (fun ls hl => ?_)
        refine lv_goto (tgt := 4) hx hb dX2_greatestScale_23 (by decide) ?_
        have e4_2 : (nI (k4 + 1) : Int32) = (nI k4) + 1 := (nI_1 _).symm
        have e4_1 : (rGr S (k4 + 1) : Int32) = if (rGr S k4) < (rSc S (nI k4)) then (rSc S (nI k4)) else (rGr S k4) := (by rfl)
        exact ih4 (k4 + 1) (by omega) (by omega) _ (by rw [e4_2, e4_1]; exact lv_sub hl [0, 1, 2] rfl)
  have e4_2 : (nI 0 : Int32) = (0 : Int32) := rfl
  have e4_1 : (rGr S 0 : Int32) = (0 : Int32) := (by rfl)
  exact L4 (40 + 1) (0) (Nat.zero_le _) (by omega) _ (by rw [e4_2, e4_1]; exact lv_sub hl [0, 1, 2] rfl)
set_option maxHeartbeats 800000 in
set_option maxRecDepth 100000 in
theorem c_X2_everySecondBit (l : Launch) (D : va_G) (cI cQ : ClassId) (pl : Int32) : zRO l yX2_everySecondBit (Cond.code yX2_everySecondBit cX2_everySecondBit 3 (some .int) :: zT) 0 0 [.int pl] D cI cQ ([]) (eB pl 6) := by
  refine zRO.of (cc := cX2_everySecondBit) (maxL := 3) (ret := some .int) (by decide +kernel) rfl (Nat.le_of_ble_eq_true rfl) ?_
  intro pg e s mi args below meth cd hx hb hr hts hown hlocks hml hP hK ls hl
  have hz : ∀ w ∈ zT, w.before args s = true := fun w h => hts w (List.mem_cons_of_mem _ h)
  have hl : lv_has ls 3 [(0, .int (pl))] := hl
  refine lv_iconst (v := 0) hx hb dX2_everySecondBit_0 (by decide) ?_
  refine lv_istore_n (lv' := [(1, .int (0 : Int32)), (0, .int (pl))]) hx hb dX2_everySecondBit_1 rfl hl (by decide) rfl (fun ls hl => ?_)
  refine lv_iconst (v := 0) hx hb dX2_everySecondBit_2 (by decide) ?_
  refine lv_istore_n (lv' := [(2, .int (0 : Int32)), (1, .int (0 : Int32)), (0, .int (pl))]) hx hb dX2_everySecondBit_3 rfl hl (by decide) rfl (fun ls hl => ?_)
  have L4 : ∀ (n4 k4 : Nat), k4 ≤ 6 → 6 < k4 + n4 → ∀ (ls : Array Slot), lv_has ls 3 [(2, .int (nI k4)), (1, .int (eB pl k4)), (0, .int (pl))] → W pg l e ({ frames := 0, cells := 0, slots := 0, locals := 0 }) s mi args below meth cd s.heap [] 0 0 (MQ below (vp_Si (fun r => r = eB pl 6)) args s 0 0 (fun _ => False)) (F0 mi 4 ls []) := by
    intro n4
    induction n4 with
    | zero => intro k4 h1 h2; exact absurd h2 (by omega)
    | succ n4 ih4 =>
      intro k4 h1_4 h2_4  ls hl
      refine lv_iload_n hx hb dX2_everySecondBit_4 rfl (lv_at hl 0 rfl) ?_
      refine lv_bipush (v := 6) hx hb dX2_everySecondBit_5 (by decide) ?_
      refine lv_icmp_ge (tgt := 28) hx hb dX2_everySecondBit_7 (by decide) (fun c_7 => ?_) (fun c_7 => ?_)
      · have c_7 : ((6 : Int32) : Int32) ≤ nI k4 := c_7
        have hk_4 : k4 = 6 := z_exit (by decide) h1_4 c_7
        refine lv_iload_n hx hb dX2_everySecondBit_28 rfl (lv_at hl 1 rfl) ?_
        exact z_iret hx hb hr rfl hlocks (by rw [hk_4]) dX2_everySecondBit_29
      · have c_7 : ¬ (((6 : Int32) : Int32) ≤ nI k4) := c_7
        have hk_4 : k4 < 6 := z_cont (by decide) h1_4 c_7
        refine lv_iload_n hx hb dX2_everySecondBit_10 rfl (lv_at hl 1 rfl) ?_
        refine lv_iload_n hx hb dX2_everySecondBit_11 rfl (lv_at hl 2 rfl) ?_
        refine lv_iconst (v := 2) hx hb dX2_everySecondBit_12 (by decide) ?_
        refine lv_iload_n hx hb dX2_everySecondBit_13 rfl (lv_at hl 0 rfl) ?_
        refine lv_imul hx hb dX2_everySecondBit_14 ?_
        refine lv_ishr hx hb dX2_everySecondBit_15 ?_
        refine lv_iconst (v := 1) hx hb dX2_everySecondBit_16 (by decide) ?_
        refine lv_iand hx hb dX2_everySecondBit_17 ?_
        refine lv_iload_n hx hb dX2_everySecondBit_18 rfl (lv_at hl 0 rfl) ?_
        refine lv_ishl hx hb dX2_everySecondBit_19 ?_
        refine lv_ior hx hb dX2_everySecondBit_20 ?_
        refine lv_istore_n (lv' := [(1, .int ((eB pl k4) ||| (((pl >>> (((2 : Int32) * (nI k4)) &&& 31)) &&& (1 : Int32)) <<< ((nI k4) &&& 31)))), (2, .int (nI k4)), (0, .int (pl))]) hx hb dX2_everySecondBit_21 rfl hl (by decide) rfl (fun ls hl => ?_)
        refine lv_iinc (v := (nI k4) + 1) (lv' := [(2, .int ((nI k4) + 1)), (1, .int ((eB pl k4) ||| (((pl >>> (((2 : Int32) * (nI k4)) &&& 31)) &&& (1 : Int32)) <<< ((nI k4) &&& 31)))), (0, .int (pl))]) hx hb dX2_everySecondBit_22 hl (k := 1) rfl rfl (by decide) rfl (fun ls hl => ?_)
        refine lv_goto (tgt := 4) hx hb dX2_everySecondBit_25 (by decide) ?_
        have e4_2 : (nI (k4 + 1) : Int32) = (nI k4) + 1 := (nI_1 _).symm
        have e4_1 : (eB pl (k4 + 1) : Int32) = (eB pl k4) ||| (((pl >>> (((2 : Int32) * (nI k4)) &&& 31)) &&& (1 : Int32)) <<< ((nI k4) &&& 31)) := (by rfl)
        exact ih4 (k4 + 1) (by omega) (by omega) _ (by rw [e4_2, e4_1]; exact lv_sub hl [0, 1, 2] rfl)
  have e4_2 : (nI 0 : Int32) = (0 : Int32) := rfl
  have e4_1 : (eB pl 0 : Int32) = (0 : Int32) := (by rfl)
  exact L4 (6 + 1) (0) (Nat.zero_le _) (by omega) _ (by rw [e4_2, e4_1]; exact lv_sub hl [0, 1, 2] rfl)
set_option maxHeartbeats 800000 in
set_option maxRecDepth 100000 in
theorem c_X2_withNumberBefore (l : Launch) (D : va_G) (cI cQ : ClassId) (q : Nat → Nat) (S : CS) (nu : Int32) : zRO l yX2_withNumberBefore (Cond.code yX2_withNumberBefore cX2_withNumberBefore 6 (some .int) :: zT) 3 70 [.ref (q 6), .int nu] D cI cQ (zPar cI q S) (wNB S nu) := by
  refine zRO.of (cc := cX2_withNumberBefore) (maxL := 6) (ret := some .int) (by decide +kernel) rfl (Nat.le_of_ble_eq_true rfl) ?_
  intro pg e s mi args below meth cd hx hb hr hts hown hlocks hml hP hK ls hl
  have hz : ∀ w ∈ zT, w.before args s = true := fun w h => hts w (List.mem_cons_of_mem _ h)
  have hl : lv_has ls 6 [(0, .ref (q 6)), (1, .int (nu))] := hl
  refine lv_iconst (v := 0) hx hb dX2_withNumberBefore_0 (by decide) ?_
  refine lv_istore_n (lv' := [(2, .int (0 : Int32)), (0, .ref (q 6)), (1, .int (nu))]) hx hb dX2_withNumberBefore_1 rfl hl (by decide) rfl (fun ls hl => ?_)
  refine lv_iconst (v := 0) hx hb dX2_withNumberBefore_2 (by decide) ?_
  refine lv_istore_n (lv' := [(3, .int (0 : Int32)), (2, .int (0 : Int32)), (0, .ref (q 6)), (1, .int (nu))]) hx hb dX2_withNumberBefore_3 rfl hl (by decide) rfl (fun ls hl => ?_)
  have L4 : ∀ (n4 k4 : Nat), k4 ≤ 40 → 40 < k4 + n4 → (wNB S nu = wGo S nu (40 - k4) k4) → ∀ (ls : Array Slot), lv_has ls 6 [(3, .int (nI k4)), (2, .int (wPl S k4)), (0, .ref (q 6)), (1, .int (nu))] → W pg l e ({ frames := 3, cells := 0, slots := 0, locals := 70 }) s mi args below meth cd s.heap [] 0 0 (MQ below (vp_Si (fun r => r = wNB S nu)) args s 0 0 (fun _ => False)) (F0 mi 4 ls []) := by
    intro n4
    induction n4 with
    | zero => intro k4 h1 h2; exact absurd h2 (by omega)
    | succ n4 ih4 =>
      intro k4 h1_4 h2_4 he ls hl
      refine lv_iload_n hx hb dX2_withNumberBefore_4 rfl (lv_at hl 0 rfl) ?_
      refine lv_bipush (v := 40) hx hb dX2_withNumberBefore_5 (by decide) ?_
      refine lv_icmp_ge (tgt := 66) hx hb dX2_withNumberBefore_7 (by decide) (fun c_7 => ?_) (fun c_7 => ?_)
      · have c_7 : ((40 : Int32) : Int32) ≤ nI k4 := c_7
        have hk_4 : k4 = 40 := z_exit (by decide) h1_4 c_7
        refine lv_bipush (v := (-9)) hx hb dX2_withNumberBefore_66 (by decide) ?_
        exact z_iret hx hb hr rfl hlocks (by first | (rw [he, hk_4]; rfl) | exact (he.trans (wGo_out hk_4 c_14)).symm) dX2_withNumberBefore_68
      · have c_7 : ¬ (((40 : Int32) : Int32) ≤ nI k4) := c_7
        have hk_4 : k4 < 40 := z_cont (by decide) h1_4 c_7
        refine lv_iload_n hx hb dX2_withNumberBefore_10 rfl (lv_at hl 1 rfl) ?_
        refine lv_sipush (v := 4096) hx hb dX2_withNumberBefore_11 (by decide) ?_
        refine lv_icmp_ge (tgt := 66) hx hb dX2_withNumberBefore_14 (by decide) (fun c_14 => ?_) (fun c_14 => ?_)
        · have c_14 : ((4096 : Int32) : Int32) ≤ wPl S k4 := c_14
          refine lv_bipush (v := (-9)) hx hb dX2_withNumberBefore_66 (by decide) ?_
          exact z_iret hx hb hr rfl hlocks (by first | (rw [he, hk_4]; rfl) | exact (he.trans (wGo_out hk_4 c_14)).symm) dX2_withNumberBefore_68
        · have c_14 : ¬ (((4096 : Int32) : Int32) ≤ wPl S k4) := c_14
          refine lv_aload_n hx hb dX2_withNumberBefore_17 rfl (lv_at hl 2 rfl) ?_
          refine lv_iload_n hx hb dX2_withNumberBefore_18 rfl (lv_at hl 1 rfl) ?_
          refine z_ro (va_runS (As := [.int (wPl S k4)]) (rest := [.ref (q 6)]) ⟨hx, hb, hml, hown, hz⟩ (c_X2_everySecondBit l D cI cQ (wPl S k4)) (zcwS 1 hz q3_52 q3_53 q1_4 q3_54 hd_X2_everySecondBit (Nat.le_of_ble_eq_true rfl) (Nat.le_of_ble_eq_true rfl)) (z_ps hK z_nil) rfl rfl hl.1 rfl (lv_room (Nat.le_of_ble_eq_true rfl)) dX2_withNumberBefore_19 ⟨(Nat.le_of_ble_eq_true rfl), (Nat.le_of_ble_eq_true rfl)⟩) ?_
          refine lv_iload_n hx hb dX2_withNumberBefore_22 rfl (lv_at hl 1 rfl) ?_
          refine lv_iconst (v := 1) hx hb dX2_withNumberBefore_23 (by decide) ?_
          refine lv_ishr hx hb dX2_withNumberBefore_24 ?_
          refine z_ro (va_runS (As := [.int ((wPl S k4) >>> ((1 : Int32) &&& 31))]) (rest := [.int (eB (wPl S k4) 6), .ref (q 6)]) ⟨hx, hb, hml, hown, hz⟩ (c_X2_everySecondBit l D cI cQ ((wPl S k4) >>> ((1 : Int32) &&& 31))) (zcwS 1 hz q3_52 q3_53 q1_4 q3_54 hd_X2_everySecondBit (Nat.le_of_ble_eq_true rfl) (Nat.le_of_ble_eq_true rfl)) (z_ps hK z_nil) rfl rfl hl.1 rfl (lv_room (Nat.le_of_ble_eq_true rfl)) dX2_withNumberBefore_25 ⟨(Nat.le_of_ble_eq_true rfl), (Nat.le_of_ble_eq_true rfl)⟩) ?_
          refine z_ro (va_runV (As := [.int (eB (wPl S k4) 6), .int (eB ((wPl S k4) >>> ((1 : Int32) &&& 31)) 6)]) (rest := []) ⟨hx, hb, hml, hown, hz⟩ (c_X2_parishAt l D cI cQ q S (eB (wPl S k4) 6) (eB ((wPl S k4) >>> ((1 : Int32) &&& 31)) 6)) (zcwV 2 hz q3_55 q1_176 q1_177 q1_4 q1_178 hd_X2_parishAt (Nat.le_of_ble_eq_true rfl) (Nat.le_of_ble_eq_true rfl)) (z_pv (ci := 2) (q := (RX2, TX2, 4)) hK hP rfl rfl) rfl rfl hl.1 rfl (lv_room (Nat.le_of_ble_eq_true rfl)) dX2_withNumberBefore_28 ⟨(Nat.le_of_ble_eq_true rfl), (Nat.le_of_ble_eq_true rfl)⟩) ?_
          refine lv_istore (lv' := [(4, .int (wPar S (wPl S k4))), (3, .int (nI k4)), (2, .int (wPl S k4)), (0, .ref (q 6)), (1, .int (nu))]) hx hb dX2_withNumberBefore_31 hl (by decide) rfl (fun ls hl => ?_)
          refine lv_iload_n hx hb dX2_withNumberBefore_33 rfl (lv_at hl 1 rfl) ?_
          refine lv_iload_n hx hb dX2_withNumberBefore_34 rfl (lv_at hl 4 rfl) ?_
          refine lv_icmp_ne (tgt := 41) hx hb dX2_withNumberBefore_35 (by decide) (fun c_35 => ?_) (fun c_35 => ?_)
          · have c_35 : ¬ ((nI k4 : Int32) = nu) := c_35
            refine lv_aload_n hx hb dX2_withNumberBefore_41 rfl (lv_at hl 3 rfl) ?_
            refine lv_iload hx hb dX2_withNumberBefore_42 (lv_at hl 0 rfl) ?_
            refine z_ro (va_runV (As := [.int (wPar S (wPl S k4))]) (rest := []) ⟨hx, hb, hml, hown, hz⟩ (c_X2_scaleOf l D cI cQ q S (wPar S (wPl S k4))) (zcwV 1 hz q1_229 q1_209 q1_210 q1_4 q1_211 hd_X2_scaleOf (Nat.le_of_ble_eq_true rfl) (Nat.le_of_ble_eq_true rfl)) (z_pv (ci := 2) (q := (RX2, TX2, 4)) hK hP rfl rfl) rfl rfl hl.1 rfl (lv_room (Nat.le_of_ble_eq_true rfl)) dX2_withNumberBefore_44 ⟨(Nat.le_of_ble_eq_true rfl), (Nat.le_of_ble_eq_true rfl)⟩) ?_
            refine z_ro (va_runSN (As := [.int (rSc S (wPar S (wPl S k4)))]) (rest := []) ⟨hx, hb, hml, hown, hz⟩ (c_X5_sideOf l D cI cQ (rSc S (wPar S (wPl S k4)))) (zcnS 1 hz q1_188 q1_1 q1_189 (hK.2.2.2.2.2.2.1) hd_X5_sideOf (Nat.le_of_ble_eq_true rfl) (Nat.le_of_ble_eq_true rfl)) (z_ps hK z_nil) rfl rfl hl.1 rfl (lv_room (Nat.le_of_ble_eq_true rfl)) dX2_withNumberBefore_47 ⟨(Nat.le_of_ble_eq_true rfl), (Nat.le_of_ble_eq_true rfl)⟩) ?_
            refine lv_istore (lv' := [(5, .int (sideF (rSc S (wPar S (wPl S k4))))), (4, .int (wPar S (wPl S k4))), (3, .int (nI k4)), (2, .int (wPl S k4)), (0, .ref (q 6)), (1, .int (nu))]) hx hb dX2_withNumberBefore_50 hl (by decide) rfl (fun ls hl => ?_)
            refine lv_iload_n hx hb dX2_withNumberBefore_52 rfl (lv_at hl 3 rfl) ?_
            refine lv_iload hx hb dX2_withNumberBefore_53 (lv_at hl 0 rfl) ?_
            refine lv_iload hx hb dX2_withNumberBefore_55 (lv_at hl 0 rfl) ?_
            refine lv_imul hx hb dX2_withNumberBefore_57 ?_
            refine lv_iadd hx hb dX2_withNumberBefore_58 ?_
            refine lv_istore_n (lv' := [(2, .int ((wPl S k4) + ((sideF (rSc S (wPar S (wPl S k4)))) * (sideF (rSc S (wPar S (wPl S k4))))))), (5, .int (sideF (rSc S (wPar S (wPl S k4))))), (4, .int (wPar S (wPl S k4))), (3, .int (nI k4)), (0, .ref (q 6)), (1, .int (nu))]) hx hb dX2_withNumberBefore_59 rfl hl (by decide) rfl (fun ls hl => ?_)
            refine lv_iinc (v := (nI k4) + 1) (lv' := [(3, .int ((nI k4) + 1)), (2, .int ((wPl S k4) + ((sideF (rSc S (wPar S (wPl S k4)))) * (sideF (rSc S (wPar S (wPl S k4))))))), (5, .int (sideF (rSc S (wPar S (wPl S k4))))), (4, .int (wPar S (wPl S k4))), (0, .ref (q 6)), (1, .int (nu))]) hx hb dX2_withNumberBefore_60 hl (k := 3) rfl rfl (by decide) rfl (fun ls hl => ?_)
            refine lv_goto (tgt := 4) hx hb dX2_withNumberBefore_63 (by decide) ?_
            have e4_3 : (nI (k4 + 1) : Int32) = (nI k4) + 1 := (nI_1 _).symm
            have e4_2 : (wPl S (k4 + 1) : Int32) = (wPl S k4) + ((sideF (rSc S (wPar S (wPl S k4)))) * (sideF (rSc S (wPar S (wPl S k4))))) := (by rfl)
            exact ih4 (k4 + 1) (by omega) (by omega) (he.trans (wGo_on hk_4 c_14 c_35)) _ (by rw [e4_3, e4_2]; exact lv_sub hl [0, 1, 4, 5] rfl)
          · have c_35 : (nI k4 : Int32) = nu := c_35
            refine lv_iload hx hb dX2_withNumberBefore_38 (lv_at hl 0 rfl) ?_
            exact z_iret hx hb hr rfl hlocks (by exact (he.trans (wGo_hit hk_4 c_14 c_35)).symm) dX2_withNumberBefore_40
  have e4_3 : (nI 0 : Int32) = (0 : Int32) := rfl
  have e4_2 : (wPl S 0 : Int32) = (0 : Int32) := (by rfl)
  exact L4 (40 + 1) (0) (Nat.zero_le _) (by omega) (rfl) _ (by rw [e4_3, e4_2]; exact lv_sub hl [0, 1, 2, 3] rfl)
set_option maxHeartbeats 800000 in
set_option maxRecDepth 100000 in
theorem c_X0_areParishes (l : Launch) (D : va_G) (cI cQ : ClassId) (a b : Int32) : zRO l yX0_areParishes (Cond.code yX0_areParishes cX0_areParishes 2 (some .boolean) :: zT) 0 0 [.int a, .int b] D cI cQ ([]) (bI (dOk a b)) := by
  refine zRO.of (cc := cX0_areParishes) (maxL := 2) (ret := some .boolean) (by decide +kernel) rfl (Nat.le_of_ble_eq_true rfl) ?_
  intro pg e s mi args below meth cd hx hb hr hts hown hlocks hml hP hK ls hl
  have hz : ∀ w ∈ zT, w.before args s = true := fun w h => hts w (List.mem_cons_of_mem _ h)
  have hl : lv_has ls 2 [(0, .int (a)), (1, .int (b))] := hl
  refine lv_iload_n hx hb dX0_areParishes_0 rfl (lv_at hl 0 rfl) ?_
  refine lv_if_lt (tgt := 24) hx hb dX0_areParishes_1 (by decide) (fun c_1 => ?_) (fun c_1 => ?_)
  · have c_1 : (a : Int32) < 0 := c_1
    refine lv_iconst (v := 0) hx hb dX0_areParishes_24 (by decide) ?_
    exact z_iret hx hb hr rfl hlocks (by simp [dOk, bI, c_1]) dX0_areParishes_25
  · have c_1 : ¬ ((a : Int32) < 0) := c_1
    refine lv_iload_n hx hb dX0_areParishes_4 rfl (lv_at hl 0 rfl) ?_
    refine lv_bipush (v := 40) hx hb dX0_areParishes_5 (by decide) ?_
    refine lv_icmp_ge (tgt := 24) hx hb dX0_areParishes_7 (by decide) (fun c_7 => ?_) (fun c_7 => ?_)
    · have c_7 : ((40 : Int32) : Int32) ≤ a := c_7
      refine lv_iconst (v := 0) hx hb dX0_areParishes_24 (by decide) ?_
      exact z_iret hx hb hr rfl hlocks (by simp [dOk, bI, c_1, c_7]) dX0_areParishes_25
    · have c_7 : ¬ (((40 : Int32) : Int32) ≤ a) := c_7
      refine lv_iload_n hx hb dX0_areParishes_10 rfl (lv_at hl 1 rfl) ?_
      refine lv_if_lt (tgt := 24) hx hb dX0_areParishes_11 (by decide) (fun c_11 => ?_) (fun c_11 => ?_)
      · have c_11 : (b : Int32) < 0 := c_11
        refine lv_iconst (v := 0) hx hb dX0_areParishes_24 (by decide) ?_
        exact z_iret hx hb hr rfl hlocks (by simp [dOk, bI, c_1, c_7, c_11]) dX0_areParishes_25
      · have c_11 : ¬ ((b : Int32) < 0) := c_11
        refine lv_iload_n hx hb dX0_areParishes_14 rfl (lv_at hl 1 rfl) ?_
        refine lv_bipush (v := 40) hx hb dX0_areParishes_15 (by decide) ?_
        refine lv_icmp_ge (tgt := 24) hx hb dX0_areParishes_17 (by decide) (fun c_17 => ?_) (fun c_17 => ?_)
        · have c_17 : ((40 : Int32) : Int32) ≤ b := c_17
          refine lv_iconst (v := 0) hx hb dX0_areParishes_24 (by decide) ?_
          exact z_iret hx hb hr rfl hlocks (by simp [dOk, bI, c_1, c_7, c_11, c_17]) dX0_areParishes_25
        · have c_17 : ¬ (((40 : Int32) : Int32) ≤ b) := c_17
          refine lv_iconst (v := 1) hx hb dX0_areParishes_20 (by decide) ?_
          refine lv_goto (tgt := 25) hx hb dX0_areParishes_21 (by decide) ?_
          exact z_iret hx hb hr rfl hlocks (by simp [dOk, bI, c_1, c_7, c_11, c_17]) dX0_areParishes_25
set_option maxHeartbeats 800000 in
set_option maxRecDepth 100000 in
theorem c_X0_owed (l : Launch) (D : va_G) (cI cQ : ClassId) (q : Nat → Nat) (S : CS) (a b : Int32) : zRO l yX0_owed (Cond.code yX0_owed cX0_owed 3 (some .int) :: zT) 1 21 [.ref (q 10), .int a, .int b] D cI cQ (zDeb cI q S) (dOwF (sD S) a b) := by
  refine zRO.of (cc := cX0_owed) (maxL := 3) (ret := some .int) (by decide +kernel) rfl (Nat.le_of_ble_eq_true rfl) ?_
  intro pg e s mi args below meth cd hx hb hr hts hown hlocks hml hP hK ls hl
  have hz : ∀ w ∈ zT, w.before args s = true := fun w h => hts w (List.mem_cons_of_mem _ h)
  have hl : lv_has ls 3 [(0, .ref (q 10)), (1, .int (a)), (2, .int (b))] := hl
  refine lv_iload_n hx hb dX0_owed_0 rfl (lv_at hl 1 rfl) ?_
  refine lv_iload_n hx hb dX0_owed_1 rfl (lv_at hl 2 rfl) ?_
  refine z_ro (va_runS (As := [.int (a), .int (b)]) (rest := []) ⟨hx, hb, hml, hown, hz⟩ (c_X0_areParishes l D cI cQ a b) (zcwS 2 hz q2_35 q2_36 q1_5 q2_37 hd_X0_areParishes (Nat.le_of_ble_eq_true rfl) (Nat.le_of_ble_eq_true rfl)) (z_ps hK z_nil) rfl rfl hl.1 rfl (lv_room (Nat.le_of_ble_eq_true rfl)) dX0_owed_2 ⟨(Nat.le_of_ble_eq_true rfl), (Nat.le_of_ble_eq_true rfl)⟩) ?_
  refine lv_if_eq (tgt := 22) hx hb dX0_owed_5 (by decide) (fun c_5 => ?_) (fun c_5 => ?_)
  · have c_5 : (dOk a b) = false := bI_f c_5
    refine lv_iconst (v := 0) hx hb dX0_owed_22 (by decide) ?_
    exact z_iret hx hb hr rfl hlocks (by simp [dOwF, c_5]) dX0_owed_23
  · have c_5 : (dOk a b) = true := bI_t c_5
    refine lv_aload_n hx hb dX0_owed_8 rfl (lv_at hl 0 rfl) ?_
    refine va_get (D := D) (ci := 0) (v := .ref (q 11)) (C := RX0) (T := TX0) (N := 1) hx hb hz inZ0 hown hK.1 hP 0 rfl rfl 0 (by decide) (hz _ q1_83) (fun _ h9 => h9) rfl dX0_owed_9 ?_
    refine lv_iload_n hx hb dX0_owed_12 rfl (lv_at hl 1 rfl) ?_
    refine lv_bipush (v := 40) hx hb dX0_owed_13 (by decide) ?_
    refine lv_imul hx hb dX0_owed_15 ?_
    refine lv_iload_n hx hb dX0_owed_16 rfl (lv_at hl 2 rfl) ?_
    refine lv_iadd hx hb dX0_owed_17 ?_
    refine va_iald (f := sD S) hx hb hK.1 hP 1 0 rfl rfl (i := (a * (40 : Int32)) + b) (dOk_in c_5) dX0_owed_18 ?_
    refine lv_goto (tgt := 23) hx hb dX0_owed_19 (by decide) ?_
    exact z_iret hx hb hr rfl hlocks (by simp [dOwF, c_5]) dX0_owed_23
set_option maxHeartbeats 800000 in
set_option maxRecDepth 100000 in
theorem c_X0_change (l : Launch) (D : va_G) (cI cQ : ClassId) (q : Nat → Nat) (S : CS) (a b v : Int32) (g1 : FI) (hg1 : g1 = dCh (sD S) a b v) : zWR l yX0_change (Cond.code yX0_change cX0_change 4 (none) :: zT) 1 21 [.ref (q 10), .int a, .int b, .int v] D cI cQ (zDeb cI q S) none (zDeb cI q (uD S g1)) := by
  refine zWR.of (cc := cX0_change) (maxL := 4) (ret := none) (by decide +kernel) rfl (Nat.le_of_ble_eq_true rfl) ?_
  intro pg e s mi args below meth cd hx hb hr hts hown hlocks hml hP hD hS hK ls hl
  have hz : ∀ w ∈ zT, w.before args s = true := fun w h => hts w (List.mem_cons_of_mem _ h)
  have hl : lv_has ls 4 [(0, .ref (q 10)), (1, .int (a)), (2, .int (b)), (3, .int (v))] := hl
  refine lv_iload_n hx hb dX0_change_0 rfl (lv_at hl 1 rfl) ?_
  refine lv_iload_n hx hb dX0_change_1 rfl (lv_at hl 2 rfl) ?_
  refine z_ro (va_runS (As := [.int (a), .int (b)]) (rest := []) ⟨hx, hb, hml, hown, hz⟩ (c_X0_areParishes l D cI cQ a b) (zcwS 2 hz q2_35 q2_36 q1_5 q2_37 hd_X0_areParishes (Nat.le_of_ble_eq_true rfl) (Nat.le_of_ble_eq_true rfl)) (z_ps hK z_nil) rfl rfl hl.1 rfl (lv_room (Nat.le_of_ble_eq_true rfl)) dX0_change_2 ⟨(Nat.le_of_ble_eq_true rfl), (Nat.le_of_ble_eq_true rfl)⟩) ?_
  refine lv_if_eq (tgt := 23) hx hb dX0_change_5 (by decide) (fun c_5 => ?_) (fun c_5 => ?_)
  · have c_5 : (dOk a b) = false := bI_f c_5
    exact z_wvret hx hb hr hlocks hP hS (congrArg (fun T => zDeb cI q T) (show S = uD S g1 from by subst hg1; simp [dCh, c_5, uD_self])) dX0_change_23
  · have c_5 : (dOk a b) = true := bI_t c_5
    refine lv_aload_n hx hb dX0_change_8 rfl (lv_at hl 0 rfl) ?_
    refine va_get (D := D) (ci := 0) (v := .ref (q 11)) (C := RX0) (T := TX0) (N := 1) hx hb hz inZ0 hown hK.1 hP 0 rfl rfl 0 (by decide) (hz _ q1_83) (fun _ h9 => h9) rfl dX0_change_9 ?_
    refine lv_iload_n hx hb dX0_change_12 rfl (lv_at hl 1 rfl) ?_
    refine lv_bipush (v := 40) hx hb dX0_change_13 (by decide) ?_
    refine lv_imul hx hb dX0_change_15 ?_
    refine lv_iload_n hx hb dX0_change_16 rfl (lv_at hl 2 rfl) ?_
    refine lv_iadd hx hb dX0_change_17 ?_
    refine lv_dup2_11 hx hb dX0_change_18 rfl rfl ?_
    refine va_iald (f := sD S) hx hb hK.1 hP 1 0 rfl rfl (i := (a * (40 : Int32)) + b) (dOk_in c_5) dX0_change_19 ?_
    refine lv_iload_n hx hb dX0_change_20 rfl (lv_at hl 3 rfl) ?_
    refine lv_iadd hx hb dX0_change_21 ?_
    refine va_iast hx hb hK.1 hP hD hS 1 0 rfl rfl (i := (a * (40 : Int32)) + b) (dOk_in c_5) dX0_change_22 (fun H locs hP hD hS => ?_)
    have hP : va_P D vwCl (zDeb cI q (uD S (upd (sD S) ((a * (40 : Int32)) + b).toNatClampNeg (((sD S) ((a * (40 : Int32)) + b).toNatClampNeg) + v)))) H := hP
    have hD : va_D (zA (zDeb cI q S)) (zDeb cI q (uD S (upd (sD S) ((a * (40 : Int32)) + b).toNatClampNeg (((sD S) ((a * (40 : Int32)) + b).toNatClampNeg) + v)))) := hD
    exact z_wvret hx hb hr hlocks hP hS (congrArg (fun T => zDeb cI q T) (show uD S (upd (sD S) ((a * (40 : Int32)) + b).toNatClampNeg (((sD S) ((a * (40 : Int32)) + b).toNatClampNeg) + v)) = uD S g1 from by subst hg1; simp [dCh, c_5, uD_self])) dX0_change_23
set_option maxHeartbeats 800000 in
set_option maxRecDepth 100000 in
theorem c_X0_shift (l : Launch) (D : va_G) (cI cQ : ClassId) (q : Nat → Nat) (S : CS) (a b na nb : Int32) (g1 : FI) (hg1 : g1 = dSh (sD S) a b na nb) : zWR l yX0_shift (Cond.code yX0_shift cX0_shift 6 (none) :: zT) 2 44 [.ref (q 10), .int a, .int b, .int na, .int nb] D cI cQ (zDeb cI q S) none (zDeb cI q (uD S g1)) := by
  refine zWR.of (cc := cX0_shift) (maxL := 6) (ret := none) (by decide +kernel) rfl (Nat.le_of_ble_eq_true rfl) ?_
  intro pg e s mi args below meth cd hx hb hr hts hown hlocks hml hP hD hS hK ls hl
  have hz : ∀ w ∈ zT, w.before args s = true := fun w h => hts w (List.mem_cons_of_mem _ h)
  have hl : lv_has ls 6 [(0, .ref (q 10)), (1, .int (a)), (2, .int (b)), (3, .int (na)), (4, .int (nb))] := hl
  refine lv_aload_n hx hb dX0_shift_0 rfl (lv_at hl 0 rfl) ?_
  refine lv_iload_n hx hb dX0_shift_1 rfl (lv_at hl 1 rfl) ?_
  refine lv_iload_n hx hb dX0_shift_2 rfl (lv_at hl 2 rfl) ?_
  refine z_ro (va_runV (As := [.int (a), .int (b)]) (rest := []) ⟨hx, hb, hml, hown, hz⟩ (c_X0_owed l D cI cQ q S a b) (zcwV 2 hz q2_110 q2_111 q2_112 q1_5 q2_113 hd_X0_owed (Nat.le_of_ble_eq_true rfl) (Nat.le_of_ble_eq_true rfl)) (z_pv (ci := 0) (q := (RX0, TX0, 1)) hK hP rfl rfl) rfl rfl hl.1 rfl (lv_room (Nat.le_of_ble_eq_true rfl)) dX0_shift_3 ⟨(Nat.le_of_ble_eq_true rfl), (Nat.le_of_ble_eq_true rfl)⟩) ?_
  refine lv_istore (lv' := [(5, .int (dOwF ((sD S)) a b)), (0, .ref (q 10)), (1, .int (a)), (2, .int (b)), (3, .int (na)), (4, .int (nb))]) hx hb dX0_shift_6 hl (by decide) rfl (fun ls hl => ?_)
  refine lv_aload_n hx hb dX0_shift_8 rfl (lv_at hl 1 rfl) ?_
  refine lv_iload_n hx hb dX0_shift_9 rfl (lv_at hl 2 rfl) ?_
  refine lv_iload_n hx hb dX0_shift_10 rfl (lv_at hl 3 rfl) ?_
  refine lv_iload hx hb dX0_shift_11 (lv_at hl 0 rfl) ?_
  refine lv_ineg hx hb dX0_shift_13 ?_
  obtain ⟨g_1, hg_1⟩ : ∃ z : FI, z = dCh ((sD S)) a b (-(dOwF ((sD S)) a b)) := ⟨_, rfl⟩
  refine z_wv (X' := zDeb cI q (uD S g_1)) (va_runV (As := [.int (a), .int (b), .int (-(dOwF ((sD S)) a b))]) (rest := []) ⟨hx, hb, hml, hown, hz⟩ (c_X0_change l D cI cQ q S a b (-(dOwF ((sD S)) a b)) g_1 hg_1) (zcwV 3 hz q2_156 q2_32 q2_33 q1_5 q2_34 hd_X0_change (Nat.le_of_ble_eq_true rfl) (Nat.le_of_ble_eq_true rfl)) (z_pvw (ci := 0) (q := (RX0, TX0, 1)) hK hP hD rfl rfl) rfl rfl hl.1 rfl (lv_room (Nat.le_of_ble_eq_true rfl)) dX0_shift_14 ⟨(Nat.le_of_ble_eq_true rfl), (Nat.le_of_ble_eq_true rfl)⟩) hP hD hS [0, 1] rfl rfl rfl (fun H locs hP hD hS => ?_)
  refine lv_aload_n hx hb dX0_shift_17 rfl (lv_at hl 1 rfl) ?_
  refine lv_iload_n hx hb dX0_shift_18 rfl (lv_at hl 4 rfl) ?_
  refine lv_iload hx hb dX0_shift_19 (lv_at hl 5 rfl) ?_
  refine lv_iload hx hb dX0_shift_21 (lv_at hl 0 rfl) ?_
  obtain ⟨g_2, hg_2⟩ : ∃ z : FI, z = dCh (g_1) na nb (dOwF ((sD S)) a b) := ⟨_, rfl⟩
  refine z_wv (X' := zDeb cI q (uD S g_2)) (va_runV (As := [.int (na), .int (nb), .int (dOwF ((sD S)) a b)]) (rest := []) ⟨hx, hb, hml, hown, hz⟩ (c_X0_change l D cI cQ q (uD S g_1) na nb (dOwF ((sD S)) a b) g_2 hg_2) (zcwV 3 hz q2_156 q2_32 q2_33 q1_5 q2_34 hd_X0_change (Nat.le_of_ble_eq_true rfl) (Nat.le_of_ble_eq_true rfl)) (z_pvw (ci := 0) (q := (RX0, TX0, 1)) hK hP hD rfl rfl) rfl rfl hl.1 rfl (lv_room (Nat.le_of_ble_eq_true rfl)) dX0_shift_23 ⟨(Nat.le_of_ble_eq_true rfl), (Nat.le_of_ble_eq_true rfl)⟩) hP hD hS [0, 1] rfl rfl rfl (fun H locs hP hD hS => ?_)
  exact z_wvret hx hb hr hlocks hP hS (congrArg (fun T => zDeb cI q T) (show uD S g_2 = uD S g1 from by subst hg_2; subst hg_1; subst hg1; rfl)) dX0_shift_26
set_option maxHeartbeats 800000 in
set_option maxRecDepth 100000 in
theorem c_X0_owedBy (l : Launch) (D : va_G) (cI cQ : ClassId) (q : Nat → Nat) (S : CS) (a : Int32) : zRO l yX0_owedBy (Cond.code yX0_owedBy cX0_owedBy 4 (some .int) :: zT) 2 43 [.ref (q 10), .int a] D cI cQ (zDeb cI q S) (dBy (sD S) a 40) := by
  refine zRO.of (cc := cX0_owedBy) (maxL := 4) (ret := some .int) (by decide +kernel) rfl (Nat.le_of_ble_eq_true rfl) ?_
  intro pg e s mi args below meth cd hx hb hr hts hown hlocks hml hP hK ls hl
  have hz : ∀ w ∈ zT, w.before args s = true := fun w h => hts w (List.mem_cons_of_mem _ h)
  have hl : lv_has ls 4 [(0, .ref (q 10)), (1, .int (a))] := hl
  refine lv_iconst (v := 0) hx hb dX0_owedBy_0 (by decide) ?_
  refine lv_istore_n (lv' := [(2, .int (0 : Int32)), (0, .ref (q 10)), (1, .int (a))]) hx hb dX0_owedBy_1 rfl hl (by decide) rfl (fun ls hl => ?_)
  refine lv_iconst (v := 0) hx hb dX0_owedBy_2 (by decide) ?_
  refine lv_istore_n (lv' := [(3, .int (0 : Int32)), (2, .int (0 : Int32)), (0, .ref (q 10)), (1, .int (a))]) hx hb dX0_owedBy_3 rfl hl (by decide) rfl (fun ls hl => ?_)
  have L4 : ∀ (n4 k4 : Nat), k4 ≤ 40 → 40 < k4 + n4 → ∀ (ls : Array Slot), lv_has ls 4 [(3, .int (nI k4)), (2, .int (dBy (sD S) a k4)), (0, .ref (q 10)), (1, .int (a))] → W pg l e ({ frames := 2, cells := 0, slots := 0, locals := 43 }) s mi args below meth cd s.heap [] 0 0 (MQ below (vp_Si (fun r => r = dBy (sD S) a 40)) args s 0 0 (fun _ => False)) (F0 mi 4 ls []) := by
    intro n4
    induction n4 with
    | zero => intro k4 h1 h2; exact absurd h2 (by omega)
    | succ n4 ih4 =>
      intro k4 h1_4 h2_4  ls hl
      refine lv_iload_n hx hb dX0_owedBy_4 rfl (lv_at hl 0 rfl) ?_
      refine lv_bipush (v := 40) hx hb dX0_owedBy_5 (by decide) ?_
      refine lv_icmp_ge (tgt := 25) hx hb dX0_owedBy_7 (by decide) (fun c_7 => ?_) (fun c_7 => ?_)
      · have c_7 : ((40 : Int32) : Int32) ≤ nI k4 := c_7
        have hk_4 : k4 = 40 := z_exit (by decide) h1_4 c_7
        refine lv_iload_n hx hb dX0_owedBy_25 rfl (lv_at hl 1 rfl) ?_
        exact z_iret hx hb hr rfl hlocks (by rw [hk_4]) dX0_owedBy_26
      · have c_7 : ¬ (((40 : Int32) : Int32) ≤ nI k4) := c_7
        have hk_4 : k4 < 40 := z_cont (by decide) h1_4 c_7
        refine lv_iload_n hx hb dX0_owedBy_10 rfl (lv_at hl 1 rfl) ?_
        refine lv_aload_n hx hb dX0_owedBy_11 rfl (lv_at hl 2 rfl) ?_
        refine lv_iload_n hx hb dX0_owedBy_12 rfl (lv_at hl 3 rfl) ?_
        refine lv_iload_n hx hb dX0_owedBy_13 rfl (lv_at hl 0 rfl) ?_
        refine z_ro (va_runV (As := [.int (a), .int (nI k4)]) (rest := [.int (dBy (sD S) a k4)]) ⟨hx, hb, hml, hown, hz⟩ (c_X0_owed l D cI cQ q S a (nI k4)) (zcwV 2 hz q2_110 q2_111 q2_112 q1_5 q2_113 hd_X0_owed (Nat.le_of_ble_eq_true rfl) (Nat.le_of_ble_eq_true rfl)) (z_pv (ci := 0) (q := (RX0, TX0, 1)) hK hP rfl rfl) rfl rfl hl.1 rfl (lv_room (Nat.le_of_ble_eq_true rfl)) dX0_owedBy_14 ⟨(Nat.le_of_ble_eq_true rfl), (Nat.le_of_ble_eq_true rfl)⟩) ?_
        refine lv_iadd hx hb dX0_owedBy_17 ?_
        refine lv_istore_n (lv' := [(2, .int ((dBy (sD S) a k4) + (dOwF ((sD S)) a (nI k4)))), (3, .int (nI k4)), (0, .ref (q 10)), (1, .int (a))]) hx hb dX0_owedBy_18 rfl hl (by decide) rfl (fun ls hl => ?_)
        refine lv_iinc (v := (nI k4) + 1) (lv' := [(3, .int ((nI k4) + 1)), (2, .int ((dBy (sD S) a k4) + (dOwF ((sD S)) a (nI k4)))), (0, .ref (q 10)), (1, .int (a))]) hx hb dX0_owedBy_19 hl (k := 1) rfl rfl (by decide) rfl (fun ls hl => ?_)
        refine lv_goto (tgt := 4) hx hb dX0_owedBy_22 (by decide) ?_
        have e4_3 : (nI (k4 + 1) : Int32) = (nI k4) + 1 := (nI_1 _).symm
        have e4_2 : (dBy (sD S) a (k4 + 1) : Int32) = (dBy (sD S) a k4) + (dOwF ((sD S)) a (nI k4)) := (by rfl)
        exact ih4 (k4 + 1) (by omega) (by omega) _ (by rw [e4_3, e4_2]; exact lv_sub hl [0, 1, 2, 3] rfl)
  have e4_3 : (nI 0 : Int32) = (0 : Int32) := rfl
  have e4_2 : (dBy (sD S) a 0 : Int32) = (0 : Int32) := (by rfl)
  exact L4 (40 + 1) (0) (Nat.zero_le _) (by omega) _ (by rw [e4_3, e4_2]; exact lv_sub hl [0, 1, 2, 3] rfl)
set_option maxHeartbeats 800000 in
set_option maxRecDepth 100000 in
theorem c_X0_owedTo (l : Launch) (D : va_G) (cI cQ : ClassId) (q : Nat → Nat) (S : CS) (a : Int32) : zRO l yX0_owedTo (Cond.code yX0_owedTo cX0_owedTo 4 (some .int) :: zT) 2 43 [.ref (q 10), .int a] D cI cQ (zDeb cI q S) (dTo (sD S) a 40) := by
  refine zRO.of (cc := cX0_owedTo) (maxL := 4) (ret := some .int) (by decide +kernel) rfl (Nat.le_of_ble_eq_true rfl) ?_
  intro pg e s mi args below meth cd hx hb hr hts hown hlocks hml hP hK ls hl
  have hz : ∀ w ∈ zT, w.before args s = true := fun w h => hts w (List.mem_cons_of_mem _ h)
  have hl : lv_has ls 4 [(0, .ref (q 10)), (1, .int (a))] := hl
  refine lv_iconst (v := 0) hx hb dX0_owedTo_0 (by decide) ?_
  refine lv_istore_n (lv' := [(2, .int (0 : Int32)), (0, .ref (q 10)), (1, .int (a))]) hx hb dX0_owedTo_1 rfl hl (by decide) rfl (fun ls hl => ?_)
  refine lv_iconst (v := 0) hx hb dX0_owedTo_2 (by decide) ?_
  refine lv_istore_n (lv' := [(3, .int (0 : Int32)), (2, .int (0 : Int32)), (0, .ref (q 10)), (1, .int (a))]) hx hb dX0_owedTo_3 rfl hl (by decide) rfl (fun ls hl => ?_)
  have L4 : ∀ (n4 k4 : Nat), k4 ≤ 40 → 40 < k4 + n4 → ∀ (ls : Array Slot), lv_has ls 4 [(3, .int (nI k4)), (2, .int (dTo (sD S) a k4)), (0, .ref (q 10)), (1, .int (a))] → W pg l e ({ frames := 2, cells := 0, slots := 0, locals := 43 }) s mi args below meth cd s.heap [] 0 0 (MQ below (vp_Si (fun r => r = dTo (sD S) a 40)) args s 0 0 (fun _ => False)) (F0 mi 4 ls []) := by
    intro n4
    induction n4 with
    | zero => intro k4 h1 h2; exact absurd h2 (by omega)
    | succ n4 ih4 =>
      intro k4 h1_4 h2_4  ls hl
      refine lv_iload_n hx hb dX0_owedTo_4 rfl (lv_at hl 0 rfl) ?_
      refine lv_bipush (v := 40) hx hb dX0_owedTo_5 (by decide) ?_
      refine lv_icmp_ge (tgt := 25) hx hb dX0_owedTo_7 (by decide) (fun c_7 => ?_) (fun c_7 => ?_)
      · have c_7 : ((40 : Int32) : Int32) ≤ nI k4 := c_7
        have hk_4 : k4 = 40 := z_exit (by decide) h1_4 c_7
        refine lv_iload_n hx hb dX0_owedTo_25 rfl (lv_at hl 1 rfl) ?_
        exact z_iret hx hb hr rfl hlocks (by rw [hk_4]) dX0_owedTo_26
      · have c_7 : ¬ (((40 : Int32) : Int32) ≤ nI k4) := c_7
        have hk_4 : k4 < 40 := z_cont (by decide) h1_4 c_7
        refine lv_iload_n hx hb dX0_owedTo_10 rfl (lv_at hl 1 rfl) ?_
        refine lv_aload_n hx hb dX0_owedTo_11 rfl (lv_at hl 2 rfl) ?_
        refine lv_iload_n hx hb dX0_owedTo_12 rfl (lv_at hl 0 rfl) ?_
        refine lv_iload_n hx hb dX0_owedTo_13 rfl (lv_at hl 3 rfl) ?_
        refine z_ro (va_runV (As := [.int (nI k4), .int (a)]) (rest := [.int (dTo (sD S) a k4)]) ⟨hx, hb, hml, hown, hz⟩ (c_X0_owed l D cI cQ q S (nI k4) a) (zcwV 2 hz q2_110 q2_111 q2_112 q1_5 q2_113 hd_X0_owed (Nat.le_of_ble_eq_true rfl) (Nat.le_of_ble_eq_true rfl)) (z_pv (ci := 0) (q := (RX0, TX0, 1)) hK hP rfl rfl) rfl rfl hl.1 rfl (lv_room (Nat.le_of_ble_eq_true rfl)) dX0_owedTo_14 ⟨(Nat.le_of_ble_eq_true rfl), (Nat.le_of_ble_eq_true rfl)⟩) ?_
        refine lv_iadd hx hb dX0_owedTo_17 ?_
        refine lv_istore_n (lv' := [(2, .int ((dTo (sD S) a k4) + (dOwF ((sD S)) (nI k4) a))), (3, .int (nI k4)), (0, .ref (q 10)), (1, .int (a))]) hx hb dX0_owedTo_18 rfl hl (by decide) rfl (fun ls hl => ?_)
        refine lv_iinc (v := (nI k4) + 1) (lv' := [(3, .int ((nI k4) + 1)), (2, .int ((dTo (sD S) a k4) + (dOwF ((sD S)) (nI k4) a))), (0, .ref (q 10)), (1, .int (a))]) hx hb dX0_owedTo_19 hl (k := 1) rfl rfl (by decide) rfl (fun ls hl => ?_)
        refine lv_goto (tgt := 4) hx hb dX0_owedTo_22 (by decide) ?_
        have e4_3 : (nI (k4 + 1) : Int32) = (nI k4) + 1 := (nI_1 _).symm
        have e4_2 : (dTo (sD S) a (k4 + 1) : Int32) = (dTo (sD S) a k4) + (dOwF ((sD S)) (nI k4) a) := (by rfl)
        exact ih4 (k4 + 1) (by omega) (by omega) _ (by rw [e4_3, e4_2]; exact lv_sub hl [0, 1, 2, 3] rfl)
  have e4_3 : (nI 0 : Int32) = (0 : Int32) := rfl
  have e4_2 : (dTo (sD S) a 0 : Int32) = (0 : Int32) := (by rfl)
  exact L4 (40 + 1) (0) (Nat.zero_le _) (by omega) _ (by rw [e4_3, e4_2]; exact lv_sub hl [0, 1, 2, 3] rfl)
set_option maxHeartbeats 800000 in
set_option maxRecDepth 100000 in
theorem c_X0_sum (l : Launch) (D : va_G) (cI cQ : ClassId) (q : Nat → Nat) (S : CS) : zRO l yX0_sum (Cond.code yX0_sum cX0_sum 3 (some .int) :: zT) 3 66 [.ref (q 10)] D cI cQ (zDeb cI q S) (dSum (sD S) 40) := by
  refine zRO.of (cc := cX0_sum) (maxL := 3) (ret := some .int) (by decide +kernel) rfl (Nat.le_of_ble_eq_true rfl) ?_
  intro pg e s mi args below meth cd hx hb hr hts hown hlocks hml hP hK ls hl
  have hz : ∀ w ∈ zT, w.before args s = true := fun w h => hts w (List.mem_cons_of_mem _ h)
  have hl : lv_has ls 3 [(0, .ref (q 10))] := hl
  refine lv_iconst (v := 0) hx hb dX0_sum_0 (by decide) ?_
  refine lv_istore_n (lv' := [(1, .int (0 : Int32)), (0, .ref (q 10))]) hx hb dX0_sum_1 rfl hl (by decide) rfl (fun ls hl => ?_)
  refine lv_iconst (v := 0) hx hb dX0_sum_2 (by decide) ?_
  refine lv_istore_n (lv' := [(2, .int (0 : Int32)), (1, .int (0 : Int32)), (0, .ref (q 10))]) hx hb dX0_sum_3 rfl hl (by decide) rfl (fun ls hl => ?_)
  have L4 : ∀ (n4 k4 : Nat), k4 ≤ 40 → 40 < k4 + n4 → ∀ (ls : Array Slot), lv_has ls 3 [(2, .int (nI k4)), (1, .int (dSum (sD S) k4)), (0, .ref (q 10))] → W pg l e ({ frames := 3, cells := 0, slots := 0, locals := 66 }) s mi args below meth cd s.heap [] 0 0 (MQ below (vp_Si (fun r => r = dSum (sD S) 40)) args s 0 0 (fun _ => False)) (F0 mi 4 ls []) := by
    intro n4
    induction n4 with
    | zero => intro k4 h1 h2; exact absurd h2 (by omega)
    | succ n4 ih4 =>
      intro k4 h1_4 h2_4  ls hl
      refine lv_iload_n hx hb dX0_sum_4 rfl (lv_at hl 0 rfl) ?_
      refine lv_bipush (v := 40) hx hb dX0_sum_5 (by decide) ?_
      refine lv_icmp_ge (tgt := 24) hx hb dX0_sum_7 (by decide) (fun c_7 => ?_) (fun c_7 => ?_)
      · have c_7 : ((40 : Int32) : Int32) ≤ nI k4 := c_7
        have hk_4 : k4 = 40 := z_exit (by decide) h1_4 c_7
        refine lv_iload_n hx hb dX0_sum_24 rfl (lv_at hl 1 rfl) ?_
        exact z_iret hx hb hr rfl hlocks (by rw [hk_4]) dX0_sum_25
      · have c_7 : ¬ (((40 : Int32) : Int32) ≤ nI k4) := c_7
        have hk_4 : k4 < 40 := z_cont (by decide) h1_4 c_7
        refine lv_iload_n hx hb dX0_sum_10 rfl (lv_at hl 1 rfl) ?_
        refine lv_aload_n hx hb dX0_sum_11 rfl (lv_at hl 2 rfl) ?_
        refine lv_iload_n hx hb dX0_sum_12 rfl (lv_at hl 0 rfl) ?_
        refine z_ro (va_runV (As := [.int (nI k4)]) (rest := [.int (dSum (sD S) k4)]) ⟨hx, hb, hml, hown, hz⟩ (c_X0_owedBy l D cI cQ q S (nI k4)) (zcwV 1 hz q2_201 q2_202 q2_203 q1_5 q2_204 hd_X0_owedBy (Nat.le_of_ble_eq_true rfl) (Nat.le_of_ble_eq_true rfl)) (z_pv (ci := 0) (q := (RX0, TX0, 1)) hK hP rfl rfl) rfl rfl hl.1 rfl (lv_room (Nat.le_of_ble_eq_true rfl)) dX0_sum_13 ⟨(Nat.le_of_ble_eq_true rfl), (Nat.le_of_ble_eq_true rfl)⟩) ?_
        refine lv_iadd hx hb dX0_sum_16 ?_
        refine lv_istore_n (lv' := [(1, .int ((dSum (sD S) k4) + (dBy ((sD S)) (nI k4) 40))), (2, .int (nI k4)), (0, .ref (q 10))]) hx hb dX0_sum_17 rfl hl (by decide) rfl (fun ls hl => ?_)
        refine lv_iinc (v := (nI k4) + 1) (lv' := [(2, .int ((nI k4) + 1)), (1, .int ((dSum (sD S) k4) + (dBy ((sD S)) (nI k4) 40))), (0, .ref (q 10))]) hx hb dX0_sum_18 hl (k := 1) rfl rfl (by decide) rfl (fun ls hl => ?_)
        refine lv_goto (tgt := 4) hx hb dX0_sum_21 (by decide) ?_
        have e4_2 : (nI (k4 + 1) : Int32) = (nI k4) + 1 := (nI_1 _).symm
        have e4_1 : (dSum (sD S) (k4 + 1) : Int32) = (dSum (sD S) k4) + (dBy ((sD S)) (nI k4) 40) := (by rfl)
        exact ih4 (k4 + 1) (by omega) (by omega) _ (by rw [e4_2, e4_1]; exact lv_sub hl [0, 1, 2] rfl)
  have e4_2 : (nI 0 : Int32) = (0 : Int32) := rfl
  have e4_1 : (dSum (sD S) 0 : Int32) = (0 : Int32) := (by rfl)
  exact L4 (40 + 1) (0) (Nat.zero_le _) (by omega) _ (by rw [e4_2, e4_1]; exact lv_sub hl [0, 1, 2] rfl)
set_option maxHeartbeats 800000 in
set_option maxRecDepth 100000 in
theorem c_X0_firstCreditorOf (l : Launch) (D : va_G) (cI cQ : ClassId) (q : Nat → Nat) (S : CS) (a : Int32) : zRO l yX0_firstCreditorOf (Cond.code yX0_firstCreditorOf cX0_firstCreditorOf 3 (some .int) :: zT) 2 43 [.ref (q 10), .int a] D cI cQ (zDeb cI q S) (dFst (sD S) a) := by
  refine zRO.of (cc := cX0_firstCreditorOf) (maxL := 3) (ret := some .int) (by decide +kernel) rfl (Nat.le_of_ble_eq_true rfl) ?_
  intro pg e s mi args below meth cd hx hb hr hts hown hlocks hml hP hK ls hl
  have hz : ∀ w ∈ zT, w.before args s = true := fun w h => hts w (List.mem_cons_of_mem _ h)
  have hl : lv_has ls 3 [(0, .ref (q 10)), (1, .int (a))] := hl
  refine lv_iconst (v := 0) hx hb dX0_firstCreditorOf_0 (by decide) ?_
  refine lv_istore_n (lv' := [(2, .int (0 : Int32)), (0, .ref (q 10)), (1, .int (a))]) hx hb dX0_firstCreditorOf_1 rfl hl (by decide) rfl (fun ls hl => ?_)
  have L2 : ∀ (n2 k2 : Nat), k2 ≤ 40 → 40 < k2 + n2 → (dFst (sD S) a = fnd (fun k => !decide (dOwF (sD S) a (nI k) ≤ 0)) (40 - k2) k2) → ∀ (ls : Array Slot), lv_has ls 3 [(2, .int (nI k2)), (0, .ref (q 10)), (1, .int (a))] → W pg l e ({ frames := 2, cells := 0, slots := 0, locals := 43 }) s mi args below meth cd s.heap [] 0 0 (MQ below (vp_Si (fun r => r = dFst (sD S) a)) args s 0 0 (fun _ => False)) (F0 mi 2 ls []) := by
    intro n2
    induction n2 with
    | zero => intro k2 h1 h2; exact absurd h2 (by omega)
    | succ n2 ih2 =>
      intro k2 h1_2 h2_2 he ls hl
      refine lv_iload_n hx hb dX0_firstCreditorOf_2 rfl (lv_at hl 0 rfl) ?_
      refine lv_bipush (v := 40) hx hb dX0_firstCreditorOf_3 (by decide) ?_
      refine lv_icmp_ge (tgt := 25) hx hb dX0_firstCreditorOf_5 (by decide) (fun c_5 => ?_) (fun c_5 => ?_)
      · have c_5 : ((40 : Int32) : Int32) ≤ nI k2 := c_5
        have hk_2 : k2 = 40 := z_exit (by decide) h1_2 c_5
        refine lv_bipush (v := (-9)) hx hb dX0_firstCreditorOf_25 (by decide) ?_
        exact z_iret hx hb hr rfl hlocks (by rw [he, hk_2]; rfl) dX0_firstCreditorOf_27
      · have c_5 : ¬ (((40 : Int32) : Int32) ≤ nI k2) := c_5
        have hk_2 : k2 < 40 := z_cont (by decide) h1_2 c_5
        refine lv_aload_n hx hb dX0_firstCreditorOf_8 rfl (lv_at hl 1 rfl) ?_
        refine lv_iload_n hx hb dX0_firstCreditorOf_9 rfl (lv_at hl 2 rfl) ?_
        refine lv_iload_n hx hb dX0_firstCreditorOf_10 rfl (lv_at hl 0 rfl) ?_
        refine z_ro (va_runV (As := [.int (a), .int (nI k2)]) (rest := []) ⟨hx, hb, hml, hown, hz⟩ (c_X0_owed l D cI cQ q S a (nI k2)) (zcwV 2 hz q2_110 q2_111 q2_112 q1_5 q2_113 hd_X0_owed (Nat.le_of_ble_eq_true rfl) (Nat.le_of_ble_eq_true rfl)) (z_pv (ci := 0) (q := (RX0, TX0, 1)) hK hP rfl rfl) rfl rfl hl.1 rfl (lv_room (Nat.le_of_ble_eq_true rfl)) dX0_firstCreditorOf_11 ⟨(Nat.le_of_ble_eq_true rfl), (Nat.le_of_ble_eq_true rfl)⟩) ?_
        refine lv_if_le (tgt := 19) hx hb dX0_firstCreditorOf_14 (by decide) (fun c_14 => ?_) (fun c_14 => ?_)
        · have c_14 : (dOwF ((sD S)) a (nI k2) : Int32) ≤ 0 := c_14
          refine lv_iinc (v := (nI k2) + 1) (lv' := [(2, .int ((nI k2) + 1)), (0, .ref (q 10)), (1, .int (a))]) hx hb dX0_firstCreditorOf_19 hl (k := 0) rfl rfl (by decide) rfl (fun ls hl => ?_)
          refine lv_goto (tgt := 2) hx hb dX0_firstCreditorOf_22 (by decide) ?_
          have e2_2 : (nI (k2 + 1) : Int32) = (nI k2) + 1 := (nI_1 _).symm
          exact ih2 (k2 + 1) (by omega) (by omega) (he.trans (fnd_no hk_2 (by simp [c_14]))) _ (by rw [e2_2]; exact lv_sub hl [0, 1, 2] rfl)
        · have c_14 : ¬ ((dOwF ((sD S)) a (nI k2) : Int32) ≤ 0) := c_14
          refine lv_iload_n hx hb dX0_firstCreditorOf_17 rfl (lv_at hl 0 rfl) ?_
          exact z_iret hx hb hr rfl hlocks (by exact (he.trans (fnd_yes hk_2 (by simp [c_14]))).symm) dX0_firstCreditorOf_18
  have e2_2 : (nI 0 : Int32) = (0 : Int32) := rfl
  exact L2 (40 + 1) (0) (Nat.zero_le _) (by omega) (rfl) _ (by rw [e2_2]; exact lv_sub hl [0, 1, 2] rfl)
set_option maxHeartbeats 800000 in
set_option maxRecDepth 100000 in
theorem c_X0_passOn (l : Launch) (D : va_G) (cI cQ : ClassId) (q : Nat → Nat) (S : CS) (fr no : Int32) (g1 : FI) (hg1 : g1 = dPass (sD S) fr no) : zWR l yX0_passOn (Cond.code yX0_passOn cX0_passOn 4 (none) :: zT) 3 69 [.ref (q 10), .int fr, .int no] D cI cQ (zDeb cI q S) none (zDeb cI q (uD S g1)) := by
  refine zWR.of (cc := cX0_passOn) (maxL := 4) (ret := none) (by decide +kernel) rfl (Nat.le_of_ble_eq_true rfl) ?_
  intro pg e s mi args below meth cd hx hb hr hts hown hlocks hml hP hD hS hK ls hl
  have hz : ∀ w ∈ zT, w.before args s = true := fun w h => hts w (List.mem_cons_of_mem _ h)
  have hl : lv_has ls 4 [(0, .ref (q 10)), (1, .int (fr)), (2, .int (no))] := hl
  refine lv_iconst (v := 0) hx hb dX0_passOn_0 (by decide) ?_
  refine lv_istore_n (lv' := [(3, .int (0 : Int32)), (0, .ref (q 10)), (1, .int (fr)), (2, .int (no))]) hx hb dX0_passOn_1 rfl hl (by decide) rfl (fun ls hl => ?_)
  have L2 : ∀ (n2 k2 : Nat), k2 ≤ 40 → 40 < k2 + n2 → ∀ (H : Heap) (locs : List Loc), va_P D vwCl (zDeb cI q (uD S (dP1 (sD S) fr no k2))) H → va_D (zA (zDeb cI q S)) (zDeb cI q (uD S (dP1 (sD S) fr no k2))) → va_S (zA (zDeb cI q S)) s.heap H locs → ∀ (ls : Array Slot), lv_has ls 4 [(3, .int (nI k2)), (0, .ref (q 10)), (1, .int (fr)), (2, .int (no))] → W pg l e ({ frames := 3, cells := 0, slots := 0, locals := 69 }) s mi args below meth cd H locs 0 0 (MQ below (zQ D (zDeb cI q S) none (zDeb cI q (uD S g1))) args s 0 0 (zA (zDeb cI q S))) (F0 mi 2 ls []) := by
    intro n2
    induction n2 with
    | zero => intro k2 h1 h2; exact absurd h2 (by omega)
    | succ n2 ih2 =>
      intro k2 h1_2 h2_2  H locs hP hD hS ls hl
      refine lv_iload_n hx hb dX0_passOn_2 rfl (lv_at hl 0 rfl) ?_
      refine lv_bipush (v := 40) hx hb dX0_passOn_3 (by decide) ?_
      refine lv_icmp_ge (tgt := 22) hx hb dX0_passOn_5 (by decide) (fun c_5 => ?_) (fun c_5 => ?_)
      · have c_5 : ((40 : Int32) : Int32) ≤ nI k2 := c_5
        have hk_2 : k2 = 40 := z_exit (by decide) h1_2 c_5
        refine lv_iconst (v := 0) hx hb dX0_passOn_22 (by decide) ?_
        refine lv_istore_n (lv' := [(3, .int (0 : Int32)), (0, .ref (q 10)), (1, .int (fr)), (2, .int (no))]) hx hb dX0_passOn_23 rfl hl (by decide) rfl (fun ls hl => ?_)
        have L24 : ∀ (n24 k24 : Nat), k24 ≤ 40 → 40 < k24 + n24 → ∀ (H : Heap) (locs : List Loc), va_P D vwCl (zDeb cI q (uD S (dP2 (dP1 (sD S) fr no 40) fr no k24))) H → va_D (zA (zDeb cI q S)) (zDeb cI q (uD S (dP2 (dP1 (sD S) fr no 40) fr no k24))) → va_S (zA (zDeb cI q S)) s.heap H locs → ∀ (ls : Array Slot), lv_has ls 4 [(3, .int (nI k24)), (0, .ref (q 10)), (1, .int (fr)), (2, .int (no))] → W pg l e ({ frames := 3, cells := 0, slots := 0, locals := 69 }) s mi args below meth cd H locs 0 0 (MQ below (zQ D (zDeb cI q S) none (zDeb cI q (uD S g1))) args s 0 0 (zA (zDeb cI q S))) (F0 mi 24 ls []) := by
          intro n24
          induction n24 with
          | zero => intro k24 h1 h2; exact absurd h2 (by omega)
          | succ n24 ih24 =>
            intro k24 h1_24 h2_24  H locs hP hD hS ls hl
            refine lv_iload_n hx hb dX0_passOn_24 rfl (lv_at hl 0 rfl) ?_
            refine lv_bipush (v := 40) hx hb dX0_passOn_25 (by decide) ?_
            refine lv_icmp_ge (tgt := 44) hx hb dX0_passOn_27 (by decide) (fun c_27 => ?_) (fun c_27 => ?_)
            · have c_27 : ((40 : Int32) : Int32) ≤ nI k24 := c_27
              have hk_24 : k24 = 40 := z_exit (by decide) h1_24 c_27
              refine lv_aload_n hx hb dX0_passOn_44 rfl (lv_at hl 1 rfl) ?_
              refine lv_iload_n hx hb dX0_passOn_45 rfl (lv_at hl 3 rfl) ?_
              refine lv_iload_n hx hb dX0_passOn_46 rfl (lv_at hl 3 rfl) ?_
              refine lv_aload_n hx hb dX0_passOn_47 rfl (lv_at hl 1 rfl) ?_
              refine lv_iload_n hx hb dX0_passOn_48 rfl (lv_at hl 3 rfl) ?_
              refine lv_iload_n hx hb dX0_passOn_49 rfl (lv_at hl 3 rfl) ?_
              refine z_ro (va_runV (As := [.int (no), .int (no)]) (rest := [.int (no), .int (no), .ref (q 10)]) ⟨hx, hb, hml, hown, hz⟩ (c_X0_owed l D cI cQ q (uD S (dP2 (dP1 (sD S) fr no 40) fr no k24)) no no) (zcwV 2 hz q2_110 q2_111 q2_112 q1_5 q2_113 hd_X0_owed (Nat.le_of_ble_eq_true rfl) (Nat.le_of_ble_eq_true rfl)) (z_pv (ci := 0) (q := (RX0, TX0, 1)) hK hP rfl rfl) rfl rfl hl.1 rfl (lv_room (Nat.le_of_ble_eq_true rfl)) dX0_passOn_50 ⟨(Nat.le_of_ble_eq_true rfl), (Nat.le_of_ble_eq_true rfl)⟩) ?_
              refine lv_ineg hx hb dX0_passOn_53 ?_
              obtain ⟨g_1, hg_1⟩ : ∃ z : FI, z = dCh ((dP2 (dP1 (sD S) fr no 40) fr no k24)) no no (-(dOwF ((dP2 (dP1 (sD S) fr no 40) fr no k24)) no no)) := ⟨_, rfl⟩
              refine z_wv (X' := zDeb cI q (uD S g_1)) (va_runV (As := [.int (no), .int (no), .int (-(dOwF ((dP2 (dP1 (sD S) fr no 40) fr no k24)) no no))]) (rest := []) ⟨hx, hb, hml, hown, hz⟩ (c_X0_change l D cI cQ q (uD S (dP2 (dP1 (sD S) fr no 40) fr no k24)) no no (-(dOwF ((dP2 (dP1 (sD S) fr no 40) fr no k24)) no no)) g_1 hg_1) (zcwV 3 hz q2_156 q2_32 q2_33 q1_5 q2_34 hd_X0_change (Nat.le_of_ble_eq_true rfl) (Nat.le_of_ble_eq_true rfl)) (z_pvw (ci := 0) (q := (RX0, TX0, 1)) hK hP hD rfl rfl) rfl rfl hl.1 rfl (lv_room (Nat.le_of_ble_eq_true rfl)) dX0_passOn_54 ⟨(Nat.le_of_ble_eq_true rfl), (Nat.le_of_ble_eq_true rfl)⟩) hP hD hS [0, 1] rfl rfl rfl (fun H locs hP hD hS => ?_)
              exact z_wvret hx hb hr hlocks hP hS (congrArg (fun T => zDeb cI q T) (show uD S g_1 = uD S g1 from by subst hg_1; subst hg1; rw [hk_24]; rfl)) dX0_passOn_57
            · have c_27 : ¬ (((40 : Int32) : Int32) ≤ nI k24) := c_27
              have hk_24 : k24 < 40 := z_cont (by decide) h1_24 c_27
              refine lv_aload_n hx hb dX0_passOn_30 rfl (lv_at hl 1 rfl) ?_
              refine lv_iload_n hx hb dX0_passOn_31 rfl (lv_at hl 0 rfl) ?_
              refine lv_iload_n hx hb dX0_passOn_32 rfl (lv_at hl 2 rfl) ?_
              refine lv_iload_n hx hb dX0_passOn_33 rfl (lv_at hl 0 rfl) ?_
              refine lv_iload_n hx hb dX0_passOn_34 rfl (lv_at hl 3 rfl) ?_
              obtain ⟨g_2, hg_2⟩ : ∃ z : FI, z = dSh ((dP2 (dP1 (sD S) fr no 40) fr no k24)) (nI k24) fr (nI k24) no := ⟨_, rfl⟩
              refine z_wv (X' := zDeb cI q (uD S g_2)) (va_runV (As := [.int (nI k24), .int (fr), .int (nI k24), .int (no)]) (rest := []) ⟨hx, hb, hml, hown, hz⟩ (c_X0_shift l D cI cQ q (uD S (dP2 (dP1 (sD S) fr no 40) fr no k24)) (nI k24) fr (nI k24) no g_2 hg_2) (zcwV 4 hz q2_152 q2_154 qs_10 q1_5 q2_155 hd_X0_shift (Nat.le_of_ble_eq_true rfl) (Nat.le_of_ble_eq_true rfl)) (z_pvw (ci := 0) (q := (RX0, TX0, 1)) hK hP hD rfl rfl) rfl rfl hl.1 rfl (lv_room (Nat.le_of_ble_eq_true rfl)) dX0_passOn_35 ⟨(Nat.le_of_ble_eq_true rfl), (Nat.le_of_ble_eq_true rfl)⟩) hP hD hS [0, 1] rfl rfl rfl (fun H locs hP hD hS => ?_)
              refine lv_iinc (v := (nI k24) + 1) (lv' := [(3, .int ((nI k24) + 1)), (0, .ref (q 10)), (1, .int (fr)), (2, .int (no))]) hx hb dX0_passOn_38 hl (k := 0) rfl rfl (by decide) rfl (fun ls hl => ?_)
              refine lv_goto (tgt := 24) hx hb dX0_passOn_41 (by decide) ?_
              have e24_3 : (nI (k24 + 1) : Int32) = (nI k24) + 1 := (nI_1 _).symm
              have eS24 : uD S (dP2 (dP1 (sD S) fr no 40) fr no (k24 + 1)) = uD S g_2 := by subst hg_2; rfl
              exact ih24 (k24 + 1) (by omega) (by omega) H locs (by rw [eS24]; exact hP) (by rw [eS24]; exact hD) hS _ (by rw [e24_3]; exact lv_sub hl [0, 1, 2, 3] rfl)
        have e24_3 : (nI 0 : Int32) = (0 : Int32) := rfl
        have eS24 : uD S (dP2 (dP1 (sD S) fr no 40) fr no 0) = uD S (dP1 (sD S) fr no k2) := by rw [hk_2]; rfl
        exact L24 (40 + 1) (0) (Nat.zero_le _) (by omega) H locs (by rw [eS24]; exact hP) (by rw [eS24]; exact hD) hS _ (by rw [e24_3]; exact lv_sub hl [0, 1, 2, 3] rfl)
      · have c_5 : ¬ (((40 : Int32) : Int32) ≤ nI k2) := c_5
        have hk_2 : k2 < 40 := z_cont (by decide) h1_2 c_5
        refine lv_aload_n hx hb dX0_passOn_8 rfl (lv_at hl 1 rfl) ?_
        refine lv_iload_n hx hb dX0_passOn_9 rfl (lv_at hl 2 rfl) ?_
        refine lv_iload_n hx hb dX0_passOn_10 rfl (lv_at hl 0 rfl) ?_
        refine lv_iload_n hx hb dX0_passOn_11 rfl (lv_at hl 3 rfl) ?_
        refine lv_iload_n hx hb dX0_passOn_12 rfl (lv_at hl 0 rfl) ?_
        obtain ⟨g_3, hg_3⟩ : ∃ z : FI, z = dSh ((dP1 (sD S) fr no k2)) fr (nI k2) no (nI k2) := ⟨_, rfl⟩
        refine z_wv (X' := zDeb cI q (uD S g_3)) (va_runV (As := [.int (fr), .int (nI k2), .int (no), .int (nI k2)]) (rest := []) ⟨hx, hb, hml, hown, hz⟩ (c_X0_shift l D cI cQ q (uD S (dP1 (sD S) fr no k2)) fr (nI k2) no (nI k2) g_3 hg_3) (zcwV 4 hz q2_152 q2_154 qs_10 q1_5 q2_155 hd_X0_shift (Nat.le_of_ble_eq_true rfl) (Nat.le_of_ble_eq_true rfl)) (z_pvw (ci := 0) (q := (RX0, TX0, 1)) hK hP hD rfl rfl) rfl rfl hl.1 rfl (lv_room (Nat.le_of_ble_eq_true rfl)) dX0_passOn_13 ⟨(Nat.le_of_ble_eq_true rfl), (Nat.le_of_ble_eq_true rfl)⟩) hP hD hS [0, 1] rfl rfl rfl (fun H locs hP hD hS => ?_)
        refine lv_iinc (v := (nI k2) + 1) (lv' := [(3, .int ((nI k2) + 1)), (0, .ref (q 10)), (1, .int (fr)), (2, .int (no))]) hx hb dX0_passOn_16 hl (k := 0) rfl rfl (by decide) rfl (fun ls hl => ?_)
        refine lv_goto (tgt := 2) hx hb dX0_passOn_19 (by decide) ?_
        have e2_3 : (nI (k2 + 1) : Int32) = (nI k2) + 1 := (nI_1 _).symm
        have eS2 : uD S (dP1 (sD S) fr no (k2 + 1)) = uD S g_3 := by subst hg_3; rfl
        exact ih2 (k2 + 1) (by omega) (by omega) H locs (by rw [eS2]; exact hP) (by rw [eS2]; exact hD) hS _ (by rw [e2_3]; exact lv_sub hl [0, 1, 2, 3] rfl)
  have e2_3 : (nI 0 : Int32) = (0 : Int32) := rfl
  have eS2 : uD S (dP1 (sD S) fr no 0) = S := by rfl
  exact L2 (40 + 1) (0) (Nat.zero_le _) (by omega) s.heap [] (by rw [eS2]; exact hP) (by rw [eS2]; exact hD) hS _ (by rw [e2_3]; exact lv_sub hl [0, 1, 2, 3] rfl)
end
