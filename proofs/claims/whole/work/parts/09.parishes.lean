theorem hd_X2_exists : yX2_exists.cls ≠ "java/lang/invoke/MethodHandle" ∧ yX2_exists.cls ≠ "java/lang/invoke/VarHandle" ∧ (parseMethodDescriptor yX2_exists.desc).map (fun d => d.parameters.length) = some 1 := by decide +kernel
theorem hd_X2_numberFounded : yX2_numberFounded.cls ≠ "java/lang/invoke/MethodHandle" ∧ yX2_numberFounded.cls ≠ "java/lang/invoke/VarHandle" ∧ (parseMethodDescriptor yX2_numberFounded.desc).map (fun d => d.parameters.length) = some 0 := by decide +kernel
theorem hd_X2_leftOf : yX2_leftOf.cls ≠ "java/lang/invoke/MethodHandle" ∧ yX2_leftOf.cls ≠ "java/lang/invoke/VarHandle" ∧ (parseMethodDescriptor yX2_leftOf.desc).map (fun d => d.parameters.length) = some 1 := by decide +kernel
theorem hd_X2_topOf : yX2_topOf.cls ≠ "java/lang/invoke/MethodHandle" ∧ yX2_topOf.cls ≠ "java/lang/invoke/VarHandle" ∧ (parseMethodDescriptor yX2_topOf.desc).map (fun d => d.parameters.length) = some 1 := by decide +kernel
theorem hd_X2_scaleOf : yX2_scaleOf.cls ≠ "java/lang/invoke/MethodHandle" ∧ yX2_scaleOf.cls ≠ "java/lang/invoke/VarHandle" ∧ (parseMethodDescriptor yX2_scaleOf.desc).map (fun d => d.parameters.length) = some 1 := by decide +kernel
theorem hd_X2_rightOf : yX2_rightOf.cls ≠ "java/lang/invoke/MethodHandle" ∧ yX2_rightOf.cls ≠ "java/lang/invoke/VarHandle" ∧ (parseMethodDescriptor yX2_rightOf.desc).map (fun d => d.parameters.length) = some 1 := by decide +kernel
theorem hd_X2_bottomOf : yX2_bottomOf.cls ≠ "java/lang/invoke/MethodHandle" ∧ yX2_bottomOf.cls ≠ "java/lang/invoke/VarHandle" ∧ (parseMethodDescriptor yX2_bottomOf.desc).map (fun d => d.parameters.length) = some 1 := by decide +kernel
theorem hd_X2_giveCell : yX2_giveCell.cls ≠ "java/lang/invoke/MethodHandle" ∧ yX2_giveCell.cls ≠ "java/lang/invoke/VarHandle" ∧ (parseMethodDescriptor yX2_giveCell.desc).map (fun d => d.parameters.length) = some 4 := by decide +kernel
theorem hd_X2_found : yX2_found.cls ≠ "java/lang/invoke/MethodHandle" ∧ yX2_found.cls ≠ "java/lang/invoke/VarHandle" ∧ (parseMethodDescriptor yX2_found.desc).map (fun d => d.parameters.length) = some 3 := by decide +kernel
theorem hd_X2_dissolve : yX2_dissolve.cls ≠ "java/lang/invoke/MethodHandle" ∧ yX2_dissolve.cls ≠ "java/lang/invoke/VarHandle" ∧ (parseMethodDescriptor yX2_dissolve.desc).map (fun d => d.parameters.length) = some 1 := by decide +kernel
theorem hd_X2_touches : yX2_touches.cls ≠ "java/lang/invoke/MethodHandle" ∧ yX2_touches.cls ≠ "java/lang/invoke/VarHandle" ∧ (parseMethodDescriptor yX2_touches.desc).map (fun d => d.parameters.length) = some 5 := by decide +kernel
theorem hd_X2_parishAt : yX2_parishAt.cls ≠ "java/lang/invoke/MethodHandle" ∧ yX2_parishAt.cls ≠ "java/lang/invoke/VarHandle" ∧ (parseMethodDescriptor yX2_parishAt.desc).map (fun d => d.parameters.length) = some 2 := by decide +kernel
theorem hd_X2_numberTouching : yX2_numberTouching.cls ≠ "java/lang/invoke/MethodHandle" ∧ yX2_numberTouching.cls ≠ "java/lang/invoke/VarHandle" ∧ (parseMethodDescriptor yX2_numberTouching.desc).map (fun d => d.parameters.length) = some 4 := by decide +kernel
theorem hd_X2_number : yX2_number.cls ≠ "java/lang/invoke/MethodHandle" ∧ yX2_number.cls ≠ "java/lang/invoke/VarHandle" ∧ (parseMethodDescriptor yX2_number.desc).map (fun d => d.parameters.length) = some 0 := by decide +kernel
theorem hd_X2_greatestScale : yX2_greatestScale.cls ≠ "java/lang/invoke/MethodHandle" ∧ yX2_greatestScale.cls ≠ "java/lang/invoke/VarHandle" ∧ (parseMethodDescriptor yX2_greatestScale.desc).map (fun d => d.parameters.length) = some 0 := by decide +kernel
theorem hd_X2_everySecondBit : yX2_everySecondBit.cls ≠ "java/lang/invoke/MethodHandle" ∧ yX2_everySecondBit.cls ≠ "java/lang/invoke/VarHandle" ∧ (parseMethodDescriptor yX2_everySecondBit.desc).map (fun d => d.parameters.length) = some 1 := by decide +kernel
theorem hd_X2_withNumberBefore : yX2_withNumberBefore.cls ≠ "java/lang/invoke/MethodHandle" ∧ yX2_withNumberBefore.cls ≠ "java/lang/invoke/VarHandle" ∧ (parseMethodDescriptor yX2_withNumberBefore.desc).map (fun d => d.parameters.length) = some 1 := by decide +kernel
theorem hd_X0_areParishes : yX0_areParishes.cls ≠ "java/lang/invoke/MethodHandle" ∧ yX0_areParishes.cls ≠ "java/lang/invoke/VarHandle" ∧ (parseMethodDescriptor yX0_areParishes.desc).map (fun d => d.parameters.length) = some 2 := by decide +kernel
theorem hd_X0_owed : yX0_owed.cls ≠ "java/lang/invoke/MethodHandle" ∧ yX0_owed.cls ≠ "java/lang/invoke/VarHandle" ∧ (parseMethodDescriptor yX0_owed.desc).map (fun d => d.parameters.length) = some 2 := by decide +kernel
theorem hd_X0_change : yX0_change.cls ≠ "java/lang/invoke/MethodHandle" ∧ yX0_change.cls ≠ "java/lang/invoke/VarHandle" ∧ (parseMethodDescriptor yX0_change.desc).map (fun d => d.parameters.length) = some 3 := by decide +kernel
theorem hd_X0_shift : yX0_shift.cls ≠ "java/lang/invoke/MethodHandle" ∧ yX0_shift.cls ≠ "java/lang/invoke/VarHandle" ∧ (parseMethodDescriptor yX0_shift.desc).map (fun d => d.parameters.length) = some 4 := by decide +kernel
theorem hd_X0_owedBy : yX0_owedBy.cls ≠ "java/lang/invoke/MethodHandle" ∧ yX0_owedBy.cls ≠ "java/lang/invoke/VarHandle" ∧ (parseMethodDescriptor yX0_owedBy.desc).map (fun d => d.parameters.length) = some 1 := by decide +kernel
theorem hd_X0_owedTo : yX0_owedTo.cls ≠ "java/lang/invoke/MethodHandle" ∧ yX0_owedTo.cls ≠ "java/lang/invoke/VarHandle" ∧ (parseMethodDescriptor yX0_owedTo.desc).map (fun d => d.parameters.length) = some 1 := by decide +kernel
theorem hd_X0_sum : yX0_sum.cls ≠ "java/lang/invoke/MethodHandle" ∧ yX0_sum.cls ≠ "java/lang/invoke/VarHandle" ∧ (parseMethodDescriptor yX0_sum.desc).map (fun d => d.parameters.length) = some 0 := by decide +kernel
theorem hd_X0_firstCreditorOf : yX0_firstCreditorOf.cls ≠ "java/lang/invoke/MethodHandle" ∧ yX0_firstCreditorOf.cls ≠ "java/lang/invoke/VarHandle" ∧ (parseMethodDescriptor yX0_firstCreditorOf.desc).map (fun d => d.parameters.length) = some 1 := by decide +kernel
theorem hd_X0_passOn : yX0_passOn.cls ≠ "java/lang/invoke/MethodHandle" ∧ yX0_passOn.cls ≠ "java/lang/invoke/VarHandle" ∧ (parseMethodDescriptor yX0_passOn.desc).map (fun d => d.parameters.length) = some 2 := by decide +kernel
set_option maxHeartbeats 1000000 in
set_option maxRecDepth 100000 in
theorem c_X2_exists (l : Launch) (D : va_G) (cI cQ : ClassId) (q : Nat → Nat) (S : CS) (i : Int32) : zRO l yX2_exists (Cond.code yX2_exists cX2_exists 2 (some .boolean) :: zT) 0 0 [.ref (q 6), .int i] D cI cQ (zPar cI q S) (bI (rEx S i)) := by
  refine zRO.of (cc := cX2_exists) (maxL := 2) (ret := some .boolean) (by decide +kernel) rfl (Nat.le_of_ble_eq_true rfl) ?_
  intro pg e s mi args below meth cd hx hb hr hts hown hlocks hml hP hK ls hl
  have hz : ∀ w ∈ zT, w.before args s = true := fun w h => hts w (List.mem_cons_of_mem _ h)
  have hl : lv_has ls 2 [(0, .ref (q 6)), (1, .int (i))] := hl
  refine lv_iload_n hx hb dX2_exists_0 rfl (lv_at hl 1 rfl) ?_
  refine lv_if_lt (tgt := 24) hx hb dX2_exists_1 (by decide) (fun c_1 => ?_) (fun c_1 => ?_)
  · have c_1 : (i : Int32) < 0 := c_1
    refine lv_iconst (v := 0) hx hb dX2_exists_24 (by decide) ?_
    exact z_iret hx hb hr rfl hlocks (by simp [rEx, bI, c_1]) dX2_exists_25
  · have c_1 : ¬ ((i : Int32) < 0) := c_1
    refine lv_iload_n hx hb dX2_exists_4 rfl (lv_at hl 1 rfl) ?_
    refine lv_bipush (v := 40) hx hb dX2_exists_5 (by decide) ?_
    refine lv_icmp_ge (tgt := 24) hx hb dX2_exists_7 (by decide) (fun c_7 => ?_) (fun c_7 => ?_)
    · have c_7 : ((40 : Int32) : Int32) ≤ i := c_7
      refine lv_iconst (v := 0) hx hb dX2_exists_24 (by decide) ?_
      exact z_iret hx hb hr rfl hlocks (by simp [rEx, bI, c_1, c_7]) dX2_exists_25
    · have c_7 : ¬ (((40 : Int32) : Int32) ≤ i) := c_7
      refine lv_aload_n hx hb dX2_exists_10 rfl (lv_at hl 0 rfl) ?_
      refine va_get (D := D) (ci := 2) (v := .ref (q 9)) (C := RX2) (T := TX2) (N := 4) hx hb hz inZ2 hown hK.1 hP 0 rfl rfl 3 (by decide) (hz _ q1_67) (fun _ h9 => h9) rfl dX2_exists_11 ?_
      refine lv_iload_n hx hb dX2_exists_14 rfl (lv_at hl 1 rfl) ?_
      refine va_iald (f := sSc S) hx hb hK.1 hP 3 0 rfl rfl (i := i) (z_in40 c_1 c_7) dX2_exists_15 ?_
      refine lv_iconst (v := (-1)) hx hb dX2_exists_16 (by decide) ?_
      refine lv_icmp_eq (tgt := 24) hx hb dX2_exists_17 (by decide) (fun c_17 => ?_) (fun c_17 => ?_)
      · have c_17 : ((sSc S) i.toNatClampNeg : Int32) = (-1 : Int32) := c_17
        refine lv_iconst (v := 0) hx hb dX2_exists_24 (by decide) ?_
        exact z_iret hx hb hr rfl hlocks (by simp [rEx, bI, c_1, c_7, c_17]) dX2_exists_25
      · have c_17 : ¬ (((sSc S) i.toNatClampNeg : Int32) = (-1 : Int32)) := c_17
        refine lv_iconst (v := 1) hx hb dX2_exists_20 (by decide) ?_
        refine lv_goto (tgt := 25) hx hb dX2_exists_21 (by decide) ?_
        exact z_iret hx hb hr rfl hlocks (by simp [rEx, bI, c_1, c_7, c_17]) dX2_exists_25
set_option maxHeartbeats 1000000 in
set_option maxRecDepth 100000 in
theorem c_X2_numberFounded (l : Launch) (D : va_G) (cI cQ : ClassId) (q : Nat → Nat) (S : CS) : zRO l yX2_numberFounded (Cond.code yX2_numberFounded cX2_numberFounded 1 (some .int) :: zT) 0 0 [.ref (q 6)] D cI cQ (zPar cI q S) (sFo S) := by
  refine zRO.of (cc := cX2_numberFounded) (maxL := 1) (ret := some .int) (by decide +kernel) rfl (Nat.le_of_ble_eq_true rfl) ?_
  intro pg e s mi args below meth cd hx hb hr hts hown hlocks hml hP hK ls hl
  have hz : ∀ w ∈ zT, w.before args s = true := fun w h => hts w (List.mem_cons_of_mem _ h)
  have hl : lv_has ls 1 [(0, .ref (q 6))] := hl
  refine lv_aload_n hx hb dX2_numberFounded_0 rfl (lv_at hl 0 rfl) ?_
  refine va_get (D := D) (ci := 2) (v := .int (sFo S)) (C := RX2) (T := TX2) (N := 4) hx hb hz inZ2 hown hK.1 hP 0 rfl rfl 0 (by decide) (hz _ q1_64) (fun _ h9 => h9) rfl dX2_numberFounded_1 ?_
  exact z_iret hx hb hr rfl hlocks (by simp []) dX2_numberFounded_4
set_option maxHeartbeats 1000000 in
set_option maxRecDepth 100000 in
theorem c_X2_leftOf (l : Launch) (D : va_G) (cI cQ : ClassId) (q : Nat → Nat) (S : CS) (i : Int32) : zRO l yX2_leftOf (Cond.code yX2_leftOf cX2_leftOf 2 (some .int) :: zT) 1 21 [.ref (q 6), .int i] D cI cQ (zPar cI q S) (rLe S i) := by
  refine zRO.of (cc := cX2_leftOf) (maxL := 2) (ret := some .int) (by decide +kernel) rfl (Nat.le_of_ble_eq_true rfl) ?_
  intro pg e s mi args below meth cd hx hb hr hts hown hlocks hml hP hK ls hl
  have hz : ∀ w ∈ zT, w.before args s = true := fun w h => hts w (List.mem_cons_of_mem _ h)
  have hl : lv_has ls 2 [(0, .ref (q 6)), (1, .int (i))] := hl
  refine lv_aload_n hx hb dX2_leftOf_0 rfl (lv_at hl 0 rfl) ?_
  refine lv_iload_n hx hb dX2_leftOf_1 rfl (lv_at hl 1 rfl) ?_
  refine z_ro (va_runV (As := [.int (i)]) (rest := []) ⟨hx, hb, hml, hown, hz⟩ (c_X2_exists l D cI cQ q S i) (zcwV 1 hz q1_183 q1_184 q1_185 q1_4 q1_186 hd_X2_exists (Nat.le_of_ble_eq_true rfl) (Nat.le_of_ble_eq_true rfl)) (z_pv (ci := 2) (q := (RX2, TX2, 4)) hK hP rfl rfl) rfl rfl hl.1 rfl (lv_room (Nat.le_of_ble_eq_true rfl)) dX2_leftOf_2 ⟨(Nat.le_of_ble_eq_true rfl), (Nat.le_of_ble_eq_true rfl)⟩) ?_
  refine lv_if_eq (tgt := 17) hx hb dX2_leftOf_5 (by decide) (fun c_5 => ?_) (fun c_5 => ?_)
  · have c_5 : (rEx S i) = false := bI_f c_5
    refine lv_bipush (v := (-9)) hx hb dX2_leftOf_17 (by decide) ?_
    exact z_iret hx hb hr rfl hlocks (by simp [rLe, c_5]) dX2_leftOf_19
  · have c_5 : (rEx S i) = true := bI_t c_5
    refine lv_aload_n hx hb dX2_leftOf_8 rfl (lv_at hl 0 rfl) ?_
    refine va_get (D := D) (ci := 2) (v := .ref (q 7)) (C := RX2) (T := TX2) (N := 4) hx hb hz inZ2 hown hK.1 hP 0 rfl rfl 1 (by decide) (hz _ q1_65) (fun _ h9 => h9) rfl dX2_leftOf_9 ?_
    refine lv_iload_n hx hb dX2_leftOf_12 rfl (lv_at hl 1 rfl) ?_
    refine va_iald (f := sLe S) hx hb hK.1 hP 1 0 rfl rfl (i := i) (rEx_in c_5) dX2_leftOf_13 ?_
    refine lv_goto (tgt := 19) hx hb dX2_leftOf_14 (by decide) ?_
    exact z_iret hx hb hr rfl hlocks (by simp [rLe, c_5]) dX2_leftOf_19
set_option maxHeartbeats 1000000 in
set_option maxRecDepth 100000 in
theorem c_X2_topOf (l : Launch) (D : va_G) (cI cQ : ClassId) (q : Nat → Nat) (S : CS) (i : Int32) : zRO l yX2_topOf (Cond.code yX2_topOf cX2_topOf 2 (some .int) :: zT) 1 21 [.ref (q 6), .int i] D cI cQ (zPar cI q S) (rTo S i) := by
  refine zRO.of (cc := cX2_topOf) (maxL := 2) (ret := some .int) (by decide +kernel) rfl (Nat.le_of_ble_eq_true rfl) ?_
  intro pg e s mi args below meth cd hx hb hr hts hown hlocks hml hP hK ls hl
  have hz : ∀ w ∈ zT, w.before args s = true := fun w h => hts w (List.mem_cons_of_mem _ h)
  have hl : lv_has ls 2 [(0, .ref (q 6)), (1, .int (i))] := hl
  refine lv_aload_n hx hb dX2_topOf_0 rfl (lv_at hl 0 rfl) ?_
  refine lv_iload_n hx hb dX2_topOf_1 rfl (lv_at hl 1 rfl) ?_
  refine z_ro (va_runV (As := [.int (i)]) (rest := []) ⟨hx, hb, hml, hown, hz⟩ (c_X2_exists l D cI cQ q S i) (zcwV 1 hz q1_183 q1_184 q1_185 q1_4 q1_186 hd_X2_exists (Nat.le_of_ble_eq_true rfl) (Nat.le_of_ble_eq_true rfl)) (z_pv (ci := 2) (q := (RX2, TX2, 4)) hK hP rfl rfl) rfl rfl hl.1 rfl (lv_room (Nat.le_of_ble_eq_true rfl)) dX2_topOf_2 ⟨(Nat.le_of_ble_eq_true rfl), (Nat.le_of_ble_eq_true rfl)⟩) ?_
  refine lv_if_eq (tgt := 17) hx hb dX2_topOf_5 (by decide) (fun c_5 => ?_) (fun c_5 => ?_)
  · have c_5 : (rEx S i) = false := bI_f c_5
    refine lv_bipush (v := (-9)) hx hb dX2_topOf_17 (by decide) ?_
    exact z_iret hx hb hr rfl hlocks (by simp [rTo, c_5]) dX2_topOf_19
  · have c_5 : (rEx S i) = true := bI_t c_5
    refine lv_aload_n hx hb dX2_topOf_8 rfl (lv_at hl 0 rfl) ?_
    refine va_get (D := D) (ci := 2) (v := .ref (q 8)) (C := RX2) (T := TX2) (N := 4) hx hb hz inZ2 hown hK.1 hP 0 rfl rfl 2 (by decide) (hz _ q1_66) (fun _ h9 => h9) rfl dX2_topOf_9 ?_
    refine lv_iload_n hx hb dX2_topOf_12 rfl (lv_at hl 1 rfl) ?_
    refine va_iald (f := sTo S) hx hb hK.1 hP 2 0 rfl rfl (i := i) (rEx_in c_5) dX2_topOf_13 ?_
    refine lv_goto (tgt := 19) hx hb dX2_topOf_14 (by decide) ?_
    exact z_iret hx hb hr rfl hlocks (by simp [rTo, c_5]) dX2_topOf_19
set_option maxHeartbeats 1000000 in
set_option maxRecDepth 100000 in
theorem c_X2_scaleOf (l : Launch) (D : va_G) (cI cQ : ClassId) (q : Nat → Nat) (S : CS) (i : Int32) : zRO l yX2_scaleOf (Cond.code yX2_scaleOf cX2_scaleOf 2 (some .int) :: zT) 1 21 [.ref (q 6), .int i] D cI cQ (zPar cI q S) (rSc S i) := by
  refine zRO.of (cc := cX2_scaleOf) (maxL := 2) (ret := some .int) (by decide +kernel) rfl (Nat.le_of_ble_eq_true rfl) ?_
  intro pg e s mi args below meth cd hx hb hr hts hown hlocks hml hP hK ls hl
  have hz : ∀ w ∈ zT, w.before args s = true := fun w h => hts w (List.mem_cons_of_mem _ h)
  have hl : lv_has ls 2 [(0, .ref (q 6)), (1, .int (i))] := hl
  refine lv_aload_n hx hb dX2_scaleOf_0 rfl (lv_at hl 0 rfl) ?_
  refine lv_iload_n hx hb dX2_scaleOf_1 rfl (lv_at hl 1 rfl) ?_
  refine z_ro (va_runV (As := [.int (i)]) (rest := []) ⟨hx, hb, hml, hown, hz⟩ (c_X2_exists l D cI cQ q S i) (zcwV 1 hz q1_183 q1_184 q1_185 q1_4 q1_186 hd_X2_exists (Nat.le_of_ble_eq_true rfl) (Nat.le_of_ble_eq_true rfl)) (z_pv (ci := 2) (q := (RX2, TX2, 4)) hK hP rfl rfl) rfl rfl hl.1 rfl (lv_room (Nat.le_of_ble_eq_true rfl)) dX2_scaleOf_2 ⟨(Nat.le_of_ble_eq_true rfl), (Nat.le_of_ble_eq_true rfl)⟩) ?_
  refine lv_if_eq (tgt := 17) hx hb dX2_scaleOf_5 (by decide) (fun c_5 => ?_) (fun c_5 => ?_)
  · have c_5 : (rEx S i) = false := bI_f c_5
    refine lv_iconst (v := (-1)) hx hb dX2_scaleOf_17 (by decide) ?_
    exact z_iret hx hb hr rfl hlocks (by simp [rSc, c_5]) dX2_scaleOf_18
  · have c_5 : (rEx S i) = true := bI_t c_5
    refine lv_aload_n hx hb dX2_scaleOf_8 rfl (lv_at hl 0 rfl) ?_
    refine va_get (D := D) (ci := 2) (v := .ref (q 9)) (C := RX2) (T := TX2) (N := 4) hx hb hz inZ2 hown hK.1 hP 0 rfl rfl 3 (by decide) (hz _ q1_67) (fun _ h9 => h9) rfl dX2_scaleOf_9 ?_
    refine lv_iload_n hx hb dX2_scaleOf_12 rfl (lv_at hl 1 rfl) ?_
    refine va_iald (f := sSc S) hx hb hK.1 hP 3 0 rfl rfl (i := i) (rEx_in c_5) dX2_scaleOf_13 ?_
    refine lv_goto (tgt := 18) hx hb dX2_scaleOf_14 (by decide) ?_
    exact z_iret hx hb hr rfl hlocks (by simp [rSc, c_5]) dX2_scaleOf_18
set_option maxHeartbeats 1000000 in
set_option maxRecDepth 100000 in
theorem c_X2_rightOf (l : Launch) (D : va_G) (cI cQ : ClassId) (q : Nat → Nat) (S : CS) (i : Int32) : zRO l yX2_rightOf (Cond.code yX2_rightOf cX2_rightOf 2 (some .int) :: zT) 2 42 [.ref (q 6), .int i] D cI cQ (zPar cI q S) (rRi S i) := by
  refine zRO.of (cc := cX2_rightOf) (maxL := 2) (ret := some .int) (by decide +kernel) rfl (Nat.le_of_ble_eq_true rfl) ?_
  intro pg e s mi args below meth cd hx hb hr hts hown hlocks hml hP hK ls hl
  have hz : ∀ w ∈ zT, w.before args s = true := fun w h => hts w (List.mem_cons_of_mem _ h)
  have hl : lv_has ls 2 [(0, .ref (q 6)), (1, .int (i))] := hl
  refine lv_aload_n hx hb dX2_rightOf_0 rfl (lv_at hl 0 rfl) ?_
  refine lv_iload_n hx hb dX2_rightOf_1 rfl (lv_at hl 1 rfl) ?_
  refine z_ro (va_runV (As := [.int (i)]) (rest := []) ⟨hx, hb, hml, hown, hz⟩ (c_X2_leftOf l D cI cQ q S i) (zcwV 1 hz q1_228 q1_217 q1_218 q1_4 q1_219 hd_X2_leftOf (Nat.le_of_ble_eq_true rfl) (Nat.le_of_ble_eq_true rfl)) (z_pv (ci := 2) (q := (RX2, TX2, 4)) hK hP rfl rfl) rfl rfl hl.1 rfl (lv_room (Nat.le_of_ble_eq_true rfl)) dX2_rightOf_2 ⟨(Nat.le_of_ble_eq_true rfl), (Nat.le_of_ble_eq_true rfl)⟩) ?_
  refine lv_aload_n hx hb dX2_rightOf_5 rfl (lv_at hl 0 rfl) ?_
  refine lv_iload_n hx hb dX2_rightOf_6 rfl (lv_at hl 1 rfl) ?_
  refine z_ro (va_runV (As := [.int (i)]) (rest := [.int (rLe S i)]) ⟨hx, hb, hml, hown, hz⟩ (c_X2_scaleOf l D cI cQ q S i) (zcwV 1 hz q1_229 q1_209 q1_210 q1_4 q1_211 hd_X2_scaleOf (Nat.le_of_ble_eq_true rfl) (Nat.le_of_ble_eq_true rfl)) (z_pv (ci := 2) (q := (RX2, TX2, 4)) hK hP rfl rfl) rfl rfl hl.1 rfl (lv_room (Nat.le_of_ble_eq_true rfl)) dX2_rightOf_7 ⟨(Nat.le_of_ble_eq_true rfl), (Nat.le_of_ble_eq_true rfl)⟩) ?_
  refine z_ro (va_runSN (As := [.int (rSc S i)]) (rest := [.int (rLe S i)]) ⟨hx, hb, hml, hown, hz⟩ (c_X5_sideOf l D cI cQ (rSc S i)) (zcnS 1 hz q1_188 q1_1 q1_189 (hK.2.2.2.2.2.2.1) hd_X5_sideOf (Nat.le_of_ble_eq_true rfl) (Nat.le_of_ble_eq_true rfl)) (z_ps hK z_nil) rfl rfl hl.1 rfl (lv_room (Nat.le_of_ble_eq_true rfl)) dX2_rightOf_10 ⟨(Nat.le_of_ble_eq_true rfl), (Nat.le_of_ble_eq_true rfl)⟩) ?_
  refine lv_iadd hx hb dX2_rightOf_13 ?_
  refine lv_iconst (v := 1) hx hb dX2_rightOf_14 (by decide) ?_
  refine lv_isub hx hb dX2_rightOf_15 ?_
  exact z_iret hx hb hr rfl hlocks (by rfl) dX2_rightOf_16
set_option maxHeartbeats 1000000 in
set_option maxRecDepth 100000 in
theorem c_X2_bottomOf (l : Launch) (D : va_G) (cI cQ : ClassId) (q : Nat → Nat) (S : CS) (i : Int32) : zRO l yX2_bottomOf (Cond.code yX2_bottomOf cX2_bottomOf 2 (some .int) :: zT) 2 42 [.ref (q 6), .int i] D cI cQ (zPar cI q S) (rBo S i) := by
  refine zRO.of (cc := cX2_bottomOf) (maxL := 2) (ret := some .int) (by decide +kernel) rfl (Nat.le_of_ble_eq_true rfl) ?_
  intro pg e s mi args below meth cd hx hb hr hts hown hlocks hml hP hK ls hl
  have hz : ∀ w ∈ zT, w.before args s = true := fun w h => hts w (List.mem_cons_of_mem _ h)
  have hl : lv_has ls 2 [(0, .ref (q 6)), (1, .int (i))] := hl
  refine lv_aload_n hx hb dX2_bottomOf_0 rfl (lv_at hl 0 rfl) ?_
  refine lv_iload_n hx hb dX2_bottomOf_1 rfl (lv_at hl 1 rfl) ?_
  refine z_ro (va_runV (As := [.int (i)]) (rest := []) ⟨hx, hb, hml, hown, hz⟩ (c_X2_topOf l D cI cQ q S i) (zcwV 1 hz q1_234 q1_221 q1_222 q1_4 q1_223 hd_X2_topOf (Nat.le_of_ble_eq_true rfl) (Nat.le_of_ble_eq_true rfl)) (z_pv (ci := 2) (q := (RX2, TX2, 4)) hK hP rfl rfl) rfl rfl hl.1 rfl (lv_room (Nat.le_of_ble_eq_true rfl)) dX2_bottomOf_2 ⟨(Nat.le_of_ble_eq_true rfl), (Nat.le_of_ble_eq_true rfl)⟩) ?_
  refine lv_aload_n hx hb dX2_bottomOf_5 rfl (lv_at hl 0 rfl) ?_
  refine lv_iload_n hx hb dX2_bottomOf_6 rfl (lv_at hl 1 rfl) ?_
  refine z_ro (va_runV (As := [.int (i)]) (rest := [.int (rTo S i)]) ⟨hx, hb, hml, hown, hz⟩ (c_X2_scaleOf l D cI cQ q S i) (zcwV 1 hz q1_229 q1_209 q1_210 q1_4 q1_211 hd_X2_scaleOf (Nat.le_of_ble_eq_true rfl) (Nat.le_of_ble_eq_true rfl)) (z_pv (ci := 2) (q := (RX2, TX2, 4)) hK hP rfl rfl) rfl rfl hl.1 rfl (lv_room (Nat.le_of_ble_eq_true rfl)) dX2_bottomOf_7 ⟨(Nat.le_of_ble_eq_true rfl), (Nat.le_of_ble_eq_true rfl)⟩) ?_
  refine z_ro (va_runSN (As := [.int (rSc S i)]) (rest := [.int (rTo S i)]) ⟨hx, hb, hml, hown, hz⟩ (c_X5_sideOf l D cI cQ (rSc S i)) (zcnS 1 hz q1_188 q1_1 q1_189 (hK.2.2.2.2.2.2.1) hd_X5_sideOf (Nat.le_of_ble_eq_true rfl) (Nat.le_of_ble_eq_true rfl)) (z_ps hK z_nil) rfl rfl hl.1 rfl (lv_room (Nat.le_of_ble_eq_true rfl)) dX2_bottomOf_10 ⟨(Nat.le_of_ble_eq_true rfl), (Nat.le_of_ble_eq_true rfl)⟩) ?_
  refine lv_iadd hx hb dX2_bottomOf_13 ?_
  refine lv_iconst (v := 1) hx hb dX2_bottomOf_14 (by decide) ?_
  refine lv_isub hx hb dX2_bottomOf_15 ?_
  exact z_iret hx hb hr rfl hlocks (by rfl) dX2_bottomOf_16
set_option maxHeartbeats 1000000 in
set_option maxRecDepth 100000 in
theorem c_X2_giveCell (l : Launch) (D : va_G) (cI cQ : ClassId) (q : Nat → Nat) (S : CS) (pa nl nt ns : Int32) (g1 : FI) (hg1 : g1 = rGiv (sLe S) pa nl) (g2 : FI) (hg2 : g2 = rGiv (sTo S) pa nt) (g3 : FI) (hg3 : g3 = rGiv (sSc S) pa ns) : zWR l yX2_giveCell (Cond.code yX2_giveCell cX2_giveCell 5 (none) :: zT) 1 22 [.ref (q 6), .int pa, .int nl, .int nt, .int ns] D cI cQ (zPar cI q S) none (zPar cI q (uSc (uTo (uLe S g1) g2) g3)) := by
  refine zWR.of (cc := cX2_giveCell) (maxL := 5) (ret := none) (by decide +kernel) rfl (Nat.le_of_ble_eq_true rfl) ?_
  intro pg e s mi args below meth cd hx hb hr hts hown hlocks hml hP hD hS hK ls hl
  have hz : ∀ w ∈ zT, w.before args s = true := fun w h => hts w (List.mem_cons_of_mem _ h)
  have hl : lv_has ls 5 [(0, .ref (q 6)), (1, .int (pa)), (2, .int (nl)), (3, .int (nt)), (4, .int (ns))] := hl
  refine lv_iload_n hx hb dX2_giveCell_0 rfl (lv_at hl 1 rfl) ?_
  refine lv_iconst (v := 0) hx hb dX2_giveCell_1 (by decide) ?_
  refine lv_bipush (v := 39) hx hb dX2_giveCell_2 (by decide) ?_
  refine z_ro (va_runSN (As := [.int (pa), .int (0 : Int32), .int (39 : Int32)]) (rest := []) ⟨hx, hb, hml, hown, hz⟩ (c_X5_isBetween l D cI cQ pa (0 : Int32) (39 : Int32)) (zcnS 3 hz q1_58 q1_1 q1_59 (hK.2.2.2.1) hd_X5_isBetween (Nat.le_of_ble_eq_true rfl) (Nat.le_of_ble_eq_true rfl)) (z_ps hK z_nil) rfl rfl hl.1 rfl (lv_room (Nat.le_of_ble_eq_true rfl)) dX2_giveCell_4 ⟨(Nat.le_of_ble_eq_true rfl), (Nat.le_of_ble_eq_true rfl)⟩) ?_
  refine lv_if_eq (tgt := 32) hx hb dX2_giveCell_7 (by decide) (fun c_7 => ?_) (fun c_7 => ?_)
  · have c_7 : (btw pa (0 : Int32) (39 : Int32)) = false := bI_f c_7
    exact z_wvret hx hb hr hlocks hP hS (congrArg (fun T => zPar cI q T) (show S = uSc (uTo (uLe S g1) g2) g3 from by (try simp only [hg1, hg2, hg3]) <;> (simp [rGiv, c_7, uSc_self, uTo_self, uLe_self]))) dX2_giveCell_32
  · have c_7 : (btw pa (0 : Int32) (39 : Int32)) = true := bI_t c_7
    refine lv_aload_n hx hb dX2_giveCell_10 rfl (lv_at hl 0 rfl) ?_
    refine va_get (D := D) (ci := 2) (v := .ref (q 7)) (C := RX2) (T := TX2) (N := 4) hx hb hz inZ2 hown hK.1 hP 0 rfl rfl 1 (by decide) (hz _ q1_65) (fun _ h9 => h9) rfl dX2_giveCell_11 ?_
    refine lv_iload_n hx hb dX2_giveCell_14 rfl (lv_at hl 1 rfl) ?_
    refine lv_iload_n hx hb dX2_giveCell_15 rfl (lv_at hl 2 rfl) ?_
    refine va_iast hx hb hK.1 hP hD hS 1 0 rfl rfl (i := pa) (btw_in c_7) dX2_giveCell_16 (fun H locs hP hD hS => ?_)
    have hP : va_P D vwCl (zPar cI q (uLe S (upd (sLe S) pa.toNatClampNeg nl))) H := hP
    have hD : va_D (zA (zPar cI q S)) (zPar cI q (uLe S (upd (sLe S) pa.toNatClampNeg nl))) := hD
    refine lv_aload_n hx hb dX2_giveCell_17 rfl (lv_at hl 0 rfl) ?_
    refine va_get (D := D) (ci := 2) (v := .ref (q 8)) (C := RX2) (T := TX2) (N := 4) hx hb hz inZ2 hown hK.1 hP 0 rfl rfl 2 (by decide) (hz _ q1_66) (fun _ h9 => h9) rfl dX2_giveCell_18 ?_
    refine lv_iload_n hx hb dX2_giveCell_21 rfl (lv_at hl 1 rfl) ?_
    refine lv_iload_n hx hb dX2_giveCell_22 rfl (lv_at hl 3 rfl) ?_
    refine va_iast hx hb hK.1 hP hD hS 2 0 rfl rfl (i := pa) (btw_in c_7) dX2_giveCell_23 (fun H locs hP hD hS => ?_)
    have hP : va_P D vwCl (zPar cI q (uTo (uLe S (upd (sLe S) pa.toNatClampNeg nl)) (upd (sTo S) pa.toNatClampNeg nt))) H := hP
    have hD : va_D (zA (zPar cI q S)) (zPar cI q (uTo (uLe S (upd (sLe S) pa.toNatClampNeg nl)) (upd (sTo S) pa.toNatClampNeg nt))) := hD
    refine lv_aload_n hx hb dX2_giveCell_24 rfl (lv_at hl 0 rfl) ?_
    refine va_get (D := D) (ci := 2) (v := .ref (q 9)) (C := RX2) (T := TX2) (N := 4) hx hb hz inZ2 hown hK.1 hP 0 rfl rfl 3 (by decide) (hz _ q1_67) (fun _ h9 => h9) rfl dX2_giveCell_25 ?_
    refine lv_iload_n hx hb dX2_giveCell_28 rfl (lv_at hl 1 rfl) ?_
    refine lv_iload hx hb dX2_giveCell_29 (lv_at hl 4 rfl) ?_
    refine va_iast hx hb hK.1 hP hD hS 3 0 rfl rfl (i := pa) (btw_in c_7) dX2_giveCell_31 (fun H locs hP hD hS => ?_)
    have hP : va_P D vwCl (zPar cI q (uSc (uTo (uLe S (upd (sLe S) pa.toNatClampNeg nl)) (upd (sTo S) pa.toNatClampNeg nt)) (upd (sSc S) pa.toNatClampNeg ns))) H := hP
    have hD : va_D (zA (zPar cI q S)) (zPar cI q (uSc (uTo (uLe S (upd (sLe S) pa.toNatClampNeg nl)) (upd (sTo S) pa.toNatClampNeg nt)) (upd (sSc S) pa.toNatClampNeg ns))) := hD
    exact z_wvret hx hb hr hlocks hP hS (congrArg (fun T => zPar cI q T) (show uSc (uTo (uLe S (upd (sLe S) pa.toNatClampNeg nl)) (upd (sTo S) pa.toNatClampNeg nt)) (upd (sSc S) pa.toNatClampNeg ns) = uSc (uTo (uLe S g1) g2) g3 from by (try simp only [hg1, hg2, hg3]) <;> (simp [rGiv, c_7, uSc_self, uTo_self, uLe_self]))) dX2_giveCell_32
set_option maxHeartbeats 1000000 in
set_option maxRecDepth 100000 in
theorem c_X2_found (l : Launch) (D : va_G) (cI cQ : ClassId) (q : Nat → Nat) (S : CS) (nl nt ns : Int32) (g1 : Int32) (hg1 : g1 = rFo1 S) (g2 : FI) (hg2 : g2 = rGiv (sLe S) (sFo S) nl) (g3 : FI) (hg3 : g3 = rGiv (sTo S) (sFo S) nt) (g4 : FI) (hg4 : g4 = rGiv (sSc S) (sFo S) ns) : zWR l yX2_found (Cond.code yX2_found cX2_found 5 (some .int) :: zT) 2 46 [.ref (q 6), .int nl, .int nt, .int ns] D cI cQ (zPar cI q S) (some (.int ((if rRoom S then sFo S else -9)))) (zPar cI q (uSc (uTo (uLe (uFo S g1) g2) g3) g4)) := by
  refine zWR.of (cc := cX2_found) (maxL := 5) (ret := some .int) (by decide +kernel) rfl (Nat.le_of_ble_eq_true rfl) ?_
  intro pg e s mi args below meth cd hx hb hr hts hown hlocks hml hP hD hS hK ls hl
  have hz : ∀ w ∈ zT, w.before args s = true := fun w h => hts w (List.mem_cons_of_mem _ h)
  have hl : lv_has ls 5 [(0, .ref (q 6)), (1, .int (nl)), (2, .int (nt)), (3, .int (ns))] := hl
  refine lv_aload_n hx hb dX2_found_0 rfl (lv_at hl 0 rfl) ?_
  refine va_get (D := D) (ci := 2) (v := .int (sFo S)) (C := RX2) (T := TX2) (N := 4) hx hb hz inZ2 hown hK.1 hP 0 rfl rfl 0 (by decide) (hz _ q1_64) (fun _ h9 => h9) rfl dX2_found_1 ?_
  refine lv_istore (lv' := [(4, .int (sFo S)), (0, .ref (q 6)), (1, .int (nl)), (2, .int (nt)), (3, .int (ns))]) hx hb dX2_found_4 hl (by decide) rfl (fun ls hl => ?_)
  refine lv_iload hx hb dX2_found_6 (lv_at hl 0 rfl) ?_
  refine lv_iconst (v := 0) hx hb dX2_found_8 (by decide) ?_
  refine lv_bipush (v := 39) hx hb dX2_found_9 (by decide) ?_
  refine z_ro (va_runSN (As := [.int (sFo S), .int (0 : Int32), .int (39 : Int32)]) (rest := []) ⟨hx, hb, hml, hown, hz⟩ (c_X5_isBetween l D cI cQ (sFo S) (0 : Int32) (39 : Int32)) (zcnS 3 hz q1_58 q1_1 q1_59 (hK.2.2.2.1) hd_X5_isBetween (Nat.le_of_ble_eq_true rfl) (Nat.le_of_ble_eq_true rfl)) (z_ps hK z_nil) rfl rfl hl.1 rfl (lv_room (Nat.le_of_ble_eq_true rfl)) dX2_found_11 ⟨(Nat.le_of_ble_eq_true rfl), (Nat.le_of_ble_eq_true rfl)⟩) ?_
  refine lv_if_ne (tgt := 20) hx hb dX2_found_14 (by decide) (fun c_14 => ?_) (fun c_14 => ?_)
  · have c_14 : (btw (sFo S) (0 : Int32) (39 : Int32)) = true := bI_t c_14
    refine lv_aload_n hx hb dX2_found_20 rfl (lv_at hl 1 rfl) ?_
    refine lv_dup hx hb dX2_found_21 rfl ?_
    refine va_get (D := D) (ci := 2) (v := .int (sFo S)) (C := RX2) (T := TX2) (N := 4) hx hb hz inZ2 hown hK.1 hP 0 rfl rfl 0 (by decide) (hz _ q1_64) (fun _ h9 => h9) rfl dX2_found_22 ?_
    refine lv_iconst (v := 1) hx hb dX2_found_25 (by decide) ?_
    refine lv_iadd hx hb dX2_found_26 ?_
    refine va_put (D := D) (ci := 2) (v := .int ((sFo S) + (1 : Int32))) (ty := .int) (C := RX2) (T := TX2) (N := 4) hx hb hz inZ2 tyX2 tyX2_ok nmX2 hown hK.1 hP hD hS 0 rfl rfl 0 (by decide) (hz _ q1_64) (fun _ h9 => h9) rfl (by decide +kernel) rfl rfl (Nat.le_of_ble_eq_true rfl) dX2_found_27 (fun H locs hP hD hS => ?_)
    have hP : va_P D vwCl (zPar cI q (uFo S ((sFo S) + (1 : Int32)))) H := hP
    have hD : va_D (zA (zPar cI q S)) (zPar cI q (uFo S ((sFo S) + (1 : Int32)))) := hD
    refine lv_aload_n hx hb dX2_found_30 rfl (lv_at hl 1 rfl) ?_
    refine lv_iload hx hb dX2_found_31 (lv_at hl 0 rfl) ?_
    refine lv_iload_n hx hb dX2_found_33 rfl (lv_at hl 2 rfl) ?_
    refine lv_iload_n hx hb dX2_found_34 rfl (lv_at hl 3 rfl) ?_
    refine lv_iload_n hx hb dX2_found_35 rfl (lv_at hl 4 rfl) ?_
    obtain ⟨g_1, hg_1⟩ : ∃ z : FI, z = rGiv ((sLe S)) (sFo S) nl := ⟨_, rfl⟩
    obtain ⟨g_2, hg_2⟩ : ∃ z : FI, z = rGiv ((sTo S)) (sFo S) nt := ⟨_, rfl⟩
    obtain ⟨g_3, hg_3⟩ : ∃ z : FI, z = rGiv ((sSc S)) (sFo S) ns := ⟨_, rfl⟩
    refine z_wv (X' := zPar cI q (uSc (uTo (uLe (uFo S ((sFo S) + (1 : Int32))) g_1) g_2) g_3)) (va_runV (As := [.int (sFo S), .int (nl), .int (nt), .int (ns)]) (rest := []) ⟨hx, hb, hml, hown, hz⟩ (c_X2_giveCell l D cI cQ q (uFo S ((sFo S) + (1 : Int32))) (sFo S) nl nt ns g_1 hg_1 g_2 hg_2 g_3 hg_3) (zcwV 4 hz q1_60 q1_61 q1_62 q1_4 q1_63 hd_X2_giveCell (Nat.le_of_ble_eq_true rfl) (Nat.le_of_ble_eq_true rfl)) (z_pvw (ci := 2) (q := (RX2, TX2, 4)) hK hP hD rfl rfl) rfl rfl hl.1 rfl (lv_room (Nat.le_of_ble_eq_true rfl)) dX2_found_36 ⟨(Nat.le_of_ble_eq_true rfl), (Nat.le_of_ble_eq_true rfl)⟩) hP hD hS [0, 1, 2, 3] rfl rfl rfl (fun H locs hP hD hS => ?_)
    refine lv_iload hx hb dX2_found_39 (lv_at hl 0 rfl) ?_
    exact z_wiret hx hb hr rfl hlocks hP hS (by (try simp only [hg_3, hg_2, hg_1, hg1, hg2, hg3, hg4]) <;> (simp [rRoom, c_14])) (congrArg (fun T => zPar cI q T) (show uSc (uTo (uLe (uFo S ((sFo S) + (1 : Int32))) g_1) g_2) g_3 = uSc (uTo (uLe (uFo S g1) g2) g3) g4 from by (try simp only [hg_3, hg_2, hg_1, hg1, hg2, hg3, hg4]) <;> (simp [rFo1, rRoom, c_14, rGiv, uSc_self, uTo_self, uLe_self, uFo_self]))) dX2_found_41
  · have c_14 : (btw (sFo S) (0 : Int32) (39 : Int32)) = false := bI_f c_14
    refine lv_bipush (v := (-9)) hx hb dX2_found_17 (by decide) ?_
    exact z_wiret hx hb hr rfl hlocks hP hS (by (try simp only [hg1, hg2, hg3, hg4]) <;> (simp [rRoom, c_14])) (congrArg (fun T => zPar cI q T) (show S = uSc (uTo (uLe (uFo S g1) g2) g3) g4 from by (try simp only [hg1, hg2, hg3, hg4]) <;> (simp [rFo1, rRoom, c_14, rGiv, uSc_self, uTo_self, uLe_self, uFo_self]))) dX2_found_19
set_option maxHeartbeats 1000000 in
set_option maxRecDepth 100000 in
theorem c_X2_dissolve (l : Launch) (D : va_G) (cI cQ : ClassId) (q : Nat → Nat) (S : CS) (pa : Int32) (g1 : FI) (hg1 : g1 = rDis S pa) : zWR l yX2_dissolve (Cond.code yX2_dissolve cX2_dissolve 2 (none) :: zT) 1 21 [.ref (q 6), .int pa] D cI cQ (zPar cI q S) none (zPar cI q (uSc S g1)) := by
  refine zWR.of (cc := cX2_dissolve) (maxL := 2) (ret := none) (by decide +kernel) rfl (Nat.le_of_ble_eq_true rfl) ?_
  intro pg e s mi args below meth cd hx hb hr hts hown hlocks hml hP hD hS hK ls hl
  have hz : ∀ w ∈ zT, w.before args s = true := fun w h => hts w (List.mem_cons_of_mem _ h)
  have hl : lv_has ls 2 [(0, .ref (q 6)), (1, .int (pa))] := hl
  refine lv_aload_n hx hb dX2_dissolve_0 rfl (lv_at hl 0 rfl) ?_
  refine lv_iload_n hx hb dX2_dissolve_1 rfl (lv_at hl 1 rfl) ?_
  refine z_ro (va_runV (As := [.int (pa)]) (rest := []) ⟨hx, hb, hml, hown, hz⟩ (c_X2_exists l D cI cQ q S pa) (zcwV 1 hz q1_183 q1_184 q1_185 q1_4 q1_186 hd_X2_exists (Nat.le_of_ble_eq_true rfl) (Nat.le_of_ble_eq_true rfl)) (z_pv (ci := 2) (q := (RX2, TX2, 4)) hK hP rfl rfl) rfl rfl hl.1 rfl (lv_room (Nat.le_of_ble_eq_true rfl)) dX2_dissolve_2 ⟨(Nat.le_of_ble_eq_true rfl), (Nat.le_of_ble_eq_true rfl)⟩) ?_
  refine lv_if_eq (tgt := 15) hx hb dX2_dissolve_5 (by decide) (fun c_5 => ?_) (fun c_5 => ?_)
  · have c_5 : (rEx S pa) = false := bI_f c_5
    exact z_wvret hx hb hr hlocks hP hS (congrArg (fun T => zPar cI q T) (show S = uSc S g1 from by (try simp only [hg1]) <;> (simp [rDis, c_5, uSc_self]))) dX2_dissolve_15
  · have c_5 : (rEx S pa) = true := bI_t c_5
    refine lv_aload_n hx hb dX2_dissolve_8 rfl (lv_at hl 0 rfl) ?_
    refine va_get (D := D) (ci := 2) (v := .ref (q 9)) (C := RX2) (T := TX2) (N := 4) hx hb hz inZ2 hown hK.1 hP 0 rfl rfl 3 (by decide) (hz _ q1_67) (fun _ h9 => h9) rfl dX2_dissolve_9 ?_
    refine lv_iload_n hx hb dX2_dissolve_12 rfl (lv_at hl 1 rfl) ?_
    refine lv_iconst (v := (-1)) hx hb dX2_dissolve_13 (by decide) ?_
    refine va_iast hx hb hK.1 hP hD hS 3 0 rfl rfl (i := pa) (rEx_in c_5) dX2_dissolve_14 (fun H locs hP hD hS => ?_)
    have hP : va_P D vwCl (zPar cI q (uSc S (upd (sSc S) pa.toNatClampNeg (-1 : Int32)))) H := hP
    have hD : va_D (zA (zPar cI q S)) (zPar cI q (uSc S (upd (sSc S) pa.toNatClampNeg (-1 : Int32)))) := hD
    exact z_wvret hx hb hr hlocks hP hS (congrArg (fun T => zPar cI q T) (show uSc S (upd (sSc S) pa.toNatClampNeg (-1 : Int32)) = uSc S g1 from by (try simp only [hg1]) <;> (simp [rDis, c_5, uSc_self]))) dX2_dissolve_15
set_option maxHeartbeats 1000000 in
set_option maxRecDepth 100000 in
theorem c_X2_touches (l : Launch) (D : va_G) (cI cQ : ClassId) (q : Nat → Nat) (S : CS) (i x y tx ty : Int32) : zRO l yX2_touches (Cond.code yX2_touches cX2_touches 7 (some .boolean) :: zT) 1 21 [.ref (q 6), .int i, .int x, .int y, .int tx, .int ty] D cI cQ (zPar cI q S) (bI (rTou S i x y tx ty)) := by
  refine zRO.of (cc := cX2_touches) (maxL := 7) (ret := some .boolean) (by decide +kernel) rfl (Nat.le_of_ble_eq_true rfl) ?_
  intro pg e s mi args below meth cd hx hb hr hts hown hlocks hml hP hK ls hl
  have hz : ∀ w ∈ zT, w.before args s = true := fun w h => hts w (List.mem_cons_of_mem _ h)
  have hl : lv_has ls 7 [(0, .ref (q 6)), (1, .int (i)), (2, .int (x)), (3, .int (y)), (4, .int (tx)), (5, .int (ty))] := hl
  refine lv_aload_n hx hb dX2_touches_0 rfl (lv_at hl 0 rfl) ?_
  refine lv_iload_n hx hb dX2_touches_1 rfl (lv_at hl 1 rfl) ?_
  refine z_ro (va_runV (As := [.int (i)]) (rest := []) ⟨hx, hb, hml, hown, hz⟩ (c_X2_exists l D cI cQ q S i) (zcwV 1 hz q1_183 q1_184 q1_185 q1_4 q1_186 hd_X2_exists (Nat.le_of_ble_eq_true rfl) (Nat.le_of_ble_eq_true rfl)) (z_pv (ci := 2) (q := (RX2, TX2, 4)) hK hP rfl rfl) rfl rfl hl.1 rfl (lv_room (Nat.le_of_ble_eq_true rfl)) dX2_touches_2 ⟨(Nat.le_of_ble_eq_true rfl), (Nat.le_of_ble_eq_true rfl)⟩) ?_
  refine lv_if_ne (tgt := 10) hx hb dX2_touches_5 (by decide) (fun c_5 => ?_) (fun c_5 => ?_)
  · have c_5 : (rEx S i) = true := bI_t c_5
    refine lv_aload_n hx hb dX2_touches_10 rfl (lv_at hl 0 rfl) ?_
    refine va_get (D := D) (ci := 2) (v := .ref (q 9)) (C := RX2) (T := TX2) (N := 4) hx hb hz inZ2 hown hK.1 hP 0 rfl rfl 3 (by decide) (hz _ q1_67) (fun _ h9 => h9) rfl dX2_touches_11 ?_
    refine lv_iload_n hx hb dX2_touches_14 rfl (lv_at hl 1 rfl) ?_
    refine va_iald (f := sSc S) hx hb hK.1 hP 3 0 rfl rfl (i := i) (rEx_in c_5) dX2_touches_15 ?_
    refine z_ro (va_runSN (As := [.int ((sSc S) i.toNatClampNeg)]) (rest := []) ⟨hx, hb, hml, hown, hz⟩ (c_X5_sideOf l D cI cQ ((sSc S) i.toNatClampNeg)) (zcnS 1 hz q1_188 q1_1 q1_189 (hK.2.2.2.2.2.2.1) hd_X5_sideOf (Nat.le_of_ble_eq_true rfl) (Nat.le_of_ble_eq_true rfl)) (z_ps hK z_nil) rfl rfl hl.1 rfl (lv_room (Nat.le_of_ble_eq_true rfl)) dX2_touches_16 ⟨(Nat.le_of_ble_eq_true rfl), (Nat.le_of_ble_eq_true rfl)⟩) ?_
    refine lv_istore (lv' := [(6, .int (sideF ((sSc S) i.toNatClampNeg))), (0, .ref (q 6)), (1, .int (i)), (2, .int (x)), (3, .int (y)), (4, .int (tx)), (5, .int (ty))]) hx hb dX2_touches_19 hl (by decide) rfl (fun ls hl => ?_)
    refine lv_aload_n hx hb dX2_touches_21 rfl (lv_at hl 1 rfl) ?_
    refine va_get (D := D) (ci := 2) (v := .ref (q 7)) (C := RX2) (T := TX2) (N := 4) hx hb hz inZ2 hown hK.1 hP 0 rfl rfl 1 (by decide) (hz _ q1_65) (fun _ h9 => h9) rfl dX2_touches_22 ?_
    refine lv_iload_n hx hb dX2_touches_25 rfl (lv_at hl 2 rfl) ?_
    refine va_iald (f := sLe S) hx hb hK.1 hP 1 0 rfl rfl (i := i) (rEx_in c_5) dX2_touches_26 ?_
    refine lv_iload hx hb dX2_touches_27 (lv_at hl 5 rfl) ?_
    refine lv_icmp_gt (tgt := 73) hx hb dX2_touches_29 (by decide) (fun c_29 => ?_) (fun c_29 => ?_)
    · have c_29 : (tx : Int32) < (sLe S) i.toNatClampNeg := c_29
      refine lv_iconst (v := 0) hx hb dX2_touches_73 (by decide) ?_
      exact z_iret hx hb hr rfl hlocks (by simp [rTou, bI, c_5, c_29]) dX2_touches_74
    · have c_29 : ¬ ((tx : Int32) < (sLe S) i.toNatClampNeg) := c_29
      refine lv_aload_n hx hb dX2_touches_32 rfl (lv_at hl 1 rfl) ?_
      refine va_get (D := D) (ci := 2) (v := .ref (q 7)) (C := RX2) (T := TX2) (N := 4) hx hb hz inZ2 hown hK.1 hP 0 rfl rfl 1 (by decide) (hz _ q1_65) (fun _ h9 => h9) rfl dX2_touches_33 ?_
      refine lv_iload_n hx hb dX2_touches_36 rfl (lv_at hl 2 rfl) ?_
      refine va_iald (f := sLe S) hx hb hK.1 hP 1 0 rfl rfl (i := i) (rEx_in c_5) dX2_touches_37 ?_
      refine lv_iload hx hb dX2_touches_38 (lv_at hl 0 rfl) ?_
      refine lv_iadd hx hb dX2_touches_40 ?_
      refine lv_iload_n hx hb dX2_touches_41 rfl (lv_at hl 3 rfl) ?_
      refine lv_icmp_le (tgt := 73) hx hb dX2_touches_42 (by decide) (fun c_42 => ?_) (fun c_42 => ?_)
      · have c_42 : (((sLe S) i.toNatClampNeg) + (sideF ((sSc S) i.toNatClampNeg)) : Int32) ≤ x := c_42
        refine lv_iconst (v := 0) hx hb dX2_touches_73 (by decide) ?_
        exact z_iret hx hb hr rfl hlocks (by simp [rTou, bI, c_5, c_29, c_42]) dX2_touches_74
      · have c_42 : ¬ ((((sLe S) i.toNatClampNeg) + (sideF ((sSc S) i.toNatClampNeg)) : Int32) ≤ x) := c_42
        refine lv_aload_n hx hb dX2_touches_45 rfl (lv_at hl 1 rfl) ?_
        refine va_get (D := D) (ci := 2) (v := .ref (q 8)) (C := RX2) (T := TX2) (N := 4) hx hb hz inZ2 hown hK.1 hP 0 rfl rfl 2 (by decide) (hz _ q1_66) (fun _ h9 => h9) rfl dX2_touches_46 ?_
        refine lv_iload_n hx hb dX2_touches_49 rfl (lv_at hl 2 rfl) ?_
        refine va_iald (f := sTo S) hx hb hK.1 hP 2 0 rfl rfl (i := i) (rEx_in c_5) dX2_touches_50 ?_
        refine lv_iload hx hb dX2_touches_51 (lv_at hl 6 rfl) ?_
        refine lv_icmp_gt (tgt := 73) hx hb dX2_touches_53 (by decide) (fun c_53 => ?_) (fun c_53 => ?_)
        · have c_53 : (ty : Int32) < (sTo S) i.toNatClampNeg := c_53
          refine lv_iconst (v := 0) hx hb dX2_touches_73 (by decide) ?_
          exact z_iret hx hb hr rfl hlocks (by simp [rTou, bI, c_5, c_29, c_42, c_53]) dX2_touches_74
        · have c_53 : ¬ ((ty : Int32) < (sTo S) i.toNatClampNeg) := c_53
          refine lv_aload_n hx hb dX2_touches_56 rfl (lv_at hl 1 rfl) ?_
          refine va_get (D := D) (ci := 2) (v := .ref (q 8)) (C := RX2) (T := TX2) (N := 4) hx hb hz inZ2 hown hK.1 hP 0 rfl rfl 2 (by decide) (hz _ q1_66) (fun _ h9 => h9) rfl dX2_touches_57 ?_
          refine lv_iload_n hx hb dX2_touches_60 rfl (lv_at hl 2 rfl) ?_
          refine va_iald (f := sTo S) hx hb hK.1 hP 2 0 rfl rfl (i := i) (rEx_in c_5) dX2_touches_61 ?_
          refine lv_iload hx hb dX2_touches_62 (lv_at hl 0 rfl) ?_
          refine lv_iadd hx hb dX2_touches_64 ?_
          refine lv_iload_n hx hb dX2_touches_65 rfl (lv_at hl 4 rfl) ?_
          refine lv_icmp_le (tgt := 73) hx hb dX2_touches_66 (by decide) (fun c_66 => ?_) (fun c_66 => ?_)
          · have c_66 : (((sTo S) i.toNatClampNeg) + (sideF ((sSc S) i.toNatClampNeg)) : Int32) ≤ y := c_66
            refine lv_iconst (v := 0) hx hb dX2_touches_73 (by decide) ?_
            exact z_iret hx hb hr rfl hlocks (by simp [rTou, bI, c_5, c_29, c_42, c_53, c_66]) dX2_touches_74
          · have c_66 : ¬ ((((sTo S) i.toNatClampNeg) + (sideF ((sSc S) i.toNatClampNeg)) : Int32) ≤ y) := c_66
            refine lv_iconst (v := 1) hx hb dX2_touches_69 (by decide) ?_
            refine lv_goto (tgt := 74) hx hb dX2_touches_70 (by decide) ?_
            exact z_iret hx hb hr rfl hlocks (by simp [rTou, bI, c_5, c_29, c_42, c_53, c_66]) dX2_touches_74
  · have c_5 : (rEx S i) = false := bI_f c_5
    refine lv_iconst (v := 0) hx hb dX2_touches_8 (by decide) ?_
    exact z_iret hx hb hr rfl hlocks (by simp [rTou, bI, c_5]) dX2_touches_9
set_option maxHeartbeats 1000000 in
set_option maxRecDepth 100000 in
theorem c_X2_parishAt (l : Launch) (D : va_G) (cI cQ : ClassId) (q : Nat → Nat) (S : CS) (x y : Int32) : zRO l yX2_parishAt (Cond.code yX2_parishAt cX2_parishAt 4 (some .int) :: zT) 2 47 [.ref (q 6), .int x, .int y] D cI cQ (zPar cI q S) (rAt S x y) := by
  refine zRO.of (cc := cX2_parishAt) (maxL := 4) (ret := some .int) (by decide +kernel) rfl (Nat.le_of_ble_eq_true rfl) ?_
  intro pg e s mi args below meth cd hx hb hr hts hown hlocks hml hP hK ls hl
  have hz : ∀ w ∈ zT, w.before args s = true := fun w h => hts w (List.mem_cons_of_mem _ h)
  have hl : lv_has ls 4 [(0, .ref (q 6)), (1, .int (x)), (2, .int (y))] := hl
  refine lv_iconst (v := 0) hx hb dX2_parishAt_0 (by decide) ?_
  refine lv_istore_n (lv' := [(3, .int (0 : Int32)), (0, .ref (q 6)), (1, .int (x)), (2, .int (y))]) hx hb dX2_parishAt_1 rfl hl (by decide) rfl (fun ls hl => ?_)
  have L2 : ∀ (n2 k2 : Nat), k2 ≤ 40 → 40 < k2 + n2 → (rAt S x y = fnd (fun k => rTou S (nI k) x y x y) (40 - k2) k2) → ∀ (ls : Array Slot), lv_has ls 4 [(3, .int (nI k2)), (0, .ref (q 6)), (1, .int (x)), (2, .int (y))] → W pg l e ({ frames := 2, cells := 0, slots := 0, locals := 47 }) s mi args below meth cd s.heap [] 0 0 (MQ below (vp_Si (fun r => r = rAt S x y)) args s 0 0 (fun _ => False)) (F0 mi 2 ls []) := by
    intro n2
    induction n2 with
    | zero => intro k2 h1 h2; exact absurd h2 (by omega)
    | succ n2 ih2 =>
      intro k2 h1_2 h2_2 he ls hl
      refine lv_iload_n hx hb dX2_parishAt_2 rfl (lv_at hl 0 rfl) ?_
      refine lv_bipush (v := 40) hx hb dX2_parishAt_3 (by decide) ?_
      refine lv_icmp_ge (tgt := 28) hx hb dX2_parishAt_5 (by decide) (fun c_5 => ?_) (fun c_5 => ?_)
      · have c_5 : ((40 : Int32) : Int32) ≤ nI k2 := c_5
        have hk_2 : k2 = 40 := z_exit (by decide) h1_2 c_5
        refine lv_bipush (v := (-9)) hx hb dX2_parishAt_28 (by decide) ?_
        exact z_iret hx hb hr rfl hlocks (by rw [he, hk_2]; rfl) dX2_parishAt_30
      · have c_5 : ¬ (((40 : Int32) : Int32) ≤ nI k2) := c_5
        have hk_2 : k2 < 40 := z_cont (by decide) h1_2 c_5
        refine lv_aload_n hx hb dX2_parishAt_8 rfl (lv_at hl 1 rfl) ?_
        refine lv_iload_n hx hb dX2_parishAt_9 rfl (lv_at hl 0 rfl) ?_
        refine lv_iload_n hx hb dX2_parishAt_10 rfl (lv_at hl 2 rfl) ?_
        refine lv_iload_n hx hb dX2_parishAt_11 rfl (lv_at hl 3 rfl) ?_
        refine lv_iload_n hx hb dX2_parishAt_12 rfl (lv_at hl 2 rfl) ?_
        refine lv_iload_n hx hb dX2_parishAt_13 rfl (lv_at hl 3 rfl) ?_
        refine z_ro (va_runV (As := [.int (nI k2), .int (x), .int (y), .int (x), .int (y)]) (rest := []) ⟨hx, hb, hml, hown, hz⟩ (c_X2_touches l D cI cQ q S (nI k2) x y x y) (zcwV 5 hz q1_179 q1_181 qs_0 q1_4 q1_182 hd_X2_touches (Nat.le_of_ble_eq_true rfl) (Nat.le_of_ble_eq_true rfl)) (z_pv (ci := 2) (q := (RX2, TX2, 4)) hK hP rfl rfl) rfl rfl hl.1 rfl (lv_room (Nat.le_of_ble_eq_true rfl)) dX2_parishAt_14 ⟨(Nat.le_of_ble_eq_true rfl), (Nat.le_of_ble_eq_true rfl)⟩) ?_
        refine lv_if_eq (tgt := 22) hx hb dX2_parishAt_17 (by decide) (fun c_17 => ?_) (fun c_17 => ?_)
        · have c_17 : (rTou S (nI k2) x y x y) = false := bI_f c_17
          refine lv_iinc (v := (nI k2) + 1) (lv' := [(3, .int ((nI k2) + 1)), (0, .ref (q 6)), (1, .int (x)), (2, .int (y))]) hx hb dX2_parishAt_22 hl (k := 0) rfl rfl (by decide) rfl (fun ls hl => ?_)
          refine lv_goto (tgt := 2) hx hb dX2_parishAt_25 (by decide) ?_
          have e2_3 : (nI (k2 + 1) : Int32) = (nI k2) + 1 := (nI_1 _).symm
          exact ih2 (k2 + 1) (by omega) (by omega) (he.trans (fnd_no hk_2 c_17)) _ (by (try rw [e2_3]); exact lv_sub hl [0, 1, 2, 3] rfl)
        · have c_17 : (rTou S (nI k2) x y x y) = true := bI_t c_17
          refine lv_iload_n hx hb dX2_parishAt_20 rfl (lv_at hl 0 rfl) ?_
          exact z_iret hx hb hr rfl hlocks (by exact (he.trans (fnd_yes hk_2 c_17)).symm) dX2_parishAt_21
  have e2_3 : (nI 0 : Int32) = (0 : Int32) := rfl
  exact L2 (40 + 1) (0) (Nat.zero_le _) (by omega) (rfl) _ (by (try rw [e2_3]); exact lv_sub hl [0, 1, 2, 3] rfl)
set_option maxHeartbeats 1000000 in
set_option maxRecDepth 100000 in
theorem c_X2_numberTouching (l : Launch) (D : va_G) (cI cQ : ClassId) (q : Nat → Nat) (S : CS) (x y tx ty : Int32) : zRO l yX2_numberTouching (Cond.code yX2_numberTouching cX2_numberTouching 7 (some .int) :: zT) 2 47 [.ref (q 6), .int x, .int y, .int tx, .int ty] D cI cQ (zPar cI q S) (rNumT S x y tx ty 40) := by
  refine zRO.of (cc := cX2_numberTouching) (maxL := 7) (ret := some .int) (by decide +kernel) rfl (Nat.le_of_ble_eq_true rfl) ?_
  intro pg e s mi args below meth cd hx hb hr hts hown hlocks hml hP hK ls hl
  have hz : ∀ w ∈ zT, w.before args s = true := fun w h => hts w (List.mem_cons_of_mem _ h)
  have hl : lv_has ls 7 [(0, .ref (q 6)), (1, .int (x)), (2, .int (y)), (3, .int (tx)), (4, .int (ty))] := hl
  refine lv_iconst (v := 0) hx hb dX2_numberTouching_0 (by decide) ?_
  refine lv_istore (lv' := [(5, .int (0 : Int32)), (0, .ref (q 6)), (1, .int (x)), (2, .int (y)), (3, .int (tx)), (4, .int (ty))]) hx hb dX2_numberTouching_1 hl (by decide) rfl (fun ls hl => ?_)
  refine lv_iconst (v := 0) hx hb dX2_numberTouching_3 (by decide) ?_
  refine lv_istore (lv' := [(6, .int (0 : Int32)), (5, .int (0 : Int32)), (0, .ref (q 6)), (1, .int (x)), (2, .int (y)), (3, .int (tx)), (4, .int (ty))]) hx hb dX2_numberTouching_4 hl (by decide) rfl (fun ls hl => ?_)
  have L6 : ∀ (n6 k6 : Nat), k6 ≤ 40 → 40 < k6 + n6 → ∀ (ls : Array Slot), lv_has ls 7 [(6, .int (nI k6)), (5, .int (rNumT S x y tx ty k6)), (0, .ref (q 6)), (1, .int (x)), (2, .int (y)), (3, .int (tx)), (4, .int (ty))] → W pg l e ({ frames := 2, cells := 0, slots := 0, locals := 47 }) s mi args below meth cd s.heap [] 0 0 (MQ below (vp_Si (fun r => r = rNumT S x y tx ty 40)) args s 0 0 (fun _ => False)) (F0 mi 6 ls []) := by
    intro n6
    induction n6 with
    | zero => intro k6 h1 h2; exact absurd h2 (by omega)
    | succ n6 ih6 =>
      intro k6 h1_6 h2_6  ls hl
      refine lv_iload hx hb dX2_numberTouching_6 (lv_at hl 0 rfl) ?_
      refine lv_bipush (v := 40) hx hb dX2_numberTouching_8 (by decide) ?_
      refine lv_icmp_ge (tgt := 36) hx hb dX2_numberTouching_10 (by decide) (fun c_10 => ?_) (fun c_10 => ?_)
      · have c_10 : ((40 : Int32) : Int32) ≤ nI k6 := c_10
        have hk_6 : k6 = 40 := z_exit (by decide) h1_6 c_10
        refine lv_iload hx hb dX2_numberTouching_36 (lv_at hl 1 rfl) ?_
        exact z_iret hx hb hr rfl hlocks (by rw [hk_6]) dX2_numberTouching_38
      · have c_10 : ¬ (((40 : Int32) : Int32) ≤ nI k6) := c_10
        have hk_6 : k6 < 40 := z_cont (by decide) h1_6 c_10
        refine lv_aload_n hx hb dX2_numberTouching_13 rfl (lv_at hl 2 rfl) ?_
        refine lv_iload hx hb dX2_numberTouching_14 (lv_at hl 0 rfl) ?_
        refine lv_iload_n hx hb dX2_numberTouching_16 rfl (lv_at hl 3 rfl) ?_
        refine lv_iload_n hx hb dX2_numberTouching_17 rfl (lv_at hl 4 rfl) ?_
        refine lv_iload_n hx hb dX2_numberTouching_18 rfl (lv_at hl 5 rfl) ?_
        refine lv_iload hx hb dX2_numberTouching_19 (lv_at hl 6 rfl) ?_
        refine z_ro (va_runV (As := [.int (nI k6), .int (x), .int (y), .int (tx), .int (ty)]) (rest := []) ⟨hx, hb, hml, hown, hz⟩ (c_X2_touches l D cI cQ q S (nI k6) x y tx ty) (zcwV 5 hz q1_179 q1_181 qs_0 q1_4 q1_182 hd_X2_touches (Nat.le_of_ble_eq_true rfl) (Nat.le_of_ble_eq_true rfl)) (z_pv (ci := 2) (q := (RX2, TX2, 4)) hK hP rfl rfl) rfl rfl hl.1 rfl (lv_room (Nat.le_of_ble_eq_true rfl)) dX2_numberTouching_21 ⟨(Nat.le_of_ble_eq_true rfl), (Nat.le_of_ble_eq_true rfl)⟩) ?_
        refine lv_if_eq (tgt := 30) hx hb dX2_numberTouching_24 (by decide) (fun c_24 => ?_) (fun c_24 => ?_)
        · have c_24 : (rTou S (nI k6) x y tx ty) = false := bI_f c_24
          refine lv_iinc (v := (nI k6) + 1) (lv' := [(6, .int ((nI k6) + 1)), (5, .int (rNumT S x y tx ty k6)), (0, .ref (q 6)), (1, .int (x)), (2, .int (y)), (3, .int (tx)), (4, .int (ty))]) hx hb dX2_numberTouching_30 hl (k := 0) rfl rfl (by decide) rfl (fun ls hl => ?_)
          refine lv_goto (tgt := 6) hx hb dX2_numberTouching_33 (by decide) ?_
          have e6_6 : (nI (k6 + 1) : Int32) = (nI k6) + 1 := (nI_1 _).symm
          have e6_5 : (rNumT S x y tx ty (k6 + 1) : Int32) = rNumT S x y tx ty k6 := (by simp [rNumT, c_10, c_24])
          exact ih6 (k6 + 1) (by omega) (by omega) _ (by (try rw [e6_6]); (try rw [e6_5]); exact lv_sub hl [0, 1, 2, 3, 4, 5, 6] rfl)
        · have c_24 : (rTou S (nI k6) x y tx ty) = true := bI_t c_24
          refine lv_iinc (v := (rNumT S x y tx ty k6) + 1) (lv' := [(5, .int ((rNumT S x y tx ty k6) + 1)), (6, .int (nI k6)), (0, .ref (q 6)), (1, .int (x)), (2, .int (y)), (3, .int (tx)), (4, .int (ty))]) hx hb dX2_numberTouching_27 hl (k := 1) rfl rfl (by decide) rfl (fun ls hl => ?_)
          refine lv_iinc (v := (nI k6) + 1) (lv' := [(6, .int ((nI k6) + 1)), (5, .int ((rNumT S x y tx ty k6) + 1)), (0, .ref (q 6)), (1, .int (x)), (2, .int (y)), (3, .int (tx)), (4, .int (ty))]) hx hb dX2_numberTouching_30 hl (k := 1) rfl rfl (by decide) rfl (fun ls hl => ?_)
          refine lv_goto (tgt := 6) hx hb dX2_numberTouching_33 (by decide) ?_
          have e6_6 : (nI (k6 + 1) : Int32) = (nI k6) + 1 := (nI_1 _).symm
          have e6_5 : (rNumT S x y tx ty (k6 + 1) : Int32) = (rNumT S x y tx ty k6) + 1 := (by simp [rNumT, c_10, c_24])
          exact ih6 (k6 + 1) (by omega) (by omega) _ (by (try rw [e6_6]); (try rw [e6_5]); exact lv_sub hl [0, 1, 2, 3, 4, 5, 6] rfl)
  have e6_6 : (nI 0 : Int32) = (0 : Int32) := rfl
  have e6_5 : (rNumT S x y tx ty 0 : Int32) = (0 : Int32) := (by rfl)
  exact L6 (40 + 1) (0) (Nat.zero_le _) (by omega) _ (by (try rw [e6_6]); (try rw [e6_5]); exact lv_sub hl [0, 1, 2, 3, 4, 5, 6] rfl)
set_option maxHeartbeats 1000000 in
set_option maxRecDepth 100000 in
theorem c_X2_number (l : Launch) (D : va_G) (cI cQ : ClassId) (q : Nat → Nat) (S : CS) : zRO l yX2_number (Cond.code yX2_number cX2_number 1 (some .int) :: zT) 3 73 [.ref (q 6)] D cI cQ (zPar cI q S) (rNumT S 0 0 63 63 40) := by
  refine zRO.of (cc := cX2_number) (maxL := 1) (ret := some .int) (by decide +kernel) rfl (Nat.le_of_ble_eq_true rfl) ?_
  intro pg e s mi args below meth cd hx hb hr hts hown hlocks hml hP hK ls hl
  have hz : ∀ w ∈ zT, w.before args s = true := fun w h => hts w (List.mem_cons_of_mem _ h)
  have hl : lv_has ls 1 [(0, .ref (q 6))] := hl
  refine lv_aload_n hx hb dX2_number_0 rfl (lv_at hl 0 rfl) ?_
  refine lv_iconst (v := 0) hx hb dX2_number_1 (by decide) ?_
  refine lv_iconst (v := 0) hx hb dX2_number_2 (by decide) ?_
  refine lv_bipush (v := 63) hx hb dX2_number_3 (by decide) ?_
  refine lv_bipush (v := 63) hx hb dX2_number_5 (by decide) ?_
  refine z_ro (va_runV (As := [.int (0 : Int32), .int (0 : Int32), .int (63 : Int32), .int (63 : Int32)]) (rest := []) ⟨hx, hb, hml, hown, hz⟩ (c_X2_numberTouching l D cI cQ q S (0 : Int32) (0 : Int32) (63 : Int32) (63 : Int32)) (zcwV 4 hz q2_192 q2_193 q2_194 q1_4 q2_195 hd_X2_numberTouching (Nat.le_of_ble_eq_true rfl) (Nat.le_of_ble_eq_true rfl)) (z_pv (ci := 2) (q := (RX2, TX2, 4)) hK hP rfl rfl) rfl rfl hl.1 rfl (lv_room (Nat.le_of_ble_eq_true rfl)) dX2_number_7 ⟨(Nat.le_of_ble_eq_true rfl), (Nat.le_of_ble_eq_true rfl)⟩) ?_
  exact z_iret hx hb hr rfl hlocks (by rfl) dX2_number_10
set_option maxHeartbeats 1000000 in
set_option maxRecDepth 100000 in
theorem c_X2_greatestScale (l : Launch) (D : va_G) (cI cQ : ClassId) (q : Nat → Nat) (S : CS) : zRO l yX2_greatestScale (Cond.code yX2_greatestScale cX2_greatestScale 3 (some .int) :: zT) 2 42 [.ref (q 6)] D cI cQ (zPar cI q S) (rGr S 40) := by
  refine zRO.of (cc := cX2_greatestScale) (maxL := 3) (ret := some .int) (by decide +kernel) rfl (Nat.le_of_ble_eq_true rfl) ?_
  intro pg e s mi args below meth cd hx hb hr hts hown hlocks hml hP hK ls hl
  have hz : ∀ w ∈ zT, w.before args s = true := fun w h => hts w (List.mem_cons_of_mem _ h)
  have hl : lv_has ls 3 [(0, .ref (q 6))] := hl
  refine lv_iconst (v := 0) hx hb dX2_greatestScale_0 (by decide) ?_
  refine lv_istore_n (lv' := [(1, .int (0 : Int32)), (0, .ref (q 6))]) hx hb dX2_greatestScale_1 rfl hl (by decide) rfl (fun ls hl => ?_)
  refine lv_iconst (v := 0) hx hb dX2_greatestScale_2 (by decide) ?_
  refine lv_istore_n (lv' := [(2, .int (0 : Int32)), (1, .int (0 : Int32)), (0, .ref (q 6))]) hx hb dX2_greatestScale_3 rfl hl (by decide) rfl (fun ls hl => ?_)
  have L4 : ∀ (n4 k4 : Nat), k4 ≤ 40 → 40 < k4 + n4 → ∀ (ls : Array Slot), lv_has ls 3 [(2, .int (nI k4)), (1, .int (rGr S k4)), (0, .ref (q 6))] → W pg l e ({ frames := 2, cells := 0, slots := 0, locals := 42 }) s mi args below meth cd s.heap [] 0 0 (MQ below (vp_Si (fun r => r = rGr S 40)) args s 0 0 (fun _ => False)) (F0 mi 4 ls []) := by
    intro n4
    induction n4 with
    | zero => intro k4 h1 h2; exact absurd h2 (by omega)
    | succ n4 ih4 =>
      intro k4 h1_4 h2_4  ls hl
      refine lv_iload_n hx hb dX2_greatestScale_4 rfl (lv_at hl 0 rfl) ?_
      refine lv_bipush (v := 40) hx hb dX2_greatestScale_5 (by decide) ?_
      refine lv_icmp_ge (tgt := 26) hx hb dX2_greatestScale_7 (by decide) (fun c_7 => ?_) (fun c_7 => ?_)
      · have c_7 : ((40 : Int32) : Int32) ≤ nI k4 := c_7
        have hk_4 : k4 = 40 := z_exit (by decide) h1_4 c_7
        refine lv_iload_n hx hb dX2_greatestScale_26 rfl (lv_at hl 1 rfl) ?_
        exact z_iret hx hb hr rfl hlocks (by rw [hk_4]) dX2_greatestScale_27
      · have c_7 : ¬ (((40 : Int32) : Int32) ≤ nI k4) := c_7
        have hk_4 : k4 < 40 := z_cont (by decide) h1_4 c_7
        refine lv_iload_n hx hb dX2_greatestScale_10 rfl (lv_at hl 1 rfl) ?_
        refine lv_aload_n hx hb dX2_greatestScale_11 rfl (lv_at hl 2 rfl) ?_
        refine lv_iload_n hx hb dX2_greatestScale_12 rfl (lv_at hl 0 rfl) ?_
        refine z_ro (va_runV (As := [.int (nI k4)]) (rest := [.int (rGr S k4)]) ⟨hx, hb, hml, hown, hz⟩ (c_X2_scaleOf l D cI cQ q S (nI k4)) (zcwV 1 hz q1_229 q1_209 q1_210 q1_4 q1_211 hd_X2_scaleOf (Nat.le_of_ble_eq_true rfl) (Nat.le_of_ble_eq_true rfl)) (z_pv (ci := 2) (q := (RX2, TX2, 4)) hK hP rfl rfl) rfl rfl hl.1 rfl (lv_room (Nat.le_of_ble_eq_true rfl)) dX2_greatestScale_13 ⟨(Nat.le_of_ble_eq_true rfl), (Nat.le_of_ble_eq_true rfl)⟩) ?_
        refine va_mmax hx hb (by rw [hml]; exact hl.1.symm) hown (hz _ q2_214) (hz _ q2_174) (hz _ q1_9) (hz _ q2_175) (Nat.le_of_ble_eq_true rfl) (Nat.le_of_ble_eq_true rfl) (Nat.le_of_ble_eq_true rfl) (Nat.le_of_ble_eq_true rfl) dX2_greatestScale_16 ?_
        refine lv_istore_n (lv' := [(1, .int (if (rGr S k4) < (rSc S (nI k4)) then (rSc S (nI k4)) else (rGr S k4))), (2, .int (nI k4)), (0, .ref (q 6))]) hx hb dX2_greatestScale_19 rfl hl (by decide) rfl (fun ls hl => ?_)
        refine lv_iinc (v := (nI k4) + 1) (lv' := [(2, .int ((nI k4) + 1)), (1, .int (if (rGr S k4) < (rSc S (nI k4)) then (rSc S (nI k4)) else (rGr S k4))), (0, .ref (q 6))]) hx hb dX2_greatestScale_20 hl (k := 1) rfl rfl (by decide) rfl (fun ls hl => ?_)
        refine lv_goto (tgt := 4) hx hb dX2_greatestScale_23 (by decide) ?_
        have e4_2 : (nI (k4 + 1) : Int32) = (nI k4) + 1 := (nI_1 _).symm
        have e4_1 : (rGr S (k4 + 1) : Int32) = if (rGr S k4) < (rSc S (nI k4)) then (rSc S (nI k4)) else (rGr S k4) := (by rfl)
        exact ih4 (k4 + 1) (by omega) (by omega) _ (by (try rw [e4_2]); (try rw [e4_1]); exact lv_sub hl [0, 1, 2] rfl)
  have e4_2 : (nI 0 : Int32) = (0 : Int32) := rfl
  have e4_1 : (rGr S 0 : Int32) = (0 : Int32) := (by rfl)
  exact L4 (40 + 1) (0) (Nat.zero_le _) (by omega) _ (by (try rw [e4_2]); (try rw [e4_1]); exact lv_sub hl [0, 1, 2] rfl)
set_option maxHeartbeats 1000000 in
set_option maxRecDepth 100000 in
theorem c_X2_everySecondBit (l : Launch) (D : va_G) (cI cQ : ClassId) (pl : Int32) : zRO l yX2_everySecondBit (Cond.code yX2_everySecondBit cX2_everySecondBit 3 (some .int) :: zT) 0 0 [.int pl] D cI cQ ([]) (eB pl 6) := by
  refine zRO.of (cc := cX2_everySecondBit) (maxL := 3) (ret := some .int) (by decide +kernel) rfl (Nat.le_of_ble_eq_true rfl) ?_
  intro pg e s mi args below meth cd hx hb hr hts hown hlocks hml hP hK ls hl
  have hz : ∀ w ∈ zT, w.before args s = true := fun w h => hts w (List.mem_cons_of_mem _ h)
  have hl : lv_has ls 3 [(0, .int (pl))] := hl
  refine lv_iconst (v := 0) hx hb dX2_everySecondBit_0 (by decide) ?_
  refine lv_istore_n (lv' := [(1, .int (0 : Int32)), (0, .int (pl))]) hx hb dX2_everySecondBit_1 rfl hl (by decide) rfl (fun ls hl => ?_)
  refine lv_iconst (v := 0) hx hb dX2_everySecondBit_2 (by decide) ?_
  refine lv_istore_n (lv' := [(2, .int (0 : Int32)), (1, .int (0 : Int32)), (0, .int (pl))]) hx hb dX2_everySecondBit_3 rfl hl (by decide) rfl (fun ls hl => ?_)
  have L4 : ∀ (n4 k4 : Nat), k4 ≤ 6 → 6 < k4 + n4 → ∀ (ls : Array Slot), lv_has ls 3 [(2, .int (nI k4)), (1, .int (eB pl k4)), (0, .int (pl))] → W pg l e ({ frames := 0, cells := 0, slots := 0, locals := 0 }) s mi args below meth cd s.heap [] 0 0 (MQ below (vp_Si (fun r => r = eB pl 6)) args s 0 0 (fun _ => False)) (F0 mi 4 ls []) := by
    intro n4
    induction n4 with
    | zero => intro k4 h1 h2; exact absurd h2 (by omega)
    | succ n4 ih4 =>
      intro k4 h1_4 h2_4  ls hl
      refine lv_iload_n hx hb dX2_everySecondBit_4 rfl (lv_at hl 0 rfl) ?_
      refine lv_bipush (v := 6) hx hb dX2_everySecondBit_5 (by decide) ?_
      refine lv_icmp_ge (tgt := 28) hx hb dX2_everySecondBit_7 (by decide) (fun c_7 => ?_) (fun c_7 => ?_)
      · have c_7 : ((6 : Int32) : Int32) ≤ nI k4 := c_7
        have hk_4 : k4 = 6 := z_exit (by decide) h1_4 c_7
        refine lv_iload_n hx hb dX2_everySecondBit_28 rfl (lv_at hl 1 rfl) ?_
        exact z_iret hx hb hr rfl hlocks (by rw [hk_4]) dX2_everySecondBit_29
      · have c_7 : ¬ (((6 : Int32) : Int32) ≤ nI k4) := c_7
        have hk_4 : k4 < 6 := z_cont (by decide) h1_4 c_7
        refine lv_iload_n hx hb dX2_everySecondBit_10 rfl (lv_at hl 1 rfl) ?_
        refine lv_iload_n hx hb dX2_everySecondBit_11 rfl (lv_at hl 2 rfl) ?_
        refine lv_iconst (v := 2) hx hb dX2_everySecondBit_12 (by decide) ?_
        refine lv_iload_n hx hb dX2_everySecondBit_13 rfl (lv_at hl 0 rfl) ?_
        refine lv_imul hx hb dX2_everySecondBit_14 ?_
        refine lv_ishr hx hb dX2_everySecondBit_15 ?_
        refine lv_iconst (v := 1) hx hb dX2_everySecondBit_16 (by decide) ?_
        refine lv_iand hx hb dX2_everySecondBit_17 ?_
        refine lv_iload_n hx hb dX2_everySecondBit_18 rfl (lv_at hl 0 rfl) ?_
        refine lv_ishl hx hb dX2_everySecondBit_19 ?_
        refine lv_ior hx hb dX2_everySecondBit_20 ?_
        refine lv_istore_n (lv' := [(1, .int ((eB pl k4) ||| (((pl >>> (((2 : Int32) * (nI k4)) &&& 31)) &&& (1 : Int32)) <<< ((nI k4) &&& 31)))), (2, .int (nI k4)), (0, .int (pl))]) hx hb dX2_everySecondBit_21 rfl hl (by decide) rfl (fun ls hl => ?_)
        refine lv_iinc (v := (nI k4) + 1) (lv' := [(2, .int ((nI k4) + 1)), (1, .int ((eB pl k4) ||| (((pl >>> (((2 : Int32) * (nI k4)) &&& 31)) &&& (1 : Int32)) <<< ((nI k4) &&& 31)))), (0, .int (pl))]) hx hb dX2_everySecondBit_22 hl (k := 1) rfl rfl (by decide) rfl (fun ls hl => ?_)
        refine lv_goto (tgt := 4) hx hb dX2_everySecondBit_25 (by decide) ?_
        have e4_2 : (nI (k4 + 1) : Int32) = (nI k4) + 1 := (nI_1 _).symm
        have e4_1 : (eB pl (k4 + 1) : Int32) = (eB pl k4) ||| (((pl >>> (((2 : Int32) * (nI k4)) &&& 31)) &&& (1 : Int32)) <<< ((nI k4) &&& 31)) := (by rfl)
        exact ih4 (k4 + 1) (by omega) (by omega) _ (by (try rw [e4_2]); (try rw [e4_1]); exact lv_sub hl [0, 1, 2] rfl)
  have e4_2 : (nI 0 : Int32) = (0 : Int32) := rfl
  have e4_1 : (eB pl 0 : Int32) = (0 : Int32) := (by rfl)
  exact L4 (6 + 1) (0) (Nat.zero_le _) (by omega) _ (by (try rw [e4_2]); (try rw [e4_1]); exact lv_sub hl [0, 1, 2] rfl)
set_option maxHeartbeats 1000000 in
set_option maxRecDepth 100000 in
theorem c_X2_withNumberBefore (l : Launch) (D : va_G) (cI cQ : ClassId) (q : Nat → Nat) (S : CS) (nu : Int32) : zRO l yX2_withNumberBefore (Cond.code yX2_withNumberBefore cX2_withNumberBefore 6 (some .int) :: zT) 3 70 [.ref (q 6), .int nu] D cI cQ (zPar cI q S) (wNB S nu) := by
  refine zRO.of (cc := cX2_withNumberBefore) (maxL := 6) (ret := some .int) (by decide +kernel) rfl (Nat.le_of_ble_eq_true rfl) ?_
  intro pg e s mi args below meth cd hx hb hr hts hown hlocks hml hP hK ls hl
  have hz : ∀ w ∈ zT, w.before args s = true := fun w h => hts w (List.mem_cons_of_mem _ h)
  have hl : lv_has ls 6 [(0, .ref (q 6)), (1, .int (nu))] := hl
  refine lv_iconst (v := 0) hx hb dX2_withNumberBefore_0 (by decide) ?_
  refine lv_istore_n (lv' := [(2, .int (0 : Int32)), (0, .ref (q 6)), (1, .int (nu))]) hx hb dX2_withNumberBefore_1 rfl hl (by decide) rfl (fun ls hl => ?_)
  refine lv_iconst (v := 0) hx hb dX2_withNumberBefore_2 (by decide) ?_
  refine lv_istore_n (lv' := [(3, .int (0 : Int32)), (2, .int (0 : Int32)), (0, .ref (q 6)), (1, .int (nu))]) hx hb dX2_withNumberBefore_3 rfl hl (by decide) rfl (fun ls hl => ?_)
  have L4 : ∀ (n4 k4 : Nat), k4 ≤ 40 → 40 < k4 + n4 → (wNB S nu = wGo S nu (40 - k4) k4) → ∀ (ls : Array Slot), lv_has ls 6 [(3, .int (nI k4)), (2, .int (wPl S k4)), (0, .ref (q 6)), (1, .int (nu))] → W pg l e ({ frames := 3, cells := 0, slots := 0, locals := 70 }) s mi args below meth cd s.heap [] 0 0 (MQ below (vp_Si (fun r => r = wNB S nu)) args s 0 0 (fun _ => False)) (F0 mi 4 ls []) := by
    intro n4
    induction n4 with
    | zero => intro k4 h1 h2; exact absurd h2 (by omega)
    | succ n4 ih4 =>
      intro k4 h1_4 h2_4 he ls hl
      refine lv_iload_n hx hb dX2_withNumberBefore_4 rfl (lv_at hl 0 rfl) ?_
      refine lv_bipush (v := 40) hx hb dX2_withNumberBefore_5 (by decide) ?_
      refine lv_icmp_ge (tgt := 66) hx hb dX2_withNumberBefore_7 (by decide) (fun c_7 => ?_) (fun c_7 => ?_)
      · have c_7 : ((40 : Int32) : Int32) ≤ nI k4 := c_7
        have hk_4 : k4 = 40 := z_exit (by decide) h1_4 c_7
        refine lv_bipush (v := (-9)) hx hb dX2_withNumberBefore_66 (by decide) ?_
        exact z_iret hx hb hr rfl hlocks (by first | (rw [he, hk_4]; rfl) | exact (he.trans (wGo_out hk_4 c_14)).symm) dX2_withNumberBefore_68
      · have c_7 : ¬ (((40 : Int32) : Int32) ≤ nI k4) := c_7
        have hk_4 : k4 < 40 := z_cont (by decide) h1_4 c_7
        refine lv_iload_n hx hb dX2_withNumberBefore_10 rfl (lv_at hl 1 rfl) ?_
        refine lv_sipush (v := 4096) hx hb dX2_withNumberBefore_11 (by decide) ?_
        refine lv_icmp_ge (tgt := 66) hx hb dX2_withNumberBefore_14 (by decide) (fun c_14 => ?_) (fun c_14 => ?_)
        · have c_14 : ((4096 : Int32) : Int32) ≤ wPl S k4 := c_14
          refine lv_bipush (v := (-9)) hx hb dX2_withNumberBefore_66 (by decide) ?_
          exact z_iret hx hb hr rfl hlocks (by first | (rw [he, hk_4]; rfl) | exact (he.trans (wGo_out hk_4 c_14)).symm) dX2_withNumberBefore_68
        · have c_14 : ¬ (((4096 : Int32) : Int32) ≤ wPl S k4) := c_14
          refine lv_aload_n hx hb dX2_withNumberBefore_17 rfl (lv_at hl 2 rfl) ?_
          refine lv_iload_n hx hb dX2_withNumberBefore_18 rfl (lv_at hl 1 rfl) ?_
          refine z_ro (va_runS (As := [.int (wPl S k4)]) (rest := [.ref (q 6)]) ⟨hx, hb, hml, hown, hz⟩ (c_X2_everySecondBit l D cI cQ (wPl S k4)) (zcwS 1 hz q3_52 q3_53 q1_4 q3_54 hd_X2_everySecondBit (Nat.le_of_ble_eq_true rfl) (Nat.le_of_ble_eq_true rfl)) (z_ps hK z_nil) rfl rfl hl.1 rfl (lv_room (Nat.le_of_ble_eq_true rfl)) dX2_withNumberBefore_19 ⟨(Nat.le_of_ble_eq_true rfl), (Nat.le_of_ble_eq_true rfl)⟩) ?_
          refine lv_iload_n hx hb dX2_withNumberBefore_22 rfl (lv_at hl 1 rfl) ?_
          refine lv_iconst (v := 1) hx hb dX2_withNumberBefore_23 (by decide) ?_
          refine lv_ishr hx hb dX2_withNumberBefore_24 ?_
          refine z_ro (va_runS (As := [.int ((wPl S k4) >>> ((1 : Int32) &&& 31))]) (rest := [.int (eB (wPl S k4) 6), .ref (q 6)]) ⟨hx, hb, hml, hown, hz⟩ (c_X2_everySecondBit l D cI cQ ((wPl S k4) >>> ((1 : Int32) &&& 31))) (zcwS 1 hz q3_52 q3_53 q1_4 q3_54 hd_X2_everySecondBit (Nat.le_of_ble_eq_true rfl) (Nat.le_of_ble_eq_true rfl)) (z_ps hK z_nil) rfl rfl hl.1 rfl (lv_room (Nat.le_of_ble_eq_true rfl)) dX2_withNumberBefore_25 ⟨(Nat.le_of_ble_eq_true rfl), (Nat.le_of_ble_eq_true rfl)⟩) ?_
          refine z_ro (va_runV (As := [.int (eB (wPl S k4) 6), .int (eB ((wPl S k4) >>> ((1 : Int32) &&& 31)) 6)]) (rest := []) ⟨hx, hb, hml, hown, hz⟩ (c_X2_parishAt l D cI cQ q S (eB (wPl S k4) 6) (eB ((wPl S k4) >>> ((1 : Int32) &&& 31)) 6)) (zcwV 2 hz q3_55 q1_176 q1_177 q1_4 q1_178 hd_X2_parishAt (Nat.le_of_ble_eq_true rfl) (Nat.le_of_ble_eq_true rfl)) (z_pv (ci := 2) (q := (RX2, TX2, 4)) hK hP rfl rfl) rfl rfl hl.1 rfl (lv_room (Nat.le_of_ble_eq_true rfl)) dX2_withNumberBefore_28 ⟨(Nat.le_of_ble_eq_true rfl), (Nat.le_of_ble_eq_true rfl)⟩) ?_
          refine lv_istore (lv' := [(4, .int (wPar S (wPl S k4))), (3, .int (nI k4)), (2, .int (wPl S k4)), (0, .ref (q 6)), (1, .int (nu))]) hx hb dX2_withNumberBefore_31 hl (by decide) rfl (fun ls hl => ?_)
          refine lv_iload_n hx hb dX2_withNumberBefore_33 rfl (lv_at hl 1 rfl) ?_
          refine lv_iload_n hx hb dX2_withNumberBefore_34 rfl (lv_at hl 4 rfl) ?_
          refine lv_icmp_ne (tgt := 41) hx hb dX2_withNumberBefore_35 (by decide) (fun c_35 => ?_) (fun c_35 => ?_)
          · have c_35 : ¬ ((nI k4 : Int32) = nu) := c_35
            refine lv_aload_n hx hb dX2_withNumberBefore_41 rfl (lv_at hl 3 rfl) ?_
            refine lv_iload hx hb dX2_withNumberBefore_42 (lv_at hl 0 rfl) ?_
            refine z_ro (va_runV (As := [.int (wPar S (wPl S k4))]) (rest := []) ⟨hx, hb, hml, hown, hz⟩ (c_X2_scaleOf l D cI cQ q S (wPar S (wPl S k4))) (zcwV 1 hz q1_229 q1_209 q1_210 q1_4 q1_211 hd_X2_scaleOf (Nat.le_of_ble_eq_true rfl) (Nat.le_of_ble_eq_true rfl)) (z_pv (ci := 2) (q := (RX2, TX2, 4)) hK hP rfl rfl) rfl rfl hl.1 rfl (lv_room (Nat.le_of_ble_eq_true rfl)) dX2_withNumberBefore_44 ⟨(Nat.le_of_ble_eq_true rfl), (Nat.le_of_ble_eq_true rfl)⟩) ?_
            refine z_ro (va_runSN (As := [.int (rSc S (wPar S (wPl S k4)))]) (rest := []) ⟨hx, hb, hml, hown, hz⟩ (c_X5_sideOf l D cI cQ (rSc S (wPar S (wPl S k4)))) (zcnS 1 hz q1_188 q1_1 q1_189 (hK.2.2.2.2.2.2.1) hd_X5_sideOf (Nat.le_of_ble_eq_true rfl) (Nat.le_of_ble_eq_true rfl)) (z_ps hK z_nil) rfl rfl hl.1 rfl (lv_room (Nat.le_of_ble_eq_true rfl)) dX2_withNumberBefore_47 ⟨(Nat.le_of_ble_eq_true rfl), (Nat.le_of_ble_eq_true rfl)⟩) ?_
            refine lv_istore (lv' := [(5, .int (sideF (rSc S (wPar S (wPl S k4))))), (4, .int (wPar S (wPl S k4))), (3, .int (nI k4)), (2, .int (wPl S k4)), (0, .ref (q 6)), (1, .int (nu))]) hx hb dX2_withNumberBefore_50 hl (by decide) rfl (fun ls hl => ?_)
            refine lv_iload_n hx hb dX2_withNumberBefore_52 rfl (lv_at hl 3 rfl) ?_
            refine lv_iload hx hb dX2_withNumberBefore_53 (lv_at hl 0 rfl) ?_
            refine lv_iload hx hb dX2_withNumberBefore_55 (lv_at hl 0 rfl) ?_
            refine lv_imul hx hb dX2_withNumberBefore_57 ?_
            refine lv_iadd hx hb dX2_withNumberBefore_58 ?_
            refine lv_istore_n (lv' := [(2, .int ((wPl S k4) + ((sideF (rSc S (wPar S (wPl S k4)))) * (sideF (rSc S (wPar S (wPl S k4))))))), (5, .int (sideF (rSc S (wPar S (wPl S k4))))), (4, .int (wPar S (wPl S k4))), (3, .int (nI k4)), (0, .ref (q 6)), (1, .int (nu))]) hx hb dX2_withNumberBefore_59 rfl hl (by decide) rfl (fun ls hl => ?_)
            refine lv_iinc (v := (nI k4) + 1) (lv' := [(3, .int ((nI k4) + 1)), (2, .int ((wPl S k4) + ((sideF (rSc S (wPar S (wPl S k4)))) * (sideF (rSc S (wPar S (wPl S k4))))))), (5, .int (sideF (rSc S (wPar S (wPl S k4))))), (4, .int (wPar S (wPl S k4))), (0, .ref (q 6)), (1, .int (nu))]) hx hb dX2_withNumberBefore_60 hl (k := 3) rfl rfl (by decide) rfl (fun ls hl => ?_)
            refine lv_goto (tgt := 4) hx hb dX2_withNumberBefore_63 (by decide) ?_
            have e4_3 : (nI (k4 + 1) : Int32) = (nI k4) + 1 := (nI_1 _).symm
            have e4_2 : (wPl S (k4 + 1) : Int32) = (wPl S k4) + ((sideF (rSc S (wPar S (wPl S k4)))) * (sideF (rSc S (wPar S (wPl S k4))))) := (by rfl)
            exact ih4 (k4 + 1) (by omega) (by omega) (he.trans (wGo_on hk_4 c_14 c_35)) _ (by (try rw [e4_3]); (try rw [e4_2]); exact lv_sub hl [0, 1, 4, 5] rfl)
          · have c_35 : (nI k4 : Int32) = nu := c_35
            refine lv_iload hx hb dX2_withNumberBefore_38 (lv_at hl 0 rfl) ?_
            exact z_iret hx hb hr rfl hlocks (by exact (he.trans (wGo_hit hk_4 c_14 c_35)).symm) dX2_withNumberBefore_40
  have e4_3 : (nI 0 : Int32) = (0 : Int32) := rfl
  have e4_2 : (wPl S 0 : Int32) = (0 : Int32) := (by rfl)
  exact L4 (40 + 1) (0) (Nat.zero_le _) (by omega) (rfl) _ (by (try rw [e4_3]); (try rw [e4_2]); exact lv_sub hl [0, 1, 2, 3] rfl)
set_option maxHeartbeats 1000000 in
set_option maxRecDepth 100000 in
theorem c_X0_areParishes (l : Launch) (D : va_G) (cI cQ : ClassId) (a b : Int32) : zRO l yX0_areParishes (Cond.code yX0_areParishes cX0_areParishes 2 (some .boolean) :: zT) 0 0 [.int a, .int b] D cI cQ ([]) (bI (dOk a b)) := by
  refine zRO.of (cc := cX0_areParishes) (maxL := 2) (ret := some .boolean) (by decide +kernel) rfl (Nat.le_of_ble_eq_true rfl) ?_
  intro pg e s mi args below meth cd hx hb hr hts hown hlocks hml hP hK ls hl
  have hz : ∀ w ∈ zT, w.before args s = true := fun w h => hts w (List.mem_cons_of_mem _ h)
  have hl : lv_has ls 2 [(0, .int (a)), (1, .int (b))] := hl
  refine lv_iload_n hx hb dX0_areParishes_0 rfl (lv_at hl 0 rfl) ?_
  refine lv_if_lt (tgt := 24) hx hb dX0_areParishes_1 (by decide) (fun c_1 => ?_) (fun c_1 => ?_)
  · have c_1 : (a : Int32) < 0 := c_1
    refine lv_iconst (v := 0) hx hb dX0_areParishes_24 (by decide) ?_
    exact z_iret hx hb hr rfl hlocks (by simp [dOk, bI, c_1]) dX0_areParishes_25
  · have c_1 : ¬ ((a : Int32) < 0) := c_1
    refine lv_iload_n hx hb dX0_areParishes_4 rfl (lv_at hl 0 rfl) ?_
    refine lv_bipush (v := 40) hx hb dX0_areParishes_5 (by decide) ?_
    refine lv_icmp_ge (tgt := 24) hx hb dX0_areParishes_7 (by decide) (fun c_7 => ?_) (fun c_7 => ?_)
    · have c_7 : ((40 : Int32) : Int32) ≤ a := c_7
      refine lv_iconst (v := 0) hx hb dX0_areParishes_24 (by decide) ?_
      exact z_iret hx hb hr rfl hlocks (by simp [dOk, bI, c_1, c_7]) dX0_areParishes_25
    · have c_7 : ¬ (((40 : Int32) : Int32) ≤ a) := c_7
      refine lv_iload_n hx hb dX0_areParishes_10 rfl (lv_at hl 1 rfl) ?_
      refine lv_if_lt (tgt := 24) hx hb dX0_areParishes_11 (by decide) (fun c_11 => ?_) (fun c_11 => ?_)
      · have c_11 : (b : Int32) < 0 := c_11
        refine lv_iconst (v := 0) hx hb dX0_areParishes_24 (by decide) ?_
        exact z_iret hx hb hr rfl hlocks (by simp [dOk, bI, c_1, c_7, c_11]) dX0_areParishes_25
      · have c_11 : ¬ ((b : Int32) < 0) := c_11
        refine lv_iload_n hx hb dX0_areParishes_14 rfl (lv_at hl 1 rfl) ?_
        refine lv_bipush (v := 40) hx hb dX0_areParishes_15 (by decide) ?_
        refine lv_icmp_ge (tgt := 24) hx hb dX0_areParishes_17 (by decide) (fun c_17 => ?_) (fun c_17 => ?_)
        · have c_17 : ((40 : Int32) : Int32) ≤ b := c_17
          refine lv_iconst (v := 0) hx hb dX0_areParishes_24 (by decide) ?_
          exact z_iret hx hb hr rfl hlocks (by simp [dOk, bI, c_1, c_7, c_11, c_17]) dX0_areParishes_25
        · have c_17 : ¬ (((40 : Int32) : Int32) ≤ b) := c_17
          refine lv_iconst (v := 1) hx hb dX0_areParishes_20 (by decide) ?_
          refine lv_goto (tgt := 25) hx hb dX0_areParishes_21 (by decide) ?_
          exact z_iret hx hb hr rfl hlocks (by simp [dOk, bI, c_1, c_7, c_11, c_17]) dX0_areParishes_25
set_option maxHeartbeats 1000000 in
set_option maxRecDepth 100000 in
theorem c_X0_owed (l : Launch) (D : va_G) (cI cQ : ClassId) (q : Nat → Nat) (S : CS) (a b : Int32) : zRO l yX0_owed (Cond.code yX0_owed cX0_owed 3 (some .int) :: zT) 1 21 [.ref (q 10), .int a, .int b] D cI cQ (zDeb cI q S) (dOwF (sD S) a b) := by
  refine zRO.of (cc := cX0_owed) (maxL := 3) (ret := some .int) (by decide +kernel) rfl (Nat.le_of_ble_eq_true rfl) ?_
  intro pg e s mi args below meth cd hx hb hr hts hown hlocks hml hP hK ls hl
  have hz : ∀ w ∈ zT, w.before args s = true := fun w h => hts w (List.mem_cons_of_mem _ h)
  have hl : lv_has ls 3 [(0, .ref (q 10)), (1, .int (a)), (2, .int (b))] := hl
  refine lv_iload_n hx hb dX0_owed_0 rfl (lv_at hl 1 rfl) ?_
  refine lv_iload_n hx hb dX0_owed_1 rfl (lv_at hl 2 rfl) ?_
  refine z_ro (va_runS (As := [.int (a), .int (b)]) (rest := []) ⟨hx, hb, hml, hown, hz⟩ (c_X0_areParishes l D cI cQ a b) (zcwS 2 hz q2_35 q2_36 q1_5 q2_37 hd_X0_areParishes (Nat.le_of_ble_eq_true rfl) (Nat.le_of_ble_eq_true rfl)) (z_ps hK z_nil) rfl rfl hl.1 rfl (lv_room (Nat.le_of_ble_eq_true rfl)) dX0_owed_2 ⟨(Nat.le_of_ble_eq_true rfl), (Nat.le_of_ble_eq_true rfl)⟩) ?_
  refine lv_if_eq (tgt := 22) hx hb dX0_owed_5 (by decide) (fun c_5 => ?_) (fun c_5 => ?_)
  · have c_5 : (dOk a b) = false := bI_f c_5
    refine lv_iconst (v := 0) hx hb dX0_owed_22 (by decide) ?_
    exact z_iret hx hb hr rfl hlocks (by simp [dOwF, c_5]) dX0_owed_23
  · have c_5 : (dOk a b) = true := bI_t c_5
    refine lv_aload_n hx hb dX0_owed_8 rfl (lv_at hl 0 rfl) ?_
    refine va_get (D := D) (ci := 0) (v := .ref (q 11)) (C := RX0) (T := TX0) (N := 1) hx hb hz inZ0 hown hK.1 hP 0 rfl rfl 0 (by decide) (hz _ q1_83) (fun _ h9 => h9) rfl dX0_owed_9 ?_
    refine lv_iload_n hx hb dX0_owed_12 rfl (lv_at hl 1 rfl) ?_
    refine lv_bipush (v := 40) hx hb dX0_owed_13 (by decide) ?_
    refine lv_imul hx hb dX0_owed_15 ?_
    refine lv_iload_n hx hb dX0_owed_16 rfl (lv_at hl 2 rfl) ?_
    refine lv_iadd hx hb dX0_owed_17 ?_
    refine va_iald (f := sD S) hx hb hK.1 hP 1 0 rfl rfl (i := (a * (40 : Int32)) + b) (dOk_in c_5) dX0_owed_18 ?_
    refine lv_goto (tgt := 23) hx hb dX0_owed_19 (by decide) ?_
    exact z_iret hx hb hr rfl hlocks (by simp [dOwF, c_5]) dX0_owed_23
set_option maxHeartbeats 1000000 in
set_option maxRecDepth 100000 in
theorem c_X0_change (l : Launch) (D : va_G) (cI cQ : ClassId) (q : Nat → Nat) (S : CS) (a b v : Int32) (g1 : FI) (hg1 : g1 = dCh (sD S) a b v) : zWR l yX0_change (Cond.code yX0_change cX0_change 4 (none) :: zT) 1 21 [.ref (q 10), .int a, .int b, .int v] D cI cQ (zDeb cI q S) none (zDeb cI q (uD S g1)) := by
  refine zWR.of (cc := cX0_change) (maxL := 4) (ret := none) (by decide +kernel) rfl (Nat.le_of_ble_eq_true rfl) ?_
  intro pg e s mi args below meth cd hx hb hr hts hown hlocks hml hP hD hS hK ls hl
  have hz : ∀ w ∈ zT, w.before args s = true := fun w h => hts w (List.mem_cons_of_mem _ h)
  have hl : lv_has ls 4 [(0, .ref (q 10)), (1, .int (a)), (2, .int (b)), (3, .int (v))] := hl
  refine lv_iload_n hx hb dX0_change_0 rfl (lv_at hl 1 rfl) ?_
  refine lv_iload_n hx hb dX0_change_1 rfl (lv_at hl 2 rfl) ?_
  refine z_ro (va_runS (As := [.int (a), .int (b)]) (rest := []) ⟨hx, hb, hml, hown, hz⟩ (c_X0_areParishes l D cI cQ a b) (zcwS 2 hz q2_35 q2_36 q1_5 q2_37 hd_X0_areParishes (Nat.le_of_ble_eq_true rfl) (Nat.le_of_ble_eq_true rfl)) (z_ps hK z_nil) rfl rfl hl.1 rfl (lv_room (Nat.le_of_ble_eq_true rfl)) dX0_change_2 ⟨(Nat.le_of_ble_eq_true rfl), (Nat.le_of_ble_eq_true rfl)⟩) ?_
  refine lv_if_eq (tgt := 23) hx hb dX0_change_5 (by decide) (fun c_5 => ?_) (fun c_5 => ?_)
  · have c_5 : (dOk a b) = false := bI_f c_5
    exact z_wvret hx hb hr hlocks hP hS (congrArg (fun T => zDeb cI q T) (show S = uD S g1 from by (try simp only [hg1]) <;> (simp [dCh, c_5, uD_self]))) dX0_change_23
  · have c_5 : (dOk a b) = true := bI_t c_5
    refine lv_aload_n hx hb dX0_change_8 rfl (lv_at hl 0 rfl) ?_
    refine va_get (D := D) (ci := 0) (v := .ref (q 11)) (C := RX0) (T := TX0) (N := 1) hx hb hz inZ0 hown hK.1 hP 0 rfl rfl 0 (by decide) (hz _ q1_83) (fun _ h9 => h9) rfl dX0_change_9 ?_
    refine lv_iload_n hx hb dX0_change_12 rfl (lv_at hl 1 rfl) ?_
    refine lv_bipush (v := 40) hx hb dX0_change_13 (by decide) ?_
    refine lv_imul hx hb dX0_change_15 ?_
    refine lv_iload_n hx hb dX0_change_16 rfl (lv_at hl 2 rfl) ?_
    refine lv_iadd hx hb dX0_change_17 ?_
    refine lv_dup2_11 hx hb dX0_change_18 rfl rfl ?_
    refine va_iald (f := sD S) hx hb hK.1 hP 1 0 rfl rfl (i := (a * (40 : Int32)) + b) (dOk_in c_5) dX0_change_19 ?_
    refine lv_iload_n hx hb dX0_change_20 rfl (lv_at hl 3 rfl) ?_
    refine lv_iadd hx hb dX0_change_21 ?_
    refine va_iast hx hb hK.1 hP hD hS 1 0 rfl rfl (i := (a * (40 : Int32)) + b) (dOk_in c_5) dX0_change_22 (fun H locs hP hD hS => ?_)
    have hP : va_P D vwCl (zDeb cI q (uD S (upd (sD S) ((a * (40 : Int32)) + b).toNatClampNeg (((sD S) ((a * (40 : Int32)) + b).toNatClampNeg) + v)))) H := hP
    have hD : va_D (zA (zDeb cI q S)) (zDeb cI q (uD S (upd (sD S) ((a * (40 : Int32)) + b).toNatClampNeg (((sD S) ((a * (40 : Int32)) + b).toNatClampNeg) + v)))) := hD
    exact z_wvret hx hb hr hlocks hP hS (congrArg (fun T => zDeb cI q T) (show uD S (upd (sD S) ((a * (40 : Int32)) + b).toNatClampNeg (((sD S) ((a * (40 : Int32)) + b).toNatClampNeg) + v)) = uD S g1 from by (try simp only [hg1]) <;> (simp [dCh, c_5, uD_self]))) dX0_change_23
set_option maxHeartbeats 1000000 in
set_option maxRecDepth 100000 in
theorem c_X0_shift (l : Launch) (D : va_G) (cI cQ : ClassId) (q : Nat → Nat) (S : CS) (a b na nb : Int32) (g1 : FI) (hg1 : g1 = dSh (sD S) a b na nb) : zWR l yX0_shift (Cond.code yX0_shift cX0_shift 6 (none) :: zT) 2 44 [.ref (q 10), .int a, .int b, .int na, .int nb] D cI cQ (zDeb cI q S) none (zDeb cI q (uD S g1)) := by
  refine zWR.of (cc := cX0_shift) (maxL := 6) (ret := none) (by decide +kernel) rfl (Nat.le_of_ble_eq_true rfl) ?_
  intro pg e s mi args below meth cd hx hb hr hts hown hlocks hml hP hD hS hK ls hl
  have hz : ∀ w ∈ zT, w.before args s = true := fun w h => hts w (List.mem_cons_of_mem _ h)
  have hl : lv_has ls 6 [(0, .ref (q 10)), (1, .int (a)), (2, .int (b)), (3, .int (na)), (4, .int (nb))] := hl
  refine lv_aload_n hx hb dX0_shift_0 rfl (lv_at hl 0 rfl) ?_
  refine lv_iload_n hx hb dX0_shift_1 rfl (lv_at hl 1 rfl) ?_
  refine lv_iload_n hx hb dX0_shift_2 rfl (lv_at hl 2 rfl) ?_
  refine z_ro (va_runV (As := [.int (a), .int (b)]) (rest := []) ⟨hx, hb, hml, hown, hz⟩ (c_X0_owed l D cI cQ q S a b) (zcwV 2 hz q2_110 q2_111 q2_112 q1_5 q2_113 hd_X0_owed (Nat.le_of_ble_eq_true rfl) (Nat.le_of_ble_eq_true rfl)) (z_pv (ci := 0) (q := (RX0, TX0, 1)) hK hP rfl rfl) rfl rfl hl.1 rfl (lv_room (Nat.le_of_ble_eq_true rfl)) dX0_shift_3 ⟨(Nat.le_of_ble_eq_true rfl), (Nat.le_of_ble_eq_true rfl)⟩) ?_
  refine lv_istore (lv' := [(5, .int (dOwF ((sD S)) a b)), (0, .ref (q 10)), (1, .int (a)), (2, .int (b)), (3, .int (na)), (4, .int (nb))]) hx hb dX0_shift_6 hl (by decide) rfl (fun ls hl => ?_)
  refine lv_aload_n hx hb dX0_shift_8 rfl (lv_at hl 1 rfl) ?_
  refine lv_iload_n hx hb dX0_shift_9 rfl (lv_at hl 2 rfl) ?_
  refine lv_iload_n hx hb dX0_shift_10 rfl (lv_at hl 3 rfl) ?_
  refine lv_iload hx hb dX0_shift_11 (lv_at hl 0 rfl) ?_
  refine lv_ineg hx hb dX0_shift_13 ?_
  obtain ⟨g_1, hg_1⟩ : ∃ z : FI, z = dCh ((sD S)) a b (-(dOwF ((sD S)) a b)) := ⟨_, rfl⟩
  refine z_wv (X' := zDeb cI q (uD S g_1)) (va_runV (As := [.int (a), .int (b), .int (-(dOwF ((sD S)) a b))]) (rest := []) ⟨hx, hb, hml, hown, hz⟩ (c_X0_change l D cI cQ q S a b (-(dOwF ((sD S)) a b)) g_1 hg_1) (zcwV 3 hz q2_156 q2_32 q2_33 q1_5 q2_34 hd_X0_change (Nat.le_of_ble_eq_true rfl) (Nat.le_of_ble_eq_true rfl)) (z_pvw (ci := 0) (q := (RX0, TX0, 1)) hK hP hD rfl rfl) rfl rfl hl.1 rfl (lv_room (Nat.le_of_ble_eq_true rfl)) dX0_shift_14 ⟨(Nat.le_of_ble_eq_true rfl), (Nat.le_of_ble_eq_true rfl)⟩) hP hD hS [0, 1] rfl rfl rfl (fun H locs hP hD hS => ?_)
  refine lv_aload_n hx hb dX0_shift_17 rfl (lv_at hl 1 rfl) ?_
  refine lv_iload_n hx hb dX0_shift_18 rfl (lv_at hl 4 rfl) ?_
  refine lv_iload hx hb dX0_shift_19 (lv_at hl 5 rfl) ?_
  refine lv_iload hx hb dX0_shift_21 (lv_at hl 0 rfl) ?_
  obtain ⟨g_2, hg_2⟩ : ∃ z : FI, z = dCh (g_1) na nb (dOwF ((sD S)) a b) := ⟨_, rfl⟩
  refine z_wv (X' := zDeb cI q (uD S g_2)) (va_runV (As := [.int (na), .int (nb), .int (dOwF ((sD S)) a b)]) (rest := []) ⟨hx, hb, hml, hown, hz⟩ (c_X0_change l D cI cQ q (uD S g_1) na nb (dOwF ((sD S)) a b) g_2 hg_2) (zcwV 3 hz q2_156 q2_32 q2_33 q1_5 q2_34 hd_X0_change (Nat.le_of_ble_eq_true rfl) (Nat.le_of_ble_eq_true rfl)) (z_pvw (ci := 0) (q := (RX0, TX0, 1)) hK hP hD rfl rfl) rfl rfl hl.1 rfl (lv_room (Nat.le_of_ble_eq_true rfl)) dX0_shift_23 ⟨(Nat.le_of_ble_eq_true rfl), (Nat.le_of_ble_eq_true rfl)⟩) hP hD hS [0, 1] rfl rfl rfl (fun H locs hP hD hS => ?_)
  exact z_wvret hx hb hr hlocks hP hS (congrArg (fun T => zDeb cI q T) (show uD S g_2 = uD S g1 from by (try simp only [hg_2, hg_1, hg1]) <;> (rfl))) dX0_shift_26
set_option maxHeartbeats 1000000 in
set_option maxRecDepth 100000 in
theorem c_X0_owedBy (l : Launch) (D : va_G) (cI cQ : ClassId) (q : Nat → Nat) (S : CS) (a : Int32) : zRO l yX0_owedBy (Cond.code yX0_owedBy cX0_owedBy 4 (some .int) :: zT) 2 43 [.ref (q 10), .int a] D cI cQ (zDeb cI q S) (dBy (sD S) a 40) := by
  refine zRO.of (cc := cX0_owedBy) (maxL := 4) (ret := some .int) (by decide +kernel) rfl (Nat.le_of_ble_eq_true rfl) ?_
  intro pg e s mi args below meth cd hx hb hr hts hown hlocks hml hP hK ls hl
  have hz : ∀ w ∈ zT, w.before args s = true := fun w h => hts w (List.mem_cons_of_mem _ h)
  have hl : lv_has ls 4 [(0, .ref (q 10)), (1, .int (a))] := hl
  refine lv_iconst (v := 0) hx hb dX0_owedBy_0 (by decide) ?_
  refine lv_istore_n (lv' := [(2, .int (0 : Int32)), (0, .ref (q 10)), (1, .int (a))]) hx hb dX0_owedBy_1 rfl hl (by decide) rfl (fun ls hl => ?_)
  refine lv_iconst (v := 0) hx hb dX0_owedBy_2 (by decide) ?_
  refine lv_istore_n (lv' := [(3, .int (0 : Int32)), (2, .int (0 : Int32)), (0, .ref (q 10)), (1, .int (a))]) hx hb dX0_owedBy_3 rfl hl (by decide) rfl (fun ls hl => ?_)
  have L4 : ∀ (n4 k4 : Nat), k4 ≤ 40 → 40 < k4 + n4 → ∀ (ls : Array Slot), lv_has ls 4 [(3, .int (nI k4)), (2, .int (dBy (sD S) a k4)), (0, .ref (q 10)), (1, .int (a))] → W pg l e ({ frames := 2, cells := 0, slots := 0, locals := 43 }) s mi args below meth cd s.heap [] 0 0 (MQ below (vp_Si (fun r => r = dBy (sD S) a 40)) args s 0 0 (fun _ => False)) (F0 mi 4 ls []) := by
    intro n4
    induction n4 with
    | zero => intro k4 h1 h2; exact absurd h2 (by omega)
    | succ n4 ih4 =>
      intro k4 h1_4 h2_4  ls hl
      refine lv_iload_n hx hb dX0_owedBy_4 rfl (lv_at hl 0 rfl) ?_
      refine lv_bipush (v := 40) hx hb dX0_owedBy_5 (by decide) ?_
      refine lv_icmp_ge (tgt := 25) hx hb dX0_owedBy_7 (by decide) (fun c_7 => ?_) (fun c_7 => ?_)
      · have c_7 : ((40 : Int32) : Int32) ≤ nI k4 := c_7
        have hk_4 : k4 = 40 := z_exit (by decide) h1_4 c_7
        refine lv_iload_n hx hb dX0_owedBy_25 rfl (lv_at hl 1 rfl) ?_
        exact z_iret hx hb hr rfl hlocks (by rw [hk_4]) dX0_owedBy_26
      · have c_7 : ¬ (((40 : Int32) : Int32) ≤ nI k4) := c_7
        have hk_4 : k4 < 40 := z_cont (by decide) h1_4 c_7
        refine lv_iload_n hx hb dX0_owedBy_10 rfl (lv_at hl 1 rfl) ?_
        refine lv_aload_n hx hb dX0_owedBy_11 rfl (lv_at hl 2 rfl) ?_
        refine lv_iload_n hx hb dX0_owedBy_12 rfl (lv_at hl 3 rfl) ?_
        refine lv_iload_n hx hb dX0_owedBy_13 rfl (lv_at hl 0 rfl) ?_
        refine z_ro (va_runV (As := [.int (a), .int (nI k4)]) (rest := [.int (dBy (sD S) a k4)]) ⟨hx, hb, hml, hown, hz⟩ (c_X0_owed l D cI cQ q S a (nI k4)) (zcwV 2 hz q2_110 q2_111 q2_112 q1_5 q2_113 hd_X0_owed (Nat.le_of_ble_eq_true rfl) (Nat.le_of_ble_eq_true rfl)) (z_pv (ci := 0) (q := (RX0, TX0, 1)) hK hP rfl rfl) rfl rfl hl.1 rfl (lv_room (Nat.le_of_ble_eq_true rfl)) dX0_owedBy_14 ⟨(Nat.le_of_ble_eq_true rfl), (Nat.le_of_ble_eq_true rfl)⟩) ?_
        refine lv_iadd hx hb dX0_owedBy_17 ?_
        refine lv_istore_n (lv' := [(2, .int ((dBy (sD S) a k4) + (dOwF ((sD S)) a (nI k4)))), (3, .int (nI k4)), (0, .ref (q 10)), (1, .int (a))]) hx hb dX0_owedBy_18 rfl hl (by decide) rfl (fun ls hl => ?_)
        refine lv_iinc (v := (nI k4) + 1) (lv' := [(3, .int ((nI k4) + 1)), (2, .int ((dBy (sD S) a k4) + (dOwF ((sD S)) a (nI k4)))), (0, .ref (q 10)), (1, .int (a))]) hx hb dX0_owedBy_19 hl (k := 1) rfl rfl (by decide) rfl (fun ls hl => ?_)
        refine lv_goto (tgt := 4) hx hb dX0_owedBy_22 (by decide) ?_
        have e4_3 : (nI (k4 + 1) : Int32) = (nI k4) + 1 := (nI_1 _).symm
        have e4_2 : (dBy (sD S) a (k4 + 1) : Int32) = (dBy (sD S) a k4) + (dOwF ((sD S)) a (nI k4)) := (by rfl)
        exact ih4 (k4 + 1) (by omega) (by omega) _ (by (try rw [e4_3]); (try rw [e4_2]); exact lv_sub hl [0, 1, 2, 3] rfl)
  have e4_3 : (nI 0 : Int32) = (0 : Int32) := rfl
  have e4_2 : (dBy (sD S) a 0 : Int32) = (0 : Int32) := (by rfl)
  exact L4 (40 + 1) (0) (Nat.zero_le _) (by omega) _ (by (try rw [e4_3]); (try rw [e4_2]); exact lv_sub hl [0, 1, 2, 3] rfl)
set_option maxHeartbeats 1000000 in
set_option maxRecDepth 100000 in
theorem c_X0_owedTo (l : Launch) (D : va_G) (cI cQ : ClassId) (q : Nat → Nat) (S : CS) (a : Int32) : zRO l yX0_owedTo (Cond.code yX0_owedTo cX0_owedTo 4 (some .int) :: zT) 2 43 [.ref (q 10), .int a] D cI cQ (zDeb cI q S) (dTo (sD S) a 40) := by
  refine zRO.of (cc := cX0_owedTo) (maxL := 4) (ret := some .int) (by decide +kernel) rfl (Nat.le_of_ble_eq_true rfl) ?_
  intro pg e s mi args below meth cd hx hb hr hts hown hlocks hml hP hK ls hl
  have hz : ∀ w ∈ zT, w.before args s = true := fun w h => hts w (List.mem_cons_of_mem _ h)
  have hl : lv_has ls 4 [(0, .ref (q 10)), (1, .int (a))] := hl
  refine lv_iconst (v := 0) hx hb dX0_owedTo_0 (by decide) ?_
  refine lv_istore_n (lv' := [(2, .int (0 : Int32)), (0, .ref (q 10)), (1, .int (a))]) hx hb dX0_owedTo_1 rfl hl (by decide) rfl (fun ls hl => ?_)
  refine lv_iconst (v := 0) hx hb dX0_owedTo_2 (by decide) ?_
  refine lv_istore_n (lv' := [(3, .int (0 : Int32)), (2, .int (0 : Int32)), (0, .ref (q 10)), (1, .int (a))]) hx hb dX0_owedTo_3 rfl hl (by decide) rfl (fun ls hl => ?_)
  have L4 : ∀ (n4 k4 : Nat), k4 ≤ 40 → 40 < k4 + n4 → ∀ (ls : Array Slot), lv_has ls 4 [(3, .int (nI k4)), (2, .int (dTo (sD S) a k4)), (0, .ref (q 10)), (1, .int (a))] → W pg l e ({ frames := 2, cells := 0, slots := 0, locals := 43 }) s mi args below meth cd s.heap [] 0 0 (MQ below (vp_Si (fun r => r = dTo (sD S) a 40)) args s 0 0 (fun _ => False)) (F0 mi 4 ls []) := by
    intro n4
    induction n4 with
    | zero => intro k4 h1 h2; exact absurd h2 (by omega)
    | succ n4 ih4 =>
      intro k4 h1_4 h2_4  ls hl
      refine lv_iload_n hx hb dX0_owedTo_4 rfl (lv_at hl 0 rfl) ?_
      refine lv_bipush (v := 40) hx hb dX0_owedTo_5 (by decide) ?_
      refine lv_icmp_ge (tgt := 25) hx hb dX0_owedTo_7 (by decide) (fun c_7 => ?_) (fun c_7 => ?_)
      · have c_7 : ((40 : Int32) : Int32) ≤ nI k4 := c_7
        have hk_4 : k4 = 40 := z_exit (by decide) h1_4 c_7
        refine lv_iload_n hx hb dX0_owedTo_25 rfl (lv_at hl 1 rfl) ?_
        exact z_iret hx hb hr rfl hlocks (by rw [hk_4]) dX0_owedTo_26
      · have c_7 : ¬ (((40 : Int32) : Int32) ≤ nI k4) := c_7
        have hk_4 : k4 < 40 := z_cont (by decide) h1_4 c_7
        refine lv_iload_n hx hb dX0_owedTo_10 rfl (lv_at hl 1 rfl) ?_
        refine lv_aload_n hx hb dX0_owedTo_11 rfl (lv_at hl 2 rfl) ?_
        refine lv_iload_n hx hb dX0_owedTo_12 rfl (lv_at hl 0 rfl) ?_
        refine lv_iload_n hx hb dX0_owedTo_13 rfl (lv_at hl 3 rfl) ?_
        refine z_ro (va_runV (As := [.int (nI k4), .int (a)]) (rest := [.int (dTo (sD S) a k4)]) ⟨hx, hb, hml, hown, hz⟩ (c_X0_owed l D cI cQ q S (nI k4) a) (zcwV 2 hz q2_110 q2_111 q2_112 q1_5 q2_113 hd_X0_owed (Nat.le_of_ble_eq_true rfl) (Nat.le_of_ble_eq_true rfl)) (z_pv (ci := 0) (q := (RX0, TX0, 1)) hK hP rfl rfl) rfl rfl hl.1 rfl (lv_room (Nat.le_of_ble_eq_true rfl)) dX0_owedTo_14 ⟨(Nat.le_of_ble_eq_true rfl), (Nat.le_of_ble_eq_true rfl)⟩) ?_
        refine lv_iadd hx hb dX0_owedTo_17 ?_
        refine lv_istore_n (lv' := [(2, .int ((dTo (sD S) a k4) + (dOwF ((sD S)) (nI k4) a))), (3, .int (nI k4)), (0, .ref (q 10)), (1, .int (a))]) hx hb dX0_owedTo_18 rfl hl (by decide) rfl (fun ls hl => ?_)
        refine lv_iinc (v := (nI k4) + 1) (lv' := [(3, .int ((nI k4) + 1)), (2, .int ((dTo (sD S) a k4) + (dOwF ((sD S)) (nI k4) a))), (0, .ref (q 10)), (1, .int (a))]) hx hb dX0_owedTo_19 hl (k := 1) rfl rfl (by decide) rfl (fun ls hl => ?_)
        refine lv_goto (tgt := 4) hx hb dX0_owedTo_22 (by decide) ?_
        have e4_3 : (nI (k4 + 1) : Int32) = (nI k4) + 1 := (nI_1 _).symm
        have e4_2 : (dTo (sD S) a (k4 + 1) : Int32) = (dTo (sD S) a k4) + (dOwF ((sD S)) (nI k4) a) := (by rfl)
        exact ih4 (k4 + 1) (by omega) (by omega) _ (by (try rw [e4_3]); (try rw [e4_2]); exact lv_sub hl [0, 1, 2, 3] rfl)
  have e4_3 : (nI 0 : Int32) = (0 : Int32) := rfl
  have e4_2 : (dTo (sD S) a 0 : Int32) = (0 : Int32) := (by rfl)
  exact L4 (40 + 1) (0) (Nat.zero_le _) (by omega) _ (by (try rw [e4_3]); (try rw [e4_2]); exact lv_sub hl [0, 1, 2, 3] rfl)
set_option maxHeartbeats 1000000 in
set_option maxRecDepth 100000 in
theorem c_X0_sum (l : Launch) (D : va_G) (cI cQ : ClassId) (q : Nat → Nat) (S : CS) : zRO l yX0_sum (Cond.code yX0_sum cX0_sum 3 (some .int) :: zT) 3 66 [.ref (q 10)] D cI cQ (zDeb cI q S) (dSum (sD S) 40) := by
  refine zRO.of (cc := cX0_sum) (maxL := 3) (ret := some .int) (by decide +kernel) rfl (Nat.le_of_ble_eq_true rfl) ?_
  intro pg e s mi args below meth cd hx hb hr hts hown hlocks hml hP hK ls hl
  have hz : ∀ w ∈ zT, w.before args s = true := fun w h => hts w (List.mem_cons_of_mem _ h)
  have hl : lv_has ls 3 [(0, .ref (q 10))] := hl
  refine lv_iconst (v := 0) hx hb dX0_sum_0 (by decide) ?_
  refine lv_istore_n (lv' := [(1, .int (0 : Int32)), (0, .ref (q 10))]) hx hb dX0_sum_1 rfl hl (by decide) rfl (fun ls hl => ?_)
  refine lv_iconst (v := 0) hx hb dX0_sum_2 (by decide) ?_
  refine lv_istore_n (lv' := [(2, .int (0 : Int32)), (1, .int (0 : Int32)), (0, .ref (q 10))]) hx hb dX0_sum_3 rfl hl (by decide) rfl (fun ls hl => ?_)
  have L4 : ∀ (n4 k4 : Nat), k4 ≤ 40 → 40 < k4 + n4 → ∀ (ls : Array Slot), lv_has ls 3 [(2, .int (nI k4)), (1, .int (dSum (sD S) k4)), (0, .ref (q 10))] → W pg l e ({ frames := 3, cells := 0, slots := 0, locals := 66 }) s mi args below meth cd s.heap [] 0 0 (MQ below (vp_Si (fun r => r = dSum (sD S) 40)) args s 0 0 (fun _ => False)) (F0 mi 4 ls []) := by
    intro n4
    induction n4 with
    | zero => intro k4 h1 h2; exact absurd h2 (by omega)
    | succ n4 ih4 =>
      intro k4 h1_4 h2_4  ls hl
      refine lv_iload_n hx hb dX0_sum_4 rfl (lv_at hl 0 rfl) ?_
      refine lv_bipush (v := 40) hx hb dX0_sum_5 (by decide) ?_
      refine lv_icmp_ge (tgt := 24) hx hb dX0_sum_7 (by decide) (fun c_7 => ?_) (fun c_7 => ?_)
      · have c_7 : ((40 : Int32) : Int32) ≤ nI k4 := c_7
        have hk_4 : k4 = 40 := z_exit (by decide) h1_4 c_7
        refine lv_iload_n hx hb dX0_sum_24 rfl (lv_at hl 1 rfl) ?_
        exact z_iret hx hb hr rfl hlocks (by rw [hk_4]) dX0_sum_25
      · have c_7 : ¬ (((40 : Int32) : Int32) ≤ nI k4) := c_7
        have hk_4 : k4 < 40 := z_cont (by decide) h1_4 c_7
        refine lv_iload_n hx hb dX0_sum_10 rfl (lv_at hl 1 rfl) ?_
        refine lv_aload_n hx hb dX0_sum_11 rfl (lv_at hl 2 rfl) ?_
        refine lv_iload_n hx hb dX0_sum_12 rfl (lv_at hl 0 rfl) ?_
        refine z_ro (va_runV (As := [.int (nI k4)]) (rest := [.int (dSum (sD S) k4)]) ⟨hx, hb, hml, hown, hz⟩ (c_X0_owedBy l D cI cQ q S (nI k4)) (zcwV 1 hz q2_201 q2_202 q2_203 q1_5 q2_204 hd_X0_owedBy (Nat.le_of_ble_eq_true rfl) (Nat.le_of_ble_eq_true rfl)) (z_pv (ci := 0) (q := (RX0, TX0, 1)) hK hP rfl rfl) rfl rfl hl.1 rfl (lv_room (Nat.le_of_ble_eq_true rfl)) dX0_sum_13 ⟨(Nat.le_of_ble_eq_true rfl), (Nat.le_of_ble_eq_true rfl)⟩) ?_
        refine lv_iadd hx hb dX0_sum_16 ?_
        refine lv_istore_n (lv' := [(1, .int ((dSum (sD S) k4) + (dBy ((sD S)) (nI k4) 40))), (2, .int (nI k4)), (0, .ref (q 10))]) hx hb dX0_sum_17 rfl hl (by decide) rfl (fun ls hl => ?_)
        refine lv_iinc (v := (nI k4) + 1) (lv' := [(2, .int ((nI k4) + 1)), (1, .int ((dSum (sD S) k4) + (dBy ((sD S)) (nI k4) 40))), (0, .ref (q 10))]) hx hb dX0_sum_18 hl (k := 1) rfl rfl (by decide) rfl (fun ls hl => ?_)
        refine lv_goto (tgt := 4) hx hb dX0_sum_21 (by decide) ?_
        have e4_2 : (nI (k4 + 1) : Int32) = (nI k4) + 1 := (nI_1 _).symm
        have e4_1 : (dSum (sD S) (k4 + 1) : Int32) = (dSum (sD S) k4) + (dBy ((sD S)) (nI k4) 40) := (by rfl)
        exact ih4 (k4 + 1) (by omega) (by omega) _ (by (try rw [e4_2]); (try rw [e4_1]); exact lv_sub hl [0, 1, 2] rfl)
  have e4_2 : (nI 0 : Int32) = (0 : Int32) := rfl
  have e4_1 : (dSum (sD S) 0 : Int32) = (0 : Int32) := (by rfl)
  exact L4 (40 + 1) (0) (Nat.zero_le _) (by omega) _ (by (try rw [e4_2]); (try rw [e4_1]); exact lv_sub hl [0, 1, 2] rfl)
set_option maxHeartbeats 1000000 in
set_option maxRecDepth 100000 in
theorem c_X0_firstCreditorOf (l : Launch) (D : va_G) (cI cQ : ClassId) (q : Nat → Nat) (S : CS) (a : Int32) : zRO l yX0_firstCreditorOf (Cond.code yX0_firstCreditorOf cX0_firstCreditorOf 3 (some .int) :: zT) 2 43 [.ref (q 10), .int a] D cI cQ (zDeb cI q S) (dFst (sD S) a) := by
  refine zRO.of (cc := cX0_firstCreditorOf) (maxL := 3) (ret := some .int) (by decide +kernel) rfl (Nat.le_of_ble_eq_true rfl) ?_
  intro pg e s mi args below meth cd hx hb hr hts hown hlocks hml hP hK ls hl
  have hz : ∀ w ∈ zT, w.before args s = true := fun w h => hts w (List.mem_cons_of_mem _ h)
  have hl : lv_has ls 3 [(0, .ref (q 10)), (1, .int (a))] := hl
  refine lv_iconst (v := 0) hx hb dX0_firstCreditorOf_0 (by decide) ?_
  refine lv_istore_n (lv' := [(2, .int (0 : Int32)), (0, .ref (q 10)), (1, .int (a))]) hx hb dX0_firstCreditorOf_1 rfl hl (by decide) rfl (fun ls hl => ?_)
  have L2 : ∀ (n2 k2 : Nat), k2 ≤ 40 → 40 < k2 + n2 → (dFst (sD S) a = fnd (fun k => !decide (dOwF (sD S) a (nI k) ≤ 0)) (40 - k2) k2) → ∀ (ls : Array Slot), lv_has ls 3 [(2, .int (nI k2)), (0, .ref (q 10)), (1, .int (a))] → W pg l e ({ frames := 2, cells := 0, slots := 0, locals := 43 }) s mi args below meth cd s.heap [] 0 0 (MQ below (vp_Si (fun r => r = dFst (sD S) a)) args s 0 0 (fun _ => False)) (F0 mi 2 ls []) := by
    intro n2
    induction n2 with
    | zero => intro k2 h1 h2; exact absurd h2 (by omega)
    | succ n2 ih2 =>
      intro k2 h1_2 h2_2 he ls hl
      refine lv_iload_n hx hb dX0_firstCreditorOf_2 rfl (lv_at hl 0 rfl) ?_
      refine lv_bipush (v := 40) hx hb dX0_firstCreditorOf_3 (by decide) ?_
      refine lv_icmp_ge (tgt := 25) hx hb dX0_firstCreditorOf_5 (by decide) (fun c_5 => ?_) (fun c_5 => ?_)
      · have c_5 : ((40 : Int32) : Int32) ≤ nI k2 := c_5
        have hk_2 : k2 = 40 := z_exit (by decide) h1_2 c_5
        refine lv_bipush (v := (-9)) hx hb dX0_firstCreditorOf_25 (by decide) ?_
        exact z_iret hx hb hr rfl hlocks (by rw [he, hk_2]; rfl) dX0_firstCreditorOf_27
      · have c_5 : ¬ (((40 : Int32) : Int32) ≤ nI k2) := c_5
        have hk_2 : k2 < 40 := z_cont (by decide) h1_2 c_5
        refine lv_aload_n hx hb dX0_firstCreditorOf_8 rfl (lv_at hl 1 rfl) ?_
        refine lv_iload_n hx hb dX0_firstCreditorOf_9 rfl (lv_at hl 2 rfl) ?_
        refine lv_iload_n hx hb dX0_firstCreditorOf_10 rfl (lv_at hl 0 rfl) ?_
        refine z_ro (va_runV (As := [.int (a), .int (nI k2)]) (rest := []) ⟨hx, hb, hml, hown, hz⟩ (c_X0_owed l D cI cQ q S a (nI k2)) (zcwV 2 hz q2_110 q2_111 q2_112 q1_5 q2_113 hd_X0_owed (Nat.le_of_ble_eq_true rfl) (Nat.le_of_ble_eq_true rfl)) (z_pv (ci := 0) (q := (RX0, TX0, 1)) hK hP rfl rfl) rfl rfl hl.1 rfl (lv_room (Nat.le_of_ble_eq_true rfl)) dX0_firstCreditorOf_11 ⟨(Nat.le_of_ble_eq_true rfl), (Nat.le_of_ble_eq_true rfl)⟩) ?_
        refine lv_if_le (tgt := 19) hx hb dX0_firstCreditorOf_14 (by decide) (fun c_14 => ?_) (fun c_14 => ?_)
        · have c_14 : (dOwF ((sD S)) a (nI k2) : Int32) ≤ 0 := c_14
          refine lv_iinc (v := (nI k2) + 1) (lv' := [(2, .int ((nI k2) + 1)), (0, .ref (q 10)), (1, .int (a))]) hx hb dX0_firstCreditorOf_19 hl (k := 0) rfl rfl (by decide) rfl (fun ls hl => ?_)
          refine lv_goto (tgt := 2) hx hb dX0_firstCreditorOf_22 (by decide) ?_
          have e2_2 : (nI (k2 + 1) : Int32) = (nI k2) + 1 := (nI_1 _).symm
          exact ih2 (k2 + 1) (by omega) (by omega) (he.trans (fnd_no hk_2 (by simp [c_14]))) _ (by (try rw [e2_2]); exact lv_sub hl [0, 1, 2] rfl)
        · have c_14 : ¬ ((dOwF ((sD S)) a (nI k2) : Int32) ≤ 0) := c_14
          refine lv_iload_n hx hb dX0_firstCreditorOf_17 rfl (lv_at hl 0 rfl) ?_
          exact z_iret hx hb hr rfl hlocks (by exact (he.trans (fnd_yes hk_2 (by simp [c_14]))).symm) dX0_firstCreditorOf_18
  have e2_2 : (nI 0 : Int32) = (0 : Int32) := rfl
  exact L2 (40 + 1) (0) (Nat.zero_le _) (by omega) (rfl) _ (by (try rw [e2_2]); exact lv_sub hl [0, 1, 2] rfl)
set_option maxHeartbeats 1000000 in
set_option maxRecDepth 100000 in
theorem c_X0_passOn (l : Launch) (D : va_G) (cI cQ : ClassId) (q : Nat → Nat) (S : CS) (fr no : Int32) (g1 : FI) (hg1 : g1 = dPass (sD S) fr no) : zWR l yX0_passOn (Cond.code yX0_passOn cX0_passOn 4 (none) :: zT) 3 69 [.ref (q 10), .int fr, .int no] D cI cQ (zDeb cI q S) none (zDeb cI q (uD S g1)) := by
  refine zWR.of (cc := cX0_passOn) (maxL := 4) (ret := none) (by decide +kernel) rfl (Nat.le_of_ble_eq_true rfl) ?_
  intro pg e s mi args below meth cd hx hb hr hts hown hlocks hml hP hD hS hK ls hl
  have hz : ∀ w ∈ zT, w.before args s = true := fun w h => hts w (List.mem_cons_of_mem _ h)
  have hl : lv_has ls 4 [(0, .ref (q 10)), (1, .int (fr)), (2, .int (no))] := hl
  refine lv_iconst (v := 0) hx hb dX0_passOn_0 (by decide) ?_
  refine lv_istore_n (lv' := [(3, .int (0 : Int32)), (0, .ref (q 10)), (1, .int (fr)), (2, .int (no))]) hx hb dX0_passOn_1 rfl hl (by decide) rfl (fun ls hl => ?_)
  have L2 : ∀ (n2 k2 : Nat), k2 ≤ 40 → 40 < k2 + n2 → ∀ (H : Heap) (locs : List Loc), va_P D vwCl (zDeb cI q (uD S (dP1 (sD S) fr no k2))) H → va_D (zA (zDeb cI q S)) (zDeb cI q (uD S (dP1 (sD S) fr no k2))) → va_S (zA (zDeb cI q S)) s.heap H locs → ∀ (ls : Array Slot), lv_has ls 4 [(3, .int (nI k2)), (0, .ref (q 10)), (1, .int (fr)), (2, .int (no))] → W pg l e ({ frames := 3, cells := 0, slots := 0, locals := 69 }) s mi args below meth cd H locs 0 0 (MQ below (zQ D (zDeb cI q S) none (zDeb cI q (uD S g1))) args s 0 0 (zA (zDeb cI q S))) (F0 mi 2 ls []) := by
    intro n2
    induction n2 with
    | zero => intro k2 h1 h2; exact absurd h2 (by omega)
    | succ n2 ih2 =>
      intro k2 h1_2 h2_2  H locs hP hD hS ls hl
      refine lv_iload_n hx hb dX0_passOn_2 rfl (lv_at hl 0 rfl) ?_
      refine lv_bipush (v := 40) hx hb dX0_passOn_3 (by decide) ?_
      refine lv_icmp_ge (tgt := 22) hx hb dX0_passOn_5 (by decide) (fun c_5 => ?_) (fun c_5 => ?_)
      · have c_5 : ((40 : Int32) : Int32) ≤ nI k2 := c_5
        have hk_2 : k2 = 40 := z_exit (by decide) h1_2 c_5
        refine lv_iconst (v := 0) hx hb dX0_passOn_22 (by decide) ?_
        refine lv_istore_n (lv' := [(3, .int (0 : Int32)), (0, .ref (q 10)), (1, .int (fr)), (2, .int (no))]) hx hb dX0_passOn_23 rfl hl (by decide) rfl (fun ls hl => ?_)
        have L24 : ∀ (n24 k24 : Nat), k24 ≤ 40 → 40 < k24 + n24 → ∀ (H : Heap) (locs : List Loc), va_P D vwCl (zDeb cI q (uD S (dP2 (dP1 (sD S) fr no 40) fr no k24))) H → va_D (zA (zDeb cI q S)) (zDeb cI q (uD S (dP2 (dP1 (sD S) fr no 40) fr no k24))) → va_S (zA (zDeb cI q S)) s.heap H locs → ∀ (ls : Array Slot), lv_has ls 4 [(3, .int (nI k24)), (0, .ref (q 10)), (1, .int (fr)), (2, .int (no))] → W pg l e ({ frames := 3, cells := 0, slots := 0, locals := 69 }) s mi args below meth cd H locs 0 0 (MQ below (zQ D (zDeb cI q S) none (zDeb cI q (uD S g1))) args s 0 0 (zA (zDeb cI q S))) (F0 mi 24 ls []) := by
          intro n24
          induction n24 with
          | zero => intro k24 h1 h2; exact absurd h2 (by omega)
          | succ n24 ih24 =>
            intro k24 h1_24 h2_24  H locs hP hD hS ls hl
            refine lv_iload_n hx hb dX0_passOn_24 rfl (lv_at hl 0 rfl) ?_
            refine lv_bipush (v := 40) hx hb dX0_passOn_25 (by decide) ?_
            refine lv_icmp_ge (tgt := 44) hx hb dX0_passOn_27 (by decide) (fun c_27 => ?_) (fun c_27 => ?_)
            · have c_27 : ((40 : Int32) : Int32) ≤ nI k24 := c_27
              have hk_24 : k24 = 40 := z_exit (by decide) h1_24 c_27
              refine lv_aload_n hx hb dX0_passOn_44 rfl (lv_at hl 1 rfl) ?_
              refine lv_iload_n hx hb dX0_passOn_45 rfl (lv_at hl 3 rfl) ?_
              refine lv_iload_n hx hb dX0_passOn_46 rfl (lv_at hl 3 rfl) ?_
              refine lv_aload_n hx hb dX0_passOn_47 rfl (lv_at hl 1 rfl) ?_
              refine lv_iload_n hx hb dX0_passOn_48 rfl (lv_at hl 3 rfl) ?_
              refine lv_iload_n hx hb dX0_passOn_49 rfl (lv_at hl 3 rfl) ?_
              refine z_ro (va_runV (As := [.int (no), .int (no)]) (rest := [.int (no), .int (no), .ref (q 10)]) ⟨hx, hb, hml, hown, hz⟩ (c_X0_owed l D cI cQ q (uD S (dP2 (dP1 (sD S) fr no 40) fr no k24)) no no) (zcwV 2 hz q2_110 q2_111 q2_112 q1_5 q2_113 hd_X0_owed (Nat.le_of_ble_eq_true rfl) (Nat.le_of_ble_eq_true rfl)) (z_pv (ci := 0) (q := (RX0, TX0, 1)) hK hP rfl rfl) rfl rfl hl.1 rfl (lv_room (Nat.le_of_ble_eq_true rfl)) dX0_passOn_50 ⟨(Nat.le_of_ble_eq_true rfl), (Nat.le_of_ble_eq_true rfl)⟩) ?_
              refine lv_ineg hx hb dX0_passOn_53 ?_
              obtain ⟨g_1, hg_1⟩ : ∃ z : FI, z = dCh ((dP2 (dP1 (sD S) fr no 40) fr no k24)) no no (-(dOwF ((dP2 (dP1 (sD S) fr no 40) fr no k24)) no no)) := ⟨_, rfl⟩
              refine z_wv (X' := zDeb cI q (uD S g_1)) (va_runV (As := [.int (no), .int (no), .int (-(dOwF ((dP2 (dP1 (sD S) fr no 40) fr no k24)) no no))]) (rest := []) ⟨hx, hb, hml, hown, hz⟩ (c_X0_change l D cI cQ q (uD S (dP2 (dP1 (sD S) fr no 40) fr no k24)) no no (-(dOwF ((dP2 (dP1 (sD S) fr no 40) fr no k24)) no no)) g_1 hg_1) (zcwV 3 hz q2_156 q2_32 q2_33 q1_5 q2_34 hd_X0_change (Nat.le_of_ble_eq_true rfl) (Nat.le_of_ble_eq_true rfl)) (z_pvw (ci := 0) (q := (RX0, TX0, 1)) hK hP hD rfl rfl) rfl rfl hl.1 rfl (lv_room (Nat.le_of_ble_eq_true rfl)) dX0_passOn_54 ⟨(Nat.le_of_ble_eq_true rfl), (Nat.le_of_ble_eq_true rfl)⟩) hP hD hS [0, 1] rfl rfl rfl (fun H locs hP hD hS => ?_)
              exact z_wvret hx hb hr hlocks hP hS (congrArg (fun T => zDeb cI q T) (show uD S g_1 = uD S g1 from by (try simp only [hg_1, hg1]) <;> (rw [hk_24]; rfl))) dX0_passOn_57
            · have c_27 : ¬ (((40 : Int32) : Int32) ≤ nI k24) := c_27
              have hk_24 : k24 < 40 := z_cont (by decide) h1_24 c_27
              refine lv_aload_n hx hb dX0_passOn_30 rfl (lv_at hl 1 rfl) ?_
              refine lv_iload_n hx hb dX0_passOn_31 rfl (lv_at hl 0 rfl) ?_
              refine lv_iload_n hx hb dX0_passOn_32 rfl (lv_at hl 2 rfl) ?_
              refine lv_iload_n hx hb dX0_passOn_33 rfl (lv_at hl 0 rfl) ?_
              refine lv_iload_n hx hb dX0_passOn_34 rfl (lv_at hl 3 rfl) ?_
              obtain ⟨g_2, hg_2⟩ : ∃ z : FI, z = dSh ((dP2 (dP1 (sD S) fr no 40) fr no k24)) (nI k24) fr (nI k24) no := ⟨_, rfl⟩
              refine z_wv (X' := zDeb cI q (uD S g_2)) (va_runV (As := [.int (nI k24), .int (fr), .int (nI k24), .int (no)]) (rest := []) ⟨hx, hb, hml, hown, hz⟩ (c_X0_shift l D cI cQ q (uD S (dP2 (dP1 (sD S) fr no 40) fr no k24)) (nI k24) fr (nI k24) no g_2 hg_2) (zcwV 4 hz q2_152 q2_154 qs_10 q1_5 q2_155 hd_X0_shift (Nat.le_of_ble_eq_true rfl) (Nat.le_of_ble_eq_true rfl)) (z_pvw (ci := 0) (q := (RX0, TX0, 1)) hK hP hD rfl rfl) rfl rfl hl.1 rfl (lv_room (Nat.le_of_ble_eq_true rfl)) dX0_passOn_35 ⟨(Nat.le_of_ble_eq_true rfl), (Nat.le_of_ble_eq_true rfl)⟩) hP hD hS [0, 1] rfl rfl rfl (fun H locs hP hD hS => ?_)
              refine lv_iinc (v := (nI k24) + 1) (lv' := [(3, .int ((nI k24) + 1)), (0, .ref (q 10)), (1, .int (fr)), (2, .int (no))]) hx hb dX0_passOn_38 hl (k := 0) rfl rfl (by decide) rfl (fun ls hl => ?_)
              refine lv_goto (tgt := 24) hx hb dX0_passOn_41 (by decide) ?_
              have e24_3 : (nI (k24 + 1) : Int32) = (nI k24) + 1 := (nI_1 _).symm
              have eS24 : uD S (dP2 (dP1 (sD S) fr no 40) fr no (k24 + 1)) = uD S g_2 := by (try simp only [hg_2]) <;> (rfl)
              exact ih24 (k24 + 1) (by omega) (by omega) H locs (by rw [eS24]; exact hP) (by rw [eS24]; exact hD) hS _ (by (try rw [e24_3]); exact lv_sub hl [0, 1, 2, 3] rfl)
        have e24_3 : (nI 0 : Int32) = (0 : Int32) := rfl
        have eS24 : uD S (dP2 (dP1 (sD S) fr no 40) fr no 0) = uD S (dP1 (sD S) fr no k2) := by rw [hk_2]; rfl
        exact L24 (40 + 1) (0) (Nat.zero_le _) (by omega) H locs (by rw [eS24]; exact hP) (by rw [eS24]; exact hD) hS _ (by (try rw [e24_3]); exact lv_sub hl [0, 1, 2, 3] rfl)
      · have c_5 : ¬ (((40 : Int32) : Int32) ≤ nI k2) := c_5
        have hk_2 : k2 < 40 := z_cont (by decide) h1_2 c_5
        refine lv_aload_n hx hb dX0_passOn_8 rfl (lv_at hl 1 rfl) ?_
        refine lv_iload_n hx hb dX0_passOn_9 rfl (lv_at hl 2 rfl) ?_
        refine lv_iload_n hx hb dX0_passOn_10 rfl (lv_at hl 0 rfl) ?_
        refine lv_iload_n hx hb dX0_passOn_11 rfl (lv_at hl 3 rfl) ?_
        refine lv_iload_n hx hb dX0_passOn_12 rfl (lv_at hl 0 rfl) ?_
        obtain ⟨g_3, hg_3⟩ : ∃ z : FI, z = dSh ((dP1 (sD S) fr no k2)) fr (nI k2) no (nI k2) := ⟨_, rfl⟩
        refine z_wv (X' := zDeb cI q (uD S g_3)) (va_runV (As := [.int (fr), .int (nI k2), .int (no), .int (nI k2)]) (rest := []) ⟨hx, hb, hml, hown, hz⟩ (c_X0_shift l D cI cQ q (uD S (dP1 (sD S) fr no k2)) fr (nI k2) no (nI k2) g_3 hg_3) (zcwV 4 hz q2_152 q2_154 qs_10 q1_5 q2_155 hd_X0_shift (Nat.le_of_ble_eq_true rfl) (Nat.le_of_ble_eq_true rfl)) (z_pvw (ci := 0) (q := (RX0, TX0, 1)) hK hP hD rfl rfl) rfl rfl hl.1 rfl (lv_room (Nat.le_of_ble_eq_true rfl)) dX0_passOn_13 ⟨(Nat.le_of_ble_eq_true rfl), (Nat.le_of_ble_eq_true rfl)⟩) hP hD hS [0, 1] rfl rfl rfl (fun H locs hP hD hS => ?_)
        refine lv_iinc (v := (nI k2) + 1) (lv' := [(3, .int ((nI k2) + 1)), (0, .ref (q 10)), (1, .int (fr)), (2, .int (no))]) hx hb dX0_passOn_16 hl (k := 0) rfl rfl (by decide) rfl (fun ls hl => ?_)
        refine lv_goto (tgt := 2) hx hb dX0_passOn_19 (by decide) ?_
        have e2_3 : (nI (k2 + 1) : Int32) = (nI k2) + 1 := (nI_1 _).symm
        have eS2 : uD S (dP1 (sD S) fr no (k2 + 1)) = uD S g_3 := by (try simp only [hg_3]) <;> (rfl)
        exact ih2 (k2 + 1) (by omega) (by omega) H locs (by rw [eS2]; exact hP) (by rw [eS2]; exact hD) hS _ (by (try rw [e2_3]); exact lv_sub hl [0, 1, 2, 3] rfl)
  have e2_3 : (nI 0 : Int32) = (0 : Int32) := rfl
  have eS2 : uD S (dP1 (sD S) fr no 0) = S := by rfl
  exact L2 (40 + 1) (0) (Nat.zero_le _) (by omega) s.heap [] (by rw [eS2]; exact hP) (by rw [eS2]; exact hD) hS _ (by (try rw [e2_3]); exact lv_sub hl [0, 1, 2, 3] rfl)
