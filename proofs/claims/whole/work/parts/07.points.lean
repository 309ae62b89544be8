theorem hd_X5_isBetween : yX5_isBetween.cls ≠ "java/lang/invoke/MethodHandle" ∧ yX5_isBetween.cls ≠ "java/lang/invoke/VarHandle" ∧ (parseMethodDescriptor yX5_isBetween.desc).map (fun d => d.parameters.length) = some 3 := by decide +kernel
theorem hd_X5_isOnMap : yX5_isOnMap.cls ≠ "java/lang/invoke/MethodHandle" ∧ yX5_isOnMap.cls ≠ "java/lang/invoke/VarHandle" ∧ (parseMethodDescriptor yX5_isOnMap.desc).map (fun d => d.parameters.length) = some 2 := by decide +kernel
theorem hd_X5_sideOf : yX5_sideOf.cls ≠ "java/lang/invoke/MethodHandle" ∧ yX5_sideOf.cls ≠ "java/lang/invoke/VarHandle" ∧ (parseMethodDescriptor yX5_sideOf.desc).map (fun d => d.parameters.length) = some 1 := by decide +kernel
theorem hd_X5_quarterLeft : yX5_quarterLeft.cls ≠ "java/lang/invoke/MethodHandle" ∧ yX5_quarterLeft.cls ≠ "java/lang/invoke/VarHandle" ∧ (parseMethodDescriptor yX5_quarterLeft.desc).map (fun d => d.parameters.length) = some 3 := by decide +kernel
theorem hd_X5_quarterTop : yX5_quarterTop.cls ≠ "java/lang/invoke/MethodHandle" ∧ yX5_quarterTop.cls ≠ "java/lang/invoke/VarHandle" ∧ (parseMethodDescriptor yX5_quarterTop.desc).map (fun d => d.parameters.length) = some 3 := by decide +kernel
theorem hd_X3_exists : yX3_exists.cls ≠ "java/lang/invoke/MethodHandle" ∧ yX3_exists.cls ≠ "java/lang/invoke/VarHandle" ∧ (parseMethodDescriptor yX3_exists.desc).map (fun d => d.parameters.length) = some 1 := by decide +kernel
theorem hd_X3_areFull : yX3_areFull.cls ≠ "java/lang/invoke/MethodHandle" ∧ yX3_areFull.cls ≠ "java/lang/invoke/VarHandle" ∧ (parseMethodDescriptor yX3_areFull.desc).map (fun d => d.parameters.length) = some 0 := by decide +kernel
theorem hd_X3_numberAdded : yX3_numberAdded.cls ≠ "java/lang/invoke/MethodHandle" ∧ yX3_numberAdded.cls ≠ "java/lang/invoke/VarHandle" ∧ (parseMethodDescriptor yX3_numberAdded.desc).map (fun d => d.parameters.length) = some 0 := by decide +kernel
theorem hd_X3_xOf : yX3_xOf.cls ≠ "java/lang/invoke/MethodHandle" ∧ yX3_xOf.cls ≠ "java/lang/invoke/VarHandle" ∧ (parseMethodDescriptor yX3_xOf.desc).map (fun d => d.parameters.length) = some 1 := by decide +kernel
theorem hd_X3_yOf : yX3_yOf.cls ≠ "java/lang/invoke/MethodHandle" ∧ yX3_yOf.cls ≠ "java/lang/invoke/VarHandle" ∧ (parseMethodDescriptor yX3_yOf.desc).map (fun d => d.parameters.length) = some 1 := by decide +kernel
theorem hd_X3_wealthOf : yX3_wealthOf.cls ≠ "java/lang/invoke/MethodHandle" ∧ yX3_wealthOf.cls ≠ "java/lang/invoke/VarHandle" ∧ (parseMethodDescriptor yX3_wealthOf.desc).map (fun d => d.parameters.length) = some 1 := by decide +kernel
theorem hd_X3_lordOf : yX3_lordOf.cls ≠ "java/lang/invoke/MethodHandle" ∧ yX3_lordOf.cls ≠ "java/lang/invoke/VarHandle" ∧ (parseMethodDescriptor yX3_lordOf.desc).map (fun d => d.parameters.length) = some 1 := by decide +kernel
theorem hd_X3_place : yX3_place.cls ≠ "java/lang/invoke/MethodHandle" ∧ yX3_place.cls ≠ "java/lang/invoke/VarHandle" ∧ (parseMethodDescriptor yX3_place.desc).map (fun d => d.parameters.length) = some 4 := by decide +kernel
theorem hd_X3_takeAway : yX3_takeAway.cls ≠ "java/lang/invoke/MethodHandle" ∧ yX3_takeAway.cls ≠ "java/lang/invoke/VarHandle" ∧ (parseMethodDescriptor yX3_takeAway.desc).map (fun d => d.parameters.length) = some 1 := by decide +kernel
theorem hd_X3_shift : yX3_shift.cls ≠ "java/lang/invoke/MethodHandle" ∧ yX3_shift.cls ≠ "java/lang/invoke/VarHandle" ∧ (parseMethodDescriptor yX3_shift.desc).map (fun d => d.parameters.length) = some 3 := by decide +kernel
theorem hd_X3_setLord : yX3_setLord.cls ≠ "java/lang/invoke/MethodHandle" ∧ yX3_setLord.cls ≠ "java/lang/invoke/VarHandle" ∧ (parseMethodDescriptor yX3_setLord.desc).map (fun d => d.parameters.length) = some 2 := by decide +kernel
theorem hd_X3_liesIn : yX3_liesIn.cls ≠ "java/lang/invoke/MethodHandle" ∧ yX3_liesIn.cls ≠ "java/lang/invoke/VarHandle" ∧ (parseMethodDescriptor yX3_liesIn.desc).map (fun d => d.parameters.length) = some 5 := by decide +kernel
theorem hd_X3_numberIn : yX3_numberIn.cls ≠ "java/lang/invoke/MethodHandle" ∧ yX3_numberIn.cls ≠ "java/lang/invoke/VarHandle" ∧ (parseMethodDescriptor yX3_numberIn.desc).map (fun d => d.parameters.length) = some 4 := by decide +kernel
theorem hd_X3_number : yX3_number.cls ≠ "java/lang/invoke/MethodHandle" ∧ yX3_number.cls ≠ "java/lang/invoke/VarHandle" ∧ (parseMethodDescriptor yX3_number.desc).map (fun d => d.parameters.length) = some 0 := by decide +kernel
theorem hd_X3_wealthIn : yX3_wealthIn.cls ≠ "java/lang/invoke/MethodHandle" ∧ yX3_wealthIn.cls ≠ "java/lang/invoke/VarHandle" ∧ (parseMethodDescriptor yX3_wealthIn.desc).map (fun d => d.parameters.length) = some 4 := by decide +kernel
theorem hd_X3_richestIn : yX3_richestIn.cls ≠ "java/lang/invoke/MethodHandle" ∧ yX3_richestIn.cls ≠ "java/lang/invoke/VarHandle" ∧ (parseMethodDescriptor yX3_richestIn.desc).map (fun d => d.parameters.length) = some 4 := by decide +kernel
theorem hd_X3_nearestTo : yX3_nearestTo.cls ≠ "java/lang/invoke/MethodHandle" ∧ yX3_nearestTo.cls ≠ "java/lang/invoke/VarHandle" ∧ (parseMethodDescriptor yX3_nearestTo.desc).map (fun d => d.parameters.length) = some 2 := by decide +kernel
theorem hd_X3_numberUnder : yX3_numberUnder.cls ≠ "java/lang/invoke/MethodHandle" ∧ yX3_numberUnder.cls ≠ "java/lang/invoke/VarHandle" ∧ (parseMethodDescriptor yX3_numberUnder.desc).map (fun d => d.parameters.length) = some 1 := by decide +kernel
theorem hd_X3_wealthUnder : yX3_wealthUnder.cls ≠ "java/lang/invoke/MethodHandle" ∧ yX3_wealthUnder.cls ≠ "java/lang/invoke/VarHandle" ∧ (parseMethodDescriptor yX3_wealthUnder.desc).map (fun d => d.parameters.length) = some 1 := by decide +kernel
theorem hd_X3_poorestUnder : yX3_poorestUnder.cls ≠ "java/lang/invoke/MethodHandle" ∧ yX3_poorestUnder.cls ≠ "java/lang/invoke/VarHandle" ∧ (parseMethodDescriptor yX3_poorestUnder.desc).map (fun d => d.parameters.length) = some 5 := by decide +kernel
theorem hd_X3_changeLord : yX3_changeLord.cls ≠ "java/lang/invoke/MethodHandle" ∧ yX3_changeLord.cls ≠ "java/lang/invoke/VarHandle" ∧ (parseMethodDescriptor yX3_changeLord.desc).map (fun d => d.parameters.length) = some 6 := by decide +kernel
theorem hd_X3_crowdedCells : yX3_crowdedCells.cls ≠ "java/lang/invoke/MethodHandle" ∧ yX3_crowdedCells.cls ≠ "java/lang/invoke/VarHandle" ∧ (parseMethodDescriptor yX3_crowdedCells.desc).map (fun d => d.parameters.length) = some 2 := by decide +kernel
theorem hd_X3_cellsIfDivided : yX3_cellsIfDivided.cls ≠ "java/lang/invoke/MethodHandle" ∧ yX3_cellsIfDivided.cls ≠ "java/lang/invoke/VarHandle" ∧ (parseMethodDescriptor yX3_cellsIfDivided.desc).map (fun d => d.parameters.length) = some 1 := by decide +kernel
set_option maxHeartbeats 1000000 in
set_option maxRecDepth 100000 in
theorem c_X5_isBetween (l : Launch) (D : va_G) (cI cQ : ClassId) (n lo hi : Int32) : zRO l yX5_isBetween (Cond.code yX5_isBetween cX5_isBetween 3 (some .boolean) :: zT) 0 0 [.int n, .int lo, .int hi] D cI cQ ([]) (bI (btw n lo hi)) := by
  refine zRO.of (cc := cX5_isBetween) (maxL := 3) (ret := some .boolean) (by decide +kernel) rfl (Nat.le_of_ble_eq_true rfl) ?_
  intro pg e s mi args below meth cd hx hb hr hts hown hlocks hml hP hK ls hl
  have hz : ∀ w ∈ zT, w.before args s = true := fun w h => hts w (List.mem_cons_of_mem _ h)
  have hl : lv_has ls 3 [(0, .int (n)), (1, .int (lo)), (2, .int (hi))] := hl
  refine lv_iload_n hx hb dX5_isBetween_0 rfl (lv_at hl 0 rfl) ?_
  refine lv_iload_n hx hb dX5_isBetween_1 rfl (lv_at hl 1 rfl) ?_
  refine lv_icmp_lt (tgt := 14) hx hb dX5_isBetween_2 (by decide) (fun c_2 => ?_) (fun c_2 => ?_)
  · have c_2 : (n : Int32) < lo := c_2
    refine lv_iconst (v := 0) hx hb dX5_isBetween_14 (by decide) ?_
    exact z_iret hx hb hr rfl hlocks (by simp [btw, bI, c_2]) dX5_isBetween_15
  · have c_2 : ¬ ((n : Int32) < lo) := c_2
    refine lv_iload_n hx hb dX5_isBetween_5 rfl (lv_at hl 0 rfl) ?_
    refine lv_iload_n hx hb dX5_isBetween_6 rfl (lv_at hl 2 rfl) ?_
    refine lv_icmp_gt (tgt := 14) hx hb dX5_isBetween_7 (by decide) (fun c_7 => ?_) (fun c_7 => ?_)
    · have c_7 : (hi : Int32) < n := c_7
      refine lv_iconst (v := 0) hx hb dX5_isBetween_14 (by decide) ?_
      exact z_iret hx hb hr rfl hlocks (by simp [btw, bI, c_2, c_7]) dX5_isBetween_15
    · have c_7 : ¬ ((hi : Int32) < n) := c_7
      refine lv_iconst (v := 1) hx hb dX5_isBetween_10 (by decide) ?_
      refine lv_goto (tgt := 15) hx hb dX5_isBetween_11 (by decide) ?_
      exact z_iret hx hb hr rfl hlocks (by simp [btw, bI, c_2, c_7]) dX5_isBetween_15
set_option maxHeartbeats 1000000 in
set_option maxRecDepth 100000 in
theorem c_X5_isOnMap (l : Launch) (D : va_G) (cI cQ : ClassId) (x y : Int32) : zRO l yX5_isOnMap (Cond.code yX5_isOnMap cX5_isOnMap 2 (some .boolean) :: zT) 1 22 [.int x, .int y] D cI cQ ([]) (bI (onMap x y)) := by
  refine zRO.of (cc := cX5_isOnMap) (maxL := 2) (ret := some .boolean) (by decide +kernel) rfl (Nat.le_of_ble_eq_true rfl) ?_
  intro pg e s mi args below meth cd hx hb hr hts hown hlocks hml hP hK ls hl
  have hz : ∀ w ∈ zT, w.before args s = true := fun w h => hts w (List.mem_cons_of_mem _ h)
  have hl : lv_has ls 2 [(0, .int (x)), (1, .int (y))] := hl
  refine lv_iload_n hx hb dX5_isOnMap_0 rfl (lv_at hl 0 rfl) ?_
  refine lv_iconst (v := 0) hx hb dX5_isOnMap_1 (by decide) ?_
  refine lv_bipush (v := 63) hx hb dX5_isOnMap_2 (by decide) ?_
  refine z_ro (va_runS (As := [.int (x), .int (0 : Int32), .int (63 : Int32)]) (rest := []) ⟨hx, hb, hml, hown, hz⟩ (c_X5_isBetween l D cI cQ x (0 : Int32) (63 : Int32)) (zcwS 3 hz q1_138 q1_58 q1_1 q1_59 hd_X5_isBetween (Nat.le_of_ble_eq_true rfl) (Nat.le_of_ble_eq_true rfl)) (z_ps hK z_nil) rfl rfl hl.1 rfl (lv_room (Nat.le_of_ble_eq_true rfl)) dX5_isOnMap_4 ⟨(Nat.le_of_ble_eq_true rfl), (Nat.le_of_ble_eq_true rfl)⟩) ?_
  refine lv_if_eq (tgt := 24) hx hb dX5_isOnMap_7 (by decide) (fun c_7 => ?_) (fun c_7 => ?_)
  · have c_7 : (btw x (0 : Int32) (63 : Int32)) = false := bI_f c_7
    refine lv_iconst (v := 0) hx hb dX5_isOnMap_24 (by decide) ?_
    exact z_iret hx hb hr rfl hlocks (by simp [onMap, bI, c_7]) dX5_isOnMap_25
  · have c_7 : (btw x (0 : Int32) (63 : Int32)) = true := bI_t c_7
    refine lv_iload_n hx hb dX5_isOnMap_10 rfl (lv_at hl 1 rfl) ?_
    refine lv_iconst (v := 0) hx hb dX5_isOnMap_11 (by decide) ?_
    refine lv_bipush (v := 63) hx hb dX5_isOnMap_12 (by decide) ?_
    refine z_ro (va_runS (As := [.int (y), .int (0 : Int32), .int (63 : Int32)]) (rest := []) ⟨hx, hb, hml, hown, hz⟩ (c_X5_isBetween l D cI cQ y (0 : Int32) (63 : Int32)) (zcwS 3 hz q1_138 q1_58 q1_1 q1_59 hd_X5_isBetween (Nat.le_of_ble_eq_true rfl) (Nat.le_of_ble_eq_true rfl)) (z_ps hK z_nil) rfl rfl hl.1 rfl (lv_room (Nat.le_of_ble_eq_true rfl)) dX5_isOnMap_14 ⟨(Nat.le_of_ble_eq_true rfl), (Nat.le_of_ble_eq_true rfl)⟩) ?_
    refine lv_if_eq (tgt := 24) hx hb dX5_isOnMap_17 (by decide) (fun c_17 => ?_) (fun c_17 => ?_)
    · have c_17 : (btw y (0 : Int32) (63 : Int32)) = false := bI_f c_17
      refine lv_iconst (v := 0) hx hb dX5_isOnMap_24 (by decide) ?_
      exact z_iret hx hb hr rfl hlocks (by simp [onMap, bI, c_7, c_17]) dX5_isOnMap_25
    · have c_17 : (btw y (0 : Int32) (63 : Int32)) = true := bI_t c_17
      refine lv_iconst (v := 1) hx hb dX5_isOnMap_20 (by decide) ?_
      refine lv_goto (tgt := 25) hx hb dX5_isOnMap_21 (by decide) ?_
      exact z_iret hx hb hr rfl hlocks (by simp [onMap, bI, c_7, c_17]) dX5_isOnMap_25
set_option maxHeartbeats 1000000 in
set_option maxRecDepth 100000 in
theorem c_X5_sideOf (l : Launch) (D : va_G) (cI cQ : ClassId) (sc : Int32) : zRO l yX5_sideOf (Cond.code yX5_sideOf cX5_sideOf 1 (some .int) :: zT) 0 0 [.int sc] D cI cQ ([]) (sideF sc) := by
  refine zRO.of (cc := cX5_sideOf) (maxL := 1) (ret := some .int) (by decide +kernel) rfl (Nat.le_of_ble_eq_true rfl) ?_
  intro pg e s mi args below meth cd hx hb hr hts hown hlocks hml hP hK ls hl
  have hz : ∀ w ∈ zT, w.before args s = true := fun w h => hts w (List.mem_cons_of_mem _ h)
  have hl : lv_has ls 1 [(0, .int (sc))] := hl
  refine lv_iload_n hx hb dX5_sideOf_0 rfl (lv_at hl 0 rfl) ?_
  refine lv_if_lt (tgt := 16) hx hb dX5_sideOf_1 (by decide) (fun c_1 => ?_) (fun c_1 => ?_)
  · have c_1 : (sc : Int32) < 0 := c_1
    refine lv_iconst (v := 0) hx hb dX5_sideOf_16 (by decide) ?_
    exact z_iret hx hb hr rfl hlocks (by simp [sideF, c_1]) dX5_sideOf_17
  · have c_1 : ¬ ((sc : Int32) < 0) := c_1
    refine lv_iload_n hx hb dX5_sideOf_4 rfl (lv_at hl 0 rfl) ?_
    refine lv_iconst (v := 4) hx hb dX5_sideOf_5 (by decide) ?_
    refine lv_icmp_gt (tgt := 16) hx hb dX5_sideOf_6 (by decide) (fun c_6 => ?_) (fun c_6 => ?_)
    · have c_6 : ((4 : Int32) : Int32) < sc := c_6
      refine lv_iconst (v := 0) hx hb dX5_sideOf_16 (by decide) ?_
      exact z_iret hx hb hr rfl hlocks (by simp [sideF, c_1, c_6]) dX5_sideOf_17
    · have c_6 : ¬ (((4 : Int32) : Int32) < sc) := c_6
      refine lv_bipush (v := 64) hx hb dX5_sideOf_9 (by decide) ?_
      refine lv_iload_n hx hb dX5_sideOf_11 rfl (lv_at hl 0 rfl) ?_
      refine lv_ishr hx hb dX5_sideOf_12 ?_
      refine lv_goto (tgt := 17) hx hb dX5_sideOf_13 (by decide) ?_
      exact z_iret hx hb hr rfl hlocks (by simp [sideF, c_1, c_6]) dX5_sideOf_17
set_option maxHeartbeats 1000000 in
set_option maxRecDepth 100000 in
theorem c_X5_quarterLeft (l : Launch) (D : va_G) (cI cQ : ClassId) (le si qu : Int32) : zRO l yX5_quarterLeft (Cond.code yX5_quarterLeft cX5_quarterLeft 3 (some .int) :: zT) 0 0 [.int le, .int si, .int qu] D cI cQ ([]) (qLef le si qu) := by
  refine zRO.of (cc := cX5_quarterLeft) (maxL := 3) (ret := some .int) (by decide +kernel) rfl (Nat.le_of_ble_eq_true rfl) ?_
  intro pg e s mi args below meth cd hx hb hr hts hown hlocks hml hP hK ls hl
  have hz : ∀ w ∈ zT, w.before args s = true := fun w h => hts w (List.mem_cons_of_mem _ h)
  have hl : lv_has ls 3 [(0, .int (le)), (1, .int (si)), (2, .int (qu))] := hl
  refine lv_iload_n hx hb dX5_quarterLeft_0 rfl (lv_at hl 0 rfl) ?_
  refine lv_iload_n hx hb dX5_quarterLeft_1 rfl (lv_at hl 2 rfl) ?_
  refine lv_iconst (v := 1) hx hb dX5_quarterLeft_2 (by decide) ?_
  refine lv_iand hx hb dX5_quarterLeft_3 ?_
  refine lv_iload_n hx hb dX5_quarterLeft_4 rfl (lv_at hl 1 rfl) ?_
  refine lv_imul hx hb dX5_quarterLeft_5 ?_
  refine lv_iadd hx hb dX5_quarterLeft_6 ?_
  exact z_iret hx hb hr rfl hlocks (by rfl) dX5_quarterLeft_7
set_option maxHeartbeats 1000000 in
set_option maxRecDepth 100000 in
theorem c_X5_quarterTop (l : Launch) (D : va_G) (cI cQ : ClassId) (le si qu : Int32) : zRO l yX5_quarterTop (Cond.code yX5_quarterTop cX5_quarterTop 3 (some .int) :: zT) 0 0 [.int le, .int si, .int qu] D cI cQ ([]) (qTop le si qu) := by
  refine zRO.of (cc := cX5_quarterTop) (maxL := 3) (ret := some .int) (by decide +kernel) rfl (Nat.le_of_ble_eq_true rfl) ?_
  intro pg e s mi args below meth cd hx hb hr hts hown hlocks hml hP hK ls hl
  have hz : ∀ w ∈ zT, w.before args s = true := fun w h => hts w (List.mem_cons_of_mem _ h)
  have hl : lv_has ls 3 [(0, .int (le)), (1, .int (si)), (2, .int (qu))] := hl
  refine lv_iload_n hx hb dX5_quarterTop_0 rfl (lv_at hl 0 rfl) ?_
  refine lv_iload_n hx hb dX5_quarterTop_1 rfl (lv_at hl 2 rfl) ?_
  refine lv_iconst (v := 1) hx hb dX5_quarterTop_2 (by decide) ?_
  refine lv_ishr hx hb dX5_quarterTop_3 ?_
  refine lv_iload_n hx hb dX5_quarterTop_4 rfl (lv_at hl 1 rfl) ?_
  refine lv_imul hx hb dX5_quarterTop_5 ?_
  refine lv_iadd hx hb dX5_quarterTop_6 ?_
  exact z_iret hx hb hr rfl hlocks (by simp [qTop]) dX5_quarterTop_7
set_option maxHeartbeats 1000000 in
set_option maxRecDepth 100000 in
theorem c_X3_exists (l : Launch) (D : va_G) (cI cQ : ClassId) (q : Nat → Nat) (S : CS) (i : Int32) : zRO l yX3_exists (Cond.code yX3_exists cX3_exists 2 (some .boolean) :: zT) 0 0 [.ref (q 1), .int i] D cI cQ (zPts cI q S) (bI (pEx S i)) := by
  refine zRO.of (cc := cX3_exists) (maxL := 2) (ret := some .boolean) (by decide +kernel) rfl (Nat.le_of_ble_eq_true rfl) ?_
  intro pg e s mi args below meth cd hx hb hr hts hown hlocks hml hP hK ls hl
  have hz : ∀ w ∈ zT, w.before args s = true := fun w h => hts w (List.mem_cons_of_mem _ h)
  have hl : lv_has ls 2 [(0, .ref (q 1)), (1, .int (i))] := hl
  refine lv_iload_n hx hb dX3_exists_0 rfl (lv_at hl 1 rfl) ?_
  refine lv_if_lt (tgt := 23) hx hb dX3_exists_1 (by decide) (fun c_1 => ?_) (fun c_1 => ?_)
  · have c_1 : (i : Int32) < 0 := c_1
    refine lv_iconst (v := 0) hx hb dX3_exists_23 (by decide) ?_
    exact z_iret hx hb hr rfl hlocks (by simp [pEx, bI, c_1]) dX3_exists_24
  · have c_1 : ¬ ((i : Int32) < 0) := c_1
    refine lv_iload_n hx hb dX3_exists_4 rfl (lv_at hl 1 rfl) ?_
    refine lv_bipush (v := 40) hx hb dX3_exists_5 (by decide) ?_
    refine lv_icmp_ge (tgt := 23) hx hb dX3_exists_7 (by decide) (fun c_7 => ?_) (fun c_7 => ?_)
    · have c_7 : ((40 : Int32) : Int32) ≤ i := c_7
      refine lv_iconst (v := 0) hx hb dX3_exists_23 (by decide) ?_
      exact z_iret hx hb hr rfl hlocks (by simp [pEx, bI, c_1, c_7]) dX3_exists_24
    · have c_7 : ¬ (((40 : Int32) : Int32) ≤ i) := c_7
      refine lv_aload_n hx hb dX3_exists_10 rfl (lv_at hl 0 rfl) ?_
      refine va_get (D := D) (ci := 3) (v := .ref (q 4)) (C := RX3) (T := TX3) (N := 5) hx hb hz inZ3 hown hK.1 hP 0 rfl rfl 3 (by decide) (hz _ q1_33) (fun _ h9 => h9) rfl dX3_exists_11 ?_
      refine lv_iload_n hx hb dX3_exists_14 rfl (lv_at hl 1 rfl) ?_
      refine va_iald (f := sW S) hx hb hK.1 hP 3 0 rfl rfl (i := i) (z_in40 c_1 c_7) dX3_exists_15 ?_
      refine lv_if_le (tgt := 23) hx hb dX3_exists_16 (by decide) (fun c_16 => ?_) (fun c_16 => ?_)
      · have c_16 : ((sW S) i.toNatClampNeg : Int32) ≤ 0 := c_16
        refine lv_iconst (v := 0) hx hb dX3_exists_23 (by decide) ?_
        exact z_iret hx hb hr rfl hlocks (by simp [pEx, bI, c_1, c_7, c_16]) dX3_exists_24
      · have c_16 : ¬ (((sW S) i.toNatClampNeg : Int32) ≤ 0) := c_16
        refine lv_iconst (v := 1) hx hb dX3_exists_19 (by decide) ?_
        refine lv_goto (tgt := 24) hx hb dX3_exists_20 (by decide) ?_
        exact z_iret hx hb hr rfl hlocks (by simp [pEx, bI, c_1, c_7, c_16]) dX3_exists_24
set_option maxHeartbeats 1000000 in
set_option maxRecDepth 100000 in
theorem c_X3_areFull (l : Launch) (D : va_G) (cI cQ : ClassId) (q : Nat → Nat) (S : CS) : zRO l yX3_areFull (Cond.code yX3_areFull cX3_areFull 1 (some .boolean) :: zT) 0 0 [.ref (q 1)] D cI cQ (zPts cI q S) (bI (pFull S)) := by
  refine zRO.of (cc := cX3_areFull) (maxL := 1) (ret := some .boolean) (by decide +kernel) rfl (Nat.le_of_ble_eq_true rfl) ?_
  intro pg e s mi args below meth cd hx hb hr hts hown hlocks hml hP hK ls hl
  have hz : ∀ w ∈ zT, w.before args s = true := fun w h => hts w (List.mem_cons_of_mem _ h)
  have hl : lv_has ls 1 [(0, .ref (q 1))] := hl
  refine lv_aload_n hx hb dX3_areFull_0 rfl (lv_at hl 0 rfl) ?_
  refine va_get (D := D) (ci := 3) (v := .int (sAd S)) (C := RX3) (T := TX3) (N := 5) hx hb hz inZ3 hown hK.1 hP 0 rfl rfl 0 (by decide) (hz _ q1_30) (fun _ h9 => h9) rfl dX3_areFull_1 ?_
  refine lv_bipush (v := 40) hx hb dX3_areFull_4 (by decide) ?_
  refine lv_icmp_lt (tgt := 13) hx hb dX3_areFull_6 (by decide) (fun c_6 => ?_) (fun c_6 => ?_)
  · have c_6 : (sAd S : Int32) < (40 : Int32) := c_6
    refine lv_iconst (v := 0) hx hb dX3_areFull_13 (by decide) ?_
    exact z_iret hx hb hr rfl hlocks (by simp [pFull, bI, c_6]) dX3_areFull_14
  · have c_6 : ¬ ((sAd S : Int32) < (40 : Int32)) := c_6
    refine lv_iconst (v := 1) hx hb dX3_areFull_9 (by decide) ?_
    refine lv_goto (tgt := 14) hx hb dX3_areFull_10 (by decide) ?_
    exact z_iret hx hb hr rfl hlocks (by simp [pFull, bI, c_6]) dX3_areFull_14
set_option maxHeartbeats 1000000 in
set_option maxRecDepth 100000 in
theorem c_X3_numberAdded (l : Launch) (D : va_G) (cI cQ : ClassId) (q : Nat → Nat) (S : CS) : zRO l yX3_numberAdded (Cond.code yX3_numberAdded cX3_numberAdded 1 (some .int) :: zT) 0 0 [.ref (q 1)] D cI cQ (zPts cI q S) (sAd S) := by
  refine zRO.of (cc := cX3_numberAdded) (maxL := 1) (ret := some .int) (by decide +kernel) rfl (Nat.le_of_ble_eq_true rfl) ?_
  intro pg e s mi args below meth cd hx hb hr hts hown hlocks hml hP hK ls hl
  have hz : ∀ w ∈ zT, w.before args s = true := fun w h => hts w (List.mem_cons_of_mem _ h)
  have hl : lv_has ls 1 [(0, .ref (q 1))] := hl
  refine lv_aload_n hx hb dX3_numberAdded_0 rfl (lv_at hl 0 rfl) ?_
  refine va_get (D := D) (ci := 3) (v := .int (sAd S)) (C := RX3) (T := TX3) (N := 5) hx hb hz inZ3 hown hK.1 hP 0 rfl rfl 0 (by decide) (hz _ q1_30) (fun _ h9 => h9) rfl dX3_numberAdded_1 ?_
  exact z_iret hx hb hr rfl hlocks (by simp []) dX3_numberAdded_4
set_option maxHeartbeats 1000000 in
set_option maxRecDepth 100000 in
theorem c_X3_xOf (l : Launch) (D : va_G) (cI cQ : ClassId) (q : Nat → Nat) (S : CS) (i : Int32) : zRO l yX3_xOf (Cond.code yX3_xOf cX3_xOf 2 (some .int) :: zT) 1 21 [.ref (q 1), .int i] D cI cQ (zPts cI q S) (pXof S i) := by
  refine zRO.of (cc := cX3_xOf) (maxL := 2) (ret := some .int) (by decide +kernel) rfl (Nat.le_of_ble_eq_true rfl) ?_
  intro pg e s mi args below meth cd hx hb hr hts hown hlocks hml hP hK ls hl
  have hz : ∀ w ∈ zT, w.before args s = true := fun w h => hts w (List.mem_cons_of_mem _ h)
  have hl : lv_has ls 2 [(0, .ref (q 1)), (1, .int (i))] := hl
  refine lv_aload_n hx hb dX3_xOf_0 rfl (lv_at hl 0 rfl) ?_
  refine lv_iload_n hx hb dX3_xOf_1 rfl (lv_at hl 1 rfl) ?_
  refine z_ro (va_runV (As := [.int (i)]) (rest := []) ⟨hx, hb, hml, hown, hz⟩ (c_X3_exists l D cI cQ q S i) (zcwV 1 hz q2_3 q2_4 q2_5 q1_3 q2_6 hd_X3_exists (Nat.le_of_ble_eq_true rfl) (Nat.le_of_ble_eq_true rfl)) (z_pv (ci := 3) (q := (RX3, TX3, 5)) hK hP rfl rfl) rfl rfl hl.1 rfl (lv_room (Nat.le_of_ble_eq_true rfl)) dX3_xOf_2 ⟨(Nat.le_of_ble_eq_true rfl), (Nat.le_of_ble_eq_true rfl)⟩) ?_
  refine lv_if_eq (tgt := 17) hx hb dX3_xOf_5 (by decide) (fun c_5 => ?_) (fun c_5 => ?_)
  · have c_5 : (pEx S i) = false := bI_f c_5
    refine lv_bipush (v := (-9)) hx hb dX3_xOf_17 (by decide) ?_
    exact z_iret hx hb hr rfl hlocks (by simp [pXof, c_5]) dX3_xOf_19
  · have c_5 : (pEx S i) = true := bI_t c_5
    refine lv_aload_n hx hb dX3_xOf_8 rfl (lv_at hl 0 rfl) ?_
    refine va_get (D := D) (ci := 3) (v := .ref (q 2)) (C := RX3) (T := TX3) (N := 5) hx hb hz inZ3 hown hK.1 hP 0 rfl rfl 1 (by decide) (hz _ q1_31) (fun _ h9 => h9) rfl dX3_xOf_9 ?_
    refine lv_iload_n hx hb dX3_xOf_12 rfl (lv_at hl 1 rfl) ?_
    refine va_iald (f := sX S) hx hb hK.1 hP 1 0 rfl rfl (i := i) (pEx_in c_5) dX3_xOf_13 ?_
    refine lv_goto (tgt := 19) hx hb dX3_xOf_14 (by decide) ?_
    exact z_iret hx hb hr rfl hlocks (by simp [pXof, c_5]) dX3_xOf_19
set_option maxHeartbeats 1000000 in
set_option maxRecDepth 100000 in
theorem c_X3_yOf (l : Launch) (D : va_G) (cI cQ : ClassId) (q : Nat → Nat) (S : CS) (i : Int32) : zRO l yX3_yOf (Cond.code yX3_yOf cX3_yOf 2 (some .int) :: zT) 1 21 [.ref (q 1), .int i] D cI cQ (zPts cI q S) (pYof S i) := by
  refine zRO.of (cc := cX3_yOf) (maxL := 2) (ret := some .int) (by decide +kernel) rfl (Nat.le_of_ble_eq_true rfl) ?_
  intro pg e s mi args below meth cd hx hb hr hts hown hlocks hml hP hK ls hl
  have hz : ∀ w ∈ zT, w.before args s = true := fun w h => hts w (List.mem_cons_of_mem _ h)
  have hl : lv_has ls 2 [(0, .ref (q 1)), (1, .int (i))] := hl
  refine lv_aload_n hx hb dX3_yOf_0 rfl (lv_at hl 0 rfl) ?_
  refine lv_iload_n hx hb dX3_yOf_1 rfl (lv_at hl 1 rfl) ?_
  refine z_ro (va_runV (As := [.int (i)]) (rest := []) ⟨hx, hb, hml, hown, hz⟩ (c_X3_exists l D cI cQ q S i) (zcwV 1 hz q2_3 q2_4 q2_5 q1_3 q2_6 hd_X3_exists (Nat.le_of_ble_eq_true rfl) (Nat.le_of_ble_eq_true rfl)) (z_pv (ci := 3) (q := (RX3, TX3, 5)) hK hP rfl rfl) rfl rfl hl.1 rfl (lv_room (Nat.le_of_ble_eq_true rfl)) dX3_yOf_2 ⟨(Nat.le_of_ble_eq_true rfl), (Nat.le_of_ble_eq_true rfl)⟩) ?_
  refine lv_if_eq (tgt := 17) hx hb dX3_yOf_5 (by decide) (fun c_5 => ?_) (fun c_5 => ?_)
  · have c_5 : (pEx S i) = false := bI_f c_5
    refine lv_bipush (v := (-9)) hx hb dX3_yOf_17 (by decide) ?_
    exact z_iret hx hb hr rfl hlocks (by simp [pYof, c_5]) dX3_yOf_19
  · have c_5 : (pEx S i) = true := bI_t c_5
    refine lv_aload_n hx hb dX3_yOf_8 rfl (lv_at hl 0 rfl) ?_
    refine va_get (D := D) (ci := 3) (v := .ref (q 3)) (C := RX3) (T := TX3) (N := 5) hx hb hz inZ3 hown hK.1 hP 0 rfl rfl 2 (by decide) (hz _ q1_32) (fun _ h9 => h9) rfl dX3_yOf_9 ?_
    refine lv_iload_n hx hb dX3_yOf_12 rfl (lv_at hl 1 rfl) ?_
    refine va_iald (f := sY S) hx hb hK.1 hP 2 0 rfl rfl (i := i) (pEx_in c_5) dX3_yOf_13 ?_
    refine lv_goto (tgt := 19) hx hb dX3_yOf_14 (by decide) ?_
    exact z_iret hx hb hr rfl hlocks (by simp [pYof, c_5]) dX3_yOf_19
set_option maxHeartbeats 1000000 in
set_option maxRecDepth 100000 in
theorem c_X3_wealthOf (l : Launch) (D : va_G) (cI cQ : ClassId) (q : Nat → Nat) (S : CS) (i : Int32) : zRO l yX3_wealthOf (Cond.code yX3_wealthOf cX3_wealthOf 2 (some .int) :: zT) 1 21 [.ref (q 1), .int i] D cI cQ (zPts cI q S) (pWof S i) := by
  refine zRO.of (cc := cX3_wealthOf) (maxL := 2) (ret := some .int) (by decide +kernel) rfl (Nat.le_of_ble_eq_true rfl) ?_
  intro pg e s mi args below meth cd hx hb hr hts hown hlocks hml hP hK ls hl
  have hz : ∀ w ∈ zT, w.before args s = true := fun w h => hts w (List.mem_cons_of_mem _ h)
  have hl : lv_has ls 2 [(0, .ref (q 1)), (1, .int (i))] := hl
  refine lv_aload_n hx hb dX3_wealthOf_0 rfl (lv_at hl 0 rfl) ?_
  refine lv_iload_n hx hb dX3_wealthOf_1 rfl (lv_at hl 1 rfl) ?_
  refine z_ro (va_runV (As := [.int (i)]) (rest := []) ⟨hx, hb, hml, hown, hz⟩ (c_X3_exists l D cI cQ q S i) (zcwV 1 hz q2_3 q2_4 q2_5 q1_3 q2_6 hd_X3_exists (Nat.le_of_ble_eq_true rfl) (Nat.le_of_ble_eq_true rfl)) (z_pv (ci := 3) (q := (RX3, TX3, 5)) hK hP rfl rfl) rfl rfl hl.1 rfl (lv_room (Nat.le_of_ble_eq_true rfl)) dX3_wealthOf_2 ⟨(Nat.le_of_ble_eq_true rfl), (Nat.le_of_ble_eq_true rfl)⟩) ?_
  refine lv_if_eq (tgt := 17) hx hb dX3_wealthOf_5 (by decide) (fun c_5 => ?_) (fun c_5 => ?_)
  · have c_5 : (pEx S i) = false := bI_f c_5
    refine lv_iconst (v := 0) hx hb dX3_wealthOf_17 (by decide) ?_
    exact z_iret hx hb hr rfl hlocks (by simp [pWof, c_5]) dX3_wealthOf_18
  · have c_5 : (pEx S i) = true := bI_t c_5
    refine lv_aload_n hx hb dX3_wealthOf_8 rfl (lv_at hl 0 rfl) ?_
    refine va_get (D := D) (ci := 3) (v := .ref (q 4)) (C := RX3) (T := TX3) (N := 5) hx hb hz inZ3 hown hK.1 hP 0 rfl rfl 3 (by decide) (hz _ q1_33) (fun _ h9 => h9) rfl dX3_wealthOf_9 ?_
    refine lv_iload_n hx hb dX3_wealthOf_12 rfl (lv_at hl 1 rfl) ?_
    refine va_iald (f := sW S) hx hb hK.1 hP 3 0 rfl rfl (i := i) (pEx_in c_5) dX3_wealthOf_13 ?_
    refine lv_goto (tgt := 18) hx hb dX3_wealthOf_14 (by decide) ?_
    exact z_iret hx hb hr rfl hlocks (by simp [pWof, c_5]) dX3_wealthOf_18
set_option maxHeartbeats 1000000 in
set_option maxRecDepth 100000 in
theorem c_X3_lordOf (l : Launch) (D : va_G) (cI cQ : ClassId) (q : Nat → Nat) (S : CS) (i : Int32) : zRO l yX3_lordOf (Cond.code yX3_lordOf cX3_lordOf 2 (some .int) :: zT) 1 21 [.ref (q 1), .int i] D cI cQ (zPts cI q S) (pLof S i) := by
  refine zRO.of (cc := cX3_lordOf) (maxL := 2) (ret := some .int) (by decide +kernel) rfl (Nat.le_of_ble_eq_true rfl) ?_
  intro pg e s mi args below meth cd hx hb hr hts hown hlocks hml hP hK ls hl
  have hz : ∀ w ∈ zT, w.before args s = true := fun w h => hts w (List.mem_cons_of_mem _ h)
  have hl : lv_has ls 2 [(0, .ref (q 1)), (1, .int (i))] := hl
  refine lv_aload_n hx hb dX3_lordOf_0 rfl (lv_at hl 0 rfl) ?_
  refine lv_iload_n hx hb dX3_lordOf_1 rfl (lv_at hl 1 rfl) ?_
  refine z_ro (va_runV (As := [.int (i)]) (rest := []) ⟨hx, hb, hml, hown, hz⟩ (c_X3_exists l D cI cQ q S i) (zcwV 1 hz q2_3 q2_4 q2_5 q1_3 q2_6 hd_X3_exists (Nat.le_of_ble_eq_true rfl) (Nat.le_of_ble_eq_true rfl)) (z_pv (ci := 3) (q := (RX3, TX3, 5)) hK hP rfl rfl) rfl rfl hl.1 rfl (lv_room (Nat.le_of_ble_eq_true rfl)) dX3_lordOf_2 ⟨(Nat.le_of_ble_eq_true rfl), (Nat.le_of_ble_eq_true rfl)⟩) ?_
  refine lv_if_eq (tgt := 17) hx hb dX3_lordOf_5 (by decide) (fun c_5 => ?_) (fun c_5 => ?_)
  · have c_5 : (pEx S i) = false := bI_f c_5
    refine lv_bipush (v := (-9)) hx hb dX3_lordOf_17 (by decide) ?_
    exact z_iret hx hb hr rfl hlocks (by simp [pLof, c_5]) dX3_lordOf_19
  · have c_5 : (pEx S i) = true := bI_t c_5
    refine lv_aload_n hx hb dX3_lordOf_8 rfl (lv_at hl 0 rfl) ?_
    refine va_get (D := D) (ci := 3) (v := .ref (q 5)) (C := RX3) (T := TX3) (N := 5) hx hb hz inZ3 hown hK.1 hP 0 rfl rfl 4 (by decide) (hz _ q1_34) (fun _ h9 => h9) rfl dX3_lordOf_9 ?_
    refine lv_iload_n hx hb dX3_lordOf_12 rfl (lv_at hl 1 rfl) ?_
    refine va_iald (f := sL S) hx hb hK.1 hP 4 0 rfl rfl (i := i) (pEx_in c_5) dX3_lordOf_13 ?_
    refine lv_goto (tgt := 19) hx hb dX3_lordOf_14 (by decide) ?_
    exact z_iret hx hb hr rfl hlocks (by simp [pLof, c_5]) dX3_lordOf_19
set_option maxHeartbeats 1000000 in
set_option maxRecDepth 100000 in
theorem c_X3_place (l : Launch) (D : va_G) (cI cQ : ClassId) (q : Nat → Nat) (S : CS) (nx ny nw_ no : Int32) (g1 : Int32) (hg1 : g1 = pAd1 S) (g2 : FI) (hg2 : g2 = pPut S (sX S) nx) (g3 : FI) (hg3 : g3 = pPut S (sY S) ny) (g4 : FI) (hg4 : g4 = pPut S (sW S) nw_) (g5 : FI) (hg5 : g5 = pPut S (sL S) no) : zWR l yX3_place (Cond.code yX3_place cX3_place 6 (some .int) :: zT) 1 22 [.ref (q 1), .int nx, .int ny, .int nw_, .int no] D cI cQ (zPts cI q S) (some (.int ((if pRoom S then sAd S else -3)))) (zPts cI q (uL (uW (uY (uX (uAd S g1) g2) g3) g4) g5)) := by
  refine zWR.of (cc := cX3_place) (maxL := 6) (ret := some .int) (by decide +kernel) rfl (Nat.le_of_ble_eq_true rfl) ?_
  intro pg e s mi args below meth cd hx hb hr hts hown hlocks hml hP hD hS hK ls hl
  have hz : ∀ w ∈ zT, w.before args s = true := fun w h => hts w (List.mem_cons_of_mem _ h)
  have hl : lv_has ls 6 [(0, .ref (q 1)), (1, .int (nx)), (2, .int (ny)), (3, .int (nw_)), (4, .int (no))] := hl
  refine lv_aload_n hx hb dX3_place_0 rfl (lv_at hl 0 rfl) ?_
  refine va_get (D := D) (ci := 3) (v := .int (sAd S)) (C := RX3) (T := TX3) (N := 5) hx hb hz inZ3 hown hK.1 hP 0 rfl rfl 0 (by decide) (hz _ q1_30) (fun _ h9 => h9) rfl dX3_place_1 ?_
  refine lv_istore (lv' := [(5, .int (sAd S)), (0, .ref (q 1)), (1, .int (nx)), (2, .int (ny)), (3, .int (nw_)), (4, .int (no))]) hx hb dX3_place_4 hl (by decide) rfl (fun ls hl => ?_)
  refine lv_iload hx hb dX3_place_6 (lv_at hl 0 rfl) ?_
  refine lv_iconst (v := 0) hx hb dX3_place_8 (by decide) ?_
  refine lv_bipush (v := 39) hx hb dX3_place_9 (by decide) ?_
  refine z_ro (va_runSN (As := [.int (sAd S), .int (0 : Int32), .int (39 : Int32)]) (rest := []) ⟨hx, hb, hml, hown, hz⟩ (c_X5_isBetween l D cI cQ (sAd S) (0 : Int32) (39 : Int32)) (zcnS 3 hz q1_58 q1_1 q1_59 (hK.2.2.2.2.2.2.2.1) hd_X5_isBetween (Nat.le_of_ble_eq_true rfl) (Nat.le_of_ble_eq_true rfl)) (z_ps hK z_nil) rfl rfl hl.1 rfl (lv_room (Nat.le_of_ble_eq_true rfl)) dX3_place_11 ⟨(Nat.le_of_ble_eq_true rfl), (Nat.le_of_ble_eq_true rfl)⟩) ?_
  refine lv_if_ne (tgt := 20) hx hb dX3_place_14 (by decide) (fun c_14 => ?_) (fun c_14 => ?_)
  · have c_14 : (btw (sAd S) (0 : Int32) (39 : Int32)) = true := bI_t c_14
    refine lv_aload_n hx hb dX3_place_20 rfl (lv_at hl 1 rfl) ?_
    refine lv_dup hx hb dX3_place_21 rfl ?_
    refine va_get (D := D) (ci := 3) (v := .int (sAd S)) (C := RX3) (T := TX3) (N := 5) hx hb hz inZ3 hown hK.1 hP 0 rfl rfl 0 (by decide) (hz _ q1_30) (fun _ h9 => h9) rfl dX3_place_22 ?_
    refine lv_iconst (v := 1) hx hb dX3_place_25 (by decide) ?_
    refine lv_iadd hx hb dX3_place_26 ?_
    refine va_put (D := D) (ci := 3) (v := .int ((sAd S) + (1 : Int32))) (ty := .int) (C := RX3) (T := TX3) (N := 5) hx hb hz inZ3 tyX3 tyX3_ok nmX3 hown hK.1 hP hD hS 0 rfl rfl 0 (by decide) (hz _ q1_30) (fun _ h9 => h9) rfl (by decide +kernel) rfl rfl (Nat.le_of_ble_eq_true rfl) dX3_place_27 (fun H locs hP hD hS => ?_)
    have hP : va_P D vwCl (zPts cI q (uAd S ((sAd S) + (1 : Int32)))) H := hP
    have hD : va_D (zA (zPts cI q S)) (zPts cI q (uAd S ((sAd S) + (1 : Int32)))) := hD
    refine lv_aload_n hx hb dX3_place_30 rfl (lv_at hl 1 rfl) ?_
    refine va_get (D := D) (ci := 3) (v := .ref (q 2)) (C := RX3) (T := TX3) (N := 5) hx hb hz inZ3 hown hK.1 hP 0 rfl rfl 1 (by decide) (hz _ q1_31) (fun _ h9 => h9) rfl dX3_place_31 ?_
    refine lv_iload hx hb dX3_place_34 (lv_at hl 0 rfl) ?_
    refine lv_iload_n hx hb dX3_place_36 rfl (lv_at hl 2 rfl) ?_
    refine va_iast hx hb hK.1 hP hD hS 1 0 rfl rfl (i := sAd S) (btw_in c_14) dX3_place_37 (fun H locs hP hD hS => ?_)
    have hP : va_P D vwCl (zPts cI q (uX (uAd S ((sAd S) + (1 : Int32))) (upd (sX S) (sAd S).toNatClampNeg nx))) H := hP
    have hD : va_D (zA (zPts cI q S)) (zPts cI q (uX (uAd S ((sAd S) + (1 : Int32))) (upd (sX S) (sAd S).toNatClampNeg nx))) := hD
    refine lv_aload_n hx hb dX3_place_38 rfl (lv_at hl 1 rfl) ?_
    refine va_get (D := D) (ci := 3) (v := .ref (q 3)) (C := RX3) (T := TX3) (N := 5) hx hb hz inZ3 hown hK.1 hP 0 rfl rfl 2 (by decide) (hz _ q1_32) (fun _ h9 => h9) rfl dX3_place_39 ?_
    refine lv_iload hx hb dX3_place_42 (lv_at hl 0 rfl) ?_
    refine lv_iload_n hx hb dX3_place_44 rfl (lv_at hl 3 rfl) ?_
    refine va_iast hx hb hK.1 hP hD hS 2 0 rfl rfl (i := sAd S) (btw_in c_14) dX3_place_45 (fun H locs hP hD hS => ?_)
    have hP : va_P D vwCl (zPts cI q (uY (uX (uAd S ((sAd S) + (1 : Int32))) (upd (sX S) (sAd S).toNatClampNeg nx)) (upd (sY S) (sAd S).toNatClampNeg ny))) H := hP
    have hD : va_D (zA (zPts cI q S)) (zPts cI q (uY (uX (uAd S ((sAd S) + (1 : Int32))) (upd (sX S) (sAd S).toNatClampNeg nx)) (upd (sY S) (sAd S).toNatClampNeg ny))) := hD
    refine lv_aload_n hx hb dX3_place_46 rfl (lv_at hl 1 rfl) ?_
    refine va_get (D := D) (ci := 3) (v := .ref (q 4)) (C := RX3) (T := TX3) (N := 5) hx hb hz inZ3 hown hK.1 hP 0 rfl rfl 3 (by decide) (hz _ q1_33) (fun _ h9 => h9) rfl dX3_place_47 ?_
    refine lv_iload hx hb dX3_place_50 (lv_at hl 0 rfl) ?_
    refine lv_iload_n hx hb dX3_place_52 rfl (lv_at hl 4 rfl) ?_
    refine va_iast hx hb hK.1 hP hD hS 3 0 rfl rfl (i := sAd S) (btw_in c_14) dX3_place_53 (fun H locs hP hD hS => ?_)
    have hP : va_P D vwCl (zPts cI q (uW (uY (uX (uAd S ((sAd S) + (1 : Int32))) (upd (sX S) (sAd S).toNatClampNeg nx)) (upd (sY S) (sAd S).toNatClampNeg ny)) (upd (sW S) (sAd S).toNatClampNeg nw_))) H := hP
    have hD : va_D (zA (zPts cI q S)) (zPts cI q (uW (uY (uX (uAd S ((sAd S) + (1 : Int32))) (upd (sX S) (sAd S).toNatClampNeg nx)) (upd (sY S) (sAd S).toNatClampNeg ny)) (upd (sW S) (sAd S).toNatClampNeg nw_))) := hD
    refine lv_aload_n hx hb dX3_place_54 rfl (lv_at hl 1 rfl) ?_
    refine va_get (D := D) (ci := 3) (v := .ref (q 5)) (C := RX3) (T := TX3) (N := 5) hx hb hz inZ3 hown hK.1 hP 0 rfl rfl 4 (by decide) (hz _ q1_34) (fun _ h9 => h9) rfl dX3_place_55 ?_
    refine lv_iload hx hb dX3_place_58 (lv_at hl 0 rfl) ?_
    refine lv_iload hx hb dX3_place_60 (lv_at hl 5 rfl) ?_
    refine va_iast hx hb hK.1 hP hD hS 4 0 rfl rfl (i := sAd S) (btw_in c_14) dX3_place_62 (fun H locs hP hD hS => ?_)
    have hP : va_P D vwCl (zPts cI q (uL (uW (uY (uX (uAd S ((sAd S) + (1 : Int32))) (upd (sX S) (sAd S).toNatClampNeg nx)) (upd (sY S) (sAd S).toNatClampNeg ny)) (upd (sW S) (sAd S).toNatClampNeg nw_)) (upd (sL S) (sAd S).toNatClampNeg no))) H := hP
    have hD : va_D (zA (zPts cI q S)) (zPts cI q (uL (uW (uY (uX (uAd S ((sAd S) + (1 : Int32))) (upd (sX S) (sAd S).toNatClampNeg nx)) (upd (sY S) (sAd S).toNatClampNeg ny)) (upd (sW S) (sAd S).toNatClampNeg nw_)) (upd (sL S) (sAd S).toNatClampNeg no))) := hD
    refine lv_iload hx hb dX3_place_63 (lv_at hl 0 rfl) ?_
    exact z_wiret hx hb hr rfl hlocks hP hS (by (try simp only [hg1, hg2, hg3, hg4, hg5]) <;> (simp [pRoom, c_14])) (congrArg (fun T => zPts cI q T) (show uL (uW (uY (uX (uAd S ((sAd S) + (1 : Int32))) (upd (sX S) (sAd S).toNatClampNeg nx)) (upd (sY S) (sAd S).toNatClampNeg ny)) (upd (sW S) (sAd S).toNatClampNeg nw_)) (upd (sL S) (sAd S).toNatClampNeg no) = uL (uW (uY (uX (uAd S g1) g2) g3) g4) g5 from by (try simp only [hg1, hg2, hg3, hg4, hg5]) <;> (simp [pAd1, pPut, pRoom, c_14, uX_self, uY_self, uW_self, uL_self, uAd_self]))) dX3_place_65
  · have c_14 : (btw (sAd S) (0 : Int32) (39 : Int32)) = false := bI_f c_14
    refine lv_bipush (v := (-3)) hx hb dX3_place_17 (by decide) ?_
    exact z_wiret hx hb hr rfl hlocks hP hS (by (try simp only [hg1, hg2, hg3, hg4, hg5]) <;> (simp [pRoom, c_14])) (congrArg (fun T => zPts cI q T) (show S = uL (uW (uY (uX (uAd S g1) g2) g3) g4) g5 from by (try simp only [hg1, hg2, hg3, hg4, hg5]) <;> (simp [pAd1, pPut, pRoom, c_14, uX_self, uY_self, uW_self, uL_self, uAd_self]))) dX3_place_19
set_option maxHeartbeats 1000000 in
set_option maxRecDepth 100000 in
theorem c_X3_takeAway (l : Launch) (D : va_G) (cI cQ : ClassId) (q : Nat → Nat) (S : CS) (i : Int32) (g1 : FI) (hg1 : g1 = pSetAt S (sW S) i 0) : zWR l yX3_takeAway (Cond.code yX3_takeAway cX3_takeAway 2 (none) :: zT) 1 21 [.ref (q 1), .int i] D cI cQ (zPts cI q S) none (zPts cI q (uW S g1)) := by
  refine zWR.of (cc := cX3_takeAway) (maxL := 2) (ret := none) (by decide +kernel) rfl (Nat.le_of_ble_eq_true rfl) ?_
  intro pg e s mi args below meth cd hx hb hr hts hown hlocks hml hP hD hS hK ls hl
  have hz : ∀ w ∈ zT, w.before args s = true := fun w h => hts w (List.mem_cons_of_mem _ h)
  have hl : lv_has ls 2 [(0, .ref (q 1)), (1, .int (i))] := hl
  refine lv_aload_n hx hb dX3_takeAway_0 rfl (lv_at hl 0 rfl) ?_
  refine lv_iload_n hx hb dX3_takeAway_1 rfl (lv_at hl 1 rfl) ?_
  refine z_ro (va_runV (As := [.int (i)]) (rest := []) ⟨hx, hb, hml, hown, hz⟩ (c_X3_exists l D cI cQ q S i) (zcwV 1 hz q2_3 q2_4 q2_5 q1_3 q2_6 hd_X3_exists (Nat.le_of_ble_eq_true rfl) (Nat.le_of_ble_eq_true rfl)) (z_pv (ci := 3) (q := (RX3, TX3, 5)) hK hP rfl rfl) rfl rfl hl.1 rfl (lv_room (Nat.le_of_ble_eq_true rfl)) dX3_takeAway_2 ⟨(Nat.le_of_ble_eq_true rfl), (Nat.le_of_ble_eq_true rfl)⟩) ?_
  refine lv_if_eq (tgt := 15) hx hb dX3_takeAway_5 (by decide) (fun c_5 => ?_) (fun c_5 => ?_)
  · have c_5 : (pEx S i) = false := bI_f c_5
    exact z_wvret hx hb hr hlocks hP hS (congrArg (fun T => zPts cI q T) (show S = uW S g1 from by (try simp only [hg1]) <;> (simp [pSetAt, c_5, uW_self]))) dX3_takeAway_15
  · have c_5 : (pEx S i) = true := bI_t c_5
    refine lv_aload_n hx hb dX3_takeAway_8 rfl (lv_at hl 0 rfl) ?_
    refine va_get (D := D) (ci := 3) (v := .ref (q 4)) (C := RX3) (T := TX3) (N := 5) hx hb hz inZ3 hown hK.1 hP 0 rfl rfl 3 (by decide) (hz _ q1_33) (fun _ h9 => h9) rfl dX3_takeAway_9 ?_
    refine lv_iload_n hx hb dX3_takeAway_12 rfl (lv_at hl 1 rfl) ?_
    refine lv_iconst (v := 0) hx hb dX3_takeAway_13 (by decide) ?_
    refine va_iast hx hb hK.1 hP hD hS 3 0 rfl rfl (i := i) (pEx_in c_5) dX3_takeAway_14 (fun H locs hP hD hS => ?_)
    have hP : va_P D vwCl (zPts cI q (uW S (upd (sW S) i.toNatClampNeg (0 : Int32)))) H := hP
    have hD : va_D (zA (zPts cI q S)) (zPts cI q (uW S (upd (sW S) i.toNatClampNeg (0 : Int32)))) := hD
    exact z_wvret hx hb hr hlocks hP hS (congrArg (fun T => zPts cI q T) (show uW S (upd (sW S) i.toNatClampNeg (0 : Int32)) = uW S g1 from by (try simp only [hg1]) <;> (simp [pSetAt, c_5, uW_self]))) dX3_takeAway_15
set_option maxHeartbeats 1000000 in
set_option maxRecDepth 100000 in
theorem c_X3_shift (l : Launch) (D : va_G) (cI cQ : ClassId) (q : Nat → Nat) (S : CS) (i nx ny : Int32) (g1 : FI) (hg1 : g1 = pSetAt S (sX S) i nx) (g2 : FI) (hg2 : g2 = pSetAt S (sY S) i ny) : zWR l yX3_shift (Cond.code yX3_shift cX3_shift 4 (none) :: zT) 1 21 [.ref (q 1), .int i, .int nx, .int ny] D cI cQ (zPts cI q S) none (zPts cI q (uY (uX S g1) g2)) := by
  refine zWR.of (cc := cX3_shift) (maxL := 4) (ret := none) (by decide +kernel) rfl (Nat.le_of_ble_eq_true rfl) ?_
  intro pg e s mi args below meth cd hx hb hr hts hown hlocks hml hP hD hS hK ls hl
  have hz : ∀ w ∈ zT, w.before args s = true := fun w h => hts w (List.mem_cons_of_mem _ h)
  have hl : lv_has ls 4 [(0, .ref (q 1)), (1, .int (i)), (2, .int (nx)), (3, .int (ny))] := hl
  refine lv_aload_n hx hb dX3_shift_0 rfl (lv_at hl 0 rfl) ?_
  refine lv_iload_n hx hb dX3_shift_1 rfl (lv_at hl 1 rfl) ?_
  refine z_ro (va_runV (As := [.int (i)]) (rest := []) ⟨hx, hb, hml, hown, hz⟩ (c_X3_exists l D cI cQ q S i) (zcwV 1 hz q2_3 q2_4 q2_5 q1_3 q2_6 hd_X3_exists (Nat.le_of_ble_eq_true rfl) (Nat.le_of_ble_eq_true rfl)) (z_pv (ci := 3) (q := (RX3, TX3, 5)) hK hP rfl rfl) rfl rfl hl.1 rfl (lv_room (Nat.le_of_ble_eq_true rfl)) dX3_shift_2 ⟨(Nat.le_of_ble_eq_true rfl), (Nat.le_of_ble_eq_true rfl)⟩) ?_
  refine lv_if_eq (tgt := 22) hx hb dX3_shift_5 (by decide) (fun c_5 => ?_) (fun c_5 => ?_)
  · have c_5 : (pEx S i) = false := bI_f c_5
    exact z_wvret hx hb hr hlocks hP hS (congrArg (fun T => zPts cI q T) (show S = uY (uX S g1) g2 from by (try simp only [hg1, hg2]) <;> (simp [pSetAt, c_5, uX_self, uY_self]))) dX3_shift_22
  · have c_5 : (pEx S i) = true := bI_t c_5
    refine lv_aload_n hx hb dX3_shift_8 rfl (lv_at hl 0 rfl) ?_
    refine va_get (D := D) (ci := 3) (v := .ref (q 2)) (C := RX3) (T := TX3) (N := 5) hx hb hz inZ3 hown hK.1 hP 0 rfl rfl 1 (by decide) (hz _ q1_31) (fun _ h9 => h9) rfl dX3_shift_9 ?_
    refine lv_iload_n hx hb dX3_shift_12 rfl (lv_at hl 1 rfl) ?_
    refine lv_iload_n hx hb dX3_shift_13 rfl (lv_at hl 2 rfl) ?_
    refine va_iast hx hb hK.1 hP hD hS 1 0 rfl rfl (i := i) (pEx_in c_5) dX3_shift_14 (fun H locs hP hD hS => ?_)
    have hP : va_P D vwCl (zPts cI q (uX S (upd (sX S) i.toNatClampNeg nx))) H := hP
    have hD : va_D (zA (zPts cI q S)) (zPts cI q (uX S (upd (sX S) i.toNatClampNeg nx))) := hD
    refine lv_aload_n hx hb dX3_shift_15 rfl (lv_at hl 0 rfl) ?_
    refine va_get (D := D) (ci := 3) (v := .ref (q 3)) (C := RX3) (T := TX3) (N := 5) hx hb hz inZ3 hown hK.1 hP 0 rfl rfl 2 (by decide) (hz _ q1_32) (fun _ h9 => h9) rfl dX3_shift_16 ?_
    refine lv_iload_n hx hb dX3_shift_19 rfl (lv_at hl 1 rfl) ?_
    refine lv_iload_n hx hb dX3_shift_20 rfl (lv_at hl 3 rfl) ?_
    refine va_iast hx hb hK.1 hP hD hS 2 0 rfl rfl (i := i) (pEx_in c_5) dX3_shift_21 (fun H locs hP hD hS => ?_)
    have hP : va_P D vwCl (zPts cI q (uY (uX S (upd (sX S) i.toNatClampNeg nx)) (upd (sY S) i.toNatClampNeg ny))) H := hP
    have hD : va_D (zA (zPts cI q S)) (zPts cI q (uY (uX S (upd (sX S) i.toNatClampNeg nx)) (upd (sY S) i.toNatClampNeg ny))) := hD
    exact z_wvret hx hb hr hlocks hP hS (congrArg (fun T => zPts cI q T) (show uY (uX S (upd (sX S) i.toNatClampNeg nx)) (upd (sY S) i.toNatClampNeg ny) = uY (uX S g1) g2 from by (try simp only [hg1, hg2]) <;> (simp [pSetAt, c_5, uX_self, uY_self]))) dX3_shift_22
set_option maxHeartbeats 1000000 in
set_option maxRecDepth 100000 in
theorem c_X3_setLord (l : Launch) (D : va_G) (cI cQ : ClassId) (q : Nat → Nat) (S : CS) (i no : Int32) (g1 : FI) (hg1 : g1 = pSetAt S (sL S) i no) : zWR l yX3_setLord (Cond.code yX3_setLord cX3_setLord 3 (none) :: zT) 1 21 [.ref (q 1), .int i, .int no] D cI cQ (zPts cI q S) none (zPts cI q (uL S g1)) := by
  refine zWR.of (cc := cX3_setLord) (maxL := 3) (ret := none) (by decide +kernel) rfl (Nat.le_of_ble_eq_true rfl) ?_
  intro pg e s mi args below meth cd hx hb hr hts hown hlocks hml hP hD hS hK ls hl
  have hz : ∀ w ∈ zT, w.before args s = true := fun w h => hts w (List.mem_cons_of_mem _ h)
  have hl : lv_has ls 3 [(0, .ref (q 1)), (1, .int (i)), (2, .int (no))] := hl
  refine lv_aload_n hx hb dX3_setLord_0 rfl (lv_at hl 0 rfl) ?_
  refine lv_iload_n hx hb dX3_setLord_1 rfl (lv_at hl 1 rfl) ?_
  refine z_ro (va_runV (As := [.int (i)]) (rest := []) ⟨hx, hb, hml, hown, hz⟩ (c_X3_exists l D cI cQ q S i) (zcwV 1 hz q2_3 q2_4 q2_5 q1_3 q2_6 hd_X3_exists (Nat.le_of_ble_eq_true rfl) (Nat.le_of_ble_eq_true rfl)) (z_pv (ci := 3) (q := (RX3, TX3, 5)) hK hP rfl rfl) rfl rfl hl.1 rfl (lv_room (Nat.le_of_ble_eq_true rfl)) dX3_setLord_2 ⟨(Nat.le_of_ble_eq_true rfl), (Nat.le_of_ble_eq_true rfl)⟩) ?_
  refine lv_if_eq (tgt := 15) hx hb dX3_setLord_5 (by decide) (fun c_5 => ?_) (fun c_5 => ?_)
  · have c_5 : (pEx S i) = false := bI_f c_5
    exact z_wvret hx hb hr hlocks hP hS (congrArg (fun T => zPts cI q T) (show S = uL S g1 from by (try simp only [hg1]) <;> (simp [pSetAt, c_5, uL_self]))) dX3_setLord_15
  · have c_5 : (pEx S i) = true := bI_t c_5
    refine lv_aload_n hx hb dX3_setLord_8 rfl (lv_at hl 0 rfl) ?_
    refine va_get (D := D) (ci := 3) (v := .ref (q 5)) (C := RX3) (T := TX3) (N := 5) hx hb hz inZ3 hown hK.1 hP 0 rfl rfl 4 (by decide) (hz _ q1_34) (fun _ h9 => h9) rfl dX3_setLord_9 ?_
    refine lv_iload_n hx hb dX3_setLord_12 rfl (lv_at hl 1 rfl) ?_
    refine lv_iload_n hx hb dX3_setLord_13 rfl (lv_at hl 2 rfl) ?_
    refine va_iast hx hb hK.1 hP hD hS 4 0 rfl rfl (i := i) (pEx_in c_5) dX3_setLord_14 (fun H locs hP hD hS => ?_)
    have hP : va_P D vwCl (zPts cI q (uL S (upd (sL S) i.toNatClampNeg no))) H := hP
    have hD : va_D (zA (zPts cI q S)) (zPts cI q (uL S (upd (sL S) i.toNatClampNeg no))) := hD
    exact z_wvret hx hb hr hlocks hP hS (congrArg (fun T => zPts cI q T) (show uL S (upd (sL S) i.toNatClampNeg no) = uL S g1 from by (try simp only [hg1]) <;> (simp [pSetAt, c_5, uL_self]))) dX3_setLord_15
set_option maxHeartbeats 1000000 in
set_option maxRecDepth 100000 in
theorem c_X3_liesIn (l : Launch) (D : va_G) (cI cQ : ClassId) (q : Nat → Nat) (S : CS) (i le to ri bo : Int32) : zRO l yX3_liesIn (Cond.code yX3_liesIn cX3_liesIn 6 (some .boolean) :: zT) 1 22 [.ref (q 1), .int i, .int le, .int to, .int ri, .int bo] D cI cQ (zPts cI q S) (bI (pLies S i le to ri bo)) := by
  refine zRO.of (cc := cX3_liesIn) (maxL := 6) (ret := some .boolean) (by decide +kernel) rfl (Nat.le_of_ble_eq_true rfl) ?_
  intro pg e s mi args below meth cd hx hb hr hts hown hlocks hml hP hK ls hl
  have hz : ∀ w ∈ zT, w.before args s = true := fun w h => hts w (List.mem_cons_of_mem _ h)
  have hl : lv_has ls 6 [(0, .ref (q 1)), (1, .int (i)), (2, .int (le)), (3, .int (to)), (4, .int (ri)), (5, .int (bo))] := hl
  refine lv_aload_n hx hb dX3_liesIn_0 rfl (lv_at hl 0 rfl) ?_
  refine lv_iload_n hx hb dX3_liesIn_1 rfl (lv_at hl 1 rfl) ?_
  refine z_ro (va_runV (As := [.int (i)]) (rest := []) ⟨hx, hb, hml, hown, hz⟩ (c_X3_exists l D cI cQ q S i) (zcwV 1 hz q2_3 q2_4 q2_5 q1_3 q2_6 hd_X3_exists (Nat.le_of_ble_eq_true rfl) (Nat.le_of_ble_eq_true rfl)) (z_pv (ci := 3) (q := (RX3, TX3, 5)) hK hP rfl rfl) rfl rfl hl.1 rfl (lv_room (Nat.le_of_ble_eq_true rfl)) dX3_liesIn_2 ⟨(Nat.le_of_ble_eq_true rfl), (Nat.le_of_ble_eq_true rfl)⟩) ?_
  refine lv_if_eq (tgt := 42) hx hb dX3_liesIn_5 (by decide) (fun c_5 => ?_) (fun c_5 => ?_)
  · have c_5 : (pEx S i) = false := bI_f c_5
    refine lv_iconst (v := 0) hx hb dX3_liesIn_42 (by decide) ?_
    exact z_iret hx hb hr rfl hlocks (by simp [pLies, bI, c_5]) dX3_liesIn_43
  · have c_5 : (pEx S i) = true := bI_t c_5
    refine lv_aload_n hx hb dX3_liesIn_8 rfl (lv_at hl 0 rfl) ?_
    refine va_get (D := D) (ci := 3) (v := .ref (q 2)) (C := RX3) (T := TX3) (N := 5) hx hb hz inZ3 hown hK.1 hP 0 rfl rfl 1 (by decide) (hz _ q1_31) (fun _ h9 => h9) rfl dX3_liesIn_9 ?_
    refine lv_iload_n hx hb dX3_liesIn_12 rfl (lv_at hl 1 rfl) ?_
    refine va_iald (f := sX S) hx hb hK.1 hP 1 0 rfl rfl (i := i) (pEx_in c_5) dX3_liesIn_13 ?_
    refine lv_iload_n hx hb dX3_liesIn_14 rfl (lv_at hl 2 rfl) ?_
    refine lv_iload hx hb dX3_liesIn_15 (lv_at hl 4 rfl) ?_
    refine z_ro (va_runSN (As := [.int ((sX S) i.toNatClampNeg), .int (le), .int (ri)]) (rest := []) ⟨hx, hb, hml, hown, hz⟩ (c_X5_isBetween l D cI cQ ((sX S) i.toNatClampNeg) le ri) (zcnS 3 hz q1_58 q1_1 q1_59 (hK.2.2.2.2.2.2.2.1) hd_X5_isBetween (Nat.le_of_ble_eq_true rfl) (Nat.le_of_ble_eq_true rfl)) (z_ps hK z_nil) rfl rfl hl.1 rfl (lv_room (Nat.le_of_ble_eq_true rfl)) dX3_liesIn_17 ⟨(Nat.le_of_ble_eq_true rfl), (Nat.le_of_ble_eq_true rfl)⟩) ?_
    refine lv_if_eq (tgt := 42) hx hb dX3_liesIn_20 (by decide) (fun c_20 => ?_) (fun c_20 => ?_)
    · have c_20 : (btw ((sX S) i.toNatClampNeg) le ri) = false := bI_f c_20
      refine lv_iconst (v := 0) hx hb dX3_liesIn_42 (by decide) ?_
      exact z_iret hx hb hr rfl hlocks (by simp [pLies, bI, c_5, c_20]) dX3_liesIn_43
    · have c_20 : (btw ((sX S) i.toNatClampNeg) le ri) = true := bI_t c_20
      refine lv_aload_n hx hb dX3_liesIn_23 rfl (lv_at hl 0 rfl) ?_
      refine va_get (D := D) (ci := 3) (v := .ref (q 3)) (C := RX3) (T := TX3) (N := 5) hx hb hz inZ3 hown hK.1 hP 0 rfl rfl 2 (by decide) (hz _ q1_32) (fun _ h9 => h9) rfl dX3_liesIn_24 ?_
      refine lv_iload_n hx hb dX3_liesIn_27 rfl (lv_at hl 1 rfl) ?_
      refine va_iald (f := sY S) hx hb hK.1 hP 2 0 rfl rfl (i := i) (pEx_in c_5) dX3_liesIn_28 ?_
      refine lv_iload_n hx hb dX3_liesIn_29 rfl (lv_at hl 3 rfl) ?_
      refine lv_iload hx hb dX3_liesIn_30 (lv_at hl 5 rfl) ?_
      refine z_ro (va_runSN (As := [.int ((sY S) i.toNatClampNeg), .int (to), .int (bo)]) (rest := []) ⟨hx, hb, hml, hown, hz⟩ (c_X5_isBetween l D cI cQ ((sY S) i.toNatClampNeg) to bo) (zcnS 3 hz q1_58 q1_1 q1_59 (hK.2.2.2.2.2.2.2.1) hd_X5_isBetween (Nat.le_of_ble_eq_true rfl) (Nat.le_of_ble_eq_true rfl)) (z_ps hK z_nil) rfl rfl hl.1 rfl (lv_room (Nat.le_of_ble_eq_true rfl)) dX3_liesIn_32 ⟨(Nat.le_of_ble_eq_true rfl), (Nat.le_of_ble_eq_true rfl)⟩) ?_
      refine lv_if_eq (tgt := 42) hx hb dX3_liesIn_35 (by decide) (fun c_35 => ?_) (fun c_35 => ?_)
      · have c_35 : (btw ((sY S) i.toNatClampNeg) to bo) = false := bI_f c_35
        refine lv_iconst (v := 0) hx hb dX3_liesIn_42 (by decide) ?_
        exact z_iret hx hb hr rfl hlocks (by simp [pLies, bI, c_5, c_20, c_35]) dX3_liesIn_43
      · have c_35 : (btw ((sY S) i.toNatClampNeg) to bo) = true := bI_t c_35
        refine lv_iconst (v := 1) hx hb dX3_liesIn_38 (by decide) ?_
        refine lv_goto (tgt := 43) hx hb dX3_liesIn_39 (by decide) ?_
        exact z_iret hx hb hr rfl hlocks (by simp [pLies, bI, c_5, c_20, c_35]) dX3_liesIn_43
set_option maxHeartbeats 1000000 in
set_option maxRecDepth 100000 in
theorem c_X3_numberIn (l : Launch) (D : va_G) (cI cQ : ClassId) (q : Nat → Nat) (S : CS) (le to ri bo : Int32) : zRO l yX3_numberIn (Cond.code yX3_numberIn cX3_numberIn 7 (some .int) :: zT) 2 47 [.ref (q 1), .int le, .int to, .int ri, .int bo] D cI cQ (zPts cI q S) (pNum S le to ri bo 40) := by
  refine zRO.of (cc := cX3_numberIn) (maxL := 7) (ret := some .int) (by decide +kernel) rfl (Nat.le_of_ble_eq_true rfl) ?_
  intro pg e s mi args below meth cd hx hb hr hts hown hlocks hml hP hK ls hl
  have hz : ∀ w ∈ zT, w.before args s = true := fun w h => hts w (List.mem_cons_of_mem _ h)
  have hl : lv_has ls 7 [(0, .ref (q 1)), (1, .int (le)), (2, .int (to)), (3, .int (ri)), (4, .int (bo))] := hl
  refine lv_iconst (v := 0) hx hb dX3_numberIn_0 (by decide) ?_
  refine lv_istore (lv' := [(5, .int (0 : Int32)), (0, .ref (q 1)), (1, .int (le)), (2, .int (to)), (3, .int (ri)), (4, .int (bo))]) hx hb dX3_numberIn_1 hl (by decide) rfl (fun ls hl => ?_)
  refine lv_iconst (v := 0) hx hb dX3_numberIn_3 (by decide) ?_
  refine lv_istore (lv' := [(6, .int (0 : Int32)), (5, .int (0 : Int32)), (0, .ref (q 1)), (1, .int (le)), (2, .int (to)), (3, .int (ri)), (4, .int (bo))]) hx hb dX3_numberIn_4 hl (by decide) rfl (fun ls hl => ?_)
  have L6 : ∀ (n6 k6 : Nat), k6 ≤ 40 → 40 < k6 + n6 → ∀ (ls : Array Slot), lv_has ls 7 [(6, .int (nI k6)), (5, .int (pNum S le to ri bo k6)), (0, .ref (q 1)), (1, .int (le)), (2, .int (to)), (3, .int (ri)), (4, .int (bo))] → W pg l e ({ frames := 2, cells := 0, slots := 0, locals := 47 }) s mi args below meth cd s.heap [] 0 0 (MQ below (vp_Si (fun r => r = pNum S le to ri bo 40)) args s 0 0 (fun _ => False)) (F0 mi 6 ls []) := by
    intro n6
    induction n6 with
    | zero => intro k6 h1 h2; exact absurd h2 (by omega)
    | succ n6 ih6 =>
      intro k6 h1_6 h2_6  ls hl
      refine lv_iload hx hb dX3_numberIn_6 (lv_at hl 0 rfl) ?_
      refine lv_bipush (v := 40) hx hb dX3_numberIn_8 (by decide) ?_
      refine lv_icmp_ge (tgt := 36) hx hb dX3_numberIn_10 (by decide) (fun c_10 => ?_) (fun c_10 => ?_)
      · have c_10 : ((40 : Int32) : Int32) ≤ nI k6 := c_10
        have hk_6 : k6 = 40 := z_exit (by decide) h1_6 c_10
        refine lv_iload hx hb dX3_numberIn_36 (lv_at hl 1 rfl) ?_
        exact z_iret hx hb hr rfl hlocks (by rw [hk_6]) dX3_numberIn_38
      · have c_10 : ¬ (((40 : Int32) : Int32) ≤ nI k6) := c_10
        have hk_6 : k6 < 40 := z_cont (by decide) h1_6 c_10
        refine lv_aload_n hx hb dX3_numberIn_13 rfl (lv_at hl 2 rfl) ?_
        refine lv_iload hx hb dX3_numberIn_14 (lv_at hl 0 rfl) ?_
        refine lv_iload_n hx hb dX3_numberIn_16 rfl (lv_at hl 3 rfl) ?_
        refine lv_iload_n hx hb dX3_numberIn_17 rfl (lv_at hl 4 rfl) ?_
        refine lv_iload_n hx hb dX3_numberIn_18 rfl (lv_at hl 5 rfl) ?_
        refine lv_iload hx hb dX3_numberIn_19 (lv_at hl 6 rfl) ?_
        refine z_ro (va_runV (As := [.int (nI k6), .int (le), .int (to), .int (ri), .int (bo)]) (rest := []) ⟨hx, hb, hml, hown, hz⟩ (c_X3_liesIn l D cI cQ q S (nI k6) le to ri bo) (zcwV 5 hz q1_239 q2_0 q2_1 q1_3 q2_2 hd_X3_liesIn (Nat.le_of_ble_eq_true rfl) (Nat.le_of_ble_eq_true rfl)) (z_pv (ci := 3) (q := (RX3, TX3, 5)) hK hP rfl rfl) rfl rfl hl.1 rfl (lv_room (Nat.le_of_ble_eq_true rfl)) dX3_numberIn_21 ⟨(Nat.le_of_ble_eq_true rfl), (Nat.le_of_ble_eq_true rfl)⟩) ?_
        refine lv_if_eq (tgt := 30) hx hb dX3_numberIn_24 (by decide) (fun c_24 => ?_) (fun c_24 => ?_)
        · have c_24 : (pLies S (nI k6) le to ri bo) = false := bI_f c_24
          refine lv_iinc (v := (nI k6) + 1) (lv' := [(6, .int ((nI k6) + 1)), (5, .int (pNum S le to ri bo k6)), (0, .ref (q 1)), (1, .int (le)), (2, .int (to)), (3, .int (ri)), (4, .int (bo))]) hx hb dX3_numberIn_30 hl (k := 0) rfl rfl (by decide) rfl (fun ls hl => ?_)
          refine lv_goto (tgt := 6) hx hb dX3_numberIn_33 (by decide) ?_
          have e6_6 : (nI (k6 + 1) : Int32) = (nI k6) + 1 := (nI_1 _).symm
          have e6_5 : (pNum S le to ri bo (k6 + 1) : Int32) = pNum S le to ri bo k6 := (by simp [pNum, c_10, c_24])
          exact ih6 (k6 + 1) (by omega) (by omega) _ (by (try rw [e6_6]); (try rw [e6_5]); exact lv_sub hl [0, 1, 2, 3, 4, 5, 6] rfl)
        · have c_24 : (pLies S (nI k6) le to ri bo) = true := bI_t c_24
          refine lv_iinc (v := (pNum S le to ri bo k6) + 1) (lv' := [(5, .int ((pNum S le to ri bo k6) + 1)), (6, .int (nI k6)), (0, .ref (q 1)), (1, .int (le)), (2, .int (to)), (3, .int (ri)), (4, .int (bo))]) hx hb dX3_numberIn_27 hl (k := 1) rfl rfl (by decide) rfl (fun ls hl => ?_)
          refine lv_iinc (v := (nI k6) + 1) (lv' := [(6, .int ((nI k6) + 1)), (5, .int ((pNum S le to ri bo k6) + 1)), (0, .ref (q 1)), (1, .int (le)), (2, .int (to)), (3, .int (ri)), (4, .int (bo))]) hx hb dX3_numberIn_30 hl (k := 1) rfl rfl (by decide) rfl (fun ls hl => ?_)
          refine lv_goto (tgt := 6) hx hb dX3_numberIn_33 (by decide) ?_
          have e6_6 : (nI (k6 + 1) : Int32) = (nI k6) + 1 := (nI_1 _).symm
          have e6_5 : (pNum S le to ri bo (k6 + 1) : Int32) = (pNum S le to ri bo k6) + 1 := (by simp [pNum, c_10, c_24])
          exact ih6 (k6 + 1) (by omega) (by omega) _ (by (try rw [e6_6]); (try rw [e6_5]); exact lv_sub hl [0, 1, 2, 3, 4, 5, 6] rfl)
  have e6_6 : (nI 0 : Int32) = (0 : Int32) := rfl
  have e6_5 : (pNum S le to ri bo 0 : Int32) = (0 : Int32) := (by rfl)
  exact L6 (40 + 1) (0) (Nat.zero_le _) (by omega) _ (by (try rw [e6_6]); (try rw [e6_5]); exact lv_sub hl [0, 1, 2, 3, 4, 5, 6] rfl)
set_option maxHeartbeats 1000000 in
set_option maxRecDepth 100000 in
theorem c_X3_number (l : Launch) (D : va_G) (cI cQ : ClassId) (q : Nat → Nat) (S : CS) : zRO l yX3_number (Cond.code yX3_number cX3_number 1 (some .int) :: zT) 3 73 [.ref (q 1)] D cI cQ (zPts cI q S) (pNum S 0 0 63 63 40) := by
  refine zRO.of (cc := cX3_number) (maxL := 1) (ret := some .int) (by decide +kernel) rfl (Nat.le_of_ble_eq_true rfl) ?_
  intro pg e s mi args below meth cd hx hb hr hts hown hlocks hml hP hK ls hl
  have hz : ∀ w ∈ zT, w.before args s = true := fun w h => hts w (List.mem_cons_of_mem _ h)
  have hl : lv_has ls 1 [(0, .ref (q 1))] := hl
  refine lv_aload_n hx hb dX3_number_0 rfl (lv_at hl 0 rfl) ?_
  refine lv_iconst (v := 0) hx hb dX3_number_1 (by decide) ?_
  refine lv_iconst (v := 0) hx hb dX3_number_2 (by decide) ?_
  refine lv_bipush (v := 63) hx hb dX3_number_3 (by decide) ?_
  refine lv_bipush (v := 63) hx hb dX3_number_5 (by decide) ?_
  refine z_ro (va_runV (As := [.int (0 : Int32), .int (0 : Int32), .int (63 : Int32), .int (63 : Int32)]) (rest := []) ⟨hx, hb, hml, hown, hz⟩ (c_X3_numberIn l D cI cQ q S (0 : Int32) (0 : Int32) (63 : Int32) (63 : Int32)) (zcwV 4 hz q2_56 q1_236 q1_237 q1_3 q1_238 hd_X3_numberIn (Nat.le_of_ble_eq_true rfl) (Nat.le_of_ble_eq_true rfl)) (z_pv (ci := 3) (q := (RX3, TX3, 5)) hK hP rfl rfl) rfl rfl hl.1 rfl (lv_room (Nat.le_of_ble_eq_true rfl)) dX3_number_7 ⟨(Nat.le_of_ble_eq_true rfl), (Nat.le_of_ble_eq_true rfl)⟩) ?_
  exact z_iret hx hb hr rfl hlocks (by rfl) dX3_number_10
set_option maxHeartbeats 1000000 in
set_option maxRecDepth 100000 in
theorem c_X3_wealthIn (l : Launch) (D : va_G) (cI cQ : ClassId) (q : Nat → Nat) (S : CS) (le to ri bo : Int32) : zRO l yX3_wealthIn (Cond.code yX3_wealthIn cX3_wealthIn 7 (some .int) :: zT) 2 47 [.ref (q 1), .int le, .int to, .int ri, .int bo] D cI cQ (zPts cI q S) (pWea S le to ri bo 40) := by
  refine zRO.of (cc := cX3_wealthIn) (maxL := 7) (ret := some .int) (by decide +kernel) rfl (Nat.le_of_ble_eq_true rfl) ?_
  intro pg e s mi args below meth cd hx hb hr hts hown hlocks hml hP hK ls hl
  have hz : ∀ w ∈ zT, w.before args s = true := fun w h => hts w (List.mem_cons_of_mem _ h)
  have hl : lv_has ls 7 [(0, .ref (q 1)), (1, .int (le)), (2, .int (to)), (3, .int (ri)), (4, .int (bo))] := hl
  refine lv_iconst (v := 0) hx hb dX3_wealthIn_0 (by decide) ?_
  refine lv_istore (lv' := [(5, .int (0 : Int32)), (0, .ref (q 1)), (1, .int (le)), (2, .int (to)), (3, .int (ri)), (4, .int (bo))]) hx hb dX3_wealthIn_1 hl (by decide) rfl (fun ls hl => ?_)
  refine lv_iconst (v := 0) hx hb dX3_wealthIn_3 (by decide) ?_
  refine lv_istore (lv' := [(6, .int (0 : Int32)), (5, .int (0 : Int32)), (0, .ref (q 1)), (1, .int (le)), (2, .int (to)), (3, .int (ri)), (4, .int (bo))]) hx hb dX3_wealthIn_4 hl (by decide) rfl (fun ls hl => ?_)
  have L6 : ∀ (n6 k6 : Nat), k6 ≤ 40 → 40 < k6 + n6 → ∀ (ls : Array Slot), lv_has ls 7 [(6, .int (nI k6)), (5, .int (pWea S le to ri bo k6)), (0, .ref (q 1)), (1, .int (le)), (2, .int (to)), (3, .int (ri)), (4, .int (bo))] → W pg l e ({ frames := 2, cells := 0, slots := 0, locals := 47 }) s mi args below meth cd s.heap [] 0 0 (MQ below (vp_Si (fun r => r = pWea S le to ri bo 40)) args s 0 0 (fun _ => False)) (F0 mi 6 ls []) := by
    intro n6
    induction n6 with
    | zero => intro k6 h1 h2; exact absurd h2 (by omega)
    | succ n6 ih6 =>
      intro k6 h1_6 h2_6  ls hl
      refine lv_iload hx hb dX3_wealthIn_6 (lv_at hl 0 rfl) ?_
      refine lv_bipush (v := 40) hx hb dX3_wealthIn_8 (by decide) ?_
      refine lv_icmp_ge (tgt := 45) hx hb dX3_wealthIn_10 (by decide) (fun c_10 => ?_) (fun c_10 => ?_)
      · have c_10 : ((40 : Int32) : Int32) ≤ nI k6 := c_10
        have hk_6 : k6 = 40 := z_exit (by decide) h1_6 c_10
        refine lv_iload hx hb dX3_wealthIn_45 (lv_at hl 1 rfl) ?_
        exact z_iret hx hb hr rfl hlocks (by rw [hk_6]) dX3_wealthIn_47
      · have c_10 : ¬ (((40 : Int32) : Int32) ≤ nI k6) := c_10
        have hk_6 : k6 < 40 := z_cont (by decide) h1_6 c_10
        refine lv_aload_n hx hb dX3_wealthIn_13 rfl (lv_at hl 2 rfl) ?_
        refine lv_iload hx hb dX3_wealthIn_14 (lv_at hl 0 rfl) ?_
        refine lv_iload_n hx hb dX3_wealthIn_16 rfl (lv_at hl 3 rfl) ?_
        refine lv_iload_n hx hb dX3_wealthIn_17 rfl (lv_at hl 4 rfl) ?_
        refine lv_iload_n hx hb dX3_wealthIn_18 rfl (lv_at hl 5 rfl) ?_
        refine lv_iload hx hb dX3_wealthIn_19 (lv_at hl 6 rfl) ?_
        refine z_ro (va_runV (As := [.int (nI k6), .int (le), .int (to), .int (ri), .int (bo)]) (rest := []) ⟨hx, hb, hml, hown, hz⟩ (c_X3_liesIn l D cI cQ q S (nI k6) le to ri bo) (zcwV 5 hz q1_239 q2_0 q2_1 q1_3 q2_2 hd_X3_liesIn (Nat.le_of_ble_eq_true rfl) (Nat.le_of_ble_eq_true rfl)) (z_pv (ci := 3) (q := (RX3, TX3, 5)) hK hP rfl rfl) rfl rfl hl.1 rfl (lv_room (Nat.le_of_ble_eq_true rfl)) dX3_wealthIn_21 ⟨(Nat.le_of_ble_eq_true rfl), (Nat.le_of_ble_eq_true rfl)⟩) ?_
        refine lv_if_eq (tgt := 39) hx hb dX3_wealthIn_24 (by decide) (fun c_24 => ?_) (fun c_24 => ?_)
        · have c_24 : (pLies S (nI k6) le to ri bo) = false := bI_f c_24
          refine lv_iinc (v := (nI k6) + 1) (lv' := [(6, .int ((nI k6) + 1)), (5, .int (pWea S le to ri bo k6)), (0, .ref (q 1)), (1, .int (le)), (2, .int (to)), (3, .int (ri)), (4, .int (bo))]) hx hb dX3_wealthIn_39 hl (k := 0) rfl rfl (by decide) rfl (fun ls hl => ?_)
          refine lv_goto (tgt := 6) hx hb dX3_wealthIn_42 (by decide) ?_
          have e6_6 : (nI (k6 + 1) : Int32) = (nI k6) + 1 := (nI_1 _).symm
          have e6_5 : (pWea S le to ri bo (k6 + 1) : Int32) = pWea S le to ri bo k6 := (by simp [pWea, c_10, c_24])
          exact ih6 (k6 + 1) (by omega) (by omega) _ (by (try rw [e6_6]); (try rw [e6_5]); exact lv_sub hl [0, 1, 2, 3, 4, 5, 6] rfl)
        · have c_24 : (pLies S (nI k6) le to ri bo) = true := bI_t c_24
          refine lv_iload hx hb dX3_wealthIn_27 (lv_at hl 1 rfl) ?_
          refine lv_aload_n hx hb dX3_wealthIn_29 rfl (lv_at hl 2 rfl) ?_
          refine va_get (D := D) (ci := 3) (v := .ref (q 4)) (C := RX3) (T := TX3) (N := 5) hx hb hz inZ3 hown hK.1 hP 0 rfl rfl 3 (by decide) (hz _ q1_33) (fun _ h9 => h9) rfl dX3_wealthIn_30 ?_
          refine lv_iload hx hb dX3_wealthIn_33 (lv_at hl 0 rfl) ?_
          refine va_iald (f := sW S) hx hb hK.1 hP 3 0 rfl rfl (i := nI k6) (vp_in_nI hk_6 (by decide)) dX3_wealthIn_35 ?_
          refine lv_iadd hx hb dX3_wealthIn_36 ?_
          refine lv_istore (lv' := [(5, .int ((pWea S le to ri bo k6) + ((sW S) (nI k6).toNatClampNeg))), (6, .int (nI k6)), (0, .ref (q 1)), (1, .int (le)), (2, .int (to)), (3, .int (ri)), (4, .int (bo))]) hx hb dX3_wealthIn_37 hl (by decide) rfl (fun ls hl => ?_)
          refine lv_iinc (v := (nI k6) + 1) (lv' := [(6, .int ((nI k6) + 1)), (5, .int ((pWea S le to ri bo k6) + ((sW S) (nI k6).toNatClampNeg))), (0, .ref (q 1)), (1, .int (le)), (2, .int (to)), (3, .int (ri)), (4, .int (bo))]) hx hb dX3_wealthIn_39 hl (k := 1) rfl rfl (by decide) rfl (fun ls hl => ?_)
          refine lv_goto (tgt := 6) hx hb dX3_wealthIn_42 (by decide) ?_
          have e6_6 : (nI (k6 + 1) : Int32) = (nI k6) + 1 := (nI_1 _).symm
          have e6_5 : (pWea S le to ri bo (k6 + 1) : Int32) = (pWea S le to ri bo k6) + ((sW S) (nI k6).toNatClampNeg) := (by simp [pWea, c_10, c_24])
          exact ih6 (k6 + 1) (by omega) (by omega) _ (by (try rw [e6_6]); (try rw [e6_5]); exact lv_sub hl [0, 1, 2, 3, 4, 5, 6] rfl)
  have e6_6 : (nI 0 : Int32) = (0 : Int32) := rfl
  have e6_5 : (pWea S le to ri bo 0 : Int32) = (0 : Int32) := (by rfl)
  exact L6 (40 + 1) (0) (Nat.zero_le _) (by omega) _ (by (try rw [e6_6]); (try rw [e6_5]); exact lv_sub hl [0, 1, 2, 3, 4, 5, 6] rfl)
set_option maxHeartbeats 1000000 in
set_option maxRecDepth 100000 in
theorem c_X3_richestIn (l : Launch) (D : va_G) (cI cQ : ClassId) (q : Nat → Nat) (S : CS) (le to ri bo : Int32) : zRO l yX3_richestIn (Cond.code yX3_richestIn cX3_richestIn 7 (some .int) :: zT) 2 47 [.ref (q 1), .int le, .int to, .int ri, .int bo] D cI cQ (zPts cI q S) (pRich S le to ri bo 40) := by
  refine zRO.of (cc := cX3_richestIn) (maxL := 7) (ret := some .int) (by decide +kernel) rfl (Nat.le_of_ble_eq_true rfl) ?_
  intro pg e s mi args below meth cd hx hb hr hts hown hlocks hml hP hK ls hl
  have hz : ∀ w ∈ zT, w.before args s = true := fun w h => hts w (List.mem_cons_of_mem _ h)
  have hl : lv_has ls 7 [(0, .ref (q 1)), (1, .int (le)), (2, .int (to)), (3, .int (ri)), (4, .int (bo))] := hl
  refine lv_bipush (v := (-9)) hx hb dX3_richestIn_0 (by decide) ?_
  refine lv_istore (lv' := [(5, .int (-9 : Int32)), (0, .ref (q 1)), (1, .int (le)), (2, .int (to)), (3, .int (ri)), (4, .int (bo))]) hx hb dX3_richestIn_2 hl (by decide) rfl (fun ls hl => ?_)
  refine lv_iconst (v := 0) hx hb dX3_richestIn_4 (by decide) ?_
  refine lv_istore (lv' := [(6, .int (0 : Int32)), (5, .int (-9 : Int32)), (0, .ref (q 1)), (1, .int (le)), (2, .int (to)), (3, .int (ri)), (4, .int (bo))]) hx hb dX3_richestIn_5 hl (by decide) rfl (fun ls hl => ?_)
  have L7 : ∀ (n7 k7 : Nat), k7 ≤ 40 → 40 < k7 + n7 → ∀ (ls : Array Slot), lv_has ls 7 [(6, .int (nI k7)), (5, .int (pRich S le to ri bo k7)), (0, .ref (q 1)), (1, .int (le)), (2, .int (to)), (3, .int (ri)), (4, .int (bo))] → W pg l e ({ frames := 2, cells := 0, slots := 0, locals := 47 }) s mi args below meth cd s.heap [] 0 0 (MQ below (vp_Si (fun r => r = pRich S le to ri bo 40)) args s 0 0 (fun _ => False)) (F0 mi 7 ls []) := by
    intro n7
    induction n7 with
    | zero => intro k7 h1 h2; exact absurd h2 (by omega)
    | succ n7 ih7 =>
      intro k7 h1_7 h2_7  ls hl
      refine lv_iload hx hb dX3_richestIn_7 (lv_at hl 0 rfl) ?_
      refine lv_bipush (v := 40) hx hb dX3_richestIn_9 (by decide) ?_
      refine lv_icmp_ge (tgt := 54) hx hb dX3_richestIn_11 (by decide) (fun c_11 => ?_) (fun c_11 => ?_)
      · have c_11 : ((40 : Int32) : Int32) ≤ nI k7 := c_11
        have hk_7 : k7 = 40 := z_exit (by decide) h1_7 c_11
        refine lv_iload hx hb dX3_richestIn_54 (lv_at hl 1 rfl) ?_
        exact z_iret hx hb hr rfl hlocks (by rw [hk_7]) dX3_richestIn_56
      · have c_11 : ¬ (((40 : Int32) : Int32) ≤ nI k7) := c_11
        have hk_7 : k7 < 40 := z_cont (by decide) h1_7 c_11
        refine lv_aload_n hx hb dX3_richestIn_14 rfl (lv_at hl 2 rfl) ?_
        refine lv_iload hx hb dX3_richestIn_15 (lv_at hl 0 rfl) ?_
        refine lv_iload_n hx hb dX3_richestIn_17 rfl (lv_at hl 3 rfl) ?_
        refine lv_iload_n hx hb dX3_richestIn_18 rfl (lv_at hl 4 rfl) ?_
        refine lv_iload_n hx hb dX3_richestIn_19 rfl (lv_at hl 5 rfl) ?_
        refine lv_iload hx hb dX3_richestIn_20 (lv_at hl 6 rfl) ?_
        refine z_ro (va_runV (As := [.int (nI k7), .int (le), .int (to), .int (ri), .int (bo)]) (rest := []) ⟨hx, hb, hml, hown, hz⟩ (c_X3_liesIn l D cI cQ q S (nI k7) le to ri bo) (zcwV 5 hz q1_239 q2_0 q2_1 q1_3 q2_2 hd_X3_liesIn (Nat.le_of_ble_eq_true rfl) (Nat.le_of_ble_eq_true rfl)) (z_pv (ci := 3) (q := (RX3, TX3, 5)) hK hP rfl rfl) rfl rfl hl.1 rfl (lv_room (Nat.le_of_ble_eq_true rfl)) dX3_richestIn_22 ⟨(Nat.le_of_ble_eq_true rfl), (Nat.le_of_ble_eq_true rfl)⟩) ?_
        refine lv_if_eq (tgt := 48) hx hb dX3_richestIn_25 (by decide) (fun c_25 => ?_) (fun c_25 => ?_)
        · have c_25 : (pLies S (nI k7) le to ri bo) = false := bI_f c_25
          refine lv_iinc (v := (nI k7) + 1) (lv' := [(6, .int ((nI k7) + 1)), (5, .int (pRich S le to ri bo k7)), (0, .ref (q 1)), (1, .int (le)), (2, .int (to)), (3, .int (ri)), (4, .int (bo))]) hx hb dX3_richestIn_48 hl (k := 0) rfl rfl (by decide) rfl (fun ls hl => ?_)
          refine lv_goto (tgt := 7) hx hb dX3_richestIn_51 (by decide) ?_
          have e7_6 : (nI (k7 + 1) : Int32) = (nI k7) + 1 := (nI_1 _).symm
          have e7_5 : (pRich S le to ri bo (k7 + 1) : Int32) = pRich S le to ri bo k7 := (by simp [pRich, c_11, c_25])
          exact ih7 (k7 + 1) (by omega) (by omega) _ (by (try rw [e7_6]); (try rw [e7_5]); exact lv_sub hl [0, 1, 2, 3, 4, 5, 6] rfl)
        · have c_25 : (pLies S (nI k7) le to ri bo) = true := bI_t c_25
          refine lv_aload_n hx hb dX3_richestIn_28 rfl (lv_at hl 2 rfl) ?_
          refine va_get (D := D) (ci := 3) (v := .ref (q 4)) (C := RX3) (T := TX3) (N := 5) hx hb hz inZ3 hown hK.1 hP 0 rfl rfl 3 (by decide) (hz _ q1_33) (fun _ h9 => h9) rfl dX3_richestIn_29 ?_
          refine lv_iload hx hb dX3_richestIn_32 (lv_at hl 0 rfl) ?_
          refine va_iald (f := sW S) hx hb hK.1 hP 3 0 rfl rfl (i := nI k7) (vp_in_nI hk_7 (by decide)) dX3_richestIn_34 ?_
          refine lv_aload_n hx hb dX3_richestIn_35 rfl (lv_at hl 2 rfl) ?_
          refine lv_iload hx hb dX3_richestIn_36 (lv_at hl 1 rfl) ?_
          refine z_ro (va_runV (As := [.int (pRich S le to ri bo k7)]) (rest := [.int ((sW S) (nI k7).toNatClampNeg)]) ⟨hx, hb, hml, hown, hz⟩ (c_X3_wealthOf l D cI cQ q S (pRich S le to ri bo k7)) (zcwV 1 hz q3_32 q2_226 q2_227 q1_3 q2_228 hd_X3_wealthOf (Nat.le_of_ble_eq_true rfl) (Nat.le_of_ble_eq_true rfl)) (z_pv (ci := 3) (q := (RX3, TX3, 5)) hK hP rfl rfl) rfl rfl hl.1 rfl (lv_room (Nat.le_of_ble_eq_true rfl)) dX3_richestIn_38 ⟨(Nat.le_of_ble_eq_true rfl), (Nat.le_of_ble_eq_true rfl)⟩) ?_
          refine lv_icmp_le (tgt := 48) hx hb dX3_richestIn_41 (by decide) (fun c_41 => ?_) (fun c_41 => ?_)
          · have c_41 : ((sW S) (nI k7).toNatClampNeg : Int32) ≤ pWof S (pRich S le to ri bo k7) := c_41
            refine lv_iinc (v := (nI k7) + 1) (lv' := [(6, .int ((nI k7) + 1)), (5, .int (pRich S le to ri bo k7)), (0, .ref (q 1)), (1, .int (le)), (2, .int (to)), (3, .int (ri)), (4, .int (bo))]) hx hb dX3_richestIn_48 hl (k := 0) rfl rfl (by decide) rfl (fun ls hl => ?_)
            refine lv_goto (tgt := 7) hx hb dX3_richestIn_51 (by decide) ?_
            have e7_6 : (nI (k7 + 1) : Int32) = (nI k7) + 1 := (nI_1 _).symm
            have e7_5 : (pRich S le to ri bo (k7 + 1) : Int32) = pRich S le to ri bo k7 := (by simp [pRich, c_11, c_25, c_41])
            exact ih7 (k7 + 1) (by omega) (by omega) _ (by (try rw [e7_6]); (try rw [e7_5]); exact lv_sub hl [0, 1, 2, 3, 4, 5, 6] rfl)
          · have c_41 : ¬ (((sW S) (nI k7).toNatClampNeg : Int32) ≤ pWof S (pRich S le to ri bo k7)) := c_41
            refine lv_iload hx hb dX3_richestIn_44 (lv_at hl 0 rfl) ?_
            refine lv_istore (lv' := [(5, .int (nI k7)), (6, .int (nI k7)), (0, .ref (q 1)), (1, .int (le)), (2, .int (to)), (3, .int (ri)), (4, .int (bo))]) hx hb dX3_richestIn_46 hl (by decide) rfl (fun ls hl => ?_)
            refine lv_iinc (v := (nI k7) + 1) (lv' := [(6, .int ((nI k7) + 1)), (5, .int (nI k7)), (0, .ref (q 1)), (1, .int (le)), (2, .int (to)), (3, .int (ri)), (4, .int (bo))]) hx hb dX3_richestIn_48 hl (k := 1) rfl rfl (by decide) rfl (fun ls hl => ?_)
            refine lv_goto (tgt := 7) hx hb dX3_richestIn_51 (by decide) ?_
            have e7_6 : (nI (k7 + 1) : Int32) = (nI k7) + 1 := (nI_1 _).symm
            have e7_5 : (pRich S le to ri bo (k7 + 1) : Int32) = nI k7 := (by simp [pRich, c_11, c_25, c_41])
            exact ih7 (k7 + 1) (by omega) (by omega) _ (by (try rw [e7_6]); (try rw [e7_5]); exact lv_sub hl [0, 1, 2, 3, 4, 5, 6] rfl)
  have e7_6 : (nI 0 : Int32) = (0 : Int32) := rfl
  have e7_5 : (pRich S le to ri bo 0 : Int32) = (-9 : Int32) := (by rfl)
  exact L7 (40 + 1) (0) (Nat.zero_le _) (by omega) _ (by (try rw [e7_6]); (try rw [e7_5]); exact lv_sub hl [0, 1, 2, 3, 4, 5, 6] rfl)
set_option maxHeartbeats 1000000 in
set_option maxRecDepth 100000 in
theorem c_X3_nearestTo (l : Launch) (D : va_G) (cI cQ : ClassId) (q : Nat → Nat) (S : CS) (tx ty : Int32) : zRO l yX3_nearestTo (Cond.code yX3_nearestTo cX3_nearestTo 7 (some .int) :: zT) 1 24 [.ref (q 1), .int tx, .int ty] D cI cQ (zPts cI q S) ((pNear S tx ty 40).1) := by
  refine zRO.of (cc := cX3_nearestTo) (maxL := 7) (ret := some .int) (by decide +kernel) rfl (Nat.le_of_ble_eq_true rfl) ?_
  intro pg e s mi args below meth cd hx hb hr hts hown hlocks hml hP hK ls hl
  have hz : ∀ w ∈ zT, w.before args s = true := fun w h => hts w (List.mem_cons_of_mem _ h)
  have hl : lv_has ls 7 [(0, .ref (q 1)), (1, .int (tx)), (2, .int (ty))] := hl
  refine lv_bipush (v := (-9)) hx hb dX3_nearestTo_0 (by decide) ?_
  refine lv_istore_n (lv' := [(3, .int (-9 : Int32)), (0, .ref (q 1)), (1, .int (tx)), (2, .int (ty))]) hx hb dX3_nearestTo_2 rfl hl (by decide) rfl (fun ls hl => ?_)
  refine lv_sipush (v := 128) hx hb dX3_nearestTo_3 (by decide) ?_
  refine lv_istore (lv' := [(4, .int (128 : Int32)), (3, .int (-9 : Int32)), (0, .ref (q 1)), (1, .int (tx)), (2, .int (ty))]) hx hb dX3_nearestTo_6 hl (by decide) rfl (fun ls hl => ?_)
  refine lv_iconst (v := 0) hx hb dX3_nearestTo_8 (by decide) ?_
  refine lv_istore (lv' := [(5, .int (0 : Int32)), (4, .int (128 : Int32)), (3, .int (-9 : Int32)), (0, .ref (q 1)), (1, .int (tx)), (2, .int (ty))]) hx hb dX3_nearestTo_9 hl (by decide) rfl (fun ls hl => ?_)
  have L11 : ∀ (n11 k11 : Nat), k11 ≤ 40 → 40 < k11 + n11 → ∀ (ls : Array Slot), lv_has ls 7 [(5, .int (nI k11)), (3, .int ((pNear S tx ty k11).1)), (4, .int ((pNear S tx ty k11).2)), (0, .ref (q 1)), (1, .int (tx)), (2, .int (ty))] → W pg l e ({ frames := 1, cells := 0, slots := 0, locals := 24 }) s mi args below meth cd s.heap [] 0 0 (MQ below (vp_Si (fun r => r = (pNear S tx ty 40).1)) args s 0 0 (fun _ => False)) (F0 mi 11 ls []) := by
    intro n11
    induction n11 with
    | zero => intro k11 h1 h2; exact absurd h2 (by omega)
    | succ n11 ih11 =>
      intro k11 h1_11 h2_11  ls hl
      refine lv_iload hx hb dX3_nearestTo_11 (lv_at hl 0 rfl) ?_
      refine lv_bipush (v := 40) hx hb dX3_nearestTo_13 (by decide) ?_
      refine lv_icmp_ge (tgt := 74) hx hb dX3_nearestTo_15 (by decide) (fun c_15 => ?_) (fun c_15 => ?_)
      · have c_15 : ((40 : Int32) : Int32) ≤ nI k11 := c_15
        have hk_11 : k11 = 40 := z_exit (by decide) h1_11 c_15
        refine lv_iload_n hx hb dX3_nearestTo_74 rfl (lv_at hl 1 rfl) ?_
        exact z_iret hx hb hr rfl hlocks (by rw [hk_11]) dX3_nearestTo_75
      · have c_15 : ¬ (((40 : Int32) : Int32) ≤ nI k11) := c_15
        have hk_11 : k11 < 40 := z_cont (by decide) h1_11 c_15
        refine lv_aload_n hx hb dX3_nearestTo_18 rfl (lv_at hl 3 rfl) ?_
        refine va_get (D := D) (ci := 3) (v := .ref (q 2)) (C := RX3) (T := TX3) (N := 5) hx hb hz inZ3 hown hK.1 hP 0 rfl rfl 1 (by decide) (hz _ q1_31) (fun _ h9 => h9) rfl dX3_nearestTo_19 ?_
        refine lv_iload hx hb dX3_nearestTo_22 (lv_at hl 0 rfl) ?_
        refine va_iald (f := sX S) hx hb hK.1 hP 1 0 rfl rfl (i := nI k11) (vp_in_nI hk_11 (by decide)) dX3_nearestTo_24 ?_
        refine lv_iload_n hx hb dX3_nearestTo_25 rfl (lv_at hl 4 rfl) ?_
        refine lv_isub hx hb dX3_nearestTo_26 ?_
        refine va_mabs hx hb (by rw [hml]; exact hl.1.symm) hown (hz _ q3_41) (hz _ q3_42) (hz _ q1_9) (hz _ q3_43) (Nat.le_of_ble_eq_true rfl) (Nat.le_of_ble_eq_true rfl) (Nat.le_of_ble_eq_true rfl) (Nat.le_of_ble_eq_true rfl) dX3_nearestTo_27 ?_
        refine lv_aload_n hx hb dX3_nearestTo_30 rfl (lv_at hl 3 rfl) ?_
        refine va_get (D := D) (ci := 3) (v := .ref (q 3)) (C := RX3) (T := TX3) (N := 5) hx hb hz inZ3 hown hK.1 hP 0 rfl rfl 2 (by decide) (hz _ q1_32) (fun _ h9 => h9) rfl dX3_nearestTo_31 ?_
        refine lv_iload hx hb dX3_nearestTo_34 (lv_at hl 0 rfl) ?_
        refine va_iald (f := sY S) hx hb hK.1 hP 2 0 rfl rfl (i := nI k11) (vp_in_nI hk_11 (by decide)) dX3_nearestTo_36 ?_
        refine lv_iload_n hx hb dX3_nearestTo_37 rfl (lv_at hl 5 rfl) ?_
        refine lv_isub hx hb dX3_nearestTo_38 ?_
        refine va_mabs hx hb (by rw [hml]; exact hl.1.symm) hown (hz _ q3_41) (hz _ q3_42) (hz _ q1_9) (hz _ q3_43) (Nat.le_of_ble_eq_true rfl) (Nat.le_of_ble_eq_true rfl) (Nat.le_of_ble_eq_true rfl) (Nat.le_of_ble_eq_true rfl) dX3_nearestTo_39 ?_
        refine lv_iadd hx hb dX3_nearestTo_42 ?_
        refine lv_istore (lv' := [(6, .int (pDist S tx ty (nI k11))), (5, .int (nI k11)), (3, .int ((pNear S tx ty k11).1)), (4, .int ((pNear S tx ty k11).2)), (0, .ref (q 1)), (1, .int (tx)), (2, .int (ty))]) hx hb dX3_nearestTo_43 hl (by decide) rfl (fun ls hl => ?_)
        refine lv_aload_n hx hb dX3_nearestTo_45 rfl (lv_at hl 4 rfl) ?_
        refine lv_iload hx hb dX3_nearestTo_46 (lv_at hl 1 rfl) ?_
        refine z_ro (va_runV (As := [.int (nI k11)]) (rest := []) ⟨hx, hb, hml, hown, hz⟩ (c_X3_exists l D cI cQ q S (nI k11)) (zcwV 1 hz q2_3 q2_4 q2_5 q1_3 q2_6 hd_X3_exists (Nat.le_of_ble_eq_true rfl) (Nat.le_of_ble_eq_true rfl)) (z_pv (ci := 3) (q := (RX3, TX3, 5)) hK hP rfl rfl) rfl rfl hl.1 rfl (lv_room (Nat.le_of_ble_eq_true rfl)) dX3_nearestTo_48 ⟨(Nat.le_of_ble_eq_true rfl), (Nat.le_of_ble_eq_true rfl)⟩) ?_
        refine lv_if_eq (tgt := 68) hx hb dX3_nearestTo_51 (by decide) (fun c_51 => ?_) (fun c_51 => ?_)
        · have c_51 : (pEx S (nI k11)) = false := bI_f c_51
          refine lv_iinc (v := (nI k11) + 1) (lv' := [(5, .int ((nI k11) + 1)), (6, .int (pDist S tx ty (nI k11))), (3, .int ((pNear S tx ty k11).1)), (4, .int ((pNear S tx ty k11).2)), (0, .ref (q 1)), (1, .int (tx)), (2, .int (ty))]) hx hb dX3_nearestTo_68 hl (k := 1) rfl rfl (by decide) rfl (fun ls hl => ?_)
          refine lv_goto (tgt := 11) hx hb dX3_nearestTo_71 (by decide) ?_
          have e11_5 : (nI (k11 + 1) : Int32) = (nI k11) + 1 := (nI_1 _).symm
          have e11_3 : ((pNear S tx ty (k11 + 1)).1 : Int32) = (pNear S tx ty k11).1 := (by simp [pNear, c_15, c_51])
          have e11_4 : ((pNear S tx ty (k11 + 1)).2 : Int32) = (pNear S tx ty k11).2 := (by simp [pNear, c_15, c_51])
          exact ih11 (k11 + 1) (by omega) (by omega) _ (by (try rw [e11_5]); (try rw [e11_3]); (try rw [e11_4]); exact lv_sub hl [0, 2, 3, 4, 5, 6] rfl)
        · have c_51 : (pEx S (nI k11)) = true := bI_t c_51
          refine lv_iload hx hb dX3_nearestTo_54 (lv_at hl 0 rfl) ?_
          refine lv_iload hx hb dX3_nearestTo_56 (lv_at hl 3 rfl) ?_
          refine lv_icmp_ge (tgt := 68) hx hb dX3_nearestTo_58 (by decide) (fun c_58 => ?_) (fun c_58 => ?_)
          · have c_58 : ((pNear S tx ty k11).2 : Int32) ≤ pDist S tx ty (nI k11) := c_58
            refine lv_iinc (v := (nI k11) + 1) (lv' := [(5, .int ((nI k11) + 1)), (6, .int (pDist S tx ty (nI k11))), (3, .int ((pNear S tx ty k11).1)), (4, .int ((pNear S tx ty k11).2)), (0, .ref (q 1)), (1, .int (tx)), (2, .int (ty))]) hx hb dX3_nearestTo_68 hl (k := 1) rfl rfl (by decide) rfl (fun ls hl => ?_)
            refine lv_goto (tgt := 11) hx hb dX3_nearestTo_71 (by decide) ?_
            have e11_5 : (nI (k11 + 1) : Int32) = (nI k11) + 1 := (nI_1 _).symm
            have e11_3 : ((pNear S tx ty (k11 + 1)).1 : Int32) = (pNear S tx ty k11).1 := (by simp [pNear, c_15, c_51, c_58])
            have e11_4 : ((pNear S tx ty (k11 + 1)).2 : Int32) = (pNear S tx ty k11).2 := (by simp [pNear, c_15, c_51, c_58])
            exact ih11 (k11 + 1) (by omega) (by omega) _ (by (try rw [e11_5]); (try rw [e11_3]); (try rw [e11_4]); exact lv_sub hl [0, 2, 3, 4, 5, 6] rfl)
          · have c_58 : ¬ (((pNear S tx ty k11).2 : Int32) ≤ pDist S tx ty (nI k11)) := c_58
            refine lv_iload hx hb dX3_nearestTo_61 (lv_at hl 1 rfl) ?_
            refine lv_istore_n (lv' := [(3, .int (nI k11)), (6, .int (pDist S tx ty (nI k11))), (5, .int (nI k11)), (4, .int ((pNear S tx ty k11).2)), (0, .ref (q 1)), (1, .int (tx)), (2, .int (ty))]) hx hb dX3_nearestTo_63 rfl hl (by decide) rfl (fun ls hl => ?_)
            refine lv_iload hx hb dX3_nearestTo_64 (lv_at hl 1 rfl) ?_
            refine lv_istore (lv' := [(4, .int (pDist S tx ty (nI k11))), (3, .int (nI k11)), (6, .int (pDist S tx ty (nI k11))), (5, .int (nI k11)), (0, .ref (q 1)), (1, .int (tx)), (2, .int (ty))]) hx hb dX3_nearestTo_66 hl (by decide) rfl (fun ls hl => ?_)
            refine lv_iinc (v := (nI k11) + 1) (lv' := [(5, .int ((nI k11) + 1)), (4, .int (pDist S tx ty (nI k11))), (3, .int (nI k11)), (6, .int (pDist S tx ty (nI k11))), (0, .ref (q 1)), (1, .int (tx)), (2, .int (ty))]) hx hb dX3_nearestTo_68 hl (k := 3) rfl rfl (by decide) rfl (fun ls hl => ?_)
            refine lv_goto (tgt := 11) hx hb dX3_nearestTo_71 (by decide) ?_
            have e11_5 : (nI (k11 + 1) : Int32) = (nI k11) + 1 := (nI_1 _).symm
            have e11_3 : ((pNear S tx ty (k11 + 1)).1 : Int32) = nI k11 := (by simp [pNear, c_15, c_51, c_58])
            have e11_4 : ((pNear S tx ty (k11 + 1)).2 : Int32) = pDist S tx ty (nI k11) := (by simp [pNear, c_15, c_51, c_58])
            exact ih11 (k11 + 1) (by omega) (by omega) _ (by (try rw [e11_5]); (try rw [e11_3]); (try rw [e11_4]); exact lv_sub hl [0, 2, 1, 4, 5, 6] rfl)
  have e11_5 : (nI 0 : Int32) = (0 : Int32) := rfl
  have e11_3 : ((pNear S tx ty 0).1 : Int32) = (-9 : Int32) := (by rfl)
  have e11_4 : ((pNear S tx ty 0).2 : Int32) = (128 : Int32) := (by rfl)
  exact L11 (40 + 1) (0) (Nat.zero_le _) (by omega) _ (by (try rw [e11_5]); (try rw [e11_3]); (try rw [e11_4]); exact lv_sub hl [0, 2, 1, 3, 4, 5] rfl)
set_option maxHeartbeats 1000000 in
set_option maxRecDepth 100000 in
theorem c_X3_numberUnder (l : Launch) (D : va_G) (cI cQ : ClassId) (q : Nat → Nat) (S : CS) (pa : Int32) : zRO l yX3_numberUnder (Cond.code yX3_numberUnder cX3_numberUnder 4 (some .int) :: zT) 2 42 [.ref (q 1), .int pa] D cI cQ (zPts cI q S) (pNumU S pa 40) := by
  refine zRO.of (cc := cX3_numberUnder) (maxL := 4) (ret := some .int) (by decide +kernel) rfl (Nat.le_of_ble_eq_true rfl) ?_
  intro pg e s mi args below meth cd hx hb hr hts hown hlocks hml hP hK ls hl
  have hz : ∀ w ∈ zT, w.before args s = true := fun w h => hts w (List.mem_cons_of_mem _ h)
  have hl : lv_has ls 4 [(0, .ref (q 1)), (1, .int (pa))] := hl
  refine lv_iconst (v := 0) hx hb dX3_numberUnder_0 (by decide) ?_
  refine lv_istore_n (lv' := [(2, .int (0 : Int32)), (0, .ref (q 1)), (1, .int (pa))]) hx hb dX3_numberUnder_1 rfl hl (by decide) rfl (fun ls hl => ?_)
  refine lv_iconst (v := 0) hx hb dX3_numberUnder_2 (by decide) ?_
  refine lv_istore_n (lv' := [(3, .int (0 : Int32)), (2, .int (0 : Int32)), (0, .ref (q 1)), (1, .int (pa))]) hx hb dX3_numberUnder_3 rfl hl (by decide) rfl (fun ls hl => ?_)
  have L4 : ∀ (n4 k4 : Nat), k4 ≤ 40 → 40 < k4 + n4 → ∀ (ls : Array Slot), lv_has ls 4 [(3, .int (nI k4)), (2, .int (pNumU S pa k4)), (0, .ref (q 1)), (1, .int (pa))] → W pg l e ({ frames := 2, cells := 0, slots := 0, locals := 42 }) s mi args below meth cd s.heap [] 0 0 (MQ below (vp_Si (fun r => r = pNumU S pa 40)) args s 0 0 (fun _ => False)) (F0 mi 4 ls []) := by
    intro n4
    induction n4 with
    | zero => intro k4 h1 h2; exact absurd h2 (by omega)
    | succ n4 ih4 =>
      intro k4 h1_4 h2_4  ls hl
      refine lv_iload_n hx hb dX3_numberUnder_4 rfl (lv_at hl 0 rfl) ?_
      refine lv_bipush (v := 40) hx hb dX3_numberUnder_5 (by decide) ?_
      refine lv_icmp_ge (tgt := 28) hx hb dX3_numberUnder_7 (by decide) (fun c_7 => ?_) (fun c_7 => ?_)
      · have c_7 : ((40 : Int32) : Int32) ≤ nI k4 := c_7
        have hk_4 : k4 = 40 := z_exit (by decide) h1_4 c_7
        refine lv_iload_n hx hb dX3_numberUnder_28 rfl (lv_at hl 1 rfl) ?_
        exact z_iret hx hb hr rfl hlocks (by rw [hk_4]) dX3_numberUnder_29
      · have c_7 : ¬ (((40 : Int32) : Int32) ≤ nI k4) := c_7
        have hk_4 : k4 < 40 := z_cont (by decide) h1_4 c_7
        refine lv_aload_n hx hb dX3_numberUnder_10 rfl (lv_at hl 2 rfl) ?_
        refine lv_iload_n hx hb dX3_numberUnder_11 rfl (lv_at hl 0 rfl) ?_
        refine z_ro (va_runV (As := [.int (nI k4)]) (rest := []) ⟨hx, hb, hml, hown, hz⟩ (c_X3_lordOf l D cI cQ q S (nI k4)) (zcwV 1 hz q2_118 q2_66 q2_67 q1_3 q2_68 hd_X3_lordOf (Nat.le_of_ble_eq_true rfl) (Nat.le_of_ble_eq_true rfl)) (z_pv (ci := 3) (q := (RX3, TX3, 5)) hK hP rfl rfl) rfl rfl hl.1 rfl (lv_room (Nat.le_of_ble_eq_true rfl)) dX3_numberUnder_12 ⟨(Nat.le_of_ble_eq_true rfl), (Nat.le_of_ble_eq_true rfl)⟩) ?_
        refine lv_iload_n hx hb dX3_numberUnder_15 rfl (lv_at hl 3 rfl) ?_
        refine lv_icmp_ne (tgt := 22) hx hb dX3_numberUnder_16 (by decide) (fun c_16 => ?_) (fun c_16 => ?_)
        · have c_16 : ¬ ((pLof S (nI k4) : Int32) = pa) := c_16
          refine lv_iinc (v := (nI k4) + 1) (lv' := [(3, .int ((nI k4) + 1)), (2, .int (pNumU S pa k4)), (0, .ref (q 1)), (1, .int (pa))]) hx hb dX3_numberUnder_22 hl (k := 0) rfl rfl (by decide) rfl (fun ls hl => ?_)
          refine lv_goto (tgt := 4) hx hb dX3_numberUnder_25 (by decide) ?_
          have e4_3 : (nI (k4 + 1) : Int32) = (nI k4) + 1 := (nI_1 _).symm
          have e4_2 : (pNumU S pa (k4 + 1) : Int32) = pNumU S pa k4 := (by simp [pNumU, c_7, c_16])
          exact ih4 (k4 + 1) (by omega) (by omega) _ (by (try rw [e4_3]); (try rw [e4_2]); exact lv_sub hl [0, 1, 2, 3] rfl)
        · have c_16 : (pLof S (nI k4) : Int32) = pa := c_16
          refine lv_iinc (v := (pNumU S pa k4) + 1) (lv' := [(2, .int ((pNumU S pa k4) + 1)), (3, .int (nI k4)), (0, .ref (q 1)), (1, .int (pa))]) hx hb dX3_numberUnder_19 hl (k := 1) rfl rfl (by decide) rfl (fun ls hl => ?_)
          refine lv_iinc (v := (nI k4) + 1) (lv' := [(3, .int ((nI k4) + 1)), (2, .int ((pNumU S pa k4) + 1)), (0, .ref (q 1)), (1, .int (pa))]) hx hb dX3_numberUnder_22 hl (k := 1) rfl rfl (by decide) rfl (fun ls hl => ?_)
          refine lv_goto (tgt := 4) hx hb dX3_numberUnder_25 (by decide) ?_
          have e4_3 : (nI (k4 + 1) : Int32) = (nI k4) + 1 := (nI_1 _).symm
          have e4_2 : (pNumU S pa (k4 + 1) : Int32) = (pNumU S pa k4) + 1 := (by simp [pNumU, c_7, c_16])
          exact ih4 (k4 + 1) (by omega) (by omega) _ (by (try rw [e4_3]); (try rw [e4_2]); exact lv_sub hl [0, 1, 2, 3] rfl)
  have e4_3 : (nI 0 : Int32) = (0 : Int32) := rfl
  have e4_2 : (pNumU S pa 0 : Int32) = (0 : Int32) := (by rfl)
  exact L4 (40 + 1) (0) (Nat.zero_le _) (by omega) _ (by (try rw [e4_3]); (try rw [e4_2]); exact lv_sub hl [0, 1, 2, 3] rfl)
set_option maxHeartbeats 1000000 in
set_option maxRecDepth 100000 in
theorem c_X3_wealthUnder (l : Launch) (D : va_G) (cI cQ : ClassId) (q : Nat → Nat) (S : CS) (pa : Int32) : zRO l yX3_wealthUnder (Cond.code yX3_wealthUnder cX3_wealthUnder 4 (some .int) :: zT) 2 42 [.ref (q 1), .int pa] D cI cQ (zPts cI q S) (pWeaU S pa 40) := by
  refine zRO.of (cc := cX3_wealthUnder) (maxL := 4) (ret := some .int) (by decide +kernel) rfl (Nat.le_of_ble_eq_true rfl) ?_
  intro pg e s mi args below meth cd hx hb hr hts hown hlocks hml hP hK ls hl
  have hz : ∀ w ∈ zT, w.before args s = true := fun w h => hts w (List.mem_cons_of_mem _ h)
  have hl : lv_has ls 4 [(0, .ref (q 1)), (1, .int (pa))] := hl
  refine lv_iconst (v := 0) hx hb dX3_wealthUnder_0 (by decide) ?_
  refine lv_istore_n (lv' := [(2, .int (0 : Int32)), (0, .ref (q 1)), (1, .int (pa))]) hx hb dX3_wealthUnder_1 rfl hl (by decide) rfl (fun ls hl => ?_)
  refine lv_iconst (v := 0) hx hb dX3_wealthUnder_2 (by decide) ?_
  refine lv_istore_n (lv' := [(3, .int (0 : Int32)), (2, .int (0 : Int32)), (0, .ref (q 1)), (1, .int (pa))]) hx hb dX3_wealthUnder_3 rfl hl (by decide) rfl (fun ls hl => ?_)
  have L4 : ∀ (n4 k4 : Nat), k4 ≤ 40 → 40 < k4 + n4 → ∀ (ls : Array Slot), lv_has ls 4 [(3, .int (nI k4)), (2, .int (pWeaU S pa k4)), (0, .ref (q 1)), (1, .int (pa))] → W pg l e ({ frames := 2, cells := 0, slots := 0, locals := 42 }) s mi args below meth cd s.heap [] 0 0 (MQ below (vp_Si (fun r => r = pWeaU S pa 40)) args s 0 0 (fun _ => False)) (F0 mi 4 ls []) := by
    intro n4
    induction n4 with
    | zero => intro k4 h1 h2; exact absurd h2 (by omega)
    | succ n4 ih4 =>
      intro k4 h1_4 h2_4  ls hl
      refine lv_iload_n hx hb dX3_wealthUnder_4 rfl (lv_at hl 0 rfl) ?_
      refine lv_bipush (v := 40) hx hb dX3_wealthUnder_5 (by decide) ?_
      refine lv_icmp_ge (tgt := 34) hx hb dX3_wealthUnder_7 (by decide) (fun c_7 => ?_) (fun c_7 => ?_)
      · have c_7 : ((40 : Int32) : Int32) ≤ nI k4 := c_7
        have hk_4 : k4 = 40 := z_exit (by decide) h1_4 c_7
        refine lv_iload_n hx hb dX3_wealthUnder_34 rfl (lv_at hl 1 rfl) ?_
        exact z_iret hx hb hr rfl hlocks (by rw [hk_4]) dX3_wealthUnder_35
      · have c_7 : ¬ (((40 : Int32) : Int32) ≤ nI k4) := c_7
        have hk_4 : k4 < 40 := z_cont (by decide) h1_4 c_7
        refine lv_aload_n hx hb dX3_wealthUnder_10 rfl (lv_at hl 2 rfl) ?_
        refine lv_iload_n hx hb dX3_wealthUnder_11 rfl (lv_at hl 0 rfl) ?_
        refine z_ro (va_runV (As := [.int (nI k4)]) (rest := []) ⟨hx, hb, hml, hown, hz⟩ (c_X3_lordOf l D cI cQ q S (nI k4)) (zcwV 1 hz q2_118 q2_66 q2_67 q1_3 q2_68 hd_X3_lordOf (Nat.le_of_ble_eq_true rfl) (Nat.le_of_ble_eq_true rfl)) (z_pv (ci := 3) (q := (RX3, TX3, 5)) hK hP rfl rfl) rfl rfl hl.1 rfl (lv_room (Nat.le_of_ble_eq_true rfl)) dX3_wealthUnder_12 ⟨(Nat.le_of_ble_eq_true rfl), (Nat.le_of_ble_eq_true rfl)⟩) ?_
        refine lv_iload_n hx hb dX3_wealthUnder_15 rfl (lv_at hl 3 rfl) ?_
        refine lv_icmp_ne (tgt := 28) hx hb dX3_wealthUnder_16 (by decide) (fun c_16 => ?_) (fun c_16 => ?_)
        · have c_16 : ¬ ((pLof S (nI k4) : Int32) = pa) := c_16
          refine lv_iinc (v := (nI k4) + 1) (lv' := [(3, .int ((nI k4) + 1)), (2, .int (pWeaU S pa k4)), (0, .ref (q 1)), (1, .int (pa))]) hx hb dX3_wealthUnder_28 hl (k := 0) rfl rfl (by decide) rfl (fun ls hl => ?_)
          refine lv_goto (tgt := 4) hx hb dX3_wealthUnder_31 (by decide) ?_
          have e4_3 : (nI (k4 + 1) : Int32) = (nI k4) + 1 := (nI_1 _).symm
          have e4_2 : (pWeaU S pa (k4 + 1) : Int32) = pWeaU S pa k4 := (by simp [pWeaU, c_7, c_16])
          exact ih4 (k4 + 1) (by omega) (by omega) _ (by (try rw [e4_3]); (try rw [e4_2]); exact lv_sub hl [0, 1, 2, 3] rfl)
        · have c_16 : (pLof S (nI k4) : Int32) = pa := c_16
          refine lv_iload_n hx hb dX3_wealthUnder_19 rfl (lv_at hl 1 rfl) ?_
          refine lv_aload_n hx hb dX3_wealthUnder_20 rfl (lv_at hl 2 rfl) ?_
          refine va_get (D := D) (ci := 3) (v := .ref (q 4)) (C := RX3) (T := TX3) (N := 5) hx hb hz inZ3 hown hK.1 hP 0 rfl rfl 3 (by decide) (hz _ q1_33) (fun _ h9 => h9) rfl dX3_wealthUnder_21 ?_
          refine lv_iload_n hx hb dX3_wealthUnder_24 rfl (lv_at hl 0 rfl) ?_
          refine va_iald (f := sW S) hx hb hK.1 hP 3 0 rfl rfl (i := nI k4) (vp_in_nI hk_4 (by decide)) dX3_wealthUnder_25 ?_
          refine lv_iadd hx hb dX3_wealthUnder_26 ?_
          refine lv_istore_n (lv' := [(2, .int ((pWeaU S pa k4) + ((sW S) (nI k4).toNatClampNeg))), (3, .int (nI k4)), (0, .ref (q 1)), (1, .int (pa))]) hx hb dX3_wealthUnder_27 rfl hl (by decide) rfl (fun ls hl => ?_)
          refine lv_iinc (v := (nI k4) + 1) (lv' := [(3, .int ((nI k4) + 1)), (2, .int ((pWeaU S pa k4) + ((sW S) (nI k4).toNatClampNeg))), (0, .ref (q 1)), (1, .int (pa))]) hx hb dX3_wealthUnder_28 hl (k := 1) rfl rfl (by decide) rfl (fun ls hl => ?_)
          refine lv_goto (tgt := 4) hx hb dX3_wealthUnder_31 (by decide) ?_
          have e4_3 : (nI (k4 + 1) : Int32) = (nI k4) + 1 := (nI_1 _).symm
          have e4_2 : (pWeaU S pa (k4 + 1) : Int32) = (pWeaU S pa k4) + ((sW S) (nI k4).toNatClampNeg) := (by simp [pWeaU, c_7, c_16])
          exact ih4 (k4 + 1) (by omega) (by omega) _ (by (try rw [e4_3]); (try rw [e4_2]); exact lv_sub hl [0, 1, 2, 3] rfl)
  have e4_3 : (nI 0 : Int32) = (0 : Int32) := rfl
  have e4_2 : (pWeaU S pa 0 : Int32) = (0 : Int32) := (by rfl)
  exact L4 (40 + 1) (0) (Nat.zero_le _) (by omega) _ (by (try rw [e4_3]); (try rw [e4_2]); exact lv_sub hl [0, 1, 2, 3] rfl)
set_option maxHeartbeats 1000000 in
set_option maxRecDepth 100000 in
theorem c_X3_poorestUnder (l : Launch) (D : va_G) (cI cQ : ClassId) (q : Nat → Nat) (S : CS) (pa le to ri bo : Int32) : zRO l yX3_poorestUnder (Cond.code yX3_poorestUnder cX3_poorestUnder 10 (some .int) :: zT) 2 47 [.ref (q 1), .int pa, .int le, .int to, .int ri, .int bo] D cI cQ (zPts cI q S) ((pPoor S pa le to ri bo 40).1) := by
  refine zRO.of (cc := cX3_poorestUnder) (maxL := 10) (ret := some .int) (by decide +kernel) rfl (Nat.le_of_ble_eq_true rfl) ?_
  intro pg e s mi args below meth cd hx hb hr hts hown hlocks hml hP hK ls hl
  have hz : ∀ w ∈ zT, w.before args s = true := fun w h => hts w (List.mem_cons_of_mem _ h)
  have hl : lv_has ls 10 [(0, .ref (q 1)), (1, .int (pa)), (2, .int (le)), (3, .int (to)), (4, .int (ri)), (5, .int (bo))] := hl
  refine lv_bipush (v := (-9)) hx hb dX3_poorestUnder_0 (by decide) ?_
  refine lv_istore (lv' := [(6, .int (-9 : Int32)), (0, .ref (q 1)), (1, .int (pa)), (2, .int (le)), (3, .int (to)), (4, .int (ri)), (5, .int (bo))]) hx hb dX3_poorestUnder_2 hl (by decide) rfl (fun ls hl => ?_)
  refine lv_bipush (v := 101) hx hb dX3_poorestUnder_4 (by decide) ?_
  refine lv_istore (lv' := [(7, .int (101 : Int32)), (6, .int (-9 : Int32)), (0, .ref (q 1)), (1, .int (pa)), (2, .int (le)), (3, .int (to)), (4, .int (ri)), (5, .int (bo))]) hx hb dX3_poorestUnder_6 hl (by decide) rfl (fun ls hl => ?_)
  refine lv_iconst (v := 0) hx hb dX3_poorestUnder_8 (by decide) ?_
  refine lv_istore (lv' := [(8, .int (0 : Int32)), (7, .int (101 : Int32)), (6, .int (-9 : Int32)), (0, .ref (q 1)), (1, .int (pa)), (2, .int (le)), (3, .int (to)), (4, .int (ri)), (5, .int (bo))]) hx hb dX3_poorestUnder_9 hl (by decide) rfl (fun ls hl => ?_)
  have L11 : ∀ (n11 k11 : Nat), k11 ≤ 40 → 40 < k11 + n11 → ∀ (ls : Array Slot), lv_has ls 10 [(8, .int (nI k11)), (6, .int ((pPoor S pa le to ri bo k11).1)), (7, .int ((pPoor S pa le to ri bo k11).2)), (0, .ref (q 1)), (1, .int (pa)), (2, .int (le)), (3, .int (to)), (4, .int (ri)), (5, .int (bo))] → W pg l e ({ frames := 2, cells := 0, slots := 0, locals := 47 }) s mi args below meth cd s.heap [] 0 0 (MQ below (vp_Si (fun r => r = (pPoor S pa le to ri bo 40).1)) args s 0 0 (fun _ => False)) (F0 mi 11 ls []) := by
    intro n11
    induction n11 with
    | zero => intro k11 h1 h2; exact absurd h2 (by omega)
    | succ n11 ih11 =>
      intro k11 h1_11 h2_11  ls hl
      refine lv_iload hx hb dX3_poorestUnder_11 (lv_at hl 0 rfl) ?_
      refine lv_bipush (v := 40) hx hb dX3_poorestUnder_13 (by decide) ?_
      refine lv_icmp_ge (tgt := 86) hx hb dX3_poorestUnder_15 (by decide) (fun c_15 => ?_) (fun c_15 => ?_)
      · have c_15 : ((40 : Int32) : Int32) ≤ nI k11 := c_15
        have hk_11 : k11 = 40 := z_exit (by decide) h1_11 c_15
        refine lv_iload hx hb dX3_poorestUnder_86 (lv_at hl 1 rfl) ?_
        exact z_iret hx hb hr rfl hlocks (by rw [hk_11]) dX3_poorestUnder_88
      · have c_15 : ¬ (((40 : Int32) : Int32) ≤ nI k11) := c_15
        have hk_11 : k11 < 40 := z_cont (by decide) h1_11 c_15
        refine lv_aload_n hx hb dX3_poorestUnder_18 rfl (lv_at hl 3 rfl) ?_
        refine lv_iload hx hb dX3_poorestUnder_19 (lv_at hl 0 rfl) ?_
        refine z_ro (va_runV (As := [.int (nI k11)]) (rest := []) ⟨hx, hb, hml, hown, hz⟩ (c_X3_lordOf l D cI cQ q S (nI k11)) (zcwV 1 hz q2_118 q2_66 q2_67 q1_3 q2_68 hd_X3_lordOf (Nat.le_of_ble_eq_true rfl) (Nat.le_of_ble_eq_true rfl)) (z_pv (ci := 3) (q := (RX3, TX3, 5)) hK hP rfl rfl) rfl rfl hl.1 rfl (lv_room (Nat.le_of_ble_eq_true rfl)) dX3_poorestUnder_21 ⟨(Nat.le_of_ble_eq_true rfl), (Nat.le_of_ble_eq_true rfl)⟩) ?_
        refine lv_iload_n hx hb dX3_poorestUnder_24 rfl (lv_at hl 4 rfl) ?_
        refine lv_icmp_ne (tgt := 47) hx hb dX3_poorestUnder_25 (by decide) (fun c_25 => ?_) (fun c_25 => ?_)
        · have c_25 : ¬ ((pLof S (nI k11) : Int32) = pa) := c_25
          refine lv_iconst (v := 0) hx hb dX3_poorestUnder_47 (by decide) ?_
          refine lv_istore (lv' := [(9, .int (0 : Int32)), (8, .int (nI k11)), (6, .int ((pPoor S pa le to ri bo k11).1)), (7, .int ((pPoor S pa le to ri bo k11).2)), (0, .ref (q 1)), (1, .int (pa)), (2, .int (le)), (3, .int (to)), (4, .int (ri)), (5, .int (bo))]) hx hb dX3_poorestUnder_48 hl (by decide) rfl (fun ls hl => ?_)
          refine lv_iload hx hb dX3_poorestUnder_50 (lv_at hl 0 rfl) ?_
          refine lv_if_eq (tgt := 80) hx hb dX3_poorestUnder_52 (by decide) (fun _ => ?_) (fun c_ => absurd (by decide) c_)
          refine lv_iinc (v := (nI k11) + 1) (lv' := [(8, .int ((nI k11) + 1)), (9, .int (0 : Int32)), (6, .int ((pPoor S pa le to ri bo k11).1)), (7, .int ((pPoor S pa le to ri bo k11).2)), (0, .ref (q 1)), (1, .int (pa)), (2, .int (le)), (3, .int (to)), (4, .int (ri)), (5, .int (bo))]) hx hb dX3_poorestUnder_80 hl (k := 1) rfl rfl (by decide) rfl (fun ls hl => ?_)
          refine lv_goto (tgt := 11) hx hb dX3_poorestUnder_83 (by decide) ?_
          have e11_8 : (nI (k11 + 1) : Int32) = (nI k11) + 1 := (nI_1 _).symm
          have e11_6 : ((pPoor S pa le to ri bo (k11 + 1)).1 : Int32) = (pPoor S pa le to ri bo k11).1 := (by simp [pPoor, c_15, c_25])
          have e11_7 : ((pPoor S pa le to ri bo (k11 + 1)).2 : Int32) = (pPoor S pa le to ri bo k11).2 := (by simp [pPoor, c_15, c_25])
          exact ih11 (k11 + 1) (by omega) (by omega) _ (by (try rw [e11_8]); (try rw [e11_6]); (try rw [e11_7]); exact lv_sub hl [0, 2, 3, 4, 5, 6, 7, 8, 9] rfl)
        · have c_25 : (pLof S (nI k11) : Int32) = pa := c_25
          refine lv_aload_n hx hb dX3_poorestUnder_28 rfl (lv_at hl 3 rfl) ?_
          refine lv_iload hx hb dX3_poorestUnder_29 (lv_at hl 0 rfl) ?_
          refine lv_iload_n hx hb dX3_poorestUnder_31 rfl (lv_at hl 5 rfl) ?_
          refine lv_iload_n hx hb dX3_poorestUnder_32 rfl (lv_at hl 6 rfl) ?_
          refine lv_iload hx hb dX3_poorestUnder_33 (lv_at hl 7 rfl) ?_
          refine lv_iload hx hb dX3_poorestUnder_35 (lv_at hl 8 rfl) ?_
          refine z_ro (va_runV (As := [.int (nI k11), .int (le), .int (to), .int (ri), .int (bo)]) (rest := []) ⟨hx, hb, hml, hown, hz⟩ (c_X3_liesIn l D cI cQ q S (nI k11) le to ri bo) (zcwV 5 hz q1_239 q2_0 q2_1 q1_3 q2_2 hd_X3_liesIn (Nat.le_of_ble_eq_true rfl) (Nat.le_of_ble_eq_true rfl)) (z_pv (ci := 3) (q := (RX3, TX3, 5)) hK hP rfl rfl) rfl rfl hl.1 rfl (lv_room (Nat.le_of_ble_eq_true rfl)) dX3_poorestUnder_37 ⟨(Nat.le_of_ble_eq_true rfl), (Nat.le_of_ble_eq_true rfl)⟩) ?_
          refine lv_if_eq (tgt := 47) hx hb dX3_poorestUnder_40 (by decide) (fun c_40 => ?_) (fun c_40 => ?_)
          · have c_40 : (pLies S (nI k11) le to ri bo) = false := bI_f c_40
            refine lv_iconst (v := 0) hx hb dX3_poorestUnder_47 (by decide) ?_
            refine lv_istore (lv' := [(9, .int (0 : Int32)), (8, .int (nI k11)), (6, .int ((pPoor S pa le to ri bo k11).1)), (7, .int ((pPoor S pa le to ri bo k11).2)), (0, .ref (q 1)), (1, .int (pa)), (2, .int (le)), (3, .int (to)), (4, .int (ri)), (5, .int (bo))]) hx hb dX3_poorestUnder_48 hl (by decide) rfl (fun ls hl => ?_)
            refine lv_iload hx hb dX3_poorestUnder_50 (lv_at hl 0 rfl) ?_
            refine lv_if_eq (tgt := 80) hx hb dX3_poorestUnder_52 (by decide) (fun _ => ?_) (fun c_ => absurd (by decide) c_)
            refine lv_iinc (v := (nI k11) + 1) (lv' := [(8, .int ((nI k11) + 1)), (9, .int (0 : Int32)), (6, .int ((pPoor S pa le to ri bo k11).1)), (7, .int ((pPoor S pa le to ri bo k11).2)), (0, .ref (q 1)), (1, .int (pa)), (2, .int (le)), (3, .int (to)), (4, .int (ri)), (5, .int (bo))]) hx hb dX3_poorestUnder_80 hl (k := 1) rfl rfl (by decide) rfl (fun ls hl => ?_)
            refine lv_goto (tgt := 11) hx hb dX3_poorestUnder_83 (by decide) ?_
            have e11_8 : (nI (k11 + 1) : Int32) = (nI k11) + 1 := (nI_1 _).symm
            have e11_6 : ((pPoor S pa le to ri bo (k11 + 1)).1 : Int32) = (pPoor S pa le to ri bo k11).1 := (by simp [pPoor, c_15, c_25, c_40])
            have e11_7 : ((pPoor S pa le to ri bo (k11 + 1)).2 : Int32) = (pPoor S pa le to ri bo k11).2 := (by simp [pPoor, c_15, c_25, c_40])
            exact ih11 (k11 + 1) (by omega) (by omega) _ (by (try rw [e11_8]); (try rw [e11_6]); (try rw [e11_7]); exact lv_sub hl [0, 2, 3, 4, 5, 6, 7, 8, 9] rfl)
          · have c_40 : (pLies S (nI k11) le to ri bo) = true := bI_t c_40
            refine lv_iconst (v := 1) hx hb dX3_poorestUnder_43 (by decide) ?_
            refine lv_goto (tgt := 48) hx hb dX3_poorestUnder_44 (by decide) ?_
            refine lv_istore (lv' := [(9, .int (1 : Int32)), (8, .int (nI k11)), (6, .int ((pPoor S pa le to ri bo k11).1)), (7, .int ((pPoor S pa le to ri bo k11).2)), (0, .ref (q 1)), (1, .int (pa)), (2, .int (le)), (3, .int (to)), (4, .int (ri)), (5, .int (bo))]) hx hb dX3_poorestUnder_48 hl (by decide) rfl (fun ls hl => ?_)
            refine lv_iload hx hb dX3_poorestUnder_50 (lv_at hl 0 rfl) ?_
            refine lv_if_eq (tgt := 80) hx hb dX3_poorestUnder_52 (by decide) (fun c_ => absurd c_ (by decide)) (fun _ => ?_)
            refine lv_aload_n hx hb dX3_poorestUnder_55 rfl (lv_at hl 4 rfl) ?_
            refine va_get (D := D) (ci := 3) (v := .ref (q 4)) (C := RX3) (T := TX3) (N := 5) hx hb hz inZ3 hown hK.1 hP 0 rfl rfl 3 (by decide) (hz _ q1_33) (fun _ h9 => h9) rfl dX3_poorestUnder_56 ?_
            refine lv_iload hx hb dX3_poorestUnder_59 (lv_at hl 1 rfl) ?_
            refine va_iald (f := sW S) hx hb hK.1 hP 3 0 rfl rfl (i := nI k11) (vp_in_nI hk_11 (by decide)) dX3_poorestUnder_61 ?_
            refine lv_iload hx hb dX3_poorestUnder_62 (lv_at hl 3 rfl) ?_
            refine lv_icmp_ge (tgt := 80) hx hb dX3_poorestUnder_64 (by decide) (fun c_64 => ?_) (fun c_64 => ?_)
            · have c_64 : ((pPoor S pa le to ri bo k11).2 : Int32) ≤ (sW S) (nI k11).toNatClampNeg := c_64
              refine lv_iinc (v := (nI k11) + 1) (lv' := [(8, .int ((nI k11) + 1)), (9, .int (1 : Int32)), (6, .int ((pPoor S pa le to ri bo k11).1)), (7, .int ((pPoor S pa le to ri bo k11).2)), (0, .ref (q 1)), (1, .int (pa)), (2, .int (le)), (3, .int (to)), (4, .int (ri)), (5, .int (bo))]) hx hb dX3_poorestUnder_80 hl (k := 1) rfl rfl (by decide) rfl (fun ls hl => ?_)
              refine lv_goto (tgt := 11) hx hb dX3_poorestUnder_83 (by decide) ?_
              have e11_8 : (nI (k11 + 1) : Int32) = (nI k11) + 1 := (nI_1 _).symm
              have e11_6 : ((pPoor S pa le to ri bo (k11 + 1)).1 : Int32) = (pPoor S pa le to ri bo k11).1 := (by simp [pPoor, c_15, c_25, c_40, c_64])
              have e11_7 : ((pPoor S pa le to ri bo (k11 + 1)).2 : Int32) = (pPoor S pa le to ri bo k11).2 := (by simp [pPoor, c_15, c_25, c_40, c_64])
              exact ih11 (k11 + 1) (by omega) (by omega) _ (by (try rw [e11_8]); (try rw [e11_6]); (try rw [e11_7]); exact lv_sub hl [0, 2, 3, 4, 5, 6, 7, 8, 9] rfl)
            · have c_64 : ¬ (((pPoor S pa le to ri bo k11).2 : Int32) ≤ (sW S) (nI k11).toNatClampNeg) := c_64
              refine lv_iload hx hb dX3_poorestUnder_67 (lv_at hl 1 rfl) ?_
              refine lv_istore (lv' := [(6, .int (nI k11)), (9, .int (1 : Int32)), (8, .int (nI k11)), (7, .int ((pPoor S pa le to ri bo k11).2)), (0, .ref (q 1)), (1, .int (pa)), (2, .int (le)), (3, .int (to)), (4, .int (ri)), (5, .int (bo))]) hx hb dX3_poorestUnder_69 hl (by decide) rfl (fun ls hl => ?_)
              refine lv_aload_n hx hb dX3_poorestUnder_71 rfl (lv_at hl 4 rfl) ?_
              refine va_get (D := D) (ci := 3) (v := .ref (q 4)) (C := RX3) (T := TX3) (N := 5) hx hb hz inZ3 hown hK.1 hP 0 rfl rfl 3 (by decide) (hz _ q1_33) (fun _ h9 => h9) rfl dX3_poorestUnder_72 ?_
              refine lv_iload hx hb dX3_poorestUnder_75 (lv_at hl 2 rfl) ?_
              refine va_iald (f := sW S) hx hb hK.1 hP 3 0 rfl rfl (i := nI k11) (vp_in_nI hk_11 (by decide)) dX3_poorestUnder_77 ?_
              refine lv_istore (lv' := [(7, .int ((sW S) (nI k11).toNatClampNeg)), (6, .int (nI k11)), (9, .int (1 : Int32)), (8, .int (nI k11)), (0, .ref (q 1)), (1, .int (pa)), (2, .int (le)), (3, .int (to)), (4, .int (ri)), (5, .int (bo))]) hx hb dX3_poorestUnder_78 hl (by decide) rfl (fun ls hl => ?_)
              refine lv_iinc (v := (nI k11) + 1) (lv' := [(8, .int ((nI k11) + 1)), (7, .int ((sW S) (nI k11).toNatClampNeg)), (6, .int (nI k11)), (9, .int (1 : Int32)), (0, .ref (q 1)), (1, .int (pa)), (2, .int (le)), (3, .int (to)), (4, .int (ri)), (5, .int (bo))]) hx hb dX3_poorestUnder_80 hl (k := 3) rfl rfl (by decide) rfl (fun ls hl => ?_)
              refine lv_goto (tgt := 11) hx hb dX3_poorestUnder_83 (by decide) ?_
              have e11_8 : (nI (k11 + 1) : Int32) = (nI k11) + 1 := (nI_1 _).symm
              have e11_6 : ((pPoor S pa le to ri bo (k11 + 1)).1 : Int32) = nI k11 := (by simp [pPoor, c_15, c_25, c_40, c_64])
              have e11_7 : ((pPoor S pa le to ri bo (k11 + 1)).2 : Int32) = (sW S) (nI k11).toNatClampNeg := (by simp [pPoor, c_15, c_25, c_40, c_64])
              exact ih11 (k11 + 1) (by omega) (by omega) _ (by (try rw [e11_8]); (try rw [e11_6]); (try rw [e11_7]); exact lv_sub hl [0, 2, 1, 4, 5, 6, 7, 8, 9] rfl)
  have e11_8 : (nI 0 : Int32) = (0 : Int32) := rfl
  have e11_6 : ((pPoor S pa le to ri bo 0).1 : Int32) = (-9 : Int32) := (by rfl)
  have e11_7 : ((pPoor S pa le to ri bo 0).2 : Int32) = (101 : Int32) := (by rfl)
  exact L11 (40 + 1) (0) (Nat.zero_le _) (by omega) _ (by (try rw [e11_8]); (try rw [e11_6]); (try rw [e11_7]); exact lv_sub hl [0, 2, 1, 3, 4, 5, 6, 7, 8] rfl)
set_option maxHeartbeats 1000000 in
set_option maxRecDepth 100000 in
theorem c_X3_changeLord (l : Launch) (D : va_G) (cI cQ : ClassId) (q : Nat → Nat) (S : CS) (fr no le to ri bo : Int32) (g1 : FI) (hg1 : g1 = pChl S fr no le to ri bo 40) : zWR l yX3_changeLord (Cond.code yX3_changeLord cX3_changeLord 8 (none) :: zT) 2 47 [.ref (q 1), .int fr, .int no, .int le, .int to, .int ri, .int bo] D cI cQ (zPts cI q S) none (zPts cI q (uL S g1)) := by
  refine zWR.of (cc := cX3_changeLord) (maxL := 8) (ret := none) (by decide +kernel) rfl (Nat.le_of_ble_eq_true rfl) ?_
  intro pg e s mi args below meth cd hx hb hr hts hown hlocks hml hP hD hS hK ls hl
  have hz : ∀ w ∈ zT, w.before args s = true := fun w h => hts w (List.mem_cons_of_mem _ h)
  have hl : lv_has ls 8 [(0, .ref (q 1)), (1, .int (fr)), (2, .int (no)), (3, .int (le)), (4, .int (to)), (5, .int (ri)), (6, .int (bo))] := hl
  refine lv_iconst (v := 0) hx hb dX3_changeLord_0 (by decide) ?_
  refine lv_istore (lv' := [(7, .int (0 : Int32)), (0, .ref (q 1)), (1, .int (fr)), (2, .int (no)), (3, .int (le)), (4, .int (to)), (5, .int (ri)), (6, .int (bo))]) hx hb dX3_changeLord_1 hl (by decide) rfl (fun ls hl => ?_)
  have L3 : ∀ (n3 k3 : Nat), k3 ≤ 40 → 40 < k3 + n3 → ∀ (H : Heap) (locs : List Loc), va_P D vwCl (zPts cI q (uL S (pChl S fr no le to ri bo k3))) H → va_D (zA (zPts cI q S)) (zPts cI q (uL S (pChl S fr no le to ri bo k3))) → va_S (zA (zPts cI q S)) s.heap H locs → ∀ (ls : Array Slot), lv_has ls 8 [(7, .int (nI k3)), (0, .ref (q 1)), (1, .int (fr)), (2, .int (no)), (3, .int (le)), (4, .int (to)), (5, .int (ri)), (6, .int (bo))] → W pg l e ({ frames := 2, cells := 0, slots := 0, locals := 47 }) s mi args below meth cd H locs 0 0 (MQ below (zQ D (zPts cI q S) none (zPts cI q (uL S g1))) args s 0 0 (zA (zPts cI q S))) (F0 mi 3 ls []) := by
    intro n3
    induction n3 with
    | zero => intro k3 h1 h2; exact absurd h2 (by omega)
    | succ n3 ih3 =>
      intro k3 h1_3 h2_3  H locs hP hD hS ls hl
      refine lv_iload hx hb dX3_changeLord_3 (lv_at hl 0 rfl) ?_
      refine lv_bipush (v := 40) hx hb dX3_changeLord_5 (by decide) ?_
      refine lv_icmp_ge (tgt := 51) hx hb dX3_changeLord_7 (by decide) (fun c_7 => ?_) (fun c_7 => ?_)
      · have c_7 : ((40 : Int32) : Int32) ≤ nI k3 := c_7
        have hk_3 : k3 = 40 := z_exit (by decide) h1_3 c_7
        exact z_wvret hx hb hr hlocks hP hS (congrArg (fun T => zPts cI q T) (show uL S (pChl S fr no le to ri bo k3) = uL S g1 from by (try simp only [hg1]) <;> (rw [hk_3]))) dX3_changeLord_51
      · have c_7 : ¬ (((40 : Int32) : Int32) ≤ nI k3) := c_7
        have hk_3 : k3 < 40 := z_cont (by decide) h1_3 c_7
        refine lv_aload_n hx hb dX3_changeLord_10 rfl (lv_at hl 1 rfl) ?_
        refine lv_iload hx hb dX3_changeLord_11 (lv_at hl 0 rfl) ?_
        refine lv_iload_n hx hb dX3_changeLord_13 rfl (lv_at hl 4 rfl) ?_
        refine lv_iload hx hb dX3_changeLord_14 (lv_at hl 5 rfl) ?_
        refine lv_iload hx hb dX3_changeLord_16 (lv_at hl 6 rfl) ?_
        refine lv_iload hx hb dX3_changeLord_18 (lv_at hl 7 rfl) ?_
        refine z_ro (va_runV (As := [.int (nI k3), .int (le), .int (to), .int (ri), .int (bo)]) (rest := []) ⟨hx, hb, hml, hown, hz⟩ (c_X3_liesIn l D cI cQ q (uL S (pChl S fr no le to ri bo k3)) (nI k3) le to ri bo) (zcwV 5 hz q1_239 q2_0 q2_1 q1_3 q2_2 hd_X3_liesIn (Nat.le_of_ble_eq_true rfl) (Nat.le_of_ble_eq_true rfl)) (z_pv (ci := 3) (q := (RX3, TX3, 5)) hK hP rfl rfl) rfl rfl hl.1 rfl (lv_room (Nat.le_of_ble_eq_true rfl)) dX3_changeLord_20 ⟨(Nat.le_of_ble_eq_true rfl), (Nat.le_of_ble_eq_true rfl)⟩) ?_
        refine lv_if_eq (tgt := 45) hx hb dX3_changeLord_23 (by decide) (fun c_23 => ?_) (fun c_23 => ?_)
        · have c_23 : (pLies S (nI k3) le to ri bo) = false := bI_f c_23
          refine lv_iinc (v := (nI k3) + 1) (lv' := [(7, .int ((nI k3) + 1)), (0, .ref (q 1)), (1, .int (fr)), (2, .int (no)), (3, .int (le)), (4, .int (to)), (5, .int (ri)), (6, .int (bo))]) hx hb dX3_changeLord_45 hl (k := 0) rfl rfl (by decide) rfl (fun ls hl => ?_)
          refine lv_goto (tgt := 3) hx hb dX3_changeLord_48 (by decide) ?_
          have e3_7 : (nI (k3 + 1) : Int32) = (nI k3) + 1 := (nI_1 _).symm
          have eS3 : uL S (pChl S fr no le to ri bo (k3 + 1)) = uL S (pChl S fr no le to ri bo k3) := by simp [pChl, uL_u, c_7, c_23]
          exact ih3 (k3 + 1) (by omega) (by omega) H locs (by rw [eS3]; exact hP) (by rw [eS3]; exact hD) hS _ (by (try rw [e3_7]); exact lv_sub hl [0, 1, 2, 3, 4, 5, 6, 7] rfl)
        · have c_23 : (pLies S (nI k3) le to ri bo) = true := bI_t c_23
          refine lv_aload_n hx hb dX3_changeLord_26 rfl (lv_at hl 1 rfl) ?_
          refine va_get (D := D) (ci := 3) (v := .ref (q 5)) (C := RX3) (T := TX3) (N := 5) hx hb hz inZ3 hown hK.1 hP 0 rfl rfl 4 (by decide) (hz _ q1_34) (fun _ h9 => h9) rfl dX3_changeLord_27 ?_
          refine lv_iload hx hb dX3_changeLord_30 (lv_at hl 0 rfl) ?_
          refine va_iald (f := pChl S fr no le to ri bo k3) hx hb hK.1 hP 4 0 rfl rfl (i := nI k3) (vp_in_nI hk_3 (by decide)) dX3_changeLord_32 ?_
          refine lv_iload_n hx hb dX3_changeLord_33 rfl (lv_at hl 2 rfl) ?_
          refine lv_icmp_ne (tgt := 45) hx hb dX3_changeLord_34 (by decide) (fun c_34 => ?_) (fun c_34 => ?_)
          · have c_34 : ¬ (((pChl S fr no le to ri bo k3) (nI k3).toNatClampNeg : Int32) = fr) := c_34
            refine lv_iinc (v := (nI k3) + 1) (lv' := [(7, .int ((nI k3) + 1)), (0, .ref (q 1)), (1, .int (fr)), (2, .int (no)), (3, .int (le)), (4, .int (to)), (5, .int (ri)), (6, .int (bo))]) hx hb dX3_changeLord_45 hl (k := 0) rfl rfl (by decide) rfl (fun ls hl => ?_)
            refine lv_goto (tgt := 3) hx hb dX3_changeLord_48 (by decide) ?_
            have e3_7 : (nI (k3 + 1) : Int32) = (nI k3) + 1 := (nI_1 _).symm
            have eS3 : uL S (pChl S fr no le to ri bo (k3 + 1)) = uL S (pChl S fr no le to ri bo k3) := by simp [pChl, uL_u, c_7, c_23, c_34]
            exact ih3 (k3 + 1) (by omega) (by omega) H locs (by rw [eS3]; exact hP) (by rw [eS3]; exact hD) hS _ (by (try rw [e3_7]); exact lv_sub hl [0, 1, 2, 3, 4, 5, 6, 7] rfl)
          · have c_34 : ((pChl S fr no le to ri bo k3) (nI k3).toNatClampNeg : Int32) = fr := c_34
            refine lv_aload_n hx hb dX3_changeLord_37 rfl (lv_at hl 1 rfl) ?_
            refine va_get (D := D) (ci := 3) (v := .ref (q 5)) (C := RX3) (T := TX3) (N := 5) hx hb hz inZ3 hown hK.1 hP 0 rfl rfl 4 (by decide) (hz _ q1_34) (fun _ h9 => h9) rfl dX3_changeLord_38 ?_
            refine lv_iload hx hb dX3_changeLord_41 (lv_at hl 0 rfl) ?_
            refine lv_iload_n hx hb dX3_changeLord_43 rfl (lv_at hl 3 rfl) ?_
            refine va_iast hx hb hK.1 hP hD hS 4 0 rfl rfl (i := nI k3) (vp_in_nI hk_3 (by decide)) dX3_changeLord_44 (fun H locs hP hD hS => ?_)
            have hP : va_P D vwCl (zPts cI q (uL S (upd (pChl S fr no le to ri bo k3) (nI k3).toNatClampNeg no))) H := hP
            have hD : va_D (zA (zPts cI q S)) (zPts cI q (uL S (upd (pChl S fr no le to ri bo k3) (nI k3).toNatClampNeg no))) := hD
            refine lv_iinc (v := (nI k3) + 1) (lv' := [(7, .int ((nI k3) + 1)), (0, .ref (q 1)), (1, .int (fr)), (2, .int (no)), (3, .int (le)), (4, .int (to)), (5, .int (ri)), (6, .int (bo))]) hx hb dX3_changeLord_45 hl (k := 0) rfl rfl (by decide) rfl (fun ls hl => ?_)
            refine lv_goto (tgt := 3) hx hb dX3_changeLord_48 (by decide) ?_
            have e3_7 : (nI (k3 + 1) : Int32) = (nI k3) + 1 := (nI_1 _).symm
            have eS3 : uL S (pChl S fr no le to ri bo (k3 + 1)) = uL S (upd (pChl S fr no le to ri bo k3) (nI k3).toNatClampNeg no) := by simp [pChl, uL_u, c_7, c_23, c_34]
            exact ih3 (k3 + 1) (by omega) (by omega) H locs (by rw [eS3]; exact hP) (by rw [eS3]; exact hD) hS _ (by (try rw [e3_7]); exact lv_sub hl [0, 1, 2, 3, 4, 5, 6, 7] rfl)
  have e3_7 : (nI 0 : Int32) = (0 : Int32) := rfl
  have eS3 : uL S (pChl S fr no le to ri bo 0) = S := by rfl
  exact L3 (40 + 1) (0) (Nat.zero_le _) (by omega) s.heap [] (by rw [eS3]; exact hP) (by rw [eS3]; exact hD) hS _ (by (try rw [e3_7]); exact lv_sub hl [0, 1, 2, 3, 4, 5, 6, 7] rfl)
set_option maxHeartbeats 1000000 in
set_option maxRecDepth 100000 in
theorem c_X3_crowdedCells (l : Launch) (D : va_G) (cI cQ : ClassId) (q : Nat → Nat) (S : CS) (sc cr : Int32) (N : Nat) (hN : N < 1000) (hsh : (1 : Int32) <<< (sc &&& 31) = nI N) : zRO l yX3_crowdedCells (Cond.code yX3_crowdedCells cX3_crowdedCells 9 (some .int) :: zT) 3 73 [.ref (q 1), .int sc, .int cr] D cI cQ (zPts cI q S) (pRow S (sideF sc) cr N N) := by
  refine zRO.of (cc := cX3_crowdedCells) (maxL := 9) (ret := some .int) (by decide +kernel) rfl (Nat.le_of_ble_eq_true rfl) ?_
  intro pg e s mi args below meth cd hx hb hr hts hown hlocks hml hP hK ls hl
  have hz : ∀ w ∈ zT, w.before args s = true := fun w h => hts w (List.mem_cons_of_mem _ h)
  have hl : lv_has ls 9 [(0, .ref (q 1)), (1, .int (sc)), (2, .int (cr))] := hl
  refine lv_iload_n hx hb dX3_crowdedCells_0 rfl (lv_at hl 1 rfl) ?_
  refine z_ro (va_runSN (As := [.int (sc)]) (rest := []) ⟨hx, hb, hml, hown, hz⟩ (c_X5_sideOf l D cI cQ sc) (zcnS 1 hz q1_188 q1_1 q1_189 (hK.2.2.2.2.2.2.2.2.2.2.2.1) hd_X5_sideOf (Nat.le_of_ble_eq_true rfl) (Nat.le_of_ble_eq_true rfl)) (z_ps hK z_nil) rfl rfl hl.1 rfl (lv_room (Nat.le_of_ble_eq_true rfl)) dX3_crowdedCells_1 ⟨(Nat.le_of_ble_eq_true rfl), (Nat.le_of_ble_eq_true rfl)⟩) ?_
  refine lv_istore_n (lv' := [(3, .int (sideF sc)), (0, .ref (q 1)), (1, .int (sc)), (2, .int (cr))]) hx hb dX3_crowdedCells_4 rfl hl (by decide) rfl (fun ls hl => ?_)
  refine lv_iconst (v := 0) hx hb dX3_crowdedCells_5 (by decide) ?_
  refine lv_istore (lv' := [(4, .int (0 : Int32)), (3, .int (sideF sc)), (0, .ref (q 1)), (1, .int (sc)), (2, .int (cr))]) hx hb dX3_crowdedCells_6 hl (by decide) rfl (fun ls hl => ?_)
  refine lv_iconst (v := 0) hx hb dX3_crowdedCells_8 (by decide) ?_
  refine lv_istore (lv' := [(5, .int (0 : Int32)), (4, .int (0 : Int32)), (3, .int (sideF sc)), (0, .ref (q 1)), (1, .int (sc)), (2, .int (cr))]) hx hb dX3_crowdedCells_9 hl (by decide) rfl (fun ls hl => ?_)
  have L11 : ∀ (n11 k11 : Nat), k11 ≤ N → N < k11 + n11 → ∀ (ls : Array Slot), lv_has ls 9 [(5, .int (nI k11)), (4, .int (pRow S (sideF sc) cr N k11)), (3, .int (sideF sc)), (0, .ref (q 1)), (1, .int (sc)), (2, .int (cr))] → W pg l e ({ frames := 3, cells := 0, slots := 0, locals := 73 }) s mi args below meth cd s.heap [] 0 0 (MQ below (vp_Si (fun r => r = pRow S (sideF sc) cr N N)) args s 0 0 (fun _ => False)) (F0 mi 11 ls []) := by
    intro n11
    induction n11 with
    | zero => intro k11 h1 h2; exact absurd h2 (by omega)
    | succ n11 ih11 =>
      intro k11 h1_11 h2_11  ls hl
      refine lv_iload hx hb dX3_crowdedCells_11 (lv_at hl 0 rfl) ?_
      refine lv_iconst (v := 1) hx hb dX3_crowdedCells_13 (by decide) ?_
      refine lv_iload_n hx hb dX3_crowdedCells_14 rfl (lv_at hl 4 rfl) ?_
      refine lv_ishl hx hb dX3_crowdedCells_15 ?_
      refine lv_icmp_ge (tgt := 81) hx hb dX3_crowdedCells_16 (by decide) (fun c_16 => ?_) (fun c_16 => ?_)
      · have c_16 : ((1 : Int32) <<< (sc &&& 31) : Int32) ≤ nI k11 := c_16
        rw [hsh] at c_16
        have hk_11 : k11 = N := z_exit (by omega) h1_11 c_16
        refine lv_iload hx hb dX3_crowdedCells_81 (lv_at hl 1 rfl) ?_
        exact z_iret hx hb hr rfl hlocks (by rw [hk_11]) dX3_crowdedCells_83
      · have c_16 : ¬ (((1 : Int32) <<< (sc &&& 31) : Int32) ≤ nI k11) := c_16
        rw [hsh] at c_16
        have hk_11 : k11 < N := z_cont (by omega) h1_11 c_16
        refine lv_iconst (v := 0) hx hb dX3_crowdedCells_19 (by decide) ?_
        refine lv_istore (lv' := [(6, .int (0 : Int32)), (5, .int (nI k11)), (4, .int (pRow S (sideF sc) cr N k11)), (3, .int (sideF sc)), (0, .ref (q 1)), (1, .int (sc)), (2, .int (cr))]) hx hb dX3_crowdedCells_20 hl (by decide) rfl (fun ls hl => ?_)
        have L22 : ∀ (n22 k22 : Nat), k22 ≤ N → N < k22 + n22 → ∀ (ls : Array Slot), lv_has ls 9 [(6, .int (nI k22)), (4, .int (pCol S (sideF sc) cr (nI k11) (pRow S (sideF sc) cr N k11) k22)), (5, .int (nI k11)), (3, .int (sideF sc)), (0, .ref (q 1)), (1, .int (sc)), (2, .int (cr))] → W pg l e ({ frames := 3, cells := 0, slots := 0, locals := 73 }) s mi args below meth cd s.heap [] 0 0 (MQ below (vp_Si (fun r => r = pRow S (sideF sc) cr N N)) args s 0 0 (fun _ => False)) (F0 mi 22 ls []) := by
          intro n22
          induction n22 with
          | zero => intro k22 h1 h2; exact absurd h2 (by omega)
          | succ n22 ih22 =>
            intro k22 h1_22 h2_22  ls hl
            refine lv_iload hx hb dX3_crowdedCells_22 (lv_at hl 0 rfl) ?_
            refine lv_iconst (v := 1) hx hb dX3_crowdedCells_24 (by decide) ?_
            refine lv_iload_n hx hb dX3_crowdedCells_25 rfl (lv_at hl 5 rfl) ?_
            refine lv_ishl hx hb dX3_crowdedCells_26 ?_
            refine lv_icmp_ge (tgt := 75) hx hb dX3_crowdedCells_27 (by decide) (fun c_27 => ?_) (fun c_27 => ?_)
            · have c_27 : ((1 : Int32) <<< (sc &&& 31) : Int32) ≤ nI k22 := c_27
              rw [hsh] at c_27
              have hk_22 : k22 = N := z_exit (by omega) h1_22 c_27
              refine lv_iinc (v := (nI k11) + 1) (lv' := [(5, .int ((nI k11) + 1)), (6, .int (nI k22)), (4, .int (pCol S (sideF sc) cr (nI k11) (pRow S (sideF sc) cr N k11) k22)), (3, .int (sideF sc)), (0, .ref (q 1)), (1, .int (sc)), (2, .int (cr))]) hx hb dX3_crowdedCells_75 hl (k := 2) rfl rfl (by decide) rfl (fun ls hl => ?_)
              refine lv_goto (tgt := 11) hx hb dX3_crowdedCells_78 (by decide) ?_
              have e11_5 : (nI (k11 + 1) : Int32) = (nI k11) + 1 := (nI_1 _).symm
              have e11_4 : (pRow S (sideF sc) cr N (k11 + 1) : Int32) = pCol S (sideF sc) cr (nI k11) (pRow S (sideF sc) cr N k11) k22 := (by simp [pRow, hk_22])
              exact ih11 (k11 + 1) (by omega) (by omega) _ (by (try rw [e11_5]); (try rw [e11_4]); exact lv_sub hl [0, 2, 3, 4, 5, 6] rfl)
            · have c_27 : ¬ (((1 : Int32) <<< (sc &&& 31) : Int32) ≤ nI k22) := c_27
              rw [hsh] at c_27
              have hk_22 : k22 < N := z_cont (by omega) h1_22 c_27
              refine lv_iload hx hb dX3_crowdedCells_30 (lv_at hl 0 rfl) ?_
              refine lv_iload_n hx hb dX3_crowdedCells_32 rfl (lv_at hl 3 rfl) ?_
              refine lv_imul hx hb dX3_crowdedCells_33 ?_
              refine lv_istore (lv' := [(7, .int ((nI k22) * (sideF sc))), (6, .int (nI k22)), (4, .int (pCol S (sideF sc) cr (nI k11) (pRow S (sideF sc) cr N k11) k22)), (5, .int (nI k11)), (3, .int (sideF sc)), (0, .ref (q 1)), (1, .int (sc)), (2, .int (cr))]) hx hb dX3_crowdedCells_34 hl (by decide) rfl (fun ls hl => ?_)
              refine lv_iload hx hb dX3_crowdedCells_36 (lv_at hl 3 rfl) ?_
              refine lv_iload_n hx hb dX3_crowdedCells_38 rfl (lv_at hl 4 rfl) ?_
              refine lv_imul hx hb dX3_crowdedCells_39 ?_
              refine lv_istore (lv' := [(8, .int ((nI k11) * (sideF sc))), (7, .int ((nI k22) * (sideF sc))), (6, .int (nI k22)), (4, .int (pCol S (sideF sc) cr (nI k11) (pRow S (sideF sc) cr N k11) k22)), (5, .int (nI k11)), (3, .int (sideF sc)), (0, .ref (q 1)), (1, .int (sc)), (2, .int (cr))]) hx hb dX3_crowdedCells_40 hl (by decide) rfl (fun ls hl => ?_)
              refine lv_aload_n hx hb dX3_crowdedCells_42 rfl (lv_at hl 6 rfl) ?_
              refine lv_iload hx hb dX3_crowdedCells_43 (lv_at hl 1 rfl) ?_
              refine lv_iload hx hb dX3_crowdedCells_45 (lv_at hl 0 rfl) ?_
              refine lv_iload hx hb dX3_crowdedCells_47 (lv_at hl 1 rfl) ?_
              refine lv_iload_n hx hb dX3_crowdedCells_49 rfl (lv_at hl 5 rfl) ?_
              refine lv_iadd hx hb dX3_crowdedCells_50 ?_
              refine lv_iconst (v := 1) hx hb dX3_crowdedCells_51 (by decide) ?_
              refine lv_isub hx hb dX3_crowdedCells_52 ?_
              refine lv_iload hx hb dX3_crowdedCells_53 (lv_at hl 0 rfl) ?_
              refine lv_iload_n hx hb dX3_crowdedCells_55 rfl (lv_at hl 5 rfl) ?_
              refine lv_iadd hx hb dX3_crowdedCells_56 ?_
              refine lv_iconst (v := 1) hx hb dX3_crowdedCells_57 (by decide) ?_
              refine lv_isub hx hb dX3_crowdedCells_58 ?_
              refine z_ro (va_runV (As := [.int ((nI k22) * (sideF sc)), .int ((nI k11) * (sideF sc)), .int ((((nI k22) * (sideF sc)) + (sideF sc)) - (1 : Int32)), .int ((((nI k11) * (sideF sc)) + (sideF sc)) - (1 : Int32))]) (rest := []) ⟨hx, hb, hml, hown, hz⟩ (c_X3_numberIn l D cI cQ q S ((nI k22) * (sideF sc)) ((nI k11) * (sideF sc)) ((((nI k22) * (sideF sc)) + (sideF sc)) - (1 : Int32)) ((((nI k11) * (sideF sc)) + (sideF sc)) - (1 : Int32))) (zcwV 4 hz q2_56 q1_236 q1_237 q1_3 q1_238 hd_X3_numberIn (Nat.le_of_ble_eq_true rfl) (Nat.le_of_ble_eq_true rfl)) (z_pv (ci := 3) (q := (RX3, TX3, 5)) hK hP rfl rfl) rfl rfl hl.1 rfl (lv_room (Nat.le_of_ble_eq_true rfl)) dX3_crowdedCells_59 ⟨(Nat.le_of_ble_eq_true rfl), (Nat.le_of_ble_eq_true rfl)⟩) ?_
              refine lv_iload_n hx hb dX3_crowdedCells_62 rfl (lv_at hl 8 rfl) ?_
              refine lv_icmp_le (tgt := 69) hx hb dX3_crowdedCells_63 (by decide) (fun c_63 => ?_) (fun c_63 => ?_)
              · have c_63 : (pNum S ((nI k22) * (sideF sc)) ((nI k11) * (sideF sc)) ((((nI k22) * (sideF sc)) + (sideF sc)) - (1 : Int32)) ((((nI k11) * (sideF sc)) + (sideF sc)) - (1 : Int32)) 40 : Int32) ≤ cr := c_63
                refine lv_iinc (v := (nI k22) + 1) (lv' := [(6, .int ((nI k22) + 1)), (8, .int ((nI k11) * (sideF sc))), (7, .int ((nI k22) * (sideF sc))), (4, .int (pCol S (sideF sc) cr (nI k11) (pRow S (sideF sc) cr N k11) k22)), (5, .int (nI k11)), (3, .int (sideF sc)), (0, .ref (q 1)), (1, .int (sc)), (2, .int (cr))]) hx hb dX3_crowdedCells_69 hl (k := 2) rfl rfl (by decide) rfl (fun ls hl => ?_)
                refine lv_goto (tgt := 22) hx hb dX3_crowdedCells_72 (by decide) ?_
                have e22_6 : (nI (k22 + 1) : Int32) = (nI k22) + 1 := (nI_1 _).symm
                have e22_4 : (pCol S (sideF sc) cr (nI k11) (pRow S (sideF sc) cr N k11) (k22 + 1) : Int32) = pCol S (sideF sc) cr (nI k11) (pRow S (sideF sc) cr N k11) k22 := (by simp [pCol, c_63])
                exact ih22 (k22 + 1) (by omega) (by omega) _ (by (try rw [e22_6]); (try rw [e22_4]); exact lv_sub hl [0, 3, 4, 5, 6, 7, 8] rfl)
              · have c_63 : ¬ ((pNum S ((nI k22) * (sideF sc)) ((nI k11) * (sideF sc)) ((((nI k22) * (sideF sc)) + (sideF sc)) - (1 : Int32)) ((((nI k11) * (sideF sc)) + (sideF sc)) - (1 : Int32)) 40 : Int32) ≤ cr) := c_63
                refine lv_iinc (v := (pCol S (sideF sc) cr (nI k11) (pRow S (sideF sc) cr N k11) k22) + 1) (lv' := [(4, .int ((pCol S (sideF sc) cr (nI k11) (pRow S (sideF sc) cr N k11) k22) + 1)), (8, .int ((nI k11) * (sideF sc))), (7, .int ((nI k22) * (sideF sc))), (6, .int (nI k22)), (5, .int (nI k11)), (3, .int (sideF sc)), (0, .ref (q 1)), (1, .int (sc)), (2, .int (cr))]) hx hb dX3_crowdedCells_66 hl (k := 3) rfl rfl (by decide) rfl (fun ls hl => ?_)
                refine lv_iinc (v := (nI k22) + 1) (lv' := [(6, .int ((nI k22) + 1)), (4, .int ((pCol S (sideF sc) cr (nI k11) (pRow S (sideF sc) cr N k11) k22) + 1)), (8, .int ((nI k11) * (sideF sc))), (7, .int ((nI k22) * (sideF sc))), (5, .int (nI k11)), (3, .int (sideF sc)), (0, .ref (q 1)), (1, .int (sc)), (2, .int (cr))]) hx hb dX3_crowdedCells_69 hl (k := 3) rfl rfl (by decide) rfl (fun ls hl => ?_)
                refine lv_goto (tgt := 22) hx hb dX3_crowdedCells_72 (by decide) ?_
                have e22_6 : (nI (k22 + 1) : Int32) = (nI k22) + 1 := (nI_1 _).symm
                have e22_4 : (pCol S (sideF sc) cr (nI k11) (pRow S (sideF sc) cr N k11) (k22 + 1) : Int32) = (pCol S (sideF sc) cr (nI k11) (pRow S (sideF sc) cr N k11) k22) + 1 := (by simp [pCol, c_63])
                exact ih22 (k22 + 1) (by omega) (by omega) _ (by (try rw [e22_6]); (try rw [e22_4]); exact lv_sub hl [0, 1, 4, 5, 6, 7, 8] rfl)
        have e22_6 : (nI 0 : Int32) = (0 : Int32) := rfl
        have e22_4 : (pCol S (sideF sc) cr (nI k11) (pRow S (sideF sc) cr N k11) 0 : Int32) = pRow S (sideF sc) cr N k11 := (by rfl)
        exact L22 (N + 1) (0) (Nat.zero_le _) (by omega) _ (by (try rw [e22_6]); (try rw [e22_4]); exact lv_sub hl [0, 2, 1, 3, 4, 5, 6] rfl)
  have e11_5 : (nI 0 : Int32) = (0 : Int32) := rfl
  have e11_4 : (pRow S (sideF sc) cr N 0 : Int32) = (0 : Int32) := (by rfl)
  exact L11 (N + 1) (0) (Nat.zero_le _) (by omega) _ (by (try rw [e11_5]); (try rw [e11_4]); exact lv_sub hl [0, 1, 2, 3, 4, 5] rfl)
set_option maxHeartbeats 1000000 in
set_option maxRecDepth 100000 in
theorem c_X3_cellsIfDivided (l : Launch) (D : va_G) (cI cQ : ClassId) (q : Nat → Nat) (S : CS) (cr : Int32) : zRO l yX3_cellsIfDivided (Cond.code yX3_cellsIfDivided cX3_cellsIfDivided 4 (some .int) :: zT) 4 101 [.ref (q 1), .int cr] D cI cQ (zPts cI q S) (pDiv S cr 4) := by
  refine zRO.of (cc := cX3_cellsIfDivided) (maxL := 4) (ret := some .int) (by decide +kernel) rfl (Nat.le_of_ble_eq_true rfl) ?_
  intro pg e s mi args below meth cd hx hb hr hts hown hlocks hml hP hK ls hl
  have hz : ∀ w ∈ zT, w.before args s = true := fun w h => hts w (List.mem_cons_of_mem _ h)
  have hl : lv_has ls 4 [(0, .ref (q 1)), (1, .int (cr))] := hl
  refine lv_iconst (v := 1) hx hb dX3_cellsIfDivided_0 (by decide) ?_
  refine lv_istore_n (lv' := [(2, .int (1 : Int32)), (0, .ref (q 1)), (1, .int (cr))]) hx hb dX3_cellsIfDivided_1 rfl hl (by decide) rfl (fun ls hl => ?_)
  refine lv_iconst (v := 0) hx hb dX3_cellsIfDivided_2 (by decide) ?_
  refine lv_istore_n (lv' := [(3, .int (0 : Int32)), (2, .int (1 : Int32)), (0, .ref (q 1)), (1, .int (cr))]) hx hb dX3_cellsIfDivided_3 rfl hl (by decide) rfl (fun ls hl => ?_)
  have L4 : ∀ (n4 k4 : Nat), k4 ≤ 4 → 4 < k4 + n4 → ∀ (ls : Array Slot), lv_has ls 4 [(3, .int (nI k4)), (2, .int (pDiv S cr k4)), (0, .ref (q 1)), (1, .int (cr))] → W pg l e ({ frames := 4, cells := 0, slots := 0, locals := 101 }) s mi args below meth cd s.heap [] 0 0 (MQ below (vp_Si (fun r => r = pDiv S cr 4)) args s 0 0 (fun _ => False)) (F0 mi 4 ls []) := by
    intro n4
    induction n4 with
    | zero => intro k4 h1 h2; exact absurd h2 (by omega)
    | succ n4 ih4 =>
      intro k4 h1_4 h2_4  ls hl
      refine lv_iload_n hx hb dX3_cellsIfDivided_4 rfl (lv_at hl 0 rfl) ?_
      refine lv_iconst (v := 4) hx hb dX3_cellsIfDivided_5 (by decide) ?_
      refine lv_icmp_ge (tgt := 26) hx hb dX3_cellsIfDivided_6 (by decide) (fun c_6 => ?_) (fun c_6 => ?_)
      · have c_6 : ((4 : Int32) : Int32) ≤ nI k4 := c_6
        have hk_4 : k4 = 4 := z_exit (by decide) h1_4 c_6
        refine lv_iload_n hx hb dX3_cellsIfDivided_26 rfl (lv_at hl 1 rfl) ?_
        exact z_iret hx hb hr rfl hlocks (by rw [hk_4]) dX3_cellsIfDivided_27
      · have c_6 : ¬ (((4 : Int32) : Int32) ≤ nI k4) := c_6
        have hk_4 : k4 < 4 := z_cont (by decide) h1_4 c_6
        refine lv_iload_n hx hb dX3_cellsIfDivided_9 rfl (lv_at hl 1 rfl) ?_
        refine lv_iconst (v := 3) hx hb dX3_cellsIfDivided_10 (by decide) ?_
        refine lv_aload_n hx hb dX3_cellsIfDivided_11 rfl (lv_at hl 2 rfl) ?_
        refine lv_iload_n hx hb dX3_cellsIfDivided_12 rfl (lv_at hl 0 rfl) ?_
        refine lv_iload_n hx hb dX3_cellsIfDivided_13 rfl (lv_at hl 3 rfl) ?_
        refine z_ro (va_runV (As := [.int (nI k4), .int (cr)]) (rest := [.int (3 : Int32), .int (pDiv S cr k4)]) ⟨hx, hb, hml, hown, hz⟩ (c_X3_crowdedCells l D cI cQ q S (nI k4) cr (2 ^ k4) ((z_sh4 k4 hk_4).1) ((z_sh4 k4 hk_4).2)) (zcwV 2 hz q3_73 q3_75 qs_11 q1_3 q3_76 hd_X3_crowdedCells (Nat.le_of_ble_eq_true rfl) (Nat.le_of_ble_eq_true rfl)) (z_pv (ci := 3) (q := (RX3, TX3, 5)) hK hP rfl rfl) rfl rfl hl.1 rfl (lv_room (Nat.le_of_ble_eq_true rfl)) dX3_cellsIfDivided_14 ⟨(Nat.le_of_ble_eq_true rfl), (Nat.le_of_ble_eq_true rfl)⟩) ?_
        refine lv_imul hx hb dX3_cellsIfDivided_17 ?_
        refine lv_iadd hx hb dX3_cellsIfDivided_18 ?_
        refine lv_istore_n (lv' := [(2, .int ((pDiv S cr k4) + ((3 : Int32) * (pRow S (sideF (nI k4)) cr (2 ^ k4) (2 ^ k4))))), (3, .int (nI k4)), (0, .ref (q 1)), (1, .int (cr))]) hx hb dX3_cellsIfDivided_19 rfl hl (by decide) rfl (fun ls hl => ?_)
        refine lv_iinc (v := (nI k4) + 1) (lv' := [(3, .int ((nI k4) + 1)), (2, .int ((pDiv S cr k4) + ((3 : Int32) * (pRow S (sideF (nI k4)) cr (2 ^ k4) (2 ^ k4))))), (0, .ref (q 1)), (1, .int (cr))]) hx hb dX3_cellsIfDivided_20 hl (k := 1) rfl rfl (by decide) rfl (fun ls hl => ?_)
        refine lv_goto (tgt := 4) hx hb dX3_cellsIfDivided_23 (by decide) ?_
        have e4_3 : (nI (k4 + 1) : Int32) = (nI k4) + 1 := (nI_1 _).symm
        have e4_2 : (pDiv S cr (k4 + 1) : Int32) = (pDiv S cr k4) + ((3 : Int32) * (pRow S (sideF (nI k4)) cr (2 ^ k4) (2 ^ k4))) := (by simp [pDiv, c_6])
        exact ih4 (k4 + 1) (by omega) (by omega) _ (by (try rw [e4_3]); (try rw [e4_2]); exact lv_sub hl [0, 1, 2, 3] rfl)
  have e4_3 : (nI 0 : Int32) = (0 : Int32) := rfl
  have e4_2 : (pDiv S cr 0 : Int32) = (1 : Int32) := (by rfl)
  exact L4 (4 + 1) (0) (Nat.zero_le _) (by omega) _ (by (try rw [e4_3]); (try rw [e4_2]); exact lv_sub hl [0, 1, 2, 3] rfl)
