def hEm (Z : HZ) : Bool := decide (hN Z = 0)
theorem hd_X3_copyFrom : yX3_copyFrom.cls ≠ "java/lang/invoke/MethodHandle" ∧ yX3_copyFrom.cls ≠ "java/lang/invoke/VarHandle" ∧ (parseMethodDescriptor yX3_copyFrom.desc).map (fun d => d.parameters.length) = some 1 := by decide +kernel
theorem hd_X2_copyFrom : yX2_copyFrom.cls ≠ "java/lang/invoke/MethodHandle" ∧ yX2_copyFrom.cls ≠ "java/lang/invoke/VarHandle" ∧ (parseMethodDescriptor yX2_copyFrom.desc).map (fun d => d.parameters.length) = some 1 := by decide +kernel
theorem hd_X0_copyFrom : yX0_copyFrom.cls ≠ "java/lang/invoke/MethodHandle" ∧ yX0_copyFrom.cls ≠ "java/lang/invoke/VarHandle" ∧ (parseMethodDescriptor yX0_copyFrom.desc).map (fun d => d.parameters.length) = some 1 := by decide +kernel
theorem hd_X4_copyFrom : yX4_copyFrom.cls ≠ "java/lang/invoke/MethodHandle" ∧ yX4_copyFrom.cls ≠ "java/lang/invoke/VarHandle" ∧ (parseMethodDescriptor yX4_copyFrom.desc).map (fun d => d.parameters.length) = some 1 := by decide +kernel
theorem hd_X1_isEmpty : yX1_isEmpty.cls ≠ "java/lang/invoke/MethodHandle" ∧ yX1_isEmpty.cls ≠ "java/lang/invoke/VarHandle" ∧ (parseMethodDescriptor yX1_isEmpty.desc).map (fun d => d.parameters.length) = some 0 := by decide +kernel
theorem hd_X1_number : yX1_number.cls ≠ "java/lang/invoke/MethodHandle" ∧ yX1_number.cls ≠ "java/lang/invoke/VarHandle" ∧ (parseMethodDescriptor yX1_number.desc).map (fun d => d.parameters.length) = some 0 := by decide +kernel
theorem hd_X1_keep : yX1_keep.cls ≠ "java/lang/invoke/MethodHandle" ∧ yX1_keep.cls ≠ "java/lang/invoke/VarHandle" ∧ (parseMethodDescriptor yX1_keep.desc).map (fun d => d.parameters.length) = some 1 := by decide +kernel
theorem hd_X1_restoreInto : yX1_restoreInto.cls ≠ "java/lang/invoke/MethodHandle" ∧ yX1_restoreInto.cls ≠ "java/lang/invoke/VarHandle" ∧ (parseMethodDescriptor yX1_restoreInto.desc).map (fun d => d.parameters.length) = some 1 := by decide +kernel
set_option maxHeartbeats 1000000 in
set_option maxRecDepth 100000 in
theorem c_X3_copyFrom (l : Launch) (D : va_G) (cI cQ : ClassId) (q : Nat → Nat) (r : Nat → Nat) (S : CS) (T : CS) (g1 : Int32) (hg1 : g1 = sAd T) (g2 : FI) (hg2 : g2 = sX T) (g3 : FI) (hg3 : g3 = sY T) (g4 : FI) (hg4 : g4 = sW T) (g5 : FI) (hg5 : g5 = sL T) : zWR l yX3_copyFrom (Cond.code yX3_copyFrom cX3_copyFrom 2 (none) :: zT) 1 60 [.ref (q 1), .ref (r 1)] D cI cQ (zB [zPts cI q S, zPts cI r T]) none (zB [zPts cI q (uL (uW (uY (uX (uAd S g1) g2) g3) g4) g5), zPts cI r T]) := by
  refine zWR.of (cc := cX3_copyFrom) (maxL := 2) (ret := none) (by decide +kernel) rfl (Nat.le_of_ble_eq_true rfl) ?_
  intro pg e s mi args below meth cd hx hb hr hts hown hlocks hml hP hD hS hK ls hl
  have hz : ∀ w ∈ zT, w.before args s = true := fun w h => hts w (List.mem_cons_of_mem _ h)
  have hl : lv_has ls 2 [(0, .ref (q 1)), (1, .ref (r 1))] := hl
  refine lv_aload_n hx hb dX3_copyFrom_0 rfl (lv_at hl 0 rfl) ?_
  refine lv_aload_n hx hb dX3_copyFrom_1 rfl (lv_at hl 1 rfl) ?_
  refine va_get (D := D) (ci := 3) (v := .int (sAd T)) (C := RX3) (T := TX3) (N := 5) hx hb hz inZ3 hown hK.1 hP 5 rfl rfl 0 (by decide) (hz _ q1_30) (fun _ h9 => h9) rfl dX3_copyFrom_2 ?_
  refine va_put (D := D) (ci := 3) (v := .int (sAd T)) (ty := .int) (C := RX3) (T := TX3) (N := 5) hx hb hz inZ3 tyX3 tyX3_ok nmX3 hown hK.1 hP hD hS 0 rfl rfl 0 (by decide) (hz _ q1_30) (fun _ h9 => h9) rfl (by decide +kernel) rfl rfl (Nat.le_of_ble_eq_true rfl) dX3_copyFrom_5 (fun H locs hP hD hS => ?_)
  have hP : va_P D vwCl (zB [zPts cI q (uAd S (sAd T)), zPts cI r T]) H := hP
  have hD : va_D (zA (zB [zPts cI q S, zPts cI r T])) (zB [zPts cI q (uAd S (sAd T)), zPts cI r T]) := hD
  refine lv_aload_n hx hb dX3_copyFrom_8 rfl (lv_at hl 1 rfl) ?_
  refine va_get (D := D) (ci := 3) (v := .ref (r 2)) (C := RX3) (T := TX3) (N := 5) hx hb hz inZ3 hown hK.1 hP 5 rfl rfl 1 (by decide) (hz _ q1_31) (fun _ h9 => h9) rfl dX3_copyFrom_9 ?_
  refine lv_iconst (v := 0) hx hb dX3_copyFrom_12 (by decide) ?_
  refine lv_aload_n hx hb dX3_copyFrom_13 rfl (lv_at hl 0 rfl) ?_
  refine va_get (D := D) (ci := 3) (v := .ref (q 2)) (C := RX3) (T := TX3) (N := 5) hx hb hz inZ3 hown hK.1 hP 0 rfl rfl 1 (by decide) (hz _ q1_31) (fun _ h9 => h9) rfl dX3_copyFrom_14 ?_
  refine lv_iconst (v := 0) hx hb dX3_copyFrom_17 (by decide) ?_
  refine lv_bipush (v := 40) hx hb dX3_copyFrom_18 (by decide) ?_
  refine z_cpy (n := 40) hx hb (by rw [hml]; exact hl.1.symm) hown (hz _ q1_155) (hz _ q1_157) (hz _ q1_156) (hz _ q1_8) hK.1 hP hD hS 6 1 0 rfl rfl rfl (by decide) rfl (by decide) (Nat.le_of_ble_eq_true rfl) (Nat.le_of_ble_eq_true rfl) dX3_copyFrom_20 (fun H locs hP hD hS => ?_)
  have hP : va_P D vwCl (zB [zPts cI q (uX (uAd S (sAd T)) (sX T)), zPts cI r T]) H := hP
  have hD : va_D (zA (zB [zPts cI q S, zPts cI r T])) (zB [zPts cI q (uX (uAd S (sAd T)) (sX T)), zPts cI r T]) := hD
  refine lv_aload_n hx hb dX3_copyFrom_23 rfl (lv_at hl 1 rfl) ?_
  refine va_get (D := D) (ci := 3) (v := .ref (r 3)) (C := RX3) (T := TX3) (N := 5) hx hb hz inZ3 hown hK.1 hP 5 rfl rfl 2 (by decide) (hz _ q1_32) (fun _ h9 => h9) rfl dX3_copyFrom_24 ?_
  refine lv_iconst (v := 0) hx hb dX3_copyFrom_27 (by decide) ?_
  refine lv_aload_n hx hb dX3_copyFrom_28 rfl (lv_at hl 0 rfl) ?_
  refine va_get (D := D) (ci := 3) (v := .ref (q 3)) (C := RX3) (T := TX3) (N := 5) hx hb hz inZ3 hown hK.1 hP 0 rfl rfl 2 (by decide) (hz _ q1_32) (fun _ h9 => h9) rfl dX3_copyFrom_29 ?_
  refine lv_iconst (v := 0) hx hb dX3_copyFrom_32 (by decide) ?_
  refine lv_bipush (v := 40) hx hb dX3_copyFrom_33 (by decide) ?_
  refine z_cpy (n := 40) hx hb (by rw [hml]; exact hl.1.symm) hown (hz _ q1_155) (hz _ q1_157) (hz _ q1_156) (hz _ q1_8) hK.1 hP hD hS 7 2 0 rfl rfl rfl (by decide) rfl (by decide) (Nat.le_of_ble_eq_true rfl) (Nat.le_of_ble_eq_true rfl) dX3_copyFrom_35 (fun H locs hP hD hS => ?_)
  have hP : va_P D vwCl (zB [zPts cI q (uY (uX (uAd S (sAd T)) (sX T)) (sY T)), zPts cI r T]) H := hP
  have hD : va_D (zA (zB [zPts cI q S, zPts cI r T])) (zB [zPts cI q (uY (uX (uAd S (sAd T)) (sX T)) (sY T)), zPts cI r T]) := hD
  refine lv_aload_n hx hb dX3_copyFrom_38 rfl (lv_at hl 1 rfl) ?_
  refine va_get (D := D) (ci := 3) (v := .ref (r 4)) (C := RX3) (T := TX3) (N := 5) hx hb hz inZ3 hown hK.1 hP 5 rfl rfl 3 (by decide) (hz _ q1_33) (fun _ h9 => h9) rfl dX3_copyFrom_39 ?_
  refine lv_iconst (v := 0) hx hb dX3_copyFrom_42 (by decide) ?_
  refine lv_aload_n hx hb dX3_copyFrom_43 rfl (lv_at hl 0 rfl) ?_
  refine va_get (D := D) (ci := 3) (v := .ref (q 4)) (C := RX3) (T := TX3) (N := 5) hx hb hz inZ3 hown hK.1 hP 0 rfl rfl 3 (by decide) (hz _ q1_33) (fun _ h9 => h9) rfl dX3_copyFrom_44 ?_
  refine lv_iconst (v := 0) hx hb dX3_copyFrom_47 (by decide) ?_
  refine lv_bipush (v := 40) hx hb dX3_copyFrom_48 (by decide) ?_
  refine z_cpy (n := 40) hx hb (by rw [hml]; exact hl.1.symm) hown (hz _ q1_155) (hz _ q1_157) (hz _ q1_156) (hz _ q1_8) hK.1 hP hD hS 8 3 0 rfl rfl rfl (by decide) rfl (by decide) (Nat.le_of_ble_eq_true rfl) (Nat.le_of_ble_eq_true rfl) dX3_copyFrom_50 (fun H locs hP hD hS => ?_)
  have hP : va_P D vwCl (zB [zPts cI q (uW (uY (uX (uAd S (sAd T)) (sX T)) (sY T)) (sW T)), zPts cI r T]) H := hP
  have hD : va_D (zA (zB [zPts cI q S, zPts cI r T])) (zB [zPts cI q (uW (uY (uX (uAd S (sAd T)) (sX T)) (sY T)) (sW T)), zPts cI r T]) := hD
  refine lv_aload_n hx hb dX3_copyFrom_53 rfl (lv_at hl 1 rfl) ?_
  refine va_get (D := D) (ci := 3) (v := .ref (r 5)) (C := RX3) (T := TX3) (N := 5) hx hb hz inZ3 hown hK.1 hP 5 rfl rfl 4 (by decide) (hz _ q1_34) (fun _ h9 => h9) rfl dX3_copyFrom_54 ?_
  refine lv_iconst (v := 0) hx hb dX3_copyFrom_57 (by decide) ?_
  refine lv_aload_n hx hb dX3_copyFrom_58 rfl (lv_at hl 0 rfl) ?_
  refine va_get (D := D) (ci := 3) (v := .ref (q 5)) (C := RX3) (T := TX3) (N := 5) hx hb hz inZ3 hown hK.1 hP 0 rfl rfl 4 (by decide) (hz _ q1_34) (fun _ h9 => h9) rfl dX3_copyFrom_59 ?_
  refine lv_iconst (v := 0) hx hb dX3_copyFrom_62 (by decide) ?_
  refine lv_bipush (v := 40) hx hb dX3_copyFrom_63 (by decide) ?_
  refine z_cpy (n := 40) hx hb (by rw [hml]; exact hl.1.symm) hown (hz _ q1_155) (hz _ q1_157) (hz _ q1_156) (hz _ q1_8) hK.1 hP hD hS 9 4 0 rfl rfl rfl (by decide) rfl (by decide) (Nat.le_of_ble_eq_true rfl) (Nat.le_of_ble_eq_true rfl) dX3_copyFrom_65 (fun H locs hP hD hS => ?_)
  have hP : va_P D vwCl (zB [zPts cI q (uL (uW (uY (uX (uAd S (sAd T)) (sX T)) (sY T)) (sW T)) (sL T)), zPts cI r T]) H := hP
  have hD : va_D (zA (zB [zPts cI q S, zPts cI r T])) (zB [zPts cI q (uL (uW (uY (uX (uAd S (sAd T)) (sX T)) (sY T)) (sW T)) (sL T)), zPts cI r T]) := hD
  exact z_wvret hx hb hr hlocks hP hS (congrArg (fun X => zB X) (z_cons (congrArg (fun T => zPts cI q T) (show uL (uW (uY (uX (uAd S (sAd T)) (sX T)) (sY T)) (sW T)) (sL T) = uL (uW (uY (uX (uAd S g1) g2) g3) g4) g5 from by (try simp only [hg1, hg2, hg3, hg4, hg5]) <;> (rfl))) (z_cons rfl rfl))) dX3_copyFrom_68
set_option maxHeartbeats 1000000 in
set_option maxRecDepth 100000 in
theorem c_X2_copyFrom (l : Launch) (D : va_G) (cI cQ : ClassId) (q : Nat → Nat) (r : Nat → Nat) (S : CS) (T : CS) (g1 : Int32) (hg1 : g1 = sFo T) (g2 : FI) (hg2 : g2 = sLe T) (g3 : FI) (hg3 : g3 = sTo T) (g4 : FI) (hg4 : g4 = sSc T) : zWR l yX2_copyFrom (Cond.code yX2_copyFrom cX2_copyFrom 2 (none) :: zT) 1 60 [.ref (q 6), .ref (r 6)] D cI cQ (zB [zPar cI q S, zPar cI r T]) none (zB [zPar cI q (uSc (uTo (uLe (uFo S g1) g2) g3) g4), zPar cI r T]) := by
  refine zWR.of (cc := cX2_copyFrom) (maxL := 2) (ret := none) (by decide +kernel) rfl (Nat.le_of_ble_eq_true rfl) ?_
  intro pg e s mi args below meth cd hx hb hr hts hown hlocks hml hP hD hS hK ls hl
  have hz : ∀ w ∈ zT, w.before args s = true := fun w h => hts w (List.mem_cons_of_mem _ h)
  have hl : lv_has ls 2 [(0, .ref (q 6)), (1, .ref (r 6))] := hl
  refine lv_aload_n hx hb dX2_copyFrom_0 rfl (lv_at hl 0 rfl) ?_
  refine lv_aload_n hx hb dX2_copyFrom_1 rfl (lv_at hl 1 rfl) ?_
  refine va_get (D := D) (ci := 2) (v := .int (sFo T)) (C := RX2) (T := TX2) (N := 4) hx hb hz inZ2 hown hK.1 hP 4 rfl rfl 0 (by decide) (hz _ q1_64) (fun _ h9 => h9) rfl dX2_copyFrom_2 ?_
  refine va_put (D := D) (ci := 2) (v := .int (sFo T)) (ty := .int) (C := RX2) (T := TX2) (N := 4) hx hb hz inZ2 tyX2 tyX2_ok nmX2 hown hK.1 hP hD hS 0 rfl rfl 0 (by decide) (hz _ q1_64) (fun _ h9 => h9) rfl (by decide +kernel) rfl rfl (Nat.le_of_ble_eq_true rfl) dX2_copyFrom_5 (fun H locs hP hD hS => ?_)
  have hP : va_P D vwCl (zB [zPar cI q (uFo S (sFo T)), zPar cI r T]) H := hP
  have hD : va_D (zA (zB [zPar cI q S, zPar cI r T])) (zB [zPar cI q (uFo S (sFo T)), zPar cI r T]) := hD
  refine lv_aload_n hx hb dX2_copyFrom_8 rfl (lv_at hl 1 rfl) ?_
  refine va_get (D := D) (ci := 2) (v := .ref (r 7)) (C := RX2) (T := TX2) (N := 4) hx hb hz inZ2 hown hK.1 hP 4 rfl rfl 1 (by decide) (hz _ q1_65) (fun _ h9 => h9) rfl dX2_copyFrom_9 ?_
  refine lv_iconst (v := 0) hx hb dX2_copyFrom_12 (by decide) ?_
  refine lv_aload_n hx hb dX2_copyFrom_13 rfl (lv_at hl 0 rfl) ?_
  refine va_get (D := D) (ci := 2) (v := .ref (q 7)) (C := RX2) (T := TX2) (N := 4) hx hb hz inZ2 hown hK.1 hP 0 rfl rfl 1 (by decide) (hz _ q1_65) (fun _ h9 => h9) rfl dX2_copyFrom_14 ?_
  refine lv_iconst (v := 0) hx hb dX2_copyFrom_17 (by decide) ?_
  refine lv_bipush (v := 40) hx hb dX2_copyFrom_18 (by decide) ?_
  refine z_cpy (n := 40) hx hb (by rw [hml]; exact hl.1.symm) hown (hz _ q1_162) (hz _ q1_157) (hz _ q1_156) (hz _ q1_8) hK.1 hP hD hS 5 1 0 rfl rfl rfl (by decide) rfl (by decide) (Nat.le_of_ble_eq_true rfl) (Nat.le_of_ble_eq_true rfl) dX2_copyFrom_20 (fun H locs hP hD hS => ?_)
  have hP : va_P D vwCl (zB [zPar cI q (uLe (uFo S (sFo T)) (sLe T)), zPar cI r T]) H := hP
  have hD : va_D (zA (zB [zPar cI q S, zPar cI r T])) (zB [zPar cI q (uLe (uFo S (sFo T)) (sLe T)), zPar cI r T]) := hD
  refine lv_aload_n hx hb dX2_copyFrom_23 rfl (lv_at hl 1 rfl) ?_
  refine va_get (D := D) (ci := 2) (v := .ref (r 8)) (C := RX2) (T := TX2) (N := 4) hx hb hz inZ2 hown hK.1 hP 4 rfl rfl 2 (by decide) (hz _ q1_66) (fun _ h9 => h9) rfl dX2_copyFrom_24 ?_
  refine lv_iconst (v := 0) hx hb dX2_copyFrom_27 (by decide) ?_
  refine lv_aload_n hx hb dX2_copyFrom_28 rfl (lv_at hl 0 rfl) ?_
  refine va_get (D := D) (ci := 2) (v := .ref (q 8)) (C := RX2) (T := TX2) (N := 4) hx hb hz inZ2 hown hK.1 hP 0 rfl rfl 2 (by decide) (hz _ q1_66) (fun _ h9 => h9) rfl dX2_copyFrom_29 ?_
  refine lv_iconst (v := 0) hx hb dX2_copyFrom_32 (by decide) ?_
  refine lv_bipush (v := 40) hx hb dX2_copyFrom_33 (by decide) ?_
  refine z_cpy (n := 40) hx hb (by rw [hml]; exact hl.1.symm) hown (hz _ q1_162) (hz _ q1_157) (hz _ q1_156) (hz _ q1_8) hK.1 hP hD hS 6 2 0 rfl rfl rfl (by decide) rfl (by decide) (Nat.le_of_ble_eq_true rfl) (Nat.le_of_ble_eq_true rfl) dX2_copyFrom_35 (fun H locs hP hD hS => ?_)
  have hP : va_P D vwCl (zB [zPar cI q (uTo (uLe (uFo S (sFo T)) (sLe T)) (sTo T)), zPar cI r T]) H := hP
  have hD : va_D (zA (zB [zPar cI q S, zPar cI r T])) (zB [zPar cI q (uTo (uLe (uFo S (sFo T)) (sLe T)) (sTo T)), zPar cI r T]) := hD
  refine lv_aload_n hx hb dX2_copyFrom_38 rfl (lv_at hl 1 rfl) ?_
  refine va_get (D := D) (ci := 2) (v := .ref (r 9)) (C := RX2) (T := TX2) (N := 4) hx hb hz inZ2 hown hK.1 hP 4 rfl rfl 3 (by decide) (hz _ q1_67) (fun _ h9 => h9) rfl dX2_copyFrom_39 ?_
  refine lv_iconst (v := 0) hx hb dX2_copyFrom_42 (by decide) ?_
  refine lv_aload_n hx hb dX2_copyFrom_43 rfl (lv_at hl 0 rfl) ?_
  refine va_get (D := D) (ci := 2) (v := .ref (q 9)) (C := RX2) (T := TX2) (N := 4) hx hb hz inZ2 hown hK.1 hP 0 rfl rfl 3 (by decide) (hz _ q1_67) (fun _ h9 => h9) rfl dX2_copyFrom_44 ?_
  refine lv_iconst (v := 0) hx hb dX2_copyFrom_47 (by decide) ?_
  refine lv_bipush (v := 40) hx hb dX2_copyFrom_48 (by decide) ?_
  refine z_cpy (n := 40) hx hb (by rw [hml]; exact hl.1.symm) hown (hz _ q1_162) (hz _ q1_157) (hz _ q1_156) (hz _ q1_8) hK.1 hP hD hS 7 3 0 rfl rfl rfl (by decide) rfl (by decide) (Nat.le_of_ble_eq_true rfl) (Nat.le_of_ble_eq_true rfl) dX2_copyFrom_50 (fun H locs hP hD hS => ?_)
  have hP : va_P D vwCl (zB [zPar cI q (uSc (uTo (uLe (uFo S (sFo T)) (sLe T)) (sTo T)) (sSc T)), zPar cI r T]) H := hP
  have hD : va_D (zA (zB [zPar cI q S, zPar cI r T])) (zB [zPar cI q (uSc (uTo (uLe (uFo S (sFo T)) (sLe T)) (sTo T)) (sSc T)), zPar cI r T]) := hD
  exact z_wvret hx hb hr hlocks hP hS (congrArg (fun X => zB X) (z_cons (congrArg (fun T => zPar cI q T) (show uSc (uTo (uLe (uFo S (sFo T)) (sLe T)) (sTo T)) (sSc T) = uSc (uTo (uLe (uFo S g1) g2) g3) g4 from by (try simp only [hg1, hg2, hg3, hg4]) <;> (rfl))) (z_cons rfl rfl))) dX2_copyFrom_53
set_option maxHeartbeats 1000000 in
set_option maxRecDepth 100000 in
theorem c_X0_copyFrom (l : Launch) (D : va_G) (cI cQ : ClassId) (q : Nat → Nat) (r : Nat → Nat) (S : CS) (T : CS) (g1 : FI) (hg1 : g1 = sD T) : zWR l yX0_copyFrom (Cond.code yX0_copyFrom cX0_copyFrom 2 (none) :: zT) 1 60 [.ref (q 10), .ref (r 10)] D cI cQ (zB [zDeb cI q S, zDeb cI r T]) none (zB [zDeb cI q (uD S g1), zDeb cI r T]) := by
  refine zWR.of (cc := cX0_copyFrom) (maxL := 2) (ret := none) (by decide +kernel) rfl (Nat.le_of_ble_eq_true rfl) ?_
  intro pg e s mi args below meth cd hx hb hr hts hown hlocks hml hP hD hS hK ls hl
  have hz : ∀ w ∈ zT, w.before args s = true := fun w h => hts w (List.mem_cons_of_mem _ h)
  have hl : lv_has ls 2 [(0, .ref (q 10)), (1, .ref (r 10))] := hl
  refine lv_aload_n hx hb dX0_copyFrom_0 rfl (lv_at hl 1 rfl) ?_
  refine va_get (D := D) (ci := 0) (v := .ref (r 11)) (C := RX0) (T := TX0) (N := 1) hx hb hz inZ0 hown hK.1 hP 2 rfl rfl 0 (by decide) (hz _ q1_83) (fun _ h9 => h9) rfl dX0_copyFrom_1 ?_
  refine lv_iconst (v := 0) hx hb dX0_copyFrom_4 (by decide) ?_
  refine lv_aload_n hx hb dX0_copyFrom_5 rfl (lv_at hl 0 rfl) ?_
  refine va_get (D := D) (ci := 0) (v := .ref (q 11)) (C := RX0) (T := TX0) (N := 1) hx hb hz inZ0 hown hK.1 hP 0 rfl rfl 0 (by decide) (hz _ q1_83) (fun _ h9 => h9) rfl dX0_copyFrom_6 ?_
  refine lv_iconst (v := 0) hx hb dX0_copyFrom_9 (by decide) ?_
  refine lv_sipush (v := 1600) hx hb dX0_copyFrom_10 (by decide) ?_
  refine z_cpy (n := 1600) hx hb (by rw [hml]; exact hl.1.symm) hown (hz _ q1_167) (hz _ q1_157) (hz _ q1_156) (hz _ q1_8) hK.1 hP hD hS 3 1 0 rfl rfl rfl (by decide) rfl (by decide) (Nat.le_of_ble_eq_true rfl) (Nat.le_of_ble_eq_true rfl) dX0_copyFrom_13 (fun H locs hP hD hS => ?_)
  have hP : va_P D vwCl (zB [zDeb cI q (uD S (sD T)), zDeb cI r T]) H := hP
  have hD : va_D (zA (zB [zDeb cI q S, zDeb cI r T])) (zB [zDeb cI q (uD S (sD T)), zDeb cI r T]) := hD
  exact z_wvret hx hb hr hlocks hP hS (congrArg (fun X => zB X) (z_cons (congrArg (fun T => zDeb cI q T) (show uD S (sD T) = uD S g1 from by (try simp only [hg1]) <;> (rfl))) (z_cons rfl rfl))) dX0_copyFrom_16
set_option maxHeartbeats 1000000 in
set_option maxRecDepth 100000 in
theorem c_X4_copyFrom (l : Launch) (D : va_G) (cI cQ : ClassId) (q : Nat → Nat) (r : Nat → Nat) (S : CS) (T : CS) : zWR l yX4_copyFrom (Cond.code yX4_copyFrom cX4_copyFrom 2 (none) :: zT) 2 81 [.ref (q 0), .ref (r 0)] D cI cQ (zB [zSta cI q S, zSta cI r T]) none (zB [zSta cI q T, zSta cI r T]) := by
  refine zWR.of (cc := cX4_copyFrom) (maxL := 2) (ret := none) (by decide +kernel) rfl (Nat.le_of_ble_eq_true rfl) ?_
  intro pg e s mi args below meth cd hx hb hr hts hown hlocks hml hP hD hS hK ls hl
  have hz : ∀ w ∈ zT, w.before args s = true := fun w h => hts w (List.mem_cons_of_mem _ h)
  have hl : lv_has ls 2 [(0, .ref (q 0)), (1, .ref (r 0))] := hl
  refine lv_aload_n hx hb dX4_copyFrom_0 rfl (lv_at hl 0 rfl) ?_
  refine lv_aload_n hx hb dX4_copyFrom_1 rfl (lv_at hl 1 rfl) ?_
  refine va_get (D := D) (ci := 4) (v := .int (sCr T)) (C := RX4) (T := TX4) (N := 5) hx hb hz inZ4 hown hK.1 hP 12 rfl rfl 0 (by decide) (hz _ q1_87) (fun _ h9 => h9) rfl dX4_copyFrom_2 ?_
  refine va_put (D := D) (ci := 4) (v := .int (sCr T)) (ty := .int) (C := RX4) (T := TX4) (N := 5) hx hb hz inZ4 tyX4 tyX4_ok nmX4 hown hK.1 hP hD hS 0 rfl rfl 0 (by decide) (hz _ q1_87) (fun _ h9 => h9) rfl (by decide +kernel) rfl rfl (Nat.le_of_ble_eq_true rfl) dX4_copyFrom_5 (fun H locs hP hD hS => ?_)
  have hP : va_P D vwCl (zB [zSta cI q (uCr S (sCr T)), zSta cI r T]) H := hP
  have hD : va_D (zA (zB [zSta cI q S, zSta cI r T])) (zB [zSta cI q (uCr S (sCr T)), zSta cI r T]) := hD
  refine lv_aload_n hx hb dX4_copyFrom_8 rfl (lv_at hl 0 rfl) ?_
  refine lv_aload_n hx hb dX4_copyFrom_9 rfl (lv_at hl 1 rfl) ?_
  refine va_get (D := D) (ci := 4) (v := .int (sTi T)) (C := RX4) (T := TX4) (N := 5) hx hb hz inZ4 hown hK.1 hP 12 rfl rfl 1 (by decide) (hz _ q1_89) (fun _ h9 => h9) rfl dX4_copyFrom_10 ?_
  refine va_put (D := D) (ci := 4) (v := .int (sTi T)) (ty := .int) (C := RX4) (T := TX4) (N := 5) hx hb hz inZ4 tyX4 tyX4_ok nmX4 hown hK.1 hP hD hS 0 rfl rfl 1 (by decide) (hz _ q1_89) (fun _ h9 => h9) rfl (by decide +kernel) rfl rfl (Nat.le_of_ble_eq_true rfl) dX4_copyFrom_13 (fun H locs hP hD hS => ?_)
  have hP : va_P D vwCl (zB [zSta cI q (uTi (uCr S (sCr T)) (sTi T)), zSta cI r T]) H := hP
  have hD : va_D (zA (zB [zSta cI q S, zSta cI r T])) (zB [zSta cI q (uTi (uCr S (sCr T)) (sTi T)), zSta cI r T]) := hD
  refine lv_aload_n hx hb dX4_copyFrom_16 rfl (lv_at hl 0 rfl) ?_
  refine va_get (D := D) (ci := 4) (v := .ref (q 1)) (C := RX4) (T := TX4) (N := 5) hx hb hz inZ4 hown hK.1 hP 0 rfl rfl 2 (by decide) (hz _ q1_91) (fun _ h9 => h9) rfl dX4_copyFrom_17 ?_
  refine lv_aload_n hx hb dX4_copyFrom_20 rfl (lv_at hl 1 rfl) ?_
  refine va_get (D := D) (ci := 4) (v := .ref (r 1)) (C := RX4) (T := TX4) (N := 5) hx hb hz inZ4 hown hK.1 hP 12 rfl rfl 2 (by decide) (hz _ q1_91) (fun _ h9 => h9) rfl dX4_copyFrom_21 ?_
  obtain ⟨g_1, hg_1⟩ : ∃ z : Int32, z = (sAd T) := ⟨_, rfl⟩
  obtain ⟨g_2, hg_2⟩ : ∃ z : FI, z = (sX T) := ⟨_, rfl⟩
  obtain ⟨g_3, hg_3⟩ : ∃ z : FI, z = (sY T) := ⟨_, rfl⟩
  obtain ⟨g_4, hg_4⟩ : ∃ z : FI, z = (sW T) := ⟨_, rfl⟩
  obtain ⟨g_5, hg_5⟩ : ∃ z : FI, z = (sL T) := ⟨_, rfl⟩
  refine z_wv (X' := zB [zSta cI q (uL (uW (uY (uX (uAd (uTi (uCr S (sCr T)) (sTi T)) g_1) g_2) g_3) g_4) g_5), zSta cI r T]) (va_runV (As := [.ref (r 1)]) (rest := []) ⟨hx, hb, hml, hown, hz⟩ (c_X3_copyFrom l D cI cQ q r (uTi (uCr S (sCr T)) (sTi T)) T g_1 hg_1 g_2 hg_2 g_3 hg_3 g_4 hg_4 g_5 hg_5) (zcwV 1 hz q1_151 q1_152 q1_153 q1_3 q1_154 hd_X3_copyFrom (Nat.le_of_ble_eq_true rfl) (Nat.le_of_ble_eq_true rfl)) (z_pvw (ci := 3) (q := (RX3, TX3, 5)) hK (hP.sub (ws' := zB [zPts cI q (uTi (uCr S (sCr T)) (sTi T)), zPts cI r T]) [1, 2, 3, 4, 5, 13, 14, 15, 16, 17] rfl) (hD.sub (ws' := zB [zPts cI q (uTi (uCr S (sCr T)) (sTi T)), zPts cI r T]) [1, 2, 3, 4, 5, 13, 14, 15, 16, 17] (by decide) rfl) rfl rfl) rfl rfl hl.1 rfl (lv_room (Nat.le_of_ble_eq_true rfl)) dX4_copyFrom_24 ⟨(Nat.le_of_ble_eq_true rfl), (Nat.le_of_ble_eq_true rfl)⟩) hP hD hS [1, 2, 3, 4, 5, 13, 14, 15, 16, 17] rfl rfl rfl (fun H locs hP hD hS => ?_)
  refine lv_aload_n hx hb dX4_copyFrom_27 rfl (lv_at hl 0 rfl) ?_
  refine va_get (D := D) (ci := 4) (v := .ref (q 6)) (C := RX4) (T := TX4) (N := 5) hx hb hz inZ4 hown hK.1 hP 0 rfl rfl 3 (by decide) (hz _ q1_93) (fun _ h9 => h9) rfl dX4_copyFrom_28 ?_
  refine lv_aload_n hx hb dX4_copyFrom_31 rfl (lv_at hl 1 rfl) ?_
  refine va_get (D := D) (ci := 4) (v := .ref (r 6)) (C := RX4) (T := TX4) (N := 5) hx hb hz inZ4 hown hK.1 hP 12 rfl rfl 3 (by decide) (hz _ q1_93) (fun _ h9 => h9) rfl dX4_copyFrom_32 ?_
  obtain ⟨g_6, hg_6⟩ : ∃ z : Int32, z = (sFo T) := ⟨_, rfl⟩
  obtain ⟨g_7, hg_7⟩ : ∃ z : FI, z = (sLe T) := ⟨_, rfl⟩
  obtain ⟨g_8, hg_8⟩ : ∃ z : FI, z = (sTo T) := ⟨_, rfl⟩
  obtain ⟨g_9, hg_9⟩ : ∃ z : FI, z = (sSc T) := ⟨_, rfl⟩
  refine z_wv (X' := zB [zSta cI q (uSc (uTo (uLe (uFo (uL (uW (uY (uX (uAd (uTi (uCr S (sCr T)) (sTi T)) g_1) g_2) g_3) g_4) g_5) g_6) g_7) g_8) g_9), zSta cI r T]) (va_runV (As := [.ref (r 6)]) (rest := []) ⟨hx, hb, hml, hown, hz⟩ (c_X2_copyFrom l D cI cQ q r (uL (uW (uY (uX (uAd (uTi (uCr S (sCr T)) (sTi T)) g_1) g_2) g_3) g_4) g_5) T g_6 hg_6 g_7 hg_7 g_8 hg_8 g_9 hg_9) (zcwV 1 hz q1_158 q1_159 q1_160 q1_4 q1_161 hd_X2_copyFrom (Nat.le_of_ble_eq_true rfl) (Nat.le_of_ble_eq_true rfl)) (z_pvw (ci := 2) (q := (RX2, TX2, 4)) hK (hP.sub (ws' := zB [zPar cI q (uL (uW (uY (uX (uAd (uTi (uCr S (sCr T)) (sTi T)) g_1) g_2) g_3) g_4) g_5), zPar cI r T]) [6, 7, 8, 9, 18, 19, 20, 21] rfl) (hD.sub (ws' := zB [zPar cI q (uL (uW (uY (uX (uAd (uTi (uCr S (sCr T)) (sTi T)) g_1) g_2) g_3) g_4) g_5), zPar cI r T]) [6, 7, 8, 9, 18, 19, 20, 21] (by decide) rfl) rfl rfl) rfl rfl hl.1 rfl (lv_room (Nat.le_of_ble_eq_true rfl)) dX4_copyFrom_35 ⟨(Nat.le_of_ble_eq_true rfl), (Nat.le_of_ble_eq_true rfl)⟩) hP hD hS [6, 7, 8, 9, 18, 19, 20, 21] rfl rfl rfl (fun H locs hP hD hS => ?_)
  refine lv_aload_n hx hb dX4_copyFrom_38 rfl (lv_at hl 0 rfl) ?_
  refine va_get (D := D) (ci := 4) (v := .ref (q 10)) (C := RX4) (T := TX4) (N := 5) hx hb hz inZ4 hown hK.1 hP 0 rfl rfl 4 (by decide) (hz _ q1_95) (fun _ h9 => h9) rfl dX4_copyFrom_39 ?_
  refine lv_aload_n hx hb dX4_copyFrom_42 rfl (lv_at hl 1 rfl) ?_
  refine va_get (D := D) (ci := 4) (v := .ref (r 10)) (C := RX4) (T := TX4) (N := 5) hx hb hz inZ4 hown hK.1 hP 12 rfl rfl 4 (by decide) (hz _ q1_95) (fun _ h9 => h9) rfl dX4_copyFrom_43 ?_
  obtain ⟨g_10, hg_10⟩ : ∃ z : FI, z = (sD T) := ⟨_, rfl⟩
  refine z_wv (X' := zB [zSta cI q (uD (uSc (uTo (uLe (uFo (uL (uW (uY (uX (uAd (uTi (uCr S (sCr T)) (sTi T)) g_1) g_2) g_3) g_4) g_5) g_6) g_7) g_8) g_9) g_10), zSta cI r T]) (va_runV (As := [.ref (r 10)]) (rest := []) ⟨hx, hb, hml, hown, hz⟩ (c_X0_copyFrom l D cI cQ q r (uSc (uTo (uLe (uFo (uL (uW (uY (uX (uAd (uTi (uCr S (sCr T)) (sTi T)) g_1) g_2) g_3) g_4) g_5) g_6) g_7) g_8) g_9) T g_10 hg_10) (zcwV 1 hz q1_163 q1_164 q1_165 q1_5 q1_166 hd_X0_copyFrom (Nat.le_of_ble_eq_true rfl) (Nat.le_of_ble_eq_true rfl)) (z_pvw (ci := 0) (q := (RX0, TX0, 1)) hK (hP.sub (ws' := zB [zDeb cI q (uSc (uTo (uLe (uFo (uL (uW (uY (uX (uAd (uTi (uCr S (sCr T)) (sTi T)) g_1) g_2) g_3) g_4) g_5) g_6) g_7) g_8) g_9), zDeb cI r T]) [10, 11, 22, 23] rfl) (hD.sub (ws' := zB [zDeb cI q (uSc (uTo (uLe (uFo (uL (uW (uY (uX (uAd (uTi (uCr S (sCr T)) (sTi T)) g_1) g_2) g_3) g_4) g_5) g_6) g_7) g_8) g_9), zDeb cI r T]) [10, 11, 22, 23] (by decide) rfl) rfl rfl) rfl rfl hl.1 rfl (lv_room (Nat.le_of_ble_eq_true rfl)) dX4_copyFrom_46 ⟨(Nat.le_of_ble_eq_true rfl), (Nat.le_of_ble_eq_true rfl)⟩) hP hD hS [10, 11, 22, 23] rfl rfl rfl (fun H locs hP hD hS => ?_)
  exact z_wvret hx hb hr hlocks hP hS (congrArg (fun X => zB X) (z_cons (congrArg (fun T => zSta cI q T) (show uD (uSc (uTo (uLe (uFo (uL (uW (uY (uX (uAd (uTi (uCr S (sCr T)) (sTi T)) g_1) g_2) g_3) g_4) g_5) g_6) g_7) g_8) g_9) g_10 = T from by (try simp only [hg_10, hg_9, hg_8, hg_7, hg_6, hg_5, hg_4, hg_3, hg_2, hg_1]) <;> (rfl))) (z_cons rfl rfl))) dX4_copyFrom_49
set_option maxHeartbeats 1000000 in
set_option maxRecDepth 100000 in
theorem c_X1_isEmpty (l : Launch) (D : va_G) (cI cQ : ClassId) (h : Nat → Nat) (Z : HZ) : zRO l yX1_isEmpty (Cond.code yX1_isEmpty cX1_isEmpty 1 (some .boolean) :: zT) 0 0 [.ref (h 0)] D cI cQ (zHea cQ h Z) (bI (hEm Z)) := by
  refine zRO.of (cc := cX1_isEmpty) (maxL := 1) (ret := some .boolean) (by decide +kernel) rfl (Nat.le_of_ble_eq_true rfl) ?_
  intro pg e s mi args below meth cd hx hb hr hts hown hlocks hml hP hK ls hl
  have hz : ∀ w ∈ zT, w.before args s = true := fun w h => hts w (List.mem_cons_of_mem _ h)
  have hl : lv_has ls 1 [(0, .ref (h 0))] := hl
  refine lv_aload_n hx hb dX1_isEmpty_0 rfl (lv_at hl 0 rfl) ?_
  refine va_get (D := D) (ci := 1) (v := .int (hN Z)) (C := RX1) (T := TX1) (N := 2) hx hb hz inZ1 hown hK.1 hP 0 rfl rfl 0 (by decide) (hz _ q1_117) (fun _ h9 => h9) rfl dX1_isEmpty_1 ?_
  refine lv_if_ne (tgt := 11) hx hb dX1_isEmpty_4 (by decide) (fun c_4 => ?_) (fun c_4 => ?_)
  · have c_4 : ¬ ((hN Z : Int32) = 0) := c_4
    refine lv_iconst (v := 0) hx hb dX1_isEmpty_11 (by decide) ?_
    exact z_iret hx hb hr rfl hlocks (by simp [hEm, bI, c_4]) dX1_isEmpty_12
  · have c_4 : (hN Z : Int32) = 0 := c_4
    refine lv_iconst (v := 1) hx hb dX1_isEmpty_7 (by decide) ?_
    refine lv_goto (tgt := 12) hx hb dX1_isEmpty_8 (by decide) ?_
    exact z_iret hx hb hr rfl hlocks (by simp [hEm, bI, c_4]) dX1_isEmpty_12
set_option maxHeartbeats 1000000 in
set_option maxRecDepth 100000 in
theorem c_X1_number (l : Launch) (D : va_G) (cI cQ : ClassId) (h : Nat → Nat) (Z : HZ) : zRO l yX1_number (Cond.code yX1_number cX1_number 1 (some .int) :: zT) 0 0 [.ref (h 0)] D cI cQ (zHea cQ h Z) (hN Z) := by
  refine zRO.of (cc := cX1_number) (maxL := 1) (ret := some .int) (by decide +kernel) rfl (Nat.le_of_ble_eq_true rfl) ?_
  intro pg e s mi args below meth cd hx hb hr hts hown hlocks hml hP hK ls hl
  have hz : ∀ w ∈ zT, w.before args s = true := fun w h => hts w (List.mem_cons_of_mem _ h)
  have hl : lv_has ls 1 [(0, .ref (h 0))] := hl
  refine lv_aload_n hx hb dX1_number_0 rfl (lv_at hl 0 rfl) ?_
  refine va_get (D := D) (ci := 1) (v := .int (hN Z)) (C := RX1) (T := TX1) (N := 2) hx hb hz inZ1 hown hK.1 hP 0 rfl rfl 0 (by decide) (hz _ q1_117) (fun _ h9 => h9) rfl dX1_number_1 ?_
  exact z_iret hx hb hr rfl hlocks (by rfl) dX1_number_4
set_option maxHeartbeats 1000000 in
set_option maxRecDepth 100000 in
theorem c_X1_keep (l : Launch) (D : va_G) (cI cQ : ClassId) (h : Nat → Nat) (t0 : Nat → Nat) (t1 : Nat → Nat) (t2 : Nat → Nat) (t3 : Nat → Nat) (t4 : Nat → Nat) (q : Nat → Nat) (Z : HZ) (S0 : CS) (S1 : CS) (S2 : CS) (S3 : CS) (S4 : CS) (S : CS) (hz0 : hQ Z 0 = some (t0 0)) (hz1 : hQ Z 1 = some (t1 0)) (hz2 : hQ Z 2 = some (t2 0)) (hz3 : hQ Z 3 = some (t3 0)) (hz4 : hQ Z 4 = some (t4 0)) (g1 : Nat → Option Nat) (hg1 : g1 = z_qK (hQ Z) (t0 0) (t1 0) (t2 0) (t3 0) (t4 0)) (g2 : Int32) (hg2 : g2 = z_minH (hN Z)) : zWR l yX1_keep (Cond.code yX1_keep cX1_keep 4 (none) :: zT) 3 102 [.ref (h 0), .ref (q 0)] D cI cQ (zB [zHea cQ h Z, zSto cI t0 S0, zSto cI t1 S1, zSto cI t2 S2, zSto cI t3 S3, zSta cI t4 S4, zSta cI q S]) none (zB [zHea cQ h (uN (uQ Z g1) g2), zSto cI t0 S0, zSto cI t1 S1, zSto cI t2 S2, zSto cI t3 S3, zSta cI t4 S, zSta cI q S]) := by
  refine zWR.of (cc := cX1_keep) (maxL := 4) (ret := none) (by decide +kernel) rfl (Nat.le_of_ble_eq_true rfl) ?_
  intro pg e s mi args below meth cd hx hb hr hts hown hlocks hml hP hD hS hK ls hl
  have hz : ∀ w ∈ zT, w.before args s = true := fun w h => hts w (List.mem_cons_of_mem _ h)
  have hl : lv_has ls 4 [(0, .ref (h 0)), (1, .ref (q 0))] := hl
  refine lv_aload_n hx hb dX1_keep_0 rfl (lv_at hl 0 rfl) ?_
  refine va_get (D := D) (ci := 1) (v := .ref (h 1)) (C := RX1) (T := TX1) (N := 2) hx hb hz inZ1 hown hK.1 hP 0 rfl rfl 1 (by decide) (hz _ q1_118) (fun _ h9 => h9) rfl dX1_keep_1 ?_
  refine lv_iconst (v := 4) hx hb dX1_keep_4 (by decide) ?_
  refine z_aldq (f := hQ Z) (v := t4 0) hx hb hK.1 hP 1 1 rfl rfl (i := (4 : Int32)) (z_inC (by decide) (by decide)) (hz4) dX1_keep_5 ?_
  refine lv_astore_n (lv' := [(2, .ref (t4 0)), (0, .ref (h 0)), (1, .ref (q 0))]) hx hb dX1_keep_6 rfl hl (by decide) rfl (fun ls hl => ?_)
  refine lv_aload_n hx hb dX1_keep_7 rfl (lv_at hl 0 rfl) ?_
  refine lv_ifnonnull (tgt := 12) hx hb dX1_keep_8 (by decide) ?_
  refine lv_iconst (v := 4) hx hb dX1_keep_12 (by decide) ?_
  refine lv_istore_n (lv' := [(3, .int (4 : Int32)), (2, .ref (t4 0)), (0, .ref (h 0)), (1, .ref (q 0))]) hx hb dX1_keep_13 rfl hl (by decide) rfl (fun ls hl => ?_)
  refine lv_iload_n hx hb dX1_keep_14 rfl (lv_at hl 0 rfl) ?_
  refine lv_if_le (tgt := 38) hx hb dX1_keep_15 (by decide) (fun c_ => absurd c_ (by decide)) (fun _ => ?_)
  refine lv_aload_n hx hb dX1_keep_18 rfl (lv_at hl 2 rfl) ?_
  refine va_get (D := D) (ci := 1) (v := .ref (h 1)) (C := RX1) (T := TX1) (N := 2) hx hb hz inZ1 hown hK.1 hP 0 rfl rfl 1 (by decide) (hz _ q1_118) (fun _ h9 => h9) rfl dX1_keep_19 ?_
  refine lv_iload_n hx hb dX1_keep_22 rfl (lv_at hl 0 rfl) ?_
  refine lv_aload_n hx hb dX1_keep_23 rfl (lv_at hl 2 rfl) ?_
  refine va_get (D := D) (ci := 1) (v := .ref (h 1)) (C := RX1) (T := TX1) (N := 2) hx hb hz inZ1 hown hK.1 hP 0 rfl rfl 1 (by decide) (hz _ q1_118) (fun _ h9 => h9) rfl dX1_keep_24 ?_
  refine lv_iload_n hx hb dX1_keep_27 rfl (lv_at hl 0 rfl) ?_
  refine lv_iconst (v := 1) hx hb dX1_keep_28 (by decide) ?_
  refine lv_isub hx hb dX1_keep_29 ?_
  refine z_aldq (f := hQ Z) (v := t3 0) hx hb hK.1 hP 1 1 rfl rfl (i := (3 : Int32)) (z_inC (by decide) (by decide)) (hz3) dX1_keep_30 ?_
  refine va_astq hx hb hK.1 hP hD hS 1 1 5 4 (r := (RX4, TX4, 5)) rfl rfl rfl rfl (i := (4 : Int32)) (z_inC (by decide) (by decide)) dX1_keep_31 (fun H locs hP hD hS => ?_)
  have hP : va_P D vwCl (zB [zHea cQ h (uQ Z (va_up (hQ Z) (4 : Int32).toNatClampNeg (some (t3 0)))), zSto cI t0 S0, zSto cI t1 S1, zSto cI t2 S2, zSto cI t3 S3, zSta cI t4 S4, zSta cI q S]) H := hP
  have hD : va_D (zA (zB [zHea cQ h Z, zSto cI t0 S0, zSto cI t1 S1, zSto cI t2 S2, zSto cI t3 S3, zSta cI t4 S4, zSta cI q S])) (zB [zHea cQ h (uQ Z (va_up (hQ Z) (4 : Int32).toNatClampNeg (some (t3 0)))), zSto cI t0 S0, zSto cI t1 S1, zSto cI t2 S2, zSto cI t3 S3, zSta cI t4 S4, zSta cI q S]) := hD
  refine lv_iinc (v := (3 : Int32)) (lv' := [(3, .int (3 : Int32)), (2, .ref (t4 0)), (0, .ref (h 0)), (1, .ref (q 0))]) hx hb dX1_keep_32 hl (k := 0) rfl rfl (by decide) rfl (fun ls hl => ?_)
  refine lv_goto (tgt := 14) hx hb dX1_keep_35 (by decide) ?_
  refine lv_iload_n hx hb dX1_keep_14 rfl (lv_at hl 0 rfl) ?_
  refine lv_if_le (tgt := 38) hx hb dX1_keep_15 (by decide) (fun c_ => absurd c_ (by decide)) (fun _ => ?_)
  refine lv_aload_n hx hb dX1_keep_18 rfl (lv_at hl 2 rfl) ?_
  refine va_get (D := D) (ci := 1) (v := .ref (h 1)) (C := RX1) (T := TX1) (N := 2) hx hb hz inZ1 hown hK.1 hP 0 rfl rfl 1 (by decide) (hz _ q1_118) (fun _ h9 => h9) rfl dX1_keep_19 ?_
  refine lv_iload_n hx hb dX1_keep_22 rfl (lv_at hl 0 rfl) ?_
  refine lv_aload_n hx hb dX1_keep_23 rfl (lv_at hl 2 rfl) ?_
  refine va_get (D := D) (ci := 1) (v := .ref (h 1)) (C := RX1) (T := TX1) (N := 2) hx hb hz inZ1 hown hK.1 hP 0 rfl rfl 1 (by decide) (hz _ q1_118) (fun _ h9 => h9) rfl dX1_keep_24 ?_
  refine lv_iload_n hx hb dX1_keep_27 rfl (lv_at hl 0 rfl) ?_
  refine lv_iconst (v := 1) hx hb dX1_keep_28 (by decide) ?_
  refine lv_isub hx hb dX1_keep_29 ?_
  refine z_aldq (f := va_up (hQ Z) (4 : Int32).toNatClampNeg (some (t3 0))) (v := t2 0) hx hb hK.1 hP 1 1 rfl rfl (i := (2 : Int32)) (z_inC (by decide) (by decide)) (hz2) dX1_keep_30 ?_
  refine va_astq hx hb hK.1 hP hD hS 1 1 4 4 (r := (RX4, TX4, 5)) rfl rfl rfl rfl (i := (3 : Int32)) (z_inC (by decide) (by decide)) dX1_keep_31 (fun H locs hP hD hS => ?_)
  have hP : va_P D vwCl (zB [zHea cQ h (uQ Z (va_up (va_up (hQ Z) (4 : Int32).toNatClampNeg (some (t3 0))) (3 : Int32).toNatClampNeg (some (t2 0)))), zSto cI t0 S0, zSto cI t1 S1, zSto cI t2 S2, zSto cI t3 S3, zSta cI t4 S4, zSta cI q S]) H := hP
  have hD : va_D (zA (zB [zHea cQ h Z, zSto cI t0 S0, zSto cI t1 S1, zSto cI t2 S2, zSto cI t3 S3, zSta cI t4 S4, zSta cI q S])) (zB [zHea cQ h (uQ Z (va_up (va_up (hQ Z) (4 : Int32).toNatClampNeg (some (t3 0))) (3 : Int32).toNatClampNeg (some (t2 0)))), zSto cI t0 S0, zSto cI t1 S1, zSto cI t2 S2, zSto cI t3 S3, zSta cI t4 S4, zSta cI q S]) := hD
  refine lv_iinc (v := (2 : Int32)) (lv' := [(3, .int (2 : Int32)), (2, .ref (t4 0)), (0, .ref (h 0)), (1, .ref (q 0))]) hx hb dX1_keep_32 hl (k := 0) rfl rfl (by decide) rfl (fun ls hl => ?_)
  refine lv_goto (tgt := 14) hx hb dX1_keep_35 (by decide) ?_
  refine lv_iload_n hx hb dX1_keep_14 rfl (lv_at hl 0 rfl) ?_
  refine lv_if_le (tgt := 38) hx hb dX1_keep_15 (by decide) (fun c_ => absurd c_ (by decide)) (fun _ => ?_)
  refine lv_aload_n hx hb dX1_keep_18 rfl (lv_at hl 2 rfl) ?_
  refine va_get (D := D) (ci := 1) (v := .ref (h 1)) (C := RX1) (T := TX1) (N := 2) hx hb hz inZ1 hown hK.1 hP 0 rfl rfl 1 (by decide) (hz _ q1_118) (fun _ h9 => h9) rfl dX1_keep_19 ?_
  refine lv_iload_n hx hb dX1_keep_22 rfl (lv_at hl 0 rfl) ?_
  refine lv_aload_n hx hb dX1_keep_23 rfl (lv_at hl 2 rfl) ?_
  refine va_get (D := D) (ci := 1) (v := .ref (h 1)) (C := RX1) (T := TX1) (N := 2) hx hb hz inZ1 hown hK.1 hP 0 rfl rfl 1 (by decide) (hz _ q1_118) (fun _ h9 => h9) rfl dX1_keep_24 ?_
  refine lv_iload_n hx hb dX1_keep_27 rfl (lv_at hl 0 rfl) ?_
  refine lv_iconst (v := 1) hx hb dX1_keep_28 (by decide) ?_
  refine lv_isub hx hb dX1_keep_29 ?_
  refine z_aldq (f := va_up (va_up (hQ Z) (4 : Int32).toNatClampNeg (some (t3 0))) (3 : Int32).toNatClampNeg (some (t2 0))) (v := t1 0) hx hb hK.1 hP 1 1 rfl rfl (i := (1 : Int32)) (z_inC (by decide) (by decide)) (hz1) dX1_keep_30 ?_
  refine va_astq hx hb hK.1 hP hD hS 1 1 3 4 (r := (RX4, TX4, 5)) rfl rfl rfl rfl (i := (2 : Int32)) (z_inC (by decide) (by decide)) dX1_keep_31 (fun H locs hP hD hS => ?_)
  have hP : va_P D vwCl (zB [zHea cQ h (uQ Z (va_up (va_up (va_up (hQ Z) (4 : Int32).toNatClampNeg (some (t3 0))) (3 : Int32).toNatClampNeg (some (t2 0))) (2 : Int32).toNatClampNeg (some (t1 0)))), zSto cI t0 S0, zSto cI t1 S1, zSto cI t2 S2, zSto cI t3 S3, zSta cI t4 S4, zSta cI q S]) H := hP
  have hD : va_D (zA (zB [zHea cQ h Z, zSto cI t0 S0, zSto cI t1 S1, zSto cI t2 S2, zSto cI t3 S3, zSta cI t4 S4, zSta cI q S])) (zB [zHea cQ h (uQ Z (va_up (va_up (va_up (hQ Z) (4 : Int32).toNatClampNeg (some (t3 0))) (3 : Int32).toNatClampNeg (some (t2 0))) (2 : Int32).toNatClampNeg (some (t1 0)))), zSto cI t0 S0, zSto cI t1 S1, zSto cI t2 S2, zSto cI t3 S3, zSta cI t4 S4, zSta cI q S]) := hD
  refine lv_iinc (v := (1 : Int32)) (lv' := [(3, .int (1 : Int32)), (2, .ref (t4 0)), (0, .ref (h 0)), (1, .ref (q 0))]) hx hb dX1_keep_32 hl (k := 0) rfl rfl (by decide) rfl (fun ls hl => ?_)
  refine lv_goto (tgt := 14) hx hb dX1_keep_35 (by decide) ?_
  refine lv_iload_n hx hb dX1_keep_14 rfl (lv_at hl 0 rfl) ?_
  refine lv_if_le (tgt := 38) hx hb dX1_keep_15 (by decide) (fun c_ => absurd c_ (by decide)) (fun _ => ?_)
  refine lv_aload_n hx hb dX1_keep_18 rfl (lv_at hl 2 rfl) ?_
  refine va_get (D := D) (ci := 1) (v := .ref (h 1)) (C := RX1) (T := TX1) (N := 2) hx hb hz inZ1 hown hK.1 hP 0 rfl rfl 1 (by decide) (hz _ q1_118) (fun _ h9 => h9) rfl dX1_keep_19 ?_
  refine lv_iload_n hx hb dX1_keep_22 rfl (lv_at hl 0 rfl) ?_
  refine lv_aload_n hx hb dX1_keep_23 rfl (lv_at hl 2 rfl) ?_
  refine va_get (D := D) (ci := 1) (v := .ref (h 1)) (C := RX1) (T := TX1) (N := 2) hx hb hz inZ1 hown hK.1 hP 0 rfl rfl 1 (by decide) (hz _ q1_118) (fun _ h9 => h9) rfl dX1_keep_24 ?_
  refine lv_iload_n hx hb dX1_keep_27 rfl (lv_at hl 0 rfl) ?_
  refine lv_iconst (v := 1) hx hb dX1_keep_28 (by decide) ?_
  refine lv_isub hx hb dX1_keep_29 ?_
  refine z_aldq (f := va_up (va_up (va_up (hQ Z) (4 : Int32).toNatClampNeg (some (t3 0))) (3 : Int32).toNatClampNeg (some (t2 0))) (2 : Int32).toNatClampNeg (some (t1 0))) (v := t0 0) hx hb hK.1 hP 1 1 rfl rfl (i := (0 : Int32)) (z_inC (by decide) (by decide)) (hz0) dX1_keep_30 ?_
  refine va_astq hx hb hK.1 hP hD hS 1 1 2 4 (r := (RX4, TX4, 5)) rfl rfl rfl rfl (i := (1 : Int32)) (z_inC (by decide) (by decide)) dX1_keep_31 (fun H locs hP hD hS => ?_)
  have hP : va_P D vwCl (zB [zHea cQ h (uQ Z (va_up (va_up (va_up (va_up (hQ Z) (4 : Int32).toNatClampNeg (some (t3 0))) (3 : Int32).toNatClampNeg (some (t2 0))) (2 : Int32).toNatClampNeg (some (t1 0))) (1 : Int32).toNatClampNeg (some (t0 0)))), zSto cI t0 S0, zSto cI t1 S1, zSto cI t2 S2, zSto cI t3 S3, zSta cI t4 S4, zSta cI q S]) H := hP
  have hD : va_D (zA (zB [zHea cQ h Z, zSto cI t0 S0, zSto cI t1 S1, zSto cI t2 S2, zSto cI t3 S3, zSta cI t4 S4, zSta cI q S])) (zB [zHea cQ h (uQ Z (va_up (va_up (va_up (va_up (hQ Z) (4 : Int32).toNatClampNeg (some (t3 0))) (3 : Int32).toNatClampNeg (some (t2 0))) (2 : Int32).toNatClampNeg (some (t1 0))) (1 : Int32).toNatClampNeg (some (t0 0)))), zSto cI t0 S0, zSto cI t1 S1, zSto cI t2 S2, zSto cI t3 S3, zSta cI t4 S4, zSta cI q S]) := hD
  refine lv_iinc (v := (0 : Int32)) (lv' := [(3, .int (0 : Int32)), (2, .ref (t4 0)), (0, .ref (h 0)), (1, .ref (q 0))]) hx hb dX1_keep_32 hl (k := 0) rfl rfl (by decide) rfl (fun ls hl => ?_)
  refine lv_goto (tgt := 14) hx hb dX1_keep_35 (by decide) ?_
  refine lv_iload_n hx hb dX1_keep_14 rfl (lv_at hl 0 rfl) ?_
  refine lv_if_le (tgt := 38) hx hb dX1_keep_15 (by decide) (fun _ => ?_) (fun c_ => absurd (by decide) c_)
  refine lv_aload_n hx hb dX1_keep_38 rfl (lv_at hl 2 rfl) ?_
  refine va_get (D := D) (ci := 1) (v := .ref (h 1)) (C := RX1) (T := TX1) (N := 2) hx hb hz inZ1 hown hK.1 hP 0 rfl rfl 1 (by decide) (hz _ q1_118) (fun _ h9 => h9) rfl dX1_keep_39 ?_
  refine lv_iconst (v := 0) hx hb dX1_keep_42 (by decide) ?_
  refine lv_aload_n hx hb dX1_keep_43 rfl (lv_at hl 1 rfl) ?_
  refine va_astq hx hb hK.1 hP hD hS 1 1 6 4 (r := (RX4, TX4, 5)) rfl rfl rfl rfl (i := (0 : Int32)) (z_inC (by decide) (by decide)) dX1_keep_44 (fun H locs hP hD hS => ?_)
  have hP : va_P D vwCl (zB [zHea cQ h (uQ Z (va_up (va_up (va_up (va_up (va_up (hQ Z) (4 : Int32).toNatClampNeg (some (t3 0))) (3 : Int32).toNatClampNeg (some (t2 0))) (2 : Int32).toNatClampNeg (some (t1 0))) (1 : Int32).toNatClampNeg (some (t0 0))) (0 : Int32).toNatClampNeg (some (t4 0)))), zSto cI t0 S0, zSto cI t1 S1, zSto cI t2 S2, zSto cI t3 S3, zSta cI t4 S4, zSta cI q S]) H := hP
  have hD : va_D (zA (zB [zHea cQ h Z, zSto cI t0 S0, zSto cI t1 S1, zSto cI t2 S2, zSto cI t3 S3, zSta cI t4 S4, zSta cI q S])) (zB [zHea cQ h (uQ Z (va_up (va_up (va_up (va_up (va_up (hQ Z) (4 : Int32).toNatClampNeg (some (t3 0))) (3 : Int32).toNatClampNeg (some (t2 0))) (2 : Int32).toNatClampNeg (some (t1 0))) (1 : Int32).toNatClampNeg (some (t0 0))) (0 : Int32).toNatClampNeg (some (t4 0)))), zSto cI t0 S0, zSto cI t1 S1, zSto cI t2 S2, zSto cI t3 S3, zSta cI t4 S4, zSta cI q S]) := hD
  refine lv_aload_n hx hb dX1_keep_45 rfl (lv_at hl 1 rfl) ?_
  refine lv_aload_n hx hb dX1_keep_46 rfl (lv_at hl 3 rfl) ?_
  refine z_bjv (Rs := [zHea cQ h (uQ Z (va_up (va_up (va_up (va_up (va_up (hQ Z) (4 : Int32).toNatClampNeg (some (t3 0))) (3 : Int32).toNatClampNeg (some (t2 0))) (2 : Int32).toNatClampNeg (some (t1 0))) (1 : Int32).toNatClampNeg (some (t0 0))) (0 : Int32).toNatClampNeg (some (t4 0)))), zSto cI t0 S0, zSto cI t1 S1, zSto cI t2 S2, zSto cI t3 S3]) (va_runV (As := [.ref (q 0)]) (rest := []) ⟨hx, hb, hml, hown, hz⟩ (c_X4_copyFrom l D cI cQ t4 q S4 S) (zcwV 1 hz q1_147 q1_148 q1_149 q1_2 q1_150 hd_X4_copyFrom (Nat.le_of_ble_eq_true rfl) (Nat.le_of_ble_eq_true rfl)) (z_pvw (ci := 4) (q := (RX4, TX4, 5)) hK (zB_sub (Cs := [zSta cI t4 S4, zSta cI q S]) hP [5, 6] rfl) (zB_Dsub (Cs := [zSta cI t4 S4, zSta cI q S]) hD [5, 6] (by decide) rfl) rfl rfl) rfl rfl hl.1 rfl (lv_room (Nat.le_of_ble_eq_true rfl)) dX1_keep_47 ⟨(Nat.le_of_ble_eq_true rfl), (Nat.le_of_ble_eq_true rfl)⟩) hP hD hS [5, 6] [0, 1, 2, 3, 4] rfl rfl (by decide) rfl (fun H locs hP hD hS => ?_)
  have hP : va_P D vwCl (zB [zHea cQ h (uQ Z (va_up (va_up (va_up (va_up (va_up (hQ Z) (4 : Int32).toNatClampNeg (some (t3 0))) (3 : Int32).toNatClampNeg (some (t2 0))) (2 : Int32).toNatClampNeg (some (t1 0))) (1 : Int32).toNatClampNeg (some (t0 0))) (0 : Int32).toNatClampNeg (some (t4 0)))), zSto cI t0 S0, zSto cI t1 S1, zSto cI t2 S2, zSto cI t3 S3, zSta cI t4 S, zSta cI q S]) H := hP
  have hD : va_D (zA (zB [zHea cQ h Z, zSto cI t0 S0, zSto cI t1 S1, zSto cI t2 S2, zSto cI t3 S3, zSta cI t4 S4, zSta cI q S])) (zB [zHea cQ h (uQ Z (va_up (va_up (va_up (va_up (va_up (hQ Z) (4 : Int32).toNatClampNeg (some (t3 0))) (3 : Int32).toNatClampNeg (some (t2 0))) (2 : Int32).toNatClampNeg (some (t1 0))) (1 : Int32).toNatClampNeg (some (t0 0))) (0 : Int32).toNatClampNeg (some (t4 0)))), zSto cI t0 S0, zSto cI t1 S1, zSto cI t2 S2, zSto cI t3 S3, zSta cI t4 S, zSta cI q S]) := hD
  refine lv_aload_n hx hb dX1_keep_50 rfl (lv_at hl 2 rfl) ?_
  refine lv_aload_n hx hb dX1_keep_51 rfl (lv_at hl 2 rfl) ?_
  refine va_get (D := D) (ci := 1) (v := .int (hN Z)) (C := RX1) (T := TX1) (N := 2) hx hb hz inZ1 hown hK.1 hP 0 rfl rfl 0 (by decide) (hz _ q1_117) (fun _ h9 => h9) rfl dX1_keep_52 ?_
  refine lv_iconst (v := 1) hx hb dX1_keep_55 (by decide) ?_
  refine lv_iadd hx hb dX1_keep_56 ?_
  refine lv_iconst (v := 5) hx hb dX1_keep_57 (by decide) ?_
  refine va_mmin hx hb (by rw [hml]; exact hl.1.symm) hown (hz _ q1_168) (hz _ q1_169) (hz _ q1_9) (hz _ q1_170) (Nat.le_of_ble_eq_true rfl) (Nat.le_of_ble_eq_true rfl) (Nat.le_of_ble_eq_true rfl) (Nat.le_of_ble_eq_true rfl) dX1_keep_58 ?_
  refine va_put (D := D) (ci := 1) (v := .int (if (5 : Int32) < ((hN Z) + (1 : Int32)) then (5 : Int32) else ((hN Z) + (1 : Int32)))) (ty := .int) (C := RX1) (T := TX1) (N := 2) hx hb hz inZ1 tyX1 tyX1_ok nmX1 hown hK.1 hP hD hS 0 rfl rfl 0 (by decide) (hz _ q1_117) (fun _ h9 => h9) rfl (by decide +kernel) rfl rfl (Nat.le_of_ble_eq_true rfl) dX1_keep_61 (fun H locs hP hD hS => ?_)
  have hP : va_P D vwCl (zB [zHea cQ h (uN (uQ Z (va_up (va_up (va_up (va_up (va_up (hQ Z) (4 : Int32).toNatClampNeg (some (t3 0))) (3 : Int32).toNatClampNeg (some (t2 0))) (2 : Int32).toNatClampNeg (some (t1 0))) (1 : Int32).toNatClampNeg (some (t0 0))) (0 : Int32).toNatClampNeg (some (t4 0)))) (if (5 : Int32) < ((hN Z) + (1 : Int32)) then (5 : Int32) else ((hN Z) + (1 : Int32)))), zSto cI t0 S0, zSto cI t1 S1, zSto cI t2 S2, zSto cI t3 S3, zSta cI t4 S, zSta cI q S]) H := hP
  have hD : va_D (zA (zB [zHea cQ h Z, zSto cI t0 S0, zSto cI t1 S1, zSto cI t2 S2, zSto cI t3 S3, zSta cI t4 S4, zSta cI q S])) (zB [zHea cQ h (uN (uQ Z (va_up (va_up (va_up (va_up (va_up (hQ Z) (4 : Int32).toNatClampNeg (some (t3 0))) (3 : Int32).toNatClampNeg (some (t2 0))) (2 : Int32).toNatClampNeg (some (t1 0))) (1 : Int32).toNatClampNeg (some (t0 0))) (0 : Int32).toNatClampNeg (some (t4 0)))) (if (5 : Int32) < ((hN Z) + (1 : Int32)) then (5 : Int32) else ((hN Z) + (1 : Int32)))), zSto cI t0 S0, zSto cI t1 S1, zSto cI t2 S2, zSto cI t3 S3, zSta cI t4 S, zSta cI q S]) := hD
  exact z_wvret hx hb hr hlocks hP hS (congrArg (fun X => zB X) (z_cons (congrArg (fun T => zHea cQ h T) (show uN (uQ Z (va_up (va_up (va_up (va_up (va_up (hQ Z) (4 : Int32).toNatClampNeg (some (t3 0))) (3 : Int32).toNatClampNeg (some (t2 0))) (2 : Int32).toNatClampNeg (some (t1 0))) (1 : Int32).toNatClampNeg (some (t0 0))) (0 : Int32).toNatClampNeg (some (t4 0)))) (if (5 : Int32) < ((hN Z) + (1 : Int32)) then (5 : Int32) else ((hN Z) + (1 : Int32))) = uN (uQ Z g1) g2 from by (try simp only [hg1, hg2]) <;> (rfl))) (z_cons rfl (z_cons rfl (z_cons rfl (z_cons rfl (z_cons rfl (z_cons rfl rfl)))))))) dX1_keep_64
set_option maxHeartbeats 1000000 in
set_option maxRecDepth 100000 in
theorem c_X1_restoreInto (l : Launch) (D : va_G) (cI cQ : ClassId) (h : Nat → Nat) (t0 : Nat → Nat) (t1 : Nat → Nat) (t2 : Nat → Nat) (t3 : Nat → Nat) (t4 : Nat → Nat) (q : Nat → Nat) (Z : HZ) (S0 : CS) (S1 : CS) (S2 : CS) (S3 : CS) (S4 : CS) (S : CS) (hz0 : hQ Z 0 = some (t0 0)) (hz1 : hQ Z 1 = some (t1 0)) (hz2 : hQ Z 2 = some (t2 0)) (hz3 : hQ Z 3 = some (t3 0)) (hz4 : hQ Z 4 = some (t4 0)) (g1 : Nat → Option Nat) (hg1 : g1 = z_qR (hQ Z) (t0 0) (t1 0) (t2 0) (t3 0) (t4 0)) (g2 : Int32) (hg2 : g2 = z_maxH (hN Z)) : zWR l yX1_restoreInto (Cond.code yX1_restoreInto cX1_restoreInto 4 (none) :: zT) 3 102 [.ref (h 0), .ref (q 0)] D cI cQ (zB [zHea cQ h Z, zSta cI t0 S0, zSto cI t1 S1, zSto cI t2 S2, zSto cI t3 S3, zSto cI t4 S4, zSta cI q S]) none (zB [zHea cQ h (uN (uQ Z g1) g2), zSta cI t0 S0, zSto cI t1 S1, zSto cI t2 S2, zSto cI t3 S3, zSto cI t4 S4, zSta cI q S0]) := by
  refine zWR.of (cc := cX1_restoreInto) (maxL := 4) (ret := none) (by decide +kernel) rfl (Nat.le_of_ble_eq_true rfl) ?_
  intro pg e s mi args below meth cd hx hb hr hts hown hlocks hml hP hD hS hK ls hl
  have hz : ∀ w ∈ zT, w.before args s = true := fun w h => hts w (List.mem_cons_of_mem _ h)
  have hl : lv_has ls 4 [(0, .ref (h 0)), (1, .ref (q 0))] := hl
  refine lv_aload_n hx hb dX1_restoreInto_0 rfl (lv_at hl 0 rfl) ?_
  refine va_get (D := D) (ci := 1) (v := .ref (h 1)) (C := RX1) (T := TX1) (N := 2) hx hb hz inZ1 hown hK.1 hP 0 rfl rfl 1 (by decide) (hz _ q1_118) (fun _ h9 => h9) rfl dX1_restoreInto_1 ?_
  refine lv_iconst (v := 0) hx hb dX1_restoreInto_4 (by decide) ?_
  refine z_aldq (f := hQ Z) (v := t0 0) hx hb hK.1 hP 1 1 rfl rfl (i := (0 : Int32)) (z_inC (by decide) (by decide)) (hz0) dX1_restoreInto_5 ?_
  refine lv_astore_n (lv' := [(2, .ref (t0 0)), (0, .ref (h 0)), (1, .ref (q 0))]) hx hb dX1_restoreInto_6 rfl hl (by decide) rfl (fun ls hl => ?_)
  refine lv_aload_n hx hb dX1_restoreInto_7 rfl (lv_at hl 0 rfl) ?_
  refine lv_ifnonnull (tgt := 12) hx hb dX1_restoreInto_8 (by decide) ?_
  refine lv_iconst (v := 0) hx hb dX1_restoreInto_12 (by decide) ?_
  refine lv_istore_n (lv' := [(3, .int (0 : Int32)), (2, .ref (t0 0)), (0, .ref (h 0)), (1, .ref (q 0))]) hx hb dX1_restoreInto_13 rfl hl (by decide) rfl (fun ls hl => ?_)
  refine lv_iload_n hx hb dX1_restoreInto_14 rfl (lv_at hl 0 rfl) ?_
  refine lv_iconst (v := 4) hx hb dX1_restoreInto_15 (by decide) ?_
  refine lv_icmp_ge (tgt := 39) hx hb dX1_restoreInto_16 (by decide) (fun c_ => absurd c_ (by decide)) (fun _ => ?_)
  refine lv_aload_n hx hb dX1_restoreInto_19 rfl (lv_at hl 2 rfl) ?_
  refine va_get (D := D) (ci := 1) (v := .ref (h 1)) (C := RX1) (T := TX1) (N := 2) hx hb hz inZ1 hown hK.1 hP 0 rfl rfl 1 (by decide) (hz _ q1_118) (fun _ h9 => h9) rfl dX1_restoreInto_20 ?_
  refine lv_iload_n hx hb dX1_restoreInto_23 rfl (lv_at hl 0 rfl) ?_
  refine lv_aload_n hx hb dX1_restoreInto_24 rfl (lv_at hl 2 rfl) ?_
  refine va_get (D := D) (ci := 1) (v := .ref (h 1)) (C := RX1) (T := TX1) (N := 2) hx hb hz inZ1 hown hK.1 hP 0 rfl rfl 1 (by decide) (hz _ q1_118) (fun _ h9 => h9) rfl dX1_restoreInto_25 ?_
  refine lv_iload_n hx hb dX1_restoreInto_28 rfl (lv_at hl 0 rfl) ?_
  refine lv_iconst (v := 1) hx hb dX1_restoreInto_29 (by decide) ?_
  refine lv_iadd hx hb dX1_restoreInto_30 ?_
  refine z_aldq (f := hQ Z) (v := t1 0) hx hb hK.1 hP 1 1 rfl rfl (i := (1 : Int32)) (z_inC (by decide) (by decide)) (hz1) dX1_restoreInto_31 ?_
  refine va_astq hx hb hK.1 hP hD hS 1 1 14 4 (r := (RX4, TX4, 5)) rfl rfl rfl rfl (i := (0 : Int32)) (z_inC (by decide) (by decide)) dX1_restoreInto_32 (fun H locs hP hD hS => ?_)
  have hP : va_P D vwCl (zB [zHea cQ h (uQ Z (va_up (hQ Z) (0 : Int32).toNatClampNeg (some (t1 0)))), zSta cI t0 S0, zSto cI t1 S1, zSto cI t2 S2, zSto cI t3 S3, zSto cI t4 S4, zSta cI q S]) H := hP
  have hD : va_D (zA (zB [zHea cQ h Z, zSta cI t0 S0, zSto cI t1 S1, zSto cI t2 S2, zSto cI t3 S3, zSto cI t4 S4, zSta cI q S])) (zB [zHea cQ h (uQ Z (va_up (hQ Z) (0 : Int32).toNatClampNeg (some (t1 0)))), zSta cI t0 S0, zSto cI t1 S1, zSto cI t2 S2, zSto cI t3 S3, zSto cI t4 S4, zSta cI q S]) := hD
  refine lv_iinc (v := (1 : Int32)) (lv' := [(3, .int (1 : Int32)), (2, .ref (t0 0)), (0, .ref (h 0)), (1, .ref (q 0))]) hx hb dX1_restoreInto_33 hl (k := 0) rfl rfl (by decide) rfl (fun ls hl => ?_)
  refine lv_goto (tgt := 14) hx hb dX1_restoreInto_36 (by decide) ?_
  refine lv_iload_n hx hb dX1_restoreInto_14 rfl (lv_at hl 0 rfl) ?_
  refine lv_iconst (v := 4) hx hb dX1_restoreInto_15 (by decide) ?_
  refine lv_icmp_ge (tgt := 39) hx hb dX1_restoreInto_16 (by decide) (fun c_ => absurd c_ (by decide)) (fun _ => ?_)
  refine lv_aload_n hx hb dX1_restoreInto_19 rfl (lv_at hl 2 rfl) ?_
  refine va_get (D := D) (ci := 1) (v := .ref (h 1)) (C := RX1) (T := TX1) (N := 2) hx hb hz inZ1 hown hK.1 hP 0 rfl rfl 1 (by decide) (hz _ q1_118) (fun _ h9 => h9) rfl dX1_restoreInto_20 ?_
  refine lv_iload_n hx hb dX1_restoreInto_23 rfl (lv_at hl 0 rfl) ?_
  refine lv_aload_n hx hb dX1_restoreInto_24 rfl (lv_at hl 2 rfl) ?_
  refine va_get (D := D) (ci := 1) (v := .ref (h 1)) (C := RX1) (T := TX1) (N := 2) hx hb hz inZ1 hown hK.1 hP 0 rfl rfl 1 (by decide) (hz _ q1_118) (fun _ h9 => h9) rfl dX1_restoreInto_25 ?_
  refine lv_iload_n hx hb dX1_restoreInto_28 rfl (lv_at hl 0 rfl) ?_
  refine lv_iconst (v := 1) hx hb dX1_restoreInto_29 (by decide) ?_
  refine lv_iadd hx hb dX1_restoreInto_30 ?_
  refine z_aldq (f := va_up (hQ Z) (0 : Int32).toNatClampNeg (some (t1 0))) (v := t2 0) hx hb hK.1 hP 1 1 rfl rfl (i := (2 : Int32)) (z_inC (by decide) (by decide)) (hz2) dX1_restoreInto_31 ?_
  refine va_astq hx hb hK.1 hP hD hS 1 1 15 4 (r := (RX4, TX4, 5)) rfl rfl rfl rfl (i := (1 : Int32)) (z_inC (by decide) (by decide)) dX1_restoreInto_32 (fun H locs hP hD hS => ?_)
  have hP : va_P D vwCl (zB [zHea cQ h (uQ Z (va_up (va_up (hQ Z) (0 : Int32).toNatClampNeg (some (t1 0))) (1 : Int32).toNatClampNeg (some (t2 0)))), zSta cI t0 S0, zSto cI t1 S1, zSto cI t2 S2, zSto cI t3 S3, zSto cI t4 S4, zSta cI q S]) H := hP
  have hD : va_D (zA (zB [zHea cQ h Z, zSta cI t0 S0, zSto cI t1 S1, zSto cI t2 S2, zSto cI t3 S3, zSto cI t4 S4, zSta cI q S])) (zB [zHea cQ h (uQ Z (va_up (va_up (hQ Z) (0 : Int32).toNatClampNeg (some (t1 0))) (1 : Int32).toNatClampNeg (some (t2 0)))), zSta cI t0 S0, zSto cI t1 S1, zSto cI t2 S2, zSto cI t3 S3, zSto cI t4 S4, zSta cI q S]) := hD
  refine lv_iinc (v := (2 : Int32)) (lv' := [(3, .int (2 : Int32)), (2, .ref (t0 0)), (0, .ref (h 0)), (1, .ref (q 0))]) hx hb dX1_restoreInto_33 hl (k := 0) rfl rfl (by decide) rfl (fun ls hl => ?_)
  refine lv_goto (tgt := 14) hx hb dX1_restoreInto_36 (by decide) ?_
  refine lv_iload_n hx hb dX1_restoreInto_14 rfl (lv_at hl 0 rfl) ?_
  refine lv_iconst (v := 4) hx hb dX1_restoreInto_15 (by decide) ?_
  refine lv_icmp_ge (tgt := 39) hx hb dX1_restoreInto_16 (by decide) (fun c_ => absurd c_ (by decide)) (fun _ => ?_)
  refine lv_aload_n hx hb dX1_restoreInto_19 rfl (lv_at hl 2 rfl) ?_
  refine va_get (D := D) (ci := 1) (v := .ref (h 1)) (C := RX1) (T := TX1) (N := 2) hx hb hz inZ1 hown hK.1 hP 0 rfl rfl 1 (by decide) (hz _ q1_118) (fun _ h9 => h9) rfl dX1_restoreInto_20 ?_
  refine lv_iload_n hx hb dX1_restoreInto_23 rfl (lv_at hl 0 rfl) ?_
  refine lv_aload_n hx hb dX1_restoreInto_24 rfl (lv_at hl 2 rfl) ?_
  refine va_get (D := D) (ci := 1) (v := .ref (h 1)) (C := RX1) (T := TX1) (N := 2) hx hb hz inZ1 hown hK.1 hP 0 rfl rfl 1 (by decide) (hz _ q1_118) (fun _ h9 => h9) rfl dX1_restoreInto_25 ?_
  refine lv_iload_n hx hb dX1_restoreInto_28 rfl (lv_at hl 0 rfl) ?_
  refine lv_iconst (v := 1) hx hb dX1_restoreInto_29 (by decide) ?_
  refine lv_iadd hx hb dX1_restoreInto_30 ?_
  refine z_aldq (f := va_up (va_up (hQ Z) (0 : Int32).toNatClampNeg (some (t1 0))) (1 : Int32).toNatClampNeg (some (t2 0))) (v := t3 0) hx hb hK.1 hP 1 1 rfl rfl (i := (3 : Int32)) (z_inC (by decide) (by decide)) (hz3) dX1_restoreInto_31 ?_
  refine va_astq hx hb hK.1 hP hD hS 1 1 16 4 (r := (RX4, TX4, 5)) rfl rfl rfl rfl (i := (2 : Int32)) (z_inC (by decide) (by decide)) dX1_restoreInto_32 (fun H locs hP hD hS => ?_)
  have hP : va_P D vwCl (zB [zHea cQ h (uQ Z (va_up (va_up (va_up (hQ Z) (0 : Int32).toNatClampNeg (some (t1 0))) (1 : Int32).toNatClampNeg (some (t2 0))) (2 : Int32).toNatClampNeg (some (t3 0)))), zSta cI t0 S0, zSto cI t1 S1, zSto cI t2 S2, zSto cI t3 S3, zSto cI t4 S4, zSta cI q S]) H := hP
  have hD : va_D (zA (zB [zHea cQ h Z, zSta cI t0 S0, zSto cI t1 S1, zSto cI t2 S2, zSto cI t3 S3, zSto cI t4 S4, zSta cI q S])) (zB [zHea cQ h (uQ Z (va_up (va_up (va_up (hQ Z) (0 : Int32).toNatClampNeg (some (t1 0))) (1 : Int32).toNatClampNeg (some (t2 0))) (2 : Int32).toNatClampNeg (some (t3 0)))), zSta cI t0 S0, zSto cI t1 S1, zSto cI t2 S2, zSto cI t3 S3, zSto cI t4 S4, zSta cI q S]) := hD
  refine lv_iinc (v := (3 : Int32)) (lv' := [(3, .int (3 : Int32)), (2, .ref (t0 0)), (0, .ref (h 0)), (1, .ref (q 0))]) hx hb dX1_restoreInto_33 hl (k := 0) rfl rfl (by decide) rfl (fun ls hl => ?_)
  refine lv_goto (tgt := 14) hx hb dX1_restoreInto_36 (by decide) ?_
  refine lv_iload_n hx hb dX1_restoreInto_14 rfl (lv_at hl 0 rfl) ?_
  refine lv_iconst (v := 4) hx hb dX1_restoreInto_15 (by decide) ?_
  refine lv_icmp_ge (tgt := 39) hx hb dX1_restoreInto_16 (by decide) (fun c_ => absurd c_ (by decide)) (fun _ => ?_)
  refine lv_aload_n hx hb dX1_restoreInto_19 rfl (lv_at hl 2 rfl) ?_
  refine va_get (D := D) (ci := 1) (v := .ref (h 1)) (C := RX1) (T := TX1) (N := 2) hx hb hz inZ1 hown hK.1 hP 0 rfl rfl 1 (by decide) (hz _ q1_118) (fun _ h9 => h9) rfl dX1_restoreInto_20 ?_
  refine lv_iload_n hx hb dX1_restoreInto_23 rfl (lv_at hl 0 rfl) ?_
  refine lv_aload_n hx hb dX1_restoreInto_24 rfl (lv_at hl 2 rfl) ?_
  refine va_get (D := D) (ci := 1) (v := .ref (h 1)) (C := RX1) (T := TX1) (N := 2) hx hb hz inZ1 hown hK.1 hP 0 rfl rfl 1 (by decide) (hz _ q1_118) (fun _ h9 => h9) rfl dX1_restoreInto_25 ?_
  refine lv_iload_n hx hb dX1_restoreInto_28 rfl (lv_at hl 0 rfl) ?_
  refine lv_iconst (v := 1) hx hb dX1_restoreInto_29 (by decide) ?_
  refine lv_iadd hx hb dX1_restoreInto_30 ?_
  refine z_aldq (f := va_up (va_up (va_up (hQ Z) (0 : Int32).toNatClampNeg (some (t1 0))) (1 : Int32).toNatClampNeg (some (t2 0))) (2 : Int32).toNatClampNeg (some (t3 0))) (v := t4 0) hx hb hK.1 hP 1 1 rfl rfl (i := (4 : Int32)) (z_inC (by decide) (by decide)) (hz4) dX1_restoreInto_31 ?_
  refine va_astq hx hb hK.1 hP hD hS 1 1 17 4 (r := (RX4, TX4, 5)) rfl rfl rfl rfl (i := (3 : Int32)) (z_inC (by decide) (by decide)) dX1_restoreInto_32 (fun H locs hP hD hS => ?_)
  have hP : va_P D vwCl (zB [zHea cQ h (uQ Z (va_up (va_up (va_up (va_up (hQ Z) (0 : Int32).toNatClampNeg (some (t1 0))) (1 : Int32).toNatClampNeg (some (t2 0))) (2 : Int32).toNatClampNeg (some (t3 0))) (3 : Int32).toNatClampNeg (some (t4 0)))), zSta cI t0 S0, zSto cI t1 S1, zSto cI t2 S2, zSto cI t3 S3, zSto cI t4 S4, zSta cI q S]) H := hP
  have hD : va_D (zA (zB [zHea cQ h Z, zSta cI t0 S0, zSto cI t1 S1, zSto cI t2 S2, zSto cI t3 S3, zSto cI t4 S4, zSta cI q S])) (zB [zHea cQ h (uQ Z (va_up (va_up (va_up (va_up (hQ Z) (0 : Int32).toNatClampNeg (some (t1 0))) (1 : Int32).toNatClampNeg (some (t2 0))) (2 : Int32).toNatClampNeg (some (t3 0))) (3 : Int32).toNatClampNeg (some (t4 0)))), zSta cI t0 S0, zSto cI t1 S1, zSto cI t2 S2, zSto cI t3 S3, zSto cI t4 S4, zSta cI q S]) := hD
  refine lv_iinc (v := (4 : Int32)) (lv' := [(3, .int (4 : Int32)), (2, .ref (t0 0)), (0, .ref (h 0)), (1, .ref (q 0))]) hx hb dX1_restoreInto_33 hl (k := 0) rfl rfl (by decide) rfl (fun ls hl => ?_)
  refine lv_goto (tgt := 14) hx hb dX1_restoreInto_36 (by decide) ?_
  refine lv_iload_n hx hb dX1_restoreInto_14 rfl (lv_at hl 0 rfl) ?_
  refine lv_iconst (v := 4) hx hb dX1_restoreInto_15 (by decide) ?_
  refine lv_icmp_ge (tgt := 39) hx hb dX1_restoreInto_16 (by decide) (fun _ => ?_) (fun c_ => absurd (by decide) c_)
  refine lv_aload_n hx hb dX1_restoreInto_39 rfl (lv_at hl 2 rfl) ?_
  refine va_get (D := D) (ci := 1) (v := .ref (h 1)) (C := RX1) (T := TX1) (N := 2) hx hb hz inZ1 hown hK.1 hP 0 rfl rfl 1 (by decide) (hz _ q1_118) (fun _ h9 => h9) rfl dX1_restoreInto_40 ?_
  refine lv_iconst (v := 4) hx hb dX1_restoreInto_43 (by decide) ?_
  refine lv_aload_n hx hb dX1_restoreInto_44 rfl (lv_at hl 1 rfl) ?_
  refine va_astq hx hb hK.1 hP hD hS 1 1 2 4 (r := (RX4, TX4, 5)) rfl rfl rfl rfl (i := (4 : Int32)) (z_inC (by decide) (by decide)) dX1_restoreInto_45 (fun H locs hP hD hS => ?_)
  have hP : va_P D vwCl (zB [zHea cQ h (uQ Z (va_up (va_up (va_up (va_up (va_up (hQ Z) (0 : Int32).toNatClampNeg (some (t1 0))) (1 : Int32).toNatClampNeg (some (t2 0))) (2 : Int32).toNatClampNeg (some (t3 0))) (3 : Int32).toNatClampNeg (some (t4 0))) (4 : Int32).toNatClampNeg (some (t0 0)))), zSta cI t0 S0, zSto cI t1 S1, zSto cI t2 S2, zSto cI t3 S3, zSto cI t4 S4, zSta cI q S]) H := hP
  have hD : va_D (zA (zB [zHea cQ h Z, zSta cI t0 S0, zSto cI t1 S1, zSto cI t2 S2, zSto cI t3 S3, zSto cI t4 S4, zSta cI q S])) (zB [zHea cQ h (uQ Z (va_up (va_up (va_up (va_up (va_up (hQ Z) (0 : Int32).toNatClampNeg (some (t1 0))) (1 : Int32).toNatClampNeg (some (t2 0))) (2 : Int32).toNatClampNeg (some (t3 0))) (3 : Int32).toNatClampNeg (some (t4 0))) (4 : Int32).toNatClampNeg (some (t0 0)))), zSta cI t0 S0, zSto cI t1 S1, zSto cI t2 S2, zSto cI t3 S3, zSto cI t4 S4, zSta cI q S]) := hD
  refine lv_aload_n hx hb dX1_restoreInto_46 rfl (lv_at hl 3 rfl) ?_
  refine lv_aload_n hx hb dX1_restoreInto_47 rfl (lv_at hl 1 rfl) ?_
  refine z_bjv (Rs := [zHea cQ h (uQ Z (va_up (va_up (va_up (va_up (va_up (hQ Z) (0 : Int32).toNatClampNeg (some (t1 0))) (1 : Int32).toNatClampNeg (some (t2 0))) (2 : Int32).toNatClampNeg (some (t3 0))) (3 : Int32).toNatClampNeg (some (t4 0))) (4 : Int32).toNatClampNeg (some (t0 0)))), zSto cI t1 S1, zSto cI t2 S2, zSto cI t3 S3, zSto cI t4 S4]) (va_runV (As := [.ref (t0 0)]) (rest := []) ⟨hx, hb, hml, hown, hz⟩ (c_X4_copyFrom l D cI cQ q t0 S S0) (zcwV 1 hz q1_147 q1_148 q1_149 q1_2 q1_150 hd_X4_copyFrom (Nat.le_of_ble_eq_true rfl) (Nat.le_of_ble_eq_true rfl)) (z_pvw (ci := 4) (q := (RX4, TX4, 5)) hK (zB_sub (Cs := [zSta cI q S, zSta cI t0 S0]) hP [6, 1] rfl) (zB_Dsub (Cs := [zSta cI q S, zSta cI t0 S0]) hD [6, 1] (by decide) rfl) rfl rfl) rfl rfl hl.1 rfl (lv_room (Nat.le_of_ble_eq_true rfl)) dX1_restoreInto_48 ⟨(Nat.le_of_ble_eq_true rfl), (Nat.le_of_ble_eq_true rfl)⟩) hP hD hS [6, 1] [0, 2, 3, 4, 5] rfl rfl (by decide) rfl (fun H locs hP hD hS => ?_)
  have hP : va_P D vwCl (zB [zHea cQ h (uQ Z (va_up (va_up (va_up (va_up (va_up (hQ Z) (0 : Int32).toNatClampNeg (some (t1 0))) (1 : Int32).toNatClampNeg (some (t2 0))) (2 : Int32).toNatClampNeg (some (t3 0))) (3 : Int32).toNatClampNeg (some (t4 0))) (4 : Int32).toNatClampNeg (some (t0 0)))), zSto cI t1 S1, zSto cI t2 S2, zSto cI t3 S3, zSto cI t4 S4, zSta cI q S0, zSta cI t0 S0]) H := hP
  have hD : va_D (zA (zB [zHea cQ h Z, zSta cI t0 S0, zSto cI t1 S1, zSto cI t2 S2, zSto cI t3 S3, zSto cI t4 S4, zSta cI q S])) (zB [zHea cQ h (uQ Z (va_up (va_up (va_up (va_up (va_up (hQ Z) (0 : Int32).toNatClampNeg (some (t1 0))) (1 : Int32).toNatClampNeg (some (t2 0))) (2 : Int32).toNatClampNeg (some (t3 0))) (3 : Int32).toNatClampNeg (some (t4 0))) (4 : Int32).toNatClampNeg (some (t0 0)))), zSto cI t1 S1, zSto cI t2 S2, zSto cI t3 S3, zSto cI t4 S4, zSta cI q S0, zSta cI t0 S0]) := hD
  refine lv_aload_n hx hb dX1_restoreInto_51 rfl (lv_at hl 2 rfl) ?_
  refine lv_aload_n hx hb dX1_restoreInto_52 rfl (lv_at hl 2 rfl) ?_
  refine va_get (D := D) (ci := 1) (v := .int (hN Z)) (C := RX1) (T := TX1) (N := 2) hx hb hz inZ1 hown hK.1 hP 0 rfl rfl 0 (by decide) (hz _ q1_117) (fun _ h9 => h9) rfl dX1_restoreInto_53 ?_
  refine lv_iconst (v := 1) hx hb dX1_restoreInto_56 (by decide) ?_
  refine lv_isub hx hb dX1_restoreInto_57 ?_
  refine lv_iconst (v := 0) hx hb dX1_restoreInto_58 (by decide) ?_
  refine va_mmax hx hb (by rw [hml]; exact hl.1.symm) hown (hz _ q2_173) (hz _ q2_174) (hz _ q1_9) (hz _ q2_175) (Nat.le_of_ble_eq_true rfl) (Nat.le_of_ble_eq_true rfl) (Nat.le_of_ble_eq_true rfl) (Nat.le_of_ble_eq_true rfl) dX1_restoreInto_59 ?_
  refine va_put (D := D) (ci := 1) (v := .int (if ((hN Z) - (1 : Int32)) < (0 : Int32) then (0 : Int32) else ((hN Z) - (1 : Int32)))) (ty := .int) (C := RX1) (T := TX1) (N := 2) hx hb hz inZ1 tyX1 tyX1_ok nmX1 hown hK.1 hP hD hS 0 rfl rfl 0 (by decide) (hz _ q1_117) (fun _ h9 => h9) rfl (by decide +kernel) rfl rfl (Nat.le_of_ble_eq_true rfl) dX1_restoreInto_62 (fun H locs hP hD hS => ?_)
  have hP : va_P D vwCl (zB [zHea cQ h (uN (uQ Z (va_up (va_up (va_up (va_up (va_up (hQ Z) (0 : Int32).toNatClampNeg (some (t1 0))) (1 : Int32).toNatClampNeg (some (t2 0))) (2 : Int32).toNatClampNeg (some (t3 0))) (3 : Int32).toNatClampNeg (some (t4 0))) (4 : Int32).toNatClampNeg (some (t0 0)))) (if ((hN Z) - (1 : Int32)) < (0 : Int32) then (0 : Int32) else ((hN Z) - (1 : Int32)))), zSto cI t1 S1, zSto cI t2 S2, zSto cI t3 S3, zSto cI t4 S4, zSta cI q S0, zSta cI t0 S0]) H := hP
  have hD : va_D (zA (zB [zHea cQ h Z, zSta cI t0 S0, zSto cI t1 S1, zSto cI t2 S2, zSto cI t3 S3, zSto cI t4 S4, zSta cI q S])) (zB [zHea cQ h (uN (uQ Z (va_up (va_up (va_up (va_up (va_up (hQ Z) (0 : Int32).toNatClampNeg (some (t1 0))) (1 : Int32).toNatClampNeg (some (t2 0))) (2 : Int32).toNatClampNeg (some (t3 0))) (3 : Int32).toNatClampNeg (some (t4 0))) (4 : Int32).toNatClampNeg (some (t0 0)))) (if ((hN Z) - (1 : Int32)) < (0 : Int32) then (0 : Int32) else ((hN Z) - (1 : Int32)))), zSto cI t1 S1, zSto cI t2 S2, zSto cI t3 S3, zSto cI t4 S4, zSta cI q S0, zSta cI t0 S0]) := hD
  have hP : va_P D vwCl (zB [zHea cQ h (uN (uQ Z (va_up (va_up (va_up (va_up (va_up (hQ Z) (0 : Int32).toNatClampNeg (some (t1 0))) (1 : Int32).toNatClampNeg (some (t2 0))) (2 : Int32).toNatClampNeg (some (t3 0))) (3 : Int32).toNatClampNeg (some (t4 0))) (4 : Int32).toNatClampNeg (some (t0 0)))) (if ((hN Z) - (1 : Int32)) < (0 : Int32) then (0 : Int32) else ((hN Z) - (1 : Int32)))), zSta cI t0 S0, zSto cI t1 S1, zSto cI t2 S2, zSto cI t3 S3, zSto cI t4 S4, zSta cI q S0]) H := zB_sub (Cs := [zHea cQ h (uN (uQ Z (va_up (va_up (va_up (va_up (va_up (hQ Z) (0 : Int32).toNatClampNeg (some (t1 0))) (1 : Int32).toNatClampNeg (some (t2 0))) (2 : Int32).toNatClampNeg (some (t3 0))) (3 : Int32).toNatClampNeg (some (t4 0))) (4 : Int32).toNatClampNeg (some (t0 0)))) (if ((hN Z) - (1 : Int32)) < (0 : Int32) then (0 : Int32) else ((hN Z) - (1 : Int32)))), zSta cI t0 S0, zSto cI t1 S1, zSto cI t2 S2, zSto cI t3 S3, zSto cI t4 S4, zSta cI q S0]) hP [0, 6, 1, 2, 3, 4, 5] rfl
  exact z_wvret hx hb hr hlocks hP hS (congrArg (fun X => zB X) (z_cons (congrArg (fun T => zHea cQ h T) (show uN (uQ Z (va_up (va_up (va_up (va_up (va_up (hQ Z) (0 : Int32).toNatClampNeg (some (t1 0))) (1 : Int32).toNatClampNeg (some (t2 0))) (2 : Int32).toNatClampNeg (some (t3 0))) (3 : Int32).toNatClampNeg (some (t4 0))) (4 : Int32).toNatClampNeg (some (t0 0)))) (if ((hN Z) - (1 : Int32)) < (0 : Int32) then (0 : Int32) else ((hN Z) - (1 : Int32))) = uN (uQ Z g1) g2 from by (try simp only [hg1, hg2]) <;> (rfl))) (z_cons rfl (z_cons rfl (z_cons rfl (z_cons rfl (z_cons rfl (z_cons rfl rfl)))))))) dX1_restoreInto_65
