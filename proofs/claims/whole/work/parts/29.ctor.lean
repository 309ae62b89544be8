theorem hd_X3_init : yX3_init.cls ≠ "java/lang/invoke/MethodHandle" ∧ yX3_init.cls ≠ "java/lang/invoke/VarHandle" ∧ (parseMethodDescriptor yX3_init.desc).map (fun d => d.parameters.length) = some 0 := by decide +kernel
theorem hd_X0_init : yX0_init.cls ≠ "java/lang/invoke/MethodHandle" ∧ yX0_init.cls ≠ "java/lang/invoke/VarHandle" ∧ (parseMethodDescriptor yX0_init.desc).map (fun d => d.parameters.length) = some 0 := by decide +kernel
theorem hd_X2_init : yX2_init.cls ≠ "java/lang/invoke/MethodHandle" ∧ yX2_init.cls ≠ "java/lang/invoke/VarHandle" ∧ (parseMethodDescriptor yX2_init.desc).map (fun d => d.parameters.length) = some 0 := by decide +kernel
theorem hd_X4_init : yX4_init.cls ≠ "java/lang/invoke/MethodHandle" ∧ yX4_init.cls ≠ "java/lang/invoke/VarHandle" ∧ (parseMethodDescriptor yX4_init.desc).map (fun d => d.parameters.length) = some 0 := by decide +kernel
theorem hd_X1_init : yX1_init.cls ≠ "java/lang/invoke/MethodHandle" ∧ yX1_init.cls ≠ "java/lang/invoke/VarHandle" ∧ (parseMethodDescriptor yX1_init.desc).map (fun d => d.parameters.length) = some 0 := by decide +kernel
theorem hd_X5_init : yX5_init.cls ≠ "java/lang/invoke/MethodHandle" ∧ yX5_init.cls ≠ "java/lang/invoke/VarHandle" ∧ (parseMethodDescriptor yX5_init.desc).map (fun d => d.parameters.length) = some 0 := by decide +kernel
theorem hd_X6_init : yX6_init.cls ≠ "java/lang/invoke/MethodHandle" ∧ yX6_init.cls ≠ "java/lang/invoke/VarHandle" ∧ (parseMethodDescriptor yX6_init.desc).map (fun d => d.parameters.length) = some 0 := by decide +kernel
set_option maxHeartbeats 2000000 in
set_option maxRecDepth 100000 in
theorem c_X3_init (l : Launch) (D : va_G) (cI cQ : ClassId) (h0 : Nat) : zCT l yX3_init (Cond.code yX3_init cX3_init 1 none :: zT) 1 4 160 24 h0 D cI cQ [(h0, .inr (3, [.int 0, .null, .null, .null, .null]))] (fun q : Nat → Nat => q 1 = h0) (fun q : Nat → Nat => zPts cI q cC0) := by
  refine zCT.of (cc := cX3_init) (maxL := 1) (by decide +kernel) rfl rfl (Nat.le_of_ble_eq_true rfl) ?_
  intro pg e s mi args below meth cd A hx hb hr hts hown hlocks hin hml hP hD hS hA hK hO ls hl
  have hz : ∀ w ∈ zT, w.before args s = true := fun w h => hts w (List.mem_cons_of_mem _ h)
  have hl : lv_has ls 1 [(0, .ref h0)] := hl
  refine lv_aload_n hx hb dX3_init_0 rfl (lv_at hl 0 rfl) ?_
  refine W.objInit hx hb hown (hz _ q1_29) (hz _ q1_16) (hz _ q1_17) rfl (by rw [hml]; exact hl.1.symm ▸ rfl) rfl dX3_init_1 (Nat.le_of_ble_eq_true rfl) (Nat.le_of_ble_eq_true rfl) ?_
  refine W.eq (g2 := F0 mi 4 ls []) rfl ?_
  refine lv_aload_n hx hb dX3_init_4 rfl (lv_at hl 0 rfl) ?_
  refine lv_bipush (v := 40) hx hb dX3_init_5 (by decide) ?_
  refine z_newi hx hb hz hK hP hD hS hA (N := 40) (by decide) rfl (Nat.le_of_ble_eq_true rfl) (Nat.le_of_ble_eq_true rfl) (Nat.le_of_ble_eq_true rfl) dX3_init_7 (fun qa H hP hD hS => ?_)
  have hP : va_P D vwCl ([(h0, .inr (3, [.int 0, .null, .null, .null, .null])), (qa, .inl (cI, 40, .inl zzF))]) H := hP
  have hD : va_D A ([(h0, .inr (3, [.int 0, .null, .null, .null, .null])), (qa, .inl (cI, 40, .inl zzF))]) := hD
  refine W.widen (k := 1) (n := 40) (Nat.le_of_ble_eq_true rfl) (Nat.le_of_ble_eq_true rfl) ?_
  refine va_putF (D := D) (ci := 3) (v := .ref qa) (ty := .array .int) (C := RX3) (T := TX3) (N := 5) hx hb hz inZ3 tyX3 tyX3_ok nmX3 hown hK.1 hP hD hS 0 rfl rfl 1 (by decide) (hz _ q1_31) (fun _ h9 => h9) rfl hin rfl (by decide +kernel) rfl rfl (Nat.le_of_ble_eq_true rfl) dX3_init_9 (fun H locs hP hD hS => ?_)
  have hP : va_P D vwCl ([(h0, .inr (3, [.int 0, .ref qa, .null, .null, .null])), (qa, .inl (cI, 40, .inl zzF))]) H := hP
  have hD : va_D A ([(h0, .inr (3, [.int 0, .ref qa, .null, .null, .null])), (qa, .inl (cI, 40, .inl zzF))]) := hD
  refine lv_aload_n hx hb dX3_init_12 rfl (lv_at hl 0 rfl) ?_
  refine lv_bipush (v := 40) hx hb dX3_init_13 (by decide) ?_
  refine z_newi hx hb hz hK hP hD hS hA (N := 40) (by decide) rfl (Nat.le_of_ble_eq_true rfl) (Nat.le_of_ble_eq_true rfl) (Nat.le_of_ble_eq_true rfl) dX3_init_15 (fun qb H hP hD hS => ?_)
  have hP : va_P D vwCl ([(h0, .inr (3, [.int 0, .ref qa, .null, .null, .null])), (qa, .inl (cI, 40, .inl zzF)), (qb, .inl (cI, 40, .inl zzF))]) H := hP
  have hD : va_D A ([(h0, .inr (3, [.int 0, .ref qa, .null, .null, .null])), (qa, .inl (cI, 40, .inl zzF)), (qb, .inl (cI, 40, .inl zzF))]) := hD
  refine W.widen (k := 2) (n := 80) (Nat.le_of_ble_eq_true rfl) (Nat.le_of_ble_eq_true rfl) ?_
  refine va_putF (D := D) (ci := 3) (v := .ref qb) (ty := .array .int) (C := RX3) (T := TX3) (N := 5) hx hb hz inZ3 tyX3 tyX3_ok nmX3 hown hK.1 hP hD hS 0 rfl rfl 2 (by decide) (hz _ q1_32) (fun _ h9 => h9) rfl hin rfl (by decide +kernel) rfl rfl (Nat.le_of_ble_eq_true rfl) dX3_init_17 (fun H locs hP hD hS => ?_)
  have hP : va_P D vwCl ([(h0, .inr (3, [.int 0, .ref qa, .ref qb, .null, .null])), (qa, .inl (cI, 40, .inl zzF)), (qb, .inl (cI, 40, .inl zzF))]) H := hP
  have hD : va_D A ([(h0, .inr (3, [.int 0, .ref qa, .ref qb, .null, .null])), (qa, .inl (cI, 40, .inl zzF)), (qb, .inl (cI, 40, .inl zzF))]) := hD
  refine lv_aload_n hx hb dX3_init_20 rfl (lv_at hl 0 rfl) ?_
  refine lv_bipush (v := 40) hx hb dX3_init_21 (by decide) ?_
  refine z_newi hx hb hz hK hP hD hS hA (N := 40) (by decide) rfl (Nat.le_of_ble_eq_true rfl) (Nat.le_of_ble_eq_true rfl) (Nat.le_of_ble_eq_true rfl) dX3_init_23 (fun qc H hP hD hS => ?_)
  have hP : va_P D vwCl ([(h0, .inr (3, [.int 0, .ref qa, .ref qb, .null, .null])), (qa, .inl (cI, 40, .inl zzF)), (qb, .inl (cI, 40, .inl zzF)), (qc, .inl (cI, 40, .inl zzF))]) H := hP
  have hD : va_D A ([(h0, .inr (3, [.int 0, .ref qa, .ref qb, .null, .null])), (qa, .inl (cI, 40, .inl zzF)), (qb, .inl (cI, 40, .inl zzF)), (qc, .inl (cI, 40, .inl zzF))]) := hD
  refine W.widen (k := 3) (n := 120) (Nat.le_of_ble_eq_true rfl) (Nat.le_of_ble_eq_true rfl) ?_
  refine va_putF (D := D) (ci := 3) (v := .ref qc) (ty := .array .int) (C := RX3) (T := TX3) (N := 5) hx hb hz inZ3 tyX3 tyX3_ok nmX3 hown hK.1 hP hD hS 0 rfl rfl 3 (by decide) (hz _ q1_33) (fun _ h9 => h9) rfl hin rfl (by decide +kernel) rfl rfl (Nat.le_of_ble_eq_true rfl) dX3_init_25 (fun H locs hP hD hS => ?_)
  have hP : va_P D vwCl ([(h0, .inr (3, [.int 0, .ref qa, .ref qb, .ref qc, .null])), (qa, .inl (cI, 40, .inl zzF)), (qb, .inl (cI, 40, .inl zzF)), (qc, .inl (cI, 40, .inl zzF))]) H := hP
  have hD : va_D A ([(h0, .inr (3, [.int 0, .ref qa, .ref qb, .ref qc, .null])), (qa, .inl (cI, 40, .inl zzF)), (qb, .inl (cI, 40, .inl zzF)), (qc, .inl (cI, 40, .inl zzF))]) := hD
  refine lv_aload_n hx hb dX3_init_28 rfl (lv_at hl 0 rfl) ?_
  refine lv_bipush (v := 40) hx hb dX3_init_29 (by decide) ?_
  refine z_newi hx hb hz hK hP hD hS hA (N := 40) (by decide) rfl (Nat.le_of_ble_eq_true rfl) (Nat.le_of_ble_eq_true rfl) (Nat.le_of_ble_eq_true rfl) dX3_init_31 (fun qd H hP hD hS => ?_)
  have hP : va_P D vwCl ([(h0, .inr (3, [.int 0, .ref qa, .ref qb, .ref qc, .null])), (qa, .inl (cI, 40, .inl zzF)), (qb, .inl (cI, 40, .inl zzF)), (qc, .inl (cI, 40, .inl zzF)), (qd, .inl (cI, 40, .inl zzF))]) H := hP
  have hD : va_D A ([(h0, .inr (3, [.int 0, .ref qa, .ref qb, .ref qc, .null])), (qa, .inl (cI, 40, .inl zzF)), (qb, .inl (cI, 40, .inl zzF)), (qc, .inl (cI, 40, .inl zzF)), (qd, .inl (cI, 40, .inl zzF))]) := hD
  refine W.widen (k := 4) (n := 160) (Nat.le_of_ble_eq_true rfl) (Nat.le_of_ble_eq_true rfl) ?_
  refine va_putF (D := D) (ci := 3) (v := .ref qd) (ty := .array .int) (C := RX3) (T := TX3) (N := 5) hx hb hz inZ3 tyX3 tyX3_ok nmX3 hown hK.1 hP hD hS 0 rfl rfl 4 (by decide) (hz _ q1_34) (fun _ h9 => h9) rfl hin rfl (by decide +kernel) rfl rfl (Nat.le_of_ble_eq_true rfl) dX3_init_33 (fun H locs hP hD hS => ?_)
  have hP : va_P D vwCl ([(h0, .inr (3, [.int 0, .ref qa, .ref qb, .ref qc, .ref qd])), (qa, .inl (cI, 40, .inl zzF)), (qb, .inl (cI, 40, .inl zzF)), (qc, .inl (cI, 40, .inl zzF)), (qd, .inl (cI, 40, .inl zzF))]) H := hP
  have hD : va_D A ([(h0, .inr (3, [.int 0, .ref qa, .ref qb, .ref qc, .ref qd])), (qa, .inl (cI, 40, .inl zzF)), (qb, .inl (cI, 40, .inl zzF)), (qc, .inl (cI, 40, .inl zzF)), (qd, .inl (cI, 40, .inl zzF))]) := hD
  exact W.vret hx hb hr (fun t ht hW => ⟨⟨zq3 h0 qa qb qc qd, rfl, rfl, by rw [ht]; exact hP, hD⟩, hS.F ht⟩) hS.2.2 dX3_init_36 hlocks
set_option maxHeartbeats 2000000 in
set_option maxRecDepth 100000 in
theorem c_X0_init (l : Launch) (D : va_G) (cI cQ : ClassId) (h0 : Nat) : zCT l yX0_init (Cond.code yX0_init cX0_init 1 none :: zT) 1 1 1600 24 h0 D cI cQ [(h0, .inr (0, [.null]))] (fun q : Nat → Nat => q 10 = h0) (fun q : Nat → Nat => zDeb cI q cC0) := by
  refine zCT.of (cc := cX0_init) (maxL := 1) (by decide +kernel) rfl rfl (Nat.le_of_ble_eq_true rfl) ?_
  intro pg e s mi args below meth cd A hx hb hr hts hown hlocks hin hml hP hD hS hA hK hO ls hl
  have hz : ∀ w ∈ zT, w.before args s = true := fun w h => hts w (List.mem_cons_of_mem _ h)
  have hl : lv_has ls 1 [(0, .ref h0)] := hl
  refine lv_aload_n hx hb dX0_init_0 rfl (lv_at hl 0 rfl) ?_
  refine W.objInit hx hb hown (hz _ q1_82) (hz _ q1_16) (hz _ q1_17) rfl (by rw [hml]; exact hl.1.symm ▸ rfl) rfl dX0_init_1 (Nat.le_of_ble_eq_true rfl) (Nat.le_of_ble_eq_true rfl) ?_
  refine W.eq (g2 := F0 mi 4 ls []) rfl ?_
  refine lv_aload_n hx hb dX0_init_4 rfl (lv_at hl 0 rfl) ?_
  refine lv_sipush (v := 1600) hx hb dX0_init_5 (by decide) ?_
  refine z_newi hx hb hz hK hP hD hS hA (N := 1600) (by decide) rfl (Nat.le_of_ble_eq_true rfl) (Nat.le_of_ble_eq_true rfl) (Nat.le_of_ble_eq_true rfl) dX0_init_8 (fun qa H hP hD hS => ?_)
  have hP : va_P D vwCl ([(h0, .inr (0, [.null])), (qa, .inl (cI, 1600, .inl zzF))]) H := hP
  have hD : va_D A ([(h0, .inr (0, [.null])), (qa, .inl (cI, 1600, .inl zzF))]) := hD
  refine W.widen (k := 1) (n := 1600) (Nat.le_of_ble_eq_true rfl) (Nat.le_of_ble_eq_true rfl) ?_
  refine va_putF (D := D) (ci := 0) (v := .ref qa) (ty := .array .int) (C := RX0) (T := TX0) (N := 1) hx hb hz inZ0 tyX0 tyX0_ok nmX0 hown hK.1 hP hD hS 0 rfl rfl 0 (by decide) (hz _ q1_83) (fun _ h9 => h9) rfl hin rfl (by decide +kernel) rfl rfl (Nat.le_of_ble_eq_true rfl) dX0_init_10 (fun H locs hP hD hS => ?_)
  have hP : va_P D vwCl ([(h0, .inr (0, [.ref qa])), (qa, .inl (cI, 1600, .inl zzF))]) H := hP
  have hD : va_D A ([(h0, .inr (0, [.ref qa])), (qa, .inl (cI, 1600, .inl zzF))]) := hD
  exact W.vret hx hb hr (fun t ht hW => ⟨⟨zq0 h0 qa, rfl, rfl, by rw [ht]; exact hP, hD⟩, hS.F ht⟩) hS.2.2 dX0_init_13 hlocks
set_option maxHeartbeats 2000000 in
set_option maxRecDepth 100000 in
theorem c_X2_init (l : Launch) (D : va_G) (cI cQ : ClassId) (h0 : Nat) : zCT l yX2_init (Cond.code yX2_init cX2_init 2 none :: zT) 3 3 120 70 h0 D cI cQ [(h0, .inr (2, [.int 0, .null, .null, .null]))] (fun q : Nat → Nat => q 6 = h0) (fun q : Nat → Nat => zPar cI q cC0) := by
  refine zCT.of (cc := cX2_init) (maxL := 2) (by decide +kernel) rfl rfl (Nat.le_of_ble_eq_true rfl) ?_
  intro pg e s mi args below meth cd A hx hb hr hts hown hlocks hin hml hP hD hS hA hK hO ls hl
  have hz : ∀ w ∈ zT, w.before args s = true := fun w h => hts w (List.mem_cons_of_mem _ h)
  have hl : lv_has ls 2 [(0, .ref h0)] := hl
  refine lv_aload_n hx hb dX2_init_0 rfl (lv_at hl 0 rfl) ?_
  refine W.objInit hx hb hown (hz _ q1_52) (hz _ q1_16) (hz _ q1_17) rfl (by rw [hml]; exact hl.1.symm ▸ rfl) rfl dX2_init_1 (Nat.le_of_ble_eq_true rfl) (Nat.le_of_ble_eq_true rfl) ?_
  refine W.eq (g2 := F0 mi 4 ls []) rfl ?_
  refine lv_aload_n hx hb dX2_init_4 rfl (lv_at hl 0 rfl) ?_
  refine lv_bipush (v := 40) hx hb dX2_init_5 (by decide) ?_
  refine z_newi hx hb hz hK hP hD hS hA (N := 40) (by decide) rfl (Nat.le_of_ble_eq_true rfl) (Nat.le_of_ble_eq_true rfl) (Nat.le_of_ble_eq_true rfl) dX2_init_7 (fun qa H hP hD hS => ?_)
  have hP : va_P D vwCl ([(h0, .inr (2, [.int 0, .null, .null, .null])), (qa, .inl (cI, 40, .inl zzF))]) H := hP
  have hD : va_D A ([(h0, .inr (2, [.int 0, .null, .null, .null])), (qa, .inl (cI, 40, .inl zzF))]) := hD
  refine W.widen (k := 1) (n := 40) (Nat.le_of_ble_eq_true rfl) (Nat.le_of_ble_eq_true rfl) ?_
  refine va_putF (D := D) (ci := 2) (v := .ref qa) (ty := .array .int) (C := RX2) (T := TX2) (N := 4) hx hb hz inZ2 tyX2 tyX2_ok nmX2 hown hK.1 hP hD hS 0 rfl rfl 1 (by decide) (hz _ q1_65) (fun _ h9 => h9) rfl hin rfl (by decide +kernel) rfl rfl (Nat.le_of_ble_eq_true rfl) dX2_init_9 (fun H locs hP hD hS => ?_)
  have hP : va_P D vwCl ([(h0, .inr (2, [.int 0, .ref qa, .null, .null])), (qa, .inl (cI, 40, .inl zzF))]) H := hP
  have hD : va_D A ([(h0, .inr (2, [.int 0, .ref qa, .null, .null])), (qa, .inl (cI, 40, .inl zzF))]) := hD
  refine lv_aload_n hx hb dX2_init_12 rfl (lv_at hl 0 rfl) ?_
  refine lv_bipush (v := 40) hx hb dX2_init_13 (by decide) ?_
  refine z_newi hx hb hz hK hP hD hS hA (N := 40) (by decide) rfl (Nat.le_of_ble_eq_true rfl) (Nat.le_of_ble_eq_true rfl) (Nat.le_of_ble_eq_true rfl) dX2_init_15 (fun qb H hP hD hS => ?_)
  have hP : va_P D vwCl ([(h0, .inr (2, [.int 0, .ref qa, .null, .null])), (qa, .inl (cI, 40, .inl zzF)), (qb, .inl (cI, 40, .inl zzF))]) H := hP
  have hD : va_D A ([(h0, .inr (2, [.int 0, .ref qa, .null, .null])), (qa, .inl (cI, 40, .inl zzF)), (qb, .inl (cI, 40, .inl zzF))]) := hD
  refine W.widen (k := 2) (n := 80) (Nat.le_of_ble_eq_true rfl) (Nat.le_of_ble_eq_true rfl) ?_
  refine va_putF (D := D) (ci := 2) (v := .ref qb) (ty := .array .int) (C := RX2) (T := TX2) (N := 4) hx hb hz inZ2 tyX2 tyX2_ok nmX2 hown hK.1 hP hD hS 0 rfl rfl 2 (by decide) (hz _ q1_66) (fun _ h9 => h9) rfl hin rfl (by decide +kernel) rfl rfl (Nat.le_of_ble_eq_true rfl) dX2_init_17 (fun H locs hP hD hS => ?_)
  have hP : va_P D vwCl ([(h0, .inr (2, [.int 0, .ref qa, .ref qb, .null])), (qa, .inl (cI, 40, .inl zzF)), (qb, .inl (cI, 40, .inl zzF))]) H := hP
  have hD : va_D A ([(h0, .inr (2, [.int 0, .ref qa, .ref qb, .null])), (qa, .inl (cI, 40, .inl zzF)), (qb, .inl (cI, 40, .inl zzF))]) := hD
  refine lv_aload_n hx hb dX2_init_20 rfl (lv_at hl 0 rfl) ?_
  refine lv_bipush (v := 40) hx hb dX2_init_21 (by decide) ?_
  refine z_newi hx hb hz hK hP hD hS hA (N := 40) (by decide) rfl (Nat.le_of_ble_eq_true rfl) (Nat.le_of_ble_eq_true rfl) (Nat.le_of_ble_eq_true rfl) dX2_init_23 (fun qc H hP hD hS => ?_)
  have hP : va_P D vwCl ([(h0, .inr (2, [.int 0, .ref qa, .ref qb, .null])), (qa, .inl (cI, 40, .inl zzF)), (qb, .inl (cI, 40, .inl zzF)), (qc, .inl (cI, 40, .inl zzF))]) H := hP
  have hD : va_D A ([(h0, .inr (2, [.int 0, .ref qa, .ref qb, .null])), (qa, .inl (cI, 40, .inl zzF)), (qb, .inl (cI, 40, .inl zzF)), (qc, .inl (cI, 40, .inl zzF))]) := hD
  refine W.widen (k := 3) (n := 120) (Nat.le_of_ble_eq_true rfl) (Nat.le_of_ble_eq_true rfl) ?_
  refine va_putF (D := D) (ci := 2) (v := .ref qc) (ty := .array .int) (C := RX2) (T := TX2) (N := 4) hx hb hz inZ2 tyX2 tyX2_ok nmX2 hown hK.1 hP hD hS 0 rfl rfl 3 (by decide) (hz _ q1_67) (fun _ h9 => h9) rfl hin rfl (by decide +kernel) rfl rfl (Nat.le_of_ble_eq_true rfl) dX2_init_25 (fun H locs hP hD hS => ?_)
  have hP : va_P D vwCl ([(h0, .inr (2, [.int 0, .ref qa, .ref qb, .ref qc])), (qa, .inl (cI, 40, .inl zzF)), (qb, .inl (cI, 40, .inl zzF)), (qc, .inl (cI, 40, .inl zzF))]) H := hP
  have hD : va_D A ([(h0, .inr (2, [.int 0, .ref qa, .ref qb, .ref qc])), (qa, .inl (cI, 40, .inl zzF)), (qb, .inl (cI, 40, .inl zzF)), (qc, .inl (cI, 40, .inl zzF))]) := hD
  refine lv_iconst (v := 0) hx hb dX2_init_28 (by decide) ?_
  refine lv_istore_n (lv' := [(1, .int (0 : Int32)), (0, .ref h0)]) hx hb dX2_init_29 rfl hl (by decide) rfl (fun ls hl => ?_)
  have L : ∀ (n k : Nat), k ≤ 40 → 40 < k + n → ∀ (H : Heap) (locs : List Loc), va_P D vwCl ([(h0, .inr (2, [.int 0, .ref qa, .ref qb, .ref qc])), (qa, .inl (cI, 40, .inl zzF)), (qb, .inl (cI, 40, .inl zzF)), (qc, .inl (cI, 40, .inl (flS k)))]) H → va_D A ([(h0, .inr (2, [.int 0, .ref qa, .ref qb, .ref qc])), (qa, .inl (cI, 40, .inl zzF)), (qb, .inl (cI, 40, .inl zzF)), (qc, .inl (cI, 40, .inl (flS k)))]) → va_S A s.heap H locs → ∀ (ls : Array Slot), lv_has ls 2 [(1, .int (nI k)), (0, .ref h0)] → W pg l e ({ frames := 3, cells := 3, slots := 120, locals := 70 }) s mi args below meth cd H locs 3 120 (MQ below (va_Qv (fun q : Nat → Nat => q 6 = h0) (fun q t => va_P D vwCl (zPar cI q cC0) t.heap ∧ va_D A (zPar cI q cC0)) A) args s 3 120 A) (F0 mi 30 ls []) := by
    intro n
    induction n with
    | zero => intro k h1 h2; exact absurd h2 (by omega)
    | succ n ih =>
      intro k h1 h2 H locs hP hD hS ls hl
      refine lv_iload_n hx hb dX2_init_30 rfl (lv_at hl 0 rfl) ?_
      refine lv_bipush (v := 40) hx hb dX2_init_31 (by decide) ?_
      refine lv_icmp_ge (tgt := 49) hx hb dX2_init_33 (by decide) (fun c_7 => ?_) (fun c_7 => ?_)
      · have hk : k = 40 := z_exit (by decide) h1 c_7
        subst hk
        refine lv_aload_n hx hb dX2_init_49 rfl (lv_at hl 1 rfl) ?_
        refine lv_iconst (v := 0) hx hb dX2_init_50 (by decide) ?_
        refine lv_iconst (v := 0) hx hb dX2_init_51 (by decide) ?_
        refine lv_iconst (v := 0) hx hb dX2_init_52 (by decide) ?_
        have hP : va_P D vwCl (zPar cI (zq2 h0 qa qb qc) ((4, 3), (0, zzF, zzF, zzF, zzF), (0, zzF, zzF, flS 40), zzF)) H := hP
        have hD : va_D A (zPar cI (zq2 h0 qa qb qc) ((4, 3), (0, zzF, zzF, zzF, zzF), (0, zzF, zzF, flS 40), zzF)) := hD
        refine z_wi (X' := zPar cI (zq2 h0 qa qb qc) cC0) (va_runV (As := [.int 0, .int 0, .int 0]) (rest := []) ⟨hx, hb, hml, hown, hz⟩ (c_X2_found l D cI cQ (zq2 h0 qa qb qc) ((4, 3), (0, zzF, zzF, zzF, zzF), (0, zzF, zzF, flS 40), zzF) 0 0 0 1 (by rw [rFo1, rRoom, if_pos (by decide)]; rfl) (upd zzF (0 : Int32).toNatClampNeg 0) (by rw [rGiv, if_pos (by decide)]) (upd zzF (0 : Int32).toNatClampNeg 0) (by rw [rGiv, if_pos (by decide)]) (upd (flS 40) (0 : Int32).toNatClampNeg 0) (by rw [rGiv, if_pos (by decide)])) (zcwV 3 hz q1_53 q1_54 q1_55 q1_4 q1_56 hd_X2_found (Nat.le_of_ble_eq_true rfl) (Nat.le_of_ble_eq_true rfl)) (z_pvw (ci := 2) (q := (RX2, TX2, 4)) hK hP hD rfl rfl) rfl rfl hl.1 rfl (lv_room (Nat.le_of_ble_eq_true rfl)) dX2_init_53 ⟨(Nat.le_of_ble_eq_true rfl), (Nat.le_of_ble_eq_true rfl)⟩) hP hD hS [0, 1, 2, 3] rfl rfl rfl (fun H locs hP hD hS => ?_)
        refine lv_pop hx hb dX2_init_56 rfl ?_
        exact W.vret hx hb hr (fun t ht hW => ⟨⟨zq2 h0 qa qb qc, rfl, rfl, by rw [ht]; exact hP, hD⟩, hS.F ht⟩) hS.2.2 dX2_init_57 hlocks
      · have hk : k < 40 := z_cont (by decide) h1 c_7
        refine lv_aload_n hx hb dX2_init_36 rfl (lv_at hl 1 rfl) ?_
        refine va_get (D := D) (ci := 2) (v := .ref qc) (C := RX2) (T := TX2) (N := 4) hx hb hz inZ2 hown hK.1 hP 0 rfl rfl 3 (by decide) (hz _ q1_67) (fun _ h9 => h9) rfl dX2_init_37 ?_
        refine lv_iload_n hx hb dX2_init_40 rfl (lv_at hl 0 rfl) ?_
        refine lv_iconst (v := -1) hx hb dX2_init_41 (by decide) ?_
        refine va_iast hx hb hK.1 hP hD hS 3 0 rfl rfl (i := nI k) (vp_in_nI hk (by decide)) dX2_init_42 (fun H locs hP hD hS => ?_)
        refine lv_iinc (v := nI (k + 1)) (lv' := [(1, .int (nI (k + 1))), (0, .ref h0)]) hx hb dX2_init_43 hl (k := 0) rfl (nI_1 k) (by decide) rfl (fun ls hl => ?_)
        refine lv_goto (tgt := 30) hx hb dX2_init_46 (by decide) ?_
        exact ih (k + 1) (by omega) (by omega) H locs hP hD hS ls hl
  exact L 41 0 (Nat.zero_le _) (by omega) H locs hP hD hS ls hl
set_option maxHeartbeats 2000000 in
set_option maxRecDepth 100000 in
theorem c_X4_init (l : Launch) (D : va_G) (cI cQ : ClassId) (h0 : Nat) : zCT l yX4_init (Cond.code yX4_init cX4_init 1 none :: zT) 4 11 1890 91 h0 D cI cQ [(h0, .inr (4, [.int 0, .int 0, .null, .null, .null]))] (fun q : Nat → Nat => q 0 = h0) (fun q : Nat → Nat => zSta cI q cC0) := by
  refine zCT.of (cc := cX4_init) (maxL := 1) (by decide +kernel) rfl rfl (Nat.le_of_ble_eq_true rfl) ?_
  intro pg e s mi args below meth cd A hx hb hr hts hown hlocks hin hml hP hD hS hA hK hO ls hl
  have hz : ∀ w ∈ zT, w.before args s = true := fun w h => hts w (List.mem_cons_of_mem _ h)
  have hl : lv_has ls 1 [(0, .ref h0)] := hl
  refine lv_aload_n hx hb dX4_init_0 rfl (lv_at hl 0 rfl) ?_
  refine W.objInit hx hb hown (hz _ q1_23) (hz _ q1_16) (hz _ q1_17) rfl (by rw [hml]; exact hl.1.symm ▸ rfl) rfl dX4_init_1 (Nat.le_of_ble_eq_true rfl) (Nat.le_of_ble_eq_true rfl) ?_
  refine W.eq (g2 := F0 mi 4 ls []) rfl ?_
  refine lv_aload_n hx hb dX4_init_4 rfl (lv_at hl 0 rfl) ?_
  refine lv_iconst (v := 4) hx hb dX4_init_5 (by decide) ?_
  refine va_put (D := D) (ci := 4) (v := .int 4) (ty := .int) (C := RX4) (T := TX4) (N := 5) hx hb hz inZ4 tyX4 tyX4_ok nmX4 hown hK.1 hP hD hS 0 rfl rfl 0 (by decide) (hz _ q1_87) (fun _ h9 => h9) rfl (by decide +kernel) rfl rfl (Nat.le_of_ble_eq_true rfl) dX4_init_6 (fun H locs hP hD hS => ?_)
  have hP : va_P D vwCl ([(h0, .inr (4, [.int 4, .int 0, .null, .null, .null]))]) H := hP
  have hD : va_D A ([(h0, .inr (4, [.int 4, .int 0, .null, .null, .null]))]) := hD
  refine lv_aload_n hx hb dX4_init_9 rfl (lv_at hl 0 rfl) ?_
  refine lv_iconst (v := 3) hx hb dX4_init_10 (by decide) ?_
  refine va_put (D := D) (ci := 4) (v := .int 3) (ty := .int) (C := RX4) (T := TX4) (N := 5) hx hb hz inZ4 tyX4 tyX4_ok nmX4 hown hK.1 hP hD hS 0 rfl rfl 1 (by decide) (hz _ q1_89) (fun _ h9 => h9) rfl (by decide +kernel) rfl rfl (Nat.le_of_ble_eq_true rfl) dX4_init_11 (fun H locs hP hD hS => ?_)
  have hP : va_P D vwCl ([(h0, .inr (4, [.int 4, .int 3, .null, .null, .null]))]) H := hP
  have hD : va_D A ([(h0, .inr (4, [.int 4, .int 3, .null, .null, .null]))]) := hD
  refine lv_aload_n hx hb dX4_init_14 rfl (lv_at hl 0 rfl) ?_
  refine va_new (ci := 3) (fs := [.int 0, .null, .null, .null, .null]) (C := RX3) (T := TX3) (N := 5) hx hb hz inZ3 tyX3 tyX3_ok hown (hz _ q1_24) (hz _ q1_25) (hz _ q1_3) hK.1 hP hD hS hA rfl (fun j hj => by rcases (show j = 0 ∨ j = 1 ∨ j = 2 ∨ j = 3 ∨ j = 4 by omega) with rfl | rfl | rfl | rfl | rfl <;> rfl) (Nat.le_of_ble_eq_true rfl) (Nat.le_of_ble_eq_true rfl) dX4_init_15 (fun p0 H hP hD hS => ?_)
  have hP : va_P D vwCl ([(h0, .inr (4, [.int 4, .int 3, .null, .null, .null])), (p0, .inr (3, [.int 0, .null, .null, .null, .null]))]) H := hP
  have hD : va_D A ([(h0, .inr (4, [.int 4, .int 3, .null, .null, .null])), (p0, .inr (3, [.int 0, .null, .null, .null, .null]))]) := hD
  refine W.widen (k := 1) (n := 5) (Nat.le_of_ble_eq_true rfl) (Nat.le_of_ble_eq_true rfl) ?_
  refine lv_dup hx hb dX4_init_18 rfl ?_
  refine z_ct (wr := [(h0, .inr (4, [.int 4, .int 3, .null, .null, .null]))]) (wc := [(p0, .inr (3, [.int 0, .null, .null, .null, .null]))]) (va_runIN (As := []) (rest := [.ref p0, .ref h0]) ⟨hx, hb, hml, hown, hz⟩ (c_X3_init l D cI cQ p0 H.size) (zcnI hz q1_27 q1_3 q1_28 (hK.2.2.1) rfl hd_X3_init (Nat.le_of_ble_eq_true rfl) (Nat.le_of_ble_eq_true rfl)) (z_pci (wr := [(h0, .inr (4, [.int 4, .int 3, .null, .null, .null]))]) hK hO hP hD) rfl rfl hl.1 rfl (lv_room (Nat.le_of_ble_eq_true rfl)) dX4_init_19 ⟨(Nat.le_of_ble_eq_true rfl), (Nat.le_of_ble_eq_true rfl)⟩) hP hD hS hA (fun qp Hn locsn hw hPn hDn hSn => ?_)
  refine W.widen (k := 5) (n := 165) (Nat.le_of_ble_eq_true rfl) (Nat.le_of_ble_eq_true rfl) ?_
  subst hw
  have hP := hPn
  have hD := hDn
  have hS := hSn
  have hP : va_P D vwCl ([(h0, .inr (4, [.int 4, .int 3, .null, .null, .null])), (qp 1, .inr (3, [.int 0, .ref (qp 2), .ref (qp 3), .ref (qp 4), .ref (qp 5)])), (qp 2, .inl (cI, 40, .inl zzF)), (qp 3, .inl (cI, 40, .inl zzF)), (qp 4, .inl (cI, 40, .inl zzF)), (qp 5, .inl (cI, 40, .inl zzF))]) Hn := hP
  have hD : va_D A ([(h0, .inr (4, [.int 4, .int 3, .null, .null, .null])), (qp 1, .inr (3, [.int 0, .ref (qp 2), .ref (qp 3), .ref (qp 4), .ref (qp 5)])), (qp 2, .inl (cI, 40, .inl zzF)), (qp 3, .inl (cI, 40, .inl zzF)), (qp 4, .inl (cI, 40, .inl zzF)), (qp 5, .inl (cI, 40, .inl zzF))]) := hD
  refine va_putF (D := D) (ci := 4) (v := .ref (qp 1)) (ty := .object "TitheGrid$Points") (C := RX4) (T := TX4) (N := 5) hx hb hz inZ4 tyX4 tyX4_ok nmX4 hown hK.1 hP hD hS 0 rfl rfl 2 (by decide) (hz _ q1_91) (fun _ h9 => h9) rfl hin rfl (by decide +kernel) rfl rfl (Nat.le_of_ble_eq_true rfl) dX4_init_22 (fun H locs hP hD hS => ?_)
  have hP : va_P D vwCl ([(h0, .inr (4, [.int 4, .int 3, .ref (qp 1), .null, .null])), (qp 1, .inr (3, [.int 0, .ref (qp 2), .ref (qp 3), .ref (qp 4), .ref (qp 5)])), (qp 2, .inl (cI, 40, .inl zzF)), (qp 3, .inl (cI, 40, .inl zzF)), (qp 4, .inl (cI, 40, .inl zzF)), (qp 5, .inl (cI, 40, .inl zzF))]) H := hP
  have hD : va_D A ([(h0, .inr (4, [.int 4, .int 3, .ref (qp 1), .null, .null])), (qp 1, .inr (3, [.int 0, .ref (qp 2), .ref (qp 3), .ref (qp 4), .ref (qp 5)])), (qp 2, .inl (cI, 40, .inl zzF)), (qp 3, .inl (cI, 40, .inl zzF)), (qp 4, .inl (cI, 40, .inl zzF)), (qp 5, .inl (cI, 40, .inl zzF))]) := hD
  refine lv_aload_n hx hb dX4_init_25 rfl (lv_at hl 0 rfl) ?_
  refine va_new (ci := 2) (fs := [.int 0, .null, .null, .null]) (C := RX2) (T := TX2) (N := 4) hx hb hz inZ2 tyX2 tyX2_ok hown (hz _ q1_47) (hz _ q1_48) (hz _ q1_4) hK.1 hP hD hS hA rfl (fun j hj => by rcases (show j = 0 ∨ j = 1 ∨ j = 2 ∨ j = 3 by omega) with rfl | rfl | rfl | rfl <;> rfl) (Nat.le_of_ble_eq_true rfl) (Nat.le_of_ble_eq_true rfl) dX4_init_26 (fun p0 H hP hD hS => ?_)
  have hP : va_P D vwCl ([(h0, .inr (4, [.int 4, .int 3, .ref (qp 1), .null, .null])), (qp 1, .inr (3, [.int 0, .ref (qp 2), .ref (qp 3), .ref (qp 4), .ref (qp 5)])), (qp 2, .inl (cI, 40, .inl zzF)), (qp 3, .inl (cI, 40, .inl zzF)), (qp 4, .inl (cI, 40, .inl zzF)), (qp 5, .inl (cI, 40, .inl zzF)), (p0, .inr (2, [.int 0, .null, .null, .null]))]) H := hP
  have hD : va_D A ([(h0, .inr (4, [.int 4, .int 3, .ref (qp 1), .null, .null])), (qp 1, .inr (3, [.int 0, .ref (qp 2), .ref (qp 3), .ref (qp 4), .ref (qp 5)])), (qp 2, .inl (cI, 40, .inl zzF)), (qp 3, .inl (cI, 40, .inl zzF)), (qp 4, .inl (cI, 40, .inl zzF)), (qp 5, .inl (cI, 40, .inl zzF)), (p0, .inr (2, [.int 0, .null, .null, .null]))]) := hD
  refine W.widen (k := 6) (n := 169) (Nat.le_of_ble_eq_true rfl) (Nat.le_of_ble_eq_true rfl) ?_
  refine lv_dup hx hb dX4_init_29 rfl ?_
  refine z_ct (wr := [(h0, .inr (4, [.int 4, .int 3, .ref (qp 1), .null, .null])), (qp 1, .inr (3, [.int 0, .ref (qp 2), .ref (qp 3), .ref (qp 4), .ref (qp 5)])), (qp 2, .inl (cI, 40, .inl zzF)), (qp 3, .inl (cI, 40, .inl zzF)), (qp 4, .inl (cI, 40, .inl zzF)), (qp 5, .inl (cI, 40, .inl zzF))]) (wc := [(p0, .inr (2, [.int 0, .null, .null, .null]))]) (va_runI (As := []) (rest := [.ref p0, .ref h0]) ⟨hx, hb, hml, hown, hz⟩ (c_X2_init l D cI cQ p0 H.size) (zcwI hz q1_49 q1_50 q1_4 q1_51 rfl hd_X2_init (Nat.le_of_ble_eq_true rfl) (Nat.le_of_ble_eq_true rfl)) (z_pci (wr := [(h0, .inr (4, [.int 4, .int 3, .ref (qp 1), .null, .null])), (qp 1, .inr (3, [.int 0, .ref (qp 2), .ref (qp 3), .ref (qp 4), .ref (qp 5)])), (qp 2, .inl (cI, 40, .inl zzF)), (qp 3, .inl (cI, 40, .inl zzF)), (qp 4, .inl (cI, 40, .inl zzF)), (qp 5, .inl (cI, 40, .inl zzF))]) hK hO hP hD) rfl rfl hl.1 rfl (lv_room (Nat.le_of_ble_eq_true rfl)) dX4_init_30 ⟨(Nat.le_of_ble_eq_true rfl), (Nat.le_of_ble_eq_true rfl)⟩) hP hD hS hA (fun qr Hn locsn hw hPn hDn hSn => ?_)
  refine W.widen (k := 9) (n := 289) (Nat.le_of_ble_eq_true rfl) (Nat.le_of_ble_eq_true rfl) ?_
  subst hw
  have hP := hPn
  have hD := hDn
  have hS := hSn
  have hP : va_P D vwCl ([(h0, .inr (4, [.int 4, .int 3, .ref (qp 1), .null, .null])), (qp 1, .inr (3, [.int 0, .ref (qp 2), .ref (qp 3), .ref (qp 4), .ref (qp 5)])), (qp 2, .inl (cI, 40, .inl zzF)), (qp 3, .inl (cI, 40, .inl zzF)), (qp 4, .inl (cI, 40, .inl zzF)), (qp 5, .inl (cI, 40, .inl zzF)), (qr 6, .inr (2, [.int 1, .ref (qr 7), .ref (qr 8), .ref (qr 9)])), (qr 7, .inl (cI, 40, .inl (upd zzF (0 : Int32).toNatClampNeg 0))), (qr 8, .inl (cI, 40, .inl (upd zzF (0 : Int32).toNatClampNeg 0))), (qr 9, .inl (cI, 40, .inl (upd (flS 40) (0 : Int32).toNatClampNeg 0)))]) Hn := hP
  have hD : va_D A ([(h0, .inr (4, [.int 4, .int 3, .ref (qp 1), .null, .null])), (qp 1, .inr (3, [.int 0, .ref (qp 2), .ref (qp 3), .ref (qp 4), .ref (qp 5)])), (qp 2, .inl (cI, 40, .inl zzF)), (qp 3, .inl (cI, 40, .inl zzF)), (qp 4, .inl (cI, 40, .inl zzF)), (qp 5, .inl (cI, 40, .inl zzF)), (qr 6, .inr (2, [.int 1, .ref (qr 7), .ref (qr 8), .ref (qr 9)])), (qr 7, .inl (cI, 40, .inl (upd zzF (0 : Int32).toNatClampNeg 0))), (qr 8, .inl (cI, 40, .inl (upd zzF (0 : Int32).toNatClampNeg 0))), (qr 9, .inl (cI, 40, .inl (upd (flS 40) (0 : Int32).toNatClampNeg 0)))]) := hD
  refine va_putF (D := D) (ci := 4) (v := .ref (qr 6)) (ty := .object "TitheGrid$Parishes") (C := RX4) (T := TX4) (N := 5) hx hb hz inZ4 tyX4 tyX4_ok nmX4 hown hK.1 hP hD hS 0 rfl rfl 3 (by decide) (hz _ q1_93) (fun _ h9 => h9) rfl hin rfl (by decide +kernel) rfl rfl (Nat.le_of_ble_eq_true rfl) dX4_init_33 (fun H locs hP hD hS => ?_)
  have hP : va_P D vwCl ([(h0, .inr (4, [.int 4, .int 3, .ref (qp 1), .ref (qr 6), .null])), (qp 1, .inr (3, [.int 0, .ref (qp 2), .ref (qp 3), .ref (qp 4), .ref (qp 5)])), (qp 2, .inl (cI, 40, .inl zzF)), (qp 3, .inl (cI, 40, .inl zzF)), (qp 4, .inl (cI, 40, .inl zzF)), (qp 5, .inl (cI, 40, .inl zzF)), (qr 6, .inr (2, [.int 1, .ref (qr 7), .ref (qr 8), .ref (qr 9)])), (qr 7, .inl (cI, 40, .inl (upd zzF (0 : Int32).toNatClampNeg 0))), (qr 8, .inl (cI, 40, .inl (upd zzF (0 : Int32).toNatClampNeg 0))), (qr 9, .inl (cI, 40, .inl (upd (flS 40) (0 : Int32).toNatClampNeg 0)))]) H := hP
  have hD : va_D A ([(h0, .inr (4, [.int 4, .int 3, .ref (qp 1), .ref (qr 6), .null])), (qp 1, .inr (3, [.int 0, .ref (qp 2), .ref (qp 3), .ref (qp 4), .ref (qp 5)])), (qp 2, .inl (cI, 40, .inl zzF)), (qp 3, .inl (cI, 40, .inl zzF)), (qp 4, .inl (cI, 40, .inl zzF)), (qp 5, .inl (cI, 40, .inl zzF)), (qr 6, .inr (2, [.int 1, .ref (qr 7), .ref (qr 8), .ref (qr 9)])), (qr 7, .inl (cI, 40, .inl (upd zzF (0 : Int32).toNatClampNeg 0))), (qr 8, .inl (cI, 40, .inl (upd zzF (0 : Int32).toNatClampNeg 0))), (qr 9, .inl (cI, 40, .inl (upd (flS 40) (0 : Int32).toNatClampNeg 0)))]) := hD
  refine lv_aload_n hx hb dX4_init_36 rfl (lv_at hl 0 rfl) ?_
  refine va_new (ci := 0) (fs := [.null]) (C := RX0) (T := TX0) (N := 1) hx hb hz inZ0 tyX0 tyX0_ok hown (hz _ q1_77) (hz _ q1_78) (hz _ q1_5) hK.1 hP hD hS hA rfl (fun j hj => by rcases (show j = 0 by omega) with rfl <;> rfl) (Nat.le_of_ble_eq_true rfl) (Nat.le_of_ble_eq_true rfl) dX4_init_37 (fun p0 H hP hD hS => ?_)
  have hP : va_P D vwCl ([(h0, .inr (4, [.int 4, .int 3, .ref (qp 1), .ref (qr 6), .null])), (qp 1, .inr (3, [.int 0, .ref (qp 2), .ref (qp 3), .ref (qp 4), .ref (qp 5)])), (qp 2, .inl (cI, 40, .inl zzF)), (qp 3, .inl (cI, 40, .inl zzF)), (qp 4, .inl (cI, 40, .inl zzF)), (qp 5, .inl (cI, 40, .inl zzF)), (qr 6, .inr (2, [.int 1, .ref (qr 7), .ref (qr 8), .ref (qr 9)])), (qr 7, .inl (cI, 40, .inl (upd zzF (0 : Int32).toNatClampNeg 0))), (qr 8, .inl (cI, 40, .inl (upd zzF (0 : Int32).toNatClampNeg 0))), (qr 9, .inl (cI, 40, .inl (upd (flS 40) (0 : Int32).toNatClampNeg 0))), (p0, .inr (0, [.null]))]) H := hP
  have hD : va_D A ([(h0, .inr (4, [.int 4, .int 3, .ref (qp 1), .ref (qr 6), .null])), (qp 1, .inr (3, [.int 0, .ref (qp 2), .ref (qp 3), .ref (qp 4), .ref (qp 5)])), (qp 2, .inl (cI, 40, .inl zzF)), (qp 3, .inl (cI, 40, .inl zzF)), (qp 4, .inl (cI, 40, .inl zzF)), (qp 5, .inl (cI, 40, .inl zzF)), (qr 6, .inr (2, [.int 1, .ref (qr 7), .ref (qr 8), .ref (qr 9)])), (qr 7, .inl (cI, 40, .inl (upd zzF (0 : Int32).toNatClampNeg 0))), (qr 8, .inl (cI, 40, .inl (upd zzF (0 : Int32).toNatClampNeg 0))), (qr 9, .inl (cI, 40, .inl (upd (flS 40) (0 : Int32).toNatClampNeg 0))), (p0, .inr (0, [.null]))]) := hD
  refine W.widen (k := 10) (n := 290) (Nat.le_of_ble_eq_true rfl) (Nat.le_of_ble_eq_true rfl) ?_
  refine lv_dup hx hb dX4_init_40 rfl ?_
  refine z_ct (wr := [(h0, .inr (4, [.int 4, .int 3, .ref (qp 1), .ref (qr 6), .null])), (qp 1, .inr (3, [.int 0, .ref (qp 2), .ref (qp 3), .ref (qp 4), .ref (qp 5)])), (qp 2, .inl (cI, 40, .inl zzF)), (qp 3, .inl (cI, 40, .inl zzF)), (qp 4, .inl (cI, 40, .inl zzF)), (qp 5, .inl (cI, 40, .inl zzF)), (qr 6, .inr (2, [.int 1, .ref (qr 7), .ref (qr 8), .ref (qr 9)])), (qr 7, .inl (cI, 40, .inl (upd zzF (0 : Int32).toNatClampNeg 0))), (qr 8, .inl (cI, 40, .inl (upd zzF (0 : Int32).toNatClampNeg 0))), (qr 9, .inl (cI, 40, .inl (upd (flS 40) (0 : Int32).toNatClampNeg 0)))]) (wc := [(p0, .inr (0, [.null]))]) (va_runIN (As := []) (rest := [.ref p0, .ref h0]) ⟨hx, hb, hml, hown, hz⟩ (c_X0_init l D cI cQ p0 H.size) (zcnI hz q1_80 q1_5 q1_81 (hK.2.2.2.2.1) rfl hd_X0_init (Nat.le_of_ble_eq_true rfl) (Nat.le_of_ble_eq_true rfl)) (z_pci (wr := [(h0, .inr (4, [.int 4, .int 3, .ref (qp 1), .ref (qr 6), .null])), (qp 1, .inr (3, [.int 0, .ref (qp 2), .ref (qp 3), .ref (qp 4), .ref (qp 5)])), (qp 2, .inl (cI, 40, .inl zzF)), (qp 3, .inl (cI, 40, .inl zzF)), (qp 4, .inl (cI, 40, .inl zzF)), (qp 5, .inl (cI, 40, .inl zzF)), (qr 6, .inr (2, [.int 1, .ref (qr 7), .ref (qr 8), .ref (qr 9)])), (qr 7, .inl (cI, 40, .inl (upd zzF (0 : Int32).toNatClampNeg 0))), (qr 8, .inl (cI, 40, .inl (upd zzF (0 : Int32).toNatClampNeg 0))), (qr 9, .inl (cI, 40, .inl (upd (flS 40) (0 : Int32).toNatClampNeg 0)))]) hK hO hP hD) rfl rfl hl.1 rfl (lv_room (Nat.le_of_ble_eq_true rfl)) dX4_init_41 ⟨(Nat.le_of_ble_eq_true rfl), (Nat.le_of_ble_eq_true rfl)⟩) hP hD hS hA (fun qd Hn locsn hw hPn hDn hSn => ?_)
  refine W.widen (k := 11) (n := 1890) (Nat.le_of_ble_eq_true rfl) (Nat.le_of_ble_eq_true rfl) ?_
  subst hw
  have hP := hPn
  have hD := hDn
  have hS := hSn
  have hP : va_P D vwCl ([(h0, .inr (4, [.int 4, .int 3, .ref (qp 1), .ref (qr 6), .null])), (qp 1, .inr (3, [.int 0, .ref (qp 2), .ref (qp 3), .ref (qp 4), .ref (qp 5)])), (qp 2, .inl (cI, 40, .inl zzF)), (qp 3, .inl (cI, 40, .inl zzF)), (qp 4, .inl (cI, 40, .inl zzF)), (qp 5, .inl (cI, 40, .inl zzF)), (qr 6, .inr (2, [.int 1, .ref (qr 7), .ref (qr 8), .ref (qr 9)])), (qr 7, .inl (cI, 40, .inl (upd zzF (0 : Int32).toNatClampNeg 0))), (qr 8, .inl (cI, 40, .inl (upd zzF (0 : Int32).toNatClampNeg 0))), (qr 9, .inl (cI, 40, .inl (upd (flS 40) (0 : Int32).toNatClampNeg 0))), (qd 10, .inr (0, [.ref (qd 11)])), (qd 11, .inl (cI, 1600, .inl zzF))]) Hn := hP
  have hD : va_D A ([(h0, .inr (4, [.int 4, .int 3, .ref (qp 1), .ref (qr 6), .null])), (qp 1, .inr (3, [.int 0, .ref (qp 2), .ref (qp 3), .ref (qp 4), .ref (qp 5)])), (qp 2, .inl (cI, 40, .inl zzF)), (qp 3, .inl (cI, 40, .inl zzF)), (qp 4, .inl (cI, 40, .inl zzF)), (qp 5, .inl (cI, 40, .inl zzF)), (qr 6, .inr (2, [.int 1, .ref (qr 7), .ref (qr 8), .ref (qr 9)])), (qr 7, .inl (cI, 40, .inl (upd zzF (0 : Int32).toNatClampNeg 0))), (qr 8, .inl (cI, 40, .inl (upd zzF (0 : Int32).toNatClampNeg 0))), (qr 9, .inl (cI, 40, .inl (upd (flS 40) (0 : Int32).toNatClampNeg 0))), (qd 10, .inr (0, [.ref (qd 11)])), (qd 11, .inl (cI, 1600, .inl zzF))]) := hD
  refine va_putF (D := D) (ci := 4) (v := .ref (qd 10)) (ty := .object "TitheGrid$Debts") (C := RX4) (T := TX4) (N := 5) hx hb hz inZ4 tyX4 tyX4_ok nmX4 hown hK.1 hP hD hS 0 rfl rfl 4 (by decide) (hz _ q1_95) (fun _ h9 => h9) rfl hin rfl (by decide +kernel) rfl rfl (Nat.le_of_ble_eq_true rfl) dX4_init_44 (fun H locs hP hD hS => ?_)
  have hP : va_P D vwCl ([(h0, .inr (4, [.int 4, .int 3, .ref (qp 1), .ref (qr 6), .ref (qd 10)])), (qp 1, .inr (3, [.int 0, .ref (qp 2), .ref (qp 3), .ref (qp 4), .ref (qp 5)])), (qp 2, .inl (cI, 40, .inl zzF)), (qp 3, .inl (cI, 40, .inl zzF)), (qp 4, .inl (cI, 40, .inl zzF)), (qp 5, .inl (cI, 40, .inl zzF)), (qr 6, .inr (2, [.int 1, .ref (qr 7), .ref (qr 8), .ref (qr 9)])), (qr 7, .inl (cI, 40, .inl (upd zzF (0 : Int32).toNatClampNeg 0))), (qr 8, .inl (cI, 40, .inl (upd zzF (0 : Int32).toNatClampNeg 0))), (qr 9, .inl (cI, 40, .inl (upd (flS 40) (0 : Int32).toNatClampNeg 0))), (qd 10, .inr (0, [.ref (qd 11)])), (qd 11, .inl (cI, 1600, .inl zzF))]) H := hP
  have hD : va_D A ([(h0, .inr (4, [.int 4, .int 3, .ref (qp 1), .ref (qr 6), .ref (qd 10)])), (qp 1, .inr (3, [.int 0, .ref (qp 2), .ref (qp 3), .ref (qp 4), .ref (qp 5)])), (qp 2, .inl (cI, 40, .inl zzF)), (qp 3, .inl (cI, 40, .inl zzF)), (qp 4, .inl (cI, 40, .inl zzF)), (qp 5, .inl (cI, 40, .inl zzF)), (qr 6, .inr (2, [.int 1, .ref (qr 7), .ref (qr 8), .ref (qr 9)])), (qr 7, .inl (cI, 40, .inl (upd zzF (0 : Int32).toNatClampNeg 0))), (qr 8, .inl (cI, 40, .inl (upd zzF (0 : Int32).toNatClampNeg 0))), (qr 9, .inl (cI, 40, .inl (upd (flS 40) (0 : Int32).toNatClampNeg 0))), (qd 10, .inr (0, [.ref (qd 11)])), (qd 11, .inl (cI, 1600, .inl zzF))]) := hD
  exact W.vret hx hb hr (fun t ht hW => ⟨⟨zq4 h0 qp qr qd, rfl, rfl, by rw [ht]; exact hP, hD⟩, hS.F ht⟩) hS.2.2 dX4_init_47 hlocks
set_option maxHeartbeats 2000000 in
set_option maxRecDepth 100000 in
theorem X1_step {pg : Program} {l : Launch} {e : Env} {s : State} {mi : MethodId} {args : Array Value} {below : List Frame} {meth : Method} {cd : Code} {Q : State → Prop} {D : va_G} {cI cQ : ClassId} {A : Nat → Prop} {h0 qa : Nat} (hx : pg.tables.exec = Jvm.exec) (hb : cd.code = cX1_init) (hown : s.vm.findClass yX1_init.cls = some mi.cls) (hml : cd.maxLocals = 2) (hz : ∀ w ∈ zT, w.before args s = true) (hA : ∀ q : Nat, s.heap.size ≤ q → A q) (hK : zK D cI cQ s) (hO : va_AO RX4 s) (i : Nat) (hi : i < 5) (f : Nat → Option Nat) (wr : va_W) (H : Heap) (locs : List Loc) (ls : Array Slot) (hP : va_P D vwCl ((h0, .inr (1, [.int 0, .ref qa])) :: (qa, .inl (cQ, 5, .inr (.inr (.inr (.inr (f)))))) :: wr) H) (hD : va_D A ((h0, .inr (1, [.int 0, .ref qa])) :: (qa, .inl (cQ, 5, .inr (.inr (.inr (.inr (f)))))) :: wr)) (hS : va_S A s.heap H locs) (hl : lv_has ls 2 [(1, .int (nI i)), (0, .ref h0)])
    (kk : ∀ (t : Nat → Nat) (H : Heap) (locs : List Loc) (ls : Array Slot), va_P D vwCl ((h0, .inr (1, [.int 0, .ref qa])) :: (qa, .inl (cQ, 5, .inr (.inr (.inr (.inr (va_up f (nI i).toNatClampNeg (some (t 0)))))))) :: (wr ++ zSta cI t cC0)) H → va_D A ((h0, .inr (1, [.int 0, .ref qa])) :: (qa, .inl (cQ, 5, .inr (.inr (.inr (.inr (va_up f (nI i).toNatClampNeg (some (t 0)))))))) :: (wr ++ zSta cI t cC0)) → va_S A s.heap H locs → lv_has ls 2 [(1, .int (nI (i + 1))), (0, .ref h0)] → W pg l e ({ frames := 5, cells := 61, slots := 9480, locals := 111 }) s mi args below meth cd H locs (1 + 12 * (i + 1)) (5 + 1895 * (i + 1)) Q (F0 mi 14 ls [])) : W pg l e ({ frames := 5, cells := 61, slots := 9480, locals := 111 }) s mi args below meth cd H locs (1 + 12 * i) (5 + 1895 * i) Q (F0 mi 14 ls []) := by
  refine lv_iload_n hx hb dX1_init_14 rfl (lv_at hl 0 rfl) ?_
  refine lv_iconst (v := 5) hx hb dX1_init_15 (by decide) ?_
  refine lv_icmp_ge (tgt := 38) hx hb dX1_init_16 (by decide) (fun c_7 => ?_) (fun c_7 => ?_)
  · exact absurd (z_exit (N := 5) (by decide) (by omega) c_7) (by omega)
  · refine lv_aload_n hx hb dX1_init_19 rfl (lv_at hl 1 rfl) ?_
    refine va_get (D := D) (ci := 1) (v := .ref qa) (C := RX1) (T := TX1) (N := 2) hx hb hz inZ1 hown hK.1 hP 0 rfl rfl 1 (by decide) (hz _ q1_118) (fun _ h9 => h9) rfl dX1_init_20 ?_
    refine lv_iload_n hx hb dX1_init_23 rfl (lv_at hl 0 rfl) ?_
    refine va_new (ci := 4) (fs := [.int 0, .int 0, .null, .null, .null]) (C := RX4) (T := TX4) (N := 5) hx hb hz inZ4 tyX4 tyX4_ok hown (hz _ q1_114) (hz _ q1_19) (hz _ q1_2) hK.1 hP hD hS hA rfl (fun j hj => by rcases (show j = 0 ∨ j = 1 ∨ j = 2 ∨ j = 3 ∨ j = 4 by omega) with rfl | rfl | rfl | rfl | rfl <;> rfl) (by show 1 + 12 * i + 1 ≤ 61; omega) (by show 5 + 1895 * i + 5 ≤ 9480; omega) dX1_init_24 (fun p0 H hP hD hS => ?_)
    have hP : va_P D vwCl (((h0, .inr (1, [.int 0, .ref qa])) :: (qa, .inl (cQ, 5, .inr (.inr (.inr (.inr (f)))))) :: wr) ++ [(p0, .inr (4, [.int 0, .int 0, .null, .null, .null]))]) H := hP
    have hD : va_D A (((h0, .inr (1, [.int 0, .ref qa])) :: (qa, .inl (cQ, 5, .inr (.inr (.inr (.inr (f)))))) :: wr) ++ [(p0, .inr (4, [.int 0, .int 0, .null, .null, .null]))]) := hD
    refine lv_dup hx hb dX1_init_27 rfl ?_
    refine z_ct (wr := ((h0, .inr (1, [.int 0, .ref qa])) :: (qa, .inl (cQ, 5, .inr (.inr (.inr (.inr (f)))))) :: wr)) (wc := [(p0, .inr (4, [.int 0, .int 0, .null, .null, .null]))]) (va_runIN (As := []) (rest := [.ref p0, .int (nI i), .ref qa]) ⟨hx, hb, hml, hown, hz⟩ (c_X4_init l D cI cQ p0 H.size) (zcnI hz q1_21 q1_2 q1_22 (hK.2.2.2.2.2.1) rfl hd_X4_init (Nat.le_of_ble_eq_true rfl) (Nat.le_of_ble_eq_true rfl)) (z_pci (wr := ((h0, .inr (1, [.int 0, .ref qa])) :: (qa, .inl (cQ, 5, .inr (.inr (.inr (.inr (f)))))) :: wr)) hK hO hP hD) rfl rfl hl.1 rfl (lv_room (Nat.le_of_ble_eq_true rfl)) dX1_init_28 ⟨(by show 1 + 12 * i + 1 + 11 ≤ 61; omega), (by show 5 + 1895 * i + 5 + 1890 ≤ 9480; omega)⟩) hP hD hS hA (fun t Hn locsn hw hPn hDn hSn => ?_)
    subst hw
    have hP := hPn
    have hD := hDn
    have hS := hSn
    refine va_astq (v := t 0) hx hb hK.1 hP hD hS 1 1 (2 + wr.length) 4 rfl rfl (by show ((_ :: _ :: (wr ++ zSta cI t cC0) : va_W))[2 + wr.length]? = _; rw [show 2 + wr.length = wr.length + 1 + 1 by omega, List.getElem?_cons_succ, List.getElem?_cons_succ]; rw [List.getElem?_append_right (by omega)]; simp; rfl) rfl (i := nI i) (vp_in_nI hi (by decide)) dX1_init_31 (fun H locs hP hD hS => ?_)
    refine lv_iinc (v := nI (i + 1)) (lv' := [(1, .int (nI (i + 1))), (0, .ref h0)]) hx hb dX1_init_32 hl (k := 0) rfl (nI_1 i) (by decide) rfl (fun ls hl => ?_)
    refine lv_goto (tgt := 14) hx hb dX1_init_35 (by decide) ?_
    refine W.widen (k := 1 + 12 * (i + 1)) (n := 5 + 1895 * (i + 1)) (by omega) (by omega) ?_
    exact kk t H locs ls hP hD hS hl
set_option maxHeartbeats 2000000 in
set_option maxRecDepth 100000 in
theorem c_X1_init (l : Launch) (D : va_G) (cI cQ : ClassId) (h0 : Nat) : zCT l yX1_init (Cond.code yX1_init cX1_init 2 none :: zT) 5 61 9480 111 h0 D cI cQ [(h0, .inr (1, [.int 0, .null]))] (fun q : (Nat → Nat) × (Nat → Nat → Nat) => q.1 0 = h0) (fun q : (Nat → Nat) × (Nat → Nat → Nat) => zF1 cI cQ q) := by
  refine zCT.of (cc := cX1_init) (maxL := 2) (by decide +kernel) rfl rfl (Nat.le_of_ble_eq_true rfl) ?_
  intro pg e s mi args below meth cd A hx hb hr hts hown hlocks hin hml hP hD hS hA hK hO ls hl
  have hz : ∀ w ∈ zT, w.before args s = true := fun w h => hts w (List.mem_cons_of_mem _ h)
  have hl : lv_has ls 2 [(0, .ref h0)] := hl
  refine lv_aload_n hx hb dX1_init_0 rfl (lv_at hl 0 rfl) ?_
  refine W.objInit hx hb hown (hz _ q1_113) (hz _ q1_16) (hz _ q1_17) rfl (by rw [hml]; exact hl.1.symm ▸ rfl) rfl dX1_init_1 (Nat.le_of_ble_eq_true rfl) (Nat.le_of_ble_eq_true rfl) ?_
  refine W.eq (g2 := F0 mi 4 ls []) rfl ?_
  refine lv_aload_n hx hb dX1_init_4 rfl (lv_at hl 0 rfl) ?_
  refine lv_iconst (v := 5) hx hb dX1_init_5 (by decide) ?_
  refine z_newq hx hb hown (hz _ q1_114) hO hK hP hD hS hA (N := 5) (by decide) rfl (Nat.le_of_ble_eq_true rfl) (Nat.le_of_ble_eq_true rfl) (Nat.le_of_ble_eq_true rfl) dX1_init_6 (fun qa H hP hD hS => ?_)
  have hP : va_P D vwCl ([(h0, .inr (1, [.int 0, .null])), (qa, .inl (cQ, 5, .inr (.inr (.inr (.inr (fun _ => none))))))]) H := hP
  have hD : va_D A ([(h0, .inr (1, [.int 0, .null])), (qa, .inl (cQ, 5, .inr (.inr (.inr (.inr (fun _ => none))))))]) := hD
  refine W.widen (k := 1) (n := 5) (Nat.le_of_ble_eq_true rfl) (Nat.le_of_ble_eq_true rfl) ?_
  refine va_putF (D := D) (ci := 1) (v := .ref qa) (ty := .array (.object "TitheGrid$State")) (C := RX1) (T := TX1) (N := 2) hx hb hz inZ1 tyX1 tyX1_ok nmX1 hown hK.1 hP hD hS 0 rfl rfl 1 (by decide) (hz _ q1_118) (fun _ h9 => h9) rfl hin rfl (by decide +kernel) rfl rfl (Nat.le_of_ble_eq_true rfl) dX1_init_9 (fun H locs hP hD hS => ?_)
  have hP : va_P D vwCl ([(h0, .inr (1, [.int 0, .ref qa])), (qa, .inl (cQ, 5, .inr (.inr (.inr (.inr (fun _ => none))))))]) H := hP
  have hD : va_D A ([(h0, .inr (1, [.int 0, .ref qa])), (qa, .inl (cQ, 5, .inr (.inr (.inr (.inr (fun _ => none))))))]) := hD
  refine lv_iconst (v := 0) hx hb dX1_init_12 (by decide) ?_
  refine lv_istore_n (lv' := [(1, .int (0 : Int32)), (0, .ref h0)]) hx hb dX1_init_13 rfl hl (by decide) rfl (fun ls hl => ?_)
  refine X1_step hx hb hown hml hz hA hK hO 0 (by decide) _ _ H locs ls hP hD hS hl (fun t0 H locs ls hP hD hS hl => ?_)
  refine X1_step hx hb hown hml hz hA hK hO 1 (by decide) _ _ H locs ls hP hD hS hl (fun t1 H locs ls hP hD hS hl => ?_)
  refine X1_step hx hb hown hml hz hA hK hO 2 (by decide) _ _ H locs ls hP hD hS hl (fun t2 H locs ls hP hD hS hl => ?_)
  refine X1_step hx hb hown hml hz hA hK hO 3 (by decide) _ _ H locs ls hP hD hS hl (fun t3 H locs ls hP hD hS hl => ?_)
  refine X1_step hx hb hown hml hz hA hK hO 4 (by decide) _ _ H locs ls hP hD hS hl (fun t4 H locs ls hP hD hS hl => ?_)
  refine lv_iload_n hx hb dX1_init_14 rfl (lv_at hl 0 rfl) ?_
  refine lv_iconst (v := 5) hx hb dX1_init_15 (by decide) ?_
  refine lv_icmp_ge (tgt := 38) hx hb dX1_init_16 (by decide) (fun c_7 => ?_) (fun c_7 => absurd (show (5 : Int32) ≤ nI 5 by decide) c_7)
  exact W.vret hx hb hr (fun t ht hW => ⟨⟨(zq1 h0 qa, zt5 t0 t1 t2 t3 t4), rfl, rfl, by rw [ht]; exact hP, hD⟩, hS.F ht⟩) hS.2.2 dX1_init_38 hlocks
set_option maxHeartbeats 2000000 in
set_option maxRecDepth 100000 in
theorem c_X5_init (l : Launch) (D : va_G) (cI cQ : ClassId) (h0 : Nat) : zCT l yX5_init (Cond.code yX5_init cX5_init 1 none :: zT) 6 74 11377 132 h0 D cI cQ [(h0, .inr (5, [.null, .null]))] (fun q : (Nat → Nat) × (Nat → Nat) × (Nat → Nat) × (Nat → Nat → Nat) => q.1 0 = h0) (fun q : (Nat → Nat) × (Nat → Nat) × (Nat → Nat) × (Nat → Nat → Nat) => zF5 cI cQ q) := by
  refine zCT.of (cc := cX5_init) (maxL := 1) (by decide +kernel) rfl rfl (Nat.le_of_ble_eq_true rfl) ?_
  intro pg e s mi args below meth cd A hx hb hr hts hown hlocks hin hml hP hD hS hA hK hO ls hl
  have hz : ∀ w ∈ zT, w.before args s = true := fun w h => hts w (List.mem_cons_of_mem _ h)
  have hl : lv_has ls 1 [(0, .ref h0)] := hl
  refine lv_aload_n hx hb dX5_init_0 rfl (lv_at hl 0 rfl) ?_
  refine W.objInit hx hb hown (hz _ q1_15) (hz _ q1_16) (hz _ q1_17) rfl (by rw [hml]; exact hl.1.symm ▸ rfl) rfl dX5_init_1 (Nat.le_of_ble_eq_true rfl) (Nat.le_of_ble_eq_true rfl) ?_
  refine W.eq (g2 := F0 mi 4 ls []) rfl ?_
  refine lv_aload_n hx hb dX5_init_4 rfl (lv_at hl 0 rfl) ?_
  refine va_new (ci := 4) (fs := [.int 0, .int 0, .null, .null, .null]) (C := RX4) (T := TX4) (N := 5) hx hb hz inZ4 tyX4 tyX4_ok hown (hz _ q1_18) (hz _ q1_19) (hz _ q1_2) hK.1 hP hD hS hA rfl (fun j hj => by rcases (show j = 0 ∨ j = 1 ∨ j = 2 ∨ j = 3 ∨ j = 4 by omega) with rfl | rfl | rfl | rfl | rfl <;> rfl) (Nat.le_of_ble_eq_true rfl) (Nat.le_of_ble_eq_true rfl) dX5_init_5 (fun p0 H hP hD hS => ?_)
  have hP : va_P D vwCl ([(h0, .inr (5, [.null, .null])), (p0, .inr (4, [.int 0, .int 0, .null, .null, .null]))]) H := hP
  have hD : va_D A ([(h0, .inr (5, [.null, .null])), (p0, .inr (4, [.int 0, .int 0, .null, .null, .null]))]) := hD
  refine W.widen (k := 1) (n := 5) (Nat.le_of_ble_eq_true rfl) (Nat.le_of_ble_eq_true rfl) ?_
  refine lv_dup hx hb dX5_init_8 rfl ?_
  refine z_ct (wr := [(h0, .inr (5, [.null, .null]))]) (wc := [(p0, .inr (4, [.int 0, .int 0, .null, .null, .null]))]) (va_runIN (As := []) (rest := [.ref p0, .ref h0]) ⟨hx, hb, hml, hown, hz⟩ (c_X4_init l D cI cQ p0 H.size) (zcnI hz q1_21 q1_2 q1_22 (hK.2.1) rfl hd_X4_init (Nat.le_of_ble_eq_true rfl) (Nat.le_of_ble_eq_true rfl)) (z_pci (wr := [(h0, .inr (5, [.null, .null]))]) hK hO hP hD) rfl rfl hl.1 rfl (lv_room (Nat.le_of_ble_eq_true rfl)) dX5_init_9 ⟨(Nat.le_of_ble_eq_true rfl), (Nat.le_of_ble_eq_true rfl)⟩) hP hD hS hA (fun q Hn locsn hw hPn hDn hSn => ?_)
  refine W.widen (k := 12) (n := 1895) (Nat.le_of_ble_eq_true rfl) (Nat.le_of_ble_eq_true rfl) ?_
  subst hw
  have hP := hPn
  have hD := hDn
  have hS := hSn
  have hP : va_P D vwCl ([(h0, .inr (5, [.null, .null])), (q 0, .inr (4, [.int 4, .int 3, .ref (q 1), .ref (q 6), .ref (q 10)])), (q 1, .inr (3, [.int 0, .ref (q 2), .ref (q 3), .ref (q 4), .ref (q 5)])), (q 2, .inl (cI, 40, .inl zzF)), (q 3, .inl (cI, 40, .inl zzF)), (q 4, .inl (cI, 40, .inl zzF)), (q 5, .inl (cI, 40, .inl zzF)), (q 6, .inr (2, [.int 1, .ref (q 7), .ref (q 8), .ref (q 9)])), (q 7, .inl (cI, 40, .inl (upd zzF (0 : Int32).toNatClampNeg 0))), (q 8, .inl (cI, 40, .inl (upd zzF (0 : Int32).toNatClampNeg 0))), (q 9, .inl (cI, 40, .inl (upd (flS 40) (0 : Int32).toNatClampNeg 0))), (q 10, .inr (0, [.ref (q 11)])), (q 11, .inl (cI, 1600, .inl zzF))]) Hn := hP
  have hD : va_D A ([(h0, .inr (5, [.null, .null])), (q 0, .inr (4, [.int 4, .int 3, .ref (q 1), .ref (q 6), .ref (q 10)])), (q 1, .inr (3, [.int 0, .ref (q 2), .ref (q 3), .ref (q 4), .ref (q 5)])), (q 2, .inl (cI, 40, .inl zzF)), (q 3, .inl (cI, 40, .inl zzF)), (q 4, .inl (cI, 40, .inl zzF)), (q 5, .inl (cI, 40, .inl zzF)), (q 6, .inr (2, [.int 1, .ref (q 7), .ref (q 8), .ref (q 9)])), (q 7, .inl (cI, 40, .inl (upd zzF (0 : Int32).toNatClampNeg 0))), (q 8, .inl (cI, 40, .inl (upd zzF (0 : Int32).toNatClampNeg 0))), (q 9, .inl (cI, 40, .inl (upd (flS 40) (0 : Int32).toNatClampNeg 0))), (q 10, .inr (0, [.ref (q 11)])), (q 11, .inl (cI, 1600, .inl zzF))]) := hD
  refine va_putF (D := D) (ci := 5) (v := .ref (q 0)) (ty := .object "TitheGrid$State") (C := RX5) (T := TX5) (N := 2) hx hb hz inZ5 tyX5 tyX5_ok nmX5 hown hK.1 hP hD hS 0 rfl rfl 0 (by decide) (hz _ q1_124) (fun _ h9 => h9) rfl hin rfl (by decide +kernel) rfl rfl (Nat.le_of_ble_eq_true rfl) dX5_init_12 (fun H locs hP hD hS => ?_)
  have hP : va_P D vwCl ([(h0, .inr (5, [.ref (q 0), .null])), (q 0, .inr (4, [.int 4, .int 3, .ref (q 1), .ref (q 6), .ref (q 10)])), (q 1, .inr (3, [.int 0, .ref (q 2), .ref (q 3), .ref (q 4), .ref (q 5)])), (q 2, .inl (cI, 40, .inl zzF)), (q 3, .inl (cI, 40, .inl zzF)), (q 4, .inl (cI, 40, .inl zzF)), (q 5, .inl (cI, 40, .inl zzF)), (q 6, .inr (2, [.int 1, .ref (q 7), .ref (q 8), .ref (q 9)])), (q 7, .inl (cI, 40, .inl (upd zzF (0 : Int32).toNatClampNeg 0))), (q 8, .inl (cI, 40, .inl (upd zzF (0 : Int32).toNatClampNeg 0))), (q 9, .inl (cI, 40, .inl (upd (flS 40) (0 : Int32).toNatClampNeg 0))), (q 10, .inr (0, [.ref (q 11)])), (q 11, .inl (cI, 1600, .inl zzF))]) H := hP
  have hD : va_D A ([(h0, .inr (5, [.ref (q 0), .null])), (q 0, .inr (4, [.int 4, .int 3, .ref (q 1), .ref (q 6), .ref (q 10)])), (q 1, .inr (3, [.int 0, .ref (q 2), .ref (q 3), .ref (q 4), .ref (q 5)])), (q 2, .inl (cI, 40, .inl zzF)), (q 3, .inl (cI, 40, .inl zzF)), (q 4, .inl (cI, 40, .inl zzF)), (q 5, .inl (cI, 40, .inl zzF)), (q 6, .inr (2, [.int 1, .ref (q 7), .ref (q 8), .ref (q 9)])), (q 7, .inl (cI, 40, .inl (upd zzF (0 : Int32).toNatClampNeg 0))), (q 8, .inl (cI, 40, .inl (upd zzF (0 : Int32).toNatClampNeg 0))), (q 9, .inl (cI, 40, .inl (upd (flS 40) (0 : Int32).toNatClampNeg 0))), (q 10, .inr (0, [.ref (q 11)])), (q 11, .inl (cI, 1600, .inl zzF))]) := hD
  refine lv_aload_n hx hb dX5_init_15 rfl (lv_at hl 0 rfl) ?_
  refine va_new (ci := 1) (fs := [.int 0, .null]) (C := RX1) (T := TX1) (N := 2) hx hb hz inZ1 tyX1 tyX1_ok hown (hz _ q1_108) (hz _ q1_109) (hz _ q1_6) hK.1 hP hD hS hA rfl (fun j hj => by rcases (show j = 0 ∨ j = 1 by omega) with rfl | rfl <;> rfl) (Nat.le_of_ble_eq_true rfl) (Nat.le_of_ble_eq_true rfl) dX5_init_16 (fun p1 H hP hD hS => ?_)
  have hP : va_P D vwCl ([(h0, .inr (5, [.ref (q 0), .null])), (q 0, .inr (4, [.int 4, .int 3, .ref (q 1), .ref (q 6), .ref (q 10)])), (q 1, .inr (3, [.int 0, .ref (q 2), .ref (q 3), .ref (q 4), .ref (q 5)])), (q 2, .inl (cI, 40, .inl zzF)), (q 3, .inl (cI, 40, .inl zzF)), (q 4, .inl (cI, 40, .inl zzF)), (q 5, .inl (cI, 40, .inl zzF)), (q 6, .inr (2, [.int 1, .ref (q 7), .ref (q 8), .ref (q 9)])), (q 7, .inl (cI, 40, .inl (upd zzF (0 : Int32).toNatClampNeg 0))), (q 8, .inl (cI, 40, .inl (upd zzF (0 : Int32).toNatClampNeg 0))), (q 9, .inl (cI, 40, .inl (upd (flS 40) (0 : Int32).toNatClampNeg 0))), (q 10, .inr (0, [.ref (q 11)])), (q 11, .inl (cI, 1600, .inl zzF)), (p1, .inr (1, [.int 0, .null]))]) H := hP
  have hD : va_D A ([(h0, .inr (5, [.ref (q 0), .null])), (q 0, .inr (4, [.int 4, .int 3, .ref (q 1), .ref (q 6), .ref (q 10)])), (q 1, .inr (3, [.int 0, .ref (q 2), .ref (q 3), .ref (q 4), .ref (q 5)])), (q 2, .inl (cI, 40, .inl zzF)), (q 3, .inl (cI, 40, .inl zzF)), (q 4, .inl (cI, 40, .inl zzF)), (q 5, .inl (cI, 40, .inl zzF)), (q 6, .inr (2, [.int 1, .ref (q 7), .ref (q 8), .ref (q 9)])), (q 7, .inl (cI, 40, .inl (upd zzF (0 : Int32).toNatClampNeg 0))), (q 8, .inl (cI, 40, .inl (upd zzF (0 : Int32).toNatClampNeg 0))), (q 9, .inl (cI, 40, .inl (upd (flS 40) (0 : Int32).toNatClampNeg 0))), (q 10, .inr (0, [.ref (q 11)])), (q 11, .inl (cI, 1600, .inl zzF)), (p1, .inr (1, [.int 0, .null]))]) := hD
  refine W.widen (k := 13) (n := 1897) (Nat.le_of_ble_eq_true rfl) (Nat.le_of_ble_eq_true rfl) ?_
  refine lv_dup hx hb dX5_init_19 rfl ?_
  refine z_ct (wr := [(h0, .inr (5, [.ref (q 0), .null])), (q 0, .inr (4, [.int 4, .int 3, .ref (q 1), .ref (q 6), .ref (q 10)])), (q 1, .inr (3, [.int 0, .ref (q 2), .ref (q 3), .ref (q 4), .ref (q 5)])), (q 2, .inl (cI, 40, .inl zzF)), (q 3, .inl (cI, 40, .inl zzF)), (q 4, .inl (cI, 40, .inl zzF)), (q 5, .inl (cI, 40, .inl zzF)), (q 6, .inr (2, [.int 1, .ref (q 7), .ref (q 8), .ref (q 9)])), (q 7, .inl (cI, 40, .inl (upd zzF (0 : Int32).toNatClampNeg 0))), (q 8, .inl (cI, 40, .inl (upd zzF (0 : Int32).toNatClampNeg 0))), (q 9, .inl (cI, 40, .inl (upd (flS 40) (0 : Int32).toNatClampNeg 0))), (q 10, .inr (0, [.ref (q 11)])), (q 11, .inl (cI, 1600, .inl zzF))]) (wc := [(p1, .inr (1, [.int 0, .null]))]) (va_runI (As := []) (rest := [.ref p1, .ref h0]) ⟨hx, hb, hml, hown, hz⟩ (c_X1_init l D cI cQ p1 H.size) (zcwI hz q1_110 q1_111 q1_6 q1_112 rfl hd_X1_init (Nat.le_of_ble_eq_true rfl) (Nat.le_of_ble_eq_true rfl)) (z_pci (wr := [(h0, .inr (5, [.ref (q 0), .null])), (q 0, .inr (4, [.int 4, .int 3, .ref (q 1), .ref (q 6), .ref (q 10)])), (q 1, .inr (3, [.int 0, .ref (q 2), .ref (q 3), .ref (q 4), .ref (q 5)])), (q 2, .inl (cI, 40, .inl zzF)), (q 3, .inl (cI, 40, .inl zzF)), (q 4, .inl (cI, 40, .inl zzF)), (q 5, .inl (cI, 40, .inl zzF)), (q 6, .inr (2, [.int 1, .ref (q 7), .ref (q 8), .ref (q 9)])), (q 7, .inl (cI, 40, .inl (upd zzF (0 : Int32).toNatClampNeg 0))), (q 8, .inl (cI, 40, .inl (upd zzF (0 : Int32).toNatClampNeg 0))), (q 9, .inl (cI, 40, .inl (upd (flS 40) (0 : Int32).toNatClampNeg 0))), (q 10, .inr (0, [.ref (q 11)])), (q 11, .inl (cI, 1600, .inl zzF))]) hK hO hP hD) rfl rfl hl.1 rfl (lv_room (Nat.le_of_ble_eq_true rfl)) dX5_init_20 ⟨(Nat.le_of_ble_eq_true rfl), (Nat.le_of_ble_eq_true rfl)⟩) hP hD hS hA (fun u Hn locsn hw hPn hDn hSn => ?_)
  refine W.widen (k := 74) (n := 11377) (Nat.le_of_ble_eq_true rfl) (Nat.le_of_ble_eq_true rfl) ?_
  obtain ⟨h, tt⟩ := u
  have hw : h 0 = p1 := hw
  subst hw
  have hP := hPn
  have hD := hDn
  have hS := hSn
  refine va_putF (D := D) (ci := 5) (v := .ref (h 0)) (ty := .object "TitheGrid$History") (C := RX5) (T := TX5) (N := 2) hx hb hz inZ5 tyX5 tyX5_ok nmX5 hown hK.1 hP hD hS 0 rfl rfl 1 (by decide) (hz _ q1_125) (fun _ h9 => h9) rfl hin rfl (by decide +kernel) rfl rfl (Nat.le_of_ble_eq_true rfl) dX5_init_23 (fun H locs hP hD hS => ?_)
  have hP : va_P D vwCl (zF5 cI cQ (fun _ => h0, q, h, tt)) H := hP
  have hD : va_D A (zF5 cI cQ (fun _ => h0, q, h, tt)) := hD
  exact W.vret hx hb hr (fun t ht hW => ⟨⟨(fun _ => h0, q, h, tt), rfl, rfl, by rw [ht]; exact hP, hD⟩, hS.F ht⟩) hS.2.2 dX5_init_26 hlocks
set_option maxHeartbeats 2000000 in
set_option maxRecDepth 100000 in
theorem c_X6_init (l : Launch) (D : va_G) (cI cQ : ClassId) (h0 : Nat) : zCT l yX6_init (Cond.code yX6_init cX6_init 1 none :: zT) 1 2 11788 24 h0 D cI cQ [(h0, .inr (6, [.null, .int 0, .null]))] (fun q : Nat → Nat => q 0 = h0) (fun q : Nat → Nat => zMod cI q mM0) := by
  refine zCT.of (cc := cX6_init) (maxL := 1) (by decide +kernel) rfl rfl (Nat.le_of_ble_eq_true rfl) ?_
  intro pg e s mi args below meth cd A hx hb hr hts hown hlocks hin hml hP hD hS hA hK hO ls hl
  have hz : ∀ w ∈ zT, w.before args s = true := fun w h => hts w (List.mem_cons_of_mem _ h)
  have hl : lv_has ls 1 [(0, .ref h0)] := hl
  refine lv_aload_n hx hb dX6_init_0 rfl (lv_at hl 0 rfl) ?_
  refine W.objInit hx hb hown (hz _ q3_87) (hz _ q1_16) (hz _ q1_17) rfl (by rw [hml]; exact hl.1.symm ▸ rfl) rfl dX6_init_1 (Nat.le_of_ble_eq_true rfl) (Nat.le_of_ble_eq_true rfl) ?_
  refine W.eq (g2 := F0 mi 4 ls []) rfl ?_
  refine lv_aload_n hx hb dX6_init_4 rfl (lv_at hl 0 rfl) ?_
  refine lv_sipush (v := 11784) hx hb dX6_init_5 (by decide) ?_
  refine z_newi hx hb hz hK hP hD hS hA (N := 11784) (by decide) rfl (Nat.le_of_ble_eq_true rfl) (Nat.le_of_ble_eq_true rfl) (Nat.le_of_ble_eq_true rfl) dX6_init_8 (fun qa H hP hD hS => ?_)
  have hP : va_P D vwCl ([(h0, .inr (6, [.null, .int 0, .null])), (qa, .inl (cI, 11784, .inl zzF))]) H := hP
  have hD : va_D A ([(h0, .inr (6, [.null, .int 0, .null])), (qa, .inl (cI, 11784, .inl zzF))]) := hD
  refine W.widen (k := 1) (n := 11784) (Nat.le_of_ble_eq_true rfl) (Nat.le_of_ble_eq_true rfl) ?_
  refine va_putF (D := D) (ci := 6) (v := .ref qa) (ty := .array .int) (C := RX6) (T := TX6) (N := 3) hx hb hz inZ6 tyX6 tyX6_ok nmX6 hown hK.1 hP hD hS 0 rfl rfl 0 (by decide) (hz _ q3_88) (fun _ h9 => h9) rfl hin rfl (by decide +kernel) rfl rfl (Nat.le_of_ble_eq_true rfl) dX6_init_10 (fun H locs hP hD hS => ?_)
  have hP : va_P D vwCl ([(h0, .inr (6, [.ref qa, .int 0, .null])), (qa, .inl (cI, 11784, .inl zzF))]) H := hP
  have hD : va_D A ([(h0, .inr (6, [.ref qa, .int 0, .null])), (qa, .inl (cI, 11784, .inl zzF))]) := hD
  refine lv_aload_n hx hb dX6_init_13 rfl (lv_at hl 0 rfl) ?_
  refine lv_iconst (v := 4) hx hb dX6_init_14 (by decide) ?_
  refine z_newi hx hb hz hK hP hD hS hA (N := 4) (by decide) rfl (Nat.le_of_ble_eq_true rfl) (Nat.le_of_ble_eq_true rfl) (Nat.le_of_ble_eq_true rfl) dX6_init_15 (fun qb H hP hD hS => ?_)
  have hP : va_P D vwCl ([(h0, .inr (6, [.ref qa, .int 0, .null])), (qa, .inl (cI, 11784, .inl zzF)), (qb, .inl (cI, 4, .inl zzF))]) H := hP
  have hD : va_D A ([(h0, .inr (6, [.ref qa, .int 0, .null])), (qa, .inl (cI, 11784, .inl zzF)), (qb, .inl (cI, 4, .inl zzF))]) := hD
  refine W.widen (k := 2) (n := 11788) (Nat.le_of_ble_eq_true rfl) (Nat.le_of_ble_eq_true rfl) ?_
  refine va_putF (D := D) (ci := 6) (v := .ref qb) (ty := .array .int) (C := RX6) (T := TX6) (N := 3) hx hb hz inZ6 tyX6 tyX6_ok nmX6 hown hK.1 hP hD hS 0 rfl rfl 2 (by decide) (hz _ q3_90) (fun _ h9 => h9) rfl hin rfl (by decide +kernel) rfl rfl (Nat.le_of_ble_eq_true rfl) dX6_init_17 (fun H locs hP hD hS => ?_)
  have hP : va_P D vwCl ([(h0, .inr (6, [.ref qa, .int 0, .ref qb])), (qa, .inl (cI, 11784, .inl zzF)), (qb, .inl (cI, 4, .inl zzF))]) H := hP
  have hD : va_D A ([(h0, .inr (6, [.ref qa, .int 0, .ref qb])), (qa, .inl (cI, 11784, .inl zzF)), (qb, .inl (cI, 4, .inl zzF))]) := hD
  refine lv_aload_n hx hb dX6_init_20 rfl (lv_at hl 0 rfl) ?_
  refine va_get (D := D) (ci := 6) (v := .ref qa) (C := RX6) (T := TX6) (N := 3) hx hb hz inZ6 hown hK.1 hP 0 rfl rfl 0 (by decide) (hz _ q3_88) (fun _ h9 => h9) rfl dX6_init_21 ?_
  refine lv_iconst (v := 0) hx hb dX6_init_24 (by decide) ?_
  refine lv_iconst (v := 4) hx hb dX6_init_25 (by decide) ?_
  refine va_iast hx hb hK.1 hP hD hS 1 0 rfl rfl (i := 0) (z_inC (by decide) (by decide)) dX6_init_26 (fun H locs hP hD hS => ?_)
  have hP : va_P D vwCl ([(h0, .inr (6, [.ref qa, .int 0, .ref qb])), (qa, .inl (cI, 11784, .inl (upd zzF (0 : Int32).toNatClampNeg 4))), (qb, .inl (cI, 4, .inl zzF))]) H := hP
  have hD : va_D A ([(h0, .inr (6, [.ref qa, .int 0, .ref qb])), (qa, .inl (cI, 11784, .inl (upd zzF (0 : Int32).toNatClampNeg 4))), (qb, .inl (cI, 4, .inl zzF))]) := hD
  refine lv_aload_n hx hb dX6_init_27 rfl (lv_at hl 0 rfl) ?_
  refine va_get (D := D) (ci := 6) (v := .ref qa) (C := RX6) (T := TX6) (N := 3) hx hb hz inZ6 hown hK.1 hP 0 rfl rfl 0 (by decide) (hz _ q3_88) (fun _ h9 => h9) rfl dX6_init_28 ?_
  refine lv_iconst (v := 1) hx hb dX6_init_31 (by decide) ?_
  refine lv_iconst (v := 3) hx hb dX6_init_32 (by decide) ?_
  refine va_iast hx hb hK.1 hP hD hS 1 0 rfl rfl (i := 1) (z_inC (by decide) (by decide)) dX6_init_33 (fun H locs hP hD hS => ?_)
  have hP : va_P D vwCl ([(h0, .inr (6, [.ref qa, .int 0, .ref qb])), (qa, .inl (cI, 11784, .inl (upd (upd zzF (0 : Int32).toNatClampNeg 4) (1 : Int32).toNatClampNeg 3))), (qb, .inl (cI, 4, .inl zzF))]) H := hP
  have hD : va_D A ([(h0, .inr (6, [.ref qa, .int 0, .ref qb])), (qa, .inl (cI, 11784, .inl (upd (upd zzF (0 : Int32).toNatClampNeg 4) (1 : Int32).toNatClampNeg 3))), (qb, .inl (cI, 4, .inl zzF))]) := hD
  refine lv_aload_n hx hb dX6_init_34 rfl (lv_at hl 0 rfl) ?_
  refine va_get (D := D) (ci := 6) (v := .ref qa) (C := RX6) (T := TX6) (N := 3) hx hb hz inZ6 hown hK.1 hP 0 rfl rfl 0 (by decide) (hz _ q3_88) (fun _ h9 => h9) rfl dX6_init_35 ?_
  refine lv_iconst (v := 3) hx hb dX6_init_38 (by decide) ?_
  refine lv_iconst (v := 1) hx hb dX6_init_39 (by decide) ?_
  refine va_iast hx hb hK.1 hP hD hS 1 0 rfl rfl (i := 3) (z_inC (by decide) (by decide)) dX6_init_40 (fun H locs hP hD hS => ?_)
  have hP : va_P D vwCl ([(h0, .inr (6, [.ref qa, .int 0, .ref qb])), (qa, .inl (cI, 11784, .inl (upd (upd (upd zzF (0 : Int32).toNatClampNeg 4) (1 : Int32).toNatClampNeg 3) (3 : Int32).toNatClampNeg 1))), (qb, .inl (cI, 4, .inl zzF))]) H := hP
  have hD : va_D A ([(h0, .inr (6, [.ref qa, .int 0, .ref qb])), (qa, .inl (cI, 11784, .inl (upd (upd (upd zzF (0 : Int32).toNatClampNeg 4) (1 : Int32).toNatClampNeg 3) (3 : Int32).toNatClampNeg 1))), (qb, .inl (cI, 4, .inl zzF))]) := hD
  refine lv_aload_n hx hb dX6_init_41 rfl (lv_at hl 0 rfl) ?_
  refine va_get (D := D) (ci := 6) (v := .ref qa) (C := RX6) (T := TX6) (N := 3) hx hb hz inZ6 hown hK.1 hP 0 rfl rfl 0 (by decide) (hz _ q3_88) (fun _ h9 => h9) rfl dX6_init_42 ?_
  refine lv_sipush (v := 204) hx hb dX6_init_45 (by decide) ?_
  refine lv_iconst (v := 1) hx hb dX6_init_48 (by decide) ?_
  refine va_iast hx hb hK.1 hP hD hS 1 0 rfl rfl (i := 204) (z_inC (by decide) (by decide)) dX6_init_49 (fun H locs hP hD hS => ?_)
  have hP : va_P D vwCl ([(h0, .inr (6, [.ref qa, .int 0, .ref qb])), (qa, .inl (cI, 11784, .inl (upd (upd (upd (upd zzF (0 : Int32).toNatClampNeg 4) (1 : Int32).toNatClampNeg 3) (3 : Int32).toNatClampNeg 1) (204 : Int32).toNatClampNeg 1))), (qb, .inl (cI, 4, .inl zzF))]) H := hP
  have hD : va_D A ([(h0, .inr (6, [.ref qa, .int 0, .ref qb])), (qa, .inl (cI, 11784, .inl (upd (upd (upd (upd zzF (0 : Int32).toNatClampNeg 4) (1 : Int32).toNatClampNeg 3) (3 : Int32).toNatClampNeg 1) (204 : Int32).toNatClampNeg 1))), (qb, .inl (cI, 4, .inl zzF))]) := hD
  exact W.vret hx hb hr (fun t ht hW => ⟨⟨zq6 h0 qa qb, rfl, rfl, by rw [ht]; exact hP, hD⟩, hS.F ht⟩) hS.2.2 dX6_init_50 hlocks
