theorem hd_X5_add : yX5_add.cls ≠ "java/lang/invoke/MethodHandle" ∧ yX5_add.cls ≠ "java/lang/invoke/VarHandle" ∧ (parseMethodDescriptor yX5_add.desc).map (fun d => d.parameters.length) = some 3 := by decide +kernel
theorem hd_X5_remove : yX5_remove.cls ≠ "java/lang/invoke/MethodHandle" ∧ yX5_remove.cls ≠ "java/lang/invoke/VarHandle" ∧ (parseMethodDescriptor yX5_remove.desc).map (fun d => d.parameters.length) = some 1 := by decide +kernel
theorem hd_X5_move : yX5_move.cls ≠ "java/lang/invoke/MethodHandle" ∧ yX5_move.cls ≠ "java/lang/invoke/VarHandle" ∧ (parseMethodDescriptor yX5_move.desc).map (fun d => d.parameters.length) = some 3 := by decide +kernel
theorem hd_X5_setCrowd : yX5_setCrowd.cls ≠ "java/lang/invoke/MethodHandle" ∧ yX5_setCrowd.cls ≠ "java/lang/invoke/VarHandle" ∧ (parseMethodDescriptor yX5_setCrowd.desc).map (fun d => d.parameters.length) = some 1 := by decide +kernel
theorem hd_X5_setTithe : yX5_setTithe.cls ≠ "java/lang/invoke/MethodHandle" ∧ yX5_setTithe.cls ≠ "java/lang/invoke/VarHandle" ∧ (parseMethodDescriptor yX5_setTithe.desc).map (fun d => d.parameters.length) = some 1 := by decide +kernel
theorem hd_X5_pay : yX5_pay.cls ≠ "java/lang/invoke/MethodHandle" ∧ yX5_pay.cls ≠ "java/lang/invoke/VarHandle" ∧ (parseMethodDescriptor yX5_pay.desc).map (fun d => d.parameters.length) = some 1 := by decide +kernel
theorem hd_X5_join : yX5_join.cls ≠ "java/lang/invoke/MethodHandle" ∧ yX5_join.cls ≠ "java/lang/invoke/VarHandle" ∧ (parseMethodDescriptor yX5_join.desc).map (fun d => d.parameters.length) = some 1 := by decide +kernel
theorem hd_X5_undo : yX5_undo.cls ≠ "java/lang/invoke/MethodHandle" ∧ yX5_undo.cls ≠ "java/lang/invoke/VarHandle" ∧ (parseMethodDescriptor yX5_undo.desc).map (fun d => d.parameters.length) = some 0 := by decide +kernel
theorem hd_X5_count : yX5_count.cls ≠ "java/lang/invoke/MethodHandle" ∧ yX5_count.cls ≠ "java/lang/invoke/VarHandle" ∧ (parseMethodDescriptor yX5_count.desc).map (fun d => d.parameters.length) = some 1 := by decide +kernel
theorem hd_X5_point : yX5_point.cls ≠ "java/lang/invoke/MethodHandle" ∧ yX5_point.cls ≠ "java/lang/invoke/VarHandle" ∧ (parseMethodDescriptor yX5_point.desc).map (fun d => d.parameters.length) = some 2 := by decide +kernel
theorem hd_X5_parish : yX5_parish.cls ≠ "java/lang/invoke/MethodHandle" ∧ yX5_parish.cls ≠ "java/lang/invoke/VarHandle" ∧ (parseMethodDescriptor yX5_parish.desc).map (fun d => d.parameters.length) = some 2 := by decide +kernel
theorem hd_X5_debt : yX5_debt.cls ≠ "java/lang/invoke/MethodHandle" ∧ yX5_debt.cls ≠ "java/lang/invoke/VarHandle" ∧ (parseMethodDescriptor yX5_debt.desc).map (fun d => d.parameters.length) = some 2 := by decide +kernel
theorem hd_X5_at : yX5_at.cls ≠ "java/lang/invoke/MethodHandle" ∧ yX5_at.cls ≠ "java/lang/invoke/VarHandle" ∧ (parseMethodDescriptor yX5_at.desc).map (fun d => d.parameters.length) = some 2 := by decide +kernel
theorem hd_X5_range : yX5_range.cls ≠ "java/lang/invoke/MethodHandle" ∧ yX5_range.cls ≠ "java/lang/invoke/VarHandle" ∧ (parseMethodDescriptor yX5_range.desc).map (fun d => d.parameters.length) = some 5 := by decide +kernel
theorem hd_X5_nearest : yX5_nearest.cls ≠ "java/lang/invoke/MethodHandle" ∧ yX5_nearest.cls ≠ "java/lang/invoke/VarHandle" ∧ (parseMethodDescriptor yX5_nearest.desc).map (fun d => d.parameters.length) = some 2 := by decide +kernel
theorem hd_X5_inOrder : yX5_inOrder.cls ≠ "java/lang/invoke/MethodHandle" ∧ yX5_inOrder.cls ≠ "java/lang/invoke/VarHandle" ∧ (parseMethodDescriptor yX5_inOrder.desc).map (fun d => d.parameters.length) = some 1 := by decide +kernel
theorem hd_X5_payable : yX5_payable.cls ≠ "java/lang/invoke/MethodHandle" ∧ yX5_payable.cls ≠ "java/lang/invoke/VarHandle" ∧ (parseMethodDescriptor yX5_payable.desc).map (fun d => d.parameters.length) = some 1 := by decide +kernel
theorem hd_X5_cellsWith : yX5_cellsWith.cls ≠ "java/lang/invoke/MethodHandle" ∧ yX5_cellsWith.cls ≠ "java/lang/invoke/VarHandle" ∧ (parseMethodDescriptor yX5_cellsWith.desc).map (fun d => d.parameters.length) = some 1 := by decide +kernel
theorem hd_X5_joinable : yX5_joinable.cls ≠ "java/lang/invoke/MethodHandle" ∧ yX5_joinable.cls ≠ "java/lang/invoke/VarHandle" ∧ (parseMethodDescriptor yX5_joinable.desc).map (fun d => d.parameters.length) = some 0 := by decide +kernel
set_option maxHeartbeats 1000000 in
set_option maxRecDepth 100000 in
theorem c_X5_add (l : Launch) (D : va_G) (cI cQ : ClassId) (g : Nat → Nat) (q : Nat → Nat) (h : Nat → Nat) (t0 : Nat → Nat) (t1 : Nat → Nat) (t2 : Nat → Nat) (t3 : Nat → Nat) (t4 : Nat → Nat) (S : CS) (Z : HZ) (S0 : CS) (S1 : CS) (S2 : CS) (S3 : CS) (S4 : CS) (x y we : Int32) (hz0 : hQ Z 0 = some (t0 0)) (hz1 : hQ Z 1 = some (t1 0)) (hz2 : hQ Z 2 = some (t2 0)) (hz3 : hQ Z 3 = some (t3 0)) (hz4 : hQ Z 4 = some (t4 0)) (T1 : CS) (hT1 : T1 = if aOk S x y we then aNew S x y we else S) (g2 : Nat → Option Nat) (hg2 : g2 = if aOk S x y we then z_qK (hQ Z) (t0 0) (t1 0) (t2 0) (t3 0) (t4 0) else hQ Z) (g3 : Int32) (hg3 : g3 = if aOk S x y we then z_minH (hN Z) else hN Z) (T4 : CS) (hT4 : T4 = if aOk S x y we then S else S4) : zWR l yX5_add (Cond.code yX5_add cX5_add 5 (some .int) :: zT) 6 151 [.ref (g 0), .int x, .int y, .int we] D cI cQ (zB [zGri g q h, zSta cI q S, zHea cQ h Z, zSto cI t0 S0, zSto cI t1 S1, zSto cI t2 S2, zSto cI t3 S3, zSta cI t4 S4]) (some (.int (aRet S x y we))) (zB [zGri g q h, zSta cI q T1, zHea cQ h (uN (uQ Z g2) g3), zSto cI t0 S0, zSto cI t1 S1, zSto cI t2 S2, zSto cI t3 S3, zSta cI t4 T4]) := by
  refine zWR.of (cc := cX5_add) (maxL := 5) (ret := some .int) (by decide +kernel) rfl (Nat.le_of_ble_eq_true rfl) ?_
  intro pg e s mi args below meth cd hx hb hr hts hown hlocks hml hP hD hS hK ls hl
  have hz : ∀ w ∈ zT, w.before args s = true := fun w h => hts w (List.mem_cons_of_mem _ h)
  have hl : lv_has ls 5 [(0, .ref (g 0)), (1, .int (x)), (2, .int (y)), (3, .int (we))] := hl
  refine lv_iload_n hx hb dX5_add_0 rfl (lv_at hl 1 rfl) ?_
  refine lv_iload_n hx hb dX5_add_1 rfl (lv_at hl 2 rfl) ?_
  refine z_ro (va_runS (As := [.int (x), .int (y)]) (rest := []) ⟨hx, hb, hml, hown, hz⟩ (c_X5_isOnMap l D cI cQ x y) (zcwS 2 hz q1_135 q1_136 q1_1 q1_137 hd_X5_isOnMap (Nat.le_of_ble_eq_true rfl) (Nat.le_of_ble_eq_true rfl)) (z_ps hK z_nil) rfl rfl hl.1 rfl (lv_room (Nat.le_of_ble_eq_true rfl)) dX5_add_2 ⟨(Nat.le_of_ble_eq_true rfl), (Nat.le_of_ble_eq_true rfl)⟩) ?_
  refine lv_if_eq (tgt := 18) hx hb dX5_add_5 (by decide) (fun c_5 => ?_) (fun c_5 => ?_)
  · have c_5 : (onMap x y) = false := bI_f c_5
    refine lv_iconst (v := (-1)) hx hb dX5_add_18 (by decide) ?_
    exact z_wiret hx hb hr rfl hlocks hP hS (by (try simp only [hT1, hg2, hg3, hT4]) <;> (simp [aOk, aNew, aRet, c_5])) (congrArg (fun X => zB X) (z_cons rfl (z_cons (congrArg (fun T => zSta cI q T) (show S = T1 from by (try simp only [hT1, hg2, hg3, hT4]) <;> (first | (simp [aOk, aNew, aRet, c_5]; done) | (simp [aOk, aNew, aRet, c_5] <;> rfl) | rfl))) (z_cons (congrArg (fun T => zHea cQ h T) (show Z = uN (uQ Z g2) g3 from by (try simp only [hT1, hg2, hg3, hT4]) <;> (first | (simp [aOk, aNew, aRet, c_5]; done) | (simp [aOk, aNew, aRet, c_5] <;> rfl) | rfl))) (z_cons rfl (z_cons rfl (z_cons rfl (z_cons rfl (z_cons (congrArg (fun T => zSta cI t4 T) (show S4 = T4 from by (try simp only [hT1, hg2, hg3, hT4]) <;> (first | (simp [aOk, aNew, aRet, c_5]; done) | (simp [aOk, aNew, aRet, c_5] <;> rfl) | rfl))) rfl))))))))) dX5_add_19
  · have c_5 : (onMap x y) = true := bI_t c_5
    refine lv_iload_n hx hb dX5_add_8 rfl (lv_at hl 3 rfl) ?_
    refine lv_iconst (v := 1) hx hb dX5_add_9 (by decide) ?_
    refine lv_bipush (v := 100) hx hb dX5_add_10 (by decide) ?_
    refine z_ro (va_runS (As := [.int (we), .int (1 : Int32), .int (100 : Int32)]) (rest := []) ⟨hx, hb, hml, hown, hz⟩ (c_X5_isBetween l D cI cQ we (1 : Int32) (100 : Int32)) (zcwS 3 hz q1_138 q1_58 q1_1 q1_59 hd_X5_isBetween (Nat.le_of_ble_eq_true rfl) (Nat.le_of_ble_eq_true rfl)) (z_ps hK z_nil) rfl rfl hl.1 rfl (lv_room (Nat.le_of_ble_eq_true rfl)) dX5_add_12 ⟨(Nat.le_of_ble_eq_true rfl), (Nat.le_of_ble_eq_true rfl)⟩) ?_
    refine lv_if_ne (tgt := 20) hx hb dX5_add_15 (by decide) (fun c_15 => ?_) (fun c_15 => ?_)
    · have c_15 : (btw we (1 : Int32) (100 : Int32)) = true := bI_t c_15
      refine lv_aload_n hx hb dX5_add_20 rfl (lv_at hl 0 rfl) ?_
      refine va_get (D := D) (ci := 5) (v := .ref (q 0)) (C := RX5) (T := TX5) (N := 2) hx hb hz inZ5 hown hK.1 hP 0 rfl rfl 0 (by decide) (hz _ q1_124) (fun _ h9 => h9) rfl dX5_add_21 ?_
      refine va_getN (D := D) (ci := 4) (v := .ref (q 1)) (C := RX4) (T := TX4) (N := 5) hx hb hz inZ4 hown hK.1 hP 1 rfl rfl 2 (by decide) (va_Nw.use rfl (hK.2.2.2.2.2.2.2.2.2.2.2.2.2.2.1)) (fun _ h9 => h9) rfl dX5_add_24 ?_
      refine z_ro (va_runV (As := []) (rest := []) ⟨hx, hb, hml, hown, hz⟩ (c_X3_areFull l D cI cQ q S) (zcwV 0 hz q1_139 q1_140 q1_141 q1_3 q1_142 hd_X3_areFull (Nat.le_of_ble_eq_true rfl) (Nat.le_of_ble_eq_true rfl)) (z_pv (ci := 3) (q := (RX3, TX3, 5)) hK ((zB_blk (b := zSta cI q S) hP 1 rfl).sub (ws' := zPts cI q S) [1, 2, 3, 4, 5] rfl) rfl rfl) rfl rfl hl.1 rfl (lv_room (Nat.le_of_ble_eq_true rfl)) dX5_add_27 ⟨(Nat.le_of_ble_eq_true rfl), (Nat.le_of_ble_eq_true rfl)⟩) ?_
      refine lv_if_eq (tgt := 36) hx hb dX5_add_30 (by decide) (fun c_30 => ?_) (fun c_30 => ?_)
      · have c_30 : (pFull S) = false := bI_f c_30
        refine lv_aload_n hx hb dX5_add_36 rfl (lv_at hl 0 rfl) ?_
        refine va_get (D := D) (ci := 5) (v := .ref (h 0)) (C := RX5) (T := TX5) (N := 2) hx hb hz inZ5 hown hK.1 hP 0 rfl rfl 1 (by decide) (hz _ q1_125) (fun _ h9 => h9) rfl dX5_add_37 ?_
        refine lv_aload_n hx hb dX5_add_40 rfl (lv_at hl 0 rfl) ?_
        refine va_get (D := D) (ci := 5) (v := .ref (q 0)) (C := RX5) (T := TX5) (N := 2) hx hb hz inZ5 hown hK.1 hP 0 rfl rfl 0 (by decide) (hz _ q1_124) (fun _ h9 => h9) rfl dX5_add_41 ?_
        obtain ⟨g_1, hg_1⟩ : ∃ z : Nat → Option Nat, z = z_qK (hQ Z) (t0 0) (t1 0) (t2 0) (t3 0) (t4 0) := ⟨_, rfl⟩
        obtain ⟨g_2, hg_2⟩ : ∃ z : Int32, z = z_minH (hN Z) := ⟨_, rfl⟩
        refine z_bjv (Rs := [zGri g q h]) (va_runV (As := [.ref (q 0)]) (rest := []) ⟨hx, hb, hml, hown, hz⟩ (c_X1_keep l D cI cQ h t0 t1 t2 t3 t4 q Z S0 S1 S2 S3 S4 S (hz0) (hz1) (hz2) (hz3) (hz4) g_1 hg_1 g_2 hg_2) (zcwV 1 hz q1_143 q1_144 q1_145 q1_6 q1_146 hd_X1_keep (Nat.le_of_ble_eq_true rfl) (Nat.le_of_ble_eq_true rfl)) (z_pvw (ci := 1) (q := (RX1, TX1, 2)) hK (zB_sub (Cs := [zHea cQ h Z, zSto cI t0 S0, zSto cI t1 S1, zSto cI t2 S2, zSto cI t3 S3, zSta cI t4 S4, zSta cI q S]) hP [2, 3, 4, 5, 6, 7, 1] rfl) (zB_Dsub (Cs := [zHea cQ h Z, zSto cI t0 S0, zSto cI t1 S1, zSto cI t2 S2, zSto cI t3 S3, zSta cI t4 S4, zSta cI q S]) hD [2, 3, 4, 5, 6, 7, 1] (by decide) rfl) rfl rfl) rfl rfl hl.1 rfl (lv_room (Nat.le_of_ble_eq_true rfl)) dX5_add_44 ⟨(Nat.le_of_ble_eq_true rfl), (Nat.le_of_ble_eq_true rfl)⟩) hP hD hS [2, 3, 4, 5, 6, 7, 1] [0] rfl rfl (by decide) rfl (fun H locs hP hD hS => ?_)
        have hP : va_P D vwCl (zB [zGri g q h, zHea cQ h (uN (uQ Z g_1) g_2), zSto cI t0 S0, zSto cI t1 S1, zSto cI t2 S2, zSto cI t3 S3, zSta cI t4 S, zSta cI q S]) H := hP
        have hD : va_D (zA (zB [zGri g q h, zSta cI q S, zHea cQ h Z, zSto cI t0 S0, zSto cI t1 S1, zSto cI t2 S2, zSto cI t3 S3, zSta cI t4 S4])) (zB [zGri g q h, zHea cQ h (uN (uQ Z g_1) g_2), zSto cI t0 S0, zSto cI t1 S1, zSto cI t2 S2, zSto cI t3 S3, zSta cI t4 S, zSta cI q S]) := hD
        refine lv_aload_n hx hb dX5_add_47 rfl (lv_at hl 0 rfl) ?_
        refine va_get (D := D) (ci := 5) (v := .ref (q 0)) (C := RX5) (T := TX5) (N := 2) hx hb hz inZ5 hown hK.1 hP 0 rfl rfl 0 (by decide) (hz _ q1_124) (fun _ h9 => h9) rfl dX5_add_48 ?_
        refine lv_iload_n hx hb dX5_add_51 rfl (lv_at hl 1 rfl) ?_
        refine lv_iload_n hx hb dX5_add_52 rfl (lv_at hl 2 rfl) ?_
        refine lv_iload_n hx hb dX5_add_53 rfl (lv_at hl 3 rfl) ?_
        obtain ⟨g_3, hg_3⟩ : ∃ z : Int32, z = pAd1 S := ⟨_, rfl⟩
        obtain ⟨g_4, hg_4⟩ : ∃ z : FI, z = pPut S ((sX S)) x := ⟨_, rfl⟩
        obtain ⟨g_5, hg_5⟩ : ∃ z : FI, z = pPut S ((sY S)) y := ⟨_, rfl⟩
        obtain ⟨g_6, hg_6⟩ : ∃ z : FI, z = pPut S ((sW S)) we := ⟨_, rfl⟩
        obtain ⟨g_7, hg_7⟩ : ∃ z : FI, z = pPut S ((sL S)) (rAt S x y) := ⟨_, rfl⟩
        refine z_bwi (b' := zSta cI q (uL (uW (uY (uX (uAd S g_3) g_4) g_5) g_6) g_7)) (Bs' := [zGri g q h, zHea cQ h (uN (uQ Z g_1) g_2), zSto cI t0 S0, zSto cI t1 S1, zSto cI t2 S2, zSto cI t3 S3, zSta cI t4 S, zSta cI q (uL (uW (uY (uX (uAd S g_3) g_4) g_5) g_6) g_7)]) (va_runV (As := [.int (x), .int (y), .int (we)]) (rest := []) ⟨hx, hb, hml, hown, hz⟩ (c_X4_addPoint l D cI cQ q S x y we g_3 hg_3 g_4 hg_4 g_5 hg_5 g_6 hg_6 g_7 hg_7) (zcwV 3 hz q1_171 q1_172 q1_173 q1_2 q1_174 hd_X4_addPoint (Nat.le_of_ble_eq_true rfl) (Nat.le_of_ble_eq_true rfl)) (z_pvw (ci := 4) (q := (RX4, TX4, 5)) hK (zB_blk (b := zSta cI q S) hP 7 rfl) (zB_Dblk (b := zSta cI q S) hD 7 rfl) rfl rfl) rfl rfl hl.1 rfl (lv_room (Nat.le_of_ble_eq_true rfl)) dX5_add_54 ⟨(Nat.le_of_ble_eq_true rfl), (Nat.le_of_ble_eq_true rfl)⟩) hP hD hS 7 rfl [0, 1, 2, 3, 4, 5, 6, 7, 8, 9, 10, 11] rfl rfl rfl rfl (fun H locs hP hD hS => ?_)
        refine lv_istore (lv' := [(4, .int ((if pRoom S then (sAd S) else -3))), (0, .ref (g 0)), (1, .int (x)), (2, .int (y)), (3, .int (we))]) hx hb dX5_add_57 hl (by decide) rfl (fun ls hl => ?_)
        refine lv_aload_n hx hb dX5_add_59 rfl (lv_at hl 1 rfl) ?_
        refine va_get (D := D) (ci := 5) (v := .ref (q 0)) (C := RX5) (T := TX5) (N := 2) hx hb hz inZ5 hown hK.1 hP 0 rfl rfl 0 (by decide) (hz _ q1_124) (fun _ h9 => h9) rfl dX5_add_60 ?_
        obtain ⟨g_8, hg_8⟩ : ∃ z : CS, z = spG 40 (uL (uW (uY (uX (uAd S g_3) g_4) g_5) g_6) g_7) := ⟨_, rfl⟩
        refine z_bwv (b' := zSta cI q g_8) (Bs' := [zGri g q h, zHea cQ h (uN (uQ Z g_1) g_2), zSto cI t0 S0, zSto cI t1 S1, zSto cI t2 S2, zSto cI t3 S3, zSta cI t4 S, zSta cI q g_8]) (va_runV (As := []) (rest := []) ⟨hx, hb, hml, hown, hz⟩ (c_X4_splitCrowded l D cI cQ q (uL (uW (uY (uX (uAd S g_3) g_4) g_5) g_6) g_7) g_8 hg_8) (zcwV 0 hz q1_195 q1_196 q1_197 q1_2 q1_198 hd_X4_splitCrowded (Nat.le_of_ble_eq_true rfl) (Nat.le_of_ble_eq_true rfl)) (z_pvw (ci := 4) (q := (RX4, TX4, 5)) hK (zB_blk (b := zSta cI q (uL (uW (uY (uX (uAd S g_3) g_4) g_5) g_6) g_7)) hP 7 rfl) (zB_Dblk (b := zSta cI q (uL (uW (uY (uX (uAd S g_3) g_4) g_5) g_6) g_7)) hD 7 rfl) rfl rfl) rfl rfl hl.1 rfl (lv_room (Nat.le_of_ble_eq_true rfl)) dX5_add_63 ⟨(Nat.le_of_ble_eq_true rfl), (Nat.le_of_ble_eq_true rfl)⟩) hP hD hS 7 rfl [0, 1, 2, 3, 4, 5, 6, 7, 8, 9, 10, 11] rfl rfl rfl rfl (fun H locs hP hD hS => ?_)
        refine lv_iload hx hb dX5_add_66 (lv_at hl 0 rfl) ?_
        have hP : va_P D vwCl (zB [zGri g q h, zSta cI q g_8, zHea cQ h (uN (uQ Z g_1) g_2), zSto cI t0 S0, zSto cI t1 S1, zSto cI t2 S2, zSto cI t3 S3, zSta cI t4 S]) H := zB_sub (Cs := [zGri g q h, zSta cI q g_8, zHea cQ h (uN (uQ Z g_1) g_2), zSto cI t0 S0, zSto cI t1 S1, zSto cI t2 S2, zSto cI t3 S3, zSta cI t4 S]) hP [0, 7, 1, 2, 3, 4, 5, 6] rfl
        exact z_wiret hx hb hr rfl hlocks hP hS (by (try simp only [hg_8, hg_7, hg_6, hg_5, hg_4, hg_3, hg_2, hg_1, hT1, hg2, hg3, hT4]) <;> (simp [aOk, aNew, aRet, c_5, c_15, c_30])) (congrArg (fun X => zB X) (z_cons rfl (z_cons (congrArg (fun T => zSta cI q T) (show g_8 = T1 from by (try simp only [hg_8, hg_7, hg_6, hg_5, hg_4, hg_3, hg_2, hg_1, hT1, hg2, hg3, hT4]) <;> (first | (simp [aOk, aNew, aRet, c_5, c_15, c_30]; done) | (simp [aOk, aNew, aRet, c_5, c_15, c_30] <;> rfl) | rfl))) (z_cons (congrArg (fun T => zHea cQ h T) (show uN (uQ Z g_1) g_2 = uN (uQ Z g2) g3 from by (try simp only [hg_8, hg_7, hg_6, hg_5, hg_4, hg_3, hg_2, hg_1, hT1, hg2, hg3, hT4]) <;> (first | (simp [aOk, aNew, aRet, c_5, c_15, c_30]; done) | (simp [aOk, aNew, aRet, c_5, c_15, c_30] <;> rfl) | rfl))) (z_cons rfl (z_cons rfl (z_cons rfl (z_cons rfl (z_cons (congrArg (fun T => zSta cI t4 T) (show S = T4 from by (try simp only [hg_8, hg_7, hg_6, hg_5, hg_4, hg_3, hg_2, hg_1, hT1, hg2, hg3, hT4]) <;> (first | (simp [aOk, aNew, aRet, c_5, c_15, c_30]; done) | (simp [aOk, aNew, aRet, c_5, c_15, c_30] <;> rfl) | rfl))) rfl))))))))) dX5_add_68
      · have c_30 : (pFull S) = true := bI_t c_30
        refine lv_bipush (v := (-3)) hx hb dX5_add_33 (by decide) ?_
        exact z_wiret hx hb hr rfl hlocks hP hS (by (try simp only [hT1, hg2, hg3, hT4]) <;> (simp [aOk, aNew, aRet, c_5, c_15, c_30])) (congrArg (fun X => zB X) (z_cons rfl (z_cons (congrArg (fun T => zSta cI q T) (show S = T1 from by (try simp only [hT1, hg2, hg3, hT4]) <;> (first | (simp [aOk, aNew, aRet, c_5, c_15, c_30]; done) | (simp [aOk, aNew, aRet, c_5, c_15, c_30] <;> rfl) | rfl))) (z_cons (congrArg (fun T => zHea cQ h T) (show Z = uN (uQ Z g2) g3 from by (try simp only [hT1, hg2, hg3, hT4]) <;> (first | (simp [aOk, aNew, aRet, c_5, c_15, c_30]; done) | (simp [aOk, aNew, aRet, c_5, c_15, c_30] <;> rfl) | rfl))) (z_cons rfl (z_cons rfl (z_cons rfl (z_cons rfl (z_cons (congrArg (fun T => zSta cI t4 T) (show S4 = T4 from by (try simp only [hT1, hg2, hg3, hT4]) <;> (first | (simp [aOk, aNew, aRet, c_5, c_15, c_30]; done) | (simp [aOk, aNew, aRet, c_5, c_15, c_30] <;> rfl) | rfl))) rfl))))))))) dX5_add_35
    · have c_15 : (btw we (1 : Int32) (100 : Int32)) = false := bI_f c_15
      refine lv_iconst (v := (-1)) hx hb dX5_add_18 (by decide) ?_
      exact z_wiret hx hb hr rfl hlocks hP hS (by (try simp only [hT1, hg2, hg3, hT4]) <;> (simp [aOk, aNew, aRet, c_5, c_15])) (congrArg (fun X => zB X) (z_cons rfl (z_cons (congrArg (fun T => zSta cI q T) (show S = T1 from by (try simp only [hT1, hg2, hg3, hT4]) <;> (first | (simp [aOk, aNew, aRet, c_5, c_15]; done) | (simp [aOk, aNew, aRet, c_5, c_15] <;> rfl) | rfl))) (z_cons (congrArg (fun T => zHea cQ h T) (show Z = uN (uQ Z g2) g3 from by (try simp only [hT1, hg2, hg3, hT4]) <;> (first | (simp [aOk, aNew, aRet, c_5, c_15]; done) | (simp [aOk, aNew, aRet, c_5, c_15] <;> rfl) | rfl))) (z_cons rfl (z_cons rfl (z_cons rfl (z_cons rfl (z_cons (congrArg (fun T => zSta cI t4 T) (show S4 = T4 from by (try simp only [hT1, hg2, hg3, hT4]) <;> (first | (simp [aOk, aNew, aRet, c_5, c_15]; done) | (simp [aOk, aNew, aRet, c_5, c_15] <;> rfl) | rfl))) rfl))))))))) dX5_add_19
set_option maxHeartbeats 1000000 in
set_option maxRecDepth 100000 in
theorem c_X5_remove (l : Launch) (D : va_G) (cI cQ : ClassId) (g : Nat → Nat) (q : Nat → Nat) (h : Nat → Nat) (t0 : Nat → Nat) (t1 : Nat → Nat) (t2 : Nat → Nat) (t3 : Nat → Nat) (t4 : Nat → Nat) (S : CS) (Z : HZ) (S0 : CS) (S1 : CS) (S2 : CS) (S3 : CS) (S4 : CS) (i : Int32) (hz0 : hQ Z 0 = some (t0 0)) (hz1 : hQ Z 1 = some (t1 0)) (hz2 : hQ Z 2 = some (t2 0)) (hz3 : hQ Z 3 = some (t3 0)) (hz4 : hQ Z 4 = some (t4 0)) (T1 : CS) (hT1 : T1 = if pEx S i then rmNew S i else S) (g2 : Nat → Option Nat) (hg2 : g2 = if pEx S i then z_qK (hQ Z) (t0 0) (t1 0) (t2 0) (t3 0) (t4 0) else hQ Z) (g3 : Int32) (hg3 : g3 = if pEx S i then z_minH (hN Z) else hN Z) (T4 : CS) (hT4 : T4 = if pEx S i then S else S4) : zWR l yX5_remove (Cond.code yX5_remove cX5_remove 2 (some .int) :: zT) 6 151 [.ref (g 0), .int i] D cI cQ (zB [zGri g q h, zSta cI q S, zHea cQ h Z, zSto cI t0 S0, zSto cI t1 S1, zSto cI t2 S2, zSto cI t3 S3, zSta cI t4 S4]) (some (.int (rmRet S i))) (zB [zGri g q h, zSta cI q T1, zHea cQ h (uN (uQ Z g2) g3), zSto cI t0 S0, zSto cI t1 S1, zSto cI t2 S2, zSto cI t3 S3, zSta cI t4 T4]) := by
  refine zWR.of (cc := cX5_remove) (maxL := 2) (ret := some .int) (by decide +kernel) rfl (Nat.le_of_ble_eq_true rfl) ?_
  intro pg e s mi args below meth cd hx hb hr hts hown hlocks hml hP hD hS hK ls hl
  have hz : ∀ w ∈ zT, w.before args s = true := fun w h => hts w (List.mem_cons_of_mem _ h)
  have hl : lv_has ls 2 [(0, .ref (g 0)), (1, .int (i))] := hl
  refine lv_aload_n hx hb dX5_remove_0 rfl (lv_at hl 0 rfl) ?_
  refine va_get (D := D) (ci := 5) (v := .ref (q 0)) (C := RX5) (T := TX5) (N := 2) hx hb hz inZ5 hown hK.1 hP 0 rfl rfl 0 (by decide) (hz _ q1_124) (fun _ h9 => h9) rfl dX5_remove_1 ?_
  refine va_getN (D := D) (ci := 4) (v := .ref (q 1)) (C := RX4) (T := TX4) (N := 5) hx hb hz inZ4 hown hK.1 hP 1 rfl rfl 2 (by decide) (va_Nw.use rfl (hK.2.2.2.2.2.2.2.2.2.2.2.2.2.2.1)) (fun _ h9 => h9) rfl dX5_remove_4 ?_
  refine lv_iload_n hx hb dX5_remove_7 rfl (lv_at hl 1 rfl) ?_
  refine z_ro (va_runV (As := [.int (i)]) (rest := []) ⟨hx, hb, hml, hown, hz⟩ (c_X3_exists l D cI cQ q S i) (zcwV 1 hz q2_47 q2_4 q2_5 q1_3 q2_6 hd_X3_exists (Nat.le_of_ble_eq_true rfl) (Nat.le_of_ble_eq_true rfl)) (z_pv (ci := 3) (q := (RX3, TX3, 5)) hK ((zB_blk (b := zSta cI q S) hP 1 rfl).sub (ws' := zPts cI q S) [1, 2, 3, 4, 5] rfl) rfl rfl) rfl rfl hl.1 rfl (lv_room (Nat.le_of_ble_eq_true rfl)) dX5_remove_8 ⟨(Nat.le_of_ble_eq_true rfl), (Nat.le_of_ble_eq_true rfl)⟩) ?_
  refine lv_if_ne (tgt := 16) hx hb dX5_remove_11 (by decide) (fun c_11 => ?_) (fun c_11 => ?_)
  · have c_11 : (pEx S i) = true := bI_t c_11
    refine lv_aload_n hx hb dX5_remove_16 rfl (lv_at hl 0 rfl) ?_
    refine va_get (D := D) (ci := 5) (v := .ref (h 0)) (C := RX5) (T := TX5) (N := 2) hx hb hz inZ5 hown hK.1 hP 0 rfl rfl 1 (by decide) (hz _ q1_125) (fun _ h9 => h9) rfl dX5_remove_17 ?_
    refine lv_aload_n hx hb dX5_remove_20 rfl (lv_at hl 0 rfl) ?_
    refine va_get (D := D) (ci := 5) (v := .ref (q 0)) (C := RX5) (T := TX5) (N := 2) hx hb hz inZ5 hown hK.1 hP 0 rfl rfl 0 (by decide) (hz _ q1_124) (fun _ h9 => h9) rfl dX5_remove_21 ?_
    obtain ⟨g_1, hg_1⟩ : ∃ z : Nat → Option Nat, z = z_qK (hQ Z) (t0 0) (t1 0) (t2 0) (t3 0) (t4 0) := ⟨_, rfl⟩
    obtain ⟨g_2, hg_2⟩ : ∃ z : Int32, z = z_minH (hN Z) := ⟨_, rfl⟩
    refine z_bjv (Rs := [zGri g q h]) (va_runV (As := [.ref (q 0)]) (rest := []) ⟨hx, hb, hml, hown, hz⟩ (c_X1_keep l D cI cQ h t0 t1 t2 t3 t4 q Z S0 S1 S2 S3 S4 S (hz0) (hz1) (hz2) (hz3) (hz4) g_1 hg_1 g_2 hg_2) (zcwV 1 hz q1_143 q1_144 q1_145 q1_6 q1_146 hd_X1_keep (Nat.le_of_ble_eq_true rfl) (Nat.le_of_ble_eq_true rfl)) (z_pvw (ci := 1) (q := (RX1, TX1, 2)) hK (zB_sub (Cs := [zHea cQ h Z, zSto cI t0 S0, zSto cI t1 S1, zSto cI t2 S2, zSto cI t3 S3, zSta cI t4 S4, zSta cI q S]) hP [2, 3, 4, 5, 6, 7, 1] rfl) (zB_Dsub (Cs := [zHea cQ h Z, zSto cI t0 S0, zSto cI t1 S1, zSto cI t2 S2, zSto cI t3 S3, zSta cI t4 S4, zSta cI q S]) hD [2, 3, 4, 5, 6, 7, 1] (by decide) rfl) rfl rfl) rfl rfl hl.1 rfl (lv_room (Nat.le_of_ble_eq_true rfl)) dX5_remove_24 ⟨(Nat.le_of_ble_eq_true rfl), (Nat.le_of_ble_eq_true rfl)⟩) hP hD hS [2, 3, 4, 5, 6, 7, 1] [0] rfl rfl (by decide) rfl (fun H locs hP hD hS => ?_)
    have hP : va_P D vwCl (zB [zGri g q h, zHea cQ h (uN (uQ Z g_1) g_2), zSto cI t0 S0, zSto cI t1 S1, zSto cI t2 S2, zSto cI t3 S3, zSta cI t4 S, zSta cI q S]) H := hP
    have hD : va_D (zA (zB [zGri g q h, zSta cI q S, zHea cQ h Z, zSto cI t0 S0, zSto cI t1 S1, zSto cI t2 S2, zSto cI t3 S3, zSta cI t4 S4])) (zB [zGri g q h, zHea cQ h (uN (uQ Z g_1) g_2), zSto cI t0 S0, zSto cI t1 S1, zSto cI t2 S2, zSto cI t3 S3, zSta cI t4 S, zSta cI q S]) := hD
    refine lv_aload_n hx hb dX5_remove_27 rfl (lv_at hl 0 rfl) ?_
    refine va_get (D := D) (ci := 5) (v := .ref (q 0)) (C := RX5) (T := TX5) (N := 2) hx hb hz inZ5 hown hK.1 hP 0 rfl rfl 0 (by decide) (hz _ q1_124) (fun _ h9 => h9) rfl dX5_remove_28 ?_
    refine va_getN (D := D) (ci := 4) (v := .ref (q 1)) (C := RX4) (T := TX4) (N := 5) hx hb hz inZ4 hown hK.1 hP 19 rfl rfl 2 (by decide) (va_Nw.use rfl (hK.2.2.2.2.2.2.2.2.2.2.2.2.2.2.1)) (fun _ h9 => h9) rfl dX5_remove_31 ?_
    refine lv_iload_n hx hb dX5_remove_34 rfl (lv_at hl 1 rfl) ?_
    obtain ⟨g_3, hg_3⟩ : ∃ z : FI, z = pSetAt S ((sW S)) i 0 := ⟨_, rfl⟩
    refine z_bwv (b' := zSta cI q (uW S g_3)) (Bs' := [zGri g q h, zHea cQ h (uN (uQ Z g_1) g_2), zSto cI t0 S0, zSto cI t1 S1, zSto cI t2 S2, zSto cI t3 S3, zSta cI t4 S, zSta cI q (uW S g_3)]) (va_runV (As := [.int (i)]) (rest := []) ⟨hx, hb, hml, hown, hz⟩ (c_X3_takeAway l D cI cQ q S i g_3 hg_3) (zcwV 1 hz q2_48 q2_49 q2_50 q1_3 q2_51 hd_X3_takeAway (Nat.le_of_ble_eq_true rfl) (Nat.le_of_ble_eq_true rfl)) (z_pvw (ci := 3) (q := (RX3, TX3, 5)) hK ((zB_blk (b := zSta cI q S) hP 7 rfl).sub (ws' := zPts cI q S) [1, 2, 3, 4, 5] rfl) ((zB_Dblk (b := zSta cI q S) hD 7 rfl).sub (ws' := zPts cI q S) [1, 2, 3, 4, 5] (by decide) rfl) rfl rfl) rfl rfl hl.1 rfl (lv_room (Nat.le_of_ble_eq_true rfl)) dX5_remove_35 ⟨(Nat.le_of_ble_eq_true rfl), (Nat.le_of_ble_eq_true rfl)⟩) hP hD hS 7 rfl [1, 2, 3, 4, 5] rfl rfl rfl rfl (fun H locs hP hD hS => ?_)
    refine lv_aload_n hx hb dX5_remove_38 rfl (lv_at hl 0 rfl) ?_
    refine va_get (D := D) (ci := 5) (v := .ref (q 0)) (C := RX5) (T := TX5) (N := 2) hx hb hz inZ5 hown hK.1 hP 0 rfl rfl 0 (by decide) (hz _ q1_124) (fun _ h9 => h9) rfl dX5_remove_39 ?_
    obtain ⟨g_4, hg_4⟩ : ∃ z : CS, z = spG 40 (uW S g_3) := ⟨_, rfl⟩
    refine z_bwv (b' := zSta cI q g_4) (Bs' := [zGri g q h, zHea cQ h (uN (uQ Z g_1) g_2), zSto cI t0 S0, zSto cI t1 S1, zSto cI t2 S2, zSto cI t3 S3, zSta cI t4 S, zSta cI q g_4]) (va_runV (As := []) (rest := []) ⟨hx, hb, hml, hown, hz⟩ (c_X4_splitCrowded l D cI cQ q (uW S g_3) g_4 hg_4) (zcwV 0 hz q1_195 q1_196 q1_197 q1_2 q1_198 hd_X4_splitCrowded (Nat.le_of_ble_eq_true rfl) (Nat.le_of_ble_eq_true rfl)) (z_pvw (ci := 4) (q := (RX4, TX4, 5)) hK (zB_blk (b := zSta cI q (uW S g_3)) hP 7 rfl) (zB_Dblk (b := zSta cI q (uW S g_3)) hD 7 rfl) rfl rfl) rfl rfl hl.1 rfl (lv_room (Nat.le_of_ble_eq_true rfl)) dX5_remove_42 ⟨(Nat.le_of_ble_eq_true rfl), (Nat.le_of_ble_eq_true rfl)⟩) hP hD hS 7 rfl [0, 1, 2, 3, 4, 5, 6, 7, 8, 9, 10, 11] rfl rfl rfl rfl (fun H locs hP hD hS => ?_)
    refine lv_aload_n hx hb dX5_remove_45 rfl (lv_at hl 0 rfl) ?_
    refine va_get (D := D) (ci := 5) (v := .ref (q 0)) (C := RX5) (T := TX5) (N := 2) hx hb hz inZ5 hown hK.1 hP 0 rfl rfl 0 (by decide) (hz _ q1_124) (fun _ h9 => h9) rfl dX5_remove_46 ?_
    refine va_getN (D := D) (ci := 4) (v := .ref (q 1)) (C := RX4) (T := TX4) (N := 5) hx hb hz inZ4 hown hK.1 hP 19 rfl rfl 2 (by decide) (va_Nw.use rfl (hK.2.2.2.2.2.2.2.2.2.2.2.2.2.2.1)) (fun _ h9 => h9) rfl dX5_remove_49 ?_
    refine z_ro (va_runV (As := []) (rest := []) ⟨hx, hb, hml, hown, hz⟩ (c_X3_number l D cI cQ q g_4) (zcwV 0 hz q2_52 q2_53 q2_54 q1_3 q2_55 hd_X3_number (Nat.le_of_ble_eq_true rfl) (Nat.le_of_ble_eq_true rfl)) (z_pv (ci := 3) (q := (RX3, TX3, 5)) hK ((zB_blk (b := zSta cI q g_4) hP 7 rfl).sub (ws' := zPts cI q g_4) [1, 2, 3, 4, 5] rfl) rfl rfl) rfl rfl hl.1 rfl (lv_room (Nat.le_of_ble_eq_true rfl)) dX5_remove_52 ⟨(Nat.le_of_ble_eq_true rfl), (Nat.le_of_ble_eq_true rfl)⟩) ?_
    have hP : va_P D vwCl (zB [zGri g q h, zSta cI q g_4, zHea cQ h (uN (uQ Z g_1) g_2), zSto cI t0 S0, zSto cI t1 S1, zSto cI t2 S2, zSto cI t3 S3, zSta cI t4 S]) H := zB_sub (Cs := [zGri g q h, zSta cI q g_4, zHea cQ h (uN (uQ Z g_1) g_2), zSto cI t0 S0, zSto cI t1 S1, zSto cI t2 S2, zSto cI t3 S3, zSta cI t4 S]) hP [0, 7, 1, 2, 3, 4, 5, 6] rfl
    exact z_wiret hx hb hr rfl hlocks hP hS (by (try simp only [hg_4, hg_3, hg_2, hg_1, hT1, hg2, hg3, hT4]) <;> (simp [rmNew, rmRet, c_11])) (congrArg (fun X => zB X) (z_cons rfl (z_cons (congrArg (fun T => zSta cI q T) (show g_4 = T1 from by (try simp only [hg_4, hg_3, hg_2, hg_1, hT1, hg2, hg3, hT4]) <;> (first | (simp [rmNew, rmRet, c_11]; done) | (simp [rmNew, rmRet, c_11] <;> rfl) | rfl))) (z_cons (congrArg (fun T => zHea cQ h T) (show uN (uQ Z g_1) g_2 = uN (uQ Z g2) g3 from by (try simp only [hg_4, hg_3, hg_2, hg_1, hT1, hg2, hg3, hT4]) <;> (first | (simp [rmNew, rmRet, c_11]; done) | (simp [rmNew, rmRet, c_11] <;> rfl) | rfl))) (z_cons rfl (z_cons rfl (z_cons rfl (z_cons rfl (z_cons (congrArg (fun T => zSta cI t4 T) (show S = T4 from by (try simp only [hg_4, hg_3, hg_2, hg_1, hT1, hg2, hg3, hT4]) <;> (first | (simp [rmNew, rmRet, c_11]; done) | (simp [rmNew, rmRet, c_11] <;> rfl) | rfl))) rfl))))))))) dX5_remove_55
  · have c_11 : (pEx S i) = false := bI_f c_11
    refine lv_iconst (v := (-1)) hx hb dX5_remove_14 (by decide) ?_
    exact z_wiret hx hb hr rfl hlocks hP hS (by (try simp only [hT1, hg2, hg3, hT4]) <;> (simp [rmNew, rmRet, c_11])) (congrArg (fun X => zB X) (z_cons rfl (z_cons (congrArg (fun T => zSta cI q T) (show S = T1 from by (try simp only [hT1, hg2, hg3, hT4]) <;> (first | (simp [rmNew, rmRet, c_11]; done) | (simp [rmNew, rmRet, c_11] <;> rfl) | rfl))) (z_cons (congrArg (fun T => zHea cQ h T) (show Z = uN (uQ Z g2) g3 from by (try simp only [hT1, hg2, hg3, hT4]) <;> (first | (simp [rmNew, rmRet, c_11]; done) | (simp [rmNew, rmRet, c_11] <;> rfl) | rfl))) (z_cons rfl (z_cons rfl (z_cons rfl (z_cons rfl (z_cons (congrArg (fun T => zSta cI t4 T) (show S4 = T4 from by (try simp only [hT1, hg2, hg3, hT4]) <;> (first | (simp [rmNew, rmRet, c_11]; done) | (simp [rmNew, rmRet, c_11] <;> rfl) | rfl))) rfl))))))))) dX5_remove_15
set_option maxHeartbeats 1000000 in
set_option maxRecDepth 100000 in
theorem c_X5_move (l : Launch) (D : va_G) (cI cQ : ClassId) (g : Nat → Nat) (q : Nat → Nat) (h : Nat → Nat) (t0 : Nat → Nat) (t1 : Nat → Nat) (t2 : Nat → Nat) (t3 : Nat → Nat) (t4 : Nat → Nat) (S : CS) (Z : HZ) (S0 : CS) (S1 : CS) (S2 : CS) (S3 : CS) (S4 : CS) (i nx ny : Int32) (hz0 : hQ Z 0 = some (t0 0)) (hz1 : hQ Z 1 = some (t1 0)) (hz2 : hQ Z 2 = some (t2 0)) (hz3 : hQ Z 3 = some (t3 0)) (hz4 : hQ Z 4 = some (t4 0)) (T1 : CS) (hT1 : T1 = if mvOk S i nx ny then mvNew S i nx ny else S) (g2 : Nat → Option Nat) (hg2 : g2 = if mvOk S i nx ny then z_qK (hQ Z) (t0 0) (t1 0) (t2 0) (t3 0) (t4 0) else hQ Z) (g3 : Int32) (hg3 : g3 = if mvOk S i nx ny then z_minH (hN Z) else hN Z) (T4 : CS) (hT4 : T4 = if mvOk S i nx ny then S else S4) : zWR l yX5_move (Cond.code yX5_move cX5_move 5 (some .int) :: zT) 6 151 [.ref (g 0), .int i, .int nx, .int ny] D cI cQ (zB [zGri g q h, zSta cI q S, zHea cQ h Z, zSto cI t0 S0, zSto cI t1 S1, zSto cI t2 S2, zSto cI t3 S3, zSta cI t4 S4]) (some (.int (mvRet S i nx ny))) (zB [zGri g q h, zSta cI q T1, zHea cQ h (uN (uQ Z g2) g3), zSto cI t0 S0, zSto cI t1 S1, zSto cI t2 S2, zSto cI t3 S3, zSta cI t4 T4]) := by
  refine zWR.of (cc := cX5_move) (maxL := 5) (ret := some .int) (by decide +kernel) rfl (Nat.le_of_ble_eq_true rfl) ?_
  intro pg e s mi args below meth cd hx hb hr hts hown hlocks hml hP hD hS hK ls hl
  have hz : ∀ w ∈ zT, w.before args s = true := fun w h => hts w (List.mem_cons_of_mem _ h)
  have hl : lv_has ls 5 [(0, .ref (g 0)), (1, .int (i)), (2, .int (nx)), (3, .int (ny))] := hl
  refine lv_aload_n hx hb dX5_move_0 rfl (lv_at hl 0 rfl) ?_
  refine va_get (D := D) (ci := 5) (v := .ref (q 0)) (C := RX5) (T := TX5) (N := 2) hx hb hz inZ5 hown hK.1 hP 0 rfl rfl 0 (by decide) (hz _ q1_124) (fun _ h9 => h9) rfl dX5_move_1 ?_
  refine va_getN (D := D) (ci := 4) (v := .ref (q 1)) (C := RX4) (T := TX4) (N := 5) hx hb hz inZ4 hown hK.1 hP 1 rfl rfl 2 (by decide) (va_Nw.use rfl (hK.2.2.2.2.2.2.2.2.2.2.2.2.2.2.1)) (fun _ h9 => h9) rfl dX5_move_4 ?_
  refine lv_iload_n hx hb dX5_move_7 rfl (lv_at hl 1 rfl) ?_
  refine z_ro (va_runV (As := [.int (i)]) (rest := []) ⟨hx, hb, hml, hown, hz⟩ (c_X3_exists l D cI cQ q S i) (zcwV 1 hz q2_47 q2_4 q2_5 q1_3 q2_6 hd_X3_exists (Nat.le_of_ble_eq_true rfl) (Nat.le_of_ble_eq_true rfl)) (z_pv (ci := 3) (q := (RX3, TX3, 5)) hK ((zB_blk (b := zSta cI q S) hP 1 rfl).sub (ws' := zPts cI q S) [1, 2, 3, 4, 5] rfl) rfl rfl) rfl rfl hl.1 rfl (lv_room (Nat.le_of_ble_eq_true rfl)) dX5_move_8 ⟨(Nat.le_of_ble_eq_true rfl), (Nat.le_of_ble_eq_true rfl)⟩) ?_
  refine lv_if_eq (tgt := 22) hx hb dX5_move_11 (by decide) (fun c_11 => ?_) (fun c_11 => ?_)
  · have c_11 : (pEx S i) = false := bI_f c_11
    refine lv_iconst (v := (-1)) hx hb dX5_move_22 (by decide) ?_
    exact z_wiret hx hb hr rfl hlocks hP hS (by (try simp only [hT1, hg2, hg3, hT4]) <;> (simp [mvOk, mvNew, mvRet, bI, c_11])) (congrArg (fun X => zB X) (z_cons rfl (z_cons (congrArg (fun T => zSta cI q T) (show S = T1 from by (try simp only [hT1, hg2, hg3, hT4]) <;> (first | (simp [mvOk, mvNew, mvRet, bI, c_11]; done) | (simp [mvOk, mvNew, mvRet, bI, c_11] <;> rfl) | rfl))) (z_cons (congrArg (fun T => zHea cQ h T) (show Z = uN (uQ Z g2) g3 from by (try simp only [hT1, hg2, hg3, hT4]) <;> (first | (simp [mvOk, mvNew, mvRet, bI, c_11]; done) | (simp [mvOk, mvNew, mvRet, bI, c_11] <;> rfl) | rfl))) (z_cons rfl (z_cons rfl (z_cons rfl (z_cons rfl (z_cons (congrArg (fun T => zSta cI t4 T) (show S4 = T4 from by (try simp only [hT1, hg2, hg3, hT4]) <;> (first | (simp [mvOk, mvNew, mvRet, bI, c_11]; done) | (simp [mvOk, mvNew, mvRet, bI, c_11] <;> rfl) | rfl))) rfl))))))))) dX5_move_23
  · have c_11 : (pEx S i) = true := bI_t c_11
    refine lv_iload_n hx hb dX5_move_14 rfl (lv_at hl 2 rfl) ?_
    refine lv_iload_n hx hb dX5_move_15 rfl (lv_at hl 3 rfl) ?_
    refine z_ro (va_runS (As := [.int (nx), .int (ny)]) (rest := []) ⟨hx, hb, hml, hown, hz⟩ (c_X5_isOnMap l D cI cQ nx ny) (zcwS 2 hz q1_135 q1_136 q1_1 q1_137 hd_X5_isOnMap (Nat.le_of_ble_eq_true rfl) (Nat.le_of_ble_eq_true rfl)) (z_ps hK z_nil) rfl rfl hl.1 rfl (lv_room (Nat.le_of_ble_eq_true rfl)) dX5_move_16 ⟨(Nat.le_of_ble_eq_true rfl), (Nat.le_of_ble_eq_true rfl)⟩) ?_
    refine lv_if_ne (tgt := 24) hx hb dX5_move_19 (by decide) (fun c_19 => ?_) (fun c_19 => ?_)
    · have c_19 : (onMap nx ny) = true := bI_t c_19
      refine lv_aload_n hx hb dX5_move_24 rfl (lv_at hl 0 rfl) ?_
      refine va_get (D := D) (ci := 5) (v := .ref (h 0)) (C := RX5) (T := TX5) (N := 2) hx hb hz inZ5 hown hK.1 hP 0 rfl rfl 1 (by decide) (hz _ q1_125) (fun _ h9 => h9) rfl dX5_move_25 ?_
      refine lv_aload_n hx hb dX5_move_28 rfl (lv_at hl 0 rfl) ?_
      refine va_get (D := D) (ci := 5) (v := .ref (q 0)) (C := RX5) (T := TX5) (N := 2) hx hb hz inZ5 hown hK.1 hP 0 rfl rfl 0 (by decide) (hz _ q1_124) (fun _ h9 => h9) rfl dX5_move_29 ?_
      obtain ⟨g_1, hg_1⟩ : ∃ z : Nat → Option Nat, z = z_qK (hQ Z) (t0 0) (t1 0) (t2 0) (t3 0) (t4 0) := ⟨_, rfl⟩
      obtain ⟨g_2, hg_2⟩ : ∃ z : Int32, z = z_minH (hN Z) := ⟨_, rfl⟩
      refine z_bjv (Rs := [zGri g q h]) (va_runV (As := [.ref (q 0)]) (rest := []) ⟨hx, hb, hml, hown, hz⟩ (c_X1_keep l D cI cQ h t0 t1 t2 t3 t4 q Z S0 S1 S2 S3 S4 S (hz0) (hz1) (hz2) (hz3) (hz4) g_1 hg_1 g_2 hg_2) (zcwV 1 hz q1_143 q1_144 q1_145 q1_6 q1_146 hd_X1_keep (Nat.le_of_ble_eq_true rfl) (Nat.le_of_ble_eq_true rfl)) (z_pvw (ci := 1) (q := (RX1, TX1, 2)) hK (zB_sub (Cs := [zHea cQ h Z, zSto cI t0 S0, zSto cI t1 S1, zSto cI t2 S2, zSto cI t3 S3, zSta cI t4 S4, zSta cI q S]) hP [2, 3, 4, 5, 6, 7, 1] rfl) (zB_Dsub (Cs := [zHea cQ h Z, zSto cI t0 S0, zSto cI t1 S1, zSto cI t2 S2, zSto cI t3 S3, zSta cI t4 S4, zSta cI q S]) hD [2, 3, 4, 5, 6, 7, 1] (by decide) rfl) rfl rfl) rfl rfl hl.1 rfl (lv_room (Nat.le_of_ble_eq_true rfl)) dX5_move_32 ⟨(Nat.le_of_ble_eq_true rfl), (Nat.le_of_ble_eq_true rfl)⟩) hP hD hS [2, 3, 4, 5, 6, 7, 1] [0] rfl rfl (by decide) rfl (fun H locs hP hD hS => ?_)
      have hP : va_P D vwCl (zB [zGri g q h, zHea cQ h (uN (uQ Z g_1) g_2), zSto cI t0 S0, zSto cI t1 S1, zSto cI t2 S2, zSto cI t3 S3, zSta cI t4 S, zSta cI q S]) H := hP
      have hD : va_D (zA (zB [zGri g q h, zSta cI q S, zHea cQ h Z, zSto cI t0 S0, zSto cI t1 S1, zSto cI t2 S2, zSto cI t3 S3, zSta cI t4 S4])) (zB [zGri g q h, zHea cQ h (uN (uQ Z g_1) g_2), zSto cI t0 S0, zSto cI t1 S1, zSto cI t2 S2, zSto cI t3 S3, zSta cI t4 S, zSta cI q S]) := hD
      refine lv_aload_n hx hb dX5_move_35 rfl (lv_at hl 0 rfl) ?_
      refine va_get (D := D) (ci := 5) (v := .ref (q 0)) (C := RX5) (T := TX5) (N := 2) hx hb hz inZ5 hown hK.1 hP 0 rfl rfl 0 (by decide) (hz _ q1_124) (fun _ h9 => h9) rfl dX5_move_36 ?_
      refine lv_iload_n hx hb dX5_move_39 rfl (lv_at hl 1 rfl) ?_
      refine lv_iload_n hx hb dX5_move_40 rfl (lv_at hl 2 rfl) ?_
      refine lv_iload_n hx hb dX5_move_41 rfl (lv_at hl 3 rfl) ?_
      obtain ⟨g_3, hg_3⟩ : ∃ z : FI, z = pSetAt S ((sX S)) i nx := ⟨_, rfl⟩
      obtain ⟨g_4, hg_4⟩ : ∃ z : FI, z = pSetAt S ((sY S)) i ny := ⟨_, rfl⟩
      obtain ⟨g_5, hg_5⟩ : ∃ z : FI, z = mvL S i nx ny := ⟨_, rfl⟩
      refine z_bwi (b' := zSta cI q (uL (uY (uX S g_3) g_4) g_5)) (Bs' := [zGri g q h, zHea cQ h (uN (uQ Z g_1) g_2), zSto cI t0 S0, zSto cI t1 S1, zSto cI t2 S2, zSto cI t3 S3, zSta cI t4 S, zSta cI q (uL (uY (uX S g_3) g_4) g_5)]) (va_runV (As := [.int (i), .int (nx), .int (ny)]) (rest := []) ⟨hx, hb, hml, hown, hz⟩ (c_X4_movePoint l D cI cQ q S i nx ny g_3 hg_3 g_4 hg_4 g_5 hg_5) (zcwV 3 hz q2_61 q2_62 q2_63 q1_2 q2_64 hd_X4_movePoint (Nat.le_of_ble_eq_true rfl) (Nat.le_of_ble_eq_true rfl)) (z_pvw (ci := 4) (q := (RX4, TX4, 5)) hK (zB_blk (b := zSta cI q S) hP 7 rfl) (zB_Dblk (b := zSta cI q S) hD 7 rfl) rfl rfl) rfl rfl hl.1 rfl (lv_room (Nat.le_of_ble_eq_true rfl)) dX5_move_42 ⟨(Nat.le_of_ble_eq_true rfl), (Nat.le_of_ble_eq_true rfl)⟩) hP hD hS 7 rfl [0, 1, 2, 3, 4, 5, 6, 7, 8, 9, 10, 11] rfl rfl rfl rfl (fun H locs hP hD hS => ?_)
      refine lv_istore (lv' := [(4, .int (bI (mvR S i nx ny))), (0, .ref (g 0)), (1, .int (i)), (2, .int (nx)), (3, .int (ny))]) hx hb dX5_move_45 hl (by decide) rfl (fun ls hl => ?_)
      refine lv_aload_n hx hb dX5_move_47 rfl (lv_at hl 1 rfl) ?_
      refine va_get (D := D) (ci := 5) (v := .ref (q 0)) (C := RX5) (T := TX5) (N := 2) hx hb hz inZ5 hown hK.1 hP 0 rfl rfl 0 (by decide) (hz _ q1_124) (fun _ h9 => h9) rfl dX5_move_48 ?_
      obtain ⟨g_6, hg_6⟩ : ∃ z : CS, z = spG 40 (uL (uY (uX S g_3) g_4) g_5) := ⟨_, rfl⟩
      refine z_bwv (b' := zSta cI q g_6) (Bs' := [zGri g q h, zHea cQ h (uN (uQ Z g_1) g_2), zSto cI t0 S0, zSto cI t1 S1, zSto cI t2 S2, zSto cI t3 S3, zSta cI t4 S, zSta cI q g_6]) (va_runV (As := []) (rest := []) ⟨hx, hb, hml, hown, hz⟩ (c_X4_splitCrowded l D cI cQ q (uL (uY (uX S g_3) g_4) g_5) g_6 hg_6) (zcwV 0 hz q1_195 q1_196 q1_197 q1_2 q1_198 hd_X4_splitCrowded (Nat.le_of_ble_eq_true rfl) (Nat.le_of_ble_eq_true rfl)) (z_pvw (ci := 4) (q := (RX4, TX4, 5)) hK (zB_blk (b := zSta cI q (uL (uY (uX S g_3) g_4) g_5)) hP 7 rfl) (zB_Dblk (b := zSta cI q (uL (uY (uX S g_3) g_4) g_5)) hD 7 rfl) rfl rfl) rfl rfl hl.1 rfl (lv_room (Nat.le_of_ble_eq_true rfl)) dX5_move_51 ⟨(Nat.le_of_ble_eq_true rfl), (Nat.le_of_ble_eq_true rfl)⟩) hP hD hS 7 rfl [0, 1, 2, 3, 4, 5, 6, 7, 8, 9, 10, 11] rfl rfl rfl rfl (fun H locs hP hD hS => ?_)
      refine lv_iload hx hb dX5_move_54 (lv_at hl 0 rfl) ?_
      refine lv_if_eq (tgt := 63) hx hb dX5_move_56 (by decide) (fun c_56 => ?_) (fun c_56 => ?_)
      · have c_56 : (mvR S i nx ny) = false := bI_f c_56
        refine lv_iconst (v := 0) hx hb dX5_move_63 (by decide) ?_
        have hP : va_P D vwCl (zB [zGri g q h, zSta cI q g_6, zHea cQ h (uN (uQ Z g_1) g_2), zSto cI t0 S0, zSto cI t1 S1, zSto cI t2 S2, zSto cI t3 S3, zSta cI t4 S]) H := zB_sub (Cs := [zGri g q h, zSta cI q g_6, zHea cQ h (uN (uQ Z g_1) g_2), zSto cI t0 S0, zSto cI t1 S1, zSto cI t2 S2, zSto cI t3 S3, zSta cI t4 S]) hP [0, 7, 1, 2, 3, 4, 5, 6] rfl
        exact z_wiret hx hb hr rfl hlocks hP hS (by (try simp only [hg_6, hg_5, hg_4, hg_3, hg_2, hg_1, hT1, hg2, hg3, hT4]) <;> (simp [mvOk, mvNew, mvRet, bI, c_11, c_19, c_56])) (congrArg (fun X => zB X) (z_cons rfl (z_cons (congrArg (fun T => zSta cI q T) (show g_6 = T1 from by (try simp only [hg_6, hg_5, hg_4, hg_3, hg_2, hg_1, hT1, hg2, hg3, hT4]) <;> (first | (simp [mvOk, mvNew, mvRet, bI, c_11, c_19, c_56]; done) | (simp [mvOk, mvNew, mvRet, bI, c_11, c_19, c_56] <;> rfl) | rfl))) (z_cons (congrArg (fun T => zHea cQ h T) (show uN (uQ Z g_1) g_2 = uN (uQ Z g2) g3 from by (try simp only [hg_6, hg_5, hg_4, hg_3, hg_2, hg_1, hT1, hg2, hg3, hT4]) <;> (first | (simp [mvOk, mvNew, mvRet, bI, c_11, c_19, c_56]; done) | (simp [mvOk, mvNew, mvRet, bI, c_11, c_19, c_56] <;> rfl) | rfl))) (z_cons rfl (z_cons rfl (z_cons rfl (z_cons rfl (z_cons (congrArg (fun T => zSta cI t4 T) (show S = T4 from by (try simp only [hg_6, hg_5, hg_4, hg_3, hg_2, hg_1, hT1, hg2, hg3, hT4]) <;> (first | (simp [mvOk, mvNew, mvRet, bI, c_11, c_19, c_56]; done) | (simp [mvOk, mvNew, mvRet, bI, c_11, c_19, c_56] <;> rfl) | rfl))) rfl))))))))) dX5_move_64
      · have c_56 : (mvR S i nx ny) = true := bI_t c_56
        refine lv_iconst (v := 1) hx hb dX5_move_59 (by decide) ?_
        refine lv_goto (tgt := 64) hx hb dX5_move_60 (by decide) ?_
        have hP : va_P D vwCl (zB [zGri g q h, zSta cI q g_6, zHea cQ h (uN (uQ Z g_1) g_2), zSto cI t0 S0, zSto cI t1 S1, zSto cI t2 S2, zSto cI t3 S3, zSta cI t4 S]) H := zB_sub (Cs := [zGri g q h, zSta cI q g_6, zHea cQ h (uN (uQ Z g_1) g_2), zSto cI t0 S0, zSto cI t1 S1, zSto cI t2 S2, zSto cI t3 S3, zSta cI t4 S]) hP [0, 7, 1, 2, 3, 4, 5, 6] rfl
        exact z_wiret hx hb hr rfl hlocks hP hS (by (try simp only [hg_6, hg_5, hg_4, hg_3, hg_2, hg_1, hT1, hg2, hg3, hT4]) <;> (simp [mvOk, mvNew, mvRet, bI, c_11, c_19, c_56])) (congrArg (fun X => zB X) (z_cons rfl (z_cons (congrArg (fun T => zSta cI q T) (show g_6 = T1 from by (try simp only [hg_6, hg_5, hg_4, hg_3, hg_2, hg_1, hT1, hg2, hg3, hT4]) <;> (first | (simp [mvOk, mvNew, mvRet, bI, c_11, c_19, c_56]; done) | (simp [mvOk, mvNew, mvRet, bI, c_11, c_19, c_56] <;> rfl) | rfl))) (z_cons (congrArg (fun T => zHea cQ h T) (show uN (uQ Z g_1) g_2 = uN (uQ Z g2) g3 from by (try simp only [hg_6, hg_5, hg_4, hg_3, hg_2, hg_1, hT1, hg2, hg3, hT4]) <;> (first | (simp [mvOk, mvNew, mvRet, bI, c_11, c_19, c_56]; done) | (simp [mvOk, mvNew, mvRet, bI, c_11, c_19, c_56] <;> rfl) | rfl))) (z_cons rfl (z_cons rfl (z_cons rfl (z_cons rfl (z_cons (congrArg (fun T => zSta cI t4 T) (show S = T4 from by (try simp only [hg_6, hg_5, hg_4, hg_3, hg_2, hg_1, hT1, hg2, hg3, hT4]) <;> (first | (simp [mvOk, mvNew, mvRet, bI, c_11, c_19, c_56]; done) | (simp [mvOk, mvNew, mvRet, bI, c_11, c_19, c_56] <;> rfl) | rfl))) rfl))))))))) dX5_move_64
    · have c_19 : (onMap nx ny) = false := bI_f c_19
      refine lv_iconst (v := (-1)) hx hb dX5_move_22 (by decide) ?_
      exact z_wiret hx hb hr rfl hlocks hP hS (by (try simp only [hT1, hg2, hg3, hT4]) <;> (simp [mvOk, mvNew, mvRet, bI, c_11, c_19])) (congrArg (fun X => zB X) (z_cons rfl (z_cons (congrArg (fun T => zSta cI q T) (show S = T1 from by (try simp only [hT1, hg2, hg3, hT4]) <;> (first | (simp [mvOk, mvNew, mvRet, bI, c_11, c_19]; done) | (simp [mvOk, mvNew, mvRet, bI, c_11, c_19] <;> rfl) | rfl))) (z_cons (congrArg (fun T => zHea cQ h T) (show Z = uN (uQ Z g2) g3 from by (try simp only [hT1, hg2, hg3, hT4]) <;> (first | (simp [mvOk, mvNew, mvRet, bI, c_11, c_19]; done) | (simp [mvOk, mvNew, mvRet, bI, c_11, c_19] <;> rfl) | rfl))) (z_cons rfl (z_cons rfl (z_cons rfl (z_cons rfl (z_cons (congrArg (fun T => zSta cI t4 T) (show S4 = T4 from by (try simp only [hT1, hg2, hg3, hT4]) <;> (first | (simp [mvOk, mvNew, mvRet, bI, c_11, c_19]; done) | (simp [mvOk, mvNew, mvRet, bI, c_11, c_19] <;> rfl) | rfl))) rfl))))))))) dX5_move_23
set_option maxHeartbeats 1000000 in
set_option maxRecDepth 100000 in
theorem c_X5_setCrowd (l : Launch) (D : va_G) (cI cQ : ClassId) (g : Nat → Nat) (q : Nat → Nat) (h : Nat → Nat) (t0 : Nat → Nat) (t1 : Nat → Nat) (t2 : Nat → Nat) (t3 : Nat → Nat) (t4 : Nat → Nat) (S : CS) (Z : HZ) (S0 : CS) (S1 : CS) (S2 : CS) (S3 : CS) (S4 : CS) (v : Int32) (hz0 : hQ Z 0 = some (t0 0)) (hz1 : hQ Z 1 = some (t1 0)) (hz2 : hQ Z 2 = some (t2 0)) (hz3 : hQ Z 3 = some (t3 0)) (hz4 : hQ Z 4 = some (t4 0)) (T1 : CS) (hT1 : T1 = if btw v 2 9 then scNew S v else S) (g2 : Nat → Option Nat) (hg2 : g2 = if btw v 2 9 then z_qK (hQ Z) (t0 0) (t1 0) (t2 0) (t3 0) (t4 0) else hQ Z) (g3 : Int32) (hg3 : g3 = if btw v 2 9 then z_minH (hN Z) else hN Z) (T4 : CS) (hT4 : T4 = if btw v 2 9 then S else S4) : zWR l yX5_setCrowd (Cond.code yX5_setCrowd cX5_setCrowd 3 (some .int) :: zT) 6 151 [.ref (g 0), .int v] D cI cQ (zB [zGri g q h, zSta cI q S, zHea cQ h Z, zSto cI t0 S0, zSto cI t1 S1, zSto cI t2 S2, zSto cI t3 S3, zSta cI t4 S4]) (some (.int (scRet S v))) (zB [zGri g q h, zSta cI q T1, zHea cQ h (uN (uQ Z g2) g3), zSto cI t0 S0, zSto cI t1 S1, zSto cI t2 S2, zSto cI t3 S3, zSta cI t4 T4]) := by
  refine zWR.of (cc := cX5_setCrowd) (maxL := 3) (ret := some .int) (by decide +kernel) rfl (Nat.le_of_ble_eq_true rfl) ?_
  intro pg e s mi args below meth cd hx hb hr hts hown hlocks hml hP hD hS hK ls hl
  have hz : ∀ w ∈ zT, w.before args s = true := fun w h => hts w (List.mem_cons_of_mem _ h)
  have hl : lv_has ls 3 [(0, .ref (g 0)), (1, .int (v))] := hl
  refine lv_iload_n hx hb dX5_setCrowd_0 rfl (lv_at hl 1 rfl) ?_
  refine lv_iconst (v := 2) hx hb dX5_setCrowd_1 (by decide) ?_
  refine lv_bipush (v := 9) hx hb dX5_setCrowd_2 (by decide) ?_
  refine z_ro (va_runS (As := [.int (v), .int (2 : Int32), .int (9 : Int32)]) (rest := []) ⟨hx, hb, hml, hown, hz⟩ (c_X5_isBetween l D cI cQ v (2 : Int32) (9 : Int32)) (zcwS 3 hz q1_138 q1_58 q1_1 q1_59 hd_X5_isBetween (Nat.le_of_ble_eq_true rfl) (Nat.le_of_ble_eq_true rfl)) (z_ps hK z_nil) rfl rfl hl.1 rfl (lv_room (Nat.le_of_ble_eq_true rfl)) dX5_setCrowd_4 ⟨(Nat.le_of_ble_eq_true rfl), (Nat.le_of_ble_eq_true rfl)⟩) ?_
  refine lv_if_ne (tgt := 12) hx hb dX5_setCrowd_7 (by decide) (fun c_7 => ?_) (fun c_7 => ?_)
  · have c_7 : (btw v (2 : Int32) (9 : Int32)) = true := bI_t c_7
    refine lv_aload_n hx hb dX5_setCrowd_12 rfl (lv_at hl 0 rfl) ?_
    refine va_get (D := D) (ci := 5) (v := .ref (h 0)) (C := RX5) (T := TX5) (N := 2) hx hb hz inZ5 hown hK.1 hP 0 rfl rfl 1 (by decide) (hz _ q1_125) (fun _ h9 => h9) rfl dX5_setCrowd_13 ?_
    refine lv_aload_n hx hb dX5_setCrowd_16 rfl (lv_at hl 0 rfl) ?_
    refine va_get (D := D) (ci := 5) (v := .ref (q 0)) (C := RX5) (T := TX5) (N := 2) hx hb hz inZ5 hown hK.1 hP 0 rfl rfl 0 (by decide) (hz _ q1_124) (fun _ h9 => h9) rfl dX5_setCrowd_17 ?_
    obtain ⟨g_1, hg_1⟩ : ∃ z : Nat → Option Nat, z = z_qK (hQ Z) (t0 0) (t1 0) (t2 0) (t3 0) (t4 0) := ⟨_, rfl⟩
    obtain ⟨g_2, hg_2⟩ : ∃ z : Int32, z = z_minH (hN Z) := ⟨_, rfl⟩
    refine z_bjv (Rs := [zGri g q h]) (va_runV (As := [.ref (q 0)]) (rest := []) ⟨hx, hb, hml, hown, hz⟩ (c_X1_keep l D cI cQ h t0 t1 t2 t3 t4 q Z S0 S1 S2 S3 S4 S (hz0) (hz1) (hz2) (hz3) (hz4) g_1 hg_1 g_2 hg_2) (zcwV 1 hz q1_143 q1_144 q1_145 q1_6 q1_146 hd_X1_keep (Nat.le_of_ble_eq_true rfl) (Nat.le_of_ble_eq_true rfl)) (z_pvw (ci := 1) (q := (RX1, TX1, 2)) hK (zB_sub (Cs := [zHea cQ h Z, zSto cI t0 S0, zSto cI t1 S1, zSto cI t2 S2, zSto cI t3 S3, zSta cI t4 S4, zSta cI q S]) hP [2, 3, 4, 5, 6, 7, 1] rfl) (zB_Dsub (Cs := [zHea cQ h Z, zSto cI t0 S0, zSto cI t1 S1, zSto cI t2 S2, zSto cI t3 S3, zSta cI t4 S4, zSta cI q S]) hD [2, 3, 4, 5, 6, 7, 1] (by decide) rfl) rfl rfl) rfl rfl hl.1 rfl (lv_room (Nat.le_of_ble_eq_true rfl)) dX5_setCrowd_20 ⟨(Nat.le_of_ble_eq_true rfl), (Nat.le_of_ble_eq_true rfl)⟩) hP hD hS [2, 3, 4, 5, 6, 7, 1] [0] rfl rfl (by decide) rfl (fun H locs hP hD hS => ?_)
    have hP : va_P D vwCl (zB [zGri g q h, zHea cQ h (uN (uQ Z g_1) g_2), zSto cI t0 S0, zSto cI t1 S1, zSto cI t2 S2, zSto cI t3 S3, zSta cI t4 S, zSta cI q S]) H := hP
    have hD : va_D (zA (zB [zGri g q h, zSta cI q S, zHea cQ h Z, zSto cI t0 S0, zSto cI t1 S1, zSto cI t2 S2, zSto cI t3 S3, zSta cI t4 S4])) (zB [zGri g q h, zHea cQ h (uN (uQ Z g_1) g_2), zSto cI t0 S0, zSto cI t1 S1, zSto cI t2 S2, zSto cI t3 S3, zSta cI t4 S, zSta cI q S]) := hD
    refine lv_aload_n hx hb dX5_setCrowd_23 rfl (lv_at hl 0 rfl) ?_
    refine va_get (D := D) (ci := 5) (v := .ref (q 0)) (C := RX5) (T := TX5) (N := 2) hx hb hz inZ5 hown hK.1 hP 0 rfl rfl 0 (by decide) (hz _ q1_124) (fun _ h9 => h9) rfl dX5_setCrowd_24 ?_
    refine va_getN (D := D) (ci := 4) (v := .int (sCr S)) (C := RX4) (T := TX4) (N := 5) hx hb hz inZ4 hown hK.1 hP 19 rfl rfl 0 (by decide) (va_Nw.use rfl (hK.2.2.2.2.2.2.2.2.2.2.2.2.1)) (fun _ h9 => h9) rfl dX5_setCrowd_27 ?_
    refine lv_istore_n (lv' := [(2, .int (sCr S)), (0, .ref (g 0)), (1, .int (v))]) hx hb dX5_setCrowd_30 rfl hl (by decide) rfl (fun ls hl => ?_)
    refine lv_aload_n hx hb dX5_setCrowd_31 rfl (lv_at hl 1 rfl) ?_
    refine va_get (D := D) (ci := 5) (v := .ref (q 0)) (C := RX5) (T := TX5) (N := 2) hx hb hz inZ5 hown hK.1 hP 0 rfl rfl 0 (by decide) (hz _ q1_124) (fun _ h9 => h9) rfl dX5_setCrowd_32 ?_
    refine lv_iload_n hx hb dX5_setCrowd_35 rfl (lv_at hl 2 rfl) ?_
    refine va_putN (D := D) (ci := 4) (v := .int (v)) (ty := .int) (C := RX4) (T := TX4) (N := 5) hx hb hz inZ4 tyX4 tyX4_ok nmX4 hown hK.1 hP hD hS 19 rfl rfl 0 (by decide) (va_Nw.use rfl (hK.2.2.2.2.2.2.2.2.2.2.2.2.1)) (fun _ h9 => h9) rfl (by decide +kernel) rfl rfl (Nat.le_of_ble_eq_true rfl) dX5_setCrowd_36 (fun H locs hP hD hS => ?_)
    have hP : va_P D vwCl (zB [zGri g q h, zHea cQ h (uN (uQ Z g_1) g_2), zSto cI t0 S0, zSto cI t1 S1, zSto cI t2 S2, zSto cI t3 S3, zSta cI t4 S, zSta cI q (uCr S v)]) H := hP
    have hD : va_D (zA (zB [zGri g q h, zSta cI q S, zHea cQ h Z, zSto cI t0 S0, zSto cI t1 S1, zSto cI t2 S2, zSto cI t3 S3, zSta cI t4 S4])) (zB [zGri g q h, zHea cQ h (uN (uQ Z g_1) g_2), zSto cI t0 S0, zSto cI t1 S1, zSto cI t2 S2, zSto cI t3 S3, zSta cI t4 S, zSta cI q (uCr S v)]) := hD
    refine lv_aload_n hx hb dX5_setCrowd_39 rfl (lv_at hl 1 rfl) ?_
    refine va_get (D := D) (ci := 5) (v := .ref (q 0)) (C := RX5) (T := TX5) (N := 2) hx hb hz inZ5 hown hK.1 hP 0 rfl rfl 0 (by decide) (hz _ q1_124) (fun _ h9 => h9) rfl dX5_setCrowd_40 ?_
    obtain ⟨g_3, hg_3⟩ : ∃ z : CS, z = spG 40 (uCr S v) := ⟨_, rfl⟩
    refine z_bwv (b' := zSta cI q g_3) (Bs' := [zGri g q h, zHea cQ h (uN (uQ Z g_1) g_2), zSto cI t0 S0, zSto cI t1 S1, zSto cI t2 S2, zSto cI t3 S3, zSta cI t4 S, zSta cI q g_3]) (va_runV (As := []) (rest := []) ⟨hx, hb, hml, hown, hz⟩ (c_X4_splitCrowded l D cI cQ q (uCr S v) g_3 hg_3) (zcwV 0 hz q1_195 q1_196 q1_197 q1_2 q1_198 hd_X4_splitCrowded (Nat.le_of_ble_eq_true rfl) (Nat.le_of_ble_eq_true rfl)) (z_pvw (ci := 4) (q := (RX4, TX4, 5)) hK (zB_blk (b := zSta cI q (uCr S v)) hP 7 rfl) (zB_Dblk (b := zSta cI q (uCr S v)) hD 7 rfl) rfl rfl) rfl rfl hl.1 rfl (lv_room (Nat.le_of_ble_eq_true rfl)) dX5_setCrowd_43 ⟨(Nat.le_of_ble_eq_true rfl), (Nat.le_of_ble_eq_true rfl)⟩) hP hD hS 7 rfl [0, 1, 2, 3, 4, 5, 6, 7, 8, 9, 10, 11] rfl rfl rfl rfl (fun H locs hP hD hS => ?_)
    refine lv_iload_n hx hb dX5_setCrowd_46 rfl (lv_at hl 0 rfl) ?_
    have hP : va_P D vwCl (zB [zGri g q h, zSta cI q g_3, zHea cQ h (uN (uQ Z g_1) g_2), zSto cI t0 S0, zSto cI t1 S1, zSto cI t2 S2, zSto cI t3 S3, zSta cI t4 S]) H := zB_sub (Cs := [zGri g q h, zSta cI q g_3, zHea cQ h (uN (uQ Z g_1) g_2), zSto cI t0 S0, zSto cI t1 S1, zSto cI t2 S2, zSto cI t3 S3, zSta cI t4 S]) hP [0, 7, 1, 2, 3, 4, 5, 6] rfl
    exact z_wiret hx hb hr rfl hlocks hP hS (by (try simp only [hg_3, hg_2, hg_1, hT1, hg2, hg3, hT4]) <;> (simp [scNew, scRet, c_7])) (congrArg (fun X => zB X) (z_cons rfl (z_cons (congrArg (fun T => zSta cI q T) (show g_3 = T1 from by (try simp only [hg_3, hg_2, hg_1, hT1, hg2, hg3, hT4]) <;> (first | (simp [scNew, scRet, c_7]; done) | (simp [scNew, scRet, c_7] <;> rfl) | rfl))) (z_cons (congrArg (fun T => zHea cQ h T) (show uN (uQ Z g_1) g_2 = uN (uQ Z g2) g3 from by (try simp only [hg_3, hg_2, hg_1, hT1, hg2, hg3, hT4]) <;> (first | (simp [scNew, scRet, c_7]; done) | (simp [scNew, scRet, c_7] <;> rfl) | rfl))) (z_cons rfl (z_cons rfl (z_cons rfl (z_cons rfl (z_cons (congrArg (fun T => zSta cI t4 T) (show S = T4 from by (try simp only [hg_3, hg_2, hg_1, hT1, hg2, hg3, hT4]) <;> (first | (simp [scNew, scRet, c_7]; done) | (simp [scNew, scRet, c_7] <;> rfl) | rfl))) rfl))))))))) dX5_setCrowd_47
  · have c_7 : (btw v (2 : Int32) (9 : Int32)) = false := bI_f c_7
    refine lv_iconst (v := (-1)) hx hb dX5_setCrowd_10 (by decide) ?_
    exact z_wiret hx hb hr rfl hlocks hP hS (by (try simp only [hT1, hg2, hg3, hT4]) <;> (simp [scNew, scRet, c_7])) (congrArg (fun X => zB X) (z_cons rfl (z_cons (congrArg (fun T => zSta cI q T) (show S = T1 from by (try simp only [hT1, hg2, hg3, hT4]) <;> (first | (simp [scNew, scRet, c_7]; done) | (simp [scNew, scRet, c_7] <;> rfl) | rfl))) (z_cons (congrArg (fun T => zHea cQ h T) (show Z = uN (uQ Z g2) g3 from by (try simp only [hT1, hg2, hg3, hT4]) <;> (first | (simp [scNew, scRet, c_7]; done) | (simp [scNew, scRet, c_7] <;> rfl) | rfl))) (z_cons rfl (z_cons rfl (z_cons rfl (z_cons rfl (z_cons (congrArg (fun T => zSta cI t4 T) (show S4 = T4 from by (try simp only [hT1, hg2, hg3, hT4]) <;> (first | (simp [scNew, scRet, c_7]; done) | (simp [scNew, scRet, c_7] <;> rfl) | rfl))) rfl))))))))) dX5_setCrowd_11
set_option maxHeartbeats 1000000 in
set_option maxRecDepth 100000 in
theorem c_X5_setTithe (l : Launch) (D : va_G) (cI cQ : ClassId) (g : Nat → Nat) (q : Nat → Nat) (h : Nat → Nat) (t0 : Nat → Nat) (t1 : Nat → Nat) (t2 : Nat → Nat) (t3 : Nat → Nat) (t4 : Nat → Nat) (S : CS) (Z : HZ) (S0 : CS) (S1 : CS) (S2 : CS) (S3 : CS) (S4 : CS) (v : Int32) (hz0 : hQ Z 0 = some (t0 0)) (hz1 : hQ Z 1 = some (t1 0)) (hz2 : hQ Z 2 = some (t2 0)) (hz3 : hQ Z 3 = some (t3 0)) (hz4 : hQ Z 4 = some (t4 0)) (T1 : CS) (hT1 : T1 = if btw v 1 9 then stNew S v else S) (g2 : Nat → Option Nat) (hg2 : g2 = if btw v 1 9 then z_qK (hQ Z) (t0 0) (t1 0) (t2 0) (t3 0) (t4 0) else hQ Z) (g3 : Int32) (hg3 : g3 = if btw v 1 9 then z_minH (hN Z) else hN Z) (T4 : CS) (hT4 : T4 = if btw v 1 9 then S else S4) : zWR l yX5_setTithe (Cond.code yX5_setTithe cX5_setTithe 3 (some .int) :: zT) 6 151 [.ref (g 0), .int v] D cI cQ (zB [zGri g q h, zSta cI q S, zHea cQ h Z, zSto cI t0 S0, zSto cI t1 S1, zSto cI t2 S2, zSto cI t3 S3, zSta cI t4 S4]) (some (.int (stRet S v))) (zB [zGri g q h, zSta cI q T1, zHea cQ h (uN (uQ Z g2) g3), zSto cI t0 S0, zSto cI t1 S1, zSto cI t2 S2, zSto cI t3 S3, zSta cI t4 T4]) := by
  refine zWR.of (cc := cX5_setTithe) (maxL := 3) (ret := some .int) (by decide +kernel) rfl (Nat.le_of_ble_eq_true rfl) ?_
  intro pg e s mi args below meth cd hx hb hr hts hown hlocks hml hP hD hS hK ls hl
  have hz : ∀ w ∈ zT, w.before args s = true := fun w h => hts w (List.mem_cons_of_mem _ h)
  have hl : lv_has ls 3 [(0, .ref (g 0)), (1, .int (v))] := hl
  refine lv_iload_n hx hb dX5_setTithe_0 rfl (lv_at hl 1 rfl) ?_
  refine lv_iconst (v := 1) hx hb dX5_setTithe_1 (by decide) ?_
  refine lv_bipush (v := 9) hx hb dX5_setTithe_2 (by decide) ?_
  refine z_ro (va_runS (As := [.int (v), .int (1 : Int32), .int (9 : Int32)]) (rest := []) ⟨hx, hb, hml, hown, hz⟩ (c_X5_isBetween l D cI cQ v (1 : Int32) (9 : Int32)) (zcwS 3 hz q1_138 q1_58 q1_1 q1_59 hd_X5_isBetween (Nat.le_of_ble_eq_true rfl) (Nat.le_of_ble_eq_true rfl)) (z_ps hK z_nil) rfl rfl hl.1 rfl (lv_room (Nat.le_of_ble_eq_true rfl)) dX5_setTithe_4 ⟨(Nat.le_of_ble_eq_true rfl), (Nat.le_of_ble_eq_true rfl)⟩) ?_
  refine lv_if_ne (tgt := 12) hx hb dX5_setTithe_7 (by decide) (fun c_7 => ?_) (fun c_7 => ?_)
  · have c_7 : (btw v (1 : Int32) (9 : Int32)) = true := bI_t c_7
    refine lv_aload_n hx hb dX5_setTithe_12 rfl (lv_at hl 0 rfl) ?_
    refine va_get (D := D) (ci := 5) (v := .ref (h 0)) (C := RX5) (T := TX5) (N := 2) hx hb hz inZ5 hown hK.1 hP 0 rfl rfl 1 (by decide) (hz _ q1_125) (fun _ h9 => h9) rfl dX5_setTithe_13 ?_
    refine lv_aload_n hx hb dX5_setTithe_16 rfl (lv_at hl 0 rfl) ?_
    refine va_get (D := D) (ci := 5) (v := .ref (q 0)) (C := RX5) (T := TX5) (N := 2) hx hb hz inZ5 hown hK.1 hP 0 rfl rfl 0 (by decide) (hz _ q1_124) (fun _ h9 => h9) rfl dX5_setTithe_17 ?_
    obtain ⟨g_1, hg_1⟩ : ∃ z : Nat → Option Nat, z = z_qK (hQ Z) (t0 0) (t1 0) (t2 0) (t3 0) (t4 0) := ⟨_, rfl⟩
    obtain ⟨g_2, hg_2⟩ : ∃ z : Int32, z = z_minH (hN Z) := ⟨_, rfl⟩
    refine z_bjv (Rs := [zGri g q h]) (va_runV (As := [.ref (q 0)]) (rest := []) ⟨hx, hb, hml, hown, hz⟩ (c_X1_keep l D cI cQ h t0 t1 t2 t3 t4 q Z S0 S1 S2 S3 S4 S (hz0) (hz1) (hz2) (hz3) (hz4) g_1 hg_1 g_2 hg_2) (zcwV 1 hz q1_143 q1_144 q1_145 q1_6 q1_146 hd_X1_keep (Nat.le_of_ble_eq_true rfl) (Nat.le_of_ble_eq_true rfl)) (z_pvw (ci := 1) (q := (RX1, TX1, 2)) hK (zB_sub (Cs := [zHea cQ h Z, zSto cI t0 S0, zSto cI t1 S1, zSto cI t2 S2, zSto cI t3 S3, zSta cI t4 S4, zSta cI q S]) hP [2, 3, 4, 5, 6, 7, 1] rfl) (zB_Dsub (Cs := [zHea cQ h Z, zSto cI t0 S0, zSto cI t1 S1, zSto cI t2 S2, zSto cI t3 S3, zSta cI t4 S4, zSta cI q S]) hD [2, 3, 4, 5, 6, 7, 1] (by decide) rfl) rfl rfl) rfl rfl hl.1 rfl (lv_room (Nat.le_of_ble_eq_true rfl)) dX5_setTithe_20 ⟨(Nat.le_of_ble_eq_true rfl), (Nat.le_of_ble_eq_true rfl)⟩) hP hD hS [2, 3, 4, 5, 6, 7, 1] [0] rfl rfl (by decide) rfl (fun H locs hP hD hS => ?_)
    have hP : va_P D vwCl (zB [zGri g q h, zHea cQ h (uN (uQ Z g_1) g_2), zSto cI t0 S0, zSto cI t1 S1, zSto cI t2 S2, zSto cI t3 S3, zSta cI t4 S, zSta cI q S]) H := hP
    have hD : va_D (zA (zB [zGri g q h, zSta cI q S, zHea cQ h Z, zSto cI t0 S0, zSto cI t1 S1, zSto cI t2 S2, zSto cI t3 S3, zSta cI t4 S4])) (zB [zGri g q h, zHea cQ h (uN (uQ Z g_1) g_2), zSto cI t0 S0, zSto cI t1 S1, zSto cI t2 S2, zSto cI t3 S3, zSta cI t4 S, zSta cI q S]) := hD
    refine lv_aload_n hx hb dX5_setTithe_23 rfl (lv_at hl 0 rfl) ?_
    refine va_get (D := D) (ci := 5) (v := .ref (q 0)) (C := RX5) (T := TX5) (N := 2) hx hb hz inZ5 hown hK.1 hP 0 rfl rfl 0 (by decide) (hz _ q1_124) (fun _ h9 => h9) rfl dX5_setTithe_24 ?_
    refine va_getN (D := D) (ci := 4) (v := .int (sTi S)) (C := RX4) (T := TX4) (N := 5) hx hb hz inZ4 hown hK.1 hP 19 rfl rfl 1 (by decide) (va_Nw.use rfl (hK.2.2.2.2.2.2.2.2.2.2.2.2.2.1)) (fun _ h9 => h9) rfl dX5_setTithe_27 ?_
    refine lv_istore_n (lv' := [(2, .int (sTi S)), (0, .ref (g 0)), (1, .int (v))]) hx hb dX5_setTithe_30 rfl hl (by decide) rfl (fun ls hl => ?_)
    refine lv_aload_n hx hb dX5_setTithe_31 rfl (lv_at hl 1 rfl) ?_
    refine va_get (D := D) (ci := 5) (v := .ref (q 0)) (C := RX5) (T := TX5) (N := 2) hx hb hz inZ5 hown hK.1 hP 0 rfl rfl 0 (by decide) (hz _ q1_124) (fun _ h9 => h9) rfl dX5_setTithe_32 ?_
    refine lv_iload_n hx hb dX5_setTithe_35 rfl (lv_at hl 2 rfl) ?_
    refine va_putN (D := D) (ci := 4) (v := .int (v)) (ty := .int) (C := RX4) (T := TX4) (N := 5) hx hb hz inZ4 tyX4 tyX4_ok nmX4 hown hK.1 hP hD hS 19 rfl rfl 1 (by decide) (va_Nw.use rfl (hK.2.2.2.2.2.2.2.2.2.2.2.2.2.1)) (fun _ h9 => h9) rfl (by decide +kernel) rfl rfl (Nat.le_of_ble_eq_true rfl) dX5_setTithe_36 (fun H locs hP hD hS => ?_)
    have hP : va_P D vwCl (zB [zGri g q h, zHea cQ h (uN (uQ Z g_1) g_2), zSto cI t0 S0, zSto cI t1 S1, zSto cI t2 S2, zSto cI t3 S3, zSta cI t4 S, zSta cI q (uTi S v)]) H := hP
    have hD : va_D (zA (zB [zGri g q h, zSta cI q S, zHea cQ h Z, zSto cI t0 S0, zSto cI t1 S1, zSto cI t2 S2, zSto cI t3 S3, zSta cI t4 S4])) (zB [zGri g q h, zHea cQ h (uN (uQ Z g_1) g_2), zSto cI t0 S0, zSto cI t1 S1, zSto cI t2 S2, zSto cI t3 S3, zSta cI t4 S, zSta cI q (uTi S v)]) := hD
    refine lv_aload_n hx hb dX5_setTithe_39 rfl (lv_at hl 1 rfl) ?_
    refine va_get (D := D) (ci := 5) (v := .ref (q 0)) (C := RX5) (T := TX5) (N := 2) hx hb hz inZ5 hown hK.1 hP 0 rfl rfl 0 (by decide) (hz _ q1_124) (fun _ h9 => h9) rfl dX5_setTithe_40 ?_
    obtain ⟨g_3, hg_3⟩ : ∃ z : CS, z = spG 40 (uTi S v) := ⟨_, rfl⟩
    refine z_bwv (b' := zSta cI q g_3) (Bs' := [zGri g q h, zHea cQ h (uN (uQ Z g_1) g_2), zSto cI t0 S0, zSto cI t1 S1, zSto cI t2 S2, zSto cI t3 S3, zSta cI t4 S, zSta cI q g_3]) (va_runV (As := []) (rest := []) ⟨hx, hb, hml, hown, hz⟩ (c_X4_splitCrowded l D cI cQ q (uTi S v) g_3 hg_3) (zcwV 0 hz q1_195 q1_196 q1_197 q1_2 q1_198 hd_X4_splitCrowded (Nat.le_of_ble_eq_true rfl) (Nat.le_of_ble_eq_true rfl)) (z_pvw (ci := 4) (q := (RX4, TX4, 5)) hK (zB_blk (b := zSta cI q (uTi S v)) hP 7 rfl) (zB_Dblk (b := zSta cI q (uTi S v)) hD 7 rfl) rfl rfl) rfl rfl hl.1 rfl (lv_room (Nat.le_of_ble_eq_true rfl)) dX5_setTithe_43 ⟨(Nat.le_of_ble_eq_true rfl), (Nat.le_of_ble_eq_true rfl)⟩) hP hD hS 7 rfl [0, 1, 2, 3, 4, 5, 6, 7, 8, 9, 10, 11] rfl rfl rfl rfl (fun H locs hP hD hS => ?_)
    refine lv_iload_n hx hb dX5_setTithe_46 rfl (lv_at hl 0 rfl) ?_
    have hP : va_P D vwCl (zB [zGri g q h, zSta cI q g_3, zHea cQ h (uN (uQ Z g_1) g_2), zSto cI t0 S0, zSto cI t1 S1, zSto cI t2 S2, zSto cI t3 S3, zSta cI t4 S]) H := zB_sub (Cs := [zGri g q h, zSta cI q g_3, zHea cQ h (uN (uQ Z g_1) g_2), zSto cI t0 S0, zSto cI t1 S1, zSto cI t2 S2, zSto cI t3 S3, zSta cI t4 S]) hP [0, 7, 1, 2, 3, 4, 5, 6] rfl
    exact z_wiret hx hb hr rfl hlocks hP hS (by (try simp only [hg_3, hg_2, hg_1, hT1, hg2, hg3, hT4]) <;> (simp [stNew, stRet, c_7])) (congrArg (fun X => zB X) (z_cons rfl (z_cons (congrArg (fun T => zSta cI q T) (show g_3 = T1 from by (try simp only [hg_3, hg_2, hg_1, hT1, hg2, hg3, hT4]) <;> (first | (simp [stNew, stRet, c_7]; done) | (simp [stNew, stRet, c_7] <;> rfl) | rfl))) (z_cons (congrArg (fun T => zHea cQ h T) (show uN (uQ Z g_1) g_2 = uN (uQ Z g2) g3 from by (try simp only [hg_3, hg_2, hg_1, hT1, hg2, hg3, hT4]) <;> (first | (simp [stNew, stRet, c_7]; done) | (simp [stNew, stRet, c_7] <;> rfl) | rfl))) (z_cons rfl (z_cons rfl (z_cons rfl (z_cons rfl (z_cons (congrArg (fun T => zSta cI t4 T) (show S = T4 from by (try simp only [hg_3, hg_2, hg_1, hT1, hg2, hg3, hT4]) <;> (first | (simp [stNew, stRet, c_7]; done) | (simp [stNew, stRet, c_7] <;> rfl) | rfl))) rfl))))))))) dX5_setTithe_47
  · have c_7 : (btw v (1 : Int32) (9 : Int32)) = false := bI_f c_7
    refine lv_iconst (v := (-1)) hx hb dX5_setTithe_10 (by decide) ?_
    exact z_wiret hx hb hr rfl hlocks hP hS (by (try simp only [hT1, hg2, hg3, hT4]) <;> (simp [stNew, stRet, c_7])) (congrArg (fun X => zB X) (z_cons rfl (z_cons (congrArg (fun T => zSta cI q T) (show S = T1 from by (try simp only [hT1, hg2, hg3, hT4]) <;> (first | (simp [stNew, stRet, c_7]; done) | (simp [stNew, stRet, c_7] <;> rfl) | rfl))) (z_cons (congrArg (fun T => zHea cQ h T) (show Z = uN (uQ Z g2) g3 from by (try simp only [hT1, hg2, hg3, hT4]) <;> (first | (simp [stNew, stRet, c_7]; done) | (simp [stNew, stRet, c_7] <;> rfl) | rfl))) (z_cons rfl (z_cons rfl (z_cons rfl (z_cons rfl (z_cons (congrArg (fun T => zSta cI t4 T) (show S4 = T4 from by (try simp only [hT1, hg2, hg3, hT4]) <;> (first | (simp [stNew, stRet, c_7]; done) | (simp [stNew, stRet, c_7] <;> rfl) | rfl))) rfl))))))))) dX5_setTithe_11
set_option maxHeartbeats 1000000 in
set_option maxRecDepth 100000 in
theorem c_X5_pay (l : Launch) (D : va_G) (cI cQ : ClassId) (g : Nat → Nat) (q : Nat → Nat) (h : Nat → Nat) (t0 : Nat → Nat) (t1 : Nat → Nat) (t2 : Nat → Nat) (t3 : Nat → Nat) (t4 : Nat → Nat) (S : CS) (Z : HZ) (S0 : CS) (S1 : CS) (S2 : CS) (S3 : CS) (S4 : CS) (pa : Int32) (hz0 : hQ Z 0 = some (t0 0)) (hz1 : hQ Z 1 = some (t1 0)) (hz2 : hQ Z 2 = some (t2 0)) (hz3 : hQ Z 3 = some (t3 0)) (hz4 : hQ Z 4 = some (t4 0)) (T1 : CS) (hT1 : T1 = if rEx S pa then pyNew S pa else S) (g2 : Nat → Option Nat) (hg2 : g2 = if rEx S pa then z_qK (hQ Z) (t0 0) (t1 0) (t2 0) (t3 0) (t4 0) else hQ Z) (g3 : Int32) (hg3 : g3 = if rEx S pa then z_minH (hN Z) else hN Z) (T4 : CS) (hT4 : T4 = if rEx S pa then S else S4) : zWR l yX5_pay (Cond.code yX5_pay cX5_pay 3 (some .int) :: zT) 6 151 [.ref (g 0), .int pa] D cI cQ (zB [zGri g q h, zSta cI q S, zHea cQ h Z, zSto cI t0 S0, zSto cI t1 S1, zSto cI t2 S2, zSto cI t3 S3, zSta cI t4 S4]) (some (.int (pyRet S pa))) (zB [zGri g q h, zSta cI q T1, zHea cQ h (uN (uQ Z g2) g3), zSto cI t0 S0, zSto cI t1 S1, zSto cI t2 S2, zSto cI t3 S3, zSta cI t4 T4]) := by
  refine zWR.of (cc := cX5_pay) (maxL := 3) (ret := some .int) (by decide +kernel) rfl (Nat.le_of_ble_eq_true rfl) ?_
  intro pg e s mi args below meth cd hx hb hr hts hown hlocks hml hP hD hS hK ls hl
  have hz : ∀ w ∈ zT, w.before args s = true := fun w h => hts w (List.mem_cons_of_mem _ h)
  have hl : lv_has ls 3 [(0, .ref (g 0)), (1, .int (pa))] := hl
  refine lv_aload_n hx hb dX5_pay_0 rfl (lv_at hl 0 rfl) ?_
  refine va_get (D := D) (ci := 5) (v := .ref (q 0)) (C := RX5) (T := TX5) (N := 2) hx hb hz inZ5 hown hK.1 hP 0 rfl rfl 0 (by decide) (hz _ q1_124) (fun _ h9 => h9) rfl dX5_pay_1 ?_
  refine va_getN (D := D) (ci := 4) (v := .ref (q 6)) (C := RX4) (T := TX4) (N := 5) hx hb hz inZ4 hown hK.1 hP 1 rfl rfl 3 (by decide) (va_Nw.use rfl (hK.2.2.2.2.2.2.2.2.2.2.2.2.2.2.2.1)) (fun _ h9 => h9) rfl dX5_pay_4 ?_
  refine lv_iload_n hx hb dX5_pay_7 rfl (lv_at hl 1 rfl) ?_
  refine z_ro (va_runV (As := [.int (pa)]) (rest := []) ⟨hx, hb, hml, hown, hz⟩ (c_X2_exists l D cI cQ q S pa) (zcwV 1 hz q2_101 q1_184 q1_185 q1_4 q1_186 hd_X2_exists (Nat.le_of_ble_eq_true rfl) (Nat.le_of_ble_eq_true rfl)) (z_pv (ci := 2) (q := (RX2, TX2, 4)) hK ((zB_blk (b := zSta cI q S) hP 1 rfl).sub (ws' := zPar cI q S) [6, 7, 8, 9] rfl) rfl rfl) rfl rfl hl.1 rfl (lv_room (Nat.le_of_ble_eq_true rfl)) dX5_pay_8 ⟨(Nat.le_of_ble_eq_true rfl), (Nat.le_of_ble_eq_true rfl)⟩) ?_
  refine lv_if_ne (tgt := 16) hx hb dX5_pay_11 (by decide) (fun c_11 => ?_) (fun c_11 => ?_)
  · have c_11 : (rEx S pa) = true := bI_t c_11
    refine lv_aload_n hx hb dX5_pay_16 rfl (lv_at hl 0 rfl) ?_
    refine va_get (D := D) (ci := 5) (v := .ref (h 0)) (C := RX5) (T := TX5) (N := 2) hx hb hz inZ5 hown hK.1 hP 0 rfl rfl 1 (by decide) (hz _ q1_125) (fun _ h9 => h9) rfl dX5_pay_17 ?_
    refine lv_aload_n hx hb dX5_pay_20 rfl (lv_at hl 0 rfl) ?_
    refine va_get (D := D) (ci := 5) (v := .ref (q 0)) (C := RX5) (T := TX5) (N := 2) hx hb hz inZ5 hown hK.1 hP 0 rfl rfl 0 (by decide) (hz _ q1_124) (fun _ h9 => h9) rfl dX5_pay_21 ?_
    obtain ⟨g_1, hg_1⟩ : ∃ z : Nat → Option Nat, z = z_qK (hQ Z) (t0 0) (t1 0) (t2 0) (t3 0) (t4 0) := ⟨_, rfl⟩
    obtain ⟨g_2, hg_2⟩ : ∃ z : Int32, z = z_minH (hN Z) := ⟨_, rfl⟩
    refine z_bjv (Rs := [zGri g q h]) (va_runV (As := [.ref (q 0)]) (rest := []) ⟨hx, hb, hml, hown, hz⟩ (c_X1_keep l D cI cQ h t0 t1 t2 t3 t4 q Z S0 S1 S2 S3 S4 S (hz0) (hz1) (hz2) (hz3) (hz4) g_1 hg_1 g_2 hg_2) (zcwV 1 hz q1_143 q1_144 q1_145 q1_6 q1_146 hd_X1_keep (Nat.le_of_ble_eq_true rfl) (Nat.le_of_ble_eq_true rfl)) (z_pvw (ci := 1) (q := (RX1, TX1, 2)) hK (zB_sub (Cs := [zHea cQ h Z, zSto cI t0 S0, zSto cI t1 S1, zSto cI t2 S2, zSto cI t3 S3, zSta cI t4 S4, zSta cI q S]) hP [2, 3, 4, 5, 6, 7, 1] rfl) (zB_Dsub (Cs := [zHea cQ h Z, zSto cI t0 S0, zSto cI t1 S1, zSto cI t2 S2, zSto cI t3 S3, zSta cI t4 S4, zSta cI q S]) hD [2, 3, 4, 5, 6, 7, 1] (by decide) rfl) rfl rfl) rfl rfl hl.1 rfl (lv_room (Nat.le_of_ble_eq_true rfl)) dX5_pay_24 ⟨(Nat.le_of_ble_eq_true rfl), (Nat.le_of_ble_eq_true rfl)⟩) hP hD hS [2, 3, 4, 5, 6, 7, 1] [0] rfl rfl (by decide) rfl (fun H locs hP hD hS => ?_)
    have hP : va_P D vwCl (zB [zGri g q h, zHea cQ h (uN (uQ Z g_1) g_2), zSto cI t0 S0, zSto cI t1 S1, zSto cI t2 S2, zSto cI t3 S3, zSta cI t4 S, zSta cI q S]) H := hP
    have hD : va_D (zA (zB [zGri g q h, zSta cI q S, zHea cQ h Z, zSto cI t0 S0, zSto cI t1 S1, zSto cI t2 S2, zSto cI t3 S3, zSta cI t4 S4])) (zB [zGri g q h, zHea cQ h (uN (uQ Z g_1) g_2), zSto cI t0 S0, zSto cI t1 S1, zSto cI t2 S2, zSto cI t3 S3, zSta cI t4 S, zSta cI q S]) := hD
    refine lv_aload_n hx hb dX5_pay_27 rfl (lv_at hl 0 rfl) ?_
    refine va_get (D := D) (ci := 5) (v := .ref (q 0)) (C := RX5) (T := TX5) (N := 2) hx hb hz inZ5 hown hK.1 hP 0 rfl rfl 0 (by decide) (hz _ q1_124) (fun _ h9 => h9) rfl dX5_pay_28 ?_
    refine lv_iload_n hx hb dX5_pay_31 rfl (lv_at hl 1 rfl) ?_
    obtain ⟨g_3, hg_3⟩ : ∃ z : CS, z = (pyG pa 40 0 S).2 := ⟨_, rfl⟩
    refine z_bwi (b' := zSta cI q g_3) (Bs' := [zGri g q h, zHea cQ h (uN (uQ Z g_1) g_2), zSto cI t0 S0, zSto cI t1 S1, zSto cI t2 S2, zSto cI t3 S3, zSta cI t4 S, zSta cI q g_3]) (va_runV (As := [.int (pa)]) (rest := []) ⟨hx, hb, hml, hown, hz⟩ (c_X4_payTithes l D cI cQ q S pa g_3 hg_3) (zcwV 1 hz q2_102 q2_103 q2_104 q1_2 q2_105 hd_X4_payTithes (Nat.le_of_ble_eq_true rfl) (Nat.le_of_ble_eq_true rfl)) (z_pvw (ci := 4) (q := (RX4, TX4, 5)) hK (zB_blk (b := zSta cI q S) hP 7 rfl) (zB_Dblk (b := zSta cI q S) hD 7 rfl) rfl rfl) rfl rfl hl.1 rfl (lv_room (Nat.le_of_ble_eq_true rfl)) dX5_pay_32 ⟨(Nat.le_of_ble_eq_true rfl), (Nat.le_of_ble_eq_true rfl)⟩) hP hD hS 7 rfl [0, 1, 2, 3, 4, 5, 6, 7, 8, 9, 10, 11] rfl rfl rfl rfl (fun H locs hP hD hS => ?_)
    refine lv_istore_n (lv' := [(2, .int ((pyG pa 40 0 S).1)), (0, .ref (g 0)), (1, .int (pa))]) hx hb dX5_pay_35 rfl hl (by decide) rfl (fun ls hl => ?_)
    refine lv_aload_n hx hb dX5_pay_36 rfl (lv_at hl 1 rfl) ?_
    refine va_get (D := D) (ci := 5) (v := .ref (q 0)) (C := RX5) (T := TX5) (N := 2) hx hb hz inZ5 hown hK.1 hP 0 rfl rfl 0 (by decide) (hz _ q1_124) (fun _ h9 => h9) rfl dX5_pay_37 ?_
    obtain ⟨g_4, hg_4⟩ : ∃ z : CS, z = spG 40 g_3 := ⟨_, rfl⟩
    refine z_bwv (b' := zSta cI q g_4) (Bs' := [zGri g q h, zHea cQ h (uN (uQ Z g_1) g_2), zSto cI t0 S0, zSto cI t1 S1, zSto cI t2 S2, zSto cI t3 S3, zSta cI t4 S, zSta cI q g_4]) (va_runV (As := []) (rest := []) ⟨hx, hb, hml, hown, hz⟩ (c_X4_splitCrowded l D cI cQ q g_3 g_4 hg_4) (zcwV 0 hz q1_195 q1_196 q1_197 q1_2 q1_198 hd_X4_splitCrowded (Nat.le_of_ble_eq_true rfl) (Nat.le_of_ble_eq_true rfl)) (z_pvw (ci := 4) (q := (RX4, TX4, 5)) hK (zB_blk (b := zSta cI q g_3) hP 7 rfl) (zB_Dblk (b := zSta cI q g_3) hD 7 rfl) rfl rfl) rfl rfl hl.1 rfl (lv_room (Nat.le_of_ble_eq_true rfl)) dX5_pay_40 ⟨(Nat.le_of_ble_eq_true rfl), (Nat.le_of_ble_eq_true rfl)⟩) hP hD hS 7 rfl [0, 1, 2, 3, 4, 5, 6, 7, 8, 9, 10, 11] rfl rfl rfl rfl (fun H locs hP hD hS => ?_)
    refine lv_iload_n hx hb dX5_pay_43 rfl (lv_at hl 0 rfl) ?_
    have hP : va_P D vwCl (zB [zGri g q h, zSta cI q g_4, zHea cQ h (uN (uQ Z g_1) g_2), zSto cI t0 S0, zSto cI t1 S1, zSto cI t2 S2, zSto cI t3 S3, zSta cI t4 S]) H := zB_sub (Cs := [zGri g q h, zSta cI q g_4, zHea cQ h (uN (uQ Z g_1) g_2), zSto cI t0 S0, zSto cI t1 S1, zSto cI t2 S2, zSto cI t3 S3, zSta cI t4 S]) hP [0, 7, 1, 2, 3, 4, 5, 6] rfl
    exact z_wiret hx hb hr rfl hlocks hP hS (by (try simp only [hg_4, hg_3, hg_2, hg_1, hT1, hg2, hg3, hT4]) <;> (simp [pyNew, pyRet, c_11])) (congrArg (fun X => zB X) (z_cons rfl (z_cons (congrArg (fun T => zSta cI q T) (show g_4 = T1 from by (try simp only [hg_4, hg_3, hg_2, hg_1, hT1, hg2, hg3, hT4]) <;> (first | (simp [pyNew, pyRet, c_11]; done) | (simp [pyNew, pyRet, c_11] <;> rfl) | rfl))) (z_cons (congrArg (fun T => zHea cQ h T) (show uN (uQ Z g_1) g_2 = uN (uQ Z g2) g3 from by (try simp only [hg_4, hg_3, hg_2, hg_1, hT1, hg2, hg3, hT4]) <;> (first | (simp [pyNew, pyRet, c_11]; done) | (simp [pyNew, pyRet, c_11] <;> rfl) | rfl))) (z_cons rfl (z_cons rfl (z_cons rfl (z_cons rfl (z_cons (congrArg (fun T => zSta cI t4 T) (show S = T4 from by (try simp only [hg_4, hg_3, hg_2, hg_1, hT1, hg2, hg3, hT4]) <;> (first | (simp [pyNew, pyRet, c_11]; done) | (simp [pyNew, pyRet, c_11] <;> rfl) | rfl))) rfl))))))))) dX5_pay_44
  · have c_11 : (rEx S pa) = false := bI_f c_11
    refine lv_iconst (v := (-1)) hx hb dX5_pay_14 (by decide) ?_
    exact z_wiret hx hb hr rfl hlocks hP hS (by (try simp only [hT1, hg2, hg3, hT4]) <;> (simp [pyNew, pyRet, c_11])) (congrArg (fun X => zB X) (z_cons rfl (z_cons (congrArg (fun T => zSta cI q T) (show S = T1 from by (try simp only [hT1, hg2, hg3, hT4]) <;> (first | (simp [pyNew, pyRet, c_11]; done) | (simp [pyNew, pyRet, c_11] <;> rfl) | rfl))) (z_cons (congrArg (fun T => zHea cQ h T) (show Z = uN (uQ Z g2) g3 from by (try simp only [hT1, hg2, hg3, hT4]) <;> (first | (simp [pyNew, pyRet, c_11]; done) | (simp [pyNew, pyRet, c_11] <;> rfl) | rfl))) (z_cons rfl (z_cons rfl (z_cons rfl (z_cons rfl (z_cons (congrArg (fun T => zSta cI t4 T) (show S4 = T4 from by (try simp only [hT1, hg2, hg3, hT4]) <;> (first | (simp [pyNew, pyRet, c_11]; done) | (simp [pyNew, pyRet, c_11] <;> rfl) | rfl))) rfl))))))))) dX5_pay_15
set_option maxHeartbeats 1000000 in
set_option maxRecDepth 100000 in
theorem c_X5_join (l : Launch) (D : va_G) (cI cQ : ClassId) (g : Nat → Nat) (q : Nat → Nat) (h : Nat → Nat) (t0 : Nat → Nat) (t1 : Nat → Nat) (t2 : Nat → Nat) (t3 : Nat → Nat) (t4 : Nat → Nat) (S : CS) (Z : HZ) (S0 : CS) (S1 : CS) (S2 : CS) (S3 : CS) (S4 : CS) (pa : Int32) (hz0 : hQ Z 0 = some (t0 0)) (hz1 : hQ Z 1 = some (t1 0)) (hz2 : hQ Z 2 = some (t2 0)) (hz3 : hQ Z 3 = some (t3 0)) (hz4 : hQ Z 4 = some (t4 0)) (T1 : CS) (hT1 : T1 = if joOk S pa then joNew S pa else S) (g2 : Nat → Option Nat) (hg2 : g2 = if joOk S pa then z_qK (hQ Z) (t0 0) (t1 0) (t2 0) (t3 0) (t4 0) else hQ Z) (g3 : Int32) (hg3 : g3 = if joOk S pa then z_minH (hN Z) else hN Z) (T4 : CS) (hT4 : T4 = if joOk S pa then S else S4) : zWR l yX5_join (Cond.code yX5_join cX5_join 3 (some .int) :: zT) 6 151 [.ref (g 0), .int pa] D cI cQ (zB [zGri g q h, zSta cI q S, zHea cQ h Z, zSto cI t0 S0, zSto cI t1 S1, zSto cI t2 S2, zSto cI t3 S3, zSta cI t4 S4]) (some (.int (joRet S pa))) (zB [zGri g q h, zSta cI q T1, zHea cQ h (uN (uQ Z g2) g3), zSto cI t0 S0, zSto cI t1 S1, zSto cI t2 S2, zSto cI t3 S3, zSta cI t4 T4]) := by
  refine zWR.of (cc := cX5_join) (maxL := 3) (ret := some .int) (by decide +kernel) rfl (Nat.le_of_ble_eq_true rfl) ?_
  intro pg e s mi args below meth cd hx hb hr hts hown hlocks hml hP hD hS hK ls hl
  have hz : ∀ w ∈ zT, w.before args s = true := fun w h => hts w (List.mem_cons_of_mem _ h)
  have hl : lv_has ls 3 [(0, .ref (g 0)), (1, .int (pa))] := hl
  refine lv_aload_n hx hb dX5_join_0 rfl (lv_at hl 0 rfl) ?_
  refine va_get (D := D) (ci := 5) (v := .ref (q 0)) (C := RX5) (T := TX5) (N := 2) hx hb hz inZ5 hown hK.1 hP 0 rfl rfl 0 (by decide) (hz _ q1_124) (fun _ h9 => h9) rfl dX5_join_1 ?_
  refine va_getN (D := D) (ci := 4) (v := .ref (q 6)) (C := RX4) (T := TX4) (N := 5) hx hb hz inZ4 hown hK.1 hP 1 rfl rfl 3 (by decide) (va_Nw.use rfl (hK.2.2.2.2.2.2.2.2.2.2.2.2.2.2.2.1)) (fun _ h9 => h9) rfl dX5_join_4 ?_
  refine lv_iload_n hx hb dX5_join_7 rfl (lv_at hl 1 rfl) ?_
  refine z_ro (va_runV (As := [.int (pa)]) (rest := []) ⟨hx, hb, hml, hown, hz⟩ (c_X2_exists l D cI cQ q S pa) (zcwV 1 hz q2_101 q1_184 q1_185 q1_4 q1_186 hd_X2_exists (Nat.le_of_ble_eq_true rfl) (Nat.le_of_ble_eq_true rfl)) (z_pv (ci := 2) (q := (RX2, TX2, 4)) hK ((zB_blk (b := zSta cI q S) hP 1 rfl).sub (ws' := zPar cI q S) [6, 7, 8, 9] rfl) rfl rfl) rfl rfl hl.1 rfl (lv_room (Nat.le_of_ble_eq_true rfl)) dX5_join_8 ⟨(Nat.le_of_ble_eq_true rfl), (Nat.le_of_ble_eq_true rfl)⟩) ?_
  refine lv_if_ne (tgt := 16) hx hb dX5_join_11 (by decide) (fun c_11 => ?_) (fun c_11 => ?_)
  · have c_11 : (rEx S pa) = true := bI_t c_11
    refine lv_aload_n hx hb dX5_join_16 rfl (lv_at hl 0 rfl) ?_
    refine va_get (D := D) (ci := 5) (v := .ref (q 0)) (C := RX5) (T := TX5) (N := 2) hx hb hz inZ5 hown hK.1 hP 0 rfl rfl 0 (by decide) (hz _ q1_124) (fun _ h9 => h9) rfl dX5_join_17 ?_
    refine lv_iload_n hx hb dX5_join_20 rfl (lv_at hl 1 rfl) ?_
    refine z_ro (va_runV (As := [.int (pa)]) (rest := []) ⟨hx, hb, hml, hown, hz⟩ (c_X4_canJoin l D cI cQ q S pa) (zcwV 1 hz q2_123 q2_124 q2_125 q1_2 q2_126 hd_X4_canJoin (Nat.le_of_ble_eq_true rfl) (Nat.le_of_ble_eq_true rfl)) (z_pv (ci := 4) (q := (RX4, TX4, 5)) hK (zB_blk (b := zSta cI q S) hP 1 rfl) rfl rfl) rfl rfl hl.1 rfl (lv_room (Nat.le_of_ble_eq_true rfl)) dX5_join_21 ⟨(Nat.le_of_ble_eq_true rfl), (Nat.le_of_ble_eq_true rfl)⟩) ?_
    refine lv_if_ne (tgt := 30) hx hb dX5_join_24 (by decide) (fun c_24 => ?_) (fun c_24 => ?_)
    · have c_24 : (cj S pa) = true := bI_t c_24
      refine lv_aload_n hx hb dX5_join_30 rfl (lv_at hl 0 rfl) ?_
      refine va_get (D := D) (ci := 5) (v := .ref (h 0)) (C := RX5) (T := TX5) (N := 2) hx hb hz inZ5 hown hK.1 hP 0 rfl rfl 1 (by decide) (hz _ q1_125) (fun _ h9 => h9) rfl dX5_join_31 ?_
      refine lv_aload_n hx hb dX5_join_34 rfl (lv_at hl 0 rfl) ?_
      refine va_get (D := D) (ci := 5) (v := .ref (q 0)) (C := RX5) (T := TX5) (N := 2) hx hb hz inZ5 hown hK.1 hP 0 rfl rfl 0 (by decide) (hz _ q1_124) (fun _ h9 => h9) rfl dX5_join_35 ?_
      obtain ⟨g_1, hg_1⟩ : ∃ z : Nat → Option Nat, z = z_qK (hQ Z) (t0 0) (t1 0) (t2 0) (t3 0) (t4 0) := ⟨_, rfl⟩
      obtain ⟨g_2, hg_2⟩ : ∃ z : Int32, z = z_minH (hN Z) := ⟨_, rfl⟩
      refine z_bjv (Rs := [zGri g q h]) (va_runV (As := [.ref (q 0)]) (rest := []) ⟨hx, hb, hml, hown, hz⟩ (c_X1_keep l D cI cQ h t0 t1 t2 t3 t4 q Z S0 S1 S2 S3 S4 S (hz0) (hz1) (hz2) (hz3) (hz4) g_1 hg_1 g_2 hg_2) (zcwV 1 hz q1_143 q1_144 q1_145 q1_6 q1_146 hd_X1_keep (Nat.le_of_ble_eq_true rfl) (Nat.le_of_ble_eq_true rfl)) (z_pvw (ci := 1) (q := (RX1, TX1, 2)) hK (zB_sub (Cs := [zHea cQ h Z, zSto cI t0 S0, zSto cI t1 S1, zSto cI t2 S2, zSto cI t3 S3, zSta cI t4 S4, zSta cI q S]) hP [2, 3, 4, 5, 6, 7, 1] rfl) (zB_Dsub (Cs := [zHea cQ h Z, zSto cI t0 S0, zSto cI t1 S1, zSto cI t2 S2, zSto cI t3 S3, zSta cI t4 S4, zSta cI q S]) hD [2, 3, 4, 5, 6, 7, 1] (by decide) rfl) rfl rfl) rfl rfl hl.1 rfl (lv_room (Nat.le_of_ble_eq_true rfl)) dX5_join_38 ⟨(Nat.le_of_ble_eq_true rfl), (Nat.le_of_ble_eq_true rfl)⟩) hP hD hS [2, 3, 4, 5, 6, 7, 1] [0] rfl rfl (by decide) rfl (fun H locs hP hD hS => ?_)
      have hP : va_P D vwCl (zB [zGri g q h, zHea cQ h (uN (uQ Z g_1) g_2), zSto cI t0 S0, zSto cI t1 S1, zSto cI t2 S2, zSto cI t3 S3, zSta cI t4 S, zSta cI q S]) H := hP
      have hD : va_D (zA (zB [zGri g q h, zSta cI q S, zHea cQ h Z, zSto cI t0 S0, zSto cI t1 S1, zSto cI t2 S2, zSto cI t3 S3, zSta cI t4 S4])) (zB [zGri g q h, zHea cQ h (uN (uQ Z g_1) g_2), zSto cI t0 S0, zSto cI t1 S1, zSto cI t2 S2, zSto cI t3 S3, zSta cI t4 S, zSta cI q S]) := hD
      refine lv_aload_n hx hb dX5_join_41 rfl (lv_at hl 0 rfl) ?_
      refine va_get (D := D) (ci := 5) (v := .ref (q 0)) (C := RX5) (T := TX5) (N := 2) hx hb hz inZ5 hown hK.1 hP 0 rfl rfl 0 (by decide) (hz _ q1_124) (fun _ h9 => h9) rfl dX5_join_42 ?_
      refine lv_iload_n hx hb dX5_join_45 rfl (lv_at hl 1 rfl) ?_
      obtain ⟨g_3, hg_3⟩ : ∃ z : CS, z = jqS S pa := ⟨_, rfl⟩
      refine z_bwi (b' := zSta cI q g_3) (Bs' := [zGri g q h, zHea cQ h (uN (uQ Z g_1) g_2), zSto cI t0 S0, zSto cI t1 S1, zSto cI t2 S2, zSto cI t3 S3, zSta cI t4 S, zSta cI q g_3]) (va_runV (As := [.int (pa)]) (rest := []) ⟨hx, hb, hml, hown, hz⟩ (c_X4_joinQuarters l D cI cQ q S pa g_3 hg_3) (zcwV 1 hz q2_139 q2_140 q2_141 q1_2 q2_142 hd_X4_joinQuarters (Nat.le_of_ble_eq_true rfl) (Nat.le_of_ble_eq_true rfl)) (z_pvw (ci := 4) (q := (RX4, TX4, 5)) hK (zB_blk (b := zSta cI q S) hP 7 rfl) (zB_Dblk (b := zSta cI q S) hD 7 rfl) rfl rfl) rfl rfl hl.1 rfl (lv_room (Nat.le_of_ble_eq_true rfl)) dX5_join_46 ⟨(Nat.le_of_ble_eq_true rfl), (Nat.le_of_ble_eq_true rfl)⟩) hP hD hS 7 rfl [0, 1, 2, 3, 4, 5, 6, 7, 8, 9, 10, 11] rfl rfl rfl rfl (fun H locs hP hD hS => ?_)
      refine lv_istore_n (lv' := [(2, .int (jqFi S pa)), (0, .ref (g 0)), (1, .int (pa))]) hx hb dX5_join_49 rfl hl (by decide) rfl (fun ls hl => ?_)
      refine lv_aload_n hx hb dX5_join_50 rfl (lv_at hl 1 rfl) ?_
      refine va_get (D := D) (ci := 5) (v := .ref (q 0)) (C := RX5) (T := TX5) (N := 2) hx hb hz inZ5 hown hK.1 hP 0 rfl rfl 0 (by decide) (hz _ q1_124) (fun _ h9 => h9) rfl dX5_join_51 ?_
      obtain ⟨g_4, hg_4⟩ : ∃ z : CS, z = spG 40 g_3 := ⟨_, rfl⟩
      refine z_bwv (b' := zSta cI q g_4) (Bs' := [zGri g q h, zHea cQ h (uN (uQ Z g_1) g_2), zSto cI t0 S0, zSto cI t1 S1, zSto cI t2 S2, zSto cI t3 S3, zSta cI t4 S, zSta cI q g_4]) (va_runV (As := []) (rest := []) ⟨hx, hb, hml, hown, hz⟩ (c_X4_splitCrowded l D cI cQ q g_3 g_4 hg_4) (zcwV 0 hz q1_195 q1_196 q1_197 q1_2 q1_198 hd_X4_splitCrowded (Nat.le_of_ble_eq_true rfl) (Nat.le_of_ble_eq_true rfl)) (z_pvw (ci := 4) (q := (RX4, TX4, 5)) hK (zB_blk (b := zSta cI q g_3) hP 7 rfl) (zB_Dblk (b := zSta cI q g_3) hD 7 rfl) rfl rfl) rfl rfl hl.1 rfl (lv_room (Nat.le_of_ble_eq_true rfl)) dX5_join_54 ⟨(Nat.le_of_ble_eq_true rfl), (Nat.le_of_ble_eq_true rfl)⟩) hP hD hS 7 rfl [0, 1, 2, 3, 4, 5, 6, 7, 8, 9, 10, 11] rfl rfl rfl rfl (fun H locs hP hD hS => ?_)
      refine lv_iload_n hx hb dX5_join_57 rfl (lv_at hl 0 rfl) ?_
      have hP : va_P D vwCl (zB [zGri g q h, zSta cI q g_4, zHea cQ h (uN (uQ Z g_1) g_2), zSto cI t0 S0, zSto cI t1 S1, zSto cI t2 S2, zSto cI t3 S3, zSta cI t4 S]) H := zB_sub (Cs := [zGri g q h, zSta cI q g_4, zHea cQ h (uN (uQ Z g_1) g_2), zSto cI t0 S0, zSto cI t1 S1, zSto cI t2 S2, zSto cI t3 S3, zSta cI t4 S]) hP [0, 7, 1, 2, 3, 4, 5, 6] rfl
      exact z_wiret hx hb hr rfl hlocks hP hS (by (try simp only [hg_4, hg_3, hg_2, hg_1, hT1, hg2, hg3, hT4]) <;> (simp [joOk, joNew, joRet, c_11, c_24])) (congrArg (fun X => zB X) (z_cons rfl (z_cons (congrArg (fun T => zSta cI q T) (show g_4 = T1 from by (try simp only [hg_4, hg_3, hg_2, hg_1, hT1, hg2, hg3, hT4]) <;> (first | (simp [joOk, joNew, joRet, c_11, c_24]; done) | (simp [joOk, joNew, joRet, c_11, c_24] <;> rfl) | rfl))) (z_cons (congrArg (fun T => zHea cQ h T) (show uN (uQ Z g_1) g_2 = uN (uQ Z g2) g3 from by (try simp only [hg_4, hg_3, hg_2, hg_1, hT1, hg2, hg3, hT4]) <;> (first | (simp [joOk, joNew, joRet, c_11, c_24]; done) | (simp [joOk, joNew, joRet, c_11, c_24] <;> rfl) | rfl))) (z_cons rfl (z_cons rfl (z_cons rfl (z_cons rfl (z_cons (congrArg (fun T => zSta cI t4 T) (show S = T4 from by (try simp only [hg_4, hg_3, hg_2, hg_1, hT1, hg2, hg3, hT4]) <;> (first | (simp [joOk, joNew, joRet, c_11, c_24]; done) | (simp [joOk, joNew, joRet, c_11, c_24] <;> rfl) | rfl))) rfl))))))))) dX5_join_58
    · have c_24 : (cj S pa) = false := bI_f c_24
      refine lv_bipush (v := (-2)) hx hb dX5_join_27 (by decide) ?_
      exact z_wiret hx hb hr rfl hlocks hP hS (by (try simp only [hT1, hg2, hg3, hT4]) <;> (simp [joOk, joNew, joRet, c_11, c_24])) (congrArg (fun X => zB X) (z_cons rfl (z_cons (congrArg (fun T => zSta cI q T) (show S = T1 from by (try simp only [hT1, hg2, hg3, hT4]) <;> (first | (simp [joOk, joNew, joRet, c_11, c_24]; done) | (simp [joOk, joNew, joRet, c_11, c_24] <;> rfl) | rfl))) (z_cons (congrArg (fun T => zHea cQ h T) (show Z = uN (uQ Z g2) g3 from by (try simp only [hT1, hg2, hg3, hT4]) <;> (first | (simp [joOk, joNew, joRet, c_11, c_24]; done) | (simp [joOk, joNew, joRet, c_11, c_24] <;> rfl) | rfl))) (z_cons rfl (z_cons rfl (z_cons rfl (z_cons rfl (z_cons (congrArg (fun T => zSta cI t4 T) (show S4 = T4 from by (try simp only [hT1, hg2, hg3, hT4]) <;> (first | (simp [joOk, joNew, joRet, c_11, c_24]; done) | (simp [joOk, joNew, joRet, c_11, c_24] <;> rfl) | rfl))) rfl))))))))) dX5_join_29
  · have c_11 : (rEx S pa) = false := bI_f c_11
    refine lv_iconst (v := (-1)) hx hb dX5_join_14 (by decide) ?_
    exact z_wiret hx hb hr rfl hlocks hP hS (by (try simp only [hT1, hg2, hg3, hT4]) <;> (simp [joOk, joNew, joRet, c_11])) (congrArg (fun X => zB X) (z_cons rfl (z_cons (congrArg (fun T => zSta cI q T) (show S = T1 from by (try simp only [hT1, hg2, hg3, hT4]) <;> (first | (simp [joOk, joNew, joRet, c_11]; done) | (simp [joOk, joNew, joRet, c_11] <;> rfl) | rfl))) (z_cons (congrArg (fun T => zHea cQ h T) (show Z = uN (uQ Z g2) g3 from by (try simp only [hT1, hg2, hg3, hT4]) <;> (first | (simp [joOk, joNew, joRet, c_11]; done) | (simp [joOk, joNew, joRet, c_11] <;> rfl) | rfl))) (z_cons rfl (z_cons rfl (z_cons rfl (z_cons rfl (z_cons (congrArg (fun T => zSta cI t4 T) (show S4 = T4 from by (try simp only [hT1, hg2, hg3, hT4]) <;> (first | (simp [joOk, joNew, joRet, c_11]; done) | (simp [joOk, joNew, joRet, c_11] <;> rfl) | rfl))) rfl))))))))) dX5_join_15
set_option maxHeartbeats 1000000 in
set_option maxRecDepth 100000 in
theorem c_X5_undo (l : Launch) (D : va_G) (cI cQ : ClassId) (g : Nat → Nat) (q : Nat → Nat) (h : Nat → Nat) (t0 : Nat → Nat) (t1 : Nat → Nat) (t2 : Nat → Nat) (t3 : Nat → Nat) (t4 : Nat → Nat) (S : CS) (Z : HZ) (S0 : CS) (S1 : CS) (S2 : CS) (S3 : CS) (S4 : CS) (hz0 : hQ Z 0 = some (t0 0)) (hz1 : hQ Z 1 = some (t1 0)) (hz2 : hQ Z 2 = some (t2 0)) (hz3 : hQ Z 3 = some (t3 0)) (hz4 : hQ Z 4 = some (t4 0)) (T1 : CS) (hT1 : T1 = if hEm Z then S else S0) (g2 : Nat → Option Nat) (hg2 : g2 = if hEm Z then hQ Z else z_qR (hQ Z) (t0 0) (t1 0) (t2 0) (t3 0) (t4 0)) (g3 : Int32) (hg3 : g3 = if hEm Z then hN Z else z_maxH (hN Z)) : zWR l yX5_undo (Cond.code yX5_undo cX5_undo 1 (some .int) :: zT) 4 125 [.ref (g 0)] D cI cQ (zB [zGri g q h, zSta cI q S, zHea cQ h Z, zSta cI t0 S0, zSto cI t1 S1, zSto cI t2 S2, zSto cI t3 S3, zSto cI t4 S4]) (some (.int (unRet Z))) (zB [zGri g q h, zSta cI q T1, zHea cQ h (uN (uQ Z g2) g3), zSta cI t0 S0, zSto cI t1 S1, zSto cI t2 S2, zSto cI t3 S3, zSto cI t4 S4]) := by
  refine zWR.of (cc := cX5_undo) (maxL := 1) (ret := some .int) (by decide +kernel) rfl (Nat.le_of_ble_eq_true rfl) ?_
  intro pg e s mi args below meth cd hx hb hr hts hown hlocks hml hP hD hS hK ls hl
  have hz : ∀ w ∈ zT, w.before args s = true := fun w h => hts w (List.mem_cons_of_mem _ h)
  have hl : lv_has ls 1 [(0, .ref (g 0))] := hl
  refine lv_aload_n hx hb dX5_undo_0 rfl (lv_at hl 0 rfl) ?_
  refine va_get (D := D) (ci := 5) (v := .ref (h 0)) (C := RX5) (T := TX5) (N := 2) hx hb hz inZ5 hown hK.1 hP 0 rfl rfl 1 (by decide) (hz _ q1_125) (fun _ h9 => h9) rfl dX5_undo_1 ?_
  refine z_ro (va_runV (As := []) (rest := []) ⟨hx, hb, hml, hown, hz⟩ (c_X1_isEmpty l D cI cQ h Z) (zcwV 0 hz q2_165 q2_166 q2_167 q1_6 q2_168 hd_X1_isEmpty (Nat.le_of_ble_eq_true rfl) (Nat.le_of_ble_eq_true rfl)) (z_pv (ci := 1) (q := (RX1, TX1, 2)) hK (zB_blk (b := zHea cQ h Z) hP 2 rfl) rfl rfl) rfl rfl hl.1 rfl (lv_room (Nat.le_of_ble_eq_true rfl)) dX5_undo_4 ⟨(Nat.le_of_ble_eq_true rfl), (Nat.le_of_ble_eq_true rfl)⟩) ?_
  refine lv_if_eq (tgt := 13) hx hb dX5_undo_7 (by decide) (fun c_7 => ?_) (fun c_7 => ?_)
  · have c_7 : (hEm Z) = false := bI_f c_7
    refine lv_aload_n hx hb dX5_undo_13 rfl (lv_at hl 0 rfl) ?_
    refine va_get (D := D) (ci := 5) (v := .ref (h 0)) (C := RX5) (T := TX5) (N := 2) hx hb hz inZ5 hown hK.1 hP 0 rfl rfl 1 (by decide) (hz _ q1_125) (fun _ h9 => h9) rfl dX5_undo_14 ?_
    refine lv_aload_n hx hb dX5_undo_17 rfl (lv_at hl 0 rfl) ?_
    refine va_get (D := D) (ci := 5) (v := .ref (q 0)) (C := RX5) (T := TX5) (N := 2) hx hb hz inZ5 hown hK.1 hP 0 rfl rfl 0 (by decide) (hz _ q1_124) (fun _ h9 => h9) rfl dX5_undo_18 ?_
    obtain ⟨g_1, hg_1⟩ : ∃ z : Nat → Option Nat, z = z_qR (hQ Z) (t0 0) (t1 0) (t2 0) (t3 0) (t4 0) := ⟨_, rfl⟩
    obtain ⟨g_2, hg_2⟩ : ∃ z : Int32, z = z_maxH (hN Z) := ⟨_, rfl⟩
    refine z_bjv (Rs := [zGri g q h]) (va_runV (As := [.ref (q 0)]) (rest := []) ⟨hx, hb, hml, hown, hz⟩ (c_X1_restoreInto l D cI cQ h t0 t1 t2 t3 t4 q Z S0 S1 S2 S3 S4 S (hz0) (hz1) (hz2) (hz3) (hz4) g_1 hg_1 g_2 hg_2) (zcwV 1 hz q2_169 q2_170 q2_171 q1_6 q2_172 hd_X1_restoreInto (Nat.le_of_ble_eq_true rfl) (Nat.le_of_ble_eq_true rfl)) (z_pvw (ci := 1) (q := (RX1, TX1, 2)) hK (zB_sub (Cs := [zHea cQ h Z, zSta cI t0 S0, zSto cI t1 S1, zSto cI t2 S2, zSto cI t3 S3, zSto cI t4 S4, zSta cI q S]) hP [2, 3, 4, 5, 6, 7, 1] rfl) (zB_Dsub (Cs := [zHea cQ h Z, zSta cI t0 S0, zSto cI t1 S1, zSto cI t2 S2, zSto cI t3 S3, zSto cI t4 S4, zSta cI q S]) hD [2, 3, 4, 5, 6, 7, 1] (by decide) rfl) rfl rfl) rfl rfl hl.1 rfl (lv_room (Nat.le_of_ble_eq_true rfl)) dX5_undo_21 ⟨(Nat.le_of_ble_eq_true rfl), (Nat.le_of_ble_eq_true rfl)⟩) hP hD hS [2, 3, 4, 5, 6, 7, 1] [0] rfl rfl (by decide) rfl (fun H locs hP hD hS => ?_)
    have hP : va_P D vwCl (zB [zGri g q h, zHea cQ h (uN (uQ Z g_1) g_2), zSta cI t0 S0, zSto cI t1 S1, zSto cI t2 S2, zSto cI t3 S3, zSto cI t4 S4, zSta cI q S0]) H := hP
    have hD : va_D (zA (zB [zGri g q h, zSta cI q S, zHea cQ h Z, zSta cI t0 S0, zSto cI t1 S1, zSto cI t2 S2, zSto cI t3 S3, zSto cI t4 S4])) (zB [zGri g q h, zHea cQ h (uN (uQ Z g_1) g_2), zSta cI t0 S0, zSto cI t1 S1, zSto cI t2 S2, zSto cI t3 S3, zSto cI t4 S4, zSta cI q S0]) := hD
    refine lv_aload_n hx hb dX5_undo_24 rfl (lv_at hl 0 rfl) ?_
    refine va_get (D := D) (ci := 5) (v := .ref (h 0)) (C := RX5) (T := TX5) (N := 2) hx hb hz inZ5 hown hK.1 hP 0 rfl rfl 1 (by decide) (hz _ q1_125) (fun _ h9 => h9) rfl dX5_undo_25 ?_
    refine z_ro (va_runV (As := []) (rest := []) ⟨hx, hb, hml, hown, hz⟩ (c_X1_number l D cI cQ h (uN (uQ Z g_1) g_2)) (zcwV 0 hz q2_176 q2_177 q2_178 q1_6 q2_179 hd_X1_number (Nat.le_of_ble_eq_true rfl) (Nat.le_of_ble_eq_true rfl)) (z_pv (ci := 1) (q := (RX1, TX1, 2)) hK (zB_blk (b := zHea cQ h (uN (uQ Z g_1) g_2)) hP 1 rfl) rfl rfl) rfl rfl hl.1 rfl (lv_room (Nat.le_of_ble_eq_true rfl)) dX5_undo_28 ⟨(Nat.le_of_ble_eq_true rfl), (Nat.le_of_ble_eq_true rfl)⟩) ?_
    have hP : va_P D vwCl (zB [zGri g q h, zSta cI q S0, zHea cQ h (uN (uQ Z g_1) g_2), zSta cI t0 S0, zSto cI t1 S1, zSto cI t2 S2, zSto cI t3 S3, zSto cI t4 S4]) H := zB_sub (Cs := [zGri g q h, zSta cI q S0, zHea cQ h (uN (uQ Z g_1) g_2), zSta cI t0 S0, zSto cI t1 S1, zSto cI t2 S2, zSto cI t3 S3, zSto cI t4 S4]) hP [0, 7, 1, 2, 3, 4, 5, 6] rfl
    exact z_wiret hx hb hr rfl hlocks hP hS (by (try simp only [hg_2, hg_1, hT1, hg2, hg3]) <;> (simp [unRet, c_7])) (congrArg (fun X => zB X) (z_cons rfl (z_cons (congrArg (fun T => zSta cI q T) (show S0 = T1 from by (try simp only [hg_2, hg_1, hT1, hg2, hg3]) <;> (first | (simp [unRet, c_7]; done) | (simp [unRet, c_7] <;> rfl) | rfl))) (z_cons (congrArg (fun T => zHea cQ h T) (show uN (uQ Z g_1) g_2 = uN (uQ Z g2) g3 from by (try simp only [hg_2, hg_1, hT1, hg2, hg3]) <;> (first | (simp [unRet, c_7]; done) | (simp [unRet, c_7] <;> rfl) | rfl))) (z_cons rfl (z_cons rfl (z_cons rfl (z_cons rfl (z_cons rfl rfl))))))))) dX5_undo_31
  · have c_7 : (hEm Z) = true := bI_t c_7
    refine lv_bipush (v := (-2)) hx hb dX5_undo_10 (by decide) ?_
    exact z_wiret hx hb hr rfl hlocks hP hS (by (try simp only [hT1, hg2, hg3]) <;> (simp [unRet, c_7])) (congrArg (fun X => zB X) (z_cons rfl (z_cons (congrArg (fun T => zSta cI q T) (show S = T1 from by (try simp only [hT1, hg2, hg3]) <;> (first | (simp [unRet, c_7]; done) | (simp [unRet, c_7] <;> rfl) | rfl))) (z_cons (congrArg (fun T => zHea cQ h T) (show Z = uN (uQ Z g2) g3 from by (try simp only [hT1, hg2, hg3]) <;> (first | (simp [unRet, c_7]; done) | (simp [unRet, c_7] <;> rfl) | rfl))) (z_cons rfl (z_cons rfl (z_cons rfl (z_cons rfl (z_cons rfl rfl))))))))) dX5_undo_12
set_option maxHeartbeats 1000000 in
set_option maxRecDepth 100000 in
theorem c_X5_count (l : Launch) (D : va_G) (cI cQ : ClassId) (g : Nat → Nat) (q : Nat → Nat) (h : Nat → Nat) (S : CS) (Z : HZ) (w : Int32) : zRO l yX5_count (Cond.code yX5_count cX5_count 2 (some .int) :: zT) 5 113 [.ref (g 0), .int w] D cI cQ (zB [zGri g q h, zSta cI q S, zHea cQ h Z]) (coRet S Z w) := by
  refine zRO.of (cc := cX5_count) (maxL := 2) (ret := some .int) (by decide +kernel) rfl (Nat.le_of_ble_eq_true rfl) ?_
  intro pg e s mi args below meth cd hx hb hr hts hown hlocks hml hP hK ls hl
  have hz : ∀ w ∈ zT, w.before args s = true := fun w h => hts w (List.mem_cons_of_mem _ h)
  have hl : lv_has ls 2 [(0, .ref (g 0)), (1, .int (w))] := hl
  refine lv_iload_n hx hb dX5_count_0 rfl (lv_at hl 1 rfl) ?_
  by_cases c_1_0 : w = 0
  · rw [c_1_0]
    refine lv_tableIn (tgt := 60) hx hb dX5_count_1 (by decide) (by decide) rfl (by decide) ?_
    refine lv_aload_n hx hb dX5_count_60 rfl (lv_at hl 0 rfl) ?_
    refine va_get (D := D) (ci := 5) (v := .ref (q 0)) (C := RX5) (T := TX5) (N := 2) hx hb hz inZ5 hown hK.1 hP 0 rfl rfl 0 (by decide) (hz _ q1_124) (fun _ h9 => h9) rfl dX5_count_61 ?_
    refine va_getN (D := D) (ci := 4) (v := .ref (q 1)) (C := RX4) (T := TX4) (N := 5) hx hb hz inZ4 hown hK.1 hP 1 rfl rfl 2 (by decide) (va_Nw.use rfl (hK.2.2.2.2.2.2.2.2.2.2.2.2.2.2.1)) (fun _ h9 => h9) rfl dX5_count_64 ?_
    refine z_ro (va_runV (As := []) (rest := []) ⟨hx, hb, hml, hown, hz⟩ (c_X3_number l D cI cQ q S) (zcwV 0 hz q2_52 q2_53 q2_54 q1_3 q2_55 hd_X3_number (Nat.le_of_ble_eq_true rfl) (Nat.le_of_ble_eq_true rfl)) (z_pv (ci := 3) (q := (RX3, TX3, 5)) hK ((zB_blk (b := zSta cI q S) hP 1 rfl).sub (ws' := zPts cI q S) [1, 2, 3, 4, 5] rfl) rfl rfl) rfl rfl hl.1 rfl (lv_room (Nat.le_of_ble_eq_true rfl)) dX5_count_67 ⟨(Nat.le_of_ble_eq_true rfl), (Nat.le_of_ble_eq_true rfl)⟩) ?_
    exact z_iret hx hb hr rfl hlocks (by simp [coRet, c_1_0]) dX5_count_70
  by_cases c_1_1 : w = 1
  · rw [c_1_1]
    refine lv_tableIn (tgt := 71) hx hb dX5_count_1 (by decide) (by decide) rfl (by decide) ?_
    refine lv_aload_n hx hb dX5_count_71 rfl (lv_at hl 0 rfl) ?_
    refine va_get (D := D) (ci := 5) (v := .ref (q 0)) (C := RX5) (T := TX5) (N := 2) hx hb hz inZ5 hown hK.1 hP 0 rfl rfl 0 (by decide) (hz _ q1_124) (fun _ h9 => h9) rfl dX5_count_72 ?_
    refine va_getN (D := D) (ci := 4) (v := .ref (q 1)) (C := RX4) (T := TX4) (N := 5) hx hb hz inZ4 hown hK.1 hP 1 rfl rfl 2 (by decide) (va_Nw.use rfl (hK.2.2.2.2.2.2.2.2.2.2.2.2.2.2.1)) (fun _ h9 => h9) rfl dX5_count_75 ?_
    refine z_ro (va_runV (As := []) (rest := []) ⟨hx, hb, hml, hown, hz⟩ (c_X3_numberAdded l D cI cQ q S) (zcwV 0 hz q2_184 q2_185 q2_186 q1_3 q2_187 hd_X3_numberAdded (Nat.le_of_ble_eq_true rfl) (Nat.le_of_ble_eq_true rfl)) (z_pv (ci := 3) (q := (RX3, TX3, 5)) hK ((zB_blk (b := zSta cI q S) hP 1 rfl).sub (ws' := zPts cI q S) [1, 2, 3, 4, 5] rfl) rfl rfl) rfl rfl hl.1 rfl (lv_room (Nat.le_of_ble_eq_true rfl)) dX5_count_78 ⟨(Nat.le_of_ble_eq_true rfl), (Nat.le_of_ble_eq_true rfl)⟩) ?_
    exact z_iret hx hb hr rfl hlocks (by simp [coRet, c_1_0, c_1_1]) dX5_count_81
  by_cases c_1_2 : w = 2
  · rw [c_1_2]
    refine lv_tableIn (tgt := 82) hx hb dX5_count_1 (by decide) (by decide) rfl (by decide) ?_
    refine lv_aload_n hx hb dX5_count_82 rfl (lv_at hl 0 rfl) ?_
    refine va_get (D := D) (ci := 5) (v := .ref (q 0)) (C := RX5) (T := TX5) (N := 2) hx hb hz inZ5 hown hK.1 hP 0 rfl rfl 0 (by decide) (hz _ q1_124) (fun _ h9 => h9) rfl dX5_count_83 ?_
    refine va_getN (D := D) (ci := 4) (v := .ref (q 6)) (C := RX4) (T := TX4) (N := 5) hx hb hz inZ4 hown hK.1 hP 1 rfl rfl 3 (by decide) (va_Nw.use rfl (hK.2.2.2.2.2.2.2.2.2.2.2.2.2.2.2.1)) (fun _ h9 => h9) rfl dX5_count_86 ?_
    refine z_ro (va_runV (As := []) (rest := []) ⟨hx, hb, hml, hown, hz⟩ (c_X2_number l D cI cQ q S) (zcwV 0 hz q2_188 q2_189 q2_190 q1_4 q2_191 hd_X2_number (Nat.le_of_ble_eq_true rfl) (Nat.le_of_ble_eq_true rfl)) (z_pv (ci := 2) (q := (RX2, TX2, 4)) hK ((zB_blk (b := zSta cI q S) hP 1 rfl).sub (ws' := zPar cI q S) [6, 7, 8, 9] rfl) rfl rfl) rfl rfl hl.1 rfl (lv_room (Nat.le_of_ble_eq_true rfl)) dX5_count_89 ⟨(Nat.le_of_ble_eq_true rfl), (Nat.le_of_ble_eq_true rfl)⟩) ?_
    exact z_iret hx hb hr rfl hlocks (by simp [coRet, c_1_0, c_1_1, c_1_2]) dX5_count_92
  by_cases c_1_3 : w = 3
  · rw [c_1_3]
    refine lv_tableIn (tgt := 93) hx hb dX5_count_1 (by decide) (by decide) rfl (by decide) ?_
    refine lv_aload_n hx hb dX5_count_93 rfl (lv_at hl 0 rfl) ?_
    refine va_get (D := D) (ci := 5) (v := .ref (q 0)) (C := RX5) (T := TX5) (N := 2) hx hb hz inZ5 hown hK.1 hP 0 rfl rfl 0 (by decide) (hz _ q1_124) (fun _ h9 => h9) rfl dX5_count_94 ?_
    refine va_getN (D := D) (ci := 4) (v := .ref (q 6)) (C := RX4) (T := TX4) (N := 5) hx hb hz inZ4 hown hK.1 hP 1 rfl rfl 3 (by decide) (va_Nw.use rfl (hK.2.2.2.2.2.2.2.2.2.2.2.2.2.2.2.1)) (fun _ h9 => h9) rfl dX5_count_97 ?_
    refine z_ro (va_runV (As := []) (rest := []) ⟨hx, hb, hml, hown, hz⟩ (c_X2_numberFounded l D cI cQ q S) (zcwV 0 hz q2_196 q1_204 q1_205 q1_4 q1_206 hd_X2_numberFounded (Nat.le_of_ble_eq_true rfl) (Nat.le_of_ble_eq_true rfl)) (z_pv (ci := 2) (q := (RX2, TX2, 4)) hK ((zB_blk (b := zSta cI q S) hP 1 rfl).sub (ws' := zPar cI q S) [6, 7, 8, 9] rfl) rfl rfl) rfl rfl hl.1 rfl (lv_room (Nat.le_of_ble_eq_true rfl)) dX5_count_100 ⟨(Nat.le_of_ble_eq_true rfl), (Nat.le_of_ble_eq_true rfl)⟩) ?_
    exact z_iret hx hb hr rfl hlocks (by simp [coRet, c_1_0, c_1_1, c_1_2, c_1_3]) dX5_count_103
  by_cases c_1_4 : w = 4
  · rw [c_1_4]
    refine lv_tableIn (tgt := 104) hx hb dX5_count_1 (by decide) (by decide) rfl (by decide) ?_
    refine lv_aload_n hx hb dX5_count_104 rfl (lv_at hl 0 rfl) ?_
    refine va_get (D := D) (ci := 5) (v := .ref (q 0)) (C := RX5) (T := TX5) (N := 2) hx hb hz inZ5 hown hK.1 hP 0 rfl rfl 0 (by decide) (hz _ q1_124) (fun _ h9 => h9) rfl dX5_count_105 ?_
    refine va_getN (D := D) (ci := 4) (v := .int (sCr S)) (C := RX4) (T := TX4) (N := 5) hx hb hz inZ4 hown hK.1 hP 1 rfl rfl 0 (by decide) (va_Nw.use rfl (hK.2.2.2.2.2.2.2.2.2.2.2.2.1)) (fun _ h9 => h9) rfl dX5_count_108 ?_
    exact z_iret hx hb hr rfl hlocks (by simp [coRet, c_1_0, c_1_1, c_1_2, c_1_3, c_1_4]) dX5_count_111
  by_cases c_1_5 : w = 5
  · rw [c_1_5]
    refine lv_tableIn (tgt := 112) hx hb dX5_count_1 (by decide) (by decide) rfl (by decide) ?_
    refine lv_aload_n hx hb dX5_count_112 rfl (lv_at hl 0 rfl) ?_
    refine va_get (D := D) (ci := 5) (v := .ref (q 0)) (C := RX5) (T := TX5) (N := 2) hx hb hz inZ5 hown hK.1 hP 0 rfl rfl 0 (by decide) (hz _ q1_124) (fun _ h9 => h9) rfl dX5_count_113 ?_
    refine va_getN (D := D) (ci := 4) (v := .int (sTi S)) (C := RX4) (T := TX4) (N := 5) hx hb hz inZ4 hown hK.1 hP 1 rfl rfl 1 (by decide) (va_Nw.use rfl (hK.2.2.2.2.2.2.2.2.2.2.2.2.2.1)) (fun _ h9 => h9) rfl dX5_count_116 ?_
    exact z_iret hx hb hr rfl hlocks (by simp [coRet, c_1_0, c_1_1, c_1_2, c_1_3, c_1_4, c_1_5]) dX5_count_119
  by_cases c_1_6 : w = 6
  · rw [c_1_6]
    refine lv_tableIn (tgt := 120) hx hb dX5_count_1 (by decide) (by decide) rfl (by decide) ?_
    refine lv_aload_n hx hb dX5_count_120 rfl (lv_at hl 0 rfl) ?_
    refine va_get (D := D) (ci := 5) (v := .ref (q 0)) (C := RX5) (T := TX5) (N := 2) hx hb hz inZ5 hown hK.1 hP 0 rfl rfl 0 (by decide) (hz _ q1_124) (fun _ h9 => h9) rfl dX5_count_121 ?_
    refine va_getN (D := D) (ci := 4) (v := .ref (q 10)) (C := RX4) (T := TX4) (N := 5) hx hb hz inZ4 hown hK.1 hP 1 rfl rfl 4 (by decide) (va_Nw.use rfl (hK.2.2.2.2.2.2.2.2.2.2.2.2.2.2.2.2)) (fun _ h9 => h9) rfl dX5_count_124 ?_
    refine z_ro (va_runV (As := []) (rest := []) ⟨hx, hb, hml, hown, hz⟩ (c_X0_sum l D cI cQ q S) (zcwV 0 hz q2_197 q2_198 q2_199 q1_5 q2_200 hd_X0_sum (Nat.le_of_ble_eq_true rfl) (Nat.le_of_ble_eq_true rfl)) (z_pv (ci := 0) (q := (RX0, TX0, 1)) hK ((zB_blk (b := zSta cI q S) hP 1 rfl).sub (ws' := zDeb cI q S) [10, 11] rfl) rfl rfl) rfl rfl hl.1 rfl (lv_room (Nat.le_of_ble_eq_true rfl)) dX5_count_127 ⟨(Nat.le_of_ble_eq_true rfl), (Nat.le_of_ble_eq_true rfl)⟩) ?_
    exact z_iret hx hb hr rfl hlocks (by simp [coRet, c_1_0, c_1_1, c_1_2, c_1_3, c_1_4, c_1_5, c_1_6]) dX5_count_130
  by_cases c_1_7 : w = 7
  · rw [c_1_7]
    refine lv_tableIn (tgt := 131) hx hb dX5_count_1 (by decide) (by decide) rfl (by decide) ?_
    refine lv_aload_n hx hb dX5_count_131 rfl (lv_at hl 0 rfl) ?_
    refine va_get (D := D) (ci := 5) (v := .ref (q 0)) (C := RX5) (T := TX5) (N := 2) hx hb hz inZ5 hown hK.1 hP 0 rfl rfl 0 (by decide) (hz _ q1_124) (fun _ h9 => h9) rfl dX5_count_132 ?_
    refine z_ro (va_runV (As := []) (rest := []) ⟨hx, hb, hml, hown, hz⟩ (c_X4_pointsWithLordElsewhere l D cI cQ q S) (zcwV 0 hz q2_205 q2_206 q2_207 q1_2 q2_208 hd_X4_pointsWithLordElsewhere (Nat.le_of_ble_eq_true rfl) (Nat.le_of_ble_eq_true rfl)) (z_pv (ci := 4) (q := (RX4, TX4, 5)) hK (zB_blk (b := zSta cI q S) hP 1 rfl) rfl rfl) rfl rfl hl.1 rfl (lv_room (Nat.le_of_ble_eq_true rfl)) dX5_count_135 ⟨(Nat.le_of_ble_eq_true rfl), (Nat.le_of_ble_eq_true rfl)⟩) ?_
    exact z_iret hx hb hr rfl hlocks (by simp [coRet, c_1_0, c_1_1, c_1_2, c_1_3, c_1_4, c_1_5, c_1_6, c_1_7]) dX5_count_138
  by_cases c_1_8 : w = 8
  · rw [c_1_8]
    refine lv_tableIn (tgt := 139) hx hb dX5_count_1 (by decide) (by decide) rfl (by decide) ?_
    refine lv_aload_n hx hb dX5_count_139 rfl (lv_at hl 0 rfl) ?_
    refine va_get (D := D) (ci := 5) (v := .ref (q 0)) (C := RX5) (T := TX5) (N := 2) hx hb hz inZ5 hown hK.1 hP 0 rfl rfl 0 (by decide) (hz _ q1_124) (fun _ h9 => h9) rfl dX5_count_140 ?_
    refine va_getN (D := D) (ci := 4) (v := .ref (q 6)) (C := RX4) (T := TX4) (N := 5) hx hb hz inZ4 hown hK.1 hP 1 rfl rfl 3 (by decide) (va_Nw.use rfl (hK.2.2.2.2.2.2.2.2.2.2.2.2.2.2.2.1)) (fun _ h9 => h9) rfl dX5_count_143 ?_
    refine z_ro (va_runV (As := []) (rest := []) ⟨hx, hb, hml, hown, hz⟩ (c_X2_greatestScale l D cI cQ q S) (zcwV 0 hz q2_210 q2_211 q2_212 q1_4 q2_213 hd_X2_greatestScale (Nat.le_of_ble_eq_true rfl) (Nat.le_of_ble_eq_true rfl)) (z_pv (ci := 2) (q := (RX2, TX2, 4)) hK ((zB_blk (b := zSta cI q S) hP 1 rfl).sub (ws' := zPar cI q S) [6, 7, 8, 9] rfl) rfl rfl) rfl rfl hl.1 rfl (lv_room (Nat.le_of_ble_eq_true rfl)) dX5_count_146 ⟨(Nat.le_of_ble_eq_true rfl), (Nat.le_of_ble_eq_true rfl)⟩) ?_
    exact z_iret hx hb hr rfl hlocks (by simp [coRet, c_1_0, c_1_1, c_1_2, c_1_3, c_1_4, c_1_5, c_1_6, c_1_7, c_1_8]) dX5_count_149
  by_cases c_1_9 : w = 9
  · rw [c_1_9]
    refine lv_tableIn (tgt := 150) hx hb dX5_count_1 (by decide) (by decide) rfl (by decide) ?_
    refine lv_aload_n hx hb dX5_count_150 rfl (lv_at hl 0 rfl) ?_
    refine va_get (D := D) (ci := 5) (v := .ref (q 0)) (C := RX5) (T := TX5) (N := 2) hx hb hz inZ5 hown hK.1 hP 0 rfl rfl 0 (by decide) (hz _ q1_124) (fun _ h9 => h9) rfl dX5_count_151 ?_
    refine va_getN (D := D) (ci := 4) (v := .ref (q 1)) (C := RX4) (T := TX4) (N := 5) hx hb hz inZ4 hown hK.1 hP 1 rfl rfl 2 (by decide) (va_Nw.use rfl (hK.2.2.2.2.2.2.2.2.2.2.2.2.2.2.1)) (fun _ h9 => h9) rfl dX5_count_154 ?_
    refine lv_iconst (v := 0) hx hb dX5_count_157 (by decide) ?_
    refine lv_iconst (v := 0) hx hb dX5_count_158 (by decide) ?_
    refine lv_bipush (v := 63) hx hb dX5_count_159 (by decide) ?_
    refine lv_bipush (v := 63) hx hb dX5_count_161 (by decide) ?_
    refine z_ro (va_runV (As := [.int (0 : Int32), .int (0 : Int32), .int (63 : Int32), .int (63 : Int32)]) (rest := []) ⟨hx, hb, hml, hown, hz⟩ (c_X3_wealthIn l D cI cQ q S (0 : Int32) (0 : Int32) (63 : Int32) (63 : Int32)) (zcwV 4 hz q2_215 q2_216 q2_217 q1_3 q2_218 hd_X3_wealthIn (Nat.le_of_ble_eq_true rfl) (Nat.le_of_ble_eq_true rfl)) (z_pv (ci := 3) (q := (RX3, TX3, 5)) hK ((zB_blk (b := zSta cI q S) hP 1 rfl).sub (ws' := zPts cI q S) [1, 2, 3, 4, 5] rfl) rfl rfl) rfl rfl hl.1 rfl (lv_room (Nat.le_of_ble_eq_true rfl)) dX5_count_163 ⟨(Nat.le_of_ble_eq_true rfl), (Nat.le_of_ble_eq_true rfl)⟩) ?_
    exact z_iret hx hb hr rfl hlocks (by simp [coRet, c_1_0, c_1_1, c_1_2, c_1_3, c_1_4, c_1_5, c_1_6, c_1_7, c_1_8, c_1_9]) dX5_count_166
  by_cases c_1_10 : w = 10
  · rw [c_1_10]
    refine lv_tableIn (tgt := 167) hx hb dX5_count_1 (by decide) (by decide) rfl (by decide) ?_
    refine lv_aload_n hx hb dX5_count_167 rfl (lv_at hl 0 rfl) ?_
    refine va_get (D := D) (ci := 5) (v := .ref (h 0)) (C := RX5) (T := TX5) (N := 2) hx hb hz inZ5 hown hK.1 hP 0 rfl rfl 1 (by decide) (hz _ q1_125) (fun _ h9 => h9) rfl dX5_count_168 ?_
    refine z_ro (va_runV (As := []) (rest := []) ⟨hx, hb, hml, hown, hz⟩ (c_X1_number l D cI cQ h Z) (zcwV 0 hz q2_176 q2_177 q2_178 q1_6 q2_179 hd_X1_number (Nat.le_of_ble_eq_true rfl) (Nat.le_of_ble_eq_true rfl)) (z_pv (ci := 1) (q := (RX1, TX1, 2)) hK (zB_blk (b := zHea cQ h Z) hP 2 rfl) rfl rfl) rfl rfl hl.1 rfl (lv_room (Nat.le_of_ble_eq_true rfl)) dX5_count_171 ⟨(Nat.le_of_ble_eq_true rfl), (Nat.le_of_ble_eq_true rfl)⟩) ?_
    exact z_iret hx hb hr rfl hlocks (by simp [coRet, c_1_0, c_1_1, c_1_2, c_1_3, c_1_4, c_1_5, c_1_6, c_1_7, c_1_8, c_1_9, c_1_10]) dX5_count_174
  refine lv_tableOut (tgt := 175) hx hb dX5_count_1 (z_sw10 c_1_0 c_1_1 c_1_2 c_1_3 c_1_4 c_1_5 c_1_6 c_1_7 c_1_8 c_1_9 c_1_10) (by decide) ?_
  refine lv_iconst (v := (-1)) hx hb dX5_count_175 (by decide) ?_
  exact z_iret hx hb hr rfl hlocks (by simp [coRet, c_1_0, c_1_1, c_1_2, c_1_3, c_1_4, c_1_5, c_1_6, c_1_7, c_1_8, c_1_9, c_1_10]) dX5_count_176
set_option maxHeartbeats 1000000 in
set_option maxRecDepth 100000 in
theorem c_X5_point (l : Launch) (D : va_G) (cI cQ : ClassId) (g : Nat → Nat) (q : Nat → Nat) (h : Nat → Nat) (S : CS) (i w : Int32) : zRO l yX5_point (Cond.code yX5_point cX5_point 3 (some .int) :: zT) 4 91 [.ref (g 0), .int i, .int w] D cI cQ (zB [zGri g q h, zSta cI q S]) (poRet S i w) := by
  refine zRO.of (cc := cX5_point) (maxL := 3) (ret := some .int) (by decide +kernel) rfl (Nat.le_of_ble_eq_true rfl) ?_
  intro pg e s mi args below meth cd hx hb hr hts hown hlocks hml hP hK ls hl
  have hz : ∀ w ∈ zT, w.before args s = true := fun w h => hts w (List.mem_cons_of_mem _ h)
  have hl : lv_has ls 3 [(0, .ref (g 0)), (1, .int (i)), (2, .int (w))] := hl
  refine lv_aload_n hx hb dX5_point_0 rfl (lv_at hl 0 rfl) ?_
  refine va_get (D := D) (ci := 5) (v := .ref (q 0)) (C := RX5) (T := TX5) (N := 2) hx hb hz inZ5 hown hK.1 hP 0 rfl rfl 0 (by decide) (hz _ q1_124) (fun _ h9 => h9) rfl dX5_point_1 ?_
  refine va_getN (D := D) (ci := 4) (v := .ref (q 1)) (C := RX4) (T := TX4) (N := 5) hx hb hz inZ4 hown hK.1 hP 1 rfl rfl 2 (by decide) (va_Nw.use rfl (hK.2.2.2.2.2.2.2.2.2.2.2.2.2.2.1)) (fun _ h9 => h9) rfl dX5_point_4 ?_
  refine lv_iload_n hx hb dX5_point_7 rfl (lv_at hl 1 rfl) ?_
  refine z_ro (va_runV (As := [.int (i)]) (rest := []) ⟨hx, hb, hml, hown, hz⟩ (c_X3_exists l D cI cQ q S i) (zcwV 1 hz q2_47 q2_4 q2_5 q1_3 q2_6 hd_X3_exists (Nat.le_of_ble_eq_true rfl) (Nat.le_of_ble_eq_true rfl)) (z_pv (ci := 3) (q := (RX3, TX3, 5)) hK ((zB_blk (b := zSta cI q S) hP 1 rfl).sub (ws' := zPts cI q S) [1, 2, 3, 4, 5] rfl) rfl rfl) rfl rfl hl.1 rfl (lv_room (Nat.le_of_ble_eq_true rfl)) dX5_point_8 ⟨(Nat.le_of_ble_eq_true rfl), (Nat.le_of_ble_eq_true rfl)⟩) ?_
  refine lv_if_ne (tgt := 16) hx hb dX5_point_11 (by decide) (fun c_11 => ?_) (fun c_11 => ?_)
  · have c_11 : (pEx S i) = true := bI_t c_11
    refine lv_iload_n hx hb dX5_point_16 rfl (lv_at hl 2 rfl) ?_
    by_cases c_17_0 : w = 0
    · rw [c_17_0]
      refine lv_tableIn (tgt := 52) hx hb dX5_point_17 (by decide) (by decide) rfl (by decide) ?_
      refine lv_aload_n hx hb dX5_point_52 rfl (lv_at hl 0 rfl) ?_
      refine va_get (D := D) (ci := 5) (v := .ref (q 0)) (C := RX5) (T := TX5) (N := 2) hx hb hz inZ5 hown hK.1 hP 0 rfl rfl 0 (by decide) (hz _ q1_124) (fun _ h9 => h9) rfl dX5_point_53 ?_
      refine va_getN (D := D) (ci := 4) (v := .ref (q 1)) (C := RX4) (T := TX4) (N := 5) hx hb hz inZ4 hown hK.1 hP 1 rfl rfl 2 (by decide) (va_Nw.use rfl (hK.2.2.2.2.2.2.2.2.2.2.2.2.2.2.1)) (fun _ h9 => h9) rfl dX5_point_56 ?_
      refine lv_iload_n hx hb dX5_point_59 rfl (lv_at hl 1 rfl) ?_
      refine z_ro (va_runV (As := [.int (i)]) (rest := []) ⟨hx, hb, hml, hown, hz⟩ (c_X3_xOf l D cI cQ q S i) (zcwV 1 hz q2_223 q2_74 q2_75 q1_3 q2_76 hd_X3_xOf (Nat.le_of_ble_eq_true rfl) (Nat.le_of_ble_eq_true rfl)) (z_pv (ci := 3) (q := (RX3, TX3, 5)) hK ((zB_blk (b := zSta cI q S) hP 1 rfl).sub (ws' := zPts cI q S) [1, 2, 3, 4, 5] rfl) rfl rfl) rfl rfl hl.1 rfl (lv_room (Nat.le_of_ble_eq_true rfl)) dX5_point_60 ⟨(Nat.le_of_ble_eq_true rfl), (Nat.le_of_ble_eq_true rfl)⟩) ?_
      exact z_iret hx hb hr rfl hlocks (by simp [poRet, c_11, c_17_0]) dX5_point_63
    by_cases c_17_1 : w = 1
    · rw [c_17_1]
      refine lv_tableIn (tgt := 64) hx hb dX5_point_17 (by decide) (by decide) rfl (by decide) ?_
      refine lv_aload_n hx hb dX5_point_64 rfl (lv_at hl 0 rfl) ?_
      refine va_get (D := D) (ci := 5) (v := .ref (q 0)) (C := RX5) (T := TX5) (N := 2) hx hb hz inZ5 hown hK.1 hP 0 rfl rfl 0 (by decide) (hz _ q1_124) (fun _ h9 => h9) rfl dX5_point_65 ?_
      refine va_getN (D := D) (ci := 4) (v := .ref (q 1)) (C := RX4) (T := TX4) (N := 5) hx hb hz inZ4 hown hK.1 hP 1 rfl rfl 2 (by decide) (va_Nw.use rfl (hK.2.2.2.2.2.2.2.2.2.2.2.2.2.2.1)) (fun _ h9 => h9) rfl dX5_point_68 ?_
      refine lv_iload_n hx hb dX5_point_71 rfl (lv_at hl 1 rfl) ?_
      refine z_ro (va_runV (As := [.int (i)]) (rest := []) ⟨hx, hb, hml, hown, hz⟩ (c_X3_yOf l D cI cQ q S i) (zcwV 1 hz q2_224 q2_78 q2_79 q1_3 q2_80 hd_X3_yOf (Nat.le_of_ble_eq_true rfl) (Nat.le_of_ble_eq_true rfl)) (z_pv (ci := 3) (q := (RX3, TX3, 5)) hK ((zB_blk (b := zSta cI q S) hP 1 rfl).sub (ws' := zPts cI q S) [1, 2, 3, 4, 5] rfl) rfl rfl) rfl rfl hl.1 rfl (lv_room (Nat.le_of_ble_eq_true rfl)) dX5_point_72 ⟨(Nat.le_of_ble_eq_true rfl), (Nat.le_of_ble_eq_true rfl)⟩) ?_
      exact z_iret hx hb hr rfl hlocks (by simp [poRet, c_11, c_17_0, c_17_1]) dX5_point_75
    by_cases c_17_2 : w = 2
    · rw [c_17_2]
      refine lv_tableIn (tgt := 76) hx hb dX5_point_17 (by decide) (by decide) rfl (by decide) ?_
      refine lv_aload_n hx hb dX5_point_76 rfl (lv_at hl 0 rfl) ?_
      refine va_get (D := D) (ci := 5) (v := .ref (q 0)) (C := RX5) (T := TX5) (N := 2) hx hb hz inZ5 hown hK.1 hP 0 rfl rfl 0 (by decide) (hz _ q1_124) (fun _ h9 => h9) rfl dX5_point_77 ?_
      refine va_getN (D := D) (ci := 4) (v := .ref (q 1)) (C := RX4) (T := TX4) (N := 5) hx hb hz inZ4 hown hK.1 hP 1 rfl rfl 2 (by decide) (va_Nw.use rfl (hK.2.2.2.2.2.2.2.2.2.2.2.2.2.2.1)) (fun _ h9 => h9) rfl dX5_point_80 ?_
      refine lv_iload_n hx hb dX5_point_83 rfl (lv_at hl 1 rfl) ?_
      refine z_ro (va_runV (As := [.int (i)]) (rest := []) ⟨hx, hb, hml, hown, hz⟩ (c_X3_wealthOf l D cI cQ q S i) (zcwV 1 hz q2_225 q2_226 q2_227 q1_3 q2_228 hd_X3_wealthOf (Nat.le_of_ble_eq_true rfl) (Nat.le_of_ble_eq_true rfl)) (z_pv (ci := 3) (q := (RX3, TX3, 5)) hK ((zB_blk (b := zSta cI q S) hP 1 rfl).sub (ws' := zPts cI q S) [1, 2, 3, 4, 5] rfl) rfl rfl) rfl rfl hl.1 rfl (lv_room (Nat.le_of_ble_eq_true rfl)) dX5_point_84 ⟨(Nat.le_of_ble_eq_true rfl), (Nat.le_of_ble_eq_true rfl)⟩) ?_
      exact z_iret hx hb hr rfl hlocks (by simp [poRet, c_11, c_17_0, c_17_1, c_17_2]) dX5_point_87
    by_cases c_17_3 : w = 3
    · rw [c_17_3]
      refine lv_tableIn (tgt := 88) hx hb dX5_point_17 (by decide) (by decide) rfl (by decide) ?_
      refine lv_aload_n hx hb dX5_point_88 rfl (lv_at hl 0 rfl) ?_
      refine va_get (D := D) (ci := 5) (v := .ref (q 0)) (C := RX5) (T := TX5) (N := 2) hx hb hz inZ5 hown hK.1 hP 0 rfl rfl 0 (by decide) (hz _ q1_124) (fun _ h9 => h9) rfl dX5_point_89 ?_
      refine lv_iload_n hx hb dX5_point_92 rfl (lv_at hl 1 rfl) ?_
      refine z_ro (va_runV (As := [.int (i)]) (rest := []) ⟨hx, hb, hml, hown, hz⟩ (c_X4_parishAround l D cI cQ q S i) (zcwV 1 hz q2_229 q2_70 q2_71 q1_2 q2_72 hd_X4_parishAround (Nat.le_of_ble_eq_true rfl) (Nat.le_of_ble_eq_true rfl)) (z_pv (ci := 4) (q := (RX4, TX4, 5)) hK (zB_blk (b := zSta cI q S) hP 1 rfl) rfl rfl) rfl rfl hl.1 rfl (lv_room (Nat.le_of_ble_eq_true rfl)) dX5_point_93 ⟨(Nat.le_of_ble_eq_true rfl), (Nat.le_of_ble_eq_true rfl)⟩) ?_
      exact z_iret hx hb hr rfl hlocks (by simp [poRet, c_11, c_17_0, c_17_1, c_17_2, c_17_3]) dX5_point_96
    by_cases c_17_4 : w = 4
    · rw [c_17_4]
      refine lv_tableIn (tgt := 97) hx hb dX5_point_17 (by decide) (by decide) rfl (by decide) ?_
      refine lv_aload_n hx hb dX5_point_97 rfl (lv_at hl 0 rfl) ?_
      refine va_get (D := D) (ci := 5) (v := .ref (q 0)) (C := RX5) (T := TX5) (N := 2) hx hb hz inZ5 hown hK.1 hP 0 rfl rfl 0 (by decide) (hz _ q1_124) (fun _ h9 => h9) rfl dX5_point_98 ?_
      refine va_getN (D := D) (ci := 4) (v := .ref (q 1)) (C := RX4) (T := TX4) (N := 5) hx hb hz inZ4 hown hK.1 hP 1 rfl rfl 2 (by decide) (va_Nw.use rfl (hK.2.2.2.2.2.2.2.2.2.2.2.2.2.2.1)) (fun _ h9 => h9) rfl dX5_point_101 ?_
      refine lv_iload_n hx hb dX5_point_104 rfl (lv_at hl 1 rfl) ?_
      refine z_ro (va_runV (As := [.int (i)]) (rest := []) ⟨hx, hb, hml, hown, hz⟩ (c_X3_lordOf l D cI cQ q S i) (zcwV 1 hz q2_230 q2_66 q2_67 q1_3 q2_68 hd_X3_lordOf (Nat.le_of_ble_eq_true rfl) (Nat.le_of_ble_eq_true rfl)) (z_pv (ci := 3) (q := (RX3, TX3, 5)) hK ((zB_blk (b := zSta cI q S) hP 1 rfl).sub (ws' := zPts cI q S) [1, 2, 3, 4, 5] rfl) rfl rfl) rfl rfl hl.1 rfl (lv_room (Nat.le_of_ble_eq_true rfl)) dX5_point_105 ⟨(Nat.le_of_ble_eq_true rfl), (Nat.le_of_ble_eq_true rfl)⟩) ?_
      exact z_iret hx hb hr rfl hlocks (by simp [poRet, c_11, c_17_0, c_17_1, c_17_2, c_17_3, c_17_4]) dX5_point_108
    refine lv_tableOut (tgt := 109) hx hb dX5_point_17 (z_sw4 c_17_0 c_17_1 c_17_2 c_17_3 c_17_4) (by decide) ?_
    refine lv_iconst (v := (-1)) hx hb dX5_point_109 (by decide) ?_
    exact z_iret hx hb hr rfl hlocks (by simp [poRet, c_11, c_17_0, c_17_1, c_17_2, c_17_3, c_17_4]) dX5_point_110
  · have c_11 : (pEx S i) = false := bI_f c_11
    refine lv_iconst (v := (-1)) hx hb dX5_point_14 (by decide) ?_
    exact z_iret hx hb hr rfl hlocks (by simp [poRet, c_11]) dX5_point_15
set_option maxHeartbeats 1000000 in
set_option maxRecDepth 100000 in
theorem c_X5_parish (l : Launch) (D : va_G) (cI cQ : ClassId) (g : Nat → Nat) (q : Nat → Nat) (h : Nat → Nat) (S : CS) (pa w : Int32) : zRO l yX5_parish (Cond.code yX5_parish cX5_parish 3 (some .int) :: zT) 4 94 [.ref (g 0), .int pa, .int w] D cI cQ (zB [zGri g q h, zSta cI q S]) (paRet S pa w) := by
  refine zRO.of (cc := cX5_parish) (maxL := 3) (ret := some .int) (by decide +kernel) rfl (Nat.le_of_ble_eq_true rfl) ?_
  intro pg e s mi args below meth cd hx hb hr hts hown hlocks hml hP hK ls hl
  have hz : ∀ w ∈ zT, w.before args s = true := fun w h => hts w (List.mem_cons_of_mem _ h)
  have hl : lv_has ls 3 [(0, .ref (g 0)), (1, .int (pa)), (2, .int (w))] := hl
  refine lv_aload_n hx hb dX5_parish_0 rfl (lv_at hl 0 rfl) ?_
  refine va_get (D := D) (ci := 5) (v := .ref (q 0)) (C := RX5) (T := TX5) (N := 2) hx hb hz inZ5 hown hK.1 hP 0 rfl rfl 0 (by decide) (hz _ q1_124) (fun _ h9 => h9) rfl dX5_parish_1 ?_
  refine va_getN (D := D) (ci := 4) (v := .ref (q 6)) (C := RX4) (T := TX4) (N := 5) hx hb hz inZ4 hown hK.1 hP 1 rfl rfl 3 (by decide) (va_Nw.use rfl (hK.2.2.2.2.2.2.2.2.2.2.2.2.2.2.2.1)) (fun _ h9 => h9) rfl dX5_parish_4 ?_
  refine lv_iload_n hx hb dX5_parish_7 rfl (lv_at hl 1 rfl) ?_
  refine z_ro (va_runV (As := [.int (pa)]) (rest := []) ⟨hx, hb, hml, hown, hz⟩ (c_X2_exists l D cI cQ q S pa) (zcwV 1 hz q2_101 q1_184 q1_185 q1_4 q1_186 hd_X2_exists (Nat.le_of_ble_eq_true rfl) (Nat.le_of_ble_eq_true rfl)) (z_pv (ci := 2) (q := (RX2, TX2, 4)) hK ((zB_blk (b := zSta cI q S) hP 1 rfl).sub (ws' := zPar cI q S) [6, 7, 8, 9] rfl) rfl rfl) rfl rfl hl.1 rfl (lv_room (Nat.le_of_ble_eq_true rfl)) dX5_parish_8 ⟨(Nat.le_of_ble_eq_true rfl), (Nat.le_of_ble_eq_true rfl)⟩) ?_
  refine lv_if_ne (tgt := 16) hx hb dX5_parish_11 (by decide) (fun c_11 => ?_) (fun c_11 => ?_)
  · have c_11 : (rEx S pa) = true := bI_t c_11
    refine lv_iload_n hx hb dX5_parish_16 rfl (lv_at hl 2 rfl) ?_
    by_cases c_17_0 : w = 0
    · rw [c_17_0]
      refine lv_tableIn (tgt := 64) hx hb dX5_parish_17 (by decide) (by decide) rfl (by decide) ?_
      refine lv_aload_n hx hb dX5_parish_64 rfl (lv_at hl 0 rfl) ?_
      refine va_get (D := D) (ci := 5) (v := .ref (q 0)) (C := RX5) (T := TX5) (N := 2) hx hb hz inZ5 hown hK.1 hP 0 rfl rfl 0 (by decide) (hz _ q1_124) (fun _ h9 => h9) rfl dX5_parish_65 ?_
      refine va_getN (D := D) (ci := 4) (v := .ref (q 6)) (C := RX4) (T := TX4) (N := 5) hx hb hz inZ4 hown hK.1 hP 1 rfl rfl 3 (by decide) (va_Nw.use rfl (hK.2.2.2.2.2.2.2.2.2.2.2.2.2.2.2.1)) (fun _ h9 => h9) rfl dX5_parish_68 ?_
      refine lv_iload_n hx hb dX5_parish_71 rfl (lv_at hl 1 rfl) ?_
      refine z_ro (va_runV (As := [.int (pa)]) (rest := []) ⟨hx, hb, hml, hown, hz⟩ (c_X2_leftOf l D cI cQ q S pa) (zcwV 1 hz q2_235 q1_217 q1_218 q1_4 q1_219 hd_X2_leftOf (Nat.le_of_ble_eq_true rfl) (Nat.le_of_ble_eq_true rfl)) (z_pv (ci := 2) (q := (RX2, TX2, 4)) hK ((zB_blk (b := zSta cI q S) hP 1 rfl).sub (ws' := zPar cI q S) [6, 7, 8, 9] rfl) rfl rfl) rfl rfl hl.1 rfl (lv_room (Nat.le_of_ble_eq_true rfl)) dX5_parish_72 ⟨(Nat.le_of_ble_eq_true rfl), (Nat.le_of_ble_eq_true rfl)⟩) ?_
      exact z_iret hx hb hr rfl hlocks (by simp [paRet, c_11, c_17_0]) dX5_parish_75
    by_cases c_17_1 : w = 1
    · rw [c_17_1]
      refine lv_tableIn (tgt := 76) hx hb dX5_parish_17 (by decide) (by decide) rfl (by decide) ?_
      refine lv_aload_n hx hb dX5_parish_76 rfl (lv_at hl 0 rfl) ?_
      refine va_get (D := D) (ci := 5) (v := .ref (q 0)) (C := RX5) (T := TX5) (N := 2) hx hb hz inZ5 hown hK.1 hP 0 rfl rfl 0 (by decide) (hz _ q1_124) (fun _ h9 => h9) rfl dX5_parish_77 ?_
      refine va_getN (D := D) (ci := 4) (v := .ref (q 6)) (C := RX4) (T := TX4) (N := 5) hx hb hz inZ4 hown hK.1 hP 1 rfl rfl 3 (by decide) (va_Nw.use rfl (hK.2.2.2.2.2.2.2.2.2.2.2.2.2.2.2.1)) (fun _ h9 => h9) rfl dX5_parish_80 ?_
      refine lv_iload_n hx hb dX5_parish_83 rfl (lv_at hl 1 rfl) ?_
      refine z_ro (va_runV (As := [.int (pa)]) (rest := []) ⟨hx, hb, hml, hown, hz⟩ (c_X2_topOf l D cI cQ q S pa) (zcwV 1 hz q2_236 q1_221 q1_222 q1_4 q1_223 hd_X2_topOf (Nat.le_of_ble_eq_true rfl) (Nat.le_of_ble_eq_true rfl)) (z_pv (ci := 2) (q := (RX2, TX2, 4)) hK ((zB_blk (b := zSta cI q S) hP 1 rfl).sub (ws' := zPar cI q S) [6, 7, 8, 9] rfl) rfl rfl) rfl rfl hl.1 rfl (lv_room (Nat.le_of_ble_eq_true rfl)) dX5_parish_84 ⟨(Nat.le_of_ble_eq_true rfl), (Nat.le_of_ble_eq_true rfl)⟩) ?_
      exact z_iret hx hb hr rfl hlocks (by simp [paRet, c_11, c_17_0, c_17_1]) dX5_parish_87
    by_cases c_17_2 : w = 2
    · rw [c_17_2]
      refine lv_tableIn (tgt := 88) hx hb dX5_parish_17 (by decide) (by decide) rfl (by decide) ?_
      refine lv_aload_n hx hb dX5_parish_88 rfl (lv_at hl 0 rfl) ?_
      refine va_get (D := D) (ci := 5) (v := .ref (q 0)) (C := RX5) (T := TX5) (N := 2) hx hb hz inZ5 hown hK.1 hP 0 rfl rfl 0 (by decide) (hz _ q1_124) (fun _ h9 => h9) rfl dX5_parish_89 ?_
      refine va_getN (D := D) (ci := 4) (v := .ref (q 6)) (C := RX4) (T := TX4) (N := 5) hx hb hz inZ4 hown hK.1 hP 1 rfl rfl 3 (by decide) (va_Nw.use rfl (hK.2.2.2.2.2.2.2.2.2.2.2.2.2.2.2.1)) (fun _ h9 => h9) rfl dX5_parish_92 ?_
      refine lv_iload_n hx hb dX5_parish_95 rfl (lv_at hl 1 rfl) ?_
      refine z_ro (va_runV (As := [.int (pa)]) (rest := []) ⟨hx, hb, hml, hown, hz⟩ (c_X2_scaleOf l D cI cQ q S pa) (zcwV 1 hz q2_237 q1_209 q1_210 q1_4 q1_211 hd_X2_scaleOf (Nat.le_of_ble_eq_true rfl) (Nat.le_of_ble_eq_true rfl)) (z_pv (ci := 2) (q := (RX2, TX2, 4)) hK ((zB_blk (b := zSta cI q S) hP 1 rfl).sub (ws' := zPar cI q S) [6, 7, 8, 9] rfl) rfl rfl) rfl rfl hl.1 rfl (lv_room (Nat.le_of_ble_eq_true rfl)) dX5_parish_96 ⟨(Nat.le_of_ble_eq_true rfl), (Nat.le_of_ble_eq_true rfl)⟩) ?_
      exact z_iret hx hb hr rfl hlocks (by simp [paRet, c_11, c_17_0, c_17_1, c_17_2]) dX5_parish_99
    by_cases c_17_3 : w = 3
    · rw [c_17_3]
      refine lv_tableIn (tgt := 100) hx hb dX5_parish_17 (by decide) (by decide) rfl (by decide) ?_
      refine lv_aload_n hx hb dX5_parish_100 rfl (lv_at hl 0 rfl) ?_
      refine va_get (D := D) (ci := 5) (v := .ref (q 0)) (C := RX5) (T := TX5) (N := 2) hx hb hz inZ5 hown hK.1 hP 0 rfl rfl 0 (by decide) (hz _ q1_124) (fun _ h9 => h9) rfl dX5_parish_101 ?_
      refine lv_iload_n hx hb dX5_parish_104 rfl (lv_at hl 1 rfl) ?_
      refine z_ro (va_runV (As := [.int (pa)]) (rest := []) ⟨hx, hb, hml, hown, hz⟩ (c_X4_pointsIn l D cI cQ q S pa) (zcwV 1 hz q2_238 q1_213 q1_214 q1_2 q1_215 hd_X4_pointsIn (Nat.le_of_ble_eq_true rfl) (Nat.le_of_ble_eq_true rfl)) (z_pv (ci := 4) (q := (RX4, TX4, 5)) hK (zB_blk (b := zSta cI q S) hP 1 rfl) rfl rfl) rfl rfl hl.1 rfl (lv_room (Nat.le_of_ble_eq_true rfl)) dX5_parish_105 ⟨(Nat.le_of_ble_eq_true rfl), (Nat.le_of_ble_eq_true rfl)⟩) ?_
      exact z_iret hx hb hr rfl hlocks (by simp [paRet, c_11, c_17_0, c_17_1, c_17_2, c_17_3]) dX5_parish_108
    by_cases c_17_4 : w = 4
    · rw [c_17_4]
      refine lv_tableIn (tgt := 109) hx hb dX5_parish_17 (by decide) (by decide) rfl (by decide) ?_
      refine lv_aload_n hx hb dX5_parish_109 rfl (lv_at hl 0 rfl) ?_
      refine va_get (D := D) (ci := 5) (v := .ref (q 0)) (C := RX5) (T := TX5) (N := 2) hx hb hz inZ5 hown hK.1 hP 0 rfl rfl 0 (by decide) (hz _ q1_124) (fun _ h9 => h9) rfl dX5_parish_110 ?_
      refine va_getN (D := D) (ci := 4) (v := .ref (q 1)) (C := RX4) (T := TX4) (N := 5) hx hb hz inZ4 hown hK.1 hP 1 rfl rfl 2 (by decide) (va_Nw.use rfl (hK.2.2.2.2.2.2.2.2.2.2.2.2.2.2.1)) (fun _ h9 => h9) rfl dX5_parish_113 ?_
      refine lv_iload_n hx hb dX5_parish_116 rfl (lv_at hl 1 rfl) ?_
      refine z_ro (va_runV (As := [.int (pa)]) (rest := []) ⟨hx, hb, hml, hown, hz⟩ (c_X3_numberUnder l D cI cQ q S pa) (zcwV 1 hz q2_239 q3_0 q3_1 q1_3 q3_2 hd_X3_numberUnder (Nat.le_of_ble_eq_true rfl) (Nat.le_of_ble_eq_true rfl)) (z_pv (ci := 3) (q := (RX3, TX3, 5)) hK ((zB_blk (b := zSta cI q S) hP 1 rfl).sub (ws' := zPts cI q S) [1, 2, 3, 4, 5] rfl) rfl rfl) rfl rfl hl.1 rfl (lv_room (Nat.le_of_ble_eq_true rfl)) dX5_parish_117 ⟨(Nat.le_of_ble_eq_true rfl), (Nat.le_of_ble_eq_true rfl)⟩) ?_
      exact z_iret hx hb hr rfl hlocks (by simp [paRet, c_11, c_17_0, c_17_1, c_17_2, c_17_3, c_17_4]) dX5_parish_120
    by_cases c_17_5 : w = 5
    · rw [c_17_5]
      refine lv_tableIn (tgt := 121) hx hb dX5_parish_17 (by decide) (by decide) rfl (by decide) ?_
      refine lv_aload_n hx hb dX5_parish_121 rfl (lv_at hl 0 rfl) ?_
      refine va_get (D := D) (ci := 5) (v := .ref (q 0)) (C := RX5) (T := TX5) (N := 2) hx hb hz inZ5 hown hK.1 hP 0 rfl rfl 0 (by decide) (hz _ q1_124) (fun _ h9 => h9) rfl dX5_parish_122 ?_
      refine va_getN (D := D) (ci := 4) (v := .ref (q 1)) (C := RX4) (T := TX4) (N := 5) hx hb hz inZ4 hown hK.1 hP 1 rfl rfl 2 (by decide) (va_Nw.use rfl (hK.2.2.2.2.2.2.2.2.2.2.2.2.2.2.1)) (fun _ h9 => h9) rfl dX5_parish_125 ?_
      refine lv_iload_n hx hb dX5_parish_128 rfl (lv_at hl 1 rfl) ?_
      refine z_ro (va_runV (As := [.int (pa)]) (rest := []) ⟨hx, hb, hml, hown, hz⟩ (c_X3_wealthUnder l D cI cQ q S pa) (zcwV 1 hz q3_3 q3_4 q3_5 q1_3 q3_6 hd_X3_wealthUnder (Nat.le_of_ble_eq_true rfl) (Nat.le_of_ble_eq_true rfl)) (z_pv (ci := 3) (q := (RX3, TX3, 5)) hK ((zB_blk (b := zSta cI q S) hP 1 rfl).sub (ws' := zPts cI q S) [1, 2, 3, 4, 5] rfl) rfl rfl) rfl rfl hl.1 rfl (lv_room (Nat.le_of_ble_eq_true rfl)) dX5_parish_129 ⟨(Nat.le_of_ble_eq_true rfl), (Nat.le_of_ble_eq_true rfl)⟩) ?_
      exact z_iret hx hb hr rfl hlocks (by simp [paRet, c_11, c_17_0, c_17_1, c_17_2, c_17_3, c_17_4, c_17_5]) dX5_parish_132
    by_cases c_17_6 : w = 6
    · rw [c_17_6]
      refine lv_tableIn (tgt := 133) hx hb dX5_parish_17 (by decide) (by decide) rfl (by decide) ?_
      refine lv_aload_n hx hb dX5_parish_133 rfl (lv_at hl 0 rfl) ?_
      refine va_get (D := D) (ci := 5) (v := .ref (q 0)) (C := RX5) (T := TX5) (N := 2) hx hb hz inZ5 hown hK.1 hP 0 rfl rfl 0 (by decide) (hz _ q1_124) (fun _ h9 => h9) rfl dX5_parish_134 ?_
      refine va_getN (D := D) (ci := 4) (v := .ref (q 10)) (C := RX4) (T := TX4) (N := 5) hx hb hz inZ4 hown hK.1 hP 1 rfl rfl 4 (by decide) (va_Nw.use rfl (hK.2.2.2.2.2.2.2.2.2.2.2.2.2.2.2.2)) (fun _ h9 => h9) rfl dX5_parish_137 ?_
      refine lv_iload_n hx hb dX5_parish_140 rfl (lv_at hl 1 rfl) ?_
      refine z_ro (va_runV (As := [.int (pa)]) (rest := []) ⟨hx, hb, hml, hown, hz⟩ (c_X0_owedBy l D cI cQ q S pa) (zcwV 1 hz q3_7 q2_202 q2_203 q1_5 q2_204 hd_X0_owedBy (Nat.le_of_ble_eq_true rfl) (Nat.le_of_ble_eq_true rfl)) (z_pv (ci := 0) (q := (RX0, TX0, 1)) hK ((zB_blk (b := zSta cI q S) hP 1 rfl).sub (ws' := zDeb cI q S) [10, 11] rfl) rfl rfl) rfl rfl hl.1 rfl (lv_room (Nat.le_of_ble_eq_true rfl)) dX5_parish_141 ⟨(Nat.le_of_ble_eq_true rfl), (Nat.le_of_ble_eq_true rfl)⟩) ?_
      exact z_iret hx hb hr rfl hlocks (by simp [paRet, c_11, c_17_0, c_17_1, c_17_2, c_17_3, c_17_4, c_17_5, c_17_6]) dX5_parish_144
    by_cases c_17_7 : w = 7
    · rw [c_17_7]
      refine lv_tableIn (tgt := 145) hx hb dX5_parish_17 (by decide) (by decide) rfl (by decide) ?_
      refine lv_aload_n hx hb dX5_parish_145 rfl (lv_at hl 0 rfl) ?_
      refine va_get (D := D) (ci := 5) (v := .ref (q 0)) (C := RX5) (T := TX5) (N := 2) hx hb hz inZ5 hown hK.1 hP 0 rfl rfl 0 (by decide) (hz _ q1_124) (fun _ h9 => h9) rfl dX5_parish_146 ?_
      refine va_getN (D := D) (ci := 4) (v := .ref (q 10)) (C := RX4) (T := TX4) (N := 5) hx hb hz inZ4 hown hK.1 hP 1 rfl rfl 4 (by decide) (va_Nw.use rfl (hK.2.2.2.2.2.2.2.2.2.2.2.2.2.2.2.2)) (fun _ h9 => h9) rfl dX5_parish_149 ?_
      refine lv_iload_n hx hb dX5_parish_152 rfl (lv_at hl 1 rfl) ?_
      refine z_ro (va_runV (As := [.int (pa)]) (rest := []) ⟨hx, hb, hml, hown, hz⟩ (c_X0_owedTo l D cI cQ q S pa) (zcwV 1 hz q3_8 q3_9 q3_10 q1_5 q3_11 hd_X0_owedTo (Nat.le_of_ble_eq_true rfl) (Nat.le_of_ble_eq_true rfl)) (z_pv (ci := 0) (q := (RX0, TX0, 1)) hK ((zB_blk (b := zSta cI q S) hP 1 rfl).sub (ws' := zDeb cI q S) [10, 11] rfl) rfl rfl) rfl rfl hl.1 rfl (lv_room (Nat.le_of_ble_eq_true rfl)) dX5_parish_153 ⟨(Nat.le_of_ble_eq_true rfl), (Nat.le_of_ble_eq_true rfl)⟩) ?_
      exact z_iret hx hb hr rfl hlocks (by simp [paRet, c_11, c_17_0, c_17_1, c_17_2, c_17_3, c_17_4, c_17_5, c_17_6, c_17_7]) dX5_parish_156
    refine lv_tableOut (tgt := 157) hx hb dX5_parish_17 (z_sw7 c_17_0 c_17_1 c_17_2 c_17_3 c_17_4 c_17_5 c_17_6 c_17_7) (by decide) ?_
    refine lv_iconst (v := (-1)) hx hb dX5_parish_157 (by decide) ?_
    exact z_iret hx hb hr rfl hlocks (by simp [paRet, c_11, c_17_0, c_17_1, c_17_2, c_17_3, c_17_4, c_17_5, c_17_6, c_17_7]) dX5_parish_158
  · have c_11 : (rEx S pa) = false := bI_f c_11
    refine lv_iconst (v := (-1)) hx hb dX5_parish_14 (by decide) ?_
    exact z_iret hx hb hr rfl hlocks (by simp [paRet, c_11]) dX5_parish_15
set_option maxHeartbeats 1000000 in
set_option maxRecDepth 100000 in
theorem c_X5_debt (l : Launch) (D : va_G) (cI cQ : ClassId) (g : Nat → Nat) (q : Nat → Nat) (h : Nat → Nat) (S : CS) (pa cr : Int32) : zRO l yX5_debt (Cond.code yX5_debt cX5_debt 3 (some .int) :: zT) 2 43 [.ref (g 0), .int pa, .int cr] D cI cQ (zB [zGri g q h, zSta cI q S]) (deRet S pa cr) := by
  refine zRO.of (cc := cX5_debt) (maxL := 3) (ret := some .int) (by decide +kernel) rfl (Nat.le_of_ble_eq_true rfl) ?_
  intro pg e s mi args below meth cd hx hb hr hts hown hlocks hml hP hK ls hl
  have hz : ∀ w ∈ zT, w.before args s = true := fun w h => hts w (List.mem_cons_of_mem _ h)
  have hl : lv_has ls 3 [(0, .ref (g 0)), (1, .int (pa)), (2, .int (cr))] := hl
  refine lv_aload_n hx hb dX5_debt_0 rfl (lv_at hl 0 rfl) ?_
  refine va_get (D := D) (ci := 5) (v := .ref (q 0)) (C := RX5) (T := TX5) (N := 2) hx hb hz inZ5 hown hK.1 hP 0 rfl rfl 0 (by decide) (hz _ q1_124) (fun _ h9 => h9) rfl dX5_debt_1 ?_
  refine va_getN (D := D) (ci := 4) (v := .ref (q 6)) (C := RX4) (T := TX4) (N := 5) hx hb hz inZ4 hown hK.1 hP 1 rfl rfl 3 (by decide) (va_Nw.use rfl (hK.2.2.2.2.2.2.2.2.2.2.2.2.2.2.2.1)) (fun _ h9 => h9) rfl dX5_debt_4 ?_
  refine lv_iload_n hx hb dX5_debt_7 rfl (lv_at hl 1 rfl) ?_
  refine z_ro (va_runV (As := [.int (pa)]) (rest := []) ⟨hx, hb, hml, hown, hz⟩ (c_X2_exists l D cI cQ q S pa) (zcwV 1 hz q2_101 q1_184 q1_185 q1_4 q1_186 hd_X2_exists (Nat.le_of_ble_eq_true rfl) (Nat.le_of_ble_eq_true rfl)) (z_pv (ci := 2) (q := (RX2, TX2, 4)) hK ((zB_blk (b := zSta cI q S) hP 1 rfl).sub (ws' := zPar cI q S) [6, 7, 8, 9] rfl) rfl rfl) rfl rfl hl.1 rfl (lv_room (Nat.le_of_ble_eq_true rfl)) dX5_debt_8 ⟨(Nat.le_of_ble_eq_true rfl), (Nat.le_of_ble_eq_true rfl)⟩) ?_
  refine lv_if_eq (tgt := 28) hx hb dX5_debt_11 (by decide) (fun c_11 => ?_) (fun c_11 => ?_)
  · have c_11 : (rEx S pa) = false := bI_f c_11
    refine lv_iconst (v := (-1)) hx hb dX5_debt_28 (by decide) ?_
    exact z_iret hx hb hr rfl hlocks (by simp [deRet, c_11]) dX5_debt_29
  · have c_11 : (rEx S pa) = true := bI_t c_11
    refine lv_aload_n hx hb dX5_debt_14 rfl (lv_at hl 0 rfl) ?_
    refine va_get (D := D) (ci := 5) (v := .ref (q 0)) (C := RX5) (T := TX5) (N := 2) hx hb hz inZ5 hown hK.1 hP 0 rfl rfl 0 (by decide) (hz _ q1_124) (fun _ h9 => h9) rfl dX5_debt_15 ?_
    refine va_getN (D := D) (ci := 4) (v := .ref (q 6)) (C := RX4) (T := TX4) (N := 5) hx hb hz inZ4 hown hK.1 hP 1 rfl rfl 3 (by decide) (va_Nw.use rfl (hK.2.2.2.2.2.2.2.2.2.2.2.2.2.2.2.1)) (fun _ h9 => h9) rfl dX5_debt_18 ?_
    refine lv_iload_n hx hb dX5_debt_21 rfl (lv_at hl 2 rfl) ?_
    refine z_ro (va_runV (As := [.int (cr)]) (rest := []) ⟨hx, hb, hml, hown, hz⟩ (c_X2_exists l D cI cQ q S cr) (zcwV 1 hz q2_101 q1_184 q1_185 q1_4 q1_186 hd_X2_exists (Nat.le_of_ble_eq_true rfl) (Nat.le_of_ble_eq_true rfl)) (z_pv (ci := 2) (q := (RX2, TX2, 4)) hK ((zB_blk (b := zSta cI q S) hP 1 rfl).sub (ws' := zPar cI q S) [6, 7, 8, 9] rfl) rfl rfl) rfl rfl hl.1 rfl (lv_room (Nat.le_of_ble_eq_true rfl)) dX5_debt_22 ⟨(Nat.le_of_ble_eq_true rfl), (Nat.le_of_ble_eq_true rfl)⟩) ?_
    refine lv_if_ne (tgt := 30) hx hb dX5_debt_25 (by decide) (fun c_25 => ?_) (fun c_25 => ?_)
    · have c_25 : (rEx S cr) = true := bI_t c_25
      refine lv_aload_n hx hb dX5_debt_30 rfl (lv_at hl 0 rfl) ?_
      refine va_get (D := D) (ci := 5) (v := .ref (q 0)) (C := RX5) (T := TX5) (N := 2) hx hb hz inZ5 hown hK.1 hP 0 rfl rfl 0 (by decide) (hz _ q1_124) (fun _ h9 => h9) rfl dX5_debt_31 ?_
      refine va_getN (D := D) (ci := 4) (v := .ref (q 10)) (C := RX4) (T := TX4) (N := 5) hx hb hz inZ4 hown hK.1 hP 1 rfl rfl 4 (by decide) (va_Nw.use rfl (hK.2.2.2.2.2.2.2.2.2.2.2.2.2.2.2.2)) (fun _ h9 => h9) rfl dX5_debt_34 ?_
      refine lv_iload_n hx hb dX5_debt_37 rfl (lv_at hl 1 rfl) ?_
      refine lv_iload_n hx hb dX5_debt_38 rfl (lv_at hl 2 rfl) ?_
      refine z_ro (va_runV (As := [.int (pa), .int (cr)]) (rest := []) ⟨hx, hb, hml, hown, hz⟩ (c_X0_owed l D cI cQ q S pa cr) (zcwV 2 hz q3_16 q2_111 q2_112 q1_5 q2_113 hd_X0_owed (Nat.le_of_ble_eq_true rfl) (Nat.le_of_ble_eq_true rfl)) (z_pv (ci := 0) (q := (RX0, TX0, 1)) hK ((zB_blk (b := zSta cI q S) hP 1 rfl).sub (ws' := zDeb cI q S) [10, 11] rfl) rfl rfl) rfl rfl hl.1 rfl (lv_room (Nat.le_of_ble_eq_true rfl)) dX5_debt_39 ⟨(Nat.le_of_ble_eq_true rfl), (Nat.le_of_ble_eq_true rfl)⟩) ?_
      exact z_iret hx hb hr rfl hlocks (by simp [deRet, c_11, c_25]) dX5_debt_42
    · have c_25 : (rEx S cr) = false := bI_f c_25
      refine lv_iconst (v := (-1)) hx hb dX5_debt_28 (by decide) ?_
      exact z_iret hx hb hr rfl hlocks (by simp [deRet, c_11, c_25]) dX5_debt_29
set_option maxHeartbeats 1000000 in
set_option maxRecDepth 100000 in
theorem c_X5_at (l : Launch) (D : va_G) (cI cQ : ClassId) (g : Nat → Nat) (q : Nat → Nat) (h : Nat → Nat) (S : CS) (x y : Int32) : zRO l yX5_at (Cond.code yX5_at cX5_at 3 (some .int) :: zT) 3 70 [.ref (g 0), .int x, .int y] D cI cQ (zB [zGri g q h, zSta cI q S]) (atRet S x y) := by
  refine zRO.of (cc := cX5_at) (maxL := 3) (ret := some .int) (by decide +kernel) rfl (Nat.le_of_ble_eq_true rfl) ?_
  intro pg e s mi args below meth cd hx hb hr hts hown hlocks hml hP hK ls hl
  have hz : ∀ w ∈ zT, w.before args s = true := fun w h => hts w (List.mem_cons_of_mem _ h)
  have hl : lv_has ls 3 [(0, .ref (g 0)), (1, .int (x)), (2, .int (y))] := hl
  refine lv_iload_n hx hb dX5_at_0 rfl (lv_at hl 1 rfl) ?_
  refine lv_iload_n hx hb dX5_at_1 rfl (lv_at hl 2 rfl) ?_
  refine z_ro (va_runS (As := [.int (x), .int (y)]) (rest := []) ⟨hx, hb, hml, hown, hz⟩ (c_X5_isOnMap l D cI cQ x y) (zcwS 2 hz q1_135 q1_136 q1_1 q1_137 hd_X5_isOnMap (Nat.le_of_ble_eq_true rfl) (Nat.le_of_ble_eq_true rfl)) (z_ps hK z_nil) rfl rfl hl.1 rfl (lv_room (Nat.le_of_ble_eq_true rfl)) dX5_at_2 ⟨(Nat.le_of_ble_eq_true rfl), (Nat.le_of_ble_eq_true rfl)⟩) ?_
  refine lv_if_eq (tgt := 23) hx hb dX5_at_5 (by decide) (fun c_5 => ?_) (fun c_5 => ?_)
  · have c_5 : (onMap x y) = false := bI_f c_5
    refine lv_iconst (v := (-1)) hx hb dX5_at_23 (by decide) ?_
    exact z_iret hx hb hr rfl hlocks (by simp [atRet, c_5]) dX5_at_24
  · have c_5 : (onMap x y) = true := bI_t c_5
    refine lv_aload_n hx hb dX5_at_8 rfl (lv_at hl 0 rfl) ?_
    refine va_get (D := D) (ci := 5) (v := .ref (q 0)) (C := RX5) (T := TX5) (N := 2) hx hb hz inZ5 hown hK.1 hP 0 rfl rfl 0 (by decide) (hz _ q1_124) (fun _ h9 => h9) rfl dX5_at_9 ?_
    refine va_getN (D := D) (ci := 4) (v := .ref (q 6)) (C := RX4) (T := TX4) (N := 5) hx hb hz inZ4 hown hK.1 hP 1 rfl rfl 3 (by decide) (va_Nw.use rfl (hK.2.2.2.2.2.2.2.2.2.2.2.2.2.2.2.1)) (fun _ h9 => h9) rfl dX5_at_12 ?_
    refine lv_iload_n hx hb dX5_at_15 rfl (lv_at hl 1 rfl) ?_
    refine lv_iload_n hx hb dX5_at_16 rfl (lv_at hl 2 rfl) ?_
    refine z_ro (va_runV (As := [.int (x), .int (y)]) (rest := []) ⟨hx, hb, hml, hown, hz⟩ (c_X2_parishAt l D cI cQ q S x y) (zcwV 2 hz q3_21 q1_176 q1_177 q1_4 q1_178 hd_X2_parishAt (Nat.le_of_ble_eq_true rfl) (Nat.le_of_ble_eq_true rfl)) (z_pv (ci := 2) (q := (RX2, TX2, 4)) hK ((zB_blk (b := zSta cI q S) hP 1 rfl).sub (ws' := zPar cI q S) [6, 7, 8, 9] rfl) rfl rfl) rfl rfl hl.1 rfl (lv_room (Nat.le_of_ble_eq_true rfl)) dX5_at_17 ⟨(Nat.le_of_ble_eq_true rfl), (Nat.le_of_ble_eq_true rfl)⟩) ?_
    refine lv_goto (tgt := 24) hx hb dX5_at_20 (by decide) ?_
    exact z_iret hx hb hr rfl hlocks (by simp [atRet, c_5]) dX5_at_24
set_option maxHeartbeats 1000000 in
set_option maxRecDepth 100000 in
theorem c_X5_range (l : Launch) (D : va_G) (cI cQ : ClassId) (g : Nat → Nat) (q : Nat → Nat) (h : Nat → Nat) (S : CS) (x y tx ty w : Int32) : zRO l yX5_range (Cond.code yX5_range cX5_range 6 (some .int) :: zT) 3 73 [.ref (g 0), .int x, .int y, .int tx, .int ty, .int w] D cI cQ (zB [zGri g q h, zSta cI q S]) (raRet S x y tx ty w) := by
  refine zRO.of (cc := cX5_range) (maxL := 6) (ret := some .int) (by decide +kernel) rfl (Nat.le_of_ble_eq_true rfl) ?_
  intro pg e s mi args below meth cd hx hb hr hts hown hlocks hml hP hK ls hl
  have hz : ∀ w ∈ zT, w.before args s = true := fun w h => hts w (List.mem_cons_of_mem _ h)
  have hl : lv_has ls 6 [(0, .ref (g 0)), (1, .int (x)), (2, .int (y)), (3, .int (tx)), (4, .int (ty)), (5, .int (w))] := hl
  refine lv_iload_n hx hb dX5_range_0 rfl (lv_at hl 1 rfl) ?_
  refine lv_iload_n hx hb dX5_range_1 rfl (lv_at hl 2 rfl) ?_
  refine z_ro (va_runS (As := [.int (x), .int (y)]) (rest := []) ⟨hx, hb, hml, hown, hz⟩ (c_X5_isOnMap l D cI cQ x y) (zcwS 2 hz q1_135 q1_136 q1_1 q1_137 hd_X5_isOnMap (Nat.le_of_ble_eq_true rfl) (Nat.le_of_ble_eq_true rfl)) (z_ps hK z_nil) rfl rfl hl.1 rfl (lv_room (Nat.le_of_ble_eq_true rfl)) dX5_range_2 ⟨(Nat.le_of_ble_eq_true rfl), (Nat.le_of_ble_eq_true rfl)⟩) ?_
  refine lv_if_eq (tgt := 28) hx hb dX5_range_5 (by decide) (fun c_5 => ?_) (fun c_5 => ?_)
  · have c_5 : (onMap x y) = false := bI_f c_5
    refine lv_iconst (v := (-1)) hx hb dX5_range_28 (by decide) ?_
    exact z_iret hx hb hr rfl hlocks (by simp [raRet, c_5]) dX5_range_29
  · have c_5 : (onMap x y) = true := bI_t c_5
    refine lv_iload_n hx hb dX5_range_8 rfl (lv_at hl 3 rfl) ?_
    refine lv_iload hx hb dX5_range_9 (lv_at hl 4 rfl) ?_
    refine z_ro (va_runS (As := [.int (tx), .int (ty)]) (rest := []) ⟨hx, hb, hml, hown, hz⟩ (c_X5_isOnMap l D cI cQ tx ty) (zcwS 2 hz q1_135 q1_136 q1_1 q1_137 hd_X5_isOnMap (Nat.le_of_ble_eq_true rfl) (Nat.le_of_ble_eq_true rfl)) (z_ps hK z_nil) rfl rfl hl.1 rfl (lv_room (Nat.le_of_ble_eq_true rfl)) dX5_range_11 ⟨(Nat.le_of_ble_eq_true rfl), (Nat.le_of_ble_eq_true rfl)⟩) ?_
    refine lv_if_eq (tgt := 28) hx hb dX5_range_14 (by decide) (fun c_14 => ?_) (fun c_14 => ?_)
    · have c_14 : (onMap tx ty) = false := bI_f c_14
      refine lv_iconst (v := (-1)) hx hb dX5_range_28 (by decide) ?_
      exact z_iret hx hb hr rfl hlocks (by simp [raRet, c_5, c_14]) dX5_range_29
    · have c_14 : (onMap tx ty) = true := bI_t c_14
      refine lv_iload_n hx hb dX5_range_17 rfl (lv_at hl 3 rfl) ?_
      refine lv_iload_n hx hb dX5_range_18 rfl (lv_at hl 1 rfl) ?_
      refine lv_icmp_lt (tgt := 28) hx hb dX5_range_19 (by decide) (fun c_19 => ?_) (fun c_19 => ?_)
      · have c_19 : (tx : Int32) < x := c_19
        refine lv_iconst (v := (-1)) hx hb dX5_range_28 (by decide) ?_
        exact z_iret hx hb hr rfl hlocks (by simp [raRet, c_5, c_14, c_19]) dX5_range_29
      · have c_19 : ¬ ((tx : Int32) < x) := c_19
        refine lv_iload hx hb dX5_range_22 (lv_at hl 4 rfl) ?_
        refine lv_iload_n hx hb dX5_range_24 rfl (lv_at hl 2 rfl) ?_
        refine lv_icmp_ge (tgt := 30) hx hb dX5_range_25 (by decide) (fun c_25 => ?_) (fun c_25 => ?_)
        · have c_25 : (y : Int32) ≤ ty := c_25
          refine lv_iload hx hb dX5_range_30 (lv_at hl 5 rfl) ?_
          by_cases c_32_0 : w = 0
          · rw [c_32_0]
            refine lv_tableIn (tgt := 64) hx hb dX5_range_32 (by decide) (by decide) rfl (by decide) ?_
            refine lv_aload_n hx hb dX5_range_64 rfl (lv_at hl 0 rfl) ?_
            refine va_get (D := D) (ci := 5) (v := .ref (q 0)) (C := RX5) (T := TX5) (N := 2) hx hb hz inZ5 hown hK.1 hP 0 rfl rfl 0 (by decide) (hz _ q1_124) (fun _ h9 => h9) rfl dX5_range_65 ?_
            refine va_getN (D := D) (ci := 4) (v := .ref (q 1)) (C := RX4) (T := TX4) (N := 5) hx hb hz inZ4 hown hK.1 hP 1 rfl rfl 2 (by decide) (va_Nw.use rfl (hK.2.2.2.2.2.2.2.2.2.2.2.2.2.2.1)) (fun _ h9 => h9) rfl dX5_range_68 ?_
            refine lv_iload_n hx hb dX5_range_71 rfl (lv_at hl 1 rfl) ?_
            refine lv_iload_n hx hb dX5_range_72 rfl (lv_at hl 2 rfl) ?_
            refine lv_iload_n hx hb dX5_range_73 rfl (lv_at hl 3 rfl) ?_
            refine lv_iload hx hb dX5_range_74 (lv_at hl 4 rfl) ?_
            refine z_ro (va_runV (As := [.int (x), .int (y), .int (tx), .int (ty)]) (rest := []) ⟨hx, hb, hml, hown, hz⟩ (c_X3_numberIn l D cI cQ q S x y tx ty) (zcwV 4 hz q3_26 q1_236 q1_237 q1_3 q1_238 hd_X3_numberIn (Nat.le_of_ble_eq_true rfl) (Nat.le_of_ble_eq_true rfl)) (z_pv (ci := 3) (q := (RX3, TX3, 5)) hK ((zB_blk (b := zSta cI q S) hP 1 rfl).sub (ws' := zPts cI q S) [1, 2, 3, 4, 5] rfl) rfl rfl) rfl rfl hl.1 rfl (lv_room (Nat.le_of_ble_eq_true rfl)) dX5_range_76 ⟨(Nat.le_of_ble_eq_true rfl), (Nat.le_of_ble_eq_true rfl)⟩) ?_
            exact z_iret hx hb hr rfl hlocks (by simp [raRet, c_5, c_14, c_19, c_25, c_32_0]) dX5_range_79
          by_cases c_32_1 : w = 1
          · rw [c_32_1]
            refine lv_tableIn (tgt := 80) hx hb dX5_range_32 (by decide) (by decide) rfl (by decide) ?_
            refine lv_aload_n hx hb dX5_range_80 rfl (lv_at hl 0 rfl) ?_
            refine va_get (D := D) (ci := 5) (v := .ref (q 0)) (C := RX5) (T := TX5) (N := 2) hx hb hz inZ5 hown hK.1 hP 0 rfl rfl 0 (by decide) (hz _ q1_124) (fun _ h9 => h9) rfl dX5_range_81 ?_
            refine va_getN (D := D) (ci := 4) (v := .ref (q 1)) (C := RX4) (T := TX4) (N := 5) hx hb hz inZ4 hown hK.1 hP 1 rfl rfl 2 (by decide) (va_Nw.use rfl (hK.2.2.2.2.2.2.2.2.2.2.2.2.2.2.1)) (fun _ h9 => h9) rfl dX5_range_84 ?_
            refine lv_iload_n hx hb dX5_range_87 rfl (lv_at hl 1 rfl) ?_
            refine lv_iload_n hx hb dX5_range_88 rfl (lv_at hl 2 rfl) ?_
            refine lv_iload_n hx hb dX5_range_89 rfl (lv_at hl 3 rfl) ?_
            refine lv_iload hx hb dX5_range_90 (lv_at hl 4 rfl) ?_
            refine z_ro (va_runV (As := [.int (x), .int (y), .int (tx), .int (ty)]) (rest := []) ⟨hx, hb, hml, hown, hz⟩ (c_X3_wealthIn l D cI cQ q S x y tx ty) (zcwV 4 hz q2_215 q2_216 q2_217 q1_3 q2_218 hd_X3_wealthIn (Nat.le_of_ble_eq_true rfl) (Nat.le_of_ble_eq_true rfl)) (z_pv (ci := 3) (q := (RX3, TX3, 5)) hK ((zB_blk (b := zSta cI q S) hP 1 rfl).sub (ws' := zPts cI q S) [1, 2, 3, 4, 5] rfl) rfl rfl) rfl rfl hl.1 rfl (lv_room (Nat.le_of_ble_eq_true rfl)) dX5_range_92 ⟨(Nat.le_of_ble_eq_true rfl), (Nat.le_of_ble_eq_true rfl)⟩) ?_
            exact z_iret hx hb hr rfl hlocks (by simp [raRet, c_5, c_14, c_19, c_25, c_32_0, c_32_1]) dX5_range_95
          by_cases c_32_2 : w = 2
          · rw [c_32_2]
            refine lv_tableIn (tgt := 96) hx hb dX5_range_32 (by decide) (by decide) rfl (by decide) ?_
            refine lv_aload_n hx hb dX5_range_96 rfl (lv_at hl 0 rfl) ?_
            refine va_get (D := D) (ci := 5) (v := .ref (q 0)) (C := RX5) (T := TX5) (N := 2) hx hb hz inZ5 hown hK.1 hP 0 rfl rfl 0 (by decide) (hz _ q1_124) (fun _ h9 => h9) rfl dX5_range_97 ?_
            refine va_getN (D := D) (ci := 4) (v := .ref (q 6)) (C := RX4) (T := TX4) (N := 5) hx hb hz inZ4 hown hK.1 hP 1 rfl rfl 3 (by decide) (va_Nw.use rfl (hK.2.2.2.2.2.2.2.2.2.2.2.2.2.2.2.1)) (fun _ h9 => h9) rfl dX5_range_100 ?_
            refine lv_iload_n hx hb dX5_range_103 rfl (lv_at hl 1 rfl) ?_
            refine lv_iload_n hx hb dX5_range_104 rfl (lv_at hl 2 rfl) ?_
            refine lv_iload_n hx hb dX5_range_105 rfl (lv_at hl 3 rfl) ?_
            refine lv_iload hx hb dX5_range_106 (lv_at hl 4 rfl) ?_
            refine z_ro (va_runV (As := [.int (x), .int (y), .int (tx), .int (ty)]) (rest := []) ⟨hx, hb, hml, hown, hz⟩ (c_X2_numberTouching l D cI cQ q S x y tx ty) (zcwV 4 hz q3_27 q2_193 q2_194 q1_4 q2_195 hd_X2_numberTouching (Nat.le_of_ble_eq_true rfl) (Nat.le_of_ble_eq_true rfl)) (z_pv (ci := 2) (q := (RX2, TX2, 4)) hK ((zB_blk (b := zSta cI q S) hP 1 rfl).sub (ws' := zPar cI q S) [6, 7, 8, 9] rfl) rfl rfl) rfl rfl hl.1 rfl (lv_room (Nat.le_of_ble_eq_true rfl)) dX5_range_108 ⟨(Nat.le_of_ble_eq_true rfl), (Nat.le_of_ble_eq_true rfl)⟩) ?_
            exact z_iret hx hb hr rfl hlocks (by simp [raRet, c_5, c_14, c_19, c_25, c_32_0, c_32_1, c_32_2]) dX5_range_111
          by_cases c_32_3 : w = 3
          · rw [c_32_3]
            refine lv_tableIn (tgt := 112) hx hb dX5_range_32 (by decide) (by decide) rfl (by decide) ?_
            refine lv_aload_n hx hb dX5_range_112 rfl (lv_at hl 0 rfl) ?_
            refine va_get (D := D) (ci := 5) (v := .ref (q 0)) (C := RX5) (T := TX5) (N := 2) hx hb hz inZ5 hown hK.1 hP 0 rfl rfl 0 (by decide) (hz _ q1_124) (fun _ h9 => h9) rfl dX5_range_113 ?_
            refine va_getN (D := D) (ci := 4) (v := .ref (q 1)) (C := RX4) (T := TX4) (N := 5) hx hb hz inZ4 hown hK.1 hP 1 rfl rfl 2 (by decide) (va_Nw.use rfl (hK.2.2.2.2.2.2.2.2.2.2.2.2.2.2.1)) (fun _ h9 => h9) rfl dX5_range_116 ?_
            refine lv_iload_n hx hb dX5_range_119 rfl (lv_at hl 1 rfl) ?_
            refine lv_iload_n hx hb dX5_range_120 rfl (lv_at hl 2 rfl) ?_
            refine lv_iload_n hx hb dX5_range_121 rfl (lv_at hl 3 rfl) ?_
            refine lv_iload hx hb dX5_range_122 (lv_at hl 4 rfl) ?_
            refine z_ro (va_runV (As := [.int (x), .int (y), .int (tx), .int (ty)]) (rest := []) ⟨hx, hb, hml, hown, hz⟩ (c_X3_richestIn l D cI cQ q S x y tx ty) (zcwV 4 hz q3_28 q3_29 q3_30 q1_3 q3_31 hd_X3_richestIn (Nat.le_of_ble_eq_true rfl) (Nat.le_of_ble_eq_true rfl)) (z_pv (ci := 3) (q := (RX3, TX3, 5)) hK ((zB_blk (b := zSta cI q S) hP 1 rfl).sub (ws' := zPts cI q S) [1, 2, 3, 4, 5] rfl) rfl rfl) rfl rfl hl.1 rfl (lv_room (Nat.le_of_ble_eq_true rfl)) dX5_range_124 ⟨(Nat.le_of_ble_eq_true rfl), (Nat.le_of_ble_eq_true rfl)⟩) ?_
            exact z_iret hx hb hr rfl hlocks (by simp [raRet, c_5, c_14, c_19, c_25, c_32_0, c_32_1, c_32_2, c_32_3]) dX5_range_127
          refine lv_tableOut (tgt := 128) hx hb dX5_range_32 (z_sw3 c_32_0 c_32_1 c_32_2 c_32_3) (by decide) ?_
          refine lv_iconst (v := (-1)) hx hb dX5_range_128 (by decide) ?_
          exact z_iret hx hb hr rfl hlocks (by simp [raRet, c_5, c_14, c_19, c_25, c_32_0, c_32_1, c_32_2, c_32_3]) dX5_range_129
        · have c_25 : ¬ ((y : Int32) ≤ ty) := c_25
          refine lv_iconst (v := (-1)) hx hb dX5_range_28 (by decide) ?_
          exact z_iret hx hb hr rfl hlocks (by simp [raRet, c_5, c_14, c_19, c_25]) dX5_range_29
set_option maxHeartbeats 1000000 in
set_option maxRecDepth 100000 in
theorem c_X5_nearest (l : Launch) (D : va_G) (cI cQ : ClassId) (g : Nat → Nat) (q : Nat → Nat) (h : Nat → Nat) (S : CS) (x y : Int32) : zRO l yX5_nearest (Cond.code yX5_nearest cX5_nearest 3 (some .int) :: zT) 2 50 [.ref (g 0), .int x, .int y] D cI cQ (zB [zGri g q h, zSta cI q S]) (neRet S x y) := by
  refine zRO.of (cc := cX5_nearest) (maxL := 3) (ret := some .int) (by decide +kernel) rfl (Nat.le_of_ble_eq_true rfl) ?_
  intro pg e s mi args below meth cd hx hb hr hts hown hlocks hml hP hK ls hl
  have hz : ∀ w ∈ zT, w.before args s = true := fun w h => hts w (List.mem_cons_of_mem _ h)
  have hl : lv_has ls 3 [(0, .ref (g 0)), (1, .int (x)), (2, .int (y))] := hl
  refine lv_iload_n hx hb dX5_nearest_0 rfl (lv_at hl 1 rfl) ?_
  refine lv_iload_n hx hb dX5_nearest_1 rfl (lv_at hl 2 rfl) ?_
  refine z_ro (va_runS (As := [.int (x), .int (y)]) (rest := []) ⟨hx, hb, hml, hown, hz⟩ (c_X5_isOnMap l D cI cQ x y) (zcwS 2 hz q1_135 q1_136 q1_1 q1_137 hd_X5_isOnMap (Nat.le_of_ble_eq_true rfl) (Nat.le_of_ble_eq_true rfl)) (z_ps hK z_nil) rfl rfl hl.1 rfl (lv_room (Nat.le_of_ble_eq_true rfl)) dX5_nearest_2 ⟨(Nat.le_of_ble_eq_true rfl), (Nat.le_of_ble_eq_true rfl)⟩) ?_
  refine lv_if_eq (tgt := 23) hx hb dX5_nearest_5 (by decide) (fun c_5 => ?_) (fun c_5 => ?_)
  · have c_5 : (onMap x y) = false := bI_f c_5
    refine lv_iconst (v := (-1)) hx hb dX5_nearest_23 (by decide) ?_
    exact z_iret hx hb hr rfl hlocks (by simp [neRet, c_5]) dX5_nearest_24
  · have c_5 : (onMap x y) = true := bI_t c_5
    refine lv_aload_n hx hb dX5_nearest_8 rfl (lv_at hl 0 rfl) ?_
    refine va_get (D := D) (ci := 5) (v := .ref (q 0)) (C := RX5) (T := TX5) (N := 2) hx hb hz inZ5 hown hK.1 hP 0 rfl rfl 0 (by decide) (hz _ q1_124) (fun _ h9 => h9) rfl dX5_nearest_9 ?_
    refine va_getN (D := D) (ci := 4) (v := .ref (q 1)) (C := RX4) (T := TX4) (N := 5) hx hb hz inZ4 hown hK.1 hP 1 rfl rfl 2 (by decide) (va_Nw.use rfl (hK.2.2.2.2.2.2.2.2.2.2.2.2.2.2.1)) (fun _ h9 => h9) rfl dX5_nearest_12 ?_
    refine lv_iload_n hx hb dX5_nearest_15 rfl (lv_at hl 1 rfl) ?_
    refine lv_iload_n hx hb dX5_nearest_16 rfl (lv_at hl 2 rfl) ?_
    refine z_ro (va_runV (As := [.int (x), .int (y)]) (rest := []) ⟨hx, hb, hml, hown, hz⟩ (c_X3_nearestTo l D cI cQ q S x y) (zcwV 2 hz q3_37 q3_38 q3_39 q1_3 q3_40 hd_X3_nearestTo (Nat.le_of_ble_eq_true rfl) (Nat.le_of_ble_eq_true rfl)) (z_pv (ci := 3) (q := (RX3, TX3, 5)) hK ((zB_blk (b := zSta cI q S) hP 1 rfl).sub (ws' := zPts cI q S) [1, 2, 3, 4, 5] rfl) rfl rfl) rfl rfl hl.1 rfl (lv_room (Nat.le_of_ble_eq_true rfl)) dX5_nearest_17 ⟨(Nat.le_of_ble_eq_true rfl), (Nat.le_of_ble_eq_true rfl)⟩) ?_
    refine lv_goto (tgt := 24) hx hb dX5_nearest_20 (by decide) ?_
    exact z_iret hx hb hr rfl hlocks (by simp [neRet, c_5]) dX5_nearest_24
set_option maxHeartbeats 1000000 in
set_option maxRecDepth 100000 in
theorem c_X5_inOrder (l : Launch) (D : va_G) (cI cQ : ClassId) (g : Nat → Nat) (q : Nat → Nat) (h : Nat → Nat) (S : CS) (ix : Int32) : zRO l yX5_inOrder (Cond.code yX5_inOrder cX5_inOrder 2 (some .int) :: zT) 4 95 [.ref (g 0), .int ix] D cI cQ (zB [zGri g q h, zSta cI q S]) (ioRet S ix) := by
  refine zRO.of (cc := cX5_inOrder) (maxL := 2) (ret := some .int) (by decide +kernel) rfl (Nat.le_of_ble_eq_true rfl) ?_
  intro pg e s mi args below meth cd hx hb hr hts hown hlocks hml hP hK ls hl
  have hz : ∀ w ∈ zT, w.before args s = true := fun w h => hts w (List.mem_cons_of_mem _ h)
  have hl : lv_has ls 2 [(0, .ref (g 0)), (1, .int (ix))] := hl
  refine lv_iload_n hx hb dX5_inOrder_0 rfl (lv_at hl 1 rfl) ?_
  refine lv_if_ge (tgt := 8) hx hb dX5_inOrder_1 (by decide) (fun c_1 => ?_) (fun c_1 => ?_)
  · have c_1 : (0 : Int32) ≤ ix := c_1
    refine lv_aload_n hx hb dX5_inOrder_8 rfl (lv_at hl 0 rfl) ?_
    refine va_get (D := D) (ci := 5) (v := .ref (q 0)) (C := RX5) (T := TX5) (N := 2) hx hb hz inZ5 hown hK.1 hP 0 rfl rfl 0 (by decide) (hz _ q1_124) (fun _ h9 => h9) rfl dX5_inOrder_9 ?_
    refine va_getN (D := D) (ci := 4) (v := .ref (q 6)) (C := RX4) (T := TX4) (N := 5) hx hb hz inZ4 hown hK.1 hP 1 rfl rfl 3 (by decide) (va_Nw.use rfl (hK.2.2.2.2.2.2.2.2.2.2.2.2.2.2.2.1)) (fun _ h9 => h9) rfl dX5_inOrder_12 ?_
    refine lv_iload_n hx hb dX5_inOrder_15 rfl (lv_at hl 1 rfl) ?_
    refine z_ro (va_runV (As := [.int (ix)]) (rest := []) ⟨hx, hb, hml, hown, hz⟩ (c_X2_withNumberBefore l D cI cQ q S ix) (zcwV 1 hz q3_48 q3_49 q3_50 q1_4 q3_51 hd_X2_withNumberBefore (Nat.le_of_ble_eq_true rfl) (Nat.le_of_ble_eq_true rfl)) (z_pv (ci := 2) (q := (RX2, TX2, 4)) hK ((zB_blk (b := zSta cI q S) hP 1 rfl).sub (ws' := zPar cI q S) [6, 7, 8, 9] rfl) rfl rfl) rfl rfl hl.1 rfl (lv_room (Nat.le_of_ble_eq_true rfl)) dX5_inOrder_16 ⟨(Nat.le_of_ble_eq_true rfl), (Nat.le_of_ble_eq_true rfl)⟩) ?_
    exact z_iret hx hb hr rfl hlocks (by simp [ioRet, c_1]) dX5_inOrder_19
  · have c_1 : ¬ ((0 : Int32) ≤ ix) := c_1
    refine lv_iconst (v := (-1)) hx hb dX5_inOrder_4 (by decide) ?_
    refine lv_goto (tgt := 19) hx hb dX5_inOrder_5 (by decide) ?_
    exact z_iret hx hb hr rfl hlocks (by simp [ioRet, c_1]) dX5_inOrder_19
set_option maxHeartbeats 1000000 in
set_option maxRecDepth 100000 in
theorem c_X5_payable (l : Launch) (D : va_G) (cI cQ : ClassId) (g : Nat → Nat) (q : Nat → Nat) (h : Nat → Nat) (S : CS) (pa : Int32) : zRO l yX5_payable (Cond.code yX5_payable cX5_payable 2 (some .int) :: zT) 5 114 [.ref (g 0), .int pa] D cI cQ (zB [zGri g q h, zSta cI q S]) (pbRet S pa) := by
  refine zRO.of (cc := cX5_payable) (maxL := 2) (ret := some .int) (by decide +kernel) rfl (Nat.le_of_ble_eq_true rfl) ?_
  intro pg e s mi args below meth cd hx hb hr hts hown hlocks hml hP hK ls hl
  have hz : ∀ w ∈ zT, w.before args s = true := fun w h => hts w (List.mem_cons_of_mem _ h)
  have hl : lv_has ls 2 [(0, .ref (g 0)), (1, .int (pa))] := hl
  refine lv_aload_n hx hb dX5_payable_0 rfl (lv_at hl 0 rfl) ?_
  refine va_get (D := D) (ci := 5) (v := .ref (q 0)) (C := RX5) (T := TX5) (N := 2) hx hb hz inZ5 hown hK.1 hP 0 rfl rfl 0 (by decide) (hz _ q1_124) (fun _ h9 => h9) rfl dX5_payable_1 ?_
  refine va_getN (D := D) (ci := 4) (v := .ref (q 6)) (C := RX4) (T := TX4) (N := 5) hx hb hz inZ4 hown hK.1 hP 1 rfl rfl 3 (by decide) (va_Nw.use rfl (hK.2.2.2.2.2.2.2.2.2.2.2.2.2.2.2.1)) (fun _ h9 => h9) rfl dX5_payable_4 ?_
  refine lv_iload_n hx hb dX5_payable_7 rfl (lv_at hl 1 rfl) ?_
  refine z_ro (va_runV (As := [.int (pa)]) (rest := []) ⟨hx, hb, hml, hown, hz⟩ (c_X2_exists l D cI cQ q S pa) (zcwV 1 hz q2_101 q1_184 q1_185 q1_4 q1_186 hd_X2_exists (Nat.le_of_ble_eq_true rfl) (Nat.le_of_ble_eq_true rfl)) (z_pv (ci := 2) (q := (RX2, TX2, 4)) hK ((zB_blk (b := zSta cI q S) hP 1 rfl).sub (ws' := zPar cI q S) [6, 7, 8, 9] rfl) rfl rfl) rfl rfl hl.1 rfl (lv_room (Nat.le_of_ble_eq_true rfl)) dX5_payable_8 ⟨(Nat.le_of_ble_eq_true rfl), (Nat.le_of_ble_eq_true rfl)⟩) ?_
  refine lv_if_eq (tgt := 25) hx hb dX5_payable_11 (by decide) (fun c_11 => ?_) (fun c_11 => ?_)
  · have c_11 : (rEx S pa) = false := bI_f c_11
    refine lv_iconst (v := (-1)) hx hb dX5_payable_25 (by decide) ?_
    exact z_iret hx hb hr rfl hlocks (by simp [pbRet, c_11]) dX5_payable_26
  · have c_11 : (rEx S pa) = true := bI_t c_11
    refine lv_aload_n hx hb dX5_payable_14 rfl (lv_at hl 0 rfl) ?_
    refine va_get (D := D) (ci := 5) (v := .ref (q 0)) (C := RX5) (T := TX5) (N := 2) hx hb hz inZ5 hown hK.1 hP 0 rfl rfl 0 (by decide) (hz _ q1_124) (fun _ h9 => h9) rfl dX5_payable_15 ?_
    refine lv_iload_n hx hb dX5_payable_18 rfl (lv_at hl 1 rfl) ?_
    refine z_ro (va_runV (As := [.int (pa)]) (rest := []) ⟨hx, hb, hml, hown, hz⟩ (c_X4_payablePoints l D cI cQ q S pa) (zcwV 1 hz q3_60 q3_61 q3_62 q1_2 q3_63 hd_X4_payablePoints (Nat.le_of_ble_eq_true rfl) (Nat.le_of_ble_eq_true rfl)) (z_pv (ci := 4) (q := (RX4, TX4, 5)) hK (zB_blk (b := zSta cI q S) hP 1 rfl) rfl rfl) rfl rfl hl.1 rfl (lv_room (Nat.le_of_ble_eq_true rfl)) dX5_payable_19 ⟨(Nat.le_of_ble_eq_true rfl), (Nat.le_of_ble_eq_true rfl)⟩) ?_
    refine lv_goto (tgt := 26) hx hb dX5_payable_22 (by decide) ?_
    exact z_iret hx hb hr rfl hlocks (by simp [pbRet, c_11]) dX5_payable_26
set_option maxHeartbeats 1000000 in
set_option maxRecDepth 100000 in
theorem c_X5_cellsWith (l : Launch) (D : va_G) (cI cQ : ClassId) (g : Nat → Nat) (q : Nat → Nat) (h : Nat → Nat) (S : CS) (v : Int32) : zRO l yX5_cellsWith (Cond.code yX5_cellsWith cX5_cellsWith 2 (some .int) :: zT) 5 124 [.ref (g 0), .int v] D cI cQ (zB [zGri g q h, zSta cI q S]) (cwRet S v) := by
  refine zRO.of (cc := cX5_cellsWith) (maxL := 2) (ret := some .int) (by decide +kernel) rfl (Nat.le_of_ble_eq_true rfl) ?_
  intro pg e s mi args below meth cd hx hb hr hts hown hlocks hml hP hK ls hl
  have hz : ∀ w ∈ zT, w.before args s = true := fun w h => hts w (List.mem_cons_of_mem _ h)
  have hl : lv_has ls 2 [(0, .ref (g 0)), (1, .int (v))] := hl
  refine lv_iload_n hx hb dX5_cellsWith_0 rfl (lv_at hl 1 rfl) ?_
  refine lv_iconst (v := 2) hx hb dX5_cellsWith_1 (by decide) ?_
  refine lv_bipush (v := 9) hx hb dX5_cellsWith_2 (by decide) ?_
  refine z_ro (va_runS (As := [.int (v), .int (2 : Int32), .int (9 : Int32)]) (rest := []) ⟨hx, hb, hml, hown, hz⟩ (c_X5_isBetween l D cI cQ v (2 : Int32) (9 : Int32)) (zcwS 3 hz q1_138 q1_58 q1_1 q1_59 hd_X5_isBetween (Nat.le_of_ble_eq_true rfl) (Nat.le_of_ble_eq_true rfl)) (z_ps hK z_nil) rfl rfl hl.1 rfl (lv_room (Nat.le_of_ble_eq_true rfl)) dX5_cellsWith_4 ⟨(Nat.le_of_ble_eq_true rfl), (Nat.le_of_ble_eq_true rfl)⟩) ?_
  refine lv_if_ne (tgt := 12) hx hb dX5_cellsWith_7 (by decide) (fun c_7 => ?_) (fun c_7 => ?_)
  · have c_7 : (btw v (2 : Int32) (9 : Int32)) = true := bI_t c_7
    refine lv_aload_n hx hb dX5_cellsWith_12 rfl (lv_at hl 0 rfl) ?_
    refine va_get (D := D) (ci := 5) (v := .ref (q 0)) (C := RX5) (T := TX5) (N := 2) hx hb hz inZ5 hown hK.1 hP 0 rfl rfl 0 (by decide) (hz _ q1_124) (fun _ h9 => h9) rfl dX5_cellsWith_13 ?_
    refine va_getN (D := D) (ci := 4) (v := .ref (q 1)) (C := RX4) (T := TX4) (N := 5) hx hb hz inZ4 hown hK.1 hP 1 rfl rfl 2 (by decide) (va_Nw.use rfl (hK.2.2.2.2.2.2.2.2.2.2.2.2.2.2.1)) (fun _ h9 => h9) rfl dX5_cellsWith_16 ?_
    refine lv_iload_n hx hb dX5_cellsWith_19 rfl (lv_at hl 1 rfl) ?_
    refine z_ro (va_runV (As := [.int (v)]) (rest := []) ⟨hx, hb, hml, hown, hz⟩ (c_X3_cellsIfDivided l D cI cQ q S v) (zcwV 1 hz q3_69 q3_70 q3_71 q1_3 q3_72 hd_X3_cellsIfDivided (Nat.le_of_ble_eq_true rfl) (Nat.le_of_ble_eq_true rfl)) (z_pv (ci := 3) (q := (RX3, TX3, 5)) hK ((zB_blk (b := zSta cI q S) hP 1 rfl).sub (ws' := zPts cI q S) [1, 2, 3, 4, 5] rfl) rfl rfl) rfl rfl hl.1 rfl (lv_room (Nat.le_of_ble_eq_true rfl)) dX5_cellsWith_20 ⟨(Nat.le_of_ble_eq_true rfl), (Nat.le_of_ble_eq_true rfl)⟩) ?_
    exact z_iret hx hb hr rfl hlocks (by simp [cwRet, c_7]) dX5_cellsWith_23
  · have c_7 : (btw v (2 : Int32) (9 : Int32)) = false := bI_f c_7
    refine lv_iconst (v := (-1)) hx hb dX5_cellsWith_10 (by decide) ?_
    exact z_iret hx hb hr rfl hlocks (by simp [cwRet, c_7]) dX5_cellsWith_11
set_option maxHeartbeats 1000000 in
set_option maxRecDepth 100000 in
theorem c_X5_joinable (l : Launch) (D : va_G) (cI cQ : ClassId) (g : Nat → Nat) (q : Nat → Nat) (h : Nat → Nat) (S : CS) : zRO l yX5_joinable (Cond.code yX5_joinable cX5_joinable 2 (some .int) :: zT) 5 122 [.ref (g 0)] D cI cQ (zB [zGri g q h, zSta cI q S]) (jbRet S) := by
  refine zRO.of (cc := cX5_joinable) (maxL := 2) (ret := some .int) (by decide +kernel) rfl (Nat.le_of_ble_eq_true rfl) ?_
  intro pg e s mi args below meth cd hx hb hr hts hown hlocks hml hP hK ls hl
  have hz : ∀ w ∈ zT, w.before args s = true := fun w h => hts w (List.mem_cons_of_mem _ h)
  have hl : lv_has ls 2 [(0, .ref (g 0))] := hl
  refine lv_iconst (v := 0) hx hb dX5_joinable_0 (by decide) ?_
  refine lv_istore_n (lv' := [(1, .int (0 : Int32)), (0, .ref (g 0))]) hx hb dX5_joinable_1 rfl hl (by decide) rfl (fun ls hl => ?_)
  have L2 : ∀ (n2 k2 : Nat), k2 ≤ 40 → 40 < k2 + n2 → (jbRet S = fnd (fun k => cj S (nI k)) (40 - k2) k2) → ∀ (ls : Array Slot), lv_has ls 2 [(1, .int (nI k2)), (0, .ref (g 0))] → W pg l e ({ frames := 5, cells := 0, slots := 0, locals := 122 }) s mi args below meth cd s.heap [] 0 0 (MQ below (vp_Si (fun r => r = jbRet S)) args s 0 0 (fun _ => False)) (F0 mi 2 ls []) := by
    intro n2
    induction n2 with
    | zero => intro k2 h1 h2; exact absurd h2 (by omega)
    | succ n2 ih2 =>
      intro k2 h1_2 h2_2 he ls hl
      refine lv_iload_n hx hb dX5_joinable_2 rfl (lv_at hl 0 rfl) ?_
      refine lv_bipush (v := 40) hx hb dX5_joinable_3 (by decide) ?_
      refine lv_icmp_ge (tgt := 27) hx hb dX5_joinable_5 (by decide) (fun c_5 => ?_) (fun c_5 => ?_)
      · have c_5 : ((40 : Int32) : Int32) ≤ nI k2 := c_5
        have hk_2 : k2 = 40 := z_exit (by decide) h1_2 c_5
        refine lv_bipush (v := (-9)) hx hb dX5_joinable_27 (by decide) ?_
        exact z_iret hx hb hr rfl hlocks (by rw [he, hk_2]; rfl) dX5_joinable_29
      · have c_5 : ¬ (((40 : Int32) : Int32) ≤ nI k2) := c_5
        have hk_2 : k2 < 40 := z_cont (by decide) h1_2 c_5
        refine lv_aload_n hx hb dX5_joinable_8 rfl (lv_at hl 1 rfl) ?_
        refine va_get (D := D) (ci := 5) (v := .ref (q 0)) (C := RX5) (T := TX5) (N := 2) hx hb hz inZ5 hown hK.1 hP 0 rfl rfl 0 (by decide) (hz _ q1_124) (fun _ h9 => h9) rfl dX5_joinable_9 ?_
        refine lv_iload_n hx hb dX5_joinable_12 rfl (lv_at hl 0 rfl) ?_
        refine z_ro (va_runV (As := [.int (nI k2)]) (rest := []) ⟨hx, hb, hml, hown, hz⟩ (c_X4_canJoin l D cI cQ q S (nI k2)) (zcwV 1 hz q2_123 q2_124 q2_125 q1_2 q2_126 hd_X4_canJoin (Nat.le_of_ble_eq_true rfl) (Nat.le_of_ble_eq_true rfl)) (z_pv (ci := 4) (q := (RX4, TX4, 5)) hK (zB_blk (b := zSta cI q S) hP 1 rfl) rfl rfl) rfl rfl hl.1 rfl (lv_room (Nat.le_of_ble_eq_true rfl)) dX5_joinable_13 ⟨(Nat.le_of_ble_eq_true rfl), (Nat.le_of_ble_eq_true rfl)⟩) ?_
        refine lv_if_eq (tgt := 21) hx hb dX5_joinable_16 (by decide) (fun c_16 => ?_) (fun c_16 => ?_)
        · have c_16 : (cj S (nI k2)) = false := bI_f c_16
          refine lv_iinc (v := (nI k2) + 1) (lv' := [(1, .int ((nI k2) + 1)), (0, .ref (g 0))]) hx hb dX5_joinable_21 hl (k := 0) rfl rfl (by decide) rfl (fun ls hl => ?_)
          refine lv_goto (tgt := 2) hx hb dX5_joinable_24 (by decide) ?_
          have e2_1 : (nI (k2 + 1) : Int32) = (nI k2) + 1 := (nI_1 _).symm
          exact ih2 (k2 + 1) (by omega) (by omega) (he.trans (fnd_no hk_2 c_16)) _ (by (try rw [e2_1]); exact lv_sub hl [0, 1] rfl)
        · have c_16 : (cj S (nI k2)) = true := bI_t c_16
          refine lv_iload_n hx hb dX5_joinable_19 rfl (lv_at hl 0 rfl) ?_
          exact z_iret hx hb hr rfl hlocks (by exact (he.trans (fnd_yes hk_2 c_16)).symm) dX5_joinable_20
  have e2_1 : (nI 0 : Int32) = (0 : Int32) := rfl
  exact L2 (40 + 1) (0) (Nat.zero_le _) (by omega) (rfl) _ (by (try rw [e2_1]); exact lv_sub hl [0, 1] rfl)
