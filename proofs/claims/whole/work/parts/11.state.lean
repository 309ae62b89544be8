theorem hd_X4_parishAround : yX4_parishAround.cls ≠ "java/lang/invoke/MethodHandle" ∧ yX4_parishAround.cls ≠ "java/lang/invoke/VarHandle" ∧ (parseMethodDescriptor yX4_parishAround.desc).map (fun d => d.parameters.length) = some 1 := by decide +kernel
theorem hd_X4_addPoint : yX4_addPoint.cls ≠ "java/lang/invoke/MethodHandle" ∧ yX4_addPoint.cls ≠ "java/lang/invoke/VarHandle" ∧ (parseMethodDescriptor yX4_addPoint.desc).map (fun d => d.parameters.length) = some 3 := by decide +kernel
theorem hd_X4_movePoint : yX4_movePoint.cls ≠ "java/lang/invoke/MethodHandle" ∧ yX4_movePoint.cls ≠ "java/lang/invoke/VarHandle" ∧ (parseMethodDescriptor yX4_movePoint.desc).map (fun d => d.parameters.length) = some 3 := by decide +kernel
theorem hd_X4_pointsIn : yX4_pointsIn.cls ≠ "java/lang/invoke/MethodHandle" ∧ yX4_pointsIn.cls ≠ "java/lang/invoke/VarHandle" ∧ (parseMethodDescriptor yX4_pointsIn.desc).map (fun d => d.parameters.length) = some 1 := by decide +kernel
theorem hd_X4_pointsWithLordElsewhere : yX4_pointsWithLordElsewhere.cls ≠ "java/lang/invoke/MethodHandle" ∧ yX4_pointsWithLordElsewhere.cls ≠ "java/lang/invoke/VarHandle" ∧ (parseMethodDescriptor yX4_pointsWithLordElsewhere.desc).map (fun d => d.parameters.length) = some 0 := by decide +kernel
theorem hd_X4_firstToSplit : yX4_firstToSplit.cls ≠ "java/lang/invoke/MethodHandle" ∧ yX4_firstToSplit.cls ≠ "java/lang/invoke/VarHandle" ∧ (parseMethodDescriptor yX4_firstToSplit.desc).map (fun d => d.parameters.length) = some 0 := by decide +kernel
theorem hd_X4_fullestQuarter : yX4_fullestQuarter.cls ≠ "java/lang/invoke/MethodHandle" ∧ yX4_fullestQuarter.cls ≠ "java/lang/invoke/VarHandle" ∧ (parseMethodDescriptor yX4_fullestQuarter.desc).map (fun d => d.parameters.length) = some 3 := by decide +kernel
theorem hd_X4_titheOf : yX4_titheOf.cls ≠ "java/lang/invoke/MethodHandle" ∧ yX4_titheOf.cls ≠ "java/lang/invoke/VarHandle" ∧ (parseMethodDescriptor yX4_titheOf.desc).map (fun d => d.parameters.length) = some 1 := by decide +kernel
theorem hd_X4_foundIn : yX4_foundIn.cls ≠ "java/lang/invoke/MethodHandle" ∧ yX4_foundIn.cls ≠ "java/lang/invoke/VarHandle" ∧ (parseMethodDescriptor yX4_foundIn.desc).map (fun d => d.parameters.length) = some 4 := by decide +kernel
theorem hd_X4_splitCell : yX4_splitCell.cls ≠ "java/lang/invoke/MethodHandle" ∧ yX4_splitCell.cls ≠ "java/lang/invoke/VarHandle" ∧ (parseMethodDescriptor yX4_splitCell.desc).map (fun d => d.parameters.length) = some 1 := by decide +kernel
theorem hd_X4_splitCrowded : yX4_splitCrowded.cls ≠ "java/lang/invoke/MethodHandle" ∧ yX4_splitCrowded.cls ≠ "java/lang/invoke/VarHandle" ∧ (parseMethodDescriptor yX4_splitCrowded.desc).map (fun d => d.parameters.length) = some 0 := by decide +kernel
theorem hd_X4_payTithes : yX4_payTithes.cls ≠ "java/lang/invoke/MethodHandle" ∧ yX4_payTithes.cls ≠ "java/lang/invoke/VarHandle" ∧ (parseMethodDescriptor yX4_payTithes.desc).map (fun d => d.parameters.length) = some 1 := by decide +kernel
theorem hd_X4_payablePoints : yX4_payablePoints.cls ≠ "java/lang/invoke/MethodHandle" ∧ yX4_payablePoints.cls ≠ "java/lang/invoke/VarHandle" ∧ (parseMethodDescriptor yX4_payablePoints.desc).map (fun d => d.parameters.length) = some 1 := by decide +kernel
theorem hd_X4_leftAround : yX4_leftAround.cls ≠ "java/lang/invoke/MethodHandle" ∧ yX4_leftAround.cls ≠ "java/lang/invoke/VarHandle" ∧ (parseMethodDescriptor yX4_leftAround.desc).map (fun d => d.parameters.length) = some 1 := by decide +kernel
theorem hd_X4_topAround : yX4_topAround.cls ≠ "java/lang/invoke/MethodHandle" ∧ yX4_topAround.cls ≠ "java/lang/invoke/VarHandle" ∧ (parseMethodDescriptor yX4_topAround.desc).map (fun d => d.parameters.length) = some 1 := by decide +kernel
theorem hd_X4_parishOfQuarter : yX4_parishOfQuarter.cls ≠ "java/lang/invoke/MethodHandle" ∧ yX4_parishOfQuarter.cls ≠ "java/lang/invoke/VarHandle" ∧ (parseMethodDescriptor yX4_parishOfQuarter.desc).map (fun d => d.parameters.length) = some 4 := by decide +kernel
theorem hd_X4_canJoin : yX4_canJoin.cls ≠ "java/lang/invoke/MethodHandle" ∧ yX4_canJoin.cls ≠ "java/lang/invoke/VarHandle" ∧ (parseMethodDescriptor yX4_canJoin.desc).map (fun d => d.parameters.length) = some 1 := by decide +kernel
theorem hd_X4_absorb : yX4_absorb.cls ≠ "java/lang/invoke/MethodHandle" ∧ yX4_absorb.cls ≠ "java/lang/invoke/VarHandle" ∧ (parseMethodDescriptor yX4_absorb.desc).map (fun d => d.parameters.length) = some 2 := by decide +kernel
theorem hd_X4_joinQuarters : yX4_joinQuarters.cls ≠ "java/lang/invoke/MethodHandle" ∧ yX4_joinQuarters.cls ≠ "java/lang/invoke/VarHandle" ∧ (parseMethodDescriptor yX4_joinQuarters.desc).map (fun d => d.parameters.length) = some 1 := by decide +kernel
set_option maxHeartbeats 1000000 in
set_option maxRecDepth 100000 in
theorem c_X4_parishAround (l : Launch) (D : va_G) (cI cQ : ClassId) (q : Nat → Nat) (S : CS) (i : Int32) : zRO l yX4_parishAround (Cond.code yX4_parishAround cX4_parishAround 2 (some .int) :: zT) 3 70 [.ref (q 0), .int i] D cI cQ (zSta cI q S) (aAr S i) := by
  refine zRO.of (cc := cX4_parishAround) (maxL := 2) (ret := some .int) (by decide +kernel) rfl (Nat.le_of_ble_eq_true rfl) ?_
  intro pg e s mi args below meth cd hx hb hr hts hown hlocks hml hP hK ls hl
  have hz : ∀ w ∈ zT, w.before args s = true := fun w h => hts w (List.mem_cons_of_mem _ h)
  have hl : lv_has ls 2 [(0, .ref (q 0)), (1, .int (i))] := hl
  refine lv_aload_n hx hb dX4_parishAround_0 rfl (lv_at hl 0 rfl) ?_
  refine va_get (D := D) (ci := 4) (v := .ref (q 6)) (C := RX4) (T := TX4) (N := 5) hx hb hz inZ4 hown hK.1 hP 0 rfl rfl 3 (by decide) (hz _ q1_93) (fun _ h9 => h9) rfl dX4_parishAround_1 ?_
  refine lv_aload_n hx hb dX4_parishAround_4 rfl (lv_at hl 0 rfl) ?_
  refine va_get (D := D) (ci := 4) (v := .ref (q 1)) (C := RX4) (T := TX4) (N := 5) hx hb hz inZ4 hown hK.1 hP 0 rfl rfl 2 (by decide) (hz _ q1_91) (fun _ h9 => h9) rfl dX4_parishAround_5 ?_
  refine lv_iload_n hx hb dX4_parishAround_8 rfl (lv_at hl 1 rfl) ?_
  refine z_ro (va_runV (As := [.int (i)]) (rest := [.ref (q 6)]) ⟨hx, hb, hml, hown, hz⟩ (c_X3_xOf l D cI cQ q S i) (zcwV 1 hz q2_73 q2_74 q2_75 q1_3 q2_76 hd_X3_xOf (Nat.le_of_ble_eq_true rfl) (Nat.le_of_ble_eq_true rfl)) (z_pv (ci := 3) (q := (RX3, TX3, 5)) hK (hP.sub (ws' := zPts cI q S) [1, 2, 3, 4, 5] rfl) rfl rfl) rfl rfl hl.1 rfl (lv_room (Nat.le_of_ble_eq_true rfl)) dX4_parishAround_9 ⟨(Nat.le_of_ble_eq_true rfl), (Nat.le_of_ble_eq_true rfl)⟩) ?_
  refine lv_aload_n hx hb dX4_parishAround_12 rfl (lv_at hl 0 rfl) ?_
  refine va_get (D := D) (ci := 4) (v := .ref (q 1)) (C := RX4) (T := TX4) (N := 5) hx hb hz inZ4 hown hK.1 hP 0 rfl rfl 2 (by decide) (hz _ q1_91) (fun _ h9 => h9) rfl dX4_parishAround_13 ?_
  refine lv_iload_n hx hb dX4_parishAround_16 rfl (lv_at hl 1 rfl) ?_
  refine z_ro (va_runV (As := [.int (i)]) (rest := [.int (pXof S i), .ref (q 6)]) ⟨hx, hb, hml, hown, hz⟩ (c_X3_yOf l D cI cQ q S i) (zcwV 1 hz q2_77 q2_78 q2_79 q1_3 q2_80 hd_X3_yOf (Nat.le_of_ble_eq_true rfl) (Nat.le_of_ble_eq_true rfl)) (z_pv (ci := 3) (q := (RX3, TX3, 5)) hK (hP.sub (ws' := zPts cI q S) [1, 2, 3, 4, 5] rfl) rfl rfl) rfl rfl hl.1 rfl (lv_room (Nat.le_of_ble_eq_true rfl)) dX4_parishAround_17 ⟨(Nat.le_of_ble_eq_true rfl), (Nat.le_of_ble_eq_true rfl)⟩) ?_
  refine z_ro (va_runV (As := [.int (pXof S i), .int (pYof S i)]) (rest := []) ⟨hx, hb, hml, hown, hz⟩ (c_X2_parishAt l D cI cQ q S (pXof S i) (pYof S i)) (zcwV 2 hz q1_175 q1_176 q1_177 q1_4 q1_178 hd_X2_parishAt (Nat.le_of_ble_eq_true rfl) (Nat.le_of_ble_eq_true rfl)) (z_pv (ci := 2) (q := (RX2, TX2, 4)) hK (hP.sub (ws' := zPar cI q S) [6, 7, 8, 9] rfl) rfl rfl) rfl rfl hl.1 rfl (lv_room (Nat.le_of_ble_eq_true rfl)) dX4_parishAround_20 ⟨(Nat.le_of_ble_eq_true rfl), (Nat.le_of_ble_eq_true rfl)⟩) ?_
  exact z_iret hx hb hr rfl hlocks (by rfl) dX4_parishAround_23
set_option maxHeartbeats 1000000 in
set_option maxRecDepth 100000 in
theorem c_X4_addPoint (l : Launch) (D : va_G) (cI cQ : ClassId) (q : Nat → Nat) (S : CS) (x y we : Int32) (g1 : Int32) (hg1 : g1 = pAd1 S) (g2 : FI) (hg2 : g2 = pPut S (sX S) x) (g3 : FI) (hg3 : g3 = pPut S (sY S) y) (g4 : FI) (hg4 : g4 = pPut S (sW S) we) (g5 : FI) (hg5 : g5 = pPut S (sL S) (rAt S x y)) : zWR l yX4_addPoint (Cond.code yX4_addPoint cX4_addPoint 4 (some .int) :: zT) 3 70 [.ref (q 0), .int x, .int y, .int we] D cI cQ (zSta cI q S) (some (.int ((if pRoom S then sAd S else -3)))) (zSta cI q (uL (uW (uY (uX (uAd S g1) g2) g3) g4) g5)) := by
  refine zWR.of (cc := cX4_addPoint) (maxL := 4) (ret := some .int) (by decide +kernel) rfl (Nat.le_of_ble_eq_true rfl) ?_
  intro pg e s mi args below meth cd hx hb hr hts hown hlocks hml hP hD hS hK ls hl
  have hz : ∀ w ∈ zT, w.before args s = true := fun w h => hts w (List.mem_cons_of_mem _ h)
  have hl : lv_has ls 4 [(0, .ref (q 0)), (1, .int (x)), (2, .int (y)), (3, .int (we))] := hl
  refine lv_aload_n hx hb dX4_addPoint_0 rfl (lv_at hl 0 rfl) ?_
  refine va_get (D := D) (ci := 4) (v := .ref (q 1)) (C := RX4) (T := TX4) (N := 5) hx hb hz inZ4 hown hK.1 hP 0 rfl rfl 2 (by decide) (hz _ q1_91) (fun _ h9 => h9) rfl dX4_addPoint_1 ?_
  refine lv_iload_n hx hb dX4_addPoint_4 rfl (lv_at hl 1 rfl) ?_
  refine lv_iload_n hx hb dX4_addPoint_5 rfl (lv_at hl 2 rfl) ?_
  refine lv_iload_n hx hb dX4_addPoint_6 rfl (lv_at hl 3 rfl) ?_
  refine lv_aload_n hx hb dX4_addPoint_7 rfl (lv_at hl 0 rfl) ?_
  refine va_get (D := D) (ci := 4) (v := .ref (q 6)) (C := RX4) (T := TX4) (N := 5) hx hb hz inZ4 hown hK.1 hP 0 rfl rfl 3 (by decide) (hz _ q1_93) (fun _ h9 => h9) rfl dX4_addPoint_8 ?_
  refine lv_iload_n hx hb dX4_addPoint_11 rfl (lv_at hl 1 rfl) ?_
  refine lv_iload_n hx hb dX4_addPoint_12 rfl (lv_at hl 2 rfl) ?_
  refine z_ro (va_runV (As := [.int (x), .int (y)]) (rest := [.int (we), .int (y), .int (x), .ref (q 1)]) ⟨hx, hb, hml, hown, hz⟩ (c_X2_parishAt l D cI cQ q S x y) (zcwV 2 hz q1_175 q1_176 q1_177 q1_4 q1_178 hd_X2_parishAt (Nat.le_of_ble_eq_true rfl) (Nat.le_of_ble_eq_true rfl)) (z_pv (ci := 2) (q := (RX2, TX2, 4)) hK (hP.sub (ws' := zPar cI q S) [6, 7, 8, 9] rfl) rfl rfl) rfl rfl hl.1 rfl (lv_room (Nat.le_of_ble_eq_true rfl)) dX4_addPoint_13 ⟨(Nat.le_of_ble_eq_true rfl), (Nat.le_of_ble_eq_true rfl)⟩) ?_
  obtain ⟨g_1, hg_1⟩ : ∃ z : Int32, z = pAd1 S := ⟨_, rfl⟩
  obtain ⟨g_2, hg_2⟩ : ∃ z : FI, z = pPut S ((sX S)) x := ⟨_, rfl⟩
  obtain ⟨g_3, hg_3⟩ : ∃ z : FI, z = pPut S ((sY S)) y := ⟨_, rfl⟩
  obtain ⟨g_4, hg_4⟩ : ∃ z : FI, z = pPut S ((sW S)) we := ⟨_, rfl⟩
  obtain ⟨g_5, hg_5⟩ : ∃ z : FI, z = pPut S ((sL S)) (rAt S x y) := ⟨_, rfl⟩
  refine z_wi (X' := zSta cI q (uL (uW (uY (uX (uAd S g_1) g_2) g_3) g_4) g_5)) (va_runV (As := [.int (x), .int (y), .int (we), .int (rAt S x y)]) (rest := []) ⟨hx, hb, hml, hown, hz⟩ (c_X3_place l D cI cQ q S x y we (rAt S x y) g_1 hg_1 g_2 hg_2 g_3 hg_3 g_4 hg_4 g_5 hg_5) (zcwV 4 hz q1_190 q1_191 q1_192 q1_3 q1_193 hd_X3_place (Nat.le_of_ble_eq_true rfl) (Nat.le_of_ble_eq_true rfl)) (z_pvw (ci := 3) (q := (RX3, TX3, 5)) hK (hP.sub (ws' := zPts cI q S) [1, 2, 3, 4, 5] rfl) (hD.sub (ws' := zPts cI q S) [1, 2, 3, 4, 5] (by decide) rfl) rfl rfl) rfl rfl hl.1 rfl (lv_room (Nat.le_of_ble_eq_true rfl)) dX4_addPoint_16 ⟨(Nat.le_of_ble_eq_true rfl), (Nat.le_of_ble_eq_true rfl)⟩) hP hD hS [1, 2, 3, 4, 5] rfl rfl rfl (fun H locs hP hD hS => ?_)
  exact z_wiret hx hb hr rfl hlocks hP hS (by (try simp only [hg_5, hg_4, hg_3, hg_2, hg_1, hg1, hg2, hg3, hg4, hg5]) <;> (rfl)) (congrArg (fun T => zSta cI q T) (show uL (uW (uY (uX (uAd S g_1) g_2) g_3) g_4) g_5 = uL (uW (uY (uX (uAd S g1) g2) g3) g4) g5 from by (try simp only [hg_5, hg_4, hg_3, hg_2, hg_1, hg1, hg2, hg3, hg4, hg5]) <;> (rfl))) dX4_addPoint_19
set_option maxHeartbeats 1000000 in
set_option maxRecDepth 100000 in
theorem c_X4_movePoint (l : Launch) (D : va_G) (cI cQ : ClassId) (q : Nat → Nat) (S : CS) (i nx ny : Int32) (g1 : FI) (hg1 : g1 = pSetAt S (sX S) i nx) (g2 : FI) (hg2 : g2 = pSetAt S (sY S) i ny) (g3 : FI) (hg3 : g3 = mvL S i nx ny) : zWR l yX4_movePoint (Cond.code yX4_movePoint cX4_movePoint 6 (some .boolean) :: zT) 4 91 [.ref (q 0), .int i, .int nx, .int ny] D cI cQ (zSta cI q S) (some (.int (bI (mvR S i nx ny)))) (zSta cI q (uL (uY (uX S g1) g2) g3)) := by
  refine zWR.of (cc := cX4_movePoint) (maxL := 6) (ret := some .boolean) (by decide +kernel) rfl (Nat.le_of_ble_eq_true rfl) ?_
  intro pg e s mi args below meth cd hx hb hr hts hown hlocks hml hP hD hS hK ls hl
  have hz : ∀ w ∈ zT, w.before args s = true := fun w h => hts w (List.mem_cons_of_mem _ h)
  have hl : lv_has ls 6 [(0, .ref (q 0)), (1, .int (i)), (2, .int (nx)), (3, .int (ny))] := hl
  refine lv_aload_n hx hb dX4_movePoint_0 rfl (lv_at hl 0 rfl) ?_
  refine va_get (D := D) (ci := 4) (v := .ref (q 1)) (C := RX4) (T := TX4) (N := 5) hx hb hz inZ4 hown hK.1 hP 0 rfl rfl 2 (by decide) (hz _ q1_91) (fun _ h9 => h9) rfl dX4_movePoint_1 ?_
  refine lv_iload_n hx hb dX4_movePoint_4 rfl (lv_at hl 1 rfl) ?_
  refine z_ro (va_runV (As := [.int (i)]) (rest := []) ⟨hx, hb, hml, hown, hz⟩ (c_X3_lordOf l D cI cQ q S i) (zcwV 1 hz q2_65 q2_66 q2_67 q1_3 q2_68 hd_X3_lordOf (Nat.le_of_ble_eq_true rfl) (Nat.le_of_ble_eq_true rfl)) (z_pv (ci := 3) (q := (RX3, TX3, 5)) hK (hP.sub (ws' := zPts cI q S) [1, 2, 3, 4, 5] rfl) rfl rfl) rfl rfl hl.1 rfl (lv_room (Nat.le_of_ble_eq_true rfl)) dX4_movePoint_5 ⟨(Nat.le_of_ble_eq_true rfl), (Nat.le_of_ble_eq_true rfl)⟩) ?_
  refine lv_istore (lv' := [(4, .int (pLof S i)), (0, .ref (q 0)), (1, .int (i)), (2, .int (nx)), (3, .int (ny))]) hx hb dX4_movePoint_8 hl (by decide) rfl (fun ls hl => ?_)
  refine lv_iload hx hb dX4_movePoint_10 (lv_at hl 0 rfl) ?_
  refine lv_aload_n hx hb dX4_movePoint_12 rfl (lv_at hl 1 rfl) ?_
  refine lv_iload_n hx hb dX4_movePoint_13 rfl (lv_at hl 2 rfl) ?_
  refine z_ro (va_runV (As := [.int (i)]) (rest := [.int (pLof S i)]) ⟨hx, hb, hml, hown, hz⟩ (c_X4_parishAround l D cI cQ q S i) (zcwV 1 hz q2_69 q2_70 q2_71 q1_2 q2_72 hd_X4_parishAround (Nat.le_of_ble_eq_true rfl) (Nat.le_of_ble_eq_true rfl)) (z_pv (ci := 4) (q := (RX4, TX4, 5)) hK hP rfl rfl) rfl rfl hl.1 rfl (lv_room (Nat.le_of_ble_eq_true rfl)) dX4_movePoint_14 ⟨(Nat.le_of_ble_eq_true rfl), (Nat.le_of_ble_eq_true rfl)⟩) ?_
  refine lv_icmp_ne (tgt := 24) hx hb dX4_movePoint_17 (by decide) (fun c_17 => ?_) (fun c_17 => ?_)
  · have c_17 : ¬ ((pLof S i : Int32) = aAr S i) := c_17
    refine lv_iconst (v := 0) hx hb dX4_movePoint_24 (by decide) ?_
    refine lv_istore (lv' := [(5, .int (0 : Int32)), (4, .int (pLof S i)), (0, .ref (q 0)), (1, .int (i)), (2, .int (nx)), (3, .int (ny))]) hx hb dX4_movePoint_25 hl (by decide) rfl (fun ls hl => ?_)
    refine lv_aload_n hx hb dX4_movePoint_27 rfl (lv_at hl 2 rfl) ?_
    refine va_get (D := D) (ci := 4) (v := .ref (q 1)) (C := RX4) (T := TX4) (N := 5) hx hb hz inZ4 hown hK.1 hP 0 rfl rfl 2 (by decide) (hz _ q1_91) (fun _ h9 => h9) rfl dX4_movePoint_28 ?_
    refine lv_iload_n hx hb dX4_movePoint_31 rfl (lv_at hl 3 rfl) ?_
    refine lv_iload_n hx hb dX4_movePoint_32 rfl (lv_at hl 4 rfl) ?_
    refine lv_iload_n hx hb dX4_movePoint_33 rfl (lv_at hl 5 rfl) ?_
    obtain ⟨g_1, hg_1⟩ : ∃ z : FI, z = pSetAt S ((sX S)) i nx := ⟨_, rfl⟩
    obtain ⟨g_2, hg_2⟩ : ∃ z : FI, z = pSetAt S ((sY S)) i ny := ⟨_, rfl⟩
    refine z_wv (X' := zSta cI q (uY (uX S g_1) g_2)) (va_runV (As := [.int (i), .int (nx), .int (ny)]) (rest := []) ⟨hx, hb, hml, hown, hz⟩ (c_X3_shift l D cI cQ q S i nx ny g_1 hg_1 g_2 hg_2) (zcwV 3 hz q2_81 q2_82 q2_83 q1_3 q2_84 hd_X3_shift (Nat.le_of_ble_eq_true rfl) (Nat.le_of_ble_eq_true rfl)) (z_pvw (ci := 3) (q := (RX3, TX3, 5)) hK (hP.sub (ws' := zPts cI q S) [1, 2, 3, 4, 5] rfl) (hD.sub (ws' := zPts cI q S) [1, 2, 3, 4, 5] (by decide) rfl) rfl rfl) rfl rfl hl.1 rfl (lv_room (Nat.le_of_ble_eq_true rfl)) dX4_movePoint_34 ⟨(Nat.le_of_ble_eq_true rfl), (Nat.le_of_ble_eq_true rfl)⟩) hP hD hS [1, 2, 3, 4, 5] rfl rfl rfl (fun H locs hP hD hS => ?_)
    refine lv_iload hx hb dX4_movePoint_37 (lv_at hl 0 rfl) ?_
    refine lv_if_eq (tgt := 55) hx hb dX4_movePoint_39 (by decide) (fun _ => ?_) (fun c_ => absurd (by decide) c_)
    refine lv_aload_n hx hb dX4_movePoint_55 rfl (lv_at hl 2 rfl) ?_
    refine va_get (D := D) (ci := 4) (v := .ref (q 1)) (C := RX4) (T := TX4) (N := 5) hx hb hz inZ4 hown hK.1 hP 0 rfl rfl 2 (by decide) (hz _ q1_91) (fun _ h9 => h9) rfl dX4_movePoint_56 ?_
    refine lv_iload_n hx hb dX4_movePoint_59 rfl (lv_at hl 3 rfl) ?_
    refine z_ro (va_runV (As := [.int (i)]) (rest := []) ⟨hx, hb, hml, hown, hz⟩ (c_X3_lordOf l D cI cQ q (uY (uX S g_1) g_2) i) (zcwV 1 hz q2_65 q2_66 q2_67 q1_3 q2_68 hd_X3_lordOf (Nat.le_of_ble_eq_true rfl) (Nat.le_of_ble_eq_true rfl)) (z_pv (ci := 3) (q := (RX3, TX3, 5)) hK (hP.sub (ws' := zPts cI q (uY (uX S g_1) g_2)) [1, 2, 3, 4, 5] rfl) rfl rfl) rfl rfl hl.1 rfl (lv_room (Nat.le_of_ble_eq_true rfl)) dX4_movePoint_60 ⟨(Nat.le_of_ble_eq_true rfl), (Nat.le_of_ble_eq_true rfl)⟩) ?_
    refine lv_iload hx hb dX4_movePoint_63 (lv_at hl 1 rfl) ?_
    refine lv_icmp_eq (tgt := 72) hx hb dX4_movePoint_65 (by decide) (fun c_65 => ?_) (fun c_65 => ?_)
    · have c_65 : (pLof S i : Int32) = pLof S i := c_65
      refine lv_iconst (v := 0) hx hb dX4_movePoint_72 (by decide) ?_
      exact z_wiret hx hb hr rfl hlocks hP hS (by subst hg_2; subst hg_1; subst hg1; subst hg2; subst hg3; simp [mvR, mvL, bI, c_17, uL_self] <;> simp_all) (congrArg (fun T => zSta cI q T) (show uY (uX S g_1) g_2 = uL (uY (uX S g1) g2) g3 from by subst hg_2; subst hg_1; subst hg1; subst hg2; subst hg3; simp [mvL, c_17, uL_self])) dX4_movePoint_73
    · have c_65 : ¬ ((pLof S i : Int32) = pLof S i) := c_65
      refine lv_iconst (v := 1) hx hb dX4_movePoint_68 (by decide) ?_
      refine lv_goto (tgt := 73) hx hb dX4_movePoint_69 (by decide) ?_
      exact z_wiret hx hb hr rfl hlocks hP hS (by subst hg_2; subst hg_1; subst hg1; subst hg2; subst hg3; simp [mvR, mvL, bI, c_17, uL_self] <;> simp_all) (congrArg (fun T => zSta cI q T) (show uY (uX S g_1) g_2 = uL (uY (uX S g1) g2) g3 from by subst hg_2; subst hg_1; subst hg1; subst hg2; subst hg3; simp [mvL, c_17, uL_self])) dX4_movePoint_73
  · have c_17 : (pLof S i : Int32) = aAr S i := c_17
    refine lv_iconst (v := 1) hx hb dX4_movePoint_20 (by decide) ?_
    refine lv_goto (tgt := 25) hx hb dX4_movePoint_21 (by decide) ?_
    refine lv_istore (lv' := [(5, .int (1 : Int32)), (4, .int (pLof S i)), (0, .ref (q 0)), (1, .int (i)), (2, .int (nx)), (3, .int (ny))]) hx hb dX4_movePoint_25 hl (by decide) rfl (fun ls hl => ?_)
    refine lv_aload_n hx hb dX4_movePoint_27 rfl (lv_at hl 2 rfl) ?_
    refine va_get (D := D) (ci := 4) (v := .ref (q 1)) (C := RX4) (T := TX4) (N := 5) hx hb hz inZ4 hown hK.1 hP 0 rfl rfl 2 (by decide) (hz _ q1_91) (fun _ h9 => h9) rfl dX4_movePoint_28 ?_
    refine lv_iload_n hx hb dX4_movePoint_31 rfl (lv_at hl 3 rfl) ?_
    refine lv_iload_n hx hb dX4_movePoint_32 rfl (lv_at hl 4 rfl) ?_
    refine lv_iload_n hx hb dX4_movePoint_33 rfl (lv_at hl 5 rfl) ?_
    obtain ⟨g_3, hg_3⟩ : ∃ z : FI, z = pSetAt S ((sX S)) i nx := ⟨_, rfl⟩
    obtain ⟨g_4, hg_4⟩ : ∃ z : FI, z = pSetAt S ((sY S)) i ny := ⟨_, rfl⟩
    refine z_wv (X' := zSta cI q (uY (uX S g_3) g_4)) (va_runV (As := [.int (i), .int (nx), .int (ny)]) (rest := []) ⟨hx, hb, hml, hown, hz⟩ (c_X3_shift l D cI cQ q S i nx ny g_3 hg_3 g_4 hg_4) (zcwV 3 hz q2_81 q2_82 q2_83 q1_3 q2_84 hd_X3_shift (Nat.le_of_ble_eq_true rfl) (Nat.le_of_ble_eq_true rfl)) (z_pvw (ci := 3) (q := (RX3, TX3, 5)) hK (hP.sub (ws' := zPts cI q S) [1, 2, 3, 4, 5] rfl) (hD.sub (ws' := zPts cI q S) [1, 2, 3, 4, 5] (by decide) rfl) rfl rfl) rfl rfl hl.1 rfl (lv_room (Nat.le_of_ble_eq_true rfl)) dX4_movePoint_34 ⟨(Nat.le_of_ble_eq_true rfl), (Nat.le_of_ble_eq_true rfl)⟩) hP hD hS [1, 2, 3, 4, 5] rfl rfl rfl (fun H locs hP hD hS => ?_)
    refine lv_iload hx hb dX4_movePoint_37 (lv_at hl 0 rfl) ?_
    refine lv_if_eq (tgt := 55) hx hb dX4_movePoint_39 (by decide) (fun c_ => absurd c_ (by decide)) (fun _ => ?_)
    refine lv_aload_n hx hb dX4_movePoint_42 rfl (lv_at hl 2 rfl) ?_
    refine va_get (D := D) (ci := 4) (v := .ref (q 1)) (C := RX4) (T := TX4) (N := 5) hx hb hz inZ4 hown hK.1 hP 0 rfl rfl 2 (by decide) (hz _ q1_91) (fun _ h9 => h9) rfl dX4_movePoint_43 ?_
    refine lv_iload_n hx hb dX4_movePoint_46 rfl (lv_at hl 3 rfl) ?_
    refine lv_aload_n hx hb dX4_movePoint_47 rfl (lv_at hl 2 rfl) ?_
    refine lv_iload_n hx hb dX4_movePoint_48 rfl (lv_at hl 3 rfl) ?_
    refine z_ro (va_runV (As := [.int (i)]) (rest := [.int (i), .ref (q 1)]) ⟨hx, hb, hml, hown, hz⟩ (c_X4_parishAround l D cI cQ q (uY (uX S g_3) g_4) i) (zcwV 1 hz q2_69 q2_70 q2_71 q1_2 q2_72 hd_X4_parishAround (Nat.le_of_ble_eq_true rfl) (Nat.le_of_ble_eq_true rfl)) (z_pv (ci := 4) (q := (RX4, TX4, 5)) hK hP rfl rfl) rfl rfl hl.1 rfl (lv_room (Nat.le_of_ble_eq_true rfl)) dX4_movePoint_49 ⟨(Nat.le_of_ble_eq_true rfl), (Nat.le_of_ble_eq_true rfl)⟩) ?_
    obtain ⟨g_5, hg_5⟩ : ∃ z : FI, z = pSetAt S ((sL S)) i (aAr (uY (uX S g_3) g_4) i) := ⟨_, rfl⟩
    refine z_wv (X' := zSta cI q (uL (uY (uX S g_3) g_4) g_5)) (va_runV (As := [.int (i), .int (aAr (uY (uX S g_3) g_4) i)]) (rest := []) ⟨hx, hb, hml, hown, hz⟩ (c_X3_setLord l D cI cQ q (uY (uX S g_3) g_4) i (aAr (uY (uX S g_3) g_4) i) g_5 hg_5) (zcwV 2 hz q2_85 q2_86 q2_87 q1_3 q2_88 hd_X3_setLord (Nat.le_of_ble_eq_true rfl) (Nat.le_of_ble_eq_true rfl)) (z_pvw (ci := 3) (q := (RX3, TX3, 5)) hK (hP.sub (ws' := zPts cI q (uY (uX S g_3) g_4)) [1, 2, 3, 4, 5] rfl) (hD.sub (ws' := zPts cI q (uY (uX S g_3) g_4)) [1, 2, 3, 4, 5] (by decide) rfl) rfl rfl) rfl rfl hl.1 rfl (lv_room (Nat.le_of_ble_eq_true rfl)) dX4_movePoint_52 ⟨(Nat.le_of_ble_eq_true rfl), (Nat.le_of_ble_eq_true rfl)⟩) hP hD hS [1, 2, 3, 4, 5] rfl rfl rfl (fun H locs hP hD hS => ?_)
    refine lv_aload_n hx hb dX4_movePoint_55 rfl (lv_at hl 2 rfl) ?_
    refine va_get (D := D) (ci := 4) (v := .ref (q 1)) (C := RX4) (T := TX4) (N := 5) hx hb hz inZ4 hown hK.1 hP 0 rfl rfl 2 (by decide) (hz _ q1_91) (fun _ h9 => h9) rfl dX4_movePoint_56 ?_
    refine lv_iload_n hx hb dX4_movePoint_59 rfl (lv_at hl 3 rfl) ?_
    refine z_ro (va_runV (As := [.int (i)]) (rest := []) ⟨hx, hb, hml, hown, hz⟩ (c_X3_lordOf l D cI cQ q (uL (uY (uX S g_3) g_4) g_5) i) (zcwV 1 hz q2_65 q2_66 q2_67 q1_3 q2_68 hd_X3_lordOf (Nat.le_of_ble_eq_true rfl) (Nat.le_of_ble_eq_true rfl)) (z_pv (ci := 3) (q := (RX3, TX3, 5)) hK (hP.sub (ws' := zPts cI q (uL (uY (uX S g_3) g_4) g_5)) [1, 2, 3, 4, 5] rfl) rfl rfl) rfl rfl hl.1 rfl (lv_room (Nat.le_of_ble_eq_true rfl)) dX4_movePoint_60 ⟨(Nat.le_of_ble_eq_true rfl), (Nat.le_of_ble_eq_true rfl)⟩) ?_
    refine lv_iload hx hb dX4_movePoint_63 (lv_at hl 1 rfl) ?_
    refine lv_icmp_eq (tgt := 72) hx hb dX4_movePoint_65 (by decide) (fun c_65 => ?_) (fun c_65 => ?_)
    · have c_65 : (pLof (uL S g_5) i : Int32) = pLof S i := c_65
      refine lv_iconst (v := 0) hx hb dX4_movePoint_72 (by decide) ?_
      exact z_wiret hx hb hr rfl hlocks hP hS (by subst hg_5; subst hg_4; subst hg_3; subst hg1; subst hg2; subst hg3; simp [mvR, mvL, bI, c_17, uL_self] <;> simp_all) (congrArg (fun T => zSta cI q T) (show uL (uY (uX S g_3) g_4) g_5 = uL (uY (uX S g1) g2) g3 from by subst hg_5; subst hg_4; subst hg_3; subst hg1; subst hg2; subst hg3; simp [mvL, c_17, uL_self])) dX4_movePoint_73
    · have c_65 : ¬ ((pLof (uL S g_5) i : Int32) = pLof S i) := c_65
      refine lv_iconst (v := 1) hx hb dX4_movePoint_68 (by decide) ?_
      refine lv_goto (tgt := 73) hx hb dX4_movePoint_69 (by decide) ?_
      exact z_wiret hx hb hr rfl hlocks hP hS (by subst hg_5; subst hg_4; subst hg_3; subst hg1; subst hg2; subst hg3; simp [mvR, mvL, bI, c_17, uL_self] <;> simp_all) (congrArg (fun T => zSta cI q T) (show uL (uY (uX S g_3) g_4) g_5 = uL (uY (uX S g1) g2) g3 from by subst hg_5; subst hg_4; subst hg_3; subst hg1; subst hg2; subst hg3; simp [mvL, c_17, uL_self])) dX4_movePoint_73
set_option maxHeartbeats 1000000 in
set_option maxRecDepth 100000 in
theorem c_X4_pointsIn (l : Launch) (D : va_G) (cI cQ : ClassId) (q : Nat → Nat) (S : CS) (i : Int32) : zRO l yX4_pointsIn (Cond.code yX4_pointsIn cX4_pointsIn 2 (some .int) :: zT) 3 73 [.ref (q 0), .int i] D cI cQ (zSta cI q S) (nIn S i) := by
  refine zRO.of (cc := cX4_pointsIn) (maxL := 2) (ret := some .int) (by decide +kernel) rfl (Nat.le_of_ble_eq_true rfl) ?_
  intro pg e s mi args below meth cd hx hb hr hts hown hlocks hml hP hK ls hl
  have hz : ∀ w ∈ zT, w.before args s = true := fun w h => hts w (List.mem_cons_of_mem _ h)
  have hl : lv_has ls 2 [(0, .ref (q 0)), (1, .int (i))] := hl
  refine lv_aload_n hx hb dX4_pointsIn_0 rfl (lv_at hl 0 rfl) ?_
  refine va_get (D := D) (ci := 4) (v := .ref (q 1)) (C := RX4) (T := TX4) (N := 5) hx hb hz inZ4 hown hK.1 hP 0 rfl rfl 2 (by decide) (hz _ q1_91) (fun _ h9 => h9) rfl dX4_pointsIn_1 ?_
  refine lv_aload_n hx hb dX4_pointsIn_4 rfl (lv_at hl 0 rfl) ?_
  refine va_get (D := D) (ci := 4) (v := .ref (q 6)) (C := RX4) (T := TX4) (N := 5) hx hb hz inZ4 hown hK.1 hP 0 rfl rfl 3 (by decide) (hz _ q1_93) (fun _ h9 => h9) rfl dX4_pointsIn_5 ?_
  refine lv_iload_n hx hb dX4_pointsIn_8 rfl (lv_at hl 1 rfl) ?_
  refine z_ro (va_runV (As := [.int (i)]) (rest := [.ref (q 1)]) ⟨hx, hb, hml, hown, hz⟩ (c_X2_leftOf l D cI cQ q S i) (zcwV 1 hz q1_216 q1_217 q1_218 q1_4 q1_219 hd_X2_leftOf (Nat.le_of_ble_eq_true rfl) (Nat.le_of_ble_eq_true rfl)) (z_pv (ci := 2) (q := (RX2, TX2, 4)) hK (hP.sub (ws' := zPar cI q S) [6, 7, 8, 9] rfl) rfl rfl) rfl rfl hl.1 rfl (lv_room (Nat.le_of_ble_eq_true rfl)) dX4_pointsIn_9 ⟨(Nat.le_of_ble_eq_true rfl), (Nat.le_of_ble_eq_true rfl)⟩) ?_
  refine lv_aload_n hx hb dX4_pointsIn_12 rfl (lv_at hl 0 rfl) ?_
  refine va_get (D := D) (ci := 4) (v := .ref (q 6)) (C := RX4) (T := TX4) (N := 5) hx hb hz inZ4 hown hK.1 hP 0 rfl rfl 3 (by decide) (hz _ q1_93) (fun _ h9 => h9) rfl dX4_pointsIn_13 ?_
  refine lv_iload_n hx hb dX4_pointsIn_16 rfl (lv_at hl 1 rfl) ?_
  refine z_ro (va_runV (As := [.int (i)]) (rest := [.int (rLe S i), .ref (q 1)]) ⟨hx, hb, hml, hown, hz⟩ (c_X2_topOf l D cI cQ q S i) (zcwV 1 hz q1_220 q1_221 q1_222 q1_4 q1_223 hd_X2_topOf (Nat.le_of_ble_eq_true rfl) (Nat.le_of_ble_eq_true rfl)) (z_pv (ci := 2) (q := (RX2, TX2, 4)) hK (hP.sub (ws' := zPar cI q S) [6, 7, 8, 9] rfl) rfl rfl) rfl rfl hl.1 rfl (lv_room (Nat.le_of_ble_eq_true rfl)) dX4_pointsIn_17 ⟨(Nat.le_of_ble_eq_true rfl), (Nat.le_of_ble_eq_true rfl)⟩) ?_
  refine lv_aload_n hx hb dX4_pointsIn_20 rfl (lv_at hl 0 rfl) ?_
  refine va_get (D := D) (ci := 4) (v := .ref (q 6)) (C := RX4) (T := TX4) (N := 5) hx hb hz inZ4 hown hK.1 hP 0 rfl rfl 3 (by decide) (hz _ q1_93) (fun _ h9 => h9) rfl dX4_pointsIn_21 ?_
  refine lv_iload_n hx hb dX4_pointsIn_24 rfl (lv_at hl 1 rfl) ?_
  refine z_ro (va_runV (As := [.int (i)]) (rest := [.int (rTo S i), .int (rLe S i), .ref (q 1)]) ⟨hx, hb, hml, hown, hz⟩ (c_X2_rightOf l D cI cQ q S i) (zcwV 1 hz q1_224 q1_225 q1_226 q1_4 q1_227 hd_X2_rightOf (Nat.le_of_ble_eq_true rfl) (Nat.le_of_ble_eq_true rfl)) (z_pv (ci := 2) (q := (RX2, TX2, 4)) hK (hP.sub (ws' := zPar cI q S) [6, 7, 8, 9] rfl) rfl rfl) rfl rfl hl.1 rfl (lv_room (Nat.le_of_ble_eq_true rfl)) dX4_pointsIn_25 ⟨(Nat.le_of_ble_eq_true rfl), (Nat.le_of_ble_eq_true rfl)⟩) ?_
  refine lv_aload_n hx hb dX4_pointsIn_28 rfl (lv_at hl 0 rfl) ?_
  refine va_get (D := D) (ci := 4) (v := .ref (q 6)) (C := RX4) (T := TX4) (N := 5) hx hb hz inZ4 hown hK.1 hP 0 rfl rfl 3 (by decide) (hz _ q1_93) (fun _ h9 => h9) rfl dX4_pointsIn_29 ?_
  refine lv_iload_n hx hb dX4_pointsIn_32 rfl (lv_at hl 1 rfl) ?_
  refine z_ro (va_runV (As := [.int (i)]) (rest := [.int (rRi S i), .int (rTo S i), .int (rLe S i), .ref (q 1)]) ⟨hx, hb, hml, hown, hz⟩ (c_X2_bottomOf l D cI cQ q S i) (zcwV 1 hz q1_230 q1_231 q1_232 q1_4 q1_233 hd_X2_bottomOf (Nat.le_of_ble_eq_true rfl) (Nat.le_of_ble_eq_true rfl)) (z_pv (ci := 2) (q := (RX2, TX2, 4)) hK (hP.sub (ws' := zPar cI q S) [6, 7, 8, 9] rfl) rfl rfl) rfl rfl hl.1 rfl (lv_room (Nat.le_of_ble_eq_true rfl)) dX4_pointsIn_33 ⟨(Nat.le_of_ble_eq_true rfl), (Nat.le_of_ble_eq_true rfl)⟩) ?_
  refine z_ro (va_runV (As := [.int (rLe S i), .int (rTo S i), .int (rRi S i), .int (rBo S i)]) (rest := []) ⟨hx, hb, hml, hown, hz⟩ (c_X3_numberIn l D cI cQ q S (rLe S i) (rTo S i) (rRi S i) (rBo S i)) (zcwV 4 hz q1_235 q1_236 q1_237 q1_3 q1_238 hd_X3_numberIn (Nat.le_of_ble_eq_true rfl) (Nat.le_of_ble_eq_true rfl)) (z_pv (ci := 3) (q := (RX3, TX3, 5)) hK (hP.sub (ws' := zPts cI q S) [1, 2, 3, 4, 5] rfl) rfl rfl) rfl rfl hl.1 rfl (lv_room (Nat.le_of_ble_eq_true rfl)) dX4_pointsIn_36 ⟨(Nat.le_of_ble_eq_true rfl), (Nat.le_of_ble_eq_true rfl)⟩) ?_
  exact z_iret hx hb hr rfl hlocks (by rfl) dX4_pointsIn_39
set_option maxHeartbeats 1000000 in
set_option maxRecDepth 100000 in
theorem c_X4_pointsWithLordElsewhere (l : Launch) (D : va_G) (cI cQ : ClassId) (q : Nat → Nat) (S : CS) : zRO l yX4_pointsWithLordElsewhere (Cond.code yX4_pointsWithLordElsewhere cX4_pointsWithLordElsewhere 3 (some .int) :: zT) 4 91 [.ref (q 0)] D cI cQ (zSta cI q S) (eLs S 40) := by
  refine zRO.of (cc := cX4_pointsWithLordElsewhere) (maxL := 3) (ret := some .int) (by decide +kernel) rfl (Nat.le_of_ble_eq_true rfl) ?_
  intro pg e s mi args below meth cd hx hb hr hts hown hlocks hml hP hK ls hl
  have hz : ∀ w ∈ zT, w.before args s = true := fun w h => hts w (List.mem_cons_of_mem _ h)
  have hl : lv_has ls 3 [(0, .ref (q 0))] := hl
  refine lv_iconst (v := 0) hx hb dX4_pointsWithLordElsewhere_0 (by decide) ?_
  refine lv_istore_n (lv' := [(1, .int (0 : Int32)), (0, .ref (q 0))]) hx hb dX4_pointsWithLordElsewhere_1 rfl hl (by decide) rfl (fun ls hl => ?_)
  refine lv_iconst (v := 0) hx hb dX4_pointsWithLordElsewhere_2 (by decide) ?_
  refine lv_istore_n (lv' := [(2, .int (0 : Int32)), (1, .int (0 : Int32)), (0, .ref (q 0))]) hx hb dX4_pointsWithLordElsewhere_3 rfl hl (by decide) rfl (fun ls hl => ?_)
  have L4 : ∀ (n4 k4 : Nat), k4 ≤ 40 → 40 < k4 + n4 → ∀ (ls : Array Slot), lv_has ls 3 [(2, .int (nI k4)), (1, .int (eLs S k4)), (0, .ref (q 0))] → W pg l e ({ frames := 4, cells := 0, slots := 0, locals := 91 }) s mi args below meth cd s.heap [] 0 0 (MQ below (vp_Si (fun r => r = eLs S 40)) args s 0 0 (fun _ => False)) (F0 mi 4 ls []) := by
    intro n4
    induction n4 with
    | zero => intro k4 h1 h2; exact absurd h2 (by omega)
    | succ n4 ih4 =>
      intro k4 h1_4 h2_4  ls hl
      refine lv_iload_n hx hb dX4_pointsWithLordElsewhere_4 rfl (lv_at hl 0 rfl) ?_
      refine lv_bipush (v := 40) hx hb dX4_pointsWithLordElsewhere_5 (by decide) ?_
      refine lv_icmp_ge (tgt := 46) hx hb dX4_pointsWithLordElsewhere_7 (by decide) (fun c_7 => ?_) (fun c_7 => ?_)
      · have c_7 : ((40 : Int32) : Int32) ≤ nI k4 := c_7
        have hk_4 : k4 = 40 := z_exit (by decide) h1_4 c_7
        refine lv_iload_n hx hb dX4_pointsWithLordElsewhere_46 rfl (lv_at hl 1 rfl) ?_
        exact z_iret hx hb hr rfl hlocks (by rw [hk_4]) dX4_pointsWithLordElsewhere_47
      · have c_7 : ¬ (((40 : Int32) : Int32) ≤ nI k4) := c_7
        have hk_4 : k4 < 40 := z_cont (by decide) h1_4 c_7
        refine lv_aload_n hx hb dX4_pointsWithLordElsewhere_10 rfl (lv_at hl 2 rfl) ?_
        refine va_get (D := D) (ci := 4) (v := .ref (q 1)) (C := RX4) (T := TX4) (N := 5) hx hb hz inZ4 hown hK.1 hP 0 rfl rfl 2 (by decide) (hz _ q1_91) (fun _ h9 => h9) rfl dX4_pointsWithLordElsewhere_11 ?_
        refine lv_iload_n hx hb dX4_pointsWithLordElsewhere_14 rfl (lv_at hl 0 rfl) ?_
        refine z_ro (va_runV (As := [.int (nI k4)]) (rest := []) ⟨hx, hb, hml, hown, hz⟩ (c_X3_exists l D cI cQ q S (nI k4)) (zcwV 1 hz q2_209 q2_4 q2_5 q1_3 q2_6 hd_X3_exists (Nat.le_of_ble_eq_true rfl) (Nat.le_of_ble_eq_true rfl)) (z_pv (ci := 3) (q := (RX3, TX3, 5)) hK (hP.sub (ws' := zPts cI q S) [1, 2, 3, 4, 5] rfl) rfl rfl) rfl rfl hl.1 rfl (lv_room (Nat.le_of_ble_eq_true rfl)) dX4_pointsWithLordElsewhere_15 ⟨(Nat.le_of_ble_eq_true rfl), (Nat.le_of_ble_eq_true rfl)⟩) ?_
        refine lv_if_eq (tgt := 40) hx hb dX4_pointsWithLordElsewhere_18 (by decide) (fun c_18 => ?_) (fun c_18 => ?_)
        · have c_18 : (pEx S (nI k4)) = false := bI_f c_18
          refine lv_iinc (v := (nI k4) + 1) (lv' := [(2, .int ((nI k4) + 1)), (1, .int (eLs S k4)), (0, .ref (q 0))]) hx hb dX4_pointsWithLordElsewhere_40 hl (k := 0) rfl rfl (by decide) rfl (fun ls hl => ?_)
          refine lv_goto (tgt := 4) hx hb dX4_pointsWithLordElsewhere_43 (by decide) ?_
          have e4_2 : (nI (k4 + 1) : Int32) = (nI k4) + 1 := (nI_1 _).symm
          have e4_1 : (eLs S (k4 + 1) : Int32) = eLs S k4 := (by simp [eLs, c_7, c_18])
          exact ih4 (k4 + 1) (by omega) (by omega) _ (by (try rw [e4_2]); (try rw [e4_1]); exact lv_sub hl [0, 1, 2] rfl)
        · have c_18 : (pEx S (nI k4)) = true := bI_t c_18
          refine lv_aload_n hx hb dX4_pointsWithLordElsewhere_21 rfl (lv_at hl 2 rfl) ?_
          refine va_get (D := D) (ci := 4) (v := .ref (q 1)) (C := RX4) (T := TX4) (N := 5) hx hb hz inZ4 hown hK.1 hP 0 rfl rfl 2 (by decide) (hz _ q1_91) (fun _ h9 => h9) rfl dX4_pointsWithLordElsewhere_22 ?_
          refine lv_iload_n hx hb dX4_pointsWithLordElsewhere_25 rfl (lv_at hl 0 rfl) ?_
          refine z_ro (va_runV (As := [.int (nI k4)]) (rest := []) ⟨hx, hb, hml, hown, hz⟩ (c_X3_lordOf l D cI cQ q S (nI k4)) (zcwV 1 hz q2_65 q2_66 q2_67 q1_3 q2_68 hd_X3_lordOf (Nat.le_of_ble_eq_true rfl) (Nat.le_of_ble_eq_true rfl)) (z_pv (ci := 3) (q := (RX3, TX3, 5)) hK (hP.sub (ws' := zPts cI q S) [1, 2, 3, 4, 5] rfl) rfl rfl) rfl rfl hl.1 rfl (lv_room (Nat.le_of_ble_eq_true rfl)) dX4_pointsWithLordElsewhere_26 ⟨(Nat.le_of_ble_eq_true rfl), (Nat.le_of_ble_eq_true rfl)⟩) ?_
          refine lv_aload_n hx hb dX4_pointsWithLordElsewhere_29 rfl (lv_at hl 2 rfl) ?_
          refine lv_iload_n hx hb dX4_pointsWithLordElsewhere_30 rfl (lv_at hl 0 rfl) ?_
          refine z_ro (va_runV (As := [.int (nI k4)]) (rest := [.int (pLof S (nI k4))]) ⟨hx, hb, hml, hown, hz⟩ (c_X4_parishAround l D cI cQ q S (nI k4)) (zcwV 1 hz q2_69 q2_70 q2_71 q1_2 q2_72 hd_X4_parishAround (Nat.le_of_ble_eq_true rfl) (Nat.le_of_ble_eq_true rfl)) (z_pv (ci := 4) (q := (RX4, TX4, 5)) hK hP rfl rfl) rfl rfl hl.1 rfl (lv_room (Nat.le_of_ble_eq_true rfl)) dX4_pointsWithLordElsewhere_31 ⟨(Nat.le_of_ble_eq_true rfl), (Nat.le_of_ble_eq_true rfl)⟩) ?_
          refine lv_icmp_eq (tgt := 40) hx hb dX4_pointsWithLordElsewhere_34 (by decide) (fun c_34 => ?_) (fun c_34 => ?_)
          · have c_34 : (pLof S (nI k4) : Int32) = aAr S (nI k4) := c_34
            refine lv_iinc (v := (nI k4) + 1) (lv' := [(2, .int ((nI k4) + 1)), (1, .int (eLs S k4)), (0, .ref (q 0))]) hx hb dX4_pointsWithLordElsewhere_40 hl (k := 0) rfl rfl (by decide) rfl (fun ls hl => ?_)
            refine lv_goto (tgt := 4) hx hb dX4_pointsWithLordElsewhere_43 (by decide) ?_
            have e4_2 : (nI (k4 + 1) : Int32) = (nI k4) + 1 := (nI_1 _).symm
            have e4_1 : (eLs S (k4 + 1) : Int32) = eLs S k4 := (by simp [eLs, c_7, c_18, c_34])
            exact ih4 (k4 + 1) (by omega) (by omega) _ (by (try rw [e4_2]); (try rw [e4_1]); exact lv_sub hl [0, 1, 2] rfl)
          · have c_34 : ¬ ((pLof S (nI k4) : Int32) = aAr S (nI k4)) := c_34
            refine lv_iinc (v := (eLs S k4) + 1) (lv' := [(1, .int ((eLs S k4) + 1)), (2, .int (nI k4)), (0, .ref (q 0))]) hx hb dX4_pointsWithLordElsewhere_37 hl (k := 1) rfl rfl (by decide) rfl (fun ls hl => ?_)
            refine lv_iinc (v := (nI k4) + 1) (lv' := [(2, .int ((nI k4) + 1)), (1, .int ((eLs S k4) + 1)), (0, .ref (q 0))]) hx hb dX4_pointsWithLordElsewhere_40 hl (k := 1) rfl rfl (by decide) rfl (fun ls hl => ?_)
            refine lv_goto (tgt := 4) hx hb dX4_pointsWithLordElsewhere_43 (by decide) ?_
            have e4_2 : (nI (k4 + 1) : Int32) = (nI k4) + 1 := (nI_1 _).symm
            have e4_1 : (eLs S (k4 + 1) : Int32) = (eLs S k4) + 1 := (by simp [eLs, c_7, c_18, c_34])
            exact ih4 (k4 + 1) (by omega) (by omega) _ (by (try rw [e4_2]); (try rw [e4_1]); exact lv_sub hl [0, 1, 2] rfl)
  have e4_2 : (nI 0 : Int32) = (0 : Int32) := rfl
  have e4_1 : (eLs S 0 : Int32) = (0 : Int32) := (by rfl)
  exact L4 (40 + 1) (0) (Nat.zero_le _) (by omega) _ (by (try rw [e4_2]); (try rw [e4_1]); exact lv_sub hl [0, 1, 2] rfl)
set_option maxHeartbeats 1000000 in
set_option maxRecDepth 100000 in
theorem c_X4_firstToSplit (l : Launch) (D : va_G) (cI cQ : ClassId) (q : Nat → Nat) (S : CS) : zRO l yX4_firstToSplit (Cond.code yX4_firstToSplit cX4_firstToSplit 3 (some .int) :: zT) 4 94 [.ref (q 0)] D cI cQ (zSta cI q S) (fSp S) := by
  refine zRO.of (cc := cX4_firstToSplit) (maxL := 3) (ret := some .int) (by decide +kernel) rfl (Nat.le_of_ble_eq_true rfl) ?_
  intro pg e s mi args below meth cd hx hb hr hts hown hlocks hml hP hK ls hl
  have hz : ∀ w ∈ zT, w.before args s = true := fun w h => hts w (List.mem_cons_of_mem _ h)
  have hl : lv_has ls 3 [(0, .ref (q 0))] := hl
  refine lv_aload_n hx hb dX4_firstToSplit_0 rfl (lv_at hl 0 rfl) ?_
  refine va_get (D := D) (ci := 4) (v := .ref (q 6)) (C := RX4) (T := TX4) (N := 5) hx hb hz inZ4 hown hK.1 hP 0 rfl rfl 3 (by decide) (hz _ q1_93) (fun _ h9 => h9) rfl dX4_firstToSplit_1 ?_
  refine z_ro (va_runV (As := []) (rest := []) ⟨hx, hb, hml, hown, hz⟩ (c_X2_numberFounded l D cI cQ q S) (zcwV 0 hz q1_203 q1_204 q1_205 q1_4 q1_206 hd_X2_numberFounded (Nat.le_of_ble_eq_true rfl) (Nat.le_of_ble_eq_true rfl)) (z_pv (ci := 2) (q := (RX2, TX2, 4)) hK (hP.sub (ws' := zPar cI q S) [6, 7, 8, 9] rfl) rfl rfl) rfl rfl hl.1 rfl (lv_room (Nat.le_of_ble_eq_true rfl)) dX4_firstToSplit_4 ⟨(Nat.le_of_ble_eq_true rfl), (Nat.le_of_ble_eq_true rfl)⟩) ?_
  refine lv_bipush (v := 38) hx hb dX4_firstToSplit_7 (by decide) ?_
  refine lv_icmp_lt (tgt := 15) hx hb dX4_firstToSplit_9 (by decide) (fun c_9 => ?_) (fun c_9 => ?_)
  · have c_9 : ((sFo S) : Int32) < (38 : Int32) := c_9
    refine lv_iconst (v := 0) hx hb dX4_firstToSplit_15 (by decide) ?_
    refine lv_istore_n (lv' := [(1, .int (0 : Int32)), (0, .ref (q 0))]) hx hb dX4_firstToSplit_16 rfl hl (by decide) rfl (fun ls hl => ?_)
    have L17 : ∀ (n17 k17 : Nat), k17 ≤ 40 → 40 < k17 + n17 → (fSp S = fnd (fSpB S) (40 - k17) k17) → ∀ (ls : Array Slot), lv_has ls 3 [(1, .int (nI k17)), (0, .ref (q 0))] → W pg l e ({ frames := 4, cells := 0, slots := 0, locals := 94 }) s mi args below meth cd s.heap [] 0 0 (MQ below (vp_Si (fun r => r = fSp S)) args s 0 0 (fun _ => False)) (F0 mi 17 ls []) := by
      intro n17
      induction n17 with
      | zero => intro k17 h1 h2; exact absurd h2 (by omega)
      | succ n17 ih17 =>
        intro k17 h1_17 h2_17 he ls hl
        refine lv_iload_n hx hb dX4_firstToSplit_17 rfl (lv_at hl 0 rfl) ?_
        refine lv_bipush (v := 40) hx hb dX4_firstToSplit_18 (by decide) ?_
        refine lv_icmp_ge (tgt := 76) hx hb dX4_firstToSplit_20 (by decide) (fun c_20 => ?_) (fun c_20 => ?_)
        · have c_20 : ((40 : Int32) : Int32) ≤ nI k17 := c_20
          have hk_17 : k17 = 40 := z_exit (by decide) h1_17 c_20
          refine lv_bipush (v := (-9)) hx hb dX4_firstToSplit_76 (by decide) ?_
          exact z_iret hx hb hr rfl hlocks (by rw [he, hk_17]; rfl) dX4_firstToSplit_78
        · have c_20 : ¬ (((40 : Int32) : Int32) ≤ nI k17) := c_20
          have hk_17 : k17 < 40 := z_cont (by decide) h1_17 c_20
          refine lv_aload_n hx hb dX4_firstToSplit_23 rfl (lv_at hl 1 rfl) ?_
          refine va_get (D := D) (ci := 4) (v := .ref (q 6)) (C := RX4) (T := TX4) (N := 5) hx hb hz inZ4 hown hK.1 hP 0 rfl rfl 3 (by decide) (hz _ q1_93) (fun _ h9 => h9) rfl dX4_firstToSplit_24 ?_
          refine lv_iload_n hx hb dX4_firstToSplit_27 rfl (lv_at hl 0 rfl) ?_
          refine z_ro (va_runV (As := [.int (nI k17)]) (rest := []) ⟨hx, hb, hml, hown, hz⟩ (c_X2_exists l D cI cQ q S (nI k17)) (zcwV 1 hz q1_207 q1_184 q1_185 q1_4 q1_186 hd_X2_exists (Nat.le_of_ble_eq_true rfl) (Nat.le_of_ble_eq_true rfl)) (z_pv (ci := 2) (q := (RX2, TX2, 4)) hK (hP.sub (ws' := zPar cI q S) [6, 7, 8, 9] rfl) rfl rfl) rfl rfl hl.1 rfl (lv_room (Nat.le_of_ble_eq_true rfl)) dX4_firstToSplit_28 ⟨(Nat.le_of_ble_eq_true rfl), (Nat.le_of_ble_eq_true rfl)⟩) ?_
          refine lv_if_eq (tgt := 50) hx hb dX4_firstToSplit_31 (by decide) (fun c_31 => ?_) (fun c_31 => ?_)
          · have c_31 : (rEx S (nI k17)) = false := bI_f c_31
            refine lv_iconst (v := 0) hx hb dX4_firstToSplit_50 (by decide) ?_
            refine lv_istore_n (lv' := [(2, .int (0 : Int32)), (1, .int (nI k17)), (0, .ref (q 0))]) hx hb dX4_firstToSplit_51 rfl hl (by decide) rfl (fun ls hl => ?_)
            refine lv_iload_n hx hb dX4_firstToSplit_52 rfl (lv_at hl 0 rfl) ?_
            refine lv_if_eq (tgt := 70) hx hb dX4_firstToSplit_53 (by decide) (fun _ => ?_) (fun c_ => absurd (by decide) c_)
            refine lv_iinc (v := (nI k17) + 1) (lv' := [(1, .int ((nI k17) + 1)), (2, .int (0 : Int32)), (0, .ref (q 0))]) hx hb dX4_firstToSplit_70 hl (k := 1) rfl rfl (by decide) rfl (fun ls hl => ?_)
            refine lv_goto (tgt := 17) hx hb dX4_firstToSplit_73 (by decide) ?_
            have e17_1 : (nI (k17 + 1) : Int32) = (nI k17) + 1 := (nI_1 _).symm
            exact ih17 (k17 + 1) (by omega) (by omega) (he.trans (fnd_no hk_17 (by simp [fSpB, c_9, c_20, c_31]))) _ (by (try rw [e17_1]); exact lv_sub hl [0, 2] rfl)
          · have c_31 : (rEx S (nI k17)) = true := bI_t c_31
            refine lv_aload_n hx hb dX4_firstToSplit_34 rfl (lv_at hl 1 rfl) ?_
            refine va_get (D := D) (ci := 4) (v := .ref (q 6)) (C := RX4) (T := TX4) (N := 5) hx hb hz inZ4 hown hK.1 hP 0 rfl rfl 3 (by decide) (hz _ q1_93) (fun _ h9 => h9) rfl dX4_firstToSplit_35 ?_
            refine lv_iload_n hx hb dX4_firstToSplit_38 rfl (lv_at hl 0 rfl) ?_
            refine z_ro (va_runV (As := [.int (nI k17)]) (rest := []) ⟨hx, hb, hml, hown, hz⟩ (c_X2_scaleOf l D cI cQ q S (nI k17)) (zcwV 1 hz q1_208 q1_209 q1_210 q1_4 q1_211 hd_X2_scaleOf (Nat.le_of_ble_eq_true rfl) (Nat.le_of_ble_eq_true rfl)) (z_pv (ci := 2) (q := (RX2, TX2, 4)) hK (hP.sub (ws' := zPar cI q S) [6, 7, 8, 9] rfl) rfl rfl) rfl rfl hl.1 rfl (lv_room (Nat.le_of_ble_eq_true rfl)) dX4_firstToSplit_39 ⟨(Nat.le_of_ble_eq_true rfl), (Nat.le_of_ble_eq_true rfl)⟩) ?_
            refine lv_iconst (v := 4) hx hb dX4_firstToSplit_42 (by decide) ?_
            refine lv_icmp_ge (tgt := 50) hx hb dX4_firstToSplit_43 (by decide) (fun c_43 => ?_) (fun c_43 => ?_)
            · have c_43 : ((4 : Int32) : Int32) ≤ rSc S (nI k17) := c_43
              refine lv_iconst (v := 0) hx hb dX4_firstToSplit_50 (by decide) ?_
              refine lv_istore_n (lv' := [(2, .int (0 : Int32)), (1, .int (nI k17)), (0, .ref (q 0))]) hx hb dX4_firstToSplit_51 rfl hl (by decide) rfl (fun ls hl => ?_)
              refine lv_iload_n hx hb dX4_firstToSplit_52 rfl (lv_at hl 0 rfl) ?_
              refine lv_if_eq (tgt := 70) hx hb dX4_firstToSplit_53 (by decide) (fun _ => ?_) (fun c_ => absurd (by decide) c_)
              refine lv_iinc (v := (nI k17) + 1) (lv' := [(1, .int ((nI k17) + 1)), (2, .int (0 : Int32)), (0, .ref (q 0))]) hx hb dX4_firstToSplit_70 hl (k := 1) rfl rfl (by decide) rfl (fun ls hl => ?_)
              refine lv_goto (tgt := 17) hx hb dX4_firstToSplit_73 (by decide) ?_
              have e17_1 : (nI (k17 + 1) : Int32) = (nI k17) + 1 := (nI_1 _).symm
              exact ih17 (k17 + 1) (by omega) (by omega) (he.trans (fnd_no hk_17 (by simp [fSpB, c_9, c_20, c_31, c_43]))) _ (by (try rw [e17_1]); exact lv_sub hl [0, 2] rfl)
            · have c_43 : ¬ (((4 : Int32) : Int32) ≤ rSc S (nI k17)) := c_43
              refine lv_iconst (v := 1) hx hb dX4_firstToSplit_46 (by decide) ?_
              refine lv_goto (tgt := 51) hx hb dX4_firstToSplit_47 (by decide) ?_
              refine lv_istore_n (lv' := [(2, .int (1 : Int32)), (1, .int (nI k17)), (0, .ref (q 0))]) hx hb dX4_firstToSplit_51 rfl hl (by decide) rfl (fun ls hl => ?_)
              refine lv_iload_n hx hb dX4_firstToSplit_52 rfl (lv_at hl 0 rfl) ?_
              refine lv_if_eq (tgt := 70) hx hb dX4_firstToSplit_53 (by decide) (fun c_ => absurd c_ (by decide)) (fun _ => ?_)
              refine lv_aload_n hx hb dX4_firstToSplit_56 rfl (lv_at hl 2 rfl) ?_
              refine lv_iload_n hx hb dX4_firstToSplit_57 rfl (lv_at hl 1 rfl) ?_
              refine z_ro (va_runV (As := [.int (nI k17)]) (rest := []) ⟨hx, hb, hml, hown, hz⟩ (c_X4_pointsIn l D cI cQ q S (nI k17)) (zcwV 1 hz q1_212 q1_213 q1_214 q1_2 q1_215 hd_X4_pointsIn (Nat.le_of_ble_eq_true rfl) (Nat.le_of_ble_eq_true rfl)) (z_pv (ci := 4) (q := (RX4, TX4, 5)) hK hP rfl rfl) rfl rfl hl.1 rfl (lv_room (Nat.le_of_ble_eq_true rfl)) dX4_firstToSplit_58 ⟨(Nat.le_of_ble_eq_true rfl), (Nat.le_of_ble_eq_true rfl)⟩) ?_
              refine lv_aload_n hx hb dX4_firstToSplit_61 rfl (lv_at hl 2 rfl) ?_
              refine va_get (D := D) (ci := 4) (v := .int (sCr S)) (C := RX4) (T := TX4) (N := 5) hx hb hz inZ4 hown hK.1 hP 0 rfl rfl 0 (by decide) (hz _ q1_87) (fun _ h9 => h9) rfl dX4_firstToSplit_62 ?_
              refine lv_icmp_le (tgt := 70) hx hb dX4_firstToSplit_65 (by decide) (fun c_65 => ?_) (fun c_65 => ?_)
              · have c_65 : (nIn S (nI k17) : Int32) ≤ sCr S := c_65
                refine lv_iinc (v := (nI k17) + 1) (lv' := [(1, .int ((nI k17) + 1)), (2, .int (1 : Int32)), (0, .ref (q 0))]) hx hb dX4_firstToSplit_70 hl (k := 1) rfl rfl (by decide) rfl (fun ls hl => ?_)
                refine lv_goto (tgt := 17) hx hb dX4_firstToSplit_73 (by decide) ?_
                have e17_1 : (nI (k17 + 1) : Int32) = (nI k17) + 1 := (nI_1 _).symm
                exact ih17 (k17 + 1) (by omega) (by omega) (he.trans (fnd_no hk_17 (by simp [fSpB, c_9, c_20, c_31, c_43, c_65]))) _ (by (try rw [e17_1]); exact lv_sub hl [0, 2] rfl)
              · have c_65 : ¬ ((nIn S (nI k17) : Int32) ≤ sCr S) := c_65
                refine lv_iload_n hx hb dX4_firstToSplit_68 rfl (lv_at hl 1 rfl) ?_
                exact z_iret hx hb hr rfl hlocks (by exact (he.trans (fnd_yes hk_17 (by simp [fSpB, c_31, c_43, c_65]))).symm) dX4_firstToSplit_69
    have e17_1 : (nI 0 : Int32) = (0 : Int32) := rfl
    exact L17 (40 + 1) (0) (Nat.zero_le _) (by omega) (by rw [fSp, if_pos c_9]) _ (by (try rw [e17_1]); exact lv_sub hl [0, 1] rfl)
  · have c_9 : ¬ (((sFo S) : Int32) < (38 : Int32)) := c_9
    refine lv_bipush (v := (-9)) hx hb dX4_firstToSplit_12 (by decide) ?_
    exact z_iret hx hb hr rfl hlocks (by rw [fSp, if_neg c_9]) dX4_firstToSplit_14
set_option maxHeartbeats 1000000 in
set_option maxRecDepth 100000 in
theorem c_X4_fullestQuarter (l : Launch) (D : va_G) (cI cQ : ClassId) (q : Nat → Nat) (S : CS) (le to sd : Int32) : zRO l yX4_fullestQuarter (Cond.code yX4_fullestQuarter cX4_fullestQuarter 10 (some .int) :: zT) 3 73 [.ref (q 0), .int le, .int to, .int sd] D cI cQ (zSta cI q S) ((fQ S le to sd 4).1) := by
  refine zRO.of (cc := cX4_fullestQuarter) (maxL := 10) (ret := some .int) (by decide +kernel) rfl (Nat.le_of_ble_eq_true rfl) ?_
  intro pg e s mi args below meth cd hx hb hr hts hown hlocks hml hP hK ls hl
  have hz : ∀ w ∈ zT, w.before args s = true := fun w h => hts w (List.mem_cons_of_mem _ h)
  have hl : lv_has ls 10 [(0, .ref (q 0)), (1, .int (le)), (2, .int (to)), (3, .int (sd))] := hl
  refine lv_iconst (v := 0) hx hb dX4_fullestQuarter_0 (by decide) ?_
  refine lv_istore (lv' := [(4, .int (0 : Int32)), (0, .ref (q 0)), (1, .int (le)), (2, .int (to)), (3, .int (sd))]) hx hb dX4_fullestQuarter_1 hl (by decide) rfl (fun ls hl => ?_)
  refine lv_iconst (v := (-1)) hx hb dX4_fullestQuarter_3 (by decide) ?_
  refine lv_istore (lv' := [(5, .int (-1 : Int32)), (4, .int (0 : Int32)), (0, .ref (q 0)), (1, .int (le)), (2, .int (to)), (3, .int (sd))]) hx hb dX4_fullestQuarter_4 hl (by decide) rfl (fun ls hl => ?_)
  refine lv_iconst (v := 0) hx hb dX4_fullestQuarter_6 (by decide) ?_
  refine lv_istore (lv' := [(6, .int (0 : Int32)), (5, .int (-1 : Int32)), (4, .int (0 : Int32)), (0, .ref (q 0)), (1, .int (le)), (2, .int (to)), (3, .int (sd))]) hx hb dX4_fullestQuarter_7 hl (by decide) rfl (fun ls hl => ?_)
  have L9 : ∀ (n9 k9 : Nat), k9 ≤ 4 → 4 < k9 + n9 → ∀ (ls : Array Slot), lv_has ls 10 [(6, .int (nI k9)), (4, .int ((fQ S le to sd k9).1)), (5, .int ((fQ S le to sd k9).2)), (0, .ref (q 0)), (1, .int (le)), (2, .int (to)), (3, .int (sd))] → W pg l e ({ frames := 3, cells := 0, slots := 0, locals := 73 }) s mi args below meth cd s.heap [] 0 0 (MQ below (vp_Si (fun r => r = (fQ S le to sd 4).1)) args s 0 0 (fun _ => False)) (F0 mi 9 ls []) := by
    intro n9
    induction n9 with
    | zero => intro k9 h1 h2; exact absurd h2 (by omega)
    | succ n9 ih9 =>
      intro k9 h1_9 h2_9  ls hl
      refine lv_iload hx hb dX4_fullestQuarter_9 (lv_at hl 0 rfl) ?_
      refine lv_iconst (v := 4) hx hb dX4_fullestQuarter_11 (by decide) ?_
      refine lv_icmp_ge (tgt := 79) hx hb dX4_fullestQuarter_12 (by decide) (fun c_12 => ?_) (fun c_12 => ?_)
      · have c_12 : ((4 : Int32) : Int32) ≤ nI k9 := c_12
        have hk_9 : k9 = 4 := z_exit (by decide) h1_9 c_12
        refine lv_iload hx hb dX4_fullestQuarter_79 (lv_at hl 1 rfl) ?_
        exact z_iret hx hb hr rfl hlocks (by rw [hk_9]) dX4_fullestQuarter_81
      · have c_12 : ¬ (((4 : Int32) : Int32) ≤ nI k9) := c_12
        have hk_9 : k9 < 4 := z_cont (by decide) h1_9 c_12
        refine lv_iload_n hx hb dX4_fullestQuarter_15 rfl (lv_at hl 4 rfl) ?_
        refine lv_iload_n hx hb dX4_fullestQuarter_16 rfl (lv_at hl 6 rfl) ?_
        refine lv_iload hx hb dX4_fullestQuarter_17 (lv_at hl 0 rfl) ?_
        refine z_ro (va_runSN (As := [.int (le), .int (sd), .int (nI k9)]) (rest := []) ⟨hx, hb, hml, hown, hz⟩ (c_X5_quarterLeft l D cI cQ le sd (nI k9)) (zcnS 3 hz q2_17 q1_1 q2_18 (hK.2.2.2.2.2.2.2.2.2.1) hd_X5_quarterLeft (Nat.le_of_ble_eq_true rfl) (Nat.le_of_ble_eq_true rfl)) (z_ps hK z_nil) rfl rfl hl.1 rfl (lv_room (Nat.le_of_ble_eq_true rfl)) dX4_fullestQuarter_19 ⟨(Nat.le_of_ble_eq_true rfl), (Nat.le_of_ble_eq_true rfl)⟩) ?_
        refine lv_istore (lv' := [(7, .int (qLef le sd (nI k9))), (6, .int (nI k9)), (4, .int ((fQ S le to sd k9).1)), (5, .int ((fQ S le to sd k9).2)), (0, .ref (q 0)), (1, .int (le)), (2, .int (to)), (3, .int (sd))]) hx hb dX4_fullestQuarter_22 hl (by decide) rfl (fun ls hl => ?_)
        refine lv_iload_n hx hb dX4_fullestQuarter_24 rfl (lv_at hl 6 rfl) ?_
        refine lv_iload_n hx hb dX4_fullestQuarter_25 rfl (lv_at hl 7 rfl) ?_
        refine lv_iload hx hb dX4_fullestQuarter_26 (lv_at hl 1 rfl) ?_
        refine z_ro (va_runSN (As := [.int (to), .int (sd), .int (nI k9)]) (rest := []) ⟨hx, hb, hml, hown, hz⟩ (c_X5_quarterTop l D cI cQ to sd (nI k9)) (zcnS 3 hz q2_20 q1_1 q2_21 (hK.2.2.2.2.2.2.2.2.2.2.1) hd_X5_quarterTop (Nat.le_of_ble_eq_true rfl) (Nat.le_of_ble_eq_true rfl)) (z_ps hK z_nil) rfl rfl hl.1 rfl (lv_room (Nat.le_of_ble_eq_true rfl)) dX4_fullestQuarter_28 ⟨(Nat.le_of_ble_eq_true rfl), (Nat.le_of_ble_eq_true rfl)⟩) ?_
        refine lv_istore (lv' := [(8, .int (qTop to sd (nI k9))), (7, .int (qLef le sd (nI k9))), (6, .int (nI k9)), (4, .int ((fQ S le to sd k9).1)), (5, .int ((fQ S le to sd k9).2)), (0, .ref (q 0)), (1, .int (le)), (2, .int (to)), (3, .int (sd))]) hx hb dX4_fullestQuarter_31 hl (by decide) rfl (fun ls hl => ?_)
        refine lv_aload_n hx hb dX4_fullestQuarter_33 rfl (lv_at hl 5 rfl) ?_
        refine va_get (D := D) (ci := 4) (v := .ref (q 1)) (C := RX4) (T := TX4) (N := 5) hx hb hz inZ4 hown hK.1 hP 0 rfl rfl 2 (by decide) (hz _ q1_91) (fun _ h9 => h9) rfl dX4_fullestQuarter_34 ?_
        refine lv_iload hx hb dX4_fullestQuarter_37 (lv_at hl 1 rfl) ?_
        refine lv_iload hx hb dX4_fullestQuarter_39 (lv_at hl 0 rfl) ?_
        refine lv_iload hx hb dX4_fullestQuarter_41 (lv_at hl 1 rfl) ?_
        refine lv_iload_n hx hb dX4_fullestQuarter_43 rfl (lv_at hl 8 rfl) ?_
        refine lv_iadd hx hb dX4_fullestQuarter_44 ?_
        refine lv_iconst (v := 1) hx hb dX4_fullestQuarter_45 (by decide) ?_
        refine lv_isub hx hb dX4_fullestQuarter_46 ?_
        refine lv_iload hx hb dX4_fullestQuarter_47 (lv_at hl 0 rfl) ?_
        refine lv_iload_n hx hb dX4_fullestQuarter_49 rfl (lv_at hl 8 rfl) ?_
        refine lv_iadd hx hb dX4_fullestQuarter_50 ?_
        refine lv_iconst (v := 1) hx hb dX4_fullestQuarter_51 (by decide) ?_
        refine lv_isub hx hb dX4_fullestQuarter_52 ?_
        refine z_ro (va_runV (As := [.int (qLef le sd (nI k9)), .int (qTop to sd (nI k9)), .int (((qLef le sd (nI k9)) + sd) - (1 : Int32)), .int (((qTop to sd (nI k9)) + sd) - (1 : Int32))]) (rest := []) ⟨hx, hb, hml, hown, hz⟩ (c_X3_numberIn l D cI cQ q S (qLef le sd (nI k9)) (qTop to sd (nI k9)) (((qLef le sd (nI k9)) + sd) - (1 : Int32)) (((qTop to sd (nI k9)) + sd) - (1 : Int32))) (zcwV 4 hz q1_235 q1_236 q1_237 q1_3 q1_238 hd_X3_numberIn (Nat.le_of_ble_eq_true rfl) (Nat.le_of_ble_eq_true rfl)) (z_pv (ci := 3) (q := (RX3, TX3, 5)) hK (hP.sub (ws' := zPts cI q S) [1, 2, 3, 4, 5] rfl) rfl rfl) rfl rfl hl.1 rfl (lv_room (Nat.le_of_ble_eq_true rfl)) dX4_fullestQuarter_53 ⟨(Nat.le_of_ble_eq_true rfl), (Nat.le_of_ble_eq_true rfl)⟩) ?_
        refine lv_istore (lv' := [(9, .int (fQn S le to sd (nI k9))), (8, .int (qTop to sd (nI k9))), (7, .int (qLef le sd (nI k9))), (6, .int (nI k9)), (4, .int ((fQ S le to sd k9).1)), (5, .int ((fQ S le to sd k9).2)), (0, .ref (q 0)), (1, .int (le)), (2, .int (to)), (3, .int (sd))]) hx hb dX4_fullestQuarter_56 hl (by decide) rfl (fun ls hl => ?_)
        refine lv_iload hx hb dX4_fullestQuarter_58 (lv_at hl 0 rfl) ?_
        refine lv_iload hx hb dX4_fullestQuarter_60 (lv_at hl 5 rfl) ?_
        refine lv_icmp_le (tgt := 73) hx hb dX4_fullestQuarter_62 (by decide) (fun c_62 => ?_) (fun c_62 => ?_)
        · have c_62 : (fQn S le to sd (nI k9) : Int32) ≤ (fQ S le to sd k9).2 := c_62
          refine lv_iinc (v := (nI k9) + 1) (lv' := [(6, .int ((nI k9) + 1)), (9, .int (fQn S le to sd (nI k9))), (8, .int (qTop to sd (nI k9))), (7, .int (qLef le sd (nI k9))), (4, .int ((fQ S le to sd k9).1)), (5, .int ((fQ S le to sd k9).2)), (0, .ref (q 0)), (1, .int (le)), (2, .int (to)), (3, .int (sd))]) hx hb dX4_fullestQuarter_73 hl (k := 3) rfl rfl (by decide) rfl (fun ls hl => ?_)
          refine lv_goto (tgt := 9) hx hb dX4_fullestQuarter_76 (by decide) ?_
          have e9_6 : (nI (k9 + 1) : Int32) = (nI k9) + 1 := (nI_1 _).symm
          have e9_4 : ((fQ S le to sd (k9 + 1)).1 : Int32) = (fQ S le to sd k9).1 := (by simp [fQ, c_12, c_62])
          have e9_5 : ((fQ S le to sd (k9 + 1)).2 : Int32) = (fQ S le to sd k9).2 := (by simp [fQ, c_12, c_62])
          exact ih9 (k9 + 1) (by omega) (by omega) _ (by (try rw [e9_6]); (try rw [e9_4]); (try rw [e9_5]); exact lv_sub hl [0, 4, 5, 6, 7, 8, 9] rfl)
        · have c_62 : ¬ ((fQn S le to sd (nI k9) : Int32) ≤ (fQ S le to sd k9).2) := c_62
          refine lv_iload hx hb dX4_fullestQuarter_65 (lv_at hl 3 rfl) ?_
          refine lv_istore (lv' := [(4, .int (nI k9)), (9, .int (fQn S le to sd (nI k9))), (8, .int (qTop to sd (nI k9))), (7, .int (qLef le sd (nI k9))), (6, .int (nI k9)), (5, .int ((fQ S le to sd k9).2)), (0, .ref (q 0)), (1, .int (le)), (2, .int (to)), (3, .int (sd))]) hx hb dX4_fullestQuarter_67 hl (by decide) rfl (fun ls hl => ?_)
          refine lv_iload hx hb dX4_fullestQuarter_69 (lv_at hl 1 rfl) ?_
          refine lv_istore (lv' := [(5, .int (fQn S le to sd (nI k9))), (4, .int (nI k9)), (9, .int (fQn S le to sd (nI k9))), (8, .int (qTop to sd (nI k9))), (7, .int (qLef le sd (nI k9))), (6, .int (nI k9)), (0, .ref (q 0)), (1, .int (le)), (2, .int (to)), (3, .int (sd))]) hx hb dX4_fullestQuarter_71 hl (by decide) rfl (fun ls hl => ?_)
          refine lv_iinc (v := (nI k9) + 1) (lv' := [(6, .int ((nI k9) + 1)), (5, .int (fQn S le to sd (nI k9))), (4, .int (nI k9)), (9, .int (fQn S le to sd (nI k9))), (8, .int (qTop to sd (nI k9))), (7, .int (qLef le sd (nI k9))), (0, .ref (q 0)), (1, .int (le)), (2, .int (to)), (3, .int (sd))]) hx hb dX4_fullestQuarter_73 hl (k := 5) rfl rfl (by decide) rfl (fun ls hl => ?_)
          refine lv_goto (tgt := 9) hx hb dX4_fullestQuarter_76 (by decide) ?_
          have e9_6 : (nI (k9 + 1) : Int32) = (nI k9) + 1 := (nI_1 _).symm
          have e9_4 : ((fQ S le to sd (k9 + 1)).1 : Int32) = nI k9 := (by simp [fQ, c_12, c_62])
          have e9_5 : ((fQ S le to sd (k9 + 1)).2 : Int32) = fQn S le to sd (nI k9) := (by simp [fQ, c_12, c_62])
          exact ih9 (k9 + 1) (by omega) (by omega) _ (by (try rw [e9_6]); (try rw [e9_4]); (try rw [e9_5]); exact lv_sub hl [0, 2, 1, 6, 7, 8, 9] rfl)
  have e9_6 : (nI 0 : Int32) = (0 : Int32) := rfl
  have e9_4 : ((fQ S le to sd 0).1 : Int32) = (0 : Int32) := (by rfl)
  have e9_5 : ((fQ S le to sd 0).2 : Int32) = (-1 : Int32) := (by rfl)
  exact L9 (4 + 1) (0) (Nat.zero_le _) (by omega) _ (by (try rw [e9_6]); (try rw [e9_4]); (try rw [e9_5]); exact lv_sub hl [0, 2, 1, 3, 4, 5, 6] rfl)
set_option maxHeartbeats 1000000 in
set_option maxRecDepth 100000 in
theorem c_X4_titheOf (l : Launch) (D : va_G) (cI cQ : ClassId) (q : Nat → Nat) (S : CS) (n : Int32) : zRO l yX4_titheOf (Cond.code yX4_titheOf cX4_titheOf 2 (some .int) :: zT) 0 0 [.ref (q 0), .int n] D cI cQ (zSta cI q S) (tOf S n) := by
  refine zRO.of (cc := cX4_titheOf) (maxL := 2) (ret := some .int) (by decide +kernel) rfl (Nat.le_of_ble_eq_true rfl) ?_
  intro pg e s mi args below meth cd hx hb hr hts hown hlocks hml hP hK ls hl
  have hz : ∀ w ∈ zT, w.before args s = true := fun w h => hts w (List.mem_cons_of_mem _ h)
  have hl : lv_has ls 2 [(0, .ref (q 0)), (1, .int (n))] := hl
  refine lv_aload_n hx hb dX4_titheOf_0 rfl (lv_at hl 0 rfl) ?_
  refine va_get (D := D) (ci := 4) (v := .int (sTi S)) (C := RX4) (T := TX4) (N := 5) hx hb hz inZ4 hown hK.1 hP 0 rfl rfl 1 (by decide) (hz _ q1_89) (fun _ h9 => h9) rfl dX4_titheOf_1 ?_
  refine lv_if_le (tgt := 23) hx hb dX4_titheOf_4 (by decide) (fun c_4 => ?_) (fun c_4 => ?_)
  · have c_4 : (sTi S : Int32) ≤ 0 := c_4
    refine lv_iconst (v := 0) hx hb dX4_titheOf_23 (by decide) ?_
    exact z_iret hx hb hr rfl hlocks (by simp [tOf, c_4]) dX4_titheOf_24
  · have c_4 : ¬ ((sTi S : Int32) ≤ 0) := c_4
    refine lv_iload_n hx hb dX4_titheOf_7 rfl (lv_at hl 1 rfl) ?_
    refine lv_aload_n hx hb dX4_titheOf_8 rfl (lv_at hl 0 rfl) ?_
    refine va_get (D := D) (ci := 4) (v := .int (sTi S)) (C := RX4) (T := TX4) (N := 5) hx hb hz inZ4 hown hK.1 hP 0 rfl rfl 1 (by decide) (hz _ q1_89) (fun _ h9 => h9) rfl dX4_titheOf_9 ?_
    refine lv_iadd hx hb dX4_titheOf_12 ?_
    refine lv_iconst (v := 1) hx hb dX4_titheOf_13 (by decide) ?_
    refine lv_isub hx hb dX4_titheOf_14 ?_
    refine lv_aload_n hx hb dX4_titheOf_15 rfl (lv_at hl 0 rfl) ?_
    refine va_get (D := D) (ci := 4) (v := .int (sTi S)) (C := RX4) (T := TX4) (N := 5) hx hb hz inZ4 hown hK.1 hP 0 rfl rfl 1 (by decide) (hz _ q1_89) (fun _ h9 => h9) rfl dX4_titheOf_16 ?_
    refine lv_idiv hx hb dX4_titheOf_19 (fun h => c_4 (by rw [h]; decide)) ?_
    refine lv_goto (tgt := 24) hx hb dX4_titheOf_20 (by decide) ?_
    exact z_iret hx hb hr rfl hlocks (by simp [tOf, c_4]) dX4_titheOf_24
set_option maxHeartbeats 1000000 in
set_option maxRecDepth 100000 in
theorem c_X4_foundIn (l : Launch) (D : va_G) (cI cQ : ClassId) (q : Nat → Nat) (S : CS) (le to sc pa : Int32) (T1 : CS) (hT1 : T1 = fnS S le to sc pa) : zWR l yX4_foundIn (Cond.code yX4_foundIn cX4_foundIn 8 (none) :: zT) 3 74 [.ref (q 0), .int le, .int to, .int sc, .int pa] D cI cQ (zSta cI q S) none (zSta cI q T1) := by
  refine zWR.of (cc := cX4_foundIn) (maxL := 8) (ret := none) (by decide +kernel) rfl (Nat.le_of_ble_eq_true rfl) ?_
  intro pg e s mi args below meth cd hx hb hr hts hown hlocks hml hP hD hS hK ls hl
  have hz : ∀ w ∈ zT, w.before args s = true := fun w h => hts w (List.mem_cons_of_mem _ h)
  have hl : lv_has ls 8 [(0, .ref (q 0)), (1, .int (le)), (2, .int (to)), (3, .int (sc)), (4, .int (pa))] := hl
  refine lv_aload_n hx hb dX4_foundIn_0 rfl (lv_at hl 0 rfl) ?_
  refine va_get (D := D) (ci := 4) (v := .ref (q 6)) (C := RX4) (T := TX4) (N := 5) hx hb hz inZ4 hown hK.1 hP 0 rfl rfl 3 (by decide) (hz _ q1_93) (fun _ h9 => h9) rfl dX4_foundIn_1 ?_
  refine lv_iload_n hx hb dX4_foundIn_4 rfl (lv_at hl 1 rfl) ?_
  refine lv_iload_n hx hb dX4_foundIn_5 rfl (lv_at hl 2 rfl) ?_
  refine lv_iload_n hx hb dX4_foundIn_6 rfl (lv_at hl 3 rfl) ?_
  obtain ⟨g_1, hg_1⟩ : ∃ z : Int32, z = rFo1 S := ⟨_, rfl⟩
  obtain ⟨g_2, hg_2⟩ : ∃ z : FI, z = rGiv ((sLe S)) ((sFo S)) le := ⟨_, rfl⟩
  obtain ⟨g_3, hg_3⟩ : ∃ z : FI, z = rGiv ((sTo S)) ((sFo S)) to := ⟨_, rfl⟩
  obtain ⟨g_4, hg_4⟩ : ∃ z : FI, z = rGiv ((sSc S)) ((sFo S)) sc := ⟨_, rfl⟩
  refine z_wi (X' := zSta cI q (uSc (uTo (uLe (uFo S g_1) g_2) g_3) g_4)) (va_runV (As := [.int (le), .int (to), .int (sc)]) (rest := []) ⟨hx, hb, hml, hown, hz⟩ (c_X2_found l D cI cQ q S le to sc g_1 hg_1 g_2 hg_2 g_3 hg_3 g_4 hg_4) (zcwV 3 hz q2_26 q1_54 q1_55 q1_4 q1_56 hd_X2_found (Nat.le_of_ble_eq_true rfl) (Nat.le_of_ble_eq_true rfl)) (z_pvw (ci := 2) (q := (RX2, TX2, 4)) hK (hP.sub (ws' := zPar cI q S) [6, 7, 8, 9] rfl) (hD.sub (ws' := zPar cI q S) [6, 7, 8, 9] (by decide) rfl) rfl rfl) rfl rfl hl.1 rfl (lv_room (Nat.le_of_ble_eq_true rfl)) dX4_foundIn_7 ⟨(Nat.le_of_ble_eq_true rfl), (Nat.le_of_ble_eq_true rfl)⟩) hP hD hS [6, 7, 8, 9] rfl rfl rfl (fun H locs hP hD hS => ?_)
  refine lv_istore (lv' := [(5, .int ((if rRoom S then (sFo S) else -9))), (0, .ref (q 0)), (1, .int (le)), (2, .int (to)), (3, .int (sc)), (4, .int (pa))]) hx hb dX4_foundIn_10 hl (by decide) rfl (fun ls hl => ?_)
  refine lv_aload_n hx hb dX4_foundIn_12 rfl (lv_at hl 1 rfl) ?_
  refine va_get (D := D) (ci := 4) (v := .ref (q 6)) (C := RX4) (T := TX4) (N := 5) hx hb hz inZ4 hown hK.1 hP 0 rfl rfl 3 (by decide) (hz _ q1_93) (fun _ h9 => h9) rfl dX4_foundIn_13 ?_
  refine lv_iload hx hb dX4_foundIn_16 (lv_at hl 0 rfl) ?_
  refine z_ro (va_runV (As := [.int ((if rRoom S then (sFo S) else -9))]) (rest := []) ⟨hx, hb, hml, hown, hz⟩ (c_X2_rightOf l D cI cQ q (uSc (uTo (uLe (uFo S g_1) g_2) g_3) g_4) (if rRoom S then (sFo S) else -9)) (zcwV 1 hz q1_224 q1_225 q1_226 q1_4 q1_227 hd_X2_rightOf (Nat.le_of_ble_eq_true rfl) (Nat.le_of_ble_eq_true rfl)) (z_pv (ci := 2) (q := (RX2, TX2, 4)) hK (hP.sub (ws' := zPar cI q (uSc (uTo (uLe (uFo S g_1) g_2) g_3) g_4)) [6, 7, 8, 9] rfl) rfl rfl) rfl rfl hl.1 rfl (lv_room (Nat.le_of_ble_eq_true rfl)) dX4_foundIn_18 ⟨(Nat.le_of_ble_eq_true rfl), (Nat.le_of_ble_eq_true rfl)⟩) ?_
  refine lv_istore (lv' := [(6, .int (rRi (uSc (uLe S g_2) g_4) (if rRoom S then (sFo S) else -9))), (5, .int ((if rRoom S then (sFo S) else -9))), (0, .ref (q 0)), (1, .int (le)), (2, .int (to)), (3, .int (sc)), (4, .int (pa))]) hx hb dX4_foundIn_21 hl (by decide) rfl (fun ls hl => ?_)
  refine lv_aload_n hx hb dX4_foundIn_23 rfl (lv_at hl 2 rfl) ?_
  refine va_get (D := D) (ci := 4) (v := .ref (q 6)) (C := RX4) (T := TX4) (N := 5) hx hb hz inZ4 hown hK.1 hP 0 rfl rfl 3 (by decide) (hz _ q1_93) (fun _ h9 => h9) rfl dX4_foundIn_24 ?_
  refine lv_iload hx hb dX4_foundIn_27 (lv_at hl 1 rfl) ?_
  refine z_ro (va_runV (As := [.int ((if rRoom S then (sFo S) else -9))]) (rest := []) ⟨hx, hb, hml, hown, hz⟩ (c_X2_bottomOf l D cI cQ q (uSc (uTo (uLe (uFo S g_1) g_2) g_3) g_4) (if rRoom S then (sFo S) else -9)) (zcwV 1 hz q1_230 q1_231 q1_232 q1_4 q1_233 hd_X2_bottomOf (Nat.le_of_ble_eq_true rfl) (Nat.le_of_ble_eq_true rfl)) (z_pv (ci := 2) (q := (RX2, TX2, 4)) hK (hP.sub (ws' := zPar cI q (uSc (uTo (uLe (uFo S g_1) g_2) g_3) g_4)) [6, 7, 8, 9] rfl) rfl rfl) rfl rfl hl.1 rfl (lv_room (Nat.le_of_ble_eq_true rfl)) dX4_foundIn_29 ⟨(Nat.le_of_ble_eq_true rfl), (Nat.le_of_ble_eq_true rfl)⟩) ?_
  refine lv_istore (lv' := [(7, .int (rBo (uSc (uTo S g_3) g_4) (if rRoom S then (sFo S) else -9))), (6, .int (rRi (uSc (uLe S g_2) g_4) (if rRoom S then (sFo S) else -9))), (5, .int ((if rRoom S then (sFo S) else -9))), (0, .ref (q 0)), (1, .int (le)), (2, .int (to)), (3, .int (sc)), (4, .int (pa))]) hx hb dX4_foundIn_32 hl (by decide) rfl (fun ls hl => ?_)
  refine lv_aload_n hx hb dX4_foundIn_34 rfl (lv_at hl 3 rfl) ?_
  refine va_get (D := D) (ci := 4) (v := .ref (q 10)) (C := RX4) (T := TX4) (N := 5) hx hb hz inZ4 hown hK.1 hP 0 rfl rfl 4 (by decide) (hz _ q1_95) (fun _ h9 => h9) rfl dX4_foundIn_35 ?_
  refine lv_iload hx hb dX4_foundIn_38 (lv_at hl 2 rfl) ?_
  refine lv_iload hx hb dX4_foundIn_40 (lv_at hl 7 rfl) ?_
  refine lv_aload_n hx hb dX4_foundIn_42 rfl (lv_at hl 3 rfl) ?_
  refine lv_aload_n hx hb dX4_foundIn_43 rfl (lv_at hl 3 rfl) ?_
  refine va_get (D := D) (ci := 4) (v := .ref (q 1)) (C := RX4) (T := TX4) (N := 5) hx hb hz inZ4 hown hK.1 hP 0 rfl rfl 2 (by decide) (hz _ q1_91) (fun _ h9 => h9) rfl dX4_foundIn_44 ?_
  refine lv_iload_n hx hb dX4_foundIn_47 rfl (lv_at hl 4 rfl) ?_
  refine lv_iload_n hx hb dX4_foundIn_48 rfl (lv_at hl 5 rfl) ?_
  refine lv_iload hx hb dX4_foundIn_49 (lv_at hl 1 rfl) ?_
  refine lv_iload hx hb dX4_foundIn_51 (lv_at hl 0 rfl) ?_
  refine z_ro (va_runV (As := [.int (le), .int (to), .int (rRi (uSc (uLe S g_2) g_4) (if rRoom S then (sFo S) else -9)), .int (rBo (uSc (uTo S g_3) g_4) (if rRoom S then (sFo S) else -9))]) (rest := [.ref (q 0), .int (pa), .int ((if rRoom S then (sFo S) else -9)), .ref (q 10)]) ⟨hx, hb, hml, hown, hz⟩ (c_X3_numberIn l D cI cQ q (uSc (uTo (uLe (uFo S g_1) g_2) g_3) g_4) le to (rRi (uSc (uLe S g_2) g_4) (if rRoom S then (sFo S) else -9)) (rBo (uSc (uTo S g_3) g_4) (if rRoom S then (sFo S) else -9))) (zcwV 4 hz q1_235 q1_236 q1_237 q1_3 q1_238 hd_X3_numberIn (Nat.le_of_ble_eq_true rfl) (Nat.le_of_ble_eq_true rfl)) (z_pv (ci := 3) (q := (RX3, TX3, 5)) hK (hP.sub (ws' := zPts cI q (uSc (uTo (uLe (uFo S g_1) g_2) g_3) g_4)) [1, 2, 3, 4, 5] rfl) rfl rfl) rfl rfl hl.1 rfl (lv_room (Nat.le_of_ble_eq_true rfl)) dX4_foundIn_53 ⟨(Nat.le_of_ble_eq_true rfl), (Nat.le_of_ble_eq_true rfl)⟩) ?_
  refine z_ro (va_runV (As := [.int (pNum S le to (rRi (uSc (uLe S g_2) g_4) (if rRoom S then (sFo S) else -9)) (rBo (uSc (uTo S g_3) g_4) (if rRoom S then (sFo S) else -9)) 40)]) (rest := [.int (pa), .int ((if rRoom S then (sFo S) else -9)), .ref (q 10)]) ⟨hx, hb, hml, hown, hz⟩ (c_X4_titheOf l D cI cQ q (uSc (uTo (uLe (uFo S g_1) g_2) g_3) g_4) (pNum S le to (rRi (uSc (uLe S g_2) g_4) (if rRoom S then (sFo S) else -9)) (rBo (uSc (uTo S g_3) g_4) (if rRoom S then (sFo S) else -9)) 40)) (zcwV 1 hz q2_27 q2_29 qs_5 q1_2 q2_30 hd_X4_titheOf (Nat.le_of_ble_eq_true rfl) (Nat.le_of_ble_eq_true rfl)) (z_pv (ci := 4) (q := (RX4, TX4, 5)) hK hP rfl rfl) rfl rfl hl.1 rfl (lv_room (Nat.le_of_ble_eq_true rfl)) dX4_foundIn_56 ⟨(Nat.le_of_ble_eq_true rfl), (Nat.le_of_ble_eq_true rfl)⟩) ?_
  obtain ⟨g_5, hg_5⟩ : ∃ z : FI, z = dCh ((sD S)) (if rRoom S then (sFo S) else -9) pa (tOf S (pNum S le to (rRi (uSc (uLe S g_2) g_4) (if rRoom S then (sFo S) else -9)) (rBo (uSc (uTo S g_3) g_4) (if rRoom S then (sFo S) else -9)) 40)) := ⟨_, rfl⟩
  refine z_wv (X' := zSta cI q (uD (uSc (uTo (uLe (uFo S g_1) g_2) g_3) g_4) g_5)) (va_runV (As := [.int ((if rRoom S then (sFo S) else -9)), .int (pa), .int (tOf S (pNum S le to (rRi (uSc (uLe S g_2) g_4) (if rRoom S then (sFo S) else -9)) (rBo (uSc (uTo S g_3) g_4) (if rRoom S then (sFo S) else -9)) 40))]) (rest := []) ⟨hx, hb, hml, hown, hz⟩ (c_X0_change l D cI cQ q (uSc (uTo (uLe (uFo S g_1) g_2) g_3) g_4) (if rRoom S then (sFo S) else -9) pa (tOf S (pNum S le to (rRi (uSc (uLe S g_2) g_4) (if rRoom S then (sFo S) else -9)) (rBo (uSc (uTo S g_3) g_4) (if rRoom S then (sFo S) else -9)) 40)) g_5 hg_5) (zcwV 3 hz q2_31 q2_32 q2_33 q1_5 q2_34 hd_X0_change (Nat.le_of_ble_eq_true rfl) (Nat.le_of_ble_eq_true rfl)) (z_pvw (ci := 0) (q := (RX0, TX0, 1)) hK (hP.sub (ws' := zDeb cI q (uSc (uTo (uLe (uFo S g_1) g_2) g_3) g_4)) [10, 11] rfl) (hD.sub (ws' := zDeb cI q (uSc (uTo (uLe (uFo S g_1) g_2) g_3) g_4)) [10, 11] (by decide) rfl) rfl rfl) rfl rfl hl.1 rfl (lv_room (Nat.le_of_ble_eq_true rfl)) dX4_foundIn_59 ⟨(Nat.le_of_ble_eq_true rfl), (Nat.le_of_ble_eq_true rfl)⟩) hP hD hS [10, 11] rfl rfl rfl (fun H locs hP hD hS => ?_)
  refine lv_aload_n hx hb dX4_foundIn_62 rfl (lv_at hl 3 rfl) ?_
  refine va_get (D := D) (ci := 4) (v := .ref (q 1)) (C := RX4) (T := TX4) (N := 5) hx hb hz inZ4 hown hK.1 hP 0 rfl rfl 2 (by decide) (hz _ q1_91) (fun _ h9 => h9) rfl dX4_foundIn_63 ?_
  refine lv_iload hx hb dX4_foundIn_66 (lv_at hl 7 rfl) ?_
  refine lv_iload hx hb dX4_foundIn_68 (lv_at hl 2 rfl) ?_
  refine lv_iload_n hx hb dX4_foundIn_70 rfl (lv_at hl 4 rfl) ?_
  refine lv_iload_n hx hb dX4_foundIn_71 rfl (lv_at hl 5 rfl) ?_
  refine lv_iload hx hb dX4_foundIn_72 (lv_at hl 1 rfl) ?_
  refine lv_iload hx hb dX4_foundIn_74 (lv_at hl 0 rfl) ?_
  obtain ⟨g_6, hg_6⟩ : ∃ z : FI, z = pChl S pa (if rRoom S then (sFo S) else -9) le to (rRi (uSc (uLe S g_2) g_4) (if rRoom S then (sFo S) else -9)) (rBo (uSc (uTo S g_3) g_4) (if rRoom S then (sFo S) else -9)) 40 := ⟨_, rfl⟩
  refine z_wv (X' := zSta cI q (uL (uD (uSc (uTo (uLe (uFo S g_1) g_2) g_3) g_4) g_5) g_6)) (va_runV (As := [.int (pa), .int ((if rRoom S then (sFo S) else -9)), .int (le), .int (to), .int (rRi (uSc (uLe S g_2) g_4) (if rRoom S then (sFo S) else -9)), .int (rBo (uSc (uTo S g_3) g_4) (if rRoom S then (sFo S) else -9))]) (rest := []) ⟨hx, hb, hml, hown, hz⟩ (c_X3_changeLord l D cI cQ q (uD (uSc (uTo (uLe (uFo S g_1) g_2) g_3) g_4) g_5) pa (if rRoom S then (sFo S) else -9) le to (rRi (uSc (uLe S g_2) g_4) (if rRoom S then (sFo S) else -9)) (rBo (uSc (uTo S g_3) g_4) (if rRoom S then (sFo S) else -9)) g_6 hg_6) (zcwV 6 hz q2_38 q2_39 q2_40 q1_3 q2_41 hd_X3_changeLord (Nat.le_of_ble_eq_true rfl) (Nat.le_of_ble_eq_true rfl)) (z_pvw (ci := 3) (q := (RX3, TX3, 5)) hK (hP.sub (ws' := zPts cI q (uD (uSc (uTo (uLe (uFo S g_1) g_2) g_3) g_4) g_5)) [1, 2, 3, 4, 5] rfl) (hD.sub (ws' := zPts cI q (uD (uSc (uTo (uLe (uFo S g_1) g_2) g_3) g_4) g_5)) [1, 2, 3, 4, 5] (by decide) rfl) rfl rfl) rfl rfl hl.1 rfl (lv_room (Nat.le_of_ble_eq_true rfl)) dX4_foundIn_76 ⟨(Nat.le_of_ble_eq_true rfl), (Nat.le_of_ble_eq_true rfl)⟩) hP hD hS [1, 2, 3, 4, 5] rfl rfl rfl (fun H locs hP hD hS => ?_)
  exact z_wvret hx hb hr hlocks hP hS (congrArg (fun T => zSta cI q T) (show uL (uD (uSc (uTo (uLe (uFo S g_1) g_2) g_3) g_4) g_5) g_6 = T1 from by (try simp only [hg_6, hg_5, hg_4, hg_3, hg_2, hg_1, hT1]) <;> (simp only [fnS, fnP, fnRi, fnBo]))) dX4_foundIn_79
set_option maxHeartbeats 1000000 in
set_option maxRecDepth 100000 in
theorem c_X4_splitCell (l : Launch) (D : va_G) (cI cQ : ClassId) (q : Nat → Nat) (S : CS) (pa : Int32) (T1 : CS) (hT1 : T1 = splS S pa) : zWR l yX4_splitCell (Cond.code yX4_splitCell cX4_splitCell 8 (none) :: zT) 4 102 [.ref (q 0), .int pa] D cI cQ (zSta cI q S) none (zSta cI q T1) := by
  refine zWR.of (cc := cX4_splitCell) (maxL := 8) (ret := none) (by decide +kernel) rfl (Nat.le_of_ble_eq_true rfl) ?_
  intro pg e s mi args below meth cd hx hb hr hts hown hlocks hml hP hD hS hK ls hl
  have hz : ∀ w ∈ zT, w.before args s = true := fun w h => hts w (List.mem_cons_of_mem _ h)
  have hl : lv_has ls 8 [(0, .ref (q 0)), (1, .int (pa))] := hl
  refine lv_aload_n hx hb dX4_splitCell_0 rfl (lv_at hl 0 rfl) ?_
  refine va_get (D := D) (ci := 4) (v := .ref (q 6)) (C := RX4) (T := TX4) (N := 5) hx hb hz inZ4 hown hK.1 hP 0 rfl rfl 3 (by decide) (hz _ q1_93) (fun _ h9 => h9) rfl dX4_splitCell_1 ?_
  refine lv_iload_n hx hb dX4_splitCell_4 rfl (lv_at hl 1 rfl) ?_
  refine z_ro (va_runV (As := [.int (pa)]) (rest := []) ⟨hx, hb, hml, hown, hz⟩ (c_X2_leftOf l D cI cQ q S pa) (zcwV 1 hz q1_216 q1_217 q1_218 q1_4 q1_219 hd_X2_leftOf (Nat.le_of_ble_eq_true rfl) (Nat.le_of_ble_eq_true rfl)) (z_pv (ci := 2) (q := (RX2, TX2, 4)) hK (hP.sub (ws' := zPar cI q S) [6, 7, 8, 9] rfl) rfl rfl) rfl rfl hl.1 rfl (lv_room (Nat.le_of_ble_eq_true rfl)) dX4_splitCell_5 ⟨(Nat.le_of_ble_eq_true rfl), (Nat.le_of_ble_eq_true rfl)⟩) ?_
  refine lv_istore_n (lv' := [(2, .int (rLe S pa)), (0, .ref (q 0)), (1, .int (pa))]) hx hb dX4_splitCell_8 rfl hl (by decide) rfl (fun ls hl => ?_)
  refine lv_aload_n hx hb dX4_splitCell_9 rfl (lv_at hl 1 rfl) ?_
  refine va_get (D := D) (ci := 4) (v := .ref (q 6)) (C := RX4) (T := TX4) (N := 5) hx hb hz inZ4 hown hK.1 hP 0 rfl rfl 3 (by decide) (hz _ q1_93) (fun _ h9 => h9) rfl dX4_splitCell_10 ?_
  refine lv_iload_n hx hb dX4_splitCell_13 rfl (lv_at hl 2 rfl) ?_
  refine z_ro (va_runV (As := [.int (pa)]) (rest := []) ⟨hx, hb, hml, hown, hz⟩ (c_X2_topOf l D cI cQ q S pa) (zcwV 1 hz q1_220 q1_221 q1_222 q1_4 q1_223 hd_X2_topOf (Nat.le_of_ble_eq_true rfl) (Nat.le_of_ble_eq_true rfl)) (z_pv (ci := 2) (q := (RX2, TX2, 4)) hK (hP.sub (ws' := zPar cI q S) [6, 7, 8, 9] rfl) rfl rfl) rfl rfl hl.1 rfl (lv_room (Nat.le_of_ble_eq_true rfl)) dX4_splitCell_14 ⟨(Nat.le_of_ble_eq_true rfl), (Nat.le_of_ble_eq_true rfl)⟩) ?_
  refine lv_istore_n (lv' := [(3, .int (rTo S pa)), (2, .int (rLe S pa)), (0, .ref (q 0)), (1, .int (pa))]) hx hb dX4_splitCell_17 rfl hl (by decide) rfl (fun ls hl => ?_)
  refine lv_aload_n hx hb dX4_splitCell_18 rfl (lv_at hl 2 rfl) ?_
  refine va_get (D := D) (ci := 4) (v := .ref (q 6)) (C := RX4) (T := TX4) (N := 5) hx hb hz inZ4 hown hK.1 hP 0 rfl rfl 3 (by decide) (hz _ q1_93) (fun _ h9 => h9) rfl dX4_splitCell_19 ?_
  refine lv_iload_n hx hb dX4_splitCell_22 rfl (lv_at hl 3 rfl) ?_
  refine z_ro (va_runV (As := [.int (pa)]) (rest := []) ⟨hx, hb, hml, hown, hz⟩ (c_X2_scaleOf l D cI cQ q S pa) (zcwV 1 hz q1_208 q1_209 q1_210 q1_4 q1_211 hd_X2_scaleOf (Nat.le_of_ble_eq_true rfl) (Nat.le_of_ble_eq_true rfl)) (z_pv (ci := 2) (q := (RX2, TX2, 4)) hK (hP.sub (ws' := zPar cI q S) [6, 7, 8, 9] rfl) rfl rfl) rfl rfl hl.1 rfl (lv_room (Nat.le_of_ble_eq_true rfl)) dX4_splitCell_23 ⟨(Nat.le_of_ble_eq_true rfl), (Nat.le_of_ble_eq_true rfl)⟩) ?_
  refine lv_iconst (v := 1) hx hb dX4_splitCell_26 (by decide) ?_
  refine lv_iadd hx hb dX4_splitCell_27 ?_
  refine lv_istore (lv' := [(4, .int (spSc S pa)), (3, .int (rTo S pa)), (2, .int (rLe S pa)), (0, .ref (q 0)), (1, .int (pa))]) hx hb dX4_splitCell_28 hl (by decide) rfl (fun ls hl => ?_)
  refine lv_iload hx hb dX4_splitCell_30 (lv_at hl 0 rfl) ?_
  refine z_ro (va_runSN (As := [.int (spSc S pa)]) (rest := []) ⟨hx, hb, hml, hown, hz⟩ (c_X5_sideOf l D cI cQ (spSc S pa)) (zcnS 1 hz q1_188 q1_1 q1_189 (hK.2.2.2.2.2.2.2.2.1) hd_X5_sideOf (Nat.le_of_ble_eq_true rfl) (Nat.le_of_ble_eq_true rfl)) (z_ps hK z_nil) rfl rfl hl.1 rfl (lv_room (Nat.le_of_ble_eq_true rfl)) dX4_splitCell_32 ⟨(Nat.le_of_ble_eq_true rfl), (Nat.le_of_ble_eq_true rfl)⟩) ?_
  refine lv_istore (lv' := [(5, .int (spSd S pa)), (4, .int (spSc S pa)), (3, .int (rTo S pa)), (2, .int (rLe S pa)), (0, .ref (q 0)), (1, .int (pa))]) hx hb dX4_splitCell_35 hl (by decide) rfl (fun ls hl => ?_)
  refine lv_aload_n hx hb dX4_splitCell_37 rfl (lv_at hl 4 rfl) ?_
  refine lv_iload_n hx hb dX4_splitCell_38 rfl (lv_at hl 3 rfl) ?_
  refine lv_iload_n hx hb dX4_splitCell_39 rfl (lv_at hl 2 rfl) ?_
  refine lv_iload hx hb dX4_splitCell_40 (lv_at hl 0 rfl) ?_
  refine z_ro (va_runV (As := [.int (rLe S pa), .int (rTo S pa), .int (spSd S pa)]) (rest := []) ⟨hx, hb, hml, hown, hz⟩ (c_X4_fullestQuarter l D cI cQ q S (rLe S pa) (rTo S pa) (spSd S pa)) (zcwV 3 hz q2_12 q2_14 qs_3 q1_2 q2_15 hd_X4_fullestQuarter (Nat.le_of_ble_eq_true rfl) (Nat.le_of_ble_eq_true rfl)) (z_pv (ci := 4) (q := (RX4, TX4, 5)) hK hP rfl rfl) rfl rfl hl.1 rfl (lv_room (Nat.le_of_ble_eq_true rfl)) dX4_splitCell_42 ⟨(Nat.le_of_ble_eq_true rfl), (Nat.le_of_ble_eq_true rfl)⟩) ?_
  refine lv_istore (lv' := [(6, .int (spKe S pa)), (5, .int (spSd S pa)), (4, .int (spSc S pa)), (3, .int (rTo S pa)), (2, .int (rLe S pa)), (0, .ref (q 0)), (1, .int (pa))]) hx hb dX4_splitCell_45 hl (by decide) rfl (fun ls hl => ?_)
  refine lv_iconst (v := 0) hx hb dX4_splitCell_47 (by decide) ?_
  refine lv_istore (lv' := [(7, .int (0 : Int32)), (6, .int (spKe S pa)), (5, .int (spSd S pa)), (4, .int (spSc S pa)), (3, .int (rTo S pa)), (2, .int (rLe S pa)), (0, .ref (q 0)), (1, .int (pa))]) hx hb dX4_splitCell_48 hl (by decide) rfl (fun ls hl => ?_)
  have L50 : ∀ (n50 k50 : Nat), k50 ≤ 4 → 4 < k50 + n50 → ∀ (H : Heap) (locs : List Loc), va_P D vwCl (zSta cI q (spK S pa k50)) H → va_D (zA (zSta cI q S)) (zSta cI q (spK S pa k50)) → va_S (zA (zSta cI q S)) s.heap H locs → ∀ (ls : Array Slot), lv_has ls 8 [(7, .int (nI k50)), (6, .int (spKe S pa)), (5, .int (spSd S pa)), (4, .int (spSc S pa)), (3, .int (rTo S pa)), (2, .int (rLe S pa)), (0, .ref (q 0)), (1, .int (pa))] → W pg l e ({ frames := 4, cells := 0, slots := 0, locals := 102 }) s mi args below meth cd H locs 0 0 (MQ below (zQ D (zSta cI q S) none (zSta cI q T1)) args s 0 0 (zA (zSta cI q S))) (F0 mi 50 ls []) := by
    intro n50
    induction n50 with
    | zero => intro k50 h1 h2; exact absurd h2 (by omega)
    | succ n50 ih50 =>
      intro k50 h1_50 h2_50  H locs hP hD hS ls hl
      refine lv_iload hx hb dX4_splitCell_50 (lv_at hl 0 rfl) ?_
      refine lv_iconst (v := 4) hx hb dX4_splitCell_52 (by decide) ?_
      refine lv_icmp_ge (tgt := 92) hx hb dX4_splitCell_53 (by decide) (fun c_53 => ?_) (fun c_53 => ?_)
      · have c_53 : ((4 : Int32) : Int32) ≤ nI k50 := c_53
        have hk_50 : k50 = 4 := z_exit (by decide) h1_50 c_53
        refine lv_aload_n hx hb dX4_splitCell_92 rfl (lv_at hl 6 rfl) ?_
        refine va_get (D := D) (ci := 4) (v := .ref (q 6)) (C := RX4) (T := TX4) (N := 5) hx hb hz inZ4 hown hK.1 hP 0 rfl rfl 3 (by decide) (hz _ q1_93) (fun _ h9 => h9) rfl dX4_splitCell_93 ?_
        refine lv_iload_n hx hb dX4_splitCell_96 rfl (lv_at hl 7 rfl) ?_
        refine lv_iload_n hx hb dX4_splitCell_97 rfl (lv_at hl 5 rfl) ?_
        refine lv_iload hx hb dX4_splitCell_98 (lv_at hl 2 rfl) ?_
        refine lv_iload hx hb dX4_splitCell_100 (lv_at hl 1 rfl) ?_
        refine z_ro (va_runSN (As := [.int (rLe S pa), .int (spSd S pa), .int (spKe S pa)]) (rest := [.int (pa), .ref (q 6)]) ⟨hx, hb, hml, hown, hz⟩ (c_X5_quarterLeft l D cI cQ (rLe S pa) (spSd S pa) (spKe S pa)) (zcnS 3 hz q2_17 q1_1 q2_18 (hK.2.2.2.2.2.2.2.2.2.1) hd_X5_quarterLeft (Nat.le_of_ble_eq_true rfl) (Nat.le_of_ble_eq_true rfl)) (z_ps hK z_nil) rfl rfl hl.1 rfl (lv_room (Nat.le_of_ble_eq_true rfl)) dX4_splitCell_102 ⟨(Nat.le_of_ble_eq_true rfl), (Nat.le_of_ble_eq_true rfl)⟩) ?_
        refine lv_iload_n hx hb dX4_splitCell_105 rfl (lv_at hl 4 rfl) ?_
        refine lv_iload hx hb dX4_splitCell_106 (lv_at hl 2 rfl) ?_
        refine lv_iload hx hb dX4_splitCell_108 (lv_at hl 1 rfl) ?_
        refine z_ro (va_runSN (As := [.int (rTo S pa), .int (spSd S pa), .int (spKe S pa)]) (rest := [.int (qLef (rLe S pa) (spSd S pa) (spKe S pa)), .int (pa), .ref (q 6)]) ⟨hx, hb, hml, hown, hz⟩ (c_X5_quarterTop l D cI cQ (rTo S pa) (spSd S pa) (spKe S pa)) (zcnS 3 hz q2_20 q1_1 q2_21 (hK.2.2.2.2.2.2.2.2.2.2.1) hd_X5_quarterTop (Nat.le_of_ble_eq_true rfl) (Nat.le_of_ble_eq_true rfl)) (z_ps hK z_nil) rfl rfl hl.1 rfl (lv_room (Nat.le_of_ble_eq_true rfl)) dX4_splitCell_110 ⟨(Nat.le_of_ble_eq_true rfl), (Nat.le_of_ble_eq_true rfl)⟩) ?_
        refine lv_iload hx hb dX4_splitCell_113 (lv_at hl 3 rfl) ?_
        obtain ⟨g_1, hg_1⟩ : ∃ z : FI, z = rGiv ((sLe (spK S pa k50))) pa (qLef (rLe S pa) (spSd S pa) (spKe S pa)) := ⟨_, rfl⟩
        obtain ⟨g_2, hg_2⟩ : ∃ z : FI, z = rGiv ((sTo (spK S pa k50))) pa (qTop (rTo S pa) (spSd S pa) (spKe S pa)) := ⟨_, rfl⟩
        obtain ⟨g_3, hg_3⟩ : ∃ z : FI, z = rGiv ((sSc (spK S pa k50))) pa (spSc S pa) := ⟨_, rfl⟩
        refine z_wv (X' := zSta cI q (uSc (uTo (uLe (spK S pa k50) g_1) g_2) g_3)) (va_runV (As := [.int (pa), .int (qLef (rLe S pa) (spSd S pa) (spKe S pa)), .int (qTop (rTo S pa) (spSd S pa) (spKe S pa)), .int (spSc S pa)]) (rest := []) ⟨hx, hb, hml, hown, hz⟩ (c_X2_giveCell l D cI cQ q (spK S pa k50) pa (qLef (rLe S pa) (spSd S pa) (spKe S pa)) (qTop (rTo S pa) (spSd S pa) (spKe S pa)) (spSc S pa) g_1 hg_1 g_2 hg_2 g_3 hg_3) (zcwV 4 hz q2_42 q1_61 q1_62 q1_4 q1_63 hd_X2_giveCell (Nat.le_of_ble_eq_true rfl) (Nat.le_of_ble_eq_true rfl)) (z_pvw (ci := 2) (q := (RX2, TX2, 4)) hK (hP.sub (ws' := zPar cI q (spK S pa k50)) [6, 7, 8, 9] rfl) (hD.sub (ws' := zPar cI q (spK S pa k50)) [6, 7, 8, 9] (by decide) rfl) rfl rfl) rfl rfl hl.1 rfl (lv_room (Nat.le_of_ble_eq_true rfl)) dX4_splitCell_115 ⟨(Nat.le_of_ble_eq_true rfl), (Nat.le_of_ble_eq_true rfl)⟩) hP hD hS [6, 7, 8, 9] rfl rfl rfl (fun H locs hP hD hS => ?_)
        exact z_wvret hx hb hr hlocks hP hS (congrArg (fun T => zSta cI q T) (show uSc (uTo (uLe (spK S pa k50) g_1) g_2) g_3 = T1 from by (try simp only [hg_3, hg_2, hg_1, hT1]) <;> (rw [hk_50, splS, gvS]))) dX4_splitCell_118
      · have c_53 : ¬ (((4 : Int32) : Int32) ≤ nI k50) := c_53
        have hk_50 : k50 < 4 := z_cont (by decide) h1_50 c_53
        refine lv_iload hx hb dX4_splitCell_56 (lv_at hl 0 rfl) ?_
        refine lv_iload hx hb dX4_splitCell_58 (lv_at hl 1 rfl) ?_
        refine lv_icmp_eq (tgt := 86) hx hb dX4_splitCell_60 (by decide) (fun c_60 => ?_) (fun c_60 => ?_)
        · have c_60 : (nI k50 : Int32) = spKe S pa := c_60
          refine lv_iinc (v := (nI k50) + 1) (lv' := [(7, .int ((nI k50) + 1)), (6, .int (spKe S pa)), (5, .int (spSd S pa)), (4, .int (spSc S pa)), (3, .int (rTo S pa)), (2, .int (rLe S pa)), (0, .ref (q 0)), (1, .int (pa))]) hx hb dX4_splitCell_86 hl (k := 0) rfl rfl (by decide) rfl (fun ls hl => ?_)
          refine lv_goto (tgt := 50) hx hb dX4_splitCell_89 (by decide) ?_
          have e50_7 : (nI (k50 + 1) : Int32) = (nI k50) + 1 := (nI_1 _).symm
          have eS50 : spK S pa (k50 + 1) = spK S pa k50 := by simp only [spK, c_60, if_true, if_false]
          exact ih50 (k50 + 1) (by omega) (by omega) H locs (by rw [eS50]; exact hP) (by rw [eS50]; exact hD) hS _ (by (try rw [e50_7]); exact lv_sub hl [0, 1, 2, 3, 4, 5, 6, 7] rfl)
        · have c_60 : ¬ ((nI k50 : Int32) = spKe S pa) := c_60
          refine lv_aload_n hx hb dX4_splitCell_63 rfl (lv_at hl 6 rfl) ?_
          refine lv_iload_n hx hb dX4_splitCell_64 rfl (lv_at hl 5 rfl) ?_
          refine lv_iload hx hb dX4_splitCell_65 (lv_at hl 2 rfl) ?_
          refine lv_iload hx hb dX4_splitCell_67 (lv_at hl 0 rfl) ?_
          refine z_ro (va_runSN (As := [.int (rLe S pa), .int (spSd S pa), .int (nI k50)]) (rest := [.ref (q 0)]) ⟨hx, hb, hml, hown, hz⟩ (c_X5_quarterLeft l D cI cQ (rLe S pa) (spSd S pa) (nI k50)) (zcnS 3 hz q2_17 q1_1 q2_18 (hK.2.2.2.2.2.2.2.2.2.1) hd_X5_quarterLeft (Nat.le_of_ble_eq_true rfl) (Nat.le_of_ble_eq_true rfl)) (z_ps hK z_nil) rfl rfl hl.1 rfl (lv_room (Nat.le_of_ble_eq_true rfl)) dX4_splitCell_69 ⟨(Nat.le_of_ble_eq_true rfl), (Nat.le_of_ble_eq_true rfl)⟩) ?_
          refine lv_iload_n hx hb dX4_splitCell_72 rfl (lv_at hl 4 rfl) ?_
          refine lv_iload hx hb dX4_splitCell_73 (lv_at hl 2 rfl) ?_
          refine lv_iload hx hb dX4_splitCell_75 (lv_at hl 0 rfl) ?_
          refine z_ro (va_runSN (As := [.int (rTo S pa), .int (spSd S pa), .int (nI k50)]) (rest := [.int (qLef (rLe S pa) (spSd S pa) (nI k50)), .ref (q 0)]) ⟨hx, hb, hml, hown, hz⟩ (c_X5_quarterTop l D cI cQ (rTo S pa) (spSd S pa) (nI k50)) (zcnS 3 hz q2_20 q1_1 q2_21 (hK.2.2.2.2.2.2.2.2.2.2.1) hd_X5_quarterTop (Nat.le_of_ble_eq_true rfl) (Nat.le_of_ble_eq_true rfl)) (z_ps hK z_nil) rfl rfl hl.1 rfl (lv_room (Nat.le_of_ble_eq_true rfl)) dX4_splitCell_77 ⟨(Nat.le_of_ble_eq_true rfl), (Nat.le_of_ble_eq_true rfl)⟩) ?_
          refine lv_iload hx hb dX4_splitCell_80 (lv_at hl 3 rfl) ?_
          refine lv_iload_n hx hb dX4_splitCell_82 rfl (lv_at hl 7 rfl) ?_
          obtain ⟨g_4, hg_4⟩ : ∃ z : CS, z = fnS (spK S pa k50) (qLef (rLe S pa) (spSd S pa) (nI k50)) (qTop (rTo S pa) (spSd S pa) (nI k50)) (spSc S pa) pa := ⟨_, rfl⟩
          refine z_wv (X' := zSta cI q g_4) (va_runV (As := [.int (qLef (rLe S pa) (spSd S pa) (nI k50)), .int (qTop (rTo S pa) (spSd S pa) (nI k50)), .int (spSc S pa), .int (pa)]) (rest := []) ⟨hx, hb, hml, hown, hz⟩ (c_X4_foundIn l D cI cQ q (spK S pa k50) (qLef (rLe S pa) (spSd S pa) (nI k50)) (qTop (rTo S pa) (spSd S pa) (nI k50)) (spSc S pa) pa g_4 hg_4) (zcwV 4 hz q2_22 q2_24 qs_4 q1_2 q2_25 hd_X4_foundIn (Nat.le_of_ble_eq_true rfl) (Nat.le_of_ble_eq_true rfl)) (z_pvw (ci := 4) (q := (RX4, TX4, 5)) hK hP hD rfl rfl) rfl rfl hl.1 rfl (lv_room (Nat.le_of_ble_eq_true rfl)) dX4_splitCell_83 ⟨(Nat.le_of_ble_eq_true rfl), (Nat.le_of_ble_eq_true rfl)⟩) hP hD hS [0, 1, 2, 3, 4, 5, 6, 7, 8, 9, 10, 11] rfl rfl rfl (fun H locs hP hD hS => ?_)
          refine lv_iinc (v := (nI k50) + 1) (lv' := [(7, .int ((nI k50) + 1)), (6, .int (spKe S pa)), (5, .int (spSd S pa)), (4, .int (spSc S pa)), (3, .int (rTo S pa)), (2, .int (rLe S pa)), (0, .ref (q 0)), (1, .int (pa))]) hx hb dX4_splitCell_86 hl (k := 0) rfl rfl (by decide) rfl (fun ls hl => ?_)
          refine lv_goto (tgt := 50) hx hb dX4_splitCell_89 (by decide) ?_
          have e50_7 : (nI (k50 + 1) : Int32) = (nI k50) + 1 := (nI_1 _).symm
          have eS50 : spK S pa (k50 + 1) = g_4 := by (try simp only [hg_4]) <;> (simp only [spK, c_60, if_true, if_false])
          exact ih50 (k50 + 1) (by omega) (by omega) H locs (by rw [eS50]; exact hP) (by rw [eS50]; exact hD) hS _ (by (try rw [e50_7]); exact lv_sub hl [0, 1, 2, 3, 4, 5, 6, 7] rfl)
  have e50_7 : (nI 0 : Int32) = (0 : Int32) := rfl
  have eS50 : spK S pa 0 = S := by rfl
  exact L50 (4 + 1) (0) (Nat.zero_le _) (by omega) s.heap [] (by rw [eS50]; exact hP) (by rw [eS50]; exact hD) hS _ (by (try rw [e50_7]); exact lv_sub hl [0, 1, 2, 3, 4, 5, 6, 7] rfl)
set_option maxHeartbeats 1000000 in
set_option maxRecDepth 100000 in
theorem c_X4_splitCrowded (l : Launch) (D : va_G) (cI cQ : ClassId) (q : Nat → Nat) (S : CS) (T1 : CS) (hT1 : T1 = spG 40 S) : zWR l yX4_splitCrowded (Cond.code yX4_splitCrowded cX4_splitCrowded 3 (none) :: zT) 5 129 [.ref (q 0)] D cI cQ (zSta cI q S) none (zSta cI q T1) := by
  refine zWR.of (cc := cX4_splitCrowded) (maxL := 3) (ret := none) (by decide +kernel) rfl (Nat.le_of_ble_eq_true rfl) ?_
  intro pg e s mi args below meth cd hx hb hr hts hown hlocks hml hP hD hS hK ls hl
  have hz : ∀ w ∈ zT, w.before args s = true := fun w h => hts w (List.mem_cons_of_mem _ h)
  have hl : lv_has ls 3 [(0, .ref (q 0))] := hl
  refine lv_iconst (v := 0) hx hb dX4_splitCrowded_0 (by decide) ?_
  refine lv_istore_n (lv' := [(1, .int (0 : Int32)), (0, .ref (q 0))]) hx hb dX4_splitCrowded_1 rfl hl (by decide) rfl (fun ls hl => ?_)
  have L2 : ∀ (n2 k2 : Nat), k2 ≤ 40 → 40 < k2 + n2 → (spG 40 S = spG (40 - k2) (sCk S k2)) → ∀ (H : Heap) (locs : List Loc), va_P D vwCl (zSta cI q (sCk S k2)) H → va_D (zA (zSta cI q S)) (zSta cI q (sCk S k2)) → va_S (zA (zSta cI q S)) s.heap H locs → ∀ (ls : Array Slot), lv_has ls 3 [(1, .int (nI k2)), (0, .ref (q 0))] → W pg l e ({ frames := 5, cells := 0, slots := 0, locals := 129 }) s mi args below meth cd H locs 0 0 (MQ below (zQ D (zSta cI q S) none (zSta cI q T1)) args s 0 0 (zA (zSta cI q S))) (F0 mi 2 ls []) := by
    intro n2
    induction n2 with
    | zero => intro k2 h1 h2; exact absurd h2 (by omega)
    | succ n2 ih2 =>
      intro k2 h1_2 h2_2 he H locs hP hD hS ls hl
      refine lv_iload_n hx hb dX4_splitCrowded_2 rfl (lv_at hl 0 rfl) ?_
      refine lv_bipush (v := 40) hx hb dX4_splitCrowded_3 (by decide) ?_
      refine lv_icmp_ge (tgt := 31) hx hb dX4_splitCrowded_5 (by decide) (fun c_5 => ?_) (fun c_5 => ?_)
      · have c_5 : ((40 : Int32) : Int32) ≤ nI k2 := c_5
        have hk_2 : k2 = 40 := z_exit (by decide) h1_2 c_5
        exact z_wvret hx hb hr hlocks hP hS (congrArg (fun T => zSta cI q T) (show sCk S k2 = T1 from by (try simp only [hT1]) <;> (rw [he, hk_2]; rfl))) dX4_splitCrowded_31
      · have c_5 : ¬ (((40 : Int32) : Int32) ≤ nI k2) := c_5
        have hk_2 : k2 < 40 := z_cont (by decide) h1_2 c_5
        refine lv_aload_n hx hb dX4_splitCrowded_8 rfl (lv_at hl 1 rfl) ?_
        refine z_ro (va_runV (As := []) (rest := []) ⟨hx, hb, hml, hown, hz⟩ (c_X4_firstToSplit l D cI cQ q (sCk S k2)) (zcwV 0 hz q1_199 q1_201 qs_1 q1_2 q1_202 hd_X4_firstToSplit (Nat.le_of_ble_eq_true rfl) (Nat.le_of_ble_eq_true rfl)) (z_pv (ci := 4) (q := (RX4, TX4, 5)) hK hP rfl rfl) rfl rfl hl.1 rfl (lv_room (Nat.le_of_ble_eq_true rfl)) dX4_splitCrowded_9 ⟨(Nat.le_of_ble_eq_true rfl), (Nat.le_of_ble_eq_true rfl)⟩) ?_
        refine lv_istore_n (lv' := [(2, .int (fSp (sCk S k2))), (1, .int (nI k2)), (0, .ref (q 0))]) hx hb dX4_splitCrowded_12 rfl hl (by decide) rfl (fun ls hl => ?_)
        refine lv_iload_n hx hb dX4_splitCrowded_13 rfl (lv_at hl 0 rfl) ?_
        refine lv_bipush (v := (-9)) hx hb dX4_splitCrowded_14 (by decide) ?_
        refine lv_icmp_ne (tgt := 20) hx hb dX4_splitCrowded_16 (by decide) (fun c_16 => ?_) (fun c_16 => ?_)
        · have c_16 : ¬ ((fSp (sCk S k2) : Int32) = (-9 : Int32)) := c_16
          refine lv_aload_n hx hb dX4_splitCrowded_20 rfl (lv_at hl 2 rfl) ?_
          refine lv_iload_n hx hb dX4_splitCrowded_21 rfl (lv_at hl 0 rfl) ?_
          obtain ⟨g_1, hg_1⟩ : ∃ z : CS, z = splS (sCk S k2) (fSp (sCk S k2)) := ⟨_, rfl⟩
          refine z_wv (X' := zSta cI q g_1) (va_runV (As := [.int (fSp (sCk S k2))]) (rest := []) ⟨hx, hb, hml, hown, hz⟩ (c_X4_splitCell l D cI cQ q (sCk S k2) (fSp (sCk S k2)) g_1 hg_1) (zcwV 1 hz q2_7 q2_9 qs_2 q1_2 q2_10 hd_X4_splitCell (Nat.le_of_ble_eq_true rfl) (Nat.le_of_ble_eq_true rfl)) (z_pvw (ci := 4) (q := (RX4, TX4, 5)) hK hP hD rfl rfl) rfl rfl hl.1 rfl (lv_room (Nat.le_of_ble_eq_true rfl)) dX4_splitCrowded_22 ⟨(Nat.le_of_ble_eq_true rfl), (Nat.le_of_ble_eq_true rfl)⟩) hP hD hS [0, 1, 2, 3, 4, 5, 6, 7, 8, 9, 10, 11] rfl rfl rfl (fun H locs hP hD hS => ?_)
          refine lv_iinc (v := (nI k2) + 1) (lv' := [(1, .int ((nI k2) + 1)), (2, .int (fSp (sCk S k2))), (0, .ref (q 0))]) hx hb dX4_splitCrowded_25 hl (k := 1) rfl rfl (by decide) rfl (fun ls hl => ?_)
          refine lv_goto (tgt := 2) hx hb dX4_splitCrowded_28 (by decide) ?_
          have e2_1 : (nI (k2 + 1) : Int32) = (nI k2) + 1 := (nI_1 _).symm
          have eS2 : sCk S (k2 + 1) = g_1 := by (try simp only [hg_1]) <;> (rfl)
          exact ih2 (k2 + 1) (by omega) (by omega) (he.trans (spG_on hk_2 c_16)) H locs (by rw [eS2]; exact hP) (by rw [eS2]; exact hD) hS _ (by (try rw [e2_1]); exact lv_sub hl [0, 2] rfl)
        · have c_16 : (fSp (sCk S k2) : Int32) = (-9 : Int32) := c_16
          exact z_wvret hx hb hr hlocks hP hS (congrArg (fun T => zSta cI q T) (show sCk S k2 = T1 from by (try simp only [hT1]) <;> (exact (he.trans (spG_stop hk_2 c_16)).symm))) dX4_splitCrowded_19
  have e2_1 : (nI 0 : Int32) = (0 : Int32) := rfl
  have eS2 : sCk S 0 = S := by rfl
  exact L2 (40 + 1) (0) (Nat.zero_le _) (by omega) (rfl) s.heap [] (by rw [eS2]; exact hP) (by rw [eS2]; exact hD) hS _ (by (try rw [e2_1]); exact lv_sub hl [0, 1] rfl)
set_option maxHeartbeats 1000000 in
set_option maxRecDepth 100000 in
theorem c_X4_payTithes (l : Launch) (D : va_G) (cI cQ : ClassId) (q : Nat → Nat) (S : CS) (pa : Int32) (T1 : CS) (hT1 : T1 = (pyG pa 40 0 S).2) : zWR l yX4_payTithes (Cond.code yX4_payTithes cX4_payTithes 6 (some .int) :: zT) 3 76 [.ref (q 0), .int pa] D cI cQ (zSta cI q S) (some (.int ((pyG pa 40 0 S).1))) (zSta cI q T1) := by
  refine zWR.of (cc := cX4_payTithes) (maxL := 6) (ret := some .int) (by decide +kernel) rfl (Nat.le_of_ble_eq_true rfl) ?_
  intro pg e s mi args below meth cd hx hb hr hts hown hlocks hml hP hD hS hK ls hl
  have hz : ∀ w ∈ zT, w.before args s = true := fun w h => hts w (List.mem_cons_of_mem _ h)
  have hl : lv_has ls 6 [(0, .ref (q 0)), (1, .int (pa))] := hl
  refine lv_iconst (v := 0) hx hb dX4_payTithes_0 (by decide) ?_
  refine lv_istore_n (lv' := [(2, .int (0 : Int32)), (0, .ref (q 0)), (1, .int (pa))]) hx hb dX4_payTithes_1 rfl hl (by decide) rfl (fun ls hl => ?_)
  refine lv_iconst (v := 0) hx hb dX4_payTithes_2 (by decide) ?_
  refine lv_istore_n (lv' := [(3, .int (0 : Int32)), (2, .int (0 : Int32)), (0, .ref (q 0)), (1, .int (pa))]) hx hb dX4_payTithes_3 rfl hl (by decide) rfl (fun ls hl => ?_)
  have L4 : ∀ (n4 k4 : Nat), k4 ≤ 40 → 40 < k4 + n4 → (pyG pa 40 0 S = pyG pa (40 - k4) k4 (pyK S pa k4)) → ∀ (H : Heap) (locs : List Loc), va_P D vwCl (zSta cI q (pyK S pa k4)) H → va_D (zA (zSta cI q S)) (zSta cI q (pyK S pa k4)) → va_S (zA (zSta cI q S)) s.heap H locs → ∀ (ls : Array Slot), lv_has ls 6 [(3, .int (nI k4)), (2, .int (nI k4)), (0, .ref (q 0)), (1, .int (pa))] → W pg l e ({ frames := 3, cells := 0, slots := 0, locals := 76 }) s mi args below meth cd H locs 0 0 (MQ below (zQ D (zSta cI q S) (some (.int ((pyG pa 40 0 S).1))) (zSta cI q T1)) args s 0 0 (zA (zSta cI q S))) (F0 mi 4 ls []) := by
    intro n4
    induction n4 with
    | zero => intro k4 h1 h2; exact absurd h2 (by omega)
    | succ n4 ih4 =>
      intro k4 h1_4 h2_4 he H locs hP hD hS ls hl
      refine lv_iload_n hx hb dX4_payTithes_4 rfl (lv_at hl 0 rfl) ?_
      refine lv_bipush (v := 40) hx hb dX4_payTithes_5 (by decide) ?_
      refine lv_icmp_ge (tgt := 109) hx hb dX4_payTithes_7 (by decide) (fun c_7 => ?_) (fun c_7 => ?_)
      · have c_7 : ((40 : Int32) : Int32) ≤ nI k4 := c_7
        have hk_4 : k4 = 40 := z_exit (by decide) h1_4 c_7
        refine lv_iload_n hx hb dX4_payTithes_109 rfl (lv_at hl 1 rfl) ?_
        exact z_wiret hx hb hr rfl hlocks hP hS (by (try simp only [hT1]) <;> (rw [he, hk_4]; rfl)) (congrArg (fun T => zSta cI q T) (show pyK S pa k4 = T1 from by (try simp only [hT1]) <;> (rw [he, hk_4]; rfl))) dX4_payTithes_110
      · have c_7 : ¬ (((40 : Int32) : Int32) ≤ nI k4) := c_7
        have hk_4 : k4 < 40 := z_cont (by decide) h1_4 c_7
        refine lv_aload_n hx hb dX4_payTithes_10 rfl (lv_at hl 2 rfl) ?_
        refine va_get (D := D) (ci := 4) (v := .ref (q 10)) (C := RX4) (T := TX4) (N := 5) hx hb hz inZ4 hown hK.1 hP 0 rfl rfl 4 (by decide) (hz _ q1_95) (fun _ h9 => h9) rfl dX4_payTithes_11 ?_
        refine lv_iload_n hx hb dX4_payTithes_14 rfl (lv_at hl 3 rfl) ?_
        refine z_ro (va_runV (As := [.int (pa)]) (rest := []) ⟨hx, hb, hml, hown, hz⟩ (c_X0_firstCreditorOf l D cI cQ q (pyK S pa k4) pa) (zcwV 1 hz q2_106 q2_107 q2_108 q1_5 q2_109 hd_X0_firstCreditorOf (Nat.le_of_ble_eq_true rfl) (Nat.le_of_ble_eq_true rfl)) (z_pv (ci := 0) (q := (RX0, TX0, 1)) hK (hP.sub (ws' := zDeb cI q (pyK S pa k4)) [10, 11] rfl) rfl rfl) rfl rfl hl.1 rfl (lv_room (Nat.le_of_ble_eq_true rfl)) dX4_payTithes_15 ⟨(Nat.le_of_ble_eq_true rfl), (Nat.le_of_ble_eq_true rfl)⟩) ?_
        refine lv_istore (lv' := [(4, .int (pyC (pyK S pa k4) pa)), (3, .int (nI k4)), (2, .int (nI k4)), (0, .ref (q 0)), (1, .int (pa))]) hx hb dX4_payTithes_18 hl (by decide) rfl (fun ls hl => ?_)
        refine lv_aload_n hx hb dX4_payTithes_20 rfl (lv_at hl 3 rfl) ?_
        refine va_get (D := D) (ci := 4) (v := .ref (q 1)) (C := RX4) (T := TX4) (N := 5) hx hb hz inZ4 hown hK.1 hP 0 rfl rfl 2 (by decide) (hz _ q1_91) (fun _ h9 => h9) rfl dX4_payTithes_21 ?_
        refine lv_iload_n hx hb dX4_payTithes_24 rfl (lv_at hl 4 rfl) ?_
        refine lv_aload_n hx hb dX4_payTithes_25 rfl (lv_at hl 3 rfl) ?_
        refine va_get (D := D) (ci := 4) (v := .ref (q 6)) (C := RX4) (T := TX4) (N := 5) hx hb hz inZ4 hown hK.1 hP 0 rfl rfl 3 (by decide) (hz _ q1_93) (fun _ h9 => h9) rfl dX4_payTithes_26 ?_
        refine lv_iload_n hx hb dX4_payTithes_29 rfl (lv_at hl 4 rfl) ?_
        refine z_ro (va_runV (As := [.int (pa)]) (rest := [.int (pa), .ref (q 1)]) ⟨hx, hb, hml, hown, hz⟩ (c_X2_leftOf l D cI cQ q (pyK S pa k4) pa) (zcwV 1 hz q1_216 q1_217 q1_218 q1_4 q1_219 hd_X2_leftOf (Nat.le_of_ble_eq_true rfl) (Nat.le_of_ble_eq_true rfl)) (z_pv (ci := 2) (q := (RX2, TX2, 4)) hK (hP.sub (ws' := zPar cI q (pyK S pa k4)) [6, 7, 8, 9] rfl) rfl rfl) rfl rfl hl.1 rfl (lv_room (Nat.le_of_ble_eq_true rfl)) dX4_payTithes_30 ⟨(Nat.le_of_ble_eq_true rfl), (Nat.le_of_ble_eq_true rfl)⟩) ?_
        refine lv_aload_n hx hb dX4_payTithes_33 rfl (lv_at hl 3 rfl) ?_
        refine va_get (D := D) (ci := 4) (v := .ref (q 6)) (C := RX4) (T := TX4) (N := 5) hx hb hz inZ4 hown hK.1 hP 0 rfl rfl 3 (by decide) (hz _ q1_93) (fun _ h9 => h9) rfl dX4_payTithes_34 ?_
        refine lv_iload_n hx hb dX4_payTithes_37 rfl (lv_at hl 4 rfl) ?_
        refine z_ro (va_runV (As := [.int (pa)]) (rest := [.int (rLe (pyK S pa k4) pa), .int (pa), .ref (q 1)]) ⟨hx, hb, hml, hown, hz⟩ (c_X2_topOf l D cI cQ q (pyK S pa k4) pa) (zcwV 1 hz q1_220 q1_221 q1_222 q1_4 q1_223 hd_X2_topOf (Nat.le_of_ble_eq_true rfl) (Nat.le_of_ble_eq_true rfl)) (z_pv (ci := 2) (q := (RX2, TX2, 4)) hK (hP.sub (ws' := zPar cI q (pyK S pa k4)) [6, 7, 8, 9] rfl) rfl rfl) rfl rfl hl.1 rfl (lv_room (Nat.le_of_ble_eq_true rfl)) dX4_payTithes_38 ⟨(Nat.le_of_ble_eq_true rfl), (Nat.le_of_ble_eq_true rfl)⟩) ?_
        refine lv_aload_n hx hb dX4_payTithes_41 rfl (lv_at hl 3 rfl) ?_
        refine va_get (D := D) (ci := 4) (v := .ref (q 6)) (C := RX4) (T := TX4) (N := 5) hx hb hz inZ4 hown hK.1 hP 0 rfl rfl 3 (by decide) (hz _ q1_93) (fun _ h9 => h9) rfl dX4_payTithes_42 ?_
        refine lv_iload_n hx hb dX4_payTithes_45 rfl (lv_at hl 4 rfl) ?_
        refine z_ro (va_runV (As := [.int (pa)]) (rest := [.int (rTo (pyK S pa k4) pa), .int (rLe (pyK S pa k4) pa), .int (pa), .ref (q 1)]) ⟨hx, hb, hml, hown, hz⟩ (c_X2_rightOf l D cI cQ q (pyK S pa k4) pa) (zcwV 1 hz q1_224 q1_225 q1_226 q1_4 q1_227 hd_X2_rightOf (Nat.le_of_ble_eq_true rfl) (Nat.le_of_ble_eq_true rfl)) (z_pv (ci := 2) (q := (RX2, TX2, 4)) hK (hP.sub (ws' := zPar cI q (pyK S pa k4)) [6, 7, 8, 9] rfl) rfl rfl) rfl rfl hl.1 rfl (lv_room (Nat.le_of_ble_eq_true rfl)) dX4_payTithes_46 ⟨(Nat.le_of_ble_eq_true rfl), (Nat.le_of_ble_eq_true rfl)⟩) ?_
        refine lv_aload_n hx hb dX4_payTithes_49 rfl (lv_at hl 3 rfl) ?_
        refine va_get (D := D) (ci := 4) (v := .ref (q 6)) (C := RX4) (T := TX4) (N := 5) hx hb hz inZ4 hown hK.1 hP 0 rfl rfl 3 (by decide) (hz _ q1_93) (fun _ h9 => h9) rfl dX4_payTithes_50 ?_
        refine lv_iload_n hx hb dX4_payTithes_53 rfl (lv_at hl 4 rfl) ?_
        refine z_ro (va_runV (As := [.int (pa)]) (rest := [.int (rRi (pyK S pa k4) pa), .int (rTo (pyK S pa k4) pa), .int (rLe (pyK S pa k4) pa), .int (pa), .ref (q 1)]) ⟨hx, hb, hml, hown, hz⟩ (c_X2_bottomOf l D cI cQ q (pyK S pa k4) pa) (zcwV 1 hz q1_230 q1_231 q1_232 q1_4 q1_233 hd_X2_bottomOf (Nat.le_of_ble_eq_true rfl) (Nat.le_of_ble_eq_true rfl)) (z_pv (ci := 2) (q := (RX2, TX2, 4)) hK (hP.sub (ws' := zPar cI q (pyK S pa k4)) [6, 7, 8, 9] rfl) rfl rfl) rfl rfl hl.1 rfl (lv_room (Nat.le_of_ble_eq_true rfl)) dX4_payTithes_54 ⟨(Nat.le_of_ble_eq_true rfl), (Nat.le_of_ble_eq_true rfl)⟩) ?_
        refine z_ro (va_runV (As := [.int (pa), .int (rLe (pyK S pa k4) pa), .int (rTo (pyK S pa k4) pa), .int (rRi (pyK S pa k4) pa), .int (rBo (pyK S pa k4) pa)]) (rest := []) ⟨hx, hb, hml, hown, hz⟩ (c_X3_poorestUnder l D cI cQ q (pyK S pa k4) pa (rLe (pyK S pa k4) pa) (rTo (pyK S pa k4) pa) (rRi (pyK S pa k4) pa) (rBo (pyK S pa k4) pa)) (zcwV 5 hz q2_114 q2_115 q2_116 q1_3 q2_117 hd_X3_poorestUnder (Nat.le_of_ble_eq_true rfl) (Nat.le_of_ble_eq_true rfl)) (z_pv (ci := 3) (q := (RX3, TX3, 5)) hK (hP.sub (ws' := zPts cI q (pyK S pa k4)) [1, 2, 3, 4, 5] rfl) rfl rfl) rfl rfl hl.1 rfl (lv_room (Nat.le_of_ble_eq_true rfl)) dX4_payTithes_57 ⟨(Nat.le_of_ble_eq_true rfl), (Nat.le_of_ble_eq_true rfl)⟩) ?_
        refine lv_istore (lv' := [(5, .int (pyP (pyK S pa k4) pa)), (4, .int (pyC (pyK S pa k4) pa)), (3, .int (nI k4)), (2, .int (nI k4)), (0, .ref (q 0)), (1, .int (pa))]) hx hb dX4_payTithes_60 hl (by decide) rfl (fun ls hl => ?_)
        refine lv_iload hx hb dX4_payTithes_62 (lv_at hl 1 rfl) ?_
        refine lv_bipush (v := (-9)) hx hb dX4_payTithes_64 (by decide) ?_
        refine lv_icmp_eq (tgt := 76) hx hb dX4_payTithes_66 (by decide) (fun c_66 => ?_) (fun c_66 => ?_)
        · have c_66 : (pyC (pyK S pa k4) pa : Int32) = (-9 : Int32) := c_66
          refine lv_iload_n hx hb dX4_payTithes_76 rfl (lv_at hl 3 rfl) ?_
          exact z_wiret hx hb hr rfl hlocks hP hS (by (try simp only [hT1]) <;> (rw [he, pyG_stop hk_4 (by first | exact Or.inl c_66 | exact Or.inr c_73)])) (congrArg (fun T => zSta cI q T) (show pyK S pa k4 = T1 from by (try simp only [hT1]) <;> (rw [he, pyG_stop hk_4 (by first | exact Or.inl c_66 | exact Or.inr c_73)]))) dX4_payTithes_77
        · have c_66 : ¬ ((pyC (pyK S pa k4) pa : Int32) = (-9 : Int32)) := c_66
          refine lv_iload hx hb dX4_payTithes_69 (lv_at hl 0 rfl) ?_
          refine lv_bipush (v := (-9)) hx hb dX4_payTithes_71 (by decide) ?_
          refine lv_icmp_ne (tgt := 78) hx hb dX4_payTithes_73 (by decide) (fun c_73 => ?_) (fun c_73 => ?_)
          · have c_73 : ¬ ((pyP (pyK S pa k4) pa : Int32) = (-9 : Int32)) := c_73
            refine lv_aload_n hx hb dX4_payTithes_78 rfl (lv_at hl 4 rfl) ?_
            refine va_get (D := D) (ci := 4) (v := .ref (q 1)) (C := RX4) (T := TX4) (N := 5) hx hb hz inZ4 hown hK.1 hP 0 rfl rfl 2 (by decide) (hz _ q1_91) (fun _ h9 => h9) rfl dX4_payTithes_79 ?_
            refine lv_iload hx hb dX4_payTithes_82 (lv_at hl 0 rfl) ?_
            refine lv_iload hx hb dX4_payTithes_84 (lv_at hl 1 rfl) ?_
            obtain ⟨g_1, hg_1⟩ : ∃ z : FI, z = pSetAt (pyK S pa k4) ((sL (pyK S pa k4))) (pyP (pyK S pa k4) pa) (pyC (pyK S pa k4) pa) := ⟨_, rfl⟩
            refine z_wv (X' := zSta cI q (uL (pyK S pa k4) g_1)) (va_runV (As := [.int (pyP (pyK S pa k4) pa), .int (pyC (pyK S pa k4) pa)]) (rest := []) ⟨hx, hb, hml, hown, hz⟩ (c_X3_setLord l D cI cQ q (pyK S pa k4) (pyP (pyK S pa k4) pa) (pyC (pyK S pa k4) pa) g_1 hg_1) (zcwV 2 hz q2_85 q2_86 q2_87 q1_3 q2_88 hd_X3_setLord (Nat.le_of_ble_eq_true rfl) (Nat.le_of_ble_eq_true rfl)) (z_pvw (ci := 3) (q := (RX3, TX3, 5)) hK (hP.sub (ws' := zPts cI q (pyK S pa k4)) [1, 2, 3, 4, 5] rfl) (hD.sub (ws' := zPts cI q (pyK S pa k4)) [1, 2, 3, 4, 5] (by decide) rfl) rfl rfl) rfl rfl hl.1 rfl (lv_room (Nat.le_of_ble_eq_true rfl)) dX4_payTithes_86 ⟨(Nat.le_of_ble_eq_true rfl), (Nat.le_of_ble_eq_true rfl)⟩) hP hD hS [1, 2, 3, 4, 5] rfl rfl rfl (fun H locs hP hD hS => ?_)
            refine lv_aload_n hx hb dX4_payTithes_89 rfl (lv_at hl 4 rfl) ?_
            refine va_get (D := D) (ci := 4) (v := .ref (q 10)) (C := RX4) (T := TX4) (N := 5) hx hb hz inZ4 hown hK.1 hP 0 rfl rfl 4 (by decide) (hz _ q1_95) (fun _ h9 => h9) rfl dX4_payTithes_90 ?_
            refine lv_iload_n hx hb dX4_payTithes_93 rfl (lv_at hl 5 rfl) ?_
            refine lv_iload hx hb dX4_payTithes_94 (lv_at hl 1 rfl) ?_
            refine lv_iconst (v := (-1)) hx hb dX4_payTithes_96 (by decide) ?_
            obtain ⟨g_2, hg_2⟩ : ∃ z : FI, z = dCh ((sD (pyK S pa k4))) pa (pyC (pyK S pa k4) pa) (-1 : Int32) := ⟨_, rfl⟩
            refine z_wv (X' := zSta cI q (uD (uL (pyK S pa k4) g_1) g_2)) (va_runV (As := [.int (pa), .int (pyC (pyK S pa k4) pa), .int (-1 : Int32)]) (rest := []) ⟨hx, hb, hml, hown, hz⟩ (c_X0_change l D cI cQ q (uL (pyK S pa k4) g_1) pa (pyC (pyK S pa k4) pa) (-1 : Int32) g_2 hg_2) (zcwV 3 hz q2_31 q2_32 q2_33 q1_5 q2_34 hd_X0_change (Nat.le_of_ble_eq_true rfl) (Nat.le_of_ble_eq_true rfl)) (z_pvw (ci := 0) (q := (RX0, TX0, 1)) hK (hP.sub (ws' := zDeb cI q (uL (pyK S pa k4) g_1)) [10, 11] rfl) (hD.sub (ws' := zDeb cI q (uL (pyK S pa k4) g_1)) [10, 11] (by decide) rfl) rfl rfl) rfl rfl hl.1 rfl (lv_room (Nat.le_of_ble_eq_true rfl)) dX4_payTithes_97 ⟨(Nat.le_of_ble_eq_true rfl), (Nat.le_of_ble_eq_true rfl)⟩) hP hD hS [10, 11] rfl rfl rfl (fun H locs hP hD hS => ?_)
            refine lv_iinc (v := (nI k4) + 1) (lv' := [(2, .int ((nI k4) + 1)), (5, .int (pyP (pyK S pa k4) pa)), (4, .int (pyC (pyK S pa k4) pa)), (3, .int (nI k4)), (0, .ref (q 0)), (1, .int (pa))]) hx hb dX4_payTithes_100 hl (k := 3) rfl rfl (by decide) rfl (fun ls hl => ?_)
            refine lv_iinc (v := (nI k4) + 1) (lv' := [(3, .int ((nI k4) + 1)), (2, .int ((nI k4) + 1)), (5, .int (pyP (pyK S pa k4) pa)), (4, .int (pyC (pyK S pa k4) pa)), (0, .ref (q 0)), (1, .int (pa))]) hx hb dX4_payTithes_103 hl (k := 3) rfl rfl (by decide) rfl (fun ls hl => ?_)
            refine lv_goto (tgt := 4) hx hb dX4_payTithes_106 (by decide) ?_
            have e4_3 : (nI (k4 + 1) : Int32) = (nI k4) + 1 := (nI_1 _).symm
            have e4_2 : (nI (k4 + 1) : Int32) = (nI k4) + 1 := (by exact (nI_1 _).symm)
            have eS4 : pyK S pa (k4 + 1) = uD (uL (pyK S pa k4) g_1) g_2 := by (try simp only [hg_2, hg_1]) <;> (rfl)
            exact ih4 (k4 + 1) (by omega) (by omega) (he.trans (pyG_on hk_4 c_66 c_73)) H locs (by rw [eS4]; exact hP) (by rw [eS4]; exact hD) hS _ (by (try rw [e4_3]); (try rw [e4_2]); exact lv_sub hl [0, 1, 4, 5] rfl)
          · have c_73 : (pyP (pyK S pa k4) pa : Int32) = (-9 : Int32) := c_73
            refine lv_iload_n hx hb dX4_payTithes_76 rfl (lv_at hl 3 rfl) ?_
            exact z_wiret hx hb hr rfl hlocks hP hS (by (try simp only [hT1]) <;> (rw [he, pyG_stop hk_4 (by first | exact Or.inl c_66 | exact Or.inr c_73)])) (congrArg (fun T => zSta cI q T) (show pyK S pa k4 = T1 from by (try simp only [hT1]) <;> (rw [he, pyG_stop hk_4 (by first | exact Or.inl c_66 | exact Or.inr c_73)]))) dX4_payTithes_77
  have e4_3 : (nI 0 : Int32) = (0 : Int32) := rfl
  have e4_2 : (nI 0 : Int32) = (0 : Int32) := (by rfl)
  have eS4 : pyK S pa 0 = S := by rfl
  exact L4 (40 + 1) (0) (Nat.zero_le _) (by omega) (rfl) s.heap [] (by rw [eS4]; exact hP) (by rw [eS4]; exact hD) hS _ (by (try rw [e4_3]); (try rw [e4_2]); exact lv_sub hl [0, 1, 2, 3] rfl)
set_option maxHeartbeats 1000000 in
set_option maxRecDepth 100000 in
theorem c_X4_payablePoints (l : Launch) (D : va_G) (cI cQ : ClassId) (q : Nat → Nat) (S : CS) (pa : Int32) : zRO l yX4_payablePoints (Cond.code yX4_payablePoints cX4_payablePoints 4 (some .int) :: zT) 4 91 [.ref (q 0), .int pa] D cI cQ (zSta cI q S) (paY S pa) := by
  refine zRO.of (cc := cX4_payablePoints) (maxL := 4) (ret := some .int) (by decide +kernel) rfl (Nat.le_of_ble_eq_true rfl) ?_
  intro pg e s mi args below meth cd hx hb hr hts hown hlocks hml hP hK ls hl
  have hz : ∀ w ∈ zT, w.before args s = true := fun w h => hts w (List.mem_cons_of_mem _ h)
  have hl : lv_has ls 4 [(0, .ref (q 0)), (1, .int (pa))] := hl
  refine lv_iconst (v := 0) hx hb dX4_payablePoints_0 (by decide) ?_
  refine lv_istore_n (lv' := [(2, .int (0 : Int32)), (0, .ref (q 0)), (1, .int (pa))]) hx hb dX4_payablePoints_1 rfl hl (by decide) rfl (fun ls hl => ?_)
  refine lv_iconst (v := 0) hx hb dX4_payablePoints_2 (by decide) ?_
  refine lv_istore_n (lv' := [(3, .int (0 : Int32)), (2, .int (0 : Int32)), (0, .ref (q 0)), (1, .int (pa))]) hx hb dX4_payablePoints_3 rfl hl (by decide) rfl (fun ls hl => ?_)
  have L4 : ∀ (n4 k4 : Nat), k4 ≤ 40 → 40 < k4 + n4 → ∀ (ls : Array Slot), lv_has ls 4 [(3, .int (nI k4)), (2, .int (paN S pa k4)), (0, .ref (q 0)), (1, .int (pa))] → W pg l e ({ frames := 4, cells := 0, slots := 0, locals := 91 }) s mi args below meth cd s.heap [] 0 0 (MQ below (vp_Si (fun r => r = paY S pa)) args s 0 0 (fun _ => False)) (F0 mi 4 ls []) := by
    intro n4
    induction n4 with
    | zero => intro k4 h1 h2; exact absurd h2 (by omega)
    | succ n4 ih4 =>
      intro k4 h1_4 h2_4  ls hl
      refine lv_iload_n hx hb dX4_payablePoints_4 rfl (lv_at hl 0 rfl) ?_
      refine lv_bipush (v := 40) hx hb dX4_payablePoints_5 (by decide) ?_
      refine lv_icmp_ge (tgt := 40) hx hb dX4_payablePoints_7 (by decide) (fun c_7 => ?_) (fun c_7 => ?_)
      · have c_7 : ((40 : Int32) : Int32) ≤ nI k4 := c_7
        have hk_4 : k4 = 40 := z_exit (by decide) h1_4 c_7
        refine lv_iload_n hx hb dX4_payablePoints_40 rfl (lv_at hl 1 rfl) ?_
        refine lv_aload_n hx hb dX4_payablePoints_41 rfl (lv_at hl 2 rfl) ?_
        refine va_get (D := D) (ci := 4) (v := .ref (q 10)) (C := RX4) (T := TX4) (N := 5) hx hb hz inZ4 hown hK.1 hP 0 rfl rfl 4 (by decide) (hz _ q1_95) (fun _ h9 => h9) rfl dX4_payablePoints_42 ?_
        refine lv_iload_n hx hb dX4_payablePoints_45 rfl (lv_at hl 3 rfl) ?_
        refine z_ro (va_runV (As := [.int (pa)]) (rest := [.int (paN S pa k4)]) ⟨hx, hb, hml, hown, hz⟩ (c_X0_owedBy l D cI cQ q S pa) (zcwV 1 hz q3_64 q2_202 q2_203 q1_5 q2_204 hd_X0_owedBy (Nat.le_of_ble_eq_true rfl) (Nat.le_of_ble_eq_true rfl)) (z_pv (ci := 0) (q := (RX0, TX0, 1)) hK (hP.sub (ws' := zDeb cI q S) [10, 11] rfl) rfl rfl) rfl rfl hl.1 rfl (lv_room (Nat.le_of_ble_eq_true rfl)) dX4_payablePoints_46 ⟨(Nat.le_of_ble_eq_true rfl), (Nat.le_of_ble_eq_true rfl)⟩) ?_
        refine va_mmin hx hb (by rw [hml]; exact hl.1.symm) hown (hz _ q2_143) (hz _ q1_169) (hz _ q1_9) (hz _ q1_170) (Nat.le_of_ble_eq_true rfl) (Nat.le_of_ble_eq_true rfl) (Nat.le_of_ble_eq_true rfl) (Nat.le_of_ble_eq_true rfl) dX4_payablePoints_49 ?_
        exact z_iret hx hb hr rfl hlocks (by rw [hk_4]; rfl) dX4_payablePoints_52
      · have c_7 : ¬ (((40 : Int32) : Int32) ≤ nI k4) := c_7
        have hk_4 : k4 < 40 := z_cont (by decide) h1_4 c_7
        refine lv_aload_n hx hb dX4_payablePoints_10 rfl (lv_at hl 2 rfl) ?_
        refine va_get (D := D) (ci := 4) (v := .ref (q 1)) (C := RX4) (T := TX4) (N := 5) hx hb hz inZ4 hown hK.1 hP 0 rfl rfl 2 (by decide) (hz _ q1_91) (fun _ h9 => h9) rfl dX4_payablePoints_11 ?_
        refine lv_iload_n hx hb dX4_payablePoints_14 rfl (lv_at hl 0 rfl) ?_
        refine z_ro (va_runV (As := [.int (nI k4)]) (rest := []) ⟨hx, hb, hml, hown, hz⟩ (c_X3_lordOf l D cI cQ q S (nI k4)) (zcwV 1 hz q2_65 q2_66 q2_67 q1_3 q2_68 hd_X3_lordOf (Nat.le_of_ble_eq_true rfl) (Nat.le_of_ble_eq_true rfl)) (z_pv (ci := 3) (q := (RX3, TX3, 5)) hK (hP.sub (ws' := zPts cI q S) [1, 2, 3, 4, 5] rfl) rfl rfl) rfl rfl hl.1 rfl (lv_room (Nat.le_of_ble_eq_true rfl)) dX4_payablePoints_15 ⟨(Nat.le_of_ble_eq_true rfl), (Nat.le_of_ble_eq_true rfl)⟩) ?_
        refine lv_iload_n hx hb dX4_payablePoints_18 rfl (lv_at hl 3 rfl) ?_
        refine lv_icmp_ne (tgt := 34) hx hb dX4_payablePoints_19 (by decide) (fun c_19 => ?_) (fun c_19 => ?_)
        · have c_19 : ¬ ((pLof S (nI k4) : Int32) = pa) := c_19
          refine lv_iinc (v := (nI k4) + 1) (lv' := [(3, .int ((nI k4) + 1)), (2, .int (paN S pa k4)), (0, .ref (q 0)), (1, .int (pa))]) hx hb dX4_payablePoints_34 hl (k := 0) rfl rfl (by decide) rfl (fun ls hl => ?_)
          refine lv_goto (tgt := 4) hx hb dX4_payablePoints_37 (by decide) ?_
          have e4_3 : (nI (k4 + 1) : Int32) = (nI k4) + 1 := (nI_1 _).symm
          have e4_2 : (paN S pa (k4 + 1) : Int32) = paN S pa k4 := (by simp [paN, c_7, c_19])
          exact ih4 (k4 + 1) (by omega) (by omega) _ (by (try rw [e4_3]); (try rw [e4_2]); exact lv_sub hl [0, 1, 2, 3] rfl)
        · have c_19 : (pLof S (nI k4) : Int32) = pa := c_19
          refine lv_aload_n hx hb dX4_payablePoints_22 rfl (lv_at hl 2 rfl) ?_
          refine lv_iload_n hx hb dX4_payablePoints_23 rfl (lv_at hl 0 rfl) ?_
          refine z_ro (va_runV (As := [.int (nI k4)]) (rest := []) ⟨hx, hb, hml, hown, hz⟩ (c_X4_parishAround l D cI cQ q S (nI k4)) (zcwV 1 hz q2_69 q2_70 q2_71 q1_2 q2_72 hd_X4_parishAround (Nat.le_of_ble_eq_true rfl) (Nat.le_of_ble_eq_true rfl)) (z_pv (ci := 4) (q := (RX4, TX4, 5)) hK hP rfl rfl) rfl rfl hl.1 rfl (lv_room (Nat.le_of_ble_eq_true rfl)) dX4_payablePoints_24 ⟨(Nat.le_of_ble_eq_true rfl), (Nat.le_of_ble_eq_true rfl)⟩) ?_
          refine lv_iload_n hx hb dX4_payablePoints_27 rfl (lv_at hl 3 rfl) ?_
          refine lv_icmp_ne (tgt := 34) hx hb dX4_payablePoints_28 (by decide) (fun c_28 => ?_) (fun c_28 => ?_)
          · have c_28 : ¬ ((aAr S (nI k4) : Int32) = pa) := c_28
            refine lv_iinc (v := (nI k4) + 1) (lv' := [(3, .int ((nI k4) + 1)), (2, .int (paN S pa k4)), (0, .ref (q 0)), (1, .int (pa))]) hx hb dX4_payablePoints_34 hl (k := 0) rfl rfl (by decide) rfl (fun ls hl => ?_)
            refine lv_goto (tgt := 4) hx hb dX4_payablePoints_37 (by decide) ?_
            have e4_3 : (nI (k4 + 1) : Int32) = (nI k4) + 1 := (nI_1 _).symm
            have e4_2 : (paN S pa (k4 + 1) : Int32) = paN S pa k4 := (by simp [paN, c_7, c_19, c_28])
            exact ih4 (k4 + 1) (by omega) (by omega) _ (by (try rw [e4_3]); (try rw [e4_2]); exact lv_sub hl [0, 1, 2, 3] rfl)
          · have c_28 : (aAr S (nI k4) : Int32) = pa := c_28
            refine lv_iinc (v := (paN S pa k4) + 1) (lv' := [(2, .int ((paN S pa k4) + 1)), (3, .int (nI k4)), (0, .ref (q 0)), (1, .int (pa))]) hx hb dX4_payablePoints_31 hl (k := 1) rfl rfl (by decide) rfl (fun ls hl => ?_)
            refine lv_iinc (v := (nI k4) + 1) (lv' := [(3, .int ((nI k4) + 1)), (2, .int ((paN S pa k4) + 1)), (0, .ref (q 0)), (1, .int (pa))]) hx hb dX4_payablePoints_34 hl (k := 1) rfl rfl (by decide) rfl (fun ls hl => ?_)
            refine lv_goto (tgt := 4) hx hb dX4_payablePoints_37 (by decide) ?_
            have e4_3 : (nI (k4 + 1) : Int32) = (nI k4) + 1 := (nI_1 _).symm
            have e4_2 : (paN S pa (k4 + 1) : Int32) = (paN S pa k4) + 1 := (by simp [paN, c_7, c_19, c_28])
            exact ih4 (k4 + 1) (by omega) (by omega) _ (by (try rw [e4_3]); (try rw [e4_2]); exact lv_sub hl [0, 1, 2, 3] rfl)
  have e4_3 : (nI 0 : Int32) = (0 : Int32) := rfl
  have e4_2 : (paN S pa 0 : Int32) = (0 : Int32) := (by rfl)
  exact L4 (40 + 1) (0) (Nat.zero_le _) (by omega) _ (by (try rw [e4_3]); (try rw [e4_2]); exact lv_sub hl [0, 1, 2, 3] rfl)
set_option maxHeartbeats 1000000 in
set_option maxRecDepth 100000 in
theorem c_X4_leftAround (l : Launch) (D : va_G) (cI cQ : ClassId) (q : Nat → Nat) (S : CS) (pa : Int32) : zRO l yX4_leftAround (Cond.code yX4_leftAround cX4_leftAround 2 (some .int) :: zT) 2 42 [.ref (q 0), .int pa] D cI cQ (zSta cI q S) (lAr S pa) := by
  refine zRO.of (cc := cX4_leftAround) (maxL := 2) (ret := some .int) (by decide +kernel) rfl (Nat.le_of_ble_eq_true rfl) ?_
  intro pg e s mi args below meth cd hx hb hr hts hown hlocks hml hP hK ls hl
  have hz : ∀ w ∈ zT, w.before args s = true := fun w h => hts w (List.mem_cons_of_mem _ h)
  have hl : lv_has ls 2 [(0, .ref (q 0)), (1, .int (pa))] := hl
  refine lv_aload_n hx hb dX4_leftAround_0 rfl (lv_at hl 0 rfl) ?_
  refine va_get (D := D) (ci := 4) (v := .ref (q 6)) (C := RX4) (T := TX4) (N := 5) hx hb hz inZ4 hown hK.1 hP 0 rfl rfl 3 (by decide) (hz _ q1_93) (fun _ h9 => h9) rfl dX4_leftAround_1 ?_
  refine lv_iload_n hx hb dX4_leftAround_4 rfl (lv_at hl 1 rfl) ?_
  refine z_ro (va_runV (As := [.int (pa)]) (rest := []) ⟨hx, hb, hml, hown, hz⟩ (c_X2_leftOf l D cI cQ q S pa) (zcwV 1 hz q1_216 q1_217 q1_218 q1_4 q1_219 hd_X2_leftOf (Nat.le_of_ble_eq_true rfl) (Nat.le_of_ble_eq_true rfl)) (z_pv (ci := 2) (q := (RX2, TX2, 4)) hK (hP.sub (ws' := zPar cI q S) [6, 7, 8, 9] rfl) rfl rfl) rfl rfl hl.1 rfl (lv_room (Nat.le_of_ble_eq_true rfl)) dX4_leftAround_5 ⟨(Nat.le_of_ble_eq_true rfl), (Nat.le_of_ble_eq_true rfl)⟩) ?_
  refine lv_aload_n hx hb dX4_leftAround_8 rfl (lv_at hl 0 rfl) ?_
  refine va_get (D := D) (ci := 4) (v := .ref (q 6)) (C := RX4) (T := TX4) (N := 5) hx hb hz inZ4 hown hK.1 hP 0 rfl rfl 3 (by decide) (hz _ q1_93) (fun _ h9 => h9) rfl dX4_leftAround_9 ?_
  refine lv_iload_n hx hb dX4_leftAround_12 rfl (lv_at hl 1 rfl) ?_
  refine z_ro (va_runV (As := [.int (pa)]) (rest := [.int (rLe S pa)]) ⟨hx, hb, hml, hown, hz⟩ (c_X2_scaleOf l D cI cQ q S pa) (zcwV 1 hz q1_208 q1_209 q1_210 q1_4 q1_211 hd_X2_scaleOf (Nat.le_of_ble_eq_true rfl) (Nat.le_of_ble_eq_true rfl)) (z_pv (ci := 2) (q := (RX2, TX2, 4)) hK (hP.sub (ws' := zPar cI q S) [6, 7, 8, 9] rfl) rfl rfl) rfl rfl hl.1 rfl (lv_room (Nat.le_of_ble_eq_true rfl)) dX4_leftAround_13 ⟨(Nat.le_of_ble_eq_true rfl), (Nat.le_of_ble_eq_true rfl)⟩) ?_
  refine z_ro (va_runSN (As := [.int (rSc S pa)]) (rest := [.int (rLe S pa)]) ⟨hx, hb, hml, hown, hz⟩ (c_X5_sideOf l D cI cQ (rSc S pa)) (zcnS 1 hz q1_188 q1_1 q1_189 (hK.2.2.2.2.2.2.2.2.1) hd_X5_sideOf (Nat.le_of_ble_eq_true rfl) (Nat.le_of_ble_eq_true rfl)) (z_ps hK z_nil) rfl rfl hl.1 rfl (lv_room (Nat.le_of_ble_eq_true rfl)) dX4_leftAround_16 ⟨(Nat.le_of_ble_eq_true rfl), (Nat.le_of_ble_eq_true rfl)⟩) ?_
  refine lv_iconst (v := (-1)) hx hb dX4_leftAround_19 (by decide) ?_
  refine lv_ixor hx hb dX4_leftAround_20 ?_
  refine lv_iand hx hb dX4_leftAround_21 ?_
  exact z_iret hx hb hr rfl hlocks (by rfl) dX4_leftAround_22
set_option maxHeartbeats 1000000 in
set_option maxRecDepth 100000 in
theorem c_X4_topAround (l : Launch) (D : va_G) (cI cQ : ClassId) (q : Nat → Nat) (S : CS) (pa : Int32) : zRO l yX4_topAround (Cond.code yX4_topAround cX4_topAround 2 (some .int) :: zT) 2 42 [.ref (q 0), .int pa] D cI cQ (zSta cI q S) (tAr S pa) := by
  refine zRO.of (cc := cX4_topAround) (maxL := 2) (ret := some .int) (by decide +kernel) rfl (Nat.le_of_ble_eq_true rfl) ?_
  intro pg e s mi args below meth cd hx hb hr hts hown hlocks hml hP hK ls hl
  have hz : ∀ w ∈ zT, w.before args s = true := fun w h => hts w (List.mem_cons_of_mem _ h)
  have hl : lv_has ls 2 [(0, .ref (q 0)), (1, .int (pa))] := hl
  refine lv_aload_n hx hb dX4_topAround_0 rfl (lv_at hl 0 rfl) ?_
  refine va_get (D := D) (ci := 4) (v := .ref (q 6)) (C := RX4) (T := TX4) (N := 5) hx hb hz inZ4 hown hK.1 hP 0 rfl rfl 3 (by decide) (hz _ q1_93) (fun _ h9 => h9) rfl dX4_topAround_1 ?_
  refine lv_iload_n hx hb dX4_topAround_4 rfl (lv_at hl 1 rfl) ?_
  refine z_ro (va_runV (As := [.int (pa)]) (rest := []) ⟨hx, hb, hml, hown, hz⟩ (c_X2_topOf l D cI cQ q S pa) (zcwV 1 hz q1_220 q1_221 q1_222 q1_4 q1_223 hd_X2_topOf (Nat.le_of_ble_eq_true rfl) (Nat.le_of_ble_eq_true rfl)) (z_pv (ci := 2) (q := (RX2, TX2, 4)) hK (hP.sub (ws' := zPar cI q S) [6, 7, 8, 9] rfl) rfl rfl) rfl rfl hl.1 rfl (lv_room (Nat.le_of_ble_eq_true rfl)) dX4_topAround_5 ⟨(Nat.le_of_ble_eq_true rfl), (Nat.le_of_ble_eq_true rfl)⟩) ?_
  refine lv_aload_n hx hb dX4_topAround_8 rfl (lv_at hl 0 rfl) ?_
  refine va_get (D := D) (ci := 4) (v := .ref (q 6)) (C := RX4) (T := TX4) (N := 5) hx hb hz inZ4 hown hK.1 hP 0 rfl rfl 3 (by decide) (hz _ q1_93) (fun _ h9 => h9) rfl dX4_topAround_9 ?_
  refine lv_iload_n hx hb dX4_topAround_12 rfl (lv_at hl 1 rfl) ?_
  refine z_ro (va_runV (As := [.int (pa)]) (rest := [.int (rTo S pa)]) ⟨hx, hb, hml, hown, hz⟩ (c_X2_scaleOf l D cI cQ q S pa) (zcwV 1 hz q1_208 q1_209 q1_210 q1_4 q1_211 hd_X2_scaleOf (Nat.le_of_ble_eq_true rfl) (Nat.le_of_ble_eq_true rfl)) (z_pv (ci := 2) (q := (RX2, TX2, 4)) hK (hP.sub (ws' := zPar cI q S) [6, 7, 8, 9] rfl) rfl rfl) rfl rfl hl.1 rfl (lv_room (Nat.le_of_ble_eq_true rfl)) dX4_topAround_13 ⟨(Nat.le_of_ble_eq_true rfl), (Nat.le_of_ble_eq_true rfl)⟩) ?_
  refine z_ro (va_runSN (As := [.int (rSc S pa)]) (rest := [.int (rTo S pa)]) ⟨hx, hb, hml, hown, hz⟩ (c_X5_sideOf l D cI cQ (rSc S pa)) (zcnS 1 hz q1_188 q1_1 q1_189 (hK.2.2.2.2.2.2.2.2.1) hd_X5_sideOf (Nat.le_of_ble_eq_true rfl) (Nat.le_of_ble_eq_true rfl)) (z_ps hK z_nil) rfl rfl hl.1 rfl (lv_room (Nat.le_of_ble_eq_true rfl)) dX4_topAround_16 ⟨(Nat.le_of_ble_eq_true rfl), (Nat.le_of_ble_eq_true rfl)⟩) ?_
  refine lv_iconst (v := (-1)) hx hb dX4_topAround_19 (by decide) ?_
  refine lv_ixor hx hb dX4_topAround_20 ?_
  refine lv_iand hx hb dX4_topAround_21 ?_
  exact z_iret hx hb hr rfl hlocks (by rfl) dX4_topAround_22
set_option maxHeartbeats 1000000 in
set_option maxRecDepth 100000 in
theorem c_X4_parishOfQuarter (l : Launch) (D : va_G) (cI cQ : ClassId) (q : Nat → Nat) (S : CS) (le to sc i : Int32) : zRO l yX4_parishOfQuarter (Cond.code yX4_parishOfQuarter cX4_parishOfQuarter 6 (some .int) :: zT) 3 70 [.ref (q 0), .int le, .int to, .int sc, .int i] D cI cQ (zSta cI q S) (pQu S le to sc i) := by
  refine zRO.of (cc := cX4_parishOfQuarter) (maxL := 6) (ret := some .int) (by decide +kernel) rfl (Nat.le_of_ble_eq_true rfl) ?_
  intro pg e s mi args below meth cd hx hb hr hts hown hlocks hml hP hK ls hl
  have hz : ∀ w ∈ zT, w.before args s = true := fun w h => hts w (List.mem_cons_of_mem _ h)
  have hl : lv_has ls 6 [(0, .ref (q 0)), (1, .int (le)), (2, .int (to)), (3, .int (sc)), (4, .int (i))] := hl
  refine lv_iload_n hx hb dX4_parishOfQuarter_0 rfl (lv_at hl 3 rfl) ?_
  refine z_ro (va_runSN (As := [.int (sc)]) (rest := []) ⟨hx, hb, hml, hown, hz⟩ (c_X5_sideOf l D cI cQ sc) (zcnS 1 hz q1_188 q1_1 q1_189 (hK.2.2.2.2.2.2.2.2.1) hd_X5_sideOf (Nat.le_of_ble_eq_true rfl) (Nat.le_of_ble_eq_true rfl)) (z_ps hK z_nil) rfl rfl hl.1 rfl (lv_room (Nat.le_of_ble_eq_true rfl)) dX4_parishOfQuarter_1 ⟨(Nat.le_of_ble_eq_true rfl), (Nat.le_of_ble_eq_true rfl)⟩) ?_
  refine lv_istore (lv' := [(5, .int (sideF sc)), (0, .ref (q 0)), (1, .int (le)), (2, .int (to)), (3, .int (sc)), (4, .int (i))]) hx hb dX4_parishOfQuarter_4 hl (by decide) rfl (fun ls hl => ?_)
  refine lv_aload_n hx hb dX4_parishOfQuarter_6 rfl (lv_at hl 1 rfl) ?_
  refine va_get (D := D) (ci := 4) (v := .ref (q 6)) (C := RX4) (T := TX4) (N := 5) hx hb hz inZ4 hown hK.1 hP 0 rfl rfl 3 (by decide) (hz _ q1_93) (fun _ h9 => h9) rfl dX4_parishOfQuarter_7 ?_
  refine lv_iload_n hx hb dX4_parishOfQuarter_10 rfl (lv_at hl 2 rfl) ?_
  refine lv_iload hx hb dX4_parishOfQuarter_11 (lv_at hl 0 rfl) ?_
  refine lv_iload hx hb dX4_parishOfQuarter_13 (lv_at hl 5 rfl) ?_
  refine z_ro (va_runSN (As := [.int (le), .int (sideF sc), .int (i)]) (rest := [.ref (q 6)]) ⟨hx, hb, hml, hown, hz⟩ (c_X5_quarterLeft l D cI cQ le (sideF sc) i) (zcnS 3 hz q2_17 q1_1 q2_18 (hK.2.2.2.2.2.2.2.2.2.1) hd_X5_quarterLeft (Nat.le_of_ble_eq_true rfl) (Nat.le_of_ble_eq_true rfl)) (z_ps hK z_nil) rfl rfl hl.1 rfl (lv_room (Nat.le_of_ble_eq_true rfl)) dX4_parishOfQuarter_15 ⟨(Nat.le_of_ble_eq_true rfl), (Nat.le_of_ble_eq_true rfl)⟩) ?_
  refine lv_iload_n hx hb dX4_parishOfQuarter_18 rfl (lv_at hl 3 rfl) ?_
  refine lv_iload hx hb dX4_parishOfQuarter_19 (lv_at hl 0 rfl) ?_
  refine lv_iload hx hb dX4_parishOfQuarter_21 (lv_at hl 5 rfl) ?_
  refine z_ro (va_runSN (As := [.int (to), .int (sideF sc), .int (i)]) (rest := [.int (qLef le (sideF sc) i), .ref (q 6)]) ⟨hx, hb, hml, hown, hz⟩ (c_X5_quarterTop l D cI cQ to (sideF sc) i) (zcnS 3 hz q2_20 q1_1 q2_21 (hK.2.2.2.2.2.2.2.2.2.2.1) hd_X5_quarterTop (Nat.le_of_ble_eq_true rfl) (Nat.le_of_ble_eq_true rfl)) (z_ps hK z_nil) rfl rfl hl.1 rfl (lv_room (Nat.le_of_ble_eq_true rfl)) dX4_parishOfQuarter_23 ⟨(Nat.le_of_ble_eq_true rfl), (Nat.le_of_ble_eq_true rfl)⟩) ?_
  refine z_ro (va_runV (As := [.int (qLef le (sideF sc) i), .int (qTop to (sideF sc) i)]) (rest := []) ⟨hx, hb, hml, hown, hz⟩ (c_X2_parishAt l D cI cQ q S (qLef le (sideF sc) i) (qTop to (sideF sc) i)) (zcwV 2 hz q1_175 q1_176 q1_177 q1_4 q1_178 hd_X2_parishAt (Nat.le_of_ble_eq_true rfl) (Nat.le_of_ble_eq_true rfl)) (z_pv (ci := 2) (q := (RX2, TX2, 4)) hK (hP.sub (ws' := zPar cI q S) [6, 7, 8, 9] rfl) rfl rfl) rfl rfl hl.1 rfl (lv_room (Nat.le_of_ble_eq_true rfl)) dX4_parishOfQuarter_26 ⟨(Nat.le_of_ble_eq_true rfl), (Nat.le_of_ble_eq_true rfl)⟩) ?_
  exact z_iret hx hb hr rfl hlocks (by rfl) dX4_parishOfQuarter_29
set_option maxHeartbeats 1000000 in
set_option maxRecDepth 100000 in
theorem c_X4_canJoin (l : Launch) (D : va_G) (cI cQ : ClassId) (q : Nat → Nat) (S : CS) (pa : Int32) : zRO l yX4_canJoin (Cond.code yX4_canJoin cX4_canJoin 8 (some .boolean) :: zT) 4 95 [.ref (q 0), .int pa] D cI cQ (zSta cI q S) (bI (cj S pa)) := by
  refine zRO.of (cc := cX4_canJoin) (maxL := 8) (ret := some .boolean) (by decide +kernel) rfl (Nat.le_of_ble_eq_true rfl) ?_
  intro pg e s mi args below meth cd hx hb hr hts hown hlocks hml hP hK ls hl
  have hz : ∀ w ∈ zT, w.before args s = true := fun w h => hts w (List.mem_cons_of_mem _ h)
  have hl : lv_has ls 8 [(0, .ref (q 0)), (1, .int (pa))] := hl
  refine lv_aload_n hx hb dX4_canJoin_0 rfl (lv_at hl 0 rfl) ?_
  refine va_get (D := D) (ci := 4) (v := .ref (q 6)) (C := RX4) (T := TX4) (N := 5) hx hb hz inZ4 hown hK.1 hP 0 rfl rfl 3 (by decide) (hz _ q1_93) (fun _ h9 => h9) rfl dX4_canJoin_1 ?_
  refine lv_iload_n hx hb dX4_canJoin_4 rfl (lv_at hl 1 rfl) ?_
  refine z_ro (va_runV (As := [.int (pa)]) (rest := []) ⟨hx, hb, hml, hown, hz⟩ (c_X2_scaleOf l D cI cQ q S pa) (zcwV 1 hz q1_208 q1_209 q1_210 q1_4 q1_211 hd_X2_scaleOf (Nat.le_of_ble_eq_true rfl) (Nat.le_of_ble_eq_true rfl)) (z_pv (ci := 2) (q := (RX2, TX2, 4)) hK (hP.sub (ws' := zPar cI q S) [6, 7, 8, 9] rfl) rfl rfl) rfl rfl hl.1 rfl (lv_room (Nat.le_of_ble_eq_true rfl)) dX4_canJoin_5 ⟨(Nat.le_of_ble_eq_true rfl), (Nat.le_of_ble_eq_true rfl)⟩) ?_
  refine lv_istore_n (lv' := [(2, .int (rSc S pa)), (0, .ref (q 0)), (1, .int (pa))]) hx hb dX4_canJoin_8 rfl hl (by decide) rfl (fun ls hl => ?_)
  refine lv_iload_n hx hb dX4_canJoin_9 rfl (lv_at hl 0 rfl) ?_
  refine lv_iconst (v := 1) hx hb dX4_canJoin_10 (by decide) ?_
  refine lv_icmp_ge (tgt := 16) hx hb dX4_canJoin_11 (by decide) (fun c_11 => ?_) (fun c_11 => ?_)
  · have c_11 : ((1 : Int32) : Int32) ≤ rSc S pa := c_11
    refine lv_aload_n hx hb dX4_canJoin_16 rfl (lv_at hl 1 rfl) ?_
    refine lv_iload_n hx hb dX4_canJoin_17 rfl (lv_at hl 2 rfl) ?_
    refine z_ro (va_runV (As := [.int (pa)]) (rest := []) ⟨hx, hb, hml, hown, hz⟩ (c_X4_leftAround l D cI cQ q S pa) (zcwV 1 hz q2_127 q2_129 qs_6 q1_2 q2_130 hd_X4_leftAround (Nat.le_of_ble_eq_true rfl) (Nat.le_of_ble_eq_true rfl)) (z_pv (ci := 4) (q := (RX4, TX4, 5)) hK hP rfl rfl) rfl rfl hl.1 rfl (lv_room (Nat.le_of_ble_eq_true rfl)) dX4_canJoin_18 ⟨(Nat.le_of_ble_eq_true rfl), (Nat.le_of_ble_eq_true rfl)⟩) ?_
    refine lv_istore_n (lv' := [(3, .int (lAr S pa)), (2, .int (rSc S pa)), (0, .ref (q 0)), (1, .int (pa))]) hx hb dX4_canJoin_21 rfl hl (by decide) rfl (fun ls hl => ?_)
    refine lv_aload_n hx hb dX4_canJoin_22 rfl (lv_at hl 2 rfl) ?_
    refine lv_iload_n hx hb dX4_canJoin_23 rfl (lv_at hl 3 rfl) ?_
    refine z_ro (va_runV (As := [.int (pa)]) (rest := []) ⟨hx, hb, hml, hown, hz⟩ (c_X4_topAround l D cI cQ q S pa) (zcwV 1 hz q2_131 q2_133 qs_7 q1_2 q2_134 hd_X4_topAround (Nat.le_of_ble_eq_true rfl) (Nat.le_of_ble_eq_true rfl)) (z_pv (ci := 4) (q := (RX4, TX4, 5)) hK hP rfl rfl) rfl rfl hl.1 rfl (lv_room (Nat.le_of_ble_eq_true rfl)) dX4_canJoin_24 ⟨(Nat.le_of_ble_eq_true rfl), (Nat.le_of_ble_eq_true rfl)⟩) ?_
    refine lv_istore (lv' := [(4, .int (tAr S pa)), (3, .int (lAr S pa)), (2, .int (rSc S pa)), (0, .ref (q 0)), (1, .int (pa))]) hx hb dX4_canJoin_27 hl (by decide) rfl (fun ls hl => ?_)
    refine lv_iconst (v := 0) hx hb dX4_canJoin_29 (by decide) ?_
    refine lv_istore (lv' := [(5, .int (0 : Int32)), (4, .int (tAr S pa)), (3, .int (lAr S pa)), (2, .int (rSc S pa)), (0, .ref (q 0)), (1, .int (pa))]) hx hb dX4_canJoin_30 hl (by decide) rfl (fun ls hl => ?_)
    refine lv_iconst (v := 0) hx hb dX4_canJoin_32 (by decide) ?_
    refine lv_istore (lv' := [(6, .int (0 : Int32)), (5, .int (0 : Int32)), (4, .int (tAr S pa)), (3, .int (lAr S pa)), (2, .int (rSc S pa)), (0, .ref (q 0)), (1, .int (pa))]) hx hb dX4_canJoin_33 hl (by decide) rfl (fun ls hl => ?_)
    have L35 : ∀ (n35 k35 : Nat), k35 ≤ 4 → 4 < k35 + n35 → (cj S pa = cjG S (lAr S pa) (tAr S pa) (rSc S pa) (4 - k35) k35) → ∀ (ls : Array Slot), lv_has ls 8 [(6, .int (nI k35)), (5, .int (cjT S (lAr S pa) (tAr S pa) (rSc S pa) k35)), (4, .int (tAr S pa)), (3, .int (lAr S pa)), (2, .int (rSc S pa)), (0, .ref (q 0)), (1, .int (pa))] → W pg l e ({ frames := 4, cells := 0, slots := 0, locals := 95 }) s mi args below meth cd s.heap [] 0 0 (MQ below (vp_Si (fun r => r = bI (cj S pa))) args s 0 0 (fun _ => False)) (F0 mi 35 ls []) := by
      intro n35
      induction n35 with
      | zero => intro k35 h1 h2; exact absurd h2 (by omega)
      | succ n35 ih35 =>
        intro k35 h1_35 h2_35 he ls hl
        refine lv_iload hx hb dX4_canJoin_35 (lv_at hl 0 rfl) ?_
        refine lv_iconst (v := 4) hx hb dX4_canJoin_37 (by decide) ?_
        refine lv_icmp_ge (tgt := 85) hx hb dX4_canJoin_38 (by decide) (fun c_38 => ?_) (fun c_38 => ?_)
        · have c_38 : ((4 : Int32) : Int32) ≤ nI k35 := c_38
          have hk_35 : k35 = 4 := z_exit (by decide) h1_35 c_38
          refine lv_iload hx hb dX4_canJoin_85 (lv_at hl 1 rfl) ?_
          refine lv_aload_n hx hb dX4_canJoin_87 rfl (lv_at hl 5 rfl) ?_
          refine va_get (D := D) (ci := 4) (v := .int (sCr S)) (C := RX4) (T := TX4) (N := 5) hx hb hz inZ4 hown hK.1 hP 0 rfl rfl 0 (by decide) (hz _ q1_87) (fun _ h9 => h9) rfl dX4_canJoin_88 ?_
          refine lv_icmp_gt (tgt := 98) hx hb dX4_canJoin_91 (by decide) (fun c_91 => ?_) (fun c_91 => ?_)
          · have c_91 : (sCr S : Int32) < cjT S (lAr S pa) (tAr S pa) (rSc S pa) k35 := c_91
            refine lv_iconst (v := 0) hx hb dX4_canJoin_98 (by decide) ?_
            exact z_iret hx hb hr rfl hlocks (by subst hk_35; rw [he]; simp [cjG, bI, c_91]) dX4_canJoin_99
          · have c_91 : ¬ ((sCr S : Int32) < cjT S (lAr S pa) (tAr S pa) (rSc S pa) k35) := c_91
            refine lv_iconst (v := 1) hx hb dX4_canJoin_94 (by decide) ?_
            refine lv_goto (tgt := 99) hx hb dX4_canJoin_95 (by decide) ?_
            exact z_iret hx hb hr rfl hlocks (by subst hk_35; rw [he]; simp [cjG, bI, c_91]) dX4_canJoin_99
        · have c_38 : ¬ (((4 : Int32) : Int32) ≤ nI k35) := c_38
          have hk_35 : k35 < 4 := z_cont (by decide) h1_35 c_38
          refine lv_aload_n hx hb dX4_canJoin_41 rfl (lv_at hl 5 rfl) ?_
          refine lv_iload_n hx hb dX4_canJoin_42 rfl (lv_at hl 3 rfl) ?_
          refine lv_iload hx hb dX4_canJoin_43 (lv_at hl 2 rfl) ?_
          refine lv_iload_n hx hb dX4_canJoin_45 rfl (lv_at hl 4 rfl) ?_
          refine lv_iload hx hb dX4_canJoin_46 (lv_at hl 0 rfl) ?_
          refine z_ro (va_runV (As := [.int (lAr S pa), .int (tAr S pa), .int (rSc S pa), .int (nI k35)]) (rest := []) ⟨hx, hb, hml, hown, hz⟩ (c_X4_parishOfQuarter l D cI cQ q S (lAr S pa) (tAr S pa) (rSc S pa) (nI k35)) (zcwV 4 hz q2_135 q2_137 qs_8 q1_2 q2_138 hd_X4_parishOfQuarter (Nat.le_of_ble_eq_true rfl) (Nat.le_of_ble_eq_true rfl)) (z_pv (ci := 4) (q := (RX4, TX4, 5)) hK hP rfl rfl) rfl rfl hl.1 rfl (lv_room (Nat.le_of_ble_eq_true rfl)) dX4_canJoin_48 ⟨(Nat.le_of_ble_eq_true rfl), (Nat.le_of_ble_eq_true rfl)⟩) ?_
          refine lv_istore (lv' := [(7, .int (pQu S (lAr S pa) (tAr S pa) (rSc S pa) (nI k35))), (6, .int (nI k35)), (5, .int (cjT S (lAr S pa) (tAr S pa) (rSc S pa) k35)), (4, .int (tAr S pa)), (3, .int (lAr S pa)), (2, .int (rSc S pa)), (0, .ref (q 0)), (1, .int (pa))]) hx hb dX4_canJoin_51 hl (by decide) rfl (fun ls hl => ?_)
          refine lv_aload_n hx hb dX4_canJoin_53 rfl (lv_at hl 6 rfl) ?_
          refine va_get (D := D) (ci := 4) (v := .ref (q 6)) (C := RX4) (T := TX4) (N := 5) hx hb hz inZ4 hown hK.1 hP 0 rfl rfl 3 (by decide) (hz _ q1_93) (fun _ h9 => h9) rfl dX4_canJoin_54 ?_
          refine lv_iload hx hb dX4_canJoin_57 (lv_at hl 0 rfl) ?_
          refine z_ro (va_runV (As := [.int (pQu S (lAr S pa) (tAr S pa) (rSc S pa) (nI k35))]) (rest := []) ⟨hx, hb, hml, hown, hz⟩ (c_X2_scaleOf l D cI cQ q S (pQu S (lAr S pa) (tAr S pa) (rSc S pa) (nI k35))) (zcwV 1 hz q1_208 q1_209 q1_210 q1_4 q1_211 hd_X2_scaleOf (Nat.le_of_ble_eq_true rfl) (Nat.le_of_ble_eq_true rfl)) (z_pv (ci := 2) (q := (RX2, TX2, 4)) hK (hP.sub (ws' := zPar cI q S) [6, 7, 8, 9] rfl) rfl rfl) rfl rfl hl.1 rfl (lv_room (Nat.le_of_ble_eq_true rfl)) dX4_canJoin_59 ⟨(Nat.le_of_ble_eq_true rfl), (Nat.le_of_ble_eq_true rfl)⟩) ?_
          refine lv_iload_n hx hb dX4_canJoin_62 rfl (lv_at hl 5 rfl) ?_
          refine lv_icmp_eq (tgt := 68) hx hb dX4_canJoin_63 (by decide) (fun c_63 => ?_) (fun c_63 => ?_)
          · have c_63 : (rSc S (pQu S (lAr S pa) (tAr S pa) (rSc S pa) (nI k35)) : Int32) = rSc S pa := c_63
            refine lv_iload hx hb dX4_canJoin_68 (lv_at hl 2 rfl) ?_
            refine lv_aload_n hx hb dX4_canJoin_70 rfl (lv_at hl 6 rfl) ?_
            refine lv_iload hx hb dX4_canJoin_71 (lv_at hl 0 rfl) ?_
            refine z_ro (va_runV (As := [.int (pQu S (lAr S pa) (tAr S pa) (rSc S pa) (nI k35))]) (rest := [.int (cjT S (lAr S pa) (tAr S pa) (rSc S pa) k35)]) ⟨hx, hb, hml, hown, hz⟩ (c_X4_pointsIn l D cI cQ q S (pQu S (lAr S pa) (tAr S pa) (rSc S pa) (nI k35))) (zcwV 1 hz q1_212 q1_213 q1_214 q1_2 q1_215 hd_X4_pointsIn (Nat.le_of_ble_eq_true rfl) (Nat.le_of_ble_eq_true rfl)) (z_pv (ci := 4) (q := (RX4, TX4, 5)) hK hP rfl rfl) rfl rfl hl.1 rfl (lv_room (Nat.le_of_ble_eq_true rfl)) dX4_canJoin_73 ⟨(Nat.le_of_ble_eq_true rfl), (Nat.le_of_ble_eq_true rfl)⟩) ?_
            refine lv_iadd hx hb dX4_canJoin_76 ?_
            refine lv_istore (lv' := [(5, .int ((cjT S (lAr S pa) (tAr S pa) (rSc S pa) k35) + (nIn S (pQu S (lAr S pa) (tAr S pa) (rSc S pa) (nI k35))))), (7, .int (pQu S (lAr S pa) (tAr S pa) (rSc S pa) (nI k35))), (6, .int (nI k35)), (4, .int (tAr S pa)), (3, .int (lAr S pa)), (2, .int (rSc S pa)), (0, .ref (q 0)), (1, .int (pa))]) hx hb dX4_canJoin_77 hl (by decide) rfl (fun ls hl => ?_)
            refine lv_iinc (v := (nI k35) + 1) (lv' := [(6, .int ((nI k35) + 1)), (5, .int ((cjT S (lAr S pa) (tAr S pa) (rSc S pa) k35) + (nIn S (pQu S (lAr S pa) (tAr S pa) (rSc S pa) (nI k35))))), (7, .int (pQu S (lAr S pa) (tAr S pa) (rSc S pa) (nI k35))), (4, .int (tAr S pa)), (3, .int (lAr S pa)), (2, .int (rSc S pa)), (0, .ref (q 0)), (1, .int (pa))]) hx hb dX4_canJoin_79 hl (k := 2) rfl rfl (by decide) rfl (fun ls hl => ?_)
            refine lv_goto (tgt := 35) hx hb dX4_canJoin_82 (by decide) ?_
            have e35_6 : (nI (k35 + 1) : Int32) = (nI k35) + 1 := (nI_1 _).symm
            have e35_5 : (cjT S (lAr S pa) (tAr S pa) (rSc S pa) (k35 + 1) : Int32) = (cjT S (lAr S pa) (tAr S pa) (rSc S pa) k35) + (nIn S (pQu S (lAr S pa) (tAr S pa) (rSc S pa) (nI k35))) := (by rfl)
            exact ih35 (k35 + 1) (by omega) (by omega) (he.trans (cjG_on hk_35 c_63)) _ (by (try rw [e35_6]); (try rw [e35_5]); exact lv_sub hl [0, 1, 3, 4, 5, 6, 7] rfl)
          · have c_63 : ¬ ((rSc S (pQu S (lAr S pa) (tAr S pa) (rSc S pa) (nI k35)) : Int32) = rSc S pa) := c_63
            refine lv_iconst (v := 0) hx hb dX4_canJoin_66 (by decide) ?_
            exact z_iret hx hb hr rfl hlocks (by rw [he, cjG_no hk_35 c_63]; rfl) dX4_canJoin_67
    have e35_6 : (nI 0 : Int32) = (0 : Int32) := rfl
    have e35_5 : (cjT S (lAr S pa) (tAr S pa) (rSc S pa) 0 : Int32) = (0 : Int32) := (by rfl)
    exact L35 (4 + 1) (0) (Nat.zero_le _) (by omega) (by rw [cj, if_pos c_11]) _ (by (try rw [e35_6]); (try rw [e35_5]); exact lv_sub hl [0, 1, 2, 3, 4, 5, 6] rfl)
  · have c_11 : ¬ (((1 : Int32) : Int32) ≤ rSc S pa) := c_11
    refine lv_iconst (v := 0) hx hb dX4_canJoin_14 (by decide) ?_
    exact z_iret hx hb hr rfl hlocks (by rw [cj, if_neg c_11]; rfl) dX4_canJoin_15
set_option maxHeartbeats 1000000 in
set_option maxRecDepth 100000 in
theorem c_X4_absorb (l : Launch) (D : va_G) (cI cQ : ClassId) (q : Nat → Nat) (S : CS) (pa he : Int32) (T1 : CS) (hT1 : T1 = abS S pa he) : zWR l yX4_absorb (Cond.code yX4_absorb cX4_absorb 3 (none) :: zT) 4 92 [.ref (q 0), .int pa, .int he] D cI cQ (zSta cI q S) none (zSta cI q T1) := by
  refine zWR.of (cc := cX4_absorb) (maxL := 3) (ret := none) (by decide +kernel) rfl (Nat.le_of_ble_eq_true rfl) ?_
  intro pg e s mi args below meth cd hx hb hr hts hown hlocks hml hP hD hS hK ls hl
  have hz : ∀ w ∈ zT, w.before args s = true := fun w h => hts w (List.mem_cons_of_mem _ h)
  have hl : lv_has ls 3 [(0, .ref (q 0)), (1, .int (pa)), (2, .int (he))] := hl
  refine lv_iload_n hx hb dX4_absorb_0 rfl (lv_at hl 1 rfl) ?_
  refine lv_iload_n hx hb dX4_absorb_1 rfl (lv_at hl 2 rfl) ?_
  refine lv_icmp_eq (tgt := 37) hx hb dX4_absorb_2 (by decide) (fun c_2 => ?_) (fun c_2 => ?_)
  · have c_2 : (pa : Int32) = he := c_2
    exact z_wvret hx hb hr hlocks hP hS (congrArg (fun T => zSta cI q T) (show S = T1 from by (try simp only [hT1]) <;> (simp [abS, c_2]))) dX4_absorb_37
  · have c_2 : ¬ ((pa : Int32) = he) := c_2
    refine lv_aload_n hx hb dX4_absorb_5 rfl (lv_at hl 0 rfl) ?_
    refine va_get (D := D) (ci := 4) (v := .ref (q 1)) (C := RX4) (T := TX4) (N := 5) hx hb hz inZ4 hown hK.1 hP 0 rfl rfl 2 (by decide) (hz _ q1_91) (fun _ h9 => h9) rfl dX4_absorb_6 ?_
    refine lv_iload_n hx hb dX4_absorb_9 rfl (lv_at hl 1 rfl) ?_
    refine lv_iload_n hx hb dX4_absorb_10 rfl (lv_at hl 2 rfl) ?_
    refine lv_iconst (v := 0) hx hb dX4_absorb_11 (by decide) ?_
    refine lv_iconst (v := 0) hx hb dX4_absorb_12 (by decide) ?_
    refine lv_bipush (v := 63) hx hb dX4_absorb_13 (by decide) ?_
    refine lv_bipush (v := 63) hx hb dX4_absorb_15 (by decide) ?_
    obtain ⟨g_1, hg_1⟩ : ∃ z : FI, z = pChl S pa he (0 : Int32) (0 : Int32) (63 : Int32) (63 : Int32) 40 := ⟨_, rfl⟩
    refine z_wv (X' := zSta cI q (uL S g_1)) (va_runV (As := [.int (pa), .int (he), .int (0 : Int32), .int (0 : Int32), .int (63 : Int32), .int (63 : Int32)]) (rest := []) ⟨hx, hb, hml, hown, hz⟩ (c_X3_changeLord l D cI cQ q S pa he (0 : Int32) (0 : Int32) (63 : Int32) (63 : Int32) g_1 hg_1) (zcwV 6 hz q2_38 q2_39 q2_40 q1_3 q2_41 hd_X3_changeLord (Nat.le_of_ble_eq_true rfl) (Nat.le_of_ble_eq_true rfl)) (z_pvw (ci := 3) (q := (RX3, TX3, 5)) hK (hP.sub (ws' := zPts cI q S) [1, 2, 3, 4, 5] rfl) (hD.sub (ws' := zPts cI q S) [1, 2, 3, 4, 5] (by decide) rfl) rfl rfl) rfl rfl hl.1 rfl (lv_room (Nat.le_of_ble_eq_true rfl)) dX4_absorb_17 ⟨(Nat.le_of_ble_eq_true rfl), (Nat.le_of_ble_eq_true rfl)⟩) hP hD hS [1, 2, 3, 4, 5] rfl rfl rfl (fun H locs hP hD hS => ?_)
    refine lv_aload_n hx hb dX4_absorb_20 rfl (lv_at hl 0 rfl) ?_
    refine va_get (D := D) (ci := 4) (v := .ref (q 10)) (C := RX4) (T := TX4) (N := 5) hx hb hz inZ4 hown hK.1 hP 0 rfl rfl 4 (by decide) (hz _ q1_95) (fun _ h9 => h9) rfl dX4_absorb_21 ?_
    refine lv_iload_n hx hb dX4_absorb_24 rfl (lv_at hl 1 rfl) ?_
    refine lv_iload_n hx hb dX4_absorb_25 rfl (lv_at hl 2 rfl) ?_
    obtain ⟨g_2, hg_2⟩ : ∃ z : FI, z = dPass ((sD S)) pa he := ⟨_, rfl⟩
    refine z_wv (X' := zSta cI q (uD (uL S g_1) g_2)) (va_runV (As := [.int (pa), .int (he)]) (rest := []) ⟨hx, hb, hml, hown, hz⟩ (c_X0_passOn l D cI cQ q (uL S g_1) pa he g_2 hg_2) (zcwV 2 hz q2_148 q2_149 q2_150 q1_5 q2_151 hd_X0_passOn (Nat.le_of_ble_eq_true rfl) (Nat.le_of_ble_eq_true rfl)) (z_pvw (ci := 0) (q := (RX0, TX0, 1)) hK (hP.sub (ws' := zDeb cI q (uL S g_1)) [10, 11] rfl) (hD.sub (ws' := zDeb cI q (uL S g_1)) [10, 11] (by decide) rfl) rfl rfl) rfl rfl hl.1 rfl (lv_room (Nat.le_of_ble_eq_true rfl)) dX4_absorb_26 ⟨(Nat.le_of_ble_eq_true rfl), (Nat.le_of_ble_eq_true rfl)⟩) hP hD hS [10, 11] rfl rfl rfl (fun H locs hP hD hS => ?_)
    refine lv_aload_n hx hb dX4_absorb_29 rfl (lv_at hl 0 rfl) ?_
    refine va_get (D := D) (ci := 4) (v := .ref (q 6)) (C := RX4) (T := TX4) (N := 5) hx hb hz inZ4 hown hK.1 hP 0 rfl rfl 3 (by decide) (hz _ q1_93) (fun _ h9 => h9) rfl dX4_absorb_30 ?_
    refine lv_iload_n hx hb dX4_absorb_33 rfl (lv_at hl 1 rfl) ?_
    obtain ⟨g_3, hg_3⟩ : ∃ z : FI, z = rDis S pa := ⟨_, rfl⟩
    refine z_wv (X' := zSta cI q (uSc (uD (uL S g_1) g_2) g_3)) (va_runV (As := [.int (pa)]) (rest := []) ⟨hx, hb, hml, hown, hz⟩ (c_X2_dissolve l D cI cQ q (uD (uL S g_1) g_2) pa g_3 hg_3) (zcwV 1 hz q2_157 q2_158 q2_159 q1_4 q2_160 hd_X2_dissolve (Nat.le_of_ble_eq_true rfl) (Nat.le_of_ble_eq_true rfl)) (z_pvw (ci := 2) (q := (RX2, TX2, 4)) hK (hP.sub (ws' := zPar cI q (uD (uL S g_1) g_2)) [6, 7, 8, 9] rfl) (hD.sub (ws' := zPar cI q (uD (uL S g_1) g_2)) [6, 7, 8, 9] (by decide) rfl) rfl rfl) rfl rfl hl.1 rfl (lv_room (Nat.le_of_ble_eq_true rfl)) dX4_absorb_34 ⟨(Nat.le_of_ble_eq_true rfl), (Nat.le_of_ble_eq_true rfl)⟩) hP hD hS [6, 7, 8, 9] rfl rfl rfl (fun H locs hP hD hS => ?_)
    exact z_wvret hx hb hr hlocks hP hS (congrArg (fun T => zSta cI q T) (show uSc (uD (uL S g_1) g_2) g_3 = T1 from by (try simp only [hg_3, hg_2, hg_1, hT1]) <;> (simp [abS, c_2]))) dX4_absorb_37
set_option maxHeartbeats 1000000 in
set_option maxRecDepth 100000 in
theorem c_X4_joinQuarters (l : Launch) (D : va_G) (cI cQ : ClassId) (q : Nat → Nat) (S : CS) (pa : Int32) (T1 : CS) (hT1 : T1 = jqS S pa) : zWR l yX4_joinQuarters (Cond.code yX4_joinQuarters cX4_joinQuarters 7 (some .int) :: zT) 5 114 [.ref (q 0), .int pa] D cI cQ (zSta cI q S) (some (.int (jqFi S pa))) (zSta cI q T1) := by
  refine zWR.of (cc := cX4_joinQuarters) (maxL := 7) (ret := some .int) (by decide +kernel) rfl (Nat.le_of_ble_eq_true rfl) ?_
  intro pg e s mi args below meth cd hx hb hr hts hown hlocks hml hP hD hS hK ls hl
  have hz : ∀ w ∈ zT, w.before args s = true := fun w h => hts w (List.mem_cons_of_mem _ h)
  have hl : lv_has ls 7 [(0, .ref (q 0)), (1, .int (pa))] := hl
  refine lv_aload_n hx hb dX4_joinQuarters_0 rfl (lv_at hl 0 rfl) ?_
  refine lv_iload_n hx hb dX4_joinQuarters_1 rfl (lv_at hl 1 rfl) ?_
  refine z_ro (va_runV (As := [.int (pa)]) (rest := []) ⟨hx, hb, hml, hown, hz⟩ (c_X4_leftAround l D cI cQ q S pa) (zcwV 1 hz q2_127 q2_129 qs_6 q1_2 q2_130 hd_X4_leftAround (Nat.le_of_ble_eq_true rfl) (Nat.le_of_ble_eq_true rfl)) (z_pv (ci := 4) (q := (RX4, TX4, 5)) hK hP rfl rfl) rfl rfl hl.1 rfl (lv_room (Nat.le_of_ble_eq_true rfl)) dX4_joinQuarters_2 ⟨(Nat.le_of_ble_eq_true rfl), (Nat.le_of_ble_eq_true rfl)⟩) ?_
  refine lv_istore_n (lv' := [(2, .int (lAr S pa)), (0, .ref (q 0)), (1, .int (pa))]) hx hb dX4_joinQuarters_5 rfl hl (by decide) rfl (fun ls hl => ?_)
  refine lv_aload_n hx hb dX4_joinQuarters_6 rfl (lv_at hl 1 rfl) ?_
  refine lv_iload_n hx hb dX4_joinQuarters_7 rfl (lv_at hl 2 rfl) ?_
  refine z_ro (va_runV (As := [.int (pa)]) (rest := []) ⟨hx, hb, hml, hown, hz⟩ (c_X4_topAround l D cI cQ q S pa) (zcwV 1 hz q2_131 q2_133 qs_7 q1_2 q2_134 hd_X4_topAround (Nat.le_of_ble_eq_true rfl) (Nat.le_of_ble_eq_true rfl)) (z_pv (ci := 4) (q := (RX4, TX4, 5)) hK hP rfl rfl) rfl rfl hl.1 rfl (lv_room (Nat.le_of_ble_eq_true rfl)) dX4_joinQuarters_8 ⟨(Nat.le_of_ble_eq_true rfl), (Nat.le_of_ble_eq_true rfl)⟩) ?_
  refine lv_istore_n (lv' := [(3, .int (tAr S pa)), (2, .int (lAr S pa)), (0, .ref (q 0)), (1, .int (pa))]) hx hb dX4_joinQuarters_11 rfl hl (by decide) rfl (fun ls hl => ?_)
  refine lv_aload_n hx hb dX4_joinQuarters_12 rfl (lv_at hl 2 rfl) ?_
  refine va_get (D := D) (ci := 4) (v := .ref (q 6)) (C := RX4) (T := TX4) (N := 5) hx hb hz inZ4 hown hK.1 hP 0 rfl rfl 3 (by decide) (hz _ q1_93) (fun _ h9 => h9) rfl dX4_joinQuarters_13 ?_
  refine lv_iload_n hx hb dX4_joinQuarters_16 rfl (lv_at hl 3 rfl) ?_
  refine z_ro (va_runV (As := [.int (pa)]) (rest := []) ⟨hx, hb, hml, hown, hz⟩ (c_X2_scaleOf l D cI cQ q S pa) (zcwV 1 hz q1_208 q1_209 q1_210 q1_4 q1_211 hd_X2_scaleOf (Nat.le_of_ble_eq_true rfl) (Nat.le_of_ble_eq_true rfl)) (z_pv (ci := 2) (q := (RX2, TX2, 4)) hK (hP.sub (ws' := zPar cI q S) [6, 7, 8, 9] rfl) rfl rfl) rfl rfl hl.1 rfl (lv_room (Nat.le_of_ble_eq_true rfl)) dX4_joinQuarters_17 ⟨(Nat.le_of_ble_eq_true rfl), (Nat.le_of_ble_eq_true rfl)⟩) ?_
  refine lv_istore (lv' := [(4, .int (rSc S pa)), (3, .int (tAr S pa)), (2, .int (lAr S pa)), (0, .ref (q 0)), (1, .int (pa))]) hx hb dX4_joinQuarters_20 hl (by decide) rfl (fun ls hl => ?_)
  refine lv_iload_n hx hb dX4_joinQuarters_22 rfl (lv_at hl 4 rfl) ?_
  refine lv_istore (lv' := [(5, .int (pa)), (4, .int (rSc S pa)), (3, .int (tAr S pa)), (2, .int (lAr S pa)), (0, .ref (q 0)), (1, .int (pa))]) hx hb dX4_joinQuarters_23 hl (by decide) rfl (fun ls hl => ?_)
  refine lv_iconst (v := 0) hx hb dX4_joinQuarters_25 (by decide) ?_
  refine lv_istore (lv' := [(6, .int (0 : Int32)), (5, .int (pa)), (4, .int (rSc S pa)), (3, .int (tAr S pa)), (2, .int (lAr S pa)), (0, .ref (q 0)), (1, .int (pa))]) hx hb dX4_joinQuarters_26 hl (by decide) rfl (fun ls hl => ?_)
  have L28 : ∀ (n28 k28 : Nat), k28 ≤ 4 → 4 < k28 + n28 → ∀ (ls : Array Slot), lv_has ls 7 [(6, .int (nI k28)), (5, .int (jqF S (lAr S pa) (tAr S pa) (rSc S pa) pa k28)), (4, .int (rSc S pa)), (3, .int (tAr S pa)), (2, .int (lAr S pa)), (0, .ref (q 0)), (1, .int (pa))] → W pg l e ({ frames := 5, cells := 0, slots := 0, locals := 114 }) s mi args below meth cd s.heap [] 0 0 (MQ below (zQ D (zSta cI q S) (some (.int (jqFi S pa))) (zSta cI q T1)) args s 0 0 (zA (zSta cI q S))) (F0 mi 28 ls []) := by
    intro n28
    induction n28 with
    | zero => intro k28 h1 h2; exact absurd h2 (by omega)
    | succ n28 ih28 =>
      intro k28 h1_28 h2_28  ls hl
      refine lv_iload hx hb dX4_joinQuarters_28 (lv_at hl 0 rfl) ?_
      refine lv_iconst (v := 4) hx hb dX4_joinQuarters_30 (by decide) ?_
      refine lv_icmp_ge (tgt := 57) hx hb dX4_joinQuarters_31 (by decide) (fun c_31 => ?_) (fun c_31 => ?_)
      · have c_31 : ((4 : Int32) : Int32) ≤ nI k28 := c_31
        have hk_28 : k28 = 4 := z_exit (by decide) h1_28 c_31
        refine lv_iconst (v := 0) hx hb dX4_joinQuarters_57 (by decide) ?_
        refine lv_istore (lv' := [(6, .int (0 : Int32)), (5, .int (jqF S (lAr S pa) (tAr S pa) (rSc S pa) pa k28)), (4, .int (rSc S pa)), (3, .int (tAr S pa)), (2, .int (lAr S pa)), (0, .ref (q 0)), (1, .int (pa))]) hx hb dX4_joinQuarters_58 hl (by decide) rfl (fun ls hl => ?_)
        have L60 : ∀ (n60 k60 : Nat), k60 ≤ 4 → 4 < k60 + n60 → ∀ (H : Heap) (locs : List Loc), va_P D vwCl (zSta cI q (jqK S (lAr S pa) (tAr S pa) (rSc S pa) (jqFi S pa) k60)) H → va_D (zA (zSta cI q S)) (zSta cI q (jqK S (lAr S pa) (tAr S pa) (rSc S pa) (jqFi S pa) k60)) → va_S (zA (zSta cI q S)) s.heap H locs → ∀ (ls : Array Slot), lv_has ls 7 [(6, .int (nI k60)), (5, .int (jqFi S pa)), (4, .int (rSc S pa)), (3, .int (tAr S pa)), (2, .int (lAr S pa)), (0, .ref (q 0)), (1, .int (pa))] → W pg l e ({ frames := 5, cells := 0, slots := 0, locals := 114 }) s mi args below meth cd H locs 0 0 (MQ below (zQ D (zSta cI q S) (some (.int (jqFi S pa))) (zSta cI q T1)) args s 0 0 (zA (zSta cI q S))) (F0 mi 60 ls []) := by
          intro n60
          induction n60 with
          | zero => intro k60 h1 h2; exact absurd h2 (by omega)
          | succ n60 ih60 =>
            intro k60 h1_60 h2_60  H locs hP hD hS ls hl
            refine lv_iload hx hb dX4_joinQuarters_60 (lv_at hl 0 rfl) ?_
            refine lv_iconst (v := 4) hx hb dX4_joinQuarters_62 (by decide) ?_
            refine lv_icmp_ge (tgt := 88) hx hb dX4_joinQuarters_63 (by decide) (fun c_63 => ?_) (fun c_63 => ?_)
            · have c_63 : ((4 : Int32) : Int32) ≤ nI k60 := c_63
              have hk_60 : k60 = 4 := z_exit (by decide) h1_60 c_63
              refine lv_aload_n hx hb dX4_joinQuarters_88 rfl (lv_at hl 5 rfl) ?_
              refine va_get (D := D) (ci := 4) (v := .ref (q 6)) (C := RX4) (T := TX4) (N := 5) hx hb hz inZ4 hown hK.1 hP 0 rfl rfl 3 (by decide) (hz _ q1_93) (fun _ h9 => h9) rfl dX4_joinQuarters_89 ?_
              refine lv_iload hx hb dX4_joinQuarters_92 (lv_at hl 1 rfl) ?_
              refine lv_iload_n hx hb dX4_joinQuarters_94 rfl (lv_at hl 4 rfl) ?_
              refine lv_iload_n hx hb dX4_joinQuarters_95 rfl (lv_at hl 3 rfl) ?_
              refine lv_iload hx hb dX4_joinQuarters_96 (lv_at hl 2 rfl) ?_
              refine lv_iconst (v := 1) hx hb dX4_joinQuarters_98 (by decide) ?_
              refine lv_isub hx hb dX4_joinQuarters_99 ?_
              obtain ⟨g_1, hg_1⟩ : ∃ z : FI, z = rGiv ((sLe (jqK S (lAr S pa) (tAr S pa) (rSc S pa) (jqFi S pa) k60))) (jqFi S pa) (lAr S pa) := ⟨_, rfl⟩
              obtain ⟨g_2, hg_2⟩ : ∃ z : FI, z = rGiv ((sTo (jqK S (lAr S pa) (tAr S pa) (rSc S pa) (jqFi S pa) k60))) (jqFi S pa) (tAr S pa) := ⟨_, rfl⟩
              obtain ⟨g_3, hg_3⟩ : ∃ z : FI, z = rGiv ((sSc (jqK S (lAr S pa) (tAr S pa) (rSc S pa) (jqFi S pa) k60))) (jqFi S pa) ((rSc S pa) - (1 : Int32)) := ⟨_, rfl⟩
              refine z_wv (X' := zSta cI q (uSc (uTo (uLe (jqK S (lAr S pa) (tAr S pa) (rSc S pa) (jqFi S pa) k60) g_1) g_2) g_3)) (va_runV (As := [.int (jqFi S pa), .int (lAr S pa), .int (tAr S pa), .int ((rSc S pa) - (1 : Int32))]) (rest := []) ⟨hx, hb, hml, hown, hz⟩ (c_X2_giveCell l D cI cQ q (jqK S (lAr S pa) (tAr S pa) (rSc S pa) (jqFi S pa) k60) (jqFi S pa) (lAr S pa) (tAr S pa) ((rSc S pa) - (1 : Int32)) g_1 hg_1 g_2 hg_2 g_3 hg_3) (zcwV 4 hz q2_42 q1_61 q1_62 q1_4 q1_63 hd_X2_giveCell (Nat.le_of_ble_eq_true rfl) (Nat.le_of_ble_eq_true rfl)) (z_pvw (ci := 2) (q := (RX2, TX2, 4)) hK (hP.sub (ws' := zPar cI q (jqK S (lAr S pa) (tAr S pa) (rSc S pa) (jqFi S pa) k60)) [6, 7, 8, 9] rfl) (hD.sub (ws' := zPar cI q (jqK S (lAr S pa) (tAr S pa) (rSc S pa) (jqFi S pa) k60)) [6, 7, 8, 9] (by decide) rfl) rfl rfl) rfl rfl hl.1 rfl (lv_room (Nat.le_of_ble_eq_true rfl)) dX4_joinQuarters_100 ⟨(Nat.le_of_ble_eq_true rfl), (Nat.le_of_ble_eq_true rfl)⟩) hP hD hS [6, 7, 8, 9] rfl rfl rfl (fun H locs hP hD hS => ?_)
              refine lv_iload hx hb dX4_joinQuarters_103 (lv_at hl 1 rfl) ?_
              exact z_wiret hx hb hr rfl hlocks hP hS (by (try simp only [hg_3, hg_2, hg_1, hT1]) <;> (rfl)) (congrArg (fun T => zSta cI q T) (show uSc (uTo (uLe (jqK S (lAr S pa) (tAr S pa) (rSc S pa) (jqFi S pa) k60) g_1) g_2) g_3 = T1 from by (try simp only [hg_3, hg_2, hg_1, hT1]) <;> (rw [hk_60, jqS, gvS]))) dX4_joinQuarters_105
            · have c_63 : ¬ (((4 : Int32) : Int32) ≤ nI k60) := c_63
              have hk_60 : k60 < 4 := z_cont (by decide) h1_60 c_63
              refine lv_aload_n hx hb dX4_joinQuarters_66 rfl (lv_at hl 5 rfl) ?_
              refine lv_aload_n hx hb dX4_joinQuarters_67 rfl (lv_at hl 5 rfl) ?_
              refine lv_iload_n hx hb dX4_joinQuarters_68 rfl (lv_at hl 4 rfl) ?_
              refine lv_iload_n hx hb dX4_joinQuarters_69 rfl (lv_at hl 3 rfl) ?_
              refine lv_iload hx hb dX4_joinQuarters_70 (lv_at hl 2 rfl) ?_
              refine lv_iload hx hb dX4_joinQuarters_72 (lv_at hl 0 rfl) ?_
              refine z_ro (va_runV (As := [.int (lAr S pa), .int (tAr S pa), .int (rSc S pa), .int (nI k60)]) (rest := [.ref (q 0)]) ⟨hx, hb, hml, hown, hz⟩ (c_X4_parishOfQuarter l D cI cQ q (jqK S (lAr S pa) (tAr S pa) (rSc S pa) (jqFi S pa) k60) (lAr S pa) (tAr S pa) (rSc S pa) (nI k60)) (zcwV 4 hz q2_135 q2_137 qs_8 q1_2 q2_138 hd_X4_parishOfQuarter (Nat.le_of_ble_eq_true rfl) (Nat.le_of_ble_eq_true rfl)) (z_pv (ci := 4) (q := (RX4, TX4, 5)) hK hP rfl rfl) rfl rfl hl.1 rfl (lv_room (Nat.le_of_ble_eq_true rfl)) dX4_joinQuarters_74 ⟨(Nat.le_of_ble_eq_true rfl), (Nat.le_of_ble_eq_true rfl)⟩) ?_
              refine lv_iload hx hb dX4_joinQuarters_77 (lv_at hl 1 rfl) ?_
              obtain ⟨g_4, hg_4⟩ : ∃ z : CS, z = abS (jqK S (lAr S pa) (tAr S pa) (rSc S pa) (jqFi S pa) k60) (pQu (jqK S (lAr S pa) (tAr S pa) (rSc S pa) (jqFi S pa) k60) (lAr S pa) (tAr S pa) (rSc S pa) (nI k60)) (jqFi S pa) := ⟨_, rfl⟩
              refine z_wv (X' := zSta cI q g_4) (va_runV (As := [.int (pQu (jqK S (lAr S pa) (tAr S pa) (rSc S pa) (jqFi S pa) k60) (lAr S pa) (tAr S pa) (rSc S pa) (nI k60)), .int (jqFi S pa)]) (rest := []) ⟨hx, hb, hml, hown, hz⟩ (c_X4_absorb l D cI cQ q (jqK S (lAr S pa) (tAr S pa) (rSc S pa) (jqFi S pa) k60) (pQu (jqK S (lAr S pa) (tAr S pa) (rSc S pa) (jqFi S pa) k60) (lAr S pa) (tAr S pa) (rSc S pa) (nI k60)) (jqFi S pa) g_4 hg_4) (zcwV 2 hz q2_144 q2_146 qs_9 q1_2 q2_147 hd_X4_absorb (Nat.le_of_ble_eq_true rfl) (Nat.le_of_ble_eq_true rfl)) (z_pvw (ci := 4) (q := (RX4, TX4, 5)) hK hP hD rfl rfl) rfl rfl hl.1 rfl (lv_room (Nat.le_of_ble_eq_true rfl)) dX4_joinQuarters_79 ⟨(Nat.le_of_ble_eq_true rfl), (Nat.le_of_ble_eq_true rfl)⟩) hP hD hS [0, 1, 2, 3, 4, 5, 6, 7, 8, 9, 10, 11] rfl rfl rfl (fun H locs hP hD hS => ?_)
              refine lv_iinc (v := (nI k60) + 1) (lv' := [(6, .int ((nI k60) + 1)), (5, .int (jqFi S pa)), (4, .int (rSc S pa)), (3, .int (tAr S pa)), (2, .int (lAr S pa)), (0, .ref (q 0)), (1, .int (pa))]) hx hb dX4_joinQuarters_82 hl (k := 0) rfl rfl (by decide) rfl (fun ls hl => ?_)
              refine lv_goto (tgt := 60) hx hb dX4_joinQuarters_85 (by decide) ?_
              have e60_6 : (nI (k60 + 1) : Int32) = (nI k60) + 1 := (nI_1 _).symm
              have eS60 : jqK S (lAr S pa) (tAr S pa) (rSc S pa) (jqFi S pa) (k60 + 1) = g_4 := by (try simp only [hg_4]) <;> (rfl)
              exact ih60 (k60 + 1) (by omega) (by omega) H locs (by rw [eS60]; exact hP) (by rw [eS60]; exact hD) hS _ (by (try rw [e60_6]); exact lv_sub hl [0, 1, 2, 3, 4, 5, 6] rfl)
        have e60_6 : (nI 0 : Int32) = (0 : Int32) := rfl
        have e60_5 : (jqFi S pa : Int32) = jqF S (lAr S pa) (tAr S pa) (rSc S pa) pa k28 := (by rw [hk_28, jqFi])
        have eS60 : jqK S (lAr S pa) (tAr S pa) (rSc S pa) (jqFi S pa) 0 = S := by rfl
        exact L60 (4 + 1) (0) (Nat.zero_le _) (by omega) s.heap [] (by rw [eS60]; exact hP) (by rw [eS60]; exact hD) hS _ (by (try rw [e60_6]); (try rw [e60_5]); exact lv_sub hl [0, 1, 2, 3, 4, 5, 6] rfl)
      · have c_31 : ¬ (((4 : Int32) : Int32) ≤ nI k28) := c_31
        have hk_28 : k28 < 4 := z_cont (by decide) h1_28 c_31
        refine lv_iload hx hb dX4_joinQuarters_34 (lv_at hl 1 rfl) ?_
        refine lv_aload_n hx hb dX4_joinQuarters_36 rfl (lv_at hl 5 rfl) ?_
        refine lv_iload_n hx hb dX4_joinQuarters_37 rfl (lv_at hl 4 rfl) ?_
        refine lv_iload_n hx hb dX4_joinQuarters_38 rfl (lv_at hl 3 rfl) ?_
        refine lv_iload hx hb dX4_joinQuarters_39 (lv_at hl 2 rfl) ?_
        refine lv_iload hx hb dX4_joinQuarters_41 (lv_at hl 0 rfl) ?_
        refine z_ro (va_runV (As := [.int (lAr S pa), .int (tAr S pa), .int (rSc S pa), .int (nI k28)]) (rest := [.int (jqF S (lAr S pa) (tAr S pa) (rSc S pa) pa k28)]) ⟨hx, hb, hml, hown, hz⟩ (c_X4_parishOfQuarter l D cI cQ q S (lAr S pa) (tAr S pa) (rSc S pa) (nI k28)) (zcwV 4 hz q2_135 q2_137 qs_8 q1_2 q2_138 hd_X4_parishOfQuarter (Nat.le_of_ble_eq_true rfl) (Nat.le_of_ble_eq_true rfl)) (z_pv (ci := 4) (q := (RX4, TX4, 5)) hK hP rfl rfl) rfl rfl hl.1 rfl (lv_room (Nat.le_of_ble_eq_true rfl)) dX4_joinQuarters_43 ⟨(Nat.le_of_ble_eq_true rfl), (Nat.le_of_ble_eq_true rfl)⟩) ?_
        refine va_mmin hx hb (by rw [hml]; exact hl.1.symm) hown (hz _ q2_143) (hz _ q1_169) (hz _ q1_9) (hz _ q1_170) (Nat.le_of_ble_eq_true rfl) (Nat.le_of_ble_eq_true rfl) (Nat.le_of_ble_eq_true rfl) (Nat.le_of_ble_eq_true rfl) dX4_joinQuarters_46 ?_
        refine lv_istore (lv' := [(5, .int (if (pQu S (lAr S pa) (tAr S pa) (rSc S pa) (nI k28)) < (jqF S (lAr S pa) (tAr S pa) (rSc S pa) pa k28) then (pQu S (lAr S pa) (tAr S pa) (rSc S pa) (nI k28)) else (jqF S (lAr S pa) (tAr S pa) (rSc S pa) pa k28))), (6, .int (nI k28)), (4, .int (rSc S pa)), (3, .int (tAr S pa)), (2, .int (lAr S pa)), (0, .ref (q 0)), (1, .int (pa))]) hx hb dX4_joinQuarters_49 hl (by decide) rfl (fun ls hl => ?_)
        refine lv_iinc (v := (nI k28) + 1) (lv' := [(6, .int ((nI k28) + 1)), (5, .int (if (pQu S (lAr S pa) (tAr S pa) (rSc S pa) (nI k28)) < (jqF S (lAr S pa) (tAr S pa) (rSc S pa) pa k28) then (pQu S (lAr S pa) (tAr S pa) (rSc S pa) (nI k28)) else (jqF S (lAr S pa) (tAr S pa) (rSc S pa) pa k28))), (4, .int (rSc S pa)), (3, .int (tAr S pa)), (2, .int (lAr S pa)), (0, .ref (q 0)), (1, .int (pa))]) hx hb dX4_joinQuarters_51 hl (k := 1) rfl rfl (by decide) rfl (fun ls hl => ?_)
        refine lv_goto (tgt := 28) hx hb dX4_joinQuarters_54 (by decide) ?_
        have e28_6 : (nI (k28 + 1) : Int32) = (nI k28) + 1 := (nI_1 _).symm
        have e28_5 : (jqF S (lAr S pa) (tAr S pa) (rSc S pa) pa (k28 + 1) : Int32) = if (pQu S (lAr S pa) (tAr S pa) (rSc S pa) (nI k28)) < (jqF S (lAr S pa) (tAr S pa) (rSc S pa) pa k28) then (pQu S (lAr S pa) (tAr S pa) (rSc S pa) (nI k28)) else (jqF S (lAr S pa) (tAr S pa) (rSc S pa) pa k28) := (by rfl)
        exact ih28 (k28 + 1) (by omega) (by omega) _ (by (try rw [e28_6]); (try rw [e28_5]); exact lv_sub hl [0, 1, 2, 3, 4, 5, 6] rfl)
  have e28_6 : (nI 0 : Int32) = (0 : Int32) := rfl
  have e28_5 : (jqF S (lAr S pa) (tAr S pa) (rSc S pa) pa 0 : Int32) = pa := (by rfl)
  exact L28 (4 + 1) (0) (Nat.zero_le _) (by omega) _ (by (try rw [e28_6]); (try rw [e28_5]); exact lv_sub hl [0, 1, 2, 3, 4, 5, 6] rfl)
