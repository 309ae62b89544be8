theorem hd_X6_in : yX6_in.cls ≠ "java/lang/invoke/MethodHandle" ∧ yX6_in.cls ≠ "java/lang/invoke/VarHandle" ∧ (parseMethodDescriptor yX6_in.desc).map (fun d => d.parameters.length) = some 3 := by decide +kernel
theorem hd_X6_isPlace : yX6_isPlace.cls ≠ "java/lang/invoke/MethodHandle" ∧ yX6_isPlace.cls ≠ "java/lang/invoke/VarHandle" ∧ (parseMethodDescriptor yX6_isPlace.desc).map (fun d => d.parameters.length) = some 2 := by decide +kernel
theorem hd_X6_copies : yX6_copies.cls ≠ "java/lang/invoke/MethodHandle" ∧ yX6_copies.cls ≠ "java/lang/invoke/VarHandle" ∧ (parseMethodDescriptor yX6_copies.desc).map (fun d => d.parameters.length) = some 2 := by decide +kernel
theorem hd_X6_ofPoint : yX6_ofPoint.cls ≠ "java/lang/invoke/MethodHandle" ∧ yX6_ofPoint.cls ≠ "java/lang/invoke/VarHandle" ∧ (parseMethodDescriptor yX6_ofPoint.desc).map (fun d => d.parameters.length) = some 2 := by decide +kernel
theorem hd_X6_ofParish : yX6_ofParish.cls ≠ "java/lang/invoke/MethodHandle" ∧ yX6_ofParish.cls ≠ "java/lang/invoke/VarHandle" ∧ (parseMethodDescriptor yX6_ofParish.desc).map (fun d => d.parameters.length) = some 2 := by decide +kernel
theorem hd_X6_debtOf : yX6_debtOf.cls ≠ "java/lang/invoke/MethodHandle" ∧ yX6_debtOf.cls ≠ "java/lang/invoke/VarHandle" ∧ (parseMethodDescriptor yX6_debtOf.desc).map (fun d => d.parameters.length) = some 2 := by decide +kernel
theorem hd_X6_owes : yX6_owes.cls ≠ "java/lang/invoke/MethodHandle" ∧ yX6_owes.cls ≠ "java/lang/invoke/VarHandle" ∧ (parseMethodDescriptor yX6_owes.desc).map (fun d => d.parameters.length) = some 3 := by decide +kernel
theorem hd_X6_isPoint : yX6_isPoint.cls ≠ "java/lang/invoke/MethodHandle" ∧ yX6_isPoint.cls ≠ "java/lang/invoke/VarHandle" ∧ (parseMethodDescriptor yX6_isPoint.desc).map (fun d => d.parameters.length) = some 1 := by decide +kernel
theorem hd_X6_isParish : yX6_isParish.cls ≠ "java/lang/invoke/MethodHandle" ∧ yX6_isParish.cls ≠ "java/lang/invoke/VarHandle" ∧ (parseMethodDescriptor yX6_isParish.desc).map (fun d => d.parameters.length) = some 1 := by decide +kernel
theorem hd_X6_sideOf : yX6_sideOf.cls ≠ "java/lang/invoke/MethodHandle" ∧ yX6_sideOf.cls ≠ "java/lang/invoke/VarHandle" ∧ (parseMethodDescriptor yX6_sideOf.desc).map (fun d => d.parameters.length) = some 1 := by decide +kernel
theorem hd_X6_parishAt : yX6_parishAt.cls ≠ "java/lang/invoke/MethodHandle" ∧ yX6_parishAt.cls ≠ "java/lang/invoke/VarHandle" ∧ (parseMethodDescriptor yX6_parishAt.desc).map (fun d => d.parameters.length) = some 2 := by decide +kernel
theorem hd_X6_parishOf : yX6_parishOf.cls ≠ "java/lang/invoke/MethodHandle" ∧ yX6_parishOf.cls ≠ "java/lang/invoke/VarHandle" ∧ (parseMethodDescriptor yX6_parishOf.desc).map (fun d => d.parameters.length) = some 1 := by decide +kernel
theorem hd_X6_pointsIn : yX6_pointsIn.cls ≠ "java/lang/invoke/MethodHandle" ∧ yX6_pointsIn.cls ≠ "java/lang/invoke/VarHandle" ∧ (parseMethodDescriptor yX6_pointsIn.desc).map (fun d => d.parameters.length) = some 4 := by decide +kernel
theorem hd_X6_pointsInCell : yX6_pointsInCell.cls ≠ "java/lang/invoke/MethodHandle" ∧ yX6_pointsInCell.cls ≠ "java/lang/invoke/VarHandle" ∧ (parseMethodDescriptor yX6_pointsInCell.desc).map (fun d => d.parameters.length) = some 3 := by decide +kernel
theorem hd_X6_allPoints : yX6_allPoints.cls ≠ "java/lang/invoke/MethodHandle" ∧ yX6_allPoints.cls ≠ "java/lang/invoke/VarHandle" ∧ (parseMethodDescriptor yX6_allPoints.desc).map (fun d => d.parameters.length) = some 0 := by decide +kernel
theorem hd_X6_owed : yX6_owed.cls ≠ "java/lang/invoke/MethodHandle" ∧ yX6_owed.cls ≠ "java/lang/invoke/VarHandle" ∧ (parseMethodDescriptor yX6_owed.desc).map (fun d => d.parameters.length) = some 1 := by decide +kernel
theorem hd_X6_setParish : yX6_setParish.cls ≠ "java/lang/invoke/MethodHandle" ∧ yX6_setParish.cls ≠ "java/lang/invoke/VarHandle" ∧ (parseMethodDescriptor yX6_setParish.desc).map (fun d => d.parameters.length) = some 4 := by decide +kernel
theorem hd_X6_setLord : yX6_setLord.cls ≠ "java/lang/invoke/MethodHandle" ∧ yX6_setLord.cls ≠ "java/lang/invoke/VarHandle" ∧ (parseMethodDescriptor yX6_setLord.desc).map (fun d => d.parameters.length) = some 2 := by decide +kernel
theorem hd_X6_isCrowded : yX6_isCrowded.cls ≠ "java/lang/invoke/MethodHandle" ∧ yX6_isCrowded.cls ≠ "java/lang/invoke/VarHandle" ∧ (parseMethodDescriptor yX6_isCrowded.desc).map (fun d => d.parameters.length) = some 1 := by decide +kernel
theorem hd_X6_toSplit : yX6_toSplit.cls ≠ "java/lang/invoke/MethodHandle" ∧ yX6_toSplit.cls ≠ "java/lang/invoke/VarHandle" ∧ (parseMethodDescriptor yX6_toSplit.desc).map (fun d => d.parameters.length) = some 0 := by decide +kernel
theorem hd_X6_records : yX6_records.cls ≠ "java/lang/invoke/MethodHandle" ∧ yX6_records.cls ≠ "java/lang/invoke/VarHandle" ∧ (parseMethodDescriptor yX6_records.desc).map (fun d => d.parameters.length) = some 0 := by decide +kernel
set_option maxHeartbeats 1000000 in
set_option maxRecDepth 100000 in
theorem c_X6_in (l : Launch) (D : va_G) (cI cQ : ClassId) (v lo hi : Int32) : zRO l yX6_in (Cond.code yX6_in cX6_in 3 (some .boolean) :: zT) 0 0 [.int v, .int lo, .int hi] D cI cQ ([]) (bI (btw v lo hi)) := by
  refine zRO.of (cc := cX6_in) (maxL := 3) (ret := some .boolean) (by decide +kernel) rfl (Nat.le_of_ble_eq_true rfl) ?_
  intro pg e s mi args below meth cd hx hb hr hts hown hlocks hml hP hK ls hl
  have hz : ∀ w ∈ zT, w.before args s = true := fun w h => hts w (List.mem_cons_of_mem _ h)
  have hl : lv_has ls 3 [(0, .int (v)), (1, .int (lo)), (2, .int (hi))] := hl
  refine lv_iload_n hx hb dX6_in_0 rfl (lv_at hl 0 rfl) ?_
  refine lv_iload_n hx hb dX6_in_1 rfl (lv_at hl 1 rfl) ?_
  refine lv_icmp_lt (tgt := 14) hx hb dX6_in_2 (by decide) (fun c_2 => ?_) (fun c_2 => ?_)
  · have c_2 : (v : Int32) < lo := c_2
    refine lv_iconst (v := 0) hx hb dX6_in_14 (by decide) ?_
    exact z_iret hx hb hr rfl hlocks (by simp [btw, bI, c_2]) dX6_in_15
  · have c_2 : ¬ ((v : Int32) < lo) := c_2
    refine lv_iload_n hx hb dX6_in_5 rfl (lv_at hl 0 rfl) ?_
    refine lv_iload_n hx hb dX6_in_6 rfl (lv_at hl 2 rfl) ?_
    refine lv_icmp_gt (tgt := 14) hx hb dX6_in_7 (by decide) (fun c_7 => ?_) (fun c_7 => ?_)
    · have c_7 : (hi : Int32) < v := c_7
      refine lv_iconst (v := 0) hx hb dX6_in_14 (by decide) ?_
      exact z_iret hx hb hr rfl hlocks (by simp [btw, bI, c_2, c_7]) dX6_in_15
    · have c_7 : ¬ ((hi : Int32) < v) := c_7
      refine lv_iconst (v := 1) hx hb dX6_in_10 (by decide) ?_
      refine lv_goto (tgt := 15) hx hb dX6_in_11 (by decide) ?_
      exact z_iret hx hb hr rfl hlocks (by simp [btw, bI, c_2, c_7]) dX6_in_15
set_option maxHeartbeats 1000000 in
set_option maxRecDepth 100000 in
theorem c_X6_isPlace (l : Launch) (D : va_G) (cI cQ : ClassId) (x y : Int32) : zRO l yX6_isPlace (Cond.code yX6_isPlace cX6_isPlace 2 (some .boolean) :: zT) 1 22 [.int x, .int y] D cI cQ ([]) (bI (onMap x y)) := by
  refine zRO.of (cc := cX6_isPlace) (maxL := 2) (ret := some .boolean) (by decide +kernel) rfl (Nat.le_of_ble_eq_true rfl) ?_
  intro pg e s mi args below meth cd hx hb hr hts hown hlocks hml hP hK ls hl
  have hz : ∀ w ∈ zT, w.before args s = true := fun w h => hts w (List.mem_cons_of_mem _ h)
  have hl : lv_has ls 2 [(0, .int (x)), (1, .int (y))] := hl
  refine lv_iload_n hx hb dX6_isPlace_0 rfl (lv_at hl 0 rfl) ?_
  refine lv_iconst (v := 0) hx hb dX6_isPlace_1 (by decide) ?_
  refine lv_bipush (v := 63) hx hb dX6_isPlace_2 (by decide) ?_
  refine z_ro (va_runS (As := [.int (x), .int (0 : Int32), .int (63 : Int32)]) (rest := []) ⟨hx, hb, hml, hown, hz⟩ (c_X6_in l D cI cQ x (0 : Int32) (63 : Int32)) (zcwS 3 hz q3_105 q3_106 q1_7 q3_107 hd_X6_in (Nat.le_of_ble_eq_true rfl) (Nat.le_of_ble_eq_true rfl)) (z_ps hK z_nil) rfl rfl hl.1 rfl (lv_room (Nat.le_of_ble_eq_true rfl)) dX6_isPlace_4 ⟨(Nat.le_of_ble_eq_true rfl), (Nat.le_of_ble_eq_true rfl)⟩) ?_
  refine lv_if_eq (tgt := 24) hx hb dX6_isPlace_7 (by decide) (fun c_7 => ?_) (fun c_7 => ?_)
  · have c_7 : (btw x (0 : Int32) (63 : Int32)) = false := bI_f c_7
    refine lv_iconst (v := 0) hx hb dX6_isPlace_24 (by decide) ?_
    exact z_iret hx hb hr rfl hlocks (by simp [onMap, bI, c_7]) dX6_isPlace_25
  · have c_7 : (btw x (0 : Int32) (63 : Int32)) = true := bI_t c_7
    refine lv_iload_n hx hb dX6_isPlace_10 rfl (lv_at hl 1 rfl) ?_
    refine lv_iconst (v := 0) hx hb dX6_isPlace_11 (by decide) ?_
    refine lv_bipush (v := 63) hx hb dX6_isPlace_12 (by decide) ?_
    refine z_ro (va_runS (As := [.int (y), .int (0 : Int32), .int (63 : Int32)]) (rest := []) ⟨hx, hb, hml, hown, hz⟩ (c_X6_in l D cI cQ y (0 : Int32) (63 : Int32)) (zcwS 3 hz q3_105 q3_106 q1_7 q3_107 hd_X6_in (Nat.le_of_ble_eq_true rfl) (Nat.le_of_ble_eq_true rfl)) (z_ps hK z_nil) rfl rfl hl.1 rfl (lv_room (Nat.le_of_ble_eq_true rfl)) dX6_isPlace_14 ⟨(Nat.le_of_ble_eq_true rfl), (Nat.le_of_ble_eq_true rfl)⟩) ?_
    refine lv_if_eq (tgt := 24) hx hb dX6_isPlace_17 (by decide) (fun c_17 => ?_) (fun c_17 => ?_)
    · have c_17 : (btw y (0 : Int32) (63 : Int32)) = false := bI_f c_17
      refine lv_iconst (v := 0) hx hb dX6_isPlace_24 (by decide) ?_
      exact z_iret hx hb hr rfl hlocks (by simp [onMap, bI, c_7, c_17]) dX6_isPlace_25
    · have c_17 : (btw y (0 : Int32) (63 : Int32)) = true := bI_t c_17
      refine lv_iconst (v := 1) hx hb dX6_isPlace_20 (by decide) ?_
      refine lv_goto (tgt := 25) hx hb dX6_isPlace_21 (by decide) ?_
      exact z_iret hx hb hr rfl hlocks (by simp [onMap, bI, c_7, c_17]) dX6_isPlace_25
set_option maxHeartbeats 1000000 in
set_option maxRecDepth 100000 in
theorem c_X6_copies (l : Launch) (D : va_G) (cI cQ : ClassId) (r : Nat → Nat) (M : MS) (fr to : Int32) (hx_ : cpOk fr) (hy_ : cpOk to) (g1 : FI) (hg1 : g1 = cps (mR M) fr to 1964) : zWR l yX6_copies (Cond.code yX6_copies cX6_copies 4 (none) :: zT) 0 0 [.ref (r 0), .int fr, .int to] D cI cQ (zMod cI r M) none (zMod cI r (uR M g1)) := by
  refine zWR.of (cc := cX6_copies) (maxL := 4) (ret := none) (by decide +kernel) rfl (Nat.le_of_ble_eq_true rfl) ?_
  intro pg e s mi args below meth cd hx hb hr hts hown hlocks hml hP hD hS hK ls hl
  have hz : ∀ w ∈ zT, w.before args s = true := fun w h => hts w (List.mem_cons_of_mem _ h)
  have hl : lv_has ls 4 [(0, .ref (r 0)), (1, .int (fr)), (2, .int (to))] := hl
  refine lv_iconst (v := 0) hx hb dX6_copies_0 (by decide) ?_
  refine lv_istore_n (lv' := [(3, .int (0 : Int32)), (0, .ref (r 0)), (1, .int (fr)), (2, .int (to))]) hx hb dX6_copies_1 rfl hl (by decide) rfl (fun ls hl => ?_)
  have L2 : ∀ (n2 k2 : Nat), k2 ≤ 1964 → 1964 < k2 + n2 → ∀ (H : Heap) (locs : List Loc), va_P D vwCl (zMod cI r (uR M (cps (mR M) fr to k2))) H → va_D (zA (zMod cI r M)) (zMod cI r (uR M (cps (mR M) fr to k2))) → va_S (zA (zMod cI r M)) s.heap H locs → ∀ (ls : Array Slot), lv_has ls 4 [(3, .int (nI k2)), (0, .ref (r 0)), (1, .int (fr)), (2, .int (to))] → W pg l e ({ frames := 0, cells := 0, slots := 0, locals := 0 }) s mi args below meth cd H locs 0 0 (MQ below (zQ D (zMod cI r M) none (zMod cI r (uR M g1))) args s 0 0 (zA (zMod cI r M))) (F0 mi 2 ls []) := by
    intro n2
    induction n2 with
    | zero => intro k2 h1 h2; exact absurd h2 (by omega)
    | succ n2 ih2 =>
      intro k2 h1_2 h2_2  H locs hP hD hS ls hl
      refine lv_iload_n hx hb dX6_copies_2 rfl (lv_at hl 0 rfl) ?_
      refine lv_sipush (v := 1964) hx hb dX6_copies_3 (by decide) ?_
      refine lv_icmp_ge (tgt := 31) hx hb dX6_copies_6 (by decide) (fun c_6 => ?_) (fun c_6 => ?_)
      · have c_6 : ((1964 : Int32) : Int32) ≤ nI k2 := c_6
        have hk_2 : k2 = 1964 := z_exit (by decide) h1_2 c_6
        exact z_wvret hx hb hr hlocks hP hS (congrArg (fun T => zMod cI r T) (show uR M (cps (mR M) fr to k2) = uR M g1 from by (try simp only [hg1]) <;> (rw [hk_2]))) dX6_copies_31
      · have c_6 : ¬ (((1964 : Int32) : Int32) ≤ nI k2) := c_6
        have hk_2 : k2 < 1964 := z_cont (by decide) h1_2 c_6
        refine lv_aload_n hx hb dX6_copies_9 rfl (lv_at hl 1 rfl) ?_
        refine va_get (D := D) (ci := 6) (v := .ref (r 1)) (C := RX6) (T := TX6) (N := 3) hx hb hz inZ6 hown hK.1 hP 0 rfl rfl 0 (by decide) (hz _ q3_88) (fun _ h9 => h9) rfl dX6_copies_10 ?_
        refine lv_iload_n hx hb dX6_copies_13 rfl (lv_at hl 3 rfl) ?_
        refine lv_iload_n hx hb dX6_copies_14 rfl (lv_at hl 0 rfl) ?_
        refine lv_iadd hx hb dX6_copies_15 ?_
        refine lv_aload_n hx hb dX6_copies_16 rfl (lv_at hl 1 rfl) ?_
        refine va_get (D := D) (ci := 6) (v := .ref (r 1)) (C := RX6) (T := TX6) (N := 3) hx hb hz inZ6 hown hK.1 hP 0 rfl rfl 0 (by decide) (hz _ q3_88) (fun _ h9 => h9) rfl dX6_copies_17 ?_
        refine lv_iload_n hx hb dX6_copies_20 rfl (lv_at hl 2 rfl) ?_
        refine lv_iload_n hx hb dX6_copies_21 rfl (lv_at hl 0 rfl) ?_
        refine lv_iadd hx hb dX6_copies_22 ?_
        refine va_iald (f := cps (mR M) fr to k2) hx hb hK.1 hP 1 0 rfl rfl (i := fr + (nI k2)) (cp_in hx_ hk_2) dX6_copies_23 ?_
        refine va_iast hx hb hK.1 hP hD hS 1 0 rfl rfl (i := to + (nI k2)) (cp_in hy_ hk_2) dX6_copies_24 (fun H locs hP hD hS => ?_)
        have hP : va_P D vwCl (zMod cI r (uR M (upd (cps (mR M) fr to k2) (to + (nI k2)).toNatClampNeg ((cps (mR M) fr to k2) (fr + (nI k2)).toNatClampNeg)))) H := hP
        have hD : va_D (zA (zMod cI r M)) (zMod cI r (uR M (upd (cps (mR M) fr to k2) (to + (nI k2)).toNatClampNeg ((cps (mR M) fr to k2) (fr + (nI k2)).toNatClampNeg)))) := hD
        refine lv_iinc (v := (nI k2) + 1) (lv' := [(3, .int ((nI k2) + 1)), (0, .ref (r 0)), (1, .int (fr)), (2, .int (to))]) hx hb dX6_copies_25 hl (k := 0) rfl rfl (by decide) rfl (fun ls hl => ?_)
        refine lv_goto (tgt := 2) hx hb dX6_copies_28 (by decide) ?_
        have e2_3 : (nI (k2 + 1) : Int32) = (nI k2) + 1 := (nI_1 _).symm
        have eS2 : uR M (cps (mR M) fr to (k2 + 1)) = uR M (upd (cps (mR M) fr to k2) (to + (nI k2)).toNatClampNeg ((cps (mR M) fr to k2) (fr + (nI k2)).toNatClampNeg)) := by rfl
        exact ih2 (k2 + 1) (by omega) (by omega) H locs (by rw [eS2]; exact hP) (by rw [eS2]; exact hD) hS _ (by (try rw [e2_3]); exact lv_sub hl [0, 1, 2, 3] rfl)
  have e2_3 : (nI 0 : Int32) = (0 : Int32) := rfl
  have eS2 : uR M (cps (mR M) fr to 0) = M := by rfl
  exact L2 (1964 + 1) (0) (Nat.zero_le _) (by omega) s.heap [] (by rw [eS2]; exact hP) (by rw [eS2]; exact hD) hS _ (by (try rw [e2_3]); exact lv_sub hl [0, 1, 2, 3] rfl)
set_option maxHeartbeats 1000000 in
set_option maxRecDepth 100000 in
theorem c_X6_ofPoint (l : Launch) (D : va_G) (cI cQ : ClassId) (r : Nat → Nat) (M : MS) (i w : Int32) (hi : vp_in (4 + 5 * i + w) 11784) : zRO l yX6_ofPoint (Cond.code yX6_ofPoint cX6_ofPoint 3 (some .int) :: zT) 0 0 [.ref (r 0), .int i, .int w] D cI cQ (zMod cI r M) (oP (mR M) i w) := by
  refine zRO.of (cc := cX6_ofPoint) (maxL := 3) (ret := some .int) (by decide +kernel) rfl (Nat.le_of_ble_eq_true rfl) ?_
  intro pg e s mi args below meth cd hx hb hr hts hown hlocks hml hP hK ls hl
  have hz : ∀ w ∈ zT, w.before args s = true := fun w h => hts w (List.mem_cons_of_mem _ h)
  have hl : lv_has ls 3 [(0, .ref (r 0)), (1, .int (i)), (2, .int (w))] := hl
  refine lv_aload_n hx hb dX6_ofPoint_0 rfl (lv_at hl 0 rfl) ?_
  refine va_get (D := D) (ci := 6) (v := .ref (r 1)) (C := RX6) (T := TX6) (N := 3) hx hb hz inZ6 hown hK.1 hP 0 rfl rfl 0 (by decide) (hz _ q3_88) (fun _ h9 => h9) rfl dX6_ofPoint_1 ?_
  refine lv_iconst (v := 4) hx hb dX6_ofPoint_4 (by decide) ?_
  refine lv_iconst (v := 5) hx hb dX6_ofPoint_5 (by decide) ?_
  refine lv_iload_n hx hb dX6_ofPoint_6 rfl (lv_at hl 1 rfl) ?_
  refine lv_imul hx hb dX6_ofPoint_7 ?_
  refine lv_iadd hx hb dX6_ofPoint_8 ?_
  refine lv_iload_n hx hb dX6_ofPoint_9 rfl (lv_at hl 2 rfl) ?_
  refine lv_iadd hx hb dX6_ofPoint_10 ?_
  refine va_iald (f := mR M) hx hb hK.1 hP 1 0 rfl rfl (i := ((4 : Int32) + ((5 : Int32) * i)) + w) (hi) dX6_ofPoint_11 ?_
  exact z_iret hx hb hr rfl hlocks (by rfl) dX6_ofPoint_12
set_option maxHeartbeats 1000000 in
set_option maxRecDepth 100000 in
theorem c_X6_ofParish (l : Launch) (D : va_G) (cI cQ : ClassId) (r : Nat → Nat) (M : MS) (p w : Int32) (hi : vp_in (204 + 4 * p + w) 11784) : zRO l yX6_ofParish (Cond.code yX6_ofParish cX6_ofParish 3 (some .int) :: zT) 0 0 [.ref (r 0), .int p, .int w] D cI cQ (zMod cI r M) (qA (mR M) p w) := by
  refine zRO.of (cc := cX6_ofParish) (maxL := 3) (ret := some .int) (by decide +kernel) rfl (Nat.le_of_ble_eq_true rfl) ?_
  intro pg e s mi args below meth cd hx hb hr hts hown hlocks hml hP hK ls hl
  have hz : ∀ w ∈ zT, w.before args s = true := fun w h => hts w (List.mem_cons_of_mem _ h)
  have hl : lv_has ls 3 [(0, .ref (r 0)), (1, .int (p)), (2, .int (w))] := hl
  refine lv_aload_n hx hb dX6_ofParish_0 rfl (lv_at hl 0 rfl) ?_
  refine va_get (D := D) (ci := 6) (v := .ref (r 1)) (C := RX6) (T := TX6) (N := 3) hx hb hz inZ6 hown hK.1 hP 0 rfl rfl 0 (by decide) (hz _ q3_88) (fun _ h9 => h9) rfl dX6_ofParish_1 ?_
  refine lv_sipush (v := 204) hx hb dX6_ofParish_4 (by decide) ?_
  refine lv_iconst (v := 4) hx hb dX6_ofParish_7 (by decide) ?_
  refine lv_iload_n hx hb dX6_ofParish_8 rfl (lv_at hl 1 rfl) ?_
  refine lv_imul hx hb dX6_ofParish_9 ?_
  refine lv_iadd hx hb dX6_ofParish_10 ?_
  refine lv_iload_n hx hb dX6_ofParish_11 rfl (lv_at hl 2 rfl) ?_
  refine lv_iadd hx hb dX6_ofParish_12 ?_
  refine va_iald (f := mR M) hx hb hK.1 hP 1 0 rfl rfl (i := ((204 : Int32) + ((4 : Int32) * p)) + w) (hi) dX6_ofParish_13 ?_
  exact z_iret hx hb hr rfl hlocks (by rfl) dX6_ofParish_14
set_option maxHeartbeats 1000000 in
set_option maxRecDepth 100000 in
theorem c_X6_debtOf (l : Launch) (D : va_G) (cI cQ : ClassId) (r : Nat → Nat) (M : MS) (p c : Int32) (hi : vp_in (364 + 40 * p + c) 11784) : zRO l yX6_debtOf (Cond.code yX6_debtOf cX6_debtOf 3 (some .int) :: zT) 0 0 [.ref (r 0), .int p, .int c] D cI cQ (zMod cI r M) (dO (mR M) p c) := by
  refine zRO.of (cc := cX6_debtOf) (maxL := 3) (ret := some .int) (by decide +kernel) rfl (Nat.le_of_ble_eq_true rfl) ?_
  intro pg e s mi args below meth cd hx hb hr hts hown hlocks hml hP hK ls hl
  have hz : ∀ w ∈ zT, w.before args s = true := fun w h => hts w (List.mem_cons_of_mem _ h)
  have hl : lv_has ls 3 [(0, .ref (r 0)), (1, .int (p)), (2, .int (c))] := hl
  refine lv_aload_n hx hb dX6_debtOf_0 rfl (lv_at hl 0 rfl) ?_
  refine va_get (D := D) (ci := 6) (v := .ref (r 1)) (C := RX6) (T := TX6) (N := 3) hx hb hz inZ6 hown hK.1 hP 0 rfl rfl 0 (by decide) (hz _ q3_88) (fun _ h9 => h9) rfl dX6_debtOf_1 ?_
  refine lv_sipush (v := 364) hx hb dX6_debtOf_4 (by decide) ?_
  refine lv_bipush (v := 40) hx hb dX6_debtOf_7 (by decide) ?_
  refine lv_iload_n hx hb dX6_debtOf_9 rfl (lv_at hl 1 rfl) ?_
  refine lv_imul hx hb dX6_debtOf_10 ?_
  refine lv_iadd hx hb dX6_debtOf_11 ?_
  refine lv_iload_n hx hb dX6_debtOf_12 rfl (lv_at hl 2 rfl) ?_
  refine lv_iadd hx hb dX6_debtOf_13 ?_
  refine va_iald (f := mR M) hx hb hK.1 hP 1 0 rfl rfl (i := ((364 : Int32) + ((40 : Int32) * p)) + c) (hi) dX6_debtOf_14 ?_
  exact z_iret hx hb hr rfl hlocks (by rfl) dX6_debtOf_15
set_option maxHeartbeats 1000000 in
set_option maxRecDepth 100000 in
theorem c_X6_owes (l : Launch) (D : va_G) (cI cQ : ClassId) (r : Nat → Nat) (M : MS) (p c v : Int32) (hi : vp_in (364 + 40 * p + c) 11784) (g1 : FI) (hg1 : g1 = oW (mR M) p c v) : zWR l yX6_owes (Cond.code yX6_owes cX6_owes 4 (none) :: zT) 0 0 [.ref (r 0), .int p, .int c, .int v] D cI cQ (zMod cI r M) none (zMod cI r (uR M g1)) := by
  refine zWR.of (cc := cX6_owes) (maxL := 4) (ret := none) (by decide +kernel) rfl (Nat.le_of_ble_eq_true rfl) ?_
  intro pg e s mi args below meth cd hx hb hr hts hown hlocks hml hP hD hS hK ls hl
  have hz : ∀ w ∈ zT, w.before args s = true := fun w h => hts w (List.mem_cons_of_mem _ h)
  have hl : lv_has ls 4 [(0, .ref (r 0)), (1, .int (p)), (2, .int (c)), (3, .int (v))] := hl
  refine lv_aload_n hx hb dX6_owes_0 rfl (lv_at hl 0 rfl) ?_
  refine va_get (D := D) (ci := 6) (v := .ref (r 1)) (C := RX6) (T := TX6) (N := 3) hx hb hz inZ6 hown hK.1 hP 0 rfl rfl 0 (by decide) (hz _ q3_88) (fun _ h9 => h9) rfl dX6_owes_1 ?_
  refine lv_sipush (v := 364) hx hb dX6_owes_4 (by decide) ?_
  refine lv_bipush (v := 40) hx hb dX6_owes_7 (by decide) ?_
  refine lv_iload_n hx hb dX6_owes_9 rfl (lv_at hl 1 rfl) ?_
  refine lv_imul hx hb dX6_owes_10 ?_
  refine lv_iadd hx hb dX6_owes_11 ?_
  refine lv_iload_n hx hb dX6_owes_12 rfl (lv_at hl 2 rfl) ?_
  refine lv_iadd hx hb dX6_owes_13 ?_
  refine lv_dup2_11 hx hb dX6_owes_14 rfl rfl ?_
  refine va_iald (f := mR M) hx hb hK.1 hP 1 0 rfl rfl (i := ((364 : Int32) + ((40 : Int32) * p)) + c) (hi) dX6_owes_15 ?_
  refine lv_iload_n hx hb dX6_owes_16 rfl (lv_at hl 3 rfl) ?_
  refine lv_iadd hx hb dX6_owes_17 ?_
  refine va_iast hx hb hK.1 hP hD hS 1 0 rfl rfl (i := ((364 : Int32) + ((40 : Int32) * p)) + c) (hi) dX6_owes_18 (fun H locs hP hD hS => ?_)
  have hP : va_P D vwCl (zMod cI r (uR M (upd (mR M) (((364 : Int32) + ((40 : Int32) * p)) + c).toNatClampNeg (((mR M) (((364 : Int32) + ((40 : Int32) * p)) + c).toNatClampNeg) + v)))) H := hP
  have hD : va_D (zA (zMod cI r M)) (zMod cI r (uR M (upd (mR M) (((364 : Int32) + ((40 : Int32) * p)) + c).toNatClampNeg (((mR M) (((364 : Int32) + ((40 : Int32) * p)) + c).toNatClampNeg) + v)))) := hD
  exact z_wvret hx hb hr hlocks hP hS (congrArg (fun T => zMod cI r T) (show uR M (upd (mR M) (((364 : Int32) + ((40 : Int32) * p)) + c).toNatClampNeg (((mR M) (((364 : Int32) + ((40 : Int32) * p)) + c).toNatClampNeg) + v)) = uR M g1 from by (try simp only [hg1]) <;> (rfl))) dX6_owes_19
set_option maxHeartbeats 1000000 in
set_option maxRecDepth 100000 in
theorem c_X6_isPoint (l : Launch) (D : va_G) (cI cQ : ClassId) (r : Nat → Nat) (M : MS) (i : Int32) (a : Nat) (f : Nat) (hA : mOk (mR M) a f) : zRO l yX6_isPoint (Cond.code yX6_isPoint cX6_isPoint 2 (some .boolean) :: zT) 1 22 [.ref (r 0), .int i] D cI cQ (zMod cI r M) (bI (iP (mR M) i)) := by
  refine zRO.of (cc := cX6_isPoint) (maxL := 2) (ret := some .boolean) (by decide +kernel) rfl (Nat.le_of_ble_eq_true rfl) ?_
  intro pg e s mi args below meth cd hx hb hr hts hown hlocks hml hP hK ls hl
  have hz : ∀ w ∈ zT, w.before args s = true := fun w h => hts w (List.mem_cons_of_mem _ h)
  have hl : lv_has ls 2 [(0, .ref (r 0)), (1, .int (i))] := hl
  refine lv_iload_n hx hb dX6_isPoint_0 rfl (lv_at hl 1 rfl) ?_
  refine lv_iconst (v := 0) hx hb dX6_isPoint_1 (by decide) ?_
  refine lv_aload_n hx hb dX6_isPoint_2 rfl (lv_at hl 0 rfl) ?_
  refine va_get (D := D) (ci := 6) (v := .ref (r 1)) (C := RX6) (T := TX6) (N := 3) hx hb hz inZ6 hown hK.1 hP 0 rfl rfl 0 (by decide) (hz _ q3_88) (fun _ h9 => h9) rfl dX6_isPoint_3 ?_
  refine lv_iconst (v := 2) hx hb dX6_isPoint_6 (by decide) ?_
  refine va_iald (f := mR M) hx hb hK.1 hP 1 0 rfl rfl (i := (2 : Int32)) (z_inC (by decide) (by decide)) dX6_isPoint_7 ?_
  refine lv_iconst (v := 1) hx hb dX6_isPoint_8 (by decide) ?_
  refine lv_isub hx hb dX6_isPoint_9 ?_
  refine z_ro (va_runS (As := [.int (i), .int (0 : Int32), .int (((mR M) 2) - (1 : Int32))]) (rest := []) ⟨hx, hb, hml, hown, hz⟩ (c_X6_in l D cI cQ i (0 : Int32) (((mR M) 2) - (1 : Int32))) (zcwS 3 hz q3_105 q3_106 q1_7 q3_107 hd_X6_in (Nat.le_of_ble_eq_true rfl) (Nat.le_of_ble_eq_true rfl)) (z_ps hK z_nil) rfl rfl hl.1 rfl (lv_room (Nat.le_of_ble_eq_true rfl)) dX6_isPoint_10 ⟨(Nat.le_of_ble_eq_true rfl), (Nat.le_of_ble_eq_true rfl)⟩) ?_
  refine lv_if_eq (tgt := 30) hx hb dX6_isPoint_13 (by decide) (fun c_13 => ?_) (fun c_13 => ?_)
  · have c_13 : (btw i (0 : Int32) (((mR M) 2) - (1 : Int32))) = false := bI_f c_13
    refine lv_iconst (v := 0) hx hb dX6_isPoint_30 (by decide) ?_
    exact z_iret hx hb hr rfl hlocks (by simp [iP, bI, c_13]) dX6_isPoint_31
  · have c_13 : (btw i (0 : Int32) (((mR M) 2) - (1 : Int32))) = true := bI_t c_13
    refine lv_aload_n hx hb dX6_isPoint_16 rfl (lv_at hl 0 rfl) ?_
    refine lv_iload_n hx hb dX6_isPoint_17 rfl (lv_at hl 1 rfl) ?_
    refine lv_iconst (v := 3) hx hb dX6_isPoint_18 (by decide) ?_
    refine z_ro (va_runV (As := [.int (i), .int (3 : Int32)]) (rest := []) ⟨hx, hb, hml, hown, hz⟩ (c_X6_ofPoint l D cI cQ r M i (3 : Int32) (ix1 (btw_R (by have := hA.1; omega) hA.2.2.1 c_13) (z_inC (by decide) (by decide)))) (zcwV 2 hz q3_160 q3_162 qs_25 q1_7 q3_163 hd_X6_ofPoint (Nat.le_of_ble_eq_true rfl) (Nat.le_of_ble_eq_true rfl)) (z_pv (ci := 6) (q := (RX6, TX6, 3)) hK hP rfl rfl) rfl rfl hl.1 rfl (lv_room (Nat.le_of_ble_eq_true rfl)) dX6_isPoint_19 ⟨(Nat.le_of_ble_eq_true rfl), (Nat.le_of_ble_eq_true rfl)⟩) ?_
    refine lv_iconst (v := 1) hx hb dX6_isPoint_22 (by decide) ?_
    refine lv_icmp_ne (tgt := 30) hx hb dX6_isPoint_23 (by decide) (fun c_23 => ?_) (fun c_23 => ?_)
    · have c_23 : ¬ ((oP ((mR M)) i (3 : Int32) : Int32) = (1 : Int32)) := c_23
      refine lv_iconst (v := 0) hx hb dX6_isPoint_30 (by decide) ?_
      exact z_iret hx hb hr rfl hlocks (by simp [iP, bI, c_13, c_23]) dX6_isPoint_31
    · have c_23 : (oP ((mR M)) i (3 : Int32) : Int32) = (1 : Int32) := c_23
      refine lv_iconst (v := 1) hx hb dX6_isPoint_26 (by decide) ?_
      refine lv_goto (tgt := 31) hx hb dX6_isPoint_27 (by decide) ?_
      exact z_iret hx hb hr rfl hlocks (by simp [iP, bI, c_13, c_23]) dX6_isPoint_31
set_option maxHeartbeats 1000000 in
set_option maxRecDepth 100000 in
theorem c_X6_isParish (l : Launch) (D : va_G) (cI cQ : ClassId) (r : Nat → Nat) (M : MS) (p : Int32) (a : Nat) (f : Nat) (hA : mOk (mR M) a f) : zRO l yX6_isParish (Cond.code yX6_isParish cX6_isParish 2 (some .boolean) :: zT) 1 22 [.ref (r 0), .int p] D cI cQ (zMod cI r M) (bI (iR (mR M) p)) := by
  refine zRO.of (cc := cX6_isParish) (maxL := 2) (ret := some .boolean) (by decide +kernel) rfl (Nat.le_of_ble_eq_true rfl) ?_
  intro pg e s mi args below meth cd hx hb hr hts hown hlocks hml hP hK ls hl
  have hz : ∀ w ∈ zT, w.before args s = true := fun w h => hts w (List.mem_cons_of_mem _ h)
  have hl : lv_has ls 2 [(0, .ref (r 0)), (1, .int (p))] := hl
  refine lv_iload_n hx hb dX6_isParish_0 rfl (lv_at hl 1 rfl) ?_
  refine lv_iconst (v := 0) hx hb dX6_isParish_1 (by decide) ?_
  refine lv_aload_n hx hb dX6_isParish_2 rfl (lv_at hl 0 rfl) ?_
  refine va_get (D := D) (ci := 6) (v := .ref (r 1)) (C := RX6) (T := TX6) (N := 3) hx hb hz inZ6 hown hK.1 hP 0 rfl rfl 0 (by decide) (hz _ q3_88) (fun _ h9 => h9) rfl dX6_isParish_3 ?_
  refine lv_iconst (v := 3) hx hb dX6_isParish_6 (by decide) ?_
  refine va_iald (f := mR M) hx hb hK.1 hP 1 0 rfl rfl (i := (3 : Int32)) (z_inC (by decide) (by decide)) dX6_isParish_7 ?_
  refine lv_iconst (v := 1) hx hb dX6_isParish_8 (by decide) ?_
  refine lv_isub hx hb dX6_isParish_9 ?_
  refine z_ro (va_runS (As := [.int (p), .int (0 : Int32), .int (((mR M) 3) - (1 : Int32))]) (rest := []) ⟨hx, hb, hml, hown, hz⟩ (c_X6_in l D cI cQ p (0 : Int32) (((mR M) 3) - (1 : Int32))) (zcwS 3 hz q3_105 q3_106 q1_7 q3_107 hd_X6_in (Nat.le_of_ble_eq_true rfl) (Nat.le_of_ble_eq_true rfl)) (z_ps hK z_nil) rfl rfl hl.1 rfl (lv_room (Nat.le_of_ble_eq_true rfl)) dX6_isParish_10 ⟨(Nat.le_of_ble_eq_true rfl), (Nat.le_of_ble_eq_true rfl)⟩) ?_
  refine lv_if_eq (tgt := 30) hx hb dX6_isParish_13 (by decide) (fun c_13 => ?_) (fun c_13 => ?_)
  · have c_13 : (btw p (0 : Int32) (((mR M) 3) - (1 : Int32))) = false := bI_f c_13
    refine lv_iconst (v := 0) hx hb dX6_isParish_30 (by decide) ?_
    exact z_iret hx hb hr rfl hlocks (by simp [iR, bI, c_13]) dX6_isParish_31
  · have c_13 : (btw p (0 : Int32) (((mR M) 3) - (1 : Int32))) = true := bI_t c_13
    refine lv_aload_n hx hb dX6_isParish_16 rfl (lv_at hl 0 rfl) ?_
    refine lv_iload_n hx hb dX6_isParish_17 rfl (lv_at hl 1 rfl) ?_
    refine lv_iconst (v := 0) hx hb dX6_isParish_18 (by decide) ?_
    refine z_ro (va_runV (As := [.int (p), .int (0 : Int32)]) (rest := []) ⟨hx, hb, hml, hown, hz⟩ (c_X6_ofParish l D cI cQ r M p (0 : Int32) (ix2 (Or.inl (btw_R hA.2.1 hA.2.2.2.1 c_13)) (z_inC (by decide) (by decide)))) (zcwV 2 hz q3_120 q3_122 qs_15 q1_7 q3_123 hd_X6_ofParish (Nat.le_of_ble_eq_true rfl) (Nat.le_of_ble_eq_true rfl)) (z_pv (ci := 6) (q := (RX6, TX6, 3)) hK hP rfl rfl) rfl rfl hl.1 rfl (lv_room (Nat.le_of_ble_eq_true rfl)) dX6_isParish_19 ⟨(Nat.le_of_ble_eq_true rfl), (Nat.le_of_ble_eq_true rfl)⟩) ?_
    refine lv_iconst (v := 1) hx hb dX6_isParish_22 (by decide) ?_
    refine lv_icmp_ne (tgt := 30) hx hb dX6_isParish_23 (by decide) (fun c_23 => ?_) (fun c_23 => ?_)
    · have c_23 : ¬ ((qA ((mR M)) p (0 : Int32) : Int32) = (1 : Int32)) := c_23
      refine lv_iconst (v := 0) hx hb dX6_isParish_30 (by decide) ?_
      exact z_iret hx hb hr rfl hlocks (by simp [iR, bI, c_13, c_23]) dX6_isParish_31
    · have c_23 : (qA ((mR M)) p (0 : Int32) : Int32) = (1 : Int32) := c_23
      refine lv_iconst (v := 1) hx hb dX6_isParish_26 (by decide) ?_
      refine lv_goto (tgt := 31) hx hb dX6_isParish_27 (by decide) ?_
      exact z_iret hx hb hr rfl hlocks (by simp [iR, bI, c_13, c_23]) dX6_isParish_31
set_option maxHeartbeats 1000000 in
set_option maxRecDepth 100000 in
theorem c_X6_sideOf (l : Launch) (D : va_G) (cI cQ : ClassId) (r : Nat → Nat) (M : MS) (p : Int32) (hp : vp_in p 100 ∨ p = -9) : zRO l yX6_sideOf (Cond.code yX6_sideOf cX6_sideOf 2 (some .int) :: zT) 1 22 [.ref (r 0), .int p] D cI cQ (zMod cI r M) (mSd (mR M) p) := by
  refine zRO.of (cc := cX6_sideOf) (maxL := 2) (ret := some .int) (by decide +kernel) rfl (Nat.le_of_ble_eq_true rfl) ?_
  intro pg e s mi args below meth cd hx hb hr hts hown hlocks hml hP hK ls hl
  have hz : ∀ w ∈ zT, w.before args s = true := fun w h => hts w (List.mem_cons_of_mem _ h)
  have hl : lv_has ls 2 [(0, .ref (r 0)), (1, .int (p))] := hl
  refine lv_bipush (v := 64) hx hb dX6_sideOf_0 (by decide) ?_
  refine lv_aload_n hx hb dX6_sideOf_2 rfl (lv_at hl 0 rfl) ?_
  refine lv_iload_n hx hb dX6_sideOf_3 rfl (lv_at hl 1 rfl) ?_
  refine lv_iconst (v := 3) hx hb dX6_sideOf_4 (by decide) ?_
  refine z_ro (va_runV (As := [.int (p), .int (3 : Int32)]) (rest := [.int (64 : Int32)]) ⟨hx, hb, hml, hown, hz⟩ (c_X6_ofParish l D cI cQ r M p (3 : Int32) (ix2 hp (z_inC (by decide) (by decide)))) (zcwV 2 hz q3_120 q3_122 qs_15 q1_7 q3_123 hd_X6_ofParish (Nat.le_of_ble_eq_true rfl) (Nat.le_of_ble_eq_true rfl)) (z_pv (ci := 6) (q := (RX6, TX6, 3)) hK hP rfl rfl) rfl rfl hl.1 rfl (lv_room (Nat.le_of_ble_eq_true rfl)) dX6_sideOf_5 ⟨(Nat.le_of_ble_eq_true rfl), (Nat.le_of_ble_eq_true rfl)⟩) ?_
  refine lv_ishr hx hb dX6_sideOf_8 ?_
  exact z_iret hx hb hr rfl hlocks (by rfl) dX6_sideOf_9
set_option maxHeartbeats 1000000 in
set_option maxRecDepth 100000 in
theorem c_X6_parishAt (l : Launch) (D : va_G) (cI cQ : ClassId) (r : Nat → Nat) (M : MS) (x y : Int32) (a : Nat) (f : Nat) (hA : mOk (mR M) a f) : zRO l yX6_parishAt (Cond.code yX6_parishAt cX6_parishAt 6 (some .int) :: zT) 2 43 [.ref (r 0), .int x, .int y] D cI cQ (zMod cI r M) (mAt (mR M) f x y) := by
  refine zRO.of (cc := cX6_parishAt) (maxL := 6) (ret := some .int) (by decide +kernel) rfl (Nat.le_of_ble_eq_true rfl) ?_
  intro pg e s mi args below meth cd hx hb hr hts hown hlocks hml hP hK ls hl
  have hz : ∀ w ∈ zT, w.before args s = true := fun w h => hts w (List.mem_cons_of_mem _ h)
  have hl : lv_has ls 6 [(0, .ref (r 0)), (1, .int (x)), (2, .int (y))] := hl
  refine lv_iconst (v := 0) hx hb dX6_parishAt_0 (by decide) ?_
  refine lv_istore_n (lv' := [(3, .int (0 : Int32)), (0, .ref (r 0)), (1, .int (x)), (2, .int (y))]) hx hb dX6_parishAt_1 rfl hl (by decide) rfl (fun ls hl => ?_)
  have L2 : ∀ (n2 k2 : Nat), k2 ≤ f → f < k2 + n2 → (mAt (mR M) f x y = fnd (mTou (mR M) x y) (f - k2) k2) → ∀ (ls : Array Slot), lv_has ls 6 [(3, .int (nI k2)), (0, .ref (r 0)), (1, .int (x)), (2, .int (y))] → W pg l e ({ frames := 2, cells := 0, slots := 0, locals := 43 }) s mi args below meth cd s.heap [] 0 0 (MQ below (vp_Si (fun r => r = mAt (mR M) f x y)) args s 0 0 (fun _ => False)) (F0 mi 2 ls []) := by
    intro n2
    induction n2 with
    | zero => intro k2 h1 h2; exact absurd h2 (by omega)
    | succ n2 ih2 =>
      intro k2 h1_2 h2_2 he ls hl
      refine lv_iload_n hx hb dX6_parishAt_2 rfl (lv_at hl 0 rfl) ?_
      refine lv_aload_n hx hb dX6_parishAt_3 rfl (lv_at hl 1 rfl) ?_
      refine va_get (D := D) (ci := 6) (v := .ref (r 1)) (C := RX6) (T := TX6) (N := 3) hx hb hz inZ6 hown hK.1 hP 0 rfl rfl 0 (by decide) (hz _ q3_88) (fun _ h9 => h9) rfl dX6_parishAt_4 ?_
      refine lv_iconst (v := 3) hx hb dX6_parishAt_7 (by decide) ?_
      refine va_iald (f := mR M) hx hb hK.1 hP 1 0 rfl rfl (i := (3 : Int32)) (z_inC (by decide) (by decide)) dX6_parishAt_8 ?_
      refine lv_icmp_ge (tgt := 80) hx hb dX6_parishAt_9 (by decide) (fun c_9 => ?_) (fun c_9 => ?_)
      · have c_9 : ((mR M) 3 : Int32) ≤ nI k2 := c_9
        rw [hA.2.2.2.1] at c_9
        have hk_2 : k2 = f := z_exit (by have := hA.2.1; omega) h1_2 c_9
        refine lv_bipush (v := (-9)) hx hb dX6_parishAt_80 (by decide) ?_
        exact z_iret hx hb hr rfl hlocks (by rw [he, hk_2, Nat.sub_self]; rfl) dX6_parishAt_82
      · have c_9 : ¬ (((mR M) 3 : Int32) ≤ nI k2) := c_9
        rw [hA.2.2.2.1] at c_9
        have hk_2 : k2 < f := z_cont (by have := hA.2.1; omega) h1_2 c_9
        refine lv_iload_n hx hb dX6_parishAt_12 rfl (lv_at hl 2 rfl) ?_
        refine lv_aload_n hx hb dX6_parishAt_13 rfl (lv_at hl 1 rfl) ?_
        refine lv_iload_n hx hb dX6_parishAt_14 rfl (lv_at hl 0 rfl) ?_
        refine lv_iconst (v := 1) hx hb dX6_parishAt_15 (by decide) ?_
        refine z_ro (va_runV (As := [.int (nI k2), .int (1 : Int32)]) (rest := [.int (x)]) ⟨hx, hb, hml, hown, hz⟩ (c_X6_ofParish l D cI cQ r M (nI k2) (1 : Int32) (ix2 (Or.inl (kin hk_2 hA.2.1)) (z_inC (by decide) (by decide)))) (zcwV 2 hz q3_120 q3_122 qs_15 q1_7 q3_123 hd_X6_ofParish (Nat.le_of_ble_eq_true rfl) (Nat.le_of_ble_eq_true rfl)) (z_pv (ci := 6) (q := (RX6, TX6, 3)) hK hP rfl rfl) rfl rfl hl.1 rfl (lv_room (Nat.le_of_ble_eq_true rfl)) dX6_parishAt_16 ⟨(Nat.le_of_ble_eq_true rfl), (Nat.le_of_ble_eq_true rfl)⟩) ?_
        refine lv_isub hx hb dX6_parishAt_19 ?_
        refine lv_istore (lv' := [(4, .int (x - (qA ((mR M)) (nI k2) (1 : Int32)))), (3, .int (nI k2)), (0, .ref (r 0)), (1, .int (x)), (2, .int (y))]) hx hb dX6_parishAt_20 hl (by decide) rfl (fun ls hl => ?_)
        refine lv_iload_n hx hb dX6_parishAt_22 rfl (lv_at hl 4 rfl) ?_
        refine lv_aload_n hx hb dX6_parishAt_23 rfl (lv_at hl 2 rfl) ?_
        refine lv_iload_n hx hb dX6_parishAt_24 rfl (lv_at hl 1 rfl) ?_
        refine lv_iconst (v := 2) hx hb dX6_parishAt_25 (by decide) ?_
        refine z_ro (va_runV (As := [.int (nI k2), .int (2 : Int32)]) (rest := [.int (y)]) ⟨hx, hb, hml, hown, hz⟩ (c_X6_ofParish l D cI cQ r M (nI k2) (2 : Int32) (ix2 (Or.inl (kin hk_2 hA.2.1)) (z_inC (by decide) (by decide)))) (zcwV 2 hz q3_120 q3_122 qs_15 q1_7 q3_123 hd_X6_ofParish (Nat.le_of_ble_eq_true rfl) (Nat.le_of_ble_eq_true rfl)) (z_pv (ci := 6) (q := (RX6, TX6, 3)) hK hP rfl rfl) rfl rfl hl.1 rfl (lv_room (Nat.le_of_ble_eq_true rfl)) dX6_parishAt_26 ⟨(Nat.le_of_ble_eq_true rfl), (Nat.le_of_ble_eq_true rfl)⟩) ?_
        refine lv_isub hx hb dX6_parishAt_29 ?_
        refine lv_istore (lv' := [(5, .int (y - (qA ((mR M)) (nI k2) (2 : Int32)))), (4, .int (x - (qA ((mR M)) (nI k2) (1 : Int32)))), (3, .int (nI k2)), (0, .ref (r 0)), (1, .int (x)), (2, .int (y))]) hx hb dX6_parishAt_30 hl (by decide) rfl (fun ls hl => ?_)
        refine lv_aload_n hx hb dX6_parishAt_32 rfl (lv_at hl 3 rfl) ?_
        refine lv_iload_n hx hb dX6_parishAt_33 rfl (lv_at hl 2 rfl) ?_
        refine z_ro (va_runV (As := [.int (nI k2)]) (rest := []) ⟨hx, hb, hml, hown, hz⟩ (c_X6_isParish l D cI cQ r M (nI k2) (a) (f) (hA)) (zcwV 1 hz q3_124 q3_126 qs_16 q1_7 q3_127 hd_X6_isParish (Nat.le_of_ble_eq_true rfl) (Nat.le_of_ble_eq_true rfl)) (z_pv (ci := 6) (q := (RX6, TX6, 3)) hK hP rfl rfl) rfl rfl hl.1 rfl (lv_room (Nat.le_of_ble_eq_true rfl)) dX6_parishAt_34 ⟨(Nat.le_of_ble_eq_true rfl), (Nat.le_of_ble_eq_true rfl)⟩) ?_
        refine lv_if_eq (tgt := 74) hx hb dX6_parishAt_37 (by decide) (fun c_37 => ?_) (fun c_37 => ?_)
        · have c_37 : (iR ((mR M)) (nI k2)) = false := bI_f c_37
          refine lv_iinc (v := (nI k2) + 1) (lv' := [(3, .int ((nI k2) + 1)), (5, .int (y - (qA ((mR M)) (nI k2) (2 : Int32)))), (4, .int (x - (qA ((mR M)) (nI k2) (1 : Int32)))), (0, .ref (r 0)), (1, .int (x)), (2, .int (y))]) hx hb dX6_parishAt_74 hl (k := 2) rfl rfl (by decide) rfl (fun ls hl => ?_)
          refine lv_goto (tgt := 2) hx hb dX6_parishAt_77 (by decide) ?_
          have e2_3 : (nI (k2 + 1) : Int32) = (nI k2) + 1 := (nI_1 _).symm
          exact ih2 (k2 + 1) (by omega) (by omega) (he.trans (fnd_no hk_2 (by simp [mTou, c_9, c_37]))) _ (by (try rw [e2_3]); exact lv_sub hl [0, 3, 4, 5] rfl)
        · have c_37 : (iR ((mR M)) (nI k2)) = true := bI_t c_37
          refine lv_iload hx hb dX6_parishAt_40 (lv_at hl 1 rfl) ?_
          refine lv_iconst (v := 0) hx hb dX6_parishAt_42 (by decide) ?_
          refine lv_aload_n hx hb dX6_parishAt_43 rfl (lv_at hl 3 rfl) ?_
          refine lv_iload_n hx hb dX6_parishAt_44 rfl (lv_at hl 2 rfl) ?_
          refine z_ro (va_runV (As := [.int (nI k2)]) (rest := [.int (0 : Int32), .int (x - (qA ((mR M)) (nI k2) (1 : Int32)))]) ⟨hx, hb, hml, hown, hz⟩ (c_X6_sideOf l D cI cQ r M (nI k2) (Or.inl (kin hk_2 hA.2.1))) (zcwV 1 hz q3_128 q3_130 qs_17 q1_7 q3_131 hd_X6_sideOf (Nat.le_of_ble_eq_true rfl) (Nat.le_of_ble_eq_true rfl)) (z_pv (ci := 6) (q := (RX6, TX6, 3)) hK hP rfl rfl) rfl rfl hl.1 rfl (lv_room (Nat.le_of_ble_eq_true rfl)) dX6_parishAt_45 ⟨(Nat.le_of_ble_eq_true rfl), (Nat.le_of_ble_eq_true rfl)⟩) ?_
          refine lv_iconst (v := 1) hx hb dX6_parishAt_48 (by decide) ?_
          refine lv_isub hx hb dX6_parishAt_49 ?_
          refine z_ro (va_runS (As := [.int (x - (qA ((mR M)) (nI k2) (1 : Int32))), .int (0 : Int32), .int ((mSd ((mR M)) (nI k2)) - (1 : Int32))]) (rest := []) ⟨hx, hb, hml, hown, hz⟩ (c_X6_in l D cI cQ (x - (qA ((mR M)) (nI k2) (1 : Int32))) (0 : Int32) ((mSd ((mR M)) (nI k2)) - (1 : Int32))) (zcwS 3 hz q3_105 q3_106 q1_7 q3_107 hd_X6_in (Nat.le_of_ble_eq_true rfl) (Nat.le_of_ble_eq_true rfl)) (z_ps hK z_nil) rfl rfl hl.1 rfl (lv_room (Nat.le_of_ble_eq_true rfl)) dX6_parishAt_50 ⟨(Nat.le_of_ble_eq_true rfl), (Nat.le_of_ble_eq_true rfl)⟩) ?_
          refine lv_if_eq (tgt := 74) hx hb dX6_parishAt_53 (by decide) (fun c_53 => ?_) (fun c_53 => ?_)
          · have c_53 : (btw (x - (qA ((mR M)) (nI k2) (1 : Int32))) (0 : Int32) ((mSd ((mR M)) (nI k2)) - (1 : Int32))) = false := bI_f c_53
            refine lv_iinc (v := (nI k2) + 1) (lv' := [(3, .int ((nI k2) + 1)), (5, .int (y - (qA ((mR M)) (nI k2) (2 : Int32)))), (4, .int (x - (qA ((mR M)) (nI k2) (1 : Int32)))), (0, .ref (r 0)), (1, .int (x)), (2, .int (y))]) hx hb dX6_parishAt_74 hl (k := 2) rfl rfl (by decide) rfl (fun ls hl => ?_)
            refine lv_goto (tgt := 2) hx hb dX6_parishAt_77 (by decide) ?_
            have e2_3 : (nI (k2 + 1) : Int32) = (nI k2) + 1 := (nI_1 _).symm
            exact ih2 (k2 + 1) (by omega) (by omega) (he.trans (fnd_no hk_2 (by simp [mTou, c_9, c_37, c_53]))) _ (by (try rw [e2_3]); exact lv_sub hl [0, 3, 4, 5] rfl)
          · have c_53 : (btw (x - (qA ((mR M)) (nI k2) (1 : Int32))) (0 : Int32) ((mSd ((mR M)) (nI k2)) - (1 : Int32))) = true := bI_t c_53
            refine lv_iload hx hb dX6_parishAt_56 (lv_at hl 0 rfl) ?_
            refine lv_iconst (v := 0) hx hb dX6_parishAt_58 (by decide) ?_
            refine lv_aload_n hx hb dX6_parishAt_59 rfl (lv_at hl 3 rfl) ?_
            refine lv_iload_n hx hb dX6_parishAt_60 rfl (lv_at hl 2 rfl) ?_
            refine z_ro (va_runV (As := [.int (nI k2)]) (rest := [.int (0 : Int32), .int (y - (qA ((mR M)) (nI k2) (2 : Int32)))]) ⟨hx, hb, hml, hown, hz⟩ (c_X6_sideOf l D cI cQ r M (nI k2) (Or.inl (kin hk_2 hA.2.1))) (zcwV 1 hz q3_128 q3_130 qs_17 q1_7 q3_131 hd_X6_sideOf (Nat.le_of_ble_eq_true rfl) (Nat.le_of_ble_eq_true rfl)) (z_pv (ci := 6) (q := (RX6, TX6, 3)) hK hP rfl rfl) rfl rfl hl.1 rfl (lv_room (Nat.le_of_ble_eq_true rfl)) dX6_parishAt_61 ⟨(Nat.le_of_ble_eq_true rfl), (Nat.le_of_ble_eq_true rfl)⟩) ?_
            refine lv_iconst (v := 1) hx hb dX6_parishAt_64 (by decide) ?_
            refine lv_isub hx hb dX6_parishAt_65 ?_
            refine z_ro (va_runS (As := [.int (y - (qA ((mR M)) (nI k2) (2 : Int32))), .int (0 : Int32), .int ((mSd ((mR M)) (nI k2)) - (1 : Int32))]) (rest := []) ⟨hx, hb, hml, hown, hz⟩ (c_X6_in l D cI cQ (y - (qA ((mR M)) (nI k2) (2 : Int32))) (0 : Int32) ((mSd ((mR M)) (nI k2)) - (1 : Int32))) (zcwS 3 hz q3_105 q3_106 q1_7 q3_107 hd_X6_in (Nat.le_of_ble_eq_true rfl) (Nat.le_of_ble_eq_true rfl)) (z_ps hK z_nil) rfl rfl hl.1 rfl (lv_room (Nat.le_of_ble_eq_true rfl)) dX6_parishAt_66 ⟨(Nat.le_of_ble_eq_true rfl), (Nat.le_of_ble_eq_true rfl)⟩) ?_
            refine lv_if_eq (tgt := 74) hx hb dX6_parishAt_69 (by decide) (fun c_69 => ?_) (fun c_69 => ?_)
            · have c_69 : (btw (y - (qA ((mR M)) (nI k2) (2 : Int32))) (0 : Int32) ((mSd ((mR M)) (nI k2)) - (1 : Int32))) = false := bI_f c_69
              refine lv_iinc (v := (nI k2) + 1) (lv' := [(3, .int ((nI k2) + 1)), (5, .int (y - (qA ((mR M)) (nI k2) (2 : Int32)))), (4, .int (x - (qA ((mR M)) (nI k2) (1 : Int32)))), (0, .ref (r 0)), (1, .int (x)), (2, .int (y))]) hx hb dX6_parishAt_74 hl (k := 2) rfl rfl (by decide) rfl (fun ls hl => ?_)
              refine lv_goto (tgt := 2) hx hb dX6_parishAt_77 (by decide) ?_
              have e2_3 : (nI (k2 + 1) : Int32) = (nI k2) + 1 := (nI_1 _).symm
              exact ih2 (k2 + 1) (by omega) (by omega) (he.trans (fnd_no hk_2 (by simp [mTou, c_9, c_37, c_53, c_69]))) _ (by (try rw [e2_3]); exact lv_sub hl [0, 3, 4, 5] rfl)
            · have c_69 : (btw (y - (qA ((mR M)) (nI k2) (2 : Int32))) (0 : Int32) ((mSd ((mR M)) (nI k2)) - (1 : Int32))) = true := bI_t c_69
              refine lv_iload_n hx hb dX6_parishAt_72 rfl (lv_at hl 2 rfl) ?_
              exact z_iret hx hb hr rfl hlocks (by exact (he.trans (fnd_yes hk_2 (by simp [mTou, c_37, c_53, c_69]))).symm) dX6_parishAt_73
  have e2_3 : (nI 0 : Int32) = (0 : Int32) := rfl
  exact L2 (f + 1) (0) (Nat.zero_le _) (by omega) (rfl) _ (by (try rw [e2_3]); exact lv_sub hl [0, 1, 2, 3] rfl)
set_option maxHeartbeats 1000000 in
set_option maxRecDepth 100000 in
theorem c_X6_parishOf (l : Launch) (D : va_G) (cI cQ : ClassId) (r : Nat → Nat) (M : MS) (i : Int32) (a : Nat) (f : Nat) (hA : mOk (mR M) a f) (hi : vp_in i 100) : zRO l yX6_parishOf (Cond.code yX6_parishOf cX6_parishOf 2 (some .int) :: zT) 3 68 [.ref (r 0), .int i] D cI cQ (zMod cI r M) (mAr (mR M) f i) := by
  refine zRO.of (cc := cX6_parishOf) (maxL := 2) (ret := some .int) (by decide +kernel) rfl (Nat.le_of_ble_eq_true rfl) ?_
  intro pg e s mi args below meth cd hx hb hr hts hown hlocks hml hP hK ls hl
  have hz : ∀ w ∈ zT, w.before args s = true := fun w h => hts w (List.mem_cons_of_mem _ h)
  have hl : lv_has ls 2 [(0, .ref (r 0)), (1, .int (i))] := hl
  refine lv_aload_n hx hb dX6_parishOf_0 rfl (lv_at hl 0 rfl) ?_
  refine lv_aload_n hx hb dX6_parishOf_1 rfl (lv_at hl 0 rfl) ?_
  refine lv_iload_n hx hb dX6_parishOf_2 rfl (lv_at hl 1 rfl) ?_
  refine lv_iconst (v := 0) hx hb dX6_parishOf_3 (by decide) ?_
  refine z_ro (va_runV (As := [.int (i), .int (0 : Int32)]) (rest := [.ref (r 0)]) ⟨hx, hb, hml, hown, hz⟩ (c_X6_ofPoint l D cI cQ r M i (0 : Int32) (ix1 hi (z_inC (by decide) (by decide)))) (zcwV 2 hz q3_160 q3_162 qs_25 q1_7 q3_163 hd_X6_ofPoint (Nat.le_of_ble_eq_true rfl) (Nat.le_of_ble_eq_true rfl)) (z_pv (ci := 6) (q := (RX6, TX6, 3)) hK hP rfl rfl) rfl rfl hl.1 rfl (lv_room (Nat.le_of_ble_eq_true rfl)) dX6_parishOf_4 ⟨(Nat.le_of_ble_eq_true rfl), (Nat.le_of_ble_eq_true rfl)⟩) ?_
  refine lv_aload_n hx hb dX6_parishOf_7 rfl (lv_at hl 0 rfl) ?_
  refine lv_iload_n hx hb dX6_parishOf_8 rfl (lv_at hl 1 rfl) ?_
  refine lv_iconst (v := 1) hx hb dX6_parishOf_9 (by decide) ?_
  refine z_ro (va_runV (As := [.int (i), .int (1 : Int32)]) (rest := [.int (oP ((mR M)) i (0 : Int32)), .ref (r 0)]) ⟨hx, hb, hml, hown, hz⟩ (c_X6_ofPoint l D cI cQ r M i (1 : Int32) (ix1 hi (z_inC (by decide) (by decide)))) (zcwV 2 hz q3_160 q3_162 qs_25 q1_7 q3_163 hd_X6_ofPoint (Nat.le_of_ble_eq_true rfl) (Nat.le_of_ble_eq_true rfl)) (z_pv (ci := 6) (q := (RX6, TX6, 3)) hK hP rfl rfl) rfl rfl hl.1 rfl (lv_room (Nat.le_of_ble_eq_true rfl)) dX6_parishOf_10 ⟨(Nat.le_of_ble_eq_true rfl), (Nat.le_of_ble_eq_true rfl)⟩) ?_
  refine z_ro (va_runV (As := [.int (oP ((mR M)) i (0 : Int32)), .int (oP ((mR M)) i (1 : Int32))]) (rest := []) ⟨hx, hb, hml, hown, hz⟩ (c_X6_parishAt l D cI cQ r M (oP ((mR M)) i (0 : Int32)) (oP ((mR M)) i (1 : Int32)) (a) (f) (hA)) (zcwV 2 hz q3_116 q3_118 qs_14 q1_7 q3_119 hd_X6_parishAt (Nat.le_of_ble_eq_true rfl) (Nat.le_of_ble_eq_true rfl)) (z_pv (ci := 6) (q := (RX6, TX6, 3)) hK hP rfl rfl) rfl rfl hl.1 rfl (lv_room (Nat.le_of_ble_eq_true rfl)) dX6_parishOf_13 ⟨(Nat.le_of_ble_eq_true rfl), (Nat.le_of_ble_eq_true rfl)⟩) ?_
  exact z_iret hx hb hr rfl hlocks (by rfl) dX6_parishOf_16
set_option maxHeartbeats 1000000 in
set_option maxRecDepth 100000 in
theorem c_X6_pointsIn (l : Launch) (D : va_G) (cI cQ : ClassId) (r : Nat → Nat) (M : MS) (le to ri bo : Int32) (a : Nat) (f : Nat) (hA : mOk (mR M) a f) : zRO l yX6_pointsIn (Cond.code yX6_pointsIn cX6_pointsIn 7 (some .int) :: zT) 2 43 [.ref (r 0), .int le, .int to, .int ri, .int bo] D cI cQ (zMod cI r M) (mPt (mR M) le to ri bo a) := by
  refine zRO.of (cc := cX6_pointsIn) (maxL := 7) (ret := some .int) (by decide +kernel) rfl (Nat.le_of_ble_eq_true rfl) ?_
  intro pg e s mi args below meth cd hx hb hr hts hown hlocks hml hP hK ls hl
  have hz : ∀ w ∈ zT, w.before args s = true := fun w h => hts w (List.mem_cons_of_mem _ h)
  have hl : lv_has ls 7 [(0, .ref (r 0)), (1, .int (le)), (2, .int (to)), (3, .int (ri)), (4, .int (bo))] := hl
  refine lv_iconst (v := 0) hx hb dX6_pointsIn_0 (by decide) ?_
  refine lv_istore (lv' := [(5, .int (0 : Int32)), (0, .ref (r 0)), (1, .int (le)), (2, .int (to)), (3, .int (ri)), (4, .int (bo))]) hx hb dX6_pointsIn_1 hl (by decide) rfl (fun ls hl => ?_)
  refine lv_iconst (v := 0) hx hb dX6_pointsIn_3 (by decide) ?_
  refine lv_istore (lv' := [(6, .int (0 : Int32)), (5, .int (0 : Int32)), (0, .ref (r 0)), (1, .int (le)), (2, .int (to)), (3, .int (ri)), (4, .int (bo))]) hx hb dX6_pointsIn_4 hl (by decide) rfl (fun ls hl => ?_)
  have L6 : ∀ (n6 k6 : Nat), k6 ≤ a → a < k6 + n6 → ∀ (ls : Array Slot), lv_has ls 7 [(6, .int (nI k6)), (5, .int (mPt (mR M) le to ri bo k6)), (0, .ref (r 0)), (1, .int (le)), (2, .int (to)), (3, .int (ri)), (4, .int (bo))] → W pg l e ({ frames := 2, cells := 0, slots := 0, locals := 43 }) s mi args below meth cd s.heap [] 0 0 (MQ below (vp_Si (fun r => r = mPt (mR M) le to ri bo a)) args s 0 0 (fun _ => False)) (F0 mi 6 ls []) := by
    intro n6
    induction n6 with
    | zero => intro k6 h1 h2; exact absurd h2 (by omega)
    | succ n6 ih6 =>
      intro k6 h1_6 h2_6  ls hl
      refine lv_iload hx hb dX6_pointsIn_6 (lv_at hl 0 rfl) ?_
      refine lv_aload_n hx hb dX6_pointsIn_8 rfl (lv_at hl 2 rfl) ?_
      refine va_get (D := D) (ci := 6) (v := .ref (r 1)) (C := RX6) (T := TX6) (N := 3) hx hb hz inZ6 hown hK.1 hP 0 rfl rfl 0 (by decide) (hz _ q3_88) (fun _ h9 => h9) rfl dX6_pointsIn_9 ?_
      refine lv_iconst (v := 2) hx hb dX6_pointsIn_12 (by decide) ?_
      refine va_iald (f := mR M) hx hb hK.1 hP 1 0 rfl rfl (i := (2 : Int32)) (z_inC (by decide) (by decide)) dX6_pointsIn_13 ?_
      refine lv_icmp_ge (tgt := 73) hx hb dX6_pointsIn_14 (by decide) (fun c_14 => ?_) (fun c_14 => ?_)
      · have c_14 : ((mR M) 2 : Int32) ≤ nI k6 := c_14
        rw [hA.2.2.1] at c_14
        have hk_6 : k6 = a := z_exit (by have := hA.1; omega) h1_6 c_14
        refine lv_iload hx hb dX6_pointsIn_73 (lv_at hl 1 rfl) ?_
        exact z_iret hx hb hr rfl hlocks (by rw [hk_6]) dX6_pointsIn_75
      · have c_14 : ¬ (((mR M) 2 : Int32) ≤ nI k6) := c_14
        rw [hA.2.2.1] at c_14
        have hk_6 : k6 < a := z_cont (by have := hA.1; omega) h1_6 c_14
        refine lv_iload hx hb dX6_pointsIn_17 (lv_at hl 1 rfl) ?_
        refine lv_aload_n hx hb dX6_pointsIn_19 rfl (lv_at hl 2 rfl) ?_
        refine lv_iload hx hb dX6_pointsIn_20 (lv_at hl 0 rfl) ?_
        refine z_ro (va_runV (As := [.int (nI k6)]) (rest := [.int (mPt (mR M) le to ri bo k6)]) ⟨hx, hb, hml, hown, hz⟩ (c_X6_isPoint l D cI cQ r M (nI k6) (a) (f) (hA)) (zcwV 1 hz q3_156 q3_158 qs_24 q1_7 q3_159 hd_X6_isPoint (Nat.le_of_ble_eq_true rfl) (Nat.le_of_ble_eq_true rfl)) (z_pv (ci := 6) (q := (RX6, TX6, 3)) hK hP rfl rfl) rfl rfl hl.1 rfl (lv_room (Nat.le_of_ble_eq_true rfl)) dX6_pointsIn_22 ⟨(Nat.le_of_ble_eq_true rfl), (Nat.le_of_ble_eq_true rfl)⟩) ?_
        refine lv_if_eq (tgt := 63) hx hb dX6_pointsIn_25 (by decide) (fun c_25 => ?_) (fun c_25 => ?_)
        · have c_25 : (iP ((mR M)) (nI k6)) = false := bI_f c_25
          refine lv_iconst (v := 0) hx hb dX6_pointsIn_63 (by decide) ?_
          refine lv_iadd hx hb dX6_pointsIn_64 ?_
          refine lv_istore (lv' := [(5, .int ((mPt (mR M) le to ri bo k6) + (0 : Int32))), (6, .int (nI k6)), (0, .ref (r 0)), (1, .int (le)), (2, .int (to)), (3, .int (ri)), (4, .int (bo))]) hx hb dX6_pointsIn_65 hl (by decide) rfl (fun ls hl => ?_)
          refine lv_iinc (v := (nI k6) + 1) (lv' := [(6, .int ((nI k6) + 1)), (5, .int ((mPt (mR M) le to ri bo k6) + (0 : Int32))), (0, .ref (r 0)), (1, .int (le)), (2, .int (to)), (3, .int (ri)), (4, .int (bo))]) hx hb dX6_pointsIn_67 hl (k := 1) rfl rfl (by decide) rfl (fun ls hl => ?_)
          refine lv_goto (tgt := 6) hx hb dX6_pointsIn_70 (by decide) ?_
          have e6_6 : (nI (k6 + 1) : Int32) = (nI k6) + 1 := (nI_1 _).symm
          have e6_5 : (mPt (mR M) le to ri bo (k6 + 1) : Int32) = (mPt (mR M) le to ri bo k6) + (0 : Int32) := (by simp [mPt, c_14, c_25])
          exact ih6 (k6 + 1) (by omega) (by omega) _ (by (try rw [e6_6]); (try rw [e6_5]); exact lv_sub hl [0, 1, 2, 3, 4, 5, 6] rfl)
        · have c_25 : (iP ((mR M)) (nI k6)) = true := bI_t c_25
          refine lv_aload_n hx hb dX6_pointsIn_28 rfl (lv_at hl 2 rfl) ?_
          refine lv_iload hx hb dX6_pointsIn_29 (lv_at hl 0 rfl) ?_
          refine lv_iconst (v := 0) hx hb dX6_pointsIn_31 (by decide) ?_
          refine z_ro (va_runV (As := [.int (nI k6), .int (0 : Int32)]) (rest := [.int (mPt (mR M) le to ri bo k6)]) ⟨hx, hb, hml, hown, hz⟩ (c_X6_ofPoint l D cI cQ r M (nI k6) (0 : Int32) (ix1 (kin hk_6 (by have := hA.1; omega)) (z_inC (by decide) (by decide)))) (zcwV 2 hz q3_160 q3_162 qs_25 q1_7 q3_163 hd_X6_ofPoint (Nat.le_of_ble_eq_true rfl) (Nat.le_of_ble_eq_true rfl)) (z_pv (ci := 6) (q := (RX6, TX6, 3)) hK hP rfl rfl) rfl rfl hl.1 rfl (lv_room (Nat.le_of_ble_eq_true rfl)) dX6_pointsIn_32 ⟨(Nat.le_of_ble_eq_true rfl), (Nat.le_of_ble_eq_true rfl)⟩) ?_
          refine lv_iload_n hx hb dX6_pointsIn_35 rfl (lv_at hl 3 rfl) ?_
          refine lv_iload_n hx hb dX6_pointsIn_36 rfl (lv_at hl 5 rfl) ?_
          refine z_ro (va_runS (As := [.int (oP ((mR M)) (nI k6) (0 : Int32)), .int (le), .int (ri)]) (rest := [.int (mPt (mR M) le to ri bo k6)]) ⟨hx, hb, hml, hown, hz⟩ (c_X6_in l D cI cQ (oP ((mR M)) (nI k6) (0 : Int32)) le ri) (zcwS 3 hz q3_105 q3_106 q1_7 q3_107 hd_X6_in (Nat.le_of_ble_eq_true rfl) (Nat.le_of_ble_eq_true rfl)) (z_ps hK z_nil) rfl rfl hl.1 rfl (lv_room (Nat.le_of_ble_eq_true rfl)) dX6_pointsIn_37 ⟨(Nat.le_of_ble_eq_true rfl), (Nat.le_of_ble_eq_true rfl)⟩) ?_
          refine lv_if_eq (tgt := 63) hx hb dX6_pointsIn_40 (by decide) (fun c_40 => ?_) (fun c_40 => ?_)
          · have c_40 : (btw (oP ((mR M)) (nI k6) (0 : Int32)) le ri) = false := bI_f c_40
            refine lv_iconst (v := 0) hx hb dX6_pointsIn_63 (by decide) ?_
            refine lv_iadd hx hb dX6_pointsIn_64 ?_
            refine lv_istore (lv' := [(5, .int ((mPt (mR M) le to ri bo k6) + (0 : Int32))), (6, .int (nI k6)), (0, .ref (r 0)), (1, .int (le)), (2, .int (to)), (3, .int (ri)), (4, .int (bo))]) hx hb dX6_pointsIn_65 hl (by decide) rfl (fun ls hl => ?_)
            refine lv_iinc (v := (nI k6) + 1) (lv' := [(6, .int ((nI k6) + 1)), (5, .int ((mPt (mR M) le to ri bo k6) + (0 : Int32))), (0, .ref (r 0)), (1, .int (le)), (2, .int (to)), (3, .int (ri)), (4, .int (bo))]) hx hb dX6_pointsIn_67 hl (k := 1) rfl rfl (by decide) rfl (fun ls hl => ?_)
            refine lv_goto (tgt := 6) hx hb dX6_pointsIn_70 (by decide) ?_
            have e6_6 : (nI (k6 + 1) : Int32) = (nI k6) + 1 := (nI_1 _).symm
            have e6_5 : (mPt (mR M) le to ri bo (k6 + 1) : Int32) = (mPt (mR M) le to ri bo k6) + (0 : Int32) := (by simp [mPt, c_14, c_25, c_40])
            exact ih6 (k6 + 1) (by omega) (by omega) _ (by (try rw [e6_6]); (try rw [e6_5]); exact lv_sub hl [0, 1, 2, 3, 4, 5, 6] rfl)
          · have c_40 : (btw (oP ((mR M)) (nI k6) (0 : Int32)) le ri) = true := bI_t c_40
            refine lv_aload_n hx hb dX6_pointsIn_43 rfl (lv_at hl 2 rfl) ?_
            refine lv_iload hx hb dX6_pointsIn_44 (lv_at hl 0 rfl) ?_
            refine lv_iconst (v := 1) hx hb dX6_pointsIn_46 (by decide) ?_
            refine z_ro (va_runV (As := [.int (nI k6), .int (1 : Int32)]) (rest := [.int (mPt (mR M) le to ri bo k6)]) ⟨hx, hb, hml, hown, hz⟩ (c_X6_ofPoint l D cI cQ r M (nI k6) (1 : Int32) (ix1 (kin hk_6 (by have := hA.1; omega)) (z_inC (by decide) (by decide)))) (zcwV 2 hz q3_160 q3_162 qs_25 q1_7 q3_163 hd_X6_ofPoint (Nat.le_of_ble_eq_true rfl) (Nat.le_of_ble_eq_true rfl)) (z_pv (ci := 6) (q := (RX6, TX6, 3)) hK hP rfl rfl) rfl rfl hl.1 rfl (lv_room (Nat.le_of_ble_eq_true rfl)) dX6_pointsIn_47 ⟨(Nat.le_of_ble_eq_true rfl), (Nat.le_of_ble_eq_true rfl)⟩) ?_
            refine lv_iload_n hx hb dX6_pointsIn_50 rfl (lv_at hl 4 rfl) ?_
            refine lv_iload hx hb dX6_pointsIn_51 (lv_at hl 6 rfl) ?_
            refine z_ro (va_runS (As := [.int (oP ((mR M)) (nI k6) (1 : Int32)), .int (to), .int (bo)]) (rest := [.int (mPt (mR M) le to ri bo k6)]) ⟨hx, hb, hml, hown, hz⟩ (c_X6_in l D cI cQ (oP ((mR M)) (nI k6) (1 : Int32)) to bo) (zcwS 3 hz q3_105 q3_106 q1_7 q3_107 hd_X6_in (Nat.le_of_ble_eq_true rfl) (Nat.le_of_ble_eq_true rfl)) (z_ps hK z_nil) rfl rfl hl.1 rfl (lv_room (Nat.le_of_ble_eq_true rfl)) dX6_pointsIn_53 ⟨(Nat.le_of_ble_eq_true rfl), (Nat.le_of_ble_eq_true rfl)⟩) ?_
            refine lv_if_eq (tgt := 63) hx hb dX6_pointsIn_56 (by decide) (fun c_56 => ?_) (fun c_56 => ?_)
            · have c_56 : (btw (oP ((mR M)) (nI k6) (1 : Int32)) to bo) = false := bI_f c_56
              refine lv_iconst (v := 0) hx hb dX6_pointsIn_63 (by decide) ?_
              refine lv_iadd hx hb dX6_pointsIn_64 ?_
              refine lv_istore (lv' := [(5, .int ((mPt (mR M) le to ri bo k6) + (0 : Int32))), (6, .int (nI k6)), (0, .ref (r 0)), (1, .int (le)), (2, .int (to)), (3, .int (ri)), (4, .int (bo))]) hx hb dX6_pointsIn_65 hl (by decide) rfl (fun ls hl => ?_)
              refine lv_iinc (v := (nI k6) + 1) (lv' := [(6, .int ((nI k6) + 1)), (5, .int ((mPt (mR M) le to ri bo k6) + (0 : Int32))), (0, .ref (r 0)), (1, .int (le)), (2, .int (to)), (3, .int (ri)), (4, .int (bo))]) hx hb dX6_pointsIn_67 hl (k := 1) rfl rfl (by decide) rfl (fun ls hl => ?_)
              refine lv_goto (tgt := 6) hx hb dX6_pointsIn_70 (by decide) ?_
              have e6_6 : (nI (k6 + 1) : Int32) = (nI k6) + 1 := (nI_1 _).symm
              have e6_5 : (mPt (mR M) le to ri bo (k6 + 1) : Int32) = (mPt (mR M) le to ri bo k6) + (0 : Int32) := (by simp [mPt, c_14, c_25, c_40, c_56])
              exact ih6 (k6 + 1) (by omega) (by omega) _ (by (try rw [e6_6]); (try rw [e6_5]); exact lv_sub hl [0, 1, 2, 3, 4, 5, 6] rfl)
            · have c_56 : (btw (oP ((mR M)) (nI k6) (1 : Int32)) to bo) = true := bI_t c_56
              refine lv_iconst (v := 1) hx hb dX6_pointsIn_59 (by decide) ?_
              refine lv_goto (tgt := 64) hx hb dX6_pointsIn_60 (by decide) ?_
              refine lv_iadd hx hb dX6_pointsIn_64 ?_
              refine lv_istore (lv' := [(5, .int ((mPt (mR M) le to ri bo k6) + (1 : Int32))), (6, .int (nI k6)), (0, .ref (r 0)), (1, .int (le)), (2, .int (to)), (3, .int (ri)), (4, .int (bo))]) hx hb dX6_pointsIn_65 hl (by decide) rfl (fun ls hl => ?_)
              refine lv_iinc (v := (nI k6) + 1) (lv' := [(6, .int ((nI k6) + 1)), (5, .int ((mPt (mR M) le to ri bo k6) + (1 : Int32))), (0, .ref (r 0)), (1, .int (le)), (2, .int (to)), (3, .int (ri)), (4, .int (bo))]) hx hb dX6_pointsIn_67 hl (k := 1) rfl rfl (by decide) rfl (fun ls hl => ?_)
              refine lv_goto (tgt := 6) hx hb dX6_pointsIn_70 (by decide) ?_
              have e6_6 : (nI (k6 + 1) : Int32) = (nI k6) + 1 := (nI_1 _).symm
              have e6_5 : (mPt (mR M) le to ri bo (k6 + 1) : Int32) = (mPt (mR M) le to ri bo k6) + (1 : Int32) := (by simp [mPt, c_14, c_25, c_40, c_56])
              exact ih6 (k6 + 1) (by omega) (by omega) _ (by (try rw [e6_6]); (try rw [e6_5]); exact lv_sub hl [0, 1, 2, 3, 4, 5, 6] rfl)
  have e6_6 : (nI 0 : Int32) = (0 : Int32) := rfl
  have e6_5 : (mPt (mR M) le to ri bo 0 : Int32) = (0 : Int32) := (by rfl)
  exact L6 (a + 1) (0) (Nat.zero_le _) (by omega) _ (by (try rw [e6_6]); (try rw [e6_5]); exact lv_sub hl [0, 1, 2, 3, 4, 5, 6] rfl)
set_option maxHeartbeats 1000000 in
set_option maxRecDepth 100000 in
theorem c_X6_pointsInCell (l : Launch) (D : va_G) (cI cQ : ClassId) (r : Nat → Nat) (M : MS) (x y sd : Int32) (a : Nat) (f : Nat) (hA : mOk (mR M) a f) : zRO l yX6_pointsInCell (Cond.code yX6_pointsInCell cX6_pointsInCell 4 (some .int) :: zT) 3 69 [.ref (r 0), .int x, .int y, .int sd] D cI cQ (zMod cI r M) (mCe (mR M) a x y sd) := by
  refine zRO.of (cc := cX6_pointsInCell) (maxL := 4) (ret := some .int) (by decide +kernel) rfl (Nat.le_of_ble_eq_true rfl) ?_
  intro pg e s mi args below meth cd hx hb hr hts hown hlocks hml hP hK ls hl
  have hz : ∀ w ∈ zT, w.before args s = true := fun w h => hts w (List.mem_cons_of_mem _ h)
  have hl : lv_has ls 4 [(0, .ref (r 0)), (1, .int (x)), (2, .int (y)), (3, .int (sd))] := hl
  refine lv_aload_n hx hb dX6_pointsInCell_0 rfl (lv_at hl 0 rfl) ?_
  refine lv_iload_n hx hb dX6_pointsInCell_1 rfl (lv_at hl 1 rfl) ?_
  refine lv_iload_n hx hb dX6_pointsInCell_2 rfl (lv_at hl 2 rfl) ?_
  refine lv_iload_n hx hb dX6_pointsInCell_3 rfl (lv_at hl 1 rfl) ?_
  refine lv_iload_n hx hb dX6_pointsInCell_4 rfl (lv_at hl 3 rfl) ?_
  refine lv_iadd hx hb dX6_pointsInCell_5 ?_
  refine lv_iconst (v := 1) hx hb dX6_pointsInCell_6 (by decide) ?_
  refine lv_isub hx hb dX6_pointsInCell_7 ?_
  refine lv_iload_n hx hb dX6_pointsInCell_8 rfl (lv_at hl 2 rfl) ?_
  refine lv_iload_n hx hb dX6_pointsInCell_9 rfl (lv_at hl 3 rfl) ?_
  refine lv_iadd hx hb dX6_pointsInCell_10 ?_
  refine lv_iconst (v := 1) hx hb dX6_pointsInCell_11 (by decide) ?_
  refine lv_isub hx hb dX6_pointsInCell_12 ?_
  refine z_ro (va_runV (As := [.int (x), .int (y), .int ((x + sd) - (1 : Int32)), .int ((y + sd) - (1 : Int32))]) (rest := []) ⟨hx, hb, hml, hown, hz⟩ (c_X6_pointsIn l D cI cQ r M x y ((x + sd) - (1 : Int32)) ((y + sd) - (1 : Int32)) (a) (f) (hA)) (zcwV 4 hz q3_152 q3_154 qs_23 q1_7 q3_155 hd_X6_pointsIn (Nat.le_of_ble_eq_true rfl) (Nat.le_of_ble_eq_true rfl)) (z_pv (ci := 6) (q := (RX6, TX6, 3)) hK hP rfl rfl) rfl rfl hl.1 rfl (lv_room (Nat.le_of_ble_eq_true rfl)) dX6_pointsInCell_13 ⟨(Nat.le_of_ble_eq_true rfl), (Nat.le_of_ble_eq_true rfl)⟩) ?_
  exact z_iret hx hb hr rfl hlocks (by rfl) dX6_pointsInCell_16
set_option maxHeartbeats 1000000 in
set_option maxRecDepth 100000 in
theorem c_X6_allPoints (l : Launch) (D : va_G) (cI cQ : ClassId) (r : Nat → Nat) (M : MS) (a : Nat) (f : Nat) (hA : mOk (mR M) a f) : zRO l yX6_allPoints (Cond.code yX6_allPoints cX6_allPoints 1 (some .int) :: zT) 3 69 [.ref (r 0)] D cI cQ (zMod cI r M) (mPt (mR M) 0 0 63 63 a) := by
  refine zRO.of (cc := cX6_allPoints) (maxL := 1) (ret := some .int) (by decide +kernel) rfl (Nat.le_of_ble_eq_true rfl) ?_
  intro pg e s mi args below meth cd hx hb hr hts hown hlocks hml hP hK ls hl
  have hz : ∀ w ∈ zT, w.before args s = true := fun w h => hts w (List.mem_cons_of_mem _ h)
  have hl : lv_has ls 1 [(0, .ref (r 0))] := hl
  refine lv_aload_n hx hb dX6_allPoints_0 rfl (lv_at hl 0 rfl) ?_
  refine lv_iconst (v := 0) hx hb dX6_allPoints_1 (by decide) ?_
  refine lv_iconst (v := 0) hx hb dX6_allPoints_2 (by decide) ?_
  refine lv_bipush (v := 63) hx hb dX6_allPoints_3 (by decide) ?_
  refine lv_bipush (v := 63) hx hb dX6_allPoints_5 (by decide) ?_
  refine z_ro (va_runV (As := [.int (0 : Int32), .int (0 : Int32), .int (63 : Int32), .int (63 : Int32)]) (rest := []) ⟨hx, hb, hml, hown, hz⟩ (c_X6_pointsIn l D cI cQ r M (0 : Int32) (0 : Int32) (63 : Int32) (63 : Int32) (a) (f) (hA)) (zcwV 4 hz q3_152 q3_154 qs_23 q1_7 q3_155 hd_X6_pointsIn (Nat.le_of_ble_eq_true rfl) (Nat.le_of_ble_eq_true rfl)) (z_pv (ci := 6) (q := (RX6, TX6, 3)) hK hP rfl rfl) rfl rfl hl.1 rfl (lv_room (Nat.le_of_ble_eq_true rfl)) dX6_allPoints_7 ⟨(Nat.le_of_ble_eq_true rfl), (Nat.le_of_ble_eq_true rfl)⟩) ?_
  exact z_iret hx hb hr rfl hlocks (by rfl) dX6_allPoints_10
set_option maxHeartbeats 1000000 in
set_option maxRecDepth 100000 in
theorem c_X6_owed (l : Launch) (D : va_G) (cI cQ : ClassId) (r : Nat → Nat) (M : MS) (p : Int32) (hp : vp_in p 100) : zRO l yX6_owed (Cond.code yX6_owed cX6_owed 4 (some .int) :: zT) 1 22 [.ref (r 0), .int p] D cI cQ (zMod cI r M) (mBy (mR M) p 40) := by
  refine zRO.of (cc := cX6_owed) (maxL := 4) (ret := some .int) (by decide +kernel) rfl (Nat.le_of_ble_eq_true rfl) ?_
  intro pg e s mi args below meth cd hx hb hr hts hown hlocks hml hP hK ls hl
  have hz : ∀ w ∈ zT, w.before args s = true := fun w h => hts w (List.mem_cons_of_mem _ h)
  have hl : lv_has ls 4 [(0, .ref (r 0)), (1, .int (p))] := hl
  refine lv_iconst (v := 0) hx hb dX6_owed_0 (by decide) ?_
  refine lv_istore_n (lv' := [(2, .int (0 : Int32)), (0, .ref (r 0)), (1, .int (p))]) hx hb dX6_owed_1 rfl hl (by decide) rfl (fun ls hl => ?_)
  refine lv_iconst (v := 0) hx hb dX6_owed_2 (by decide) ?_
  refine lv_istore_n (lv' := [(3, .int (0 : Int32)), (2, .int (0 : Int32)), (0, .ref (r 0)), (1, .int (p))]) hx hb dX6_owed_3 rfl hl (by decide) rfl (fun ls hl => ?_)
  have L4 : ∀ (n4 k4 : Nat), k4 ≤ 40 → 40 < k4 + n4 → ∀ (ls : Array Slot), lv_has ls 4 [(3, .int (nI k4)), (2, .int (mBy (mR M) p k4)), (0, .ref (r 0)), (1, .int (p))] → W pg l e ({ frames := 1, cells := 0, slots := 0, locals := 22 }) s mi args below meth cd s.heap [] 0 0 (MQ below (vp_Si (fun r => r = mBy (mR M) p 40)) args s 0 0 (fun _ => False)) (F0 mi 4 ls []) := by
    intro n4
    induction n4 with
    | zero => intro k4 h1 h2; exact absurd h2 (by omega)
    | succ n4 ih4 =>
      intro k4 h1_4 h2_4  ls hl
      refine lv_iload_n hx hb dX6_owed_4 rfl (lv_at hl 0 rfl) ?_
      refine lv_bipush (v := 40) hx hb dX6_owed_5 (by decide) ?_
      refine lv_icmp_ge (tgt := 25) hx hb dX6_owed_7 (by decide) (fun c_7 => ?_) (fun c_7 => ?_)
      · have c_7 : ((40 : Int32) : Int32) ≤ nI k4 := c_7
        have hk_4 : k4 = 40 := z_exit (by decide) h1_4 c_7
        refine lv_iload_n hx hb dX6_owed_25 rfl (lv_at hl 1 rfl) ?_
        exact z_iret hx hb hr rfl hlocks (by rw [hk_4]) dX6_owed_26
      · have c_7 : ¬ (((40 : Int32) : Int32) ≤ nI k4) := c_7
        have hk_4 : k4 < 40 := z_cont (by decide) h1_4 c_7
        refine lv_iload_n hx hb dX6_owed_10 rfl (lv_at hl 1 rfl) ?_
        refine lv_aload_n hx hb dX6_owed_11 rfl (lv_at hl 2 rfl) ?_
        refine lv_iload_n hx hb dX6_owed_12 rfl (lv_at hl 3 rfl) ?_
        refine lv_iload_n hx hb dX6_owed_13 rfl (lv_at hl 0 rfl) ?_
        refine z_ro (va_runV (As := [.int (p), .int (nI k4)]) (rest := [.int (mBy (mR M) p k4)]) ⟨hx, hb, hml, hown, hz⟩ (c_X6_debtOf l D cI cQ r M p (nI k4) (ix3 hp (vp_in_nI (by omega) (by decide)))) (zcwV 2 hz q3_212 q3_214 qs_33 q1_7 q3_215 hd_X6_debtOf (Nat.le_of_ble_eq_true rfl) (Nat.le_of_ble_eq_true rfl)) (z_pv (ci := 6) (q := (RX6, TX6, 3)) hK hP rfl rfl) rfl rfl hl.1 rfl (lv_room (Nat.le_of_ble_eq_true rfl)) dX6_owed_14 ⟨(Nat.le_of_ble_eq_true rfl), (Nat.le_of_ble_eq_true rfl)⟩) ?_
        refine lv_iadd hx hb dX6_owed_17 ?_
        refine lv_istore_n (lv' := [(2, .int ((mBy (mR M) p k4) + (dO ((mR M)) p (nI k4)))), (3, .int (nI k4)), (0, .ref (r 0)), (1, .int (p))]) hx hb dX6_owed_18 rfl hl (by decide) rfl (fun ls hl => ?_)
        refine lv_iinc (v := (nI k4) + 1) (lv' := [(3, .int ((nI k4) + 1)), (2, .int ((mBy (mR M) p k4) + (dO ((mR M)) p (nI k4)))), (0, .ref (r 0)), (1, .int (p))]) hx hb dX6_owed_19 hl (k := 1) rfl rfl (by decide) rfl (fun ls hl => ?_)
        refine lv_goto (tgt := 4) hx hb dX6_owed_22 (by decide) ?_
        have e4_3 : (nI (k4 + 1) : Int32) = (nI k4) + 1 := (nI_1 _).symm
        have e4_2 : (mBy (mR M) p (k4 + 1) : Int32) = (mBy (mR M) p k4) + (dO ((mR M)) p (nI k4)) := (by rfl)
        exact ih4 (k4 + 1) (by omega) (by omega) _ (by (try rw [e4_3]); (try rw [e4_2]); exact lv_sub hl [0, 1, 2, 3] rfl)
  have e4_3 : (nI 0 : Int32) = (0 : Int32) := rfl
  have e4_2 : (mBy (mR M) p 0 : Int32) = (0 : Int32) := (by rfl)
  exact L4 (40 + 1) (0) (Nat.zero_le _) (by omega) _ (by (try rw [e4_3]); (try rw [e4_2]); exact lv_sub hl [0, 1, 2, 3] rfl)
set_option maxHeartbeats 1000000 in
set_option maxRecDepth 100000 in
theorem c_X6_setParish (l : Launch) (D : va_G) (cI cQ : ClassId) (r : Nat → Nat) (M : MS) (p x y sc : Int32) (hp : vp_in p 100) (g1 : FI) (hg1 : g1 = sPa (mR M) p x y sc) : zWR l yX6_setParish (Cond.code yX6_setParish cX6_setParish 5 (none) :: zT) 0 0 [.ref (r 0), .int p, .int x, .int y, .int sc] D cI cQ (zMod cI r M) none (zMod cI r (uR M g1)) := by
  refine zWR.of (cc := cX6_setParish) (maxL := 5) (ret := none) (by decide +kernel) rfl (Nat.le_of_ble_eq_true rfl) ?_
  intro pg e s mi args below meth cd hx hb hr hts hown hlocks hml hP hD hS hK ls hl
  have hz : ∀ w ∈ zT, w.before args s = true := fun w h => hts w (List.mem_cons_of_mem _ h)
  have hl : lv_has ls 5 [(0, .ref (r 0)), (1, .int (p)), (2, .int (x)), (3, .int (y)), (4, .int (sc))] := hl
  refine lv_aload_n hx hb dX6_setParish_0 rfl (lv_at hl 0 rfl) ?_
  refine va_get (D := D) (ci := 6) (v := .ref (r 1)) (C := RX6) (T := TX6) (N := 3) hx hb hz inZ6 hown hK.1 hP 0 rfl rfl 0 (by decide) (hz _ q3_88) (fun _ h9 => h9) rfl dX6_setParish_1 ?_
  refine lv_sipush (v := 204) hx hb dX6_setParish_4 (by decide) ?_
  refine lv_iconst (v := 4) hx hb dX6_setParish_7 (by decide) ?_
  refine lv_iload_n hx hb dX6_setParish_8 rfl (lv_at hl 1 rfl) ?_
  refine lv_imul hx hb dX6_setParish_9 ?_
  refine lv_iadd hx hb dX6_setParish_10 ?_
  refine lv_iconst (v := 1) hx hb dX6_setParish_11 (by decide) ?_
  refine va_iast hx hb hK.1 hP hD hS 1 0 rfl rfl (i := (204 : Int32) + ((4 : Int32) * p)) (ix2' hp) dX6_setParish_12 (fun H locs hP hD hS => ?_)
  have hP : va_P D vwCl (zMod cI r (uR M (upd (mR M) ((204 : Int32) + ((4 : Int32) * p)).toNatClampNeg (1 : Int32)))) H := hP
  have hD : va_D (zA (zMod cI r M)) (zMod cI r (uR M (upd (mR M) ((204 : Int32) + ((4 : Int32) * p)).toNatClampNeg (1 : Int32)))) := hD
  refine lv_aload_n hx hb dX6_setParish_13 rfl (lv_at hl 0 rfl) ?_
  refine va_get (D := D) (ci := 6) (v := .ref (r 1)) (C := RX6) (T := TX6) (N := 3) hx hb hz inZ6 hown hK.1 hP 0 rfl rfl 0 (by decide) (hz _ q3_88) (fun _ h9 => h9) rfl dX6_setParish_14 ?_
  refine lv_sipush (v := 204) hx hb dX6_setParish_17 (by decide) ?_
  refine lv_iconst (v := 4) hx hb dX6_setParish_20 (by decide) ?_
  refine lv_iload_n hx hb dX6_setParish_21 rfl (lv_at hl 1 rfl) ?_
  refine lv_imul hx hb dX6_setParish_22 ?_
  refine lv_iadd hx hb dX6_setParish_23 ?_
  refine lv_iconst (v := 1) hx hb dX6_setParish_24 (by decide) ?_
  refine lv_iadd hx hb dX6_setParish_25 ?_
  refine lv_iload_n hx hb dX6_setParish_26 rfl (lv_at hl 2 rfl) ?_
  refine va_iast hx hb hK.1 hP hD hS 1 0 rfl rfl (i := ((204 : Int32) + ((4 : Int32) * p)) + (1 : Int32)) (ix2 (Or.inl hp) (z_inC (by decide) (by decide))) dX6_setParish_27 (fun H locs hP hD hS => ?_)
  have hP : va_P D vwCl (zMod cI r (uR M (upd (upd (mR M) ((204 : Int32) + ((4 : Int32) * p)).toNatClampNeg (1 : Int32)) (((204 : Int32) + ((4 : Int32) * p)) + (1 : Int32)).toNatClampNeg x))) H := hP
  have hD : va_D (zA (zMod cI r M)) (zMod cI r (uR M (upd (upd (mR M) ((204 : Int32) + ((4 : Int32) * p)).toNatClampNeg (1 : Int32)) (((204 : Int32) + ((4 : Int32) * p)) + (1 : Int32)).toNatClampNeg x))) := hD
  refine lv_aload_n hx hb dX6_setParish_28 rfl (lv_at hl 0 rfl) ?_
  refine va_get (D := D) (ci := 6) (v := .ref (r 1)) (C := RX6) (T := TX6) (N := 3) hx hb hz inZ6 hown hK.1 hP 0 rfl rfl 0 (by decide) (hz _ q3_88) (fun _ h9 => h9) rfl dX6_setParish_29 ?_
  refine lv_sipush (v := 204) hx hb dX6_setParish_32 (by decide) ?_
  refine lv_iconst (v := 4) hx hb dX6_setParish_35 (by decide) ?_
  refine lv_iload_n hx hb dX6_setParish_36 rfl (lv_at hl 1 rfl) ?_
  refine lv_imul hx hb dX6_setParish_37 ?_
  refine lv_iadd hx hb dX6_setParish_38 ?_
  refine lv_iconst (v := 2) hx hb dX6_setParish_39 (by decide) ?_
  refine lv_iadd hx hb dX6_setParish_40 ?_
  refine lv_iload_n hx hb dX6_setParish_41 rfl (lv_at hl 3 rfl) ?_
  refine va_iast hx hb hK.1 hP hD hS 1 0 rfl rfl (i := ((204 : Int32) + ((4 : Int32) * p)) + (2 : Int32)) (ix2 (Or.inl hp) (z_inC (by decide) (by decide))) dX6_setParish_42 (fun H locs hP hD hS => ?_)
  have hP : va_P D vwCl (zMod cI r (uR M (upd (upd (upd (mR M) ((204 : Int32) + ((4 : Int32) * p)).toNatClampNeg (1 : Int32)) (((204 : Int32) + ((4 : Int32) * p)) + (1 : Int32)).toNatClampNeg x) (((204 : Int32) + ((4 : Int32) * p)) + (2 : Int32)).toNatClampNeg y))) H := hP
  have hD : va_D (zA (zMod cI r M)) (zMod cI r (uR M (upd (upd (upd (mR M) ((204 : Int32) + ((4 : Int32) * p)).toNatClampNeg (1 : Int32)) (((204 : Int32) + ((4 : Int32) * p)) + (1 : Int32)).toNatClampNeg x) (((204 : Int32) + ((4 : Int32) * p)) + (2 : Int32)).toNatClampNeg y))) := hD
  refine lv_aload_n hx hb dX6_setParish_43 rfl (lv_at hl 0 rfl) ?_
  refine va_get (D := D) (ci := 6) (v := .ref (r 1)) (C := RX6) (T := TX6) (N := 3) hx hb hz inZ6 hown hK.1 hP 0 rfl rfl 0 (by decide) (hz _ q3_88) (fun _ h9 => h9) rfl dX6_setParish_44 ?_
  refine lv_sipush (v := 204) hx hb dX6_setParish_47 (by decide) ?_
  refine lv_iconst (v := 4) hx hb dX6_setParish_50 (by decide) ?_
  refine lv_iload_n hx hb dX6_setParish_51 rfl (lv_at hl 1 rfl) ?_
  refine lv_imul hx hb dX6_setParish_52 ?_
  refine lv_iadd hx hb dX6_setParish_53 ?_
  refine lv_iconst (v := 3) hx hb dX6_setParish_54 (by decide) ?_
  refine lv_iadd hx hb dX6_setParish_55 ?_
  refine lv_iload hx hb dX6_setParish_56 (lv_at hl 4 rfl) ?_
  refine va_iast hx hb hK.1 hP hD hS 1 0 rfl rfl (i := ((204 : Int32) + ((4 : Int32) * p)) + (3 : Int32)) (ix2 (Or.inl hp) (z_inC (by decide) (by decide))) dX6_setParish_58 (fun H locs hP hD hS => ?_)
  have hP : va_P D vwCl (zMod cI r (uR M (upd (upd (upd (upd (mR M) ((204 : Int32) + ((4 : Int32) * p)).toNatClampNeg (1 : Int32)) (((204 : Int32) + ((4 : Int32) * p)) + (1 : Int32)).toNatClampNeg x) (((204 : Int32) + ((4 : Int32) * p)) + (2 : Int32)).toNatClampNeg y) (((204 : Int32) + ((4 : Int32) * p)) + (3 : Int32)).toNatClampNeg sc))) H := hP
  have hD : va_D (zA (zMod cI r M)) (zMod cI r (uR M (upd (upd (upd (upd (mR M) ((204 : Int32) + ((4 : Int32) * p)).toNatClampNeg (1 : Int32)) (((204 : Int32) + ((4 : Int32) * p)) + (1 : Int32)).toNatClampNeg x) (((204 : Int32) + ((4 : Int32) * p)) + (2 : Int32)).toNatClampNeg y) (((204 : Int32) + ((4 : Int32) * p)) + (3 : Int32)).toNatClampNeg sc))) := hD
  exact z_wvret hx hb hr hlocks hP hS (congrArg (fun T => zMod cI r T) (show uR M (upd (upd (upd (upd (mR M) ((204 : Int32) + ((4 : Int32) * p)).toNatClampNeg (1 : Int32)) (((204 : Int32) + ((4 : Int32) * p)) + (1 : Int32)).toNatClampNeg x) (((204 : Int32) + ((4 : Int32) * p)) + (2 : Int32)).toNatClampNeg y) (((204 : Int32) + ((4 : Int32) * p)) + (3 : Int32)).toNatClampNeg sc) = uR M g1 from by (try simp only [hg1]) <;> (rfl))) dX6_setParish_59
set_option maxHeartbeats 1000000 in
set_option maxRecDepth 100000 in
theorem c_X6_setLord (l : Launch) (D : va_G) (cI cQ : ClassId) (r : Nat → Nat) (M : MS) (i p : Int32) (hi : vp_in i 100) (g1 : FI) (hg1 : g1 = sLo (mR M) i p) : zWR l yX6_setLord (Cond.code yX6_setLord cX6_setLord 3 (none) :: zT) 0 0 [.ref (r 0), .int i, .int p] D cI cQ (zMod cI r M) none (zMod cI r (uR M g1)) := by
  refine zWR.of (cc := cX6_setLord) (maxL := 3) (ret := none) (by decide +kernel) rfl (Nat.le_of_ble_eq_true rfl) ?_
  intro pg e s mi args below meth cd hx hb hr hts hown hlocks hml hP hD hS hK ls hl
  have hz : ∀ w ∈ zT, w.before args s = true := fun w h => hts w (List.mem_cons_of_mem _ h)
  have hl : lv_has ls 3 [(0, .ref (r 0)), (1, .int (i)), (2, .int (p))] := hl
  refine lv_aload_n hx hb dX6_setLord_0 rfl (lv_at hl 0 rfl) ?_
  refine va_get (D := D) (ci := 6) (v := .ref (r 1)) (C := RX6) (T := TX6) (N := 3) hx hb hz inZ6 hown hK.1 hP 0 rfl rfl 0 (by decide) (hz _ q3_88) (fun _ h9 => h9) rfl dX6_setLord_1 ?_
  refine lv_iconst (v := 4) hx hb dX6_setLord_4 (by decide) ?_
  refine lv_iconst (v := 5) hx hb dX6_setLord_5 (by decide) ?_
  refine lv_iload_n hx hb dX6_setLord_6 rfl (lv_at hl 1 rfl) ?_
  refine lv_imul hx hb dX6_setLord_7 ?_
  refine lv_iadd hx hb dX6_setLord_8 ?_
  refine lv_iconst (v := 4) hx hb dX6_setLord_9 (by decide) ?_
  refine lv_iadd hx hb dX6_setLord_10 ?_
  refine lv_iload_n hx hb dX6_setLord_11 rfl (lv_at hl 2 rfl) ?_
  refine va_iast hx hb hK.1 hP hD hS 1 0 rfl rfl (i := ((4 : Int32) + ((5 : Int32) * i)) + (4 : Int32)) (ix1 hi (z_inC (by decide) (by decide))) dX6_setLord_12 (fun H locs hP hD hS => ?_)
  have hP : va_P D vwCl (zMod cI r (uR M (upd (mR M) (((4 : Int32) + ((5 : Int32) * i)) + (4 : Int32)).toNatClampNeg p))) H := hP
  have hD : va_D (zA (zMod cI r M)) (zMod cI r (uR M (upd (mR M) (((4 : Int32) + ((5 : Int32) * i)) + (4 : Int32)).toNatClampNeg p))) := hD
  exact z_wvret hx hb hr hlocks hP hS (congrArg (fun T => zMod cI r T) (show uR M (upd (mR M) (((4 : Int32) + ((5 : Int32) * i)) + (4 : Int32)).toNatClampNeg p) = uR M g1 from by (try simp only [hg1]) <;> (rfl))) dX6_setLord_13
set_option maxHeartbeats 1000000 in
set_option maxRecDepth 100000 in
theorem c_X6_isCrowded (l : Launch) (D : va_G) (cI cQ : ClassId) (r : Nat → Nat) (M : MS) (p : Int32) (a : Nat) (f : Nat) (hA : mOk (mR M) a f) (hp : vp_in p 100) : zRO l yX6_isCrowded (Cond.code yX6_isCrowded cX6_isCrowded 2 (some .boolean) :: zT) 4 92 [.ref (r 0), .int p] D cI cQ (zMod cI r M) (bI (mCr (mR M) a p)) := by
  refine zRO.of (cc := cX6_isCrowded) (maxL := 2) (ret := some .boolean) (by decide +kernel) rfl (Nat.le_of_ble_eq_true rfl) ?_
  intro pg e s mi args below meth cd hx hb hr hts hown hlocks hml hP hK ls hl
  have hz : ∀ w ∈ zT, w.before args s = true := fun w h => hts w (List.mem_cons_of_mem _ h)
  have hl : lv_has ls 2 [(0, .ref (r 0)), (1, .int (p))] := hl
  refine lv_aload_n hx hb dX6_isCrowded_0 rfl (lv_at hl 0 rfl) ?_
  refine lv_aload_n hx hb dX6_isCrowded_1 rfl (lv_at hl 0 rfl) ?_
  refine lv_iload_n hx hb dX6_isCrowded_2 rfl (lv_at hl 1 rfl) ?_
  refine lv_iconst (v := 1) hx hb dX6_isCrowded_3 (by decide) ?_
  refine z_ro (va_runV (As := [.int (p), .int (1 : Int32)]) (rest := [.ref (r 0)]) ⟨hx, hb, hml, hown, hz⟩ (c_X6_ofParish l D cI cQ r M p (1 : Int32) (ix2 (Or.inl hp) (z_inC (by decide) (by decide)))) (zcwV 2 hz q3_120 q3_122 qs_15 q1_7 q3_123 hd_X6_ofParish (Nat.le_of_ble_eq_true rfl) (Nat.le_of_ble_eq_true rfl)) (z_pv (ci := 6) (q := (RX6, TX6, 3)) hK hP rfl rfl) rfl rfl hl.1 rfl (lv_room (Nat.le_of_ble_eq_true rfl)) dX6_isCrowded_4 ⟨(Nat.le_of_ble_eq_true rfl), (Nat.le_of_ble_eq_true rfl)⟩) ?_
  refine lv_aload_n hx hb dX6_isCrowded_7 rfl (lv_at hl 0 rfl) ?_
  refine lv_iload_n hx hb dX6_isCrowded_8 rfl (lv_at hl 1 rfl) ?_
  refine lv_iconst (v := 2) hx hb dX6_isCrowded_9 (by decide) ?_
  refine z_ro (va_runV (As := [.int (p), .int (2 : Int32)]) (rest := [.int (qA ((mR M)) p (1 : Int32)), .ref (r 0)]) ⟨hx, hb, hml, hown, hz⟩ (c_X6_ofParish l D cI cQ r M p (2 : Int32) (ix2 (Or.inl hp) (z_inC (by decide) (by decide)))) (zcwV 2 hz q3_120 q3_122 qs_15 q1_7 q3_123 hd_X6_ofParish (Nat.le_of_ble_eq_true rfl) (Nat.le_of_ble_eq_true rfl)) (z_pv (ci := 6) (q := (RX6, TX6, 3)) hK hP rfl rfl) rfl rfl hl.1 rfl (lv_room (Nat.le_of_ble_eq_true rfl)) dX6_isCrowded_10 ⟨(Nat.le_of_ble_eq_true rfl), (Nat.le_of_ble_eq_true rfl)⟩) ?_
  refine lv_aload_n hx hb dX6_isCrowded_13 rfl (lv_at hl 0 rfl) ?_
  refine lv_iload_n hx hb dX6_isCrowded_14 rfl (lv_at hl 1 rfl) ?_
  refine z_ro (va_runV (As := [.int (p)]) (rest := [.int (qA ((mR M)) p (2 : Int32)), .int (qA ((mR M)) p (1 : Int32)), .ref (r 0)]) ⟨hx, hb, hml, hown, hz⟩ (c_X6_sideOf l D cI cQ r M p (Or.inl hp)) (zcwV 1 hz q3_128 q3_130 qs_17 q1_7 q3_131 hd_X6_sideOf (Nat.le_of_ble_eq_true rfl) (Nat.le_of_ble_eq_true rfl)) (z_pv (ci := 6) (q := (RX6, TX6, 3)) hK hP rfl rfl) rfl rfl hl.1 rfl (lv_room (Nat.le_of_ble_eq_true rfl)) dX6_isCrowded_15 ⟨(Nat.le_of_ble_eq_true rfl), (Nat.le_of_ble_eq_true rfl)⟩) ?_
  refine z_ro (va_runV (As := [.int (qA ((mR M)) p (1 : Int32)), .int (qA ((mR M)) p (2 : Int32)), .int (mSd ((mR M)) p)]) (rest := []) ⟨hx, hb, hml, hown, hz⟩ (c_X6_pointsInCell l D cI cQ r M (qA ((mR M)) p (1 : Int32)) (qA ((mR M)) p (2 : Int32)) (mSd ((mR M)) p) (a) (f) (hA)) (zcwV 3 hz q3_148 q3_150 qs_22 q1_7 q3_151 hd_X6_pointsInCell (Nat.le_of_ble_eq_true rfl) (Nat.le_of_ble_eq_true rfl)) (z_pv (ci := 6) (q := (RX6, TX6, 3)) hK hP rfl rfl) rfl rfl hl.1 rfl (lv_room (Nat.le_of_ble_eq_true rfl)) dX6_isCrowded_18 ⟨(Nat.le_of_ble_eq_true rfl), (Nat.le_of_ble_eq_true rfl)⟩) ?_
  refine lv_aload_n hx hb dX6_isCrowded_21 rfl (lv_at hl 0 rfl) ?_
  refine va_get (D := D) (ci := 6) (v := .ref (r 1)) (C := RX6) (T := TX6) (N := 3) hx hb hz inZ6 hown hK.1 hP 0 rfl rfl 0 (by decide) (hz _ q3_88) (fun _ h9 => h9) rfl dX6_isCrowded_22 ?_
  refine lv_iconst (v := 0) hx hb dX6_isCrowded_25 (by decide) ?_
  refine va_iald (f := mR M) hx hb hK.1 hP 1 0 rfl rfl (i := (0 : Int32)) (z_inC (by decide) (by decide)) dX6_isCrowded_26 ?_
  refine lv_icmp_le (tgt := 34) hx hb dX6_isCrowded_27 (by decide) (fun c_27 => ?_) (fun c_27 => ?_)
  · have c_27 : (mCe ((mR M)) a (qA ((mR M)) p (1 : Int32)) (qA ((mR M)) p (2 : Int32)) (mSd ((mR M)) p) : Int32) ≤ (mR M) 0 := c_27
    refine lv_iconst (v := 0) hx hb dX6_isCrowded_34 (by decide) ?_
    exact z_iret hx hb hr rfl hlocks (by simp [mCr, bI, c_27]) dX6_isCrowded_35
  · have c_27 : ¬ ((mCe ((mR M)) a (qA ((mR M)) p (1 : Int32)) (qA ((mR M)) p (2 : Int32)) (mSd ((mR M)) p) : Int32) ≤ (mR M) 0) := c_27
    refine lv_iconst (v := 1) hx hb dX6_isCrowded_30 (by decide) ?_
    refine lv_goto (tgt := 35) hx hb dX6_isCrowded_31 (by decide) ?_
    exact z_iret hx hb hr rfl hlocks (by simp [mCr, bI, c_27]) dX6_isCrowded_35
set_option maxHeartbeats 1000000 in
set_option maxRecDepth 100000 in
theorem c_X6_toSplit (l : Launch) (D : va_G) (cI cQ : ClassId) (r : Nat → Nat) (M : MS) (a : Nat) (f : Nat) (hA : mOk (mR M) a f) : zRO l yX6_toSplit (Cond.code yX6_toSplit cX6_toSplit 2 (some .int) :: zT) 5 113 [.ref (r 0)] D cI cQ (zMod cI r M) (mTs (mR M) a f) := by
  refine zRO.of (cc := cX6_toSplit) (maxL := 2) (ret := some .int) (by decide +kernel) rfl (Nat.le_of_ble_eq_true rfl) ?_
  intro pg e s mi args below meth cd hx hb hr hts hown hlocks hml hP hK ls hl
  have hz : ∀ w ∈ zT, w.before args s = true := fun w h => hts w (List.mem_cons_of_mem _ h)
  have hl : lv_has ls 2 [(0, .ref (r 0))] := hl
  refine lv_iconst (v := 0) hx hb dX6_toSplit_0 (by decide) ?_
  refine lv_istore_n (lv' := [(1, .int (0 : Int32)), (0, .ref (r 0))]) hx hb dX6_toSplit_1 rfl hl (by decide) rfl (fun ls hl => ?_)
  have L2 : ∀ (n2 k2 : Nat), k2 ≤ f → f < k2 + n2 → (mTs (mR M) a f = fnd (mTsB (mR M) a) (f - k2) k2) → ∀ (ls : Array Slot), lv_has ls 2 [(1, .int (nI k2)), (0, .ref (r 0))] → W pg l e ({ frames := 5, cells := 0, slots := 0, locals := 113 }) s mi args below meth cd s.heap [] 0 0 (MQ below (vp_Si (fun r => r = mTs (mR M) a f)) args s 0 0 (fun _ => False)) (F0 mi 2 ls []) := by
    intro n2
    induction n2 with
    | zero => intro k2 h1 h2; exact absurd h2 (by omega)
    | succ n2 ih2 =>
      intro k2 h1_2 h2_2 he ls hl
      refine lv_iload_n hx hb dX6_toSplit_2 rfl (lv_at hl 0 rfl) ?_
      refine lv_aload_n hx hb dX6_toSplit_3 rfl (lv_at hl 1 rfl) ?_
      refine va_get (D := D) (ci := 6) (v := .ref (r 1)) (C := RX6) (T := TX6) (N := 3) hx hb hz inZ6 hown hK.1 hP 0 rfl rfl 0 (by decide) (hz _ q3_88) (fun _ h9 => h9) rfl dX6_toSplit_4 ?_
      refine lv_iconst (v := 3) hx hb dX6_toSplit_7 (by decide) ?_
      refine va_iald (f := mR M) hx hb hK.1 hP 1 0 rfl rfl (i := (3 : Int32)) (z_inC (by decide) (by decide)) dX6_toSplit_8 ?_
      refine lv_icmp_ge (tgt := 46) hx hb dX6_toSplit_9 (by decide) (fun c_9 => ?_) (fun c_9 => ?_)
      · have c_9 : ((mR M) 3 : Int32) ≤ nI k2 := c_9
        rw [hA.2.2.2.1] at c_9
        have hk_2 : k2 = f := z_exit (by have := hA.2.1; omega) h1_2 c_9
        refine lv_bipush (v := (-9)) hx hb dX6_toSplit_46 (by decide) ?_
        exact z_iret hx hb hr rfl hlocks (by rw [he, hk_2, Nat.sub_self]; rfl) dX6_toSplit_48
      · have c_9 : ¬ (((mR M) 3 : Int32) ≤ nI k2) := c_9
        rw [hA.2.2.2.1] at c_9
        have hk_2 : k2 < f := z_cont (by have := hA.2.1; omega) h1_2 c_9
        refine lv_aload_n hx hb dX6_toSplit_12 rfl (lv_at hl 1 rfl) ?_
        refine lv_iload_n hx hb dX6_toSplit_13 rfl (lv_at hl 0 rfl) ?_
        refine z_ro (va_runV (As := [.int (nI k2)]) (rest := []) ⟨hx, hb, hml, hown, hz⟩ (c_X6_isParish l D cI cQ r M (nI k2) (a) (f) (hA)) (zcwV 1 hz q3_124 q3_126 qs_16 q1_7 q3_127 hd_X6_isParish (Nat.le_of_ble_eq_true rfl) (Nat.le_of_ble_eq_true rfl)) (z_pv (ci := 6) (q := (RX6, TX6, 3)) hK hP rfl rfl) rfl rfl hl.1 rfl (lv_room (Nat.le_of_ble_eq_true rfl)) dX6_toSplit_14 ⟨(Nat.le_of_ble_eq_true rfl), (Nat.le_of_ble_eq_true rfl)⟩) ?_
        refine lv_if_eq (tgt := 40) hx hb dX6_toSplit_17 (by decide) (fun c_17 => ?_) (fun c_17 => ?_)
        · have c_17 : (iR ((mR M)) (nI k2)) = false := bI_f c_17
          refine lv_iinc (v := (nI k2) + 1) (lv' := [(1, .int ((nI k2) + 1)), (0, .ref (r 0))]) hx hb dX6_toSplit_40 hl (k := 0) rfl rfl (by decide) rfl (fun ls hl => ?_)
          refine lv_goto (tgt := 2) hx hb dX6_toSplit_43 (by decide) ?_
          have e2_1 : (nI (k2 + 1) : Int32) = (nI k2) + 1 := (nI_1 _).symm
          exact ih2 (k2 + 1) (by omega) (by omega) (he.trans (fnd_no hk_2 (by simp [mTsB, c_9, c_17]))) _ (by (try rw [e2_1]); exact lv_sub hl [0, 1] rfl)
        · have c_17 : (iR ((mR M)) (nI k2)) = true := bI_t c_17
          refine lv_aload_n hx hb dX6_toSplit_20 rfl (lv_at hl 1 rfl) ?_
          refine lv_iload_n hx hb dX6_toSplit_21 rfl (lv_at hl 0 rfl) ?_
          refine lv_iconst (v := 3) hx hb dX6_toSplit_22 (by decide) ?_
          refine z_ro (va_runV (As := [.int (nI k2), .int (3 : Int32)]) (rest := []) ⟨hx, hb, hml, hown, hz⟩ (c_X6_ofParish l D cI cQ r M (nI k2) (3 : Int32) (ix2 (Or.inl (kin hk_2 hA.2.1)) (z_inC (by decide) (by decide)))) (zcwV 2 hz q3_120 q3_122 qs_15 q1_7 q3_123 hd_X6_ofParish (Nat.le_of_ble_eq_true rfl) (Nat.le_of_ble_eq_true rfl)) (z_pv (ci := 6) (q := (RX6, TX6, 3)) hK hP rfl rfl) rfl rfl hl.1 rfl (lv_room (Nat.le_of_ble_eq_true rfl)) dX6_toSplit_23 ⟨(Nat.le_of_ble_eq_true rfl), (Nat.le_of_ble_eq_true rfl)⟩) ?_
          refine lv_iconst (v := 4) hx hb dX6_toSplit_26 (by decide) ?_
          refine lv_icmp_ge (tgt := 40) hx hb dX6_toSplit_27 (by decide) (fun c_27 => ?_) (fun c_27 => ?_)
          · have c_27 : ((4 : Int32) : Int32) ≤ qA ((mR M)) (nI k2) (3 : Int32) := c_27
            refine lv_iinc (v := (nI k2) + 1) (lv' := [(1, .int ((nI k2) + 1)), (0, .ref (r 0))]) hx hb dX6_toSplit_40 hl (k := 0) rfl rfl (by decide) rfl (fun ls hl => ?_)
            refine lv_goto (tgt := 2) hx hb dX6_toSplit_43 (by decide) ?_
            have e2_1 : (nI (k2 + 1) : Int32) = (nI k2) + 1 := (nI_1 _).symm
            exact ih2 (k2 + 1) (by omega) (by omega) (he.trans (fnd_no hk_2 (by simp [mTsB, c_9, c_17, c_27]))) _ (by (try rw [e2_1]); exact lv_sub hl [0, 1] rfl)
          · have c_27 : ¬ (((4 : Int32) : Int32) ≤ qA ((mR M)) (nI k2) (3 : Int32)) := c_27
            refine lv_aload_n hx hb dX6_toSplit_30 rfl (lv_at hl 1 rfl) ?_
            refine lv_iload_n hx hb dX6_toSplit_31 rfl (lv_at hl 0 rfl) ?_
            refine z_ro (va_runV (As := [.int (nI k2)]) (rest := []) ⟨hx, hb, hml, hown, hz⟩ (c_X6_isCrowded l D cI cQ r M (nI k2) (a) (f) (hA) (kin hk_2 hA.2.1)) (zcwV 1 hz q3_144 q3_146 qs_21 q1_7 q3_147 hd_X6_isCrowded (Nat.le_of_ble_eq_true rfl) (Nat.le_of_ble_eq_true rfl)) (z_pv (ci := 6) (q := (RX6, TX6, 3)) hK hP rfl rfl) rfl rfl hl.1 rfl (lv_room (Nat.le_of_ble_eq_true rfl)) dX6_toSplit_32 ⟨(Nat.le_of_ble_eq_true rfl), (Nat.le_of_ble_eq_true rfl)⟩) ?_
            refine lv_if_eq (tgt := 40) hx hb dX6_toSplit_35 (by decide) (fun c_35 => ?_) (fun c_35 => ?_)
            · have c_35 : (mCr ((mR M)) a (nI k2)) = false := bI_f c_35
              refine lv_iinc (v := (nI k2) + 1) (lv' := [(1, .int ((nI k2) + 1)), (0, .ref (r 0))]) hx hb dX6_toSplit_40 hl (k := 0) rfl rfl (by decide) rfl (fun ls hl => ?_)
              refine lv_goto (tgt := 2) hx hb dX6_toSplit_43 (by decide) ?_
              have e2_1 : (nI (k2 + 1) : Int32) = (nI k2) + 1 := (nI_1 _).symm
              exact ih2 (k2 + 1) (by omega) (by omega) (he.trans (fnd_no hk_2 (by simp [mTsB, c_9, c_17, c_27, c_35]))) _ (by (try rw [e2_1]); exact lv_sub hl [0, 1] rfl)
            · have c_35 : (mCr ((mR M)) a (nI k2)) = true := bI_t c_35
              refine lv_iload_n hx hb dX6_toSplit_38 rfl (lv_at hl 0 rfl) ?_
              exact z_iret hx hb hr rfl hlocks (by exact (he.trans (fnd_yes hk_2 (by simp [mTsB, c_17, c_27, c_35]))).symm) dX6_toSplit_39
  have e2_1 : (nI 0 : Int32) = (0 : Int32) := rfl
  exact L2 (f + 1) (0) (Nat.zero_le _) (by omega) (rfl) _ (by (try rw [e2_1]); exact lv_sub hl [0, 1] rfl)
set_option maxHeartbeats 1000000 in
set_option maxRecDepth 100000 in
theorem c_X6_records (l : Launch) (D : va_G) (cI cQ : ClassId) (r : Nat → Nat) (M : MS) (n : Nat) (hn : n ≤ 5) (hK5 : mK M = nI n) (g1 : FI) (hg1 : g1 = recR (mR M) (mK M)) (g2 : Int32) (hg2 : g2 = recK (mK M)) : zWR l yX6_records (Cond.code yX6_records cX6_records 2 (none) :: zT) 1 23 [.ref (r 0)] D cI cQ (zMod cI r M) none (zMod cI r (uK (uR M g1) g2)) := by
  refine zWR.of (cc := cX6_records) (maxL := 2) (ret := none) (by decide +kernel) rfl (Nat.le_of_ble_eq_true rfl) ?_
  intro pg e s mi args below meth cd hx hb hr hts hown hlocks hml hP hD hS hK ls hl
  have hz : ∀ w ∈ zT, w.before args s = true := fun w h => hts w (List.mem_cons_of_mem _ h)
  have hl : lv_has ls 2 [(0, .ref (r 0))] := hl
  refine lv_aload_n hx hb dX6_records_0 rfl (lv_at hl 0 rfl) ?_
  refine va_get (D := D) (ci := 6) (v := .int (mK M)) (C := RX6) (T := TX6) (N := 3) hx hb hz inZ6 hown hK.1 hP 0 rfl rfl 1 (by decide) (hz _ q3_89) (fun _ h9 => h9) rfl dX6_records_1 ?_
  refine lv_iconst (v := 5) hx hb dX6_records_4 (by decide) ?_
  refine lv_icmp_ne (tgt := 47) hx hb dX6_records_5 (by decide) (fun c_5 => ?_) (fun c_5 => ?_)
  · have c_5 : ¬ ((mK M : Int32) = (5 : Int32)) := c_5
    refine lv_aload_n hx hb dX6_records_47 rfl (lv_at hl 0 rfl) ?_
    refine lv_dup hx hb dX6_records_48 rfl ?_
    refine va_get (D := D) (ci := 6) (v := .int (mK M)) (C := RX6) (T := TX6) (N := 3) hx hb hz inZ6 hown hK.1 hP 0 rfl rfl 1 (by decide) (hz _ q3_89) (fun _ h9 => h9) rfl dX6_records_49 ?_
    refine lv_iconst (v := 1) hx hb dX6_records_52 (by decide) ?_
    refine lv_iadd hx hb dX6_records_53 ?_
    refine va_put (D := D) (ci := 6) (v := .int ((mK M) + (1 : Int32))) (ty := .int) (C := RX6) (T := TX6) (N := 3) hx hb hz inZ6 tyX6 tyX6_ok nmX6 hown hK.1 hP hD hS 0 rfl rfl 1 (by decide) (hz _ q3_89) (fun _ h9 => h9) rfl (by decide +kernel) rfl rfl (Nat.le_of_ble_eq_true rfl) dX6_records_54 (fun H locs hP hD hS => ?_)
    have hP : va_P D vwCl (zMod cI r (uK M ((mK M) + (1 : Int32)))) H := hP
    have hD : va_D (zA (zMod cI r M)) (zMod cI r (uK M ((mK M) + (1 : Int32)))) := hD
    refine lv_aload_n hx hb dX6_records_57 rfl (lv_at hl 0 rfl) ?_
    refine lv_iconst (v := 0) hx hb dX6_records_58 (by decide) ?_
    refine lv_sipush (v := 1964) hx hb dX6_records_59 (by decide) ?_
    refine lv_aload_n hx hb dX6_records_62 rfl (lv_at hl 0 rfl) ?_
    refine va_get (D := D) (ci := 6) (v := .int ((mK M) + (1 : Int32))) (C := RX6) (T := TX6) (N := 3) hx hb hz inZ6 hown hK.1 hP 0 rfl rfl 1 (by decide) (hz _ q3_89) (fun _ h9 => h9) rfl dX6_records_63 ?_
    refine lv_imul hx hb dX6_records_66 ?_
    obtain ⟨g_1, hg_1⟩ : ∃ z : FI, z = cps ((mR M)) (0 : Int32) ((1964 : Int32) * ((mK M) + (1 : Int32))) 1964 := ⟨_, rfl⟩
    refine z_wv (X' := zMod cI r (uR (uK M ((mK M) + (1 : Int32))) g_1)) (va_runV (As := [.int (0 : Int32), .int ((1964 : Int32) * ((mK M) + (1 : Int32)))]) (rest := []) ⟨hx, hb, hml, hown, hz⟩ (c_X6_copies l D cI cQ r (uK M ((mK M) + (1 : Int32))) (0 : Int32) ((1964 : Int32) * ((mK M) + (1 : Int32))) (⟨0, by decide, by decide⟩) (rec_to hn hK5 c_5) g_1 hg_1) (zcwV 2 hz q3_112 q3_114 qs_13 q1_7 q3_115 hd_X6_copies (Nat.le_of_ble_eq_true rfl) (Nat.le_of_ble_eq_true rfl)) (z_pvw (ci := 6) (q := (RX6, TX6, 3)) hK hP hD rfl rfl) rfl rfl hl.1 rfl (lv_room (Nat.le_of_ble_eq_true rfl)) dX6_records_67 ⟨(Nat.le_of_ble_eq_true rfl), (Nat.le_of_ble_eq_true rfl)⟩) hP hD hS [0, 1, 2] rfl rfl rfl (fun H locs hP hD hS => ?_)
    exact z_wvret hx hb hr hlocks hP hS (congrArg (fun T => zMod cI r T) (show uR (uK M ((mK M) + (1 : Int32))) g_1 = uK (uR M g1) g2 from by (try simp only [hg_1, hg1, hg2]) <;> (simp only [recR, recK, c_5, if_true, if_false]))) dX6_records_70
  · have c_5 : (mK M : Int32) = (5 : Int32) := c_5
    refine lv_iconst (v := 1) hx hb dX6_records_8 (by decide) ?_
    refine lv_istore_n (lv' := [(1, .int (1 : Int32)), (0, .ref (r 0))]) hx hb dX6_records_9 rfl hl (by decide) rfl (fun ls hl => ?_)
    refine lv_iload_n hx hb dX6_records_10 rfl (lv_at hl 0 rfl) ?_
    refine lv_iconst (v := 5) hx hb dX6_records_11 (by decide) ?_
    refine lv_icmp_ge (tgt := 37) hx hb dX6_records_12 (by decide) (fun c_ => absurd c_ (by decide)) (fun _ => ?_)
    refine lv_aload_n hx hb dX6_records_15 rfl (lv_at hl 1 rfl) ?_
    refine lv_sipush (v := 1964) hx hb dX6_records_16 (by decide) ?_
    refine lv_iload_n hx hb dX6_records_19 rfl (lv_at hl 0 rfl) ?_
    refine lv_iconst (v := 1) hx hb dX6_records_20 (by decide) ?_
    refine lv_iadd hx hb dX6_records_21 ?_
    refine lv_imul hx hb dX6_records_22 ?_
    refine lv_sipush (v := 1964) hx hb dX6_records_23 (by decide) ?_
    refine lv_iload_n hx hb dX6_records_26 rfl (lv_at hl 0 rfl) ?_
    refine lv_imul hx hb dX6_records_27 ?_
    obtain ⟨g_2, hg_2⟩ : ∃ z : FI, z = cps ((mR M)) (3928 : Int32) (1964 : Int32) 1964 := ⟨_, rfl⟩
    refine z_wv (X' := zMod cI r (uR M g_2)) (va_runV (As := [.int (3928 : Int32), .int (1964 : Int32)]) (rest := []) ⟨hx, hb, hml, hown, hz⟩ (c_X6_copies l D cI cQ r M (3928 : Int32) (1964 : Int32) (⟨3928, by decide, by decide⟩) (⟨1964, by decide, by decide⟩) g_2 hg_2) (zcwV 2 hz q3_112 q3_114 qs_13 q1_7 q3_115 hd_X6_copies (Nat.le_of_ble_eq_true rfl) (Nat.le_of_ble_eq_true rfl)) (z_pvw (ci := 6) (q := (RX6, TX6, 3)) hK hP hD rfl rfl) rfl rfl hl.1 rfl (lv_room (Nat.le_of_ble_eq_true rfl)) dX6_records_28 ⟨(Nat.le_of_ble_eq_true rfl), (Nat.le_of_ble_eq_true rfl)⟩) hP hD hS [0, 1, 2] rfl rfl rfl (fun H locs hP hD hS => ?_)
    refine lv_iinc (v := (2 : Int32)) (lv' := [(1, .int (2 : Int32)), (0, .ref (r 0))]) hx hb dX6_records_31 hl (k := 0) rfl rfl (by decide) rfl (fun ls hl => ?_)
    refine lv_goto (tgt := 10) hx hb dX6_records_34 (by decide) ?_
    refine lv_iload_n hx hb dX6_records_10 rfl (lv_at hl 0 rfl) ?_
    refine lv_iconst (v := 5) hx hb dX6_records_11 (by decide) ?_
    refine lv_icmp_ge (tgt := 37) hx hb dX6_records_12 (by decide) (fun c_ => absurd c_ (by decide)) (fun _ => ?_)
    refine lv_aload_n hx hb dX6_records_15 rfl (lv_at hl 1 rfl) ?_
    refine lv_sipush (v := 1964) hx hb dX6_records_16 (by decide) ?_
    refine lv_iload_n hx hb dX6_records_19 rfl (lv_at hl 0 rfl) ?_
    refine lv_iconst (v := 1) hx hb dX6_records_20 (by decide) ?_
    refine lv_iadd hx hb dX6_records_21 ?_
    refine lv_imul hx hb dX6_records_22 ?_
    refine lv_sipush (v := 1964) hx hb dX6_records_23 (by decide) ?_
    refine lv_iload_n hx hb dX6_records_26 rfl (lv_at hl 0 rfl) ?_
    refine lv_imul hx hb dX6_records_27 ?_
    obtain ⟨g_3, hg_3⟩ : ∃ z : FI, z = cps (g_2) (5892 : Int32) (3928 : Int32) 1964 := ⟨_, rfl⟩
    refine z_wv (X' := zMod cI r (uR M g_3)) (va_runV (As := [.int (5892 : Int32), .int (3928 : Int32)]) (rest := []) ⟨hx, hb, hml, hown, hz⟩ (c_X6_copies l D cI cQ r (uR M g_2) (5892 : Int32) (3928 : Int32) (⟨5892, by decide, by decide⟩) (⟨3928, by decide, by decide⟩) g_3 hg_3) (zcwV 2 hz q3_112 q3_114 qs_13 q1_7 q3_115 hd_X6_copies (Nat.le_of_ble_eq_true rfl) (Nat.le_of_ble_eq_true rfl)) (z_pvw (ci := 6) (q := (RX6, TX6, 3)) hK hP hD rfl rfl) rfl rfl hl.1 rfl (lv_room (Nat.le_of_ble_eq_true rfl)) dX6_records_28 ⟨(Nat.le_of_ble_eq_true rfl), (Nat.le_of_ble_eq_true rfl)⟩) hP hD hS [0, 1, 2] rfl rfl rfl (fun H locs hP hD hS => ?_)
    refine lv_iinc (v := (3 : Int32)) (lv' := [(1, .int (3 : Int32)), (0, .ref (r 0))]) hx hb dX6_records_31 hl (k := 0) rfl rfl (by decide) rfl (fun ls hl => ?_)
    refine lv_goto (tgt := 10) hx hb dX6_records_34 (by decide) ?_
    refine lv_iload_n hx hb dX6_records_10 rfl (lv_at hl 0 rfl) ?_
    refine lv_iconst (v := 5) hx hb dX6_records_11 (by decide) ?_
    refine lv_icmp_ge (tgt := 37) hx hb dX6_records_12 (by decide) (fun c_ => absurd c_ (by decide)) (fun _ => ?_)
    refine lv_aload_n hx hb dX6_records_15 rfl (lv_at hl 1 rfl) ?_
    refine lv_sipush (v := 1964) hx hb dX6_records_16 (by decide) ?_
    refine lv_iload_n hx hb dX6_records_19 rfl (lv_at hl 0 rfl) ?_
    refine lv_iconst (v := 1) hx hb dX6_records_20 (by decide) ?_
    refine lv_iadd hx hb dX6_records_21 ?_
    refine lv_imul hx hb dX6_records_22 ?_
    refine lv_sipush (v := 1964) hx hb dX6_records_23 (by decide) ?_
    refine lv_iload_n hx hb dX6_records_26 rfl (lv_at hl 0 rfl) ?_
    refine lv_imul hx hb dX6_records_27 ?_
    obtain ⟨g_4, hg_4⟩ : ∃ z : FI, z = cps (g_3) (7856 : Int32) (5892 : Int32) 1964 := ⟨_, rfl⟩
    refine z_wv (X' := zMod cI r (uR M g_4)) (va_runV (As := [.int (7856 : Int32), .int (5892 : Int32)]) (rest := []) ⟨hx, hb, hml, hown, hz⟩ (c_X6_copies l D cI cQ r (uR M g_3) (7856 : Int32) (5892 : Int32) (⟨7856, by decide, by decide⟩) (⟨5892, by decide, by decide⟩) g_4 hg_4) (zcwV 2 hz q3_112 q3_114 qs_13 q1_7 q3_115 hd_X6_copies (Nat.le_of_ble_eq_true rfl) (Nat.le_of_ble_eq_true rfl)) (z_pvw (ci := 6) (q := (RX6, TX6, 3)) hK hP hD rfl rfl) rfl rfl hl.1 rfl (lv_room (Nat.le_of_ble_eq_true rfl)) dX6_records_28 ⟨(Nat.le_of_ble_eq_true rfl), (Nat.le_of_ble_eq_true rfl)⟩) hP hD hS [0, 1, 2] rfl rfl rfl (fun H locs hP hD hS => ?_)
    refine lv_iinc (v := (4 : Int32)) (lv' := [(1, .int (4 : Int32)), (0, .ref (r 0))]) hx hb dX6_records_31 hl (k := 0) rfl rfl (by decide) rfl (fun ls hl => ?_)
    refine lv_goto (tgt := 10) hx hb dX6_records_34 (by decide) ?_
    refine lv_iload_n hx hb dX6_records_10 rfl (lv_at hl 0 rfl) ?_
    refine lv_iconst (v := 5) hx hb dX6_records_11 (by decide) ?_
    refine lv_icmp_ge (tgt := 37) hx hb dX6_records_12 (by decide) (fun c_ => absurd c_ (by decide)) (fun _ => ?_)
    refine lv_aload_n hx hb dX6_records_15 rfl (lv_at hl 1 rfl) ?_
    refine lv_sipush (v := 1964) hx hb dX6_records_16 (by decide) ?_
    refine lv_iload_n hx hb dX6_records_19 rfl (lv_at hl 0 rfl) ?_
    refine lv_iconst (v := 1) hx hb dX6_records_20 (by decide) ?_
    refine lv_iadd hx hb dX6_records_21 ?_
    refine lv_imul hx hb dX6_records_22 ?_
    refine lv_sipush (v := 1964) hx hb dX6_records_23 (by decide) ?_
    refine lv_iload_n hx hb dX6_records_26 rfl (lv_at hl 0 rfl) ?_
    refine lv_imul hx hb dX6_records_27 ?_
    obtain ⟨g_5, hg_5⟩ : ∃ z : FI, z = cps (g_4) (9820 : Int32) (7856 : Int32) 1964 := ⟨_, rfl⟩
    refine z_wv (X' := zMod cI r (uR M g_5)) (va_runV (As := [.int (9820 : Int32), .int (7856 : Int32)]) (rest := []) ⟨hx, hb, hml, hown, hz⟩ (c_X6_copies l D cI cQ r (uR M g_4) (9820 : Int32) (7856 : Int32) (⟨9820, by decide, by decide⟩) (⟨7856, by decide, by decide⟩) g_5 hg_5) (zcwV 2 hz q3_112 q3_114 qs_13 q1_7 q3_115 hd_X6_copies (Nat.le_of_ble_eq_true rfl) (Nat.le_of_ble_eq_true rfl)) (z_pvw (ci := 6) (q := (RX6, TX6, 3)) hK hP hD rfl rfl) rfl rfl hl.1 rfl (lv_room (Nat.le_of_ble_eq_true rfl)) dX6_records_28 ⟨(Nat.le_of_ble_eq_true rfl), (Nat.le_of_ble_eq_true rfl)⟩) hP hD hS [0, 1, 2] rfl rfl rfl (fun H locs hP hD hS => ?_)
    refine lv_iinc (v := (5 : Int32)) (lv' := [(1, .int (5 : Int32)), (0, .ref (r 0))]) hx hb dX6_records_31 hl (k := 0) rfl rfl (by decide) rfl (fun ls hl => ?_)
    refine lv_goto (tgt := 10) hx hb dX6_records_34 (by decide) ?_
    refine lv_iload_n hx hb dX6_records_10 rfl (lv_at hl 0 rfl) ?_
    refine lv_iconst (v := 5) hx hb dX6_records_11 (by decide) ?_
    refine lv_icmp_ge (tgt := 37) hx hb dX6_records_12 (by decide) (fun _ => ?_) (fun c_ => absurd (by decide) c_)
    refine lv_aload_n hx hb dX6_records_37 rfl (lv_at hl 1 rfl) ?_
    refine lv_dup hx hb dX6_records_38 rfl ?_
    refine va_get (D := D) (ci := 6) (v := .int (mK M)) (C := RX6) (T := TX6) (N := 3) hx hb hz inZ6 hown hK.1 hP 0 rfl rfl 1 (by decide) (hz _ q3_89) (fun _ h9 => h9) rfl dX6_records_39 ?_
    refine lv_iconst (v := 1) hx hb dX6_records_42 (by decide) ?_
    refine lv_isub hx hb dX6_records_43 ?_
    refine va_put (D := D) (ci := 6) (v := .int ((mK M) - (1 : Int32))) (ty := .int) (C := RX6) (T := TX6) (N := 3) hx hb hz inZ6 tyX6 tyX6_ok nmX6 hown hK.1 hP hD hS 0 rfl rfl 1 (by decide) (hz _ q3_89) (fun _ h9 => h9) rfl (by decide +kernel) rfl rfl (Nat.le_of_ble_eq_true rfl) dX6_records_44 (fun H locs hP hD hS => ?_)
    have hP : va_P D vwCl (zMod cI r (uK (uR M g_5) ((mK M) - (1 : Int32)))) H := hP
    have hD : va_D (zA (zMod cI r M)) (zMod cI r (uK (uR M g_5) ((mK M) - (1 : Int32)))) := hD
    refine lv_aload_n hx hb dX6_records_47 rfl (lv_at hl 1 rfl) ?_
    refine lv_dup hx hb dX6_records_48 rfl ?_
    refine va_get (D := D) (ci := 6) (v := .int ((mK M) - (1 : Int32))) (C := RX6) (T := TX6) (N := 3) hx hb hz inZ6 hown hK.1 hP 0 rfl rfl 1 (by decide) (hz _ q3_89) (fun _ h9 => h9) rfl dX6_records_49 ?_
    refine lv_iconst (v := 1) hx hb dX6_records_52 (by decide) ?_
    refine lv_iadd hx hb dX6_records_53 ?_
    refine va_put (D := D) (ci := 6) (v := .int (((mK M) - (1 : Int32)) + (1 : Int32))) (ty := .int) (C := RX6) (T := TX6) (N := 3) hx hb hz inZ6 tyX6 tyX6_ok nmX6 hown hK.1 hP hD hS 0 rfl rfl 1 (by decide) (hz _ q3_89) (fun _ h9 => h9) rfl (by decide +kernel) rfl rfl (Nat.le_of_ble_eq_true rfl) dX6_records_54 (fun H locs hP hD hS => ?_)
    have hP : va_P D vwCl (zMod cI r (uK (uR M g_5) (((mK M) - (1 : Int32)) + (1 : Int32)))) H := hP
    have hD : va_D (zA (zMod cI r M)) (zMod cI r (uK (uR M g_5) (((mK M) - (1 : Int32)) + (1 : Int32)))) := hD
    refine lv_aload_n hx hb dX6_records_57 rfl (lv_at hl 1 rfl) ?_
    refine lv_iconst (v := 0) hx hb dX6_records_58 (by decide) ?_
    refine lv_sipush (v := 1964) hx hb dX6_records_59 (by decide) ?_
    refine lv_aload_n hx hb dX6_records_62 rfl (lv_at hl 1 rfl) ?_
    refine va_get (D := D) (ci := 6) (v := .int (((mK M) - (1 : Int32)) + (1 : Int32))) (C := RX6) (T := TX6) (N := 3) hx hb hz inZ6 hown hK.1 hP 0 rfl rfl 1 (by decide) (hz _ q3_89) (fun _ h9 => h9) rfl dX6_records_63 ?_
    refine lv_imul hx hb dX6_records_66 ?_
    obtain ⟨g_6, hg_6⟩ : ∃ z : FI, z = cps (g_5) (0 : Int32) ((1964 : Int32) * (((mK M) - (1 : Int32)) + (1 : Int32))) 1964 := ⟨_, rfl⟩
    refine z_wv (X' := zMod cI r (uR (uK (uR M g_5) (((mK M) - (1 : Int32)) + (1 : Int32))) g_6)) (va_runV (As := [.int (0 : Int32), .int ((1964 : Int32) * (((mK M) - (1 : Int32)) + (1 : Int32)))]) (rest := []) ⟨hx, hb, hml, hown, hz⟩ (c_X6_copies l D cI cQ r (uK (uR M g_5) (((mK M) - (1 : Int32)) + (1 : Int32))) (0 : Int32) ((1964 : Int32) * (((mK M) - (1 : Int32)) + (1 : Int32))) (⟨0, by decide, by decide⟩) (rec_to5 c_5) g_6 hg_6) (zcwV 2 hz q3_112 q3_114 qs_13 q1_7 q3_115 hd_X6_copies (Nat.le_of_ble_eq_true rfl) (Nat.le_of_ble_eq_true rfl)) (z_pvw (ci := 6) (q := (RX6, TX6, 3)) hK hP hD rfl rfl) rfl rfl hl.1 rfl (lv_room (Nat.le_of_ble_eq_true rfl)) dX6_records_67 ⟨(Nat.le_of_ble_eq_true rfl), (Nat.le_of_ble_eq_true rfl)⟩) hP hD hS [0, 1, 2] rfl rfl rfl (fun H locs hP hD hS => ?_)
    exact z_wvret hx hb hr hlocks hP hS (congrArg (fun T => zMod cI r T) (show uR (uK (uR M g_5) (((mK M) - (1 : Int32)) + (1 : Int32))) g_6 = uK (uR M g1) g2 from by (try simp only [hg_6, hg_5, hg_4, hg_3, hg_2, hg1, hg2]) <;> (simp only [recR, recK, c_5, if_true, if_false]))) dX6_records_70
