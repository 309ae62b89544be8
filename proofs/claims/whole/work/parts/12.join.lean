theorem hd_X4_joinQuarters : yX4_joinQuarters.cls ≠ "java/lang/invoke/MethodHandle" ∧ yX4_joinQuarters.cls ≠ "java/lang/invoke/VarHandle" ∧ (parseMethodDescriptor yX4_joinQuarters.desc).map (fun d => d.parameters.length) = some 1 := by decide +kernel
set_option maxHeartbeats 3000000 in
set_option maxRecDepth 100000 in
theorem c_X4_joinQuarters (l : Launch) (D : va_G) (cI cQ : ClassId) (q : Nat → Nat) (S : CS) (pa : Int32) (T1 : CS) (hT1 : T1 = jqS S pa) : zWR l yX4_joinQuarters (Cond.code yX4_joinQuarters cX4_joinQuarters 7 (some .int) :: zT) 5 114 [.ref (q 0), .int pa] D cI cQ (zSta cI q S) (some (.int (jqFi S pa))) (zSta cI q T1) := by
  refine zWR.of (cc := cX4_joinQuarters) (maxL := 7) (ret := some .int) (by decide +kernel) rfl (Nat.le_of_ble_eq_true rfl) ?_
  intro pg e s mi args below meth cd hx hb hr hts hown hlocks hml hP hD hS hK ls hl
  have hz : ∀ w ∈ zT, w.before args s = true := fun w h => hts w (List.mem_cons_of_mem _ h)
  have hl : lv_has ls 7 [(0, .ref (q 0)), (1, .int (pa))] := hl
  refine lv_aload_n hx hb dX4_joinQuarters_0 rfl (lv_at hl 0 rfl) ?_
  refine lv_iload_n hx hb dX4_joinQuarters_1 rfl (lv_at hl 1 rfl) ?_
  refine z_ro (va_runV (As := [.int (pa)]) (rest := []) ⟨hx, hb, hml, hown, hz⟩ (c_X4_leftAround l D cI cQ q S pa) (zcwV 1 hz q2_127 q2_129 qs_6 q1_2 q2_130 hd_X4_leftAround (Nat.le_of_ble_eq_true rfl) (Nat.le_of_ble_eq_true rfl)) (z_pv (ci := 4) (q := (RX4, TX4, 5)) hK hP rfl rfl) rfl rfl hl.1 rfl (lv_room (Nat.le_of_ble_eq_true rfl)) dX4_joinQuarters_2 ⟨(Nat.le_of_ble_eq_true rfl), (Nat.le_of_ble_eq_true rfl)⟩) ?_
  refine lv_istore_n (lv' := [(2, .int (lAr S pa)), (0, .ref (q 0)), (1, .int (pa))]) hx hb dX4_joinQuarters_5 rfl hl (by decide) rfl (fun ls hl => ?_)
  refine lv_aload_n hx hb dX4_joinQuarters_6 rfl (lv_at hl 1 rfl) ?_
  refine lv_iload_n hx hb dX4_joinQuarters_7 rfl (lv_at hl 2 rfl) ?_
  refine z_ro (va_runV (As := [.int (pa)]) (rest := []) ⟨hx, hb, hml, hown, hz⟩ (c_X4_topAround l D cI cQ q S pa) (zcwV 1 hz q2_131 q2_133 qs_7 q1_2 q2_134 hd_X4_topAround (Nat.le_of_ble_eq_true rfl) (Nat.le_of_ble_eq_true rfl)) (z_pv (ci := 4) (q := (RX4, TX4, 5)) hK hP rfl rfl) rfl rfl hl.1 rfl (lv_room (Nat.le_of_ble_eq_true rfl)) dX4_joinQuarters_8 ⟨(Nat.le_of_ble_eq_true rfl), (Nat.le_of_ble_eq_true rfl)⟩) ?_
  refine lv_istore_n (lv' := [(3, .int (tAr S pa)), (2, .int (lAr S pa)), (0, .ref (q 0)), (1, .int (pa))]) hx hb dX4_joinQuarters_11 rfl hl (by decide) rfl (fun ls hl => ?_)
  refine lv_aload_n hx hb dX4_joinQuarters_12 rfl (lv_at hl 2 rfl) ?_
  refine va_get (D := D) (ci := 4) (v := .ref (q 6)) (C := RX4) (T := TX4) (N := 5) hx hb hz inZ4 hown hK.1 hP 0 rfl rfl 3 (by decide) (hz _ q1_93) (fun _ h9 => h9) rfl dX4_joinQuarters_13 ?_
  refine lv_iload_n hx hb dX4_joinQuarters_16 rfl (lv_at hl 3 rfl) ?_
  refine z_ro (va_runV (As := [.int (pa)]) (rest := []) ⟨hx, hb, hml, hown, hz⟩ (c_X2_scaleOf l D cI cQ q S pa) (zcwV 1 hz q1_208 q1_209 q1_210 q1_4 q1_211 hd_X2_scaleOf (Nat.le_of_ble_eq_true rfl) (Nat.le_of_ble_eq_true rfl)) (z_pv (ci := 2) (q := (RX2, TX2, 4)) hK (hP.sub (ws' := zPar cI q S) [6, 7, 8, 9] rfl) rfl rfl) rfl rfl hl.1 rfl (lv_room (Nat.le_of_ble_eq_true rfl)) dX4_joinQuarters_17 ⟨(Nat.le_of_ble_eq_true rfl), (Nat.le_of_ble_eq_true rfl)⟩) ?_
  refine lv_istore (lv' := [(4, .int (rSc S pa)), (3, .int (tAr S pa)), (2, .int (lAr S pa)), (0, .ref (q 0)), (1, .int (pa))]) hx hb dX4_joinQuarters_20 hl (by decide) rfl (fun ls hl => ?_)
  refine lv_iload_n hx hb dX4_joinQuarters_22 rfl (lv_at hl 4 rfl) ?_
  refine lv_istore (lv' := [(5, .int (pa)), (4, .int (rSc S pa)), (3, .int (tAr S pa)), (2, .int (lAr S pa)), (0, .ref (q 0)), (1, .int (pa))]) hx hb dX4_joinQuarters_23 hl (by decide) rfl (fun ls hl => ?_)
  refine lv_iconst (v := 0) hx hb dX4_joinQuarters_25 (by decide) ?_
  refine lv_istore (lv' := [(6, .int (0 : Int32)), (5, .int (pa)), (4, .int (rSc S pa)), (3, .int (tAr S pa)), (2, .int (lAr S pa)), (0, .ref (q 0)), (1, .int (pa))]) hx hb dX4_joinQuarters_26 hl (by decide) rfl (fun ls hl => ?_)
  have L28 : ∀ (n28 k28 : Nat), k28 ≤ 4 → 4 < k28 + n28 → ∀ (ls : Array Slot), lv_has ls 7 [(6, .int (nI k28)), (5, .int (jqF S (lAr S pa) (tAr S pa) (rSc S pa) pa k28)), (4, .int (rSc S pa)), (3, .int (tAr S pa)), (2, .int (lAr S pa)), (0, .ref (q 0)), (1, .int (pa))] → W pg l e ({ frames := 5, cells := 0, slots := 0, locals := 114 }) s mi args below meth cd s.heap [] 0 0 (MQ below (zQ D (zSta cI q S) (some (.int (jqFi S pa))) (zSta cI q T1)) args s 0 0 (zA (zSta cI q S))) (F0 mi 28 ls []) := by
    intro n28
    induction n28 with
    | zero => intro k28 h1 h2; exact absurd h2 (by omega)
    | succ n28 ih28 =>
      intro k28 h1_28 h2_28  ls hl
      refine lv_iload hx hb dX4_joinQuarters_28 (lv_at hl 0 rfl) ?_
      refine lv_iconst (v := 4) hx hb dX4_joinQuarters_30 (by decide) ?_
      refine lv_icmp_ge (tgt := 57) hx hb dX4_joinQuarters_31 (by decide) (fun c_31 => ?_) (fun c_31 => ?_)
      · have c_31 : ((4 : Int32) : Int32) ≤ nI k28 := c_31
        have hk_28 : k28 = 4 := z_exit (by decide) h1_28 c_31
        refine lv_iconst (v := 0) hx hb dX4_joinQuarters_57 (by decide) ?_
        refine lv_istore (lv' := [(6, .int (0 : Int32)), (5, .int (jqF S (lAr S pa) (tAr S pa) (rSc S pa) pa k28)), (4, .int (rSc S pa)), (3, .int (tAr S pa)), (2, .int (lAr S pa)), (0, .ref (q 0)), (1, .int (pa))]) hx hb dX4_joinQuarters_58 hl (by decide) rfl (fun ls hl => ?_)
        have L60 : ∀ (n60 k60 : Nat), k60 ≤ 4 → 4 < k60 + n60 → ∀ (H : Heap) (locs : List Loc), va_P D vwCl (zSta cI q (jqK S (lAr S pa) (tAr S pa) (rSc S pa) (jqFi S pa) k60)) H → va_D (zA (zSta cI q S)) (zSta cI q (jqK S (lAr S pa) (tAr S pa) (rSc S pa) (jqFi S pa) k60)) → va_S (zA (zSta cI q S)) s.heap H locs → ∀ (ls : Array Slot), lv_has ls 7 [(6, .int (nI k60)), (5, .int (jqFi S pa)), (4, .int (rSc S pa)), (3, .int (tAr S pa)), (2, .int (lAr S pa)), (0, .ref (q 0)), (1, .int (pa))] → W pg l e ({ frames := 5, cells := 0, slots := 0, locals := 114 }) s mi args below meth cd H locs 0 0 (MQ below (zQ D (zSta cI q S) (some (.int (jqFi S pa))) (zSta cI q T1)) args s 0 0 (zA (zSta cI q S))) (F0 mi 60 ls []) := by
          intro n60
          induction n60 with
          | zero => intro k60 h1 h2; exact absurd h2 (by omega)
          | succ n60 ih60 =>
            intro k60 h1_60 h2_60  H locs hP hD hS ls hl
            refine lv_iload hx hb dX4_joinQuarters_60 (lv_at hl 0 rfl) ?_
            refine lv_iconst (v := 4) hx hb dX4_joinQuarters_62 (by decide) ?_
            refine lv_icmp_ge (tgt := 88) hx hb dX4_joinQuarters_63 (by decide) (fun c_63 => ?_) (fun c_63 => ?_)
            · have c_63 : ((4 : Int32) : Int32) ≤ nI k60 := c_63
              have hk_60 : k60 = 4 := z_exit (by decide) h1_60 c_63
              refine lv_aload_n hx hb dX4_joinQuarters_88 rfl (lv_at hl 5 rfl) ?_
              refine va_get (D := D) (ci := 4) (v := .ref (q 6)) (C := RX4) (T := TX4) (N := 5) hx hb hz inZ4 hown hK.1 hP 0 rfl rfl 3 (by decide) (hz _ q1_93) (fun _ h9 => h9) rfl dX4_joinQuarters_89 ?_
              refine lv_iload hx hb dX4_joinQuarters_92 (lv_at hl 1 rfl) ?_
              refine lv_iload_n hx hb dX4_joinQuarters_94 rfl (lv_at hl 4 rfl) ?_
              refine lv_iload_n hx hb dX4_joinQuarters_95 rfl (lv_at hl 3 rfl) ?_
              refine lv_iload hx hb dX4_joinQuarters_96 (lv_at hl 2 rfl) ?_
              refine lv_iconst (v := 1) hx hb dX4_joinQuarters_98 (by decide) ?_
              refine lv_isub hx hb dX4_joinQuarters_99 ?_
              obtain ⟨g_1, hg_1⟩ : ∃ z : FI, z = rGiv ((sLe (jqK S (lAr S pa) (tAr S pa) (rSc S pa) (jqFi S pa) k60))) (jqFi S pa) (lAr S pa) := ⟨_, rfl⟩
              obtain ⟨g_2, hg_2⟩ : ∃ z : FI, z = rGiv ((sTo (jqK S (lAr S pa) (tAr S pa) (rSc S pa) (jqFi S pa) k60))) (jqFi S pa) (tAr S pa) := ⟨_, rfl⟩
              obtain ⟨g_3, hg_3⟩ : ∃ z : FI, z = rGiv ((sSc (jqK S (lAr S pa) (tAr S pa) (rSc S pa) (jqFi S pa) k60))) (jqFi S pa) ((rSc S pa) - (1 : Int32)) := ⟨_, rfl⟩
              refine z_wv (X' := zSta cI q (uSc (uTo (uLe (jqK S (lAr S pa) (tAr S pa) (rSc S pa) (jqFi S pa) k60) g_1) g_2) g_3)) (va_runV (As := [.int (jqFi S pa), .int (lAr S pa), .int (tAr S pa), .int ((rSc S pa) - (1 : Int32))]) (rest := []) ⟨hx, hb, hml, hown, hz⟩ (c_X2_giveCell l D cI cQ q (jqK S (lAr S pa) (tAr S pa) (rSc S pa) (jqFi S pa) k60) (jqFi S pa) (lAr S pa) (tAr S pa) ((rSc S pa) - (1 : Int32)) g_1 hg_1 g_2 hg_2 g_3 hg_3) (zcwV 4 hz q2_42 q1_61 q1_62 q1_4 q1_63 hd_X2_giveCell (Nat.le_of_ble_eq_true rfl) (Nat.le_of_ble_eq_true rfl)) (z_pvw (ci := 2) (q := (RX2, TX2, 4)) hK (hP.sub (ws' := zPar cI q (jqK S (lAr S pa) (tAr S pa) (rSc S pa) (jqFi S pa) k60)) [6, 7, 8, 9] rfl) (hD.sub (ws' := zPar cI q (jqK S (lAr S pa) (tAr S pa) (rSc S pa) (jqFi S pa) k60)) [6, 7, 8, 9] (by decide) rfl) rfl rfl) rfl rfl hl.1 rfl (lv_room (Nat.le_of_ble_eq_true rfl)) dX4_joinQuarters_100 ⟨(Nat.le_of_ble_eq_true rfl), (Nat.le_of_ble_eq_true rfl)⟩) hP hD hS [6, 7, 8, 9] rfl rfl rfl (fun H locs hP hD hS => ?_)
              refine lv_iload hx hb dX4_joinQuarters_103 (lv_at hl 1 rfl) ?_
              exact z_wiret hx hb hr rfl hlocks hP hS (by subst hg_3; subst hg_2; subst hg_1; subst hT1; rfl) (congrArg (fun T => zSta cI q T) (show uSc (uTo (uLe (jqK S (lAr S pa) (tAr S pa) (rSc S pa) (jqFi S pa) k60) g_1) g_2) g_3 = T1 from by subst hg_3; subst hg_2; subst hg_1; subst hT1; rw [hk_60, jqS, gvS])) dX4_joinQuarters_105
            · have c_63 : ¬ (((4 : Int32) : Int32) ≤ nI k60) := c_63
              have hk_60 : k60 < 4 := z_cont (by decide) h1_60 c_63
              refine lv_aload_n hx hb dX4_joinQuarters_66 rfl (lv_at hl 5 rfl) ?_
              refine lv_aload_n hx hb dX4_joinQuarters_67 rfl (lv_at hl 5 rfl) ?_
              refine lv_iload_n hx hb dX4_joinQuarters_68 rfl (lv_at hl 4 rfl) ?_
              refine lv_iload_n hx hb dX4_joinQuarters_69 rfl (lv_at hl 3 rfl) ?_
              refine lv_iload hx hb dX4_joinQuarters_70 (lv_at hl 2 rfl) ?_
              refine lv_iload hx hb dX4_joinQuarters_72 (lv_at hl 0 rfl) ?_
              refine z_ro (va_runV (As := [.int (lAr S pa), .int (tAr S pa), .int (rSc S pa), .int (nI k60)]) (rest := [.ref (q 0)]) ⟨hx, hb, hml, hown, hz⟩ (c_X4_parishOfQuarter l D cI cQ q (jqK S (lAr S pa) (tAr S pa) (rSc S pa) (jqFi S pa) k60) (lAr S pa) (tAr S pa) (rSc S pa) (nI k60)) (zcwV 4 hz q2_135 q2_137 qs_8 q1_2 q2_138 hd_X4_parishOfQuarter (Nat.le_of_ble_eq_true rfl) (Nat.le_of_ble_eq_true rfl)) (z_pv (ci := 4) (q := (RX4, TX4, 5)) hK hP rfl rfl) rfl rfl hl.1 rfl (lv_room (Nat.le_of_ble_eq_true rfl)) dX4_joinQuarters_74 ⟨(Nat.le_of_ble_eq_true rfl), (Nat.le_of_ble_eq_true rfl)⟩) ?_
              refine lv_iload hx hb dX4_joinQuarters_77 (lv_at hl 1 rfl) ?_
              obtain ⟨g_4, hg_4⟩ : ∃ z : CS, z = abS (jqK S (lAr S pa) (tAr S pa) (rSc S pa) (jqFi S pa) k60) (pQu (jqK S (lAr S pa) (tAr S pa) (rSc S pa) (jqFi S pa) k60) (lAr S pa) (tAr S pa) (rSc S pa) (nI k60)) (jqFi S pa) := ⟨_, rfl⟩
              refine z_wv (X' := zSta cI q g_4) (va_runV (As := [.int (pQu (jqK S (lAr S pa) (tAr S pa) (rSc S pa) (jqFi S pa) k60) (lAr S pa) (tAr S pa) (rSc S pa) (nI k60)), .int (jqFi S pa)]) (rest := []) ⟨hx, hb, hml, hown, hz⟩ (c_X4_absorb l D cI cQ q (jqK S (lAr S pa) (tAr S pa) (rSc S pa) (jqFi S pa) k60) (pQu (jqK S (lAr S pa) (tAr S pa) (rSc S pa) (jqFi S pa) k60) (lAr S pa) (tAr S pa) (rSc S pa) (nI k60)) (jqFi S pa) g_4 hg_4) (zcwV 2 hz q2_144 q2_146 qs_9 q1_2 q2_147 hd_X4_absorb (Nat.le_of_ble_eq_true rfl) (Nat.le_of_ble_eq_true rfl)) (z_pvw (ci := 4) (q := (RX4, TX4, 5)) hK hP hD rfl rfl) rfl rfl hl.1 rfl (lv_room (Nat.le_of_ble_eq_true rfl)) dX4_joinQuarters_79 ⟨(Nat.le_of_ble_eq_true rfl), (Nat.le_of_ble_eq_true rfl)⟩) hP hD hS [0, 1, 2, 3, 4, 5, 6, 7, 8, 9, 10, 11] rfl rfl rfl (fun H locs hP hD hS => ?_)
              refine lv_iinc (v := (nI k60) + 1) (lv' := [(6, .int ((nI k60) + 1)), (5, .int (jqFi S pa)), (4, .int (rSc S pa)), (3, .int (tAr S pa)), (2, .int (lAr S pa)), (0, .ref (q 0)), (1, .int (pa))]) hx hb dX4_joinQuarters_82 hl (k := 0) rfl rfl (by decide) rfl (fun ls hl => ?_)
              refine lv_goto (tgt := 60) hx hb dX4_joinQuarters_85 (by decide) ?_
              have e60_6 : (nI (k60 + 1) : Int32) = (nI k60) + 1 := (nI_1 _).symm
              have eS60 : jqK S (lAr S pa) (tAr S pa) (rSc S pa) (jqFi S pa) (k60 + 1) = g_4 := by subst hg_4; rfl
              exact ih60 (k60 + 1) (by omega) (by omega) H locs (by rw [eS60]; exact hP) (by rw [eS60]; exact hD) hS _ (by (try rw [e60_6]); exact lv_sub hl [0, 1, 2, 3, 4, 5, 6] rfl)
        have e60_6 : (nI 0 : Int32) = (0 : Int32) := rfl
        have e60_5 : (jqFi S pa : Int32) = jqF S (lAr S pa) (tAr S pa) (rSc S pa) pa k28 := (by rw [hk_28]; rfl)
        have eS60 : jqK S (lAr S pa) (tAr S pa) (rSc S pa) (jqFi S pa) 0 = S := by rfl
        exact L60 (4 + 1) (0) (Nat.zero_le _) (by omega) s.heap [] (by rw [eS60]; exact hP) (by rw [eS60]; exact hD) hS _ (by (try rw [e60_6]); (try rw [e60_5]); exact lv_sub hl [0, 1, 2, 3, 4, 5, 6] rfl)
      · have c_31 : ¬ (((4 : Int32) : Int32) ≤ nI k28) := c_31
        have hk_28 : k28 < 4 := z_cont (by decide) h1_28 c_31
        refine lv_iload hx hb dX4_joinQuarters_34 (lv_at hl 1 rfl) ?_
        refine lv_aload_n hx hb dX4_joinQuarters_36 rfl (lv_at hl 5 rfl) ?_
        refine lv_iload_n hx hb dX4_joinQuarters_37 rfl (lv_at hl 4 rfl) ?_
        refine lv_iload_n hx hb dX4_joinQuarters_38 rfl (lv_at hl 3 rfl) ?_
        refine lv_iload hx hb dX4_joinQuarters_39 (lv_at hl 2 rfl) ?_
        refine lv_iload hx hb dX4_joinQuarters_41 (lv_at hl 0 rfl) ?_
        refine z_ro (va_runV (As := [.int (lAr S pa), .int (tAr S pa), .int (rSc S pa), .int (nI k28)]) (rest := [.int (jqF S (lAr S pa) (tAr S pa) (rSc S pa) pa k28)]) ⟨hx, hb, hml, hown, hz⟩ (c_X4_parishOfQuarter l D cI cQ q S (lAr S pa) (tAr S pa) (rSc S pa) (nI k28)) (zcwV 4 hz q2_135 q2_137 qs_8 q1_2 q2_138 hd_X4_parishOfQuarter (Nat.le_of_ble_eq_true rfl) (Nat.le_of_ble_eq_true rfl)) (z_pv (ci := 4) (q := (RX4, TX4, 5)) hK hP rfl rfl) rfl rfl hl.1 rfl (lv_room (Nat.le_of_ble_eq_true rfl)) dX4_joinQuarters_43 ⟨(Nat.le_of_ble_eq_true rfl), (Nat.le_of_ble_eq_true rfl)⟩) ?_
        refine va_mmin hx hb (by rw [hml]; exact hl.1.symm) hown (hz _ q2_143) (hz _ q1_169) (hz _ q1_9) (hz _ q1_170) (Nat.le_of_ble_eq_true rfl) (Nat.le_of_ble_eq_true rfl) (Nat.le_of_ble_eq_true rfl) (Nat.le_of_ble_eq_true rfl) dX4_joinQuarters_46 ?_
        refine lv_istore (lv' := [(5, .int (if (pQu S (lAr S pa) (tAr S pa) (rSc S pa) (nI k28)) < (jqF S (lAr S pa) (tAr S pa) (rSc S pa) pa k28) then (pQu S (lAr S pa) (tAr S pa) (rSc S pa) (nI k28)) else (jqF S (lAr S pa) (tAr S pa) (rSc S pa) pa k28))), (6, .int (nI k28)), (4, .int (rSc S pa)), (3, .int (tAr S pa)), (2, .int (lAr S pa)), (0, .ref (q 0)), (1, .int (pa))]) hx hb dX4_joinQuarters_49 hl (by decide) rfl (fun ls hl => ?_)
        refine lv_iinc (v := (nI k28) + 1) (lv' := [(6, .int ((nI k28) + 1)), (5, .int (if (pQu S (lAr S pa) (tAr S pa) (rSc S pa) (nI k28)) < (jqF S (lAr S pa) (tAr S pa) (rSc S pa) pa k28) then (pQu S (lAr S pa) (tAr S pa) (rSc S pa) (nI k28)) else (jqF S (lAr S pa) (tAr S pa) (rSc S pa) pa k28))), (4, .int (rSc S pa)), (3, .int (tAr S pa)), (2, .int (lAr S pa)), (0, .ref (q 0)), (1, .int (pa))]) hx hb dX4_joinQuarters_51 hl (k := 1) rfl rfl (by decide) rfl (fun ls hl => ?_)
        refine lv_goto (tgt := 28) hx hb dX4_joinQuarters_54 (by decide) ?_
        have e28_6 : (nI (k28 + 1) : Int32) = (nI k28) + 1 := (nI_1 _).symm
        have e28_5 : (jqF S (lAr S pa) (tAr S pa) (rSc S pa) pa (k28 + 1) : Int32) = if (pQu S (lAr S pa) (tAr S pa) (rSc S pa) (nI k28)) < (jqF S (lAr S pa) (tAr S pa) (rSc S pa) pa k28) then (pQu S (lAr S pa) (tAr S pa) (rSc S pa) (nI k28)) else (jqF S (lAr S pa) (tAr S pa) (rSc S pa) pa k28) := (by rfl)
        exact ih28 (k28 + 1) (by omega) (by omega) _ (by (try rw [e28_6]); (try rw [e28_5]); exact lv_sub hl [0, 1, 2, 3, 4, 5, 6] rfl)
  have e28_6 : (nI 0 : Int32) = (0 : Int32) := rfl
  have e28_5 : (jqF S (lAr S pa) (tAr S pa) (rSc S pa) pa 0 : Int32) = pa := (by rfl)
  exact L28 (4 + 1) (0) (Nat.zero_le _) (by omega) _ (by (try rw [e28_6]); (try rw [e28_5]); exact lv_sub hl [0, 1, 2, 3, 4, 5, 6] rfl)
