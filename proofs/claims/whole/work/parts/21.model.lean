theorem hd_X6_dissolves : yX6_dissolves.cls ≠ "java/lang/invoke/MethodHandle" ∧ yX6_dissolves.cls ≠ "java/lang/invoke/VarHandle" ∧ (parseMethodDescriptor yX6_dissolves.desc).map (fun d => d.parameters.length) = some 2 := by decide +kernel
theorem hd_X6_gift : yX6_gift.cls ≠ "java/lang/invoke/MethodHandle" ∧ yX6_gift.cls ≠ "java/lang/invoke/VarHandle" ∧ (parseMethodDescriptor yX6_gift.desc).map (fun d => d.parameters.length) = some 1 := by decide +kernel
theorem hd_X6_add : yX6_add.cls ≠ "java/lang/invoke/MethodHandle" ∧ yX6_add.cls ≠ "java/lang/invoke/VarHandle" ∧ (parseMethodDescriptor yX6_add.desc).map (fun d => d.parameters.length) = some 3 := by decide +kernel
theorem hd_X6_remove : yX6_remove.cls ≠ "java/lang/invoke/MethodHandle" ∧ yX6_remove.cls ≠ "java/lang/invoke/VarHandle" ∧ (parseMethodDescriptor yX6_remove.desc).map (fun d => d.parameters.length) = some 1 := by decide +kernel
theorem hd_X6_move : yX6_move.cls ≠ "java/lang/invoke/MethodHandle" ∧ yX6_move.cls ≠ "java/lang/invoke/VarHandle" ∧ (parseMethodDescriptor yX6_move.desc).map (fun d => d.parameters.length) = some 3 := by decide +kernel
theorem hd_X6_setCrowd : yX6_setCrowd.cls ≠ "java/lang/invoke/MethodHandle" ∧ yX6_setCrowd.cls ≠ "java/lang/invoke/VarHandle" ∧ (parseMethodDescriptor yX6_setCrowd.desc).map (fun d => d.parameters.length) = some 1 := by decide +kernel
theorem hd_X6_setTithe : yX6_setTithe.cls ≠ "java/lang/invoke/MethodHandle" ∧ yX6_setTithe.cls ≠ "java/lang/invoke/VarHandle" ∧ (parseMethodDescriptor yX6_setTithe.desc).map (fun d => d.parameters.length) = some 1 := by decide +kernel
theorem hd_X6_undo : yX6_undo.cls ≠ "java/lang/invoke/MethodHandle" ∧ yX6_undo.cls ≠ "java/lang/invoke/VarHandle" ∧ (parseMethodDescriptor yX6_undo.desc).map (fun d => d.parameters.length) = some 0 := by decide +kernel
set_option maxHeartbeats 1000000 in
set_option maxRecDepth 100000 in
theorem c_X6_dissolves (l : Launch) (D : va_G) (cI cQ : ClassId) (r : Nat → Nat) (M : MS) (go fi : Int32) (a : Nat) (f : Nat) (hA : mOk (mR M) a f) (hg : vp_in go 100) (hf_ : vp_in fi 100) (g1 : FI) (hg1 : g1 = dis (mR M) a go fi) : zWR l yX6_dissolves (Cond.code yX6_dissolves cX6_dissolves 4 (none) :: zT) 1 23 [.ref (r 0), .int go, .int fi] D cI cQ (zMod cI r M) none (zMod cI r (uR M g1)) := by
  refine zWR.of (cc := cX6_dissolves) (maxL := 4) (ret := none) (by decide +kernel) rfl (Nat.le_of_ble_eq_true rfl) ?_
  intro pg e s mi args below meth cd hx hb hr hts hown hlocks hml hP hD hS hK ls hl
  have hz : ∀ w ∈ zT, w.before args s = true := fun w h => hts w (List.mem_cons_of_mem _ h)
  have hl : lv_has ls 4 [(0, .ref (r 0)), (1, .int (go)), (2, .int (fi))] := hl
  refine lv_aload_n hx hb dX6_dissolves_0 rfl (lv_at hl 0 rfl) ?_
  refine va_get (D := D) (ci := 6) (v := .ref (r 1)) (C := RX6) (T := TX6) (N := 3) hx hb hz inZ6 hown hK.1 hP 0 rfl rfl 0 (by decide) (hz _ q3_88) (fun _ h9 => h9) rfl dX6_dissolves_1 ?_
  refine lv_sipush (v := 204) hx hb dX6_dissolves_4 (by decide) ?_
  refine lv_iconst (v := 4) hx hb dX6_dissolves_7 (by decide) ?_
  refine lv_iload_n hx hb dX6_dissolves_8 rfl (lv_at hl 1 rfl) ?_
  refine lv_imul hx hb dX6_dissolves_9 ?_
  refine lv_iadd hx hb dX6_dissolves_10 ?_
  refine lv_iconst (v := 0) hx hb dX6_dissolves_11 (by decide) ?_
  refine va_iast hx hb hK.1 hP hD hS 1 0 rfl rfl (i := (204 : Int32) + ((4 : Int32) * go)) (ix2' hg) dX6_dissolves_12 (fun H locs hP hD hS => ?_)
  have hP : va_P D vwCl (zMod cI r (uR M (upd (mR M) ((204 : Int32) + ((4 : Int32) * go)).toNatClampNeg (0 : Int32)))) H := hP
  have hD : va_D (zA (zMod cI r M)) (zMod cI r (uR M (upd (mR M) ((204 : Int32) + ((4 : Int32) * go)).toNatClampNeg (0 : Int32)))) := hD
  refine lv_iconst (v := 0) hx hb dX6_dissolves_13 (by decide) ?_
  refine lv_istore_n (lv' := [(3, .int (0 : Int32)), (0, .ref (r 0)), (1, .int (go)), (2, .int (fi))]) hx hb dX6_dissolves_14 rfl hl (by decide) rfl (fun ls hl => ?_)
  have L15 : ∀ (n15 k15 : Nat), k15 ≤ a → a < k15 + n15 → (mOk (ds1 (mR M) go fi k15) a f) → ∀ (H : Heap) (locs : List Loc), va_P D vwCl (zMod cI r (uR M (ds1 (mR M) go fi k15))) H → va_D (zA (zMod cI r M)) (zMod cI r (uR M (ds1 (mR M) go fi k15))) → va_S (zA (zMod cI r M)) s.heap H locs → ∀ (ls : Array Slot), lv_has ls 4 [(3, .int (nI k15)), (0, .ref (r 0)), (1, .int (go)), (2, .int (fi))] → W pg l e ({ frames := 1, cells := 0, slots := 0, locals := 23 }) s mi args below meth cd H locs 0 0 (MQ below (zQ D (zMod cI r M) none (zMod cI r (uR M g1))) args s 0 0 (zA (zMod cI r M))) (F0 mi 15 ls []) := by
    intro n15
    induction n15 with
    | zero => intro k15 h1 h2; exact absurd h2 (by omega)
    | succ n15 ih15 =>
      intro k15 h1_15 h2_15 hB H locs hP hD hS ls hl
      refine lv_iload_n hx hb dX6_dissolves_15 rfl (lv_at hl 0 rfl) ?_
      refine lv_aload_n hx hb dX6_dissolves_16 rfl (lv_at hl 1 rfl) ?_
      refine va_get (D := D) (ci := 6) (v := .ref (r 1)) (C := RX6) (T := TX6) (N := 3) hx hb hz inZ6 hown hK.1 hP 0 rfl rfl 0 (by decide) (hz _ q3_88) (fun _ h9 => h9) rfl dX6_dissolves_17 ?_
      refine lv_iconst (v := 2) hx hb dX6_dissolves_20 (by decide) ?_
      refine va_iald (f := ds1 (mR M) go fi k15) hx hb hK.1 hP 1 0 rfl rfl (i := (2 : Int32)) (z_inC (by decide) (by decide)) dX6_dissolves_21 ?_
      refine lv_icmp_ge (tgt := 47) hx hb dX6_dissolves_22 (by decide) (fun c_22 => ?_) (fun c_22 => ?_)
      · have c_22 : ((ds1 (mR M) go fi k15) 2 : Int32) ≤ nI k15 := c_22
        rw [hB.2.2.1] at c_22
        have hk_15 : k15 = a := z_exit (by have := hA.1; omega) h1_15 c_22
        refine lv_iconst (v := 0) hx hb dX6_dissolves_47 (by decide) ?_
        refine lv_istore_n (lv' := [(3, .int (0 : Int32)), (0, .ref (r 0)), (1, .int (go)), (2, .int (fi))]) hx hb dX6_dissolves_48 rfl hl (by decide) rfl (fun ls hl => ?_)
        have L49 : ∀ (n49 k49 : Nat), k49 ≤ 40 → 40 < k49 + n49 → ∀ (H : Heap) (locs : List Loc), va_P D vwCl (zMod cI r (uR M (ds2 (ds1 (mR M) go fi a) go fi k49))) H → va_D (zA (zMod cI r M)) (zMod cI r (uR M (ds2 (ds1 (mR M) go fi a) go fi k49))) → va_S (zA (zMod cI r M)) s.heap H locs → ∀ (ls : Array Slot), lv_has ls 4 [(3, .int (nI k49)), (0, .ref (r 0)), (1, .int (go)), (2, .int (fi))] → W pg l e ({ frames := 1, cells := 0, slots := 0, locals := 23 }) s mi args below meth cd H locs 0 0 (MQ below (zQ D (zMod cI r M) none (zMod cI r (uR M g1))) args s 0 0 (zA (zMod cI r M))) (F0 mi 49 ls []) := by
          intro n49
          induction n49 with
          | zero => intro k49 h1 h2; exact absurd h2 (by omega)
          | succ n49 ih49 =>
            intro k49 h1_49 h2_49  H locs hP hD hS ls hl
            refine lv_iload_n hx hb dX6_dissolves_49 rfl (lv_at hl 0 rfl) ?_
            refine lv_bipush (v := 40) hx hb dX6_dissolves_50 (by decide) ?_
            refine lv_icmp_ge (tgt := 86) hx hb dX6_dissolves_52 (by decide) (fun c_52 => ?_) (fun c_52 => ?_)
            · have c_52 : ((40 : Int32) : Int32) ≤ nI k49 := c_52
              have hk_49 : k49 = 40 := z_exit (by decide) h1_49 c_52
              refine lv_iconst (v := 0) hx hb dX6_dissolves_86 (by decide) ?_
              refine lv_istore_n (lv' := [(3, .int (0 : Int32)), (0, .ref (r 0)), (1, .int (go)), (2, .int (fi))]) hx hb dX6_dissolves_87 rfl hl (by decide) rfl (fun ls hl => ?_)
              have L88 : ∀ (n88 k88 : Nat), k88 ≤ 40 → 40 < k88 + n88 → ∀ (H : Heap) (locs : List Loc), va_P D vwCl (zMod cI r (uR M (ds3 (ds2 (ds1 (mR M) go fi a) go fi 40) go fi k88))) H → va_D (zA (zMod cI r M)) (zMod cI r (uR M (ds3 (ds2 (ds1 (mR M) go fi a) go fi 40) go fi k88))) → va_S (zA (zMod cI r M)) s.heap H locs → ∀ (ls : Array Slot), lv_has ls 4 [(3, .int (nI k88)), (0, .ref (r 0)), (1, .int (go)), (2, .int (fi))] → W pg l e ({ frames := 1, cells := 0, slots := 0, locals := 23 }) s mi args below meth cd H locs 0 0 (MQ below (zQ D (zMod cI r M) none (zMod cI r (uR M g1))) args s 0 0 (zA (zMod cI r M))) (F0 mi 88 ls []) := by
                intro n88
                induction n88 with
                | zero => intro k88 h1 h2; exact absurd h2 (by omega)
                | succ n88 ih88 =>
                  intro k88 h1_88 h2_88  H locs hP hD hS ls hl
                  refine lv_iload_n hx hb dX6_dissolves_88 rfl (lv_at hl 0 rfl) ?_
                  refine lv_bipush (v := 40) hx hb dX6_dissolves_89 (by decide) ?_
                  refine lv_icmp_ge (tgt := 125) hx hb dX6_dissolves_91 (by decide) (fun c_91 => ?_) (fun c_91 => ?_)
                  · have c_91 : ((40 : Int32) : Int32) ≤ nI k88 := c_91
                    have hk_88 : k88 = 40 := z_exit (by decide) h1_88 c_91
                    exact z_wvret hx hb hr hlocks hP hS (congrArg (fun T => zMod cI r T) (show uR M (ds3 (ds2 (ds1 (mR M) go fi a) go fi 40) go fi k88) = uR M g1 from by (try simp only [hg1]) <;> (rw [hk_88]; rfl))) dX6_dissolves_125
                  · have c_91 : ¬ (((40 : Int32) : Int32) ≤ nI k88) := c_91
                    have hk_88 : k88 < 40 := z_cont (by decide) h1_88 c_91
                    refine lv_aload_n hx hb dX6_dissolves_94 rfl (lv_at hl 1 rfl) ?_
                    refine lv_iload_n hx hb dX6_dissolves_95 rfl (lv_at hl 0 rfl) ?_
                    refine lv_iload_n hx hb dX6_dissolves_96 rfl (lv_at hl 3 rfl) ?_
                    refine lv_aload_n hx hb dX6_dissolves_97 rfl (lv_at hl 1 rfl) ?_
                    refine lv_iload_n hx hb dX6_dissolves_98 rfl (lv_at hl 0 rfl) ?_
                    refine lv_iload_n hx hb dX6_dissolves_99 rfl (lv_at hl 2 rfl) ?_
                    refine z_ro (va_runV (As := [.int (nI k88), .int (go)]) (rest := [.int (fi), .int (nI k88), .ref (r 0)]) ⟨hx, hb, hml, hown, hz⟩ (c_X6_debtOf l D cI cQ r (uR M (ds3 (ds2 (ds1 (mR M) go fi a) go fi 40) go fi k88)) (nI k88) go (ix3 (kin hk_88 (by omega)) hg)) (zcwV 2 hz q3_212 q3_214 qs_33 q1_7 q3_215 hd_X6_debtOf (Nat.le_of_ble_eq_true rfl) (Nat.le_of_ble_eq_true rfl)) (z_pv (ci := 6) (q := (RX6, TX6, 3)) hK hP rfl rfl) rfl rfl hl.1 rfl (lv_room (Nat.le_of_ble_eq_true rfl)) dX6_dissolves_100 ⟨(Nat.le_of_ble_eq_true rfl), (Nat.le_of_ble_eq_true rfl)⟩) ?_
                    obtain ⟨g_1, hg_1⟩ : ∃ z : FI, z = oW ((ds3 (ds2 (ds1 (mR M) go fi a) go fi 40) go fi k88)) (nI k88) fi (dO ((ds3 (ds2 (ds1 (mR M) go fi a) go fi 40) go fi k88)) (nI k88) go) := ⟨_, rfl⟩
                    refine z_wv (X' := zMod cI r (uR M g_1)) (va_runV (As := [.int (nI k88), .int (fi), .int (dO ((ds3 (ds2 (ds1 (mR M) go fi a) go fi 40) go fi k88)) (nI k88) go)]) (rest := []) ⟨hx, hb, hml, hown, hz⟩ (c_X6_owes l D cI cQ r (uR M (ds3 (ds2 (ds1 (mR M) go fi a) go fi 40) go fi k88)) (nI k88) fi (dO ((ds3 (ds2 (ds1 (mR M) go fi a) go fi 40) go fi k88)) (nI k88) go) (ix3 (kin hk_88 (by omega)) hf_) g_1 hg_1) (zcwV 3 hz q3_176 q3_178 qs_29 q1_7 q3_179 hd_X6_owes (Nat.le_of_ble_eq_true rfl) (Nat.le_of_ble_eq_true rfl)) (z_pvw (ci := 6) (q := (RX6, TX6, 3)) hK hP hD rfl rfl) rfl rfl hl.1 rfl (lv_room (Nat.le_of_ble_eq_true rfl)) dX6_dissolves_103 ⟨(Nat.le_of_ble_eq_true rfl), (Nat.le_of_ble_eq_true rfl)⟩) hP hD hS [0, 1, 2] rfl rfl rfl (fun H locs hP hD hS => ?_)
                    refine lv_aload_n hx hb dX6_dissolves_106 rfl (lv_at hl 1 rfl) ?_
                    refine lv_iload_n hx hb dX6_dissolves_107 rfl (lv_at hl 0 rfl) ?_
                    refine lv_iload_n hx hb dX6_dissolves_108 rfl (lv_at hl 2 rfl) ?_
                    refine lv_aload_n hx hb dX6_dissolves_109 rfl (lv_at hl 1 rfl) ?_
                    refine lv_iload_n hx hb dX6_dissolves_110 rfl (lv_at hl 0 rfl) ?_
                    refine lv_iload_n hx hb dX6_dissolves_111 rfl (lv_at hl 2 rfl) ?_
                    refine z_ro (va_runV (As := [.int (nI k88), .int (go)]) (rest := [.int (go), .int (nI k88), .ref (r 0)]) ⟨hx, hb, hml, hown, hz⟩ (c_X6_debtOf l D cI cQ r (uR M g_1) (nI k88) go (ix3 (kin hk_88 (by omega)) hg)) (zcwV 2 hz q3_212 q3_214 qs_33 q1_7 q3_215 hd_X6_debtOf (Nat.le_of_ble_eq_true rfl) (Nat.le_of_ble_eq_true rfl)) (z_pv (ci := 6) (q := (RX6, TX6, 3)) hK hP rfl rfl) rfl rfl hl.1 rfl (lv_room (Nat.le_of_ble_eq_true rfl)) dX6_dissolves_112 ⟨(Nat.le_of_ble_eq_true rfl), (Nat.le_of_ble_eq_true rfl)⟩) ?_
                    refine lv_ineg hx hb dX6_dissolves_115 ?_
                    obtain ⟨g_2, hg_2⟩ : ∃ z : FI, z = oW (g_1) (nI k88) go (-(dO (g_1) (nI k88) go)) := ⟨_, rfl⟩
                    refine z_wv (X' := zMod cI r (uR M g_2)) (va_runV (As := [.int (nI k88), .int (go), .int (-(dO (g_1) (nI k88) go))]) (rest := []) ⟨hx, hb, hml, hown, hz⟩ (c_X6_owes l D cI cQ r (uR M g_1) (nI k88) go (-(dO (g_1) (nI k88) go)) (ix3 (kin hk_88 (by omega)) hg) g_2 hg_2) (zcwV 3 hz q3_176 q3_178 qs_29 q1_7 q3_179 hd_X6_owes (Nat.le_of_ble_eq_true rfl) (Nat.le_of_ble_eq_true rfl)) (z_pvw (ci := 6) (q := (RX6, TX6, 3)) hK hP hD rfl rfl) rfl rfl hl.1 rfl (lv_room (Nat.le_of_ble_eq_true rfl)) dX6_dissolves_116 ⟨(Nat.le_of_ble_eq_true rfl), (Nat.le_of_ble_eq_true rfl)⟩) hP hD hS [0, 1, 2] rfl rfl rfl (fun H locs hP hD hS => ?_)
                    refine lv_iinc (v := (nI k88) + 1) (lv' := [(3, .int ((nI k88) + 1)), (0, .ref (r 0)), (1, .int (go)), (2, .int (fi))]) hx hb dX6_dissolves_119 hl (k := 0) rfl rfl (by decide) rfl (fun ls hl => ?_)
                    refine lv_goto (tgt := 88) hx hb dX6_dissolves_122 (by decide) ?_
                    have e88_3 : (nI (k88 + 1) : Int32) = (nI k88) + 1 := (nI_1 _).symm
                    have eS88 : uR M (ds3 (ds2 (ds1 (mR M) go fi a) go fi 40) go fi (k88 + 1)) = uR M g_2 := by (try simp only [hg_2, hg_1]) <;> (rfl)
                    exact ih88 (k88 + 1) (by omega) (by omega) H locs (by rw [eS88]; exact hP) (by rw [eS88]; exact hD) hS _ (by (try rw [e88_3]); exact lv_sub hl [0, 1, 2, 3] rfl)
              have e88_3 : (nI 0 : Int32) = (0 : Int32) := rfl
              have eS88 : uR M (ds3 (ds2 (ds1 (mR M) go fi a) go fi 40) go fi 0) = uR M (ds2 (ds1 (mR M) go fi a) go fi k49) := by rw [hk_49]; rfl
              exact L88 (40 + 1) (0) (Nat.zero_le _) (by omega) H locs (by rw [eS88]; exact hP) (by rw [eS88]; exact hD) hS _ (by (try rw [e88_3]); exact lv_sub hl [0, 1, 2, 3] rfl)
            · have c_52 : ¬ (((40 : Int32) : Int32) ≤ nI k49) := c_52
              have hk_49 : k49 < 40 := z_cont (by decide) h1_49 c_52
              refine lv_aload_n hx hb dX6_dissolves_55 rfl (lv_at hl 1 rfl) ?_
              refine lv_iload_n hx hb dX6_dissolves_56 rfl (lv_at hl 3 rfl) ?_
              refine lv_iload_n hx hb dX6_dissolves_57 rfl (lv_at hl 0 rfl) ?_
              refine lv_aload_n hx hb dX6_dissolves_58 rfl (lv_at hl 1 rfl) ?_
              refine lv_iload_n hx hb dX6_dissolves_59 rfl (lv_at hl 2 rfl) ?_
              refine lv_iload_n hx hb dX6_dissolves_60 rfl (lv_at hl 0 rfl) ?_
              refine z_ro (va_runV (As := [.int (go), .int (nI k49)]) (rest := [.int (nI k49), .int (fi), .ref (r 0)]) ⟨hx, hb, hml, hown, hz⟩ (c_X6_debtOf l D cI cQ r (uR M (ds2 (ds1 (mR M) go fi a) go fi k49)) go (nI k49) (ix3 hg (kin hk_49 (by omega)))) (zcwV 2 hz q3_212 q3_214 qs_33 q1_7 q3_215 hd_X6_debtOf (Nat.le_of_ble_eq_true rfl) (Nat.le_of_ble_eq_true rfl)) (z_pv (ci := 6) (q := (RX6, TX6, 3)) hK hP rfl rfl) rfl rfl hl.1 rfl (lv_room (Nat.le_of_ble_eq_true rfl)) dX6_dissolves_61 ⟨(Nat.le_of_ble_eq_true rfl), (Nat.le_of_ble_eq_true rfl)⟩) ?_
              obtain ⟨g_3, hg_3⟩ : ∃ z : FI, z = oW ((ds2 (ds1 (mR M) go fi a) go fi k49)) fi (nI k49) (dO ((ds2 (ds1 (mR M) go fi a) go fi k49)) go (nI k49)) := ⟨_, rfl⟩
              refine z_wv (X' := zMod cI r (uR M g_3)) (va_runV (As := [.int (fi), .int (nI k49), .int (dO ((ds2 (ds1 (mR M) go fi a) go fi k49)) go (nI k49))]) (rest := []) ⟨hx, hb, hml, hown, hz⟩ (c_X6_owes l D cI cQ r (uR M (ds2 (ds1 (mR M) go fi a) go fi k49)) fi (nI k49) (dO ((ds2 (ds1 (mR M) go fi a) go fi k49)) go (nI k49)) (ix3 hf_ (kin hk_49 (by omega))) g_3 hg_3) (zcwV 3 hz q3_176 q3_178 qs_29 q1_7 q3_179 hd_X6_owes (Nat.le_of_ble_eq_true rfl) (Nat.le_of_ble_eq_true rfl)) (z_pvw (ci := 6) (q := (RX6, TX6, 3)) hK hP hD rfl rfl) rfl rfl hl.1 rfl (lv_room (Nat.le_of_ble_eq_true rfl)) dX6_dissolves_64 ⟨(Nat.le_of_ble_eq_true rfl), (Nat.le_of_ble_eq_true rfl)⟩) hP hD hS [0, 1, 2] rfl rfl rfl (fun H locs hP hD hS => ?_)
              refine lv_aload_n hx hb dX6_dissolves_67 rfl (lv_at hl 1 rfl) ?_
              refine lv_iload_n hx hb dX6_dissolves_68 rfl (lv_at hl 2 rfl) ?_
              refine lv_iload_n hx hb dX6_dissolves_69 rfl (lv_at hl 0 rfl) ?_
              refine lv_aload_n hx hb dX6_dissolves_70 rfl (lv_at hl 1 rfl) ?_
              refine lv_iload_n hx hb dX6_dissolves_71 rfl (lv_at hl 2 rfl) ?_
              refine lv_iload_n hx hb dX6_dissolves_72 rfl (lv_at hl 0 rfl) ?_
              refine z_ro (va_runV (As := [.int (go), .int (nI k49)]) (rest := [.int (nI k49), .int (go), .ref (r 0)]) ⟨hx, hb, hml, hown, hz⟩ (c_X6_debtOf l D cI cQ r (uR M g_3) go (nI k49) (ix3 hg (kin hk_49 (by omega)))) (zcwV 2 hz q3_212 q3_214 qs_33 q1_7 q3_215 hd_X6_debtOf (Nat.le_of_ble_eq_true rfl) (Nat.le_of_ble_eq_true rfl)) (z_pv (ci := 6) (q := (RX6, TX6, 3)) hK hP rfl rfl) rfl rfl hl.1 rfl (lv_room (Nat.le_of_ble_eq_true rfl)) dX6_dissolves_73 ⟨(Nat.le_of_ble_eq_true rfl), (Nat.le_of_ble_eq_true rfl)⟩) ?_
              refine lv_ineg hx hb dX6_dissolves_76 ?_
              obtain ⟨g_4, hg_4⟩ : ∃ z : FI, z = oW (g_3) go (nI k49) (-(dO (g_3) go (nI k49))) := ⟨_, rfl⟩
              refine z_wv (X' := zMod cI r (uR M g_4)) (va_runV (As := [.int (go), .int (nI k49), .int (-(dO (g_3) go (nI k49)))]) (rest := []) ⟨hx, hb, hml, hown, hz⟩ (c_X6_owes l D cI cQ r (uR M g_3) go (nI k49) (-(dO (g_3) go (nI k49))) (ix3 hg (kin hk_49 (by omega))) g_4 hg_4) (zcwV 3 hz q3_176 q3_178 qs_29 q1_7 q3_179 hd_X6_owes (Nat.le_of_ble_eq_true rfl) (Nat.le_of_ble_eq_true rfl)) (z_pvw (ci := 6) (q := (RX6, TX6, 3)) hK hP hD rfl rfl) rfl rfl hl.1 rfl (lv_room (Nat.le_of_ble_eq_true rfl)) dX6_dissolves_77 ⟨(Nat.le_of_ble_eq_true rfl), (Nat.le_of_ble_eq_true rfl)⟩) hP hD hS [0, 1, 2] rfl rfl rfl (fun H locs hP hD hS => ?_)
              refine lv_iinc (v := (nI k49) + 1) (lv' := [(3, .int ((nI k49) + 1)), (0, .ref (r 0)), (1, .int (go)), (2, .int (fi))]) hx hb dX6_dissolves_80 hl (k := 0) rfl rfl (by decide) rfl (fun ls hl => ?_)
              refine lv_goto (tgt := 49) hx hb dX6_dissolves_83 (by decide) ?_
              have e49_3 : (nI (k49 + 1) : Int32) = (nI k49) + 1 := (nI_1 _).symm
              have eS49 : uR M (ds2 (ds1 (mR M) go fi a) go fi (k49 + 1)) = uR M g_4 := by (try simp only [hg_4, hg_3]) <;> (rfl)
              exact ih49 (k49 + 1) (by omega) (by omega) H locs (by rw [eS49]; exact hP) (by rw [eS49]; exact hD) hS _ (by (try rw [e49_3]); exact lv_sub hl [0, 1, 2, 3] rfl)
        have e49_3 : (nI 0 : Int32) = (0 : Int32) := rfl
        have eS49 : uR M (ds2 (ds1 (mR M) go fi a) go fi 0) = uR M (ds1 (mR M) go fi k15) := by rw [hk_15]; rfl
        exact L49 (40 + 1) (0) (Nat.zero_le _) (by omega) H locs (by rw [eS49]; exact hP) (by rw [eS49]; exact hD) hS _ (by (try rw [e49_3]); exact lv_sub hl [0, 1, 2, 3] rfl)
      · have c_22 : ¬ (((ds1 (mR M) go fi k15) 2 : Int32) ≤ nI k15) := c_22
        rw [hB.2.2.1] at c_22
        have hk_15 : k15 < a := z_cont (by have := hA.1; omega) h1_15 c_22
        refine lv_aload_n hx hb dX6_dissolves_25 rfl (lv_at hl 1 rfl) ?_
        refine lv_iload_n hx hb dX6_dissolves_26 rfl (lv_at hl 0 rfl) ?_
        refine lv_iconst (v := 4) hx hb dX6_dissolves_27 (by decide) ?_
        refine z_ro (va_runV (As := [.int (nI k15), .int (4 : Int32)]) (rest := []) ⟨hx, hb, hml, hown, hz⟩ (c_X6_ofPoint l D cI cQ r (uR M (ds1 (mR M) go fi k15)) (nI k15) (4 : Int32) (ix1 (kin hk_15 (by have := hA.1; omega)) (z_inC (by decide) (by decide)))) (zcwV 2 hz q3_160 q3_162 qs_25 q1_7 q3_163 hd_X6_ofPoint (Nat.le_of_ble_eq_true rfl) (Nat.le_of_ble_eq_true rfl)) (z_pv (ci := 6) (q := (RX6, TX6, 3)) hK hP rfl rfl) rfl rfl hl.1 rfl (lv_room (Nat.le_of_ble_eq_true rfl)) dX6_dissolves_28 ⟨(Nat.le_of_ble_eq_true rfl), (Nat.le_of_ble_eq_true rfl)⟩) ?_
        refine lv_iload_n hx hb dX6_dissolves_31 rfl (lv_at hl 2 rfl) ?_
        refine lv_icmp_ne (tgt := 41) hx hb dX6_dissolves_32 (by decide) (fun c_32 => ?_) (fun c_32 => ?_)
        · have c_32 : ¬ ((oP ((ds1 (mR M) go fi k15)) (nI k15) (4 : Int32) : Int32) = go) := c_32
          refine lv_iinc (v := (nI k15) + 1) (lv' := [(3, .int ((nI k15) + 1)), (0, .ref (r 0)), (1, .int (go)), (2, .int (fi))]) hx hb dX6_dissolves_41 hl (k := 0) rfl rfl (by decide) rfl (fun ls hl => ?_)
          refine lv_goto (tgt := 15) hx hb dX6_dissolves_44 (by decide) ?_
          have e15_3 : (nI (k15 + 1) : Int32) = (nI k15) + 1 := (nI_1 _).symm
          have eS15 : uR M (ds1 (mR M) go fi (k15 + 1)) = uR M (ds1 (mR M) go fi k15) := by simp only [ds1, c_32, if_true, if_false]
          exact ih15 (k15 + 1) (by omega) (by omega) (mOk_ds1 hA hg _ (by have := hA.1; omega)) H locs (by rw [eS15]; exact hP) (by rw [eS15]; exact hD) hS _ (by (try rw [e15_3]); exact lv_sub hl [0, 1, 2, 3] rfl)
        · have c_32 : (oP ((ds1 (mR M) go fi k15)) (nI k15) (4 : Int32) : Int32) = go := c_32
          refine lv_aload_n hx hb dX6_dissolves_35 rfl (lv_at hl 1 rfl) ?_
          refine lv_iload_n hx hb dX6_dissolves_36 rfl (lv_at hl 0 rfl) ?_
          refine lv_iload_n hx hb dX6_dissolves_37 rfl (lv_at hl 3 rfl) ?_
          obtain ⟨g_5, hg_5⟩ : ∃ z : FI, z = sLo ((ds1 (mR M) go fi k15)) (nI k15) fi := ⟨_, rfl⟩
          refine z_wv (X' := zMod cI r (uR M g_5)) (va_runV (As := [.int (nI k15), .int (fi)]) (rest := []) ⟨hx, hb, hml, hown, hz⟩ (c_X6_setLord l D cI cQ r (uR M (ds1 (mR M) go fi k15)) (nI k15) fi ((kin hk_15 (by have := hA.1; omega))) g_5 hg_5) (zcwV 2 hz q3_132 q3_134 qs_18 q1_7 q3_135 hd_X6_setLord (Nat.le_of_ble_eq_true rfl) (Nat.le_of_ble_eq_true rfl)) (z_pvw (ci := 6) (q := (RX6, TX6, 3)) hK hP hD rfl rfl) rfl rfl hl.1 rfl (lv_room (Nat.le_of_ble_eq_true rfl)) dX6_dissolves_38 ⟨(Nat.le_of_ble_eq_true rfl), (Nat.le_of_ble_eq_true rfl)⟩) hP hD hS [0, 1, 2] rfl rfl rfl (fun H locs hP hD hS => ?_)
          refine lv_iinc (v := (nI k15) + 1) (lv' := [(3, .int ((nI k15) + 1)), (0, .ref (r 0)), (1, .int (go)), (2, .int (fi))]) hx hb dX6_dissolves_41 hl (k := 0) rfl rfl (by decide) rfl (fun ls hl => ?_)
          refine lv_goto (tgt := 15) hx hb dX6_dissolves_44 (by decide) ?_
          have e15_3 : (nI (k15 + 1) : Int32) = (nI k15) + 1 := (nI_1 _).symm
          have eS15 : uR M (ds1 (mR M) go fi (k15 + 1)) = uR M g_5 := by (try simp only [hg_5]) <;> (simp only [ds1, c_32, if_true, if_false])
          exact ih15 (k15 + 1) (by omega) (by omega) (mOk_ds1 hA hg _ (by have := hA.1; omega)) H locs (by rw [eS15]; exact hP) (by rw [eS15]; exact hD) hS _ (by (try rw [e15_3]); exact lv_sub hl [0, 1, 2, 3] rfl)
  have e15_3 : (nI 0 : Int32) = (0 : Int32) := rfl
  have eS15 : uR M (ds1 (mR M) go fi 0) = uR M (upd (mR M) ((204 : Int32) + ((4 : Int32) * go)).toNatClampNeg (0 : Int32)) := by rfl
  exact L15 (a + 1) (0) (Nat.zero_le _) (by omega) (mOk_ds1 hA hg 0 (by omega)) H locs (by rw [eS15]; exact hP) (by rw [eS15]; exact hD) hS _ (by (try rw [e15_3]); exact lv_sub hl [0, 1, 2, 3] rfl)
set_option maxHeartbeats 1000000 in
set_option maxRecDepth 100000 in
theorem c_X6_gift (l : Launch) (D : va_G) (cI cQ : ClassId) (r : Nat → Nat) (M : MS) (p : Int32) (a : Nat) (f : Nat) (hA : mOk (mR M) a f) : zRO l yX6_gift (Cond.code yX6_gift cX6_gift 5 (some .int) :: zT) 4 89 [.ref (r 0), .int p] D cI cQ (zMod cI r M) (giF (mR M) p f a) := by
  refine zRO.of (cc := cX6_gift) (maxL := 5) (ret := some .int) (by decide +kernel) rfl (Nat.le_of_ble_eq_true rfl) ?_
  intro pg e s mi args below meth cd hx hb hr hts hown hlocks hml hP hK ls hl
  have hz : ∀ w ∈ zT, w.before args s = true := fun w h => hts w (List.mem_cons_of_mem _ h)
  have hl : lv_has ls 5 [(0, .ref (r 0)), (1, .int (p))] := hl
  refine lv_bipush (v := (-9)) hx hb dX6_gift_0 (by decide) ?_
  refine lv_istore_n (lv' := [(2, .int (-9 : Int32)), (0, .ref (r 0)), (1, .int (p))]) hx hb dX6_gift_2 rfl hl (by decide) rfl (fun ls hl => ?_)
  refine lv_iconst (v := 0) hx hb dX6_gift_3 (by decide) ?_
  refine lv_istore_n (lv' := [(3, .int (0 : Int32)), (2, .int (-9 : Int32)), (0, .ref (r 0)), (1, .int (p))]) hx hb dX6_gift_4 rfl hl (by decide) rfl (fun ls hl => ?_)
  have L5 : ∀ (n5 k5 : Nat), k5 ≤ a → a < k5 + n5 → ∀ (ls : Array Slot), lv_has ls 5 [(3, .int (nI k5)), (2, .int (giF (mR M) p f k5)), (0, .ref (r 0)), (1, .int (p))] → W pg l e ({ frames := 4, cells := 0, slots := 0, locals := 89 }) s mi args below meth cd s.heap [] 0 0 (MQ below (vp_Si (fun r => r = giF (mR M) p f a)) args s 0 0 (fun _ => False)) (F0 mi 5 ls []) := by
    intro n5
    induction n5 with
    | zero => intro k5 h1 h2; exact absurd h2 (by omega)
    | succ n5 ih5 =>
      intro k5 h1_5 h2_5  ls hl
      refine lv_iload_n hx hb dX6_gift_5 rfl (lv_at hl 0 rfl) ?_
      refine lv_aload_n hx hb dX6_gift_6 rfl (lv_at hl 2 rfl) ?_
      refine va_get (D := D) (ci := 6) (v := .ref (r 1)) (C := RX6) (T := TX6) (N := 3) hx hb hz inZ6 hown hK.1 hP 0 rfl rfl 0 (by decide) (hz _ q3_88) (fun _ h9 => h9) rfl dX6_gift_7 ?_
      refine lv_iconst (v := 2) hx hb dX6_gift_10 (by decide) ?_
      refine va_iald (f := mR M) hx hb hK.1 hP 1 0 rfl rfl (i := (2 : Int32)) (z_inC (by decide) (by decide)) dX6_gift_11 ?_
      refine lv_icmp_ge (tgt := 87) hx hb dX6_gift_12 (by decide) (fun c_12 => ?_) (fun c_12 => ?_)
      · have c_12 : ((mR M) 2 : Int32) ≤ nI k5 := c_12
        rw [hA.2.2.1] at c_12
        have hk_5 : k5 = a := z_exit (by have := hA.1; omega) h1_5 c_12
        refine lv_iload_n hx hb dX6_gift_87 rfl (lv_at hl 1 rfl) ?_
        exact z_iret hx hb hr rfl hlocks (by rw [hk_5]) dX6_gift_88
      · have c_12 : ¬ (((mR M) 2 : Int32) ≤ nI k5) := c_12
        rw [hA.2.2.1] at c_12
        have hk_5 : k5 < a := z_cont (by have := hA.1; omega) h1_5 c_12
        refine lv_aload_n hx hb dX6_gift_15 rfl (lv_at hl 2 rfl) ?_
        refine lv_iload_n hx hb dX6_gift_16 rfl (lv_at hl 0 rfl) ?_
        refine z_ro (va_runV (As := [.int (nI k5)]) (rest := []) ⟨hx, hb, hml, hown, hz⟩ (c_X6_isPoint l D cI cQ r M (nI k5) (a) (f) (hA)) (zcwV 1 hz q3_156 q3_158 qs_24 q1_7 q3_159 hd_X6_isPoint (Nat.le_of_ble_eq_true rfl) (Nat.le_of_ble_eq_true rfl)) (z_pv (ci := 6) (q := (RX6, TX6, 3)) hK hP rfl rfl) rfl rfl hl.1 rfl (lv_room (Nat.le_of_ble_eq_true rfl)) dX6_gift_17 ⟨(Nat.le_of_ble_eq_true rfl), (Nat.le_of_ble_eq_true rfl)⟩) ?_
        refine lv_if_eq (tgt := 46) hx hb dX6_gift_20 (by decide) (fun c_20 => ?_) (fun c_20 => ?_)
        · have c_20 : (iP ((mR M)) (nI k5)) = false := bI_f c_20
          refine lv_iconst (v := 0) hx hb dX6_gift_46 (by decide) ?_
          refine lv_istore (lv' := [(4, .int (0 : Int32)), (3, .int (nI k5)), (2, .int (giF (mR M) p f k5)), (0, .ref (r 0)), (1, .int (p))]) hx hb dX6_gift_47 hl (by decide) rfl (fun ls hl => ?_)
          refine lv_iload hx hb dX6_gift_49 (lv_at hl 0 rfl) ?_
          refine lv_if_eq (tgt := 79) hx hb dX6_gift_51 (by decide) (fun _ => ?_) (fun c_ => absurd (by decide) c_)
          refine lv_iload_n hx hb dX6_gift_79 rfl (lv_at hl 2 rfl) ?_
          refine lv_istore_n (lv' := [(2, .int (giF (mR M) p f k5)), (4, .int (0 : Int32)), (3, .int (nI k5)), (0, .ref (r 0)), (1, .int (p))]) hx hb dX6_gift_80 rfl hl (by decide) rfl (fun ls hl => ?_)
          refine lv_iinc (v := (nI k5) + 1) (lv' := [(3, .int ((nI k5) + 1)), (2, .int (giF (mR M) p f k5)), (4, .int (0 : Int32)), (0, .ref (r 0)), (1, .int (p))]) hx hb dX6_gift_81 hl (k := 2) rfl rfl (by decide) rfl (fun ls hl => ?_)
          refine lv_goto (tgt := 5) hx hb dX6_gift_84 (by decide) ?_
          have e5_3 : (nI (k5 + 1) : Int32) = (nI k5) + 1 := (nI_1 _).symm
          have e5_2 : (giF (mR M) p f (k5 + 1) : Int32) = giF (mR M) p f k5 := (by simp [giF, c_12, c_20])
          exact ih5 (k5 + 1) (by omega) (by omega) _ (by (try rw [e5_3]); (try rw [e5_2]); exact lv_sub hl [0, 1, 3, 4] rfl)
        · have c_20 : (iP ((mR M)) (nI k5)) = true := bI_t c_20
          refine lv_aload_n hx hb dX6_gift_23 rfl (lv_at hl 2 rfl) ?_
          refine lv_iload_n hx hb dX6_gift_24 rfl (lv_at hl 0 rfl) ?_
          refine lv_iconst (v := 4) hx hb dX6_gift_25 (by decide) ?_
          refine z_ro (va_runV (As := [.int (nI k5), .int (4 : Int32)]) (rest := []) ⟨hx, hb, hml, hown, hz⟩ (c_X6_ofPoint l D cI cQ r M (nI k5) (4 : Int32) (ix1 (kin hk_5 (by have := hA.1; omega)) (z_inC (by decide) (by decide)))) (zcwV 2 hz q3_160 q3_162 qs_25 q1_7 q3_163 hd_X6_ofPoint (Nat.le_of_ble_eq_true rfl) (Nat.le_of_ble_eq_true rfl)) (z_pv (ci := 6) (q := (RX6, TX6, 3)) hK hP rfl rfl) rfl rfl hl.1 rfl (lv_room (Nat.le_of_ble_eq_true rfl)) dX6_gift_26 ⟨(Nat.le_of_ble_eq_true rfl), (Nat.le_of_ble_eq_true rfl)⟩) ?_
          refine lv_iload_n hx hb dX6_gift_29 rfl (lv_at hl 3 rfl) ?_
          refine lv_icmp_ne (tgt := 46) hx hb dX6_gift_30 (by decide) (fun c_30 => ?_) (fun c_30 => ?_)
          · have c_30 : ¬ ((oP ((mR M)) (nI k5) (4 : Int32) : Int32) = p) := c_30
            refine lv_iconst (v := 0) hx hb dX6_gift_46 (by decide) ?_
            refine lv_istore (lv' := [(4, .int (0 : Int32)), (3, .int (nI k5)), (2, .int (giF (mR M) p f k5)), (0, .ref (r 0)), (1, .int (p))]) hx hb dX6_gift_47 hl (by decide) rfl (fun ls hl => ?_)
            refine lv_iload hx hb dX6_gift_49 (lv_at hl 0 rfl) ?_
            refine lv_if_eq (tgt := 79) hx hb dX6_gift_51 (by decide) (fun _ => ?_) (fun c_ => absurd (by decide) c_)
            refine lv_iload_n hx hb dX6_gift_79 rfl (lv_at hl 2 rfl) ?_
            refine lv_istore_n (lv' := [(2, .int (giF (mR M) p f k5)), (4, .int (0 : Int32)), (3, .int (nI k5)), (0, .ref (r 0)), (1, .int (p))]) hx hb dX6_gift_80 rfl hl (by decide) rfl (fun ls hl => ?_)
            refine lv_iinc (v := (nI k5) + 1) (lv' := [(3, .int ((nI k5) + 1)), (2, .int (giF (mR M) p f k5)), (4, .int (0 : Int32)), (0, .ref (r 0)), (1, .int (p))]) hx hb dX6_gift_81 hl (k := 2) rfl rfl (by decide) rfl (fun ls hl => ?_)
            refine lv_goto (tgt := 5) hx hb dX6_gift_84 (by decide) ?_
            have e5_3 : (nI (k5 + 1) : Int32) = (nI k5) + 1 := (nI_1 _).symm
            have e5_2 : (giF (mR M) p f (k5 + 1) : Int32) = giF (mR M) p f k5 := (by simp [giF, c_12, c_20, c_30])
            exact ih5 (k5 + 1) (by omega) (by omega) _ (by (try rw [e5_3]); (try rw [e5_2]); exact lv_sub hl [0, 1, 3, 4] rfl)
          · have c_30 : (oP ((mR M)) (nI k5) (4 : Int32) : Int32) = p := c_30
            refine lv_aload_n hx hb dX6_gift_33 rfl (lv_at hl 2 rfl) ?_
            refine lv_iload_n hx hb dX6_gift_34 rfl (lv_at hl 0 rfl) ?_
            refine z_ro (va_runV (As := [.int (nI k5)]) (rest := []) ⟨hx, hb, hml, hown, hz⟩ (c_X6_parishOf l D cI cQ r M (nI k5) (a) (f) (hA) ((kin hk_5 (by have := hA.1; omega)))) (zcwV 1 hz q3_192 q3_194 qs_31 q1_7 q3_195 hd_X6_parishOf (Nat.le_of_ble_eq_true rfl) (Nat.le_of_ble_eq_true rfl)) (z_pv (ci := 6) (q := (RX6, TX6, 3)) hK hP rfl rfl) rfl rfl hl.1 rfl (lv_room (Nat.le_of_ble_eq_true rfl)) dX6_gift_35 ⟨(Nat.le_of_ble_eq_true rfl), (Nat.le_of_ble_eq_true rfl)⟩) ?_
            refine lv_iload_n hx hb dX6_gift_38 rfl (lv_at hl 3 rfl) ?_
            refine lv_icmp_ne (tgt := 46) hx hb dX6_gift_39 (by decide) (fun c_39 => ?_) (fun c_39 => ?_)
            · have c_39 : ¬ ((mAr ((mR M)) f (nI k5) : Int32) = p) := c_39
              refine lv_iconst (v := 0) hx hb dX6_gift_46 (by decide) ?_
              refine lv_istore (lv' := [(4, .int (0 : Int32)), (3, .int (nI k5)), (2, .int (giF (mR M) p f k5)), (0, .ref (r 0)), (1, .int (p))]) hx hb dX6_gift_47 hl (by decide) rfl (fun ls hl => ?_)
              refine lv_iload hx hb dX6_gift_49 (lv_at hl 0 rfl) ?_
              refine lv_if_eq (tgt := 79) hx hb dX6_gift_51 (by decide) (fun _ => ?_) (fun c_ => absurd (by decide) c_)
              refine lv_iload_n hx hb dX6_gift_79 rfl (lv_at hl 2 rfl) ?_
              refine lv_istore_n (lv' := [(2, .int (giF (mR M) p f k5)), (4, .int (0 : Int32)), (3, .int (nI k5)), (0, .ref (r 0)), (1, .int (p))]) hx hb dX6_gift_80 rfl hl (by decide) rfl (fun ls hl => ?_)
              refine lv_iinc (v := (nI k5) + 1) (lv' := [(3, .int ((nI k5) + 1)), (2, .int (giF (mR M) p f k5)), (4, .int (0 : Int32)), (0, .ref (r 0)), (1, .int (p))]) hx hb dX6_gift_81 hl (k := 2) rfl rfl (by decide) rfl (fun ls hl => ?_)
              refine lv_goto (tgt := 5) hx hb dX6_gift_84 (by decide) ?_
              have e5_3 : (nI (k5 + 1) : Int32) = (nI k5) + 1 := (nI_1 _).symm
              have e5_2 : (giF (mR M) p f (k5 + 1) : Int32) = giF (mR M) p f k5 := (by simp [giF, c_12, c_20, c_30, c_39])
              exact ih5 (k5 + 1) (by omega) (by omega) _ (by (try rw [e5_3]); (try rw [e5_2]); exact lv_sub hl [0, 1, 3, 4] rfl)
            · have c_39 : (mAr ((mR M)) f (nI k5) : Int32) = p := c_39
              refine lv_iconst (v := 1) hx hb dX6_gift_42 (by decide) ?_
              refine lv_goto (tgt := 47) hx hb dX6_gift_43 (by decide) ?_
              refine lv_istore (lv' := [(4, .int (1 : Int32)), (3, .int (nI k5)), (2, .int (giF (mR M) p f k5)), (0, .ref (r 0)), (1, .int (p))]) hx hb dX6_gift_47 hl (by decide) rfl (fun ls hl => ?_)
              refine lv_iload hx hb dX6_gift_49 (lv_at hl 0 rfl) ?_
              refine lv_if_eq (tgt := 79) hx hb dX6_gift_51 (by decide) (fun c_ => absurd c_ (by decide)) (fun _ => ?_)
              refine lv_iload_n hx hb dX6_gift_54 rfl (lv_at hl 2 rfl) ?_
              refine lv_bipush (v := (-9)) hx hb dX6_gift_55 (by decide) ?_
              refine lv_icmp_eq (tgt := 75) hx hb dX6_gift_57 (by decide) (fun c_57 => ?_) (fun c_57 => ?_)
              · have c_57 : (giF (mR M) p f k5 : Int32) = (-9 : Int32) := c_57
                refine lv_iload_n hx hb dX6_gift_75 rfl (lv_at hl 1 rfl) ?_
                refine lv_goto (tgt := 80) hx hb dX6_gift_76 (by decide) ?_
                refine lv_istore_n (lv' := [(2, .int (nI k5)), (4, .int (1 : Int32)), (3, .int (nI k5)), (0, .ref (r 0)), (1, .int (p))]) hx hb dX6_gift_80 rfl hl (by decide) rfl (fun ls hl => ?_)
                refine lv_iinc (v := (nI k5) + 1) (lv' := [(3, .int ((nI k5) + 1)), (2, .int (nI k5)), (4, .int (1 : Int32)), (0, .ref (r 0)), (1, .int (p))]) hx hb dX6_gift_81 hl (k := 2) rfl rfl (by decide) rfl (fun ls hl => ?_)
                refine lv_goto (tgt := 5) hx hb dX6_gift_84 (by decide) ?_
                have e5_3 : (nI (k5 + 1) : Int32) = (nI k5) + 1 := (nI_1 _).symm
                have e5_2 : (giF (mR M) p f (k5 + 1) : Int32) = nI k5 := (by simp [giF, c_12, c_20, c_30, c_39, c_57])
                exact ih5 (k5 + 1) (by omega) (by omega) _ (by (try rw [e5_3]); (try rw [e5_2]); exact lv_sub hl [0, 1, 3, 4] rfl)
              · have c_57 : ¬ ((giF (mR M) p f k5 : Int32) = (-9 : Int32)) := c_57
                refine lv_aload_n hx hb dX6_gift_60 rfl (lv_at hl 3 rfl) ?_
                refine lv_iload_n hx hb dX6_gift_61 rfl (lv_at hl 1 rfl) ?_
                refine lv_iconst (v := 2) hx hb dX6_gift_62 (by decide) ?_
                refine z_ro (va_runV (As := [.int (nI k5), .int (2 : Int32)]) (rest := []) ⟨hx, hb, hml, hown, hz⟩ (c_X6_ofPoint l D cI cQ r M (nI k5) (2 : Int32) (ix1 (kin hk_5 (by have := hA.1; omega)) (z_inC (by decide) (by decide)))) (zcwV 2 hz q3_160 q3_162 qs_25 q1_7 q3_163 hd_X6_ofPoint (Nat.le_of_ble_eq_true rfl) (Nat.le_of_ble_eq_true rfl)) (z_pv (ci := 6) (q := (RX6, TX6, 3)) hK hP rfl rfl) rfl rfl hl.1 rfl (lv_room (Nat.le_of_ble_eq_true rfl)) dX6_gift_63 ⟨(Nat.le_of_ble_eq_true rfl), (Nat.le_of_ble_eq_true rfl)⟩) ?_
                refine lv_aload_n hx hb dX6_gift_66 rfl (lv_at hl 3 rfl) ?_
                refine lv_iload_n hx hb dX6_gift_67 rfl (lv_at hl 2 rfl) ?_
                refine lv_iconst (v := 2) hx hb dX6_gift_68 (by decide) ?_
                refine z_ro (va_runV (As := [.int (giF (mR M) p f k5), .int (2 : Int32)]) (rest := [.int (oP ((mR M)) (nI k5) (2 : Int32))]) ⟨hx, hb, hml, hown, hz⟩ (c_X6_ofPoint l D cI cQ r M (giF (mR M) p f k5) (2 : Int32) (ix1 ((giF_in k5 (by have := hA.1; omega)).resolve_left c_57) (z_inC (by decide) (by decide)))) (zcwV 2 hz q3_160 q3_162 qs_25 q1_7 q3_163 hd_X6_ofPoint (Nat.le_of_ble_eq_true rfl) (Nat.le_of_ble_eq_true rfl)) (z_pv (ci := 6) (q := (RX6, TX6, 3)) hK hP rfl rfl) rfl rfl hl.1 rfl (lv_room (Nat.le_of_ble_eq_true rfl)) dX6_gift_69 ⟨(Nat.le_of_ble_eq_true rfl), (Nat.le_of_ble_eq_true rfl)⟩) ?_
                refine lv_icmp_ge (tgt := 79) hx hb dX6_gift_72 (by decide) (fun c_72 => ?_) (fun c_72 => ?_)
                · have c_72 : (oP ((mR M)) (giF (mR M) p f k5) (2 : Int32) : Int32) ≤ oP ((mR M)) (nI k5) (2 : Int32) := c_72
                  refine lv_iload_n hx hb dX6_gift_79 rfl (lv_at hl 2 rfl) ?_
                  refine lv_istore_n (lv' := [(2, .int (giF (mR M) p f k5)), (4, .int (1 : Int32)), (3, .int (nI k5)), (0, .ref (r 0)), (1, .int (p))]) hx hb dX6_gift_80 rfl hl (by decide) rfl (fun ls hl => ?_)
                  refine lv_iinc (v := (nI k5) + 1) (lv' := [(3, .int ((nI k5) + 1)), (2, .int (giF (mR M) p f k5)), (4, .int (1 : Int32)), (0, .ref (r 0)), (1, .int (p))]) hx hb dX6_gift_81 hl (k := 2) rfl rfl (by decide) rfl (fun ls hl => ?_)
                  refine lv_goto (tgt := 5) hx hb dX6_gift_84 (by decide) ?_
                  have e5_3 : (nI (k5 + 1) : Int32) = (nI k5) + 1 := (nI_1 _).symm
                  have e5_2 : (giF (mR M) p f (k5 + 1) : Int32) = giF (mR M) p f k5 := (by simp [giF, c_12, c_20, c_30, c_39, c_57, c_72])
                  exact ih5 (k5 + 1) (by omega) (by omega) _ (by (try rw [e5_3]); (try rw [e5_2]); exact lv_sub hl [0, 1, 3, 4] rfl)
                · have c_72 : ¬ ((oP ((mR M)) (giF (mR M) p f k5) (2 : Int32) : Int32) ≤ oP ((mR M)) (nI k5) (2 : Int32)) := c_72
                  refine lv_iload_n hx hb dX6_gift_75 rfl (lv_at hl 1 rfl) ?_
                  refine lv_goto (tgt := 80) hx hb dX6_gift_76 (by decide) ?_
                  refine lv_istore_n (lv' := [(2, .int (nI k5)), (4, .int (1 : Int32)), (3, .int (nI k5)), (0, .ref (r 0)), (1, .int (p))]) hx hb dX6_gift_80 rfl hl (by decide) rfl (fun ls hl => ?_)
                  refine lv_iinc (v := (nI k5) + 1) (lv' := [(3, .int ((nI k5) + 1)), (2, .int (nI k5)), (4, .int (1 : Int32)), (0, .ref (r 0)), (1, .int (p))]) hx hb dX6_gift_81 hl (k := 2) rfl rfl (by decide) rfl (fun ls hl => ?_)
                  refine lv_goto (tgt := 5) hx hb dX6_gift_84 (by decide) ?_
                  have e5_3 : (nI (k5 + 1) : Int32) = (nI k5) + 1 := (nI_1 _).symm
                  have e5_2 : (giF (mR M) p f (k5 + 1) : Int32) = nI k5 := (by simp [giF, c_12, c_20, c_30, c_39, c_57, c_72])
                  exact ih5 (k5 + 1) (by omega) (by omega) _ (by (try rw [e5_3]); (try rw [e5_2]); exact lv_sub hl [0, 1, 3, 4] rfl)
  have e5_3 : (nI 0 : Int32) = (0 : Int32) := rfl
  have e5_2 : (giF (mR M) p f 0 : Int32) = (-9 : Int32) := (by rfl)
  exact L5 (a + 1) (0) (Nat.zero_le _) (by omega) _ (by (try rw [e5_3]); (try rw [e5_2]); exact lv_sub hl [0, 1, 2, 3] rfl)
set_option maxHeartbeats 1000000 in
set_option maxRecDepth 100000 in
theorem c_X6_add (l : Launch) (D : va_G) (cI cQ : ClassId) (r : Nat → Nat) (M : MS) (x y we : Int32) (a : Nat) (f : Nat) (hA : mOk (mR M) a f) (n : Nat) (hn : n ≤ 5) (hK5 : mK M = nI n) (g1 : FI) (hg1 : g1 = if maOk (mR M) x y we then maNew (mR M) (mK M) a f x y we else mR M) (g2 : Int32) (hg2 : g2 = if maOk (mR M) x y we then recK (mK M) else mK M) : zWR l yX6_add (Cond.code yX6_add cX6_add 5 (some .int) :: zT) 7 171 [.ref (r 0), .int x, .int y, .int we] D cI cQ (zMod cI r M) (some (.int (maRet (mR M) x y we))) (zMod cI r (uK (uR M g1) g2)) := by
  refine zWR.of (cc := cX6_add) (maxL := 5) (ret := some .int) (by decide +kernel) rfl (Nat.le_of_ble_eq_true rfl) ?_
  intro pg e s mi args below meth cd hx hb hr hts hown hlocks hml hP hD hS hK ls hl
  have hz : ∀ w ∈ zT, w.before args s = true := fun w h => hts w (List.mem_cons_of_mem _ h)
  have hl : lv_has ls 5 [(0, .ref (r 0)), (1, .int (x)), (2, .int (y)), (3, .int (we))] := hl
  refine lv_iload_n hx hb dX6_add_0 rfl (lv_at hl 1 rfl) ?_
  refine lv_iload_n hx hb dX6_add_1 rfl (lv_at hl 2 rfl) ?_
  refine z_ro (va_runS (As := [.int (x), .int (y)]) (rest := []) ⟨hx, hb, hml, hown, hz⟩ (c_X6_isPlace l D cI cQ x y) (zcwS 2 hz q3_102 q3_103 q1_7 q3_104 hd_X6_isPlace (Nat.le_of_ble_eq_true rfl) (Nat.le_of_ble_eq_true rfl)) (z_ps hK z_nil) rfl rfl hl.1 rfl (lv_room (Nat.le_of_ble_eq_true rfl)) dX6_add_2 ⟨(Nat.le_of_ble_eq_true rfl), (Nat.le_of_ble_eq_true rfl)⟩) ?_
  refine lv_if_eq (tgt := 18) hx hb dX6_add_5 (by decide) (fun c_5 => ?_) (fun c_5 => ?_)
  · have c_5 : (onMap x y) = false := bI_f c_5
    refine lv_iconst (v := (-1)) hx hb dX6_add_18 (by decide) ?_
    exact z_wiret hx hb hr rfl hlocks hP hS (by (try simp only [hg1, hg2]) <;> (simp [maOk, maRet, maNew, maR, c_5])) (congrArg (fun T => zMod cI r T) (show M = uK (uR M g1) g2 from by (try simp only [hg1, hg2]) <;> (first | (simp [maOk, maRet, maNew, maR, c_5]; done) | (simp [maOk, maRet, maNew, maR, c_5] <;> rfl) | rfl))) dX6_add_19
  · have c_5 : (onMap x y) = true := bI_t c_5
    refine lv_iload_n hx hb dX6_add_8 rfl (lv_at hl 3 rfl) ?_
    refine lv_iconst (v := 1) hx hb dX6_add_9 (by decide) ?_
    refine lv_bipush (v := 100) hx hb dX6_add_10 (by decide) ?_
    refine z_ro (va_runS (As := [.int (we), .int (1 : Int32), .int (100 : Int32)]) (rest := []) ⟨hx, hb, hml, hown, hz⟩ (c_X6_in l D cI cQ we (1 : Int32) (100 : Int32)) (zcwS 3 hz q3_105 q3_106 q1_7 q3_107 hd_X6_in (Nat.le_of_ble_eq_true rfl) (Nat.le_of_ble_eq_true rfl)) (z_ps hK z_nil) rfl rfl hl.1 rfl (lv_room (Nat.le_of_ble_eq_true rfl)) dX6_add_12 ⟨(Nat.le_of_ble_eq_true rfl), (Nat.le_of_ble_eq_true rfl)⟩) ?_
    refine lv_if_ne (tgt := 20) hx hb dX6_add_15 (by decide) (fun c_15 => ?_) (fun c_15 => ?_)
    · have c_15 : (btw we (1 : Int32) (100 : Int32)) = true := bI_t c_15
      refine lv_aload_n hx hb dX6_add_20 rfl (lv_at hl 0 rfl) ?_
      refine va_get (D := D) (ci := 6) (v := .ref (r 1)) (C := RX6) (T := TX6) (N := 3) hx hb hz inZ6 hown hK.1 hP 0 rfl rfl 0 (by decide) (hz _ q3_88) (fun _ h9 => h9) rfl dX6_add_21 ?_
      refine lv_iconst (v := 2) hx hb dX6_add_24 (by decide) ?_
      refine va_iald (f := mR M) hx hb hK.1 hP 1 0 rfl rfl (i := (2 : Int32)) (z_inC (by decide) (by decide)) dX6_add_25 ?_
      refine lv_bipush (v := 40) hx hb dX6_add_26 (by decide) ?_
      refine lv_icmp_ne (tgt := 34) hx hb dX6_add_28 (by decide) (fun c_28 => ?_) (fun c_28 => ?_)
      · have c_28 : ¬ (((mR M) 2 : Int32) = (40 : Int32)) := c_28
        refine lv_aload_n hx hb dX6_add_34 rfl (lv_at hl 0 rfl) ?_
        obtain ⟨g_1, hg_1⟩ : ∃ z : FI, z = recR ((mR M)) ((mK M)) := ⟨_, rfl⟩
        obtain ⟨g_2, hg_2⟩ : ∃ z : Int32, z = recK ((mK M)) := ⟨_, rfl⟩
        refine z_wv (X' := zMod cI r (uK (uR M g_1) g_2)) (va_runV (As := []) (rest := []) ⟨hx, hb, hml, hown, hz⟩ (c_X6_records l D cI cQ r M (n) (hn) (hK5) g_1 hg_1 g_2 hg_2) (zcwV 0 hz q3_108 q3_110 qs_12 q1_7 q3_111 hd_X6_records (Nat.le_of_ble_eq_true rfl) (Nat.le_of_ble_eq_true rfl)) (z_pvw (ci := 6) (q := (RX6, TX6, 3)) hK hP hD rfl rfl) rfl rfl hl.1 rfl (lv_room (Nat.le_of_ble_eq_true rfl)) dX6_add_35 ⟨(Nat.le_of_ble_eq_true rfl), (Nat.le_of_ble_eq_true rfl)⟩) hP hD hS [0, 1, 2] rfl rfl rfl (fun H locs hP hD hS => ?_)
        have hR5 : mOk g_1 a f := by rw [hg_1]; exact mOk_rec hA hn hK5
        have hi5 : vp_in (g_1 2) 100 := by rw [hR5.2.2.1]; exact vp_in_nI (by have := hA.1; omega) (by decide)
        have ha4 : a < 40 := a40 hA c_28
        refine lv_aload_n hx hb dX6_add_38 rfl (lv_at hl 0 rfl) ?_
        refine va_get (D := D) (ci := 6) (v := .ref (r 1)) (C := RX6) (T := TX6) (N := 3) hx hb hz inZ6 hown hK.1 hP 0 rfl rfl 0 (by decide) (hz _ q3_88) (fun _ h9 => h9) rfl dX6_add_39 ?_
        refine lv_iconst (v := 2) hx hb dX6_add_42 (by decide) ?_
        refine va_iald (f := g_1) hx hb hK.1 hP 1 0 rfl rfl (i := (2 : Int32)) (z_inC (by decide) (by decide)) dX6_add_43 ?_
        refine lv_istore (lv' := [(4, .int (g_1 2)), (0, .ref (r 0)), (1, .int (x)), (2, .int (y)), (3, .int (we))]) hx hb dX6_add_44 hl (by decide) rfl (fun ls hl => ?_)
        refine lv_aload_n hx hb dX6_add_46 rfl (lv_at hl 1 rfl) ?_
        refine va_get (D := D) (ci := 6) (v := .ref (r 1)) (C := RX6) (T := TX6) (N := 3) hx hb hz inZ6 hown hK.1 hP 0 rfl rfl 0 (by decide) (hz _ q3_88) (fun _ h9 => h9) rfl dX6_add_47 ?_
        refine lv_iconst (v := 2) hx hb dX6_add_50 (by decide) ?_
        refine lv_dup2_11 hx hb dX6_add_51 rfl rfl ?_
        refine va_iald (f := g_1) hx hb hK.1 hP 1 0 rfl rfl (i := (2 : Int32)) (z_inC (by decide) (by decide)) dX6_add_52 ?_
        refine lv_iconst (v := 1) hx hb dX6_add_53 (by decide) ?_
        refine lv_iadd hx hb dX6_add_54 ?_
        refine va_iast hx hb hK.1 hP hD hS 1 0 rfl rfl (i := (2 : Int32)) (z_inC (by decide) (by decide)) dX6_add_55 (fun H locs hP hD hS => ?_)
        have hP : va_P D vwCl (zMod cI r (uR (uK (uR M g_1) g_2) (upd (g_1) 2 ((g_1 2) + (1 : Int32))))) H := hP
        have hD : va_D (zA (zMod cI r M)) (zMod cI r (uR (uK (uR M g_1) g_2) (upd (g_1) 2 ((g_1 2) + (1 : Int32))))) := hD
        refine lv_aload_n hx hb dX6_add_56 rfl (lv_at hl 1 rfl) ?_
        refine va_get (D := D) (ci := 6) (v := .ref (r 1)) (C := RX6) (T := TX6) (N := 3) hx hb hz inZ6 hown hK.1 hP 0 rfl rfl 0 (by decide) (hz _ q3_88) (fun _ h9 => h9) rfl dX6_add_57 ?_
        refine lv_iconst (v := 4) hx hb dX6_add_60 (by decide) ?_
        refine lv_iconst (v := 5) hx hb dX6_add_61 (by decide) ?_
        refine lv_iload hx hb dX6_add_62 (lv_at hl 0 rfl) ?_
        refine lv_imul hx hb dX6_add_64 ?_
        refine lv_iadd hx hb dX6_add_65 ?_
        refine lv_iconst (v := 0) hx hb dX6_add_66 (by decide) ?_
        refine lv_iadd hx hb dX6_add_67 ?_
        refine lv_iload_n hx hb dX6_add_68 rfl (lv_at hl 2 rfl) ?_
        refine va_iast hx hb hK.1 hP hD hS 1 0 rfl rfl (i := ((4 : Int32) + ((5 : Int32) * (g_1 2))) + (0 : Int32)) (ix1 hi5 (z_inC (by decide) (by decide))) dX6_add_69 (fun H locs hP hD hS => ?_)
        have hP : va_P D vwCl (zMod cI r (uR (uK (uR M g_1) g_2) (upd (upd (g_1) 2 ((g_1 2) + (1 : Int32))) (((4 : Int32) + ((5 : Int32) * (g_1 2))) + (0 : Int32)).toNatClampNeg x))) H := hP
        have hD : va_D (zA (zMod cI r M)) (zMod cI r (uR (uK (uR M g_1) g_2) (upd (upd (g_1) 2 ((g_1 2) + (1 : Int32))) (((4 : Int32) + ((5 : Int32) * (g_1 2))) + (0 : Int32)).toNatClampNeg x))) := hD
        refine lv_aload_n hx hb dX6_add_70 rfl (lv_at hl 1 rfl) ?_
        refine va_get (D := D) (ci := 6) (v := .ref (r 1)) (C := RX6) (T := TX6) (N := 3) hx hb hz inZ6 hown hK.1 hP 0 rfl rfl 0 (by decide) (hz _ q3_88) (fun _ h9 => h9) rfl dX6_add_71 ?_
        refine lv_iconst (v := 4) hx hb dX6_add_74 (by decide) ?_
        refine lv_iconst (v := 5) hx hb dX6_add_75 (by decide) ?_
        refine lv_iload hx hb dX6_add_76 (lv_at hl 0 rfl) ?_
        refine lv_imul hx hb dX6_add_78 ?_
        refine lv_iadd hx hb dX6_add_79 ?_
        refine lv_iconst (v := 1) hx hb dX6_add_80 (by decide) ?_
        refine lv_iadd hx hb dX6_add_81 ?_
        refine lv_iload_n hx hb dX6_add_82 rfl (lv_at hl 3 rfl) ?_
        refine va_iast hx hb hK.1 hP hD hS 1 0 rfl rfl (i := ((4 : Int32) + ((5 : Int32) * (g_1 2))) + (1 : Int32)) (ix1 hi5 (z_inC (by decide) (by decide))) dX6_add_83 (fun H locs hP hD hS => ?_)
        have hP : va_P D vwCl (zMod cI r (uR (uK (uR M g_1) g_2) (upd (upd (upd (g_1) 2 ((g_1 2) + (1 : Int32))) (((4 : Int32) + ((5 : Int32) * (g_1 2))) + (0 : Int32)).toNatClampNeg x) (((4 : Int32) + ((5 : Int32) * (g_1 2))) + (1 : Int32)).toNatClampNeg y))) H := hP
        have hD : va_D (zA (zMod cI r M)) (zMod cI r (uR (uK (uR M g_1) g_2) (upd (upd (upd (g_1) 2 ((g_1 2) + (1 : Int32))) (((4 : Int32) + ((5 : Int32) * (g_1 2))) + (0 : Int32)).toNatClampNeg x) (((4 : Int32) + ((5 : Int32) * (g_1 2))) + (1 : Int32)).toNatClampNeg y))) := hD
        refine lv_aload_n hx hb dX6_add_84 rfl (lv_at hl 1 rfl) ?_
        refine va_get (D := D) (ci := 6) (v := .ref (r 1)) (C := RX6) (T := TX6) (N := 3) hx hb hz inZ6 hown hK.1 hP 0 rfl rfl 0 (by decide) (hz _ q3_88) (fun _ h9 => h9) rfl dX6_add_85 ?_
        refine lv_iconst (v := 4) hx hb dX6_add_88 (by decide) ?_
        refine lv_iconst (v := 5) hx hb dX6_add_89 (by decide) ?_
        refine lv_iload hx hb dX6_add_90 (lv_at hl 0 rfl) ?_
        refine lv_imul hx hb dX6_add_92 ?_
        refine lv_iadd hx hb dX6_add_93 ?_
        refine lv_iconst (v := 2) hx hb dX6_add_94 (by decide) ?_
        refine lv_iadd hx hb dX6_add_95 ?_
        refine lv_iload_n hx hb dX6_add_96 rfl (lv_at hl 4 rfl) ?_
        refine va_iast hx hb hK.1 hP hD hS 1 0 rfl rfl (i := ((4 : Int32) + ((5 : Int32) * (g_1 2))) + (2 : Int32)) (ix1 hi5 (z_inC (by decide) (by decide))) dX6_add_97 (fun H locs hP hD hS => ?_)
        have hP : va_P D vwCl (zMod cI r (uR (uK (uR M g_1) g_2) (upd (upd (upd (upd (g_1) 2 ((g_1 2) + (1 : Int32))) (((4 : Int32) + ((5 : Int32) * (g_1 2))) + (0 : Int32)).toNatClampNeg x) (((4 : Int32) + ((5 : Int32) * (g_1 2))) + (1 : Int32)).toNatClampNeg y) (((4 : Int32) + ((5 : Int32) * (g_1 2))) + (2 : Int32)).toNatClampNeg we))) H := hP
        have hD : va_D (zA (zMod cI r M)) (zMod cI r (uR (uK (uR M g_1) g_2) (upd (upd (upd (upd (g_1) 2 ((g_1 2) + (1 : Int32))) (((4 : Int32) + ((5 : Int32) * (g_1 2))) + (0 : Int32)).toNatClampNeg x) (((4 : Int32) + ((5 : Int32) * (g_1 2))) + (1 : Int32)).toNatClampNeg y) (((4 : Int32) + ((5 : Int32) * (g_1 2))) + (2 : Int32)).toNatClampNeg we))) := hD
        refine lv_aload_n hx hb dX6_add_98 rfl (lv_at hl 1 rfl) ?_
        refine va_get (D := D) (ci := 6) (v := .ref (r 1)) (C := RX6) (T := TX6) (N := 3) hx hb hz inZ6 hown hK.1 hP 0 rfl rfl 0 (by decide) (hz _ q3_88) (fun _ h9 => h9) rfl dX6_add_99 ?_
        refine lv_iconst (v := 4) hx hb dX6_add_102 (by decide) ?_
        refine lv_iconst (v := 5) hx hb dX6_add_103 (by decide) ?_
        refine lv_iload hx hb dX6_add_104 (lv_at hl 0 rfl) ?_
        refine lv_imul hx hb dX6_add_106 ?_
        refine lv_iadd hx hb dX6_add_107 ?_
        refine lv_iconst (v := 3) hx hb dX6_add_108 (by decide) ?_
        refine lv_iadd hx hb dX6_add_109 ?_
        refine lv_iconst (v := 1) hx hb dX6_add_110 (by decide) ?_
        refine va_iast hx hb hK.1 hP hD hS 1 0 rfl rfl (i := ((4 : Int32) + ((5 : Int32) * (g_1 2))) + (3 : Int32)) (ix1 hi5 (z_inC (by decide) (by decide))) dX6_add_111 (fun H locs hP hD hS => ?_)
        have hP : va_P D vwCl (zMod cI r (uR (uK (uR M g_1) g_2) (upd (upd (upd (upd (upd (g_1) 2 ((g_1 2) + (1 : Int32))) (((4 : Int32) + ((5 : Int32) * (g_1 2))) + (0 : Int32)).toNatClampNeg x) (((4 : Int32) + ((5 : Int32) * (g_1 2))) + (1 : Int32)).toNatClampNeg y) (((4 : Int32) + ((5 : Int32) * (g_1 2))) + (2 : Int32)).toNatClampNeg we) (((4 : Int32) + ((5 : Int32) * (g_1 2))) + (3 : Int32)).toNatClampNeg (1 : Int32)))) H := hP
        have hD : va_D (zA (zMod cI r M)) (zMod cI r (uR (uK (uR M g_1) g_2) (upd (upd (upd (upd (upd (g_1) 2 ((g_1 2) + (1 : Int32))) (((4 : Int32) + ((5 : Int32) * (g_1 2))) + (0 : Int32)).toNatClampNeg x) (((4 : Int32) + ((5 : Int32) * (g_1 2))) + (1 : Int32)).toNatClampNeg y) (((4 : Int32) + ((5 : Int32) * (g_1 2))) + (2 : Int32)).toNatClampNeg we) (((4 : Int32) + ((5 : Int32) * (g_1 2))) + (3 : Int32)).toNatClampNeg (1 : Int32)))) := hD
        obtain ⟨g_3, hg_3⟩ : ∃ z : FI, z = maP g_1 (g_1 2) x y we := ⟨_, rfl⟩
        have hP : va_P D vwCl (zMod cI r (uR (uK (uR M g_1) g_2) g_3)) H := by rw [hg_3]; exact hP
        have hD : va_D (zA (zMod cI r M)) (zMod cI r (uR (uK (uR M g_1) g_2) g_3)) := by rw [hg_3]; exact hD
        have hP5 : mOk g_3 (a + 1) f := by rw [hg_3]; exact mOk_maP hR5 hR5.2.2.1 ha4
        refine lv_aload_n hx hb dX6_add_112 rfl (lv_at hl 1 rfl) ?_
        refine lv_iload hx hb dX6_add_113 (lv_at hl 0 rfl) ?_
        refine lv_aload_n hx hb dX6_add_115 rfl (lv_at hl 1 rfl) ?_
        refine lv_iload_n hx hb dX6_add_116 rfl (lv_at hl 2 rfl) ?_
        refine lv_iload_n hx hb dX6_add_117 rfl (lv_at hl 3 rfl) ?_
        refine z_ro (va_runV (As := [.int (x), .int (y)]) (rest := [.int (g_1 2), .ref (r 0)]) ⟨hx, hb, hml, hown, hz⟩ (c_X6_parishAt l D cI cQ r (uR (uK (uR M g_1) g_2) g_3) x y (a + 1) (f) (hP5)) (zcwV 2 hz q3_116 q3_118 qs_14 q1_7 q3_119 hd_X6_parishAt (Nat.le_of_ble_eq_true rfl) (Nat.le_of_ble_eq_true rfl)) (z_pv (ci := 6) (q := (RX6, TX6, 3)) hK hP rfl rfl) rfl rfl hl.1 rfl (lv_room (Nat.le_of_ble_eq_true rfl)) dX6_add_118 ⟨(Nat.le_of_ble_eq_true rfl), (Nat.le_of_ble_eq_true rfl)⟩) ?_
        obtain ⟨g_4, hg_4⟩ : ∃ z : FI, z = sLo (g_3) (g_1 2) (mAt (g_3) f x y) := ⟨_, rfl⟩
        refine z_wv (X' := zMod cI r (uR (uK (uR M g_1) g_2) g_4)) (va_runV (As := [.int (g_1 2), .int (mAt (g_3) f x y)]) (rest := []) ⟨hx, hb, hml, hown, hz⟩ (c_X6_setLord l D cI cQ r (uR (uK (uR M g_1) g_2) g_3) (g_1 2) (mAt (g_3) f x y) (hi5) g_4 hg_4) (zcwV 2 hz q3_132 q3_134 qs_18 q1_7 q3_135 hd_X6_setLord (Nat.le_of_ble_eq_true rfl) (Nat.le_of_ble_eq_true rfl)) (z_pvw (ci := 6) (q := (RX6, TX6, 3)) hK hP hD rfl rfl) rfl rfl hl.1 rfl (lv_room (Nat.le_of_ble_eq_true rfl)) dX6_add_121 ⟨(Nat.le_of_ble_eq_true rfl), (Nat.le_of_ble_eq_true rfl)⟩) hP hD hS [0, 1, 2] rfl rfl rfl (fun H locs hP hD hS => ?_)
        refine lv_aload_n hx hb dX6_add_124 rfl (lv_at hl 1 rfl) ?_
        obtain ⟨g_5, hg_5⟩ : ∃ z : FI, z = stG (a + 1) 40 (g_4) := ⟨_, rfl⟩
        refine z_wv (X' := zMod cI r (uR (uK (uR M g_1) g_2) g_5)) (va_runV (As := []) (rest := []) ⟨hx, hb, hml, hown, hz⟩ (c_X6_settles l D cI cQ r (uR (uK (uR M g_1) g_2) g_4) (a + 1) (f) (by rw [hg_4]; exact mOk_sLo hP5 hi5) g_5 hg_5) (zcwV 0 hz q3_136 q3_138 qs_19 q1_7 q3_139 hd_X6_settles (Nat.le_of_ble_eq_true rfl) (Nat.le_of_ble_eq_true rfl)) (z_pvw (ci := 6) (q := (RX6, TX6, 3)) hK hP hD rfl rfl) rfl rfl hl.1 rfl (lv_room (Nat.le_of_ble_eq_true rfl)) dX6_add_125 ⟨(Nat.le_of_ble_eq_true rfl), (Nat.le_of_ble_eq_true rfl)⟩) hP hD hS [0, 1, 2] rfl rfl rfl (fun H locs hP hD hS => ?_)
        refine lv_iload hx hb dX6_add_128 (lv_at hl 0 rfl) ?_
        exact z_wiret hx hb hr rfl hlocks hP hS (by (try simp only [hg_5, hg_4, hg_3, hg_2, hg_1, hg1, hg2]) <;> (rw [recR_lo hn hK5 (by omega)]; simp [maRet, c_5, c_15, c_28])) (congrArg (fun T => zMod cI r T) (show uR (uK (uR M g_1) g_2) g_5 = uK (uR M g1) g2 from by (try simp only [hg_5, hg_4, hg_3, hg_2, hg_1, hg1, hg2]) <;> (first | (simp [maOk, maRet, maNew, maR, c_5, c_15, c_28]; done) | (simp [maOk, maRet, maNew, maR, c_5, c_15, c_28] <;> rfl) | rfl))) dX6_add_130
      · have c_28 : ((mR M) 2 : Int32) = (40 : Int32) := c_28
        refine lv_bipush (v := (-3)) hx hb dX6_add_31 (by decide) ?_
        exact z_wiret hx hb hr rfl hlocks hP hS (by (try simp only [hg1, hg2]) <;> (simp [maOk, maRet, maNew, maR, c_5, c_15, c_28])) (congrArg (fun T => zMod cI r T) (show M = uK (uR M g1) g2 from by (try simp only [hg1, hg2]) <;> (first | (simp [maOk, maRet, maNew, maR, c_5, c_15, c_28]; done) | (simp [maOk, maRet, maNew, maR, c_5, c_15, c_28] <;> rfl) | rfl))) dX6_add_33
    · have c_15 : (btw we (1 : Int32) (100 : Int32)) = false := bI_f c_15
      refine lv_iconst (v := (-1)) hx hb dX6_add_18 (by decide) ?_
      exact z_wiret hx hb hr rfl hlocks hP hS (by (try simp only [hg1, hg2]) <;> (simp [maOk, maRet, maNew, maR, c_5, c_15])) (congrArg (fun T => zMod cI r T) (show M = uK (uR M g1) g2 from by (try simp only [hg1, hg2]) <;> (first | (simp [maOk, maRet, maNew, maR, c_5, c_15]; done) | (simp [maOk, maRet, maNew, maR, c_5, c_15] <;> rfl) | rfl))) dX6_add_19
set_option maxHeartbeats 1000000 in
set_option maxRecDepth 100000 in
theorem c_X6_remove (l : Launch) (D : va_G) (cI cQ : ClassId) (r : Nat → Nat) (M : MS) (i : Int32) (a : Nat) (f : Nat) (hA : mOk (mR M) a f) (n : Nat) (hn : n ≤ 5) (hK5 : mK M = nI n) (g1 : FI) (hg1 : g1 = if iP (mR M) i then mrNew (mR M) (mK M) a i else mR M) (g2 : Int32) (hg2 : g2 = if iP (mR M) i then recK (mK M) else mK M) : zWR l yX6_remove (Cond.code yX6_remove cX6_remove 2 (some .int) :: zT) 7 171 [.ref (r 0), .int i] D cI cQ (zMod cI r M) (some (.int (mrRet (mR M) (mK M) a i))) (zMod cI r (uK (uR M g1) g2)) := by
  refine zWR.of (cc := cX6_remove) (maxL := 2) (ret := some .int) (by decide +kernel) rfl (Nat.le_of_ble_eq_true rfl) ?_
  intro pg e s mi args below meth cd hx hb hr hts hown hlocks hml hP hD hS hK ls hl
  have hz : ∀ w ∈ zT, w.before args s = true := fun w h => hts w (List.mem_cons_of_mem _ h)
  have hl : lv_has ls 2 [(0, .ref (r 0)), (1, .int (i))] := hl
  refine lv_aload_n hx hb dX6_remove_0 rfl (lv_at hl 0 rfl) ?_
  refine lv_iload_n hx hb dX6_remove_1 rfl (lv_at hl 1 rfl) ?_
  refine z_ro (va_runV (As := [.int (i)]) (rest := []) ⟨hx, hb, hml, hown, hz⟩ (c_X6_isPoint l D cI cQ r M i (a) (f) (hA)) (zcwV 1 hz q3_156 q3_158 qs_24 q1_7 q3_159 hd_X6_isPoint (Nat.le_of_ble_eq_true rfl) (Nat.le_of_ble_eq_true rfl)) (z_pv (ci := 6) (q := (RX6, TX6, 3)) hK hP rfl rfl) rfl rfl hl.1 rfl (lv_room (Nat.le_of_ble_eq_true rfl)) dX6_remove_2 ⟨(Nat.le_of_ble_eq_true rfl), (Nat.le_of_ble_eq_true rfl)⟩) ?_
  refine lv_if_ne (tgt := 10) hx hb dX6_remove_5 (by decide) (fun c_5 => ?_) (fun c_5 => ?_)
  · have c_5 : (iP ((mR M)) i) = true := bI_t c_5
    refine lv_aload_n hx hb dX6_remove_10 rfl (lv_at hl 0 rfl) ?_
    obtain ⟨g_1, hg_1⟩ : ∃ z : FI, z = recR ((mR M)) ((mK M)) := ⟨_, rfl⟩
    obtain ⟨g_2, hg_2⟩ : ∃ z : Int32, z = recK ((mK M)) := ⟨_, rfl⟩
    refine z_wv (X' := zMod cI r (uK (uR M g_1) g_2)) (va_runV (As := []) (rest := []) ⟨hx, hb, hml, hown, hz⟩ (c_X6_records l D cI cQ r M (n) (hn) (hK5) g_1 hg_1 g_2 hg_2) (zcwV 0 hz q3_108 q3_110 qs_12 q1_7 q3_111 hd_X6_records (Nat.le_of_ble_eq_true rfl) (Nat.le_of_ble_eq_true rfl)) (z_pvw (ci := 6) (q := (RX6, TX6, 3)) hK hP hD rfl rfl) rfl rfl hl.1 rfl (lv_room (Nat.le_of_ble_eq_true rfl)) dX6_remove_11 ⟨(Nat.le_of_ble_eq_true rfl), (Nat.le_of_ble_eq_true rfl)⟩) hP hD hS [0, 1, 2] rfl rfl rfl (fun H locs hP hD hS => ?_)
    have hR5 : mOk g_1 a f := by rw [hg_1]; exact mOk_rec hA hn hK5
    have hi5 : vp_in i 100 := iP_in hA c_5
    refine lv_aload_n hx hb dX6_remove_14 rfl (lv_at hl 0 rfl) ?_
    refine va_get (D := D) (ci := 6) (v := .ref (r 1)) (C := RX6) (T := TX6) (N := 3) hx hb hz inZ6 hown hK.1 hP 0 rfl rfl 0 (by decide) (hz _ q3_88) (fun _ h9 => h9) rfl dX6_remove_15 ?_
    refine lv_iconst (v := 4) hx hb dX6_remove_18 (by decide) ?_
    refine lv_iconst (v := 5) hx hb dX6_remove_19 (by decide) ?_
    refine lv_iload_n hx hb dX6_remove_20 rfl (lv_at hl 1 rfl) ?_
    refine lv_imul hx hb dX6_remove_21 ?_
    refine lv_iadd hx hb dX6_remove_22 ?_
    refine lv_iconst (v := 3) hx hb dX6_remove_23 (by decide) ?_
    refine lv_iadd hx hb dX6_remove_24 ?_
    refine lv_iconst (v := 0) hx hb dX6_remove_25 (by decide) ?_
    refine va_iast hx hb hK.1 hP hD hS 1 0 rfl rfl (i := ((4 : Int32) + ((5 : Int32) * i)) + (3 : Int32)) (ix1 hi5 (z_inC (by decide) (by decide))) dX6_remove_26 (fun H locs hP hD hS => ?_)
    have hP : va_P D vwCl (zMod cI r (uR (uK (uR M g_1) g_2) (upd (g_1) (((4 : Int32) + ((5 : Int32) * i)) + (3 : Int32)).toNatClampNeg (0 : Int32)))) H := hP
    have hD : va_D (zA (zMod cI r M)) (zMod cI r (uR (uK (uR M g_1) g_2) (upd (g_1) (((4 : Int32) + ((5 : Int32) * i)) + (3 : Int32)).toNatClampNeg (0 : Int32)))) := hD
    obtain ⟨g_3, hg_3⟩ : ∃ z : FI, z = upd g_1 (4 + 5 * i + 3).toNatClampNeg 0 := ⟨_, rfl⟩
    have hP : va_P D vwCl (zMod cI r (uR (uK (uR M g_1) g_2) g_3)) H := by rw [hg_3]; exact hP
    have hD : va_D (zA (zMod cI r M)) (zMod cI r (uR (uK (uR M g_1) g_2) g_3)) := by rw [hg_3]; exact hD
    have hR6 : mOk g_3 a f := by rw [hg_3]; exact mOk_upd hR5 (ix1n hi5 (z_inC (by decide) (by decide)))
    refine lv_aload_n hx hb dX6_remove_27 rfl (lv_at hl 0 rfl) ?_
    obtain ⟨g_4, hg_4⟩ : ∃ z : FI, z = stG a 40 (g_3) := ⟨_, rfl⟩
    refine z_wv (X' := zMod cI r (uR (uK (uR M g_1) g_2) g_4)) (va_runV (As := []) (rest := []) ⟨hx, hb, hml, hown, hz⟩ (c_X6_settles l D cI cQ r (uR (uK (uR M g_1) g_2) g_3) (a) (f) (hR6) g_4 hg_4) (zcwV 0 hz q3_136 q3_138 qs_19 q1_7 q3_139 hd_X6_settles (Nat.le_of_ble_eq_true rfl) (Nat.le_of_ble_eq_true rfl)) (z_pvw (ci := 6) (q := (RX6, TX6, 3)) hK hP hD rfl rfl) rfl rfl hl.1 rfl (lv_room (Nat.le_of_ble_eq_true rfl)) dX6_remove_28 ⟨(Nat.le_of_ble_eq_true rfl), (Nat.le_of_ble_eq_true rfl)⟩) hP hD hS [0, 1, 2] rfl rfl rfl (fun H locs hP hD hS => ?_)
    have hR7 : mOk g_4 a (nFn g_4) := by rw [hg_4]; exact stG_nF hR6
    refine lv_aload_n hx hb dX6_remove_31 rfl (lv_at hl 0 rfl) ?_
    refine z_ro (va_runV (As := []) (rest := []) ⟨hx, hb, hml, hown, hz⟩ (c_X6_allPoints l D cI cQ r (uR (uK (uR M g_1) g_2) g_4) (a) (nFn g_4) (hR7)) (zcwV 0 hz q3_184 q3_186 qs_30 q1_7 q3_187 hd_X6_allPoints (Nat.le_of_ble_eq_true rfl) (Nat.le_of_ble_eq_true rfl)) (z_pv (ci := 6) (q := (RX6, TX6, 3)) hK hP rfl rfl) rfl rfl hl.1 rfl (lv_room (Nat.le_of_ble_eq_true rfl)) dX6_remove_32 ⟨(Nat.le_of_ble_eq_true rfl), (Nat.le_of_ble_eq_true rfl)⟩) ?_
    exact z_wiret hx hb hr rfl hlocks hP hS (by (try simp only [hg_4, hg_3, hg_2, hg_1, hg1, hg2]) <;> (simp [mrNew, mrRet, c_5])) (congrArg (fun T => zMod cI r T) (show uR (uK (uR M g_1) g_2) g_4 = uK (uR M g1) g2 from by (try simp only [hg_4, hg_3, hg_2, hg_1, hg1, hg2]) <;> (first | (simp [mrNew, mrRet, c_5]; done) | (simp [mrNew, mrRet, c_5] <;> rfl) | rfl))) dX6_remove_35
  · have c_5 : (iP ((mR M)) i) = false := bI_f c_5
    refine lv_iconst (v := (-1)) hx hb dX6_remove_8 (by decide) ?_
    exact z_wiret hx hb hr rfl hlocks hP hS (by (try simp only [hg1, hg2]) <;> (simp [mrNew, mrRet, c_5])) (congrArg (fun T => zMod cI r T) (show M = uK (uR M g1) g2 from by (try simp only [hg1, hg2]) <;> (first | (simp [mrNew, mrRet, c_5]; done) | (simp [mrNew, mrRet, c_5] <;> rfl) | rfl))) dX6_remove_9
set_option maxHeartbeats 1000000 in
set_option maxRecDepth 100000 in
theorem c_X6_move (l : Launch) (D : va_G) (cI cQ : ClassId) (r : Nat → Nat) (M : MS) (i x y : Int32) (a : Nat) (f : Nat) (hA : mOk (mR M) a f) (n : Nat) (hn : n ≤ 5) (hK5 : mK M = nI n) (g1 : FI) (hg1 : g1 = if mmOk (mR M) i x y then mmNew (mR M) (mK M) a f i x y else mR M) (g2 : Int32) (hg2 : g2 = if mmOk (mR M) i x y then recK (mK M) else mK M) : zWR l yX6_move (Cond.code yX6_move cX6_move 7 (some .int) :: zT) 7 171 [.ref (r 0), .int i, .int x, .int y] D cI cQ (zMod cI r M) (some (.int (mmRet (mR M) (mK M) f i x y))) (zMod cI r (uK (uR M g1) g2)) := by
  refine zWR.of (cc := cX6_move) (maxL := 7) (ret := some .int) (by decide +kernel) rfl (Nat.le_of_ble_eq_true rfl) ?_
  intro pg e s mi args below meth cd hx hb hr hts hown hlocks hml hP hD hS hK ls hl
  have hz : ∀ w ∈ zT, w.before args s = true := fun w h => hts w (List.mem_cons_of_mem _ h)
  have hl : lv_has ls 7 [(0, .ref (r 0)), (1, .int (i)), (2, .int (x)), (3, .int (y))] := hl
  refine lv_aload_n hx hb dX6_move_0 rfl (lv_at hl 0 rfl) ?_
  refine lv_iload_n hx hb dX6_move_1 rfl (lv_at hl 1 rfl) ?_
  refine z_ro (va_runV (As := [.int (i)]) (rest := []) ⟨hx, hb, hml, hown, hz⟩ (c_X6_isPoint l D cI cQ r M i (a) (f) (hA)) (zcwV 1 hz q3_156 q3_158 qs_24 q1_7 q3_159 hd_X6_isPoint (Nat.le_of_ble_eq_true rfl) (Nat.le_of_ble_eq_true rfl)) (z_pv (ci := 6) (q := (RX6, TX6, 3)) hK hP rfl rfl) rfl rfl hl.1 rfl (lv_room (Nat.le_of_ble_eq_true rfl)) dX6_move_2 ⟨(Nat.le_of_ble_eq_true rfl), (Nat.le_of_ble_eq_true rfl)⟩) ?_
  refine lv_if_eq (tgt := 16) hx hb dX6_move_5 (by decide) (fun c_5 => ?_) (fun c_5 => ?_)
  · have c_5 : (iP ((mR M)) i) = false := bI_f c_5
    refine lv_iconst (v := (-1)) hx hb dX6_move_16 (by decide) ?_
    exact z_wiret hx hb hr rfl hlocks hP hS (by subst hg1; subst hg2; simp [mmOk, mmNew, mmRet, mmR, mmNx, bI, c_5]) (congrArg (fun T => zMod cI r T) (show M = uK (uR M g1) g2 from by subst hg1; subst hg2; first | (simp [mmOk, mmNew, mmRet, mmR, mmNx, bI, c_5]; done) | (simp [mmOk, mmNew, mmRet, mmR, mmNx, bI, c_5] <;> rfl) | rfl)) dX6_move_17
  · have c_5 : (iP ((mR M)) i) = true := bI_t c_5
    refine lv_iload_n hx hb dX6_move_8 rfl (lv_at hl 2 rfl) ?_
    refine lv_iload_n hx hb dX6_move_9 rfl (lv_at hl 3 rfl) ?_
    refine z_ro (va_runS (As := [.int (x), .int (y)]) (rest := []) ⟨hx, hb, hml, hown, hz⟩ (c_X6_isPlace l D cI cQ x y) (zcwS 2 hz q3_102 q3_103 q1_7 q3_104 hd_X6_isPlace (Nat.le_of_ble_eq_true rfl) (Nat.le_of_ble_eq_true rfl)) (z_ps hK z_nil) rfl rfl hl.1 rfl (lv_room (Nat.le_of_ble_eq_true rfl)) dX6_move_10 ⟨(Nat.le_of_ble_eq_true rfl), (Nat.le_of_ble_eq_true rfl)⟩) ?_
    refine lv_if_ne (tgt := 18) hx hb dX6_move_13 (by decide) (fun c_13 => ?_) (fun c_13 => ?_)
    · have c_13 : (onMap x y) = true := bI_t c_13
      refine lv_aload_n hx hb dX6_move_18 rfl (lv_at hl 0 rfl) ?_
      obtain ⟨g_1, hg_1⟩ : ∃ z : FI, z = recR ((mR M)) ((mK M)) := ⟨_, rfl⟩
      obtain ⟨g_2, hg_2⟩ : ∃ z : Int32, z = recK ((mK M)) := ⟨_, rfl⟩
      refine z_wv (X' := zMod cI r (uK (uR M g_1) g_2)) (va_runV (As := []) (rest := []) ⟨hx, hb, hml, hown, hz⟩ (c_X6_records l D cI cQ r M (n) (hn) (hK5) g_1 hg_1 g_2 hg_2) (zcwV 0 hz q3_108 q3_110 qs_12 q1_7 q3_111 hd_X6_records (Nat.le_of_ble_eq_true rfl) (Nat.le_of_ble_eq_true rfl)) (z_pvw (ci := 6) (q := (RX6, TX6, 3)) hK hP hD rfl rfl) rfl rfl hl.1 rfl (lv_room (Nat.le_of_ble_eq_true rfl)) dX6_move_19 ⟨(Nat.le_of_ble_eq_true rfl), (Nat.le_of_ble_eq_true rfl)⟩) hP hD hS [0, 1, 2] rfl rfl rfl (fun H locs hP hD hS => ?_)
      have hR5 : mOk g_1 a f := by rw [hg_1]; exact mOk_rec hA hn hK5
      have hi5 : vp_in i 100 := iP_in hA c_5
      refine lv_aload_n hx hb dX6_move_22 rfl (lv_at hl 0 rfl) ?_
      refine lv_iload_n hx hb dX6_move_23 rfl (lv_at hl 1 rfl) ?_
      refine lv_iconst (v := 4) hx hb dX6_move_24 (by decide) ?_
      refine z_ro (va_runV (As := [.int (i), .int (4 : Int32)]) (rest := []) ⟨hx, hb, hml, hown, hz⟩ (c_X6_ofPoint l D cI cQ r (uK (uR M g_1) g_2) i (4 : Int32) (ix1 hi5 (z_inC (by decide) (by decide)))) (zcwV 2 hz q3_160 q3_162 qs_25 q1_7 q3_163 hd_X6_ofPoint (Nat.le_of_ble_eq_true rfl) (Nat.le_of_ble_eq_true rfl)) (z_pv (ci := 6) (q := (RX6, TX6, 3)) hK hP rfl rfl) rfl rfl hl.1 rfl (lv_room (Nat.le_of_ble_eq_true rfl)) dX6_move_25 ⟨(Nat.le_of_ble_eq_true rfl), (Nat.le_of_ble_eq_true rfl)⟩) ?_
      refine lv_istore (lv' := [(4, .int (oP (g_1) i (4 : Int32))), (0, .ref (r 0)), (1, .int (i)), (2, .int (x)), (3, .int (y))]) hx hb dX6_move_28 hl (by decide) rfl (fun ls hl => ?_)
      refine lv_iload hx hb dX6_move_30 (lv_at hl 0 rfl) ?_
      refine lv_aload_n hx hb dX6_move_32 rfl (lv_at hl 1 rfl) ?_
      refine lv_iload_n hx hb dX6_move_33 rfl (lv_at hl 2 rfl) ?_
      refine z_ro (va_runV (As := [.int (i)]) (rest := [.int (oP (g_1) i (4 : Int32))]) ⟨hx, hb, hml, hown, hz⟩ (c_X6_parishOf l D cI cQ r (uK (uR M g_1) g_2) i (a) (f) (hR5) (hi5)) (zcwV 1 hz q3_192 q3_194 qs_31 q1_7 q3_195 hd_X6_parishOf (Nat.le_of_ble_eq_true rfl) (Nat.le_of_ble_eq_true rfl)) (z_pv (ci := 6) (q := (RX6, TX6, 3)) hK hP rfl rfl) rfl rfl hl.1 rfl (lv_room (Nat.le_of_ble_eq_true rfl)) dX6_move_34 ⟨(Nat.le_of_ble_eq_true rfl), (Nat.le_of_ble_eq_true rfl)⟩) ?_
      refine lv_icmp_ne (tgt := 44) hx hb dX6_move_37 (by decide) (fun c_37 => ?_) (fun c_37 => ?_)
      · have c_37 : ¬ ((oP (g_1) i (4 : Int32) : Int32) = mAr (g_1) f i) := c_37
        refine lv_iconst (v := 0) hx hb dX6_move_44 (by decide) ?_
        refine lv_istore (lv' := [(5, .int (0 : Int32)), (4, .int (oP (g_1) i (4 : Int32))), (0, .ref (r 0)), (1, .int (i)), (2, .int (x)), (3, .int (y))]) hx hb dX6_move_45 hl (by decide) rfl (fun ls hl => ?_)
        refine lv_aload_n hx hb dX6_move_47 rfl (lv_at hl 2 rfl) ?_
        refine va_get (D := D) (ci := 6) (v := .ref (r 1)) (C := RX6) (T := TX6) (N := 3) hx hb hz inZ6 hown hK.1 hP 0 rfl rfl 0 (by decide) (hz _ q3_88) (fun _ h9 => h9) rfl dX6_move_48 ?_
        refine lv_iconst (v := 4) hx hb dX6_move_51 (by decide) ?_
        refine lv_iconst (v := 5) hx hb dX6_move_52 (by decide) ?_
        refine lv_iload_n hx hb dX6_move_53 rfl (lv_at hl 3 rfl) ?_
        refine lv_imul hx hb dX6_move_54 ?_
        refine lv_iadd hx hb dX6_move_55 ?_
        refine lv_iconst (v := 0) hx hb dX6_move_56 (by decide) ?_
        refine lv_iadd hx hb dX6_move_57 ?_
        refine lv_iload_n hx hb dX6_move_58 rfl (lv_at hl 4 rfl) ?_
        refine va_iast hx hb hK.1 hP hD hS 1 0 rfl rfl (i := ((4 : Int32) + ((5 : Int32) * i)) + (0 : Int32)) (ix1 hi5 (z_inC (by decide) (by decide))) dX6_move_59 (fun H locs hP hD hS => ?_)
        have hP : va_P D vwCl (zMod cI r (uR (uK (uR M g_1) g_2) (upd (g_1) (((4 : Int32) + ((5 : Int32) * i)) + (0 : Int32)).toNatClampNeg x))) H := hP
        have hD : va_D (zA (zMod cI r M)) (zMod cI r (uR (uK (uR M g_1) g_2) (upd (g_1) (((4 : Int32) + ((5 : Int32) * i)) + (0 : Int32)).toNatClampNeg x))) := hD
        refine lv_aload_n hx hb dX6_move_60 rfl (lv_at hl 2 rfl) ?_
        refine va_get (D := D) (ci := 6) (v := .ref (r 1)) (C := RX6) (T := TX6) (N := 3) hx hb hz inZ6 hown hK.1 hP 0 rfl rfl 0 (by decide) (hz _ q3_88) (fun _ h9 => h9) rfl dX6_move_61 ?_
        refine lv_iconst (v := 4) hx hb dX6_move_64 (by decide) ?_
        refine lv_iconst (v := 5) hx hb dX6_move_65 (by decide) ?_
        refine lv_iload_n hx hb dX6_move_66 rfl (lv_at hl 3 rfl) ?_
        refine lv_imul hx hb dX6_move_67 ?_
        refine lv_iadd hx hb dX6_move_68 ?_
        refine lv_iconst (v := 1) hx hb dX6_move_69 (by decide) ?_
        refine lv_iadd hx hb dX6_move_70 ?_
        refine lv_iload_n hx hb dX6_move_71 rfl (lv_at hl 5 rfl) ?_
        refine va_iast hx hb hK.1 hP hD hS 1 0 rfl rfl (i := ((4 : Int32) + ((5 : Int32) * i)) + (1 : Int32)) (ix1 hi5 (z_inC (by decide) (by decide))) dX6_move_72 (fun H locs hP hD hS => ?_)
        have hP : va_P D vwCl (zMod cI r (uR (uK (uR M g_1) g_2) (upd (upd (g_1) (((4 : Int32) + ((5 : Int32) * i)) + (0 : Int32)).toNatClampNeg x) (((4 : Int32) + ((5 : Int32) * i)) + (1 : Int32)).toNatClampNeg y))) H := hP
        have hD : va_D (zA (zMod cI r M)) (zMod cI r (uR (uK (uR M g_1) g_2) (upd (upd (g_1) (((4 : Int32) + ((5 : Int32) * i)) + (0 : Int32)).toNatClampNeg x) (((4 : Int32) + ((5 : Int32) * i)) + (1 : Int32)).toNatClampNeg y))) := hD
        obtain ⟨g_3, hg_3⟩ : ∃ z : FI, z = upd (upd g_1 (4 + 5 * i + 0).toNatClampNeg x) (4 + 5 * i + 1).toNatClampNeg y := ⟨_, rfl⟩
        have hP : va_P D vwCl (zMod cI r (uR (uK (uR M g_1) g_2) g_3)) H := by rw [hg_3]; exact hP
        have hD : va_D (zA (zMod cI r M)) (zMod cI r (uR (uK (uR M g_1) g_2) g_3)) := by rw [hg_3]; exact hD
        have hR6 : mOk g_3 a f := by rw [hg_3]; exact mOk_mm2 hR5 hi5
        refine lv_iload hx hb dX6_move_73 (lv_at hl 0 rfl) ?_
        refine lv_if_eq (tgt := 87) hx hb dX6_move_75 (by decide) (fun _ => ?_) (fun c_ => absurd (by decide) c_)
        refine lv_iload hx hb dX6_move_87 (lv_at hl 1 rfl) ?_
        refine lv_istore (lv' := [(6, .int (oP (g_1) i (4 : Int32))), (5, .int (0 : Int32)), (4, .int (oP (g_1) i (4 : Int32))), (0, .ref (r 0)), (1, .int (i)), (2, .int (x)), (3, .int (y))]) hx hb dX6_move_89 hl (by decide) rfl (fun ls hl => ?_)
        refine lv_aload_n hx hb dX6_move_91 rfl (lv_at hl 3 rfl) ?_
        refine lv_iload_n hx hb dX6_move_92 rfl (lv_at hl 4 rfl) ?_
        refine lv_iload hx hb dX6_move_93 (lv_at hl 0 rfl) ?_
        obtain ⟨g_4, hg_4⟩ : ∃ z : FI, z = sLo (g_3) i (oP (g_1) i (4 : Int32)) := ⟨_, rfl⟩
        refine z_wv (X' := zMod cI r (uR (uK (uR M g_1) g_2) g_4)) (va_runV (As := [.int (i), .int (oP (g_1) i (4 : Int32))]) (rest := []) ⟨hx, hb, hml, hown, hz⟩ (c_X6_setLord l D cI cQ r (uR (uK (uR M g_1) g_2) g_3) i (oP (g_1) i (4 : Int32)) (hi5) g_4 hg_4) (zcwV 2 hz q3_132 q3_134 qs_18 q1_7 q3_135 hd_X6_setLord (Nat.le_of_ble_eq_true rfl) (Nat.le_of_ble_eq_true rfl)) (z_pvw (ci := 6) (q := (RX6, TX6, 3)) hK hP hD rfl rfl) rfl rfl hl.1 rfl (lv_room (Nat.le_of_ble_eq_true rfl)) dX6_move_95 ⟨(Nat.le_of_ble_eq_true rfl), (Nat.le_of_ble_eq_true rfl)⟩) hP hD hS [0, 1, 2] rfl rfl rfl (fun H locs hP hD hS => ?_)
        refine lv_aload_n hx hb dX6_move_98 rfl (lv_at hl 3 rfl) ?_
        obtain ⟨g_5, hg_5⟩ : ∃ z : FI, z = stG a 40 (g_4) := ⟨_, rfl⟩
        refine z_wv (X' := zMod cI r (uR (uK (uR M g_1) g_2) g_5)) (va_runV (As := []) (rest := []) ⟨hx, hb, hml, hown, hz⟩ (c_X6_settles l D cI cQ r (uR (uK (uR M g_1) g_2) g_4) (a) (f) (by rw [hg_4]; exact mOk_sLo hR6 hi5) g_5 hg_5) (zcwV 0 hz q3_136 q3_138 qs_19 q1_7 q3_139 hd_X6_settles (Nat.le_of_ble_eq_true rfl) (Nat.le_of_ble_eq_true rfl)) (z_pvw (ci := 6) (q := (RX6, TX6, 3)) hK hP hD rfl rfl) rfl rfl hl.1 rfl (lv_room (Nat.le_of_ble_eq_true rfl)) dX6_move_99 ⟨(Nat.le_of_ble_eq_true rfl), (Nat.le_of_ble_eq_true rfl)⟩) hP hD hS [0, 1, 2] rfl rfl rfl (fun H locs hP hD hS => ?_)
        refine lv_iload hx hb dX6_move_102 (lv_at hl 0 rfl) ?_
        refine lv_iload hx hb dX6_move_104 (lv_at hl 2 rfl) ?_
        refine lv_icmp_ne (tgt := 113) hx hb dX6_move_106 (by decide) (fun c_ => absurd rfl c_) (fun _ => ?_)
        refine lv_iconst (v := 0) hx hb dX6_move_109 (by decide) ?_
        refine lv_goto (tgt := 114) hx hb dX6_move_110 (by decide) ?_
        exact z_wiret hx hb hr rfl hlocks hP hS (by subst hg_5; subst hg_4; subst hg_3; subst hg_2; subst hg_1; subst hg1; subst hg2; rw [mmRet, if_pos (by simp [mmOk, c_5, c_13]), mmNx, if_neg c_37]; simp only [bI, decide_true, decide_false, Bool.not_true, Bool.not_false, if_true, if_false, Bool.false_eq_true]) (congrArg (fun T => zMod cI r T) (show uR (uK (uR M g_1) g_2) g_5 = uK (uR M g1) g2 from by subst hg_5; subst hg_4; subst hg_3; subst hg_2; subst hg_1; subst hg1; subst hg2; rw [if_pos (by simp [mmOk, c_5, c_13]), if_pos (by simp [mmOk, c_5, c_13]), mmNew, mmR, mmNx, if_neg c_37])) dX6_move_114
      · have c_37 : (oP (g_1) i (4 : Int32) : Int32) = mAr (g_1) f i := c_37
        refine lv_iconst (v := 1) hx hb dX6_move_40 (by decide) ?_
        refine lv_goto (tgt := 45) hx hb dX6_move_41 (by decide) ?_
        refine lv_istore (lv' := [(5, .int (1 : Int32)), (4, .int (oP (g_1) i (4 : Int32))), (0, .ref (r 0)), (1, .int (i)), (2, .int (x)), (3, .int (y))]) hx hb dX6_move_45 hl (by decide) rfl (fun ls hl => ?_)
        refine lv_aload_n hx hb dX6_move_47 rfl (lv_at hl 2 rfl) ?_
        refine va_get (D := D) (ci := 6) (v := .ref (r 1)) (C := RX6) (T := TX6) (N := 3) hx hb hz inZ6 hown hK.1 hP 0 rfl rfl 0 (by decide) (hz _ q3_88) (fun _ h9 => h9) rfl dX6_move_48 ?_
        refine lv_iconst (v := 4) hx hb dX6_move_51 (by decide) ?_
        refine lv_iconst (v := 5) hx hb dX6_move_52 (by decide) ?_
        refine lv_iload_n hx hb dX6_move_53 rfl (lv_at hl 3 rfl) ?_
        refine lv_imul hx hb dX6_move_54 ?_
        refine lv_iadd hx hb dX6_move_55 ?_
        refine lv_iconst (v := 0) hx hb dX6_move_56 (by decide) ?_
        refine lv_iadd hx hb dX6_move_57 ?_
        refine lv_iload_n hx hb dX6_move_58 rfl (lv_at hl 4 rfl) ?_
        refine va_iast hx hb hK.1 hP hD hS 1 0 rfl rfl (i := ((4 : Int32) + ((5 : Int32) * i)) + (0 : Int32)) (ix1 hi5 (z_inC (by decide) (by decide))) dX6_move_59 (fun H locs hP hD hS => ?_)
        have hP : va_P D vwCl (zMod cI r (uR (uK (uR M g_1) g_2) (upd (g_1) (((4 : Int32) + ((5 : Int32) * i)) + (0 : Int32)).toNatClampNeg x))) H := hP
        have hD : va_D (zA (zMod cI r M)) (zMod cI r (uR (uK (uR M g_1) g_2) (upd (g_1) (((4 : Int32) + ((5 : Int32) * i)) + (0 : Int32)).toNatClampNeg x))) := hD
        refine lv_aload_n hx hb dX6_move_60 rfl (lv_at hl 2 rfl) ?_
        refine va_get (D := D) (ci := 6) (v := .ref (r 1)) (C := RX6) (T := TX6) (N := 3) hx hb hz inZ6 hown hK.1 hP 0 rfl rfl 0 (by decide) (hz _ q3_88) (fun _ h9 => h9) rfl dX6_move_61 ?_
        refine lv_iconst (v := 4) hx hb dX6_move_64 (by decide) ?_
        refine lv_iconst (v := 5) hx hb dX6_move_65 (by decide) ?_
        refine lv_iload_n hx hb dX6_move_66 rfl (lv_at hl 3 rfl) ?_
        refine lv_imul hx hb dX6_move_67 ?_
        refine lv_iadd hx hb dX6_move_68 ?_
        refine lv_iconst (v := 1) hx hb dX6_move_69 (by decide) ?_
        refine lv_iadd hx hb dX6_move_70 ?_
        refine lv_iload_n hx hb dX6_move_71 rfl (lv_at hl 5 rfl) ?_
        refine va_iast hx hb hK.1 hP hD hS 1 0 rfl rfl (i := ((4 : Int32) + ((5 : Int32) * i)) + (1 : Int32)) (ix1 hi5 (z_inC (by decide) (by decide))) dX6_move_72 (fun H locs hP hD hS => ?_)
        have hP : va_P D vwCl (zMod cI r (uR (uK (uR M g_1) g_2) (upd (upd (g_1) (((4 : Int32) + ((5 : Int32) * i)) + (0 : Int32)).toNatClampNeg x) (((4 : Int32) + ((5 : Int32) * i)) + (1 : Int32)).toNatClampNeg y))) H := hP
        have hD : va_D (zA (zMod cI r M)) (zMod cI r (uR (uK (uR M g_1) g_2) (upd (upd (g_1) (((4 : Int32) + ((5 : Int32) * i)) + (0 : Int32)).toNatClampNeg x) (((4 : Int32) + ((5 : Int32) * i)) + (1 : Int32)).toNatClampNeg y))) := hD
        obtain ⟨g_6, hg_6⟩ : ∃ z : FI, z = upd (upd g_1 (4 + 5 * i + 0).toNatClampNeg x) (4 + 5 * i + 1).toNatClampNeg y := ⟨_, rfl⟩
        have hP : va_P D vwCl (zMod cI r (uR (uK (uR M g_1) g_2) g_6)) H := by rw [hg_6]; exact hP
        have hD : va_D (zA (zMod cI r M)) (zMod cI r (uR (uK (uR M g_1) g_2) g_6)) := by rw [hg_6]; exact hD
        have hR6 : mOk g_6 a f := by rw [hg_6]; exact mOk_mm2 hR5 hi5
        refine lv_iload hx hb dX6_move_73 (lv_at hl 0 rfl) ?_
        refine lv_if_eq (tgt := 87) hx hb dX6_move_75 (by decide) (fun c_ => absurd c_ (by decide)) (fun _ => ?_)
        refine lv_aload_n hx hb dX6_move_78 rfl (lv_at hl 2 rfl) ?_
        refine lv_iload_n hx hb dX6_move_79 rfl (lv_at hl 4 rfl) ?_
        refine lv_iload_n hx hb dX6_move_80 rfl (lv_at hl 5 rfl) ?_
        refine z_ro (va_runV (As := [.int (x), .int (y)]) (rest := []) ⟨hx, hb, hml, hown, hz⟩ (c_X6_parishAt l D cI cQ r (uR (uK (uR M g_1) g_2) g_6) x y (a) (f) (hR6)) (zcwV 2 hz q3_116 q3_118 qs_14 q1_7 q3_119 hd_X6_parishAt (Nat.le_of_ble_eq_true rfl) (Nat.le_of_ble_eq_true rfl)) (z_pv (ci := 6) (q := (RX6, TX6, 3)) hK hP rfl rfl) rfl rfl hl.1 rfl (lv_room (Nat.le_of_ble_eq_true rfl)) dX6_move_81 ⟨(Nat.le_of_ble_eq_true rfl), (Nat.le_of_ble_eq_true rfl)⟩) ?_
        refine lv_goto (tgt := 89) hx hb dX6_move_84 (by decide) ?_
        refine lv_istore (lv' := [(6, .int (mAt (g_6) f x y)), (5, .int (1 : Int32)), (4, .int (oP (g_1) i (4 : Int32))), (0, .ref (r 0)), (1, .int (i)), (2, .int (x)), (3, .int (y))]) hx hb dX6_move_89 hl (by decide) rfl (fun ls hl => ?_)
        refine lv_aload_n hx hb dX6_move_91 rfl (lv_at hl 3 rfl) ?_
        refine lv_iload_n hx hb dX6_move_92 rfl (lv_at hl 4 rfl) ?_
        refine lv_iload hx hb dX6_move_93 (lv_at hl 0 rfl) ?_
        obtain ⟨g_7, hg_7⟩ : ∃ z : FI, z = sLo (g_6) i (mAt (g_6) f x y) := ⟨_, rfl⟩
        refine z_wv (X' := zMod cI r (uR (uK (uR M g_1) g_2) g_7)) (va_runV (As := [.int (i), .int (mAt (g_6) f x y)]) (rest := []) ⟨hx, hb, hml, hown, hz⟩ (c_X6_setLord l D cI cQ r (uR (uK (uR M g_1) g_2) g_6) i (mAt (g_6) f x y) (hi5) g_7 hg_7) (zcwV 2 hz q3_132 q3_134 qs_18 q1_7 q3_135 hd_X6_setLord (Nat.le_of_ble_eq_true rfl) (Nat.le_of_ble_eq_true rfl)) (z_pvw (ci := 6) (q := (RX6, TX6, 3)) hK hP hD rfl rfl) rfl rfl hl.1 rfl (lv_room (Nat.le_of_ble_eq_true rfl)) dX6_move_95 ⟨(Nat.le_of_ble_eq_true rfl), (Nat.le_of_ble_eq_true rfl)⟩) hP hD hS [0, 1, 2] rfl rfl rfl (fun H locs hP hD hS => ?_)
        refine lv_aload_n hx hb dX6_move_98 rfl (lv_at hl 3 rfl) ?_
        obtain ⟨g_8, hg_8⟩ : ∃ z : FI, z = stG a 40 (g_7) := ⟨_, rfl⟩
        refine z_wv (X' := zMod cI r (uR (uK (uR M g_1) g_2) g_8)) (va_runV (As := []) (rest := []) ⟨hx, hb, hml, hown, hz⟩ (c_X6_settles l D cI cQ r (uR (uK (uR M g_1) g_2) g_7) (a) (f) (by rw [hg_7]; exact mOk_sLo hR6 hi5) g_8 hg_8) (zcwV 0 hz q3_136 q3_138 qs_19 q1_7 q3_139 hd_X6_settles (Nat.le_of_ble_eq_true rfl) (Nat.le_of_ble_eq_true rfl)) (z_pvw (ci := 6) (q := (RX6, TX6, 3)) hK hP hD rfl rfl) rfl rfl hl.1 rfl (lv_room (Nat.le_of_ble_eq_true rfl)) dX6_move_99 ⟨(Nat.le_of_ble_eq_true rfl), (Nat.le_of_ble_eq_true rfl)⟩) hP hD hS [0, 1, 2] rfl rfl rfl (fun H locs hP hD hS => ?_)
        refine lv_iload hx hb dX6_move_102 (lv_at hl 0 rfl) ?_
        refine lv_iload hx hb dX6_move_104 (lv_at hl 2 rfl) ?_
        refine lv_icmp_ne (tgt := 113) hx hb dX6_move_106 (by decide) (fun c_106 => ?_) (fun c_106 => ?_)
        · have c_106 : ¬ ((mAt (g_6) f x y : Int32) = oP (g_1) i (4 : Int32)) := c_106
          refine lv_iconst (v := 1) hx hb dX6_move_113 (by decide) ?_
          exact z_wiret hx hb hr rfl hlocks hP hS (by subst hg_8; subst hg_7; subst hg_6; subst hg_2; subst hg_1; subst hg1; subst hg2; rw [mmRet, if_pos (by simp [mmOk, c_5, c_13]), mmNx, if_pos c_37]; simp only [bI, c_106, decide_true, decide_false, Bool.not_true, Bool.not_false, if_true, if_false, Bool.false_eq_true]) (congrArg (fun T => zMod cI r T) (show uR (uK (uR M g_1) g_2) g_8 = uK (uR M g1) g2 from by subst hg_8; subst hg_7; subst hg_6; subst hg_2; subst hg_1; subst hg1; subst hg2; rw [if_pos (by simp [mmOk, c_5, c_13]), if_pos (by simp [mmOk, c_5, c_13]), mmNew, mmR, mmNx, if_pos c_37])) dX6_move_114
        · have c_106 : (mAt (g_6) f x y : Int32) = oP (g_1) i (4 : Int32) := c_106
          refine lv_iconst (v := 0) hx hb dX6_move_109 (by decide) ?_
          refine lv_goto (tgt := 114) hx hb dX6_move_110 (by decide) ?_
          exact z_wiret hx hb hr rfl hlocks hP hS (by subst hg_8; subst hg_7; subst hg_6; subst hg_2; subst hg_1; subst hg1; subst hg2; rw [mmRet, if_pos (by simp [mmOk, c_5, c_13]), mmNx, if_pos c_37]; simp only [bI, c_106, decide_true, decide_false, Bool.not_true, Bool.not_false, if_true, if_false, Bool.false_eq_true]) (congrArg (fun T => zMod cI r T) (show uR (uK (uR M g_1) g_2) g_8 = uK (uR M g1) g2 from by subst hg_8; subst hg_7; subst hg_6; subst hg_2; subst hg_1; subst hg1; subst hg2; rw [if_pos (by simp [mmOk, c_5, c_13]), if_pos (by simp [mmOk, c_5, c_13]), mmNew, mmR, mmNx, if_pos c_37])) dX6_move_114
    · have c_13 : (onMap x y) = false := bI_f c_13
      refine lv_iconst (v := (-1)) hx hb dX6_move_16 (by decide) ?_
      exact z_wiret hx hb hr rfl hlocks hP hS (by subst hg1; subst hg2; simp [mmOk, mmNew, mmRet, mmR, mmNx, bI, c_5, c_13]) (congrArg (fun T => zMod cI r T) (show M = uK (uR M g1) g2 from by subst hg1; subst hg2; first | (simp [mmOk, mmNew, mmRet, mmR, mmNx, bI, c_5, c_13]; done) | (simp [mmOk, mmNew, mmRet, mmR, mmNx, bI, c_5, c_13] <;> rfl) | rfl)) dX6_move_17
set_option maxHeartbeats 1000000 in
set_option maxRecDepth 100000 in
theorem c_X6_setCrowd (l : Launch) (D : va_G) (cI cQ : ClassId) (r : Nat → Nat) (M : MS) (v : Int32) (a : Nat) (f : Nat) (hA : mOk (mR M) a f) (n : Nat) (hn : n ≤ 5) (hK5 : mK M = nI n) (g1 : FI) (hg1 : g1 = if btw v 2 9 then mcNew (mR M) (mK M) a v else mR M) (g2 : Int32) (hg2 : g2 = if btw v 2 9 then recK (mK M) else mK M) : zWR l yX6_setCrowd (Cond.code yX6_setCrowd cX6_setCrowd 3 (some .int) :: zT) 7 171 [.ref (r 0), .int v] D cI cQ (zMod cI r M) (some (.int (mcRet (mR M) (mK M) v))) (zMod cI r (uK (uR M g1) g2)) := by
  refine zWR.of (cc := cX6_setCrowd) (maxL := 3) (ret := some .int) (by decide +kernel) rfl (Nat.le_of_ble_eq_true rfl) ?_
  intro pg e s mi args below meth cd hx hb hr hts hown hlocks hml hP hD hS hK ls hl
  have hz : ∀ w ∈ zT, w.before args s = true := fun w h => hts w (List.mem_cons_of_mem _ h)
  have hl : lv_has ls 3 [(0, .ref (r 0)), (1, .int (v))] := hl
  refine lv_iload_n hx hb dX6_setCrowd_0 rfl (lv_at hl 1 rfl) ?_
  refine lv_iconst (v := 2) hx hb dX6_setCrowd_1 (by decide) ?_
  refine lv_bipush (v := 9) hx hb dX6_setCrowd_2 (by decide) ?_
  refine z_ro (va_runS (As := [.int (v), .int (2 : Int32), .int (9 : Int32)]) (rest := []) ⟨hx, hb, hml, hown, hz⟩ (c_X6_in l D cI cQ v (2 : Int32) (9 : Int32)) (zcwS 3 hz q3_105 q3_106 q1_7 q3_107 hd_X6_in (Nat.le_of_ble_eq_true rfl) (Nat.le_of_ble_eq_true rfl)) (z_ps hK z_nil) rfl rfl hl.1 rfl (lv_room (Nat.le_of_ble_eq_true rfl)) dX6_setCrowd_4 ⟨(Nat.le_of_ble_eq_true rfl), (Nat.le_of_ble_eq_true rfl)⟩) ?_
  refine lv_if_ne (tgt := 12) hx hb dX6_setCrowd_7 (by decide) (fun c_7 => ?_) (fun c_7 => ?_)
  · have c_7 : (btw v (2 : Int32) (9 : Int32)) = true := bI_t c_7
    refine lv_aload_n hx hb dX6_setCrowd_12 rfl (lv_at hl 0 rfl) ?_
    obtain ⟨g_1, hg_1⟩ : ∃ z : FI, z = recR ((mR M)) ((mK M)) := ⟨_, rfl⟩
    obtain ⟨g_2, hg_2⟩ : ∃ z : Int32, z = recK ((mK M)) := ⟨_, rfl⟩
    refine z_wv (X' := zMod cI r (uK (uR M g_1) g_2)) (va_runV (As := []) (rest := []) ⟨hx, hb, hml, hown, hz⟩ (c_X6_records l D cI cQ r M (n) (hn) (hK5) g_1 hg_1 g_2 hg_2) (zcwV 0 hz q3_108 q3_110 qs_12 q1_7 q3_111 hd_X6_records (Nat.le_of_ble_eq_true rfl) (Nat.le_of_ble_eq_true rfl)) (z_pvw (ci := 6) (q := (RX6, TX6, 3)) hK hP hD rfl rfl) rfl rfl hl.1 rfl (lv_room (Nat.le_of_ble_eq_true rfl)) dX6_setCrowd_13 ⟨(Nat.le_of_ble_eq_true rfl), (Nat.le_of_ble_eq_true rfl)⟩) hP hD hS [0, 1, 2] rfl rfl rfl (fun H locs hP hD hS => ?_)
    have hR5 : mOk g_1 a f := by rw [hg_1]; exact mOk_rec hA hn hK5
    refine lv_aload_n hx hb dX6_setCrowd_16 rfl (lv_at hl 0 rfl) ?_
    refine va_get (D := D) (ci := 6) (v := .ref (r 1)) (C := RX6) (T := TX6) (N := 3) hx hb hz inZ6 hown hK.1 hP 0 rfl rfl 0 (by decide) (hz _ q3_88) (fun _ h9 => h9) rfl dX6_setCrowd_17 ?_
    refine lv_iconst (v := 0) hx hb dX6_setCrowd_20 (by decide) ?_
    refine va_iald (f := g_1) hx hb hK.1 hP 1 0 rfl rfl (i := (0 : Int32)) (z_inC (by decide) (by decide)) dX6_setCrowd_21 ?_
    refine lv_istore_n (lv' := [(2, .int (g_1 0)), (0, .ref (r 0)), (1, .int (v))]) hx hb dX6_setCrowd_22 rfl hl (by decide) rfl (fun ls hl => ?_)
    refine lv_aload_n hx hb dX6_setCrowd_23 rfl (lv_at hl 1 rfl) ?_
    refine va_get (D := D) (ci := 6) (v := .ref (r 1)) (C := RX6) (T := TX6) (N := 3) hx hb hz inZ6 hown hK.1 hP 0 rfl rfl 0 (by decide) (hz _ q3_88) (fun _ h9 => h9) rfl dX6_setCrowd_24 ?_
    refine lv_iconst (v := 0) hx hb dX6_setCrowd_27 (by decide) ?_
    refine lv_iload_n hx hb dX6_setCrowd_28 rfl (lv_at hl 2 rfl) ?_
    refine va_iast hx hb hK.1 hP hD hS 1 0 rfl rfl (i := (0 : Int32)) (z_inC (by decide) (by decide)) dX6_setCrowd_29 (fun H locs hP hD hS => ?_)
    have hP : va_P D vwCl (zMod cI r (uR (uK (uR M g_1) g_2) (upd (g_1) 0 v))) H := hP
    have hD : va_D (zA (zMod cI r M)) (zMod cI r (uR (uK (uR M g_1) g_2) (upd (g_1) 0 v))) := hD
    obtain ⟨g_3, hg_3⟩ : ∃ z : FI, z = upd g_1 0 v := ⟨_, rfl⟩
    have hP : va_P D vwCl (zMod cI r (uR (uK (uR M g_1) g_2) g_3)) H := by rw [hg_3]; exact hP
    have hD : va_D (zA (zMod cI r M)) (zMod cI r (uR (uK (uR M g_1) g_2) g_3)) := by rw [hg_3]; exact hD
    refine lv_aload_n hx hb dX6_setCrowd_30 rfl (lv_at hl 1 rfl) ?_
    obtain ⟨g_4, hg_4⟩ : ∃ z : FI, z = stG a 40 (g_3) := ⟨_, rfl⟩
    refine z_wv (X' := zMod cI r (uR (uK (uR M g_1) g_2) g_4)) (va_runV (As := []) (rest := []) ⟨hx, hb, hml, hown, hz⟩ (c_X6_settles l D cI cQ r (uR (uK (uR M g_1) g_2) g_3) (a) (f) (by rw [hg_3]; exact mOk_cr hR5) g_4 hg_4) (zcwV 0 hz q3_136 q3_138 qs_19 q1_7 q3_139 hd_X6_settles (Nat.le_of_ble_eq_true rfl) (Nat.le_of_ble_eq_true rfl)) (z_pvw (ci := 6) (q := (RX6, TX6, 3)) hK hP hD rfl rfl) rfl rfl hl.1 rfl (lv_room (Nat.le_of_ble_eq_true rfl)) dX6_setCrowd_31 ⟨(Nat.le_of_ble_eq_true rfl), (Nat.le_of_ble_eq_true rfl)⟩) hP hD hS [0, 1, 2] rfl rfl rfl (fun H locs hP hD hS => ?_)
    refine lv_iload_n hx hb dX6_setCrowd_34 rfl (lv_at hl 0 rfl) ?_
    exact z_wiret hx hb hr rfl hlocks hP hS (by (try simp only [hg_4, hg_3, hg_2, hg_1, hg1, hg2]) <;> (simp [mcNew, mcRet, c_7])) (congrArg (fun T => zMod cI r T) (show uR (uK (uR M g_1) g_2) g_4 = uK (uR M g1) g2 from by (try simp only [hg_4, hg_3, hg_2, hg_1, hg1, hg2]) <;> (first | (simp [mcNew, mcRet, c_7]; done) | (simp [mcNew, mcRet, c_7] <;> rfl) | rfl))) dX6_setCrowd_35
  · have c_7 : (btw v (2 : Int32) (9 : Int32)) = false := bI_f c_7
    refine lv_iconst (v := (-1)) hx hb dX6_setCrowd_10 (by decide) ?_
    exact z_wiret hx hb hr rfl hlocks hP hS (by (try simp only [hg1, hg2]) <;> (simp [mcNew, mcRet, c_7])) (congrArg (fun T => zMod cI r T) (show M = uK (uR M g1) g2 from by (try simp only [hg1, hg2]) <;> (first | (simp [mcNew, mcRet, c_7]; done) | (simp [mcNew, mcRet, c_7] <;> rfl) | rfl))) dX6_setCrowd_11
set_option maxHeartbeats 1000000 in
set_option maxRecDepth 100000 in
theorem c_X6_setTithe (l : Launch) (D : va_G) (cI cQ : ClassId) (r : Nat → Nat) (M : MS) (v : Int32) (a : Nat) (f : Nat) (hA : mOk (mR M) a f) (n : Nat) (hn : n ≤ 5) (hK5 : mK M = nI n) (g1 : FI) (hg1 : g1 = if btw v 1 9 then mtNew (mR M) (mK M) a v else mR M) (g2 : Int32) (hg2 : g2 = if btw v 1 9 then recK (mK M) else mK M) : zWR l yX6_setTithe (Cond.code yX6_setTithe cX6_setTithe 3 (some .int) :: zT) 7 171 [.ref (r 0), .int v] D cI cQ (zMod cI r M) (some (.int (mtRet (mR M) (mK M) v))) (zMod cI r (uK (uR M g1) g2)) := by
  refine zWR.of (cc := cX6_setTithe) (maxL := 3) (ret := some .int) (by decide +kernel) rfl (Nat.le_of_ble_eq_true rfl) ?_
  intro pg e s mi args below meth cd hx hb hr hts hown hlocks hml hP hD hS hK ls hl
  have hz : ∀ w ∈ zT, w.before args s = true := fun w h => hts w (List.mem_cons_of_mem _ h)
  have hl : lv_has ls 3 [(0, .ref (r 0)), (1, .int (v))] := hl
  refine lv_iload_n hx hb dX6_setTithe_0 rfl (lv_at hl 1 rfl) ?_
  refine lv_iconst (v := 1) hx hb dX6_setTithe_1 (by decide) ?_
  refine lv_bipush (v := 9) hx hb dX6_setTithe_2 (by decide) ?_
  refine z_ro (va_runS (As := [.int (v), .int (1 : Int32), .int (9 : Int32)]) (rest := []) ⟨hx, hb, hml, hown, hz⟩ (c_X6_in l D cI cQ v (1 : Int32) (9 : Int32)) (zcwS 3 hz q3_105 q3_106 q1_7 q3_107 hd_X6_in (Nat.le_of_ble_eq_true rfl) (Nat.le_of_ble_eq_true rfl)) (z_ps hK z_nil) rfl rfl hl.1 rfl (lv_room (Nat.le_of_ble_eq_true rfl)) dX6_setTithe_4 ⟨(Nat.le_of_ble_eq_true rfl), (Nat.le_of_ble_eq_true rfl)⟩) ?_
  refine lv_if_ne (tgt := 12) hx hb dX6_setTithe_7 (by decide) (fun c_7 => ?_) (fun c_7 => ?_)
  · have c_7 : (btw v (1 : Int32) (9 : Int32)) = true := bI_t c_7
    refine lv_aload_n hx hb dX6_setTithe_12 rfl (lv_at hl 0 rfl) ?_
    obtain ⟨g_1, hg_1⟩ : ∃ z : FI, z = recR ((mR M)) ((mK M)) := ⟨_, rfl⟩
    obtain ⟨g_2, hg_2⟩ : ∃ z : Int32, z = recK ((mK M)) := ⟨_, rfl⟩
    refine z_wv (X' := zMod cI r (uK (uR M g_1) g_2)) (va_runV (As := []) (rest := []) ⟨hx, hb, hml, hown, hz⟩ (c_X6_records l D cI cQ r M (n) (hn) (hK5) g_1 hg_1 g_2 hg_2) (zcwV 0 hz q3_108 q3_110 qs_12 q1_7 q3_111 hd_X6_records (Nat.le_of_ble_eq_true rfl) (Nat.le_of_ble_eq_true rfl)) (z_pvw (ci := 6) (q := (RX6, TX6, 3)) hK hP hD rfl rfl) rfl rfl hl.1 rfl (lv_room (Nat.le_of_ble_eq_true rfl)) dX6_setTithe_13 ⟨(Nat.le_of_ble_eq_true rfl), (Nat.le_of_ble_eq_true rfl)⟩) hP hD hS [0, 1, 2] rfl rfl rfl (fun H locs hP hD hS => ?_)
    have hR5 : mOk g_1 a f := by rw [hg_1]; exact mOk_rec hA hn hK5
    refine lv_aload_n hx hb dX6_setTithe_16 rfl (lv_at hl 0 rfl) ?_
    refine va_get (D := D) (ci := 6) (v := .ref (r 1)) (C := RX6) (T := TX6) (N := 3) hx hb hz inZ6 hown hK.1 hP 0 rfl rfl 0 (by decide) (hz _ q3_88) (fun _ h9 => h9) rfl dX6_setTithe_17 ?_
    refine lv_iconst (v := 1) hx hb dX6_setTithe_20 (by decide) ?_
    refine va_iald (f := g_1) hx hb hK.1 hP 1 0 rfl rfl (i := (1 : Int32)) (z_inC (by decide) (by decide)) dX6_setTithe_21 ?_
    refine lv_istore_n (lv' := [(2, .int (g_1 1)), (0, .ref (r 0)), (1, .int (v))]) hx hb dX6_setTithe_22 rfl hl (by decide) rfl (fun ls hl => ?_)
    refine lv_aload_n hx hb dX6_setTithe_23 rfl (lv_at hl 1 rfl) ?_
    refine va_get (D := D) (ci := 6) (v := .ref (r 1)) (C := RX6) (T := TX6) (N := 3) hx hb hz inZ6 hown hK.1 hP 0 rfl rfl 0 (by decide) (hz _ q3_88) (fun _ h9 => h9) rfl dX6_setTithe_24 ?_
    refine lv_iconst (v := 1) hx hb dX6_setTithe_27 (by decide) ?_
    refine lv_iload_n hx hb dX6_setTithe_28 rfl (lv_at hl 2 rfl) ?_
    refine va_iast hx hb hK.1 hP hD hS 1 0 rfl rfl (i := (1 : Int32)) (z_inC (by decide) (by decide)) dX6_setTithe_29 (fun H locs hP hD hS => ?_)
    have hP : va_P D vwCl (zMod cI r (uR (uK (uR M g_1) g_2) (upd (g_1) 1 v))) H := hP
    have hD : va_D (zA (zMod cI r M)) (zMod cI r (uR (uK (uR M g_1) g_2) (upd (g_1) 1 v))) := hD
    obtain ⟨g_3, hg_3⟩ : ∃ z : FI, z = upd g_1 1 v := ⟨_, rfl⟩
    have hP : va_P D vwCl (zMod cI r (uR (uK (uR M g_1) g_2) g_3)) H := by rw [hg_3]; exact hP
    have hD : va_D (zA (zMod cI r M)) (zMod cI r (uR (uK (uR M g_1) g_2) g_3)) := by rw [hg_3]; exact hD
    refine lv_aload_n hx hb dX6_setTithe_30 rfl (lv_at hl 1 rfl) ?_
    obtain ⟨g_4, hg_4⟩ : ∃ z : FI, z = stG a 40 (g_3) := ⟨_, rfl⟩
    refine z_wv (X' := zMod cI r (uR (uK (uR M g_1) g_2) g_4)) (va_runV (As := []) (rest := []) ⟨hx, hb, hml, hown, hz⟩ (c_X6_settles l D cI cQ r (uR (uK (uR M g_1) g_2) g_3) (a) (f) (by rw [hg_3]; exact mOk_ti hR5 c_7) g_4 hg_4) (zcwV 0 hz q3_136 q3_138 qs_19 q1_7 q3_139 hd_X6_settles (Nat.le_of_ble_eq_true rfl) (Nat.le_of_ble_eq_true rfl)) (z_pvw (ci := 6) (q := (RX6, TX6, 3)) hK hP hD rfl rfl) rfl rfl hl.1 rfl (lv_room (Nat.le_of_ble_eq_true rfl)) dX6_setTithe_31 ⟨(Nat.le_of_ble_eq_true rfl), (Nat.le_of_ble_eq_true rfl)⟩) hP hD hS [0, 1, 2] rfl rfl rfl (fun H locs hP hD hS => ?_)
    refine lv_iload_n hx hb dX6_setTithe_34 rfl (lv_at hl 0 rfl) ?_
    exact z_wiret hx hb hr rfl hlocks hP hS (by (try simp only [hg_4, hg_3, hg_2, hg_1, hg1, hg2]) <;> (simp [mtNew, mtRet, c_7])) (congrArg (fun T => zMod cI r T) (show uR (uK (uR M g_1) g_2) g_4 = uK (uR M g1) g2 from by (try simp only [hg_4, hg_3, hg_2, hg_1, hg1, hg2]) <;> (first | (simp [mtNew, mtRet, c_7]; done) | (simp [mtNew, mtRet, c_7] <;> rfl) | rfl))) dX6_setTithe_35
  · have c_7 : (btw v (1 : Int32) (9 : Int32)) = false := bI_f c_7
    refine lv_iconst (v := (-1)) hx hb dX6_setTithe_10 (by decide) ?_
    exact z_wiret hx hb hr rfl hlocks hP hS (by (try simp only [hg1, hg2]) <;> (simp [mtNew, mtRet, c_7])) (congrArg (fun T => zMod cI r T) (show M = uK (uR M g1) g2 from by (try simp only [hg1, hg2]) <;> (first | (simp [mtNew, mtRet, c_7]; done) | (simp [mtNew, mtRet, c_7] <;> rfl) | rfl))) dX6_setTithe_11
set_option maxHeartbeats 1000000 in
set_option maxRecDepth 100000 in
theorem c_X6_undo (l : Launch) (D : va_G) (cI cQ : ClassId) (r : Nat → Nat) (M : MS) (n : Nat) (hn : n ≤ 5) (hK5 : mK M = nI n) (g1 : FI) (hg1 : g1 = if mK M = 0 then mR M else cps (mR M) (1964 * mK M) 0 1964) (g2 : Int32) (hg2 : g2 = if mK M = 0 then mK M else mK M - 1) : zWR l yX6_undo (Cond.code yX6_undo cX6_undo 1 (some .int) :: zT) 1 23 [.ref (r 0)] D cI cQ (zMod cI r M) (some (.int (muRet (mK M)))) (zMod cI r (uK (uR M g1) g2)) := by
  refine zWR.of (cc := cX6_undo) (maxL := 1) (ret := some .int) (by decide +kernel) rfl (Nat.le_of_ble_eq_true rfl) ?_
  intro pg e s mi args below meth cd hx hb hr hts hown hlocks hml hP hD hS hK ls hl
  have hz : ∀ w ∈ zT, w.before args s = true := fun w h => hts w (List.mem_cons_of_mem _ h)
  have hl : lv_has ls 1 [(0, .ref (r 0))] := hl
  refine lv_aload_n hx hb dX6_undo_0 rfl (lv_at hl 0 rfl) ?_
  refine va_get (D := D) (ci := 6) (v := .int (mK M)) (C := RX6) (T := TX6) (N := 3) hx hb hz inZ6 hown hK.1 hP 0 rfl rfl 1 (by decide) (hz _ q3_89) (fun _ h9 => h9) rfl dX6_undo_1 ?_
  refine lv_if_ne (tgt := 10) hx hb dX6_undo_4 (by decide) (fun c_4 => ?_) (fun c_4 => ?_)
  · have c_4 : ¬ ((mK M : Int32) = 0) := c_4
    refine lv_aload_n hx hb dX6_undo_10 rfl (lv_at hl 0 rfl) ?_
    refine lv_sipush (v := 1964) hx hb dX6_undo_11 (by decide) ?_
    refine lv_aload_n hx hb dX6_undo_14 rfl (lv_at hl 0 rfl) ?_
    refine va_get (D := D) (ci := 6) (v := .int (mK M)) (C := RX6) (T := TX6) (N := 3) hx hb hz inZ6 hown hK.1 hP 0 rfl rfl 1 (by decide) (hz _ q3_89) (fun _ h9 => h9) rfl dX6_undo_15 ?_
    refine lv_imul hx hb dX6_undo_18 ?_
    refine lv_iconst (v := 0) hx hb dX6_undo_19 (by decide) ?_
    obtain ⟨g_1, hg_1⟩ : ∃ z : FI, z = cps ((mR M)) ((1964 : Int32) * (mK M)) (0 : Int32) 1964 := ⟨_, rfl⟩
    refine z_wv (X' := zMod cI r (uR M g_1)) (va_runV (As := [.int ((1964 : Int32) * (mK M)), .int (0 : Int32)]) (rest := []) ⟨hx, hb, hml, hown, hz⟩ (c_X6_copies l D cI cQ r M ((1964 : Int32) * (mK M)) (0 : Int32) (un_to hn hK5) (⟨0, by decide, by decide⟩) g_1 hg_1) (zcwV 2 hz q3_112 q3_114 qs_13 q1_7 q3_115 hd_X6_copies (Nat.le_of_ble_eq_true rfl) (Nat.le_of_ble_eq_true rfl)) (z_pvw (ci := 6) (q := (RX6, TX6, 3)) hK hP hD rfl rfl) rfl rfl hl.1 rfl (lv_room (Nat.le_of_ble_eq_true rfl)) dX6_undo_20 ⟨(Nat.le_of_ble_eq_true rfl), (Nat.le_of_ble_eq_true rfl)⟩) hP hD hS [0, 1, 2] rfl rfl rfl (fun H locs hP hD hS => ?_)
    refine lv_aload_n hx hb dX6_undo_23 rfl (lv_at hl 0 rfl) ?_
    refine lv_dup hx hb dX6_undo_24 rfl ?_
    refine va_get (D := D) (ci := 6) (v := .int (mK M)) (C := RX6) (T := TX6) (N := 3) hx hb hz inZ6 hown hK.1 hP 0 rfl rfl 1 (by decide) (hz _ q3_89) (fun _ h9 => h9) rfl dX6_undo_25 ?_
    refine lv_iconst (v := 1) hx hb dX6_undo_28 (by decide) ?_
    refine lv_isub hx hb dX6_undo_29 ?_
    refine va_put (D := D) (ci := 6) (v := .int ((mK M) - (1 : Int32))) (ty := .int) (C := RX6) (T := TX6) (N := 3) hx hb hz inZ6 tyX6 tyX6_ok nmX6 hown hK.1 hP hD hS 0 rfl rfl 1 (by decide) (hz _ q3_89) (fun _ h9 => h9) rfl (by decide +kernel) rfl rfl (Nat.le_of_ble_eq_true rfl) dX6_undo_30 (fun H locs hP hD hS => ?_)
    have hP : va_P D vwCl (zMod cI r (uK (uR M g_1) ((mK M) - (1 : Int32)))) H := hP
    have hD : va_D (zA (zMod cI r M)) (zMod cI r (uK (uR M g_1) ((mK M) - (1 : Int32)))) := hD
    refine lv_aload_n hx hb dX6_undo_33 rfl (lv_at hl 0 rfl) ?_
    refine va_get (D := D) (ci := 6) (v := .int ((mK M) - (1 : Int32))) (C := RX6) (T := TX6) (N := 3) hx hb hz inZ6 hown hK.1 hP 0 rfl rfl 1 (by decide) (hz _ q3_89) (fun _ h9 => h9) rfl dX6_undo_34 ?_
    exact z_wiret hx hb hr rfl hlocks hP hS (by (try simp only [hg_1, hg1, hg2]) <;> (rw [muRet, if_neg c_4])) (congrArg (fun T => zMod cI r T) (show uK (uR M g_1) ((mK M) - (1 : Int32)) = uK (uR M g1) g2 from by (try simp only [hg_1, hg1, hg2]) <;> (simp only [if_neg c_4] <;> rfl))) dX6_undo_37
  · have c_4 : (mK M : Int32) = 0 := c_4
    refine lv_bipush (v := (-2)) hx hb dX6_undo_7 (by decide) ?_
    exact z_wiret hx hb hr rfl hlocks hP hS (by (try simp only [hg1, hg2]) <;> (rw [muRet, if_pos c_4])) (congrArg (fun T => zMod cI r T) (show M = uK (uR M g1) g2 from by (try simp only [hg1, hg2]) <;> (simp only [if_pos c_4] <;> rfl))) dX6_undo_9
