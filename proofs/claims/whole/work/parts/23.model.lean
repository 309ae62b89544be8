theorem hd_X6_count : yX6_count.cls ≠ "java/lang/invoke/MethodHandle" ∧ yX6_count.cls ≠ "java/lang/invoke/VarHandle" ∧ (parseMethodDescriptor yX6_count.desc).map (fun d => d.parameters.length) = some 1 := by decide +kernel
theorem hd_X6_point : yX6_point.cls ≠ "java/lang/invoke/MethodHandle" ∧ yX6_point.cls ≠ "java/lang/invoke/VarHandle" ∧ (parseMethodDescriptor yX6_point.desc).map (fun d => d.parameters.length) = some 2 := by decide +kernel
theorem hd_X6_parish : yX6_parish.cls ≠ "java/lang/invoke/MethodHandle" ∧ yX6_parish.cls ≠ "java/lang/invoke/VarHandle" ∧ (parseMethodDescriptor yX6_parish.desc).map (fun d => d.parameters.length) = some 2 := by decide +kernel
theorem hd_X6_debt : yX6_debt.cls ≠ "java/lang/invoke/MethodHandle" ∧ yX6_debt.cls ≠ "java/lang/invoke/VarHandle" ∧ (parseMethodDescriptor yX6_debt.desc).map (fun d => d.parameters.length) = some 2 := by decide +kernel
theorem hd_X6_at : yX6_at.cls ≠ "java/lang/invoke/MethodHandle" ∧ yX6_at.cls ≠ "java/lang/invoke/VarHandle" ∧ (parseMethodDescriptor yX6_at.desc).map (fun d => d.parameters.length) = some 2 := by decide +kernel
theorem hd_X6_far : yX6_far.cls ≠ "java/lang/invoke/MethodHandle" ∧ yX6_far.cls ≠ "java/lang/invoke/VarHandle" ∧ (parseMethodDescriptor yX6_far.desc).map (fun d => d.parameters.length) = some 2 := by decide +kernel
theorem hd_X6_range : yX6_range.cls ≠ "java/lang/invoke/MethodHandle" ∧ yX6_range.cls ≠ "java/lang/invoke/VarHandle" ∧ (parseMethodDescriptor yX6_range.desc).map (fun d => d.parameters.length) = some 5 := by decide +kernel
theorem hd_X6_nearest : yX6_nearest.cls ≠ "java/lang/invoke/MethodHandle" ∧ yX6_nearest.cls ≠ "java/lang/invoke/VarHandle" ∧ (parseMethodDescriptor yX6_nearest.desc).map (fun d => d.parameters.length) = some 2 := by decide +kernel
theorem hd_X6_inOrder : yX6_inOrder.cls ≠ "java/lang/invoke/MethodHandle" ∧ yX6_inOrder.cls ≠ "java/lang/invoke/VarHandle" ∧ (parseMethodDescriptor yX6_inOrder.desc).map (fun d => d.parameters.length) = some 1 := by decide +kernel
theorem hd_X6_payable : yX6_payable.cls ≠ "java/lang/invoke/MethodHandle" ∧ yX6_payable.cls ≠ "java/lang/invoke/VarHandle" ∧ (parseMethodDescriptor yX6_payable.desc).map (fun d => d.parameters.length) = some 1 := by decide +kernel
set_option maxHeartbeats 1000000 in
set_option maxRecDepth 100000 in
theorem c_X6_count (l : Launch) (D : va_G) (cI cQ : ClassId) (r : Nat → Nat) (M : MS) (w : Int32) (a : Nat) (f : Nat) (hA : mOk (mR M) a f) : zRO l yX6_count (Cond.code yX6_count cX6_count 8 (some .int) :: zT) 4 89 [.ref (r 0), .int w] D cI cQ (zMod cI r M) (mcoRet (mR M) (mK M) a f w) := by
  refine zRO.of (cc := cX6_count) (maxL := 8) (ret := some .int) (by decide +kernel) rfl (Nat.le_of_ble_eq_true rfl) ?_
  intro pg e s mi args below meth cd hx hb hr hts hown hlocks hml hP hK ls hl
  have hz : ∀ w ∈ zT, w.before args s = true := fun w h => hts w (List.mem_cons_of_mem _ h)
  have hl : lv_has ls 8 [(0, .ref (r 0)), (1, .int (w))] := hl
  refine lv_iconst (v := 0) hx hb dX6_count_0 (by decide) ?_
  refine lv_istore_n (lv' := [(2, .int (0 : Int32)), (0, .ref (r 0)), (1, .int (w))]) hx hb dX6_count_1 rfl hl (by decide) rfl (fun ls hl => ?_)
  refine lv_iconst (v := 0) hx hb dX6_count_2 (by decide) ?_
  refine lv_istore_n (lv' := [(3, .int (0 : Int32)), (2, .int (0 : Int32)), (0, .ref (r 0)), (1, .int (w))]) hx hb dX6_count_3 rfl hl (by decide) rfl (fun ls hl => ?_)
  refine lv_iconst (v := 0) hx hb dX6_count_4 (by decide) ?_
  refine lv_istore (lv' := [(4, .int (0 : Int32)), (3, .int (0 : Int32)), (2, .int (0 : Int32)), (0, .ref (r 0)), (1, .int (w))]) hx hb dX6_count_5 hl (by decide) rfl (fun ls hl => ?_)
  refine lv_iconst (v := 0) hx hb dX6_count_7 (by decide) ?_
  refine lv_istore (lv' := [(5, .int (0 : Int32)), (4, .int (0 : Int32)), (3, .int (0 : Int32)), (2, .int (0 : Int32)), (0, .ref (r 0)), (1, .int (w))]) hx hb dX6_count_8 hl (by decide) rfl (fun ls hl => ?_)
  have L10 : ∀ (n10 k10 : Nat), k10 ≤ f → f < k10 + n10 → ∀ (ls : Array Slot), lv_has ls 8 [(5, .int (nI k10)), (2, .int (coP (mR M) k10)), (3, .int (coD (mR M) k10)), (4, .int (coG (mR M) k10)), (0, .ref (r 0)), (1, .int (w))] → W pg l e ({ frames := 4, cells := 0, slots := 0, locals := 89 }) s mi args below meth cd s.heap [] 0 0 (MQ below (vp_Si (fun r => r = mcoRet (mR M) (mK M) a f w)) args s 0 0 (fun _ => False)) (F0 mi 10 ls []) := by
    intro n10
    induction n10 with
    | zero => intro k10 h1 h2; exact absurd h2 (by omega)
    | succ n10 ih10 =>
      intro k10 h1_10 h2_10  ls hl
      refine lv_iload hx hb dX6_count_10 (lv_at hl 0 rfl) ?_
      refine lv_aload_n hx hb dX6_count_12 rfl (lv_at hl 4 rfl) ?_
      refine va_get (D := D) (ci := 6) (v := .ref (r 1)) (C := RX6) (T := TX6) (N := 3) hx hb hz inZ6 hown hK.1 hP 0 rfl rfl 0 (by decide) (hz _ q3_88) (fun _ h9 => h9) rfl dX6_count_13 ?_
      refine lv_iconst (v := 3) hx hb dX6_count_16 (by decide) ?_
      refine va_iald (f := mR M) hx hb hK.1 hP 1 0 rfl rfl (i := (3 : Int32)) (z_inC (by decide) (by decide)) dX6_count_17 ?_
      refine lv_icmp_ge (tgt := 88) hx hb dX6_count_18 (by decide) (fun c_18 => ?_) (fun c_18 => ?_)
      · have c_18 : ((mR M) 3 : Int32) ≤ nI k10 := c_18
        rw [hA.2.2.2.1] at c_18
        have hk_10 : k10 = f := z_exit (by have := hA.2.1; omega) h1_10 c_18
        refine lv_iconst (v := 0) hx hb dX6_count_88 (by decide) ?_
        refine lv_istore (lv' := [(5, .int (0 : Int32)), (2, .int (coP (mR M) k10)), (3, .int (coD (mR M) k10)), (4, .int (coG (mR M) k10)), (0, .ref (r 0)), (1, .int (w))]) hx hb dX6_count_89 hl (by decide) rfl (fun ls hl => ?_)
        refine lv_iconst (v := 0) hx hb dX6_count_91 (by decide) ?_
        refine lv_istore (lv' := [(6, .int (0 : Int32)), (5, .int (0 : Int32)), (2, .int (coP (mR M) k10)), (3, .int (coD (mR M) k10)), (4, .int (coG (mR M) k10)), (0, .ref (r 0)), (1, .int (w))]) hx hb dX6_count_92 hl (by decide) rfl (fun ls hl => ?_)
        refine lv_iconst (v := 0) hx hb dX6_count_94 (by decide) ?_
        refine lv_istore (lv' := [(7, .int (0 : Int32)), (6, .int (0 : Int32)), (5, .int (0 : Int32)), (2, .int (coP (mR M) k10)), (3, .int (coD (mR M) k10)), (4, .int (coG (mR M) k10)), (0, .ref (r 0)), (1, .int (w))]) hx hb dX6_count_95 hl (by decide) rfl (fun ls hl => ?_)
        have L97 : ∀ (n97 k97 : Nat), k97 ≤ a → a < k97 + n97 → ∀ (ls : Array Slot), lv_has ls 8 [(7, .int (nI k97)), (5, .int (coS (mR M) f k97)), (6, .int (coW (mR M) k97)), (2, .int (coP (mR M) k10)), (3, .int (coD (mR M) k10)), (4, .int (coG (mR M) k10)), (0, .ref (r 0)), (1, .int (w))] → W pg l e ({ frames := 4, cells := 0, slots := 0, locals := 89 }) s mi args below meth cd s.heap [] 0 0 (MQ below (vp_Si (fun r => r = mcoRet (mR M) (mK M) a f w)) args s 0 0 (fun _ => False)) (F0 mi 97 ls []) := by
          intro n97
          induction n97 with
          | zero => intro k97 h1 h2; exact absurd h2 (by omega)
          | succ n97 ih97 =>
            intro k97 h1_97 h2_97  ls hl
            refine lv_iload hx hb dX6_count_97 (lv_at hl 0 rfl) ?_
            refine lv_aload_n hx hb dX6_count_99 rfl (lv_at hl 6 rfl) ?_
            refine va_get (D := D) (ci := 6) (v := .ref (r 1)) (C := RX6) (T := TX6) (N := 3) hx hb hz inZ6 hown hK.1 hP 0 rfl rfl 0 (by decide) (hz _ q3_88) (fun _ h9 => h9) rfl dX6_count_100 ?_
            refine lv_iconst (v := 2) hx hb dX6_count_103 (by decide) ?_
            refine va_iald (f := mR M) hx hb hK.1 hP 1 0 rfl rfl (i := (2 : Int32)) (z_inC (by decide) (by decide)) dX6_count_104 ?_
            refine lv_icmp_ge (tgt := 174) hx hb dX6_count_105 (by decide) (fun c_105 => ?_) (fun c_105 => ?_)
            · have c_105 : ((mR M) 2 : Int32) ≤ nI k97 := c_105
              rw [hA.2.2.1] at c_105
              have hk_97 : k97 = a := z_exit (by have := hA.1; omega) h1_97 c_105
              refine lv_iload_n hx hb dX6_count_174 rfl (lv_at hl 7 rfl) ?_
              by_cases c_175_0 : w = 0
              · rw [c_175_0]
                refine lv_tableIn (tgt := 232) hx hb dX6_count_175 (by decide) (by decide) rfl (by decide) ?_
                refine lv_aload_n hx hb dX6_count_232 rfl (lv_at hl 6 rfl) ?_
                refine z_ro (va_runV (As := []) (rest := []) ⟨hx, hb, hml, hown, hz⟩ (c_X6_allPoints l D cI cQ r M (a) (f) (hA)) (zcwV 0 hz q3_184 q3_186 qs_30 q1_7 q3_187 hd_X6_allPoints (Nat.le_of_ble_eq_true rfl) (Nat.le_of_ble_eq_true rfl)) (z_pv (ci := 6) (q := (RX6, TX6, 3)) hK hP rfl rfl) rfl rfl hl.1 rfl (lv_room (Nat.le_of_ble_eq_true rfl)) dX6_count_233 ⟨(Nat.le_of_ble_eq_true rfl), (Nat.le_of_ble_eq_true rfl)⟩) ?_
                exact z_iret hx hb hr rfl hlocks (by simp [coP, coD, coG, coS, coW, mcoRet, c_18, c_105, c_175_0, hk_10, hk_97]) dX6_count_236
              by_cases c_175_1 : w = 1
              · rw [c_175_1]
                refine lv_tableIn (tgt := 237) hx hb dX6_count_175 (by decide) (by decide) rfl (by decide) ?_
                refine lv_aload_n hx hb dX6_count_237 rfl (lv_at hl 6 rfl) ?_
                refine va_get (D := D) (ci := 6) (v := .ref (r 1)) (C := RX6) (T := TX6) (N := 3) hx hb hz inZ6 hown hK.1 hP 0 rfl rfl 0 (by decide) (hz _ q3_88) (fun _ h9 => h9) rfl dX6_count_238 ?_
                refine lv_iconst (v := 2) hx hb dX6_count_241 (by decide) ?_
                refine va_iald (f := mR M) hx hb hK.1 hP 1 0 rfl rfl (i := (2 : Int32)) (z_inC (by decide) (by decide)) dX6_count_242 ?_
                exact z_iret hx hb hr rfl hlocks (by simp [coP, coD, coG, coS, coW, mcoRet, c_18, c_105, c_175_0, c_175_1, hk_10, hk_97]) dX6_count_243
              by_cases c_175_2 : w = 2
              · rw [c_175_2]
                refine lv_tableIn (tgt := 244) hx hb dX6_count_175 (by decide) (by decide) rfl (by decide) ?_
                refine lv_iload_n hx hb dX6_count_244 rfl (lv_at hl 3 rfl) ?_
                exact z_iret hx hb hr rfl hlocks (by simp [coP, coD, coG, coS, coW, mcoRet, c_18, c_105, c_175_0, c_175_1, c_175_2, hk_10, hk_97]) dX6_count_245
              by_cases c_175_3 : w = 3
              · rw [c_175_3]
                refine lv_tableIn (tgt := 246) hx hb dX6_count_175 (by decide) (by decide) rfl (by decide) ?_
                refine lv_aload_n hx hb dX6_count_246 rfl (lv_at hl 6 rfl) ?_
                refine va_get (D := D) (ci := 6) (v := .ref (r 1)) (C := RX6) (T := TX6) (N := 3) hx hb hz inZ6 hown hK.1 hP 0 rfl rfl 0 (by decide) (hz _ q3_88) (fun _ h9 => h9) rfl dX6_count_247 ?_
                refine lv_iconst (v := 3) hx hb dX6_count_250 (by decide) ?_
                refine va_iald (f := mR M) hx hb hK.1 hP 1 0 rfl rfl (i := (3 : Int32)) (z_inC (by decide) (by decide)) dX6_count_251 ?_
                exact z_iret hx hb hr rfl hlocks (by simp [coP, coD, coG, coS, coW, mcoRet, c_18, c_105, c_175_0, c_175_1, c_175_2, c_175_3, hk_10, hk_97]) dX6_count_252
              by_cases c_175_4 : w = 4
              · rw [c_175_4]
                refine lv_tableIn (tgt := 253) hx hb dX6_count_175 (by decide) (by decide) rfl (by decide) ?_
                refine lv_aload_n hx hb dX6_count_253 rfl (lv_at hl 6 rfl) ?_
                refine va_get (D := D) (ci := 6) (v := .ref (r 1)) (C := RX6) (T := TX6) (N := 3) hx hb hz inZ6 hown hK.1 hP 0 rfl rfl 0 (by decide) (hz _ q3_88) (fun _ h9 => h9) rfl dX6_count_254 ?_
                refine lv_iconst (v := 0) hx hb dX6_count_257 (by decide) ?_
                refine va_iald (f := mR M) hx hb hK.1 hP 1 0 rfl rfl (i := (0 : Int32)) (z_inC (by decide) (by decide)) dX6_count_258 ?_
                exact z_iret hx hb hr rfl hlocks (by simp [coP, coD, coG, coS, coW, mcoRet, c_18, c_105, c_175_0, c_175_1, c_175_2, c_175_3, c_175_4, hk_10, hk_97]) dX6_count_259
              by_cases c_175_5 : w = 5
              · rw [c_175_5]
                refine lv_tableIn (tgt := 260) hx hb dX6_count_175 (by decide) (by decide) rfl (by decide) ?_
                refine lv_aload_n hx hb dX6_count_260 rfl (lv_at hl 6 rfl) ?_
                refine va_get (D := D) (ci := 6) (v := .ref (r 1)) (C := RX6) (T := TX6) (N := 3) hx hb hz inZ6 hown hK.1 hP 0 rfl rfl 0 (by decide) (hz _ q3_88) (fun _ h9 => h9) rfl dX6_count_261 ?_
                refine lv_iconst (v := 1) hx hb dX6_count_264 (by decide) ?_
                refine va_iald (f := mR M) hx hb hK.1 hP 1 0 rfl rfl (i := (1 : Int32)) (z_inC (by decide) (by decide)) dX6_count_265 ?_
                exact z_iret hx hb hr rfl hlocks (by simp [coP, coD, coG, coS, coW, mcoRet, c_18, c_105, c_175_0, c_175_1, c_175_2, c_175_3, c_175_4, c_175_5, hk_10, hk_97]) dX6_count_266
              by_cases c_175_6 : w = 6
              · rw [c_175_6]
                refine lv_tableIn (tgt := 267) hx hb dX6_count_175 (by decide) (by decide) rfl (by decide) ?_
                refine lv_iload_n hx hb dX6_count_267 rfl (lv_at hl 4 rfl) ?_
                exact z_iret hx hb hr rfl hlocks (by simp [coP, coD, coG, coS, coW, mcoRet, c_18, c_105, c_175_0, c_175_1, c_175_2, c_175_3, c_175_4, c_175_5, c_175_6, hk_10, hk_97]) dX6_count_268
              by_cases c_175_7 : w = 7
              · rw [c_175_7]
                refine lv_tableIn (tgt := 269) hx hb dX6_count_175 (by decide) (by decide) rfl (by decide) ?_
                refine lv_iload hx hb dX6_count_269 (lv_at hl 1 rfl) ?_
                exact z_iret hx hb hr rfl hlocks (by simp [coP, coD, coG, coS, coW, mcoRet, c_18, c_105, c_175_0, c_175_1, c_175_2, c_175_3, c_175_4, c_175_5, c_175_6, c_175_7, hk_10, hk_97]) dX6_count_271
              by_cases c_175_8 : w = 8
              · rw [c_175_8]
                refine lv_tableIn (tgt := 272) hx hb dX6_count_175 (by decide) (by decide) rfl (by decide) ?_
                refine lv_iload hx hb dX6_count_272 (lv_at hl 5 rfl) ?_
                exact z_iret hx hb hr rfl hlocks (by simp [coP, coD, coG, coS, coW, mcoRet, c_18, c_105, c_175_0, c_175_1, c_175_2, c_175_3, c_175_4, c_175_5, c_175_6, c_175_7, c_175_8, hk_10, hk_97]) dX6_count_274
              by_cases c_175_9 : w = 9
              · rw [c_175_9]
                refine lv_tableIn (tgt := 275) hx hb dX6_count_175 (by decide) (by decide) rfl (by decide) ?_
                refine lv_iload hx hb dX6_count_275 (lv_at hl 2 rfl) ?_
                exact z_iret hx hb hr rfl hlocks (by simp [coP, coD, coG, coS, coW, mcoRet, c_18, c_105, c_175_0, c_175_1, c_175_2, c_175_3, c_175_4, c_175_5, c_175_6, c_175_7, c_175_8, c_175_9, hk_10, hk_97]) dX6_count_277
              by_cases c_175_10 : w = 10
              · rw [c_175_10]
                refine lv_tableIn (tgt := 278) hx hb dX6_count_175 (by decide) (by decide) rfl (by decide) ?_
                refine lv_aload_n hx hb dX6_count_278 rfl (lv_at hl 6 rfl) ?_
                refine va_get (D := D) (ci := 6) (v := .int (mK M)) (C := RX6) (T := TX6) (N := 3) hx hb hz inZ6 hown hK.1 hP 0 rfl rfl 1 (by decide) (hz _ q3_89) (fun _ h9 => h9) rfl dX6_count_279 ?_
                exact z_iret hx hb hr rfl hlocks (by simp [coP, coD, coG, coS, coW, mcoRet, c_18, c_105, c_175_0, c_175_1, c_175_2, c_175_3, c_175_4, c_175_5, c_175_6, c_175_7, c_175_8, c_175_9, c_175_10, hk_10, hk_97]) dX6_count_282
              refine lv_tableOut (tgt := 283) hx hb dX6_count_175 (z_sw10 c_175_0 c_175_1 c_175_2 c_175_3 c_175_4 c_175_5 c_175_6 c_175_7 c_175_8 c_175_9 c_175_10) (by decide) ?_
              refine lv_iconst (v := (-1)) hx hb dX6_count_283 (by decide) ?_
              exact z_iret hx hb hr rfl hlocks (by simp [coP, coD, coG, coS, coW, mcoRet, c_18, c_105, c_175_0, c_175_1, c_175_2, c_175_3, c_175_4, c_175_5, c_175_6, c_175_7, c_175_8, c_175_9, c_175_10, hk_10, hk_97]) dX6_count_284
            · have c_105 : ¬ (((mR M) 2 : Int32) ≤ nI k97) := c_105
              rw [hA.2.2.1] at c_105
              have hk_97 : k97 < a := z_cont (by have := hA.1; omega) h1_97 c_105
              refine lv_iload hx hb dX6_count_108 (lv_at hl 1 rfl) ?_
              refine lv_aload_n hx hb dX6_count_110 rfl (lv_at hl 6 rfl) ?_
              refine lv_iload hx hb dX6_count_111 (lv_at hl 0 rfl) ?_
              refine z_ro (va_runV (As := [.int (nI k97)]) (rest := [.int (coS (mR M) f k97)]) ⟨hx, hb, hml, hown, hz⟩ (c_X6_isPoint l D cI cQ r M (nI k97) (a) (f) (hA)) (zcwV 1 hz q3_156 q3_158 qs_24 q1_7 q3_159 hd_X6_isPoint (Nat.le_of_ble_eq_true rfl) (Nat.le_of_ble_eq_true rfl)) (z_pv (ci := 6) (q := (RX6, TX6, 3)) hK hP rfl rfl) rfl rfl hl.1 rfl (lv_room (Nat.le_of_ble_eq_true rfl)) dX6_count_113 ⟨(Nat.le_of_ble_eq_true rfl), (Nat.le_of_ble_eq_true rfl)⟩) ?_
              refine lv_if_eq (tgt := 139) hx hb dX6_count_116 (by decide) (fun c_116 => ?_) (fun c_116 => ?_)
              · have c_116 : (iP ((mR M)) (nI k97)) = false := bI_f c_116
                refine lv_iconst (v := 0) hx hb dX6_count_139 (by decide) ?_
                refine lv_iadd hx hb dX6_count_140 ?_
                refine lv_istore (lv' := [(5, .int ((coS (mR M) f k97) + (0 : Int32))), (7, .int (nI k97)), (6, .int (coW (mR M) k97)), (2, .int (coP (mR M) k10)), (3, .int (coD (mR M) k10)), (4, .int (coG (mR M) k10)), (0, .ref (r 0)), (1, .int (w))]) hx hb dX6_count_141 hl (by decide) rfl (fun ls hl => ?_)
                refine lv_iload hx hb dX6_count_143 (lv_at hl 2 rfl) ?_
                refine lv_aload_n hx hb dX6_count_145 rfl (lv_at hl 6 rfl) ?_
                refine lv_iload hx hb dX6_count_146 (lv_at hl 1 rfl) ?_
                refine z_ro (va_runV (As := [.int (nI k97)]) (rest := [.int (coW (mR M) k97)]) ⟨hx, hb, hml, hown, hz⟩ (c_X6_isPoint l D cI cQ r M (nI k97) (a) (f) (hA)) (zcwV 1 hz q3_156 q3_158 qs_24 q1_7 q3_159 hd_X6_isPoint (Nat.le_of_ble_eq_true rfl) (Nat.le_of_ble_eq_true rfl)) (z_pv (ci := 6) (q := (RX6, TX6, 3)) hK hP rfl rfl) rfl rfl hl.1 rfl (lv_room (Nat.le_of_ble_eq_true rfl)) dX6_count_148 ⟨(Nat.le_of_ble_eq_true rfl), (Nat.le_of_ble_eq_true rfl)⟩) ?_
                refine lv_if_eq (tgt := 164) hx hb dX6_count_151 (by decide) (fun _ => ?_) (fun c_ => absurd (bI_t c_) (by rw [c_116]; decide))
                refine lv_iconst (v := 0) hx hb dX6_count_164 (by decide) ?_
                refine lv_iadd hx hb dX6_count_165 ?_
                refine lv_istore (lv' := [(6, .int ((coW (mR M) k97) + (0 : Int32))), (5, .int ((coS (mR M) f k97) + (0 : Int32))), (7, .int (nI k97)), (2, .int (coP (mR M) k10)), (3, .int (coD (mR M) k10)), (4, .int (coG (mR M) k10)), (0, .ref (r 0)), (1, .int (w))]) hx hb dX6_count_166 hl (by decide) rfl (fun ls hl => ?_)
                refine lv_iinc (v := (nI k97) + 1) (lv' := [(7, .int ((nI k97) + 1)), (6, .int ((coW (mR M) k97) + (0 : Int32))), (5, .int ((coS (mR M) f k97) + (0 : Int32))), (2, .int (coP (mR M) k10)), (3, .int (coD (mR M) k10)), (4, .int (coG (mR M) k10)), (0, .ref (r 0)), (1, .int (w))]) hx hb dX6_count_168 hl (k := 2) rfl rfl (by decide) rfl (fun ls hl => ?_)
                refine lv_goto (tgt := 97) hx hb dX6_count_171 (by decide) ?_
                have e97_7 : (nI (k97 + 1) : Int32) = (nI k97) + 1 := (nI_1 _).symm
                have e97_5 : (coS (mR M) f (k97 + 1) : Int32) = (coS (mR M) f k97) + (0 : Int32) := (by simp [coP, coD, coG, coS, coW, mcoRet, c_18, c_105, c_116])
                have e97_6 : (coW (mR M) (k97 + 1) : Int32) = (coW (mR M) k97) + (0 : Int32) := (by simp [coP, coD, coG, coS, coW, mcoRet, c_18, c_105, c_116])
                exact ih97 (k97 + 1) (by omega) (by omega) _ (by (try rw [e97_7]); (try rw [e97_5]); (try rw [e97_6]); exact lv_sub hl [0, 2, 1, 3, 4, 5, 6, 7] rfl)
              · have c_116 : (iP ((mR M)) (nI k97)) = true := bI_t c_116
                refine lv_aload_n hx hb dX6_count_119 rfl (lv_at hl 6 rfl) ?_
                refine lv_iload hx hb dX6_count_120 (lv_at hl 0 rfl) ?_
                refine lv_iconst (v := 4) hx hb dX6_count_122 (by decide) ?_
                refine z_ro (va_runV (As := [.int (nI k97), .int (4 : Int32)]) (rest := [.int (coS (mR M) f k97)]) ⟨hx, hb, hml, hown, hz⟩ (c_X6_ofPoint l D cI cQ r M (nI k97) (4 : Int32) (ix1 (kin hk_97 (by have := hA.1; omega)) (z_inC (by decide) (by decide)))) (zcwV 2 hz q3_160 q3_162 qs_25 q1_7 q3_163 hd_X6_ofPoint (Nat.le_of_ble_eq_true rfl) (Nat.le_of_ble_eq_true rfl)) (z_pv (ci := 6) (q := (RX6, TX6, 3)) hK hP rfl rfl) rfl rfl hl.1 rfl (lv_room (Nat.le_of_ble_eq_true rfl)) dX6_count_123 ⟨(Nat.le_of_ble_eq_true rfl), (Nat.le_of_ble_eq_true rfl)⟩) ?_
                refine lv_aload_n hx hb dX6_count_126 rfl (lv_at hl 6 rfl) ?_
                refine lv_iload hx hb dX6_count_127 (lv_at hl 0 rfl) ?_
                refine z_ro (va_runV (As := [.int (nI k97)]) (rest := [.int (oP ((mR M)) (nI k97) (4 : Int32)), .int (coS (mR M) f k97)]) ⟨hx, hb, hml, hown, hz⟩ (c_X6_parishOf l D cI cQ r M (nI k97) (a) (f) (hA) ((kin hk_97 (by have := hA.1; omega)))) (zcwV 1 hz q3_192 q3_194 qs_31 q1_7 q3_195 hd_X6_parishOf (Nat.le_of_ble_eq_true rfl) (Nat.le_of_ble_eq_true rfl)) (z_pv (ci := 6) (q := (RX6, TX6, 3)) hK hP rfl rfl) rfl rfl hl.1 rfl (lv_room (Nat.le_of_ble_eq_true rfl)) dX6_count_129 ⟨(Nat.le_of_ble_eq_true rfl), (Nat.le_of_ble_eq_true rfl)⟩) ?_
                refine lv_icmp_eq (tgt := 139) hx hb dX6_count_132 (by decide) (fun c_132 => ?_) (fun c_132 => ?_)
                · have c_132 : (oP ((mR M)) (nI k97) (4 : Int32) : Int32) = mAr ((mR M)) f (nI k97) := c_132
                  refine lv_iconst (v := 0) hx hb dX6_count_139 (by decide) ?_
                  refine lv_iadd hx hb dX6_count_140 ?_
                  refine lv_istore (lv' := [(5, .int ((coS (mR M) f k97) + (0 : Int32))), (7, .int (nI k97)), (6, .int (coW (mR M) k97)), (2, .int (coP (mR M) k10)), (3, .int (coD (mR M) k10)), (4, .int (coG (mR M) k10)), (0, .ref (r 0)), (1, .int (w))]) hx hb dX6_count_141 hl (by decide) rfl (fun ls hl => ?_)
                  refine lv_iload hx hb dX6_count_143 (lv_at hl 2 rfl) ?_
                  refine lv_aload_n hx hb dX6_count_145 rfl (lv_at hl 6 rfl) ?_
                  refine lv_iload hx hb dX6_count_146 (lv_at hl 1 rfl) ?_
                  refine z_ro (va_runV (As := [.int (nI k97)]) (rest := [.int (coW (mR M) k97)]) ⟨hx, hb, hml, hown, hz⟩ (c_X6_isPoint l D cI cQ r M (nI k97) (a) (f) (hA)) (zcwV 1 hz q3_156 q3_158 qs_24 q1_7 q3_159 hd_X6_isPoint (Nat.le_of_ble_eq_true rfl) (Nat.le_of_ble_eq_true rfl)) (z_pv (ci := 6) (q := (RX6, TX6, 3)) hK hP rfl rfl) rfl rfl hl.1 rfl (lv_room (Nat.le_of_ble_eq_true rfl)) dX6_count_148 ⟨(Nat.le_of_ble_eq_true rfl), (Nat.le_of_ble_eq_true rfl)⟩) ?_
                  refine lv_if_eq (tgt := 164) hx hb dX6_count_151 (by decide) (fun c_ => absurd (bI_f c_) (by rw [c_116]; decide)) (fun _ => ?_)
                  refine lv_aload_n hx hb dX6_count_154 rfl (lv_at hl 6 rfl) ?_
                  refine lv_iload hx hb dX6_count_155 (lv_at hl 1 rfl) ?_
                  refine lv_iconst (v := 2) hx hb dX6_count_157 (by decide) ?_
                  refine z_ro (va_runV (As := [.int (nI k97), .int (2 : Int32)]) (rest := [.int (coW (mR M) k97)]) ⟨hx, hb, hml, hown, hz⟩ (c_X6_ofPoint l D cI cQ r M (nI k97) (2 : Int32) (ix1 (kin hk_97 (by have := hA.1; omega)) (z_inC (by decide) (by decide)))) (zcwV 2 hz q3_160 q3_162 qs_25 q1_7 q3_163 hd_X6_ofPoint (Nat.le_of_ble_eq_true rfl) (Nat.le_of_ble_eq_true rfl)) (z_pv (ci := 6) (q := (RX6, TX6, 3)) hK hP rfl rfl) rfl rfl hl.1 rfl (lv_room (Nat.le_of_ble_eq_true rfl)) dX6_count_158 ⟨(Nat.le_of_ble_eq_true rfl), (Nat.le_of_ble_eq_true rfl)⟩) ?_
                  refine lv_goto (tgt := 165) hx hb dX6_count_161 (by decide) ?_
                  refine lv_iadd hx hb dX6_count_165 ?_
                  refine lv_istore (lv' := [(6, .int ((coW (mR M) k97) + (oP ((mR M)) (nI k97) (2 : Int32)))), (5, .int ((coS (mR M) f k97) + (0 : Int32))), (7, .int (nI k97)), (2, .int (coP (mR M) k10)), (3, .int (coD (mR M) k10)), (4, .int (coG (mR M) k10)), (0, .ref (r 0)), (1, .int (w))]) hx hb dX6_count_166 hl (by decide) rfl (fun ls hl => ?_)
                  refine lv_iinc (v := (nI k97) + 1) (lv' := [(7, .int ((nI k97) + 1)), (6, .int ((coW (mR M) k97) + (oP ((mR M)) (nI k97) (2 : Int32)))), (5, .int ((coS (mR M) f k97) + (0 : Int32))), (2, .int (coP (mR M) k10)), (3, .int (coD (mR M) k10)), (4, .int (coG (mR M) k10)), (0, .ref (r 0)), (1, .int (w))]) hx hb dX6_count_168 hl (k := 2) rfl rfl (by decide) rfl (fun ls hl => ?_)
                  refine lv_goto (tgt := 97) hx hb dX6_count_171 (by decide) ?_
                  have e97_7 : (nI (k97 + 1) : Int32) = (nI k97) + 1 := (nI_1 _).symm
                  have e97_5 : (coS (mR M) f (k97 + 1) : Int32) = (coS (mR M) f k97) + (0 : Int32) := (by simp [coP, coD, coG, coS, coW, mcoRet, c_18, c_105, c_116, c_132])
                  have e97_6 : (coW (mR M) (k97 + 1) : Int32) = (coW (mR M) k97) + (oP ((mR M)) (nI k97) (2 : Int32)) := (by simp [coP, coD, coG, coS, coW, mcoRet, c_18, c_105, c_116, c_132])
                  exact ih97 (k97 + 1) (by omega) (by omega) _ (by (try rw [e97_7]); (try rw [e97_5]); (try rw [e97_6]); exact lv_sub hl [0, 2, 1, 3, 4, 5, 6, 7] rfl)
                · have c_132 : ¬ ((oP ((mR M)) (nI k97) (4 : Int32) : Int32) = mAr ((mR M)) f (nI k97)) := c_132
                  refine lv_iconst (v := 1) hx hb dX6_count_135 (by decide) ?_
                  refine lv_goto (tgt := 140) hx hb dX6_count_136 (by decide) ?_
                  refine lv_iadd hx hb dX6_count_140 ?_
                  refine lv_istore (lv' := [(5, .int ((coS (mR M) f k97) + (1 : Int32))), (7, .int (nI k97)), (6, .int (coW (mR M) k97)), (2, .int (coP (mR M) k10)), (3, .int (coD (mR M) k10)), (4, .int (coG (mR M) k10)), (0, .ref (r 0)), (1, .int (w))]) hx hb dX6_count_141 hl (by decide) rfl (fun ls hl => ?_)
                  refine lv_iload hx hb dX6_count_143 (lv_at hl 2 rfl) ?_
                  refine lv_aload_n hx hb dX6_count_145 rfl (lv_at hl 6 rfl) ?_
                  refine lv_iload hx hb dX6_count_146 (lv_at hl 1 rfl) ?_
                  refine z_ro (va_runV (As := [.int (nI k97)]) (rest := [.int (coW (mR M) k97)]) ⟨hx, hb, hml, hown, hz⟩ (c_X6_isPoint l D cI cQ r M (nI k97) (a) (f) (hA)) (zcwV 1 hz q3_156 q3_158 qs_24 q1_7 q3_159 hd_X6_isPoint (Nat.le_of_ble_eq_true rfl) (Nat.le_of_ble_eq_true rfl)) (z_pv (ci := 6) (q := (RX6, TX6, 3)) hK hP rfl rfl) rfl rfl hl.1 rfl (lv_room (Nat.le_of_ble_eq_true rfl)) dX6_count_148 ⟨(Nat.le_of_ble_eq_true rfl), (Nat.le_of_ble_eq_true rfl)⟩) ?_
                  refine lv_if_eq (tgt := 164) hx hb dX6_count_151 (by decide) (fun c_ => absurd (bI_f c_) (by rw [c_116]; decide)) (fun _ => ?_)
                  refine lv_aload_n hx hb dX6_count_154 rfl (lv_at hl 6 rfl) ?_
                  refine lv_iload hx hb dX6_count_155 (lv_at hl 1 rfl) ?_
                  refine lv_iconst (v := 2) hx hb dX6_count_157 (by decide) ?_
                  refine z_ro (va_runV (As := [.int (nI k97), .int (2 : Int32)]) (rest := [.int (coW (mR M) k97)]) ⟨hx, hb, hml, hown, hz⟩ (c_X6_ofPoint l D cI cQ r M (nI k97) (2 : Int32) (ix1 (kin hk_97 (by have := hA.1; omega)) (z_inC (by decide) (by decide)))) (zcwV 2 hz q3_160 q3_162 qs_25 q1_7 q3_163 hd_X6_ofPoint (Nat.le_of_ble_eq_true rfl) (Nat.le_of_ble_eq_true rfl)) (z_pv (ci := 6) (q := (RX6, TX6, 3)) hK hP rfl rfl) rfl rfl hl.1 rfl (lv_room (Nat.le_of_ble_eq_true rfl)) dX6_count_158 ⟨(Nat.le_of_ble_eq_true rfl), (Nat.le_of_ble_eq_true rfl)⟩) ?_
                  refine lv_goto (tgt := 165) hx hb dX6_count_161 (by decide) ?_
                  refine lv_iadd hx hb dX6_count_165 ?_
                  refine lv_istore (lv' := [(6, .int ((coW (mR M) k97) + (oP ((mR M)) (nI k97) (2 : Int32)))), (5, .int ((coS (mR M) f k97) + (1 : Int32))), (7, .int (nI k97)), (2, .int (coP (mR M) k10)), (3, .int (coD (mR M) k10)), (4, .int (coG (mR M) k10)), (0, .ref (r 0)), (1, .int (w))]) hx hb dX6_count_166 hl (by decide) rfl (fun ls hl => ?_)
                  refine lv_iinc (v := (nI k97) + 1) (lv' := [(7, .int ((nI k97) + 1)), (6, .int ((coW (mR M) k97) + (oP ((mR M)) (nI k97) (2 : Int32)))), (5, .int ((coS (mR M) f k97) + (1 : Int32))), (2, .int (coP (mR M) k10)), (3, .int (coD (mR M) k10)), (4, .int (coG (mR M) k10)), (0, .ref (r 0)), (1, .int (w))]) hx hb dX6_count_168 hl (k := 2) rfl rfl (by decide) rfl (fun ls hl => ?_)
                  refine lv_goto (tgt := 97) hx hb dX6_count_171 (by decide) ?_
                  have e97_7 : (nI (k97 + 1) : Int32) = (nI k97) + 1 := (nI_1 _).symm
                  have e97_5 : (coS (mR M) f (k97 + 1) : Int32) = (coS (mR M) f k97) + (1 : Int32) := (by simp [coP, coD, coG, coS, coW, mcoRet, c_18, c_105, c_116, c_132])
                  have e97_6 : (coW (mR M) (k97 + 1) : Int32) = (coW (mR M) k97) + (oP ((mR M)) (nI k97) (2 : Int32)) := (by simp [coP, coD, coG, coS, coW, mcoRet, c_18, c_105, c_116, c_132])
                  exact ih97 (k97 + 1) (by omega) (by omega) _ (by (try rw [e97_7]); (try rw [e97_5]); (try rw [e97_6]); exact lv_sub hl [0, 2, 1, 3, 4, 5, 6, 7] rfl)
        have e97_7 : (nI 0 : Int32) = (0 : Int32) := rfl
        have e97_5 : (coS (mR M) f 0 : Int32) = (0 : Int32) := (by rfl)
        have e97_6 : (coW (mR M) 0 : Int32) = (0 : Int32) := (by rfl)
        exact L97 (a + 1) (0) (Nat.zero_le _) (by omega) _ (by (try rw [e97_7]); (try rw [e97_5]); (try rw [e97_6]); exact lv_sub hl [0, 2, 1, 3, 4, 5, 6, 7] rfl)
      · have c_18 : ¬ (((mR M) 3 : Int32) ≤ nI k10) := c_18
        rw [hA.2.2.2.1] at c_18
        have hk_10 : k10 < f := z_cont (by have := hA.2.1; omega) h1_10 c_18
        refine lv_aload_n hx hb dX6_count_21 rfl (lv_at hl 4 rfl) ?_
        refine lv_iload hx hb dX6_count_22 (lv_at hl 0 rfl) ?_
        refine z_ro (va_runV (As := [.int (nI k10)]) (rest := []) ⟨hx, hb, hml, hown, hz⟩ (c_X6_isParish l D cI cQ r M (nI k10) (a) (f) (hA)) (zcwV 1 hz q3_124 q3_126 qs_16 q1_7 q3_127 hd_X6_isParish (Nat.le_of_ble_eq_true rfl) (Nat.le_of_ble_eq_true rfl)) (z_pv (ci := 6) (q := (RX6, TX6, 3)) hK hP rfl rfl) rfl rfl hl.1 rfl (lv_room (Nat.le_of_ble_eq_true rfl)) dX6_count_24 ⟨(Nat.le_of_ble_eq_true rfl), (Nat.le_of_ble_eq_true rfl)⟩) ?_
        refine lv_istore (lv' := [(6, .int (bI (iR ((mR M)) (nI k10)))), (5, .int (nI k10)), (2, .int (coP (mR M) k10)), (3, .int (coD (mR M) k10)), (4, .int (coG (mR M) k10)), (0, .ref (r 0)), (1, .int (w))]) hx hb dX6_count_27 hl (by decide) rfl (fun ls hl => ?_)
        refine lv_iload_n hx hb dX6_count_29 rfl (lv_at hl 2 rfl) ?_
        refine lv_iload hx hb dX6_count_30 (lv_at hl 0 rfl) ?_
        refine lv_if_eq (tgt := 39) hx hb dX6_count_32 (by decide) (fun c_32 => ?_) (fun c_32 => ?_)
        · have c_32 : (iR ((mR M)) (nI k10)) = false := bI_f c_32
          refine lv_iconst (v := 0) hx hb dX6_count_39 (by decide) ?_
          refine lv_iadd hx hb dX6_count_40 ?_
          refine lv_istore_n (lv' := [(2, .int ((coP (mR M) k10) + (0 : Int32))), (6, .int (bI (iR ((mR M)) (nI k10)))), (5, .int (nI k10)), (3, .int (coD (mR M) k10)), (4, .int (coG (mR M) k10)), (0, .ref (r 0)), (1, .int (w))]) hx hb dX6_count_41 rfl hl (by decide) rfl (fun ls hl => ?_)
          refine lv_iload_n hx hb dX6_count_42 rfl (lv_at hl 3 rfl) ?_
          refine lv_aload_n hx hb dX6_count_43 rfl (lv_at hl 5 rfl) ?_
          refine lv_iload hx hb dX6_count_44 (lv_at hl 2 rfl) ?_
          refine z_ro (va_runV (As := [.int (nI k10)]) (rest := [.int (coD (mR M) k10)]) ⟨hx, hb, hml, hown, hz⟩ (c_X6_owed l D cI cQ r M (nI k10) ((kin hk_10 hA.2.1))) (zcwV 1 hz q3_236 q3_238 qs_36 q1_7 q3_239 hd_X6_owed (Nat.le_of_ble_eq_true rfl) (Nat.le_of_ble_eq_true rfl)) (z_pv (ci := 6) (q := (RX6, TX6, 3)) hK hP rfl rfl) rfl rfl hl.1 rfl (lv_room (Nat.le_of_ble_eq_true rfl)) dX6_count_46 ⟨(Nat.le_of_ble_eq_true rfl), (Nat.le_of_ble_eq_true rfl)⟩) ?_
          refine lv_iadd hx hb dX6_count_49 ?_
          refine lv_istore_n (lv' := [(3, .int ((coD (mR M) k10) + (mBy ((mR M)) (nI k10) 40))), (2, .int ((coP (mR M) k10) + (0 : Int32))), (6, .int (bI (iR ((mR M)) (nI k10)))), (5, .int (nI k10)), (4, .int (coG (mR M) k10)), (0, .ref (r 0)), (1, .int (w))]) hx hb dX6_count_50 rfl hl (by decide) rfl (fun ls hl => ?_)
          refine lv_iload hx hb dX6_count_51 (lv_at hl 2 rfl) ?_
          refine lv_if_eq (tgt := 78) hx hb dX6_count_53 (by decide) (fun _ => ?_) (fun c_ => absurd (bI_t c_) (by rw [c_32]; decide))
          refine lv_iload hx hb dX6_count_78 (lv_at hl 4 rfl) ?_
          refine lv_istore (lv' := [(4, .int (coG (mR M) k10)), (3, .int ((coD (mR M) k10) + (mBy ((mR M)) (nI k10) 40))), (2, .int ((coP (mR M) k10) + (0 : Int32))), (6, .int (bI (iR ((mR M)) (nI k10)))), (5, .int (nI k10)), (0, .ref (r 0)), (1, .int (w))]) hx hb dX6_count_80 hl (by decide) rfl (fun ls hl => ?_)
          refine lv_iinc (v := (nI k10) + 1) (lv' := [(5, .int ((nI k10) + 1)), (4, .int (coG (mR M) k10)), (3, .int ((coD (mR M) k10) + (mBy ((mR M)) (nI k10) 40))), (2, .int ((coP (mR M) k10) + (0 : Int32))), (6, .int (bI (iR ((mR M)) (nI k10)))), (0, .ref (r 0)), (1, .int (w))]) hx hb dX6_count_82 hl (k := 4) rfl rfl (by decide) rfl (fun ls hl => ?_)
          refine lv_goto (tgt := 10) hx hb dX6_count_85 (by decide) ?_
          have e10_5 : (nI (k10 + 1) : Int32) = (nI k10) + 1 := (nI_1 _).symm
          have e10_2 : (coP (mR M) (k10 + 1) : Int32) = (coP (mR M) k10) + (0 : Int32) := (by simp [coP, coD, coG, coS, coW, mcoRet, c_18, c_32])
          have e10_3 : (coD (mR M) (k10 + 1) : Int32) = (coD (mR M) k10) + (mBy ((mR M)) (nI k10) 40) := (by rfl)
          have e10_4 : (coG (mR M) (k10 + 1) : Int32) = coG (mR M) k10 := (by simp [coP, coD, coG, coS, coW, mcoRet, c_18, c_32])
          exact ih10 (k10 + 1) (by omega) (by omega) _ (by (try rw [e10_5]); (try rw [e10_2]); (try rw [e10_3]); (try rw [e10_4]); exact lv_sub hl [0, 3, 2, 1, 5, 6] rfl)
        · have c_32 : (iR ((mR M)) (nI k10)) = true := bI_t c_32
          refine lv_iconst (v := 1) hx hb dX6_count_35 (by decide) ?_
          refine lv_goto (tgt := 40) hx hb dX6_count_36 (by decide) ?_
          refine lv_iadd hx hb dX6_count_40 ?_
          refine lv_istore_n (lv' := [(2, .int ((coP (mR M) k10) + (1 : Int32))), (6, .int (bI (iR ((mR M)) (nI k10)))), (5, .int (nI k10)), (3, .int (coD (mR M) k10)), (4, .int (coG (mR M) k10)), (0, .ref (r 0)), (1, .int (w))]) hx hb dX6_count_41 rfl hl (by decide) rfl (fun ls hl => ?_)
          refine lv_iload_n hx hb dX6_count_42 rfl (lv_at hl 3 rfl) ?_
          refine lv_aload_n hx hb dX6_count_43 rfl (lv_at hl 5 rfl) ?_
          refine lv_iload hx hb dX6_count_44 (lv_at hl 2 rfl) ?_
          refine z_ro (va_runV (As := [.int (nI k10)]) (rest := [.int (coD (mR M) k10)]) ⟨hx, hb, hml, hown, hz⟩ (c_X6_owed l D cI cQ r M (nI k10) ((kin hk_10 hA.2.1))) (zcwV 1 hz q3_236 q3_238 qs_36 q1_7 q3_239 hd_X6_owed (Nat.le_of_ble_eq_true rfl) (Nat.le_of_ble_eq_true rfl)) (z_pv (ci := 6) (q := (RX6, TX6, 3)) hK hP rfl rfl) rfl rfl hl.1 rfl (lv_room (Nat.le_of_ble_eq_true rfl)) dX6_count_46 ⟨(Nat.le_of_ble_eq_true rfl), (Nat.le_of_ble_eq_true rfl)⟩) ?_
          refine lv_iadd hx hb dX6_count_49 ?_
          refine lv_istore_n (lv' := [(3, .int ((coD (mR M) k10) + (mBy ((mR M)) (nI k10) 40))), (2, .int ((coP (mR M) k10) + (1 : Int32))), (6, .int (bI (iR ((mR M)) (nI k10)))), (5, .int (nI k10)), (4, .int (coG (mR M) k10)), (0, .ref (r 0)), (1, .int (w))]) hx hb dX6_count_50 rfl hl (by decide) rfl (fun ls hl => ?_)
          refine lv_iload hx hb dX6_count_51 (lv_at hl 2 rfl) ?_
          refine lv_if_eq (tgt := 78) hx hb dX6_count_53 (by decide) (fun c_ => absurd (bI_f c_) (by rw [c_32]; decide)) (fun _ => ?_)
          refine lv_aload_n hx hb dX6_count_56 rfl (lv_at hl 5 rfl) ?_
          refine lv_iload hx hb dX6_count_57 (lv_at hl 3 rfl) ?_
          refine lv_iconst (v := 3) hx hb dX6_count_59 (by decide) ?_
          refine z_ro (va_runV (As := [.int (nI k10), .int (3 : Int32)]) (rest := []) ⟨hx, hb, hml, hown, hz⟩ (c_X6_ofParish l D cI cQ r M (nI k10) (3 : Int32) (ix2 (Or.inl (kin hk_10 hA.2.1)) (z_inC (by decide) (by decide)))) (zcwV 2 hz q3_120 q3_122 qs_15 q1_7 q3_123 hd_X6_ofParish (Nat.le_of_ble_eq_true rfl) (Nat.le_of_ble_eq_true rfl)) (z_pv (ci := 6) (q := (RX6, TX6, 3)) hK hP rfl rfl) rfl rfl hl.1 rfl (lv_room (Nat.le_of_ble_eq_true rfl)) dX6_count_60 ⟨(Nat.le_of_ble_eq_true rfl), (Nat.le_of_ble_eq_true rfl)⟩) ?_
          refine lv_iload hx hb dX6_count_63 (lv_at hl 4 rfl) ?_
          refine lv_icmp_le (tgt := 78) hx hb dX6_count_65 (by decide) (fun c_65 => ?_) (fun c_65 => ?_)
          · have c_65 : (qA ((mR M)) (nI k10) (3 : Int32) : Int32) ≤ coG (mR M) k10 := c_65
            refine lv_iload hx hb dX6_count_78 (lv_at hl 4 rfl) ?_
            refine lv_istore (lv' := [(4, .int (coG (mR M) k10)), (3, .int ((coD (mR M) k10) + (mBy ((mR M)) (nI k10) 40))), (2, .int ((coP (mR M) k10) + (1 : Int32))), (6, .int (bI (iR ((mR M)) (nI k10)))), (5, .int (nI k10)), (0, .ref (r 0)), (1, .int (w))]) hx hb dX6_count_80 hl (by decide) rfl (fun ls hl => ?_)
            refine lv_iinc (v := (nI k10) + 1) (lv' := [(5, .int ((nI k10) + 1)), (4, .int (coG (mR M) k10)), (3, .int ((coD (mR M) k10) + (mBy ((mR M)) (nI k10) 40))), (2, .int ((coP (mR M) k10) + (1 : Int32))), (6, .int (bI (iR ((mR M)) (nI k10)))), (0, .ref (r 0)), (1, .int (w))]) hx hb dX6_count_82 hl (k := 4) rfl rfl (by decide) rfl (fun ls hl => ?_)
            refine lv_goto (tgt := 10) hx hb dX6_count_85 (by decide) ?_
            have e10_5 : (nI (k10 + 1) : Int32) = (nI k10) + 1 := (nI_1 _).symm
            have e10_2 : (coP (mR M) (k10 + 1) : Int32) = (coP (mR M) k10) + (1 : Int32) := (by simp [coP, coD, coG, coS, coW, mcoRet, c_18, c_32, c_65])
            have e10_3 : (coD (mR M) (k10 + 1) : Int32) = (coD (mR M) k10) + (mBy ((mR M)) (nI k10) 40) := (by rfl)
            have e10_4 : (coG (mR M) (k10 + 1) : Int32) = coG (mR M) k10 := (by simp [coP, coD, coG, coS, coW, mcoRet, c_18, c_32, c_65])
            exact ih10 (k10 + 1) (by omega) (by omega) _ (by (try rw [e10_5]); (try rw [e10_2]); (try rw [e10_3]); (try rw [e10_4]); exact lv_sub hl [0, 3, 2, 1, 5, 6] rfl)
          · have c_65 : ¬ ((qA ((mR M)) (nI k10) (3 : Int32) : Int32) ≤ coG (mR M) k10) := c_65
            refine lv_aload_n hx hb dX6_count_68 rfl (lv_at hl 5 rfl) ?_
            refine lv_iload hx hb dX6_count_69 (lv_at hl 3 rfl) ?_
            refine lv_iconst (v := 3) hx hb dX6_count_71 (by decide) ?_
            refine z_ro (va_runV (As := [.int (nI k10), .int (3 : Int32)]) (rest := []) ⟨hx, hb, hml, hown, hz⟩ (c_X6_ofParish l D cI cQ r M (nI k10) (3 : Int32) (ix2 (Or.inl (kin hk_10 hA.2.1)) (z_inC (by decide) (by decide)))) (zcwV 2 hz q3_120 q3_122 qs_15 q1_7 q3_123 hd_X6_ofParish (Nat.le_of_ble_eq_true rfl) (Nat.le_of_ble_eq_true rfl)) (z_pv (ci := 6) (q := (RX6, TX6, 3)) hK hP rfl rfl) rfl rfl hl.1 rfl (lv_room (Nat.le_of_ble_eq_true rfl)) dX6_count_72 ⟨(Nat.le_of_ble_eq_true rfl), (Nat.le_of_ble_eq_true rfl)⟩) ?_
            refine lv_goto (tgt := 80) hx hb dX6_count_75 (by decide) ?_
            refine lv_istore (lv' := [(4, .int (qA ((mR M)) (nI k10) (3 : Int32))), (3, .int ((coD (mR M) k10) + (mBy ((mR M)) (nI k10) 40))), (2, .int ((coP (mR M) k10) + (1 : Int32))), (6, .int (bI (iR ((mR M)) (nI k10)))), (5, .int (nI k10)), (0, .ref (r 0)), (1, .int (w))]) hx hb dX6_count_80 hl (by decide) rfl (fun ls hl => ?_)
            refine lv_iinc (v := (nI k10) + 1) (lv' := [(5, .int ((nI k10) + 1)), (4, .int (qA ((mR M)) (nI k10) (3 : Int32))), (3, .int ((coD (mR M) k10) + (mBy ((mR M)) (nI k10) 40))), (2, .int ((coP (mR M) k10) + (1 : Int32))), (6, .int (bI (iR ((mR M)) (nI k10)))), (0, .ref (r 0)), (1, .int (w))]) hx hb dX6_count_82 hl (k := 4) rfl rfl (by decide) rfl (fun ls hl => ?_)
            refine lv_goto (tgt := 10) hx hb dX6_count_85 (by decide) ?_
            have e10_5 : (nI (k10 + 1) : Int32) = (nI k10) + 1 := (nI_1 _).symm
            have e10_2 : (coP (mR M) (k10 + 1) : Int32) = (coP (mR M) k10) + (1 : Int32) := (by simp [coP, coD, coG, coS, coW, mcoRet, c_18, c_32, c_65])
            have e10_3 : (coD (mR M) (k10 + 1) : Int32) = (coD (mR M) k10) + (mBy ((mR M)) (nI k10) 40) := (by rfl)
            have e10_4 : (coG (mR M) (k10 + 1) : Int32) = qA ((mR M)) (nI k10) (3 : Int32) := (by simp [coP, coD, coG, coS, coW, mcoRet, c_18, c_32, c_65])
            exact ih10 (k10 + 1) (by omega) (by omega) _ (by (try rw [e10_5]); (try rw [e10_2]); (try rw [e10_3]); (try rw [e10_4]); exact lv_sub hl [0, 3, 2, 1, 5, 6] rfl)
  have e10_5 : (nI 0 : Int32) = (0 : Int32) := rfl
  have e10_2 : (coP (mR M) 0 : Int32) = (0 : Int32) := (by rfl)
  have e10_3 : (coD (mR M) 0 : Int32) = (0 : Int32) := (by rfl)
  have e10_4 : (coG (mR M) 0 : Int32) = (0 : Int32) := (by rfl)
  exact L10 (f + 1) (0) (Nat.zero_le _) (by omega) _ (by (try rw [e10_5]); (try rw [e10_2]); (try rw [e10_3]); (try rw [e10_4]); exact lv_sub hl [0, 3, 2, 1, 4, 5] rfl)
set_option maxHeartbeats 1000000 in
set_option maxRecDepth 100000 in
theorem c_X6_point (l : Launch) (D : va_G) (cI cQ : ClassId) (r : Nat → Nat) (M : MS) (i w : Int32) (a : Nat) (f : Nat) (hA : mOk (mR M) a f) : zRO l yX6_point (Cond.code yX6_point cX6_point 3 (some .int) :: zT) 4 89 [.ref (r 0), .int i, .int w] D cI cQ (zMod cI r M) (mpoRet (mR M) f i w) := by
  refine zRO.of (cc := cX6_point) (maxL := 3) (ret := some .int) (by decide +kernel) rfl (Nat.le_of_ble_eq_true rfl) ?_
  intro pg e s mi args below meth cd hx hb hr hts hown hlocks hml hP hK ls hl
  have hz : ∀ w ∈ zT, w.before args s = true := fun w h => hts w (List.mem_cons_of_mem _ h)
  have hl : lv_has ls 3 [(0, .ref (r 0)), (1, .int (i)), (2, .int (w))] := hl
  refine lv_aload_n hx hb dX6_point_0 rfl (lv_at hl 0 rfl) ?_
  refine lv_iload_n hx hb dX6_point_1 rfl (lv_at hl 1 rfl) ?_
  refine z_ro (va_runV (As := [.int (i)]) (rest := []) ⟨hx, hb, hml, hown, hz⟩ (c_X6_isPoint l D cI cQ r M i (a) (f) (hA)) (zcwV 1 hz q3_156 q3_158 qs_24 q1_7 q3_159 hd_X6_isPoint (Nat.le_of_ble_eq_true rfl) (Nat.le_of_ble_eq_true rfl)) (z_pv (ci := 6) (q := (RX6, TX6, 3)) hK hP rfl rfl) rfl rfl hl.1 rfl (lv_room (Nat.le_of_ble_eq_true rfl)) dX6_point_2 ⟨(Nat.le_of_ble_eq_true rfl), (Nat.le_of_ble_eq_true rfl)⟩) ?_
  refine lv_if_eq (tgt := 17) hx hb dX6_point_5 (by decide) (fun c_5 => ?_) (fun c_5 => ?_)
  · have c_5 : (iP ((mR M)) i) = false := bI_f c_5
    refine lv_iconst (v := (-1)) hx hb dX6_point_17 (by decide) ?_
    exact z_iret hx hb hr rfl hlocks (by simp [mpoRet, c_5]) dX6_point_18
  · have c_5 : (iP ((mR M)) i) = true := bI_t c_5
    refine lv_iload_n hx hb dX6_point_8 rfl (lv_at hl 2 rfl) ?_
    refine lv_iconst (v := 0) hx hb dX6_point_9 (by decide) ?_
    refine lv_iconst (v := 4) hx hb dX6_point_10 (by decide) ?_
    refine z_ro (va_runS (As := [.int (w), .int (0 : Int32), .int (4 : Int32)]) (rest := []) ⟨hx, hb, hml, hown, hz⟩ (c_X6_in l D cI cQ w (0 : Int32) (4 : Int32)) (zcwS 3 hz q3_105 q3_106 q1_7 q3_107 hd_X6_in (Nat.le_of_ble_eq_true rfl) (Nat.le_of_ble_eq_true rfl)) (z_ps hK z_nil) rfl rfl hl.1 rfl (lv_room (Nat.le_of_ble_eq_true rfl)) dX6_point_11 ⟨(Nat.le_of_ble_eq_true rfl), (Nat.le_of_ble_eq_true rfl)⟩) ?_
    refine lv_if_ne (tgt := 19) hx hb dX6_point_14 (by decide) (fun c_14 => ?_) (fun c_14 => ?_)
    · have c_14 : (btw w (0 : Int32) (4 : Int32)) = true := bI_t c_14
      refine lv_iload_n hx hb dX6_point_19 rfl (lv_at hl 2 rfl) ?_
      refine lv_iconst (v := 3) hx hb dX6_point_20 (by decide) ?_
      refine lv_icmp_ge (tgt := 33) hx hb dX6_point_21 (by decide) (fun c_21 => ?_) (fun c_21 => ?_)
      · have c_21 : ((3 : Int32) : Int32) ≤ w := c_21
        refine lv_iload_n hx hb dX6_point_33 rfl (lv_at hl 2 rfl) ?_
        refine lv_iconst (v := 3) hx hb dX6_point_34 (by decide) ?_
        refine lv_icmp_ne (tgt := 46) hx hb dX6_point_35 (by decide) (fun c_35 => ?_) (fun c_35 => ?_)
        · have c_35 : ¬ ((w : Int32) = (3 : Int32)) := c_35
          refine lv_aload_n hx hb dX6_point_46 rfl (lv_at hl 0 rfl) ?_
          refine lv_iload_n hx hb dX6_point_47 rfl (lv_at hl 1 rfl) ?_
          refine lv_iconst (v := 4) hx hb dX6_point_48 (by decide) ?_
          refine z_ro (va_runV (As := [.int (i), .int (4 : Int32)]) (rest := []) ⟨hx, hb, hml, hown, hz⟩ (c_X6_ofPoint l D cI cQ r M i (4 : Int32) (ix1 (iP_in hA c_5) (z_inC (by decide) (by decide)))) (zcwV 2 hz q3_160 q3_162 qs_25 q1_7 q3_163 hd_X6_ofPoint (Nat.le_of_ble_eq_true rfl) (Nat.le_of_ble_eq_true rfl)) (z_pv (ci := 6) (q := (RX6, TX6, 3)) hK hP rfl rfl) rfl rfl hl.1 rfl (lv_room (Nat.le_of_ble_eq_true rfl)) dX6_point_49 ⟨(Nat.le_of_ble_eq_true rfl), (Nat.le_of_ble_eq_true rfl)⟩) ?_
          exact z_iret hx hb hr rfl hlocks (by rw [mpoRet, if_pos (by rw [c_5, c_14]; rfl)]; simp [c_21, c_35]) dX6_point_52
        · have c_35 : (w : Int32) = (3 : Int32) := c_35
          refine lv_aload_n hx hb dX6_point_38 rfl (lv_at hl 0 rfl) ?_
          refine lv_iload_n hx hb dX6_point_39 rfl (lv_at hl 1 rfl) ?_
          refine z_ro (va_runV (As := [.int (i)]) (rest := []) ⟨hx, hb, hml, hown, hz⟩ (c_X6_parishOf l D cI cQ r M i (a) (f) (hA) (iP_in hA c_5)) (zcwV 1 hz q3_192 q3_194 qs_31 q1_7 q3_195 hd_X6_parishOf (Nat.le_of_ble_eq_true rfl) (Nat.le_of_ble_eq_true rfl)) (z_pv (ci := 6) (q := (RX6, TX6, 3)) hK hP rfl rfl) rfl rfl hl.1 rfl (lv_room (Nat.le_of_ble_eq_true rfl)) dX6_point_40 ⟨(Nat.le_of_ble_eq_true rfl), (Nat.le_of_ble_eq_true rfl)⟩) ?_
          refine lv_goto (tgt := 52) hx hb dX6_point_43 (by decide) ?_
          exact z_iret hx hb hr rfl hlocks (by rw [mpoRet, if_pos (by rw [c_5, c_14]; rfl)]; simp [c_21, c_35]) dX6_point_52
      · have c_21 : ¬ (((3 : Int32) : Int32) ≤ w) := c_21
        refine lv_aload_n hx hb dX6_point_24 rfl (lv_at hl 0 rfl) ?_
        refine lv_iload_n hx hb dX6_point_25 rfl (lv_at hl 1 rfl) ?_
        refine lv_iload_n hx hb dX6_point_26 rfl (lv_at hl 2 rfl) ?_
        refine z_ro (va_runV (As := [.int (i), .int (w)]) (rest := []) ⟨hx, hb, hml, hown, hz⟩ (c_X6_ofPoint l D cI cQ r M i w (ix1 (iP_in hA c_5) (z_wk (btw_w (n := 4) (by decide) rfl c_14) (by decide)))) (zcwV 2 hz q3_160 q3_162 qs_25 q1_7 q3_163 hd_X6_ofPoint (Nat.le_of_ble_eq_true rfl) (Nat.le_of_ble_eq_true rfl)) (z_pv (ci := 6) (q := (RX6, TX6, 3)) hK hP rfl rfl) rfl rfl hl.1 rfl (lv_room (Nat.le_of_ble_eq_true rfl)) dX6_point_27 ⟨(Nat.le_of_ble_eq_true rfl), (Nat.le_of_ble_eq_true rfl)⟩) ?_
        refine lv_goto (tgt := 52) hx hb dX6_point_30 (by decide) ?_
        exact z_iret hx hb hr rfl hlocks (by rw [mpoRet, if_pos (by rw [c_5, c_14]; rfl)]; simp [c_21]) dX6_point_52
    · have c_14 : (btw w (0 : Int32) (4 : Int32)) = false := bI_f c_14
      refine lv_iconst (v := (-1)) hx hb dX6_point_17 (by decide) ?_
      exact z_iret hx hb hr rfl hlocks (by simp [mpoRet, c_5, c_14]) dX6_point_18
set_option maxHeartbeats 1000000 in
set_option maxRecDepth 100000 in
theorem c_X6_parish (l : Launch) (D : va_G) (cI cQ : ClassId) (r : Nat → Nat) (M : MS) (p w : Int32) (a : Nat) (f : Nat) (hA : mOk (mR M) a f) : zRO l yX6_parish (Cond.code yX6_parish cX6_parish 7 (some .int) :: zT) 4 92 [.ref (r 0), .int p, .int w] D cI cQ (zMod cI r M) (mpaRet (mR M) a p w) := by
  refine zRO.of (cc := cX6_parish) (maxL := 7) (ret := some .int) (by decide +kernel) rfl (Nat.le_of_ble_eq_true rfl) ?_
  intro pg e s mi args below meth cd hx hb hr hts hown hlocks hml hP hK ls hl
  have hz : ∀ w ∈ zT, w.before args s = true := fun w h => hts w (List.mem_cons_of_mem _ h)
  have hl : lv_has ls 7 [(0, .ref (r 0)), (1, .int (p)), (2, .int (w))] := hl
  refine lv_aload_n hx hb dX6_parish_0 rfl (lv_at hl 0 rfl) ?_
  refine lv_iload_n hx hb dX6_parish_1 rfl (lv_at hl 1 rfl) ?_
  refine z_ro (va_runV (As := [.int (p)]) (rest := []) ⟨hx, hb, hml, hown, hz⟩ (c_X6_isParish l D cI cQ r M p (a) (f) (hA)) (zcwV 1 hz q3_124 q3_126 qs_16 q1_7 q3_127 hd_X6_isParish (Nat.le_of_ble_eq_true rfl) (Nat.le_of_ble_eq_true rfl)) (z_pv (ci := 6) (q := (RX6, TX6, 3)) hK hP rfl rfl) rfl rfl hl.1 rfl (lv_room (Nat.le_of_ble_eq_true rfl)) dX6_parish_2 ⟨(Nat.le_of_ble_eq_true rfl), (Nat.le_of_ble_eq_true rfl)⟩) ?_
  refine lv_if_eq (tgt := 18) hx hb dX6_parish_5 (by decide) (fun c_5 => ?_) (fun c_5 => ?_)
  · have c_5 : (iR ((mR M)) p) = false := bI_f c_5
    refine lv_iconst (v := (-1)) hx hb dX6_parish_18 (by decide) ?_
    exact z_iret hx hb hr rfl hlocks (by simp [maO, maW, mpaRet, c_5]) dX6_parish_19
  · have c_5 : (iR ((mR M)) p) = true := bI_t c_5
    refine lv_iload_n hx hb dX6_parish_8 rfl (lv_at hl 2 rfl) ?_
    refine lv_iconst (v := 0) hx hb dX6_parish_9 (by decide) ?_
    refine lv_bipush (v := 7) hx hb dX6_parish_10 (by decide) ?_
    refine z_ro (va_runS (As := [.int (w), .int (0 : Int32), .int (7 : Int32)]) (rest := []) ⟨hx, hb, hml, hown, hz⟩ (c_X6_in l D cI cQ w (0 : Int32) (7 : Int32)) (zcwS 3 hz q3_105 q3_106 q1_7 q3_107 hd_X6_in (Nat.le_of_ble_eq_true rfl) (Nat.le_of_ble_eq_true rfl)) (z_ps hK z_nil) rfl rfl hl.1 rfl (lv_room (Nat.le_of_ble_eq_true rfl)) dX6_parish_12 ⟨(Nat.le_of_ble_eq_true rfl), (Nat.le_of_ble_eq_true rfl)⟩) ?_
    refine lv_if_ne (tgt := 20) hx hb dX6_parish_15 (by decide) (fun c_15 => ?_) (fun c_15 => ?_)
    · have c_15 : (btw w (0 : Int32) (7 : Int32)) = true := bI_t c_15
      refine lv_iconst (v := 0) hx hb dX6_parish_20 (by decide) ?_
      refine lv_istore_n (lv' := [(3, .int (0 : Int32)), (0, .ref (r 0)), (1, .int (p)), (2, .int (w))]) hx hb dX6_parish_21 rfl hl (by decide) rfl (fun ls hl => ?_)
      refine lv_iconst (v := 0) hx hb dX6_parish_22 (by decide) ?_
      refine lv_istore (lv' := [(4, .int (0 : Int32)), (3, .int (0 : Int32)), (0, .ref (r 0)), (1, .int (p)), (2, .int (w))]) hx hb dX6_parish_23 hl (by decide) rfl (fun ls hl => ?_)
      refine lv_iconst (v := 0) hx hb dX6_parish_25 (by decide) ?_
      refine lv_istore (lv' := [(5, .int (0 : Int32)), (4, .int (0 : Int32)), (3, .int (0 : Int32)), (0, .ref (r 0)), (1, .int (p)), (2, .int (w))]) hx hb dX6_parish_26 hl (by decide) rfl (fun ls hl => ?_)
      have L28 : ∀ (n28 k28 : Nat), k28 ≤ a → a < k28 + n28 → ∀ (ls : Array Slot), lv_has ls 7 [(5, .int (nI k28)), (3, .int (maO (mR M) p k28)), (4, .int (maW (mR M) p k28)), (0, .ref (r 0)), (1, .int (p)), (2, .int (w))] → W pg l e ({ frames := 4, cells := 0, slots := 0, locals := 92 }) s mi args below meth cd s.heap [] 0 0 (MQ below (vp_Si (fun r => r = mpaRet (mR M) a p w)) args s 0 0 (fun _ => False)) (F0 mi 28 ls []) := by
        intro n28
        induction n28 with
        | zero => intro k28 h1 h2; exact absurd h2 (by omega)
        | succ n28 ih28 =>
          intro k28 h1_28 h2_28  ls hl
          refine lv_iload hx hb dX6_parish_28 (lv_at hl 0 rfl) ?_
          refine lv_aload_n hx hb dX6_parish_30 rfl (lv_at hl 3 rfl) ?_
          refine va_get (D := D) (ci := 6) (v := .ref (r 1)) (C := RX6) (T := TX6) (N := 3) hx hb hz inZ6 hown hK.1 hP 0 rfl rfl 0 (by decide) (hz _ q3_88) (fun _ h9 => h9) rfl dX6_parish_31 ?_
          refine lv_iconst (v := 2) hx hb dX6_parish_34 (by decide) ?_
          refine va_iald (f := mR M) hx hb hK.1 hP 1 0 rfl rfl (i := (2 : Int32)) (z_inC (by decide) (by decide)) dX6_parish_35 ?_
          refine lv_icmp_ge (tgt := 106) hx hb dX6_parish_36 (by decide) (fun c_36 => ?_) (fun c_36 => ?_)
          · have c_36 : ((mR M) 2 : Int32) ≤ nI k28 := c_36
            rw [hA.2.2.1] at c_36
            have hk_28 : k28 = a := z_exit (by have := hA.1; omega) h1_28 c_36
            refine lv_iconst (v := 0) hx hb dX6_parish_106 (by decide) ?_
            refine lv_istore (lv' := [(5, .int (0 : Int32)), (3, .int (maO (mR M) p k28)), (4, .int (maW (mR M) p k28)), (0, .ref (r 0)), (1, .int (p)), (2, .int (w))]) hx hb dX6_parish_107 hl (by decide) rfl (fun ls hl => ?_)
            refine lv_iconst (v := 0) hx hb dX6_parish_109 (by decide) ?_
            refine lv_istore (lv' := [(6, .int (0 : Int32)), (5, .int (0 : Int32)), (3, .int (maO (mR M) p k28)), (4, .int (maW (mR M) p k28)), (0, .ref (r 0)), (1, .int (p)), (2, .int (w))]) hx hb dX6_parish_110 hl (by decide) rfl (fun ls hl => ?_)
            have L112 : ∀ (n112 k112 : Nat), k112 ≤ 40 → 40 < k112 + n112 → ∀ (ls : Array Slot), lv_has ls 7 [(6, .int (nI k112)), (5, .int (maG (mR M) p k112)), (3, .int (maO (mR M) p k28)), (4, .int (maW (mR M) p k28)), (0, .ref (r 0)), (1, .int (p)), (2, .int (w))] → W pg l e ({ frames := 4, cells := 0, slots := 0, locals := 92 }) s mi args below meth cd s.heap [] 0 0 (MQ below (vp_Si (fun r => r = mpaRet (mR M) a p w)) args s 0 0 (fun _ => False)) (F0 mi 112 ls []) := by
              intro n112
              induction n112 with
              | zero => intro k112 h1 h2; exact absurd h2 (by omega)
              | succ n112 ih112 =>
                intro k112 h1_112 h2_112  ls hl
                refine lv_iload hx hb dX6_parish_112 (lv_at hl 0 rfl) ?_
                refine lv_bipush (v := 40) hx hb dX6_parish_114 (by decide) ?_
                refine lv_icmp_ge (tgt := 137) hx hb dX6_parish_116 (by decide) (fun c_116 => ?_) (fun c_116 => ?_)
                · have c_116 : ((40 : Int32) : Int32) ≤ nI k112 := c_116
                  have hk_112 : k112 = 40 := z_exit (by decide) h1_112 c_116
                  refine lv_iload_n hx hb dX6_parish_137 rfl (lv_at hl 6 rfl) ?_
                  by_cases c_138_0 : w = 0
                  · rw [c_138_0]
                    refine lv_tableIn (tgt := 180) hx hb dX6_parish_138 (by decide) (by decide) rfl (by decide) ?_
                    refine lv_aload_n hx hb dX6_parish_180 rfl (lv_at hl 4 rfl) ?_
                    refine lv_iload_n hx hb dX6_parish_181 rfl (lv_at hl 5 rfl) ?_
                    refine lv_iload_n hx hb dX6_parish_182 rfl (lv_at hl 6 rfl) ?_
                    refine lv_iconst (v := 1) hx hb dX6_parish_183 (by decide) ?_
                    refine lv_iadd hx hb dX6_parish_184 ?_
                    refine z_ro (va_runV (As := [.int (p), .int (w + (1 : Int32))]) (rest := []) ⟨hx, hb, hml, hown, hz⟩ (c_X6_ofParish l D cI cQ r M p (w + (1 : Int32)) (ix2 (Or.inl (iR_in hA c_5)) (wp1 (btw_w (n := 7) (by decide) rfl c_15)))) (zcwV 2 hz q3_120 q3_122 qs_15 q1_7 q3_123 hd_X6_ofParish (Nat.le_of_ble_eq_true rfl) (Nat.le_of_ble_eq_true rfl)) (z_pv (ci := 6) (q := (RX6, TX6, 3)) hK hP rfl rfl) rfl rfl hl.1 rfl (lv_room (Nat.le_of_ble_eq_true rfl)) dX6_parish_185 ⟨(Nat.le_of_ble_eq_true rfl), (Nat.le_of_ble_eq_true rfl)⟩) ?_
                    exact z_iret hx hb hr rfl hlocks (by rw [mpaRet, if_pos (by rw [c_5]; first | decide | (rw [c_15]; rfl))]; simp [c_36, c_116, c_138_0, hk_28, hk_112]) dX6_parish_188
                  by_cases c_138_1 : w = 1
                  · rw [c_138_1]
                    refine lv_tableIn (tgt := 180) hx hb dX6_parish_138 (by decide) (by decide) rfl (by decide) ?_
                    refine lv_aload_n hx hb dX6_parish_180 rfl (lv_at hl 4 rfl) ?_
                    refine lv_iload_n hx hb dX6_parish_181 rfl (lv_at hl 5 rfl) ?_
                    refine lv_iload_n hx hb dX6_parish_182 rfl (lv_at hl 6 rfl) ?_
                    refine lv_iconst (v := 1) hx hb dX6_parish_183 (by decide) ?_
                    refine lv_iadd hx hb dX6_parish_184 ?_
                    refine z_ro (va_runV (As := [.int (p), .int (w + (1 : Int32))]) (rest := []) ⟨hx, hb, hml, hown, hz⟩ (c_X6_ofParish l D cI cQ r M p (w + (1 : Int32)) (ix2 (Or.inl (iR_in hA c_5)) (wp1 (btw_w (n := 7) (by decide) rfl c_15)))) (zcwV 2 hz q3_120 q3_122 qs_15 q1_7 q3_123 hd_X6_ofParish (Nat.le_of_ble_eq_true rfl) (Nat.le_of_ble_eq_true rfl)) (z_pv (ci := 6) (q := (RX6, TX6, 3)) hK hP rfl rfl) rfl rfl hl.1 rfl (lv_room (Nat.le_of_ble_eq_true rfl)) dX6_parish_185 ⟨(Nat.le_of_ble_eq_true rfl), (Nat.le_of_ble_eq_true rfl)⟩) ?_
                    exact z_iret hx hb hr rfl hlocks (by rw [mpaRet, if_pos (by rw [c_5]; first | decide | (rw [c_15]; rfl))]; simp [c_36, c_116, c_138_0, c_138_1, hk_28, hk_112]) dX6_parish_188
                  by_cases c_138_2 : w = 2
                  · rw [c_138_2]
                    refine lv_tableIn (tgt := 180) hx hb dX6_parish_138 (by decide) (by decide) rfl (by decide) ?_
                    refine lv_aload_n hx hb dX6_parish_180 rfl (lv_at hl 4 rfl) ?_
                    refine lv_iload_n hx hb dX6_parish_181 rfl (lv_at hl 5 rfl) ?_
                    refine lv_iload_n hx hb dX6_parish_182 rfl (lv_at hl 6 rfl) ?_
                    refine lv_iconst (v := 1) hx hb dX6_parish_183 (by decide) ?_
                    refine lv_iadd hx hb dX6_parish_184 ?_
                    refine z_ro (va_runV (As := [.int (p), .int (w + (1 : Int32))]) (rest := []) ⟨hx, hb, hml, hown, hz⟩ (c_X6_ofParish l D cI cQ r M p (w + (1 : Int32)) (ix2 (Or.inl (iR_in hA c_5)) (wp1 (btw_w (n := 7) (by decide) rfl c_15)))) (zcwV 2 hz q3_120 q3_122 qs_15 q1_7 q3_123 hd_X6_ofParish (Nat.le_of_ble_eq_true rfl) (Nat.le_of_ble_eq_true rfl)) (z_pv (ci := 6) (q := (RX6, TX6, 3)) hK hP rfl rfl) rfl rfl hl.1 rfl (lv_room (Nat.le_of_ble_eq_true rfl)) dX6_parish_185 ⟨(Nat.le_of_ble_eq_true rfl), (Nat.le_of_ble_eq_true rfl)⟩) ?_
                    exact z_iret hx hb hr rfl hlocks (by rw [mpaRet, if_pos (by rw [c_5]; first | decide | (rw [c_15]; rfl))]; simp [c_36, c_116, c_138_0, c_138_1, c_138_2, hk_28, hk_112]) dX6_parish_188
                  by_cases c_138_3 : w = 3
                  · rw [c_138_3]
                    refine lv_tableIn (tgt := 189) hx hb dX6_parish_138 (by decide) (by decide) rfl (by decide) ?_
                    refine lv_aload_n hx hb dX6_parish_189 rfl (lv_at hl 4 rfl) ?_
                    refine lv_aload_n hx hb dX6_parish_190 rfl (lv_at hl 4 rfl) ?_
                    refine lv_iload_n hx hb dX6_parish_191 rfl (lv_at hl 5 rfl) ?_
                    refine lv_iconst (v := 1) hx hb dX6_parish_192 (by decide) ?_
                    refine z_ro (va_runV (As := [.int (p), .int (1 : Int32)]) (rest := [.ref (r 0)]) ⟨hx, hb, hml, hown, hz⟩ (c_X6_ofParish l D cI cQ r M p (1 : Int32) (ix2 (Or.inl (iR_in hA c_5)) (z_inC (by decide) (by decide)))) (zcwV 2 hz q3_120 q3_122 qs_15 q1_7 q3_123 hd_X6_ofParish (Nat.le_of_ble_eq_true rfl) (Nat.le_of_ble_eq_true rfl)) (z_pv (ci := 6) (q := (RX6, TX6, 3)) hK hP rfl rfl) rfl rfl hl.1 rfl (lv_room (Nat.le_of_ble_eq_true rfl)) dX6_parish_193 ⟨(Nat.le_of_ble_eq_true rfl), (Nat.le_of_ble_eq_true rfl)⟩) ?_
                    refine lv_aload_n hx hb dX6_parish_196 rfl (lv_at hl 4 rfl) ?_
                    refine lv_iload_n hx hb dX6_parish_197 rfl (lv_at hl 5 rfl) ?_
                    refine lv_iconst (v := 2) hx hb dX6_parish_198 (by decide) ?_
                    refine z_ro (va_runV (As := [.int (p), .int (2 : Int32)]) (rest := [.int (qA ((mR M)) p (1 : Int32)), .ref (r 0)]) ⟨hx, hb, hml, hown, hz⟩ (c_X6_ofParish l D cI cQ r M p (2 : Int32) (ix2 (Or.inl (iR_in hA c_5)) (z_inC (by decide) (by decide)))) (zcwV 2 hz q3_120 q3_122 qs_15 q1_7 q3_123 hd_X6_ofParish (Nat.le_of_ble_eq_true rfl) (Nat.le_of_ble_eq_true rfl)) (z_pv (ci := 6) (q := (RX6, TX6, 3)) hK hP rfl rfl) rfl rfl hl.1 rfl (lv_room (Nat.le_of_ble_eq_true rfl)) dX6_parish_199 ⟨(Nat.le_of_ble_eq_true rfl), (Nat.le_of_ble_eq_true rfl)⟩) ?_
                    refine lv_aload_n hx hb dX6_parish_202 rfl (lv_at hl 4 rfl) ?_
                    refine lv_iload_n hx hb dX6_parish_203 rfl (lv_at hl 5 rfl) ?_
                    refine z_ro (va_runV (As := [.int (p)]) (rest := [.int (qA ((mR M)) p (2 : Int32)), .int (qA ((mR M)) p (1 : Int32)), .ref (r 0)]) ⟨hx, hb, hml, hown, hz⟩ (c_X6_sideOf l D cI cQ r M p (Or.inl (iR_in hA c_5))) (zcwV 1 hz q3_128 q3_130 qs_17 q1_7 q3_131 hd_X6_sideOf (Nat.le_of_ble_eq_true rfl) (Nat.le_of_ble_eq_true rfl)) (z_pv (ci := 6) (q := (RX6, TX6, 3)) hK hP rfl rfl) rfl rfl hl.1 rfl (lv_room (Nat.le_of_ble_eq_true rfl)) dX6_parish_204 ⟨(Nat.le_of_ble_eq_true rfl), (Nat.le_of_ble_eq_true rfl)⟩) ?_
                    refine z_ro (va_runV (As := [.int (qA ((mR M)) p (1 : Int32)), .int (qA ((mR M)) p (2 : Int32)), .int (mSd ((mR M)) p)]) (rest := []) ⟨hx, hb, hml, hown, hz⟩ (c_X6_pointsInCell l D cI cQ r M (qA ((mR M)) p (1 : Int32)) (qA ((mR M)) p (2 : Int32)) (mSd ((mR M)) p) (a) (f) (hA)) (zcwV 3 hz q3_148 q3_150 qs_22 q1_7 q3_151 hd_X6_pointsInCell (Nat.le_of_ble_eq_true rfl) (Nat.le_of_ble_eq_true rfl)) (z_pv (ci := 6) (q := (RX6, TX6, 3)) hK hP rfl rfl) rfl rfl hl.1 rfl (lv_room (Nat.le_of_ble_eq_true rfl)) dX6_parish_207 ⟨(Nat.le_of_ble_eq_true rfl), (Nat.le_of_ble_eq_true rfl)⟩) ?_
                    exact z_iret hx hb hr rfl hlocks (by rw [mpaRet, if_pos (by rw [c_5]; first | decide | (rw [c_15]; rfl))]; simp [c_36, c_116, c_138_0, c_138_1, c_138_2, c_138_3, hk_28, hk_112]) dX6_parish_210
                  by_cases c_138_4 : w = 4
                  · rw [c_138_4]
                    refine lv_tableIn (tgt := 211) hx hb dX6_parish_138 (by decide) (by decide) rfl (by decide) ?_
                    refine lv_iload_n hx hb dX6_parish_211 rfl (lv_at hl 2 rfl) ?_
                    exact z_iret hx hb hr rfl hlocks (by rw [mpaRet, if_pos (by rw [c_5]; first | decide | (rw [c_15]; rfl))]; simp [c_36, c_116, c_138_0, c_138_1, c_138_2, c_138_3, c_138_4, hk_28, hk_112]) dX6_parish_212
                  by_cases c_138_5 : w = 5
                  · rw [c_138_5]
                    refine lv_tableIn (tgt := 213) hx hb dX6_parish_138 (by decide) (by decide) rfl (by decide) ?_
                    refine lv_iload hx hb dX6_parish_213 (lv_at hl 3 rfl) ?_
                    exact z_iret hx hb hr rfl hlocks (by rw [mpaRet, if_pos (by rw [c_5]; first | decide | (rw [c_15]; rfl))]; simp [c_36, c_116, c_138_0, c_138_1, c_138_2, c_138_3, c_138_4, c_138_5, hk_28, hk_112]) dX6_parish_215
                  by_cases c_138_6 : w = 6
                  · rw [c_138_6]
                    refine lv_tableIn (tgt := 216) hx hb dX6_parish_138 (by decide) (by decide) rfl (by decide) ?_
                    refine lv_aload_n hx hb dX6_parish_216 rfl (lv_at hl 4 rfl) ?_
                    refine lv_iload_n hx hb dX6_parish_217 rfl (lv_at hl 5 rfl) ?_
                    refine z_ro (va_runV (As := [.int (p)]) (rest := []) ⟨hx, hb, hml, hown, hz⟩ (c_X6_owed l D cI cQ r M p (iR_in hA c_5)) (zcwV 1 hz q3_236 q3_238 qs_36 q1_7 q3_239 hd_X6_owed (Nat.le_of_ble_eq_true rfl) (Nat.le_of_ble_eq_true rfl)) (z_pv (ci := 6) (q := (RX6, TX6, 3)) hK hP rfl rfl) rfl rfl hl.1 rfl (lv_room (Nat.le_of_ble_eq_true rfl)) dX6_parish_218 ⟨(Nat.le_of_ble_eq_true rfl), (Nat.le_of_ble_eq_true rfl)⟩) ?_
                    exact z_iret hx hb hr rfl hlocks (by rw [mpaRet, if_pos (by rw [c_5]; first | decide | (rw [c_15]; rfl))]; simp [c_36, c_116, c_138_0, c_138_1, c_138_2, c_138_3, c_138_4, c_138_5, c_138_6, hk_28, hk_112]) dX6_parish_221
                  refine lv_tableOut (tgt := 222) hx hb dX6_parish_138 (z_sw6 c_138_0 c_138_1 c_138_2 c_138_3 c_138_4 c_138_5 c_138_6) (by decide) ?_
                  refine lv_iload hx hb dX6_parish_222 (lv_at hl 1 rfl) ?_
                  exact z_iret hx hb hr rfl hlocks (by rw [mpaRet, if_pos (by rw [c_5]; first | decide | (rw [c_15]; rfl))]; simp [c_36, c_116, c_138_0, c_138_1, c_138_2, c_138_3, c_138_4, c_138_5, c_138_6, hk_28, hk_112]) dX6_parish_224
                · have c_116 : ¬ (((40 : Int32) : Int32) ≤ nI k112) := c_116
                  have hk_112 : k112 < 40 := z_cont (by decide) h1_112 c_116
                  refine lv_iload hx hb dX6_parish_119 (lv_at hl 1 rfl) ?_
                  refine lv_aload_n hx hb dX6_parish_121 rfl (lv_at hl 4 rfl) ?_
                  refine lv_iload hx hb dX6_parish_122 (lv_at hl 0 rfl) ?_
                  refine lv_iload_n hx hb dX6_parish_124 rfl (lv_at hl 5 rfl) ?_
                  refine z_ro (va_runV (As := [.int (nI k112), .int (p)]) (rest := [.int (maG (mR M) p k112)]) ⟨hx, hb, hml, hown, hz⟩ (c_X6_debtOf l D cI cQ r M (nI k112) p (ix3 (kin hk_112 (by omega)) (iR_in hA c_5))) (zcwV 2 hz q3_212 q3_214 qs_33 q1_7 q3_215 hd_X6_debtOf (Nat.le_of_ble_eq_true rfl) (Nat.le_of_ble_eq_true rfl)) (z_pv (ci := 6) (q := (RX6, TX6, 3)) hK hP rfl rfl) rfl rfl hl.1 rfl (lv_room (Nat.le_of_ble_eq_true rfl)) dX6_parish_125 ⟨(Nat.le_of_ble_eq_true rfl), (Nat.le_of_ble_eq_true rfl)⟩) ?_
                  refine lv_iadd hx hb dX6_parish_128 ?_
                  refine lv_istore (lv' := [(5, .int ((maG (mR M) p k112) + (dO ((mR M)) (nI k112) p))), (6, .int (nI k112)), (3, .int (maO (mR M) p k28)), (4, .int (maW (mR M) p k28)), (0, .ref (r 0)), (1, .int (p)), (2, .int (w))]) hx hb dX6_parish_129 hl (by decide) rfl (fun ls hl => ?_)
                  refine lv_iinc (v := (nI k112) + 1) (lv' := [(6, .int ((nI k112) + 1)), (5, .int ((maG (mR M) p k112) + (dO ((mR M)) (nI k112) p))), (3, .int (maO (mR M) p k28)), (4, .int (maW (mR M) p k28)), (0, .ref (r 0)), (1, .int (p)), (2, .int (w))]) hx hb dX6_parish_131 hl (k := 1) rfl rfl (by decide) rfl (fun ls hl => ?_)
                  refine lv_goto (tgt := 112) hx hb dX6_parish_134 (by decide) ?_
                  have e112_6 : (nI (k112 + 1) : Int32) = (nI k112) + 1 := (nI_1 _).symm
                  have e112_5 : (maG (mR M) p (k112 + 1) : Int32) = (maG (mR M) p k112) + (dO ((mR M)) (nI k112) p) := (by rfl)
                  exact ih112 (k112 + 1) (by omega) (by omega) _ (by (try rw [e112_6]); (try rw [e112_5]); exact lv_sub hl [0, 1, 2, 3, 4, 5, 6] rfl)
            have e112_6 : (nI 0 : Int32) = (0 : Int32) := rfl
            have e112_5 : (maG (mR M) p 0 : Int32) = (0 : Int32) := (by rfl)
            exact L112 (40 + 1) (0) (Nat.zero_le _) (by omega) _ (by (try rw [e112_6]); (try rw [e112_5]); exact lv_sub hl [0, 1, 2, 3, 4, 5, 6] rfl)
          · have c_36 : ¬ (((mR M) 2 : Int32) ≤ nI k28) := c_36
            rw [hA.2.2.1] at c_36
            have hk_28 : k28 < a := z_cont (by have := hA.1; omega) h1_28 c_36
            refine lv_aload_n hx hb dX6_parish_39 rfl (lv_at hl 3 rfl) ?_
            refine lv_iload hx hb dX6_parish_40 (lv_at hl 0 rfl) ?_
            refine z_ro (va_runV (As := [.int (nI k28)]) (rest := []) ⟨hx, hb, hml, hown, hz⟩ (c_X6_isPoint l D cI cQ r M (nI k28) (a) (f) (hA)) (zcwV 1 hz q3_156 q3_158 qs_24 q1_7 q3_159 hd_X6_isPoint (Nat.le_of_ble_eq_true rfl) (Nat.le_of_ble_eq_true rfl)) (z_pv (ci := 6) (q := (RX6, TX6, 3)) hK hP rfl rfl) rfl rfl hl.1 rfl (lv_room (Nat.le_of_ble_eq_true rfl)) dX6_parish_42 ⟨(Nat.le_of_ble_eq_true rfl), (Nat.le_of_ble_eq_true rfl)⟩) ?_
            refine lv_if_eq (tgt := 63) hx hb dX6_parish_45 (by decide) (fun c_45 => ?_) (fun c_45 => ?_)
            · have c_45 : (iP ((mR M)) (nI k28)) = false := bI_f c_45
              refine lv_iconst (v := 0) hx hb dX6_parish_63 (by decide) ?_
              refine lv_istore (lv' := [(6, .int (0 : Int32)), (5, .int (nI k28)), (3, .int (maO (mR M) p k28)), (4, .int (maW (mR M) p k28)), (0, .ref (r 0)), (1, .int (p)), (2, .int (w))]) hx hb dX6_parish_64 hl (by decide) rfl (fun ls hl => ?_)
              refine lv_iload_n hx hb dX6_parish_66 rfl (lv_at hl 2 rfl) ?_
              refine lv_iload hx hb dX6_parish_67 (lv_at hl 0 rfl) ?_
              refine lv_if_eq (tgt := 76) hx hb dX6_parish_69 (by decide) (fun _ => ?_) (fun c_ => absurd (by decide) c_)
              refine lv_iconst (v := 0) hx hb dX6_parish_76 (by decide) ?_
              refine lv_iadd hx hb dX6_parish_77 ?_
              refine lv_istore_n (lv' := [(3, .int ((maO (mR M) p k28) + (0 : Int32))), (6, .int (0 : Int32)), (5, .int (nI k28)), (4, .int (maW (mR M) p k28)), (0, .ref (r 0)), (1, .int (p)), (2, .int (w))]) hx hb dX6_parish_78 rfl hl (by decide) rfl (fun ls hl => ?_)
              refine lv_iload hx hb dX6_parish_79 (lv_at hl 3 rfl) ?_
              refine lv_iload hx hb dX6_parish_81 (lv_at hl 1 rfl) ?_
              refine lv_if_eq (tgt := 96) hx hb dX6_parish_83 (by decide) (fun _ => ?_) (fun c_ => absurd (by decide) c_)
              refine lv_iconst (v := 0) hx hb dX6_parish_96 (by decide) ?_
              refine lv_iadd hx hb dX6_parish_97 ?_
              refine lv_istore (lv' := [(4, .int ((maW (mR M) p k28) + (0 : Int32))), (3, .int ((maO (mR M) p k28) + (0 : Int32))), (6, .int (0 : Int32)), (5, .int (nI k28)), (0, .ref (r 0)), (1, .int (p)), (2, .int (w))]) hx hb dX6_parish_98 hl (by decide) rfl (fun ls hl => ?_)
              refine lv_iinc (v := (nI k28) + 1) (lv' := [(5, .int ((nI k28) + 1)), (4, .int ((maW (mR M) p k28) + (0 : Int32))), (3, .int ((maO (mR M) p k28) + (0 : Int32))), (6, .int (0 : Int32)), (0, .ref (r 0)), (1, .int (p)), (2, .int (w))]) hx hb dX6_parish_100 hl (k := 3) rfl rfl (by decide) rfl (fun ls hl => ?_)
              refine lv_goto (tgt := 28) hx hb dX6_parish_103 (by decide) ?_
              have e28_5 : (nI (k28 + 1) : Int32) = (nI k28) + 1 := (nI_1 _).symm
              have e28_3 : (maO (mR M) p (k28 + 1) : Int32) = (maO (mR M) p k28) + (0 : Int32) := (by simp [maO, maW, mpaRet, c_5, c_15, c_36, c_45])
              have e28_4 : (maW (mR M) p (k28 + 1) : Int32) = (maW (mR M) p k28) + (0 : Int32) := (by simp [maO, maW, mpaRet, c_5, c_15, c_36, c_45])
              exact ih28 (k28 + 1) (by omega) (by omega) _ (by (try rw [e28_5]); (try rw [e28_3]); (try rw [e28_4]); exact lv_sub hl [0, 2, 1, 4, 5, 6] rfl)
            · have c_45 : (iP ((mR M)) (nI k28)) = true := bI_t c_45
              refine lv_aload_n hx hb dX6_parish_48 rfl (lv_at hl 3 rfl) ?_
              refine lv_iload hx hb dX6_parish_49 (lv_at hl 0 rfl) ?_
              refine lv_iconst (v := 4) hx hb dX6_parish_51 (by decide) ?_
              refine z_ro (va_runV (As := [.int (nI k28), .int (4 : Int32)]) (rest := []) ⟨hx, hb, hml, hown, hz⟩ (c_X6_ofPoint l D cI cQ r M (nI k28) (4 : Int32) (ix1 (kin hk_28 (by have := hA.1; omega)) (z_inC (by decide) (by decide)))) (zcwV 2 hz q3_160 q3_162 qs_25 q1_7 q3_163 hd_X6_ofPoint (Nat.le_of_ble_eq_true rfl) (Nat.le_of_ble_eq_true rfl)) (z_pv (ci := 6) (q := (RX6, TX6, 3)) hK hP rfl rfl) rfl rfl hl.1 rfl (lv_room (Nat.le_of_ble_eq_true rfl)) dX6_parish_52 ⟨(Nat.le_of_ble_eq_true rfl), (Nat.le_of_ble_eq_true rfl)⟩) ?_
              refine lv_iload_n hx hb dX6_parish_55 rfl (lv_at hl 4 rfl) ?_
              refine lv_icmp_ne (tgt := 63) hx hb dX6_parish_56 (by decide) (fun c_56 => ?_) (fun c_56 => ?_)
              · have c_56 : ¬ ((oP ((mR M)) (nI k28) (4 : Int32) : Int32) = p) := c_56
                refine lv_iconst (v := 0) hx hb dX6_parish_63 (by decide) ?_
                refine lv_istore (lv' := [(6, .int (0 : Int32)), (5, .int (nI k28)), (3, .int (maO (mR M) p k28)), (4, .int (maW (mR M) p k28)), (0, .ref (r 0)), (1, .int (p)), (2, .int (w))]) hx hb dX6_parish_64 hl (by decide) rfl (fun ls hl => ?_)
                refine lv_iload_n hx hb dX6_parish_66 rfl (lv_at hl 2 rfl) ?_
                refine lv_iload hx hb dX6_parish_67 (lv_at hl 0 rfl) ?_
                refine lv_if_eq (tgt := 76) hx hb dX6_parish_69 (by decide) (fun _ => ?_) (fun c_ => absurd (by decide) c_)
                refine lv_iconst (v := 0) hx hb dX6_parish_76 (by decide) ?_
                refine lv_iadd hx hb dX6_parish_77 ?_
                refine lv_istore_n (lv' := [(3, .int ((maO (mR M) p k28) + (0 : Int32))), (6, .int (0 : Int32)), (5, .int (nI k28)), (4, .int (maW (mR M) p k28)), (0, .ref (r 0)), (1, .int (p)), (2, .int (w))]) hx hb dX6_parish_78 rfl hl (by decide) rfl (fun ls hl => ?_)
                refine lv_iload hx hb dX6_parish_79 (lv_at hl 3 rfl) ?_
                refine lv_iload hx hb dX6_parish_81 (lv_at hl 1 rfl) ?_
                refine lv_if_eq (tgt := 96) hx hb dX6_parish_83 (by decide) (fun _ => ?_) (fun c_ => absurd (by decide) c_)
                refine lv_iconst (v := 0) hx hb dX6_parish_96 (by decide) ?_
                refine lv_iadd hx hb dX6_parish_97 ?_
                refine lv_istore (lv' := [(4, .int ((maW (mR M) p k28) + (0 : Int32))), (3, .int ((maO (mR M) p k28) + (0 : Int32))), (6, .int (0 : Int32)), (5, .int (nI k28)), (0, .ref (r 0)), (1, .int (p)), (2, .int (w))]) hx hb dX6_parish_98 hl (by decide) rfl (fun ls hl => ?_)
                refine lv_iinc (v := (nI k28) + 1) (lv' := [(5, .int ((nI k28) + 1)), (4, .int ((maW (mR M) p k28) + (0 : Int32))), (3, .int ((maO (mR M) p k28) + (0 : Int32))), (6, .int (0 : Int32)), (0, .ref (r 0)), (1, .int (p)), (2, .int (w))]) hx hb dX6_parish_100 hl (k := 3) rfl rfl (by decide) rfl (fun ls hl => ?_)
                refine lv_goto (tgt := 28) hx hb dX6_parish_103 (by decide) ?_
                have e28_5 : (nI (k28 + 1) : Int32) = (nI k28) + 1 := (nI_1 _).symm
                have e28_3 : (maO (mR M) p (k28 + 1) : Int32) = (maO (mR M) p k28) + (0 : Int32) := (by simp [maO, maW, mpaRet, c_5, c_15, c_36, c_45, c_56])
                have e28_4 : (maW (mR M) p (k28 + 1) : Int32) = (maW (mR M) p k28) + (0 : Int32) := (by simp [maO, maW, mpaRet, c_5, c_15, c_36, c_45, c_56])
                exact ih28 (k28 + 1) (by omega) (by omega) _ (by (try rw [e28_5]); (try rw [e28_3]); (try rw [e28_4]); exact lv_sub hl [0, 2, 1, 4, 5, 6] rfl)
              · have c_56 : (oP ((mR M)) (nI k28) (4 : Int32) : Int32) = p := c_56
                refine lv_iconst (v := 1) hx hb dX6_parish_59 (by decide) ?_
                refine lv_goto (tgt := 64) hx hb dX6_parish_60 (by decide) ?_
                refine lv_istore (lv' := [(6, .int (1 : Int32)), (5, .int (nI k28)), (3, .int (maO (mR M) p k28)), (4, .int (maW (mR M) p k28)), (0, .ref (r 0)), (1, .int (p)), (2, .int (w))]) hx hb dX6_parish_64 hl (by decide) rfl (fun ls hl => ?_)
                refine lv_iload_n hx hb dX6_parish_66 rfl (lv_at hl 2 rfl) ?_
                refine lv_iload hx hb dX6_parish_67 (lv_at hl 0 rfl) ?_
                refine lv_if_eq (tgt := 76) hx hb dX6_parish_69 (by decide) (fun c_ => absurd c_ (by decide)) (fun _ => ?_)
                refine lv_iconst (v := 1) hx hb dX6_parish_72 (by decide) ?_
                refine lv_goto (tgt := 77) hx hb dX6_parish_73 (by decide) ?_
                refine lv_iadd hx hb dX6_parish_77 ?_
                refine lv_istore_n (lv' := [(3, .int ((maO (mR M) p k28) + (1 : Int32))), (6, .int (1 : Int32)), (5, .int (nI k28)), (4, .int (maW (mR M) p k28)), (0, .ref (r 0)), (1, .int (p)), (2, .int (w))]) hx hb dX6_parish_78 rfl hl (by decide) rfl (fun ls hl => ?_)
                refine lv_iload hx hb dX6_parish_79 (lv_at hl 3 rfl) ?_
                refine lv_iload hx hb dX6_parish_81 (lv_at hl 1 rfl) ?_
                refine lv_if_eq (tgt := 96) hx hb dX6_parish_83 (by decide) (fun c_ => absurd c_ (by decide)) (fun _ => ?_)
                refine lv_aload_n hx hb dX6_parish_86 rfl (lv_at hl 4 rfl) ?_
                refine lv_iload hx hb dX6_parish_87 (lv_at hl 2 rfl) ?_
                refine lv_iconst (v := 2) hx hb dX6_parish_89 (by decide) ?_
                refine z_ro (va_runV (As := [.int (nI k28), .int (2 : Int32)]) (rest := [.int (maW (mR M) p k28)]) ⟨hx, hb, hml, hown, hz⟩ (c_X6_ofPoint l D cI cQ r M (nI k28) (2 : Int32) (ix1 (kin hk_28 (by have := hA.1; omega)) (z_inC (by decide) (by decide)))) (zcwV 2 hz q3_160 q3_162 qs_25 q1_7 q3_163 hd_X6_ofPoint (Nat.le_of_ble_eq_true rfl) (Nat.le_of_ble_eq_true rfl)) (z_pv (ci := 6) (q := (RX6, TX6, 3)) hK hP rfl rfl) rfl rfl hl.1 rfl (lv_room (Nat.le_of_ble_eq_true rfl)) dX6_parish_90 ⟨(Nat.le_of_ble_eq_true rfl), (Nat.le_of_ble_eq_true rfl)⟩) ?_
                refine lv_goto (tgt := 97) hx hb dX6_parish_93 (by decide) ?_
                refine lv_iadd hx hb dX6_parish_97 ?_
                refine lv_istore (lv' := [(4, .int ((maW (mR M) p k28) + (oP ((mR M)) (nI k28) (2 : Int32)))), (3, .int ((maO (mR M) p k28) + (1 : Int32))), (6, .int (1 : Int32)), (5, .int (nI k28)), (0, .ref (r 0)), (1, .int (p)), (2, .int (w))]) hx hb dX6_parish_98 hl (by decide) rfl (fun ls hl => ?_)
                refine lv_iinc (v := (nI k28) + 1) (lv' := [(5, .int ((nI k28) + 1)), (4, .int ((maW (mR M) p k28) + (oP ((mR M)) (nI k28) (2 : Int32)))), (3, .int ((maO (mR M) p k28) + (1 : Int32))), (6, .int (1 : Int32)), (0, .ref (r 0)), (1, .int (p)), (2, .int (w))]) hx hb dX6_parish_100 hl (k := 3) rfl rfl (by decide) rfl (fun ls hl => ?_)
                refine lv_goto (tgt := 28) hx hb dX6_parish_103 (by decide) ?_
                have e28_5 : (nI (k28 + 1) : Int32) = (nI k28) + 1 := (nI_1 _).symm
                have e28_3 : (maO (mR M) p (k28 + 1) : Int32) = (maO (mR M) p k28) + (1 : Int32) := (by simp [maO, maW, mpaRet, c_5, c_15, c_36, c_45, c_56])
                have e28_4 : (maW (mR M) p (k28 + 1) : Int32) = (maW (mR M) p k28) + (oP ((mR M)) (nI k28) (2 : Int32)) := (by simp [maO, maW, mpaRet, c_5, c_15, c_36, c_45, c_56])
                exact ih28 (k28 + 1) (by omega) (by omega) _ (by (try rw [e28_5]); (try rw [e28_3]); (try rw [e28_4]); exact lv_sub hl [0, 2, 1, 4, 5, 6] rfl)
      have e28_5 : (nI 0 : Int32) = (0 : Int32) := rfl
      have e28_3 : (maO (mR M) p 0 : Int32) = (0 : Int32) := (by rfl)
      have e28_4 : (maW (mR M) p 0 : Int32) = (0 : Int32) := (by rfl)
      exact L28 (a + 1) (0) (Nat.zero_le _) (by omega) _ (by (try rw [e28_5]); (try rw [e28_3]); (try rw [e28_4]); exact lv_sub hl [0, 2, 1, 3, 4, 5] rfl)
    · have c_15 : (btw w (0 : Int32) (7 : Int32)) = false := bI_f c_15
      refine lv_iconst (v := (-1)) hx hb dX6_parish_18 (by decide) ?_
      exact z_iret hx hb hr rfl hlocks (by simp [maO, maW, mpaRet, c_5, c_15]) dX6_parish_19
set_option maxHeartbeats 1000000 in
set_option maxRecDepth 100000 in
theorem c_X6_debt (l : Launch) (D : va_G) (cI cQ : ClassId) (r : Nat → Nat) (M : MS) (p c : Int32) (a : Nat) (f : Nat) (hA : mOk (mR M) a f) : zRO l yX6_debt (Cond.code yX6_debt cX6_debt 3 (some .int) :: zT) 2 43 [.ref (r 0), .int p, .int c] D cI cQ (zMod cI r M) (mdeRet (mR M) p c) := by
  refine zRO.of (cc := cX6_debt) (maxL := 3) (ret := some .int) (by decide +kernel) rfl (Nat.le_of_ble_eq_true rfl) ?_
  intro pg e s mi args below meth cd hx hb hr hts hown hlocks hml hP hK ls hl
  have hz : ∀ w ∈ zT, w.before args s = true := fun w h => hts w (List.mem_cons_of_mem _ h)
  have hl : lv_has ls 3 [(0, .ref (r 0)), (1, .int (p)), (2, .int (c))] := hl
  refine lv_aload_n hx hb dX6_debt_0 rfl (lv_at hl 0 rfl) ?_
  refine lv_iload_n hx hb dX6_debt_1 rfl (lv_at hl 1 rfl) ?_
  refine z_ro (va_runV (As := [.int (p)]) (rest := []) ⟨hx, hb, hml, hown, hz⟩ (c_X6_isParish l D cI cQ r M p (a) (f) (hA)) (zcwV 1 hz q3_124 q3_126 qs_16 q1_7 q3_127 hd_X6_isParish (Nat.le_of_ble_eq_true rfl) (Nat.le_of_ble_eq_true rfl)) (z_pv (ci := 6) (q := (RX6, TX6, 3)) hK hP rfl rfl) rfl rfl hl.1 rfl (lv_room (Nat.le_of_ble_eq_true rfl)) dX6_debt_2 ⟨(Nat.le_of_ble_eq_true rfl), (Nat.le_of_ble_eq_true rfl)⟩) ?_
  refine lv_if_eq (tgt := 25) hx hb dX6_debt_5 (by decide) (fun c_5 => ?_) (fun c_5 => ?_)
  · have c_5 : (iR ((mR M)) p) = false := bI_f c_5
    refine lv_iconst (v := (-1)) hx hb dX6_debt_25 (by decide) ?_
    exact z_iret hx hb hr rfl hlocks (by simp [mdeRet, c_5]) dX6_debt_26
  · have c_5 : (iR ((mR M)) p) = true := bI_t c_5
    refine lv_aload_n hx hb dX6_debt_8 rfl (lv_at hl 0 rfl) ?_
    refine lv_iload_n hx hb dX6_debt_9 rfl (lv_at hl 2 rfl) ?_
    refine z_ro (va_runV (As := [.int (c)]) (rest := []) ⟨hx, hb, hml, hown, hz⟩ (c_X6_isParish l D cI cQ r M c (a) (f) (hA)) (zcwV 1 hz q3_124 q3_126 qs_16 q1_7 q3_127 hd_X6_isParish (Nat.le_of_ble_eq_true rfl) (Nat.le_of_ble_eq_true rfl)) (z_pv (ci := 6) (q := (RX6, TX6, 3)) hK hP rfl rfl) rfl rfl hl.1 rfl (lv_room (Nat.le_of_ble_eq_true rfl)) dX6_debt_10 ⟨(Nat.le_of_ble_eq_true rfl), (Nat.le_of_ble_eq_true rfl)⟩) ?_
    refine lv_if_eq (tgt := 25) hx hb dX6_debt_13 (by decide) (fun c_13 => ?_) (fun c_13 => ?_)
    · have c_13 : (iR ((mR M)) c) = false := bI_f c_13
      refine lv_iconst (v := (-1)) hx hb dX6_debt_25 (by decide) ?_
      exact z_iret hx hb hr rfl hlocks (by simp [mdeRet, c_5, c_13]) dX6_debt_26
    · have c_13 : (iR ((mR M)) c) = true := bI_t c_13
      refine lv_aload_n hx hb dX6_debt_16 rfl (lv_at hl 0 rfl) ?_
      refine lv_iload_n hx hb dX6_debt_17 rfl (lv_at hl 1 rfl) ?_
      refine lv_iload_n hx hb dX6_debt_18 rfl (lv_at hl 2 rfl) ?_
      refine z_ro (va_runV (As := [.int (p), .int (c)]) (rest := []) ⟨hx, hb, hml, hown, hz⟩ (c_X6_debtOf l D cI cQ r M p c (ix3 (iR_in hA c_5) (iR_in hA c_13))) (zcwV 2 hz q3_212 q3_214 qs_33 q1_7 q3_215 hd_X6_debtOf (Nat.le_of_ble_eq_true rfl) (Nat.le_of_ble_eq_true rfl)) (z_pv (ci := 6) (q := (RX6, TX6, 3)) hK hP rfl rfl) rfl rfl hl.1 rfl (lv_room (Nat.le_of_ble_eq_true rfl)) dX6_debt_19 ⟨(Nat.le_of_ble_eq_true rfl), (Nat.le_of_ble_eq_true rfl)⟩) ?_
      refine lv_goto (tgt := 26) hx hb dX6_debt_22 (by decide) ?_
      exact z_iret hx hb hr rfl hlocks (by simp [mdeRet, c_5, c_13]) dX6_debt_26
set_option maxHeartbeats 1000000 in
set_option maxRecDepth 100000 in
theorem c_X6_at (l : Launch) (D : va_G) (cI cQ : ClassId) (r : Nat → Nat) (M : MS) (x y : Int32) (a : Nat) (f : Nat) (hA : mOk (mR M) a f) : zRO l yX6_at (Cond.code yX6_at cX6_at 3 (some .int) :: zT) 3 68 [.ref (r 0), .int x, .int y] D cI cQ (zMod cI r M) (matRet (mR M) f x y) := by
  refine zRO.of (cc := cX6_at) (maxL := 3) (ret := some .int) (by decide +kernel) rfl (Nat.le_of_ble_eq_true rfl) ?_
  intro pg e s mi args below meth cd hx hb hr hts hown hlocks hml hP hK ls hl
  have hz : ∀ w ∈ zT, w.before args s = true := fun w h => hts w (List.mem_cons_of_mem _ h)
  have hl : lv_has ls 3 [(0, .ref (r 0)), (1, .int (x)), (2, .int (y))] := hl
  refine lv_iload_n hx hb dX6_at_0 rfl (lv_at hl 1 rfl) ?_
  refine lv_iload_n hx hb dX6_at_1 rfl (lv_at hl 2 rfl) ?_
  refine z_ro (va_runS (As := [.int (x), .int (y)]) (rest := []) ⟨hx, hb, hml, hown, hz⟩ (c_X6_isPlace l D cI cQ x y) (zcwS 2 hz q3_102 q3_103 q1_7 q3_104 hd_X6_isPlace (Nat.le_of_ble_eq_true rfl) (Nat.le_of_ble_eq_true rfl)) (z_ps hK z_nil) rfl rfl hl.1 rfl (lv_room (Nat.le_of_ble_eq_true rfl)) dX6_at_2 ⟨(Nat.le_of_ble_eq_true rfl), (Nat.le_of_ble_eq_true rfl)⟩) ?_
  refine lv_if_eq (tgt := 17) hx hb dX6_at_5 (by decide) (fun c_5 => ?_) (fun c_5 => ?_)
  · have c_5 : (onMap x y) = false := bI_f c_5
    refine lv_iconst (v := (-1)) hx hb dX6_at_17 (by decide) ?_
    exact z_iret hx hb hr rfl hlocks (by simp [matRet, c_5]) dX6_at_18
  · have c_5 : (onMap x y) = true := bI_t c_5
    refine lv_aload_n hx hb dX6_at_8 rfl (lv_at hl 0 rfl) ?_
    refine lv_iload_n hx hb dX6_at_9 rfl (lv_at hl 1 rfl) ?_
    refine lv_iload_n hx hb dX6_at_10 rfl (lv_at hl 2 rfl) ?_
    refine z_ro (va_runV (As := [.int (x), .int (y)]) (rest := []) ⟨hx, hb, hml, hown, hz⟩ (c_X6_parishAt l D cI cQ r M x y (a) (f) (hA)) (zcwV 2 hz q3_116 q3_118 qs_14 q1_7 q3_119 hd_X6_parishAt (Nat.le_of_ble_eq_true rfl) (Nat.le_of_ble_eq_true rfl)) (z_pv (ci := 6) (q := (RX6, TX6, 3)) hK hP rfl rfl) rfl rfl hl.1 rfl (lv_room (Nat.le_of_ble_eq_true rfl)) dX6_at_11 ⟨(Nat.le_of_ble_eq_true rfl), (Nat.le_of_ble_eq_true rfl)⟩) ?_
    refine lv_goto (tgt := 18) hx hb dX6_at_14 (by decide) ?_
    exact z_iret hx hb hr rfl hlocks (by simp [matRet, c_5]) dX6_at_18
set_option maxHeartbeats 1000000 in
set_option maxRecDepth 100000 in
theorem c_X6_far (l : Launch) (D : va_G) (cI cQ : ClassId) (u v : Int32) : zRO l yX6_far (Cond.code yX6_far cX6_far 2 (some .int) :: zT) 0 0 [.int u, .int v] D cI cQ ([]) (faR u v) := by
  refine zRO.of (cc := cX6_far) (maxL := 2) (ret := some .int) (by decide +kernel) rfl (Nat.le_of_ble_eq_true rfl) ?_
  intro pg e s mi args below meth cd hx hb hr hts hown hlocks hml hP hK ls hl
  have hz : ∀ w ∈ zT, w.before args s = true := fun w h => hts w (List.mem_cons_of_mem _ h)
  have hl : lv_has ls 2 [(0, .int (u)), (1, .int (v))] := hl
  refine lv_iload_n hx hb dX6_far_0 rfl (lv_at hl 0 rfl) ?_
  refine lv_iload_n hx hb dX6_far_1 rfl (lv_at hl 1 rfl) ?_
  refine lv_icmp_ge (tgt := 11) hx hb dX6_far_2 (by decide) (fun c_2 => ?_) (fun c_2 => ?_)
  · have c_2 : (v : Int32) ≤ u := c_2
    refine lv_iload_n hx hb dX6_far_11 rfl (lv_at hl 0 rfl) ?_
    refine lv_iload_n hx hb dX6_far_12 rfl (lv_at hl 1 rfl) ?_
    refine lv_isub hx hb dX6_far_13 ?_
    exact z_iret hx hb hr rfl hlocks (by simp [faR, c_2]) dX6_far_14
  · have c_2 : ¬ ((v : Int32) ≤ u) := c_2
    refine lv_iload_n hx hb dX6_far_5 rfl (lv_at hl 1 rfl) ?_
    refine lv_iload_n hx hb dX6_far_6 rfl (lv_at hl 0 rfl) ?_
    refine lv_isub hx hb dX6_far_7 ?_
    refine lv_goto (tgt := 14) hx hb dX6_far_8 (by decide) ?_
    exact z_iret hx hb hr rfl hlocks (by simp [faR, c_2]) dX6_far_14
set_option maxHeartbeats 1000000 in
set_option maxRecDepth 100000 in
theorem c_X6_range (l : Launch) (D : va_G) (cI cQ : ClassId) (r : Nat → Nat) (M : MS) (x y tx ty w : Int32) (a : Nat) (f : Nat) (hA : mOk (mR M) a f) : zRO l yX6_range (Cond.code yX6_range cX6_range 11 (some .int) :: zT) 3 69 [.ref (r 0), .int x, .int y, .int tx, .int ty, .int w] D cI cQ (zMod cI r M) (mraRet (mR M) a f x y tx ty w) := by
  refine zRO.of (cc := cX6_range) (maxL := 11) (ret := some .int) (by decide +kernel) rfl (Nat.le_of_ble_eq_true rfl) ?_
  intro pg e s mi args below meth cd hx hb hr hts hown hlocks hml hP hK ls hl
  have hz : ∀ w ∈ zT, w.before args s = true := fun w h => hts w (List.mem_cons_of_mem _ h)
  have hl : lv_has ls 11 [(0, .ref (r 0)), (1, .int (x)), (2, .int (y)), (3, .int (tx)), (4, .int (ty)), (5, .int (w))] := hl
  refine lv_iload_n hx hb dX6_range_0 rfl (lv_at hl 1 rfl) ?_
  refine lv_iload_n hx hb dX6_range_1 rfl (lv_at hl 2 rfl) ?_
  refine z_ro (va_runS (As := [.int (x), .int (y)]) (rest := []) ⟨hx, hb, hml, hown, hz⟩ (c_X6_isPlace l D cI cQ x y) (zcwS 2 hz q3_102 q3_103 q1_7 q3_104 hd_X6_isPlace (Nat.le_of_ble_eq_true rfl) (Nat.le_of_ble_eq_true rfl)) (z_ps hK z_nil) rfl rfl hl.1 rfl (lv_room (Nat.le_of_ble_eq_true rfl)) dX6_range_2 ⟨(Nat.le_of_ble_eq_true rfl), (Nat.le_of_ble_eq_true rfl)⟩) ?_
  refine lv_if_eq (tgt := 39) hx hb dX6_range_5 (by decide) (fun c_5 => ?_) (fun c_5 => ?_)
  · have c_5 : (onMap x y) = false := bI_f c_5
    refine lv_iconst (v := (-1)) hx hb dX6_range_39 (by decide) ?_
    exact z_iret hx hb hr rfl hlocks (by simp [raN, raT, raW, raR, mRg, mraRet, mraOk, c_5]) dX6_range_40
  · have c_5 : (onMap x y) = true := bI_t c_5
    refine lv_iload_n hx hb dX6_range_8 rfl (lv_at hl 3 rfl) ?_
    refine lv_iload_n hx hb dX6_range_9 rfl (lv_at hl 1 rfl) ?_
    refine lv_bipush (v := 63) hx hb dX6_range_10 (by decide) ?_
    refine z_ro (va_runS (As := [.int (tx), .int (x), .int (63 : Int32)]) (rest := []) ⟨hx, hb, hml, hown, hz⟩ (c_X6_in l D cI cQ tx x (63 : Int32)) (zcwS 3 hz q3_105 q3_106 q1_7 q3_107 hd_X6_in (Nat.le_of_ble_eq_true rfl) (Nat.le_of_ble_eq_true rfl)) (z_ps hK z_nil) rfl rfl hl.1 rfl (lv_room (Nat.le_of_ble_eq_true rfl)) dX6_range_12 ⟨(Nat.le_of_ble_eq_true rfl), (Nat.le_of_ble_eq_true rfl)⟩) ?_
    refine lv_if_eq (tgt := 39) hx hb dX6_range_15 (by decide) (fun c_15 => ?_) (fun c_15 => ?_)
    · have c_15 : (btw tx x (63 : Int32)) = false := bI_f c_15
      refine lv_iconst (v := (-1)) hx hb dX6_range_39 (by decide) ?_
      exact z_iret hx hb hr rfl hlocks (by simp [raN, raT, raW, raR, mRg, mraRet, mraOk, c_5, c_15]) dX6_range_40
    · have c_15 : (btw tx x (63 : Int32)) = true := bI_t c_15
      refine lv_iload hx hb dX6_range_18 (lv_at hl 4 rfl) ?_
      refine lv_iload_n hx hb dX6_range_20 rfl (lv_at hl 2 rfl) ?_
      refine lv_bipush (v := 63) hx hb dX6_range_21 (by decide) ?_
      refine z_ro (va_runS (As := [.int (ty), .int (y), .int (63 : Int32)]) (rest := []) ⟨hx, hb, hml, hown, hz⟩ (c_X6_in l D cI cQ ty y (63 : Int32)) (zcwS 3 hz q3_105 q3_106 q1_7 q3_107 hd_X6_in (Nat.le_of_ble_eq_true rfl) (Nat.le_of_ble_eq_true rfl)) (z_ps hK z_nil) rfl rfl hl.1 rfl (lv_room (Nat.le_of_ble_eq_true rfl)) dX6_range_23 ⟨(Nat.le_of_ble_eq_true rfl), (Nat.le_of_ble_eq_true rfl)⟩) ?_
      refine lv_if_eq (tgt := 39) hx hb dX6_range_26 (by decide) (fun c_26 => ?_) (fun c_26 => ?_)
      · have c_26 : (btw ty y (63 : Int32)) = false := bI_f c_26
        refine lv_iconst (v := (-1)) hx hb dX6_range_39 (by decide) ?_
        exact z_iret hx hb hr rfl hlocks (by simp [raN, raT, raW, raR, mRg, mraRet, mraOk, c_5, c_15, c_26]) dX6_range_40
      · have c_26 : (btw ty y (63 : Int32)) = true := bI_t c_26
        refine lv_iload hx hb dX6_range_29 (lv_at hl 5 rfl) ?_
        refine lv_iconst (v := 0) hx hb dX6_range_31 (by decide) ?_
        refine lv_iconst (v := 3) hx hb dX6_range_32 (by decide) ?_
        refine z_ro (va_runS (As := [.int (w), .int (0 : Int32), .int (3 : Int32)]) (rest := []) ⟨hx, hb, hml, hown, hz⟩ (c_X6_in l D cI cQ w (0 : Int32) (3 : Int32)) (zcwS 3 hz q3_105 q3_106 q1_7 q3_107 hd_X6_in (Nat.le_of_ble_eq_true rfl) (Nat.le_of_ble_eq_true rfl)) (z_ps hK z_nil) rfl rfl hl.1 rfl (lv_room (Nat.le_of_ble_eq_true rfl)) dX6_range_33 ⟨(Nat.le_of_ble_eq_true rfl), (Nat.le_of_ble_eq_true rfl)⟩) ?_
        refine lv_if_ne (tgt := 41) hx hb dX6_range_36 (by decide) (fun c_36 => ?_) (fun c_36 => ?_)
        · have c_36 : (btw w (0 : Int32) (3 : Int32)) = true := bI_t c_36
          refine lv_iload hx hb dX6_range_41 (lv_at hl 5 rfl) ?_
          refine lv_if_ne (tgt := 56) hx hb dX6_range_43 (by decide) (fun c_43 => ?_) (fun c_43 => ?_)
          · have c_43 : ¬ ((w : Int32) = 0) := c_43
            refine lv_iload hx hb dX6_range_56 (lv_at hl 5 rfl) ?_
            refine lv_iconst (v := 2) hx hb dX6_range_58 (by decide) ?_
            refine lv_icmp_ne (tgt := 176) hx hb dX6_range_59 (by decide) (fun c_59 => ?_) (fun c_59 => ?_)
            · have c_59 : ¬ ((w : Int32) = (2 : Int32)) := c_59
              refine lv_iconst (v := 0) hx hb dX6_range_176 (by decide) ?_
              refine lv_istore (lv' := [(6, .int (0 : Int32)), (0, .ref (r 0)), (1, .int (x)), (2, .int (y)), (3, .int (tx)), (4, .int (ty)), (5, .int (w))]) hx hb dX6_range_177 hl (by decide) rfl (fun ls hl => ?_)
              refine lv_bipush (v := (-9)) hx hb dX6_range_179 (by decide) ?_
              refine lv_istore (lv' := [(7, .int (-9 : Int32)), (6, .int (0 : Int32)), (0, .ref (r 0)), (1, .int (x)), (2, .int (y)), (3, .int (tx)), (4, .int (ty)), (5, .int (w))]) hx hb dX6_range_181 hl (by decide) rfl (fun ls hl => ?_)
              refine lv_iconst (v := 0) hx hb dX6_range_183 (by decide) ?_
              refine lv_istore (lv' := [(8, .int (0 : Int32)), (7, .int (-9 : Int32)), (6, .int (0 : Int32)), (0, .ref (r 0)), (1, .int (x)), (2, .int (y)), (3, .int (tx)), (4, .int (ty)), (5, .int (w))]) hx hb dX6_range_184 hl (by decide) rfl (fun ls hl => ?_)
              have L186 : ∀ (n186 k186 : Nat), k186 ≤ a → a < k186 + n186 → ∀ (ls : Array Slot), lv_has ls 11 [(8, .int (nI k186)), (6, .int (raW (mR M) x y tx ty k186)), (7, .int (raR (mR M) x y tx ty k186)), (0, .ref (r 0)), (1, .int (x)), (2, .int (y)), (3, .int (tx)), (4, .int (ty)), (5, .int (w))] → W pg l e ({ frames := 3, cells := 0, slots := 0, locals := 69 }) s mi args below meth cd s.heap [] 0 0 (MQ below (vp_Si (fun r => r = mraRet (mR M) a f x y tx ty w)) args s 0 0 (fun _ => False)) (F0 mi 186 ls []) := by
                intro n186
                induction n186 with
                | zero => intro k186 h1 h2; exact absurd h2 (by omega)
                | succ n186 ih186 =>
                  intro k186 h1_186 h2_186  ls hl
                  refine lv_iload hx hb dX6_range_186 (lv_at hl 0 rfl) ?_
                  refine lv_aload_n hx hb dX6_range_188 rfl (lv_at hl 3 rfl) ?_
                  refine va_get (D := D) (ci := 6) (v := .ref (r 1)) (C := RX6) (T := TX6) (N := 3) hx hb hz inZ6 hown hK.1 hP 0 rfl rfl 0 (by decide) (hz _ q3_88) (fun _ h9 => h9) rfl dX6_range_189 ?_
                  refine lv_iconst (v := 2) hx hb dX6_range_192 (by decide) ?_
                  refine va_iald (f := mR M) hx hb hK.1 hP 1 0 rfl rfl (i := (2 : Int32)) (z_inC (by decide) (by decide)) dX6_range_193 ?_
                  refine lv_icmp_ge (tgt := 288) hx hb dX6_range_194 (by decide) (fun c_194 => ?_) (fun c_194 => ?_)
                  · have c_194 : ((mR M) 2 : Int32) ≤ nI k186 := c_194
                    rw [hA.2.2.1] at c_194
                    have hk_186 : k186 = a := z_exit (by have := hA.1; omega) h1_186 c_194
                    refine lv_iload hx hb dX6_range_288 (lv_at hl 8 rfl) ?_
                    refine lv_iconst (v := 1) hx hb dX6_range_290 (by decide) ?_
                    refine lv_icmp_ne (tgt := 299) hx hb dX6_range_291 (by decide) (fun c_291 => ?_) (fun c_291 => ?_)
                    · have c_291 : ¬ ((w : Int32) = (1 : Int32)) := c_291
                      refine lv_iload hx hb dX6_range_299 (lv_at hl 2 rfl) ?_
                      exact z_iret hx hb hr rfl hlocks (by rw [mraRet, if_pos (by rw [mraOk, c_5, c_15, c_26, c_36]; rfl)]; simp [c_43, c_59, c_194, c_291, hk_186]) dX6_range_301
                    · have c_291 : (w : Int32) = (1 : Int32) := c_291
                      refine lv_iload hx hb dX6_range_294 (lv_at hl 1 rfl) ?_
                      refine lv_goto (tgt := 301) hx hb dX6_range_296 (by decide) ?_
                      exact z_iret hx hb hr rfl hlocks (by rw [mraRet, if_pos (by rw [mraOk, c_5, c_15, c_26, c_36]; rfl)]; simp [c_43, c_59, c_194, c_291, hk_186]) dX6_range_301
                  · have c_194 : ¬ (((mR M) 2 : Int32) ≤ nI k186) := c_194
                    rw [hA.2.2.1] at c_194
                    have hk_186 : k186 < a := z_cont (by have := hA.1; omega) h1_186 c_194
                    refine lv_aload_n hx hb dX6_range_197 rfl (lv_at hl 3 rfl) ?_
                    refine lv_iload hx hb dX6_range_198 (lv_at hl 0 rfl) ?_
                    refine z_ro (va_runV (As := [.int (nI k186)]) (rest := []) ⟨hx, hb, hml, hown, hz⟩ (c_X6_isPoint l D cI cQ r M (nI k186) (a) (f) (hA)) (zcwV 1 hz q3_156 q3_158 qs_24 q1_7 q3_159 hd_X6_isPoint (Nat.le_of_ble_eq_true rfl) (Nat.le_of_ble_eq_true rfl)) (z_pv (ci := 6) (q := (RX6, TX6, 3)) hK hP rfl rfl) rfl rfl hl.1 rfl (lv_room (Nat.le_of_ble_eq_true rfl)) dX6_range_200 ⟨(Nat.le_of_ble_eq_true rfl), (Nat.le_of_ble_eq_true rfl)⟩) ?_
                    refine lv_if_eq (tgt := 282) hx hb dX6_range_203 (by decide) (fun c_203 => ?_) (fun c_203 => ?_)
                    · have c_203 : (iP ((mR M)) (nI k186)) = false := bI_f c_203
                      refine lv_iinc (v := (nI k186) + 1) (lv' := [(8, .int ((nI k186) + 1)), (6, .int (raW (mR M) x y tx ty k186)), (7, .int (raR (mR M) x y tx ty k186)), (0, .ref (r 0)), (1, .int (x)), (2, .int (y)), (3, .int (tx)), (4, .int (ty)), (5, .int (w))]) hx hb dX6_range_282 hl (k := 0) rfl rfl (by decide) rfl (fun ls hl => ?_)
                      refine lv_goto (tgt := 186) hx hb dX6_range_285 (by decide) ?_
                      have e186_8 : (nI (k186 + 1) : Int32) = (nI k186) + 1 := (nI_1 _).symm
                      have e186_6 : (raW (mR M) x y tx ty (k186 + 1) : Int32) = raW (mR M) x y tx ty k186 := (by simp [raN, raT, raW, raR, mRg, mraRet, mraOk, c_5, c_15, c_26, c_36, c_43, c_59, c_194, c_203])
                      have e186_7 : (raR (mR M) x y tx ty (k186 + 1) : Int32) = raR (mR M) x y tx ty k186 := (by simp [raN, raT, raW, raR, mRg, mraRet, mraOk, c_5, c_15, c_26, c_36, c_43, c_59, c_194, c_203])
                      exact ih186 (k186 + 1) (by omega) (by omega) _ (by (try rw [e186_8]); (try rw [e186_6]); (try rw [e186_7]); exact lv_sub hl [0, 1, 2, 3, 4, 5, 6, 7, 8] rfl)
                    · have c_203 : (iP ((mR M)) (nI k186)) = true := bI_t c_203
                      refine lv_aload_n hx hb dX6_range_206 rfl (lv_at hl 3 rfl) ?_
                      refine lv_iload hx hb dX6_range_207 (lv_at hl 0 rfl) ?_
                      refine lv_iconst (v := 0) hx hb dX6_range_209 (by decide) ?_
                      refine z_ro (va_runV (As := [.int (nI k186), .int (0 : Int32)]) (rest := []) ⟨hx, hb, hml, hown, hz⟩ (c_X6_ofPoint l D cI cQ r M (nI k186) (0 : Int32) (ix1 (kin hk_186 (by have := hA.1; omega)) (z_inC (by decide) (by decide)))) (zcwV 2 hz q3_160 q3_162 qs_25 q1_7 q3_163 hd_X6_ofPoint (Nat.le_of_ble_eq_true rfl) (Nat.le_of_ble_eq_true rfl)) (z_pv (ci := 6) (q := (RX6, TX6, 3)) hK hP rfl rfl) rfl rfl hl.1 rfl (lv_room (Nat.le_of_ble_eq_true rfl)) dX6_range_210 ⟨(Nat.le_of_ble_eq_true rfl), (Nat.le_of_ble_eq_true rfl)⟩) ?_
                      refine lv_iload_n hx hb dX6_range_213 rfl (lv_at hl 4 rfl) ?_
                      refine lv_iload_n hx hb dX6_range_214 rfl (lv_at hl 6 rfl) ?_
                      refine z_ro (va_runS (As := [.int (oP ((mR M)) (nI k186) (0 : Int32)), .int (x), .int (tx)]) (rest := []) ⟨hx, hb, hml, hown, hz⟩ (c_X6_in l D cI cQ (oP ((mR M)) (nI k186) (0 : Int32)) x tx) (zcwS 3 hz q3_105 q3_106 q1_7 q3_107 hd_X6_in (Nat.le_of_ble_eq_true rfl) (Nat.le_of_ble_eq_true rfl)) (z_ps hK z_nil) rfl rfl hl.1 rfl (lv_room (Nat.le_of_ble_eq_true rfl)) dX6_range_215 ⟨(Nat.le_of_ble_eq_true rfl), (Nat.le_of_ble_eq_true rfl)⟩) ?_
                      refine lv_if_eq (tgt := 282) hx hb dX6_range_218 (by decide) (fun c_218 => ?_) (fun c_218 => ?_)
                      · have c_218 : (btw (oP ((mR M)) (nI k186) (0 : Int32)) x tx) = false := bI_f c_218
                        refine lv_iinc (v := (nI k186) + 1) (lv' := [(8, .int ((nI k186) + 1)), (6, .int (raW (mR M) x y tx ty k186)), (7, .int (raR (mR M) x y tx ty k186)), (0, .ref (r 0)), (1, .int (x)), (2, .int (y)), (3, .int (tx)), (4, .int (ty)), (5, .int (w))]) hx hb dX6_range_282 hl (k := 0) rfl rfl (by decide) rfl (fun ls hl => ?_)
                        refine lv_goto (tgt := 186) hx hb dX6_range_285 (by decide) ?_
                        have e186_8 : (nI (k186 + 1) : Int32) = (nI k186) + 1 := (nI_1 _).symm
                        have e186_6 : (raW (mR M) x y tx ty (k186 + 1) : Int32) = raW (mR M) x y tx ty k186 := (by simp [raN, raT, raW, raR, mRg, mraRet, mraOk, c_5, c_15, c_26, c_36, c_43, c_59, c_194, c_203, c_218])
                        have e186_7 : (raR (mR M) x y tx ty (k186 + 1) : Int32) = raR (mR M) x y tx ty k186 := (by simp [raN, raT, raW, raR, mRg, mraRet, mraOk, c_5, c_15, c_26, c_36, c_43, c_59, c_194, c_203, c_218])
                        exact ih186 (k186 + 1) (by omega) (by omega) _ (by (try rw [e186_8]); (try rw [e186_6]); (try rw [e186_7]); exact lv_sub hl [0, 1, 2, 3, 4, 5, 6, 7, 8] rfl)
                      · have c_218 : (btw (oP ((mR M)) (nI k186) (0 : Int32)) x tx) = true := bI_t c_218
                        refine lv_aload_n hx hb dX6_range_221 rfl (lv_at hl 3 rfl) ?_
                        refine lv_iload hx hb dX6_range_222 (lv_at hl 0 rfl) ?_
                        refine lv_iconst (v := 1) hx hb dX6_range_224 (by decide) ?_
                        refine z_ro (va_runV (As := [.int (nI k186), .int (1 : Int32)]) (rest := []) ⟨hx, hb, hml, hown, hz⟩ (c_X6_ofPoint l D cI cQ r M (nI k186) (1 : Int32) (ix1 (kin hk_186 (by have := hA.1; omega)) (z_inC (by decide) (by decide)))) (zcwV 2 hz q3_160 q3_162 qs_25 q1_7 q3_163 hd_X6_ofPoint (Nat.le_of_ble_eq_true rfl) (Nat.le_of_ble_eq_true rfl)) (z_pv (ci := 6) (q := (RX6, TX6, 3)) hK hP rfl rfl) rfl rfl hl.1 rfl (lv_room (Nat.le_of_ble_eq_true rfl)) dX6_range_225 ⟨(Nat.le_of_ble_eq_true rfl), (Nat.le_of_ble_eq_true rfl)⟩) ?_
                        refine lv_iload_n hx hb dX6_range_228 rfl (lv_at hl 5 rfl) ?_
                        refine lv_iload hx hb dX6_range_229 (lv_at hl 7 rfl) ?_
                        refine z_ro (va_runS (As := [.int (oP ((mR M)) (nI k186) (1 : Int32)), .int (y), .int (ty)]) (rest := []) ⟨hx, hb, hml, hown, hz⟩ (c_X6_in l D cI cQ (oP ((mR M)) (nI k186) (1 : Int32)) y ty) (zcwS 3 hz q3_105 q3_106 q1_7 q3_107 hd_X6_in (Nat.le_of_ble_eq_true rfl) (Nat.le_of_ble_eq_true rfl)) (z_ps hK z_nil) rfl rfl hl.1 rfl (lv_room (Nat.le_of_ble_eq_true rfl)) dX6_range_231 ⟨(Nat.le_of_ble_eq_true rfl), (Nat.le_of_ble_eq_true rfl)⟩) ?_
                        refine lv_if_eq (tgt := 282) hx hb dX6_range_234 (by decide) (fun c_234 => ?_) (fun c_234 => ?_)
                        · have c_234 : (btw (oP ((mR M)) (nI k186) (1 : Int32)) y ty) = false := bI_f c_234
                          refine lv_iinc (v := (nI k186) + 1) (lv' := [(8, .int ((nI k186) + 1)), (6, .int (raW (mR M) x y tx ty k186)), (7, .int (raR (mR M) x y tx ty k186)), (0, .ref (r 0)), (1, .int (x)), (2, .int (y)), (3, .int (tx)), (4, .int (ty)), (5, .int (w))]) hx hb dX6_range_282 hl (k := 0) rfl rfl (by decide) rfl (fun ls hl => ?_)
                          refine lv_goto (tgt := 186) hx hb dX6_range_285 (by decide) ?_
                          have e186_8 : (nI (k186 + 1) : Int32) = (nI k186) + 1 := (nI_1 _).symm
                          have e186_6 : (raW (mR M) x y tx ty (k186 + 1) : Int32) = raW (mR M) x y tx ty k186 := (by simp [raN, raT, raW, raR, mRg, mraRet, mraOk, c_5, c_15, c_26, c_36, c_43, c_59, c_194, c_203, c_218, c_234])
                          have e186_7 : (raR (mR M) x y tx ty (k186 + 1) : Int32) = raR (mR M) x y tx ty k186 := (by simp [raN, raT, raW, raR, mRg, mraRet, mraOk, c_5, c_15, c_26, c_36, c_43, c_59, c_194, c_203, c_218, c_234])
                          exact ih186 (k186 + 1) (by omega) (by omega) _ (by (try rw [e186_8]); (try rw [e186_6]); (try rw [e186_7]); exact lv_sub hl [0, 1, 2, 3, 4, 5, 6, 7, 8] rfl)
                        · have c_234 : (btw (oP ((mR M)) (nI k186) (1 : Int32)) y ty) = true := bI_t c_234
                          refine lv_iload hx hb dX6_range_237 (lv_at hl 1 rfl) ?_
                          refine lv_aload_n hx hb dX6_range_239 rfl (lv_at hl 3 rfl) ?_
                          refine lv_iload hx hb dX6_range_240 (lv_at hl 0 rfl) ?_
                          refine lv_iconst (v := 2) hx hb dX6_range_242 (by decide) ?_
                          refine z_ro (va_runV (As := [.int (nI k186), .int (2 : Int32)]) (rest := [.int (raW (mR M) x y tx ty k186)]) ⟨hx, hb, hml, hown, hz⟩ (c_X6_ofPoint l D cI cQ r M (nI k186) (2 : Int32) (ix1 (kin hk_186 (by have := hA.1; omega)) (z_inC (by decide) (by decide)))) (zcwV 2 hz q3_160 q3_162 qs_25 q1_7 q3_163 hd_X6_ofPoint (Nat.le_of_ble_eq_true rfl) (Nat.le_of_ble_eq_true rfl)) (z_pv (ci := 6) (q := (RX6, TX6, 3)) hK hP rfl rfl) rfl rfl hl.1 rfl (lv_room (Nat.le_of_ble_eq_true rfl)) dX6_range_243 ⟨(Nat.le_of_ble_eq_true rfl), (Nat.le_of_ble_eq_true rfl)⟩) ?_
                          refine lv_iadd hx hb dX6_range_246 ?_
                          refine lv_istore (lv' := [(6, .int ((raW (mR M) x y tx ty k186) + (oP ((mR M)) (nI k186) (2 : Int32)))), (8, .int (nI k186)), (7, .int (raR (mR M) x y tx ty k186)), (0, .ref (r 0)), (1, .int (x)), (2, .int (y)), (3, .int (tx)), (4, .int (ty)), (5, .int (w))]) hx hb dX6_range_247 hl (by decide) rfl (fun ls hl => ?_)
                          refine lv_iload hx hb dX6_range_249 (lv_at hl 2 rfl) ?_
                          refine lv_bipush (v := (-9)) hx hb dX6_range_251 (by decide) ?_
                          refine lv_icmp_eq (tgt := 273) hx hb dX6_range_253 (by decide) (fun c_253 => ?_) (fun c_253 => ?_)
                          · have c_253 : (raR (mR M) x y tx ty k186 : Int32) = (-9 : Int32) := c_253
                            refine lv_iload hx hb dX6_range_273 (lv_at hl 1 rfl) ?_
                            refine lv_goto (tgt := 280) hx hb dX6_range_275 (by decide) ?_
                            refine lv_istore (lv' := [(7, .int (nI k186)), (6, .int ((raW (mR M) x y tx ty k186) + (oP ((mR M)) (nI k186) (2 : Int32)))), (8, .int (nI k186)), (0, .ref (r 0)), (1, .int (x)), (2, .int (y)), (3, .int (tx)), (4, .int (ty)), (5, .int (w))]) hx hb dX6_range_280 hl (by decide) rfl (fun ls hl => ?_)
                            refine lv_iinc (v := (nI k186) + 1) (lv' := [(8, .int ((nI k186) + 1)), (7, .int (nI k186)), (6, .int ((raW (mR M) x y tx ty k186) + (oP ((mR M)) (nI k186) (2 : Int32)))), (0, .ref (r 0)), (1, .int (x)), (2, .int (y)), (3, .int (tx)), (4, .int (ty)), (5, .int (w))]) hx hb dX6_range_282 hl (k := 2) rfl rfl (by decide) rfl (fun ls hl => ?_)
                            refine lv_goto (tgt := 186) hx hb dX6_range_285 (by decide) ?_
                            have e186_8 : (nI (k186 + 1) : Int32) = (nI k186) + 1 := (nI_1 _).symm
                            have e186_6 : (raW (mR M) x y tx ty (k186 + 1) : Int32) = (raW (mR M) x y tx ty k186) + (oP ((mR M)) (nI k186) (2 : Int32)) := (by simp [raN, raT, raW, raR, mRg, mraRet, mraOk, c_5, c_15, c_26, c_36, c_43, c_59, c_194, c_203, c_218, c_234, c_253])
                            have e186_7 : (raR (mR M) x y tx ty (k186 + 1) : Int32) = nI k186 := (by simp [raN, raT, raW, raR, mRg, mraRet, mraOk, c_5, c_15, c_26, c_36, c_43, c_59, c_194, c_203, c_218, c_234, c_253])
                            exact ih186 (k186 + 1) (by omega) (by omega) _ (by (try rw [e186_8]); (try rw [e186_6]); (try rw [e186_7]); exact lv_sub hl [0, 2, 1, 3, 4, 5, 6, 7, 8] rfl)
                          · have c_253 : ¬ ((raR (mR M) x y tx ty k186 : Int32) = (-9 : Int32)) := c_253
                            refine lv_aload_n hx hb dX6_range_256 rfl (lv_at hl 3 rfl) ?_
                            refine lv_iload hx hb dX6_range_257 (lv_at hl 1 rfl) ?_
                            refine lv_iconst (v := 2) hx hb dX6_range_259 (by decide) ?_
                            refine z_ro (va_runV (As := [.int (nI k186), .int (2 : Int32)]) (rest := []) ⟨hx, hb, hml, hown, hz⟩ (c_X6_ofPoint l D cI cQ r M (nI k186) (2 : Int32) (ix1 (kin hk_186 (by have := hA.1; omega)) (z_inC (by decide) (by decide)))) (zcwV 2 hz q3_160 q3_162 qs_25 q1_7 q3_163 hd_X6_ofPoint (Nat.le_of_ble_eq_true rfl) (Nat.le_of_ble_eq_true rfl)) (z_pv (ci := 6) (q := (RX6, TX6, 3)) hK hP rfl rfl) rfl rfl hl.1 rfl (lv_room (Nat.le_of_ble_eq_true rfl)) dX6_range_260 ⟨(Nat.le_of_ble_eq_true rfl), (Nat.le_of_ble_eq_true rfl)⟩) ?_
                            refine lv_aload_n hx hb dX6_range_263 rfl (lv_at hl 3 rfl) ?_
                            refine lv_iload hx hb dX6_range_264 (lv_at hl 2 rfl) ?_
                            refine lv_iconst (v := 2) hx hb dX6_range_266 (by decide) ?_
                            refine z_ro (va_runV (As := [.int (raR (mR M) x y tx ty k186), .int (2 : Int32)]) (rest := [.int (oP ((mR M)) (nI k186) (2 : Int32))]) ⟨hx, hb, hml, hown, hz⟩ (c_X6_ofPoint l D cI cQ r M (raR (mR M) x y tx ty k186) (2 : Int32) (ix1 ((raR_in k186 (by have := hA.1; omega)).resolve_left c_253) (z_inC (by decide) (by decide)))) (zcwV 2 hz q3_160 q3_162 qs_25 q1_7 q3_163 hd_X6_ofPoint (Nat.le_of_ble_eq_true rfl) (Nat.le_of_ble_eq_true rfl)) (z_pv (ci := 6) (q := (RX6, TX6, 3)) hK hP rfl rfl) rfl rfl hl.1 rfl (lv_room (Nat.le_of_ble_eq_true rfl)) dX6_range_267 ⟨(Nat.le_of_ble_eq_true rfl), (Nat.le_of_ble_eq_true rfl)⟩) ?_
                            refine lv_icmp_le (tgt := 278) hx hb dX6_range_270 (by decide) (fun c_270 => ?_) (fun c_270 => ?_)
                            · have c_270 : (oP ((mR M)) (nI k186) (2 : Int32) : Int32) ≤ oP ((mR M)) (raR (mR M) x y tx ty k186) (2 : Int32) := c_270
                              refine lv_iload hx hb dX6_range_278 (lv_at hl 2 rfl) ?_
                              refine lv_istore (lv' := [(7, .int (raR (mR M) x y tx ty k186)), (6, .int ((raW (mR M) x y tx ty k186) + (oP ((mR M)) (nI k186) (2 : Int32)))), (8, .int (nI k186)), (0, .ref (r 0)), (1, .int (x)), (2, .int (y)), (3, .int (tx)), (4, .int (ty)), (5, .int (w))]) hx hb dX6_range_280 hl (by decide) rfl (fun ls hl => ?_)
                              refine lv_iinc (v := (nI k186) + 1) (lv' := [(8, .int ((nI k186) + 1)), (7, .int (raR (mR M) x y tx ty k186)), (6, .int ((raW (mR M) x y tx ty k186) + (oP ((mR M)) (nI k186) (2 : Int32)))), (0, .ref (r 0)), (1, .int (x)), (2, .int (y)), (3, .int (tx)), (4, .int (ty)), (5, .int (w))]) hx hb dX6_range_282 hl (k := 2) rfl rfl (by decide) rfl (fun ls hl => ?_)
                              refine lv_goto (tgt := 186) hx hb dX6_range_285 (by decide) ?_
                              have e186_8 : (nI (k186 + 1) : Int32) = (nI k186) + 1 := (nI_1 _).symm
                              have e186_6 : (raW (mR M) x y tx ty (k186 + 1) : Int32) = (raW (mR M) x y tx ty k186) + (oP ((mR M)) (nI k186) (2 : Int32)) := (by simp [raN, raT, raW, raR, mRg, mraRet, mraOk, c_5, c_15, c_26, c_36, c_43, c_59, c_194, c_203, c_218, c_234, c_253, c_270])
                              have e186_7 : (raR (mR M) x y tx ty (k186 + 1) : Int32) = raR (mR M) x y tx ty k186 := (by simp [raN, raT, raW, raR, mRg, mraRet, mraOk, c_5, c_15, c_26, c_36, c_43, c_59, c_194, c_203, c_218, c_234, c_253, c_270])
                              exact ih186 (k186 + 1) (by omega) (by omega) _ (by (try rw [e186_8]); (try rw [e186_6]); (try rw [e186_7]); exact lv_sub hl [0, 2, 1, 3, 4, 5, 6, 7, 8] rfl)
                            · have c_270 : ¬ ((oP ((mR M)) (nI k186) (2 : Int32) : Int32) ≤ oP ((mR M)) (raR (mR M) x y tx ty k186) (2 : Int32)) := c_270
                              refine lv_iload hx hb dX6_range_273 (lv_at hl 1 rfl) ?_
                              refine lv_goto (tgt := 280) hx hb dX6_range_275 (by decide) ?_
                              refine lv_istore (lv' := [(7, .int (nI k186)), (6, .int ((raW (mR M) x y tx ty k186) + (oP ((mR M)) (nI k186) (2 : Int32)))), (8, .int (nI k186)), (0, .ref (r 0)), (1, .int (x)), (2, .int (y)), (3, .int (tx)), (4, .int (ty)), (5, .int (w))]) hx hb dX6_range_280 hl (by decide) rfl (fun ls hl => ?_)
                              refine lv_iinc (v := (nI k186) + 1) (lv' := [(8, .int ((nI k186) + 1)), (7, .int (nI k186)), (6, .int ((raW (mR M) x y tx ty k186) + (oP ((mR M)) (nI k186) (2 : Int32)))), (0, .ref (r 0)), (1, .int (x)), (2, .int (y)), (3, .int (tx)), (4, .int (ty)), (5, .int (w))]) hx hb dX6_range_282 hl (k := 2) rfl rfl (by decide) rfl (fun ls hl => ?_)
                              refine lv_goto (tgt := 186) hx hb dX6_range_285 (by decide) ?_
                              have e186_8 : (nI (k186 + 1) : Int32) = (nI k186) + 1 := (nI_1 _).symm
                              have e186_6 : (raW (mR M) x y tx ty (k186 + 1) : Int32) = (raW (mR M) x y tx ty k186) + (oP ((mR M)) (nI k186) (2 : Int32)) := (by simp [raN, raT, raW, raR, mRg, mraRet, mraOk, c_5, c_15, c_26, c_36, c_43, c_59, c_194, c_203, c_218, c_234, c_253, c_270])
                              have e186_7 : (raR (mR M) x y tx ty (k186 + 1) : Int32) = nI k186 := (by simp [raN, raT, raW, raR, mRg, mraRet, mraOk, c_5, c_15, c_26, c_36, c_43, c_59, c_194, c_203, c_218, c_234, c_253, c_270])
                              exact ih186 (k186 + 1) (by omega) (by omega) _ (by (try rw [e186_8]); (try rw [e186_6]); (try rw [e186_7]); exact lv_sub hl [0, 2, 1, 3, 4, 5, 6, 7, 8] rfl)
              have e186_8 : (nI 0 : Int32) = (0 : Int32) := rfl
              have e186_6 : (raW (mR M) x y tx ty 0 : Int32) = (0 : Int32) := (by rfl)
              have e186_7 : (raR (mR M) x y tx ty 0 : Int32) = (-9 : Int32) := (by rfl)
              exact L186 (a + 1) (0) (Nat.zero_le _) (by omega) _ (by (try rw [e186_8]); (try rw [e186_6]); (try rw [e186_7]); exact lv_sub hl [0, 2, 1, 3, 4, 5, 6, 7, 8] rfl)
            · have c_59 : (w : Int32) = (2 : Int32) := c_59
              refine lv_iconst (v := 0) hx hb dX6_range_62 (by decide) ?_
              refine lv_istore (lv' := [(6, .int (0 : Int32)), (0, .ref (r 0)), (1, .int (x)), (2, .int (y)), (3, .int (tx)), (4, .int (ty)), (5, .int (w))]) hx hb dX6_range_63 hl (by decide) rfl (fun ls hl => ?_)
              refine lv_iconst (v := 0) hx hb dX6_range_65 (by decide) ?_
              refine lv_istore (lv' := [(7, .int (0 : Int32)), (6, .int (0 : Int32)), (0, .ref (r 0)), (1, .int (x)), (2, .int (y)), (3, .int (tx)), (4, .int (ty)), (5, .int (w))]) hx hb dX6_range_66 hl (by decide) rfl (fun ls hl => ?_)
              have L68 : ∀ (n68 k68 : Nat), k68 ≤ f → f < k68 + n68 → ∀ (ls : Array Slot), lv_has ls 11 [(7, .int (nI k68)), (6, .int (raN (mR M) x y tx ty k68)), (0, .ref (r 0)), (1, .int (x)), (2, .int (y)), (3, .int (tx)), (4, .int (ty)), (5, .int (w))] → W pg l e ({ frames := 3, cells := 0, slots := 0, locals := 69 }) s mi args below meth cd s.heap [] 0 0 (MQ below (vp_Si (fun r => r = mraRet (mR M) a f x y tx ty w)) args s 0 0 (fun _ => False)) (F0 mi 68 ls []) := by
                intro n68
                induction n68 with
                | zero => intro k68 h1 h2; exact absurd h2 (by omega)
                | succ n68 ih68 =>
                  intro k68 h1_68 h2_68  ls hl
                  refine lv_iload hx hb dX6_range_68 (lv_at hl 0 rfl) ?_
                  refine lv_aload_n hx hb dX6_range_70 rfl (lv_at hl 2 rfl) ?_
                  refine va_get (D := D) (ci := 6) (v := .ref (r 1)) (C := RX6) (T := TX6) (N := 3) hx hb hz inZ6 hown hK.1 hP 0 rfl rfl 0 (by decide) (hz _ q3_88) (fun _ h9 => h9) rfl dX6_range_71 ?_
                  refine lv_iconst (v := 3) hx hb dX6_range_74 (by decide) ?_
                  refine va_iald (f := mR M) hx hb hK.1 hP 1 0 rfl rfl (i := (3 : Int32)) (z_inC (by decide) (by decide)) dX6_range_75 ?_
                  refine lv_icmp_ge (tgt := 173) hx hb dX6_range_76 (by decide) (fun c_76 => ?_) (fun c_76 => ?_)
                  · have c_76 : ((mR M) 3 : Int32) ≤ nI k68 := c_76
                    rw [hA.2.2.2.1] at c_76
                    have hk_68 : k68 = f := z_exit (by have := hA.2.1; omega) h1_68 c_76
                    refine lv_iload hx hb dX6_range_173 (lv_at hl 1 rfl) ?_
                    exact z_iret hx hb hr rfl hlocks (by rw [mraRet, if_pos (by rw [mraOk, c_5, c_15, c_26, c_36]; rfl)]; simp [c_43, c_59, c_76, hk_68]) dX6_range_175
                  · have c_76 : ¬ (((mR M) 3 : Int32) ≤ nI k68) := c_76
                    rw [hA.2.2.2.1] at c_76
                    have hk_68 : k68 < f := z_cont (by have := hA.2.1; omega) h1_68 c_76
                    refine lv_aload_n hx hb dX6_range_79 rfl (lv_at hl 2 rfl) ?_
                    refine lv_iload hx hb dX6_range_80 (lv_at hl 0 rfl) ?_
                    refine lv_iconst (v := 1) hx hb dX6_range_82 (by decide) ?_
                    refine z_ro (va_runV (As := [.int (nI k68), .int (1 : Int32)]) (rest := []) ⟨hx, hb, hml, hown, hz⟩ (c_X6_ofParish l D cI cQ r M (nI k68) (1 : Int32) (ix2 (Or.inl (kin hk_68 hA.2.1)) (z_inC (by decide) (by decide)))) (zcwV 2 hz q3_120 q3_122 qs_15 q1_7 q3_123 hd_X6_ofParish (Nat.le_of_ble_eq_true rfl) (Nat.le_of_ble_eq_true rfl)) (z_pv (ci := 6) (q := (RX6, TX6, 3)) hK hP rfl rfl) rfl rfl hl.1 rfl (lv_room (Nat.le_of_ble_eq_true rfl)) dX6_range_83 ⟨(Nat.le_of_ble_eq_true rfl), (Nat.le_of_ble_eq_true rfl)⟩) ?_
                    refine lv_istore (lv' := [(8, .int (qA ((mR M)) (nI k68) (1 : Int32))), (7, .int (nI k68)), (6, .int (raN (mR M) x y tx ty k68)), (0, .ref (r 0)), (1, .int (x)), (2, .int (y)), (3, .int (tx)), (4, .int (ty)), (5, .int (w))]) hx hb dX6_range_86 hl (by decide) rfl (fun ls hl => ?_)
                    refine lv_aload_n hx hb dX6_range_88 rfl (lv_at hl 3 rfl) ?_
                    refine lv_iload hx hb dX6_range_89 (lv_at hl 1 rfl) ?_
                    refine lv_iconst (v := 2) hx hb dX6_range_91 (by decide) ?_
                    refine z_ro (va_runV (As := [.int (nI k68), .int (2 : Int32)]) (rest := []) ⟨hx, hb, hml, hown, hz⟩ (c_X6_ofParish l D cI cQ r M (nI k68) (2 : Int32) (ix2 (Or.inl (kin hk_68 hA.2.1)) (z_inC (by decide) (by decide)))) (zcwV 2 hz q3_120 q3_122 qs_15 q1_7 q3_123 hd_X6_ofParish (Nat.le_of_ble_eq_true rfl) (Nat.le_of_ble_eq_true rfl)) (z_pv (ci := 6) (q := (RX6, TX6, 3)) hK hP rfl rfl) rfl rfl hl.1 rfl (lv_room (Nat.le_of_ble_eq_true rfl)) dX6_range_92 ⟨(Nat.le_of_ble_eq_true rfl), (Nat.le_of_ble_eq_true rfl)⟩) ?_
                    refine lv_istore (lv' := [(9, .int (qA ((mR M)) (nI k68) (2 : Int32))), (8, .int (qA ((mR M)) (nI k68) (1 : Int32))), (7, .int (nI k68)), (6, .int (raN (mR M) x y tx ty k68)), (0, .ref (r 0)), (1, .int (x)), (2, .int (y)), (3, .int (tx)), (4, .int (ty)), (5, .int (w))]) hx hb dX6_range_95 hl (by decide) rfl (fun ls hl => ?_)
                    refine lv_iload hx hb dX6_range_97 (lv_at hl 1 rfl) ?_
                    refine lv_iload_n hx hb dX6_range_99 rfl (lv_at hl 7 rfl) ?_
                    refine lv_icmp_gt (tgt := 140) hx hb dX6_range_100 (by decide) (fun c_100 => ?_) (fun c_100 => ?_)
                    · have c_100 : (tx : Int32) < qA ((mR M)) (nI k68) (1 : Int32) := c_100
                      refine lv_iconst (v := 0) hx hb dX6_range_140 (by decide) ?_
                      refine lv_istore (lv' := [(10, .int (0 : Int32)), (9, .int (qA ((mR M)) (nI k68) (2 : Int32))), (8, .int (qA ((mR M)) (nI k68) (1 : Int32))), (7, .int (nI k68)), (6, .int (raN (mR M) x y tx ty k68)), (0, .ref (r 0)), (1, .int (x)), (2, .int (y)), (3, .int (tx)), (4, .int (ty)), (5, .int (w))]) hx hb dX6_range_141 hl (by decide) rfl (fun ls hl => ?_)
                      refine lv_iload hx hb dX6_range_143 (lv_at hl 4 rfl) ?_
                      refine lv_aload_n hx hb dX6_range_145 rfl (lv_at hl 5 rfl) ?_
                      refine lv_iload hx hb dX6_range_146 (lv_at hl 3 rfl) ?_
                      refine z_ro (va_runV (As := [.int (nI k68)]) (rest := [.int (raN (mR M) x y tx ty k68)]) ⟨hx, hb, hml, hown, hz⟩ (c_X6_isParish l D cI cQ r M (nI k68) (a) (f) (hA)) (zcwV 1 hz q3_124 q3_126 qs_16 q1_7 q3_127 hd_X6_isParish (Nat.le_of_ble_eq_true rfl) (Nat.le_of_ble_eq_true rfl)) (z_pv (ci := 6) (q := (RX6, TX6, 3)) hK hP rfl rfl) rfl rfl hl.1 rfl (lv_room (Nat.le_of_ble_eq_true rfl)) dX6_range_148 ⟨(Nat.le_of_ble_eq_true rfl), (Nat.le_of_ble_eq_true rfl)⟩) ?_
                      refine lv_if_eq (tgt := 163) hx hb dX6_range_151 (by decide) (fun c_151 => ?_) (fun c_151 => ?_)
                      · have c_151 : (iR ((mR M)) (nI k68)) = false := bI_f c_151
                        refine lv_iconst (v := 0) hx hb dX6_range_163 (by decide) ?_
                        refine lv_iadd hx hb dX6_range_164 ?_
                        refine lv_istore (lv' := [(6, .int ((raN (mR M) x y tx ty k68) + (0 : Int32))), (10, .int (0 : Int32)), (9, .int (qA ((mR M)) (nI k68) (2 : Int32))), (8, .int (qA ((mR M)) (nI k68) (1 : Int32))), (7, .int (nI k68)), (0, .ref (r 0)), (1, .int (x)), (2, .int (y)), (3, .int (tx)), (4, .int (ty)), (5, .int (w))]) hx hb dX6_range_165 hl (by decide) rfl (fun ls hl => ?_)
                        refine lv_iinc (v := (nI k68) + 1) (lv' := [(7, .int ((nI k68) + 1)), (6, .int ((raN (mR M) x y tx ty k68) + (0 : Int32))), (10, .int (0 : Int32)), (9, .int (qA ((mR M)) (nI k68) (2 : Int32))), (8, .int (qA ((mR M)) (nI k68) (1 : Int32))), (0, .ref (r 0)), (1, .int (x)), (2, .int (y)), (3, .int (tx)), (4, .int (ty)), (5, .int (w))]) hx hb dX6_range_167 hl (k := 4) rfl rfl (by decide) rfl (fun ls hl => ?_)
                        refine lv_goto (tgt := 68) hx hb dX6_range_170 (by decide) ?_
                        have e68_7 : (nI (k68 + 1) : Int32) = (nI k68) + 1 := (nI_1 _).symm
                        have e68_6 : (raN (mR M) x y tx ty (k68 + 1) : Int32) = (raN (mR M) x y tx ty k68) + (0 : Int32) := (by simp [raN, raT, raW, raR, mRg, mraRet, mraOk, c_5, c_15, c_26, c_36, c_43, c_59, c_76, c_100, c_151])
                        exact ih68 (k68 + 1) (by omega) (by omega) _ (by (try rw [e68_7]); (try rw [e68_6]); exact lv_sub hl [0, 1, 5, 6, 7, 8, 9, 10] rfl)
                      · have c_151 : (iR ((mR M)) (nI k68)) = true := bI_t c_151
                        refine lv_iload hx hb dX6_range_154 (lv_at hl 0 rfl) ?_
                        refine lv_if_eq (tgt := 163) hx hb dX6_range_156 (by decide) (fun _ => ?_) (fun c_ => absurd (by decide) c_)
                        refine lv_iconst (v := 0) hx hb dX6_range_163 (by decide) ?_
                        refine lv_iadd hx hb dX6_range_164 ?_
                        refine lv_istore (lv' := [(6, .int ((raN (mR M) x y tx ty k68) + (0 : Int32))), (10, .int (0 : Int32)), (9, .int (qA ((mR M)) (nI k68) (2 : Int32))), (8, .int (qA ((mR M)) (nI k68) (1 : Int32))), (7, .int (nI k68)), (0, .ref (r 0)), (1, .int (x)), (2, .int (y)), (3, .int (tx)), (4, .int (ty)), (5, .int (w))]) hx hb dX6_range_165 hl (by decide) rfl (fun ls hl => ?_)
                        refine lv_iinc (v := (nI k68) + 1) (lv' := [(7, .int ((nI k68) + 1)), (6, .int ((raN (mR M) x y tx ty k68) + (0 : Int32))), (10, .int (0 : Int32)), (9, .int (qA ((mR M)) (nI k68) (2 : Int32))), (8, .int (qA ((mR M)) (nI k68) (1 : Int32))), (0, .ref (r 0)), (1, .int (x)), (2, .int (y)), (3, .int (tx)), (4, .int (ty)), (5, .int (w))]) hx hb dX6_range_167 hl (k := 4) rfl rfl (by decide) rfl (fun ls hl => ?_)
                        refine lv_goto (tgt := 68) hx hb dX6_range_170 (by decide) ?_
                        have e68_7 : (nI (k68 + 1) : Int32) = (nI k68) + 1 := (nI_1 _).symm
                        have e68_6 : (raN (mR M) x y tx ty (k68 + 1) : Int32) = (raN (mR M) x y tx ty k68) + (0 : Int32) := (by simp [raN, raT, raW, raR, mRg, mraRet, mraOk, c_5, c_15, c_26, c_36, c_43, c_59, c_76, c_100, c_151])
                        exact ih68 (k68 + 1) (by omega) (by omega) _ (by (try rw [e68_7]); (try rw [e68_6]); exact lv_sub hl [0, 1, 5, 6, 7, 8, 9, 10] rfl)
                    · have c_100 : ¬ ((tx : Int32) < qA ((mR M)) (nI k68) (1 : Int32)) := c_100
                      refine lv_iload hx hb dX6_range_103 (lv_at hl 1 rfl) ?_
                      refine lv_aload_n hx hb dX6_range_105 rfl (lv_at hl 4 rfl) ?_
                      refine lv_iload hx hb dX6_range_106 (lv_at hl 2 rfl) ?_
                      refine z_ro (va_runV (As := [.int (nI k68)]) (rest := [.int (qA ((mR M)) (nI k68) (1 : Int32))]) ⟨hx, hb, hml, hown, hz⟩ (c_X6_sideOf l D cI cQ r M (nI k68) (Or.inl (kin hk_68 hA.2.1))) (zcwV 1 hz q3_128 q3_130 qs_17 q1_7 q3_131 hd_X6_sideOf (Nat.le_of_ble_eq_true rfl) (Nat.le_of_ble_eq_true rfl)) (z_pv (ci := 6) (q := (RX6, TX6, 3)) hK hP rfl rfl) rfl rfl hl.1 rfl (lv_room (Nat.le_of_ble_eq_true rfl)) dX6_range_108 ⟨(Nat.le_of_ble_eq_true rfl), (Nat.le_of_ble_eq_true rfl)⟩) ?_
                      refine lv_iadd hx hb dX6_range_111 ?_
                      refine lv_iload_n hx hb dX6_range_112 rfl (lv_at hl 5 rfl) ?_
                      refine lv_icmp_le (tgt := 140) hx hb dX6_range_113 (by decide) (fun c_113 => ?_) (fun c_113 => ?_)
                      · have c_113 : ((qA ((mR M)) (nI k68) (1 : Int32)) + (mSd ((mR M)) (nI k68)) : Int32) ≤ x := c_113
                        refine lv_iconst (v := 0) hx hb dX6_range_140 (by decide) ?_
                        refine lv_istore (lv' := [(10, .int (0 : Int32)), (9, .int (qA ((mR M)) (nI k68) (2 : Int32))), (8, .int (qA ((mR M)) (nI k68) (1 : Int32))), (7, .int (nI k68)), (6, .int (raN (mR M) x y tx ty k68)), (0, .ref (r 0)), (1, .int (x)), (2, .int (y)), (3, .int (tx)), (4, .int (ty)), (5, .int (w))]) hx hb dX6_range_141 hl (by decide) rfl (fun ls hl => ?_)
                        refine lv_iload hx hb dX6_range_143 (lv_at hl 4 rfl) ?_
                        refine lv_aload_n hx hb dX6_range_145 rfl (lv_at hl 5 rfl) ?_
                        refine lv_iload hx hb dX6_range_146 (lv_at hl 3 rfl) ?_
                        refine z_ro (va_runV (As := [.int (nI k68)]) (rest := [.int (raN (mR M) x y tx ty k68)]) ⟨hx, hb, hml, hown, hz⟩ (c_X6_isParish l D cI cQ r M (nI k68) (a) (f) (hA)) (zcwV 1 hz q3_124 q3_126 qs_16 q1_7 q3_127 hd_X6_isParish (Nat.le_of_ble_eq_true rfl) (Nat.le_of_ble_eq_true rfl)) (z_pv (ci := 6) (q := (RX6, TX6, 3)) hK hP rfl rfl) rfl rfl hl.1 rfl (lv_room (Nat.le_of_ble_eq_true rfl)) dX6_range_148 ⟨(Nat.le_of_ble_eq_true rfl), (Nat.le_of_ble_eq_true rfl)⟩) ?_
                        refine lv_if_eq (tgt := 163) hx hb dX6_range_151 (by decide) (fun c_151 => ?_) (fun c_151 => ?_)
                        · have c_151 : (iR ((mR M)) (nI k68)) = false := bI_f c_151
                          refine lv_iconst (v := 0) hx hb dX6_range_163 (by decide) ?_
                          refine lv_iadd hx hb dX6_range_164 ?_
                          refine lv_istore (lv' := [(6, .int ((raN (mR M) x y tx ty k68) + (0 : Int32))), (10, .int (0 : Int32)), (9, .int (qA ((mR M)) (nI k68) (2 : Int32))), (8, .int (qA ((mR M)) (nI k68) (1 : Int32))), (7, .int (nI k68)), (0, .ref (r 0)), (1, .int (x)), (2, .int (y)), (3, .int (tx)), (4, .int (ty)), (5, .int (w))]) hx hb dX6_range_165 hl (by decide) rfl (fun ls hl => ?_)
                          refine lv_iinc (v := (nI k68) + 1) (lv' := [(7, .int ((nI k68) + 1)), (6, .int ((raN (mR M) x y tx ty k68) + (0 : Int32))), (10, .int (0 : Int32)), (9, .int (qA ((mR M)) (nI k68) (2 : Int32))), (8, .int (qA ((mR M)) (nI k68) (1 : Int32))), (0, .ref (r 0)), (1, .int (x)), (2, .int (y)), (3, .int (tx)), (4, .int (ty)), (5, .int (w))]) hx hb dX6_range_167 hl (k := 4) rfl rfl (by decide) rfl (fun ls hl => ?_)
                          refine lv_goto (tgt := 68) hx hb dX6_range_170 (by decide) ?_
                          have e68_7 : (nI (k68 + 1) : Int32) = (nI k68) + 1 := (nI_1 _).symm
                          have e68_6 : (raN (mR M) x y tx ty (k68 + 1) : Int32) = (raN (mR M) x y tx ty k68) + (0 : Int32) := (by simp [raN, raT, raW, raR, mRg, mraRet, mraOk, c_5, c_15, c_26, c_36, c_43, c_59, c_76, c_100, c_113, c_151])
                          exact ih68 (k68 + 1) (by omega) (by omega) _ (by (try rw [e68_7]); (try rw [e68_6]); exact lv_sub hl [0, 1, 5, 6, 7, 8, 9, 10] rfl)
                        · have c_151 : (iR ((mR M)) (nI k68)) = true := bI_t c_151
                          refine lv_iload hx hb dX6_range_154 (lv_at hl 0 rfl) ?_
                          refine lv_if_eq (tgt := 163) hx hb dX6_range_156 (by decide) (fun _ => ?_) (fun c_ => absurd (by decide) c_)
                          refine lv_iconst (v := 0) hx hb dX6_range_163 (by decide) ?_
                          refine lv_iadd hx hb dX6_range_164 ?_
                          refine lv_istore (lv' := [(6, .int ((raN (mR M) x y tx ty k68) + (0 : Int32))), (10, .int (0 : Int32)), (9, .int (qA ((mR M)) (nI k68) (2 : Int32))), (8, .int (qA ((mR M)) (nI k68) (1 : Int32))), (7, .int (nI k68)), (0, .ref (r 0)), (1, .int (x)), (2, .int (y)), (3, .int (tx)), (4, .int (ty)), (5, .int (w))]) hx hb dX6_range_165 hl (by decide) rfl (fun ls hl => ?_)
                          refine lv_iinc (v := (nI k68) + 1) (lv' := [(7, .int ((nI k68) + 1)), (6, .int ((raN (mR M) x y tx ty k68) + (0 : Int32))), (10, .int (0 : Int32)), (9, .int (qA ((mR M)) (nI k68) (2 : Int32))), (8, .int (qA ((mR M)) (nI k68) (1 : Int32))), (0, .ref (r 0)), (1, .int (x)), (2, .int (y)), (3, .int (tx)), (4, .int (ty)), (5, .int (w))]) hx hb dX6_range_167 hl (k := 4) rfl rfl (by decide) rfl (fun ls hl => ?_)
                          refine lv_goto (tgt := 68) hx hb dX6_range_170 (by decide) ?_
                          have e68_7 : (nI (k68 + 1) : Int32) = (nI k68) + 1 := (nI_1 _).symm
                          have e68_6 : (raN (mR M) x y tx ty (k68 + 1) : Int32) = (raN (mR M) x y tx ty k68) + (0 : Int32) := (by simp [raN, raT, raW, raR, mRg, mraRet, mraOk, c_5, c_15, c_26, c_36, c_43, c_59, c_76, c_100, c_113, c_151])
                          exact ih68 (k68 + 1) (by omega) (by omega) _ (by (try rw [e68_7]); (try rw [e68_6]); exact lv_sub hl [0, 1, 5, 6, 7, 8, 9, 10] rfl)
                      · have c_113 : ¬ (((qA ((mR M)) (nI k68) (1 : Int32)) + (mSd ((mR M)) (nI k68)) : Int32) ≤ x) := c_113
                        refine lv_iload hx hb dX6_range_116 (lv_at hl 0 rfl) ?_
                        refine lv_iload hx hb dX6_range_118 (lv_at hl 8 rfl) ?_
                        refine lv_icmp_gt (tgt := 140) hx hb dX6_range_120 (by decide) (fun c_120 => ?_) (fun c_120 => ?_)
                        · have c_120 : (ty : Int32) < qA ((mR M)) (nI k68) (2 : Int32) := c_120
                          refine lv_iconst (v := 0) hx hb dX6_range_140 (by decide) ?_
                          refine lv_istore (lv' := [(10, .int (0 : Int32)), (9, .int (qA ((mR M)) (nI k68) (2 : Int32))), (8, .int (qA ((mR M)) (nI k68) (1 : Int32))), (7, .int (nI k68)), (6, .int (raN (mR M) x y tx ty k68)), (0, .ref (r 0)), (1, .int (x)), (2, .int (y)), (3, .int (tx)), (4, .int (ty)), (5, .int (w))]) hx hb dX6_range_141 hl (by decide) rfl (fun ls hl => ?_)
                          refine lv_iload hx hb dX6_range_143 (lv_at hl 4 rfl) ?_
                          refine lv_aload_n hx hb dX6_range_145 rfl (lv_at hl 5 rfl) ?_
                          refine lv_iload hx hb dX6_range_146 (lv_at hl 3 rfl) ?_
                          refine z_ro (va_runV (As := [.int (nI k68)]) (rest := [.int (raN (mR M) x y tx ty k68)]) ⟨hx, hb, hml, hown, hz⟩ (c_X6_isParish l D cI cQ r M (nI k68) (a) (f) (hA)) (zcwV 1 hz q3_124 q3_126 qs_16 q1_7 q3_127 hd_X6_isParish (Nat.le_of_ble_eq_true rfl) (Nat.le_of_ble_eq_true rfl)) (z_pv (ci := 6) (q := (RX6, TX6, 3)) hK hP rfl rfl) rfl rfl hl.1 rfl (lv_room (Nat.le_of_ble_eq_true rfl)) dX6_range_148 ⟨(Nat.le_of_ble_eq_true rfl), (Nat.le_of_ble_eq_true rfl)⟩) ?_
                          refine lv_if_eq (tgt := 163) hx hb dX6_range_151 (by decide) (fun c_151 => ?_) (fun c_151 => ?_)
                          · have c_151 : (iR ((mR M)) (nI k68)) = false := bI_f c_151
                            refine lv_iconst (v := 0) hx hb dX6_range_163 (by decide) ?_
                            refine lv_iadd hx hb dX6_range_164 ?_
                            refine lv_istore (lv' := [(6, .int ((raN (mR M) x y tx ty k68) + (0 : Int32))), (10, .int (0 : Int32)), (9, .int (qA ((mR M)) (nI k68) (2 : Int32))), (8, .int (qA ((mR M)) (nI k68) (1 : Int32))), (7, .int (nI k68)), (0, .ref (r 0)), (1, .int (x)), (2, .int (y)), (3, .int (tx)), (4, .int (ty)), (5, .int (w))]) hx hb dX6_range_165 hl (by decide) rfl (fun ls hl => ?_)
                            refine lv_iinc (v := (nI k68) + 1) (lv' := [(7, .int ((nI k68) + 1)), (6, .int ((raN (mR M) x y tx ty k68) + (0 : Int32))), (10, .int (0 : Int32)), (9, .int (qA ((mR M)) (nI k68) (2 : Int32))), (8, .int (qA ((mR M)) (nI k68) (1 : Int32))), (0, .ref (r 0)), (1, .int (x)), (2, .int (y)), (3, .int (tx)), (4, .int (ty)), (5, .int (w))]) hx hb dX6_range_167 hl (k := 4) rfl rfl (by decide) rfl (fun ls hl => ?_)
                            refine lv_goto (tgt := 68) hx hb dX6_range_170 (by decide) ?_
                            have e68_7 : (nI (k68 + 1) : Int32) = (nI k68) + 1 := (nI_1 _).symm
                            have e68_6 : (raN (mR M) x y tx ty (k68 + 1) : Int32) = (raN (mR M) x y tx ty k68) + (0 : Int32) := (by simp [raN, raT, raW, raR, mRg, mraRet, mraOk, c_5, c_15, c_26, c_36, c_43, c_59, c_76, c_100, c_113, c_120, c_151])
                            exact ih68 (k68 + 1) (by omega) (by omega) _ (by (try rw [e68_7]); (try rw [e68_6]); exact lv_sub hl [0, 1, 5, 6, 7, 8, 9, 10] rfl)
                          · have c_151 : (iR ((mR M)) (nI k68)) = true := bI_t c_151
                            refine lv_iload hx hb dX6_range_154 (lv_at hl 0 rfl) ?_
                            refine lv_if_eq (tgt := 163) hx hb dX6_range_156 (by decide) (fun _ => ?_) (fun c_ => absurd (by decide) c_)
                            refine lv_iconst (v := 0) hx hb dX6_range_163 (by decide) ?_
                            refine lv_iadd hx hb dX6_range_164 ?_
                            refine lv_istore (lv' := [(6, .int ((raN (mR M) x y tx ty k68) + (0 : Int32))), (10, .int (0 : Int32)), (9, .int (qA ((mR M)) (nI k68) (2 : Int32))), (8, .int (qA ((mR M)) (nI k68) (1 : Int32))), (7, .int (nI k68)), (0, .ref (r 0)), (1, .int (x)), (2, .int (y)), (3, .int (tx)), (4, .int (ty)), (5, .int (w))]) hx hb dX6_range_165 hl (by decide) rfl (fun ls hl => ?_)
                            refine lv_iinc (v := (nI k68) + 1) (lv' := [(7, .int ((nI k68) + 1)), (6, .int ((raN (mR M) x y tx ty k68) + (0 : Int32))), (10, .int (0 : Int32)), (9, .int (qA ((mR M)) (nI k68) (2 : Int32))), (8, .int (qA ((mR M)) (nI k68) (1 : Int32))), (0, .ref (r 0)), (1, .int (x)), (2, .int (y)), (3, .int (tx)), (4, .int (ty)), (5, .int (w))]) hx hb dX6_range_167 hl (k := 4) rfl rfl (by decide) rfl (fun ls hl => ?_)
                            refine lv_goto (tgt := 68) hx hb dX6_range_170 (by decide) ?_
                            have e68_7 : (nI (k68 + 1) : Int32) = (nI k68) + 1 := (nI_1 _).symm
                            have e68_6 : (raN (mR M) x y tx ty (k68 + 1) : Int32) = (raN (mR M) x y tx ty k68) + (0 : Int32) := (by simp [raN, raT, raW, raR, mRg, mraRet, mraOk, c_5, c_15, c_26, c_36, c_43, c_59, c_76, c_100, c_113, c_120, c_151])
                            exact ih68 (k68 + 1) (by omega) (by omega) _ (by (try rw [e68_7]); (try rw [e68_6]); exact lv_sub hl [0, 1, 5, 6, 7, 8, 9, 10] rfl)
                        · have c_120 : ¬ ((ty : Int32) < qA ((mR M)) (nI k68) (2 : Int32)) := c_120
                          refine lv_iload hx hb dX6_range_123 (lv_at hl 0 rfl) ?_
                          refine lv_aload_n hx hb dX6_range_125 rfl (lv_at hl 4 rfl) ?_
                          refine lv_iload hx hb dX6_range_126 (lv_at hl 2 rfl) ?_
                          refine z_ro (va_runV (As := [.int (nI k68)]) (rest := [.int (qA ((mR M)) (nI k68) (2 : Int32))]) ⟨hx, hb, hml, hown, hz⟩ (c_X6_sideOf l D cI cQ r M (nI k68) (Or.inl (kin hk_68 hA.2.1))) (zcwV 1 hz q3_128 q3_130 qs_17 q1_7 q3_131 hd_X6_sideOf (Nat.le_of_ble_eq_true rfl) (Nat.le_of_ble_eq_true rfl)) (z_pv (ci := 6) (q := (RX6, TX6, 3)) hK hP rfl rfl) rfl rfl hl.1 rfl (lv_room (Nat.le_of_ble_eq_true rfl)) dX6_range_128 ⟨(Nat.le_of_ble_eq_true rfl), (Nat.le_of_ble_eq_true rfl)⟩) ?_
                          refine lv_iadd hx hb dX6_range_131 ?_
                          refine lv_iload_n hx hb dX6_range_132 rfl (lv_at hl 6 rfl) ?_
                          refine lv_icmp_le (tgt := 140) hx hb dX6_range_133 (by decide) (fun c_133 => ?_) (fun c_133 => ?_)
                          · have c_133 : ((qA ((mR M)) (nI k68) (2 : Int32)) + (mSd ((mR M)) (nI k68)) : Int32) ≤ y := c_133
                            refine lv_iconst (v := 0) hx hb dX6_range_140 (by decide) ?_
                            refine lv_istore (lv' := [(10, .int (0 : Int32)), (9, .int (qA ((mR M)) (nI k68) (2 : Int32))), (8, .int (qA ((mR M)) (nI k68) (1 : Int32))), (7, .int (nI k68)), (6, .int (raN (mR M) x y tx ty k68)), (0, .ref (r 0)), (1, .int (x)), (2, .int (y)), (3, .int (tx)), (4, .int (ty)), (5, .int (w))]) hx hb dX6_range_141 hl (by decide) rfl (fun ls hl => ?_)
                            refine lv_iload hx hb dX6_range_143 (lv_at hl 4 rfl) ?_
                            refine lv_aload_n hx hb dX6_range_145 rfl (lv_at hl 5 rfl) ?_
                            refine lv_iload hx hb dX6_range_146 (lv_at hl 3 rfl) ?_
                            refine z_ro (va_runV (As := [.int (nI k68)]) (rest := [.int (raN (mR M) x y tx ty k68)]) ⟨hx, hb, hml, hown, hz⟩ (c_X6_isParish l D cI cQ r M (nI k68) (a) (f) (hA)) (zcwV 1 hz q3_124 q3_126 qs_16 q1_7 q3_127 hd_X6_isParish (Nat.le_of_ble_eq_true rfl) (Nat.le_of_ble_eq_true rfl)) (z_pv (ci := 6) (q := (RX6, TX6, 3)) hK hP rfl rfl) rfl rfl hl.1 rfl (lv_room (Nat.le_of_ble_eq_true rfl)) dX6_range_148 ⟨(Nat.le_of_ble_eq_true rfl), (Nat.le_of_ble_eq_true rfl)⟩) ?_
                            refine lv_if_eq (tgt := 163) hx hb dX6_range_151 (by decide) (fun c_151 => ?_) (fun c_151 => ?_)
                            · have c_151 : (iR ((mR M)) (nI k68)) = false := bI_f c_151
                              refine lv_iconst (v := 0) hx hb dX6_range_163 (by decide) ?_
                              refine lv_iadd hx hb dX6_range_164 ?_
                              refine lv_istore (lv' := [(6, .int ((raN (mR M) x y tx ty k68) + (0 : Int32))), (10, .int (0 : Int32)), (9, .int (qA ((mR M)) (nI k68) (2 : Int32))), (8, .int (qA ((mR M)) (nI k68) (1 : Int32))), (7, .int (nI k68)), (0, .ref (r 0)), (1, .int (x)), (2, .int (y)), (3, .int (tx)), (4, .int (ty)), (5, .int (w))]) hx hb dX6_range_165 hl (by decide) rfl (fun ls hl => ?_)
                              refine lv_iinc (v := (nI k68) + 1) (lv' := [(7, .int ((nI k68) + 1)), (6, .int ((raN (mR M) x y tx ty k68) + (0 : Int32))), (10, .int (0 : Int32)), (9, .int (qA ((mR M)) (nI k68) (2 : Int32))), (8, .int (qA ((mR M)) (nI k68) (1 : Int32))), (0, .ref (r 0)), (1, .int (x)), (2, .int (y)), (3, .int (tx)), (4, .int (ty)), (5, .int (w))]) hx hb dX6_range_167 hl (k := 4) rfl rfl (by decide) rfl (fun ls hl => ?_)
                              refine lv_goto (tgt := 68) hx hb dX6_range_170 (by decide) ?_
                              have e68_7 : (nI (k68 + 1) : Int32) = (nI k68) + 1 := (nI_1 _).symm
                              have e68_6 : (raN (mR M) x y tx ty (k68 + 1) : Int32) = (raN (mR M) x y tx ty k68) + (0 : Int32) := (by simp [raN, raT, raW, raR, mRg, mraRet, mraOk, c_5, c_15, c_26, c_36, c_43, c_59, c_76, c_100, c_113, c_120, c_133, c_151])
                              exact ih68 (k68 + 1) (by omega) (by omega) _ (by (try rw [e68_7]); (try rw [e68_6]); exact lv_sub hl [0, 1, 5, 6, 7, 8, 9, 10] rfl)
                            · have c_151 : (iR ((mR M)) (nI k68)) = true := bI_t c_151
                              refine lv_iload hx hb dX6_range_154 (lv_at hl 0 rfl) ?_
                              refine lv_if_eq (tgt := 163) hx hb dX6_range_156 (by decide) (fun _ => ?_) (fun c_ => absurd (by decide) c_)
                              refine lv_iconst (v := 0) hx hb dX6_range_163 (by decide) ?_
                              refine lv_iadd hx hb dX6_range_164 ?_
                              refine lv_istore (lv' := [(6, .int ((raN (mR M) x y tx ty k68) + (0 : Int32))), (10, .int (0 : Int32)), (9, .int (qA ((mR M)) (nI k68) (2 : Int32))), (8, .int (qA ((mR M)) (nI k68) (1 : Int32))), (7, .int (nI k68)), (0, .ref (r 0)), (1, .int (x)), (2, .int (y)), (3, .int (tx)), (4, .int (ty)), (5, .int (w))]) hx hb dX6_range_165 hl (by decide) rfl (fun ls hl => ?_)
                              refine lv_iinc (v := (nI k68) + 1) (lv' := [(7, .int ((nI k68) + 1)), (6, .int ((raN (mR M) x y tx ty k68) + (0 : Int32))), (10, .int (0 : Int32)), (9, .int (qA ((mR M)) (nI k68) (2 : Int32))), (8, .int (qA ((mR M)) (nI k68) (1 : Int32))), (0, .ref (r 0)), (1, .int (x)), (2, .int (y)), (3, .int (tx)), (4, .int (ty)), (5, .int (w))]) hx hb dX6_range_167 hl (k := 4) rfl rfl (by decide) rfl (fun ls hl => ?_)
                              refine lv_goto (tgt := 68) hx hb dX6_range_170 (by decide) ?_
                              have e68_7 : (nI (k68 + 1) : Int32) = (nI k68) + 1 := (nI_1 _).symm
                              have e68_6 : (raN (mR M) x y tx ty (k68 + 1) : Int32) = (raN (mR M) x y tx ty k68) + (0 : Int32) := (by simp [raN, raT, raW, raR, mRg, mraRet, mraOk, c_5, c_15, c_26, c_36, c_43, c_59, c_76, c_100, c_113, c_120, c_133, c_151])
                              exact ih68 (k68 + 1) (by omega) (by omega) _ (by (try rw [e68_7]); (try rw [e68_6]); exact lv_sub hl [0, 1, 5, 6, 7, 8, 9, 10] rfl)
                          · have c_133 : ¬ (((qA ((mR M)) (nI k68) (2 : Int32)) + (mSd ((mR M)) (nI k68)) : Int32) ≤ y) := c_133
                            refine lv_iconst (v := 1) hx hb dX6_range_136 (by decide) ?_
                            refine lv_goto (tgt := 141) hx hb dX6_range_137 (by decide) ?_
                            refine lv_istore (lv' := [(10, .int (1 : Int32)), (9, .int (qA ((mR M)) (nI k68) (2 : Int32))), (8, .int (qA ((mR M)) (nI k68) (1 : Int32))), (7, .int (nI k68)), (6, .int (raN (mR M) x y tx ty k68)), (0, .ref (r 0)), (1, .int (x)), (2, .int (y)), (3, .int (tx)), (4, .int (ty)), (5, .int (w))]) hx hb dX6_range_141 hl (by decide) rfl (fun ls hl => ?_)
                            refine lv_iload hx hb dX6_range_143 (lv_at hl 4 rfl) ?_
                            refine lv_aload_n hx hb dX6_range_145 rfl (lv_at hl 5 rfl) ?_
                            refine lv_iload hx hb dX6_range_146 (lv_at hl 3 rfl) ?_
                            refine z_ro (va_runV (As := [.int (nI k68)]) (rest := [.int (raN (mR M) x y tx ty k68)]) ⟨hx, hb, hml, hown, hz⟩ (c_X6_isParish l D cI cQ r M (nI k68) (a) (f) (hA)) (zcwV 1 hz q3_124 q3_126 qs_16 q1_7 q3_127 hd_X6_isParish (Nat.le_of_ble_eq_true rfl) (Nat.le_of_ble_eq_true rfl)) (z_pv (ci := 6) (q := (RX6, TX6, 3)) hK hP rfl rfl) rfl rfl hl.1 rfl (lv_room (Nat.le_of_ble_eq_true rfl)) dX6_range_148 ⟨(Nat.le_of_ble_eq_true rfl), (Nat.le_of_ble_eq_true rfl)⟩) ?_
                            refine lv_if_eq (tgt := 163) hx hb dX6_range_151 (by decide) (fun c_151 => ?_) (fun c_151 => ?_)
                            · have c_151 : (iR ((mR M)) (nI k68)) = false := bI_f c_151
                              refine lv_iconst (v := 0) hx hb dX6_range_163 (by decide) ?_
                              refine lv_iadd hx hb dX6_range_164 ?_
                              refine lv_istore (lv' := [(6, .int ((raN (mR M) x y tx ty k68) + (0 : Int32))), (10, .int (1 : Int32)), (9, .int (qA ((mR M)) (nI k68) (2 : Int32))), (8, .int (qA ((mR M)) (nI k68) (1 : Int32))), (7, .int (nI k68)), (0, .ref (r 0)), (1, .int (x)), (2, .int (y)), (3, .int (tx)), (4, .int (ty)), (5, .int (w))]) hx hb dX6_range_165 hl (by decide) rfl (fun ls hl => ?_)
                              refine lv_iinc (v := (nI k68) + 1) (lv' := [(7, .int ((nI k68) + 1)), (6, .int ((raN (mR M) x y tx ty k68) + (0 : Int32))), (10, .int (1 : Int32)), (9, .int (qA ((mR M)) (nI k68) (2 : Int32))), (8, .int (qA ((mR M)) (nI k68) (1 : Int32))), (0, .ref (r 0)), (1, .int (x)), (2, .int (y)), (3, .int (tx)), (4, .int (ty)), (5, .int (w))]) hx hb dX6_range_167 hl (k := 4) rfl rfl (by decide) rfl (fun ls hl => ?_)
                              refine lv_goto (tgt := 68) hx hb dX6_range_170 (by decide) ?_
                              have e68_7 : (nI (k68 + 1) : Int32) = (nI k68) + 1 := (nI_1 _).symm
                              have e68_6 : (raN (mR M) x y tx ty (k68 + 1) : Int32) = (raN (mR M) x y tx ty k68) + (0 : Int32) := (by simp [raN, raT, raW, raR, mRg, mraRet, mraOk, c_5, c_15, c_26, c_36, c_43, c_59, c_76, c_100, c_113, c_120, c_133, c_151])
                              exact ih68 (k68 + 1) (by omega) (by omega) _ (by (try rw [e68_7]); (try rw [e68_6]); exact lv_sub hl [0, 1, 5, 6, 7, 8, 9, 10] rfl)
                            · have c_151 : (iR ((mR M)) (nI k68)) = true := bI_t c_151
                              refine lv_iload hx hb dX6_range_154 (lv_at hl 0 rfl) ?_
                              refine lv_if_eq (tgt := 163) hx hb dX6_range_156 (by decide) (fun c_ => absurd c_ (by decide)) (fun _ => ?_)
                              refine lv_iconst (v := 1) hx hb dX6_range_159 (by decide) ?_
                              refine lv_goto (tgt := 164) hx hb dX6_range_160 (by decide) ?_
                              refine lv_iadd hx hb dX6_range_164 ?_
                              refine lv_istore (lv' := [(6, .int ((raN (mR M) x y tx ty k68) + (1 : Int32))), (10, .int (1 : Int32)), (9, .int (qA ((mR M)) (nI k68) (2 : Int32))), (8, .int (qA ((mR M)) (nI k68) (1 : Int32))), (7, .int (nI k68)), (0, .ref (r 0)), (1, .int (x)), (2, .int (y)), (3, .int (tx)), (4, .int (ty)), (5, .int (w))]) hx hb dX6_range_165 hl (by decide) rfl (fun ls hl => ?_)
                              refine lv_iinc (v := (nI k68) + 1) (lv' := [(7, .int ((nI k68) + 1)), (6, .int ((raN (mR M) x y tx ty k68) + (1 : Int32))), (10, .int (1 : Int32)), (9, .int (qA ((mR M)) (nI k68) (2 : Int32))), (8, .int (qA ((mR M)) (nI k68) (1 : Int32))), (0, .ref (r 0)), (1, .int (x)), (2, .int (y)), (3, .int (tx)), (4, .int (ty)), (5, .int (w))]) hx hb dX6_range_167 hl (k := 4) rfl rfl (by decide) rfl (fun ls hl => ?_)
                              refine lv_goto (tgt := 68) hx hb dX6_range_170 (by decide) ?_
                              have e68_7 : (nI (k68 + 1) : Int32) = (nI k68) + 1 := (nI_1 _).symm
                              have e68_6 : (raN (mR M) x y tx ty (k68 + 1) : Int32) = (raN (mR M) x y tx ty k68) + (1 : Int32) := (by simp [raN, raT, raW, raR, mRg, mraRet, mraOk, c_5, c_15, c_26, c_36, c_43, c_59, c_76, c_100, c_113, c_120, c_133, c_151])
                              exact ih68 (k68 + 1) (by omega) (by omega) _ (by (try rw [e68_7]); (try rw [e68_6]); exact lv_sub hl [0, 1, 5, 6, 7, 8, 9, 10] rfl)
              have e68_7 : (nI 0 : Int32) = (0 : Int32) := rfl
              have e68_6 : (raN (mR M) x y tx ty 0 : Int32) = (0 : Int32) := (by rfl)
              exact L68 (f + 1) (0) (Nat.zero_le _) (by omega) _ (by (try rw [e68_7]); (try rw [e68_6]); exact lv_sub hl [0, 1, 2, 3, 4, 5, 6, 7] rfl)
          · have c_43 : (w : Int32) = 0 := c_43
            refine lv_aload_n hx hb dX6_range_46 rfl (lv_at hl 0 rfl) ?_
            refine lv_iload_n hx hb dX6_range_47 rfl (lv_at hl 1 rfl) ?_
            refine lv_iload_n hx hb dX6_range_48 rfl (lv_at hl 2 rfl) ?_
            refine lv_iload_n hx hb dX6_range_49 rfl (lv_at hl 3 rfl) ?_
            refine lv_iload hx hb dX6_range_50 (lv_at hl 4 rfl) ?_
            refine z_ro (va_runV (As := [.int (x), .int (y), .int (tx), .int (ty)]) (rest := []) ⟨hx, hb, hml, hown, hz⟩ (c_X6_pointsIn l D cI cQ r M x y tx ty (a) (f) (hA)) (zcwV 4 hz q3_152 q3_154 qs_23 q1_7 q3_155 hd_X6_pointsIn (Nat.le_of_ble_eq_true rfl) (Nat.le_of_ble_eq_true rfl)) (z_pv (ci := 6) (q := (RX6, TX6, 3)) hK hP rfl rfl) rfl rfl hl.1 rfl (lv_room (Nat.le_of_ble_eq_true rfl)) dX6_range_52 ⟨(Nat.le_of_ble_eq_true rfl), (Nat.le_of_ble_eq_true rfl)⟩) ?_
            exact z_iret hx hb hr rfl hlocks (by rw [mraRet, if_pos (by rw [mraOk, c_5, c_15, c_26, c_36]; rfl)]; simp [c_43]) dX6_range_55
        · have c_36 : (btw w (0 : Int32) (3 : Int32)) = false := bI_f c_36
          refine lv_iconst (v := (-1)) hx hb dX6_range_39 (by decide) ?_
          exact z_iret hx hb hr rfl hlocks (by simp [raN, raT, raW, raR, mRg, mraRet, mraOk, c_5, c_15, c_26, c_36]) dX6_range_40
set_option maxHeartbeats 1000000 in
set_option maxRecDepth 100000 in
theorem c_X6_nearest (l : Launch) (D : va_G) (cI cQ : ClassId) (r : Nat → Nat) (M : MS) (x y : Int32) (a : Nat) (f : Nat) (hA : mOk (mR M) a f) : zRO l yX6_nearest (Cond.code yX6_nearest cX6_nearest 7 (some .int) :: zT) 2 43 [.ref (r 0), .int x, .int y] D cI cQ (zMod cI r M) (mneRet (mR M) a x y) := by
  refine zRO.of (cc := cX6_nearest) (maxL := 7) (ret := some .int) (by decide +kernel) rfl (Nat.le_of_ble_eq_true rfl) ?_
  intro pg e s mi args below meth cd hx hb hr hts hown hlocks hml hP hK ls hl
  have hz : ∀ w ∈ zT, w.before args s = true := fun w h => hts w (List.mem_cons_of_mem _ h)
  have hl : lv_has ls 7 [(0, .ref (r 0)), (1, .int (x)), (2, .int (y))] := hl
  refine lv_iload_n hx hb dX6_nearest_0 rfl (lv_at hl 1 rfl) ?_
  refine lv_iload_n hx hb dX6_nearest_1 rfl (lv_at hl 2 rfl) ?_
  refine z_ro (va_runS (As := [.int (x), .int (y)]) (rest := []) ⟨hx, hb, hml, hown, hz⟩ (c_X6_isPlace l D cI cQ x y) (zcwS 2 hz q3_102 q3_103 q1_7 q3_104 hd_X6_isPlace (Nat.le_of_ble_eq_true rfl) (Nat.le_of_ble_eq_true rfl)) (z_ps hK z_nil) rfl rfl hl.1 rfl (lv_room (Nat.le_of_ble_eq_true rfl)) dX6_nearest_2 ⟨(Nat.le_of_ble_eq_true rfl), (Nat.le_of_ble_eq_true rfl)⟩) ?_
  refine lv_if_ne (tgt := 10) hx hb dX6_nearest_5 (by decide) (fun c_5 => ?_) (fun c_5 => ?_)
  · have c_5 : (onMap x y) = true := bI_t c_5
    refine lv_bipush (v := (-9)) hx hb dX6_nearest_10 (by decide) ?_
    refine lv_istore_n (lv' := [(3, .int (-9 : Int32)), (0, .ref (r 0)), (1, .int (x)), (2, .int (y))]) hx hb dX6_nearest_12 rfl hl (by decide) rfl (fun ls hl => ?_)
    refine lv_iconst (v := 0) hx hb dX6_nearest_13 (by decide) ?_
    refine lv_istore (lv' := [(4, .int (0 : Int32)), (3, .int (-9 : Int32)), (0, .ref (r 0)), (1, .int (x)), (2, .int (y))]) hx hb dX6_nearest_14 hl (by decide) rfl (fun ls hl => ?_)
    refine lv_iconst (v := 0) hx hb dX6_nearest_16 (by decide) ?_
    refine lv_istore (lv' := [(5, .int (0 : Int32)), (4, .int (0 : Int32)), (3, .int (-9 : Int32)), (0, .ref (r 0)), (1, .int (x)), (2, .int (y))]) hx hb dX6_nearest_17 hl (by decide) rfl (fun ls hl => ?_)
    have L19 : ∀ (n19 k19 : Nat), k19 ≤ a → a < k19 + n19 → ∀ (ls : Array Slot), lv_has ls 7 [(5, .int (nI k19)), (3, .int ((mNe (mR M) x y k19).1)), (4, .int ((mNe (mR M) x y k19).2)), (0, .ref (r 0)), (1, .int (x)), (2, .int (y))] → W pg l e ({ frames := 2, cells := 0, slots := 0, locals := 43 }) s mi args below meth cd s.heap [] 0 0 (MQ below (vp_Si (fun r => r = mneRet (mR M) a x y)) args s 0 0 (fun _ => False)) (F0 mi 19 ls []) := by
      intro n19
      induction n19 with
      | zero => intro k19 h1 h2; exact absurd h2 (by omega)
      | succ n19 ih19 =>
        intro k19 h1_19 h2_19  ls hl
        refine lv_iload hx hb dX6_nearest_19 (lv_at hl 0 rfl) ?_
        refine lv_aload_n hx hb dX6_nearest_21 rfl (lv_at hl 3 rfl) ?_
        refine va_get (D := D) (ci := 6) (v := .ref (r 1)) (C := RX6) (T := TX6) (N := 3) hx hb hz inZ6 hown hK.1 hP 0 rfl rfl 0 (by decide) (hz _ q3_88) (fun _ h9 => h9) rfl dX6_nearest_22 ?_
        refine lv_iconst (v := 2) hx hb dX6_nearest_25 (by decide) ?_
        refine va_iald (f := mR M) hx hb hK.1 hP 1 0 rfl rfl (i := (2 : Int32)) (z_inC (by decide) (by decide)) dX6_nearest_26 ?_
        refine lv_icmp_ge (tgt := 90) hx hb dX6_nearest_27 (by decide) (fun c_27 => ?_) (fun c_27 => ?_)
        · have c_27 : ((mR M) 2 : Int32) ≤ nI k19 := c_27
          rw [hA.2.2.1] at c_27
          have hk_19 : k19 = a := z_exit (by have := hA.1; omega) h1_19 c_27
          refine lv_iload_n hx hb dX6_nearest_90 rfl (lv_at hl 1 rfl) ?_
          exact z_iret hx hb hr rfl hlocks (by simp [mNe, mneRet, c_5, c_27, hk_19]) dX6_nearest_91
        · have c_27 : ¬ (((mR M) 2 : Int32) ≤ nI k19) := c_27
          rw [hA.2.2.1] at c_27
          have hk_19 : k19 < a := z_cont (by have := hA.1; omega) h1_19 c_27
          refine lv_iload_n hx hb dX6_nearest_30 rfl (lv_at hl 4 rfl) ?_
          refine lv_aload_n hx hb dX6_nearest_31 rfl (lv_at hl 3 rfl) ?_
          refine lv_iload hx hb dX6_nearest_32 (lv_at hl 0 rfl) ?_
          refine lv_iconst (v := 0) hx hb dX6_nearest_34 (by decide) ?_
          refine z_ro (va_runV (As := [.int (nI k19), .int (0 : Int32)]) (rest := [.int (x)]) ⟨hx, hb, hml, hown, hz⟩ (c_X6_ofPoint l D cI cQ r M (nI k19) (0 : Int32) (ix1 (kin hk_19 (by have := hA.1; omega)) (z_inC (by decide) (by decide)))) (zcwV 2 hz q3_160 q3_162 qs_25 q1_7 q3_163 hd_X6_ofPoint (Nat.le_of_ble_eq_true rfl) (Nat.le_of_ble_eq_true rfl)) (z_pv (ci := 6) (q := (RX6, TX6, 3)) hK hP rfl rfl) rfl rfl hl.1 rfl (lv_room (Nat.le_of_ble_eq_true rfl)) dX6_nearest_35 ⟨(Nat.le_of_ble_eq_true rfl), (Nat.le_of_ble_eq_true rfl)⟩) ?_
          refine z_ro (va_runS (As := [.int (x), .int (oP ((mR M)) (nI k19) (0 : Int32))]) (rest := []) ⟨hx, hb, hml, hown, hz⟩ (c_X6_far l D cI cQ x (oP ((mR M)) (nI k19) (0 : Int32))) (zcwS 2 hz q4_24 q4_25 q1_7 q4_26 hd_X6_far (Nat.le_of_ble_eq_true rfl) (Nat.le_of_ble_eq_true rfl)) (z_ps hK z_nil) rfl rfl hl.1 rfl (lv_room (Nat.le_of_ble_eq_true rfl)) dX6_nearest_38 ⟨(Nat.le_of_ble_eq_true rfl), (Nat.le_of_ble_eq_true rfl)⟩) ?_
          refine lv_iload_n hx hb dX6_nearest_41 rfl (lv_at hl 5 rfl) ?_
          refine lv_aload_n hx hb dX6_nearest_42 rfl (lv_at hl 3 rfl) ?_
          refine lv_iload hx hb dX6_nearest_43 (lv_at hl 0 rfl) ?_
          refine lv_iconst (v := 1) hx hb dX6_nearest_45 (by decide) ?_
          refine z_ro (va_runV (As := [.int (nI k19), .int (1 : Int32)]) (rest := [.int (y), .int (faR x (oP ((mR M)) (nI k19) (0 : Int32)))]) ⟨hx, hb, hml, hown, hz⟩ (c_X6_ofPoint l D cI cQ r M (nI k19) (1 : Int32) (ix1 (kin hk_19 (by have := hA.1; omega)) (z_inC (by decide) (by decide)))) (zcwV 2 hz q3_160 q3_162 qs_25 q1_7 q3_163 hd_X6_ofPoint (Nat.le_of_ble_eq_true rfl) (Nat.le_of_ble_eq_true rfl)) (z_pv (ci := 6) (q := (RX6, TX6, 3)) hK hP rfl rfl) rfl rfl hl.1 rfl (lv_room (Nat.le_of_ble_eq_true rfl)) dX6_nearest_46 ⟨(Nat.le_of_ble_eq_true rfl), (Nat.le_of_ble_eq_true rfl)⟩) ?_
          refine z_ro (va_runS (As := [.int (y), .int (oP ((mR M)) (nI k19) (1 : Int32))]) (rest := [.int (faR x (oP ((mR M)) (nI k19) (0 : Int32)))]) ⟨hx, hb, hml, hown, hz⟩ (c_X6_far l D cI cQ y (oP ((mR M)) (nI k19) (1 : Int32))) (zcwS 2 hz q4_24 q4_25 q1_7 q4_26 hd_X6_far (Nat.le_of_ble_eq_true rfl) (Nat.le_of_ble_eq_true rfl)) (z_ps hK z_nil) rfl rfl hl.1 rfl (lv_room (Nat.le_of_ble_eq_true rfl)) dX6_nearest_49 ⟨(Nat.le_of_ble_eq_true rfl), (Nat.le_of_ble_eq_true rfl)⟩) ?_
          refine lv_iadd hx hb dX6_nearest_52 ?_
          refine lv_istore (lv' := [(6, .int (mDi (mR M) x y (nI k19))), (5, .int (nI k19)), (3, .int ((mNe (mR M) x y k19).1)), (4, .int ((mNe (mR M) x y k19).2)), (0, .ref (r 0)), (1, .int (x)), (2, .int (y))]) hx hb dX6_nearest_53 hl (by decide) rfl (fun ls hl => ?_)
          refine lv_aload_n hx hb dX6_nearest_55 rfl (lv_at hl 4 rfl) ?_
          refine lv_iload hx hb dX6_nearest_56 (lv_at hl 1 rfl) ?_
          refine z_ro (va_runV (As := [.int (nI k19)]) (rest := []) ⟨hx, hb, hml, hown, hz⟩ (c_X6_isPoint l D cI cQ r M (nI k19) (a) (f) (hA)) (zcwV 1 hz q3_156 q3_158 qs_24 q1_7 q3_159 hd_X6_isPoint (Nat.le_of_ble_eq_true rfl) (Nat.le_of_ble_eq_true rfl)) (z_pv (ci := 6) (q := (RX6, TX6, 3)) hK hP rfl rfl) rfl rfl hl.1 rfl (lv_room (Nat.le_of_ble_eq_true rfl)) dX6_nearest_58 ⟨(Nat.le_of_ble_eq_true rfl), (Nat.le_of_ble_eq_true rfl)⟩) ?_
          refine lv_if_eq (tgt := 84) hx hb dX6_nearest_61 (by decide) (fun c_61 => ?_) (fun c_61 => ?_)
          · have c_61 : (iP ((mR M)) (nI k19)) = false := bI_f c_61
            refine lv_iinc (v := (nI k19) + 1) (lv' := [(5, .int ((nI k19) + 1)), (6, .int (mDi (mR M) x y (nI k19))), (3, .int ((mNe (mR M) x y k19).1)), (4, .int ((mNe (mR M) x y k19).2)), (0, .ref (r 0)), (1, .int (x)), (2, .int (y))]) hx hb dX6_nearest_84 hl (k := 1) rfl rfl (by decide) rfl (fun ls hl => ?_)
            refine lv_goto (tgt := 19) hx hb dX6_nearest_87 (by decide) ?_
            have e19_5 : (nI (k19 + 1) : Int32) = (nI k19) + 1 := (nI_1 _).symm
            have e19_3 : ((mNe (mR M) x y (k19 + 1)).1 : Int32) = (mNe (mR M) x y k19).1 := (by simp [mNe, mneRet, c_5, c_27, c_61])
            have e19_4 : ((mNe (mR M) x y (k19 + 1)).2 : Int32) = (mNe (mR M) x y k19).2 := (by simp [mNe, mneRet, c_5, c_27, c_61])
            exact ih19 (k19 + 1) (by omega) (by omega) _ (by (try rw [e19_5]); (try rw [e19_3]); (try rw [e19_4]); exact lv_sub hl [0, 2, 3, 4, 5, 6] rfl)
          · have c_61 : (iP ((mR M)) (nI k19)) = true := bI_t c_61
            refine lv_iload_n hx hb dX6_nearest_64 rfl (lv_at hl 2 rfl) ?_
            refine lv_bipush (v := (-9)) hx hb dX6_nearest_65 (by decide) ?_
            refine lv_icmp_eq (tgt := 77) hx hb dX6_nearest_67 (by decide) (fun c_67 => ?_) (fun c_67 => ?_)
            · have c_67 : ((mNe (mR M) x y k19).1 : Int32) = (-9 : Int32) := c_67
              refine lv_iload hx hb dX6_nearest_77 (lv_at hl 1 rfl) ?_
              refine lv_istore_n (lv' := [(3, .int (nI k19)), (6, .int (mDi (mR M) x y (nI k19))), (5, .int (nI k19)), (4, .int ((mNe (mR M) x y k19).2)), (0, .ref (r 0)), (1, .int (x)), (2, .int (y))]) hx hb dX6_nearest_79 rfl hl (by decide) rfl (fun ls hl => ?_)
              refine lv_iload hx hb dX6_nearest_80 (lv_at hl 1 rfl) ?_
              refine lv_istore (lv' := [(4, .int (mDi (mR M) x y (nI k19))), (3, .int (nI k19)), (6, .int (mDi (mR M) x y (nI k19))), (5, .int (nI k19)), (0, .ref (r 0)), (1, .int (x)), (2, .int (y))]) hx hb dX6_nearest_82 hl (by decide) rfl (fun ls hl => ?_)
              refine lv_iinc (v := (nI k19) + 1) (lv' := [(5, .int ((nI k19) + 1)), (4, .int (mDi (mR M) x y (nI k19))), (3, .int (nI k19)), (6, .int (mDi (mR M) x y (nI k19))), (0, .ref (r 0)), (1, .int (x)), (2, .int (y))]) hx hb dX6_nearest_84 hl (k := 3) rfl rfl (by decide) rfl (fun ls hl => ?_)
              refine lv_goto (tgt := 19) hx hb dX6_nearest_87 (by decide) ?_
              have e19_5 : (nI (k19 + 1) : Int32) = (nI k19) + 1 := (nI_1 _).symm
              have e19_3 : ((mNe (mR M) x y (k19 + 1)).1 : Int32) = nI k19 := (by simp [mNe, mneRet, c_5, c_27, c_61, c_67])
              have e19_4 : ((mNe (mR M) x y (k19 + 1)).2 : Int32) = mDi (mR M) x y (nI k19) := (by simp [mNe, mneRet, c_5, c_27, c_61, c_67])
              exact ih19 (k19 + 1) (by omega) (by omega) _ (by (try rw [e19_5]); (try rw [e19_3]); (try rw [e19_4]); exact lv_sub hl [0, 2, 1, 4, 5, 6] rfl)
            · have c_67 : ¬ (((mNe (mR M) x y k19).1 : Int32) = (-9 : Int32)) := c_67
              refine lv_iload hx hb dX6_nearest_70 (lv_at hl 0 rfl) ?_
              refine lv_iload hx hb dX6_nearest_72 (lv_at hl 3 rfl) ?_
              refine lv_icmp_ge (tgt := 84) hx hb dX6_nearest_74 (by decide) (fun c_74 => ?_) (fun c_74 => ?_)
              · have c_74 : ((mNe (mR M) x y k19).2 : Int32) ≤ mDi (mR M) x y (nI k19) := c_74
                refine lv_iinc (v := (nI k19) + 1) (lv' := [(5, .int ((nI k19) + 1)), (6, .int (mDi (mR M) x y (nI k19))), (3, .int ((mNe (mR M) x y k19).1)), (4, .int ((mNe (mR M) x y k19).2)), (0, .ref (r 0)), (1, .int (x)), (2, .int (y))]) hx hb dX6_nearest_84 hl (k := 1) rfl rfl (by decide) rfl (fun ls hl => ?_)
                refine lv_goto (tgt := 19) hx hb dX6_nearest_87 (by decide) ?_
                have e19_5 : (nI (k19 + 1) : Int32) = (nI k19) + 1 := (nI_1 _).symm
                have e19_3 : ((mNe (mR M) x y (k19 + 1)).1 : Int32) = (mNe (mR M) x y k19).1 := (by simp [mNe, mneRet, c_5, c_27, c_61, c_67, c_74])
                have e19_4 : ((mNe (mR M) x y (k19 + 1)).2 : Int32) = (mNe (mR M) x y k19).2 := (by simp [mNe, mneRet, c_5, c_27, c_61, c_67, c_74])
                exact ih19 (k19 + 1) (by omega) (by omega) _ (by (try rw [e19_5]); (try rw [e19_3]); (try rw [e19_4]); exact lv_sub hl [0, 2, 3, 4, 5, 6] rfl)
              · have c_74 : ¬ (((mNe (mR M) x y k19).2 : Int32) ≤ mDi (mR M) x y (nI k19)) := c_74
                refine lv_iload hx hb dX6_nearest_77 (lv_at hl 1 rfl) ?_
                refine lv_istore_n (lv' := [(3, .int (nI k19)), (6, .int (mDi (mR M) x y (nI k19))), (5, .int (nI k19)), (4, .int ((mNe (mR M) x y k19).2)), (0, .ref (r 0)), (1, .int (x)), (2, .int (y))]) hx hb dX6_nearest_79 rfl hl (by decide) rfl (fun ls hl => ?_)
                refine lv_iload hx hb dX6_nearest_80 (lv_at hl 1 rfl) ?_
                refine lv_istore (lv' := [(4, .int (mDi (mR M) x y (nI k19))), (3, .int (nI k19)), (6, .int (mDi (mR M) x y (nI k19))), (5, .int (nI k19)), (0, .ref (r 0)), (1, .int (x)), (2, .int (y))]) hx hb dX6_nearest_82 hl (by decide) rfl (fun ls hl => ?_)
                refine lv_iinc (v := (nI k19) + 1) (lv' := [(5, .int ((nI k19) + 1)), (4, .int (mDi (mR M) x y (nI k19))), (3, .int (nI k19)), (6, .int (mDi (mR M) x y (nI k19))), (0, .ref (r 0)), (1, .int (x)), (2, .int (y))]) hx hb dX6_nearest_84 hl (k := 3) rfl rfl (by decide) rfl (fun ls hl => ?_)
                refine lv_goto (tgt := 19) hx hb dX6_nearest_87 (by decide) ?_
                have e19_5 : (nI (k19 + 1) : Int32) = (nI k19) + 1 := (nI_1 _).symm
                have e19_3 : ((mNe (mR M) x y (k19 + 1)).1 : Int32) = nI k19 := (by simp [mNe, mneRet, c_5, c_27, c_61, c_67, c_74])
                have e19_4 : ((mNe (mR M) x y (k19 + 1)).2 : Int32) = mDi (mR M) x y (nI k19) := (by simp [mNe, mneRet, c_5, c_27, c_61, c_67, c_74])
                exact ih19 (k19 + 1) (by omega) (by omega) _ (by (try rw [e19_5]); (try rw [e19_3]); (try rw [e19_4]); exact lv_sub hl [0, 2, 1, 4, 5, 6] rfl)
    have e19_5 : (nI 0 : Int32) = (0 : Int32) := rfl
    have e19_3 : ((mNe (mR M) x y 0).1 : Int32) = (-9 : Int32) := (by rfl)
    have e19_4 : ((mNe (mR M) x y 0).2 : Int32) = (0 : Int32) := (by rfl)
    exact L19 (a + 1) (0) (Nat.zero_le _) (by omega) _ (by (try rw [e19_5]); (try rw [e19_3]); (try rw [e19_4]); exact lv_sub hl [0, 2, 1, 3, 4, 5] rfl)
  · have c_5 : (onMap x y) = false := bI_f c_5
    refine lv_iconst (v := (-1)) hx hb dX6_nearest_8 (by decide) ?_
    exact z_iret hx hb hr rfl hlocks (by simp [mNe, mneRet, c_5]) dX6_nearest_9
set_option maxHeartbeats 1000000 in
set_option maxRecDepth 100000 in
theorem c_X6_inOrder (l : Launch) (D : va_G) (cI cQ : ClassId) (r : Nat → Nat) (M : MS) (ix : Int32) (a : Nat) (f : Nat) (hA : mOk (mR M) a f) : zRO l yX6_inOrder (Cond.code yX6_inOrder cX6_inOrder 7 (some .int) :: zT) 3 68 [.ref (r 0), .int ix] D cI cQ (zMod cI r M) (mioRet (mR M) f ix) := by
  refine zRO.of (cc := cX6_inOrder) (maxL := 7) (ret := some .int) (by decide +kernel) rfl (Nat.le_of_ble_eq_true rfl) ?_
  intro pg e s mi args below meth cd hx hb hr hts hown hlocks hml hP hK ls hl
  have hz : ∀ w ∈ zT, w.before args s = true := fun w h => hts w (List.mem_cons_of_mem _ h)
  have hl : lv_has ls 7 [(0, .ref (r 0)), (1, .int (ix))] := hl
  refine lv_iload_n hx hb dX6_inOrder_0 rfl (lv_at hl 1 rfl) ?_
  refine lv_if_ge (tgt := 6) hx hb dX6_inOrder_1 (by decide) (fun c_1 => ?_) (fun c_1 => ?_)
  · have c_1 : (0 : Int32) ≤ ix := c_1
    refine lv_iconst (v := 0) hx hb dX6_inOrder_6 (by decide) ?_
    refine lv_istore_n (lv' := [(2, .int (0 : Int32)), (0, .ref (r 0)), (1, .int (ix))]) hx hb dX6_inOrder_7 rfl hl (by decide) rfl (fun ls hl => ?_)
    refine lv_iconst (v := 0) hx hb dX6_inOrder_8 (by decide) ?_
    refine lv_istore_n (lv' := [(3, .int (0 : Int32)), (2, .int (0 : Int32)), (0, .ref (r 0)), (1, .int (ix))]) hx hb dX6_inOrder_9 rfl hl (by decide) rfl (fun ls hl => ?_)
    have L10 : ∀ (n10 k10 : Nat), k10 ≤ 256 → 256 < k10 + n10 → (mioRes (mR M) f ix = ioG (mR M) f ix (256 - k10) k10) → ∀ (ls : Array Slot), lv_has ls 7 [(3, .int (nI k10)), (2, .int (ioN (mR M) f k10)), (0, .ref (r 0)), (1, .int (ix))] → W pg l e ({ frames := 3, cells := 0, slots := 0, locals := 68 }) s mi args below meth cd s.heap [] 0 0 (MQ below (vp_Si (fun r => r = mioRet (mR M) f ix)) args s 0 0 (fun _ => False)) (F0 mi 10 ls []) := by
      intro n10
      induction n10 with
      | zero => intro k10 h1 h2; exact absurd h2 (by omega)
      | succ n10 ih10 =>
        intro k10 h1_10 h2_10 he ls hl
        refine lv_iload_n hx hb dX6_inOrder_10 rfl (lv_at hl 0 rfl) ?_
        refine lv_sipush (v := 256) hx hb dX6_inOrder_11 (by decide) ?_
        refine lv_icmp_ge (tgt := 127) hx hb dX6_inOrder_14 (by decide) (fun c_14 => ?_) (fun c_14 => ?_)
        · have c_14 : ((256 : Int32) : Int32) ≤ nI k10 := c_14
          have hk_10 : k10 = 256 := z_exit (by decide) h1_10 c_14
          refine lv_bipush (v := (-9)) hx hb dX6_inOrder_127 (by decide) ?_
          exact z_iret hx hb hr rfl hlocks (by rw [mioRet, if_pos c_1, he, hk_10]; rfl) dX6_inOrder_129
        · have c_14 : ¬ (((256 : Int32) : Int32) ≤ nI k10) := c_14
          have hk_10 : k10 < 256 := z_cont (by decide) h1_10 c_14
          refine lv_iconst (v := 0) hx hb dX6_inOrder_17 (by decide) ?_
          refine lv_istore (lv' := [(4, .int (0 : Int32)), (3, .int (nI k10)), (2, .int (ioN (mR M) f k10)), (0, .ref (r 0)), (1, .int (ix))]) hx hb dX6_inOrder_18 hl (by decide) rfl (fun ls hl => ?_)
          refine lv_iconst (v := 0) hx hb dX6_inOrder_20 (by decide) ?_
          refine lv_istore (lv' := [(5, .int (0 : Int32)), (4, .int (0 : Int32)), (3, .int (nI k10)), (2, .int (ioN (mR M) f k10)), (0, .ref (r 0)), (1, .int (ix))]) hx hb dX6_inOrder_21 hl (by decide) rfl (fun ls hl => ?_)
          refine lv_iconst (v := 0) hx hb dX6_inOrder_23 (by decide) ?_
          refine lv_istore (lv' := [(6, .int (0 : Int32)), (5, .int (0 : Int32)), (4, .int (0 : Int32)), (3, .int (nI k10)), (2, .int (ioN (mR M) f k10)), (0, .ref (r 0)), (1, .int (ix))]) hx hb dX6_inOrder_24 hl (by decide) rfl (fun ls hl => ?_)
          have L26 : ∀ (n26 k26 : Nat), k26 ≤ 4 → 4 < k26 + n26 → ∀ (ls : Array Slot), lv_has ls 7 [(6, .int (nI k26)), (4, .int (mXc (nI k10) k26)), (5, .int (mYc (nI k10) k26)), (3, .int (nI k10)), (2, .int (ioN (mR M) f k10)), (0, .ref (r 0)), (1, .int (ix))] → W pg l e ({ frames := 3, cells := 0, slots := 0, locals := 68 }) s mi args below meth cd s.heap [] 0 0 (MQ below (vp_Si (fun r => r = mioRet (mR M) f ix)) args s 0 0 (fun _ => False)) (F0 mi 26 ls []) := by
            intro n26
            induction n26 with
            | zero => intro k26 h1 h2; exact absurd h2 (by omega)
            | succ n26 ih26 =>
              intro k26 h1_26 h2_26  ls hl
              refine lv_iload hx hb dX6_inOrder_26 (lv_at hl 0 rfl) ?_
              refine lv_iconst (v := 4) hx hb dX6_inOrder_28 (by decide) ?_
              refine lv_icmp_ge (tgt := 76) hx hb dX6_inOrder_29 (by decide) (fun c_29 => ?_) (fun c_29 => ?_)
              · have c_29 : ((4 : Int32) : Int32) ≤ nI k26 := c_29
                have hk_26 : k26 = 4 := z_exit (by decide) h1_26 c_29
                subst hk_26
                refine lv_aload_n hx hb dX6_inOrder_76 rfl (lv_at hl 5 rfl) ?_
                refine lv_iload hx hb dX6_inOrder_77 (lv_at hl 1 rfl) ?_
                refine lv_iload hx hb dX6_inOrder_79 (lv_at hl 2 rfl) ?_
                refine z_ro (va_runV (As := [.int (mXc (nI k10) 4), .int (mYc (nI k10) 4)]) (rest := []) ⟨hx, hb, hml, hown, hz⟩ (c_X6_parishAt l D cI cQ r M (mXc (nI k10) 4) (mYc (nI k10) 4) (a) (f) (hA)) (zcwV 2 hz q3_116 q3_118 qs_14 q1_7 q3_119 hd_X6_parishAt (Nat.le_of_ble_eq_true rfl) (Nat.le_of_ble_eq_true rfl)) (z_pv (ci := 6) (q := (RX6, TX6, 3)) hK hP rfl rfl) rfl rfl hl.1 rfl (lv_room (Nat.le_of_ble_eq_true rfl)) dX6_inOrder_81 ⟨(Nat.le_of_ble_eq_true rfl), (Nat.le_of_ble_eq_true rfl)⟩) ?_
                refine lv_istore (lv' := [(6, .int (ioP (mR M) f k10)), (4, .int (mXc (nI k10) 4)), (5, .int (mYc (nI k10) 4)), (3, .int (nI k10)), (2, .int (ioN (mR M) f k10)), (0, .ref (r 0)), (1, .int (ix))]) hx hb dX6_inOrder_84 hl (by decide) rfl (fun ls hl => ?_)
                refine lv_aload_n hx hb dX6_inOrder_86 rfl (lv_at hl 5 rfl) ?_
                refine lv_iload hx hb dX6_inOrder_87 (lv_at hl 0 rfl) ?_
                refine lv_iconst (v := 1) hx hb dX6_inOrder_89 (by decide) ?_
                refine z_ro (va_runV (As := [.int (ioP (mR M) f k10), .int (1 : Int32)]) (rest := []) ⟨hx, hb, hml, hown, hz⟩ (c_X6_ofParish l D cI cQ r M (ioP (mR M) f k10) (1 : Int32) (ix2 (mAt_in hA.2.1) (z_inC (by decide) (by decide)))) (zcwV 2 hz q3_120 q3_122 qs_15 q1_7 q3_123 hd_X6_ofParish (Nat.le_of_ble_eq_true rfl) (Nat.le_of_ble_eq_true rfl)) (z_pv (ci := 6) (q := (RX6, TX6, 3)) hK hP rfl rfl) rfl rfl hl.1 rfl (lv_room (Nat.le_of_ble_eq_true rfl)) dX6_inOrder_90 ⟨(Nat.le_of_ble_eq_true rfl), (Nat.le_of_ble_eq_true rfl)⟩) ?_
                refine lv_iload hx hb dX6_inOrder_93 (lv_at hl 1 rfl) ?_
                refine lv_icmp_ne (tgt := 121) hx hb dX6_inOrder_95 (by decide) (fun c_95 => ?_) (fun c_95 => ?_)
                · have c_95 : ¬ ((qA ((mR M)) (ioP (mR M) f k10) (1 : Int32) : Int32) = mXc (nI k10) 4) := c_95
                  refine lv_iinc (v := (nI k10) + 1) (lv' := [(3, .int ((nI k10) + 1)), (6, .int (ioP (mR M) f k10)), (4, .int (mXc (nI k10) 4)), (5, .int (mYc (nI k10) 4)), (2, .int (ioN (mR M) f k10)), (0, .ref (r 0)), (1, .int (ix))]) hx hb dX6_inOrder_121 hl (k := 3) rfl rfl (by decide) rfl (fun ls hl => ?_)
                  refine lv_goto (tgt := 10) hx hb dX6_inOrder_124 (by decide) ?_
                  have e10_3 : (nI (k10 + 1) : Int32) = (nI k10) + 1 := (nI_1 _).symm
                  have e10_2 : (ioN (mR M) f (k10 + 1) : Int32) = ioN (mR M) f k10 := (by simp [ioN, ioB, c_1, c_14, c_29, c_95])
                  exact ih10 (k10 + 1) (by omega) (by omega) (he.trans (ioG_on hk_10 (by simp [ioB, c_95]))) _ (by (try rw [e10_3]); (try rw [e10_2]); exact lv_sub hl [0, 4, 5, 6] rfl)
                · have c_95 : (qA ((mR M)) (ioP (mR M) f k10) (1 : Int32) : Int32) = mXc (nI k10) 4 := c_95
                  refine lv_aload_n hx hb dX6_inOrder_98 rfl (lv_at hl 5 rfl) ?_
                  refine lv_iload hx hb dX6_inOrder_99 (lv_at hl 0 rfl) ?_
                  refine lv_iconst (v := 2) hx hb dX6_inOrder_101 (by decide) ?_
                  refine z_ro (va_runV (As := [.int (ioP (mR M) f k10), .int (2 : Int32)]) (rest := []) ⟨hx, hb, hml, hown, hz⟩ (c_X6_ofParish l D cI cQ r M (ioP (mR M) f k10) (2 : Int32) (ix2 (mAt_in hA.2.1) (z_inC (by decide) (by decide)))) (zcwV 2 hz q3_120 q3_122 qs_15 q1_7 q3_123 hd_X6_ofParish (Nat.le_of_ble_eq_true rfl) (Nat.le_of_ble_eq_true rfl)) (z_pv (ci := 6) (q := (RX6, TX6, 3)) hK hP rfl rfl) rfl rfl hl.1 rfl (lv_room (Nat.le_of_ble_eq_true rfl)) dX6_inOrder_102 ⟨(Nat.le_of_ble_eq_true rfl), (Nat.le_of_ble_eq_true rfl)⟩) ?_
                  refine lv_iload hx hb dX6_inOrder_105 (lv_at hl 2 rfl) ?_
                  refine lv_icmp_ne (tgt := 121) hx hb dX6_inOrder_107 (by decide) (fun c_107 => ?_) (fun c_107 => ?_)
                  · have c_107 : ¬ ((qA ((mR M)) (ioP (mR M) f k10) (2 : Int32) : Int32) = mYc (nI k10) 4) := c_107
                    refine lv_iinc (v := (nI k10) + 1) (lv' := [(3, .int ((nI k10) + 1)), (6, .int (ioP (mR M) f k10)), (4, .int (mXc (nI k10) 4)), (5, .int (mYc (nI k10) 4)), (2, .int (ioN (mR M) f k10)), (0, .ref (r 0)), (1, .int (ix))]) hx hb dX6_inOrder_121 hl (k := 3) rfl rfl (by decide) rfl (fun ls hl => ?_)
                    refine lv_goto (tgt := 10) hx hb dX6_inOrder_124 (by decide) ?_
                    have e10_3 : (nI (k10 + 1) : Int32) = (nI k10) + 1 := (nI_1 _).symm
                    have e10_2 : (ioN (mR M) f (k10 + 1) : Int32) = ioN (mR M) f k10 := (by simp [ioN, ioB, c_1, c_14, c_29, c_95, c_107])
                    exact ih10 (k10 + 1) (by omega) (by omega) (he.trans (ioG_on hk_10 (by simp [ioB, c_95, c_107]))) _ (by (try rw [e10_3]); (try rw [e10_2]); exact lv_sub hl [0, 4, 5, 6] rfl)
                  · have c_107 : (qA ((mR M)) (ioP (mR M) f k10) (2 : Int32) : Int32) = mYc (nI k10) 4 := c_107
                    refine lv_iload_n hx hb dX6_inOrder_110 rfl (lv_at hl 4 rfl) ?_
                    refine lv_iload_n hx hb dX6_inOrder_111 rfl (lv_at hl 6 rfl) ?_
                    refine lv_icmp_ne (tgt := 118) hx hb dX6_inOrder_112 (by decide) (fun c_112 => ?_) (fun c_112 => ?_)
                    · have c_112 : ¬ ((ioN (mR M) f k10 : Int32) = ix) := c_112
                      refine lv_iinc (v := (ioN (mR M) f k10) + 1) (lv' := [(2, .int ((ioN (mR M) f k10) + 1)), (6, .int (ioP (mR M) f k10)), (4, .int (mXc (nI k10) 4)), (5, .int (mYc (nI k10) 4)), (3, .int (nI k10)), (0, .ref (r 0)), (1, .int (ix))]) hx hb dX6_inOrder_118 hl (k := 4) rfl rfl (by decide) rfl (fun ls hl => ?_)
                      refine lv_iinc (v := (nI k10) + 1) (lv' := [(3, .int ((nI k10) + 1)), (2, .int ((ioN (mR M) f k10) + 1)), (6, .int (ioP (mR M) f k10)), (4, .int (mXc (nI k10) 4)), (5, .int (mYc (nI k10) 4)), (0, .ref (r 0)), (1, .int (ix))]) hx hb dX6_inOrder_121 hl (k := 4) rfl rfl (by decide) rfl (fun ls hl => ?_)
                      refine lv_goto (tgt := 10) hx hb dX6_inOrder_124 (by decide) ?_
                      have e10_3 : (nI (k10 + 1) : Int32) = (nI k10) + 1 := (nI_1 _).symm
                      have e10_2 : (ioN (mR M) f (k10 + 1) : Int32) = (ioN (mR M) f k10) + 1 := (by simp [ioN, ioB, c_1, c_14, c_29, c_95, c_107, c_112])
                      exact ih10 (k10 + 1) (by omega) (by omega) (he.trans (ioG_on hk_10 (by simp [ioB, c_95, c_107, c_112]))) _ (by (try rw [e10_3]); (try rw [e10_2]); exact lv_sub hl [0, 1, 5, 6] rfl)
                    · have c_112 : (ioN (mR M) f k10 : Int32) = ix := c_112
                      refine lv_iload hx hb dX6_inOrder_115 (lv_at hl 0 rfl) ?_
                      exact z_iret hx hb hr rfl hlocks (by rw [mioRet, if_pos c_1]; exact (he.trans (ioG_hit hk_10 (by simp [ioB, c_95, c_107, c_112]))).symm) dX6_inOrder_117
              · have c_29 : ¬ (((4 : Int32) : Int32) ≤ nI k26) := c_29
                have hk_26 : k26 < 4 := z_cont (by decide) h1_26 c_29
                refine lv_iload hx hb dX6_inOrder_32 (lv_at hl 1 rfl) ?_
                refine lv_iload_n hx hb dX6_inOrder_34 rfl (lv_at hl 3 rfl) ?_
                refine lv_iconst (v := 2) hx hb dX6_inOrder_35 (by decide) ?_
                refine lv_iload hx hb dX6_inOrder_36 (lv_at hl 0 rfl) ?_
                refine lv_imul hx hb dX6_inOrder_38 ?_
                refine lv_ishr hx hb dX6_inOrder_39 ?_
                refine lv_iconst (v := 1) hx hb dX6_inOrder_40 (by decide) ?_
                refine lv_iand hx hb dX6_inOrder_41 ?_
                refine lv_iconst (v := 4) hx hb dX6_inOrder_42 (by decide) ?_
                refine lv_iload hx hb dX6_inOrder_43 (lv_at hl 0 rfl) ?_
                refine lv_ishl hx hb dX6_inOrder_45 ?_
                refine lv_imul hx hb dX6_inOrder_46 ?_
                refine lv_iadd hx hb dX6_inOrder_47 ?_
                refine lv_istore (lv' := [(4, .int ((mXc (nI k10) k26) + ((((nI k10) >>> (((2 : Int32) * (nI k26)) &&& 31)) &&& (1 : Int32)) * ((4 : Int32) <<< ((nI k26) &&& 31))))), (6, .int (nI k26)), (5, .int (mYc (nI k10) k26)), (3, .int (nI k10)), (2, .int (ioN (mR M) f k10)), (0, .ref (r 0)), (1, .int (ix))]) hx hb dX6_inOrder_48 hl (by decide) rfl (fun ls hl => ?_)
                refine lv_iload hx hb dX6_inOrder_50 (lv_at hl 2 rfl) ?_
                refine lv_iload_n hx hb dX6_inOrder_52 rfl (lv_at hl 3 rfl) ?_
                refine lv_iconst (v := 2) hx hb dX6_inOrder_53 (by decide) ?_
                refine lv_iload hx hb dX6_inOrder_54 (lv_at hl 1 rfl) ?_
                refine lv_imul hx hb dX6_inOrder_56 ?_
                refine lv_iconst (v := 1) hx hb dX6_inOrder_57 (by decide) ?_
                refine lv_iadd hx hb dX6_inOrder_58 ?_
                refine lv_ishr hx hb dX6_inOrder_59 ?_
                refine lv_iconst (v := 1) hx hb dX6_inOrder_60 (by decide) ?_
                refine lv_iand hx hb dX6_inOrder_61 ?_
                refine lv_iconst (v := 4) hx hb dX6_inOrder_62 (by decide) ?_
                refine lv_iload hx hb dX6_inOrder_63 (lv_at hl 1 rfl) ?_
                refine lv_ishl hx hb dX6_inOrder_65 ?_
                refine lv_imul hx hb dX6_inOrder_66 ?_
                refine lv_iadd hx hb dX6_inOrder_67 ?_
                refine lv_istore (lv' := [(5, .int ((mYc (nI k10) k26) + ((((nI k10) >>> ((((2 : Int32) * (nI k26)) + (1 : Int32)) &&& 31)) &&& (1 : Int32)) * ((4 : Int32) <<< ((nI k26) &&& 31))))), (4, .int ((mXc (nI k10) k26) + ((((nI k10) >>> (((2 : Int32) * (nI k26)) &&& 31)) &&& (1 : Int32)) * ((4 : Int32) <<< ((nI k26) &&& 31))))), (6, .int (nI k26)), (3, .int (nI k10)), (2, .int (ioN (mR M) f k10)), (0, .ref (r 0)), (1, .int (ix))]) hx hb dX6_inOrder_68 hl (by decide) rfl (fun ls hl => ?_)
                refine lv_iinc (v := (nI k26) + 1) (lv' := [(6, .int ((nI k26) + 1)), (5, .int ((mYc (nI k10) k26) + ((((nI k10) >>> ((((2 : Int32) * (nI k26)) + (1 : Int32)) &&& 31)) &&& (1 : Int32)) * ((4 : Int32) <<< ((nI k26) &&& 31))))), (4, .int ((mXc (nI k10) k26) + ((((nI k10) >>> (((2 : Int32) * (nI k26)) &&& 31)) &&& (1 : Int32)) * ((4 : Int32) <<< ((nI k26) &&& 31))))), (3, .int (nI k10)), (2, .int (ioN (mR M) f k10)), (0, .ref (r 0)), (1, .int (ix))]) hx hb dX6_inOrder_70 hl (k := 2) rfl rfl (by decide) rfl (fun ls hl => ?_)
                refine lv_goto (tgt := 26) hx hb dX6_inOrder_73 (by decide) ?_
                have e26_6 : (nI (k26 + 1) : Int32) = (nI k26) + 1 := (nI_1 _).symm
                have e26_4 : (mXc (nI k10) (k26 + 1) : Int32) = (mXc (nI k10) k26) + ((((nI k10) >>> (((2 : Int32) * (nI k26)) &&& 31)) &&& (1 : Int32)) * ((4 : Int32) <<< ((nI k26) &&& 31))) := (by rfl)
                have e26_5 : (mYc (nI k10) (k26 + 1) : Int32) = (mYc (nI k10) k26) + ((((nI k10) >>> ((((2 : Int32) * (nI k26)) + (1 : Int32)) &&& 31)) &&& (1 : Int32)) * ((4 : Int32) <<< ((nI k26) &&& 31))) := (by rfl)
                exact ih26 (k26 + 1) (by omega) (by omega) _ (by (try rw [e26_6]); (try rw [e26_4]); (try rw [e26_5]); exact lv_sub hl [0, 2, 1, 3, 4, 5, 6] rfl)
          have e26_6 : (nI 0 : Int32) = (0 : Int32) := rfl
          have e26_4 : (mXc (nI k10) 0 : Int32) = (0 : Int32) := (by rfl)
          have e26_5 : (mYc (nI k10) 0 : Int32) = (0 : Int32) := (by rfl)
          exact L26 (4 + 1) (0) (Nat.zero_le _) (by omega) _ (by (try rw [e26_6]); (try rw [e26_4]); (try rw [e26_5]); exact lv_sub hl [0, 2, 1, 3, 4, 5, 6] rfl)
    have e10_3 : (nI 0 : Int32) = (0 : Int32) := rfl
    have e10_2 : (ioN (mR M) f 0 : Int32) = (0 : Int32) := (by rfl)
    exact L10 (256 + 1) (0) (Nat.zero_le _) (by omega) (rfl) _ (by (try rw [e10_3]); (try rw [e10_2]); exact lv_sub hl [0, 1, 2, 3] rfl)
  · have c_1 : ¬ ((0 : Int32) ≤ ix) := c_1
    refine lv_iconst (v := (-1)) hx hb dX6_inOrder_4 (by decide) ?_
    exact z_iret hx hb hr rfl hlocks (by simp [mioRet, c_1]) dX6_inOrder_5
set_option maxHeartbeats 1000000 in
set_option maxRecDepth 100000 in
theorem c_X6_payable (l : Launch) (D : va_G) (cI cQ : ClassId) (r : Nat → Nat) (M : MS) (p : Int32) (a : Nat) (f : Nat) (hA : mOk (mR M) a f) : zRO l yX6_payable (Cond.code yX6_payable cX6_payable 4 (some .int) :: zT) 4 89 [.ref (r 0), .int p] D cI cQ (zMod cI r M) (mpbRet (mR M) a f p) := by
  refine zRO.of (cc := cX6_payable) (maxL := 4) (ret := some .int) (by decide +kernel) rfl (Nat.le_of_ble_eq_true rfl) ?_
  intro pg e s mi args below meth cd hx hb hr hts hown hlocks hml hP hK ls hl
  have hz : ∀ w ∈ zT, w.before args s = true := fun w h => hts w (List.mem_cons_of_mem _ h)
  have hl : lv_has ls 4 [(0, .ref (r 0)), (1, .int (p))] := hl
  refine lv_aload_n hx hb dX6_payable_0 rfl (lv_at hl 0 rfl) ?_
  refine lv_iload_n hx hb dX6_payable_1 rfl (lv_at hl 1 rfl) ?_
  refine z_ro (va_runV (As := [.int (p)]) (rest := []) ⟨hx, hb, hml, hown, hz⟩ (c_X6_isParish l D cI cQ r M p (a) (f) (hA)) (zcwV 1 hz q3_124 q3_126 qs_16 q1_7 q3_127 hd_X6_isParish (Nat.le_of_ble_eq_true rfl) (Nat.le_of_ble_eq_true rfl)) (z_pv (ci := 6) (q := (RX6, TX6, 3)) hK hP rfl rfl) rfl rfl hl.1 rfl (lv_room (Nat.le_of_ble_eq_true rfl)) dX6_payable_2 ⟨(Nat.le_of_ble_eq_true rfl), (Nat.le_of_ble_eq_true rfl)⟩) ?_
  refine lv_if_ne (tgt := 10) hx hb dX6_payable_5 (by decide) (fun c_5 => ?_) (fun c_5 => ?_)
  · have c_5 : (iR ((mR M)) p) = true := bI_t c_5
    refine lv_iconst (v := 0) hx hb dX6_payable_10 (by decide) ?_
    refine lv_istore_n (lv' := [(2, .int (0 : Int32)), (0, .ref (r 0)), (1, .int (p))]) hx hb dX6_payable_11 rfl hl (by decide) rfl (fun ls hl => ?_)
    refine lv_iconst (v := 0) hx hb dX6_payable_12 (by decide) ?_
    refine lv_istore_n (lv' := [(3, .int (0 : Int32)), (2, .int (0 : Int32)), (0, .ref (r 0)), (1, .int (p))]) hx hb dX6_payable_13 rfl hl (by decide) rfl (fun ls hl => ?_)
    have L14 : ∀ (n14 k14 : Nat), k14 ≤ a → a < k14 + n14 → ∀ (ls : Array Slot), lv_has ls 4 [(3, .int (nI k14)), (2, .int (mpN (mR M) f p k14)), (0, .ref (r 0)), (1, .int (p))] → W pg l e ({ frames := 4, cells := 0, slots := 0, locals := 89 }) s mi args below meth cd s.heap [] 0 0 (MQ below (vp_Si (fun r => r = mpbRet (mR M) a f p)) args s 0 0 (fun _ => False)) (F0 mi 14 ls []) := by
      intro n14
      induction n14 with
      | zero => intro k14 h1 h2; exact absurd h2 (by omega)
      | succ n14 ih14 =>
        intro k14 h1_14 h2_14  ls hl
        refine lv_iload_n hx hb dX6_payable_14 rfl (lv_at hl 0 rfl) ?_
        refine lv_aload_n hx hb dX6_payable_15 rfl (lv_at hl 2 rfl) ?_
        refine va_get (D := D) (ci := 6) (v := .ref (r 1)) (C := RX6) (T := TX6) (N := 3) hx hb hz inZ6 hown hK.1 hP 0 rfl rfl 0 (by decide) (hz _ q3_88) (fun _ h9 => h9) rfl dX6_payable_16 ?_
        refine lv_iconst (v := 2) hx hb dX6_payable_19 (by decide) ?_
        refine va_iald (f := mR M) hx hb hK.1 hP 1 0 rfl rfl (i := (2 : Int32)) (z_inC (by decide) (by decide)) dX6_payable_20 ?_
        refine lv_icmp_ge (tgt := 65) hx hb dX6_payable_21 (by decide) (fun c_21 => ?_) (fun c_21 => ?_)
        · have c_21 : ((mR M) 2 : Int32) ≤ nI k14 := c_21
          rw [hA.2.2.1] at c_21
          have hk_14 : k14 = a := z_exit (by have := hA.1; omega) h1_14 c_21
          refine lv_aload_n hx hb dX6_payable_65 rfl (lv_at hl 2 rfl) ?_
          refine lv_iload_n hx hb dX6_payable_66 rfl (lv_at hl 3 rfl) ?_
          refine z_ro (va_runV (As := [.int (p)]) (rest := []) ⟨hx, hb, hml, hown, hz⟩ (c_X6_owed l D cI cQ r M p (iR_in hA c_5)) (zcwV 1 hz q3_236 q3_238 qs_36 q1_7 q3_239 hd_X6_owed (Nat.le_of_ble_eq_true rfl) (Nat.le_of_ble_eq_true rfl)) (z_pv (ci := 6) (q := (RX6, TX6, 3)) hK hP rfl rfl) rfl rfl hl.1 rfl (lv_room (Nat.le_of_ble_eq_true rfl)) dX6_payable_67 ⟨(Nat.le_of_ble_eq_true rfl), (Nat.le_of_ble_eq_true rfl)⟩) ?_
          refine lv_istore_n (lv' := [(3, .int (mBy ((mR M)) p 40)), (2, .int (mpN (mR M) f p k14)), (0, .ref (r 0)), (1, .int (p))]) hx hb dX6_payable_70 rfl hl (by decide) rfl (fun ls hl => ?_)
          refine lv_iload_n hx hb dX6_payable_71 rfl (lv_at hl 1 rfl) ?_
          refine lv_iload_n hx hb dX6_payable_72 rfl (lv_at hl 0 rfl) ?_
          refine lv_icmp_ge (tgt := 80) hx hb dX6_payable_73 (by decide) (fun c_73 => ?_) (fun c_73 => ?_)
          · have c_73 : (mBy ((mR M)) p 40 : Int32) ≤ mpN (mR M) f p k14 := c_73
            refine lv_iload_n hx hb dX6_payable_80 rfl (lv_at hl 0 rfl) ?_
            exact z_iret hx hb hr rfl hlocks (by rw [hk_14] at c_73; simp [mpbRet, c_5, c_73, hk_14]) dX6_payable_81
          · have c_73 : ¬ ((mBy ((mR M)) p 40 : Int32) ≤ mpN (mR M) f p k14) := c_73
            refine lv_iload_n hx hb dX6_payable_76 rfl (lv_at hl 1 rfl) ?_
            refine lv_goto (tgt := 81) hx hb dX6_payable_77 (by decide) ?_
            exact z_iret hx hb hr rfl hlocks (by rw [hk_14] at c_73; simp [mpbRet, c_5, c_73, hk_14]) dX6_payable_81
        · have c_21 : ¬ (((mR M) 2 : Int32) ≤ nI k14) := c_21
          rw [hA.2.2.1] at c_21
          have hk_14 : k14 < a := z_cont (by have := hA.1; omega) h1_14 c_21
          refine lv_iload_n hx hb dX6_payable_24 rfl (lv_at hl 1 rfl) ?_
          refine lv_aload_n hx hb dX6_payable_25 rfl (lv_at hl 2 rfl) ?_
          refine lv_iload_n hx hb dX6_payable_26 rfl (lv_at hl 0 rfl) ?_
          refine z_ro (va_runV (As := [.int (nI k14)]) (rest := [.int (mpN (mR M) f p k14)]) ⟨hx, hb, hml, hown, hz⟩ (c_X6_isPoint l D cI cQ r M (nI k14) (a) (f) (hA)) (zcwV 1 hz q3_156 q3_158 qs_24 q1_7 q3_159 hd_X6_isPoint (Nat.le_of_ble_eq_true rfl) (Nat.le_of_ble_eq_true rfl)) (z_pv (ci := 6) (q := (RX6, TX6, 3)) hK hP rfl rfl) rfl rfl hl.1 rfl (lv_room (Nat.le_of_ble_eq_true rfl)) dX6_payable_27 ⟨(Nat.le_of_ble_eq_true rfl), (Nat.le_of_ble_eq_true rfl)⟩) ?_
          refine lv_if_eq (tgt := 56) hx hb dX6_payable_30 (by decide) (fun c_30 => ?_) (fun c_30 => ?_)
          · have c_30 : (iP ((mR M)) (nI k14)) = false := bI_f c_30
            refine lv_iconst (v := 0) hx hb dX6_payable_56 (by decide) ?_
            refine lv_iadd hx hb dX6_payable_57 ?_
            refine lv_istore_n (lv' := [(2, .int ((mpN (mR M) f p k14) + (0 : Int32))), (3, .int (nI k14)), (0, .ref (r 0)), (1, .int (p))]) hx hb dX6_payable_58 rfl hl (by decide) rfl (fun ls hl => ?_)
            refine lv_iinc (v := (nI k14) + 1) (lv' := [(3, .int ((nI k14) + 1)), (2, .int ((mpN (mR M) f p k14) + (0 : Int32))), (0, .ref (r 0)), (1, .int (p))]) hx hb dX6_payable_59 hl (k := 1) rfl rfl (by decide) rfl (fun ls hl => ?_)
            refine lv_goto (tgt := 14) hx hb dX6_payable_62 (by decide) ?_
            have e14_3 : (nI (k14 + 1) : Int32) = (nI k14) + 1 := (nI_1 _).symm
            have e14_2 : (mpN (mR M) f p (k14 + 1) : Int32) = (mpN (mR M) f p k14) + (0 : Int32) := (by simp [mpN, mpbRet, c_5, c_21, c_30])
            exact ih14 (k14 + 1) (by omega) (by omega) _ (by (try rw [e14_3]); (try rw [e14_2]); exact lv_sub hl [0, 1, 2, 3] rfl)
          · have c_30 : (iP ((mR M)) (nI k14)) = true := bI_t c_30
            refine lv_aload_n hx hb dX6_payable_33 rfl (lv_at hl 2 rfl) ?_
            refine lv_iload_n hx hb dX6_payable_34 rfl (lv_at hl 0 rfl) ?_
            refine lv_iconst (v := 4) hx hb dX6_payable_35 (by decide) ?_
            refine z_ro (va_runV (As := [.int (nI k14), .int (4 : Int32)]) (rest := [.int (mpN (mR M) f p k14)]) ⟨hx, hb, hml, hown, hz⟩ (c_X6_ofPoint l D cI cQ r M (nI k14) (4 : Int32) (ix1 (kin hk_14 (by have := hA.1; omega)) (z_inC (by decide) (by decide)))) (zcwV 2 hz q3_160 q3_162 qs_25 q1_7 q3_163 hd_X6_ofPoint (Nat.le_of_ble_eq_true rfl) (Nat.le_of_ble_eq_true rfl)) (z_pv (ci := 6) (q := (RX6, TX6, 3)) hK hP rfl rfl) rfl rfl hl.1 rfl (lv_room (Nat.le_of_ble_eq_true rfl)) dX6_payable_36 ⟨(Nat.le_of_ble_eq_true rfl), (Nat.le_of_ble_eq_true rfl)⟩) ?_
            refine lv_iload_n hx hb dX6_payable_39 rfl (lv_at hl 3 rfl) ?_
            refine lv_icmp_ne (tgt := 56) hx hb dX6_payable_40 (by decide) (fun c_40 => ?_) (fun c_40 => ?_)
            · have c_40 : ¬ ((oP ((mR M)) (nI k14) (4 : Int32) : Int32) = p) := c_40
              refine lv_iconst (v := 0) hx hb dX6_payable_56 (by decide) ?_
              refine lv_iadd hx hb dX6_payable_57 ?_
              refine lv_istore_n (lv' := [(2, .int ((mpN (mR M) f p k14) + (0 : Int32))), (3, .int (nI k14)), (0, .ref (r 0)), (1, .int (p))]) hx hb dX6_payable_58 rfl hl (by decide) rfl (fun ls hl => ?_)
              refine lv_iinc (v := (nI k14) + 1) (lv' := [(3, .int ((nI k14) + 1)), (2, .int ((mpN (mR M) f p k14) + (0 : Int32))), (0, .ref (r 0)), (1, .int (p))]) hx hb dX6_payable_59 hl (k := 1) rfl rfl (by decide) rfl (fun ls hl => ?_)
              refine lv_goto (tgt := 14) hx hb dX6_payable_62 (by decide) ?_
              have e14_3 : (nI (k14 + 1) : Int32) = (nI k14) + 1 := (nI_1 _).symm
              have e14_2 : (mpN (mR M) f p (k14 + 1) : Int32) = (mpN (mR M) f p k14) + (0 : Int32) := (by simp [mpN, mpbRet, c_5, c_21, c_30, c_40])
              exact ih14 (k14 + 1) (by omega) (by omega) _ (by (try rw [e14_3]); (try rw [e14_2]); exact lv_sub hl [0, 1, 2, 3] rfl)
            · have c_40 : (oP ((mR M)) (nI k14) (4 : Int32) : Int32) = p := c_40
              refine lv_aload_n hx hb dX6_payable_43 rfl (lv_at hl 2 rfl) ?_
              refine lv_iload_n hx hb dX6_payable_44 rfl (lv_at hl 0 rfl) ?_
              refine z_ro (va_runV (As := [.int (nI k14)]) (rest := [.int (mpN (mR M) f p k14)]) ⟨hx, hb, hml, hown, hz⟩ (c_X6_parishOf l D cI cQ r M (nI k14) (a) (f) (hA) ((kin hk_14 (by have := hA.1; omega)))) (zcwV 1 hz q3_192 q3_194 qs_31 q1_7 q3_195 hd_X6_parishOf (Nat.le_of_ble_eq_true rfl) (Nat.le_of_ble_eq_true rfl)) (z_pv (ci := 6) (q := (RX6, TX6, 3)) hK hP rfl rfl) rfl rfl hl.1 rfl (lv_room (Nat.le_of_ble_eq_true rfl)) dX6_payable_45 ⟨(Nat.le_of_ble_eq_true rfl), (Nat.le_of_ble_eq_true rfl)⟩) ?_
              refine lv_iload_n hx hb dX6_payable_48 rfl (lv_at hl 3 rfl) ?_
              refine lv_icmp_ne (tgt := 56) hx hb dX6_payable_49 (by decide) (fun c_49 => ?_) (fun c_49 => ?_)
              · have c_49 : ¬ ((mAr ((mR M)) f (nI k14) : Int32) = p) := c_49
                refine lv_iconst (v := 0) hx hb dX6_payable_56 (by decide) ?_
                refine lv_iadd hx hb dX6_payable_57 ?_
                refine lv_istore_n (lv' := [(2, .int ((mpN (mR M) f p k14) + (0 : Int32))), (3, .int (nI k14)), (0, .ref (r 0)), (1, .int (p))]) hx hb dX6_payable_58 rfl hl (by decide) rfl (fun ls hl => ?_)
                refine lv_iinc (v := (nI k14) + 1) (lv' := [(3, .int ((nI k14) + 1)), (2, .int ((mpN (mR M) f p k14) + (0 : Int32))), (0, .ref (r 0)), (1, .int (p))]) hx hb dX6_payable_59 hl (k := 1) rfl rfl (by decide) rfl (fun ls hl => ?_)
                refine lv_goto (tgt := 14) hx hb dX6_payable_62 (by decide) ?_
                have e14_3 : (nI (k14 + 1) : Int32) = (nI k14) + 1 := (nI_1 _).symm
                have e14_2 : (mpN (mR M) f p (k14 + 1) : Int32) = (mpN (mR M) f p k14) + (0 : Int32) := (by simp [mpN, mpbRet, c_5, c_21, c_30, c_40, c_49])
                exact ih14 (k14 + 1) (by omega) (by omega) _ (by (try rw [e14_3]); (try rw [e14_2]); exact lv_sub hl [0, 1, 2, 3] rfl)
              · have c_49 : (mAr ((mR M)) f (nI k14) : Int32) = p := c_49
                refine lv_iconst (v := 1) hx hb dX6_payable_52 (by decide) ?_
                refine lv_goto (tgt := 57) hx hb dX6_payable_53 (by decide) ?_
                refine lv_iadd hx hb dX6_payable_57 ?_
                refine lv_istore_n (lv' := [(2, .int ((mpN (mR M) f p k14) + (1 : Int32))), (3, .int (nI k14)), (0, .ref (r 0)), (1, .int (p))]) hx hb dX6_payable_58 rfl hl (by decide) rfl (fun ls hl => ?_)
                refine lv_iinc (v := (nI k14) + 1) (lv' := [(3, .int ((nI k14) + 1)), (2, .int ((mpN (mR M) f p k14) + (1 : Int32))), (0, .ref (r 0)), (1, .int (p))]) hx hb dX6_payable_59 hl (k := 1) rfl rfl (by decide) rfl (fun ls hl => ?_)
                refine lv_goto (tgt := 14) hx hb dX6_payable_62 (by decide) ?_
                have e14_3 : (nI (k14 + 1) : Int32) = (nI k14) + 1 := (nI_1 _).symm
                have e14_2 : (mpN (mR M) f p (k14 + 1) : Int32) = (mpN (mR M) f p k14) + (1 : Int32) := (by simp [mpN, mpbRet, c_5, c_21, c_30, c_40, c_49])
                exact ih14 (k14 + 1) (by omega) (by omega) _ (by (try rw [e14_3]); (try rw [e14_2]); exact lv_sub hl [0, 1, 2, 3] rfl)
    have e14_3 : (nI 0 : Int32) = (0 : Int32) := rfl
    have e14_2 : (mpN (mR M) f p 0 : Int32) = (0 : Int32) := (by rfl)
    exact L14 (a + 1) (0) (Nat.zero_le _) (by omega) _ (by (try rw [e14_3]); (try rw [e14_2]); exact lv_sub hl [0, 1, 2, 3] rfl)
  · have c_5 : (iR ((mR M)) p) = false := bI_f c_5
    refine lv_iconst (v := (-1)) hx hb dX6_payable_8 (by decide) ?_
    exact z_iret hx hb hr rfl hlocks (by simp [mpN, mpbRet, c_5]) dX6_payable_9
