theorem hd_X6_cellsWith : yX6_cellsWith.cls ≠ "java/lang/invoke/MethodHandle" ∧ yX6_cellsWith.cls ≠ "java/lang/invoke/VarHandle" ∧ (parseMethodDescriptor yX6_cellsWith.desc).map (fun d => d.parameters.length) = some 1 := by decide +kernel
set_option maxHeartbeats 1000000 in
set_option maxRecDepth 100000 in
theorem c_X6_cellsWith (l : Launch) (D : va_G) (cI cQ : ClassId) (r : Nat → Nat) (M : MS) (w : Int32) (a : Nat) (f : Nat) (hA : mOk (mR M) a f) : zRO l yX6_cellsWith (Cond.code yX6_cellsWith cX6_cellsWith 7 (some .int) :: zT) 4 92 [.ref (r 0), .int w] D cI cQ (zMod cI r M) (mcwRet (mR M) a w) := by
  refine zRO.of (cc := cX6_cellsWith) (maxL := 7) (ret := some .int) (by decide +kernel) rfl (Nat.le_of_ble_eq_true rfl) ?_
  intro pg e s mi args below meth cd hx hb hr hts hown hlocks hml hP hK ls hl
  have hz : ∀ w ∈ zT, w.before args s = true := fun w h => hts w (List.mem_cons_of_mem _ h)
  have hl : lv_has ls 7 [(0, .ref (r 0)), (1, .int (w))] := hl
  refine lv_iload_n hx hb dX6_cellsWith_0 rfl (lv_at hl 1 rfl) ?_
  refine lv_iconst (v := 2) hx hb dX6_cellsWith_1 (by decide) ?_
  refine lv_bipush (v := 9) hx hb dX6_cellsWith_2 (by decide) ?_
  refine z_ro (va_runS (As := [.int (w), .int (2 : Int32), .int (9 : Int32)]) (rest := []) ⟨hx, hb, hml, hown, hz⟩ (c_X6_in l D cI cQ w (2 : Int32) (9 : Int32)) (zcwS 3 hz q3_105 q3_106 q1_7 q3_107 hd_X6_in (Nat.le_of_ble_eq_true rfl) (Nat.le_of_ble_eq_true rfl)) (z_ps hK z_nil) rfl rfl hl.1 rfl (lv_room (Nat.le_of_ble_eq_true rfl)) dX6_cellsWith_4 ⟨(Nat.le_of_ble_eq_true rfl), (Nat.le_of_ble_eq_true rfl)⟩) ?_
  refine lv_if_ne (tgt := 12) hx hb dX6_cellsWith_7 (by decide) (fun c_7 => ?_) (fun c_7 => ?_)
  · have c_7 : (btw w (2 : Int32) (9 : Int32)) = true := bI_t c_7
    refine lv_iconst (v := 1) hx hb dX6_cellsWith_12 (by decide) ?_
    refine lv_istore_n (lv' := [(2, .int (1 : Int32)), (0, .ref (r 0)), (1, .int (w))]) hx hb dX6_cellsWith_13 rfl hl (by decide) rfl (fun ls hl => ?_)
    refine lv_iconst (v := 0) hx hb dX6_cellsWith_14 (by decide) ?_
    refine lv_istore_n (lv' := [(3, .int (0 : Int32)), (2, .int (1 : Int32)), (0, .ref (r 0)), (1, .int (w))]) hx hb dX6_cellsWith_15 rfl hl (by decide) rfl (fun ls hl => ?_)
    have L16 : ∀ (n16 k16 : Nat), k16 ≤ 4 → 4 < k16 + n16 → ∀ (ls : Array Slot), lv_has ls 7 [(3, .int (nI k16)), (2, .int (cnA (mR M) a w k16)), (0, .ref (r 0)), (1, .int (w))] → W pg l e ({ frames := 4, cells := 0, slots := 0, locals := 92 }) s mi args below meth cd s.heap [] 0 0 (MQ below (vp_Si (fun r => r = mcwRet (mR M) a w)) args s 0 0 (fun _ => False)) (F0 mi 16 ls []) := by
      intro n16
      induction n16 with
      | zero => intro k16 h1 h2; exact absurd h2 (by omega)
      | succ n16 ih16 =>
        intro k16 h1_16 h2_16  ls hl
        refine lv_iload_n hx hb dX6_cellsWith_16 rfl (lv_at hl 0 rfl) ?_
        refine lv_iconst (v := 4) hx hb dX6_cellsWith_17 (by decide) ?_
        refine lv_icmp_ge (tgt := 95) hx hb dX6_cellsWith_18 (by decide) (fun c_18 => ?_) (fun c_18 => ?_)
        · have c_18 : ((4 : Int32) : Int32) ≤ nI k16 := c_18
          have hk_16 : k16 = 4 := z_exit (by decide) h1_16 c_18
          refine lv_iload_n hx hb dX6_cellsWith_95 rfl (lv_at hl 1 rfl) ?_
          exact z_iret hx hb hr rfl hlocks (by rw [mcwRet, if_pos c_7, hk_16]) dX6_cellsWith_96
        · have c_18 : ¬ (((4 : Int32) : Int32) ≤ nI k16) := c_18
          have hk_16 : k16 < 4 := z_cont (by decide) h1_16 c_18
          refine lv_bipush (v := 64) hx hb dX6_cellsWith_21 (by decide) ?_
          refine lv_iload_n hx hb dX6_cellsWith_23 rfl (lv_at hl 0 rfl) ?_
          refine lv_ishr hx hb dX6_cellsWith_24 ?_
          refine lv_istore (lv' := [(4, .int ((64 : Int32) >>> ((nI k16) &&& 31))), (3, .int (nI k16)), (2, .int (cnA (mR M) a w k16)), (0, .ref (r 0)), (1, .int (w))]) hx hb dX6_cellsWith_25 hl (by decide) rfl (fun ls hl => ?_)
          refine lv_iconst (v := 0) hx hb dX6_cellsWith_27 (by decide) ?_
          refine lv_istore (lv' := [(5, .int (0 : Int32)), (4, .int ((64 : Int32) >>> ((nI k16) &&& 31))), (3, .int (nI k16)), (2, .int (cnA (mR M) a w k16)), (0, .ref (r 0)), (1, .int (w))]) hx hb dX6_cellsWith_28 hl (by decide) rfl (fun ls hl => ?_)
          have L30 : ∀ (n30 k30 : Nat), k30 ≤ (2 ^ k16) → (2 ^ k16) < k30 + n30 → ∀ (ls : Array Slot), lv_has ls 7 [(2, .int (cnX (mR M) a w k16 (cnA (mR M) a w k16) k30)), (5, .int (nI (k30 * cnS k16))), (4, .int ((64 : Int32) >>> ((nI k16) &&& 31))), (3, .int (nI k16)), (0, .ref (r 0)), (1, .int (w))] → W pg l e ({ frames := 4, cells := 0, slots := 0, locals := 92 }) s mi args below meth cd s.heap [] 0 0 (MQ below (vp_Si (fun r => r = mcwRet (mR M) a w)) args s 0 0 (fun _ => False)) (F0 mi 30 ls []) := by
            intro n30
            induction n30 with
            | zero => intro k30 h1 h2; exact absurd h2 (by omega)
            | succ n30 ih30 =>
              intro k30 h1_30 h2_30  ls hl
              refine lv_iload hx hb dX6_cellsWith_30 (lv_at hl 1 rfl) ?_
              refine lv_bipush (v := 64) hx hb dX6_cellsWith_32 (by decide) ?_
              refine lv_icmp_ge (tgt := 89) hx hb dX6_cellsWith_34 (by decide) (fun c_34 => ?_) (fun c_34 => ?_)
              · have c_34 : ((64 : Int32) : Int32) ≤ nI (k30 * cnS k16) := c_34
                rw [cn_br hk_16 h1_30] at c_34
                have hk_30 : k30 = (2 ^ k16) := z_exit (by have := (cn_N hk_16).1; omega) h1_30 c_34
                refine lv_iinc (v := (nI k16) + 1) (lv' := [(3, .int ((nI k16) + 1)), (2, .int (cnX (mR M) a w k16 (cnA (mR M) a w k16) k30)), (5, .int (nI (k30 * cnS k16))), (4, .int ((64 : Int32) >>> ((nI k16) &&& 31))), (0, .ref (r 0)), (1, .int (w))]) hx hb dX6_cellsWith_89 hl (k := 3) rfl rfl (by decide) rfl (fun ls hl => ?_)
                refine lv_goto (tgt := 16) hx hb dX6_cellsWith_92 (by decide) ?_
                have e16_3 : (nI (k16 + 1) : Int32) = (nI k16) + 1 := (nI_1 _).symm
                have e16_2 : (cnA (mR M) a w (k16 + 1) : Int32) = cnX (mR M) a w k16 (cnA (mR M) a w k16) k30 := (by rw [cnA, hk_30])
                exact ih16 (k16 + 1) (by omega) (by omega) _ (by (try rw [e16_3]); (try rw [e16_2]); exact lv_sub hl [0, 1, 4, 5] rfl)
              · have c_34 : ¬ (((64 : Int32) : Int32) ≤ nI (k30 * cnS k16)) := c_34
                rw [cn_br hk_16 h1_30] at c_34
                have hk_30 : k30 < (2 ^ k16) := z_cont (by have := (cn_N hk_16).1; omega) h1_30 c_34
                refine lv_iconst (v := 0) hx hb dX6_cellsWith_37 (by decide) ?_
                refine lv_istore (lv' := [(6, .int (0 : Int32)), (2, .int (cnX (mR M) a w k16 (cnA (mR M) a w k16) k30)), (5, .int (nI (k30 * cnS k16))), (4, .int ((64 : Int32) >>> ((nI k16) &&& 31))), (3, .int (nI k16)), (0, .ref (r 0)), (1, .int (w))]) hx hb dX6_cellsWith_38 hl (by decide) rfl (fun ls hl => ?_)
                have L40 : ∀ (n40 k40 : Nat), k40 ≤ (2 ^ k16) → (2 ^ k16) < k40 + n40 → ∀ (ls : Array Slot), lv_has ls 7 [(2, .int (cnY (mR M) a w k16 k30 (cnX (mR M) a w k16 (cnA (mR M) a w k16) k30) k40)), (6, .int (nI (k40 * cnS k16))), (5, .int (nI (k30 * cnS k16))), (4, .int ((64 : Int32) >>> ((nI k16) &&& 31))), (3, .int (nI k16)), (0, .ref (r 0)), (1, .int (w))] → W pg l e ({ frames := 4, cells := 0, slots := 0, locals := 92 }) s mi args below meth cd s.heap [] 0 0 (MQ below (vp_Si (fun r => r = mcwRet (mR M) a w)) args s 0 0 (fun _ => False)) (F0 mi 40 ls []) := by
                  intro n40
                  induction n40 with
                  | zero => intro k40 h1 h2; exact absurd h2 (by omega)
                  | succ n40 ih40 =>
                    intro k40 h1_40 h2_40  ls hl
                    refine lv_iload hx hb dX6_cellsWith_40 (lv_at hl 1 rfl) ?_
                    refine lv_bipush (v := 64) hx hb dX6_cellsWith_42 (by decide) ?_
                    refine lv_icmp_ge (tgt := 79) hx hb dX6_cellsWith_44 (by decide) (fun c_44 => ?_) (fun c_44 => ?_)
                    · have c_44 : ((64 : Int32) : Int32) ≤ nI (k40 * cnS k16) := c_44
                      rw [cn_br hk_16 h1_40] at c_44
                      have hk_40 : k40 = (2 ^ k16) := z_exit (by have := (cn_N hk_16).1; omega) h1_40 c_44
                      refine lv_iload hx hb dX6_cellsWith_79 (lv_at hl 2 rfl) ?_
                      refine lv_iload hx hb dX6_cellsWith_81 (lv_at hl 3 rfl) ?_
                      refine lv_iadd hx hb dX6_cellsWith_83 ?_
                      refine lv_istore (lv' := [(5, .int ((nI (k30 * cnS k16)) + ((64 : Int32) >>> ((nI k16) &&& 31)))), (2, .int (cnY (mR M) a w k16 k30 (cnX (mR M) a w k16 (cnA (mR M) a w k16) k30) k40)), (6, .int (nI (k40 * cnS k16))), (4, .int ((64 : Int32) >>> ((nI k16) &&& 31))), (3, .int (nI k16)), (0, .ref (r 0)), (1, .int (w))]) hx hb dX6_cellsWith_84 hl (by decide) rfl (fun ls hl => ?_)
                      refine lv_goto (tgt := 30) hx hb dX6_cellsWith_86 (by decide) ?_
                      have e30_2 : (cnX (mR M) a w k16 (cnA (mR M) a w k16) (k30 + 1) : Int32) = cnY (mR M) a w k16 k30 (cnX (mR M) a w k16 (cnA (mR M) a w k16) k30) k40 := (by rw [cnX, hk_40])
                      have e30_5 : (nI ((k30 + 1) * cnS k16) : Int32) = (nI (k30 * cnS k16)) + ((64 : Int32) >>> ((nI k16) &&& 31)) := (by rw [cn_sd hk_16]; exact cn_step)
                      exact ih30 (k30 + 1) (by omega) (by omega) _ (by (try rw [e30_2]); (try rw [e30_5]); exact lv_sub hl [1, 0, 3, 4, 5, 6] rfl)
                    · have c_44 : ¬ (((64 : Int32) : Int32) ≤ nI (k40 * cnS k16)) := c_44
                      rw [cn_br hk_16 h1_40] at c_44
                      have hk_40 : k40 < (2 ^ k16) := z_cont (by have := (cn_N hk_16).1; omega) h1_40 c_44
                      refine lv_iload_n hx hb dX6_cellsWith_47 rfl (lv_at hl 0 rfl) ?_
                      refine lv_aload_n hx hb dX6_cellsWith_48 rfl (lv_at hl 5 rfl) ?_
                      refine lv_iload hx hb dX6_cellsWith_49 (lv_at hl 2 rfl) ?_
                      refine lv_iload hx hb dX6_cellsWith_51 (lv_at hl 1 rfl) ?_
                      refine lv_iload hx hb dX6_cellsWith_53 (lv_at hl 3 rfl) ?_
                      refine z_ro (va_runV (As := [.int (nI (k30 * cnS k16)), .int (nI (k40 * cnS k16)), .int ((64 : Int32) >>> ((nI k16) &&& 31))]) (rest := [.int (cnY (mR M) a w k16 k30 (cnX (mR M) a w k16 (cnA (mR M) a w k16) k30) k40)]) ⟨hx, hb, hml, hown, hz⟩ (c_X6_pointsInCell l D cI cQ r M (nI (k30 * cnS k16)) (nI (k40 * cnS k16)) ((64 : Int32) >>> ((nI k16) &&& 31)) (a) (f) (hA)) (zcwV 3 hz q3_148 q3_150 qs_22 q1_7 q3_151 hd_X6_pointsInCell (Nat.le_of_ble_eq_true rfl) (Nat.le_of_ble_eq_true rfl)) (z_pv (ci := 6) (q := (RX6, TX6, 3)) hK hP rfl rfl) rfl rfl hl.1 rfl (lv_room (Nat.le_of_ble_eq_true rfl)) dX6_cellsWith_55 ⟨(Nat.le_of_ble_eq_true rfl), (Nat.le_of_ble_eq_true rfl)⟩) ?_
                      refine lv_iload_n hx hb dX6_cellsWith_58 rfl (lv_at hl 6 rfl) ?_
                      refine lv_icmp_le (tgt := 66) hx hb dX6_cellsWith_59 (by decide) (fun c_59 => ?_) (fun c_59 => ?_)
                      · have c_59 : (mCe ((mR M)) a (nI (k30 * cnS k16)) (nI (k40 * cnS k16)) ((64 : Int32) >>> ((nI k16) &&& 31)) : Int32) ≤ w := c_59
                        refine lv_iconst (v := 0) hx hb dX6_cellsWith_66 (by decide) ?_
                        refine lv_iadd hx hb dX6_cellsWith_67 ?_
                        refine lv_istore_n (lv' := [(2, .int ((cnY (mR M) a w k16 k30 (cnX (mR M) a w k16 (cnA (mR M) a w k16) k30) k40) + (0 : Int32))), (6, .int (nI (k40 * cnS k16))), (5, .int (nI (k30 * cnS k16))), (4, .int ((64 : Int32) >>> ((nI k16) &&& 31))), (3, .int (nI k16)), (0, .ref (r 0)), (1, .int (w))]) hx hb dX6_cellsWith_68 rfl hl (by decide) rfl (fun ls hl => ?_)
                        refine lv_iload hx hb dX6_cellsWith_69 (lv_at hl 1 rfl) ?_
                        refine lv_iload hx hb dX6_cellsWith_71 (lv_at hl 3 rfl) ?_
                        refine lv_iadd hx hb dX6_cellsWith_73 ?_
                        refine lv_istore (lv' := [(6, .int ((nI (k40 * cnS k16)) + ((64 : Int32) >>> ((nI k16) &&& 31)))), (2, .int ((cnY (mR M) a w k16 k30 (cnX (mR M) a w k16 (cnA (mR M) a w k16) k30) k40) + (0 : Int32))), (5, .int (nI (k30 * cnS k16))), (4, .int ((64 : Int32) >>> ((nI k16) &&& 31))), (3, .int (nI k16)), (0, .ref (r 0)), (1, .int (w))]) hx hb dX6_cellsWith_74 hl (by decide) rfl (fun ls hl => ?_)
                        refine lv_goto (tgt := 40) hx hb dX6_cellsWith_76 (by decide) ?_
                        have e40_2 : (cnY (mR M) a w k16 k30 (cnX (mR M) a w k16 (cnA (mR M) a w k16) k30) (k40 + 1) : Int32) = (cnY (mR M) a w k16 k30 (cnX (mR M) a w k16 (cnA (mR M) a w k16) k30) k40) + (0 : Int32) := (by rw [cn_sd hk_16] at c_59; first | rw [cnY, cnC, if_pos c_59] | rw [cnY, cnC, if_neg c_59])
                        have e40_6 : (nI ((k40 + 1) * cnS k16) : Int32) = (nI (k40 * cnS k16)) + ((64 : Int32) >>> ((nI k16) &&& 31)) := (by rw [cn_sd hk_16]; exact cn_step)
                        exact ih40 (k40 + 1) (by omega) (by omega) _ (by (try rw [e40_2]); (try rw [e40_6]); exact lv_sub hl [1, 0, 2, 3, 4, 5, 6] rfl)
                      · have c_59 : ¬ ((mCe ((mR M)) a (nI (k30 * cnS k16)) (nI (k40 * cnS k16)) ((64 : Int32) >>> ((nI k16) &&& 31)) : Int32) ≤ w) := c_59
                        refine lv_iconst (v := 3) hx hb dX6_cellsWith_62 (by decide) ?_
                        refine lv_goto (tgt := 67) hx hb dX6_cellsWith_63 (by decide) ?_
                        refine lv_iadd hx hb dX6_cellsWith_67 ?_
                        refine lv_istore_n (lv' := [(2, .int ((cnY (mR M) a w k16 k30 (cnX (mR M) a w k16 (cnA (mR M) a w k16) k30) k40) + (3 : Int32))), (6, .int (nI (k40 * cnS k16))), (5, .int (nI (k30 * cnS k16))), (4, .int ((64 : Int32) >>> ((nI k16) &&& 31))), (3, .int (nI k16)), (0, .ref (r 0)), (1, .int (w))]) hx hb dX6_cellsWith_68 rfl hl (by decide) rfl (fun ls hl => ?_)
                        refine lv_iload hx hb dX6_cellsWith_69 (lv_at hl 1 rfl) ?_
                        refine lv_iload hx hb dX6_cellsWith_71 (lv_at hl 3 rfl) ?_
                        refine lv_iadd hx hb dX6_cellsWith_73 ?_
                        refine lv_istore (lv' := [(6, .int ((nI (k40 * cnS k16)) + ((64 : Int32) >>> ((nI k16) &&& 31)))), (2, .int ((cnY (mR M) a w k16 k30 (cnX (mR M) a w k16 (cnA (mR M) a w k16) k30) k40) + (3 : Int32))), (5, .int (nI (k30 * cnS k16))), (4, .int ((64 : Int32) >>> ((nI k16) &&& 31))), (3, .int (nI k16)), (0, .ref (r 0)), (1, .int (w))]) hx hb dX6_cellsWith_74 hl (by decide) rfl (fun ls hl => ?_)
                        refine lv_goto (tgt := 40) hx hb dX6_cellsWith_76 (by decide) ?_
                        have e40_2 : (cnY (mR M) a w k16 k30 (cnX (mR M) a w k16 (cnA (mR M) a w k16) k30) (k40 + 1) : Int32) = (cnY (mR M) a w k16 k30 (cnX (mR M) a w k16 (cnA (mR M) a w k16) k30) k40) + (3 : Int32) := (by rw [cn_sd hk_16] at c_59; first | rw [cnY, cnC, if_pos c_59] | rw [cnY, cnC, if_neg c_59])
                        have e40_6 : (nI ((k40 + 1) * cnS k16) : Int32) = (nI (k40 * cnS k16)) + ((64 : Int32) >>> ((nI k16) &&& 31)) := (by rw [cn_sd hk_16]; exact cn_step)
                        exact ih40 (k40 + 1) (by omega) (by omega) _ (by (try rw [e40_2]); (try rw [e40_6]); exact lv_sub hl [1, 0, 2, 3, 4, 5, 6] rfl)
                have e40_2 : (cnY (mR M) a w k16 k30 (cnX (mR M) a w k16 (cnA (mR M) a w k16) k30) 0 : Int32) = cnX (mR M) a w k16 (cnA (mR M) a w k16) k30 := (by rfl)
                have e40_6 : (nI (0 * cnS k16) : Int32) = (0 : Int32) := (by rw [Nat.zero_mul]; rfl)
                exact L40 ((2 ^ k16) + 1) (0) (Nat.zero_le _) (by omega) _ (by (try rw [e40_2]); (try rw [e40_6]); exact lv_sub hl [1, 0, 2, 3, 4, 5, 6] rfl)
          have e30_2 : (cnX (mR M) a w k16 (cnA (mR M) a w k16) 0 : Int32) = cnA (mR M) a w k16 := (by rfl)
          have e30_5 : (nI (0 * cnS k16) : Int32) = (0 : Int32) := (by rw [Nat.zero_mul]; rfl)
          exact L30 ((2 ^ k16) + 1) (0) (Nat.zero_le _) (by omega) _ (by (try rw [e30_2]); (try rw [e30_5]); exact lv_sub hl [3, 0, 1, 2, 4, 5] rfl)
    have e16_3 : (nI 0 : Int32) = (0 : Int32) := rfl
    have e16_2 : (cnA (mR M) a w 0 : Int32) = (1 : Int32) := (by rfl)
    exact L16 (4 + 1) (0) (Nat.zero_le _) (by omega) _ (by (try rw [e16_3]); (try rw [e16_2]); exact lv_sub hl [0, 1, 2, 3] rfl)
  · have c_7 : (btw w (2 : Int32) (9 : Int32)) = false := bI_f c_7
    refine lv_iconst (v := (-1)) hx hb dX6_cellsWith_10 (by decide) ?_
    exact z_iret hx hb hr rfl hlocks (by simp [mcwRet, c_7]) dX6_cellsWith_11
