theorem hd_X6_pay : yX6_pay.cls ≠ "java/lang/invoke/MethodHandle" ∧ yX6_pay.cls ≠ "java/lang/invoke/VarHandle" ∧ (parseMethodDescriptor yX6_pay.desc).map (fun d => d.parameters.length) = some 1 := by decide +kernel
theorem hd_X6_canJoin : yX6_canJoin.cls ≠ "java/lang/invoke/MethodHandle" ∧ yX6_canJoin.cls ≠ "java/lang/invoke/VarHandle" ∧ (parseMethodDescriptor yX6_canJoin.desc).map (fun d => d.parameters.length) = some 1 := by decide +kernel
theorem hd_X6_joinable : yX6_joinable.cls ≠ "java/lang/invoke/MethodHandle" ∧ yX6_joinable.cls ≠ "java/lang/invoke/VarHandle" ∧ (parseMethodDescriptor yX6_joinable.desc).map (fun d => d.parameters.length) = some 0 := by decide +kernel
theorem hd_X6_join : yX6_join.cls ≠ "java/lang/invoke/MethodHandle" ∧ yX6_join.cls ≠ "java/lang/invoke/VarHandle" ∧ (parseMethodDescriptor yX6_join.desc).map (fun d => d.parameters.length) = some 1 := by decide +kernel
set_option maxHeartbeats 1000000 in
set_option maxRecDepth 100000 in
theorem c_X6_pay (l : Launch) (D : va_G) (cI cQ : ClassId) (r : Nat → Nat) (M : MS) (p : Int32) (a : Nat) (f : Nat) (hA : mOk (mR M) a f) (n : Nat) (hn : n ≤ 5) (hK5 : mK M = nI n) (g1 : FI) (hg1 : g1 = if iR (mR M) p then mpyNew (mR M) (mK M) a f p else mR M) (g2 : Int32) (hg2 : g2 = if iR (mR M) p then recK (mK M) else mK M) : zWR l yX6_pay (Cond.code yX6_pay cX6_pay 5 (some .int) :: zT) 7 171 [.ref (r 0), .int p] D cI cQ (zMod cI r M) (some (.int (mpyRet (mR M) (mK M) a f p))) (zMod cI r (uK (uR M g1) g2)) := by
  refine zWR.of (cc := cX6_pay) (maxL := 5) (ret := some .int) (by decide +kernel) rfl (Nat.le_of_ble_eq_true rfl) ?_
  intro pg e s mi args below meth cd hx hb hr hts hown hlocks hml hP hD hS hK ls hl
  have hz : ∀ w ∈ zT, w.before args s = true := fun w h => hts w (List.mem_cons_of_mem _ h)
  have hl : lv_has ls 5 [(0, .ref (r 0)), (1, .int (p))] := hl
  refine lv_aload_n hx hb dX6_pay_0 rfl (lv_at hl 0 rfl) ?_
  refine lv_iload_n hx hb dX6_pay_1 rfl (lv_at hl 1 rfl) ?_
  refine z_ro (va_runV (As := [.int (p)]) (rest := []) ⟨hx, hb, hml, hown, hz⟩ (c_X6_isParish l D cI cQ r M p (a) (f) (hA)) (zcwV 1 hz q3_124 q3_126 qs_16 q1_7 q3_127 hd_X6_isParish (Nat.le_of_ble_eq_true rfl) (Nat.le_of_ble_eq_true rfl)) (z_pv (ci := 6) (q := (RX6, TX6, 3)) hK hP rfl rfl) rfl rfl hl.1 rfl (lv_room (Nat.le_of_ble_eq_true rfl)) dX6_pay_2 ⟨(Nat.le_of_ble_eq_true rfl), (Nat.le_of_ble_eq_true rfl)⟩) ?_
  refine lv_if_ne (tgt := 10) hx hb dX6_pay_5 (by decide) (fun c_5 => ?_) (fun c_5 => ?_)
  · have c_5 : (iR ((mR M)) p) = true := bI_t c_5
    refine lv_aload_n hx hb dX6_pay_10 rfl (lv_at hl 0 rfl) ?_
    obtain ⟨g_1, hg_1⟩ : ∃ z : FI, z = recR ((mR M)) ((mK M)) := ⟨_, rfl⟩
    obtain ⟨g_2, hg_2⟩ : ∃ z : Int32, z = recK ((mK M)) := ⟨_, rfl⟩
    refine z_wv (X' := zMod cI r (uK (uR M g_1) g_2)) (va_runV (As := []) (rest := []) ⟨hx, hb, hml, hown, hz⟩ (c_X6_records l D cI cQ r M (n) (hn) (hK5) g_1 hg_1 g_2 hg_2) (zcwV 0 hz q3_108 q3_110 qs_12 q1_7 q3_111 hd_X6_records (Nat.le_of_ble_eq_true rfl) (Nat.le_of_ble_eq_true rfl)) (z_pvw (ci := 6) (q := (RX6, TX6, 3)) hK hP hD rfl rfl) rfl rfl hl.1 rfl (lv_room (Nat.le_of_ble_eq_true rfl)) dX6_pay_11 ⟨(Nat.le_of_ble_eq_true rfl), (Nat.le_of_ble_eq_true rfl)⟩) hP hD hS [0, 1, 2] rfl rfl rfl (fun H locs hP hD hS => ?_)
    have hR5 : mOk g_1 a f := by rw [hg_1]; exact mOk_rec hA hn hK5
    have hp : vp_in p 100 := iR_in hA c_5
    refine lv_iconst (v := 0) hx hb dX6_pay_14 (by decide) ?_
    refine lv_istore_n (lv' := [(2, .int (0 : Int32)), (0, .ref (r 0)), (1, .int (p))]) hx hb dX6_pay_15 rfl hl (by decide) rfl (fun ls hl => ?_)
    refine lv_iconst (v := 0) hx hb dX6_pay_16 (by decide) ?_
    refine lv_istore_n (lv' := [(3, .int (0 : Int32)), (2, .int (0 : Int32)), (0, .ref (r 0)), (1, .int (p))]) hx hb dX6_pay_17 rfl hl (by decide) rfl (fun ls hl => ?_)
    have L18 : ∀ (n18 k18 : Nat), k18 ≤ 40 → 40 < k18 + n18 → ∀ (H : Heap) (locs : List Loc), va_P D vwCl (zMod cI r (uK (uR M ((pOu g_1 p a f k18).1)) g_2)) H → va_D (zA (zMod cI r M)) (zMod cI r (uK (uR M ((pOu g_1 p a f k18).1)) g_2)) → va_S (zA (zMod cI r M)) s.heap H locs → ∀ (ls : Array Slot), lv_has ls 5 [(3, .int (nI k18)), (2, .int ((pOu g_1 p a f k18).2)), (0, .ref (r 0)), (1, .int (p))] → W pg l e ({ frames := 7, cells := 0, slots := 0, locals := 171 }) s mi args below meth cd H locs 0 0 (MQ below (zQ D (zMod cI r M) (some (.int (mpyRet (mR M) (mK M) a f p))) (zMod cI r (uK (uR M g1) g2))) args s 0 0 (zA (zMod cI r M))) (F0 mi 18 ls []) := by
      intro n18
      induction n18 with
      | zero => intro k18 h1 h2; exact absurd h2 (by omega)
      | succ n18 ih18 =>
        intro k18 h1_18 h2_18  H locs hP hD hS ls hl
        refine lv_iload_n hx hb dX6_pay_18 rfl (lv_at hl 0 rfl) ?_
        refine lv_bipush (v := 40) hx hb dX6_pay_19 (by decide) ?_
        refine lv_icmp_ge (tgt := 80) hx hb dX6_pay_21 (by decide) (fun c_21 => ?_) (fun c_21 => ?_)
        · have c_21 : ((40 : Int32) : Int32) ≤ nI k18 := c_21
          have hk_18 : k18 = 40 := z_exit (by decide) h1_18 c_21
          have hO8 : mOk (pOu g_1 p a f k18).1 a f := mOk_pOu hR5 hp k18 (by omega)
          refine lv_aload_n hx hb dX6_pay_80 rfl (lv_at hl 2 rfl) ?_
          obtain ⟨g_3, hg_3⟩ : ∃ z : FI, z = stG a 40 (((pOu g_1 p a f k18).1)) := ⟨_, rfl⟩
          refine z_wv (X' := zMod cI r (uR (uK (uR M ((pOu g_1 p a f k18).1)) g_2) g_3)) (va_runV (As := []) (rest := []) ⟨hx, hb, hml, hown, hz⟩ (c_X6_settles l D cI cQ r (uK (uR M ((pOu g_1 p a f k18).1)) g_2) (a) (f) (hO8) g_3 hg_3) (zcwV 0 hz q3_136 q3_138 qs_19 q1_7 q3_139 hd_X6_settles (Nat.le_of_ble_eq_true rfl) (Nat.le_of_ble_eq_true rfl)) (z_pvw (ci := 6) (q := (RX6, TX6, 3)) hK hP hD rfl rfl) rfl rfl hl.1 rfl (lv_room (Nat.le_of_ble_eq_true rfl)) dX6_pay_81 ⟨(Nat.le_of_ble_eq_true rfl), (Nat.le_of_ble_eq_true rfl)⟩) hP hD hS [0, 1, 2] rfl rfl rfl (fun H locs hP hD hS => ?_)
          refine lv_iload_n hx hb dX6_pay_84 rfl (lv_at hl 1 rfl) ?_
          exact z_wiret hx hb hr rfl hlocks hP hS (by (try simp only [hg_3, hg_2, hg_1, hg1, hg2]) <;> (rw [hk_18]; simp [mpyRet, c_5])) (congrArg (fun T => zMod cI r T) (show uR (uK (uR M ((pOu g_1 p a f k18).1)) g_2) g_3 = uK (uR M g1) g2 from by (try simp only [hg_3, hg_2, hg_1, hg1, hg2]) <;> (rw [if_pos c_5, if_pos c_5, mpyNew, hk_18]))) dX6_pay_85
        · have c_21 : ¬ (((40 : Int32) : Int32) ≤ nI k18) := c_21
          have hk_18 : k18 < 40 := z_cont (by decide) h1_18 c_21
          have hO : mOk (pOu g_1 p a f k18).1 a f := mOk_pOu hR5 hp k18 (by omega)
          refine lv_aload_n hx hb dX6_pay_24 rfl (lv_at hl 2 rfl) ?_
          refine lv_iload_n hx hb dX6_pay_25 rfl (lv_at hl 3 rfl) ?_
          refine z_ro (va_runV (As := [.int (p)]) (rest := []) ⟨hx, hb, hml, hown, hz⟩ (c_X6_gift l D cI cQ r (uK (uR M ((pOu g_1 p a f k18).1)) g_2) p (a) (f) (hO)) (zcwV 1 hz q3_208 q3_210 qs_32 q1_7 q3_211 hd_X6_gift (Nat.le_of_ble_eq_true rfl) (Nat.le_of_ble_eq_true rfl)) (z_pv (ci := 6) (q := (RX6, TX6, 3)) hK hP rfl rfl) rfl rfl hl.1 rfl (lv_room (Nat.le_of_ble_eq_true rfl)) dX6_pay_26 ⟨(Nat.le_of_ble_eq_true rfl), (Nat.le_of_ble_eq_true rfl)⟩) ?_
          refine lv_istore (lv' := [(4, .int (giF (((pOu g_1 p a f k18).1)) p f a)), (3, .int (nI k18)), (2, .int ((pOu g_1 p a f k18).2)), (0, .ref (r 0)), (1, .int (p))]) hx hb dX6_pay_29 hl (by decide) rfl (fun ls hl => ?_)
          have L31 : ∀ (n31 k31 : Nat), k31 ≤ pIf (pOu g_1 p a f k18) p (nI k18) → pIf (pOu g_1 p a f k18) p (nI k18) < k31 + n31 → (pIn p a f (nI k18) (pIf (pOu g_1 p a f k18) p (nI k18)) (pOu g_1 p a f k18) = pIn p a f (nI k18) (pIf (pOu g_1 p a f k18) p (nI k18) - k31) (pIk p a f (nI k18) (pOu g_1 p a f k18) k31)) → (mOk (pIk p a f (nI k18) (pOu g_1 p a f k18) k31).1 a f) → ((dO (pIk p a f (nI k18) (pOu g_1 p a f k18) k31).1 p (nI k18)).toInt = (dO (pOu g_1 p a f k18).1 p (nI k18)).toInt - ((k31 : Nat) : Int)) → ∀ (H : Heap) (locs : List Loc), va_P D vwCl (zMod cI r (uK (uR M ((pIk p a f (nI k18) (pOu g_1 p a f k18) k31).1)) g_2)) H → va_D (zA (zMod cI r M)) (zMod cI r (uK (uR M ((pIk p a f (nI k18) (pOu g_1 p a f k18) k31).1)) g_2)) → va_S (zA (zMod cI r M)) s.heap H locs → ∀ (ls : Array Slot), lv_has ls 5 [(2, .int ((pIk p a f (nI k18) (pOu g_1 p a f k18) k31).2)), (4, .int (giF ((pIk p a f (nI k18) (pOu g_1 p a f k18) k31).1) p f a)), (3, .int (nI k18)), (0, .ref (r 0)), (1, .int (p))] → W pg l e ({ frames := 7, cells := 0, slots := 0, locals := 171 }) s mi args below meth cd H locs 0 0 (MQ below (zQ D (zMod cI r M) (some (.int (mpyRet (mR M) (mK M) a f p))) (zMod cI r (uK (uR M g1) g2))) args s 0 0 (zA (zMod cI r M))) (F0 mi 31 ls []) := by
            intro n31
            induction n31 with
            | zero => intro k31 h1 h2; exact absurd h2 (by omega)
            | succ n31 ih31 =>
              intro k31 h1_31 h2_31 he hB hd H locs hP hD hS ls hl
              refine lv_aload_n hx hb dX6_pay_31 rfl (lv_at hl 3 rfl) ?_
              refine lv_iload_n hx hb dX6_pay_32 rfl (lv_at hl 4 rfl) ?_
              refine lv_iload_n hx hb dX6_pay_33 rfl (lv_at hl 2 rfl) ?_
              refine z_ro (va_runV (As := [.int (p), .int (nI k18)]) (rest := []) ⟨hx, hb, hml, hown, hz⟩ (c_X6_debtOf l D cI cQ r (uK (uR M ((pIk p a f (nI k18) (pOu g_1 p a f k18) k31).1)) g_2) p (nI k18) (ix3 hp (vp_in_nI (by omega) (by decide)))) (zcwV 2 hz q3_212 q3_214 qs_33 q1_7 q3_215 hd_X6_debtOf (Nat.le_of_ble_eq_true rfl) (Nat.le_of_ble_eq_true rfl)) (z_pv (ci := 6) (q := (RX6, TX6, 3)) hK hP rfl rfl) rfl rfl hl.1 rfl (lv_room (Nat.le_of_ble_eq_true rfl)) dX6_pay_34 ⟨(Nat.le_of_ble_eq_true rfl), (Nat.le_of_ble_eq_true rfl)⟩) ?_
              refine lv_if_le (tgt := 74) hx hb dX6_pay_37 (by decide) (fun c_37 => ?_) (fun c_37 => ?_)
              · have c_37 : (dO (((pIk p a f (nI k18) (pOu g_1 p a f k18) k31).1)) p (nI k18) : Int32) ≤ 0 := c_37
                refine lv_iinc (v := (nI k18) + 1) (lv' := [(3, .int ((nI k18) + 1)), (2, .int ((pIk p a f (nI k18) (pOu g_1 p a f k18) k31).2)), (4, .int (giF ((pIk p a f (nI k18) (pOu g_1 p a f k18) k31).1) p f a)), (0, .ref (r 0)), (1, .int (p))]) hx hb dX6_pay_74 hl (k := 2) rfl rfl (by decide) rfl (fun ls hl => ?_)
                refine lv_goto (tgt := 18) hx hb dX6_pay_77 (by decide) ?_
                have e18_3 : (nI (k18 + 1) : Int32) = (nI k18) + 1 := (nI_1 _).symm
                have e18_2 : ((pOu g_1 p a f (k18 + 1)).2 : Int32) = (pIk p a f (nI k18) (pOu g_1 p a f k18) k31).2 := (by show (pIn p a f (nI k18) (pIf (pOu g_1 p a f k18) p (nI k18)) (pOu g_1 p a f k18)).2 = _; first | rw [he, pIn_1 c_37] | rw [he, pIn_2 c_37 c_44])
                have eS18 : uK (uR M ((pOu g_1 p a f (k18 + 1)).1)) g_2 = uK (uR M ((pIk p a f (nI k18) (pOu g_1 p a f k18) k31).1)) g_2 := by show uK (uR M ((pIn p a f (nI k18) (pIf (pOu g_1 p a f k18) p (nI k18)) (pOu g_1 p a f k18)).1)) g_2 = _; first | rw [he, pIn_1 c_37] | rw [he, pIn_2 c_37 c_44]
                exact ih18 (k18 + 1) (by omega) (by omega) H locs (by rw [eS18]; exact hP) (by rw [eS18]; exact hD) hS _ (by (try rw [e18_3]); (try rw [e18_2]); exact lv_sub hl [0, 1, 3, 4] rfl)
              · have c_37 : ¬ ((dO (((pIk p a f (nI k18) (pOu g_1 p a f k18) k31).1)) p (nI k18) : Int32) ≤ 0) := c_37
                refine lv_iload hx hb dX6_pay_40 (lv_at hl 1 rfl) ?_
                refine lv_bipush (v := (-9)) hx hb dX6_pay_42 (by decide) ?_
                refine lv_icmp_eq (tgt := 74) hx hb dX6_pay_44 (by decide) (fun c_44 => ?_) (fun c_44 => ?_)
                · have c_44 : (giF ((pIk p a f (nI k18) (pOu g_1 p a f k18) k31).1) p f a : Int32) = (-9 : Int32) := c_44
                  refine lv_iinc (v := (nI k18) + 1) (lv' := [(3, .int ((nI k18) + 1)), (2, .int ((pIk p a f (nI k18) (pOu g_1 p a f k18) k31).2)), (4, .int (giF ((pIk p a f (nI k18) (pOu g_1 p a f k18) k31).1) p f a)), (0, .ref (r 0)), (1, .int (p))]) hx hb dX6_pay_74 hl (k := 2) rfl rfl (by decide) rfl (fun ls hl => ?_)
                  refine lv_goto (tgt := 18) hx hb dX6_pay_77 (by decide) ?_
                  have e18_3 : (nI (k18 + 1) : Int32) = (nI k18) + 1 := (nI_1 _).symm
                  have e18_2 : ((pOu g_1 p a f (k18 + 1)).2 : Int32) = (pIk p a f (nI k18) (pOu g_1 p a f k18) k31).2 := (by show (pIn p a f (nI k18) (pIf (pOu g_1 p a f k18) p (nI k18)) (pOu g_1 p a f k18)).2 = _; first | rw [he, pIn_1 c_37] | rw [he, pIn_2 c_37 c_44])
                  have eS18 : uK (uR M ((pOu g_1 p a f (k18 + 1)).1)) g_2 = uK (uR M ((pIk p a f (nI k18) (pOu g_1 p a f k18) k31).1)) g_2 := by show uK (uR M ((pIn p a f (nI k18) (pIf (pOu g_1 p a f k18) p (nI k18)) (pOu g_1 p a f k18)).1)) g_2 = _; first | rw [he, pIn_1 c_37] | rw [he, pIn_2 c_37 c_44]
                  exact ih18 (k18 + 1) (by omega) (by omega) H locs (by rw [eS18]; exact hP) (by rw [eS18]; exact hD) hS _ (by (try rw [e18_3]); (try rw [e18_2]); exact lv_sub hl [0, 1, 3, 4] rfl)
                · have c_44 : ¬ ((giF ((pIk p a f (nI k18) (pOu g_1 p a f k18) k31).1) p f a : Int32) = (-9 : Int32)) := c_44
                  have hkk : k31 < pIf (pOu g_1 p a f k18) p (nI k18) := pIf_lt c_37 hd
                  have hi6 := (giF_i6 a (by have := hA.1; omega)).resolve_left c_44
                  refine lv_aload_n hx hb dX6_pay_47 rfl (lv_at hl 3 rfl) ?_
                  refine lv_iload hx hb dX6_pay_48 (lv_at hl 1 rfl) ?_
                  refine lv_iload_n hx hb dX6_pay_50 rfl (lv_at hl 2 rfl) ?_
                  obtain ⟨g_4, hg_4⟩ : ∃ z : FI, z = sLo (((pIk p a f (nI k18) (pOu g_1 p a f k18) k31).1)) (giF ((pIk p a f (nI k18) (pOu g_1 p a f k18) k31).1) p f a) (nI k18) := ⟨_, rfl⟩
                  refine z_wv (X' := zMod cI r (uR (uK (uR M ((pIk p a f (nI k18) (pOu g_1 p a f k18) k31).1)) g_2) g_4)) (va_runV (As := [.int (giF ((pIk p a f (nI k18) (pOu g_1 p a f k18) k31).1) p f a), .int (nI k18)]) (rest := []) ⟨hx, hb, hml, hown, hz⟩ (c_X6_setLord l D cI cQ r (uK (uR M ((pIk p a f (nI k18) (pOu g_1 p a f k18) k31).1)) g_2) (giF ((pIk p a f (nI k18) (pOu g_1 p a f k18) k31).1) p f a) (nI k18) (z_wk hi6 (by decide)) g_4 hg_4) (zcwV 2 hz q3_132 q3_134 qs_18 q1_7 q3_135 hd_X6_setLord (Nat.le_of_ble_eq_true rfl) (Nat.le_of_ble_eq_true rfl)) (z_pvw (ci := 6) (q := (RX6, TX6, 3)) hK hP hD rfl rfl) rfl rfl hl.1 rfl (lv_room (Nat.le_of_ble_eq_true rfl)) dX6_pay_51 ⟨(Nat.le_of_ble_eq_true rfl), (Nat.le_of_ble_eq_true rfl)⟩) hP hD hS [0, 1, 2] rfl rfl rfl (fun H locs hP hD hS => ?_)
                  refine lv_aload_n hx hb dX6_pay_54 rfl (lv_at hl 3 rfl) ?_
                  refine lv_iload_n hx hb dX6_pay_55 rfl (lv_at hl 4 rfl) ?_
                  refine lv_iload_n hx hb dX6_pay_56 rfl (lv_at hl 2 rfl) ?_
                  refine lv_iconst (v := (-1)) hx hb dX6_pay_57 (by decide) ?_
                  obtain ⟨g_5, hg_5⟩ : ∃ z : FI, z = oW (g_4) p (nI k18) (-1 : Int32) := ⟨_, rfl⟩
                  refine z_wv (X' := zMod cI r (uR (uK (uR M ((pIk p a f (nI k18) (pOu g_1 p a f k18) k31).1)) g_2) g_5)) (va_runV (As := [.int (p), .int (nI k18), .int (-1 : Int32)]) (rest := []) ⟨hx, hb, hml, hown, hz⟩ (c_X6_owes l D cI cQ r (uR (uK (uR M ((pIk p a f (nI k18) (pOu g_1 p a f k18) k31).1)) g_2) g_4) p (nI k18) (-1 : Int32) (ix3 hp (vp_in_nI (by omega) (by decide))) g_5 hg_5) (zcwV 3 hz q3_176 q3_178 qs_29 q1_7 q3_179 hd_X6_owes (Nat.le_of_ble_eq_true rfl) (Nat.le_of_ble_eq_true rfl)) (z_pvw (ci := 6) (q := (RX6, TX6, 3)) hK hP hD rfl rfl) rfl rfl hl.1 rfl (lv_room (Nat.le_of_ble_eq_true rfl)) dX6_pay_58 ⟨(Nat.le_of_ble_eq_true rfl), (Nat.le_of_ble_eq_true rfl)⟩) hP hD hS [0, 1, 2] rfl rfl rfl (fun H locs hP hD hS => ?_)
                  have eC : g_5 = (pIs p a f (nI k18) (pIk p a f (nI k18) (pOu g_1 p a f k18) k31)).1 := by rw [hg_5, hg_4]; rfl
                  have hC : mOk g_5 a f := by rw [eC]; exact mOk_pIs hB hp (vp_in_nI (by omega) (by decide)) c_44
                  refine lv_iinc (v := ((pIk p a f (nI k18) (pOu g_1 p a f k18) k31).2) + 1) (lv' := [(2, .int (((pIk p a f (nI k18) (pOu g_1 p a f k18) k31).2) + 1)), (4, .int (giF ((pIk p a f (nI k18) (pOu g_1 p a f k18) k31).1) p f a)), (3, .int (nI k18)), (0, .ref (r 0)), (1, .int (p))]) hx hb dX6_pay_61 hl (k := 0) rfl rfl (by decide) rfl (fun ls hl => ?_)
                  refine lv_aload_n hx hb dX6_pay_64 rfl (lv_at hl 3 rfl) ?_
                  refine lv_iload_n hx hb dX6_pay_65 rfl (lv_at hl 4 rfl) ?_
                  refine z_ro (va_runV (As := [.int (p)]) (rest := []) ⟨hx, hb, hml, hown, hz⟩ (c_X6_gift l D cI cQ r (uR (uK (uR M ((pIk p a f (nI k18) (pOu g_1 p a f k18) k31).1)) g_2) g_5) p (a) (f) (hC)) (zcwV 1 hz q3_208 q3_210 qs_32 q1_7 q3_211 hd_X6_gift (Nat.le_of_ble_eq_true rfl) (Nat.le_of_ble_eq_true rfl)) (z_pv (ci := 6) (q := (RX6, TX6, 3)) hK hP rfl rfl) rfl rfl hl.1 rfl (lv_room (Nat.le_of_ble_eq_true rfl)) dX6_pay_66 ⟨(Nat.le_of_ble_eq_true rfl), (Nat.le_of_ble_eq_true rfl)⟩) ?_
                  refine lv_istore (lv' := [(4, .int (giF (g_5) p f a)), (2, .int (((pIk p a f (nI k18) (pOu g_1 p a f k18) k31).2) + 1)), (3, .int (nI k18)), (0, .ref (r 0)), (1, .int (p))]) hx hb dX6_pay_69 hl (by decide) rfl (fun ls hl => ?_)
                  refine lv_goto (tgt := 31) hx hb dX6_pay_71 (by decide) ?_
                  have e31_2 : ((pIk p a f (nI k18) (pOu g_1 p a f k18) (k31 + 1)).2 : Int32) = ((pIk p a f (nI k18) (pOu g_1 p a f k18) k31).2) + 1 := (by rfl)
                  have e31_4 : (giF ((pIk p a f (nI k18) (pOu g_1 p a f k18) (k31 + 1)).1) p f a : Int32) = giF (g_5) p f a := (by rw [eC]; rfl)
                  have eS31 : uK (uR M ((pIk p a f (nI k18) (pOu g_1 p a f k18) (k31 + 1)).1)) g_2 = uR (uK (uR M ((pIk p a f (nI k18) (pOu g_1 p a f k18) k31).1)) g_2) g_5 := by rw [eC]; rfl
                  exact ih31 (k31 + 1) (by omega) (by omega) (he.trans (pIn_3 hkk c_37 c_44)) (mOk_pIs hB hp (vp_in_nI (by omega) (by decide)) c_44) ((dO_step hp (vp_in_nI (by omega) (by decide)) hi6 c_37).trans (by rw [hd]; omega)) H locs (by rw [eS31]; exact hP) (by rw [eS31]; exact hD) hS _ (by (try rw [e31_2]); (try rw [e31_4]); exact lv_sub hl [1, 0, 2, 3, 4] rfl)
          have e31_2 : ((pIk p a f (nI k18) (pOu g_1 p a f k18) 0).2 : Int32) = (pOu g_1 p a f k18).2 := (by rfl)
          have e31_4 : (giF ((pIk p a f (nI k18) (pOu g_1 p a f k18) 0).1) p f a : Int32) = giF (((pOu g_1 p a f k18).1)) p f a := (by rfl)
          have eS31 : uK (uR M ((pIk p a f (nI k18) (pOu g_1 p a f k18) 0).1)) g_2 = uK (uR M ((pOu g_1 p a f k18).1)) g_2 := by rfl
          exact L31 (pIf (pOu g_1 p a f k18) p (nI k18) + 1) (0) (Nat.zero_le _) (by omega) (rfl) (hO) ((Int.sub_zero _).symm) H locs (by rw [eS31]; exact hP) (by rw [eS31]; exact hD) hS _ (by (try rw [e31_2]); (try rw [e31_4]); exact lv_sub hl [2, 0, 1, 3, 4] rfl)
    have e18_3 : (nI 0 : Int32) = (0 : Int32) := rfl
    have e18_2 : ((pOu g_1 p a f 0).2 : Int32) = (0 : Int32) := (by rfl)
    have eS18 : uK (uR M ((pOu g_1 p a f 0).1)) g_2 = uK (uR M g_1) g_2 := by rfl
    exact L18 (40 + 1) (0) (Nat.zero_le _) (by omega) H locs (by rw [eS18]; exact hP) (by rw [eS18]; exact hD) hS _ (by (try rw [e18_3]); (try rw [e18_2]); exact lv_sub hl [0, 1, 2, 3] rfl)
  · have c_5 : (iR ((mR M)) p) = false := bI_f c_5
    refine lv_iconst (v := (-1)) hx hb dX6_pay_8 (by decide) ?_
    exact z_wiret hx hb hr rfl hlocks hP hS (by (try simp only [hg1, hg2]) <;> (simp [mpyNew, mpyRet, c_5])) (congrArg (fun T => zMod cI r T) (show M = uK (uR M g1) g2 from by (try simp only [hg1, hg2]) <;> (first | (simp [mpyNew, mpyRet, c_5]; done) | (simp [mpyNew, mpyRet, c_5] <;> rfl) | rfl))) dX6_pay_9
set_option maxHeartbeats 1000000 in
set_option maxRecDepth 100000 in
theorem c_X6_canJoin (l : Launch) (D : va_G) (cI cQ : ClassId) (r : Nat → Nat) (M : MS) (p : Int32) (a : Nat) (f : Nat) (hA : mOk (mR M) a f) (hp : vp_in p 100) (hsd : ¬ qA (mR M) p 3 = 0 → ¬ (2 : Int32) * mSd (mR M) p = 0) (g1 : FI) (hg1 : g1 = cjF (mR M) f p (mF M)) : zWR l yX6_canJoin (Cond.code yX6_canJoin cX6_canJoin 8 (some .boolean) :: zT) 4 92 [.ref (r 0), .int p] D cI cQ (zMod cI r M) (some (.int (bI (cjR (mR M) a f p)))) (zMod cI r (uF M g1)) := by
  refine zWR.of (cc := cX6_canJoin) (maxL := 8) (ret := some .boolean) (by decide +kernel) rfl (Nat.le_of_ble_eq_true rfl) ?_
  intro pg e s mi args below meth cd hx hb hr hts hown hlocks hml hP hD hS hK ls hl
  have hz : ∀ w ∈ zT, w.before args s = true := fun w h => hts w (List.mem_cons_of_mem _ h)
  have hl : lv_has ls 8 [(0, .ref (r 0)), (1, .int (p))] := hl
  refine lv_aload_n hx hb dX6_canJoin_0 rfl (lv_at hl 0 rfl) ?_
  refine lv_iload_n hx hb dX6_canJoin_1 rfl (lv_at hl 1 rfl) ?_
  refine lv_iconst (v := 3) hx hb dX6_canJoin_2 (by decide) ?_
  refine z_ro (va_runV (As := [.int (p), .int (3 : Int32)]) (rest := []) ⟨hx, hb, hml, hown, hz⟩ (c_X6_ofParish l D cI cQ r M p (3 : Int32) (ix2 (Or.inl hp) (z_inC (by decide) (by decide)))) (zcwV 2 hz q3_120 q3_122 qs_15 q1_7 q3_123 hd_X6_ofParish (Nat.le_of_ble_eq_true rfl) (Nat.le_of_ble_eq_true rfl)) (z_pv (ci := 6) (q := (RX6, TX6, 3)) hK hP rfl rfl) rfl rfl hl.1 rfl (lv_room (Nat.le_of_ble_eq_true rfl)) dX6_canJoin_3 ⟨(Nat.le_of_ble_eq_true rfl), (Nat.le_of_ble_eq_true rfl)⟩) ?_
  refine lv_istore_n (lv' := [(2, .int (qA ((mR M)) p (3 : Int32))), (0, .ref (r 0)), (1, .int (p))]) hx hb dX6_canJoin_6 rfl hl (by decide) rfl (fun ls hl => ?_)
  refine lv_iload_n hx hb dX6_canJoin_7 rfl (lv_at hl 0 rfl) ?_
  refine lv_if_ne (tgt := 13) hx hb dX6_canJoin_8 (by decide) (fun c_8 => ?_) (fun c_8 => ?_)
  · have c_8 : ¬ ((qA ((mR M)) p (3 : Int32) : Int32) = 0) := c_8
    refine lv_bipush (v := 64) hx hb dX6_canJoin_13 (by decide) ?_
    refine lv_iload_n hx hb dX6_canJoin_15 rfl (lv_at hl 0 rfl) ?_
    refine lv_ishr hx hb dX6_canJoin_16 ?_
    refine lv_istore_n (lv' := [(3, .int (mSd (mR M) p)), (2, .int (qA ((mR M)) p (3 : Int32))), (0, .ref (r 0)), (1, .int (p))]) hx hb dX6_canJoin_17 rfl hl (by decide) rfl (fun ls hl => ?_)
    refine lv_aload_n hx hb dX6_canJoin_18 rfl (lv_at hl 2 rfl) ?_
    refine lv_iload_n hx hb dX6_canJoin_19 rfl (lv_at hl 3 rfl) ?_
    refine lv_iconst (v := 1) hx hb dX6_canJoin_20 (by decide) ?_
    refine z_ro (va_runV (As := [.int (p), .int (1 : Int32)]) (rest := []) ⟨hx, hb, hml, hown, hz⟩ (c_X6_ofParish l D cI cQ r M p (1 : Int32) (ix2 (Or.inl hp) (z_inC (by decide) (by decide)))) (zcwV 2 hz q3_120 q3_122 qs_15 q1_7 q3_123 hd_X6_ofParish (Nat.le_of_ble_eq_true rfl) (Nat.le_of_ble_eq_true rfl)) (z_pv (ci := 6) (q := (RX6, TX6, 3)) hK hP rfl rfl) rfl rfl hl.1 rfl (lv_room (Nat.le_of_ble_eq_true rfl)) dX6_canJoin_21 ⟨(Nat.le_of_ble_eq_true rfl), (Nat.le_of_ble_eq_true rfl)⟩) ?_
    refine lv_iconst (v := 2) hx hb dX6_canJoin_24 (by decide) ?_
    refine lv_iload_n hx hb dX6_canJoin_25 rfl (lv_at hl 0 rfl) ?_
    refine lv_imul hx hb dX6_canJoin_26 ?_
    refine lv_idiv hx hb dX6_canJoin_27 (hsd c_8) ?_
    refine lv_iconst (v := 2) hx hb dX6_canJoin_28 (by decide) ?_
    refine lv_iload_n hx hb dX6_canJoin_29 rfl (lv_at hl 0 rfl) ?_
    refine lv_imul hx hb dX6_canJoin_30 ?_
    refine lv_imul hx hb dX6_canJoin_31 ?_
    refine lv_istore (lv' := [(4, .int (cjX (mR M) p 1)), (3, .int (mSd (mR M) p)), (2, .int (qA ((mR M)) p (3 : Int32))), (0, .ref (r 0)), (1, .int (p))]) hx hb dX6_canJoin_32 hl (by decide) rfl (fun ls hl => ?_)
    refine lv_aload_n hx hb dX6_canJoin_34 rfl (lv_at hl 3 rfl) ?_
    refine lv_iload_n hx hb dX6_canJoin_35 rfl (lv_at hl 4 rfl) ?_
    refine lv_iconst (v := 2) hx hb dX6_canJoin_36 (by decide) ?_
    refine z_ro (va_runV (As := [.int (p), .int (2 : Int32)]) (rest := []) ⟨hx, hb, hml, hown, hz⟩ (c_X6_ofParish l D cI cQ r M p (2 : Int32) (ix2 (Or.inl hp) (z_inC (by decide) (by decide)))) (zcwV 2 hz q3_120 q3_122 qs_15 q1_7 q3_123 hd_X6_ofParish (Nat.le_of_ble_eq_true rfl) (Nat.le_of_ble_eq_true rfl)) (z_pv (ci := 6) (q := (RX6, TX6, 3)) hK hP rfl rfl) rfl rfl hl.1 rfl (lv_room (Nat.le_of_ble_eq_true rfl)) dX6_canJoin_37 ⟨(Nat.le_of_ble_eq_true rfl), (Nat.le_of_ble_eq_true rfl)⟩) ?_
    refine lv_iconst (v := 2) hx hb dX6_canJoin_40 (by decide) ?_
    refine lv_iload_n hx hb dX6_canJoin_41 rfl (lv_at hl 1 rfl) ?_
    refine lv_imul hx hb dX6_canJoin_42 ?_
    refine lv_idiv hx hb dX6_canJoin_43 (hsd c_8) ?_
    refine lv_iconst (v := 2) hx hb dX6_canJoin_44 (by decide) ?_
    refine lv_iload_n hx hb dX6_canJoin_45 rfl (lv_at hl 1 rfl) ?_
    refine lv_imul hx hb dX6_canJoin_46 ?_
    refine lv_imul hx hb dX6_canJoin_47 ?_
    refine lv_istore (lv' := [(5, .int (cjX (mR M) p 2)), (4, .int (cjX (mR M) p 1)), (3, .int (mSd (mR M) p)), (2, .int (qA ((mR M)) p (3 : Int32))), (0, .ref (r 0)), (1, .int (p))]) hx hb dX6_canJoin_48 hl (by decide) rfl (fun ls hl => ?_)
    refine lv_aload_n hx hb dX6_canJoin_50 rfl (lv_at hl 4 rfl) ?_
    refine lv_iload hx hb dX6_canJoin_51 (lv_at hl 1 rfl) ?_
    refine lv_iload hx hb dX6_canJoin_53 (lv_at hl 0 rfl) ?_
    refine lv_iconst (v := 2) hx hb dX6_canJoin_55 (by decide) ?_
    refine lv_iload_n hx hb dX6_canJoin_56 rfl (lv_at hl 2 rfl) ?_
    refine lv_imul hx hb dX6_canJoin_57 ?_
    refine z_ro (va_runV (As := [.int (cjX (mR M) p 1), .int (cjX (mR M) p 2), .int ((2 : Int32) * (mSd (mR M) p))]) (rest := []) ⟨hx, hb, hml, hown, hz⟩ (c_X6_pointsInCell l D cI cQ r M (cjX (mR M) p 1) (cjX (mR M) p 2) ((2 : Int32) * (mSd (mR M) p)) (a) (f) (hA)) (zcwV 3 hz q3_148 q3_150 qs_22 q1_7 q3_151 hd_X6_pointsInCell (Nat.le_of_ble_eq_true rfl) (Nat.le_of_ble_eq_true rfl)) (z_pv (ci := 6) (q := (RX6, TX6, 3)) hK hP rfl rfl) rfl rfl hl.1 rfl (lv_room (Nat.le_of_ble_eq_true rfl)) dX6_canJoin_58 ⟨(Nat.le_of_ble_eq_true rfl), (Nat.le_of_ble_eq_true rfl)⟩) ?_
    refine lv_aload_n hx hb dX6_canJoin_61 rfl (lv_at hl 4 rfl) ?_
    refine va_get (D := D) (ci := 6) (v := .ref (r 1)) (C := RX6) (T := TX6) (N := 3) hx hb hz inZ6 hown hK.1 hP 0 rfl rfl 0 (by decide) (hz _ q3_88) (fun _ h9 => h9) rfl dX6_canJoin_62 ?_
    refine lv_iconst (v := 0) hx hb dX6_canJoin_65 (by decide) ?_
    refine va_iald (f := mR M) hx hb hK.1 hP 1 0 rfl rfl (i := (0 : Int32)) (z_inC (by decide) (by decide)) dX6_canJoin_66 ?_
    refine lv_icmp_gt (tgt := 74) hx hb dX6_canJoin_67 (by decide) (fun c_67 => ?_) (fun c_67 => ?_)
    · have c_67 : ((mR M) 0 : Int32) < mCe ((mR M)) a (cjX (mR M) p 1) (cjX (mR M) p 2) ((2 : Int32) * (mSd (mR M) p)) := c_67
      refine lv_iconst (v := 0) hx hb dX6_canJoin_74 (by decide) ?_
      refine lv_istore (lv' := [(6, .int (0 : Int32)), (5, .int (cjX (mR M) p 2)), (4, .int (cjX (mR M) p 1)), (3, .int (mSd (mR M) p)), (2, .int (qA ((mR M)) p (3 : Int32))), (0, .ref (r 0)), (1, .int (p))]) hx hb dX6_canJoin_75 hl (by decide) rfl (fun ls hl => ?_)
      refine lv_iconst (v := 0) hx hb dX6_canJoin_77 (by decide) ?_
      refine lv_istore (lv' := [(7, .int (0 : Int32)), (6, .int (0 : Int32)), (5, .int (cjX (mR M) p 2)), (4, .int (cjX (mR M) p 1)), (3, .int (mSd (mR M) p)), (2, .int (qA ((mR M)) p (3 : Int32))), (0, .ref (r 0)), (1, .int (p))]) hx hb dX6_canJoin_78 hl (by decide) rfl (fun ls hl => ?_)
      have L80 : ∀ (n80 k80 : Nat), k80 ≤ 4 → 4 < k80 + n80 → ∀ (H : Heap) (locs : List Loc), va_P D vwCl (zMod cI r (uF M (mFo (mR M) f p (mF M) k80))) H → va_D (zA (zMod cI r M)) (zMod cI r (uF M (mFo (mR M) f p (mF M) k80))) → va_S (zA (zMod cI r M)) s.heap H locs → ∀ (ls : Array Slot), lv_has ls 8 [(7, .int (nI k80)), (6, .int (bI (cjb (mR M) a f p k80))), (5, .int (cjX (mR M) p 2)), (4, .int (cjX (mR M) p 1)), (3, .int (mSd (mR M) p)), (2, .int (qA ((mR M)) p (3 : Int32))), (0, .ref (r 0)), (1, .int (p))] → W pg l e ({ frames := 4, cells := 0, slots := 0, locals := 92 }) s mi args below meth cd H locs 0 0 (MQ below (zQ D (zMod cI r M) (some (.int (bI (cjR (mR M) a f p)))) (zMod cI r (uF M g1))) args s 0 0 (zA (zMod cI r M))) (F0 mi 80 ls []) := by
        intro n80
        induction n80 with
        | zero => intro k80 h1 h2; exact absurd h2 (by omega)
        | succ n80 ih80 =>
          intro k80 h1_80 h2_80  H locs hP hD hS ls hl
          refine lv_iload hx hb dX6_canJoin_80 (lv_at hl 0 rfl) ?_
          refine lv_iconst (v := 4) hx hb dX6_canJoin_82 (by decide) ?_
          refine lv_icmp_ge (tgt := 149) hx hb dX6_canJoin_83 (by decide) (fun c_83 => ?_) (fun c_83 => ?_)
          · have c_83 : ((4 : Int32) : Int32) ≤ nI k80 := c_83
            have hk_80 : k80 = 4 := z_exit (by decide) h1_80 c_83
            refine lv_iload hx hb dX6_canJoin_149 (lv_at hl 1 rfl) ?_
            exact z_wiret hx hb hr (bI_nar _) hlocks hP hS (by (try simp only [hg1]) <;> (rw [cjR, if_neg c_8, hk_80])) (congrArg (fun T => zMod cI r T) (show uF M (mFo (mR M) f p (mF M) k80) = uF M g1 from by (try simp only [hg1]) <;> (rw [cjF, if_neg c_8, hk_80]))) dX6_canJoin_151
          · have c_83 : ¬ (((4 : Int32) : Int32) ≤ nI k80) := c_83
            have hk_80 : k80 < 4 := z_cont (by decide) h1_80 c_83
            refine lv_aload_n hx hb dX6_canJoin_86 rfl (lv_at hl 6 rfl) ?_
            refine va_get (D := D) (ci := 6) (v := .ref (r 2)) (C := RX6) (T := TX6) (N := 3) hx hb hz inZ6 hown hK.1 hP 0 rfl rfl 2 (by decide) (hz _ q3_90) (fun _ h9 => h9) rfl dX6_canJoin_87 ?_
            refine lv_iload hx hb dX6_canJoin_90 (lv_at hl 0 rfl) ?_
            refine lv_aload_n hx hb dX6_canJoin_92 rfl (lv_at hl 6 rfl) ?_
            refine lv_iload hx hb dX6_canJoin_93 (lv_at hl 3 rfl) ?_
            refine lv_iload_n hx hb dX6_canJoin_95 rfl (lv_at hl 4 rfl) ?_
            refine lv_iload hx hb dX6_canJoin_96 (lv_at hl 0 rfl) ?_
            refine lv_iconst (v := 2) hx hb dX6_canJoin_98 (by decide) ?_
            refine lv_irem hx hb dX6_canJoin_99 (by decide) ?_
            refine lv_imul hx hb dX6_canJoin_100 ?_
            refine lv_iadd hx hb dX6_canJoin_101 ?_
            refine lv_iload hx hb dX6_canJoin_102 (lv_at hl 2 rfl) ?_
            refine lv_iload_n hx hb dX6_canJoin_104 rfl (lv_at hl 4 rfl) ?_
            refine lv_iload hx hb dX6_canJoin_105 (lv_at hl 0 rfl) ?_
            refine lv_iconst (v := 2) hx hb dX6_canJoin_107 (by decide) ?_
            refine lv_idiv hx hb dX6_canJoin_108 (by decide) ?_
            refine lv_imul hx hb dX6_canJoin_109 ?_
            refine lv_iadd hx hb dX6_canJoin_110 ?_
            refine z_ro (va_runV (As := [.int ((cjX (mR M) p 1) + ((mSd (mR M) p) * ((nI k80) - (nI k80) / (2 : Int32) * (2 : Int32)))), .int ((cjX (mR M) p 2) + ((mSd (mR M) p) * ((nI k80) / (2 : Int32))))]) (rest := [.int (nI k80), .ref (r 2)]) ⟨hx, hb, hml, hown, hz⟩ (c_X6_parishAt l D cI cQ r (uF M (mFo (mR M) f p (mF M) k80)) ((cjX (mR M) p 1) + ((mSd (mR M) p) * ((nI k80) - (nI k80) / (2 : Int32) * (2 : Int32)))) ((cjX (mR M) p 2) + ((mSd (mR M) p) * ((nI k80) / (2 : Int32)))) (a) (f) (hA)) (zcwV 2 hz q3_116 q3_118 qs_14 q1_7 q3_119 hd_X6_parishAt (Nat.le_of_ble_eq_true rfl) (Nat.le_of_ble_eq_true rfl)) (z_pv (ci := 6) (q := (RX6, TX6, 3)) hK hP rfl rfl) rfl rfl hl.1 rfl (lv_room (Nat.le_of_ble_eq_true rfl)) dX6_canJoin_111 ⟨(Nat.le_of_ble_eq_true rfl), (Nat.le_of_ble_eq_true rfl)⟩) ?_
            refine va_iast hx hb hK.1 hP hD hS 2 0 rfl rfl (i := nI k80) (vp_in_nI (by omega) (by decide)) dX6_canJoin_114 (fun H locs hP hD hS => ?_)
            have hP : va_P D vwCl (zMod cI r (uF M (upd (mFo (mR M) f p (mF M) k80) (nI k80).toNatClampNeg (mAt ((mR M)) f ((cjX (mR M) p 1) + ((mSd (mR M) p) * ((nI k80) - (nI k80) / (2 : Int32) * (2 : Int32)))) ((cjX (mR M) p 2) + ((mSd (mR M) p) * ((nI k80) / (2 : Int32)))))))) H := hP
            have hD : va_D (zA (zMod cI r M)) (zMod cI r (uF M (upd (mFo (mR M) f p (mF M) k80) (nI k80).toNatClampNeg (mAt ((mR M)) f ((cjX (mR M) p 1) + ((mSd (mR M) p) * ((nI k80) - (nI k80) / (2 : Int32) * (2 : Int32)))) ((cjX (mR M) p 2) + ((mSd (mR M) p) * ((nI k80) / (2 : Int32)))))))) := hD
            refine lv_iload hx hb dX6_canJoin_115 (lv_at hl 1 rfl) ?_
            refine lv_if_eq (tgt := 140) hx hb dX6_canJoin_117 (by decide) (fun c_117 => ?_) (fun c_117 => ?_)
            · have c_117 : (cjb (mR M) a f p k80) = false := bI_f c_117
              refine lv_iconst (v := 0) hx hb dX6_canJoin_140 (by decide) ?_
              refine lv_istore (lv' := [(6, .int (0 : Int32)), (7, .int (nI k80)), (5, .int (cjX (mR M) p 2)), (4, .int (cjX (mR M) p 1)), (3, .int (mSd (mR M) p)), (2, .int (qA ((mR M)) p (3 : Int32))), (0, .ref (r 0)), (1, .int (p))]) hx hb dX6_canJoin_141 hl (by decide) rfl (fun ls hl => ?_)
              refine lv_iinc (v := (nI k80) + 1) (lv' := [(7, .int ((nI k80) + 1)), (6, .int (0 : Int32)), (5, .int (cjX (mR M) p 2)), (4, .int (cjX (mR M) p 1)), (3, .int (mSd (mR M) p)), (2, .int (qA ((mR M)) p (3 : Int32))), (0, .ref (r 0)), (1, .int (p))]) hx hb dX6_canJoin_143 hl (k := 1) rfl rfl (by decide) rfl (fun ls hl => ?_)
              refine lv_goto (tgt := 80) hx hb dX6_canJoin_146 (by decide) ?_
              have e80_7 : (nI (k80 + 1) : Int32) = (nI k80) + 1 := (nI_1 _).symm
              have e80_6 : (bI (cjb (mR M) a f p (k80 + 1)) : Int32) = (0 : Int32) := (by simp [cjb, bI, c_117])
              have eS80 : uF M (mFo (mR M) f p (mF M) (k80 + 1)) = uF M (upd (mFo (mR M) f p (mF M) k80) (nI k80).toNatClampNeg (mAt ((mR M)) f ((cjX (mR M) p 1) + ((mSd (mR M) p) * ((nI k80) - (nI k80) / (2 : Int32) * (2 : Int32)))) ((cjX (mR M) p 2) + ((mSd (mR M) p) * ((nI k80) / (2 : Int32)))))) := by rfl
              exact ih80 (k80 + 1) (by omega) (by omega) H locs (by rw [eS80]; exact hP) (by rw [eS80]; exact hD) hS _ (by (try rw [e80_7]); (try rw [e80_6]); exact lv_sub hl [0, 1, 2, 3, 4, 5, 6, 7] rfl)
            · have c_117 : (cjb (mR M) a f p k80) = true := bI_t c_117
              refine lv_aload_n hx hb dX6_canJoin_120 rfl (lv_at hl 6 rfl) ?_
              refine lv_aload_n hx hb dX6_canJoin_121 rfl (lv_at hl 6 rfl) ?_
              refine va_get (D := D) (ci := 6) (v := .ref (r 2)) (C := RX6) (T := TX6) (N := 3) hx hb hz inZ6 hown hK.1 hP 0 rfl rfl 2 (by decide) (hz _ q3_90) (fun _ h9 => h9) rfl dX6_canJoin_122 ?_
              refine lv_iload hx hb dX6_canJoin_125 (lv_at hl 0 rfl) ?_
              refine va_iald (f := upd (mFo (mR M) f p (mF M) k80) (nI k80).toNatClampNeg (mAt ((mR M)) f ((cjX (mR M) p 1) + ((mSd (mR M) p) * ((nI k80) - (nI k80) / (2 : Int32) * (2 : Int32)))) ((cjX (mR M) p 2) + ((mSd (mR M) p) * ((nI k80) / (2 : Int32)))))) hx hb hK.1 hP 2 0 rfl rfl (i := nI k80) (vp_in_nI (by omega) (by decide)) dX6_canJoin_127 ?_
              rw [show (upd (mFo (mR M) f p (mF M) k80) (nI k80).toNatClampNeg (mAt ((mR M)) f ((cjX (mR M) p 1) + ((mSd (mR M) p) * ((nI k80) - (nI k80) / (2 : Int32) * (2 : Int32)))) ((cjX (mR M) p 2) + ((mSd (mR M) p) * ((nI k80) / (2 : Int32)))))) (nI k80).toNatClampNeg = mJq (mR M) f p k80 from upd_s]
              refine lv_iconst (v := 3) hx hb dX6_canJoin_128 (by decide) ?_
              refine z_ro (va_runV (As := [.int (mJq (mR M) f p k80), .int (3 : Int32)]) (rest := []) ⟨hx, hb, hml, hown, hz⟩ (c_X6_ofParish l D cI cQ r (uF M (upd (mFo (mR M) f p (mF M) k80) (nI k80).toNatClampNeg (mAt ((mR M)) f ((cjX (mR M) p 1) + ((mSd (mR M) p) * ((nI k80) - (nI k80) / (2 : Int32) * (2 : Int32)))) ((cjX (mR M) p 2) + ((mSd (mR M) p) * ((nI k80) / (2 : Int32))))))) (mJq (mR M) f p k80) (3 : Int32) (ix2 (mAt_in hA.2.1) (z_inC (by decide) (by decide)))) (zcwV 2 hz q3_120 q3_122 qs_15 q1_7 q3_123 hd_X6_ofParish (Nat.le_of_ble_eq_true rfl) (Nat.le_of_ble_eq_true rfl)) (z_pv (ci := 6) (q := (RX6, TX6, 3)) hK hP rfl rfl) rfl rfl hl.1 rfl (lv_room (Nat.le_of_ble_eq_true rfl)) dX6_canJoin_129 ⟨(Nat.le_of_ble_eq_true rfl), (Nat.le_of_ble_eq_true rfl)⟩) ?_
              refine lv_iload_n hx hb dX6_canJoin_132 rfl (lv_at hl 5 rfl) ?_
              refine lv_icmp_ne (tgt := 140) hx hb dX6_canJoin_133 (by decide) (fun c_133 => ?_) (fun c_133 => ?_)
              · have c_133 : ¬ ((qA ((mR M)) (mJq (mR M) f p k80) (3 : Int32) : Int32) = qA ((mR M)) p (3 : Int32)) := c_133
                refine lv_iconst (v := 0) hx hb dX6_canJoin_140 (by decide) ?_
                refine lv_istore (lv' := [(6, .int (0 : Int32)), (7, .int (nI k80)), (5, .int (cjX (mR M) p 2)), (4, .int (cjX (mR M) p 1)), (3, .int (mSd (mR M) p)), (2, .int (qA ((mR M)) p (3 : Int32))), (0, .ref (r 0)), (1, .int (p))]) hx hb dX6_canJoin_141 hl (by decide) rfl (fun ls hl => ?_)
                refine lv_iinc (v := (nI k80) + 1) (lv' := [(7, .int ((nI k80) + 1)), (6, .int (0 : Int32)), (5, .int (cjX (mR M) p 2)), (4, .int (cjX (mR M) p 1)), (3, .int (mSd (mR M) p)), (2, .int (qA ((mR M)) p (3 : Int32))), (0, .ref (r 0)), (1, .int (p))]) hx hb dX6_canJoin_143 hl (k := 1) rfl rfl (by decide) rfl (fun ls hl => ?_)
                refine lv_goto (tgt := 80) hx hb dX6_canJoin_146 (by decide) ?_
                have e80_7 : (nI (k80 + 1) : Int32) = (nI k80) + 1 := (nI_1 _).symm
                have e80_6 : (bI (cjb (mR M) a f p (k80 + 1)) : Int32) = (0 : Int32) := (by simp [cjb, bI, c_117, c_133])
                have eS80 : uF M (mFo (mR M) f p (mF M) (k80 + 1)) = uF M (upd (mFo (mR M) f p (mF M) k80) (nI k80).toNatClampNeg (mAt ((mR M)) f ((cjX (mR M) p 1) + ((mSd (mR M) p) * ((nI k80) - (nI k80) / (2 : Int32) * (2 : Int32)))) ((cjX (mR M) p 2) + ((mSd (mR M) p) * ((nI k80) / (2 : Int32)))))) := by rfl
                exact ih80 (k80 + 1) (by omega) (by omega) H locs (by rw [eS80]; exact hP) (by rw [eS80]; exact hD) hS _ (by (try rw [e80_7]); (try rw [e80_6]); exact lv_sub hl [0, 1, 2, 3, 4, 5, 6, 7] rfl)
              · have c_133 : (qA ((mR M)) (mJq (mR M) f p k80) (3 : Int32) : Int32) = qA ((mR M)) p (3 : Int32) := c_133
                refine lv_iconst (v := 1) hx hb dX6_canJoin_136 (by decide) ?_
                refine lv_goto (tgt := 141) hx hb dX6_canJoin_137 (by decide) ?_
                refine lv_istore (lv' := [(6, .int (1 : Int32)), (7, .int (nI k80)), (5, .int (cjX (mR M) p 2)), (4, .int (cjX (mR M) p 1)), (3, .int (mSd (mR M) p)), (2, .int (qA ((mR M)) p (3 : Int32))), (0, .ref (r 0)), (1, .int (p))]) hx hb dX6_canJoin_141 hl (by decide) rfl (fun ls hl => ?_)
                refine lv_iinc (v := (nI k80) + 1) (lv' := [(7, .int ((nI k80) + 1)), (6, .int (1 : Int32)), (5, .int (cjX (mR M) p 2)), (4, .int (cjX (mR M) p 1)), (3, .int (mSd (mR M) p)), (2, .int (qA ((mR M)) p (3 : Int32))), (0, .ref (r 0)), (1, .int (p))]) hx hb dX6_canJoin_143 hl (k := 1) rfl rfl (by decide) rfl (fun ls hl => ?_)
                refine lv_goto (tgt := 80) hx hb dX6_canJoin_146 (by decide) ?_
                have e80_7 : (nI (k80 + 1) : Int32) = (nI k80) + 1 := (nI_1 _).symm
                have e80_6 : (bI (cjb (mR M) a f p (k80 + 1)) : Int32) = (1 : Int32) := (by simp [cjb, bI, c_117, c_133])
                have eS80 : uF M (mFo (mR M) f p (mF M) (k80 + 1)) = uF M (upd (mFo (mR M) f p (mF M) k80) (nI k80).toNatClampNeg (mAt ((mR M)) f ((cjX (mR M) p 1) + ((mSd (mR M) p) * ((nI k80) - (nI k80) / (2 : Int32) * (2 : Int32)))) ((cjX (mR M) p 2) + ((mSd (mR M) p) * ((nI k80) / (2 : Int32)))))) := by rfl
                exact ih80 (k80 + 1) (by omega) (by omega) H locs (by rw [eS80]; exact hP) (by rw [eS80]; exact hD) hS _ (by (try rw [e80_7]); (try rw [e80_6]); exact lv_sub hl [0, 1, 2, 3, 4, 5, 6, 7] rfl)
      have e80_7 : (nI 0 : Int32) = (0 : Int32) := rfl
      have e80_6 : (bI (cjb (mR M) a f p 0) : Int32) = (0 : Int32) := (by first | (simp only [cjb, cjc, c_67, decide_true, bI]; done) | simp [cjb, cjc, c_67, bI])
      have eS80 : uF M (mFo (mR M) f p (mF M) 0) = M := by rfl
      exact L80 (4 + 1) (0) (Nat.zero_le _) (by omega) s.heap [] (by rw [eS80]; exact hP) (by rw [eS80]; exact hD) hS _ (by (try rw [e80_7]); (try rw [e80_6]); exact lv_sub hl [0, 1, 2, 3, 4, 5, 6, 7] rfl)
    · have c_67 : ¬ (((mR M) 0 : Int32) < mCe ((mR M)) a (cjX (mR M) p 1) (cjX (mR M) p 2) ((2 : Int32) * (mSd (mR M) p))) := c_67
      refine lv_iconst (v := 1) hx hb dX6_canJoin_70 (by decide) ?_
      refine lv_goto (tgt := 75) hx hb dX6_canJoin_71 (by decide) ?_
      refine lv_istore (lv' := [(6, .int (1 : Int32)), (5, .int (cjX (mR M) p 2)), (4, .int (cjX (mR M) p 1)), (3, .int (mSd (mR M) p)), (2, .int (qA ((mR M)) p (3 : Int32))), (0, .ref (r 0)), (1, .int (p))]) hx hb dX6_canJoin_75 hl (by decide) rfl (fun ls hl => ?_)
      refine lv_iconst (v := 0) hx hb dX6_canJoin_77 (by decide) ?_
      refine lv_istore (lv' := [(7, .int (0 : Int32)), (6, .int (1 : Int32)), (5, .int (cjX (mR M) p 2)), (4, .int (cjX (mR M) p 1)), (3, .int (mSd (mR M) p)), (2, .int (qA ((mR M)) p (3 : Int32))), (0, .ref (r 0)), (1, .int (p))]) hx hb dX6_canJoin_78 hl (by decide) rfl (fun ls hl => ?_)
      have L80 : ∀ (n80 k80 : Nat), k80 ≤ 4 → 4 < k80 + n80 → ∀ (H : Heap) (locs : List Loc), va_P D vwCl (zMod cI r (uF M (mFo (mR M) f p (mF M) k80))) H → va_D (zA (zMod cI r M)) (zMod cI r (uF M (mFo (mR M) f p (mF M) k80))) → va_S (zA (zMod cI r M)) s.heap H locs → ∀ (ls : Array Slot), lv_has ls 8 [(7, .int (nI k80)), (6, .int (bI (cjb (mR M) a f p k80))), (5, .int (cjX (mR M) p 2)), (4, .int (cjX (mR M) p 1)), (3, .int (mSd (mR M) p)), (2, .int (qA ((mR M)) p (3 : Int32))), (0, .ref (r 0)), (1, .int (p))] → W pg l e ({ frames := 4, cells := 0, slots := 0, locals := 92 }) s mi args below meth cd H locs 0 0 (MQ below (zQ D (zMod cI r M) (some (.int (bI (cjR (mR M) a f p)))) (zMod cI r (uF M g1))) args s 0 0 (zA (zMod cI r M))) (F0 mi 80 ls []) := by
        intro n80
        induction n80 with
        | zero => intro k80 h1 h2; exact absurd h2 (by omega)
        | succ n80 ih80 =>
          intro k80 h1_80 h2_80  H locs hP hD hS ls hl
          refine lv_iload hx hb dX6_canJoin_80 (lv_at hl 0 rfl) ?_
          refine lv_iconst (v := 4) hx hb dX6_canJoin_82 (by decide) ?_
          refine lv_icmp_ge (tgt := 149) hx hb dX6_canJoin_83 (by decide) (fun c_83 => ?_) (fun c_83 => ?_)
          · have c_83 : ((4 : Int32) : Int32) ≤ nI k80 := c_83
            have hk_80 : k80 = 4 := z_exit (by decide) h1_80 c_83
            refine lv_iload hx hb dX6_canJoin_149 (lv_at hl 1 rfl) ?_
            exact z_wiret hx hb hr (bI_nar _) hlocks hP hS (by (try simp only [hg1]) <;> (rw [cjR, if_neg c_8, hk_80])) (congrArg (fun T => zMod cI r T) (show uF M (mFo (mR M) f p (mF M) k80) = uF M g1 from by (try simp only [hg1]) <;> (rw [cjF, if_neg c_8, hk_80]))) dX6_canJoin_151
          · have c_83 : ¬ (((4 : Int32) : Int32) ≤ nI k80) := c_83
            have hk_80 : k80 < 4 := z_cont (by decide) h1_80 c_83
            refine lv_aload_n hx hb dX6_canJoin_86 rfl (lv_at hl 6 rfl) ?_
            refine va_get (D := D) (ci := 6) (v := .ref (r 2)) (C := RX6) (T := TX6) (N := 3) hx hb hz inZ6 hown hK.1 hP 0 rfl rfl 2 (by decide) (hz _ q3_90) (fun _ h9 => h9) rfl dX6_canJoin_87 ?_
            refine lv_iload hx hb dX6_canJoin_90 (lv_at hl 0 rfl) ?_
            refine lv_aload_n hx hb dX6_canJoin_92 rfl (lv_at hl 6 rfl) ?_
            refine lv_iload hx hb dX6_canJoin_93 (lv_at hl 3 rfl) ?_
            refine lv_iload_n hx hb dX6_canJoin_95 rfl (lv_at hl 4 rfl) ?_
            refine lv_iload hx hb dX6_canJoin_96 (lv_at hl 0 rfl) ?_
            refine lv_iconst (v := 2) hx hb dX6_canJoin_98 (by decide) ?_
            refine lv_irem hx hb dX6_canJoin_99 (by decide) ?_
            refine lv_imul hx hb dX6_canJoin_100 ?_
            refine lv_iadd hx hb dX6_canJoin_101 ?_
            refine lv_iload hx hb dX6_canJoin_102 (lv_at hl 2 rfl) ?_
            refine lv_iload_n hx hb dX6_canJoin_104 rfl (lv_at hl 4 rfl) ?_
            refine lv_iload hx hb dX6_canJoin_105 (lv_at hl 0 rfl) ?_
            refine lv_iconst (v := 2) hx hb dX6_canJoin_107 (by decide) ?_
            refine lv_idiv hx hb dX6_canJoin_108 (by decide) ?_
            refine lv_imul hx hb dX6_canJoin_109 ?_
            refine lv_iadd hx hb dX6_canJoin_110 ?_
            refine z_ro (va_runV (As := [.int ((cjX (mR M) p 1) + ((mSd (mR M) p) * ((nI k80) - (nI k80) / (2 : Int32) * (2 : Int32)))), .int ((cjX (mR M) p 2) + ((mSd (mR M) p) * ((nI k80) / (2 : Int32))))]) (rest := [.int (nI k80), .ref (r 2)]) ⟨hx, hb, hml, hown, hz⟩ (c_X6_parishAt l D cI cQ r (uF M (mFo (mR M) f p (mF M) k80)) ((cjX (mR M) p 1) + ((mSd (mR M) p) * ((nI k80) - (nI k80) / (2 : Int32) * (2 : Int32)))) ((cjX (mR M) p 2) + ((mSd (mR M) p) * ((nI k80) / (2 : Int32)))) (a) (f) (hA)) (zcwV 2 hz q3_116 q3_118 qs_14 q1_7 q3_119 hd_X6_parishAt (Nat.le_of_ble_eq_true rfl) (Nat.le_of_ble_eq_true rfl)) (z_pv (ci := 6) (q := (RX6, TX6, 3)) hK hP rfl rfl) rfl rfl hl.1 rfl (lv_room (Nat.le_of_ble_eq_true rfl)) dX6_canJoin_111 ⟨(Nat.le_of_ble_eq_true rfl), (Nat.le_of_ble_eq_true rfl)⟩) ?_
            refine va_iast hx hb hK.1 hP hD hS 2 0 rfl rfl (i := nI k80) (vp_in_nI (by omega) (by decide)) dX6_canJoin_114 (fun H locs hP hD hS => ?_)
            have hP : va_P D vwCl (zMod cI r (uF M (upd (mFo (mR M) f p (mF M) k80) (nI k80).toNatClampNeg (mAt ((mR M)) f ((cjX (mR M) p 1) + ((mSd (mR M) p) * ((nI k80) - (nI k80) / (2 : Int32) * (2 : Int32)))) ((cjX (mR M) p 2) + ((mSd (mR M) p) * ((nI k80) / (2 : Int32)))))))) H := hP
            have hD : va_D (zA (zMod cI r M)) (zMod cI r (uF M (upd (mFo (mR M) f p (mF M) k80) (nI k80).toNatClampNeg (mAt ((mR M)) f ((cjX (mR M) p 1) + ((mSd (mR M) p) * ((nI k80) - (nI k80) / (2 : Int32) * (2 : Int32)))) ((cjX (mR M) p 2) + ((mSd (mR M) p) * ((nI k80) / (2 : Int32)))))))) := hD
            refine lv_iload hx hb dX6_canJoin_115 (lv_at hl 1 rfl) ?_
            refine lv_if_eq (tgt := 140) hx hb dX6_canJoin_117 (by decide) (fun c_117 => ?_) (fun c_117 => ?_)
            · have c_117 : (cjb (mR M) a f p k80) = false := bI_f c_117
              refine lv_iconst (v := 0) hx hb dX6_canJoin_140 (by decide) ?_
              refine lv_istore (lv' := [(6, .int (0 : Int32)), (7, .int (nI k80)), (5, .int (cjX (mR M) p 2)), (4, .int (cjX (mR M) p 1)), (3, .int (mSd (mR M) p)), (2, .int (qA ((mR M)) p (3 : Int32))), (0, .ref (r 0)), (1, .int (p))]) hx hb dX6_canJoin_141 hl (by decide) rfl (fun ls hl => ?_)
              refine lv_iinc (v := (nI k80) + 1) (lv' := [(7, .int ((nI k80) + 1)), (6, .int (0 : Int32)), (5, .int (cjX (mR M) p 2)), (4, .int (cjX (mR M) p 1)), (3, .int (mSd (mR M) p)), (2, .int (qA ((mR M)) p (3 : Int32))), (0, .ref (r 0)), (1, .int (p))]) hx hb dX6_canJoin_143 hl (k := 1) rfl rfl (by decide) rfl (fun ls hl => ?_)
              refine lv_goto (tgt := 80) hx hb dX6_canJoin_146 (by decide) ?_
              have e80_7 : (nI (k80 + 1) : Int32) = (nI k80) + 1 := (nI_1 _).symm
              have e80_6 : (bI (cjb (mR M) a f p (k80 + 1)) : Int32) = (0 : Int32) := (by simp [cjb, bI, c_117])
              have eS80 : uF M (mFo (mR M) f p (mF M) (k80 + 1)) = uF M (upd (mFo (mR M) f p (mF M) k80) (nI k80).toNatClampNeg (mAt ((mR M)) f ((cjX (mR M) p 1) + ((mSd (mR M) p) * ((nI k80) - (nI k80) / (2 : Int32) * (2 : Int32)))) ((cjX (mR M) p 2) + ((mSd (mR M) p) * ((nI k80) / (2 : Int32)))))) := by rfl
              exact ih80 (k80 + 1) (by omega) (by omega) H locs (by rw [eS80]; exact hP) (by rw [eS80]; exact hD) hS _ (by (try rw [e80_7]); (try rw [e80_6]); exact lv_sub hl [0, 1, 2, 3, 4, 5, 6, 7] rfl)
            · have c_117 : (cjb (mR M) a f p k80) = true := bI_t c_117
              refine lv_aload_n hx hb dX6_canJoin_120 rfl (lv_at hl 6 rfl) ?_
              refine lv_aload_n hx hb dX6_canJoin_121 rfl (lv_at hl 6 rfl) ?_
              refine va_get (D := D) (ci := 6) (v := .ref (r 2)) (C := RX6) (T := TX6) (N := 3) hx hb hz inZ6 hown hK.1 hP 0 rfl rfl 2 (by decide) (hz _ q3_90) (fun _ h9 => h9) rfl dX6_canJoin_122 ?_
              refine lv_iload hx hb dX6_canJoin_125 (lv_at hl 0 rfl) ?_
              refine va_iald (f := upd (mFo (mR M) f p (mF M) k80) (nI k80).toNatClampNeg (mAt ((mR M)) f ((cjX (mR M) p 1) + ((mSd (mR M) p) * ((nI k80) - (nI k80) / (2 : Int32) * (2 : Int32)))) ((cjX (mR M) p 2) + ((mSd (mR M) p) * ((nI k80) / (2 : Int32)))))) hx hb hK.1 hP 2 0 rfl rfl (i := nI k80) (vp_in_nI (by omega) (by decide)) dX6_canJoin_127 ?_
              rw [show (upd (mFo (mR M) f p (mF M) k80) (nI k80).toNatClampNeg (mAt ((mR M)) f ((cjX (mR M) p 1) + ((mSd (mR M) p) * ((nI k80) - (nI k80) / (2 : Int32) * (2 : Int32)))) ((cjX (mR M) p 2) + ((mSd (mR M) p) * ((nI k80) / (2 : Int32)))))) (nI k80).toNatClampNeg = mJq (mR M) f p k80 from upd_s]
              refine lv_iconst (v := 3) hx hb dX6_canJoin_128 (by decide) ?_
              refine z_ro (va_runV (As := [.int (mJq (mR M) f p k80), .int (3 : Int32)]) (rest := []) ⟨hx, hb, hml, hown, hz⟩ (c_X6_ofParish l D cI cQ r (uF M (upd (mFo (mR M) f p (mF M) k80) (nI k80).toNatClampNeg (mAt ((mR M)) f ((cjX (mR M) p 1) + ((mSd (mR M) p) * ((nI k80) - (nI k80) / (2 : Int32) * (2 : Int32)))) ((cjX (mR M) p 2) + ((mSd (mR M) p) * ((nI k80) / (2 : Int32))))))) (mJq (mR M) f p k80) (3 : Int32) (ix2 (mAt_in hA.2.1) (z_inC (by decide) (by decide)))) (zcwV 2 hz q3_120 q3_122 qs_15 q1_7 q3_123 hd_X6_ofParish (Nat.le_of_ble_eq_true rfl) (Nat.le_of_ble_eq_true rfl)) (z_pv (ci := 6) (q := (RX6, TX6, 3)) hK hP rfl rfl) rfl rfl hl.1 rfl (lv_room (Nat.le_of_ble_eq_true rfl)) dX6_canJoin_129 ⟨(Nat.le_of_ble_eq_true rfl), (Nat.le_of_ble_eq_true rfl)⟩) ?_
              refine lv_iload_n hx hb dX6_canJoin_132 rfl (lv_at hl 5 rfl) ?_
              refine lv_icmp_ne (tgt := 140) hx hb dX6_canJoin_133 (by decide) (fun c_133 => ?_) (fun c_133 => ?_)
              · have c_133 : ¬ ((qA ((mR M)) (mJq (mR M) f p k80) (3 : Int32) : Int32) = qA ((mR M)) p (3 : Int32)) := c_133
                refine lv_iconst (v := 0) hx hb dX6_canJoin_140 (by decide) ?_
                refine lv_istore (lv' := [(6, .int (0 : Int32)), (7, .int (nI k80)), (5, .int (cjX (mR M) p 2)), (4, .int (cjX (mR M) p 1)), (3, .int (mSd (mR M) p)), (2, .int (qA ((mR M)) p (3 : Int32))), (0, .ref (r 0)), (1, .int (p))]) hx hb dX6_canJoin_141 hl (by decide) rfl (fun ls hl => ?_)
                refine lv_iinc (v := (nI k80) + 1) (lv' := [(7, .int ((nI k80) + 1)), (6, .int (0 : Int32)), (5, .int (cjX (mR M) p 2)), (4, .int (cjX (mR M) p 1)), (3, .int (mSd (mR M) p)), (2, .int (qA ((mR M)) p (3 : Int32))), (0, .ref (r 0)), (1, .int (p))]) hx hb dX6_canJoin_143 hl (k := 1) rfl rfl (by decide) rfl (fun ls hl => ?_)
                refine lv_goto (tgt := 80) hx hb dX6_canJoin_146 (by decide) ?_
                have e80_7 : (nI (k80 + 1) : Int32) = (nI k80) + 1 := (nI_1 _).symm
                have e80_6 : (bI (cjb (mR M) a f p (k80 + 1)) : Int32) = (0 : Int32) := (by simp [cjb, bI, c_117, c_133])
                have eS80 : uF M (mFo (mR M) f p (mF M) (k80 + 1)) = uF M (upd (mFo (mR M) f p (mF M) k80) (nI k80).toNatClampNeg (mAt ((mR M)) f ((cjX (mR M) p 1) + ((mSd (mR M) p) * ((nI k80) - (nI k80) / (2 : Int32) * (2 : Int32)))) ((cjX (mR M) p 2) + ((mSd (mR M) p) * ((nI k80) / (2 : Int32)))))) := by rfl
                exact ih80 (k80 + 1) (by omega) (by omega) H locs (by rw [eS80]; exact hP) (by rw [eS80]; exact hD) hS _ (by (try rw [e80_7]); (try rw [e80_6]); exact lv_sub hl [0, 1, 2, 3, 4, 5, 6, 7] rfl)
              · have c_133 : (qA ((mR M)) (mJq (mR M) f p k80) (3 : Int32) : Int32) = qA ((mR M)) p (3 : Int32) := c_133
                refine lv_iconst (v := 1) hx hb dX6_canJoin_136 (by decide) ?_
                refine lv_goto (tgt := 141) hx hb dX6_canJoin_137 (by decide) ?_
                refine lv_istore (lv' := [(6, .int (1 : Int32)), (7, .int (nI k80)), (5, .int (cjX (mR M) p 2)), (4, .int (cjX (mR M) p 1)), (3, .int (mSd (mR M) p)), (2, .int (qA ((mR M)) p (3 : Int32))), (0, .ref (r 0)), (1, .int (p))]) hx hb dX6_canJoin_141 hl (by decide) rfl (fun ls hl => ?_)
                refine lv_iinc (v := (nI k80) + 1) (lv' := [(7, .int ((nI k80) + 1)), (6, .int (1 : Int32)), (5, .int (cjX (mR M) p 2)), (4, .int (cjX (mR M) p 1)), (3, .int (mSd (mR M) p)), (2, .int (qA ((mR M)) p (3 : Int32))), (0, .ref (r 0)), (1, .int (p))]) hx hb dX6_canJoin_143 hl (k := 1) rfl rfl (by decide) rfl (fun ls hl => ?_)
                refine lv_goto (tgt := 80) hx hb dX6_canJoin_146 (by decide) ?_
                have e80_7 : (nI (k80 + 1) : Int32) = (nI k80) + 1 := (nI_1 _).symm
                have e80_6 : (bI (cjb (mR M) a f p (k80 + 1)) : Int32) = (1 : Int32) := (by simp [cjb, bI, c_117, c_133])
                have eS80 : uF M (mFo (mR M) f p (mF M) (k80 + 1)) = uF M (upd (mFo (mR M) f p (mF M) k80) (nI k80).toNatClampNeg (mAt ((mR M)) f ((cjX (mR M) p 1) + ((mSd (mR M) p) * ((nI k80) - (nI k80) / (2 : Int32) * (2 : Int32)))) ((cjX (mR M) p 2) + ((mSd (mR M) p) * ((nI k80) / (2 : Int32)))))) := by rfl
                exact ih80 (k80 + 1) (by omega) (by omega) H locs (by rw [eS80]; exact hP) (by rw [eS80]; exact hD) hS _ (by (try rw [e80_7]); (try rw [e80_6]); exact lv_sub hl [0, 1, 2, 3, 4, 5, 6, 7] rfl)
      have e80_7 : (nI 0 : Int32) = (0 : Int32) := rfl
      have e80_6 : (bI (cjb (mR M) a f p 0) : Int32) = (1 : Int32) := (by first | (simp only [cjb, cjc, c_67, decide_true, bI]; done) | simp [cjb, cjc, c_67, bI])
      have eS80 : uF M (mFo (mR M) f p (mF M) 0) = M := by rfl
      exact L80 (4 + 1) (0) (Nat.zero_le _) (by omega) s.heap [] (by rw [eS80]; exact hP) (by rw [eS80]; exact hD) hS _ (by (try rw [e80_7]); (try rw [e80_6]); exact lv_sub hl [0, 1, 2, 3, 4, 5, 6, 7] rfl)
  · have c_8 : (qA ((mR M)) p (3 : Int32) : Int32) = 0 := c_8
    refine lv_iconst (v := 0) hx hb dX6_canJoin_11 (by decide) ?_
    exact z_wiret hx hb hr rfl hlocks hP hS (by (try simp only [hg1]) <;> (simp [cjR, c_8, bI])) (congrArg (fun T => zMod cI r T) (show M = uF M g1 from by (try simp only [hg1]) <;> (simp [cjF, c_8]))) dX6_canJoin_12
set_option maxHeartbeats 1000000 in
set_option maxRecDepth 100000 in
theorem c_X6_joinable (l : Launch) (D : va_G) (cI cQ : ClassId) (r : Nat → Nat) (M : MS) (a : Nat) (f : Nat) (hA : mOk (mR M) a f) (hsc : mSc (mR M)) (g1 : FI) (hg1 : g1 = jbG (mR M) a f f 0 (mF M)) : zWR l yX6_joinable (Cond.code yX6_joinable cX6_joinable 2 (some .int) :: zT) 5 119 [.ref (r 0)] D cI cQ (zMod cI r M) (some (.int (mjbRet (mR M) a f))) (zMod cI r (uF M g1)) := by
  refine zWR.of (cc := cX6_joinable) (maxL := 2) (ret := some .int) (by decide +kernel) rfl (Nat.le_of_ble_eq_true rfl) ?_
  intro pg e s mi args below meth cd hx hb hr hts hown hlocks hml hP hD hS hK ls hl
  have hz : ∀ w ∈ zT, w.before args s = true := fun w h => hts w (List.mem_cons_of_mem _ h)
  have hl : lv_has ls 2 [(0, .ref (r 0))] := hl
  refine lv_iconst (v := 0) hx hb dX6_joinable_0 (by decide) ?_
  refine lv_istore_n (lv' := [(1, .int (0 : Int32)), (0, .ref (r 0))]) hx hb dX6_joinable_1 rfl hl (by decide) rfl (fun ls hl => ?_)
  have L2 : ∀ (n2 k2 : Nat), k2 ≤ f → f < k2 + n2 → (mjbRet (mR M) a f = fnd (jbB (mR M) a f) (f - k2) k2) → (jbG (mR M) a f f 0 (mF M) = jbG (mR M) a f (f - k2) k2 (jlF (mR M) f (mF M) k2)) → ∀ (H : Heap) (locs : List Loc), va_P D vwCl (zMod cI r (uF M (jlF (mR M) f (mF M) k2))) H → va_D (zA (zMod cI r M)) (zMod cI r (uF M (jlF (mR M) f (mF M) k2))) → va_S (zA (zMod cI r M)) s.heap H locs → ∀ (ls : Array Slot), lv_has ls 2 [(1, .int (nI k2)), (0, .ref (r 0))] → W pg l e ({ frames := 5, cells := 0, slots := 0, locals := 119 }) s mi args below meth cd H locs 0 0 (MQ below (zQ D (zMod cI r M) (some (.int (mjbRet (mR M) a f))) (zMod cI r (uF M g1))) args s 0 0 (zA (zMod cI r M))) (F0 mi 2 ls []) := by
    intro n2
    induction n2 with
    | zero => intro k2 h1 h2; exact absurd h2 (by omega)
    | succ n2 ih2 =>
      intro k2 h1_2 h2_2 he hf H locs hP hD hS ls hl
      refine lv_iload_n hx hb dX6_joinable_2 rfl (lv_at hl 0 rfl) ?_
      refine lv_aload_n hx hb dX6_joinable_3 rfl (lv_at hl 1 rfl) ?_
      refine va_get (D := D) (ci := 6) (v := .ref (r 1)) (C := RX6) (T := TX6) (N := 3) hx hb hz inZ6 hown hK.1 hP 0 rfl rfl 0 (by decide) (hz _ q3_88) (fun _ h9 => h9) rfl dX6_joinable_4 ?_
      refine lv_iconst (v := 3) hx hb dX6_joinable_7 (by decide) ?_
      refine va_iald (f := mR M) hx hb hK.1 hP 1 0 rfl rfl (i := (3 : Int32)) (z_inC (by decide) (by decide)) dX6_joinable_8 ?_
      refine lv_icmp_ge (tgt := 36) hx hb dX6_joinable_9 (by decide) (fun c_9 => ?_) (fun c_9 => ?_)
      · have c_9 : ((mR M) 3 : Int32) ≤ nI k2 := c_9
        rw [hA.2.2.2.1] at c_9
        have hk_2 : k2 = f := z_exit (by have := hA.2.1; omega) h1_2 c_9
        refine lv_bipush (v := (-9)) hx hb dX6_joinable_36 (by decide) ?_
        exact z_wiret hx hb hr rfl hlocks hP hS (by (try simp only [hg1]) <;> (rw [he, hk_2, Nat.sub_self]; rfl)) (congrArg (fun T => zMod cI r T) (show uF M (jlF (mR M) f (mF M) k2) = uF M g1 from by (try simp only [hg1]) <;> (rw [hf, hk_2, Nat.sub_self]; rfl))) dX6_joinable_38
      · have c_9 : ¬ (((mR M) 3 : Int32) ≤ nI k2) := c_9
        rw [hA.2.2.2.1] at c_9
        have hk_2 : k2 < f := z_cont (by have := hA.2.1; omega) h1_2 c_9
        refine lv_aload_n hx hb dX6_joinable_12 rfl (lv_at hl 1 rfl) ?_
        refine lv_iload_n hx hb dX6_joinable_13 rfl (lv_at hl 0 rfl) ?_
        refine z_ro (va_runV (As := [.int (nI k2)]) (rest := []) ⟨hx, hb, hml, hown, hz⟩ (c_X6_isParish l D cI cQ r (uF M (jlF (mR M) f (mF M) k2)) (nI k2) (a) (f) (hA)) (zcwV 1 hz q3_124 q3_126 qs_16 q1_7 q3_127 hd_X6_isParish (Nat.le_of_ble_eq_true rfl) (Nat.le_of_ble_eq_true rfl)) (z_pv (ci := 6) (q := (RX6, TX6, 3)) hK hP rfl rfl) rfl rfl hl.1 rfl (lv_room (Nat.le_of_ble_eq_true rfl)) dX6_joinable_14 ⟨(Nat.le_of_ble_eq_true rfl), (Nat.le_of_ble_eq_true rfl)⟩) ?_
        refine lv_if_eq (tgt := 30) hx hb dX6_joinable_17 (by decide) (fun c_17 => ?_) (fun c_17 => ?_)
        · have c_17 : (iR ((mR M)) (nI k2)) = false := bI_f c_17
          refine lv_iinc (v := (nI k2) + 1) (lv' := [(1, .int ((nI k2) + 1)), (0, .ref (r 0))]) hx hb dX6_joinable_30 hl (k := 0) rfl rfl (by decide) rfl (fun ls hl => ?_)
          refine lv_goto (tgt := 2) hx hb dX6_joinable_33 (by decide) ?_
          have e2_1 : (nI (k2 + 1) : Int32) = (nI k2) + 1 := (nI_1 _).symm
          have eS2 : uF M (jlF (mR M) f (mF M) (k2 + 1)) = uF M (jlF (mR M) f (mF M) k2) := by first | rw [jlF, if_pos c_17] | rw [jlF, if_neg (by rw [c_17]; decide)]
          exact ih2 (k2 + 1) (by omega) (by omega) (he.trans (fnd_no hk_2 (by simp [jbB, c_17]))) (by rw [hf, jbG_1 hk_2 c_17, jlF, if_neg (by rw [c_17]; decide)]) H locs (by rw [eS2]; exact hP) (by rw [eS2]; exact hD) hS _ (by (try rw [e2_1]); exact lv_sub hl [0, 1] rfl)
        · have c_17 : (iR ((mR M)) (nI k2)) = true := bI_t c_17
          refine lv_aload_n hx hb dX6_joinable_20 rfl (lv_at hl 1 rfl) ?_
          refine lv_iload_n hx hb dX6_joinable_21 rfl (lv_at hl 0 rfl) ?_
          obtain ⟨g_1, hg_1⟩ : ∃ z : FI, z = cjF ((mR M)) f (nI k2) ((jlF (mR M) f (mF M) k2)) := ⟨_, rfl⟩
          refine z_wi (X' := zMod cI r (uF M g_1)) (va_runV (As := [.int (nI k2)]) (rest := []) ⟨hx, hb, hml, hown, hz⟩ (c_X6_canJoin l D cI cQ r (uF M (jlF (mR M) f (mF M) k2)) (nI k2) (a) (f) (hA) (iR_in hA c_17) (hsc (nI k2) c_17) g_1 hg_1) (zcwV 1 hz q3_220 q3_222 qs_34 q1_7 q3_223 hd_X6_canJoin (Nat.le_of_ble_eq_true rfl) (Nat.le_of_ble_eq_true rfl)) (z_pvw (ci := 6) (q := (RX6, TX6, 3)) hK hP hD rfl rfl) rfl rfl hl.1 rfl (lv_room (Nat.le_of_ble_eq_true rfl)) dX6_joinable_22 ⟨(Nat.le_of_ble_eq_true rfl), (Nat.le_of_ble_eq_true rfl)⟩) hP hD hS [0, 1, 2] rfl rfl rfl (fun H locs hP hD hS => ?_)
          refine lv_if_eq (tgt := 30) hx hb dX6_joinable_25 (by decide) (fun c_25 => ?_) (fun c_25 => ?_)
          · have c_25 : (cjR ((mR M)) a f (nI k2)) = false := bI_f c_25
            refine lv_iinc (v := (nI k2) + 1) (lv' := [(1, .int ((nI k2) + 1)), (0, .ref (r 0))]) hx hb dX6_joinable_30 hl (k := 0) rfl rfl (by decide) rfl (fun ls hl => ?_)
            refine lv_goto (tgt := 2) hx hb dX6_joinable_33 (by decide) ?_
            have e2_1 : (nI (k2 + 1) : Int32) = (nI k2) + 1 := (nI_1 _).symm
            have eS2 : uF M (jlF (mR M) f (mF M) (k2 + 1)) = uF M g_1 := by (try simp only [hg_1]) <;> (first | rw [jlF, if_pos c_17] | rw [jlF, if_neg (by rw [c_17]; decide)])
            exact ih2 (k2 + 1) (by omega) (by omega) (he.trans (fnd_no hk_2 (by simp [jbB, c_17, c_25]))) (by rw [hf, jbG_2 hk_2 c_17 c_25, jlF, if_pos c_17]) H locs (by rw [eS2]; exact hP) (by rw [eS2]; exact hD) hS _ (by (try rw [e2_1]); exact lv_sub hl [0, 1] rfl)
          · have c_25 : (cjR ((mR M)) a f (nI k2)) = true := bI_t c_25
            refine lv_iload_n hx hb dX6_joinable_28 rfl (lv_at hl 0 rfl) ?_
            exact z_wiret hx hb hr rfl hlocks hP hS (by (try simp only [hg_1, hg1]) <;> (exact (he.trans (fnd_yes hk_2 (by simp [jbB, c_17, c_25]))).symm)) (congrArg (fun T => zMod cI r T) (show uF M g_1 = uF M g1 from by (try simp only [hg_1, hg1]) <;> (rw [hf, jbG_3 hk_2 c_17 c_25]))) dX6_joinable_29
  have e2_1 : (nI 0 : Int32) = (0 : Int32) := rfl
  have eS2 : uF M (jlF (mR M) f (mF M) 0) = M := by rfl
  exact L2 (f + 1) (0) (Nat.zero_le _) (by omega) (rfl) (rfl) s.heap [] (by rw [eS2]; exact hP) (by rw [eS2]; exact hD) hS _ (by (try rw [e2_1]); exact lv_sub hl [0, 1] rfl)
set_option maxHeartbeats 1000000 in
set_option maxRecDepth 100000 in
theorem c_X6_join (l : Launch) (D : va_G) (cI cQ : ClassId) (r : Nat → Nat) (M : MS) (p : Int32) (a : Nat) (f : Nat) (hA : mOk (mR M) a f) (n : Nat) (hn : n ≤ 5) (hK5 : mK M = nI n) (hsc : mSc (mR M)) (hmj : iR (mR M) p = true → cjR (mR M) a f p = true → ∀ k, k < 4 → vp_in (mJq (mR M) f p k) 100) (g1 : FI) (hg1 : g1 = if iR (mR M) p = true ∧ cjR (mR M) a f p = true then mjNew (mR M) (mK M) a f p (mF M) else mR M) (g2 : Int32) (hg2 : g2 = if iR (mR M) p = true ∧ cjR (mR M) a f p = true then recK (mK M) else mK M) (g3 : FI) (hg3 : g3 = if iR (mR M) p = true then cjF (mR M) f p (mF M) else mF M) : zWR l yX6_join (Cond.code yX6_join cX6_join 4 (some .int) :: zT) 7 171 [.ref (r 0), .int p] D cI cQ (zMod cI r M) (some (.int (mjRet (mR M) a f p (mF M)))) (zMod cI r (uF (uK (uR M g1) g2) g3)) := by
  refine zWR.of (cc := cX6_join) (maxL := 4) (ret := some .int) (by decide +kernel) rfl (Nat.le_of_ble_eq_true rfl) ?_
  intro pg e s mi args below meth cd hx hb hr hts hown hlocks hml hP hD hS hK ls hl
  have hz : ∀ w ∈ zT, w.before args s = true := fun w h => hts w (List.mem_cons_of_mem _ h)
  have hl : lv_has ls 4 [(0, .ref (r 0)), (1, .int (p))] := hl
  refine lv_aload_n hx hb dX6_join_0 rfl (lv_at hl 0 rfl) ?_
  refine lv_iload_n hx hb dX6_join_1 rfl (lv_at hl 1 rfl) ?_
  refine z_ro (va_runV (As := [.int (p)]) (rest := []) ⟨hx, hb, hml, hown, hz⟩ (c_X6_isParish l D cI cQ r M p (a) (f) (hA)) (zcwV 1 hz q3_124 q3_126 qs_16 q1_7 q3_127 hd_X6_isParish (Nat.le_of_ble_eq_true rfl) (Nat.le_of_ble_eq_true rfl)) (z_pv (ci := 6) (q := (RX6, TX6, 3)) hK hP rfl rfl) rfl rfl hl.1 rfl (lv_room (Nat.le_of_ble_eq_true rfl)) dX6_join_2 ⟨(Nat.le_of_ble_eq_true rfl), (Nat.le_of_ble_eq_true rfl)⟩) ?_
  refine lv_if_ne (tgt := 10) hx hb dX6_join_5 (by decide) (fun c_5 => ?_) (fun c_5 => ?_)
  · have c_5 : (iR ((mR M)) p) = true := bI_t c_5
    refine lv_aload_n hx hb dX6_join_10 rfl (lv_at hl 0 rfl) ?_
    refine lv_iload_n hx hb dX6_join_11 rfl (lv_at hl 1 rfl) ?_
    obtain ⟨g_1, hg_1⟩ : ∃ z : FI, z = cjF ((mR M)) f p ((mF M)) := ⟨_, rfl⟩
    refine z_wi (X' := zMod cI r (uF M g_1)) (va_runV (As := [.int (p)]) (rest := []) ⟨hx, hb, hml, hown, hz⟩ (c_X6_canJoin l D cI cQ r M p (a) (f) (hA) (iR_in hA c_5) (hsc p c_5) g_1 hg_1) (zcwV 1 hz q3_220 q3_222 qs_34 q1_7 q3_223 hd_X6_canJoin (Nat.le_of_ble_eq_true rfl) (Nat.le_of_ble_eq_true rfl)) (z_pvw (ci := 6) (q := (RX6, TX6, 3)) hK hP hD rfl rfl) rfl rfl hl.1 rfl (lv_room (Nat.le_of_ble_eq_true rfl)) dX6_join_12 ⟨(Nat.le_of_ble_eq_true rfl), (Nat.le_of_ble_eq_true rfl)⟩) hP hD hS [0, 1, 2] rfl rfl rfl (fun H locs hP hD hS => ?_)
    refine lv_if_ne (tgt := 21) hx hb dX6_join_15 (by decide) (fun c_15 => ?_) (fun c_15 => ?_)
    · have c_15 : (cjR ((mR M)) a f p) = true := bI_t c_15
      refine lv_aload_n hx hb dX6_join_21 rfl (lv_at hl 0 rfl) ?_
      obtain ⟨g_2, hg_2⟩ : ∃ z : FI, z = recR ((mR M)) ((mK M)) := ⟨_, rfl⟩
      obtain ⟨g_3, hg_3⟩ : ∃ z : Int32, z = recK ((mK M)) := ⟨_, rfl⟩
      refine z_wv (X' := zMod cI r (uK (uR (uF M g_1) g_2) g_3)) (va_runV (As := []) (rest := []) ⟨hx, hb, hml, hown, hz⟩ (c_X6_records l D cI cQ r (uF M g_1) (n) (hn) (hK5) g_2 hg_2 g_3 hg_3) (zcwV 0 hz q3_108 q3_110 qs_12 q1_7 q3_111 hd_X6_records (Nat.le_of_ble_eq_true rfl) (Nat.le_of_ble_eq_true rfl)) (z_pvw (ci := 6) (q := (RX6, TX6, 3)) hK hP hD rfl rfl) rfl rfl hl.1 rfl (lv_room (Nat.le_of_ble_eq_true rfl)) dX6_join_22 ⟨(Nat.le_of_ble_eq_true rfl), (Nat.le_of_ble_eq_true rfl)⟩) hP hD hS [0, 1, 2] rfl rfl rfl (fun H locs hP hD hS => ?_)
      have hR5 : mOk g_2 a f := by rw [hg_2]; exact mOk_rec hA hn hK5
      have hF : ∀ k, k < 4 → vp_in (g_1 (nI k).toNatClampNeg) 100 := by rw [hg_1]; exact cjF_in c_15 (hmj c_5 c_15)
      have h0 : vp_in (g_1 0) 100 := hF 0 (by omega)
      have hq : vp_in (jqm g_1 4) 100 := jqm_in hF 4 (by omega)
      refine lv_aload_n hx hb dX6_join_25 rfl (lv_at hl 0 rfl) ?_
      refine va_get (D := D) (ci := 6) (v := .ref (r 2)) (C := RX6) (T := TX6) (N := 3) hx hb hz inZ6 hown hK.1 hP 0 rfl rfl 2 (by decide) (hz _ q3_90) (fun _ h9 => h9) rfl dX6_join_26 ?_
      refine lv_iconst (v := 0) hx hb dX6_join_29 (by decide) ?_
      refine va_iald (f := g_1) hx hb hK.1 hP 2 0 rfl rfl (i := (0 : Int32)) (z_inC (by decide) (by decide)) dX6_join_30 ?_
      refine lv_istore_n (lv' := [(2, .int (g_1 0)), (0, .ref (r 0)), (1, .int (p))]) hx hb dX6_join_31 rfl hl (by decide) rfl (fun ls hl => ?_)
      refine lv_iconst (v := 1) hx hb dX6_join_32 (by decide) ?_
      refine lv_istore_n (lv' := [(3, .int (1 : Int32)), (2, .int (g_1 0)), (0, .ref (r 0)), (1, .int (p))]) hx hb dX6_join_33 rfl hl (by decide) rfl (fun ls hl => ?_)
      have L34 : ∀ (n34 k34 : Nat), k34 ≤ 4 → 4 < k34 + n34 → ∀ (ls : Array Slot), lv_has ls 4 [(3, .int (nI k34)), (2, .int (jqm g_1 k34)), (0, .ref (r 0)), (1, .int (p))] → W pg l e ({ frames := 7, cells := 0, slots := 0, locals := 171 }) s mi args below meth cd H locs 0 0 (MQ below (zQ D (zMod cI r M) (some (.int (mjRet (mR M) a f p (mF M)))) (zMod cI r (uF (uK (uR M g1) g2) g3))) args s 0 0 (zA (zMod cI r M))) (F0 mi 34 ls []) := by
        intro n34
        induction n34 with
        | zero => intro k34 h1 h2; exact absurd h2 (by omega)
        | succ n34 ih34 =>
          intro k34 h1_34 h2_34  ls hl
          refine lv_iload_n hx hb dX6_join_34 rfl (lv_at hl 0 rfl) ?_
          refine lv_iconst (v := 4) hx hb dX6_join_35 (by decide) ?_
          refine lv_icmp_ge (tgt := 66) hx hb dX6_join_36 (by decide) (fun c_36 => ?_) (fun c_36 => ?_)
          · have c_36 : ((4 : Int32) : Int32) ≤ nI k34 := c_36
            have hk_34 : k34 = 4 := z_exit (by decide) h1_34 c_36
            subst hk_34
            refine lv_aload_n hx hb dX6_join_66 rfl (lv_at hl 2 rfl) ?_
            refine lv_iload_n hx hb dX6_join_67 rfl (lv_at hl 1 rfl) ?_
            refine lv_aload_n hx hb dX6_join_68 rfl (lv_at hl 2 rfl) ?_
            refine lv_aload_n hx hb dX6_join_69 rfl (lv_at hl 2 rfl) ?_
            refine va_get (D := D) (ci := 6) (v := .ref (r 2)) (C := RX6) (T := TX6) (N := 3) hx hb hz inZ6 hown hK.1 hP 0 rfl rfl 2 (by decide) (hz _ q3_90) (fun _ h9 => h9) rfl dX6_join_70 ?_
            refine lv_iconst (v := 0) hx hb dX6_join_73 (by decide) ?_
            refine va_iald (f := g_1) hx hb hK.1 hP 2 0 rfl rfl (i := (0 : Int32)) (z_inC (by decide) (by decide)) dX6_join_74 ?_
            refine lv_iconst (v := 1) hx hb dX6_join_75 (by decide) ?_
            refine z_ro (va_runV (As := [.int (g_1 0), .int (1 : Int32)]) (rest := [.int (jqm g_1 4), .ref (r 0)]) ⟨hx, hb, hml, hown, hz⟩ (c_X6_ofParish l D cI cQ r (uK (uR (uF M g_1) g_2) g_3) (g_1 0) (1 : Int32) (ix2 (Or.inl h0) (z_inC (by decide) (by decide)))) (zcwV 2 hz q3_120 q3_122 qs_15 q1_7 q3_123 hd_X6_ofParish (Nat.le_of_ble_eq_true rfl) (Nat.le_of_ble_eq_true rfl)) (z_pv (ci := 6) (q := (RX6, TX6, 3)) hK hP rfl rfl) rfl rfl hl.1 rfl (lv_room (Nat.le_of_ble_eq_true rfl)) dX6_join_76 ⟨(Nat.le_of_ble_eq_true rfl), (Nat.le_of_ble_eq_true rfl)⟩) ?_
            refine lv_aload_n hx hb dX6_join_79 rfl (lv_at hl 2 rfl) ?_
            refine lv_aload_n hx hb dX6_join_80 rfl (lv_at hl 2 rfl) ?_
            refine va_get (D := D) (ci := 6) (v := .ref (r 2)) (C := RX6) (T := TX6) (N := 3) hx hb hz inZ6 hown hK.1 hP 0 rfl rfl 2 (by decide) (hz _ q3_90) (fun _ h9 => h9) rfl dX6_join_81 ?_
            refine lv_iconst (v := 0) hx hb dX6_join_84 (by decide) ?_
            refine va_iald (f := g_1) hx hb hK.1 hP 2 0 rfl rfl (i := (0 : Int32)) (z_inC (by decide) (by decide)) dX6_join_85 ?_
            refine lv_iconst (v := 2) hx hb dX6_join_86 (by decide) ?_
            refine z_ro (va_runV (As := [.int (g_1 0), .int (2 : Int32)]) (rest := [.int (qA (g_2) (g_1 0) (1 : Int32)), .int (jqm g_1 4), .ref (r 0)]) ⟨hx, hb, hml, hown, hz⟩ (c_X6_ofParish l D cI cQ r (uK (uR (uF M g_1) g_2) g_3) (g_1 0) (2 : Int32) (ix2 (Or.inl h0) (z_inC (by decide) (by decide)))) (zcwV 2 hz q3_120 q3_122 qs_15 q1_7 q3_123 hd_X6_ofParish (Nat.le_of_ble_eq_true rfl) (Nat.le_of_ble_eq_true rfl)) (z_pv (ci := 6) (q := (RX6, TX6, 3)) hK hP rfl rfl) rfl rfl hl.1 rfl (lv_room (Nat.le_of_ble_eq_true rfl)) dX6_join_87 ⟨(Nat.le_of_ble_eq_true rfl), (Nat.le_of_ble_eq_true rfl)⟩) ?_
            refine lv_aload_n hx hb dX6_join_90 rfl (lv_at hl 2 rfl) ?_
            refine lv_aload_n hx hb dX6_join_91 rfl (lv_at hl 2 rfl) ?_
            refine va_get (D := D) (ci := 6) (v := .ref (r 2)) (C := RX6) (T := TX6) (N := 3) hx hb hz inZ6 hown hK.1 hP 0 rfl rfl 2 (by decide) (hz _ q3_90) (fun _ h9 => h9) rfl dX6_join_92 ?_
            refine lv_iconst (v := 0) hx hb dX6_join_95 (by decide) ?_
            refine va_iald (f := g_1) hx hb hK.1 hP 2 0 rfl rfl (i := (0 : Int32)) (z_inC (by decide) (by decide)) dX6_join_96 ?_
            refine lv_iconst (v := 3) hx hb dX6_join_97 (by decide) ?_
            refine z_ro (va_runV (As := [.int (g_1 0), .int (3 : Int32)]) (rest := [.int (qA (g_2) (g_1 0) (2 : Int32)), .int (qA (g_2) (g_1 0) (1 : Int32)), .int (jqm g_1 4), .ref (r 0)]) ⟨hx, hb, hml, hown, hz⟩ (c_X6_ofParish l D cI cQ r (uK (uR (uF M g_1) g_2) g_3) (g_1 0) (3 : Int32) (ix2 (Or.inl h0) (z_inC (by decide) (by decide)))) (zcwV 2 hz q3_120 q3_122 qs_15 q1_7 q3_123 hd_X6_ofParish (Nat.le_of_ble_eq_true rfl) (Nat.le_of_ble_eq_true rfl)) (z_pv (ci := 6) (q := (RX6, TX6, 3)) hK hP rfl rfl) rfl rfl hl.1 rfl (lv_room (Nat.le_of_ble_eq_true rfl)) dX6_join_98 ⟨(Nat.le_of_ble_eq_true rfl), (Nat.le_of_ble_eq_true rfl)⟩) ?_
            refine lv_iconst (v := 1) hx hb dX6_join_101 (by decide) ?_
            refine lv_isub hx hb dX6_join_102 ?_
            obtain ⟨g_4, hg_4⟩ : ∃ z : FI, z = sPa (g_2) (jqm g_1 4) (qA (g_2) (g_1 0) (1 : Int32)) (qA (g_2) (g_1 0) (2 : Int32)) ((qA (g_2) (g_1 0) (3 : Int32)) - (1 : Int32)) := ⟨_, rfl⟩
            refine z_wv (X' := zMod cI r (uR (uK (uR (uF M g_1) g_2) g_3) g_4)) (va_runV (As := [.int (jqm g_1 4), .int (qA (g_2) (g_1 0) (1 : Int32)), .int (qA (g_2) (g_1 0) (2 : Int32)), .int ((qA (g_2) (g_1 0) (3 : Int32)) - (1 : Int32))]) (rest := []) ⟨hx, hb, hml, hown, hz⟩ (c_X6_setParish l D cI cQ r (uK (uR (uF M g_1) g_2) g_3) (jqm g_1 4) (qA (g_2) (g_1 0) (1 : Int32)) (qA (g_2) (g_1 0) (2 : Int32)) ((qA (g_2) (g_1 0) (3 : Int32)) - (1 : Int32)) (hq) g_4 hg_4) (zcwV 4 hz q3_168 q3_170 qs_27 q1_7 q3_171 hd_X6_setParish (Nat.le_of_ble_eq_true rfl) (Nat.le_of_ble_eq_true rfl)) (z_pvw (ci := 6) (q := (RX6, TX6, 3)) hK hP hD rfl rfl) rfl rfl hl.1 rfl (lv_room (Nat.le_of_ble_eq_true rfl)) dX6_join_103 ⟨(Nat.le_of_ble_eq_true rfl), (Nat.le_of_ble_eq_true rfl)⟩) hP hD hS [0, 1, 2] rfl rfl rfl (fun H locs hP hD hS => ?_)
            have hR6 : mOk g_4 a f := by rw [hg_4]; exact mOk_sPa hR5 hq
            refine lv_iconst (v := 0) hx hb dX6_join_106 (by decide) ?_
            refine lv_istore_n (lv' := [(3, .int (0 : Int32)), (2, .int (jqm g_1 4)), (0, .ref (r 0)), (1, .int (p))]) hx hb dX6_join_107 rfl hl (by decide) rfl (fun ls hl => ?_)
            have L108 : ∀ (n108 k108 : Nat), k108 ≤ 4 → 4 < k108 + n108 → ∀ (H : Heap) (locs : List Loc), va_P D vwCl (zMod cI r (uK (uR (uF M g_1) (jnK g_4 g_1 a (jqm g_1 4) k108)) g_3)) H → va_D (zA (zMod cI r M)) (zMod cI r (uK (uR (uF M g_1) (jnK g_4 g_1 a (jqm g_1 4) k108)) g_3)) → va_S (zA (zMod cI r M)) s.heap H locs → ∀ (ls : Array Slot), lv_has ls 4 [(3, .int (nI k108)), (2, .int (jqm g_1 4)), (0, .ref (r 0)), (1, .int (p))] → W pg l e ({ frames := 7, cells := 0, slots := 0, locals := 171 }) s mi args below meth cd H locs 0 0 (MQ below (zQ D (zMod cI r M) (some (.int (mjRet (mR M) a f p (mF M)))) (zMod cI r (uF (uK (uR M g1) g2) g3))) args s 0 0 (zA (zMod cI r M))) (F0 mi 108 ls []) := by
              intro n108
              induction n108 with
              | zero => intro k108 h1 h2; exact absurd h2 (by omega)
              | succ n108 ih108 =>
                intro k108 h1_108 h2_108  H locs hP hD hS ls hl
                refine lv_iload_n hx hb dX6_join_108 rfl (lv_at hl 0 rfl) ?_
                refine lv_iconst (v := 4) hx hb dX6_join_109 (by decide) ?_
                refine lv_icmp_ge (tgt := 140) hx hb dX6_join_110 (by decide) (fun c_110 => ?_) (fun c_110 => ?_)
                · have c_110 : ((4 : Int32) : Int32) ≤ nI k108 := c_110
                  have hk_108 : k108 = 4 := z_exit (by decide) h1_108 c_110
                  have hO : mOk (jnK g_4 g_1 a (jqm g_1 4) k108) a f := mOk_jnK hR6 hF hq k108 (by omega)
                  refine lv_aload_n hx hb dX6_join_140 rfl (lv_at hl 2 rfl) ?_
                  refine lv_iload_n hx hb dX6_join_141 rfl (lv_at hl 1 rfl) ?_
                  refine lv_iload_n hx hb dX6_join_142 rfl (lv_at hl 1 rfl) ?_
                  refine lv_aload_n hx hb dX6_join_143 rfl (lv_at hl 2 rfl) ?_
                  refine lv_iload_n hx hb dX6_join_144 rfl (lv_at hl 1 rfl) ?_
                  refine lv_iload_n hx hb dX6_join_145 rfl (lv_at hl 1 rfl) ?_
                  refine z_ro (va_runV (As := [.int (jqm g_1 4), .int (jqm g_1 4)]) (rest := [.int (jqm g_1 4), .int (jqm g_1 4), .ref (r 0)]) ⟨hx, hb, hml, hown, hz⟩ (c_X6_debtOf l D cI cQ r (uK (uR (uF M g_1) (jnK g_4 g_1 a (jqm g_1 4) k108)) g_3) (jqm g_1 4) (jqm g_1 4) (ix3 hq hq)) (zcwV 2 hz q3_212 q3_214 qs_33 q1_7 q3_215 hd_X6_debtOf (Nat.le_of_ble_eq_true rfl) (Nat.le_of_ble_eq_true rfl)) (z_pv (ci := 6) (q := (RX6, TX6, 3)) hK hP rfl rfl) rfl rfl hl.1 rfl (lv_room (Nat.le_of_ble_eq_true rfl)) dX6_join_146 ⟨(Nat.le_of_ble_eq_true rfl), (Nat.le_of_ble_eq_true rfl)⟩) ?_
                  refine lv_ineg hx hb dX6_join_149 ?_
                  obtain ⟨g_5, hg_5⟩ : ∃ z : FI, z = oW ((jnK g_4 g_1 a (jqm g_1 4) k108)) (jqm g_1 4) (jqm g_1 4) (-(dO ((jnK g_4 g_1 a (jqm g_1 4) k108)) (jqm g_1 4) (jqm g_1 4))) := ⟨_, rfl⟩
                  refine z_wv (X' := zMod cI r (uR (uK (uR (uF M g_1) (jnK g_4 g_1 a (jqm g_1 4) k108)) g_3) g_5)) (va_runV (As := [.int (jqm g_1 4), .int (jqm g_1 4), .int (-(dO ((jnK g_4 g_1 a (jqm g_1 4) k108)) (jqm g_1 4) (jqm g_1 4)))]) (rest := []) ⟨hx, hb, hml, hown, hz⟩ (c_X6_owes l D cI cQ r (uK (uR (uF M g_1) (jnK g_4 g_1 a (jqm g_1 4) k108)) g_3) (jqm g_1 4) (jqm g_1 4) (-(dO ((jnK g_4 g_1 a (jqm g_1 4) k108)) (jqm g_1 4) (jqm g_1 4))) (ix3 hq hq) g_5 hg_5) (zcwV 3 hz q3_176 q3_178 qs_29 q1_7 q3_179 hd_X6_owes (Nat.le_of_ble_eq_true rfl) (Nat.le_of_ble_eq_true rfl)) (z_pvw (ci := 6) (q := (RX6, TX6, 3)) hK hP hD rfl rfl) rfl rfl hl.1 rfl (lv_room (Nat.le_of_ble_eq_true rfl)) dX6_join_150 ⟨(Nat.le_of_ble_eq_true rfl), (Nat.le_of_ble_eq_true rfl)⟩) hP hD hS [0, 1, 2] rfl rfl rfl (fun H locs hP hD hS => ?_)
                  refine lv_aload_n hx hb dX6_join_153 rfl (lv_at hl 2 rfl) ?_
                  obtain ⟨g_6, hg_6⟩ : ∃ z : FI, z = stG a 40 (g_5) := ⟨_, rfl⟩
                  refine z_wv (X' := zMod cI r (uR (uK (uR (uF M g_1) (jnK g_4 g_1 a (jqm g_1 4) k108)) g_3) g_6)) (va_runV (As := []) (rest := []) ⟨hx, hb, hml, hown, hz⟩ (c_X6_settles l D cI cQ r (uR (uK (uR (uF M g_1) (jnK g_4 g_1 a (jqm g_1 4) k108)) g_3) g_5) (a) (f) (by rw [hg_5]; exact mOk_oW hO hq hq) g_6 hg_6) (zcwV 0 hz q3_136 q3_138 qs_19 q1_7 q3_139 hd_X6_settles (Nat.le_of_ble_eq_true rfl) (Nat.le_of_ble_eq_true rfl)) (z_pvw (ci := 6) (q := (RX6, TX6, 3)) hK hP hD rfl rfl) rfl rfl hl.1 rfl (lv_room (Nat.le_of_ble_eq_true rfl)) dX6_join_154 ⟨(Nat.le_of_ble_eq_true rfl), (Nat.le_of_ble_eq_true rfl)⟩) hP hD hS [0, 1, 2] rfl rfl rfl (fun H locs hP hD hS => ?_)
                  refine lv_iload_n hx hb dX6_join_157 rfl (lv_at hl 1 rfl) ?_
                  exact z_wiret hx hb hr rfl hlocks hP hS (by rw [mjRet, if_pos c_5, if_pos c_15, ← hg_1]) (congrArg (fun T => zMod cI r T) (show uR (uK (uR (uF M g_1) (jnK g_4 g_1 a (jqm g_1 4) k108)) g_3) g_6 = uF (uK (uR M g1) g2) g3 from by rw [hg1, hg2, hg3, if_pos ⟨c_5, c_15⟩, if_pos ⟨c_5, c_15⟩, if_pos c_5, mjNew, ← hg_1, ← hg_2, ← hg_3, jo_eq hk_108 hg_4 rfl hg_5 hg_6])) dX6_join_158
                · have c_110 : ¬ (((4 : Int32) : Int32) ≤ nI k108) := c_110
                  have hk_108 : k108 < 4 := z_cont (by decide) h1_108 c_110
                  have hO : mOk (jnK g_4 g_1 a (jqm g_1 4) k108) a f := mOk_jnK hR6 hF hq k108 (by omega)
                  refine lv_aload_n hx hb dX6_join_113 rfl (lv_at hl 2 rfl) ?_
                  refine va_get (D := D) (ci := 6) (v := .ref (r 2)) (C := RX6) (T := TX6) (N := 3) hx hb hz inZ6 hown hK.1 hP 0 rfl rfl 2 (by decide) (hz _ q3_90) (fun _ h9 => h9) rfl dX6_join_114 ?_
                  refine lv_iload_n hx hb dX6_join_117 rfl (lv_at hl 0 rfl) ?_
                  refine va_iald (f := g_1) hx hb hK.1 hP 2 0 rfl rfl (i := nI k108) (vp_in_nI (by omega) (by decide)) dX6_join_118 ?_
                  refine lv_iload_n hx hb dX6_join_119 rfl (lv_at hl 1 rfl) ?_
                  refine lv_icmp_eq (tgt := 134) hx hb dX6_join_120 (by decide) (fun c_120 => ?_) (fun c_120 => ?_)
                  · have c_120 : (g_1 (nI k108).toNatClampNeg : Int32) = jqm g_1 4 := c_120
                    refine lv_iinc (v := (nI k108) + 1) (lv' := [(3, .int ((nI k108) + 1)), (2, .int (jqm g_1 4)), (0, .ref (r 0)), (1, .int (p))]) hx hb dX6_join_134 hl (k := 0) rfl rfl (by decide) rfl (fun ls hl => ?_)
                    refine lv_goto (tgt := 108) hx hb dX6_join_137 (by decide) ?_
                    have e108_3 : (nI (k108 + 1) : Int32) = (nI k108) + 1 := (nI_1 _).symm
                    have eS108 : uK (uR (uF M g_1) (jnK g_4 g_1 a (jqm g_1 4) (k108 + 1))) g_3 = uK (uR (uF M g_1) (jnK g_4 g_1 a (jqm g_1 4) k108)) g_3 := by first | (rw [jnK, if_pos c_120]; done) | rw [jnK, if_neg c_120, hg_7]
                    exact ih108 (k108 + 1) (by omega) (by omega) H locs (by rw [eS108]; exact hP) (by rw [eS108]; exact hD) hS _ (by (try rw [e108_3]); exact lv_sub hl [0, 1, 2, 3] rfl)
                  · have c_120 : ¬ ((g_1 (nI k108).toNatClampNeg : Int32) = jqm g_1 4) := c_120
                    refine lv_aload_n hx hb dX6_join_123 rfl (lv_at hl 2 rfl) ?_
                    refine lv_aload_n hx hb dX6_join_124 rfl (lv_at hl 2 rfl) ?_
                    refine va_get (D := D) (ci := 6) (v := .ref (r 2)) (C := RX6) (T := TX6) (N := 3) hx hb hz inZ6 hown hK.1 hP 0 rfl rfl 2 (by decide) (hz _ q3_90) (fun _ h9 => h9) rfl dX6_join_125 ?_
                    refine lv_iload_n hx hb dX6_join_128 rfl (lv_at hl 0 rfl) ?_
                    refine va_iald (f := g_1) hx hb hK.1 hP 2 0 rfl rfl (i := nI k108) (vp_in_nI (by omega) (by decide)) dX6_join_129 ?_
                    refine lv_iload_n hx hb dX6_join_130 rfl (lv_at hl 1 rfl) ?_
                    obtain ⟨g_7, hg_7⟩ : ∃ z : FI, z = dis ((jnK g_4 g_1 a (jqm g_1 4) k108)) a (g_1 (nI k108).toNatClampNeg) (jqm g_1 4) := ⟨_, rfl⟩
                    refine z_wv (X' := zMod cI r (uR (uK (uR (uF M g_1) (jnK g_4 g_1 a (jqm g_1 4) k108)) g_3) g_7)) (va_runV (As := [.int (g_1 (nI k108).toNatClampNeg), .int (jqm g_1 4)]) (rest := []) ⟨hx, hb, hml, hown, hz⟩ (c_X6_dissolves l D cI cQ r (uK (uR (uF M g_1) (jnK g_4 g_1 a (jqm g_1 4) k108)) g_3) (g_1 (nI k108).toNatClampNeg) (jqm g_1 4) (a) (f) (hO) (hF k108 (by omega)) (hq) g_7 hg_7) (zcwV 2 hz q3_224 q3_226 qs_35 q1_7 q3_227 hd_X6_dissolves (Nat.le_of_ble_eq_true rfl) (Nat.le_of_ble_eq_true rfl)) (z_pvw (ci := 6) (q := (RX6, TX6, 3)) hK hP hD rfl rfl) rfl rfl hl.1 rfl (lv_room (Nat.le_of_ble_eq_true rfl)) dX6_join_131 ⟨(Nat.le_of_ble_eq_true rfl), (Nat.le_of_ble_eq_true rfl)⟩) hP hD hS [0, 1, 2] rfl rfl rfl (fun H locs hP hD hS => ?_)
                    refine lv_iinc (v := (nI k108) + 1) (lv' := [(3, .int ((nI k108) + 1)), (2, .int (jqm g_1 4)), (0, .ref (r 0)), (1, .int (p))]) hx hb dX6_join_134 hl (k := 0) rfl rfl (by decide) rfl (fun ls hl => ?_)
                    refine lv_goto (tgt := 108) hx hb dX6_join_137 (by decide) ?_
                    have e108_3 : (nI (k108 + 1) : Int32) = (nI k108) + 1 := (nI_1 _).symm
                    have eS108 : uK (uR (uF M g_1) (jnK g_4 g_1 a (jqm g_1 4) (k108 + 1))) g_3 = uR (uK (uR (uF M g_1) (jnK g_4 g_1 a (jqm g_1 4) k108)) g_3) g_7 := by first | (rw [jnK, if_pos c_120]; done) | rw [jnK, if_neg c_120, hg_7]
                    exact ih108 (k108 + 1) (by omega) (by omega) H locs (by rw [eS108]; exact hP) (by rw [eS108]; exact hD) hS _ (by (try rw [e108_3]); exact lv_sub hl [0, 1, 2, 3] rfl)
            have e108_3 : (nI 0 : Int32) = (0 : Int32) := rfl
            have eS108 : uK (uR (uF M g_1) (jnK g_4 g_1 a (jqm g_1 4) 0)) g_3 = uR (uK (uR (uF M g_1) g_2) g_3) g_4 := by rfl
            exact L108 (4 + 1) (0) (Nat.zero_le _) (by omega) H locs (by rw [eS108]; exact hP) (by rw [eS108]; exact hD) hS _ (by (try rw [e108_3]); exact lv_sub hl [0, 1, 2, 3] rfl)
          · have c_36 : ¬ (((4 : Int32) : Int32) ≤ nI k34) := c_36
            have hk_34 : k34 < 4 := z_cont (by decide) h1_34 c_36
            refine lv_aload_n hx hb dX6_join_39 rfl (lv_at hl 2 rfl) ?_
            refine va_get (D := D) (ci := 6) (v := .ref (r 2)) (C := RX6) (T := TX6) (N := 3) hx hb hz inZ6 hown hK.1 hP 0 rfl rfl 2 (by decide) (hz _ q3_90) (fun _ h9 => h9) rfl dX6_join_40 ?_
            refine lv_iload_n hx hb dX6_join_43 rfl (lv_at hl 0 rfl) ?_
            refine va_iald (f := g_1) hx hb hK.1 hP 2 0 rfl rfl (i := nI k34) (vp_in_nI (by omega) (by decide)) dX6_join_44 ?_
            refine lv_iload_n hx hb dX6_join_45 rfl (lv_at hl 1 rfl) ?_
            refine lv_icmp_ge (tgt := 58) hx hb dX6_join_46 (by decide) (fun c_46 => ?_) (fun c_46 => ?_)
            · have c_46 : (jqm g_1 k34 : Int32) ≤ g_1 (nI k34).toNatClampNeg := c_46
              refine lv_iload_n hx hb dX6_join_58 rfl (lv_at hl 1 rfl) ?_
              refine lv_istore_n (lv' := [(2, .int (jqm g_1 k34)), (3, .int (nI k34)), (0, .ref (r 0)), (1, .int (p))]) hx hb dX6_join_59 rfl hl (by decide) rfl (fun ls hl => ?_)
              refine lv_iinc (v := (nI k34) + 1) (lv' := [(3, .int ((nI k34) + 1)), (2, .int (jqm g_1 k34)), (0, .ref (r 0)), (1, .int (p))]) hx hb dX6_join_60 hl (k := 1) rfl rfl (by decide) rfl (fun ls hl => ?_)
              refine lv_goto (tgt := 34) hx hb dX6_join_63 (by decide) ?_
              have e34_3 : (nI (k34 + 1) : Int32) = (nI k34) + 1 := (nI_1 _).symm
              have e34_2 : (jqm g_1 (k34 + 1) : Int32) = jqm g_1 k34 := (by first | rw [jqm, if_pos c_46] | rw [jqm, if_neg c_46])
              exact ih34 (k34 + 1) (by omega) (by omega) _ (by (try rw [e34_3]); (try rw [e34_2]); exact lv_sub hl [0, 1, 2, 3] rfl)
            · have c_46 : ¬ ((jqm g_1 k34 : Int32) ≤ g_1 (nI k34).toNatClampNeg) := c_46
              refine lv_aload_n hx hb dX6_join_49 rfl (lv_at hl 2 rfl) ?_
              refine va_get (D := D) (ci := 6) (v := .ref (r 2)) (C := RX6) (T := TX6) (N := 3) hx hb hz inZ6 hown hK.1 hP 0 rfl rfl 2 (by decide) (hz _ q3_90) (fun _ h9 => h9) rfl dX6_join_50 ?_
              refine lv_iload_n hx hb dX6_join_53 rfl (lv_at hl 0 rfl) ?_
              refine va_iald (f := g_1) hx hb hK.1 hP 2 0 rfl rfl (i := nI k34) (vp_in_nI (by omega) (by decide)) dX6_join_54 ?_
              refine lv_goto (tgt := 59) hx hb dX6_join_55 (by decide) ?_
              refine lv_istore_n (lv' := [(2, .int (g_1 (nI k34).toNatClampNeg)), (3, .int (nI k34)), (0, .ref (r 0)), (1, .int (p))]) hx hb dX6_join_59 rfl hl (by decide) rfl (fun ls hl => ?_)
              refine lv_iinc (v := (nI k34) + 1) (lv' := [(3, .int ((nI k34) + 1)), (2, .int (g_1 (nI k34).toNatClampNeg)), (0, .ref (r 0)), (1, .int (p))]) hx hb dX6_join_60 hl (k := 1) rfl rfl (by decide) rfl (fun ls hl => ?_)
              refine lv_goto (tgt := 34) hx hb dX6_join_63 (by decide) ?_
              have e34_3 : (nI (k34 + 1) : Int32) = (nI k34) + 1 := (nI_1 _).symm
              have e34_2 : (jqm g_1 (k34 + 1) : Int32) = g_1 (nI k34).toNatClampNeg := (by first | rw [jqm, if_pos c_46] | rw [jqm, if_neg c_46])
              exact ih34 (k34 + 1) (by omega) (by omega) _ (by (try rw [e34_3]); (try rw [e34_2]); exact lv_sub hl [0, 1, 2, 3] rfl)
      have e34_3 : (nI 1 : Int32) = (1 : Int32) := rfl
      have e34_2 : (jqm g_1 1 : Int32) = g_1 0 := (by exact jqm_1)
      exact L34 (4 + 1) (1) (by omega) (by omega) _ (by (try rw [e34_3]); (try rw [e34_2]); exact lv_sub hl [0, 1, 2, 3] rfl)
    · have c_15 : (cjR ((mR M)) a f p) = false := bI_f c_15
      refine lv_bipush (v := (-2)) hx hb dX6_join_18 (by decide) ?_
      exact z_wiret hx hb hr rfl hlocks hP hS (by (try simp only [hg_1, hg1, hg2, hg3]) <;> (simp [mjRet, c_5, c_15])) (congrArg (fun T => zMod cI r T) (show uF M g_1 = uF (uK (uR M g1) g2) g3 from by (try simp only [hg_1, hg1, hg2, hg3]) <;> (simp [c_5, c_15]; try rfl))) dX6_join_20
  · have c_5 : (iR ((mR M)) p) = false := bI_f c_5
    refine lv_iconst (v := (-1)) hx hb dX6_join_8 (by decide) ?_
    exact z_wiret hx hb hr rfl hlocks hP hS (by (try simp only [hg1, hg2, hg3]) <;> (simp [mjRet, c_5])) (congrArg (fun T => zMod cI r T) (show M = uF (uK (uR M g1) g2) g3 from by (try simp only [hg1, hg2, hg3]) <;> (simp [c_5]; try rfl))) dX6_join_9
