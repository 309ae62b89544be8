theorem hd_X6_pay : yX6_pay.cls ≠ "java/lang/invoke/MethodHandle" ∧ yX6_pay.cls ≠ "java/lang/invoke/VarHandle" ∧ (parseMethodDescriptor yX6_pay.desc).map (fun d => d.parameters.length) = some 1 := by decide +kernel
set_option maxHeartbeats 1000000 in
set_option maxRecDepth 100000 in
theorem c_X6_pay (l : Launch) (D : va_G) (cI cQ : ClassId) (r : Nat → Nat) (M : MS) (p : Int32) (a : Nat) (f : Nat) (hA : mOk (mR M) a f) (n : Nat) (hn : n ≤ 5) (hK5 : mK M = nI n) (g1 : FI) (hg1 : g1 = if iR (mR M) p then mpyNew (mR M) (mK M) a f p else mR M) (g2 : Int32) (hg2 : g2 = if iR (mR M) p then recK (mK M) else mK M) : zWR l yX6_pay (Cond.code yX6_pay cX6_pay 5 (some .int) :: zT) 7 171 [.ref (r 0), .int p] D cI cQ (zMod cI r M) (some (.int (mpyRet (mR M) (mK M) a f p))) (zMod cI r (uK (uR M g1) g2)) := by
  refine zWR.of (cc := cX6_pay) (maxL := 5) (ret := some .int) (by decide +kernel) rfl (Nat.le_of_ble_eq_true rfl) ?_
  intro pg e s mi args below meth cd hx hb hr hts hown hlocks hml hP hD hS hK ls hl
  have hz : ∀ w ∈ zT, w.before args s = true := fun w h => hts w (List.mem_cons_of_mem _ h)
  have hl : lv_has ls 5 [(0, .ref (r 0)), (1, .int (p))] := hl
  refine lv_aload_n hx hb dX6_pay_0 rfl (lv_at hl 0 rfl) ?_
  refine lv_iload_n hx hb dX6_pay_1 rfl (lv_at hl 1 rfl) ?_
  refine z_ro (va_runV (As := [.int (p)]) (rest := []) ⟨hx, hb, hml, hown, hz⟩ (c_X6_isParish l D cI cQ r M p (a) (f) (hA)) (zcwV 1 hz q3_124 q3_126 qs_16 q1_7 q3_127 hd_X6_isParish (Nat.le_of_ble_eq_true rfl) (Nat.le_of_ble_eq_true rfl)) (z_pv (ci := 6) (q := (RX6, TX6, 3)) hK hP rfl rfl) rfl rfl hl.1 rfl (lv_room (Nat.le_of_ble_eq_true rfl)) dX6_pay_2 ⟨(Nat.le_of_ble_eq_true rfl), (Nat.le_of_ble_eq_true rfl)⟩) ?_
  refine lv_if_ne (tgt := 10) hx hb dX6_pay_5 (by decide) (fun c_5 => ?_) (fun c_5 => ?_)
  · have c_5 : (iR ((mR M)) p) = true := bI_t c_5
    refine lv_aload_n hx hb dX6_pay_10 rfl (lv_at hl 0 rfl) ?_
    obtain ⟨g_1, hg_1⟩ : ∃ z : FI, z = recR ((mR M)) ((mK M)) := ⟨_, rfl⟩
    obtain ⟨g_2, hg_2⟩ : ∃ z : Int32, z = recK ((mK M)) := ⟨_, rfl⟩
    refine z_wv (X' := zMod cI r (uK (uR M g_1) g_2)) (va_runV (As := []) (rest := []) ⟨hx, hb, hml, hown, hz⟩ (c_X6_records l D cI cQ r M (n) (hn) (hK5) g_1 hg_1 g_2 hg_2) (zcwV 0 hz q3_108 q3_110 qs_12 q1_7 q3_111 hd_X6_records (Nat.le_of_ble_eq_true rfl) (Nat.le_of_ble_eq_true rfl)) (z_pvw (ci := 6) (q := (RX6, TX6, 3)) hK hP hD rfl rfl) rfl rfl hl.1 rfl (lv_room (Nat.le_of_ble_eq_true rfl)) dX6_pay_11 ⟨(Nat.le_of_ble_eq_true rfl), (Nat.le_of_ble_eq_true rfl)⟩) hP hD hS [0, 1, 2] rfl rfl rfl (fun H locs hP hD hS => ?_)
    have hR5 : mOk g_1 a f := by rw [hg_1]; exact mOk_rec hA hn hK5
    have hp : vp_in p 100 := iR_in hA c_5
    refine lv_iconst (v := 0) hx hb dX6_pay_14 (by decide) ?_
    refine lv_istore_n (lv' := [(2, .int (0 : Int32)), (0, .ref (r 0)), (1, .int (p))]) hx hb dX6_pay_15 rfl hl (by decide) rfl (fun ls hl => ?_)
    refine lv_iconst (v := 0) hx hb dX6_pay_16 (by decide) ?_
    refine lv_istore_n (lv' := [(3, .int (0 : Int32)), (2, .int (0 : Int32)), (0, .ref (r 0)), (1, .int (p))]) hx hb dX6_pay_17 rfl hl (by decide) rfl (fun ls hl => ?_)
    have L18 : ∀ (n18 k18 : Nat), k18 ≤ 40 → 40 < k18 + n18 → ∀ (H : Heap) (locs : List Loc), va_P D vwCl (zMod cI r (uK (uR M ((pOu g_1 p a f k18).1)) g_2)) H → va_D (zA (zMod cI r M)) (zMod cI r (uK (uR M ((pOu g_1 p a f k18).1)) g_2)) → va_S (zA (zMod cI r M)) s.heap H locs → ∀ (ls : Array Slot), lv_has ls 5 [(3, .int (nI k18)), (2, .int ((pOu g_1 p a f k18).2)), (0, .ref (r 0)), (1, .int (p))] → W pg l e ({ frames := 7, cells := 0, slots := 0, locals := 171 }) s mi args below meth cd H locs 0 0 (MQ below (zQ D (zMod cI r M) (some (.int (mpyRet (mR M) (mK M) a f p))) (zMod cI r (uK (uR M g1) g2))) args s 0 0 (zA (zMod cI r M))) (F0 mi 18 ls []) := by
      intro n18
      induction n18 with
      | zero => intro k18 h1 h2; exact absurd h2 (by omega)
      | succ n18 ih18 =>
        intro k18 h1_18 h2_18  H locs hP hD hS ls hl
        refine lv_iload_n hx hb dX6_pay_18 rfl (lv_at hl 0 rfl) ?_
        refine lv_bipush (v := 40) hx hb dX6_pay_19 (by decide) ?_
        refine lv_icmp_ge (tgt := 80) hx hb dX6_pay_21 (by decide) (fun c_21 => ?_) (fun c_21 => ?_)
        · have c_21 : ((40 : Int32) : Int32) ≤ nI k18 := c_21
          have hk_18 : k18 = 40 := z_exit (by decide) h1_18 c_21
          have hO8 : mOk (pOu g_1 p a f k18).1 a f := mOk_pOu hR5 hp k18 (by omega)
          refine lv_aload_n hx hb dX6_pay_80 rfl (lv_at hl 2 rfl) ?_
          obtain ⟨g_3, hg_3⟩ : ∃ z : FI, z = stG a 40 (((pOu g_1 p a f k18).1)) := ⟨_, rfl⟩
          refine z_wv (X' := zMod cI r (uR (uK (uR M ((pOu g_1 p a f k18).1)) g_2) g_3)) (va_runV (As := []) (rest := []) ⟨hx, hb, hml, hown, hz⟩ (c_X6_settles l D cI cQ r (uK (uR M ((pOu g_1 p a f k18).1)) g_2) (a) (f) (hO8) g_3 hg_3) (zcwV 0 hz q3_136 q3_138 qs_19 q1_7 q3_139 hd_X6_settles (Nat.le_of_ble_eq_true rfl) (Nat.le_of_ble_eq_true rfl)) (z_pvw (ci := 6) (q := (RX6, TX6, 3)) hK hP hD rfl rfl) rfl rfl hl.1 rfl (lv_room (Nat.le_of_ble_eq_true rfl)) dX6_pay_81 ⟨(Nat.le_of_ble_eq_true rfl), (Nat.le_of_ble_eq_true rfl)⟩) hP hD hS [0, 1, 2] rfl rfl rfl (fun H locs hP hD hS => ?_)
          refine lv_iload_n hx hb dX6_pay_84 rfl (lv_at hl 1 rfl) ?_
          exact z_wiret hx hb hr rfl hlocks hP hS (by (try simp only [hg_3, hg_2, hg_1, hg1, hg2]) <;> (rw [hk_18]; simp [mpyRet, c_5])) (congrArg (fun T => zMod cI r T) (show uR (uK (uR M ((pOu g_1 p a f k18).1)) g_2) g_3 = uK (uR M g1) g2 from by (try simp only [hg_3, hg_2, hg_1, hg1, hg2]) <;> (rw [if_pos c_5, if_pos c_5, mpyNew, hk_18]))) dX6_pay_85
        · have c_21 : ¬ (((40 : Int32) : Int32) ≤ nI k18) := c_21
          have hk_18 : k18 < 40 := z_cont (by decide) h1_18 c_21
          have hO : mOk (pOu g_1 p a f k18).1 a f := mOk_pOu hR5 hp k18 (by omega)
          refine lv_aload_n hx hb dX6_pay_24 rfl (lv_at hl 2 rfl) ?_
          refine lv_iload_n hx hb dX6_pay_25 rfl (lv_at hl 3 rfl) ?_
          refine z_ro (va_runV (As := [.int (p)]) (rest := []) ⟨hx, hb, hml, hown, hz⟩ (c_X6_gift l D cI cQ r (uK (uR M ((pOu g_1 p a f k18).1)) g_2) p (a) (f) (hO)) (zcwV 1 hz q3_208 q3_210 qs_32 q1_7 q3_211 hd_X6_gift (Nat.le_of_ble_eq_true rfl) (Nat.le_of_ble_eq_true rfl)) (z_pv (ci := 6) (q := (RX6, TX6, 3)) hK hP rfl rfl) rfl rfl hl.1 rfl (lv_room (Nat.le_of_ble_eq_true rfl)) dX6_pay_26 ⟨(Nat.le_of_ble_eq_true rfl), (Nat.le_of_ble_eq_true rfl)⟩) ?_
          refine lv_istore (lv' := [(4, .int (giF (((pOu g_1 p a f k18).1)) p f a)), (3, .int (nI k18)), (2, .int ((pOu g_1 p a f k18).2)), (0, .ref (r 0)), (1, .int (p))]) hx hb dX6_pay_29 hl (by decide) rfl (fun ls hl => ?_)
          have L31 : ∀ (n31 k31 : Nat), k31 ≤ pIf (pOu g_1 p a f k18) p (nI k18) → pIf (pOu g_1 p a f k18) p (nI k18) < k31 + n31 → (pIn p a f (nI k18) (pIf (pOu g_1 p a f k18) p (nI k18)) (pOu g_1 p a f k18) = pIn p a f (nI k18) (pIf (pOu g_1 p a f k18) p (nI k18) - k31) (pIk p a f (nI k18) (pOu g_1 p a f k18) k31)) → (mOk (pIk p a f (nI k18) (pOu g_1 p a f k18) k31).1 a f) → ((dO (pIk p a f (nI k18) (pOu g_1 p a f k18) k31).1 p (nI k18)).toInt = (dO (pOu g_1 p a f k18).1 p (nI k18)).toInt - ((k31 : Nat) : Int)) → ∀ (H : Heap) (locs : List Loc), va_P D vwCl (zMod cI r (uK (uR M ((pIk p a f (nI k18) (pOu g_1 p a f k18) k31).1)) g_2)) H → va_D (zA (zMod cI r M)) (zMod cI r (uK (uR M ((pIk p a f (nI k18) (pOu g_1 p a f k18) k31).1)) g_2)) → va_S (zA (zMod cI r M)) s.heap H locs → ∀ (ls : Array Slot), lv_has ls 5 [(2, .int ((pIk p a f (nI k18) (pOu g_1 p a f k18) k31).2)), (4, .int (giF ((pIk p a f (nI k18) (pOu g_1 p a f k18) k31).1) p f a)), (3, .int (nI k18)), (0, .ref (r 0)), (1, .int (p))] → W pg l e ({ frames := 7, cells := 0, slots := 0, locals := 171 }) s mi args below meth cd H locs 0 0 (MQ below (zQ D (zMod cI r M) (some (.int (mpyRet (mR M) (mK M) a f p))) (zMod cI r (uK (uR M g1) g2))) args s 0 0 (zA (zMod cI r M))) (F0 mi 31 ls []) := by
            intro n31
            induction n31 with
            | zero => intro k31 h1 h2; exact absurd h2 (by omega)
            | succ n31 ih31 =>
              intro k31 h1_31 h2_31 he hB hd H locs hP hD hS ls hl
              refine lv_aload_n hx hb dX6_pay_31 rfl (lv_at hl 3 rfl) ?_
              refine lv_iload_n hx hb dX6_pay_32 rfl (lv_at hl 4 rfl) ?_
              refine lv_iload_n hx hb dX6_pay_33 rfl (lv_at hl 2 rfl) ?_
              refine z_ro (va_runV (As := [.int (p), .int (nI k18)]) (rest := []) ⟨hx, hb, hml, hown, hz⟩ (c_X6_debtOf l D cI cQ r (uK (uR M ((pIk p a f (nI k18) (pOu g_1 p a f k18) k31).1)) g_2) p (nI k18) (ix3 hp (vp_in_nI (by omega) (by decide)))) (zcwV 2 hz q3_212 q3_214 qs_33 q1_7 q3_215 hd_X6_debtOf (Nat.le_of_ble_eq_true rfl) (Nat.le_of_ble_eq_true rfl)) (z_pv (ci := 6) (q := (RX6, TX6, 3)) hK hP rfl rfl) rfl rfl hl.1 rfl (lv_room (Nat.le_of_ble_eq_true rfl)) dX6_pay_34 ⟨(Nat.le_of_ble_eq_true rfl), (Nat.le_of_ble_eq_true rfl)⟩) ?_
              refine lv_if_le (tgt := 74) hx hb dX6_pay_37 (by decide) (fun c_37 => ?_) (fun c_37 => ?_)
              · have c_37 : (dO (((pIk p a f (nI k18) (pOu g_1 p a f k18) k31).1)) p (nI k18) : Int32) ≤ 0 := c_37
                refine lv_iinc (v := (nI k18) + 1) (lv' := [(3, .int ((nI k18) + 1)), (2, .int ((pIk p a f (nI k18) (pOu g_1 p a f k18) k31).2)), (4, .int (giF ((pIk p a f (nI k18) (pOu g_1 p a f k18) k31).1) p f a)), (0, .ref (r 0)), (1, .int (p))]) hx hb dX6_pay_74 hl (k := 2) rfl rfl (by decide) rfl (fun ls hl => ?_)
                refine lv_goto (tgt := 18) hx hb dX6_pay_77 (by decide) ?_
                have e18_3 : (nI (k18 + 1) : Int32) = (nI k18) + 1 := (nI_1 _).symm
                have e18_2 : ((pOu g_1 p a f (k18 + 1)).2 : Int32) = (pIk p a f (nI k18) (pOu g_1 p a f k18) k31).2 := (by show (pIn p a f (nI k18) (pIf (pOu g_1 p a f k18) p (nI k18)) (pOu g_1 p a f k18)).2 = _; first | rw [he, pIn_1 c_37] | rw [he, pIn_2 c_37 c_44])
                have eS18 : uK (uR M ((pOu g_1 p a f (k18 + 1)).1)) g_2 = uK (uR M ((pIk p a f (nI k18) (pOu g_1 p a f k18) k31).1)) g_2 := by show uK (uR M ((pIn p a f (nI k18) (pIf (pOu g_1 p a f k18) p (nI k18)) (pOu g_1 p a f k18)).1)) g_2 = _; first | rw [he, pIn_1 c_37] | rw [he, pIn_2 c_37 c_44]
                exact ih18 (k18 + 1) (by omega) (by omega) H locs (by rw [eS18]; exact hP) (by rw [eS18]; exact hD) hS _ (by (try rw [e18_3]); (try rw [e18_2]); exact lv_sub hl [0, 1, 3, 4] rfl)
              · have c_37 : ¬ ((dO (((pIk p a f (nI k18) (pOu g_1 p a f k18) k31).1)) p (nI k18) : Int32) ≤ 0) := c_37
                refine lv_iload hx hb dX6_pay_40 (lv_at hl 1 rfl) ?_
                refine lv_bipush (v := (-9)) hx hb dX6_pay_42 (by decide) ?_
                refine lv_icmp_eq (tgt := 74) hx hb dX6_pay_44 (by decide) (fun c_44 => ?_) (fun c_44 => ?_)
                · have c_44 : (giF ((pIk p a f (nI k18) (pOu g_1 p a f k18) k31).1) p f a : Int32) = (-9 : Int32) := c_44
                  refine lv_iinc (v := (nI k18) + 1) (lv' := [(3, .int ((nI k18) + 1)), (2, .int ((pIk p a f (nI k18) (pOu g_1 p a f k18) k31).2)), (4, .int (giF ((pIk p a f (nI k18) (pOu g_1 p a f k18) k31).1) p f a)), (0, .ref (r 0)), (1, .int (p))]) hx hb dX6_pay_74 hl (k := 2) rfl rfl (by decide) rfl (fun ls hl => ?_)
                  refine lv_goto (tgt := 18) hx hb dX6_pay_77 (by decide) ?_
                  have e18_3 : (nI (k18 + 1) : Int32) = (nI k18) + 1 := (nI_1 _).symm
                  have e18_2 : ((pOu g_1 p a f (k18 + 1)).2 : Int32) = (pIk p a f (nI k18) (pOu g_1 p a f k18) k31).2 := (by show (pIn p a f (nI k18) (pIf (pOu g_1 p a f k18) p (nI k18)) (pOu g_1 p a f k18)).2 = _; first | rw [he, pIn_1 c_37] | rw [he, pIn_2 c_37 c_44])
                  have eS18 : uK (uR M ((pOu g_1 p a f (k18 + 1)).1)) g_2 = uK (uR M ((pIk p a f (nI k18) (pOu g_1 p a f k18) k31).1)) g_2 := by show uK (uR M ((pIn p a f (nI k18) (pIf (pOu g_1 p a f k18) p (nI k18)) (pOu g_1 p a f k18)).1)) g_2 = _; first | rw [he, pIn_1 c_37] | rw [he, pIn_2 c_37 c_44]
                  exact ih18 (k18 + 1) (by omega) (by omega) H locs (by rw [eS18]; exact hP) (by rw [eS18]; exact hD) hS _ (by (try rw [e18_3]); (try rw [e18_2]); exact lv_sub hl [0, 1, 3, 4] rfl)
                · have c_44 : ¬ ((giF ((pIk p a f (nI k18) (pOu g_1 p a f k18) k31).1) p f a : Int32) = (-9 : Int32)) := c_44
                  have hkk : k31 < pIf (pOu g_1 p a f k18) p (nI k18) := pIf_lt c_37 hd
                  have hi6 := (giF_i6 a (by have := hA.1; omega)).resolve_left c_44
                  refine lv_aload_n hx hb dX6_pay_47 rfl (lv_at hl 3 rfl) ?_
                  refine lv_iload hx hb dX6_pay_48 (lv_at hl 1 rfl) ?_
                  refine lv_iload_n hx hb dX6_pay_50 rfl (lv_at hl 2 rfl) ?_
                  obtain ⟨g_4, hg_4⟩ : ∃ z : FI, z = sLo (((pIk p a f (nI k18) (pOu g_1 p a f k18) k31).1)) (giF ((pIk p a f (nI k18) (pOu g_1 p a f k18) k31).1) p f a) (nI k18) := ⟨_, rfl⟩
                  refine z_wv (X' := zMod cI r (uR (uK (uR M ((pIk p a f (nI k18) (pOu g_1 p a f k18) k31).1)) g_2) g_4)) (va_runV (As := [.int (giF ((pIk p a f (nI k18) (pOu g_1 p a f k18) k31).1) p f a), .int (nI k18)]) (rest := []) ⟨hx, hb, hml, hown, hz⟩ (c_X6_setLord l D cI cQ r (uK (uR M ((pIk p a f (nI k18) (pOu g_1 p a f k18) k31).1)) g_2) (giF ((pIk p a f (nI k18) (pOu g_1 p a f k18) k31).1) p f a) (nI k18) (z_wk hi6 (by decide)) g_4 hg_4) (zcwV 2 hz q3_132 q3_134 qs_18 q1_7 q3_135 hd_X6_setLord (Nat.le_of_ble_eq_true rfl) (Nat.le_of_ble_eq_true rfl)) (z_pvw (ci := 6) (q := (RX6, TX6, 3)) hK hP hD rfl rfl) rfl rfl hl.1 rfl (lv_room (Nat.le_of_ble_eq_true rfl)) dX6_pay_51 ⟨(Nat.le_of_ble_eq_true rfl), (Nat.le_of_ble_eq_true rfl)⟩) hP hD hS [0, 1, 2] rfl rfl rfl (fun H locs hP hD hS => ?_)
                  refine lv_aload_n hx hb dX6_pay_54 rfl (lv_at hl 3 rfl) ?_
                  refine lv_iload_n hx hb dX6_pay_55 rfl (lv_at hl 4 rfl) ?_
                  refine lv_iload_n hx hb dX6_pay_56 rfl (lv_at hl 2 rfl) ?_
                  refine lv_iconst (v := (-1)) hx hb dX6_pay_57 (by decide) ?_
                  obtain ⟨g_5, hg_5⟩ : ∃ z : FI, z = oW (g_4) p (nI k18) (-1 : Int32) := ⟨_, rfl⟩
                  refine z_wv (X' := zMod cI r (uR (uK (uR M ((pIk p a f (nI k18) (pOu g_1 p a f k18) k31).1)) g_2) g_5)) (va_runV (As := [.int (p), .int (nI k18), .int (-1 : Int32)]) (rest := []) ⟨hx, hb, hml, hown, hz⟩ (c_X6_owes l D cI cQ r (uR (uK (uR M ((pIk p a f (nI k18) (pOu g_1 p a f k18) k31).1)) g_2) g_4) p (nI k18) (-1 : Int32) (ix3 hp (vp_in_nI (by omega) (by decide))) g_5 hg_5) (zcwV 3 hz q3_176 q3_178 qs_29 q1_7 q3_179 hd_X6_owes (Nat.le_of_ble_eq_true rfl) (Nat.le_of_ble_eq_true rfl)) (z_pvw (ci := 6) (q := (RX6, TX6, 3)) hK hP hD rfl rfl) rfl rfl hl.1 rfl (lv_room (Nat.le_of_ble_eq_true rfl)) dX6_pay_58 ⟨(Nat.le_of_ble_eq_true rfl), (Nat.le_of_ble_eq_true rfl)⟩) hP hD hS [0, 1, 2] rfl rfl rfl (fun H locs hP hD hS => ?_)
                  have eC : g_5 = (pIs p a f (nI k18) (pIk p a f (nI k18) (pOu g_1 p a f k18) k31)).1 := by rw [hg_5, hg_4]; rfl
                  have hC : mOk g_5 a f := by rw [eC]; exact mOk_pIs hB hp (vp_in_nI (by omega) (by decide)) c_44
                  refine lv_iinc (v := ((pIk p a f (nI k18) (pOu g_1 p a f k18) k31).2) + 1) (lv' := [(2, .int (((pIk p a f (nI k18) (pOu g_1 p a f k18) k31).2) + 1)), (4, .int (giF ((pIk p a f (nI k18) (pOu g_1 p a f k18) k31).1) p f a)), (3, .int (nI k18)), (0, .ref (r 0)), (1, .int (p))]) hx hb dX6_pay_61 hl (k := 0) rfl rfl (by decide) rfl (fun ls hl => ?_)
                  refine lv_aload_n hx hb dX6_pay_64 rfl (lv_at hl 3 rfl) ?_
                  refine lv_iload_n hx hb dX6_pay_65 rfl (lv_at hl 4 rfl) ?_
                  refine z_ro (va_runV (As := [.int (p)]) (rest := []) ⟨hx, hb, hml, hown, hz⟩ (c_X6_gift l D cI cQ r (uR (uK (uR M ((pIk p a f (nI k18) (pOu g_1 p a f k18) k31).1)) g_2) g_5) p (a) (f) (hC)) (zcwV 1 hz q3_208 q3_210 qs_32 q1_7 q3_211 hd_X6_gift (Nat.le_of_ble_eq_true rfl) (Nat.le_of_ble_eq_true rfl)) (z_pv (ci := 6) (q := (RX6, TX6, 3)) hK hP rfl rfl) rfl rfl hl.1 rfl (lv_room (Nat.le_of_ble_eq_true rfl)) dX6_pay_66 ⟨(Nat.le_of_ble_eq_true rfl), (Nat.le_of_ble_eq_true rfl)⟩) ?_
                  refine lv_istore (lv' := [(4, .int (giF (g_5) p f a)), (2, .int (((pIk p a f (nI k18) (pOu g_1 p a f k18) k31).2) + 1)), (3, .int (nI k18)), (0, .ref (r 0)), (1, .int (p))]) hx hb dX6_pay_69 hl (by decide) rfl (fun ls hl => ?_)
                  refine lv_goto (tgt := 31) hx hb dX6_pay_71 (by decide) ?_
                  have e31_2 : ((pIk p a f (nI k18) (pOu g_1 p a f k18) (k31 + 1)).2 : Int32) = ((pIk p a f (nI k18) (pOu g_1 p a f k18) k31).2) + 1 := (by rfl)
                  have e31_4 : (giF ((pIk p a f (nI k18) (pOu g_1 p a f k18) (k31 + 1)).1) p f a : Int32) = giF (g_5) p f a := (by rw [eC]; rfl)
                  have eS31 : uK (uR M ((pIk p a f (nI k18) (pOu g_1 p a f k18) (k31 + 1)).1)) g_2 = uR (uK (uR M ((pIk p a f (nI k18) (pOu g_1 p a f k18) k31).1)) g_2) g_5 := by rw [eC]; rfl
                  exact ih31 (k31 + 1) (by omega) (by omega) (he.trans (pIn_3 hkk c_37 c_44)) (mOk_pIs hB hp (vp_in_nI (by omega) (by decide)) c_44) ((dO_step hp (vp_in_nI (by omega) (by decide)) hi6 c_37).trans (by rw [hd]; omega)) H locs (by rw [eS31]; exact hP) (by rw [eS31]; exact hD) hS _ (by (try rw [e31_2]); (try rw [e31_4]); exact lv_sub hl [1, 0, 2, 3, 4] rfl)
          have e31_2 : ((pIk p a f (nI k18) (pOu g_1 p a f k18) 0).2 : Int32) = (pOu g_1 p a f k18).2 := (by rfl)
          have e31_4 : (giF ((pIk p a f (nI k18) (pOu g_1 p a f k18) 0).1) p f a : Int32) = giF (((pOu g_1 p a f k18).1)) p f a := (by rfl)
          have eS31 : uK (uR M ((pIk p a f (nI k18) (pOu g_1 p a f k18) 0).1)) g_2 = uK (uR M ((pOu g_1 p a f k18).1)) g_2 := by rfl
          exact L31 (pIf (pOu g_1 p a f k18) p (nI k18) + 1) (0) (Nat.zero_le _) (by omega) (rfl) (hO) ((Int.sub_zero _).symm) H locs (by rw [eS31]; exact hP) (by rw [eS31]; exact hD) hS _ (by (try rw [e31_2]); (try rw [e31_4]); exact lv_sub hl [2, 0, 1, 3, 4] rfl)
    have e18_3 : (nI 0 : Int32) = (0 : Int32) := rfl
    have e18_2 : ((pOu g_1 p a f 0).2 : Int32) = (0 : Int32) := (by rfl)
    have eS18 : uK (uR M ((pOu g_1 p a f 0).1)) g_2 = uK (uR M g_1) g_2 := by rfl
    exact L18 (40 + 1) (0) (Nat.zero_le _) (by omega) H locs (by rw [eS18]; exact hP) (by rw [eS18]; exact hD) hS _ (by (try rw [e18_3]); (try rw [e18_2]); exact lv_sub hl [0, 1, 2, 3] rfl)
  · have c_5 : (iR ((mR M)) p) = false := bI_f c_5
    refine lv_iconst (v := (-1)) hx hb dX6_pay_8 (by decide) ?_
    exact z_wiret hx hb hr rfl hlocks hP hS (by (try simp only [hg1, hg2]) <;> (simp [mpyNew, mpyRet, c_5])) (congrArg (fun T => zMod cI r T) (show M = uK (uR M g1) g2 from by (try simp only [hg1, hg2]) <;> (first | (simp [mpyNew, mpyRet, c_5]; done) | (simp [mpyNew, mpyRet, c_5] <;> rfl) | rfl))) dX6_pay_9
