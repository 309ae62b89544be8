theorem hd_X6_founds : yX6_founds.cls ≠ "java/lang/invoke/MethodHandle" ∧ yX6_founds.cls ≠ "java/lang/invoke/VarHandle" ∧ (parseMethodDescriptor yX6_founds.desc).map (fun d => d.parameters.length) = some 4 := by decide +kernel
theorem hd_X6_splits : yX6_splits.cls ≠ "java/lang/invoke/MethodHandle" ∧ yX6_splits.cls ≠ "java/lang/invoke/VarHandle" ∧ (parseMethodDescriptor yX6_splits.desc).map (fun d => d.parameters.length) = some 1 := by decide +kernel
theorem hd_X6_settles : yX6_settles.cls ≠ "java/lang/invoke/MethodHandle" ∧ yX6_settles.cls ≠ "java/lang/invoke/VarHandle" ∧ (parseMethodDescriptor yX6_settles.desc).map (fun d => d.parameters.length) = some 0 := by decide +kernel
set_option maxHeartbeats 1000000 in
set_option maxRecDepth 100000 in
theorem c_X6_founds (l : Launch) (D : va_G) (cI cQ : ClassId) (r : Nat → Nat) (M : MS) (p x y sc : Int32) (a : Nat) (f : Nat) (hA : mOk (mR M) a f) (hf1 : f + 1 ≤ 60) (hp : vp_in p 100) (g1 : FI) (hg1 : g1 = fou (mR M) a p x y sc) : zWR l yX6_founds (Cond.code yX6_founds cX6_founds 10 (none) :: zT) 4 92 [.ref (r 0), .int p, .int x, .int y, .int sc] D cI cQ (zMod cI r M) none (zMod cI r (uR M g1)) := by
  refine zWR.of (cc := cX6_founds) (maxL := 10) (ret := none) (by decide +kernel) rfl (Nat.le_of_ble_eq_true rfl) ?_
  intro pg e s mi args below meth cd hx hb hr hts hown hlocks hml hP hD hS hK ls hl
  have hz : ∀ w ∈ zT, w.before args s = true := fun w h => hts w (List.mem_cons_of_mem _ h)
  have hl : lv_has ls 10 [(0, .ref (r 0)), (1, .int (p)), (2, .int (x)), (3, .int (y)), (4, .int (sc))] := hl
  refine lv_aload_n hx hb dX6_founds_0 rfl (lv_at hl 0 rfl) ?_
  refine va_get (D := D) (ci := 6) (v := .ref (r 1)) (C := RX6) (T := TX6) (N := 3) hx hb hz inZ6 hown hK.1 hP 0 rfl rfl 0 (by decide) (hz _ q3_88) (fun _ h9 => h9) rfl dX6_founds_1 ?_
  refine lv_iconst (v := 3) hx hb dX6_founds_4 (by decide) ?_
  refine va_iald (f := mR M) hx hb hK.1 hP 1 0 rfl rfl (i := (3 : Int32)) (z_inC (by decide) (by decide)) dX6_founds_5 ?_
  refine lv_istore (lv' := [(5, .int ((mR M) 3)), (0, .ref (r 0)), (1, .int (p)), (2, .int (x)), (3, .int (y)), (4, .int (sc))]) hx hb dX6_founds_6 hl (by decide) rfl (fun ls hl => ?_)
  refine lv_bipush (v := 64) hx hb dX6_founds_8 (by decide) ?_
  refine lv_iload hx hb dX6_founds_10 (lv_at hl 5 rfl) ?_
  refine lv_ishr hx hb dX6_founds_12 ?_
  refine lv_istore (lv' := [(6, .int ((64 : Int32) >>> (sc &&& 31))), (5, .int ((mR M) 3)), (0, .ref (r 0)), (1, .int (p)), (2, .int (x)), (3, .int (y)), (4, .int (sc))]) hx hb dX6_founds_13 hl (by decide) rfl (fun ls hl => ?_)
  refine lv_aload_n hx hb dX6_founds_15 rfl (lv_at hl 2 rfl) ?_
  refine va_get (D := D) (ci := 6) (v := .ref (r 1)) (C := RX6) (T := TX6) (N := 3) hx hb hz inZ6 hown hK.1 hP 0 rfl rfl 0 (by decide) (hz _ q3_88) (fun _ h9 => h9) rfl dX6_founds_16 ?_
  refine lv_iconst (v := 3) hx hb dX6_founds_19 (by decide) ?_
  refine lv_dup2_11 hx hb dX6_founds_20 rfl rfl ?_
  refine va_iald (f := mR M) hx hb hK.1 hP 1 0 rfl rfl (i := (3 : Int32)) (z_inC (by decide) (by decide)) dX6_founds_21 ?_
  refine lv_iconst (v := 1) hx hb dX6_founds_22 (by decide) ?_
  refine lv_iadd hx hb dX6_founds_23 ?_
  refine va_iast hx hb hK.1 hP hD hS 1 0 rfl rfl (i := (3 : Int32)) (z_inC (by decide) (by decide)) dX6_founds_24 (fun H locs hP hD hS => ?_)
  have hP : va_P D vwCl (zMod cI r (uR M (upd (mR M) 3 (((mR M) 3) + (1 : Int32))))) H := hP
  have hD : va_D (zA (zMod cI r M)) (zMod cI r (uR M (upd (mR M) 3 (((mR M) 3) + (1 : Int32))))) := hD
  refine lv_aload_n hx hb dX6_founds_25 rfl (lv_at hl 2 rfl) ?_
  refine lv_iload hx hb dX6_founds_26 (lv_at hl 1 rfl) ?_
  refine lv_iload_n hx hb dX6_founds_28 rfl (lv_at hl 4 rfl) ?_
  refine lv_iload_n hx hb dX6_founds_29 rfl (lv_at hl 5 rfl) ?_
  refine lv_iload hx hb dX6_founds_30 (lv_at hl 6 rfl) ?_
  obtain ⟨g_1, hg_1⟩ : ∃ z : FI, z = sPa ((upd (mR M) 3 (((mR M) 3) + (1 : Int32)))) ((mR M) 3) x y sc := ⟨_, rfl⟩
  refine z_wv (X' := zMod cI r (uR M g_1)) (va_runV (As := [.int ((mR M) 3), .int (x), .int (y), .int (sc)]) (rest := []) ⟨hx, hb, hml, hown, hz⟩ (c_X6_setParish l D cI cQ r (uR M (upd (mR M) 3 (((mR M) 3) + (1 : Int32)))) ((mR M) 3) x y sc (by rw [hA.2.2.2.1]; exact vp_in_nI (by omega) (by decide)) g_1 hg_1) (zcwV 4 hz q3_168 q3_170 qs_27 q1_7 q3_171 hd_X6_setParish (Nat.le_of_ble_eq_true rfl) (Nat.le_of_ble_eq_true rfl)) (z_pvw (ci := 6) (q := (RX6, TX6, 3)) hK hP hD rfl rfl) rfl rfl hl.1 rfl (lv_room (Nat.le_of_ble_eq_true rfl)) dX6_founds_32 ⟨(Nat.le_of_ble_eq_true rfl), (Nat.le_of_ble_eq_true rfl)⟩) hP hD hS [0, 1, 2] rfl rfl rfl (fun H locs hP hD hS => ?_)
  refine lv_aload_n hx hb dX6_founds_35 rfl (lv_at hl 2 rfl) ?_
  refine lv_iload_n hx hb dX6_founds_36 rfl (lv_at hl 4 rfl) ?_
  refine lv_iload_n hx hb dX6_founds_37 rfl (lv_at hl 5 rfl) ?_
  refine lv_iload hx hb dX6_founds_38 (lv_at hl 0 rfl) ?_
  refine z_ro (va_runV (As := [.int (x), .int (y), .int ((64 : Int32) >>> (sc &&& 31))]) (rest := []) ⟨hx, hb, hml, hown, hz⟩ (c_X6_pointsInCell l D cI cQ r (uR M g_1) x y ((64 : Int32) >>> (sc &&& 31)) (a) (f + 1) (by rw [hg_1]; exact mOk_fouA hA hf1)) (zcwV 3 hz q3_148 q3_150 qs_22 q1_7 q3_151 hd_X6_pointsInCell (Nat.le_of_ble_eq_true rfl) (Nat.le_of_ble_eq_true rfl)) (z_pv (ci := 6) (q := (RX6, TX6, 3)) hK hP rfl rfl) rfl rfl hl.1 rfl (lv_room (Nat.le_of_ble_eq_true rfl)) dX6_founds_40 ⟨(Nat.le_of_ble_eq_true rfl), (Nat.le_of_ble_eq_true rfl)⟩) ?_
  refine lv_istore (lv' := [(7, .int (mCe (g_1) a x y ((64 : Int32) >>> (sc &&& 31)))), (6, .int ((64 : Int32) >>> (sc &&& 31))), (5, .int ((mR M) 3)), (0, .ref (r 0)), (1, .int (p)), (2, .int (x)), (3, .int (y)), (4, .int (sc))]) hx hb dX6_founds_43 hl (by decide) rfl (fun ls hl => ?_)
  refine lv_aload_n hx hb dX6_founds_45 rfl (lv_at hl 3 rfl) ?_
  refine lv_iload hx hb dX6_founds_46 (lv_at hl 2 rfl) ?_
  refine lv_iload_n hx hb dX6_founds_48 rfl (lv_at hl 4 rfl) ?_
  refine lv_iload hx hb dX6_founds_49 (lv_at hl 0 rfl) ?_
  refine lv_aload_n hx hb dX6_founds_51 rfl (lv_at hl 3 rfl) ?_
  refine va_get (D := D) (ci := 6) (v := .ref (r 1)) (C := RX6) (T := TX6) (N := 3) hx hb hz inZ6 hown hK.1 hP 0 rfl rfl 0 (by decide) (hz _ q3_88) (fun _ h9 => h9) rfl dX6_founds_52 ?_
  refine lv_iconst (v := 1) hx hb dX6_founds_55 (by decide) ?_
  refine va_iald (f := g_1) hx hb hK.1 hP 1 0 rfl rfl (i := (1 : Int32)) (z_inC (by decide) (by decide)) dX6_founds_56 ?_
  refine lv_iadd hx hb dX6_founds_57 ?_
  refine lv_iconst (v := 1) hx hb dX6_founds_58 (by decide) ?_
  refine lv_isub hx hb dX6_founds_59 ?_
  refine lv_aload_n hx hb dX6_founds_60 rfl (lv_at hl 3 rfl) ?_
  refine va_get (D := D) (ci := 6) (v := .ref (r 1)) (C := RX6) (T := TX6) (N := 3) hx hb hz inZ6 hown hK.1 hP 0 rfl rfl 0 (by decide) (hz _ q3_88) (fun _ h9 => h9) rfl dX6_founds_61 ?_
  refine lv_iconst (v := 1) hx hb dX6_founds_64 (by decide) ?_
  refine va_iald (f := g_1) hx hb hK.1 hP 1 0 rfl rfl (i := (1 : Int32)) (z_inC (by decide) (by decide)) dX6_founds_65 ?_
  refine lv_idiv hx hb dX6_founds_66 (by rw [hg_1]; exact (mOk_fouA hA hf1).2.2.2.2) ?_
  obtain ⟨g_2, hg_2⟩ : ∃ z : FI, z = oW (g_1) ((mR M) 3) p ((((mCe (g_1) a x y ((64 : Int32) >>> (sc &&& 31))) + (g_1 1)) - (1 : Int32)) / (g_1 1)) := ⟨_, rfl⟩
  refine z_wv (X' := zMod cI r (uR M g_2)) (va_runV (As := [.int ((mR M) 3), .int (p), .int ((((mCe (g_1) a x y ((64 : Int32) >>> (sc &&& 31))) + (g_1 1)) - (1 : Int32)) / (g_1 1))]) (rest := []) ⟨hx, hb, hml, hown, hz⟩ (c_X6_owes l D cI cQ r (uR M g_1) ((mR M) 3) p ((((mCe (g_1) a x y ((64 : Int32) >>> (sc &&& 31))) + (g_1 1)) - (1 : Int32)) / (g_1 1)) (ix3 (by rw [hA.2.2.2.1]; exact vp_in_nI (by omega) (by decide)) (hp)) g_2 hg_2) (zcwV 3 hz q3_176 q3_178 qs_29 q1_7 q3_179 hd_X6_owes (Nat.le_of_ble_eq_true rfl) (Nat.le_of_ble_eq_true rfl)) (z_pvw (ci := 6) (q := (RX6, TX6, 3)) hK hP hD rfl rfl) rfl rfl hl.1 rfl (lv_room (Nat.le_of_ble_eq_true rfl)) dX6_founds_67 ⟨(Nat.le_of_ble_eq_true rfl), (Nat.le_of_ble_eq_true rfl)⟩) hP hD hS [0, 1, 2] rfl rfl rfl (fun H locs hP hD hS => ?_)
  refine lv_iconst (v := 0) hx hb dX6_founds_70 (by decide) ?_
  refine lv_istore (lv' := [(8, .int (0 : Int32)), (7, .int (mCe (g_1) a x y ((64 : Int32) >>> (sc &&& 31)))), (6, .int ((64 : Int32) >>> (sc &&& 31))), (5, .int ((mR M) 3)), (0, .ref (r 0)), (1, .int (p)), (2, .int (x)), (3, .int (y)), (4, .int (sc))]) hx hb dX6_founds_71 hl (by decide) rfl (fun ls hl => ?_)
  have L73 : ∀ (n73 k73 : Nat), k73 ≤ a → a < k73 + n73 → (mOk (foL (fouB (mR M) a p x y sc) p (mR M 3) x y (64 >>> (sc &&& 31)) k73) a (f + 1)) → ∀ (H : Heap) (locs : List Loc), va_P D vwCl (zMod cI r (uR M (foL (fouB (mR M) a p x y sc) p (mR M 3) x y (64 >>> (sc &&& 31)) k73))) H → va_D (zA (zMod cI r M)) (zMod cI r (uR M (foL (fouB (mR M) a p x y sc) p (mR M 3) x y (64 >>> (sc &&& 31)) k73))) → va_S (zA (zMod cI r M)) s.heap H locs → ∀ (ls : Array Slot), lv_has ls 10 [(8, .int (nI k73)), (7, .int (mCe (g_1) a x y ((64 : Int32) >>> (sc &&& 31)))), (6, .int ((64 : Int32) >>> (sc &&& 31))), (5, .int ((mR M) 3)), (0, .ref (r 0)), (1, .int (p)), (2, .int (x)), (3, .int (y)), (4, .int (sc))] → W pg l e ({ frames := 4, cells := 0, slots := 0, locals := 92 }) s mi args below meth cd H locs 0 0 (MQ below (zQ D (zMod cI r M) none (zMod cI r (uR M g1))) args s 0 0 (zA (zMod cI r M))) (F0 mi 73 ls []) := by
    intro n73
    induction n73 with
    | zero => intro k73 h1 h2; exact absurd h2 (by omega)
    | succ n73 ih73 =>
      intro k73 h1_73 h2_73 hB H locs hP hD hS ls hl
      refine lv_iload hx hb dX6_founds_73 (lv_at hl 0 rfl) ?_
      refine lv_aload_n hx hb dX6_founds_75 rfl (lv_at hl 4 rfl) ?_
      refine va_get (D := D) (ci := 6) (v := .ref (r 1)) (C := RX6) (T := TX6) (N := 3) hx hb hz inZ6 hown hK.1 hP 0 rfl rfl 0 (by decide) (hz _ q3_88) (fun _ h9 => h9) rfl dX6_founds_76 ?_
      refine lv_iconst (v := 2) hx hb dX6_founds_79 (by decide) ?_
      refine va_iald (f := foL (fouB (mR M) a p x y sc) p (mR M 3) x y (64 >>> (sc &&& 31)) k73) hx hb hK.1 hP 1 0 rfl rfl (i := (2 : Int32)) (z_inC (by decide) (by decide)) dX6_founds_80 ?_
      refine lv_icmp_ge (tgt := 170) hx hb dX6_founds_81 (by decide) (fun c_81 => ?_) (fun c_81 => ?_)
      · have c_81 : ((foL (fouB (mR M) a p x y sc) p (mR M 3) x y (64 >>> (sc &&& 31)) k73) 2 : Int32) ≤ nI k73 := c_81
        rw [hB.2.2.1] at c_81
        have hk_73 : k73 = a := z_exit (by have := hA.1; omega) h1_73 c_81
        exact z_wvret hx hb hr hlocks hP hS (congrArg (fun T => zMod cI r T) (show uR M (foL (fouB (mR M) a p x y sc) p (mR M 3) x y (64 >>> (sc &&& 31)) k73) = uR M g1 from by (try simp only [hg_2, hg_1, hg1]) <;> (rw [hk_73]; rfl))) dX6_founds_170
      · have c_81 : ¬ (((foL (fouB (mR M) a p x y sc) p (mR M 3) x y (64 >>> (sc &&& 31)) k73) 2 : Int32) ≤ nI k73) := c_81
        rw [hB.2.2.1] at c_81
        have hk_73 : k73 < a := z_cont (by have := hA.1; omega) h1_73 c_81
        refine lv_aload_n hx hb dX6_founds_84 rfl (lv_at hl 4 rfl) ?_
        refine lv_iload hx hb dX6_founds_85 (lv_at hl 0 rfl) ?_
        refine lv_iconst (v := 0) hx hb dX6_founds_87 (by decide) ?_
        refine z_ro (va_runV (As := [.int (nI k73), .int (0 : Int32)]) (rest := []) ⟨hx, hb, hml, hown, hz⟩ (c_X6_ofPoint l D cI cQ r (uR M (foL (fouB (mR M) a p x y sc) p (mR M 3) x y (64 >>> (sc &&& 31)) k73)) (nI k73) (0 : Int32) (ix1 (kin hk_73 (by have := hA.1; omega)) (z_inC (by decide) (by decide)))) (zcwV 2 hz q3_160 q3_162 qs_25 q1_7 q3_163 hd_X6_ofPoint (Nat.le_of_ble_eq_true rfl) (Nat.le_of_ble_eq_true rfl)) (z_pv (ci := 6) (q := (RX6, TX6, 3)) hK hP rfl rfl) rfl rfl hl.1 rfl (lv_room (Nat.le_of_ble_eq_true rfl)) dX6_founds_88 ⟨(Nat.le_of_ble_eq_true rfl), (Nat.le_of_ble_eq_true rfl)⟩) ?_
        refine lv_iload_n hx hb dX6_founds_91 rfl (lv_at hl 6 rfl) ?_
        refine lv_iload_n hx hb dX6_founds_92 rfl (lv_at hl 6 rfl) ?_
        refine lv_iload hx hb dX6_founds_93 (lv_at hl 2 rfl) ?_
        refine lv_iadd hx hb dX6_founds_95 ?_
        refine lv_iconst (v := 1) hx hb dX6_founds_96 (by decide) ?_
        refine lv_isub hx hb dX6_founds_97 ?_
        refine z_ro (va_runS (As := [.int (oP ((foL (fouB (mR M) a p x y sc) p (mR M 3) x y (64 >>> (sc &&& 31)) k73)) (nI k73) (0 : Int32)), .int (x), .int ((x + ((64 : Int32) >>> (sc &&& 31))) - (1 : Int32))]) (rest := []) ⟨hx, hb, hml, hown, hz⟩ (c_X6_in l D cI cQ (oP ((foL (fouB (mR M) a p x y sc) p (mR M 3) x y (64 >>> (sc &&& 31)) k73)) (nI k73) (0 : Int32)) x ((x + ((64 : Int32) >>> (sc &&& 31))) - (1 : Int32))) (zcwS 3 hz q3_105 q3_106 q1_7 q3_107 hd_X6_in (Nat.le_of_ble_eq_true rfl) (Nat.le_of_ble_eq_true rfl)) (z_ps hK z_nil) rfl rfl hl.1 rfl (lv_room (Nat.le_of_ble_eq_true rfl)) dX6_founds_98 ⟨(Nat.le_of_ble_eq_true rfl), (Nat.le_of_ble_eq_true rfl)⟩) ?_
        refine lv_if_eq (tgt := 128) hx hb dX6_founds_101 (by decide) (fun c_101 => ?_) (fun c_101 => ?_)
        · have c_101 : (btw (oP ((foL (fouB (mR M) a p x y sc) p (mR M 3) x y (64 >>> (sc &&& 31)) k73)) (nI k73) (0 : Int32)) x ((x + ((64 : Int32) >>> (sc &&& 31))) - (1 : Int32))) = false := bI_f c_101
          refine lv_iconst (v := 0) hx hb dX6_founds_128 (by decide) ?_
          refine lv_istore (lv' := [(9, .int (0 : Int32)), (8, .int (nI k73)), (7, .int (mCe (g_1) a x y ((64 : Int32) >>> (sc &&& 31)))), (6, .int ((64 : Int32) >>> (sc &&& 31))), (5, .int ((mR M) 3)), (0, .ref (r 0)), (1, .int (p)), (2, .int (x)), (3, .int (y)), (4, .int (sc))]) hx hb dX6_founds_129 hl (by decide) rfl (fun ls hl => ?_)
          refine lv_aload_n hx hb dX6_founds_131 rfl (lv_at hl 5 rfl) ?_
          refine lv_iload hx hb dX6_founds_132 (lv_at hl 1 rfl) ?_
          refine z_ro (va_runV (As := [.int (nI k73)]) (rest := []) ⟨hx, hb, hml, hown, hz⟩ (c_X6_isPoint l D cI cQ r (uR M (foL (fouB (mR M) a p x y sc) p (mR M 3) x y (64 >>> (sc &&& 31)) k73)) (nI k73) (a) (f + 1) (hB)) (zcwV 1 hz q3_156 q3_158 qs_24 q1_7 q3_159 hd_X6_isPoint (Nat.le_of_ble_eq_true rfl) (Nat.le_of_ble_eq_true rfl)) (z_pv (ci := 6) (q := (RX6, TX6, 3)) hK hP rfl rfl) rfl rfl hl.1 rfl (lv_room (Nat.le_of_ble_eq_true rfl)) dX6_founds_134 ⟨(Nat.le_of_ble_eq_true rfl), (Nat.le_of_ble_eq_true rfl)⟩) ?_
          refine lv_if_eq (tgt := 164) hx hb dX6_founds_137 (by decide) (fun c_137 => ?_) (fun c_137 => ?_)
          · have c_137 : (iP ((foL (fouB (mR M) a p x y sc) p (mR M 3) x y (64 >>> (sc &&& 31)) k73)) (nI k73)) = false := bI_f c_137
            refine lv_iinc (v := (nI k73) + 1) (lv' := [(8, .int ((nI k73) + 1)), (9, .int (0 : Int32)), (7, .int (mCe (g_1) a x y ((64 : Int32) >>> (sc &&& 31)))), (6, .int ((64 : Int32) >>> (sc &&& 31))), (5, .int ((mR M) 3)), (0, .ref (r 0)), (1, .int (p)), (2, .int (x)), (3, .int (y)), (4, .int (sc))]) hx hb dX6_founds_164 hl (k := 1) rfl rfl (by decide) rfl (fun ls hl => ?_)
            refine lv_goto (tgt := 73) hx hb dX6_founds_167 (by decide) ?_
            have e73_8 : (nI (k73 + 1) : Int32) = (nI k73) + 1 := (nI_1 _).symm
            have eS73 : uR M (foL (fouB (mR M) a p x y sc) p (mR M 3) x y (64 >>> (sc &&& 31)) (k73 + 1)) = uR M (foL (fouB (mR M) a p x y sc) p (mR M 3) x y (64 >>> (sc &&& 31)) k73) := by (try simp only [hg_2, hg_1]) <;> (simp [foL, foLi, c_81, c_101, c_137])
            exact ih73 (k73 + 1) (by omega) (by omega) (mOk_foL (mOk_fouB hA hf1 hp) _ (by have := hA.1; omega)) H locs (by rw [eS73]; exact hP) (by rw [eS73]; exact hD) hS _ (by (try rw [e73_8]); exact lv_sub hl [0, 2, 3, 4, 5, 6, 7, 8, 9] rfl)
          · have c_137 : (iP ((foL (fouB (mR M) a p x y sc) p (mR M 3) x y (64 >>> (sc &&& 31)) k73)) (nI k73)) = true := bI_t c_137
            refine lv_iload hx hb dX6_founds_140 (lv_at hl 0 rfl) ?_
            refine lv_if_eq (tgt := 164) hx hb dX6_founds_142 (by decide) (fun _ => ?_) (fun c_ => absurd (by decide) c_)
            refine lv_iinc (v := (nI k73) + 1) (lv' := [(8, .int ((nI k73) + 1)), (9, .int (0 : Int32)), (7, .int (mCe (g_1) a x y ((64 : Int32) >>> (sc &&& 31)))), (6, .int ((64 : Int32) >>> (sc &&& 31))), (5, .int ((mR M) 3)), (0, .ref (r 0)), (1, .int (p)), (2, .int (x)), (3, .int (y)), (4, .int (sc))]) hx hb dX6_founds_164 hl (k := 1) rfl rfl (by decide) rfl (fun ls hl => ?_)
            refine lv_goto (tgt := 73) hx hb dX6_founds_167 (by decide) ?_
            have e73_8 : (nI (k73 + 1) : Int32) = (nI k73) + 1 := (nI_1 _).symm
            have eS73 : uR M (foL (fouB (mR M) a p x y sc) p (mR M 3) x y (64 >>> (sc &&& 31)) (k73 + 1)) = uR M (foL (fouB (mR M) a p x y sc) p (mR M 3) x y (64 >>> (sc &&& 31)) k73) := by (try simp only [hg_2, hg_1]) <;> (simp [foL, foLi, c_81, c_101, c_137])
            exact ih73 (k73 + 1) (by omega) (by omega) (mOk_foL (mOk_fouB hA hf1 hp) _ (by have := hA.1; omega)) H locs (by rw [eS73]; exact hP) (by rw [eS73]; exact hD) hS _ (by (try rw [e73_8]); exact lv_sub hl [0, 2, 3, 4, 5, 6, 7, 8, 9] rfl)
        · have c_101 : (btw (oP ((foL (fouB (mR M) a p x y sc) p (mR M 3) x y (64 >>> (sc &&& 31)) k73)) (nI k73) (0 : Int32)) x ((x + ((64 : Int32) >>> (sc &&& 31))) - (1 : Int32))) = true := bI_t c_101
          refine lv_aload_n hx hb dX6_founds_104 rfl (lv_at hl 4 rfl) ?_
          refine lv_iload hx hb dX6_founds_105 (lv_at hl 0 rfl) ?_
          refine lv_iconst (v := 1) hx hb dX6_founds_107 (by decide) ?_
          refine z_ro (va_runV (As := [.int (nI k73), .int (1 : Int32)]) (rest := []) ⟨hx, hb, hml, hown, hz⟩ (c_X6_ofPoint l D cI cQ r (uR M (foL (fouB (mR M) a p x y sc) p (mR M 3) x y (64 >>> (sc &&& 31)) k73)) (nI k73) (1 : Int32) (ix1 (kin hk_73 (by have := hA.1; omega)) (z_inC (by decide) (by decide)))) (zcwV 2 hz q3_160 q3_162 qs_25 q1_7 q3_163 hd_X6_ofPoint (Nat.le_of_ble_eq_true rfl) (Nat.le_of_ble_eq_true rfl)) (z_pv (ci := 6) (q := (RX6, TX6, 3)) hK hP rfl rfl) rfl rfl hl.1 rfl (lv_room (Nat.le_of_ble_eq_true rfl)) dX6_founds_108 ⟨(Nat.le_of_ble_eq_true rfl), (Nat.le_of_ble_eq_true rfl)⟩) ?_
          refine lv_iload_n hx hb dX6_founds_111 rfl (lv_at hl 7 rfl) ?_
          refine lv_iload_n hx hb dX6_founds_112 rfl (lv_at hl 7 rfl) ?_
          refine lv_iload hx hb dX6_founds_113 (lv_at hl 2 rfl) ?_
          refine lv_iadd hx hb dX6_founds_115 ?_
          refine lv_iconst (v := 1) hx hb dX6_founds_116 (by decide) ?_
          refine lv_isub hx hb dX6_founds_117 ?_
          refine z_ro (va_runS (As := [.int (oP ((foL (fouB (mR M) a p x y sc) p (mR M 3) x y (64 >>> (sc &&& 31)) k73)) (nI k73) (1 : Int32)), .int (y), .int ((y + ((64 : Int32) >>> (sc &&& 31))) - (1 : Int32))]) (rest := []) ⟨hx, hb, hml, hown, hz⟩ (c_X6_in l D cI cQ (oP ((foL (fouB (mR M) a p x y sc) p (mR M 3) x y (64 >>> (sc &&& 31)) k73)) (nI k73) (1 : Int32)) y ((y + ((64 : Int32) >>> (sc &&& 31))) - (1 : Int32))) (zcwS 3 hz q3_105 q3_106 q1_7 q3_107 hd_X6_in (Nat.le_of_ble_eq_true rfl) (Nat.le_of_ble_eq_true rfl)) (z_ps hK z_nil) rfl rfl hl.1 rfl (lv_room (Nat.le_of_ble_eq_true rfl)) dX6_founds_118 ⟨(Nat.le_of_ble_eq_true rfl), (Nat.le_of_ble_eq_true rfl)⟩) ?_
          refine lv_if_eq (tgt := 128) hx hb dX6_founds_121 (by decide) (fun c_121 => ?_) (fun c_121 => ?_)
          · have c_121 : (btw (oP ((foL (fouB (mR M) a p x y sc) p (mR M 3) x y (64 >>> (sc &&& 31)) k73)) (nI k73) (1 : Int32)) y ((y + ((64 : Int32) >>> (sc &&& 31))) - (1 : Int32))) = false := bI_f c_121
            refine lv_iconst (v := 0) hx hb dX6_founds_128 (by decide) ?_
            refine lv_istore (lv' := [(9, .int (0 : Int32)), (8, .int (nI k73)), (7, .int (mCe (g_1) a x y ((64 : Int32) >>> (sc &&& 31)))), (6, .int ((64 : Int32) >>> (sc &&& 31))), (5, .int ((mR M) 3)), (0, .ref (r 0)), (1, .int (p)), (2, .int (x)), (3, .int (y)), (4, .int (sc))]) hx hb dX6_founds_129 hl (by decide) rfl (fun ls hl => ?_)
            refine lv_aload_n hx hb dX6_founds_131 rfl (lv_at hl 5 rfl) ?_
            refine lv_iload hx hb dX6_founds_132 (lv_at hl 1 rfl) ?_
            refine z_ro (va_runV (As := [.int (nI k73)]) (rest := []) ⟨hx, hb, hml, hown, hz⟩ (c_X6_isPoint l D cI cQ r (uR M (foL (fouB (mR M) a p x y sc) p (mR M 3) x y (64 >>> (sc &&& 31)) k73)) (nI k73) (a) (f + 1) (hB)) (zcwV 1 hz q3_156 q3_158 qs_24 q1_7 q3_159 hd_X6_isPoint (Nat.le_of_ble_eq_true rfl) (Nat.le_of_ble_eq_true rfl)) (z_pv (ci := 6) (q := (RX6, TX6, 3)) hK hP rfl rfl) rfl rfl hl.1 rfl (lv_room (Nat.le_of_ble_eq_true rfl)) dX6_founds_134 ⟨(Nat.le_of_ble_eq_true rfl), (Nat.le_of_ble_eq_true rfl)⟩) ?_
            refine lv_if_eq (tgt := 164) hx hb dX6_founds_137 (by decide) (fun c_137 => ?_) (fun c_137 => ?_)
            · have c_137 : (iP ((foL (fouB (mR M) a p x y sc) p (mR M 3) x y (64 >>> (sc &&& 31)) k73)) (nI k73)) = false := bI_f c_137
              refine lv_iinc (v := (nI k73) + 1) (lv' := [(8, .int ((nI k73) + 1)), (9, .int (0 : Int32)), (7, .int (mCe (g_1) a x y ((64 : Int32) >>> (sc &&& 31)))), (6, .int ((64 : Int32) >>> (sc &&& 31))), (5, .int ((mR M) 3)), (0, .ref (r 0)), (1, .int (p)), (2, .int (x)), (3, .int (y)), (4, .int (sc))]) hx hb dX6_founds_164 hl (k := 1) rfl rfl (by decide) rfl (fun ls hl => ?_)
              refine lv_goto (tgt := 73) hx hb dX6_founds_167 (by decide) ?_
              have e73_8 : (nI (k73 + 1) : Int32) = (nI k73) + 1 := (nI_1 _).symm
              have eS73 : uR M (foL (fouB (mR M) a p x y sc) p (mR M 3) x y (64 >>> (sc &&& 31)) (k73 + 1)) = uR M (foL (fouB (mR M) a p x y sc) p (mR M 3) x y (64 >>> (sc &&& 31)) k73) := by (try simp only [hg_2, hg_1]) <;> (simp [foL, foLi, c_81, c_101, c_121, c_137])
              exact ih73 (k73 + 1) (by omega) (by omega) (mOk_foL (mOk_fouB hA hf1 hp) _ (by have := hA.1; omega)) H locs (by rw [eS73]; exact hP) (by rw [eS73]; exact hD) hS _ (by (try rw [e73_8]); exact lv_sub hl [0, 2, 3, 4, 5, 6, 7, 8, 9] rfl)
            · have c_137 : (iP ((foL (fouB (mR M) a p x y sc) p (mR M 3) x y (64 >>> (sc &&& 31)) k73)) (nI k73)) = true := bI_t c_137
              refine lv_iload hx hb dX6_founds_140 (lv_at hl 0 rfl) ?_
              refine lv_if_eq (tgt := 164) hx hb dX6_founds_142 (by decide) (fun _ => ?_) (fun c_ => absurd (by decide) c_)
              refine lv_iinc (v := (nI k73) + 1) (lv' := [(8, .int ((nI k73) + 1)), (9, .int (0 : Int32)), (7, .int (mCe (g_1) a x y ((64 : Int32) >>> (sc &&& 31)))), (6, .int ((64 : Int32) >>> (sc &&& 31))), (5, .int ((mR M) 3)), (0, .ref (r 0)), (1, .int (p)), (2, .int (x)), (3, .int (y)), (4, .int (sc))]) hx hb dX6_founds_164 hl (k := 1) rfl rfl (by decide) rfl (fun ls hl => ?_)
              refine lv_goto (tgt := 73) hx hb dX6_founds_167 (by decide) ?_
              have e73_8 : (nI (k73 + 1) : Int32) = (nI k73) + 1 := (nI_1 _).symm
              have eS73 : uR M (foL (fouB (mR M) a p x y sc) p (mR M 3) x y (64 >>> (sc &&& 31)) (k73 + 1)) = uR M (foL (fouB (mR M) a p x y sc) p (mR M 3) x y (64 >>> (sc &&& 31)) k73) := by (try simp only [hg_2, hg_1]) <;> (simp [foL, foLi, c_81, c_101, c_121, c_137])
              exact ih73 (k73 + 1) (by omega) (by omega) (mOk_foL (mOk_fouB hA hf1 hp) _ (by have := hA.1; omega)) H locs (by rw [eS73]; exact hP) (by rw [eS73]; exact hD) hS _ (by (try rw [e73_8]); exact lv_sub hl [0, 2, 3, 4, 5, 6, 7, 8, 9] rfl)
          · have c_121 : (btw (oP ((foL (fouB (mR M) a p x y sc) p (mR M 3) x y (64 >>> (sc &&& 31)) k73)) (nI k73) (1 : Int32)) y ((y + ((64 : Int32) >>> (sc &&& 31))) - (1 : Int32))) = true := bI_t c_121
            refine lv_iconst (v := 1) hx hb dX6_founds_124 (by decide) ?_
            refine lv_goto (tgt := 129) hx hb dX6_founds_125 (by decide) ?_
            refine lv_istore (lv' := [(9, .int (1 : Int32)), (8, .int (nI k73)), (7, .int (mCe (g_1) a x y ((64 : Int32) >>> (sc &&& 31)))), (6, .int ((64 : Int32) >>> (sc &&& 31))), (5, .int ((mR M) 3)), (0, .ref (r 0)), (1, .int (p)), (2, .int (x)), (3, .int (y)), (4, .int (sc))]) hx hb dX6_founds_129 hl (by decide) rfl (fun ls hl => ?_)
            refine lv_aload_n hx hb dX6_founds_131 rfl (lv_at hl 5 rfl) ?_
            refine lv_iload hx hb dX6_founds_132 (lv_at hl 1 rfl) ?_
            refine z_ro (va_runV (As := [.int (nI k73)]) (rest := []) ⟨hx, hb, hml, hown, hz⟩ (c_X6_isPoint l D cI cQ r (uR M (foL (fouB (mR M) a p x y sc) p (mR M 3) x y (64 >>> (sc &&& 31)) k73)) (nI k73) (a) (f + 1) (hB)) (zcwV 1 hz q3_156 q3_158 qs_24 q1_7 q3_159 hd_X6_isPoint (Nat.le_of_ble_eq_true rfl) (Nat.le_of_ble_eq_true rfl)) (z_pv (ci := 6) (q := (RX6, TX6, 3)) hK hP rfl rfl) rfl rfl hl.1 rfl (lv_room (Nat.le_of_ble_eq_true rfl)) dX6_founds_134 ⟨(Nat.le_of_ble_eq_true rfl), (Nat.le_of_ble_eq_true rfl)⟩) ?_
            refine lv_if_eq (tgt := 164) hx hb dX6_founds_137 (by decide) (fun c_137 => ?_) (fun c_137 => ?_)
            · have c_137 : (iP ((foL (fouB (mR M) a p x y sc) p (mR M 3) x y (64 >>> (sc &&& 31)) k73)) (nI k73)) = false := bI_f c_137
              refine lv_iinc (v := (nI k73) + 1) (lv' := [(8, .int ((nI k73) + 1)), (9, .int (1 : Int32)), (7, .int (mCe (g_1) a x y ((64 : Int32) >>> (sc &&& 31)))), (6, .int ((64 : Int32) >>> (sc &&& 31))), (5, .int ((mR M) 3)), (0, .ref (r 0)), (1, .int (p)), (2, .int (x)), (3, .int (y)), (4, .int (sc))]) hx hb dX6_founds_164 hl (k := 1) rfl rfl (by decide) rfl (fun ls hl => ?_)
              refine lv_goto (tgt := 73) hx hb dX6_founds_167 (by decide) ?_
              have e73_8 : (nI (k73 + 1) : Int32) = (nI k73) + 1 := (nI_1 _).symm
              have eS73 : uR M (foL (fouB (mR M) a p x y sc) p (mR M 3) x y (64 >>> (sc &&& 31)) (k73 + 1)) = uR M (foL (fouB (mR M) a p x y sc) p (mR M 3) x y (64 >>> (sc &&& 31)) k73) := by (try simp only [hg_2, hg_1]) <;> (simp [foL, foLi, c_81, c_101, c_121, c_137])
              exact ih73 (k73 + 1) (by omega) (by omega) (mOk_foL (mOk_fouB hA hf1 hp) _ (by have := hA.1; omega)) H locs (by rw [eS73]; exact hP) (by rw [eS73]; exact hD) hS _ (by (try rw [e73_8]); exact lv_sub hl [0, 2, 3, 4, 5, 6, 7, 8, 9] rfl)
            · have c_137 : (iP ((foL (fouB (mR M) a p x y sc) p (mR M 3) x y (64 >>> (sc &&& 31)) k73)) (nI k73)) = true := bI_t c_137
              refine lv_iload hx hb dX6_founds_140 (lv_at hl 0 rfl) ?_
              refine lv_if_eq (tgt := 164) hx hb dX6_founds_142 (by decide) (fun c_ => absurd c_ (by decide)) (fun _ => ?_)
              refine lv_aload_n hx hb dX6_founds_145 rfl (lv_at hl 5 rfl) ?_
              refine lv_iload hx hb dX6_founds_146 (lv_at hl 1 rfl) ?_
              refine lv_iconst (v := 4) hx hb dX6_founds_148 (by decide) ?_
              refine z_ro (va_runV (As := [.int (nI k73), .int (4 : Int32)]) (rest := []) ⟨hx, hb, hml, hown, hz⟩ (c_X6_ofPoint l D cI cQ r (uR M (foL (fouB (mR M) a p x y sc) p (mR M 3) x y (64 >>> (sc &&& 31)) k73)) (nI k73) (4 : Int32) (ix1 (kin hk_73 (by have := hA.1; omega)) (z_inC (by decide) (by decide)))) (zcwV 2 hz q3_160 q3_162 qs_25 q1_7 q3_163 hd_X6_ofPoint (Nat.le_of_ble_eq_true rfl) (Nat.le_of_ble_eq_true rfl)) (z_pv (ci := 6) (q := (RX6, TX6, 3)) hK hP rfl rfl) rfl rfl hl.1 rfl (lv_room (Nat.le_of_ble_eq_true rfl)) dX6_founds_149 ⟨(Nat.le_of_ble_eq_true rfl), (Nat.le_of_ble_eq_true rfl)⟩) ?_
              refine lv_iload_n hx hb dX6_founds_152 rfl (lv_at hl 6 rfl) ?_
              refine lv_icmp_ne (tgt := 164) hx hb dX6_founds_153 (by decide) (fun c_153 => ?_) (fun c_153 => ?_)
              · have c_153 : ¬ ((oP ((foL (fouB (mR M) a p x y sc) p (mR M 3) x y (64 >>> (sc &&& 31)) k73)) (nI k73) (4 : Int32) : Int32) = p) := c_153
                refine lv_iinc (v := (nI k73) + 1) (lv' := [(8, .int ((nI k73) + 1)), (9, .int (1 : Int32)), (7, .int (mCe (g_1) a x y ((64 : Int32) >>> (sc &&& 31)))), (6, .int ((64 : Int32) >>> (sc &&& 31))), (5, .int ((mR M) 3)), (0, .ref (r 0)), (1, .int (p)), (2, .int (x)), (3, .int (y)), (4, .int (sc))]) hx hb dX6_founds_164 hl (k := 1) rfl rfl (by decide) rfl (fun ls hl => ?_)
                refine lv_goto (tgt := 73) hx hb dX6_founds_167 (by decide) ?_
                have e73_8 : (nI (k73 + 1) : Int32) = (nI k73) + 1 := (nI_1 _).symm
                have eS73 : uR M (foL (fouB (mR M) a p x y sc) p (mR M 3) x y (64 >>> (sc &&& 31)) (k73 + 1)) = uR M (foL (fouB (mR M) a p x y sc) p (mR M 3) x y (64 >>> (sc &&& 31)) k73) := by (try simp only [hg_2, hg_1]) <;> (simp [foL, foLi, c_81, c_101, c_121, c_137, c_153])
                exact ih73 (k73 + 1) (by omega) (by omega) (mOk_foL (mOk_fouB hA hf1 hp) _ (by have := hA.1; omega)) H locs (by rw [eS73]; exact hP) (by rw [eS73]; exact hD) hS _ (by (try rw [e73_8]); exact lv_sub hl [0, 2, 3, 4, 5, 6, 7, 8, 9] rfl)
              · have c_153 : (oP ((foL (fouB (mR M) a p x y sc) p (mR M 3) x y (64 >>> (sc &&& 31)) k73)) (nI k73) (4 : Int32) : Int32) = p := c_153
                refine lv_aload_n hx hb dX6_founds_156 rfl (lv_at hl 5 rfl) ?_
                refine lv_iload hx hb dX6_founds_157 (lv_at hl 1 rfl) ?_
                refine lv_iload hx hb dX6_founds_159 (lv_at hl 4 rfl) ?_
                obtain ⟨g_3, hg_3⟩ : ∃ z : FI, z = sLo ((foL (fouB (mR M) a p x y sc) p (mR M 3) x y (64 >>> (sc &&& 31)) k73)) (nI k73) ((mR M) 3) := ⟨_, rfl⟩
                refine z_wv (X' := zMod cI r (uR M g_3)) (va_runV (As := [.int (nI k73), .int ((mR M) 3)]) (rest := []) ⟨hx, hb, hml, hown, hz⟩ (c_X6_setLord l D cI cQ r (uR M (foL (fouB (mR M) a p x y sc) p (mR M 3) x y (64 >>> (sc &&& 31)) k73)) (nI k73) ((mR M) 3) (kin hk_73 (by have := hA.1; omega)) g_3 hg_3) (zcwV 2 hz q3_132 q3_134 qs_18 q1_7 q3_135 hd_X6_setLord (Nat.le_of_ble_eq_true rfl) (Nat.le_of_ble_eq_true rfl)) (z_pvw (ci := 6) (q := (RX6, TX6, 3)) hK hP hD rfl rfl) rfl rfl hl.1 rfl (lv_room (Nat.le_of_ble_eq_true rfl)) dX6_founds_161 ⟨(Nat.le_of_ble_eq_true rfl), (Nat.le_of_ble_eq_true rfl)⟩) hP hD hS [0, 1, 2] rfl rfl rfl (fun H locs hP hD hS => ?_)
                refine lv_iinc (v := (nI k73) + 1) (lv' := [(8, .int ((nI k73) + 1)), (9, .int (1 : Int32)), (7, .int (mCe (g_1) a x y ((64 : Int32) >>> (sc &&& 31)))), (6, .int ((64 : Int32) >>> (sc &&& 31))), (5, .int ((mR M) 3)), (0, .ref (r 0)), (1, .int (p)), (2, .int (x)), (3, .int (y)), (4, .int (sc))]) hx hb dX6_founds_164 hl (k := 1) rfl rfl (by decide) rfl (fun ls hl => ?_)
                refine lv_goto (tgt := 73) hx hb dX6_founds_167 (by decide) ?_
                have e73_8 : (nI (k73 + 1) : Int32) = (nI k73) + 1 := (nI_1 _).symm
                have eS73 : uR M (foL (fouB (mR M) a p x y sc) p (mR M 3) x y (64 >>> (sc &&& 31)) (k73 + 1)) = uR M g_3 := by (try simp only [hg_3, hg_2, hg_1]) <;> (simp [foL, foLi, c_81, c_101, c_121, c_137, c_153])
                exact ih73 (k73 + 1) (by omega) (by omega) (mOk_foL (mOk_fouB hA hf1 hp) _ (by have := hA.1; omega)) H locs (by rw [eS73]; exact hP) (by rw [eS73]; exact hD) hS _ (by (try rw [e73_8]); exact lv_sub hl [0, 2, 3, 4, 5, 6, 7, 8, 9] rfl)
  have e73_8 : (nI 0 : Int32) = (0 : Int32) := rfl
  have eS73 : uR M (foL (fouB (mR M) a p x y sc) p (mR M 3) x y (64 >>> (sc &&& 31)) 0) = uR M g_2 := by (try simp only [hg_2, hg_1]) <;> (rfl)
  exact L73 (a + 1) (0) (Nat.zero_le _) (by omega) (mOk_foL (mOk_fouB hA hf1 hp) 0 (by omega)) H locs (by rw [eS73]; exact hP) (by rw [eS73]; exact hD) hS _ (by (try rw [e73_8]); exact lv_sub hl [0, 1, 2, 3, 4, 5, 6, 7, 8] rfl)
set_option maxHeartbeats 1000000 in
set_option maxRecDepth 100000 in
theorem c_X6_splits (l : Launch) (D : va_G) (cI cQ : ClassId) (r : Nat → Nat) (M : MS) (p : Int32) (a : Nat) (f : Nat) (hA : mOk (mR M) a f) (hf4 : f + 4 ≤ 60) (hp : vp_in p 100) (g1 : FI) (hg1 : g1 = spl (mR M) a p) : zWR l yX6_splits (Cond.code yX6_splits cX6_splits 10 (none) :: zT) 5 121 [.ref (r 0), .int p] D cI cQ (zMod cI r M) none (zMod cI r (uR M g1)) := by
  refine zWR.of (cc := cX6_splits) (maxL := 10) (ret := none) (by decide +kernel) rfl (Nat.le_of_ble_eq_true rfl) ?_
  intro pg e s mi args below meth cd hx hb hr hts hown hlocks hml hP hD hS hK ls hl
  have hz : ∀ w ∈ zT, w.before args s = true := fun w h => hts w (List.mem_cons_of_mem _ h)
  have hl : lv_has ls 10 [(0, .ref (r 0)), (1, .int (p))] := hl
  refine lv_aload_n hx hb dX6_splits_0 rfl (lv_at hl 0 rfl) ?_
  refine lv_iload_n hx hb dX6_splits_1 rfl (lv_at hl 1 rfl) ?_
  refine lv_iconst (v := 1) hx hb dX6_splits_2 (by decide) ?_
  refine z_ro (va_runV (As := [.int (p), .int (1 : Int32)]) (rest := []) ⟨hx, hb, hml, hown, hz⟩ (c_X6_ofParish l D cI cQ r M p (1 : Int32) (ix2 (Or.inl hp) (z_inC (by decide) (by decide)))) (zcwV 2 hz q3_120 q3_122 qs_15 q1_7 q3_123 hd_X6_ofParish (Nat.le_of_ble_eq_true rfl) (Nat.le_of_ble_eq_true rfl)) (z_pv (ci := 6) (q := (RX6, TX6, 3)) hK hP rfl rfl) rfl rfl hl.1 rfl (lv_room (Nat.le_of_ble_eq_true rfl)) dX6_splits_3 ⟨(Nat.le_of_ble_eq_true rfl), (Nat.le_of_ble_eq_true rfl)⟩) ?_
  refine lv_istore_n (lv' := [(2, .int (spX (mR M) p)), (0, .ref (r 0)), (1, .int (p))]) hx hb dX6_splits_6 rfl hl (by decide) rfl (fun ls hl => ?_)
  refine lv_aload_n hx hb dX6_splits_7 rfl (lv_at hl 1 rfl) ?_
  refine lv_iload_n hx hb dX6_splits_8 rfl (lv_at hl 2 rfl) ?_
  refine lv_iconst (v := 2) hx hb dX6_splits_9 (by decide) ?_
  refine z_ro (va_runV (As := [.int (p), .int (2 : Int32)]) (rest := []) ⟨hx, hb, hml, hown, hz⟩ (c_X6_ofParish l D cI cQ r M p (2 : Int32) (ix2 (Or.inl hp) (z_inC (by decide) (by decide)))) (zcwV 2 hz q3_120 q3_122 qs_15 q1_7 q3_123 hd_X6_ofParish (Nat.le_of_ble_eq_true rfl) (Nat.le_of_ble_eq_true rfl)) (z_pv (ci := 6) (q := (RX6, TX6, 3)) hK hP rfl rfl) rfl rfl hl.1 rfl (lv_room (Nat.le_of_ble_eq_true rfl)) dX6_splits_10 ⟨(Nat.le_of_ble_eq_true rfl), (Nat.le_of_ble_eq_true rfl)⟩) ?_
  refine lv_istore_n (lv' := [(3, .int (spY (mR M) p)), (2, .int (spX (mR M) p)), (0, .ref (r 0)), (1, .int (p))]) hx hb dX6_splits_13 rfl hl (by decide) rfl (fun ls hl => ?_)
  refine lv_aload_n hx hb dX6_splits_14 rfl (lv_at hl 2 rfl) ?_
  refine lv_iload_n hx hb dX6_splits_15 rfl (lv_at hl 3 rfl) ?_
  refine lv_iconst (v := 3) hx hb dX6_splits_16 (by decide) ?_
  refine z_ro (va_runV (As := [.int (p), .int (3 : Int32)]) (rest := []) ⟨hx, hb, hml, hown, hz⟩ (c_X6_ofParish l D cI cQ r M p (3 : Int32) (ix2 (Or.inl hp) (z_inC (by decide) (by decide)))) (zcwV 2 hz q3_120 q3_122 qs_15 q1_7 q3_123 hd_X6_ofParish (Nat.le_of_ble_eq_true rfl) (Nat.le_of_ble_eq_true rfl)) (z_pv (ci := 6) (q := (RX6, TX6, 3)) hK hP rfl rfl) rfl rfl hl.1 rfl (lv_room (Nat.le_of_ble_eq_true rfl)) dX6_splits_17 ⟨(Nat.le_of_ble_eq_true rfl), (Nat.le_of_ble_eq_true rfl)⟩) ?_
  refine lv_iconst (v := 1) hx hb dX6_splits_20 (by decide) ?_
  refine lv_iadd hx hb dX6_splits_21 ?_
  refine lv_istore (lv' := [(4, .int (spC (mR M) p)), (3, .int (spY (mR M) p)), (2, .int (spX (mR M) p)), (0, .ref (r 0)), (1, .int (p))]) hx hb dX6_splits_22 hl (by decide) rfl (fun ls hl => ?_)
  refine lv_bipush (v := 64) hx hb dX6_splits_24 (by decide) ?_
  refine lv_iload hx hb dX6_splits_26 (lv_at hl 0 rfl) ?_
  refine lv_ishr hx hb dX6_splits_28 ?_
  refine lv_istore (lv' := [(5, .int (spH (mR M) p)), (4, .int (spC (mR M) p)), (3, .int (spY (mR M) p)), (2, .int (spX (mR M) p)), (0, .ref (r 0)), (1, .int (p))]) hx hb dX6_splits_29 hl (by decide) rfl (fun ls hl => ?_)
  refine lv_iconst (v := 0) hx hb dX6_splits_31 (by decide) ?_
  refine lv_istore (lv' := [(6, .int (0 : Int32)), (5, .int (spH (mR M) p)), (4, .int (spC (mR M) p)), (3, .int (spY (mR M) p)), (2, .int (spX (mR M) p)), (0, .ref (r 0)), (1, .int (p))]) hx hb dX6_splits_32 hl (by decide) rfl (fun ls hl => ?_)
  refine lv_iconst (v := (-1)) hx hb dX6_splits_34 (by decide) ?_
  refine lv_istore (lv' := [(7, .int (-1 : Int32)), (6, .int (0 : Int32)), (5, .int (spH (mR M) p)), (4, .int (spC (mR M) p)), (3, .int (spY (mR M) p)), (2, .int (spX (mR M) p)), (0, .ref (r 0)), (1, .int (p))]) hx hb dX6_splits_35 hl (by decide) rfl (fun ls hl => ?_)
  refine lv_iconst (v := 0) hx hb dX6_splits_37 (by decide) ?_
  refine lv_istore (lv' := [(8, .int (0 : Int32)), (7, .int (-1 : Int32)), (6, .int (0 : Int32)), (5, .int (spH (mR M) p)), (4, .int (spC (mR M) p)), (3, .int (spY (mR M) p)), (2, .int (spX (mR M) p)), (0, .ref (r 0)), (1, .int (p))]) hx hb dX6_splits_38 hl (by decide) rfl (fun ls hl => ?_)
  have L40 : ∀ (n40 k40 : Nat), k40 ≤ 4 → 4 < k40 + n40 → ∀ (ls : Array Slot), lv_has ls 10 [(8, .int (nI k40)), (6, .int ((mFq (mR M) a (spX (mR M) p) (spY (mR M) p) (spH (mR M) p) k40).1)), (7, .int ((mFq (mR M) a (spX (mR M) p) (spY (mR M) p) (spH (mR M) p) k40).2)), (5, .int (spH (mR M) p)), (4, .int (spC (mR M) p)), (3, .int (spY (mR M) p)), (2, .int (spX (mR M) p)), (0, .ref (r 0)), (1, .int (p))] → W pg l e ({ frames := 5, cells := 0, slots := 0, locals := 121 }) s mi args below meth cd s.heap [] 0 0 (MQ below (zQ D (zMod cI r M) none (zMod cI r (uR M g1))) args s 0 0 (zA (zMod cI r M))) (F0 mi 40 ls []) := by
    intro n40
    induction n40 with
    | zero => intro k40 h1 h2; exact absurd h2 (by omega)
    | succ n40 ih40 =>
      intro k40 h1_40 h2_40  ls hl
      refine lv_iload hx hb dX6_splits_40 (lv_at hl 0 rfl) ?_
      refine lv_iconst (v := 4) hx hb dX6_splits_42 (by decide) ?_
      refine lv_icmp_ge (tgt := 110) hx hb dX6_splits_43 (by decide) (fun c_43 => ?_) (fun c_43 => ?_)
      · have c_43 : ((4 : Int32) : Int32) ≤ nI k40 := c_43
        have hk_40 : k40 = 4 := z_exit (by decide) h1_40 c_43
        refine lv_aload_n hx hb dX6_splits_110 rfl (lv_at hl 7 rfl) ?_
        refine lv_iload_n hx hb dX6_splits_111 rfl (lv_at hl 8 rfl) ?_
        refine lv_iload_n hx hb dX6_splits_112 rfl (lv_at hl 6 rfl) ?_
        refine lv_iload hx hb dX6_splits_113 (lv_at hl 3 rfl) ?_
        refine lv_iload hx hb dX6_splits_115 (lv_at hl 1 rfl) ?_
        refine lv_iconst (v := 2) hx hb dX6_splits_117 (by decide) ?_
        refine lv_irem hx hb dX6_splits_118 (by decide) ?_
        refine lv_imul hx hb dX6_splits_119 ?_
        refine lv_iadd hx hb dX6_splits_120 ?_
        refine lv_iload_n hx hb dX6_splits_121 rfl (lv_at hl 5 rfl) ?_
        refine lv_iload hx hb dX6_splits_122 (lv_at hl 3 rfl) ?_
        refine lv_iload hx hb dX6_splits_124 (lv_at hl 1 rfl) ?_
        refine lv_iconst (v := 2) hx hb dX6_splits_126 (by decide) ?_
        refine lv_idiv hx hb dX6_splits_127 (by decide) ?_
        refine lv_imul hx hb dX6_splits_128 ?_
        refine lv_iadd hx hb dX6_splits_129 ?_
        refine lv_iload hx hb dX6_splits_130 (lv_at hl 4 rfl) ?_
        obtain ⟨g_1, hg_1⟩ : ∃ z : FI, z = sPa ((mR M)) p ((spX (mR M) p) + ((spH (mR M) p) * (((mFq (mR M) a (spX (mR M) p) (spY (mR M) p) (spH (mR M) p) k40).1) - ((mFq (mR M) a (spX (mR M) p) (spY (mR M) p) (spH (mR M) p) k40).1) / (2 : Int32) * (2 : Int32)))) ((spY (mR M) p) + ((spH (mR M) p) * (((mFq (mR M) a (spX (mR M) p) (spY (mR M) p) (spH (mR M) p) k40).1) / (2 : Int32)))) (spC (mR M) p) := ⟨_, rfl⟩
        refine z_wv (X' := zMod cI r (uR M g_1)) (va_runV (As := [.int (p), .int ((spX (mR M) p) + ((spH (mR M) p) * (((mFq (mR M) a (spX (mR M) p) (spY (mR M) p) (spH (mR M) p) k40).1) - ((mFq (mR M) a (spX (mR M) p) (spY (mR M) p) (spH (mR M) p) k40).1) / (2 : Int32) * (2 : Int32)))), .int ((spY (mR M) p) + ((spH (mR M) p) * (((mFq (mR M) a (spX (mR M) p) (spY (mR M) p) (spH (mR M) p) k40).1) / (2 : Int32)))), .int (spC (mR M) p)]) (rest := []) ⟨hx, hb, hml, hown, hz⟩ (c_X6_setParish l D cI cQ r M p ((spX (mR M) p) + ((spH (mR M) p) * (((mFq (mR M) a (spX (mR M) p) (spY (mR M) p) (spH (mR M) p) k40).1) - ((mFq (mR M) a (spX (mR M) p) (spY (mR M) p) (spH (mR M) p) k40).1) / (2 : Int32) * (2 : Int32)))) ((spY (mR M) p) + ((spH (mR M) p) * (((mFq (mR M) a (spX (mR M) p) (spY (mR M) p) (spH (mR M) p) k40).1) / (2 : Int32)))) (spC (mR M) p) (hp) g_1 hg_1) (zcwV 4 hz q3_168 q3_170 qs_27 q1_7 q3_171 hd_X6_setParish (Nat.le_of_ble_eq_true rfl) (Nat.le_of_ble_eq_true rfl)) (z_pvw (ci := 6) (q := (RX6, TX6, 3)) hK hP hD rfl rfl) rfl rfl hl.1 rfl (lv_room (Nat.le_of_ble_eq_true rfl)) dX6_splits_132 ⟨(Nat.le_of_ble_eq_true rfl), (Nat.le_of_ble_eq_true rfl)⟩) hP hD hS [0, 1, 2] rfl rfl rfl (fun H locs hP hD hS => ?_)
        refine lv_iconst (v := 0) hx hb dX6_splits_135 (by decide) ?_
        refine lv_istore (lv' := [(8, .int (0 : Int32)), (6, .int ((mFq (mR M) a (spX (mR M) p) (spY (mR M) p) (spH (mR M) p) k40).1)), (7, .int ((mFq (mR M) a (spX (mR M) p) (spY (mR M) p) (spH (mR M) p) k40).2)), (5, .int (spH (mR M) p)), (4, .int (spC (mR M) p)), (3, .int (spY (mR M) p)), (2, .int (spX (mR M) p)), (0, .ref (r 0)), (1, .int (p))]) hx hb dX6_splits_136 hl (by decide) rfl (fun ls hl => ?_)
        have L138 : ∀ (n138 k138 : Nat), k138 ≤ 4 → 4 < k138 + n138 → ∀ (H : Heap) (locs : List Loc), va_P D vwCl (zMod cI r (uR M (spq (mR M) a p k138))) H → va_D (zA (zMod cI r M)) (zMod cI r (uR M (spq (mR M) a p k138))) → va_S (zA (zMod cI r M)) s.heap H locs → ∀ (ls : Array Slot), lv_has ls 10 [(8, .int (nI k138)), (6, .int (spE (mR M) a p)), (7, .int ((mFq (mR M) a (spX (mR M) p) (spY (mR M) p) (spH (mR M) p) k40).2)), (5, .int (spH (mR M) p)), (4, .int (spC (mR M) p)), (3, .int (spY (mR M) p)), (2, .int (spX (mR M) p)), (0, .ref (r 0)), (1, .int (p))] → W pg l e ({ frames := 5, cells := 0, slots := 0, locals := 121 }) s mi args below meth cd H locs 0 0 (MQ below (zQ D (zMod cI r M) none (zMod cI r (uR M g1))) args s 0 0 (zA (zMod cI r M))) (F0 mi 138 ls []) := by
          intro n138
          induction n138 with
          | zero => intro k138 h1 h2; exact absurd h2 (by omega)
          | succ n138 ih138 =>
            intro k138 h1_138 h2_138  H locs hP hD hS ls hl
            refine lv_iload hx hb dX6_splits_138 (lv_at hl 0 rfl) ?_
            refine lv_iconst (v := 4) hx hb dX6_splits_140 (by decide) ?_
            refine lv_icmp_ge (tgt := 182) hx hb dX6_splits_141 (by decide) (fun c_141 => ?_) (fun c_141 => ?_)
            · have c_141 : ((4 : Int32) : Int32) ≤ nI k138 := c_141
              have hk_138 : k138 = 4 := z_exit (by decide) h1_138 c_141
              exact z_wvret hx hb hr hlocks hP hS (congrArg (fun T => zMod cI r T) (show uR M (spq (mR M) a p k138) = uR M g1 from by (try simp only [hg_1, hg1]) <;> (rw [hk_138]; rfl))) dX6_splits_182
            · have c_141 : ¬ (((4 : Int32) : Int32) ≤ nI k138) := c_141
              have hk_138 : k138 < 4 := z_cont (by decide) h1_138 c_141
              refine lv_iload hx hb dX6_splits_144 (lv_at hl 0 rfl) ?_
              refine lv_iload hx hb dX6_splits_146 (lv_at hl 1 rfl) ?_
              refine lv_icmp_eq (tgt := 176) hx hb dX6_splits_148 (by decide) (fun c_148 => ?_) (fun c_148 => ?_)
              · have c_148 : (nI k138 : Int32) = spE (mR M) a p := c_148
                refine lv_iinc (v := (nI k138) + 1) (lv' := [(8, .int ((nI k138) + 1)), (6, .int (spE (mR M) a p)), (7, .int ((mFq (mR M) a (spX (mR M) p) (spY (mR M) p) (spH (mR M) p) k40).2)), (5, .int (spH (mR M) p)), (4, .int (spC (mR M) p)), (3, .int (spY (mR M) p)), (2, .int (spX (mR M) p)), (0, .ref (r 0)), (1, .int (p))]) hx hb dX6_splits_176 hl (k := 0) rfl rfl (by decide) rfl (fun ls hl => ?_)
                refine lv_goto (tgt := 138) hx hb dX6_splits_179 (by decide) ?_
                have e138_8 : (nI (k138 + 1) : Int32) = (nI k138) + 1 := (nI_1 _).symm
                have eS138 : uR M (spq (mR M) a p (k138 + 1)) = uR M (spq (mR M) a p k138) := by (try simp only [hg_1]) <;> (simp only [spq, c_148, if_true, if_false, mQx, mQy])
                exact ih138 (k138 + 1) (by omega) (by omega) H locs (by rw [eS138]; exact hP) (by rw [eS138]; exact hD) hS _ (by (try rw [e138_8]); exact lv_sub hl [0, 1, 2, 3, 4, 5, 6, 7, 8] rfl)
              · have c_148 : ¬ ((nI k138 : Int32) = spE (mR M) a p) := c_148
                refine lv_aload_n hx hb dX6_splits_151 rfl (lv_at hl 7 rfl) ?_
                refine lv_iload_n hx hb dX6_splits_152 rfl (lv_at hl 8 rfl) ?_
                refine lv_iload_n hx hb dX6_splits_153 rfl (lv_at hl 6 rfl) ?_
                refine lv_iload hx hb dX6_splits_154 (lv_at hl 3 rfl) ?_
                refine lv_iload hx hb dX6_splits_156 (lv_at hl 0 rfl) ?_
                refine lv_iconst (v := 2) hx hb dX6_splits_158 (by decide) ?_
                refine lv_irem hx hb dX6_splits_159 (by decide) ?_
                refine lv_imul hx hb dX6_splits_160 ?_
                refine lv_iadd hx hb dX6_splits_161 ?_
                refine lv_iload_n hx hb dX6_splits_162 rfl (lv_at hl 5 rfl) ?_
                refine lv_iload hx hb dX6_splits_163 (lv_at hl 3 rfl) ?_
                refine lv_iload hx hb dX6_splits_165 (lv_at hl 0 rfl) ?_
                refine lv_iconst (v := 2) hx hb dX6_splits_167 (by decide) ?_
                refine lv_idiv hx hb dX6_splits_168 (by decide) ?_
                refine lv_imul hx hb dX6_splits_169 ?_
                refine lv_iadd hx hb dX6_splits_170 ?_
                refine lv_iload hx hb dX6_splits_171 (lv_at hl 4 rfl) ?_
                obtain ⟨g_2, hg_2⟩ : ∃ z : FI, z = fou ((spq (mR M) a p k138)) a p ((spX (mR M) p) + ((spH (mR M) p) * ((nI k138) - (nI k138) / (2 : Int32) * (2 : Int32)))) ((spY (mR M) p) + ((spH (mR M) p) * ((nI k138) / (2 : Int32)))) (spC (mR M) p) := ⟨_, rfl⟩
                refine z_wv (X' := zMod cI r (uR M g_2)) (va_runV (As := [.int (p), .int ((spX (mR M) p) + ((spH (mR M) p) * ((nI k138) - (nI k138) / (2 : Int32) * (2 : Int32)))), .int ((spY (mR M) p) + ((spH (mR M) p) * ((nI k138) / (2 : Int32)))), .int (spC (mR M) p)]) (rest := []) ⟨hx, hb, hml, hown, hz⟩ (c_X6_founds l D cI cQ r (uR M (spq (mR M) a p k138)) p ((spX (mR M) p) + ((spH (mR M) p) * ((nI k138) - (nI k138) / (2 : Int32) * (2 : Int32)))) ((spY (mR M) p) + ((spH (mR M) p) * ((nI k138) / (2 : Int32)))) (spC (mR M) p) (a) (spn (mR M) a f p k138) (mOk_spq hA hf4 hp _ h1_138) (by have := spn_le (R := mR M) (a := a) (f := f) (p := p) k138; omega) (hp) g_2 hg_2) (zcwV 4 hz q3_172 q3_174 qs_28 q1_7 q3_175 hd_X6_founds (Nat.le_of_ble_eq_true rfl) (Nat.le_of_ble_eq_true rfl)) (z_pvw (ci := 6) (q := (RX6, TX6, 3)) hK hP hD rfl rfl) rfl rfl hl.1 rfl (lv_room (Nat.le_of_ble_eq_true rfl)) dX6_splits_173 ⟨(Nat.le_of_ble_eq_true rfl), (Nat.le_of_ble_eq_true rfl)⟩) hP hD hS [0, 1, 2] rfl rfl rfl (fun H locs hP hD hS => ?_)
                refine lv_iinc (v := (nI k138) + 1) (lv' := [(8, .int ((nI k138) + 1)), (6, .int (spE (mR M) a p)), (7, .int ((mFq (mR M) a (spX (mR M) p) (spY (mR M) p) (spH (mR M) p) k40).2)), (5, .int (spH (mR M) p)), (4, .int (spC (mR M) p)), (3, .int (spY (mR M) p)), (2, .int (spX (mR M) p)), (0, .ref (r 0)), (1, .int (p))]) hx hb dX6_splits_176 hl (k := 0) rfl rfl (by decide) rfl (fun ls hl => ?_)
                refine lv_goto (tgt := 138) hx hb dX6_splits_179 (by decide) ?_
                have e138_8 : (nI (k138 + 1) : Int32) = (nI k138) + 1 := (nI_1 _).symm
                have eS138 : uR M (spq (mR M) a p (k138 + 1)) = uR M g_2 := by (try simp only [hg_2, hg_1]) <;> (simp only [spq, c_148, if_true, if_false, mQx, mQy])
                exact ih138 (k138 + 1) (by omega) (by omega) H locs (by rw [eS138]; exact hP) (by rw [eS138]; exact hD) hS _ (by (try rw [e138_8]); exact lv_sub hl [0, 1, 2, 3, 4, 5, 6, 7, 8] rfl)
        have e138_8 : (nI 0 : Int32) = (0 : Int32) := rfl
        have e138_6 : (spE (mR M) a p : Int32) = (mFq (mR M) a (spX (mR M) p) (spY (mR M) p) (spH (mR M) p) k40).1 := (by rw [hk_40]; rfl)
        have eS138 : uR M (spq (mR M) a p 0) = uR M g_1 := by (try simp only [hg_1]) <;> (rw [hk_40]; rfl)
        exact L138 (4 + 1) (0) (Nat.zero_le _) (by omega) H locs (by rw [eS138]; exact hP) (by rw [eS138]; exact hD) hS _ (by (try rw [e138_8]); (try rw [e138_6]); exact lv_sub hl [0, 1, 2, 3, 4, 5, 6, 7, 8] rfl)
      · have c_43 : ¬ (((4 : Int32) : Int32) ≤ nI k40) := c_43
        have hk_40 : k40 < 4 := z_cont (by decide) h1_40 c_43
        refine lv_aload_n hx hb dX6_splits_46 rfl (lv_at hl 7 rfl) ?_
        refine lv_iload_n hx hb dX6_splits_47 rfl (lv_at hl 6 rfl) ?_
        refine lv_iload hx hb dX6_splits_48 (lv_at hl 3 rfl) ?_
        refine lv_iload hx hb dX6_splits_50 (lv_at hl 0 rfl) ?_
        refine lv_iconst (v := 2) hx hb dX6_splits_52 (by decide) ?_
        refine lv_irem hx hb dX6_splits_53 (by decide) ?_
        refine lv_imul hx hb dX6_splits_54 ?_
        refine lv_iadd hx hb dX6_splits_55 ?_
        refine lv_iload_n hx hb dX6_splits_56 rfl (lv_at hl 5 rfl) ?_
        refine lv_iload hx hb dX6_splits_57 (lv_at hl 3 rfl) ?_
        refine lv_iload hx hb dX6_splits_59 (lv_at hl 0 rfl) ?_
        refine lv_iconst (v := 2) hx hb dX6_splits_61 (by decide) ?_
        refine lv_idiv hx hb dX6_splits_62 (by decide) ?_
        refine lv_imul hx hb dX6_splits_63 ?_
        refine lv_iadd hx hb dX6_splits_64 ?_
        refine lv_iload hx hb dX6_splits_65 (lv_at hl 3 rfl) ?_
        refine z_ro (va_runV (As := [.int ((spX (mR M) p) + ((spH (mR M) p) * ((nI k40) - (nI k40) / (2 : Int32) * (2 : Int32)))), .int ((spY (mR M) p) + ((spH (mR M) p) * ((nI k40) / (2 : Int32)))), .int (spH (mR M) p)]) (rest := []) ⟨hx, hb, hml, hown, hz⟩ (c_X6_pointsInCell l D cI cQ r M ((spX (mR M) p) + ((spH (mR M) p) * ((nI k40) - (nI k40) / (2 : Int32) * (2 : Int32)))) ((spY (mR M) p) + ((spH (mR M) p) * ((nI k40) / (2 : Int32)))) (spH (mR M) p) (a) (f) (hA)) (zcwV 3 hz q3_148 q3_150 qs_22 q1_7 q3_151 hd_X6_pointsInCell (Nat.le_of_ble_eq_true rfl) (Nat.le_of_ble_eq_true rfl)) (z_pv (ci := 6) (q := (RX6, TX6, 3)) hK hP rfl rfl) rfl rfl hl.1 rfl (lv_room (Nat.le_of_ble_eq_true rfl)) dX6_splits_67 ⟨(Nat.le_of_ble_eq_true rfl), (Nat.le_of_ble_eq_true rfl)⟩) ?_
        refine lv_istore (lv' := [(9, .int (mFn (mR M) a (spX (mR M) p) (spY (mR M) p) (spH (mR M) p) (nI k40))), (8, .int (nI k40)), (6, .int ((mFq (mR M) a (spX (mR M) p) (spY (mR M) p) (spH (mR M) p) k40).1)), (7, .int ((mFq (mR M) a (spX (mR M) p) (spY (mR M) p) (spH (mR M) p) k40).2)), (5, .int (spH (mR M) p)), (4, .int (spC (mR M) p)), (3, .int (spY (mR M) p)), (2, .int (spX (mR M) p)), (0, .ref (r 0)), (1, .int (p))]) hx hb dX6_splits_70 hl (by decide) rfl (fun ls hl => ?_)
        refine lv_iload hx hb dX6_splits_72 (lv_at hl 0 rfl) ?_
        refine lv_iload hx hb dX6_splits_74 (lv_at hl 3 rfl) ?_
        refine lv_icmp_le (tgt := 84) hx hb dX6_splits_76 (by decide) (fun c_76 => ?_) (fun c_76 => ?_)
        · have c_76 : (mFn (mR M) a (spX (mR M) p) (spY (mR M) p) (spH (mR M) p) (nI k40) : Int32) ≤ (mFq (mR M) a (spX (mR M) p) (spY (mR M) p) (spH (mR M) p) k40).2 := c_76
          refine lv_iload hx hb dX6_splits_84 (lv_at hl 2 rfl) ?_
          refine lv_istore (lv' := [(6, .int ((mFq (mR M) a (spX (mR M) p) (spY (mR M) p) (spH (mR M) p) k40).1)), (9, .int (mFn (mR M) a (spX (mR M) p) (spY (mR M) p) (spH (mR M) p) (nI k40))), (8, .int (nI k40)), (7, .int ((mFq (mR M) a (spX (mR M) p) (spY (mR M) p) (spH (mR M) p) k40).2)), (5, .int (spH (mR M) p)), (4, .int (spC (mR M) p)), (3, .int (spY (mR M) p)), (2, .int (spX (mR M) p)), (0, .ref (r 0)), (1, .int (p))]) hx hb dX6_splits_86 hl (by decide) rfl (fun ls hl => ?_)
          refine lv_iload hx hb dX6_splits_88 (lv_at hl 1 rfl) ?_
          refine lv_iload hx hb dX6_splits_90 (lv_at hl 3 rfl) ?_
          refine lv_icmp_le (tgt := 100) hx hb dX6_splits_92 (by decide) (fun c_92 => ?_) (fun c_92 => ?_)
          · have c_92 : (mFn (mR M) a (spX (mR M) p) (spY (mR M) p) (spH (mR M) p) (nI k40) : Int32) ≤ (mFq (mR M) a (spX (mR M) p) (spY (mR M) p) (spH (mR M) p) k40).2 := c_92
            refine lv_iload hx hb dX6_splits_100 (lv_at hl 3 rfl) ?_
            refine lv_istore (lv' := [(7, .int ((mFq (mR M) a (spX (mR M) p) (spY (mR M) p) (spH (mR M) p) k40).2)), (6, .int ((mFq (mR M) a (spX (mR M) p) (spY (mR M) p) (spH (mR M) p) k40).1)), (9, .int (mFn (mR M) a (spX (mR M) p) (spY (mR M) p) (spH (mR M) p) (nI k40))), (8, .int (nI k40)), (5, .int (spH (mR M) p)), (4, .int (spC (mR M) p)), (3, .int (spY (mR M) p)), (2, .int (spX (mR M) p)), (0, .ref (r 0)), (1, .int (p))]) hx hb dX6_splits_102 hl (by decide) rfl (fun ls hl => ?_)
            refine lv_iinc (v := (nI k40) + 1) (lv' := [(8, .int ((nI k40) + 1)), (7, .int ((mFq (mR M) a (spX (mR M) p) (spY (mR M) p) (spH (mR M) p) k40).2)), (6, .int ((mFq (mR M) a (spX (mR M) p) (spY (mR M) p) (spH (mR M) p) k40).1)), (9, .int (mFn (mR M) a (spX (mR M) p) (spY (mR M) p) (spH (mR M) p) (nI k40))), (5, .int (spH (mR M) p)), (4, .int (spC (mR M) p)), (3, .int (spY (mR M) p)), (2, .int (spX (mR M) p)), (0, .ref (r 0)), (1, .int (p))]) hx hb dX6_splits_104 hl (k := 3) rfl rfl (by decide) rfl (fun ls hl => ?_)
            refine lv_goto (tgt := 40) hx hb dX6_splits_107 (by decide) ?_
            have e40_8 : (nI (k40 + 1) : Int32) = (nI k40) + 1 := (nI_1 _).symm
            have e40_6 : ((mFq (mR M) a (spX (mR M) p) (spY (mR M) p) (spH (mR M) p) (k40 + 1)).1 : Int32) = (mFq (mR M) a (spX (mR M) p) (spY (mR M) p) (spH (mR M) p) k40).1 := (by first | (simp only [mFq, c_76, if_true, if_false]; done))
            have e40_7 : ((mFq (mR M) a (spX (mR M) p) (spY (mR M) p) (spH (mR M) p) (k40 + 1)).2 : Int32) = (mFq (mR M) a (spX (mR M) p) (spY (mR M) p) (spH (mR M) p) k40).2 := (by first | (simp only [mFq, c_76, if_true, if_false]; done) | (simp only [mFq, c_92, if_true, if_false]; done) | exact absurd c_76 c_92 | exact absurd c_92 c_76)
            exact ih40 (k40 + 1) (by omega) (by omega) _ (by (try rw [e40_8]); (try rw [e40_6]); (try rw [e40_7]); exact lv_sub hl [0, 2, 1, 4, 5, 6, 7, 8, 9] rfl)
          · have c_92 : ¬ ((mFn (mR M) a (spX (mR M) p) (spY (mR M) p) (spH (mR M) p) (nI k40) : Int32) ≤ (mFq (mR M) a (spX (mR M) p) (spY (mR M) p) (spH (mR M) p) k40).2) := c_92
            refine lv_iload hx hb dX6_splits_95 (lv_at hl 1 rfl) ?_
            refine lv_goto (tgt := 102) hx hb dX6_splits_97 (by decide) ?_
            refine lv_istore (lv' := [(7, .int (mFn (mR M) a (spX (mR M) p) (spY (mR M) p) (spH (mR M) p) (nI k40))), (6, .int ((mFq (mR M) a (spX (mR M) p) (spY (mR M) p) (spH (mR M) p) k40).1)), (9, .int (mFn (mR M) a (spX (mR M) p) (spY (mR M) p) (spH (mR M) p) (nI k40))), (8, .int (nI k40)), (5, .int (spH (mR M) p)), (4, .int (spC (mR M) p)), (3, .int (spY (mR M) p)), (2, .int (spX (mR M) p)), (0, .ref (r 0)), (1, .int (p))]) hx hb dX6_splits_102 hl (by decide) rfl (fun ls hl => ?_)
            refine lv_iinc (v := (nI k40) + 1) (lv' := [(8, .int ((nI k40) + 1)), (7, .int (mFn (mR M) a (spX (mR M) p) (spY (mR M) p) (spH (mR M) p) (nI k40))), (6, .int ((mFq (mR M) a (spX (mR M) p) (spY (mR M) p) (spH (mR M) p) k40).1)), (9, .int (mFn (mR M) a (spX (mR M) p) (spY (mR M) p) (spH (mR M) p) (nI k40))), (5, .int (spH (mR M) p)), (4, .int (spC (mR M) p)), (3, .int (spY (mR M) p)), (2, .int (spX (mR M) p)), (0, .ref (r 0)), (1, .int (p))]) hx hb dX6_splits_104 hl (k := 3) rfl rfl (by decide) rfl (fun ls hl => ?_)
            refine lv_goto (tgt := 40) hx hb dX6_splits_107 (by decide) ?_
            have e40_8 : (nI (k40 + 1) : Int32) = (nI k40) + 1 := (nI_1 _).symm
            have e40_6 : ((mFq (mR M) a (spX (mR M) p) (spY (mR M) p) (spH (mR M) p) (k40 + 1)).1 : Int32) = (mFq (mR M) a (spX (mR M) p) (spY (mR M) p) (spH (mR M) p) k40).1 := (by first | (simp only [mFq, c_76, if_true, if_false]; done))
            have e40_7 : ((mFq (mR M) a (spX (mR M) p) (spY (mR M) p) (spH (mR M) p) (k40 + 1)).2 : Int32) = mFn (mR M) a (spX (mR M) p) (spY (mR M) p) (spH (mR M) p) (nI k40) := (by first | (simp only [mFq, c_76, if_true, if_false]; done) | (simp only [mFq, c_92, if_true, if_false]; done) | exact absurd c_76 c_92 | exact absurd c_92 c_76)
            exact ih40 (k40 + 1) (by omega) (by omega) _ (by (try rw [e40_8]); (try rw [e40_6]); (try rw [e40_7]); exact lv_sub hl [0, 2, 1, 4, 5, 6, 7, 8, 9] rfl)
        · have c_76 : ¬ ((mFn (mR M) a (spX (mR M) p) (spY (mR M) p) (spH (mR M) p) (nI k40) : Int32) ≤ (mFq (mR M) a (spX (mR M) p) (spY (mR M) p) (spH (mR M) p) k40).2) := c_76
          refine lv_iload hx hb dX6_splits_79 (lv_at hl 1 rfl) ?_
          refine lv_goto (tgt := 86) hx hb dX6_splits_81 (by decide) ?_
          refine lv_istore (lv' := [(6, .int (nI k40)), (9, .int (mFn (mR M) a (spX (mR M) p) (spY (mR M) p) (spH (mR M) p) (nI k40))), (8, .int (nI k40)), (7, .int ((mFq (mR M) a (spX (mR M) p) (spY (mR M) p) (spH (mR M) p) k40).2)), (5, .int (spH (mR M) p)), (4, .int (spC (mR M) p)), (3, .int (spY (mR M) p)), (2, .int (spX (mR M) p)), (0, .ref (r 0)), (1, .int (p))]) hx hb dX6_splits_86 hl (by decide) rfl (fun ls hl => ?_)
          refine lv_iload hx hb dX6_splits_88 (lv_at hl 1 rfl) ?_
          refine lv_iload hx hb dX6_splits_90 (lv_at hl 3 rfl) ?_
          refine lv_icmp_le (tgt := 100) hx hb dX6_splits_92 (by decide) (fun c_92 => ?_) (fun c_92 => ?_)
          · have c_92 : (mFn (mR M) a (spX (mR M) p) (spY (mR M) p) (spH (mR M) p) (nI k40) : Int32) ≤ (mFq (mR M) a (spX (mR M) p) (spY (mR M) p) (spH (mR M) p) k40).2 := c_92
            refine lv_iload hx hb dX6_splits_100 (lv_at hl 3 rfl) ?_
            refine lv_istore (lv' := [(7, .int ((mFq (mR M) a (spX (mR M) p) (spY (mR M) p) (spH (mR M) p) k40).2)), (6, .int (nI k40)), (9, .int (mFn (mR M) a (spX (mR M) p) (spY (mR M) p) (spH (mR M) p) (nI k40))), (8, .int (nI k40)), (5, .int (spH (mR M) p)), (4, .int (spC (mR M) p)), (3, .int (spY (mR M) p)), (2, .int (spX (mR M) p)), (0, .ref (r 0)), (1, .int (p))]) hx hb dX6_splits_102 hl (by decide) rfl (fun ls hl => ?_)
            refine lv_iinc (v := (nI k40) + 1) (lv' := [(8, .int ((nI k40) + 1)), (7, .int ((mFq (mR M) a (spX (mR M) p) (spY (mR M) p) (spH (mR M) p) k40).2)), (6, .int (nI k40)), (9, .int (mFn (mR M) a (spX (mR M) p) (spY (mR M) p) (spH (mR M) p) (nI k40))), (5, .int (spH (mR M) p)), (4, .int (spC (mR M) p)), (3, .int (spY (mR M) p)), (2, .int (spX (mR M) p)), (0, .ref (r 0)), (1, .int (p))]) hx hb dX6_splits_104 hl (k := 3) rfl rfl (by decide) rfl (fun ls hl => ?_)
            refine lv_goto (tgt := 40) hx hb dX6_splits_107 (by decide) ?_
            have e40_8 : (nI (k40 + 1) : Int32) = (nI k40) + 1 := (nI_1 _).symm
            have e40_6 : ((mFq (mR M) a (spX (mR M) p) (spY (mR M) p) (spH (mR M) p) (k40 + 1)).1 : Int32) = nI k40 := (by first | (simp only [mFq, c_76, if_true, if_false]; done))
            have e40_7 : ((mFq (mR M) a (spX (mR M) p) (spY (mR M) p) (spH (mR M) p) (k40 + 1)).2 : Int32) = (mFq (mR M) a (spX (mR M) p) (spY (mR M) p) (spH (mR M) p) k40).2 := (by first | (simp only [mFq, c_76, if_true, if_false]; done) | (simp only [mFq, c_92, if_true, if_false]; done) | exact absurd c_76 c_92 | exact absurd c_92 c_76)
            exact ih40 (k40 + 1) (by omega) (by omega) _ (by (try rw [e40_8]); (try rw [e40_6]); (try rw [e40_7]); exact lv_sub hl [0, 2, 1, 4, 5, 6, 7, 8, 9] rfl)
          · have c_92 : ¬ ((mFn (mR M) a (spX (mR M) p) (spY (mR M) p) (spH (mR M) p) (nI k40) : Int32) ≤ (mFq (mR M) a (spX (mR M) p) (spY (mR M) p) (spH (mR M) p) k40).2) := c_92
            refine lv_iload hx hb dX6_splits_95 (lv_at hl 1 rfl) ?_
            refine lv_goto (tgt := 102) hx hb dX6_splits_97 (by decide) ?_
            refine lv_istore (lv' := [(7, .int (mFn (mR M) a (spX (mR M) p) (spY (mR M) p) (spH (mR M) p) (nI k40))), (6, .int (nI k40)), (9, .int (mFn (mR M) a (spX (mR M) p) (spY (mR M) p) (spH (mR M) p) (nI k40))), (8, .int (nI k40)), (5, .int (spH (mR M) p)), (4, .int (spC (mR M) p)), (3, .int (spY (mR M) p)), (2, .int (spX (mR M) p)), (0, .ref (r 0)), (1, .int (p))]) hx hb dX6_splits_102 hl (by decide) rfl (fun ls hl => ?_)
            refine lv_iinc (v := (nI k40) + 1) (lv' := [(8, .int ((nI k40) + 1)), (7, .int (mFn (mR M) a (spX (mR M) p) (spY (mR M) p) (spH (mR M) p) (nI k40))), (6, .int (nI k40)), (9, .int (mFn (mR M) a (spX (mR M) p) (spY (mR M) p) (spH (mR M) p) (nI k40))), (5, .int (spH (mR M) p)), (4, .int (spC (mR M) p)), (3, .int (spY (mR M) p)), (2, .int (spX (mR M) p)), (0, .ref (r 0)), (1, .int (p))]) hx hb dX6_splits_104 hl (k := 3) rfl rfl (by decide) rfl (fun ls hl => ?_)
            refine lv_goto (tgt := 40) hx hb dX6_splits_107 (by decide) ?_
            have e40_8 : (nI (k40 + 1) : Int32) = (nI k40) + 1 := (nI_1 _).symm
            have e40_6 : ((mFq (mR M) a (spX (mR M) p) (spY (mR M) p) (spH (mR M) p) (k40 + 1)).1 : Int32) = nI k40 := (by first | (simp only [mFq, c_76, if_true, if_false]; done))
            have e40_7 : ((mFq (mR M) a (spX (mR M) p) (spY (mR M) p) (spH (mR M) p) (k40 + 1)).2 : Int32) = mFn (mR M) a (spX (mR M) p) (spY (mR M) p) (spH (mR M) p) (nI k40) := (by first | (simp only [mFq, c_76, if_true, if_false]; done) | (simp only [mFq, c_92, if_true, if_false]; done) | exact absurd c_76 c_92 | exact absurd c_92 c_76)
            exact ih40 (k40 + 1) (by omega) (by omega) _ (by (try rw [e40_8]); (try rw [e40_6]); (try rw [e40_7]); exact lv_sub hl [0, 2, 1, 4, 5, 6, 7, 8, 9] rfl)
  have e40_8 : (nI 0 : Int32) = (0 : Int32) := rfl
  have e40_6 : ((mFq (mR M) a (spX (mR M) p) (spY (mR M) p) (spH (mR M) p) 0).1 : Int32) = (0 : Int32) := (by rfl)
  have e40_7 : ((mFq (mR M) a (spX (mR M) p) (spY (mR M) p) (spH (mR M) p) 0).2 : Int32) = (-1 : Int32) := (by rfl)
  exact L40 (4 + 1) (0) (Nat.zero_le _) (by omega) _ (by (try rw [e40_8]); (try rw [e40_6]); (try rw [e40_7]); exact lv_sub hl [0, 2, 1, 3, 4, 5, 6, 7, 8] rfl)
set_option maxHeartbeats 1000000 in
set_option maxRecDepth 100000 in
theorem c_X6_settles (l : Launch) (D : va_G) (cI cQ : ClassId) (r : Nat → Nat) (M : MS) (a : Nat) (f : Nat) (hA : mOk (mR M) a f) (g1 : FI) (hg1 : g1 = stG a 40 (mR M)) : zWR l yX6_settles (Cond.code yX6_settles cX6_settles 2 (none) :: zT) 6 150 [.ref (r 0)] D cI cQ (zMod cI r M) none (zMod cI r (uR M g1)) := by
  have hA0 : mOk (mR M) a (nFn (mR M)) := by rw [nFn_ok hA]; exact hA
  refine zWR.of (cc := cX6_settles) (maxL := 2) (ret := none) (by decide +kernel) rfl (Nat.le_of_ble_eq_true rfl) ?_
  intro pg e s mi args below meth cd hx hb hr hts hown hlocks hml hP hD hS hK ls hl
  have hz : ∀ w ∈ zT, w.before args s = true := fun w h => hts w (List.mem_cons_of_mem _ h)
  have hl : lv_has ls 2 [(0, .ref (r 0))] := hl
  refine lv_aload_n hx hb dX6_settles_0 rfl (lv_at hl 0 rfl) ?_
  refine z_ro (va_runV (As := []) (rest := []) ⟨hx, hb, hml, hown, hz⟩ (c_X6_toSplit l D cI cQ r M (a) (nFn (mR M)) (hA0)) (zcwV 0 hz q3_140 q3_142 qs_20 q1_7 q3_143 hd_X6_toSplit (Nat.le_of_ble_eq_true rfl) (Nat.le_of_ble_eq_true rfl)) (z_pv (ci := 6) (q := (RX6, TX6, 3)) hK hP rfl rfl) rfl rfl hl.1 rfl (lv_room (Nat.le_of_ble_eq_true rfl)) dX6_settles_1 ⟨(Nat.le_of_ble_eq_true rfl), (Nat.le_of_ble_eq_true rfl)⟩) ?_
  refine lv_istore_n (lv' := [(1, .int (mTsN (mR M) a)), (0, .ref (r 0))]) hx hb dX6_settles_4 rfl hl (by decide) rfl (fun ls hl => ?_)
  have L5 : ∀ (n5 k5 : Nat), k5 ≤ 40 → 40 < k5 + n5 → (stG a 40 (mR M) = stG a (40 - k5) (stK (mR M) a k5)) → (mOk (stK (mR M) a k5) a (nFn (stK (mR M) a k5))) → (k5 ≤ nFn (stK (mR M) a k5)) → ∀ (H : Heap) (locs : List Loc), va_P D vwCl (zMod cI r (uR M (stK (mR M) a k5))) H → va_D (zA (zMod cI r M)) (zMod cI r (uR M (stK (mR M) a k5))) → va_S (zA (zMod cI r M)) s.heap H locs → ∀ (ls : Array Slot), lv_has ls 2 [(1, .int (mTsN (stK (mR M) a k5) a)), (0, .ref (r 0))] → W pg l e ({ frames := 6, cells := 0, slots := 0, locals := 150 }) s mi args below meth cd H locs 0 0 (MQ below (zQ D (zMod cI r M) none (zMod cI r (uR M g1))) args s 0 0 (zA (zMod cI r M))) (F0 mi 5 ls []) := by
    intro n5
    induction n5 with
    | zero => intro k5 h1 h2; exact absurd h2 (by omega)
    | succ n5 ih5 =>
      intro k5 h1_5 h2_5 he hB hk3 H locs hP hD hS ls hl
      refine lv_iload_n hx hb dX6_settles_5 rfl (lv_at hl 0 rfl) ?_
      refine lv_bipush (v := (-9)) hx hb dX6_settles_6 (by decide) ?_
      refine lv_icmp_eq (tgt := 35) hx hb dX6_settles_8 (by decide) (fun c_8 => ?_) (fun c_8 => ?_)
      · have c_8 : (mTsN (stK (mR M) a k5) a : Int32) = (-9 : Int32) := c_8
        exact z_wvret hx hb hr hlocks hP hS (congrArg (fun T => zMod cI r T) (show uR M (stK (mR M) a k5) = uR M g1 from by (try simp only [hg1]) <;> (first | rw [he, stG_1 c_8] | rw [he, stG_2 c_8 c_19]))) dX6_settles_35
      · have c_8 : ¬ ((mTsN (stK (mR M) a k5) a : Int32) = (-9 : Int32)) := c_8
        refine lv_aload_n hx hb dX6_settles_11 rfl (lv_at hl 1 rfl) ?_
        refine va_get (D := D) (ci := 6) (v := .ref (r 1)) (C := RX6) (T := TX6) (N := 3) hx hb hz inZ6 hown hK.1 hP 0 rfl rfl 0 (by decide) (hz _ q3_88) (fun _ h9 => h9) rfl dX6_settles_12 ?_
        refine lv_iconst (v := 3) hx hb dX6_settles_15 (by decide) ?_
        refine va_iald (f := stK (mR M) a k5) hx hb hK.1 hP 1 0 rfl rfl (i := (3 : Int32)) (z_inC (by decide) (by decide)) dX6_settles_16 ?_
        refine lv_bipush (v := 38) hx hb dX6_settles_17 (by decide) ?_
        refine lv_icmp_ge (tgt := 35) hx hb dX6_settles_19 (by decide) (fun c_19 => ?_) (fun c_19 => ?_)
        · have c_19 : ((38 : Int32) : Int32) ≤ (stK (mR M) a k5) 3 := c_19
          exact z_wvret hx hb hr hlocks hP hS (congrArg (fun T => zMod cI r T) (show uR M (stK (mR M) a k5) = uR M g1 from by (try simp only [hg1]) <;> (first | rw [he, stG_1 c_8] | rw [he, stG_2 c_8 c_19]))) dX6_settles_35
        · have c_19 : ¬ (((38 : Int32) : Int32) ≤ (stK (mR M) a k5) 3) := c_19
          have hkk : k5 < 40 := by have := f38 hB c_19; omega
          refine lv_aload_n hx hb dX6_settles_22 rfl (lv_at hl 1 rfl) ?_
          refine lv_iload_n hx hb dX6_settles_23 rfl (lv_at hl 0 rfl) ?_
          obtain ⟨g_1, hg_1⟩ : ∃ z : FI, z = spl ((stK (mR M) a k5)) a (mTsN (stK (mR M) a k5) a) := ⟨_, rfl⟩
          refine z_wv (X' := zMod cI r (uR M g_1)) (va_runV (As := [.int (mTsN (stK (mR M) a k5) a)]) (rest := []) ⟨hx, hb, hml, hown, hz⟩ (c_X6_splits l D cI cQ r (uR M (stK (mR M) a k5)) (mTsN (stK (mR M) a k5) a) (a) (nFn (stK (mR M) a k5)) (hB) (by have := f38 hB c_19; omega) (mTs_in hB c_8) g_1 hg_1) (zcwV 1 hz q3_164 q3_166 qs_26 q1_7 q3_167 hd_X6_splits (Nat.le_of_ble_eq_true rfl) (Nat.le_of_ble_eq_true rfl)) (z_pvw (ci := 6) (q := (RX6, TX6, 3)) hK hP hD rfl rfl) rfl rfl hl.1 rfl (lv_room (Nat.le_of_ble_eq_true rfl)) dX6_settles_24 ⟨(Nat.le_of_ble_eq_true rfl), (Nat.le_of_ble_eq_true rfl)⟩) hP hD hS [0, 1, 2] rfl rfl rfl (fun H locs hP hD hS => ?_)
          have hC1 := spl_ok (p := mTsN (stK (mR M) a k5) a) hB (by have := f38 hB c_19; omega) (mTs_in hB c_8)
          have hC : mOk g_1 a (nFn g_1) := by rw [hg_1]; exact hC1.1
          refine lv_aload_n hx hb dX6_settles_27 rfl (lv_at hl 1 rfl) ?_
          refine z_ro (va_runV (As := []) (rest := []) ⟨hx, hb, hml, hown, hz⟩ (c_X6_toSplit l D cI cQ r (uR M g_1) (a) (nFn g_1) (hC)) (zcwV 0 hz q3_140 q3_142 qs_20 q1_7 q3_143 hd_X6_toSplit (Nat.le_of_ble_eq_true rfl) (Nat.le_of_ble_eq_true rfl)) (z_pv (ci := 6) (q := (RX6, TX6, 3)) hK hP rfl rfl) rfl rfl hl.1 rfl (lv_room (Nat.le_of_ble_eq_true rfl)) dX6_settles_28 ⟨(Nat.le_of_ble_eq_true rfl), (Nat.le_of_ble_eq_true rfl)⟩) ?_
          refine lv_istore_n (lv' := [(1, .int (mTs (g_1) a (nFn g_1))), (0, .ref (r 0))]) hx hb dX6_settles_31 rfl hl (by decide) rfl (fun ls hl => ?_)
          refine lv_goto (tgt := 5) hx hb dX6_settles_32 (by decide) ?_
          have e5_1 : (mTsN (stK (mR M) a (k5 + 1)) a : Int32) = mTs (g_1) a (nFn g_1) := (by rw [hg_1]; rfl)
          have eS5 : uR M (stK (mR M) a (k5 + 1)) = uR M g_1 := by (try simp only [hg_1]) <;> (rfl)
          exact ih5 (k5 + 1) (by omega) (by omega) (he.trans (stG_3 hkk c_8 c_19)) (hC1.1) (by have h9 := hC1.2; show k5 + 1 ≤ nFn (spl (stK (mR M) a k5) a (mTsN (stK (mR M) a k5) a)); omega) H locs (by rw [eS5]; exact hP) (by rw [eS5]; exact hD) hS _ (by (try rw [e5_1]); exact lv_sub hl [0, 1] rfl)
  have e5_1 : (mTsN (stK (mR M) a 0) a : Int32) = mTsN (mR M) a := (by rfl)
  have eS5 : uR M (stK (mR M) a 0) = M := by rfl
  exact L5 (40 + 1) (0) (Nat.zero_le _) (by omega) (rfl) (hA0) (Nat.zero_le _) s.heap [] (by rw [eS5]; exact hP) (by rw [eS5]; exact hD) hS _ (by (try rw [e5_1]); exact lv_sub hl [0, 1] rfl)
