/-! the law: its cases, over any relation of the two sides that has the facts -/
abbrev zTl (cI : ClassId) (q : Nat → Nat) (S : CS) : va_W := [(q 1, .inr (3, [.int (sAd S), .ref (q 2), .ref (q 3), .ref (q 4), .ref (q 5)])), (q 2, .inl (cI, 40, .inl (sX S))), (q 3, .inl (cI, 40, .inl (sY S))), (q 4, .inl (cI, 40, .inl (sW S))), (q 5, .inl (cI, 40, .inl (sL S))), (q 6, .inr (2, [.int (sFo S), .ref (q 7), .ref (q 8), .ref (q 9)])), (q 7, .inl (cI, 40, .inl (sLe S))), (q 8, .inl (cI, 40, .inl (sTo S))), (q 9, .inl (cI, 40, .inl (sSc S))), (q 10, .inr (0, [.ref (q 11)])), (q 11, .inl (cI, 1600, .inl (sD S)))]

def Qf0 (J : CS → Int32 → CS → CS → CS → CS → CS → MS → Prop) : Prop := ∀ (S : CS) (n : Int32) (S0 S1 S2 S3 S4 : CS) (M : MS), J S n S0 S1 S2 S3 S4 M → ∃ (a f k : Nat), mOk (mR M) a f ∧ k ≤ 5 ∧ mK M = nI k ∧ mSc (mR M) ∧ ∀ p, iR (mR M) p = true → cjR (mR M) a f p = true → ∀ j, j < 4 → vp_in (mJq (mR M) f p j) 100
def QfF (J : CS → Int32 → CS → CS → CS → CS → CS → MS → Prop) : Prop := ∀ (S : CS) (n : Int32) (S0 S1 S2 S3 S4 : CS) (M : MS) (F : FI), J S n S0 S1 S2 S3 S4 M → J S n S0 S1 S2 S3 S4 (uF M F)
def Qf_add (J : CS → Int32 → CS → CS → CS → CS → CS → MS → Prop) : Prop := ∀ (S : CS) (n : Int32) (S0 S1 S2 S3 S4 : CS) (M : MS) (a f : Nat), J S n S0 S1 S2 S3 S4 M → mOk (mR M) a f → ∀ (u v w : Int32), aRet S u v w = maRet (mR M) u v w ∧ aOk S u v w = maOk (mR M) u v w ∧ (aOk S u v w = true → J (aNew S u v w) (z_minH n) S S0 S1 S2 S3 (uK (uR M (maNew (mR M) (mK M) a f u v w)) (recK (mK M))))
def Qf_remove (J : CS → Int32 → CS → CS → CS → CS → CS → MS → Prop) : Prop := ∀ (S : CS) (n : Int32) (S0 S1 S2 S3 S4 : CS) (M : MS) (a f : Nat), J S n S0 S1 S2 S3 S4 M → mOk (mR M) a f → ∀ (u : Int32), rmRet S u = mrRet (mR M) (mK M) a u ∧ pEx S u = iP (mR M) u ∧ (pEx S u = true → J (rmNew S u) (z_minH n) S S0 S1 S2 S3 (uK (uR M (mrNew (mR M) (mK M) a u)) (recK (mK M))))
def Qf_move (J : CS → Int32 → CS → CS → CS → CS → CS → MS → Prop) : Prop := ∀ (S : CS) (n : Int32) (S0 S1 S2 S3 S4 : CS) (M : MS) (a f : Nat), J S n S0 S1 S2 S3 S4 M → mOk (mR M) a f → ∀ (u v w : Int32), mvRet S u v w = mmRet (mR M) (mK M) f u v w ∧ mvOk S u v w = mmOk (mR M) u v w ∧ (mvOk S u v w = true → J (mvNew S u v w) (z_minH n) S S0 S1 S2 S3 (uK (uR M (mmNew (mR M) (mK M) a f u v w)) (recK (mK M))))
def Qf_setCrowd (J : CS → Int32 → CS → CS → CS → CS → CS → MS → Prop) : Prop := ∀ (S : CS) (n : Int32) (S0 S1 S2 S3 S4 : CS) (M : MS) (a f : Nat), J S n S0 S1 S2 S3 S4 M → mOk (mR M) a f → ∀ (u : Int32), scRet S u = mcRet (mR M) (mK M) u ∧ btw u 2 9 = btw u 2 9 ∧ (btw u 2 9 = true → J (scNew S u) (z_minH n) S S0 S1 S2 S3 (uK (uR M (mcNew (mR M) (mK M) a u)) (recK (mK M))))
def Qf_setTithe (J : CS → Int32 → CS → CS → CS → CS → CS → MS → Prop) : Prop := ∀ (S : CS) (n : Int32) (S0 S1 S2 S3 S4 : CS) (M : MS) (a f : Nat), J S n S0 S1 S2 S3 S4 M → mOk (mR M) a f → ∀ (u : Int32), stRet S u = mtRet (mR M) (mK M) u ∧ btw u 1 9 = btw u 1 9 ∧ (btw u 1 9 = true → J (stNew S u) (z_minH n) S S0 S1 S2 S3 (uK (uR M (mtNew (mR M) (mK M) a u)) (recK (mK M))))
def Qf_pay (J : CS → Int32 → CS → CS → CS → CS → CS → MS → Prop) : Prop := ∀ (S : CS) (n : Int32) (S0 S1 S2 S3 S4 : CS) (M : MS) (a f : Nat), J S n S0 S1 S2 S3 S4 M → mOk (mR M) a f → ∀ (u : Int32), pyRet S u = mpyRet (mR M) (mK M) a f u ∧ rEx S u = iR (mR M) u ∧ (rEx S u = true → J (pyNew S u) (z_minH n) S S0 S1 S2 S3 (uK (uR M (mpyNew (mR M) (mK M) a f u)) (recK (mK M))))
def Qf_join (J : CS → Int32 → CS → CS → CS → CS → CS → MS → Prop) : Prop := ∀ (S : CS) (n : Int32) (S0 S1 S2 S3 S4 : CS) (M : MS) (a f : Nat), J S n S0 S1 S2 S3 S4 M → mOk (mR M) a f → ∀ (u : Int32), joRet S u = mjRet (mR M) a f u (mF M) ∧ joOk S u = (iR (mR M) u && cjR (mR M) a f u) ∧ (joOk S u = true → J (joNew S u) (z_minH n) S S0 S1 S2 S3 (uK (uR M (mjNew (mR M) (mK M) a f u (mF M))) (recK (mK M))))
def Qf_undo (J : CS → Int32 → CS → CS → CS → CS → CS → MS → Prop) : Prop := ∀ (S : CS) (n : Int32) (S0 S1 S2 S3 S4 : CS) (M : MS) (a f : Nat), J S n S0 S1 S2 S3 S4 M → mOk (mR M) a f → (if decide (n = 0) then -2 else z_maxH n) = muRet (mK M) ∧ (n = 0 ↔ mK M = 0) ∧ (¬ n = 0 → J S0 (z_maxH n) S1 S2 S3 S4 S0 (uK (uR M (cps (mR M) (1964 * mK M) 0 1964)) (mK M - 1)))
def Qf_count (J : CS → Int32 → CS → CS → CS → CS → CS → MS → Prop) : Prop := ∀ (S : CS) (n : Int32) (S0 S1 S2 S3 S4 : CS) (M : MS) (a f : Nat), J S n S0 S1 S2 S3 S4 M → mOk (mR M) a f → ∀ (u : Int32), ∀ (fq : Nat → Option Nat), coRet S (n, fq) u = mcoRet (mR M) (mK M) a f u
def Qf_point (J : CS → Int32 → CS → CS → CS → CS → CS → MS → Prop) : Prop := ∀ (S : CS) (n : Int32) (S0 S1 S2 S3 S4 : CS) (M : MS) (a f : Nat), J S n S0 S1 S2 S3 S4 M → mOk (mR M) a f → ∀ (u v : Int32), poRet S u v = mpoRet (mR M) f u v
def Qf_parish (J : CS → Int32 → CS → CS → CS → CS → CS → MS → Prop) : Prop := ∀ (S : CS) (n : Int32) (S0 S1 S2 S3 S4 : CS) (M : MS) (a f : Nat), J S n S0 S1 S2 S3 S4 M → mOk (mR M) a f → ∀ (u v : Int32), paRet S u v = mpaRet (mR M) a u v
def Qf_debt (J : CS → Int32 → CS → CS → CS → CS → CS → MS → Prop) : Prop := ∀ (S : CS) (n : Int32) (S0 S1 S2 S3 S4 : CS) (M : MS) (a f : Nat), J S n S0 S1 S2 S3 S4 M → mOk (mR M) a f → ∀ (u v : Int32), deRet S u v = mdeRet (mR M) u v
def Qf_at (J : CS → Int32 → CS → CS → CS → CS → CS → MS → Prop) : Prop := ∀ (S : CS) (n : Int32) (S0 S1 S2 S3 S4 : CS) (M : MS) (a f : Nat), J S n S0 S1 S2 S3 S4 M → mOk (mR M) a f → ∀ (u v : Int32), atRet S u v = matRet (mR M) f u v
def Qf_range (J : CS → Int32 → CS → CS → CS → CS → CS → MS → Prop) : Prop := ∀ (S : CS) (n : Int32) (S0 S1 S2 S3 S4 : CS) (M : MS) (a f : Nat), J S n S0 S1 S2 S3 S4 M → mOk (mR M) a f → ∀ (u v w x y : Int32), raRet S u v w x y = mraRet (mR M) a f u v w x y
def Qf_nearest (J : CS → Int32 → CS → CS → CS → CS → CS → MS → Prop) : Prop := ∀ (S : CS) (n : Int32) (S0 S1 S2 S3 S4 : CS) (M : MS) (a f : Nat), J S n S0 S1 S2 S3 S4 M → mOk (mR M) a f → ∀ (u v : Int32), neRet S u v = mneRet (mR M) a u v
def Qf_inOrder (J : CS → Int32 → CS → CS → CS → CS → CS → MS → Prop) : Prop := ∀ (S : CS) (n : Int32) (S0 S1 S2 S3 S4 : CS) (M : MS) (a f : Nat), J S n S0 S1 S2 S3 S4 M → mOk (mR M) a f → ∀ (u : Int32), ioRet S u = mioRet (mR M) f u
def Qf_payable (J : CS → Int32 → CS → CS → CS → CS → CS → MS → Prop) : Prop := ∀ (S : CS) (n : Int32) (S0 S1 S2 S3 S4 : CS) (M : MS) (a f : Nat), J S n S0 S1 S2 S3 S4 M → mOk (mR M) a f → ∀ (u : Int32), pbRet S u = mpbRet (mR M) a f u
def Qf_cellsWith (J : CS → Int32 → CS → CS → CS → CS → CS → MS → Prop) : Prop := ∀ (S : CS) (n : Int32) (S0 S1 S2 S3 S4 : CS) (M : MS) (a f : Nat), J S n S0 S1 S2 S3 S4 M → mOk (mR M) a f → ∀ (u : Int32), cwRet S u = mcwRet (mR M) a u
def Qf_joinable (J : CS → Int32 → CS → CS → CS → CS → CS → MS → Prop) : Prop := ∀ (S : CS) (n : Int32) (S0 S1 S2 S3 S4 : CS) (M : MS) (a f : Nat), J S n S0 S1 S2 S3 S4 M → mOk (mR M) a f → jbRet S = mjbRet (mR M) a f
def LawOK (J : CS → Int32 → CS → CS → CS → CS → CS → MS → Prop) : Prop := Qf0 J ∧ QfF J ∧ Qf_add J ∧ Qf_remove J ∧ Qf_move J ∧ Qf_setCrowd J ∧ Qf_setTithe J ∧ Qf_pay J ∧ Qf_join J ∧ Qf_undo J ∧ Qf_count J ∧ Qf_point J ∧ Qf_parish J ∧ Qf_debt J ∧ Qf_at J ∧ Qf_range J ∧ Qf_nearest J ∧ Qf_inOrder J ∧ Qf_payable J ∧ Qf_cellsWith J ∧ Qf_joinable J
theorem LawOK.f0 {J : CS → Int32 → CS → CS → CS → CS → CS → MS → Prop} (h : LawOK J) : Qf0 J := h.1
theorem LawOK.fF {J : CS → Int32 → CS → CS → CS → CS → CS → MS → Prop} (h : LawOK J) : QfF J := h.2.1
theorem LawOK.f_add {J : CS → Int32 → CS → CS → CS → CS → CS → MS → Prop} (h : LawOK J) : Qf_add J := h.2.2.1
theorem LawOK.f_remove {J : CS → Int32 → CS → CS → CS → CS → CS → MS → Prop} (h : LawOK J) : Qf_remove J := h.2.2.2.1
theorem LawOK.f_move {J : CS → Int32 → CS → CS → CS → CS → CS → MS → Prop} (h : LawOK J) : Qf_move J := h.2.2.2.2.1
theorem LawOK.f_setCrowd {J : CS → Int32 → CS → CS → CS → CS → CS → MS → Prop} (h : LawOK J) : Qf_setCrowd J := h.2.2.2.2.2.1
theorem LawOK.f_setTithe {J : CS → Int32 → CS → CS → CS → CS → CS → MS → Prop} (h : LawOK J) : Qf_setTithe J := h.2.2.2.2.2.2.1
theorem LawOK.f_pay {J : CS → Int32 → CS → CS → CS → CS → CS → MS → Prop} (h : LawOK J) : Qf_pay J := h.2.2.2.2.2.2.2.1
theorem LawOK.f_join {J : CS → Int32 → CS → CS → CS → CS → CS → MS → Prop} (h : LawOK J) : Qf_join J := h.2.2.2.2.2.2.2.2.1
theorem LawOK.f_undo {J : CS → Int32 → CS → CS → CS → CS → CS → MS → Prop} (h : LawOK J) : Qf_undo J := h.2.2.2.2.2.2.2.2.2.1
theorem LawOK.f_count {J : CS → Int32 → CS → CS → CS → CS → CS → MS → Prop} (h : LawOK J) : Qf_count J := h.2.2.2.2.2.2.2.2.2.2.1
theorem LawOK.f_point {J : CS → Int32 → CS → CS → CS → CS → CS → MS → Prop} (h : LawOK J) : Qf_point J := h.2.2.2.2.2.2.2.2.2.2.2.1
theorem LawOK.f_parish {J : CS → Int32 → CS → CS → CS → CS → CS → MS → Prop} (h : LawOK J) : Qf_parish J := h.2.2.2.2.2.2.2.2.2.2.2.2.1
theorem LawOK.f_debt {J : CS → Int32 → CS → CS → CS → CS → CS → MS → Prop} (h : LawOK J) : Qf_debt J := h.2.2.2.2.2.2.2.2.2.2.2.2.2.1
theorem LawOK.f_at {J : CS → Int32 → CS → CS → CS → CS → CS → MS → Prop} (h : LawOK J) : Qf_at J := h.2.2.2.2.2.2.2.2.2.2.2.2.2.2.1
theorem LawOK.f_range {J : CS → Int32 → CS → CS → CS → CS → CS → MS → Prop} (h : LawOK J) : Qf_range J := h.2.2.2.2.2.2.2.2.2.2.2.2.2.2.2.1
theorem LawOK.f_nearest {J : CS → Int32 → CS → CS → CS → CS → CS → MS → Prop} (h : LawOK J) : Qf_nearest J := h.2.2.2.2.2.2.2.2.2.2.2.2.2.2.2.2.1
theorem LawOK.f_inOrder {J : CS → Int32 → CS → CS → CS → CS → CS → MS → Prop} (h : LawOK J) : Qf_inOrder J := h.2.2.2.2.2.2.2.2.2.2.2.2.2.2.2.2.2.1
theorem LawOK.f_payable {J : CS → Int32 → CS → CS → CS → CS → CS → MS → Prop} (h : LawOK J) : Qf_payable J := h.2.2.2.2.2.2.2.2.2.2.2.2.2.2.2.2.2.2.1
theorem LawOK.f_cellsWith {J : CS → Int32 → CS → CS → CS → CS → CS → MS → Prop} (h : LawOK J) : Qf_cellsWith J := h.2.2.2.2.2.2.2.2.2.2.2.2.2.2.2.2.2.2.2.1
theorem LawOK.f_joinable {J : CS → Int32 → CS → CS → CS → CS → CS → MS → Prop} (h : LawOK J) : Qf_joinable J := h.2.2.2.2.2.2.2.2.2.2.2.2.2.2.2.2.2.2.2.2
def LI (J : CS → Int32 → CS → CS → CS → CS → CS → MS → Prop) (D : va_G) (cI cQ : ClassId) (A : Nat → Prop) (H0 : Heap) (xg xr : Nat) (H : Heap) (locs : List Loc) : Prop := ∃ (g q h t0 t1 t2 t3 t4 r : Nat → Nat) (S : CS) (Z : HZ) (S0 S1 S2 S3 S4 : CS) (M : MS), g 0 = xg ∧ r 0 = xr ∧ hQ Z 0 = some (t0 0) ∧ hQ Z 1 = some (t1 0) ∧ hQ Z 2 = some (t2 0) ∧ hQ Z 3 = some (t3 0) ∧ hQ Z 4 = some (t4 0) ∧ J S (hN Z) S0 S1 S2 S3 S4 M ∧ va_P D vwCl (zB [zGri g q h, zSta cI q S, zHea cQ h Z, zSto cI t0 S0, zTl cI t0 S0, zSto cI t1 S1, zTl cI t1 S1, zSto cI t2 S2, zTl cI t2 S2, zSto cI t3 S3, zTl cI t3 S3, zSto cI t4 S4, zTl cI t4 S4, zMod cI r M]) H ∧ va_D A (zB [zGri g q h, zSta cI q S, zHea cQ h Z, zSto cI t0 S0, zTl cI t0 S0, zSto cI t1 S1, zTl cI t1 S1, zSto cI t2 S2, zTl cI t2 S2, zSto cI t3 S3, zTl cI t3 S3, zSto cI t4 S4, zTl cI t4 S4, zMod cI r M]) ∧ va_S A H0 H locs
theorem z_lx0 {i L : Nat} (hi : i + 6 ≤ L) (hL : L ≤ 3072) : vp_in (nI i + (0 : Int32)) L := by
  rw [show (0 : Int32) = nI 0 from by decide, nI_add]; exact vp_in_nI (by omega) (by omega)
theorem z_lx1 {i L : Nat} (hi : i + 6 ≤ L) (hL : L ≤ 3072) : vp_in (nI i + (1 : Int32)) L := by
  rw [show (1 : Int32) = nI 1 from by decide, nI_add]; exact vp_in_nI (by omega) (by omega)
theorem z_lx2 {i L : Nat} (hi : i + 6 ≤ L) (hL : L ≤ 3072) : vp_in (nI i + (2 : Int32)) L := by
  rw [show (2 : Int32) = nI 2 from by decide, nI_add]; exact vp_in_nI (by omega) (by omega)
theorem z_lx3 {i L : Nat} (hi : i + 6 ≤ L) (hL : L ≤ 3072) : vp_in (nI i + (3 : Int32)) L := by
  rw [show (3 : Int32) = nI 3 from by decide, nI_add]; exact vp_in_nI (by omega) (by omega)
theorem z_lx4 {i L : Nat} (hi : i + 6 ≤ L) (hL : L ≤ 3072) : vp_in (nI i + (4 : Int32)) L := by
  rw [show (4 : Int32) = nI 4 from by decide, nI_add]; exact vp_in_nI (by omega) (by omega)
theorem z_lx5 {i L : Nat} (hi : i + 6 ≤ L) (hL : L ≤ 3072) : vp_in (nI i + (5 : Int32)) L := by
  rw [show (5 : Int32) = nI 5 from by decide, nI_add]; exact vp_in_nI (by omega) (by omega)
theorem z_lx {i L : Nat} (hi : i + 6 ≤ L) (hL : L ≤ 3072) : vp_in (nI i) L := vp_in_nI (by omega) (by omega)
set_option maxHeartbeats 2000000 in
set_option maxRecDepth 100000 in
theorem law_add {pg : Program} {l : Launch} {e : Env} {s : State} {mi : MethodId} {args : Array Value} {below : List Frame} {meth : Method} {cd : Code} {H : Heap} {locs : List Loc} {KC KS : Nat} {Q : State → Prop} {ls : Array Slot} {D : va_G} {cI cQ : ClassId} {A : Nat → Prop} {b L : Nat} {xs : Nat → Int32} {i xg xr : Nat} {J : CS → Int32 → CS → CS → CS → CS → CS → MS → Prop} (hx : pg.tables.exec = Jvm.exec) (hb : cd.code = cL_law) (hown : s.vm.findClass "TitheGridLaw" = some mi.cls) (hml : cd.maxLocals = 4) (hz : ∀ w ∈ zT, w.before args s = true) (hX : va_X b L xs s s.heap) (hbl : b < s.heap.size) (hbA : ¬ A b) (hK : zK D cI cQ s) (hL : L ≤ 3072) (hi : i + 6 ≤ L) (hJ : LawOK J) (hcc : KC ≤ 600000 ∧ KS ≤ 7302250) (hI : LI J D cI cQ A s.heap xg xr H locs) (hl : lv_has ls 4 [(3, .int (nI i)), (0, .ref b), (1, .ref xg), (2, .ref xr)]) (kk : ∀ (H : Heap) (locs : List Loc) (ls : Array Slot), LI J D cI cQ A s.heap xg xr H locs → lv_has ls 4 [(3, .int (nI i)), (0, .ref b), (1, .ref xg), (2, .ref xr)] → W pg l e room_1 s mi args below meth cd H locs KC KS Q (F0 mi 671 ls [])) : W pg l e room_1 s mi args below meth cd H locs KC KS Q (F0 mi 124 ls []) := by
  obtain ⟨g, q, h, t0, t1, t2, t3, t4, r, S, Z, S0, S1, S2, S3, S4, M, rfl, rfl, hq0, hq1, hq2, hq3, hq4, hj, hP, hD, hS⟩ := hI
  obtain ⟨a, f, n, hA, hn, hK5, hsc, hmj⟩ := hJ.f0 _ _ _ _ _ _ _ _ hj
  refine lv_aload_n hx hb dL_law_124 rfl (lv_at hl 2 rfl) ?_
  refine lv_aload_n hx hb dL_law_125 rfl (lv_at hl 1 rfl) ?_
  refine lv_iload_n hx hb dL_law_126 rfl (lv_at hl 0 rfl) ?_
  refine lv_iconst (v := 1) hx hb dL_law_127 (by decide) ?_
  refine lv_iadd hx hb dL_law_128 ?_
  refine va_sld hx hb hX hbl hbA hS (z_lx1 hi hL) dL_law_129 ?_
  refine lv_aload_n hx hb dL_law_130 rfl (lv_at hl 1 rfl) ?_
  refine lv_iload_n hx hb dL_law_131 rfl (lv_at hl 0 rfl) ?_
  refine lv_iconst (v := 2) hx hb dL_law_132 (by decide) ?_
  refine lv_iadd hx hb dL_law_133 ?_
  refine va_sld hx hb hX hbl hbA hS (z_lx2 hi hL) dL_law_134 ?_
  refine lv_aload_n hx hb dL_law_135 rfl (lv_at hl 1 rfl) ?_
  refine lv_iload_n hx hb dL_law_136 rfl (lv_at hl 0 rfl) ?_
  refine lv_iconst (v := 3) hx hb dL_law_137 (by decide) ?_
  refine lv_iadd hx hb dL_law_138 ?_
  refine va_sld hx hb hX hbl hbA hS (z_lx3 hi hL) dL_law_139 ?_
  have hP : va_P D vwCl (zB [zGri g q h, zSta cI q S, zHea cQ h Z, zSto cI t0 S0, zTl cI t0 S0, zSto cI t1 S1, zTl cI t1 S1, zSto cI t2 S2, zTl cI t2 S2, zSto cI t3 S3, zTl cI t3 S3, zSta cI t4 S4, zMod cI r M]) H := hP
  have hD : va_D A (zB [zGri g q h, zSta cI q S, zHea cQ h Z, zSto cI t0 S0, zTl cI t0 S0, zSto cI t1 S1, zTl cI t1 S1, zSto cI t2 S2, zTl cI t2 S2, zSto cI t3 S3, zTl cI t3 S3, zSta cI t4 S4, zMod cI r M]) := hD
  obtain ⟨T1, hT1⟩ : ∃ z : CS, z = if aOk S (xs (nI i + (1 : Int32)).toNatClampNeg) (xs (nI i + (2 : Int32)).toNatClampNeg) (xs (nI i + (3 : Int32)).toNatClampNeg) then aNew S (xs (nI i + (1 : Int32)).toNatClampNeg) (xs (nI i + (2 : Int32)).toNatClampNeg) (xs (nI i + (3 : Int32)).toNatClampNeg) else S := ⟨_, rfl⟩
  obtain ⟨g2, hg2⟩ : ∃ z : Nat → Option Nat, z = if aOk S (xs (nI i + (1 : Int32)).toNatClampNeg) (xs (nI i + (2 : Int32)).toNatClampNeg) (xs (nI i + (3 : Int32)).toNatClampNeg) then z_qK (hQ Z) (t0 0) (t1 0) (t2 0) (t3 0) (t4 0) else hQ Z := ⟨_, rfl⟩
  obtain ⟨g3, hg3⟩ : ∃ z : Int32, z = if aOk S (xs (nI i + (1 : Int32)).toNatClampNeg) (xs (nI i + (2 : Int32)).toNatClampNeg) (xs (nI i + (3 : Int32)).toNatClampNeg) then z_minH (hN Z) else hN Z := ⟨_, rfl⟩
  obtain ⟨T4, hT4⟩ : ∃ z : CS, z = if aOk S (xs (nI i + (1 : Int32)).toNatClampNeg) (xs (nI i + (2 : Int32)).toNatClampNeg) (xs (nI i + (3 : Int32)).toNatClampNeg) then S else S4 := ⟨_, rfl⟩
  refine z_bji (Cs' := [zGri g q h, zSta cI q T1, zHea cQ h (uN (uQ Z g2) g3), zSto cI t0 S0, zSto cI t1 S1, zSto cI t2 S2, zSto cI t3 S3, zSta cI t4 T4]) (Rs := [zTl cI t0 S0, zTl cI t1 S1, zTl cI t2 S2, zTl cI t3 S3, zMod cI r M]) (va_runV (As := [.int (xs (nI i + (1 : Int32)).toNatClampNeg), .int (xs (nI i + (2 : Int32)).toNatClampNeg), .int (xs (nI i + (3 : Int32)).toNatClampNeg)]) (rest := []) ⟨hx, hb, hml, hown, hz⟩ (c_X5_add l D cI cQ g q h t0 t1 t2 t3 t4 S Z S0 S1 S2 S3 S4 (xs (nI i + (1 : Int32)).toNatClampNeg) (xs (nI i + (2 : Int32)).toNatClampNeg) (xs (nI i + (3 : Int32)).toNatClampNeg) hq0 hq1 hq2 hq3 hq4 T1 hT1 g2 hg2 g3 hg3 T4 hT4) (zcwV 3 hz q1_131 q1_132 q1_133 q1_1 q1_134 hd_X5_add (Nat.le_of_ble_eq_true rfl) (Nat.le_of_ble_eq_true rfl)) (z_pvw (ci := 5) (q := (RX5, TX5, 2)) hK (zB_sub (Cs := [zGri g q h, zSta cI q S, zHea cQ h Z, zSto cI t0 S0, zSto cI t1 S1, zSto cI t2 S2, zSto cI t3 S3, zSta cI t4 S4]) hP [0, 1, 2, 3, 5, 7, 9, 11] rfl) (zB_Dsub (Cs := [zGri g q h, zSta cI q S, zHea cQ h Z, zSto cI t0 S0, zSto cI t1 S1, zSto cI t2 S2, zSto cI t3 S3, zSta cI t4 S4]) hD [0, 1, 2, 3, 5, 7, 9, 11] (by decide) rfl) rfl rfl) rfl rfl hl.1 rfl (lv_room (Nat.le_of_ble_eq_true rfl)) dL_law_140 ⟨hcc.1, hcc.2⟩) hP hD hS [0, 1, 2, 3, 5, 7, 9, 11] [4, 6, 8, 10, 12] rfl rfl (by decide) rfl (fun H locs hP hD hS => ?_)
  have hP : va_P D vwCl (zB [zTl cI t0 S0, zTl cI t1 S1, zTl cI t2 S2, zTl cI t3 S3, zMod cI r M, zGri g q h, zSta cI q T1, zHea cQ h (uN (uQ Z g2) g3), zSto cI t0 S0, zSto cI t1 S1, zSto cI t2 S2, zSto cI t3 S3, zSta cI t4 T4]) H := hP
  have hD : va_D A (zB [zTl cI t0 S0, zTl cI t1 S1, zTl cI t2 S2, zTl cI t3 S3, zMod cI r M, zGri g q h, zSta cI q T1, zHea cQ h (uN (uQ Z g2) g3), zSto cI t0 S0, zSto cI t1 S1, zSto cI t2 S2, zSto cI t3 S3, zSta cI t4 T4]) := hD
  refine lv_aload_n hx hb dL_law_143 rfl (lv_at hl 3 rfl) ?_
  refine lv_aload_n hx hb dL_law_144 rfl (lv_at hl 1 rfl) ?_
  refine lv_iload_n hx hb dL_law_145 rfl (lv_at hl 0 rfl) ?_
  refine lv_iconst (v := 1) hx hb dL_law_146 (by decide) ?_
  refine lv_iadd hx hb dL_law_147 ?_
  refine va_sld hx hb hX hbl hbA hS (z_lx1 hi hL) dL_law_148 ?_
  refine lv_aload_n hx hb dL_law_149 rfl (lv_at hl 1 rfl) ?_
  refine lv_iload_n hx hb dL_law_150 rfl (lv_at hl 0 rfl) ?_
  refine lv_iconst (v := 2) hx hb dL_law_151 (by decide) ?_
  refine lv_iadd hx hb dL_law_152 ?_
  refine va_sld hx hb hX hbl hbA hS (z_lx2 hi hL) dL_law_153 ?_
  refine lv_aload_n hx hb dL_law_154 rfl (lv_at hl 1 rfl) ?_
  refine lv_iload_n hx hb dL_law_155 rfl (lv_at hl 0 rfl) ?_
  refine lv_iconst (v := 3) hx hb dL_law_156 (by decide) ?_
  refine lv_iadd hx hb dL_law_157 ?_
  refine va_sld hx hb hX hbl hbA hS (z_lx3 hi hL) dL_law_158 ?_
  obtain ⟨m1, hm1⟩ : ∃ z : FI, z = if maOk (mR M) (xs (nI i + (1 : Int32)).toNatClampNeg) (xs (nI i + (2 : Int32)).toNatClampNeg) (xs (nI i + (3 : Int32)).toNatClampNeg) then maNew (mR M) (mK M) a f (xs (nI i + (1 : Int32)).toNatClampNeg) (xs (nI i + (2 : Int32)).toNatClampNeg) (xs (nI i + (3 : Int32)).toNatClampNeg) else mR M := ⟨_, rfl⟩
  obtain ⟨m2, hm2⟩ : ∃ z : Int32, z = if maOk (mR M) (xs (nI i + (1 : Int32)).toNatClampNeg) (xs (nI i + (2 : Int32)).toNatClampNeg) (xs (nI i + (3 : Int32)).toNatClampNeg) then recK (mK M) else mK M := ⟨_, rfl⟩
  refine z_bwi (b' := zMod cI r (uK (uR M m1) m2)) (Bs' := [zTl cI t0 S0, zTl cI t1 S1, zTl cI t2 S2, zTl cI t3 S3, zMod cI r (uK (uR M m1) m2), zGri g q h, zSta cI q T1, zHea cQ h (uN (uQ Z g2) g3), zSto cI t0 S0, zSto cI t1 S1, zSto cI t2 S2, zSto cI t3 S3, zSta cI t4 T4]) (va_runV (As := [.int (xs (nI i + (1 : Int32)).toNatClampNeg), .int (xs (nI i + (2 : Int32)).toNatClampNeg), .int (xs (nI i + (3 : Int32)).toNatClampNeg)]) (rest := [.int (aRet S (xs (nI i + (1 : Int32)).toNatClampNeg) (xs (nI i + (2 : Int32)).toNatClampNeg) (xs (nI i + (3 : Int32)).toNatClampNeg))]) ⟨hx, hb, hml, hown, hz⟩ (c_X6_add l D cI cQ r M (xs (nI i + (1 : Int32)).toNatClampNeg) (xs (nI i + (2 : Int32)).toNatClampNeg) (xs (nI i + (3 : Int32)).toNatClampNeg) a f hA n hn hK5 m1 hm1 m2 hm2) (zcwV 3 hz q3_98 q3_99 q3_100 q1_7 q3_101 hd_X6_add (Nat.le_of_ble_eq_true rfl) (Nat.le_of_ble_eq_true rfl)) (z_pvw (ci := 6) (q := (RX6, TX6, 3)) hK (zB_blk (b := zMod cI r M) hP 4 rfl) (zB_Dblk (b := zMod cI r M) hD 4 rfl) rfl rfl) rfl rfl hl.1 rfl (lv_room (Nat.le_of_ble_eq_true rfl)) dL_law_159 ⟨hcc.1, hcc.2⟩) hP hD hS 4 rfl [0, 1, 2] rfl rfl rfl rfl (fun H locs hP hD hS => ?_)
  have hv : aRet S (xs (nI i + (1 : Int32)).toNatClampNeg) (xs (nI i + (2 : Int32)).toNatClampNeg) (xs (nI i + (3 : Int32)).toNatClampNeg) = maRet (mR M) (xs (nI i + (1 : Int32)).toNatClampNeg) (xs (nI i + (2 : Int32)).toNatClampNeg) (xs (nI i + (3 : Int32)).toNatClampNeg) := (hJ.f_add _ _ _ _ _ _ _ _ a f hj hA (xs (nI i + (1 : Int32)).toNatClampNeg) (xs (nI i + (2 : Int32)).toNatClampNeg) (xs (nI i + (3 : Int32)).toNatClampNeg)).1
  refine lv_icmp_eq (tgt := 671) hx hb dL_law_162 (by decide) (fun c_1 => ?_) (fun c_1 => absurd hv c_1)
  have hok := (hJ.f_add _ _ _ _ _ _ _ _ a f hj hA (xs (nI i + (1 : Int32)).toNatClampNeg) (xs (nI i + (2 : Int32)).toNatClampNeg) (xs (nI i + (3 : Int32)).toNatClampNeg)).2.1
  have hnx := (hJ.f_add _ _ _ _ _ _ _ _ a f hj hA (xs (nI i + (1 : Int32)).toNatClampNeg) (xs (nI i + (2 : Int32)).toNatClampNeg) (xs (nI i + (3 : Int32)).toNatClampNeg)).2.2
  cases hk : aOk S (xs (nI i + (1 : Int32)).toNatClampNeg) (xs (nI i + (2 : Int32)).toNatClampNeg) (xs (nI i + (3 : Int32)).toNatClampNeg) with
  | false =>
    rw [hk] at hok
    rw [hk] at hT1
    rw [hk] at hg2
    rw [hk] at hg3
    rw [hk] at hT4
    rw [← hok] at hm1
    rw [← hok] at hm2
    have hT1 := hT1.trans (if_neg Bool.false_ne_true)
    have hg2 := hg2.trans (if_neg Bool.false_ne_true)
    have hg3 := hg3.trans (if_neg Bool.false_ne_true)
    have hT4 := hT4.trans (if_neg Bool.false_ne_true)
    have hm1 := hm1.trans (if_neg Bool.false_ne_true)
    have hm2 := hm2.trans (if_neg Bool.false_ne_true)
    have hP1 : va_P D vwCl (zB [zGri g q h, zSta cI q T1, zHea cQ h (uN (uQ Z g2) g3), zSto cI t0 S0, zTl cI t0 S0, zSto cI t1 S1, zTl cI t1 S1, zSto cI t2 S2, zTl cI t2 S2, zSto cI t3 S3, zTl cI t3 S3, zSta cI t4 T4, zMod cI r (uK (uR M m1) m2)]) H := zB_sub hP [5, 6, 7, 8, 0, 9, 1, 10, 2, 11, 3, 12, 4] rfl
    have hD1 : va_D A (zB [zGri g q h, zSta cI q T1, zHea cQ h (uN (uQ Z g2) g3), zSto cI t0 S0, zTl cI t0 S0, zSto cI t1 S1, zTl cI t1 S1, zSto cI t2 S2, zTl cI t2 S2, zSto cI t3 S3, zTl cI t3 S3, zSta cI t4 T4, zMod cI r (uK (uR M m1) m2)]) := zB_Dsub hD [5, 6, 7, 8, 0, 9, 1, 10, 2, 11, 3, 12, 4] (by decide) rfl
    exact kk H locs ls ⟨g, q, h, t0, t1, t2, t3, t4, r, T1, uN (uQ Z g2) g3, S0, S1, S2, S3, T4, uK (uR M m1) m2, rfl, rfl, (show g2 0 = some (t0 0) from by rw [hg2]; exact hq0), (show g2 1 = some (t1 0) from by rw [hg2]; exact hq1), (show g2 2 = some (t2 0) from by rw [hg2]; exact hq2), (show g2 3 = some (t3 0) from by rw [hg2]; exact hq3), (show g2 4 = some (t4 0) from by rw [hg2]; exact hq4), (by rw [hT1, hg3, hT4, hm1, hm2]; exact hj), hP1, hD1, hS⟩ hl
  | true =>
    rw [hk] at hok
    rw [hk] at hT1
    rw [hk] at hg2
    rw [hk] at hg3
    rw [hk] at hT4
    rw [← hok] at hm1
    rw [← hok] at hm2
    have hT1 := hT1.trans (if_pos rfl)
    have hg2 := hg2.trans (if_pos rfl)
    have hg3 := hg3.trans (if_pos rfl)
    have hT4 := hT4.trans (if_pos rfl)
    have hm1 := hm1.trans (if_pos rfl)
    have hm2 := hm2.trans (if_pos rfl)
    have hj2 := hnx hk
    have hP1 : va_P D vwCl (zB [zGri g q h, zSta cI q T1, zHea cQ h (uN (uQ Z g2) g3), zSta cI t4 T4, zSto cI t0 S0, zTl cI t0 S0, zSto cI t1 S1, zTl cI t1 S1, zSto cI t2 S2, zTl cI t2 S2, zSto cI t3 S3, zTl cI t3 S3, zMod cI r (uK (uR M m1) m2)]) H := zB_sub hP [5, 6, 7, 12, 8, 0, 9, 1, 10, 2, 11, 3, 4] rfl
    have hD1 : va_D A (zB [zGri g q h, zSta cI q T1, zHea cQ h (uN (uQ Z g2) g3), zSta cI t4 T4, zSto cI t0 S0, zTl cI t0 S0, zSto cI t1 S1, zTl cI t1 S1, zSto cI t2 S2, zTl cI t2 S2, zSto cI t3 S3, zTl cI t3 S3, zMod cI r (uK (uR M m1) m2)]) := zB_Dsub hD [5, 6, 7, 12, 8, 0, 9, 1, 10, 2, 11, 3, 4] (by decide) rfl
    exact kk H locs ls ⟨g, q, h, t4, t0, t1, t2, t3, r, T1, uN (uQ Z g2) g3, T4, S0, S1, S2, S3, uK (uR M m1) m2, rfl, rfl, (show g2 0 = some (t4 0) from by rw [hg2]; rfl), (show g2 1 = some (t0 0) from by rw [hg2]; rfl), (show g2 2 = some (t1 0) from by rw [hg2]; rfl), (show g2 3 = some (t2 0) from by rw [hg2]; rfl), (show g2 4 = some (t3 0) from by rw [hg2]; rfl), (by rw [hT1, hg3, hT4, hm1, hm2]; exact hj2), hP1, hD1, hS⟩ hl
set_option maxHeartbeats 2000000 in
set_option maxRecDepth 100000 in
theorem law_remove {pg : Program} {l : Launch} {e : Env} {s : State} {mi : MethodId} {args : Array Value} {below : List Frame} {meth : Method} {cd : Code} {H : Heap} {locs : List Loc} {KC KS : Nat} {Q : State → Prop} {ls : Array Slot} {D : va_G} {cI cQ : ClassId} {A : Nat → Prop} {b L : Nat} {xs : Nat → Int32} {i xg xr : Nat} {J : CS → Int32 → CS → CS → CS → CS → CS → MS → Prop} (hx : pg.tables.exec = Jvm.exec) (hb : cd.code = cL_law) (hown : s.vm.findClass "TitheGridLaw" = some mi.cls) (hml : cd.maxLocals = 4) (hz : ∀ w ∈ zT, w.before args s = true) (hX : va_X b L xs s s.heap) (hbl : b < s.heap.size) (hbA : ¬ A b) (hK : zK D cI cQ s) (hL : L ≤ 3072) (hi : i + 6 ≤ L) (hJ : LawOK J) (hcc : KC ≤ 600000 ∧ KS ≤ 7302250) (hI : LI J D cI cQ A s.heap xg xr H locs) (hl : lv_has ls 4 [(3, .int (nI i)), (0, .ref b), (1, .ref xg), (2, .ref xr)]) (kk : ∀ (H : Heap) (locs : List Loc) (ls : Array Slot), LI J D cI cQ A s.heap xg xr H locs → lv_has ls 4 [(3, .int (nI i)), (0, .ref b), (1, .ref xg), (2, .ref xr)] → W pg l e room_1 s mi args below meth cd H locs KC KS Q (F0 mi 671 ls [])) : W pg l e room_1 s mi args below meth cd H locs KC KS Q (F0 mi 167 ls []) := by
  obtain ⟨g, q, h, t0, t1, t2, t3, t4, r, S, Z, S0, S1, S2, S3, S4, M, rfl, rfl, hq0, hq1, hq2, hq3, hq4, hj, hP, hD, hS⟩ := hI
  obtain ⟨a, f, n, hA, hn, hK5, hsc, hmj⟩ := hJ.f0 _ _ _ _ _ _ _ _ hj
  refine lv_aload_n hx hb dL_law_167 rfl (lv_at hl 2 rfl) ?_
  refine lv_aload_n hx hb dL_law_168 rfl (lv_at hl 1 rfl) ?_
  refine lv_iload_n hx hb dL_law_169 rfl (lv_at hl 0 rfl) ?_
  refine lv_iconst (v := 1) hx hb dL_law_170 (by decide) ?_
  refine lv_iadd hx hb dL_law_171 ?_
  refine va_sld hx hb hX hbl hbA hS (z_lx1 hi hL) dL_law_172 ?_
  have hP : va_P D vwCl (zB [zGri g q h, zSta cI q S, zHea cQ h Z, zSto cI t0 S0, zTl cI t0 S0, zSto cI t1 S1, zTl cI t1 S1, zSto cI t2 S2, zTl cI t2 S2, zSto cI t3 S3, zTl cI t3 S3, zSta cI t4 S4, zMod cI r M]) H := hP
  have hD : va_D A (zB [zGri g q h, zSta cI q S, zHea cQ h Z, zSto cI t0 S0, zTl cI t0 S0, zSto cI t1 S1, zTl cI t1 S1, zSto cI t2 S2, zTl cI t2 S2, zSto cI t3 S3, zTl cI t3 S3, zSta cI t4 S4, zMod cI r M]) := hD
  obtain ⟨T1, hT1⟩ : ∃ z : CS, z = if pEx S (xs (nI i + (1 : Int32)).toNatClampNeg) then rmNew S (xs (nI i + (1 : Int32)).toNatClampNeg) else S := ⟨_, rfl⟩
  obtain ⟨g2, hg2⟩ : ∃ z : Nat → Option Nat, z = if pEx S (xs (nI i + (1 : Int32)).toNatClampNeg) then z_qK (hQ Z) (t0 0) (t1 0) (t2 0) (t3 0) (t4 0) else hQ Z := ⟨_, rfl⟩
  obtain ⟨g3, hg3⟩ : ∃ z : Int32, z = if pEx S (xs (nI i + (1 : Int32)).toNatClampNeg) then z_minH (hN Z) else hN Z := ⟨_, rfl⟩
  obtain ⟨T4, hT4⟩ : ∃ z : CS, z = if pEx S (xs (nI i + (1 : Int32)).toNatClampNeg) then S else S4 := ⟨_, rfl⟩
  refine z_bji (Cs' := [zGri g q h, zSta cI q T1, zHea cQ h (uN (uQ Z g2) g3), zSto cI t0 S0, zSto cI t1 S1, zSto cI t2 S2, zSto cI t3 S3, zSta cI t4 T4]) (Rs := [zTl cI t0 S0, zTl cI t1 S1, zTl cI t2 S2, zTl cI t3 S3, zMod cI r M]) (va_runV (As := [.int (xs (nI i + (1 : Int32)).toNatClampNeg)]) (rest := []) ⟨hx, hb, hml, hown, hz⟩ (c_X5_remove l D cI cQ g q h t0 t1 t2 t3 t4 S Z S0 S1 S2 S3 S4 (xs (nI i + (1 : Int32)).toNatClampNeg) hq0 hq1 hq2 hq3 hq4 T1 hT1 g2 hg2 g3 hg3 T4 hT4) (zcwV 1 hz q2_43 q2_44 q2_45 q1_1 q2_46 hd_X5_remove (Nat.le_of_ble_eq_true rfl) (Nat.le_of_ble_eq_true rfl)) (z_pvw (ci := 5) (q := (RX5, TX5, 2)) hK (zB_sub (Cs := [zGri g q h, zSta cI q S, zHea cQ h Z, zSto cI t0 S0, zSto cI t1 S1, zSto cI t2 S2, zSto cI t3 S3, zSta cI t4 S4]) hP [0, 1, 2, 3, 5, 7, 9, 11] rfl) (zB_Dsub (Cs := [zGri g q h, zSta cI q S, zHea cQ h Z, zSto cI t0 S0, zSto cI t1 S1, zSto cI t2 S2, zSto cI t3 S3, zSta cI t4 S4]) hD [0, 1, 2, 3, 5, 7, 9, 11] (by decide) rfl) rfl rfl) rfl rfl hl.1 rfl (lv_room (Nat.le_of_ble_eq_true rfl)) dL_law_173 ⟨hcc.1, hcc.2⟩) hP hD hS [0, 1, 2, 3, 5, 7, 9, 11] [4, 6, 8, 10, 12] rfl rfl (by decide) rfl (fun H locs hP hD hS => ?_)
  have hP : va_P D vwCl (zB [zTl cI t0 S0, zTl cI t1 S1, zTl cI t2 S2, zTl cI t3 S3, zMod cI r M, zGri g q h, zSta cI q T1, zHea cQ h (uN (uQ Z g2) g3), zSto cI t0 S0, zSto cI t1 S1, zSto cI t2 S2, zSto cI t3 S3, zSta cI t4 T4]) H := hP
  have hD : va_D A (zB [zTl cI t0 S0, zTl cI t1 S1, zTl cI t2 S2, zTl cI t3 S3, zMod cI r M, zGri g q h, zSta cI q T1, zHea cQ h (uN (uQ Z g2) g3), zSto cI t0 S0, zSto cI t1 S1, zSto cI t2 S2, zSto cI t3 S3, zSta cI t4 T4]) := hD
  refine lv_aload_n hx hb dL_law_176 rfl (lv_at hl 3 rfl) ?_
  refine lv_aload_n hx hb dL_law_177 rfl (lv_at hl 1 rfl) ?_
  refine lv_iload_n hx hb dL_law_178 rfl (lv_at hl 0 rfl) ?_
  refine lv_iconst (v := 1) hx hb dL_law_179 (by decide) ?_
  refine lv_iadd hx hb dL_law_180 ?_
  refine va_sld hx hb hX hbl hbA hS (z_lx1 hi hL) dL_law_181 ?_
  obtain ⟨m1, hm1⟩ : ∃ z : FI, z = if iP (mR M) (xs (nI i + (1 : Int32)).toNatClampNeg) then mrNew (mR M) (mK M) a (xs (nI i + (1 : Int32)).toNatClampNeg) else mR M := ⟨_, rfl⟩
  obtain ⟨m2, hm2⟩ : ∃ z : Int32, z = if iP (mR M) (xs (nI i + (1 : Int32)).toNatClampNeg) then recK (mK M) else mK M := ⟨_, rfl⟩
  refine z_bwi (b' := zMod cI r (uK (uR M m1) m2)) (Bs' := [zTl cI t0 S0, zTl cI t1 S1, zTl cI t2 S2, zTl cI t3 S3, zMod cI r (uK (uR M m1) m2), zGri g q h, zSta cI q T1, zHea cQ h (uN (uQ Z g2) g3), zSto cI t0 S0, zSto cI t1 S1, zSto cI t2 S2, zSto cI t3 S3, zSta cI t4 T4]) (va_runV (As := [.int (xs (nI i + (1 : Int32)).toNatClampNeg)]) (rest := [.int (rmRet S (xs (nI i + (1 : Int32)).toNatClampNeg))]) ⟨hx, hb, hml, hown, hz⟩ (c_X6_remove l D cI cQ r M (xs (nI i + (1 : Int32)).toNatClampNeg) a f hA n hn hK5 m1 hm1 m2 hm2) (zcwV 1 hz q3_180 q3_181 q3_182 q1_7 q3_183 hd_X6_remove (Nat.le_of_ble_eq_true rfl) (Nat.le_of_ble_eq_true rfl)) (z_pvw (ci := 6) (q := (RX6, TX6, 3)) hK (zB_blk (b := zMod cI r M) hP 4 rfl) (zB_Dblk (b := zMod cI r M) hD 4 rfl) rfl rfl) rfl rfl hl.1 rfl (lv_room (Nat.le_of_ble_eq_true rfl)) dL_law_182 ⟨hcc.1, hcc.2⟩) hP hD hS 4 rfl [0, 1, 2] rfl rfl rfl rfl (fun H locs hP hD hS => ?_)
  have hv : rmRet S (xs (nI i + (1 : Int32)).toNatClampNeg) = mrRet (mR M) (mK M) a (xs (nI i + (1 : Int32)).toNatClampNeg) := (hJ.f_remove _ _ _ _ _ _ _ _ a f hj hA (xs (nI i + (1 : Int32)).toNatClampNeg)).1
  refine lv_icmp_eq (tgt := 671) hx hb dL_law_185 (by decide) (fun c_1 => ?_) (fun c_1 => absurd hv c_1)
  have hok := (hJ.f_remove _ _ _ _ _ _ _ _ a f hj hA (xs (nI i + (1 : Int32)).toNatClampNeg)).2.1
  have hnx := (hJ.f_remove _ _ _ _ _ _ _ _ a f hj hA (xs (nI i + (1 : Int32)).toNatClampNeg)).2.2
  cases hk : pEx S (xs (nI i + (1 : Int32)).toNatClampNeg) with
  | false =>
    rw [hk] at hok
    rw [hk] at hT1
    rw [hk] at hg2
    rw [hk] at hg3
    rw [hk] at hT4
    rw [← hok] at hm1
    rw [← hok] at hm2
    have hT1 := hT1.trans (if_neg Bool.false_ne_true)
    have hg2 := hg2.trans (if_neg Bool.false_ne_true)
    have hg3 := hg3.trans (if_neg Bool.false_ne_true)
    have hT4 := hT4.trans (if_neg Bool.false_ne_true)
    have hm1 := hm1.trans (if_neg Bool.false_ne_true)
    have hm2 := hm2.trans (if_neg Bool.false_ne_true)
    have hP1 : va_P D vwCl (zB [zGri g q h, zSta cI q T1, zHea cQ h (uN (uQ Z g2) g3), zSto cI t0 S0, zTl cI t0 S0, zSto cI t1 S1, zTl cI t1 S1, zSto cI t2 S2, zTl cI t2 S2, zSto cI t3 S3, zTl cI t3 S3, zSta cI t4 T4, zMod cI r (uK (uR M m1) m2)]) H := zB_sub hP [5, 6, 7, 8, 0, 9, 1, 10, 2, 11, 3, 12, 4] rfl
    have hD1 : va_D A (zB [zGri g q h, zSta cI q T1, zHea cQ h (uN (uQ Z g2) g3), zSto cI t0 S0, zTl cI t0 S0, zSto cI t1 S1, zTl cI t1 S1, zSto cI t2 S2, zTl cI t2 S2, zSto cI t3 S3, zTl cI t3 S3, zSta cI t4 T4, zMod cI r (uK (uR M m1) m2)]) := zB_Dsub hD [5, 6, 7, 8, 0, 9, 1, 10, 2, 11, 3, 12, 4] (by decide) rfl
    exact kk H locs ls ⟨g, q, h, t0, t1, t2, t3, t4, r, T1, uN (uQ Z g2) g3, S0, S1, S2, S3, T4, uK (uR M m1) m2, rfl, rfl, (show g2 0 = some (t0 0) from by rw [hg2]; exact hq0), (show g2 1 = some (t1 0) from by rw [hg2]; exact hq1), (show g2 2 = some (t2 0) from by rw [hg2]; exact hq2), (show g2 3 = some (t3 0) from by rw [hg2]; exact hq3), (show g2 4 = some (t4 0) from by rw [hg2]; exact hq4), (by rw [hT1, hg3, hT4, hm1, hm2]; exact hj), hP1, hD1, hS⟩ hl
  | true =>
    rw [hk] at hok
    rw [hk] at hT1
    rw [hk] at hg2
    rw [hk] at hg3
    rw [hk] at hT4
    rw [← hok] at hm1
    rw [← hok] at hm2
    have hT1 := hT1.trans (if_pos rfl)
    have hg2 := hg2.trans (if_pos rfl)
    have hg3 := hg3.trans (if_pos rfl)
    have hT4 := hT4.trans (if_pos rfl)
    have hm1 := hm1.trans (if_pos rfl)
    have hm2 := hm2.trans (if_pos rfl)
    have hj2 := hnx hk
    have hP1 : va_P D vwCl (zB [zGri g q h, zSta cI q T1, zHea cQ h (uN (uQ Z g2) g3), zSta cI t4 T4, zSto cI t0 S0, zTl cI t0 S0, zSto cI t1 S1, zTl cI t1 S1, zSto cI t2 S2, zTl cI t2 S2, zSto cI t3 S3, zTl cI t3 S3, zMod cI r (uK (uR M m1) m2)]) H := zB_sub hP [5, 6, 7, 12, 8, 0, 9, 1, 10, 2, 11, 3, 4] rfl
    have hD1 : va_D A (zB [zGri g q h, zSta cI q T1, zHea cQ h (uN (uQ Z g2) g3), zSta cI t4 T4, zSto cI t0 S0, zTl cI t0 S0, zSto cI t1 S1, zTl cI t1 S1, zSto cI t2 S2, zTl cI t2 S2, zSto cI t3 S3, zTl cI t3 S3, zMod cI r (uK (uR M m1) m2)]) := zB_Dsub hD [5, 6, 7, 12, 8, 0, 9, 1, 10, 2, 11, 3, 4] (by decide) rfl
    exact kk H locs ls ⟨g, q, h, t4, t0, t1, t2, t3, r, T1, uN (uQ Z g2) g3, T4, S0, S1, S2, S3, uK (uR M m1) m2, rfl, rfl, (show g2 0 = some (t4 0) from by rw [hg2]; rfl), (show g2 1 = some (t0 0) from by rw [hg2]; rfl), (show g2 2 = some (t1 0) from by rw [hg2]; rfl), (show g2 3 = some (t2 0) from by rw [hg2]; rfl), (show g2 4 = some (t3 0) from by rw [hg2]; rfl), (by rw [hT1, hg3, hT4, hm1, hm2]; exact hj2), hP1, hD1, hS⟩ hl
set_option maxHeartbeats 2000000 in
set_option maxRecDepth 100000 in
theorem law_move {pg : Program} {l : Launch} {e : Env} {s : State} {mi : MethodId} {args : Array Value} {below : List Frame} {meth : Method} {cd : Code} {H : Heap} {locs : List Loc} {KC KS : Nat} {Q : State → Prop} {ls : Array Slot} {D : va_G} {cI cQ : ClassId} {A : Nat → Prop} {b L : Nat} {xs : Nat → Int32} {i xg xr : Nat} {J : CS → Int32 → CS → CS → CS → CS → CS → MS → Prop} (hx : pg.tables.exec = Jvm.exec) (hb : cd.code = cL_law) (hown : s.vm.findClass "TitheGridLaw" = some mi.cls) (hml : cd.maxLocals = 4) (hz : ∀ w ∈ zT, w.before args s = true) (hX : va_X b L xs s s.heap) (hbl : b < s.heap.size) (hbA : ¬ A b) (hK : zK D cI cQ s) (hL : L ≤ 3072) (hi : i + 6 ≤ L) (hJ : LawOK J) (hcc : KC ≤ 600000 ∧ KS ≤ 7302250) (hI : LI J D cI cQ A s.heap xg xr H locs) (hl : lv_has ls 4 [(3, .int (nI i)), (0, .ref b), (1, .ref xg), (2, .ref xr)]) (kk : ∀ (H : Heap) (locs : List Loc) (ls : Array Slot), LI J D cI cQ A s.heap xg xr H locs → lv_has ls 4 [(3, .int (nI i)), (0, .ref b), (1, .ref xg), (2, .ref xr)] → W pg l e room_1 s mi args below meth cd H locs KC KS Q (F0 mi 671 ls [])) : W pg l e room_1 s mi args below meth cd H locs KC KS Q (F0 mi 190 ls []) := by
  obtain ⟨g, q, h, t0, t1, t2, t3, t4, r, S, Z, S0, S1, S2, S3, S4, M, rfl, rfl, hq0, hq1, hq2, hq3, hq4, hj, hP, hD, hS⟩ := hI
  obtain ⟨a, f, n, hA, hn, hK5, hsc, hmj⟩ := hJ.f0 _ _ _ _ _ _ _ _ hj
  refine lv_aload_n hx hb dL_law_190 rfl (lv_at hl 2 rfl) ?_
  refine lv_aload_n hx hb dL_law_191 rfl (lv_at hl 1 rfl) ?_
  refine lv_iload_n hx hb dL_law_192 rfl (lv_at hl 0 rfl) ?_
  refine lv_iconst (v := 1) hx hb dL_law_193 (by decide) ?_
  refine lv_iadd hx hb dL_law_194 ?_
  refine va_sld hx hb hX hbl hbA hS (z_lx1 hi hL) dL_law_195 ?_
  refine lv_aload_n hx hb dL_law_196 rfl (lv_at hl 1 rfl) ?_
  refine lv_iload_n hx hb dL_law_197 rfl (lv_at hl 0 rfl) ?_
  refine lv_iconst (v := 2) hx hb dL_law_198 (by decide) ?_
  refine lv_iadd hx hb dL_law_199 ?_
  refine va_sld hx hb hX hbl hbA hS (z_lx2 hi hL) dL_law_200 ?_
  refine lv_aload_n hx hb dL_law_201 rfl (lv_at hl 1 rfl) ?_
  refine lv_iload_n hx hb dL_law_202 rfl (lv_at hl 0 rfl) ?_
  refine lv_iconst (v := 3) hx hb dL_law_203 (by decide) ?_
  refine lv_iadd hx hb dL_law_204 ?_
  refine va_sld hx hb hX hbl hbA hS (z_lx3 hi hL) dL_law_205 ?_
  have hP : va_P D vwCl (zB [zGri g q h, zSta cI q S, zHea cQ h Z, zSto cI t0 S0, zTl cI t0 S0, zSto cI t1 S1, zTl cI t1 S1, zSto cI t2 S2, zTl cI t2 S2, zSto cI t3 S3, zTl cI t3 S3, zSta cI t4 S4, zMod cI r M]) H := hP
  have hD : va_D A (zB [zGri g q h, zSta cI q S, zHea cQ h Z, zSto cI t0 S0, zTl cI t0 S0, zSto cI t1 S1, zTl cI t1 S1, zSto cI t2 S2, zTl cI t2 S2, zSto cI t3 S3, zTl cI t3 S3, zSta cI t4 S4, zMod cI r M]) := hD
  obtain ⟨T1, hT1⟩ : ∃ z : CS, z = if mvOk S (xs (nI i + (1 : Int32)).toNatClampNeg) (xs (nI i + (2 : Int32)).toNatClampNeg) (xs (nI i + (3 : Int32)).toNatClampNeg) then mvNew S (xs (nI i + (1 : Int32)).toNatClampNeg) (xs (nI i + (2 : Int32)).toNatClampNeg) (xs (nI i + (3 : Int32)).toNatClampNeg) else S := ⟨_, rfl⟩
  obtain ⟨g2, hg2⟩ : ∃ z : Nat → Option Nat, z = if mvOk S (xs (nI i + (1 : Int32)).toNatClampNeg) (xs (nI i + (2 : Int32)).toNatClampNeg) (xs (nI i + (3 : Int32)).toNatClampNeg) then z_qK (hQ Z) (t0 0) (t1 0) (t2 0) (t3 0) (t4 0) else hQ Z := ⟨_, rfl⟩
  obtain ⟨g3, hg3⟩ : ∃ z : Int32, z = if mvOk S (xs (nI i + (1 : Int32)).toNatClampNeg) (xs (nI i + (2 : Int32)).toNatClampNeg) (xs (nI i + (3 : Int32)).toNatClampNeg) then z_minH (hN Z) else hN Z := ⟨_, rfl⟩
  obtain ⟨T4, hT4⟩ : ∃ z : CS, z = if mvOk S (xs (nI i + (1 : Int32)).toNatClampNeg) (xs (nI i + (2 : Int32)).toNatClampNeg) (xs (nI i + (3 : Int32)).toNatClampNeg) then S else S4 := ⟨_, rfl⟩
  refine z_bji (Cs' := [zGri g q h, zSta cI q T1, zHea cQ h (uN (uQ Z g2) g3), zSto cI t0 S0, zSto cI t1 S1, zSto cI t2 S2, zSto cI t3 S3, zSta cI t4 T4]) (Rs := [zTl cI t0 S0, zTl cI t1 S1, zTl cI t2 S2, zTl cI t3 S3, zMod cI r M]) (va_runV (As := [.int (xs (nI i + (1 : Int32)).toNatClampNeg), .int (xs (nI i + (2 : Int32)).toNatClampNeg), .int (xs (nI i + (3 : Int32)).toNatClampNeg)]) (rest := []) ⟨hx, hb, hml, hown, hz⟩ (c_X5_move l D cI cQ g q h t0 t1 t2 t3 t4 S Z S0 S1 S2 S3 S4 (xs (nI i + (1 : Int32)).toNatClampNeg) (xs (nI i + (2 : Int32)).toNatClampNeg) (xs (nI i + (3 : Int32)).toNatClampNeg) hq0 hq1 hq2 hq3 hq4 T1 hT1 g2 hg2 g3 hg3 T4 hT4) (zcwV 3 hz q2_57 q2_58 q2_59 q1_1 q2_60 hd_X5_move (Nat.le_of_ble_eq_true rfl) (Nat.le_of_ble_eq_true rfl)) (z_pvw (ci := 5) (q := (RX5, TX5, 2)) hK (zB_sub (Cs := [zGri g q h, zSta cI q S, zHea cQ h Z, zSto cI t0 S0, zSto cI t1 S1, zSto cI t2 S2, zSto cI t3 S3, zSta cI t4 S4]) hP [0, 1, 2, 3, 5, 7, 9, 11] rfl) (zB_Dsub (Cs := [zGri g q h, zSta cI q S, zHea cQ h Z, zSto cI t0 S0, zSto cI t1 S1, zSto cI t2 S2, zSto cI t3 S3, zSta cI t4 S4]) hD [0, 1, 2, 3, 5, 7, 9, 11] (by decide) rfl) rfl rfl) rfl rfl hl.1 rfl (lv_room (Nat.le_of_ble_eq_true rfl)) dL_law_206 ⟨hcc.1, hcc.2⟩) hP hD hS [0, 1, 2, 3, 5, 7, 9, 11] [4, 6, 8, 10, 12] rfl rfl (by decide) rfl (fun H locs hP hD hS => ?_)
  have hP : va_P D vwCl (zB [zTl cI t0 S0, zTl cI t1 S1, zTl cI t2 S2, zTl cI t3 S3, zMod cI r M, zGri g q h, zSta cI q T1, zHea cQ h (uN (uQ Z g2) g3), zSto cI t0 S0, zSto cI t1 S1, zSto cI t2 S2, zSto cI t3 S3, zSta cI t4 T4]) H := hP
  have hD : va_D A (zB [zTl cI t0 S0, zTl cI t1 S1, zTl cI t2 S2, zTl cI t3 S3, zMod cI r M, zGri g q h, zSta cI q T1, zHea cQ h (uN (uQ Z g2) g3), zSto cI t0 S0, zSto cI t1 S1, zSto cI t2 S2, zSto cI t3 S3, zSta cI t4 T4]) := hD
  refine lv_aload_n hx hb dL_law_209 rfl (lv_at hl 3 rfl) ?_
  refine lv_aload_n hx hb dL_law_210 rfl (lv_at hl 1 rfl) ?_
  refine lv_iload_n hx hb dL_law_211 rfl (lv_at hl 0 rfl) ?_
  refine lv_iconst (v := 1) hx hb dL_law_212 (by decide) ?_
  refine lv_iadd hx hb dL_law_213 ?_
  refine va_sld hx hb hX hbl hbA hS (z_lx1 hi hL) dL_law_214 ?_
  refine lv_aload_n hx hb dL_law_215 rfl (lv_at hl 1 rfl) ?_
  refine lv_iload_n hx hb dL_law_216 rfl (lv_at hl 0 rfl) ?_
  refine lv_iconst (v := 2) hx hb dL_law_217 (by decide) ?_
  refine lv_iadd hx hb dL_law_218 ?_
  refine va_sld hx hb hX hbl hbA hS (z_lx2 hi hL) dL_law_219 ?_
  refine lv_aload_n hx hb dL_law_220 rfl (lv_at hl 1 rfl) ?_
  refine lv_iload_n hx hb dL_law_221 rfl (lv_at hl 0 rfl) ?_
  refine lv_iconst (v := 3) hx hb dL_law_222 (by decide) ?_
  refine lv_iadd hx hb dL_law_223 ?_
  refine va_sld hx hb hX hbl hbA hS (z_lx3 hi hL) dL_law_224 ?_
  obtain ⟨m1, hm1⟩ : ∃ z : FI, z = if mmOk (mR M) (xs (nI i + (1 : Int32)).toNatClampNeg) (xs (nI i + (2 : Int32)).toNatClampNeg) (xs (nI i + (3 : Int32)).toNatClampNeg) then mmNew (mR M) (mK M) a f (xs (nI i + (1 : Int32)).toNatClampNeg) (xs (nI i + (2 : Int32)).toNatClampNeg) (xs (nI i + (3 : Int32)).toNatClampNeg) else mR M := ⟨_, rfl⟩
  obtain ⟨m2, hm2⟩ : ∃ z : Int32, z = if mmOk (mR M) (xs (nI i + (1 : Int32)).toNatClampNeg) (xs (nI i + (2 : Int32)).toNatClampNeg) (xs (nI i + (3 : Int32)).toNatClampNeg) then recK (mK M) else mK M := ⟨_, rfl⟩
  refine z_bwi (b' := zMod cI r (uK (uR M m1) m2)) (Bs' := [zTl cI t0 S0, zTl cI t1 S1, zTl cI t2 S2, zTl cI t3 S3, zMod cI r (uK (uR M m1) m2), zGri g q h, zSta cI q T1, zHea cQ h (uN (uQ Z g2) g3), zSto cI t0 S0, zSto cI t1 S1, zSto cI t2 S2, zSto cI t3 S3, zSta cI t4 T4]) (va_runV (As := [.int (xs (nI i + (1 : Int32)).toNatClampNeg), .int (xs (nI i + (2 : Int32)).toNatClampNeg), .int (xs (nI i + (3 : Int32)).toNatClampNeg)]) (rest := [.int (mvRet S (xs (nI i + (1 : Int32)).toNatClampNeg) (xs (nI i + (2 : Int32)).toNatClampNeg) (xs (nI i + (3 : Int32)).toNatClampNeg))]) ⟨hx, hb, hml, hown, hz⟩ (c_X6_move l D cI cQ r M (xs (nI i + (1 : Int32)).toNatClampNeg) (xs (nI i + (2 : Int32)).toNatClampNeg) (xs (nI i + (3 : Int32)).toNatClampNeg) a f hA n hn hK5 m1 hm1 m2 hm2) (zcwV 3 hz q3_188 q3_189 q3_190 q1_7 q3_191 hd_X6_move (Nat.le_of_ble_eq_true rfl) (Nat.le_of_ble_eq_true rfl)) (z_pvw (ci := 6) (q := (RX6, TX6, 3)) hK (zB_blk (b := zMod cI r M) hP 4 rfl) (zB_Dblk (b := zMod cI r M) hD 4 rfl) rfl rfl) rfl rfl hl.1 rfl (lv_room (Nat.le_of_ble_eq_true rfl)) dL_law_225 ⟨hcc.1, hcc.2⟩) hP hD hS 4 rfl [0, 1, 2] rfl rfl rfl rfl (fun H locs hP hD hS => ?_)
  have hv : mvRet S (xs (nI i + (1 : Int32)).toNatClampNeg) (xs (nI i + (2 : Int32)).toNatClampNeg) (xs (nI i + (3 : Int32)).toNatClampNeg) = mmRet (mR M) (mK M) f (xs (nI i + (1 : Int32)).toNatClampNeg) (xs (nI i + (2 : Int32)).toNatClampNeg) (xs (nI i + (3 : Int32)).toNatClampNeg) := (hJ.f_move _ _ _ _ _ _ _ _ a f hj hA (xs (nI i + (1 : Int32)).toNatClampNeg) (xs (nI i + (2 : Int32)).toNatClampNeg) (xs (nI i + (3 : Int32)).toNatClampNeg)).1
  refine lv_icmp_eq (tgt := 671) hx hb dL_law_228 (by decide) (fun c_1 => ?_) (fun c_1 => absurd hv c_1)
  have hok := (hJ.f_move _ _ _ _ _ _ _ _ a f hj hA (xs (nI i + (1 : Int32)).toNatClampNeg) (xs (nI i + (2 : Int32)).toNatClampNeg) (xs (nI i + (3 : Int32)).toNatClampNeg)).2.1
  have hnx := (hJ.f_move _ _ _ _ _ _ _ _ a f hj hA (xs (nI i + (1 : Int32)).toNatClampNeg) (xs (nI i + (2 : Int32)).toNatClampNeg) (xs (nI i + (3 : Int32)).toNatClampNeg)).2.2
  cases hk : mvOk S (xs (nI i + (1 : Int32)).toNatClampNeg) (xs (nI i + (2 : Int32)).toNatClampNeg) (xs (nI i + (3 : Int32)).toNatClampNeg) with
  | false =>
    rw [hk] at hok
    rw [hk] at hT1
    rw [hk] at hg2
    rw [hk] at hg3
    rw [hk] at hT4
    rw [← hok] at hm1
    rw [← hok] at hm2
    have hT1 := hT1.trans (if_neg Bool.false_ne_true)
    have hg2 := hg2.trans (if_neg Bool.false_ne_true)
    have hg3 := hg3.trans (if_neg Bool.false_ne_true)
    have hT4 := hT4.trans (if_neg Bool.false_ne_true)
    have hm1 := hm1.trans (if_neg Bool.false_ne_true)
    have hm2 := hm2.trans (if_neg Bool.false_ne_true)
    have hP1 : va_P D vwCl (zB [zGri g q h, zSta cI q T1, zHea cQ h (uN (uQ Z g2) g3), zSto cI t0 S0, zTl cI t0 S0, zSto cI t1 S1, zTl cI t1 S1, zSto cI t2 S2, zTl cI t2 S2, zSto cI t3 S3, zTl cI t3 S3, zSta cI t4 T4, zMod cI r (uK (uR M m1) m2)]) H := zB_sub hP [5, 6, 7, 8, 0, 9, 1, 10, 2, 11, 3, 12, 4] rfl
    have hD1 : va_D A (zB [zGri g q h, zSta cI q T1, zHea cQ h (uN (uQ Z g2) g3), zSto cI t0 S0, zTl cI t0 S0, zSto cI t1 S1, zTl cI t1 S1, zSto cI t2 S2, zTl cI t2 S2, zSto cI t3 S3, zTl cI t3 S3, zSta cI t4 T4, zMod cI r (uK (uR M m1) m2)]) := zB_Dsub hD [5, 6, 7, 8, 0, 9, 1, 10, 2, 11, 3, 12, 4] (by decide) rfl
    exact kk H locs ls ⟨g, q, h, t0, t1, t2, t3, t4, r, T1, uN (uQ Z g2) g3, S0, S1, S2, S3, T4, uK (uR M m1) m2, rfl, rfl, (show g2 0 = some (t0 0) from by rw [hg2]; exact hq0), (show g2 1 = some (t1 0) from by rw [hg2]; exact hq1), (show g2 2 = some (t2 0) from by rw [hg2]; exact hq2), (show g2 3 = some (t3 0) from by rw [hg2]; exact hq3), (show g2 4 = some (t4 0) from by rw [hg2]; exact hq4), (by rw [hT1, hg3, hT4, hm1, hm2]; exact hj), hP1, hD1, hS⟩ hl
  | true =>
    rw [hk] at hok
    rw [hk] at hT1
    rw [hk] at hg2
    rw [hk] at hg3
    rw [hk] at hT4
    rw [← hok] at hm1
    rw [← hok] at hm2
    have hT1 := hT1.trans (if_pos rfl)
    have hg2 := hg2.trans (if_pos rfl)
    have hg3 := hg3.trans (if_pos rfl)
    have hT4 := hT4.trans (if_pos rfl)
    have hm1 := hm1.trans (if_pos rfl)
    have hm2 := hm2.trans (if_pos rfl)
    have hj2 := hnx hk
    have hP1 : va_P D vwCl (zB [zGri g q h, zSta cI q T1, zHea cQ h (uN (uQ Z g2) g3), zSta cI t4 T4, zSto cI t0 S0, zTl cI t0 S0, zSto cI t1 S1, zTl cI t1 S1, zSto cI t2 S2, zTl cI t2 S2, zSto cI t3 S3, zTl cI t3 S3, zMod cI r (uK (uR M m1) m2)]) H := zB_sub hP [5, 6, 7, 12, 8, 0, 9, 1, 10, 2, 11, 3, 4] rfl
    have hD1 : va_D A (zB [zGri g q h, zSta cI q T1, zHea cQ h (uN (uQ Z g2) g3), zSta cI t4 T4, zSto cI t0 S0, zTl cI t0 S0, zSto cI t1 S1, zTl cI t1 S1, zSto cI t2 S2, zTl cI t2 S2, zSto cI t3 S3, zTl cI t3 S3, zMod cI r (uK (uR M m1) m2)]) := zB_Dsub hD [5, 6, 7, 12, 8, 0, 9, 1, 10, 2, 11, 3, 4] (by decide) rfl
    exact kk H locs ls ⟨g, q, h, t4, t0, t1, t2, t3, r, T1, uN (uQ Z g2) g3, T4, S0, S1, S2, S3, uK (uR M m1) m2, rfl, rfl, (show g2 0 = some (t4 0) from by rw [hg2]; rfl), (show g2 1 = some (t0 0) from by rw [hg2]; rfl), (show g2 2 = some (t1 0) from by rw [hg2]; rfl), (show g2 3 = some (t2 0) from by rw [hg2]; rfl), (show g2 4 = some (t3 0) from by rw [hg2]; rfl), (by rw [hT1, hg3, hT4, hm1, hm2]; exact hj2), hP1, hD1, hS⟩ hl
set_option maxHeartbeats 2000000 in
set_option maxRecDepth 100000 in
theorem law_setCrowd {pg : Program} {l : Launch} {e : Env} {s : State} {mi : MethodId} {args : Array Value} {below : List Frame} {meth : Method} {cd : Code} {H : Heap} {locs : List Loc} {KC KS : Nat} {Q : State → Prop} {ls : Array Slot} {D : va_G} {cI cQ : ClassId} {A : Nat → Prop} {b L : Nat} {xs : Nat → Int32} {i xg xr : Nat} {J : CS → Int32 → CS → CS → CS → CS → CS → MS → Prop} (hx : pg.tables.exec = Jvm.exec) (hb : cd.code = cL_law) (hown : s.vm.findClass "TitheGridLaw" = some mi.cls) (hml : cd.maxLocals = 4) (hz : ∀ w ∈ zT, w.before args s = true) (hX : va_X b L xs s s.heap) (hbl : b < s.heap.size) (hbA : ¬ A b) (hK : zK D cI cQ s) (hL : L ≤ 3072) (hi : i + 6 ≤ L) (hJ : LawOK J) (hcc : KC ≤ 600000 ∧ KS ≤ 7302250) (hI : LI J D cI cQ A s.heap xg xr H locs) (hl : lv_has ls 4 [(3, .int (nI i)), (0, .ref b), (1, .ref xg), (2, .ref xr)]) (kk : ∀ (H : Heap) (locs : List Loc) (ls : Array Slot), LI J D cI cQ A s.heap xg xr H locs → lv_has ls 4 [(3, .int (nI i)), (0, .ref b), (1, .ref xg), (2, .ref xr)] → W pg l e room_1 s mi args below meth cd H locs KC KS Q (F0 mi 671 ls [])) : W pg l e room_1 s mi args below meth cd H locs KC KS Q (F0 mi 233 ls []) := by
  obtain ⟨g, q, h, t0, t1, t2, t3, t4, r, S, Z, S0, S1, S2, S3, S4, M, rfl, rfl, hq0, hq1, hq2, hq3, hq4, hj, hP, hD, hS⟩ := hI
  obtain ⟨a, f, n, hA, hn, hK5, hsc, hmj⟩ := hJ.f0 _ _ _ _ _ _ _ _ hj
  refine lv_aload_n hx hb dL_law_233 rfl (lv_at hl 2 rfl) ?_
  refine lv_aload_n hx hb dL_law_234 rfl (lv_at hl 1 rfl) ?_
  refine lv_iload_n hx hb dL_law_235 rfl (lv_at hl 0 rfl) ?_
  refine lv_iconst (v := 1) hx hb dL_law_236 (by decide) ?_
  refine lv_iadd hx hb dL_law_237 ?_
  refine va_sld hx hb hX hbl hbA hS (z_lx1 hi hL) dL_law_238 ?_
  have hP : va_P D vwCl (zB [zGri g q h, zSta cI q S, zHea cQ h Z, zSto cI t0 S0, zTl cI t0 S0, zSto cI t1 S1, zTl cI t1 S1, zSto cI t2 S2, zTl cI t2 S2, zSto cI t3 S3, zTl cI t3 S3, zSta cI t4 S4, zMod cI r M]) H := hP
  have hD : va_D A (zB [zGri g q h, zSta cI q S, zHea cQ h Z, zSto cI t0 S0, zTl cI t0 S0, zSto cI t1 S1, zTl cI t1 S1, zSto cI t2 S2, zTl cI t2 S2, zSto cI t3 S3, zTl cI t3 S3, zSta cI t4 S4, zMod cI r M]) := hD
  obtain ⟨T1, hT1⟩ : ∃ z : CS, z = if btw (xs (nI i + (1 : Int32)).toNatClampNeg) 2 9 then scNew S (xs (nI i + (1 : Int32)).toNatClampNeg) else S := ⟨_, rfl⟩
  obtain ⟨g2, hg2⟩ : ∃ z : Nat → Option Nat, z = if btw (xs (nI i + (1 : Int32)).toNatClampNeg) 2 9 then z_qK (hQ Z) (t0 0) (t1 0) (t2 0) (t3 0) (t4 0) else hQ Z := ⟨_, rfl⟩
  obtain ⟨g3, hg3⟩ : ∃ z : Int32, z = if btw (xs (nI i + (1 : Int32)).toNatClampNeg) 2 9 then z_minH (hN Z) else hN Z := ⟨_, rfl⟩
  obtain ⟨T4, hT4⟩ : ∃ z : CS, z = if btw (xs (nI i + (1 : Int32)).toNatClampNeg) 2 9 then S else S4 := ⟨_, rfl⟩
  refine z_bji (Cs' := [zGri g q h, zSta cI q T1, zHea cQ h (uN (uQ Z g2) g3), zSto cI t0 S0, zSto cI t1 S1, zSto cI t2 S2, zSto cI t3 S3, zSta cI t4 T4]) (Rs := [zTl cI t0 S0, zTl cI t1 S1, zTl cI t2 S2, zTl cI t3 S3, zMod cI r M]) (va_runV (As := [.int (xs (nI i + (1 : Int32)).toNatClampNeg)]) (rest := []) ⟨hx, hb, hml, hown, hz⟩ (c_X5_setCrowd l D cI cQ g q h t0 t1 t2 t3 t4 S Z S0 S1 S2 S3 S4 (xs (nI i + (1 : Int32)).toNatClampNeg) hq0 hq1 hq2 hq3 hq4 T1 hT1 g2 hg2 g3 hg3 T4 hT4) (zcwV 1 hz q2_89 q2_90 q2_91 q1_1 q2_92 hd_X5_setCrowd (Nat.le_of_ble_eq_true rfl) (Nat.le_of_ble_eq_true rfl)) (z_pvw (ci := 5) (q := (RX5, TX5, 2)) hK (zB_sub (Cs := [zGri g q h, zSta cI q S, zHea cQ h Z, zSto cI t0 S0, zSto cI t1 S1, zSto cI t2 S2, zSto cI t3 S3, zSta cI t4 S4]) hP [0, 1, 2, 3, 5, 7, 9, 11] rfl) (zB_Dsub (Cs := [zGri g q h, zSta cI q S, zHea cQ h Z, zSto cI t0 S0, zSto cI t1 S1, zSto cI t2 S2, zSto cI t3 S3, zSta cI t4 S4]) hD [0, 1, 2, 3, 5, 7, 9, 11] (by decide) rfl) rfl rfl) rfl rfl hl.1 rfl (lv_room (Nat.le_of_ble_eq_true rfl)) dL_law_239 ⟨hcc.1, hcc.2⟩) hP hD hS [0, 1, 2, 3, 5, 7, 9, 11] [4, 6, 8, 10, 12] rfl rfl (by decide) rfl (fun H locs hP hD hS => ?_)
  have hP : va_P D vwCl (zB [zTl cI t0 S0, zTl cI t1 S1, zTl cI t2 S2, zTl cI t3 S3, zMod cI r M, zGri g q h, zSta cI q T1, zHea cQ h (uN (uQ Z g2) g3), zSto cI t0 S0, zSto cI t1 S1, zSto cI t2 S2, zSto cI t3 S3, zSta cI t4 T4]) H := hP
  have hD : va_D A (zB [zTl cI t0 S0, zTl cI t1 S1, zTl cI t2 S2, zTl cI t3 S3, zMod cI r M, zGri g q h, zSta cI q T1, zHea cQ h (uN (uQ Z g2) g3), zSto cI t0 S0, zSto cI t1 S1, zSto cI t2 S2, zSto cI t3 S3, zSta cI t4 T4]) := hD
  refine lv_aload_n hx hb dL_law_242 rfl (lv_at hl 3 rfl) ?_
  refine lv_aload_n hx hb dL_law_243 rfl (lv_at hl 1 rfl) ?_
  refine lv_iload_n hx hb dL_law_244 rfl (lv_at hl 0 rfl) ?_
  refine lv_iconst (v := 1) hx hb dL_law_245 (by decide) ?_
  refine lv_iadd hx hb dL_law_246 ?_
  refine va_sld hx hb hX hbl hbA hS (z_lx1 hi hL) dL_law_247 ?_
  obtain ⟨m1, hm1⟩ : ∃ z : FI, z = if btw (xs (nI i + (1 : Int32)).toNatClampNeg) 2 9 then mcNew (mR M) (mK M) a (xs (nI i + (1 : Int32)).toNatClampNeg) else mR M := ⟨_, rfl⟩
  obtain ⟨m2, hm2⟩ : ∃ z : Int32, z = if btw (xs (nI i + (1 : Int32)).toNatClampNeg) 2 9 then recK (mK M) else mK M := ⟨_, rfl⟩
  refine z_bwi (b' := zMod cI r (uK (uR M m1) m2)) (Bs' := [zTl cI t0 S0, zTl cI t1 S1, zTl cI t2 S2, zTl cI t3 S3, zMod cI r (uK (uR M m1) m2), zGri g q h, zSta cI q T1, zHea cQ h (uN (uQ Z g2) g3), zSto cI t0 S0, zSto cI t1 S1, zSto cI t2 S2, zSto cI t3 S3, zSta cI t4 T4]) (va_runV (As := [.int (xs (nI i + (1 : Int32)).toNatClampNeg)]) (rest := [.int (scRet S (xs (nI i + (1 : Int32)).toNatClampNeg))]) ⟨hx, hb, hml, hown, hz⟩ (c_X6_setCrowd l D cI cQ r M (xs (nI i + (1 : Int32)).toNatClampNeg) a f hA n hn hK5 m1 hm1 m2 hm2) (zcwV 1 hz q3_196 q3_197 q3_198 q1_7 q3_199 hd_X6_setCrowd (Nat.le_of_ble_eq_true rfl) (Nat.le_of_ble_eq_true rfl)) (z_pvw (ci := 6) (q := (RX6, TX6, 3)) hK (zB_blk (b := zMod cI r M) hP 4 rfl) (zB_Dblk (b := zMod cI r M) hD 4 rfl) rfl rfl) rfl rfl hl.1 rfl (lv_room (Nat.le_of_ble_eq_true rfl)) dL_law_248 ⟨hcc.1, hcc.2⟩) hP hD hS 4 rfl [0, 1, 2] rfl rfl rfl rfl (fun H locs hP hD hS => ?_)
  have hv : scRet S (xs (nI i + (1 : Int32)).toNatClampNeg) = mcRet (mR M) (mK M) (xs (nI i + (1 : Int32)).toNatClampNeg) := (hJ.f_setCrowd _ _ _ _ _ _ _ _ a f hj hA (xs (nI i + (1 : Int32)).toNatClampNeg)).1
  refine lv_icmp_eq (tgt := 671) hx hb dL_law_251 (by decide) (fun c_1 => ?_) (fun c_1 => absurd hv c_1)
  have hok := (hJ.f_setCrowd _ _ _ _ _ _ _ _ a f hj hA (xs (nI i + (1 : Int32)).toNatClampNeg)).2.1
  have hnx := (hJ.f_setCrowd _ _ _ _ _ _ _ _ a f hj hA (xs (nI i + (1 : Int32)).toNatClampNeg)).2.2
  cases hk : btw (xs (nI i + (1 : Int32)).toNatClampNeg) 2 9 with
  | false =>
    rw [hk] at hok
    rw [hk] at hT1
    rw [hk] at hg2
    rw [hk] at hg3
    rw [hk] at hT4
    rw [hk] at hm1
    rw [hk] at hm2
    have hT1 := hT1.trans (if_neg Bool.false_ne_true)
    have hg2 := hg2.trans (if_neg Bool.false_ne_true)
    have hg3 := hg3.trans (if_neg Bool.false_ne_true)
    have hT4 := hT4.trans (if_neg Bool.false_ne_true)
    have hm1 := hm1.trans (if_neg Bool.false_ne_true)
    have hm2 := hm2.trans (if_neg Bool.false_ne_true)
    have hP1 : va_P D vwCl (zB [zGri g q h, zSta cI q T1, zHea cQ h (uN (uQ Z g2) g3), zSto cI t0 S0, zTl cI t0 S0, zSto cI t1 S1, zTl cI t1 S1, zSto cI t2 S2, zTl cI t2 S2, zSto cI t3 S3, zTl cI t3 S3, zSta cI t4 T4, zMod cI r (uK (uR M m1) m2)]) H := zB_sub hP [5, 6, 7, 8, 0, 9, 1, 10, 2, 11, 3, 12, 4] rfl
    have hD1 : va_D A (zB [zGri g q h, zSta cI q T1, zHea cQ h (uN (uQ Z g2) g3), zSto cI t0 S0, zTl cI t0 S0, zSto cI t1 S1, zTl cI t1 S1, zSto cI t2 S2, zTl cI t2 S2, zSto cI t3 S3, zTl cI t3 S3, zSta cI t4 T4, zMod cI r (uK (uR M m1) m2)]) := zB_Dsub hD [5, 6, 7, 8, 0, 9, 1, 10, 2, 11, 3, 12, 4] (by decide) rfl
    exact kk H locs ls ⟨g, q, h, t0, t1, t2, t3, t4, r, T1, uN (uQ Z g2) g3, S0, S1, S2, S3, T4, uK (uR M m1) m2, rfl, rfl, (show g2 0 = some (t0 0) from by rw [hg2]; exact hq0), (show g2 1 = some (t1 0) from by rw [hg2]; exact hq1), (show g2 2 = some (t2 0) from by rw [hg2]; exact hq2), (show g2 3 = some (t3 0) from by rw [hg2]; exact hq3), (show g2 4 = some (t4 0) from by rw [hg2]; exact hq4), (by rw [hT1, hg3, hT4, hm1, hm2]; exact hj), hP1, hD1, hS⟩ hl
  | true =>
    rw [hk] at hok
    rw [hk] at hT1
    rw [hk] at hg2
    rw [hk] at hg3
    rw [hk] at hT4
    rw [hk] at hm1
    rw [hk] at hm2
    have hT1 := hT1.trans (if_pos rfl)
    have hg2 := hg2.trans (if_pos rfl)
    have hg3 := hg3.trans (if_pos rfl)
    have hT4 := hT4.trans (if_pos rfl)
    have hm1 := hm1.trans (if_pos rfl)
    have hm2 := hm2.trans (if_pos rfl)
    have hj2 := hnx hk
    have hP1 : va_P D vwCl (zB [zGri g q h, zSta cI q T1, zHea cQ h (uN (uQ Z g2) g3), zSta cI t4 T4, zSto cI t0 S0, zTl cI t0 S0, zSto cI t1 S1, zTl cI t1 S1, zSto cI t2 S2, zTl cI t2 S2, zSto cI t3 S3, zTl cI t3 S3, zMod cI r (uK (uR M m1) m2)]) H := zB_sub hP [5, 6, 7, 12, 8, 0, 9, 1, 10, 2, 11, 3, 4] rfl
    have hD1 : va_D A (zB [zGri g q h, zSta cI q T1, zHea cQ h (uN (uQ Z g2) g3), zSta cI t4 T4, zSto cI t0 S0, zTl cI t0 S0, zSto cI t1 S1, zTl cI t1 S1, zSto cI t2 S2, zTl cI t2 S2, zSto cI t3 S3, zTl cI t3 S3, zMod cI r (uK (uR M m1) m2)]) := zB_Dsub hD [5, 6, 7, 12, 8, 0, 9, 1, 10, 2, 11, 3, 4] (by decide) rfl
    exact kk H locs ls ⟨g, q, h, t4, t0, t1, t2, t3, r, T1, uN (uQ Z g2) g3, T4, S0, S1, S2, S3, uK (uR M m1) m2, rfl, rfl, (show g2 0 = some (t4 0) from by rw [hg2]; rfl), (show g2 1 = some (t0 0) from by rw [hg2]; rfl), (show g2 2 = some (t1 0) from by rw [hg2]; rfl), (show g2 3 = some (t2 0) from by rw [hg2]; rfl), (show g2 4 = some (t3 0) from by rw [hg2]; rfl), (by rw [hT1, hg3, hT4, hm1, hm2]; exact hj2), hP1, hD1, hS⟩ hl
set_option maxHeartbeats 2000000 in
set_option maxRecDepth 100000 in
theorem law_setTithe {pg : Program} {l : Launch} {e : Env} {s : State} {mi : MethodId} {args : Array Value} {below : List Frame} {meth : Method} {cd : Code} {H : Heap} {locs : List Loc} {KC KS : Nat} {Q : State → Prop} {ls : Array Slot} {D : va_G} {cI cQ : ClassId} {A : Nat → Prop} {b L : Nat} {xs : Nat → Int32} {i xg xr : Nat} {J : CS → Int32 → CS → CS → CS → CS → CS → MS → Prop} (hx : pg.tables.exec = Jvm.exec) (hb : cd.code = cL_law) (hown : s.vm.findClass "TitheGridLaw" = some mi.cls) (hml : cd.maxLocals = 4) (hz : ∀ w ∈ zT, w.before args s = true) (hX : va_X b L xs s s.heap) (hbl : b < s.heap.size) (hbA : ¬ A b) (hK : zK D cI cQ s) (hL : L ≤ 3072) (hi : i + 6 ≤ L) (hJ : LawOK J) (hcc : KC ≤ 600000 ∧ KS ≤ 7302250) (hI : LI J D cI cQ A s.heap xg xr H locs) (hl : lv_has ls 4 [(3, .int (nI i)), (0, .ref b), (1, .ref xg), (2, .ref xr)]) (kk : ∀ (H : Heap) (locs : List Loc) (ls : Array Slot), LI J D cI cQ A s.heap xg xr H locs → lv_has ls 4 [(3, .int (nI i)), (0, .ref b), (1, .ref xg), (2, .ref xr)] → W pg l e room_1 s mi args below meth cd H locs KC KS Q (F0 mi 671 ls [])) : W pg l e room_1 s mi args below meth cd H locs KC KS Q (F0 mi 256 ls []) := by
  obtain ⟨g, q, h, t0, t1, t2, t3, t4, r, S, Z, S0, S1, S2, S3, S4, M, rfl, rfl, hq0, hq1, hq2, hq3, hq4, hj, hP, hD, hS⟩ := hI
  obtain ⟨a, f, n, hA, hn, hK5, hsc, hmj⟩ := hJ.f0 _ _ _ _ _ _ _ _ hj
  refine lv_aload_n hx hb dL_law_256 rfl (lv_at hl 2 rfl) ?_
  refine lv_aload_n hx hb dL_law_257 rfl (lv_at hl 1 rfl) ?_
  refine lv_iload_n hx hb dL_law_258 rfl (lv_at hl 0 rfl) ?_
  refine lv_iconst (v := 1) hx hb dL_law_259 (by decide) ?_
  refine lv_iadd hx hb dL_law_260 ?_
  refine va_sld hx hb hX hbl hbA hS (z_lx1 hi hL) dL_law_261 ?_
  have hP : va_P D vwCl (zB [zGri g q h, zSta cI q S, zHea cQ h Z, zSto cI t0 S0, zTl cI t0 S0, zSto cI t1 S1, zTl cI t1 S1, zSto cI t2 S2, zTl cI t2 S2, zSto cI t3 S3, zTl cI t3 S3, zSta cI t4 S4, zMod cI r M]) H := hP
  have hD : va_D A (zB [zGri g q h, zSta cI q S, zHea cQ h Z, zSto cI t0 S0, zTl cI t0 S0, zSto cI t1 S1, zTl cI t1 S1, zSto cI t2 S2, zTl cI t2 S2, zSto cI t3 S3, zTl cI t3 S3, zSta cI t4 S4, zMod cI r M]) := hD
  obtain ⟨T1, hT1⟩ : ∃ z : CS, z = if btw (xs (nI i + (1 : Int32)).toNatClampNeg) 1 9 then stNew S (xs (nI i + (1 : Int32)).toNatClampNeg) else S := ⟨_, rfl⟩
  obtain ⟨g2, hg2⟩ : ∃ z : Nat → Option Nat, z = if btw (xs (nI i + (1 : Int32)).toNatClampNeg) 1 9 then z_qK (hQ Z) (t0 0) (t1 0) (t2 0) (t3 0) (t4 0) else hQ Z := ⟨_, rfl⟩
  obtain ⟨g3, hg3⟩ : ∃ z : Int32, z = if btw (xs (nI i + (1 : Int32)).toNatClampNeg) 1 9 then z_minH (hN Z) else hN Z := ⟨_, rfl⟩
  obtain ⟨T4, hT4⟩ : ∃ z : CS, z = if btw (xs (nI i + (1 : Int32)).toNatClampNeg) 1 9 then S else S4 := ⟨_, rfl⟩
  refine z_bji (Cs' := [zGri g q h, zSta cI q T1, zHea cQ h (uN (uQ Z g2) g3), zSto cI t0 S0, zSto cI t1 S1, zSto cI t2 S2, zSto cI t3 S3, zSta cI t4 T4]) (Rs := [zTl cI t0 S0, zTl cI t1 S1, zTl cI t2 S2, zTl cI t3 S3, zMod cI r M]) (va_runV (As := [.int (xs (nI i + (1 : Int32)).toNatClampNeg)]) (rest := []) ⟨hx, hb, hml, hown, hz⟩ (c_X5_setTithe l D cI cQ g q h t0 t1 t2 t3 t4 S Z S0 S1 S2 S3 S4 (xs (nI i + (1 : Int32)).toNatClampNeg) hq0 hq1 hq2 hq3 hq4 T1 hT1 g2 hg2 g3 hg3 T4 hT4) (zcwV 1 hz q2_93 q2_94 q2_95 q1_1 q2_96 hd_X5_setTithe (Nat.le_of_ble_eq_true rfl) (Nat.le_of_ble_eq_true rfl)) (z_pvw (ci := 5) (q := (RX5, TX5, 2)) hK (zB_sub (Cs := [zGri g q h, zSta cI q S, zHea cQ h Z, zSto cI t0 S0, zSto cI t1 S1, zSto cI t2 S2, zSto cI t3 S3, zSta cI t4 S4]) hP [0, 1, 2, 3, 5, 7, 9, 11] rfl) (zB_Dsub (Cs := [zGri g q h, zSta cI q S, zHea cQ h Z, zSto cI t0 S0, zSto cI t1 S1, zSto cI t2 S2, zSto cI t3 S3, zSta cI t4 S4]) hD [0, 1, 2, 3, 5, 7, 9, 11] (by decide) rfl) rfl rfl) rfl rfl hl.1 rfl (lv_room (Nat.le_of_ble_eq_true rfl)) dL_law_262 ⟨hcc.1, hcc.2⟩) hP hD hS [0, 1, 2, 3, 5, 7, 9, 11] [4, 6, 8, 10, 12] rfl rfl (by decide) rfl (fun H locs hP hD hS => ?_)
  have hP : va_P D vwCl (zB [zTl cI t0 S0, zTl cI t1 S1, zTl cI t2 S2, zTl cI t3 S3, zMod cI r M, zGri g q h, zSta cI q T1, zHea cQ h (uN (uQ Z g2) g3), zSto cI t0 S0, zSto cI t1 S1, zSto cI t2 S2, zSto cI t3 S3, zSta cI t4 T4]) H := hP
  have hD : va_D A (zB [zTl cI t0 S0, zTl cI t1 S1, zTl cI t2 S2, zTl cI t3 S3, zMod cI r M, zGri g q h, zSta cI q T1, zHea cQ h (uN (uQ Z g2) g3), zSto cI t0 S0, zSto cI t1 S1, zSto cI t2 S2, zSto cI t3 S3, zSta cI t4 T4]) := hD
  refine lv_aload_n hx hb dL_law_265 rfl (lv_at hl 3 rfl) ?_
  refine lv_aload_n hx hb dL_law_266 rfl (lv_at hl 1 rfl) ?_
  refine lv_iload_n hx hb dL_law_267 rfl (lv_at hl 0 rfl) ?_
  refine lv_iconst (v := 1) hx hb dL_law_268 (by decide) ?_
  refine lv_iadd hx hb dL_law_269 ?_
  refine va_sld hx hb hX hbl hbA hS (z_lx1 hi hL) dL_law_270 ?_
  obtain ⟨m1, hm1⟩ : ∃ z : FI, z = if btw (xs (nI i + (1 : Int32)).toNatClampNeg) 1 9 then mtNew (mR M) (mK M) a (xs (nI i + (1 : Int32)).toNatClampNeg) else mR M := ⟨_, rfl⟩
  obtain ⟨m2, hm2⟩ : ∃ z : Int32, z = if btw (xs (nI i + (1 : Int32)).toNatClampNeg) 1 9 then recK (mK M) else mK M := ⟨_, rfl⟩
  refine z_bwi (b' := zMod cI r (uK (uR M m1) m2)) (Bs' := [zTl cI t0 S0, zTl cI t1 S1, zTl cI t2 S2, zTl cI t3 S3, zMod cI r (uK (uR M m1) m2), zGri g q h, zSta cI q T1, zHea cQ h (uN (uQ Z g2) g3), zSto cI t0 S0, zSto cI t1 S1, zSto cI t2 S2, zSto cI t3 S3, zSta cI t4 T4]) (va_runV (As := [.int (xs (nI i + (1 : Int32)).toNatClampNeg)]) (rest := [.int (stRet S (xs (nI i + (1 : Int32)).toNatClampNeg))]) ⟨hx, hb, hml, hown, hz⟩ (c_X6_setTithe l D cI cQ r M (xs (nI i + (1 : Int32)).toNatClampNeg) a f hA n hn hK5 m1 hm1 m2 hm2) (zcwV 1 hz q3_200 q3_201 q3_202 q1_7 q3_203 hd_X6_setTithe (Nat.le_of_ble_eq_true rfl) (Nat.le_of_ble_eq_true rfl)) (z_pvw (ci := 6) (q := (RX6, TX6, 3)) hK (zB_blk (b := zMod cI r M) hP 4 rfl) (zB_Dblk (b := zMod cI r M) hD 4 rfl) rfl rfl) rfl rfl hl.1 rfl (lv_room (Nat.le_of_ble_eq_true rfl)) dL_law_271 ⟨hcc.1, hcc.2⟩) hP hD hS 4 rfl [0, 1, 2] rfl rfl rfl rfl (fun H locs hP hD hS => ?_)
  have hv : stRet S (xs (nI i + (1 : Int32)).toNatClampNeg) = mtRet (mR M) (mK M) (xs (nI i + (1 : Int32)).toNatClampNeg) := (hJ.f_setTithe _ _ _ _ _ _ _ _ a f hj hA (xs (nI i + (1 : Int32)).toNatClampNeg)).1
  refine lv_icmp_eq (tgt := 671) hx hb dL_law_274 (by decide) (fun c_1 => ?_) (fun c_1 => absurd hv c_1)
  have hok := (hJ.f_setTithe _ _ _ _ _ _ _ _ a f hj hA (xs (nI i + (1 : Int32)).toNatClampNeg)).2.1
  have hnx := (hJ.f_setTithe _ _ _ _ _ _ _ _ a f hj hA (xs (nI i + (1 : Int32)).toNatClampNeg)).2.2
  cases hk : btw (xs (nI i + (1 : Int32)).toNatClampNeg) 1 9 with
  | false =>
    rw [hk] at hok
    rw [hk] at hT1
    rw [hk] at hg2
    rw [hk] at hg3
    rw [hk] at hT4
    rw [hk] at hm1
    rw [hk] at hm2
    have hT1 := hT1.trans (if_neg Bool.false_ne_true)
    have hg2 := hg2.trans (if_neg Bool.false_ne_true)
    have hg3 := hg3.trans (if_neg Bool.false_ne_true)
    have hT4 := hT4.trans (if_neg Bool.false_ne_true)
    have hm1 := hm1.trans (if_neg Bool.false_ne_true)
    have hm2 := hm2.trans (if_neg Bool.false_ne_true)
    have hP1 : va_P D vwCl (zB [zGri g q h, zSta cI q T1, zHea cQ h (uN (uQ Z g2) g3), zSto cI t0 S0, zTl cI t0 S0, zSto cI t1 S1, zTl cI t1 S1, zSto cI t2 S2, zTl cI t2 S2, zSto cI t3 S3, zTl cI t3 S3, zSta cI t4 T4, zMod cI r (uK (uR M m1) m2)]) H := zB_sub hP [5, 6, 7, 8, 0, 9, 1, 10, 2, 11, 3, 12, 4] rfl
    have hD1 : va_D A (zB [zGri g q h, zSta cI q T1, zHea cQ h (uN (uQ Z g2) g3), zSto cI t0 S0, zTl cI t0 S0, zSto cI t1 S1, zTl cI t1 S1, zSto cI t2 S2, zTl cI t2 S2, zSto cI t3 S3, zTl cI t3 S3, zSta cI t4 T4, zMod cI r (uK (uR M m1) m2)]) := zB_Dsub hD [5, 6, 7, 8, 0, 9, 1, 10, 2, 11, 3, 12, 4] (by decide) rfl
    exact kk H locs ls ⟨g, q, h, t0, t1, t2, t3, t4, r, T1, uN (uQ Z g2) g3, S0, S1, S2, S3, T4, uK (uR M m1) m2, rfl, rfl, (show g2 0 = some (t0 0) from by rw [hg2]; exact hq0), (show g2 1 = some (t1 0) from by rw [hg2]; exact hq1), (show g2 2 = some (t2 0) from by rw [hg2]; exact hq2), (show g2 3 = some (t3 0) from by rw [hg2]; exact hq3), (show g2 4 = some (t4 0) from by rw [hg2]; exact hq4), (by rw [hT1, hg3, hT4, hm1, hm2]; exact hj), hP1, hD1, hS⟩ hl
  | true =>
    rw [hk] at hok
    rw [hk] at hT1
    rw [hk] at hg2
    rw [hk] at hg3
    rw [hk] at hT4
    rw [hk] at hm1
    rw [hk] at hm2
    have hT1 := hT1.trans (if_pos rfl)
    have hg2 := hg2.trans (if_pos rfl)
    have hg3 := hg3.trans (if_pos rfl)
    have hT4 := hT4.trans (if_pos rfl)
    have hm1 := hm1.trans (if_pos rfl)
    have hm2 := hm2.trans (if_pos rfl)
    have hj2 := hnx hk
    have hP1 : va_P D vwCl (zB [zGri g q h, zSta cI q T1, zHea cQ h (uN (uQ Z g2) g3), zSta cI t4 T4, zSto cI t0 S0, zTl cI t0 S0, zSto cI t1 S1, zTl cI t1 S1, zSto cI t2 S2, zTl cI t2 S2, zSto cI t3 S3, zTl cI t3 S3, zMod cI r (uK (uR M m1) m2)]) H := zB_sub hP [5, 6, 7, 12, 8, 0, 9, 1, 10, 2, 11, 3, 4] rfl
    have hD1 : va_D A (zB [zGri g q h, zSta cI q T1, zHea cQ h (uN (uQ Z g2) g3), zSta cI t4 T4, zSto cI t0 S0, zTl cI t0 S0, zSto cI t1 S1, zTl cI t1 S1, zSto cI t2 S2, zTl cI t2 S2, zSto cI t3 S3, zTl cI t3 S3, zMod cI r (uK (uR M m1) m2)]) := zB_Dsub hD [5, 6, 7, 12, 8, 0, 9, 1, 10, 2, 11, 3, 4] (by decide) rfl
    exact kk H locs ls ⟨g, q, h, t4, t0, t1, t2, t3, r, T1, uN (uQ Z g2) g3, T4, S0, S1, S2, S3, uK (uR M m1) m2, rfl, rfl, (show g2 0 = some (t4 0) from by rw [hg2]; rfl), (show g2 1 = some (t0 0) from by rw [hg2]; rfl), (show g2 2 = some (t1 0) from by rw [hg2]; rfl), (show g2 3 = some (t2 0) from by rw [hg2]; rfl), (show g2 4 = some (t3 0) from by rw [hg2]; rfl), (by rw [hT1, hg3, hT4, hm1, hm2]; exact hj2), hP1, hD1, hS⟩ hl
set_option maxHeartbeats 2000000 in
set_option maxRecDepth 100000 in
theorem law_pay {pg : Program} {l : Launch} {e : Env} {s : State} {mi : MethodId} {args : Array Value} {below : List Frame} {meth : Method} {cd : Code} {H : Heap} {locs : List Loc} {KC KS : Nat} {Q : State → Prop} {ls : Array Slot} {D : va_G} {cI cQ : ClassId} {A : Nat → Prop} {b L : Nat} {xs : Nat → Int32} {i xg xr : Nat} {J : CS → Int32 → CS → CS → CS → CS → CS → MS → Prop} (hx : pg.tables.exec = Jvm.exec) (hb : cd.code = cL_law) (hown : s.vm.findClass "TitheGridLaw" = some mi.cls) (hml : cd.maxLocals = 4) (hz : ∀ w ∈ zT, w.before args s = true) (hX : va_X b L xs s s.heap) (hbl : b < s.heap.size) (hbA : ¬ A b) (hK : zK D cI cQ s) (hL : L ≤ 3072) (hi : i + 6 ≤ L) (hJ : LawOK J) (hcc : KC ≤ 600000 ∧ KS ≤ 7302250) (hI : LI J D cI cQ A s.heap xg xr H locs) (hl : lv_has ls 4 [(3, .int (nI i)), (0, .ref b), (1, .ref xg), (2, .ref xr)]) (kk : ∀ (H : Heap) (locs : List Loc) (ls : Array Slot), LI J D cI cQ A s.heap xg xr H locs → lv_has ls 4 [(3, .int (nI i)), (0, .ref b), (1, .ref xg), (2, .ref xr)] → W pg l e room_1 s mi args below meth cd H locs KC KS Q (F0 mi 671 ls [])) : W pg l e room_1 s mi args below meth cd H locs KC KS Q (F0 mi 279 ls []) := by
  obtain ⟨g, q, h, t0, t1, t2, t3, t4, r, S, Z, S0, S1, S2, S3, S4, M, rfl, rfl, hq0, hq1, hq2, hq3, hq4, hj, hP, hD, hS⟩ := hI
  obtain ⟨a, f, n, hA, hn, hK5, hsc, hmj⟩ := hJ.f0 _ _ _ _ _ _ _ _ hj
  refine lv_aload_n hx hb dL_law_279 rfl (lv_at hl 2 rfl) ?_
  refine lv_aload_n hx hb dL_law_280 rfl (lv_at hl 1 rfl) ?_
  refine lv_iload_n hx hb dL_law_281 rfl (lv_at hl 0 rfl) ?_
  refine lv_iconst (v := 1) hx hb dL_law_282 (by decide) ?_
  refine lv_iadd hx hb dL_law_283 ?_
  refine va_sld hx hb hX hbl hbA hS (z_lx1 hi hL) dL_law_284 ?_
  have hP : va_P D vwCl (zB [zGri g q h, zSta cI q S, zHea cQ h Z, zSto cI t0 S0, zTl cI t0 S0, zSto cI t1 S1, zTl cI t1 S1, zSto cI t2 S2, zTl cI t2 S2, zSto cI t3 S3, zTl cI t3 S3, zSta cI t4 S4, zMod cI r M]) H := hP
  have hD : va_D A (zB [zGri g q h, zSta cI q S, zHea cQ h Z, zSto cI t0 S0, zTl cI t0 S0, zSto cI t1 S1, zTl cI t1 S1, zSto cI t2 S2, zTl cI t2 S2, zSto cI t3 S3, zTl cI t3 S3, zSta cI t4 S4, zMod cI r M]) := hD
  obtain ⟨T1, hT1⟩ : ∃ z : CS, z = if rEx S (xs (nI i + (1 : Int32)).toNatClampNeg) then pyNew S (xs (nI i + (1 : Int32)).toNatClampNeg) else S := ⟨_, rfl⟩
  obtain ⟨g2, hg2⟩ : ∃ z : Nat → Option Nat, z = if rEx S (xs (nI i + (1 : Int32)).toNatClampNeg) then z_qK (hQ Z) (t0 0) (t1 0) (t2 0) (t3 0) (t4 0) else hQ Z := ⟨_, rfl⟩
  obtain ⟨g3, hg3⟩ : ∃ z : Int32, z = if rEx S (xs (nI i + (1 : Int32)).toNatClampNeg) then z_minH (hN Z) else hN Z := ⟨_, rfl⟩
  obtain ⟨T4, hT4⟩ : ∃ z : CS, z = if rEx S (xs (nI i + (1 : Int32)).toNatClampNeg) then S else S4 := ⟨_, rfl⟩
  refine z_bji (Cs' := [zGri g q h, zSta cI q T1, zHea cQ h (uN (uQ Z g2) g3), zSto cI t0 S0, zSto cI t1 S1, zSto cI t2 S2, zSto cI t3 S3, zSta cI t4 T4]) (Rs := [zTl cI t0 S0, zTl cI t1 S1, zTl cI t2 S2, zTl cI t3 S3, zMod cI r M]) (va_runV (As := [.int (xs (nI i + (1 : Int32)).toNatClampNeg)]) (rest := []) ⟨hx, hb, hml, hown, hz⟩ (c_X5_pay l D cI cQ g q h t0 t1 t2 t3 t4 S Z S0 S1 S2 S3 S4 (xs (nI i + (1 : Int32)).toNatClampNeg) hq0 hq1 hq2 hq3 hq4 T1 hT1 g2 hg2 g3 hg3 T4 hT4) (zcwV 1 hz q2_97 q2_98 q2_99 q1_1 q2_100 hd_X5_pay (Nat.le_of_ble_eq_true rfl) (Nat.le_of_ble_eq_true rfl)) (z_pvw (ci := 5) (q := (RX5, TX5, 2)) hK (zB_sub (Cs := [zGri g q h, zSta cI q S, zHea cQ h Z, zSto cI t0 S0, zSto cI t1 S1, zSto cI t2 S2, zSto cI t3 S3, zSta cI t4 S4]) hP [0, 1, 2, 3, 5, 7, 9, 11] rfl) (zB_Dsub (Cs := [zGri g q h, zSta cI q S, zHea cQ h Z, zSto cI t0 S0, zSto cI t1 S1, zSto cI t2 S2, zSto cI t3 S3, zSta cI t4 S4]) hD [0, 1, 2, 3, 5, 7, 9, 11] (by decide) rfl) rfl rfl) rfl rfl hl.1 rfl (lv_room (Nat.le_of_ble_eq_true rfl)) dL_law_285 ⟨hcc.1, hcc.2⟩) hP hD hS [0, 1, 2, 3, 5, 7, 9, 11] [4, 6, 8, 10, 12] rfl rfl (by decide) rfl (fun H locs hP hD hS => ?_)
  have hP : va_P D vwCl (zB [zTl cI t0 S0, zTl cI t1 S1, zTl cI t2 S2, zTl cI t3 S3, zMod cI r M, zGri g q h, zSta cI q T1, zHea cQ h (uN (uQ Z g2) g3), zSto cI t0 S0, zSto cI t1 S1, zSto cI t2 S2, zSto cI t3 S3, zSta cI t4 T4]) H := hP
  have hD : va_D A (zB [zTl cI t0 S0, zTl cI t1 S1, zTl cI t2 S2, zTl cI t3 S3, zMod cI r M, zGri g q h, zSta cI q T1, zHea cQ h (uN (uQ Z g2) g3), zSto cI t0 S0, zSto cI t1 S1, zSto cI t2 S2, zSto cI t3 S3, zSta cI t4 T4]) := hD
  refine lv_aload_n hx hb dL_law_288 rfl (lv_at hl 3 rfl) ?_
  refine lv_aload_n hx hb dL_law_289 rfl (lv_at hl 1 rfl) ?_
  refine lv_iload_n hx hb dL_law_290 rfl (lv_at hl 0 rfl) ?_
  refine lv_iconst (v := 1) hx hb dL_law_291 (by decide) ?_
  refine lv_iadd hx hb dL_law_292 ?_
  refine va_sld hx hb hX hbl hbA hS (z_lx1 hi hL) dL_law_293 ?_
  obtain ⟨m1, hm1⟩ : ∃ z : FI, z = if iR (mR M) (xs (nI i + (1 : Int32)).toNatClampNeg) then mpyNew (mR M) (mK M) a f (xs (nI i + (1 : Int32)).toNatClampNeg) else mR M := ⟨_, rfl⟩
  obtain ⟨m2, hm2⟩ : ∃ z : Int32, z = if iR (mR M) (xs (nI i + (1 : Int32)).toNatClampNeg) then recK (mK M) else mK M := ⟨_, rfl⟩
  refine z_bwi (b' := zMod cI r (uK (uR M m1) m2)) (Bs' := [zTl cI t0 S0, zTl cI t1 S1, zTl cI t2 S2, zTl cI t3 S3, zMod cI r (uK (uR M m1) m2), zGri g q h, zSta cI q T1, zHea cQ h (uN (uQ Z g2) g3), zSto cI t0 S0, zSto cI t1 S1, zSto cI t2 S2, zSto cI t3 S3, zSta cI t4 T4]) (va_runV (As := [.int (xs (nI i + (1 : Int32)).toNatClampNeg)]) (rest := [.int (pyRet S (xs (nI i + (1 : Int32)).toNatClampNeg))]) ⟨hx, hb, hml, hown, hz⟩ (c_X6_pay l D cI cQ r M (xs (nI i + (1 : Int32)).toNatClampNeg) a f hA n hn hK5 m1 hm1 m2 hm2) (zcwV 1 hz q3_204 q3_205 q3_206 q1_7 q3_207 hd_X6_pay (Nat.le_of_ble_eq_true rfl) (Nat.le_of_ble_eq_true rfl)) (z_pvw (ci := 6) (q := (RX6, TX6, 3)) hK (zB_blk (b := zMod cI r M) hP 4 rfl) (zB_Dblk (b := zMod cI r M) hD 4 rfl) rfl rfl) rfl rfl hl.1 rfl (lv_room (Nat.le_of_ble_eq_true rfl)) dL_law_294 ⟨hcc.1, hcc.2⟩) hP hD hS 4 rfl [0, 1, 2] rfl rfl rfl rfl (fun H locs hP hD hS => ?_)
  have hv : pyRet S (xs (nI i + (1 : Int32)).toNatClampNeg) = mpyRet (mR M) (mK M) a f (xs (nI i + (1 : Int32)).toNatClampNeg) := (hJ.f_pay _ _ _ _ _ _ _ _ a f hj hA (xs (nI i + (1 : Int32)).toNatClampNeg)).1
  refine lv_icmp_eq (tgt := 671) hx hb dL_law_297 (by decide) (fun c_1 => ?_) (fun c_1 => absurd hv c_1)
  have hok := (hJ.f_pay _ _ _ _ _ _ _ _ a f hj hA (xs (nI i + (1 : Int32)).toNatClampNeg)).2.1
  have hnx := (hJ.f_pay _ _ _ _ _ _ _ _ a f hj hA (xs (nI i + (1 : Int32)).toNatClampNeg)).2.2
  cases hk : rEx S (xs (nI i + (1 : Int32)).toNatClampNeg) with
  | false =>
    rw [hk] at hok
    rw [hk] at hT1
    rw [hk] at hg2
    rw [hk] at hg3
    rw [hk] at hT4
    rw [← hok] at hm1
    rw [← hok] at hm2
    have hT1 := hT1.trans (if_neg Bool.false_ne_true)
    have hg2 := hg2.trans (if_neg Bool.false_ne_true)
    have hg3 := hg3.trans (if_neg Bool.false_ne_true)
    have hT4 := hT4.trans (if_neg Bool.false_ne_true)
    have hm1 := hm1.trans (if_neg Bool.false_ne_true)
    have hm2 := hm2.trans (if_neg Bool.false_ne_true)
    have hP1 : va_P D vwCl (zB [zGri g q h, zSta cI q T1, zHea cQ h (uN (uQ Z g2) g3), zSto cI t0 S0, zTl cI t0 S0, zSto cI t1 S1, zTl cI t1 S1, zSto cI t2 S2, zTl cI t2 S2, zSto cI t3 S3, zTl cI t3 S3, zSta cI t4 T4, zMod cI r (uK (uR M m1) m2)]) H := zB_sub hP [5, 6, 7, 8, 0, 9, 1, 10, 2, 11, 3, 12, 4] rfl
    have hD1 : va_D A (zB [zGri g q h, zSta cI q T1, zHea cQ h (uN (uQ Z g2) g3), zSto cI t0 S0, zTl cI t0 S0, zSto cI t1 S1, zTl cI t1 S1, zSto cI t2 S2, zTl cI t2 S2, zSto cI t3 S3, zTl cI t3 S3, zSta cI t4 T4, zMod cI r (uK (uR M m1) m2)]) := zB_Dsub hD [5, 6, 7, 8, 0, 9, 1, 10, 2, 11, 3, 12, 4] (by decide) rfl
    exact kk H locs ls ⟨g, q, h, t0, t1, t2, t3, t4, r, T1, uN (uQ Z g2) g3, S0, S1, S2, S3, T4, uK (uR M m1) m2, rfl, rfl, (show g2 0 = some (t0 0) from by rw [hg2]; exact hq0), (show g2 1 = some (t1 0) from by rw [hg2]; exact hq1), (show g2 2 = some (t2 0) from by rw [hg2]; exact hq2), (show g2 3 = some (t3 0) from by rw [hg2]; exact hq3), (show g2 4 = some (t4 0) from by rw [hg2]; exact hq4), (by rw [hT1, hg3, hT4, hm1, hm2]; exact hj), hP1, hD1, hS⟩ hl
  | true =>
    rw [hk] at hok
    rw [hk] at hT1
    rw [hk] at hg2
    rw [hk] at hg3
    rw [hk] at hT4
    rw [← hok] at hm1
    rw [← hok] at hm2
    have hT1 := hT1.trans (if_pos rfl)
    have hg2 := hg2.trans (if_pos rfl)
    have hg3 := hg3.trans (if_pos rfl)
    have hT4 := hT4.trans (if_pos rfl)
    have hm1 := hm1.trans (if_pos rfl)
    have hm2 := hm2.trans (if_pos rfl)
    have hj2 := hnx hk
    have hP1 : va_P D vwCl (zB [zGri g q h, zSta cI q T1, zHea cQ h (uN (uQ Z g2) g3), zSta cI t4 T4, zSto cI t0 S0, zTl cI t0 S0, zSto cI t1 S1, zTl cI t1 S1, zSto cI t2 S2, zTl cI t2 S2, zSto cI t3 S3, zTl cI t3 S3, zMod cI r (uK (uR M m1) m2)]) H := zB_sub hP [5, 6, 7, 12, 8, 0, 9, 1, 10, 2, 11, 3, 4] rfl
    have hD1 : va_D A (zB [zGri g q h, zSta cI q T1, zHea cQ h (uN (uQ Z g2) g3), zSta cI t4 T4, zSto cI t0 S0, zTl cI t0 S0, zSto cI t1 S1, zTl cI t1 S1, zSto cI t2 S2, zTl cI t2 S2, zSto cI t3 S3, zTl cI t3 S3, zMod cI r (uK (uR M m1) m2)]) := zB_Dsub hD [5, 6, 7, 12, 8, 0, 9, 1, 10, 2, 11, 3, 4] (by decide) rfl
    exact kk H locs ls ⟨g, q, h, t4, t0, t1, t2, t3, r, T1, uN (uQ Z g2) g3, T4, S0, S1, S2, S3, uK (uR M m1) m2, rfl, rfl, (show g2 0 = some (t4 0) from by rw [hg2]; rfl), (show g2 1 = some (t0 0) from by rw [hg2]; rfl), (show g2 2 = some (t1 0) from by rw [hg2]; rfl), (show g2 3 = some (t2 0) from by rw [hg2]; rfl), (show g2 4 = some (t3 0) from by rw [hg2]; rfl), (by rw [hT1, hg3, hT4, hm1, hm2]; exact hj2), hP1, hD1, hS⟩ hl
set_option maxHeartbeats 2000000 in
set_option maxRecDepth 100000 in
theorem law_join {pg : Program} {l : Launch} {e : Env} {s : State} {mi : MethodId} {args : Array Value} {below : List Frame} {meth : Method} {cd : Code} {H : Heap} {locs : List Loc} {KC KS : Nat} {Q : State → Prop} {ls : Array Slot} {D : va_G} {cI cQ : ClassId} {A : Nat → Prop} {b L : Nat} {xs : Nat → Int32} {i xg xr : Nat} {J : CS → Int32 → CS → CS → CS → CS → CS → MS → Prop} (hx : pg.tables.exec = Jvm.exec) (hb : cd.code = cL_law) (hown : s.vm.findClass "TitheGridLaw" = some mi.cls) (hml : cd.maxLocals = 4) (hz : ∀ w ∈ zT, w.before args s = true) (hX : va_X b L xs s s.heap) (hbl : b < s.heap.size) (hbA : ¬ A b) (hK : zK D cI cQ s) (hL : L ≤ 3072) (hi : i + 6 ≤ L) (hJ : LawOK J) (hcc : KC ≤ 600000 ∧ KS ≤ 7302250) (hI : LI J D cI cQ A s.heap xg xr H locs) (hl : lv_has ls 4 [(3, .int (nI i)), (0, .ref b), (1, .ref xg), (2, .ref xr)]) (kk : ∀ (H : Heap) (locs : List Loc) (ls : Array Slot), LI J D cI cQ A s.heap xg xr H locs → lv_has ls 4 [(3, .int (nI i)), (0, .ref b), (1, .ref xg), (2, .ref xr)] → W pg l e room_1 s mi args below meth cd H locs KC KS Q (F0 mi 671 ls [])) : W pg l e room_1 s mi args below meth cd H locs KC KS Q (F0 mi 302 ls []) := by
  obtain ⟨g, q, h, t0, t1, t2, t3, t4, r, S, Z, S0, S1, S2, S3, S4, M, rfl, rfl, hq0, hq1, hq2, hq3, hq4, hj, hP, hD, hS⟩ := hI
  obtain ⟨a, f, n, hA, hn, hK5, hsc, hmj⟩ := hJ.f0 _ _ _ _ _ _ _ _ hj
  refine lv_aload_n hx hb dL_law_302 rfl (lv_at hl 2 rfl) ?_
  refine lv_aload_n hx hb dL_law_303 rfl (lv_at hl 1 rfl) ?_
  refine lv_iload_n hx hb dL_law_304 rfl (lv_at hl 0 rfl) ?_
  refine lv_iconst (v := 1) hx hb dL_law_305 (by decide) ?_
  refine lv_iadd hx hb dL_law_306 ?_
  refine va_sld hx hb hX hbl hbA hS (z_lx1 hi hL) dL_law_307 ?_
  have hP : va_P D vwCl (zB [zGri g q h, zSta cI q S, zHea cQ h Z, zSto cI t0 S0, zTl cI t0 S0, zSto cI t1 S1, zTl cI t1 S1, zSto cI t2 S2, zTl cI t2 S2, zSto cI t3 S3, zTl cI t3 S3, zSta cI t4 S4, zMod cI r M]) H := hP
  have hD : va_D A (zB [zGri g q h, zSta cI q S, zHea cQ h Z, zSto cI t0 S0, zTl cI t0 S0, zSto cI t1 S1, zTl cI t1 S1, zSto cI t2 S2, zTl cI t2 S2, zSto cI t3 S3, zTl cI t3 S3, zSta cI t4 S4, zMod cI r M]) := hD
  obtain ⟨T1, hT1⟩ : ∃ z : CS, z = if joOk S (xs (nI i + (1 : Int32)).toNatClampNeg) then joNew S (xs (nI i + (1 : Int32)).toNatClampNeg) else S := ⟨_, rfl⟩
  obtain ⟨g2, hg2⟩ : ∃ z : Nat → Option Nat, z = if joOk S (xs (nI i + (1 : Int32)).toNatClampNeg) then z_qK (hQ Z) (t0 0) (t1 0) (t2 0) (t3 0) (t4 0) else hQ Z := ⟨_, rfl⟩
  obtain ⟨g3, hg3⟩ : ∃ z : Int32, z = if joOk S (xs (nI i + (1 : Int32)).toNatClampNeg) then z_minH (hN Z) else hN Z := ⟨_, rfl⟩
  obtain ⟨T4, hT4⟩ : ∃ z : CS, z = if joOk S (xs (nI i + (1 : Int32)).toNatClampNeg) then S else S4 := ⟨_, rfl⟩
  refine z_bji (Cs' := [zGri g q h, zSta cI q T1, zHea cQ h (uN (uQ Z g2) g3), zSto cI t0 S0, zSto cI t1 S1, zSto cI t2 S2, zSto cI t3 S3, zSta cI t4 T4]) (Rs := [zTl cI t0 S0, zTl cI t1 S1, zTl cI t2 S2, zTl cI t3 S3, zMod cI r M]) (va_runV (As := [.int (xs (nI i + (1 : Int32)).toNatClampNeg)]) (rest := []) ⟨hx, hb, hml, hown, hz⟩ (c_X5_join l D cI cQ g q h t0 t1 t2 t3 t4 S Z S0 S1 S2 S3 S4 (xs (nI i + (1 : Int32)).toNatClampNeg) hq0 hq1 hq2 hq3 hq4 T1 hT1 g2 hg2 g3 hg3 T4 hT4) (zcwV 1 hz q2_119 q2_120 q2_121 q1_1 q2_122 hd_X5_join (Nat.le_of_ble_eq_true rfl) (Nat.le_of_ble_eq_true rfl)) (z_pvw (ci := 5) (q := (RX5, TX5, 2)) hK (zB_sub (Cs := [zGri g q h, zSta cI q S, zHea cQ h Z, zSto cI t0 S0, zSto cI t1 S1, zSto cI t2 S2, zSto cI t3 S3, zSta cI t4 S4]) hP [0, 1, 2, 3, 5, 7, 9, 11] rfl) (zB_Dsub (Cs := [zGri g q h, zSta cI q S, zHea cQ h Z, zSto cI t0 S0, zSto cI t1 S1, zSto cI t2 S2, zSto cI t3 S3, zSta cI t4 S4]) hD [0, 1, 2, 3, 5, 7, 9, 11] (by decide) rfl) rfl rfl) rfl rfl hl.1 rfl (lv_room (Nat.le_of_ble_eq_true rfl)) dL_law_308 ⟨hcc.1, hcc.2⟩) hP hD hS [0, 1, 2, 3, 5, 7, 9, 11] [4, 6, 8, 10, 12] rfl rfl (by decide) rfl (fun H locs hP hD hS => ?_)
  have hP : va_P D vwCl (zB [zTl cI t0 S0, zTl cI t1 S1, zTl cI t2 S2, zTl cI t3 S3, zMod cI r M, zGri g q h, zSta cI q T1, zHea cQ h (uN (uQ Z g2) g3), zSto cI t0 S0, zSto cI t1 S1, zSto cI t2 S2, zSto cI t3 S3, zSta cI t4 T4]) H := hP
  have hD : va_D A (zB [zTl cI t0 S0, zTl cI t1 S1, zTl cI t2 S2, zTl cI t3 S3, zMod cI r M, zGri g q h, zSta cI q T1, zHea cQ h (uN (uQ Z g2) g3), zSto cI t0 S0, zSto cI t1 S1, zSto cI t2 S2, zSto cI t3 S3, zSta cI t4 T4]) := hD
  refine lv_aload_n hx hb dL_law_311 rfl (lv_at hl 3 rfl) ?_
  refine lv_aload_n hx hb dL_law_312 rfl (lv_at hl 1 rfl) ?_
  refine lv_iload_n hx hb dL_law_313 rfl (lv_at hl 0 rfl) ?_
  refine lv_iconst (v := 1) hx hb dL_law_314 (by decide) ?_
  refine lv_iadd hx hb dL_law_315 ?_
  refine va_sld hx hb hX hbl hbA hS (z_lx1 hi hL) dL_law_316 ?_
  obtain ⟨m1, hm1⟩ : ∃ z : FI, z = if iR (mR M) (xs (nI i + (1 : Int32)).toNatClampNeg) = true ∧ cjR (mR M) a f (xs (nI i + (1 : Int32)).toNatClampNeg) = true then mjNew (mR M) (mK M) a f (xs (nI i + (1 : Int32)).toNatClampNeg) (mF M) else mR M := ⟨_, rfl⟩
  obtain ⟨m2, hm2⟩ : ∃ z : Int32, z = if iR (mR M) (xs (nI i + (1 : Int32)).toNatClampNeg) = true ∧ cjR (mR M) a f (xs (nI i + (1 : Int32)).toNatClampNeg) = true then recK (mK M) else mK M := ⟨_, rfl⟩
  obtain ⟨m3, hm3⟩ : ∃ z : FI, z = if iR (mR M) (xs (nI i + (1 : Int32)).toNatClampNeg) = true then cjF (mR M) f (xs (nI i + (1 : Int32)).toNatClampNeg) (mF M) else mF M := ⟨_, rfl⟩
  refine z_bwi (b' := zMod cI r (uF (uK (uR M m1) m2) m3)) (Bs' := [zTl cI t0 S0, zTl cI t1 S1, zTl cI t2 S2, zTl cI t3 S3, zMod cI r (uF (uK (uR M m1) m2) m3), zGri g q h, zSta cI q T1, zHea cQ h (uN (uQ Z g2) g3), zSto cI t0 S0, zSto cI t1 S1, zSto cI t2 S2, zSto cI t3 S3, zSta cI t4 T4]) (va_runV (As := [.int (xs (nI i + (1 : Int32)).toNatClampNeg)]) (rest := [.int (joRet S (xs (nI i + (1 : Int32)).toNatClampNeg))]) ⟨hx, hb, hml, hown, hz⟩ (c_X6_join l D cI cQ r M (xs (nI i + (1 : Int32)).toNatClampNeg) a f hA n hn hK5 hsc (hmj (xs (nI i + (1 : Int32)).toNatClampNeg)) m1 hm1 m2 hm2 m3 hm3) (zcwV 1 hz q3_216 q3_217 q3_218 q1_7 q3_219 hd_X6_join (Nat.le_of_ble_eq_true rfl) (Nat.le_of_ble_eq_true rfl)) (z_pvw (ci := 6) (q := (RX6, TX6, 3)) hK (zB_blk (b := zMod cI r M) hP 4 rfl) (zB_Dblk (b := zMod cI r M) hD 4 rfl) rfl rfl) rfl rfl hl.1 rfl (lv_room (Nat.le_of_ble_eq_true rfl)) dL_law_317 ⟨hcc.1, hcc.2⟩) hP hD hS 4 rfl [0, 1, 2] rfl rfl rfl rfl (fun H locs hP hD hS => ?_)
  have hv : joRet S (xs (nI i + (1 : Int32)).toNatClampNeg) = mjRet (mR M) a f (xs (nI i + (1 : Int32)).toNatClampNeg) (mF M) := (hJ.f_join _ _ _ _ _ _ _ _ a f hj hA (xs (nI i + (1 : Int32)).toNatClampNeg)).1
  refine lv_icmp_eq (tgt := 671) hx hb dL_law_320 (by decide) (fun c_1 => ?_) (fun c_1 => absurd hv c_1)
  have hok := (hJ.f_join _ _ _ _ _ _ _ _ a f hj hA (xs (nI i + (1 : Int32)).toNatClampNeg)).2.1
  have hnx := (hJ.f_join _ _ _ _ _ _ _ _ a f hj hA (xs (nI i + (1 : Int32)).toNatClampNeg)).2.2
  cases hk : joOk S (xs (nI i + (1 : Int32)).toNatClampNeg) with
  | false =>
    rw [hk] at hok
    rw [hk] at hT1
    rw [hk] at hg2
    rw [hk] at hg3
    rw [hk] at hT4
    have hok2 : ¬ (iR (mR M) (xs (nI i + (1 : Int32)).toNatClampNeg) = true ∧ cjR (mR M) a f (xs (nI i + (1 : Int32)).toNatClampNeg) = true) := by intro hc; rw [hc.1, hc.2] at hok; exact absurd hok (by decide)
    rw [if_neg hok2] at hm1 hm2
    have hT1 := hT1.trans (if_neg Bool.false_ne_true)
    have hg2 := hg2.trans (if_neg Bool.false_ne_true)
    have hg3 := hg3.trans (if_neg Bool.false_ne_true)
    have hT4 := hT4.trans (if_neg Bool.false_ne_true)
    have hP1 : va_P D vwCl (zB [zGri g q h, zSta cI q T1, zHea cQ h (uN (uQ Z g2) g3), zSto cI t0 S0, zTl cI t0 S0, zSto cI t1 S1, zTl cI t1 S1, zSto cI t2 S2, zTl cI t2 S2, zSto cI t3 S3, zTl cI t3 S3, zSta cI t4 T4, zMod cI r (uF (uK (uR M m1) m2) m3)]) H := zB_sub hP [5, 6, 7, 8, 0, 9, 1, 10, 2, 11, 3, 12, 4] rfl
    have hD1 : va_D A (zB [zGri g q h, zSta cI q T1, zHea cQ h (uN (uQ Z g2) g3), zSto cI t0 S0, zTl cI t0 S0, zSto cI t1 S1, zTl cI t1 S1, zSto cI t2 S2, zTl cI t2 S2, zSto cI t3 S3, zTl cI t3 S3, zSta cI t4 T4, zMod cI r (uF (uK (uR M m1) m2) m3)]) := zB_Dsub hD [5, 6, 7, 8, 0, 9, 1, 10, 2, 11, 3, 12, 4] (by decide) rfl
    exact kk H locs ls ⟨g, q, h, t0, t1, t2, t3, t4, r, T1, uN (uQ Z g2) g3, S0, S1, S2, S3, T4, uF (uK (uR M m1) m2) m3, rfl, rfl, (show g2 0 = some (t0 0) from by rw [hg2]; exact hq0), (show g2 1 = some (t1 0) from by rw [hg2]; exact hq1), (show g2 2 = some (t2 0) from by rw [hg2]; exact hq2), (show g2 3 = some (t3 0) from by rw [hg2]; exact hq3), (show g2 4 = some (t4 0) from by rw [hg2]; exact hq4), (by rw [hT1, hg3, hT4, hm1, hm2]; exact hJ.fF _ _ _ _ _ _ _ _ m3 hj), hP1, hD1, hS⟩ hl
  | true =>
    rw [hk] at hok
    rw [hk] at hT1
    rw [hk] at hg2
    rw [hk] at hg3
    rw [hk] at hT4
    have hok2 : (iR (mR M) (xs (nI i + (1 : Int32)).toNatClampNeg) = true ∧ cjR (mR M) a f (xs (nI i + (1 : Int32)).toNatClampNeg) = true) := by simpa using hok.symm
    rw [if_pos hok2] at hm1 hm2
    have hT1 := hT1.trans (if_pos rfl)
    have hg2 := hg2.trans (if_pos rfl)
    have hg3 := hg3.trans (if_pos rfl)
    have hT4 := hT4.trans (if_pos rfl)
    have hj2 := hnx hk
    have hP1 : va_P D vwCl (zB [zGri g q h, zSta cI q T1, zHea cQ h (uN (uQ Z g2) g3), zSta cI t4 T4, zSto cI t0 S0, zTl cI t0 S0, zSto cI t1 S1, zTl cI t1 S1, zSto cI t2 S2, zTl cI t2 S2, zSto cI t3 S3, zTl cI t3 S3, zMod cI r (uF (uK (uR M m1) m2) m3)]) H := zB_sub hP [5, 6, 7, 12, 8, 0, 9, 1, 10, 2, 11, 3, 4] rfl
    have hD1 : va_D A (zB [zGri g q h, zSta cI q T1, zHea cQ h (uN (uQ Z g2) g3), zSta cI t4 T4, zSto cI t0 S0, zTl cI t0 S0, zSto cI t1 S1, zTl cI t1 S1, zSto cI t2 S2, zTl cI t2 S2, zSto cI t3 S3, zTl cI t3 S3, zMod cI r (uF (uK (uR M m1) m2) m3)]) := zB_Dsub hD [5, 6, 7, 12, 8, 0, 9, 1, 10, 2, 11, 3, 4] (by decide) rfl
    exact kk H locs ls ⟨g, q, h, t4, t0, t1, t2, t3, r, T1, uN (uQ Z g2) g3, T4, S0, S1, S2, S3, uF (uK (uR M m1) m2) m3, rfl, rfl, (show g2 0 = some (t4 0) from by rw [hg2]; rfl), (show g2 1 = some (t0 0) from by rw [hg2]; rfl), (show g2 2 = some (t1 0) from by rw [hg2]; rfl), (show g2 3 = some (t2 0) from by rw [hg2]; rfl), (show g2 4 = some (t3 0) from by rw [hg2]; rfl), (by rw [hT1, hg3, hT4, hm1, hm2]; exact hJ.fF _ _ _ _ _ _ _ _ m3 hj2), hP1, hD1, hS⟩ hl
set_option maxHeartbeats 2000000 in
set_option maxRecDepth 100000 in
theorem law_undo {pg : Program} {l : Launch} {e : Env} {s : State} {mi : MethodId} {args : Array Value} {below : List Frame} {meth : Method} {cd : Code} {H : Heap} {locs : List Loc} {KC KS : Nat} {Q : State → Prop} {ls : Array Slot} {D : va_G} {cI cQ : ClassId} {A : Nat → Prop} {b L : Nat} {xs : Nat → Int32} {i xg xr : Nat} {J : CS → Int32 → CS → CS → CS → CS → CS → MS → Prop} (hx : pg.tables.exec = Jvm.exec) (hb : cd.code = cL_law) (hown : s.vm.findClass "TitheGridLaw" = some mi.cls) (hml : cd.maxLocals = 4) (hz : ∀ w ∈ zT, w.before args s = true) (hX : va_X b L xs s s.heap) (hbl : b < s.heap.size) (hbA : ¬ A b) (hK : zK D cI cQ s) (hL : L ≤ 3072) (hi : i + 6 ≤ L) (hJ : LawOK J) (hcc : KC ≤ 600000 ∧ KS ≤ 7302250) (hI : LI J D cI cQ A s.heap xg xr H locs) (hl : lv_has ls 4 [(3, .int (nI i)), (0, .ref b), (1, .ref xg), (2, .ref xr)]) (kk : ∀ (H : Heap) (locs : List Loc) (ls : Array Slot), LI J D cI cQ A s.heap xg xr H locs → lv_has ls 4 [(3, .int (nI i)), (0, .ref b), (1, .ref xg), (2, .ref xr)] → W pg l e room_1 s mi args below meth cd H locs KC KS Q (F0 mi 671 ls [])) : W pg l e room_1 s mi args below meth cd H locs KC KS Q (F0 mi 325 ls []) := by
  obtain ⟨g, q, h, t0, t1, t2, t3, t4, r, S, Z, S0, S1, S2, S3, S4, M, rfl, rfl, hq0, hq1, hq2, hq3, hq4, hj, hP, hD, hS⟩ := hI
  obtain ⟨a, f, n, hA, hn, hK5, hsc, hmj⟩ := hJ.f0 _ _ _ _ _ _ _ _ hj
  refine lv_aload_n hx hb dL_law_325 rfl (lv_at hl 2 rfl) ?_
  have hP : va_P D vwCl (zB [zGri g q h, zSta cI q S, zHea cQ h Z, zSta cI t0 S0, zSto cI t1 S1, zTl cI t1 S1, zSto cI t2 S2, zTl cI t2 S2, zSto cI t3 S3, zTl cI t3 S3, zSto cI t4 S4, zTl cI t4 S4, zMod cI r M]) H := hP
  have hD : va_D A (zB [zGri g q h, zSta cI q S, zHea cQ h Z, zSta cI t0 S0, zSto cI t1 S1, zTl cI t1 S1, zSto cI t2 S2, zTl cI t2 S2, zSto cI t3 S3, zTl cI t3 S3, zSto cI t4 S4, zTl cI t4 S4, zMod cI r M]) := hD
  obtain ⟨T1, hT1⟩ : ∃ z : CS, z = if hEm Z then S else S0 := ⟨_, rfl⟩
  obtain ⟨g2, hg2⟩ : ∃ z : Nat → Option Nat, z = if hEm Z then hQ Z else z_qR (hQ Z) (t0 0) (t1 0) (t2 0) (t3 0) (t4 0) := ⟨_, rfl⟩
  obtain ⟨g3, hg3⟩ : ∃ z : Int32, z = if hEm Z then hN Z else z_maxH (hN Z) := ⟨_, rfl⟩
  refine z_bji (Cs' := [zGri g q h, zSta cI q T1, zHea cQ h (uN (uQ Z g2) g3), zSta cI t0 S0, zSto cI t1 S1, zSto cI t2 S2, zSto cI t3 S3, zSto cI t4 S4]) (Rs := [zTl cI t1 S1, zTl cI t2 S2, zTl cI t3 S3, zTl cI t4 S4, zMod cI r M]) (va_runV (As := []) (rest := []) ⟨hx, hb, hml, hown, hz⟩ (c_X5_undo l D cI cQ g q h t0 t1 t2 t3 t4 S Z S0 S1 S2 S3 S4  hq0 hq1 hq2 hq3 hq4 T1 hT1 g2 hg2 g3 hg3) (zcwV 0 hz q2_161 q2_162 q2_163 q1_1 q2_164 hd_X5_undo (Nat.le_of_ble_eq_true rfl) (Nat.le_of_ble_eq_true rfl)) (z_pvw (ci := 5) (q := (RX5, TX5, 2)) hK (zB_sub (Cs := [zGri g q h, zSta cI q S, zHea cQ h Z, zSta cI t0 S0, zSto cI t1 S1, zSto cI t2 S2, zSto cI t3 S3, zSto cI t4 S4]) hP [0, 1, 2, 3, 4, 6, 8, 10] rfl) (zB_Dsub (Cs := [zGri g q h, zSta cI q S, zHea cQ h Z, zSta cI t0 S0, zSto cI t1 S1, zSto cI t2 S2, zSto cI t3 S3, zSto cI t4 S4]) hD [0, 1, 2, 3, 4, 6, 8, 10] (by decide) rfl) rfl rfl) rfl rfl hl.1 rfl (lv_room (Nat.le_of_ble_eq_true rfl)) dL_law_326 ⟨hcc.1, hcc.2⟩) hP hD hS [0, 1, 2, 3, 4, 6, 8, 10] [5, 7, 9, 11, 12] rfl rfl (by decide) rfl (fun H locs hP hD hS => ?_)
  have hP : va_P D vwCl (zB [zTl cI t1 S1, zTl cI t2 S2, zTl cI t3 S3, zTl cI t4 S4, zMod cI r M, zGri g q h, zSta cI q T1, zHea cQ h (uN (uQ Z g2) g3), zSta cI t0 S0, zSto cI t1 S1, zSto cI t2 S2, zSto cI t3 S3, zSto cI t4 S4]) H := hP
  have hD : va_D A (zB [zTl cI t1 S1, zTl cI t2 S2, zTl cI t3 S3, zTl cI t4 S4, zMod cI r M, zGri g q h, zSta cI q T1, zHea cQ h (uN (uQ Z g2) g3), zSta cI t0 S0, zSto cI t1 S1, zSto cI t2 S2, zSto cI t3 S3, zSto cI t4 S4]) := hD
  refine lv_aload_n hx hb dL_law_329 rfl (lv_at hl 3 rfl) ?_
  obtain ⟨m1, hm1⟩ : ∃ z : FI, z = if mK M = 0 then mR M else cps (mR M) (1964 * mK M) 0 1964 := ⟨_, rfl⟩
  obtain ⟨m2, hm2⟩ : ∃ z : Int32, z = if mK M = 0 then mK M else mK M - 1 := ⟨_, rfl⟩
  refine z_bwi (b' := zMod cI r (uK (uR M m1) m2)) (Bs' := [zTl cI t1 S1, zTl cI t2 S2, zTl cI t3 S3, zTl cI t4 S4, zMod cI r (uK (uR M m1) m2), zGri g q h, zSta cI q T1, zHea cQ h (uN (uQ Z g2) g3), zSta cI t0 S0, zSto cI t1 S1, zSto cI t2 S2, zSto cI t3 S3, zSto cI t4 S4]) (va_runV (As := []) (rest := [.int (unRet Z)]) ⟨hx, hb, hml, hown, hz⟩ (c_X6_undo l D cI cQ r M n hn hK5 m1 hm1 m2 hm2) (zcwV 0 hz q3_228 q3_229 q3_230 q1_7 q3_231 hd_X6_undo (Nat.le_of_ble_eq_true rfl) (Nat.le_of_ble_eq_true rfl)) (z_pvw (ci := 6) (q := (RX6, TX6, 3)) hK (zB_blk (b := zMod cI r M) hP 4 rfl) (zB_Dblk (b := zMod cI r M) hD 4 rfl) rfl rfl) rfl rfl hl.1 rfl (lv_room (Nat.le_of_ble_eq_true rfl)) dL_law_330 ⟨hcc.1, hcc.2⟩) hP hD hS 4 rfl [0, 1, 2] rfl rfl rfl rfl (fun H locs hP hD hS => ?_)
  have hv : unRet Z = muRet (mK M) := (hJ.f_undo _ _ _ _ _ _ _ _ a f hj hA).1
  refine lv_icmp_eq (tgt := 671) hx hb dL_law_333 (by decide) (fun c_1 => ?_) (fun c_1 => absurd hv c_1)
  have hok := (hJ.f_undo _ _ _ _ _ _ _ _ a f hj hA).2.1
  have hnx := (hJ.f_undo _ _ _ _ _ _ _ _ a f hj hA).2.2
  by_cases hk : hN Z = 0
  · have hk2 : hEm Z = true := by simp [hEm, hk]
    rw [hk2] at hT1
    have hT1 := hT1.trans (if_pos rfl)
    rw [hk2] at hg2
    have hg2 := hg2.trans (if_pos rfl)
    rw [hk2] at hg3
    have hg3 := hg3.trans (if_pos rfl)
    rw [if_pos (hok.mp hk)] at hm1 hm2
    have hP1 : va_P D vwCl (zB [zGri g q h, zSta cI q T1, zHea cQ h (uN (uQ Z g2) g3), zSta cI t0 S0, zSto cI t1 S1, zTl cI t1 S1, zSto cI t2 S2, zTl cI t2 S2, zSto cI t3 S3, zTl cI t3 S3, zSto cI t4 S4, zTl cI t4 S4, zMod cI r (uK (uR M m1) m2)]) H := zB_sub hP [5, 6, 7, 8, 9, 0, 10, 1, 11, 2, 12, 3, 4] rfl
    have hD1 : va_D A (zB [zGri g q h, zSta cI q T1, zHea cQ h (uN (uQ Z g2) g3), zSta cI t0 S0, zSto cI t1 S1, zTl cI t1 S1, zSto cI t2 S2, zTl cI t2 S2, zSto cI t3 S3, zTl cI t3 S3, zSto cI t4 S4, zTl cI t4 S4, zMod cI r (uK (uR M m1) m2)]) := zB_Dsub hD [5, 6, 7, 8, 9, 0, 10, 1, 11, 2, 12, 3, 4] (by decide) rfl
    exact kk H locs ls ⟨g, q, h, t0, t1, t2, t3, t4, r, T1, uN (uQ Z g2) g3, S0, S1, S2, S3, S4, uK (uR M m1) m2, rfl, rfl, (show g2 0 = some (t0 0) from by rw [hg2]; exact hq0), (show g2 1 = some (t1 0) from by rw [hg2]; exact hq1), (show g2 2 = some (t2 0) from by rw [hg2]; exact hq2), (show g2 3 = some (t3 0) from by rw [hg2]; exact hq3), (show g2 4 = some (t4 0) from by rw [hg2]; exact hq4), (by rw [hT1, hg3, hm1, hm2]; exact hj), hP1, hD1, hS⟩ hl
  · have hk2 : hEm Z = false := by simp [hEm, hk]
    rw [hk2] at hT1
    have hT1 := hT1.trans (if_neg Bool.false_ne_true)
    rw [hk2] at hg2
    have hg2 := hg2.trans (if_neg Bool.false_ne_true)
    rw [hk2] at hg3
    have hg3 := hg3.trans (if_neg Bool.false_ne_true)
    rw [if_neg (fun hc => hk (hok.mpr hc))] at hm1 hm2
    have hP1 : va_P D vwCl (zB [zGri g q h, zSta cI q T1, zHea cQ h (uN (uQ Z g2) g3), zSto cI t1 S1, zTl cI t1 S1, zSto cI t2 S2, zTl cI t2 S2, zSto cI t3 S3, zTl cI t3 S3, zSto cI t4 S4, zTl cI t4 S4, zSta cI t0 S0, zMod cI r (uK (uR M m1) m2)]) H := zB_sub hP [5, 6, 7, 9, 0, 10, 1, 11, 2, 12, 3, 8, 4] rfl
    have hD1 : va_D A (zB [zGri g q h, zSta cI q T1, zHea cQ h (uN (uQ Z g2) g3), zSto cI t1 S1, zTl cI t1 S1, zSto cI t2 S2, zTl cI t2 S2, zSto cI t3 S3, zTl cI t3 S3, zSto cI t4 S4, zTl cI t4 S4, zSta cI t0 S0, zMod cI r (uK (uR M m1) m2)]) := zB_Dsub hD [5, 6, 7, 9, 0, 10, 1, 11, 2, 12, 3, 8, 4] (by decide) rfl
    exact kk H locs ls ⟨g, q, h, t1, t2, t3, t4, t0, r, T1, uN (uQ Z g2) g3, S1, S2, S3, S4, S0, uK (uR M m1) m2, rfl, rfl, (show g2 0 = some (t1 0) from by rw [hg2]; rfl), (show g2 1 = some (t2 0) from by rw [hg2]; rfl), (show g2 2 = some (t3 0) from by rw [hg2]; rfl), (show g2 3 = some (t4 0) from by rw [hg2]; rfl), (show g2 4 = some (t0 0) from by rw [hg2]; rfl), (by rw [hT1, hg3, hm1, hm2]; exact hnx hk), hP1, hD1, hS⟩ hl
set_option maxHeartbeats 2000000 in
set_option maxRecDepth 100000 in
theorem law_count {pg : Program} {l : Launch} {e : Env} {s : State} {mi : MethodId} {args : Array Value} {below : List Frame} {meth : Method} {cd : Code} {H : Heap} {locs : List Loc} {KC KS : Nat} {Q : State → Prop} {ls : Array Slot} {D : va_G} {cI cQ : ClassId} {A : Nat → Prop} {b L : Nat} {xs : Nat → Int32} {i xg xr : Nat} {J : CS → Int32 → CS → CS → CS → CS → CS → MS → Prop} (hx : pg.tables.exec = Jvm.exec) (hb : cd.code = cL_law) (hown : s.vm.findClass "TitheGridLaw" = some mi.cls) (hml : cd.maxLocals = 4) (hz : ∀ w ∈ zT, w.before args s = true) (hX : va_X b L xs s s.heap) (hbl : b < s.heap.size) (hbA : ¬ A b) (hK : zK D cI cQ s) (hL : L ≤ 3072) (hi : i + 6 ≤ L) (hJ : LawOK J) (hcc : KC ≤ 600000 ∧ KS ≤ 7302250) (hI : LI J D cI cQ A s.heap xg xr H locs) (hl : lv_has ls 4 [(3, .int (nI i)), (0, .ref b), (1, .ref xg), (2, .ref xr)]) (kk : ∀ (H : Heap) (locs : List Loc) (ls : Array Slot), LI J D cI cQ A s.heap xg xr H locs → lv_has ls 4 [(3, .int (nI i)), (0, .ref b), (1, .ref xg), (2, .ref xr)] → W pg l e room_1 s mi args below meth cd H locs KC KS Q (F0 mi 671 ls [])) : W pg l e room_1 s mi args below meth cd H locs KC KS Q (F0 mi 338 ls []) := by
  obtain ⟨g, q, h, t0, t1, t2, t3, t4, r, S, Z, S0, S1, S2, S3, S4, M, rfl, rfl, hq0, hq1, hq2, hq3, hq4, hj, hP, hD, hS⟩ := hI
  obtain ⟨a, f, n, hA, hn, hK5, hsc, hmj⟩ := hJ.f0 _ _ _ _ _ _ _ _ hj
  refine lv_aload_n hx hb dL_law_338 rfl (lv_at hl 2 rfl) ?_
  refine lv_aload_n hx hb dL_law_339 rfl (lv_at hl 1 rfl) ?_
  refine lv_iload_n hx hb dL_law_340 rfl (lv_at hl 0 rfl) ?_
  refine lv_iconst (v := 1) hx hb dL_law_341 (by decide) ?_
  refine lv_iadd hx hb dL_law_342 ?_
  refine va_sld hx hb hX hbl hbA hS (z_lx1 hi hL) dL_law_343 ?_
  refine z_ro (va_runV (As := [.int (xs (nI i + (1 : Int32)).toNatClampNeg)]) (rest := []) ⟨hx, hb, hml, hown, hz⟩ (c_X5_count l D cI cQ g q h S Z (xs (nI i + (1 : Int32)).toNatClampNeg)) (zcwV 1 hz q2_180 q2_181 q2_182 q1_1 q2_183 hd_X5_count (Nat.le_of_ble_eq_true rfl) (Nat.le_of_ble_eq_true rfl)) (z_pv (ci := 5) (q := (RX5, TX5, 2)) hK (zB_sub (Cs := [zGri g q h, zSta cI q S, zHea cQ h Z]) hP [0, 1, 2] rfl) rfl rfl) rfl rfl hl.1 rfl (lv_room (Nat.le_of_ble_eq_true rfl)) dL_law_344 ⟨hcc.1, hcc.2⟩) ?_
  refine lv_aload_n hx hb dL_law_347 rfl (lv_at hl 3 rfl) ?_
  refine lv_aload_n hx hb dL_law_348 rfl (lv_at hl 1 rfl) ?_
  refine lv_iload_n hx hb dL_law_349 rfl (lv_at hl 0 rfl) ?_
  refine lv_iconst (v := 1) hx hb dL_law_350 (by decide) ?_
  refine lv_iadd hx hb dL_law_351 ?_
  refine va_sld hx hb hX hbl hbA hS (z_lx1 hi hL) dL_law_352 ?_
  refine z_ro (va_runV (As := [.int (xs (nI i + (1 : Int32)).toNatClampNeg)]) (rest := [.int (coRet S Z (xs (nI i + (1 : Int32)).toNatClampNeg))]) ⟨hx, hb, hml, hown, hz⟩ (c_X6_count l D cI cQ r M (xs (nI i + (1 : Int32)).toNatClampNeg) a f hA) (zcwV 1 hz q3_232 q3_233 q3_234 q1_7 q3_235 hd_X6_count (Nat.le_of_ble_eq_true rfl) (Nat.le_of_ble_eq_true rfl)) (z_pv (ci := 6) (q := (RX6, TX6, 3)) hK (zB_blk (b := zMod cI r M) hP 13 rfl) rfl rfl) rfl rfl hl.1 rfl (lv_room (Nat.le_of_ble_eq_true rfl)) dL_law_353 ⟨hcc.1, hcc.2⟩) ?_
  have hv : coRet S Z (xs (nI i + (1 : Int32)).toNatClampNeg) = mcoRet (mR M) (mK M) a f (xs (nI i + (1 : Int32)).toNatClampNeg) := hJ.f_count _ _ _ _ _ _ _ _ a f hj hA (xs (nI i + (1 : Int32)).toNatClampNeg) (hQ Z)
  refine lv_icmp_eq (tgt := 671) hx hb dL_law_356 (by decide) (fun c_1 => ?_) (fun c_1 => absurd hv c_1)
  exact kk H locs ls ⟨g, q, h, t0, t1, t2, t3, t4, r, S, Z, S0, S1, S2, S3, S4, M, rfl, rfl, hq0, hq1, hq2, hq3, hq4, hj, hP, hD, hS⟩ hl
set_option maxHeartbeats 2000000 in
set_option maxRecDepth 100000 in
theorem law_point {pg : Program} {l : Launch} {e : Env} {s : State} {mi : MethodId} {args : Array Value} {below : List Frame} {meth : Method} {cd : Code} {H : Heap} {locs : List Loc} {KC KS : Nat} {Q : State → Prop} {ls : Array Slot} {D : va_G} {cI cQ : ClassId} {A : Nat → Prop} {b L : Nat} {xs : Nat → Int32} {i xg xr : Nat} {J : CS → Int32 → CS → CS → CS → CS → CS → MS → Prop} (hx : pg.tables.exec = Jvm.exec) (hb : cd.code = cL_law) (hown : s.vm.findClass "TitheGridLaw" = some mi.cls) (hml : cd.maxLocals = 4) (hz : ∀ w ∈ zT, w.before args s = true) (hX : va_X b L xs s s.heap) (hbl : b < s.heap.size) (hbA : ¬ A b) (hK : zK D cI cQ s) (hL : L ≤ 3072) (hi : i + 6 ≤ L) (hJ : LawOK J) (hcc : KC ≤ 600000 ∧ KS ≤ 7302250) (hI : LI J D cI cQ A s.heap xg xr H locs) (hl : lv_has ls 4 [(3, .int (nI i)), (0, .ref b), (1, .ref xg), (2, .ref xr)]) (kk : ∀ (H : Heap) (locs : List Loc) (ls : Array Slot), LI J D cI cQ A s.heap xg xr H locs → lv_has ls 4 [(3, .int (nI i)), (0, .ref b), (1, .ref xg), (2, .ref xr)] → W pg l e room_1 s mi args below meth cd H locs KC KS Q (F0 mi 671 ls [])) : W pg l e room_1 s mi args below meth cd H locs KC KS Q (F0 mi 361 ls []) := by
  obtain ⟨g, q, h, t0, t1, t2, t3, t4, r, S, Z, S0, S1, S2, S3, S4, M, rfl, rfl, hq0, hq1, hq2, hq3, hq4, hj, hP, hD, hS⟩ := hI
  obtain ⟨a, f, n, hA, hn, hK5, hsc, hmj⟩ := hJ.f0 _ _ _ _ _ _ _ _ hj
  refine lv_aload_n hx hb dL_law_361 rfl (lv_at hl 2 rfl) ?_
  refine lv_aload_n hx hb dL_law_362 rfl (lv_at hl 1 rfl) ?_
  refine lv_iload_n hx hb dL_law_363 rfl (lv_at hl 0 rfl) ?_
  refine lv_iconst (v := 1) hx hb dL_law_364 (by decide) ?_
  refine lv_iadd hx hb dL_law_365 ?_
  refine va_sld hx hb hX hbl hbA hS (z_lx1 hi hL) dL_law_366 ?_
  refine lv_aload_n hx hb dL_law_367 rfl (lv_at hl 1 rfl) ?_
  refine lv_iload_n hx hb dL_law_368 rfl (lv_at hl 0 rfl) ?_
  refine lv_iconst (v := 2) hx hb dL_law_369 (by decide) ?_
  refine lv_iadd hx hb dL_law_370 ?_
  refine va_sld hx hb hX hbl hbA hS (z_lx2 hi hL) dL_law_371 ?_
  refine z_ro (va_runV (As := [.int (xs (nI i + (1 : Int32)).toNatClampNeg), .int (xs (nI i + (2 : Int32)).toNatClampNeg)]) (rest := []) ⟨hx, hb, hml, hown, hz⟩ (c_X5_point l D cI cQ g q h S (xs (nI i + (1 : Int32)).toNatClampNeg) (xs (nI i + (2 : Int32)).toNatClampNeg)) (zcwV 2 hz q2_219 q2_220 q2_221 q1_1 q2_222 hd_X5_point (Nat.le_of_ble_eq_true rfl) (Nat.le_of_ble_eq_true rfl)) (z_pv (ci := 5) (q := (RX5, TX5, 2)) hK (zB_sub (Cs := [zGri g q h, zSta cI q S]) hP [0, 1] rfl) rfl rfl) rfl rfl hl.1 rfl (lv_room (Nat.le_of_ble_eq_true rfl)) dL_law_372 ⟨hcc.1, hcc.2⟩) ?_
  refine lv_aload_n hx hb dL_law_375 rfl (lv_at hl 3 rfl) ?_
  refine lv_aload_n hx hb dL_law_376 rfl (lv_at hl 1 rfl) ?_
  refine lv_iload_n hx hb dL_law_377 rfl (lv_at hl 0 rfl) ?_
  refine lv_iconst (v := 1) hx hb dL_law_378 (by decide) ?_
  refine lv_iadd hx hb dL_law_379 ?_
  refine va_sld hx hb hX hbl hbA hS (z_lx1 hi hL) dL_law_380 ?_
  refine lv_aload_n hx hb dL_law_381 rfl (lv_at hl 1 rfl) ?_
  refine lv_iload_n hx hb dL_law_382 rfl (lv_at hl 0 rfl) ?_
  refine lv_iconst (v := 2) hx hb dL_law_383 (by decide) ?_
  refine lv_iadd hx hb dL_law_384 ?_
  refine va_sld hx hb hX hbl hbA hS (z_lx2 hi hL) dL_law_385 ?_
  refine z_ro (va_runV (As := [.int (xs (nI i + (1 : Int32)).toNatClampNeg), .int (xs (nI i + (2 : Int32)).toNatClampNeg)]) (rest := [.int (poRet S (xs (nI i + (1 : Int32)).toNatClampNeg) (xs (nI i + (2 : Int32)).toNatClampNeg))]) ⟨hx, hb, hml, hown, hz⟩ (c_X6_point l D cI cQ r M (xs (nI i + (1 : Int32)).toNatClampNeg) (xs (nI i + (2 : Int32)).toNatClampNeg) a f hA) (zcwV 2 hz q4_0 q4_1 q4_2 q1_7 q4_3 hd_X6_point (Nat.le_of_ble_eq_true rfl) (Nat.le_of_ble_eq_true rfl)) (z_pv (ci := 6) (q := (RX6, TX6, 3)) hK (zB_blk (b := zMod cI r M) hP 13 rfl) rfl rfl) rfl rfl hl.1 rfl (lv_room (Nat.le_of_ble_eq_true rfl)) dL_law_386 ⟨hcc.1, hcc.2⟩) ?_
  have hv : poRet S (xs (nI i + (1 : Int32)).toNatClampNeg) (xs (nI i + (2 : Int32)).toNatClampNeg) = mpoRet (mR M) f (xs (nI i + (1 : Int32)).toNatClampNeg) (xs (nI i + (2 : Int32)).toNatClampNeg) := hJ.f_point _ _ _ _ _ _ _ _ a f hj hA (xs (nI i + (1 : Int32)).toNatClampNeg) (xs (nI i + (2 : Int32)).toNatClampNeg)
  refine lv_icmp_eq (tgt := 671) hx hb dL_law_389 (by decide) (fun c_1 => ?_) (fun c_1 => absurd hv c_1)
  exact kk H locs ls ⟨g, q, h, t0, t1, t2, t3, t4, r, S, Z, S0, S1, S2, S3, S4, M, rfl, rfl, hq0, hq1, hq2, hq3, hq4, hj, hP, hD, hS⟩ hl
set_option maxHeartbeats 2000000 in
set_option maxRecDepth 100000 in
theorem law_parish {pg : Program} {l : Launch} {e : Env} {s : State} {mi : MethodId} {args : Array Value} {below : List Frame} {meth : Method} {cd : Code} {H : Heap} {locs : List Loc} {KC KS : Nat} {Q : State → Prop} {ls : Array Slot} {D : va_G} {cI cQ : ClassId} {A : Nat → Prop} {b L : Nat} {xs : Nat → Int32} {i xg xr : Nat} {J : CS → Int32 → CS → CS → CS → CS → CS → MS → Prop} (hx : pg.tables.exec = Jvm.exec) (hb : cd.code = cL_law) (hown : s.vm.findClass "TitheGridLaw" = some mi.cls) (hml : cd.maxLocals = 4) (hz : ∀ w ∈ zT, w.before args s = true) (hX : va_X b L xs s s.heap) (hbl : b < s.heap.size) (hbA : ¬ A b) (hK : zK D cI cQ s) (hL : L ≤ 3072) (hi : i + 6 ≤ L) (hJ : LawOK J) (hcc : KC ≤ 600000 ∧ KS ≤ 7302250) (hI : LI J D cI cQ A s.heap xg xr H locs) (hl : lv_has ls 4 [(3, .int (nI i)), (0, .ref b), (1, .ref xg), (2, .ref xr)]) (kk : ∀ (H : Heap) (locs : List Loc) (ls : Array Slot), LI J D cI cQ A s.heap xg xr H locs → lv_has ls 4 [(3, .int (nI i)), (0, .ref b), (1, .ref xg), (2, .ref xr)] → W pg l e room_1 s mi args below meth cd H locs KC KS Q (F0 mi 671 ls [])) : W pg l e room_1 s mi args below meth cd H locs KC KS Q (F0 mi 394 ls []) := by
  obtain ⟨g, q, h, t0, t1, t2, t3, t4, r, S, Z, S0, S1, S2, S3, S4, M, rfl, rfl, hq0, hq1, hq2, hq3, hq4, hj, hP, hD, hS⟩ := hI
  obtain ⟨a, f, n, hA, hn, hK5, hsc, hmj⟩ := hJ.f0 _ _ _ _ _ _ _ _ hj
  refine lv_aload_n hx hb dL_law_394 rfl (lv_at hl 2 rfl) ?_
  refine lv_aload_n hx hb dL_law_395 rfl (lv_at hl 1 rfl) ?_
  refine lv_iload_n hx hb dL_law_396 rfl (lv_at hl 0 rfl) ?_
  refine lv_iconst (v := 1) hx hb dL_law_397 (by decide) ?_
  refine lv_iadd hx hb dL_law_398 ?_
  refine va_sld hx hb hX hbl hbA hS (z_lx1 hi hL) dL_law_399 ?_
  refine lv_aload_n hx hb dL_law_400 rfl (lv_at hl 1 rfl) ?_
  refine lv_iload_n hx hb dL_law_401 rfl (lv_at hl 0 rfl) ?_
  refine lv_iconst (v := 2) hx hb dL_law_402 (by decide) ?_
  refine lv_iadd hx hb dL_law_403 ?_
  refine va_sld hx hb hX hbl hbA hS (z_lx2 hi hL) dL_law_404 ?_
  refine z_ro (va_runV (As := [.int (xs (nI i + (1 : Int32)).toNatClampNeg), .int (xs (nI i + (2 : Int32)).toNatClampNeg)]) (rest := []) ⟨hx, hb, hml, hown, hz⟩ (c_X5_parish l D cI cQ g q h S (xs (nI i + (1 : Int32)).toNatClampNeg) (xs (nI i + (2 : Int32)).toNatClampNeg)) (zcwV 2 hz q2_231 q2_232 q2_233 q1_1 q2_234 hd_X5_parish (Nat.le_of_ble_eq_true rfl) (Nat.le_of_ble_eq_true rfl)) (z_pv (ci := 5) (q := (RX5, TX5, 2)) hK (zB_sub (Cs := [zGri g q h, zSta cI q S]) hP [0, 1] rfl) rfl rfl) rfl rfl hl.1 rfl (lv_room (Nat.le_of_ble_eq_true rfl)) dL_law_405 ⟨hcc.1, hcc.2⟩) ?_
  refine lv_aload_n hx hb dL_law_408 rfl (lv_at hl 3 rfl) ?_
  refine lv_aload_n hx hb dL_law_409 rfl (lv_at hl 1 rfl) ?_
  refine lv_iload_n hx hb dL_law_410 rfl (lv_at hl 0 rfl) ?_
  refine lv_iconst (v := 1) hx hb dL_law_411 (by decide) ?_
  refine lv_iadd hx hb dL_law_412 ?_
  refine va_sld hx hb hX hbl hbA hS (z_lx1 hi hL) dL_law_413 ?_
  refine lv_aload_n hx hb dL_law_414 rfl (lv_at hl 1 rfl) ?_
  refine lv_iload_n hx hb dL_law_415 rfl (lv_at hl 0 rfl) ?_
  refine lv_iconst (v := 2) hx hb dL_law_416 (by decide) ?_
  refine lv_iadd hx hb dL_law_417 ?_
  refine va_sld hx hb hX hbl hbA hS (z_lx2 hi hL) dL_law_418 ?_
  refine z_ro (va_runV (As := [.int (xs (nI i + (1 : Int32)).toNatClampNeg), .int (xs (nI i + (2 : Int32)).toNatClampNeg)]) (rest := [.int (paRet S (xs (nI i + (1 : Int32)).toNatClampNeg) (xs (nI i + (2 : Int32)).toNatClampNeg))]) ⟨hx, hb, hml, hown, hz⟩ (c_X6_parish l D cI cQ r M (xs (nI i + (1 : Int32)).toNatClampNeg) (xs (nI i + (2 : Int32)).toNatClampNeg) a f hA) (zcwV 2 hz q4_4 q4_5 q4_6 q1_7 q4_7 hd_X6_parish (Nat.le_of_ble_eq_true rfl) (Nat.le_of_ble_eq_true rfl)) (z_pv (ci := 6) (q := (RX6, TX6, 3)) hK (zB_blk (b := zMod cI r M) hP 13 rfl) rfl rfl) rfl rfl hl.1 rfl (lv_room (Nat.le_of_ble_eq_true rfl)) dL_law_419 ⟨hcc.1, hcc.2⟩) ?_
  have hv : paRet S (xs (nI i + (1 : Int32)).toNatClampNeg) (xs (nI i + (2 : Int32)).toNatClampNeg) = mpaRet (mR M) a (xs (nI i + (1 : Int32)).toNatClampNeg) (xs (nI i + (2 : Int32)).toNatClampNeg) := hJ.f_parish _ _ _ _ _ _ _ _ a f hj hA (xs (nI i + (1 : Int32)).toNatClampNeg) (xs (nI i + (2 : Int32)).toNatClampNeg)
  refine lv_icmp_eq (tgt := 671) hx hb dL_law_422 (by decide) (fun c_1 => ?_) (fun c_1 => absurd hv c_1)
  exact kk H locs ls ⟨g, q, h, t0, t1, t2, t3, t4, r, S, Z, S0, S1, S2, S3, S4, M, rfl, rfl, hq0, hq1, hq2, hq3, hq4, hj, hP, hD, hS⟩ hl
set_option maxHeartbeats 2000000 in
set_option maxRecDepth 100000 in
theorem law_debt {pg : Program} {l : Launch} {e : Env} {s : State} {mi : MethodId} {args : Array Value} {below : List Frame} {meth : Method} {cd : Code} {H : Heap} {locs : List Loc} {KC KS : Nat} {Q : State → Prop} {ls : Array Slot} {D : va_G} {cI cQ : ClassId} {A : Nat → Prop} {b L : Nat} {xs : Nat → Int32} {i xg xr : Nat} {J : CS → Int32 → CS → CS → CS → CS → CS → MS → Prop} (hx : pg.tables.exec = Jvm.exec) (hb : cd.code = cL_law) (hown : s.vm.findClass "TitheGridLaw" = some mi.cls) (hml : cd.maxLocals = 4) (hz : ∀ w ∈ zT, w.before args s = true) (hX : va_X b L xs s s.heap) (hbl : b < s.heap.size) (hbA : ¬ A b) (hK : zK D cI cQ s) (hL : L ≤ 3072) (hi : i + 6 ≤ L) (hJ : LawOK J) (hcc : KC ≤ 600000 ∧ KS ≤ 7302250) (hI : LI J D cI cQ A s.heap xg xr H locs) (hl : lv_has ls 4 [(3, .int (nI i)), (0, .ref b), (1, .ref xg), (2, .ref xr)]) (kk : ∀ (H : Heap) (locs : List Loc) (ls : Array Slot), LI J D cI cQ A s.heap xg xr H locs → lv_has ls 4 [(3, .int (nI i)), (0, .ref b), (1, .ref xg), (2, .ref xr)] → W pg l e room_1 s mi args below meth cd H locs KC KS Q (F0 mi 671 ls [])) : W pg l e room_1 s mi args below meth cd H locs KC KS Q (F0 mi 427 ls []) := by
  obtain ⟨g, q, h, t0, t1, t2, t3, t4, r, S, Z, S0, S1, S2, S3, S4, M, rfl, rfl, hq0, hq1, hq2, hq3, hq4, hj, hP, hD, hS⟩ := hI
  obtain ⟨a, f, n, hA, hn, hK5, hsc, hmj⟩ := hJ.f0 _ _ _ _ _ _ _ _ hj
  refine lv_aload_n hx hb dL_law_427 rfl (lv_at hl 2 rfl) ?_
  refine lv_aload_n hx hb dL_law_428 rfl (lv_at hl 1 rfl) ?_
  refine lv_iload_n hx hb dL_law_429 rfl (lv_at hl 0 rfl) ?_
  refine lv_iconst (v := 1) hx hb dL_law_430 (by decide) ?_
  refine lv_iadd hx hb dL_law_431 ?_
  refine va_sld hx hb hX hbl hbA hS (z_lx1 hi hL) dL_law_432 ?_
  refine lv_aload_n hx hb dL_law_433 rfl (lv_at hl 1 rfl) ?_
  refine lv_iload_n hx hb dL_law_434 rfl (lv_at hl 0 rfl) ?_
  refine lv_iconst (v := 2) hx hb dL_law_435 (by decide) ?_
  refine lv_iadd hx hb dL_law_436 ?_
  refine va_sld hx hb hX hbl hbA hS (z_lx2 hi hL) dL_law_437 ?_
  refine z_ro (va_runV (As := [.int (xs (nI i + (1 : Int32)).toNatClampNeg), .int (xs (nI i + (2 : Int32)).toNatClampNeg)]) (rest := []) ⟨hx, hb, hml, hown, hz⟩ (c_X5_debt l D cI cQ g q h S (xs (nI i + (1 : Int32)).toNatClampNeg) (xs (nI i + (2 : Int32)).toNatClampNeg)) (zcwV 2 hz q3_12 q3_13 q3_14 q1_1 q3_15 hd_X5_debt (Nat.le_of_ble_eq_true rfl) (Nat.le_of_ble_eq_true rfl)) (z_pv (ci := 5) (q := (RX5, TX5, 2)) hK (zB_sub (Cs := [zGri g q h, zSta cI q S]) hP [0, 1] rfl) rfl rfl) rfl rfl hl.1 rfl (lv_room (Nat.le_of_ble_eq_true rfl)) dL_law_438 ⟨hcc.1, hcc.2⟩) ?_
  refine lv_aload_n hx hb dL_law_441 rfl (lv_at hl 3 rfl) ?_
  refine lv_aload_n hx hb dL_law_442 rfl (lv_at hl 1 rfl) ?_
  refine lv_iload_n hx hb dL_law_443 rfl (lv_at hl 0 rfl) ?_
  refine lv_iconst (v := 1) hx hb dL_law_444 (by decide) ?_
  refine lv_iadd hx hb dL_law_445 ?_
  refine va_sld hx hb hX hbl hbA hS (z_lx1 hi hL) dL_law_446 ?_
  refine lv_aload_n hx hb dL_law_447 rfl (lv_at hl 1 rfl) ?_
  refine lv_iload_n hx hb dL_law_448 rfl (lv_at hl 0 rfl) ?_
  refine lv_iconst (v := 2) hx hb dL_law_449 (by decide) ?_
  refine lv_iadd hx hb dL_law_450 ?_
  refine va_sld hx hb hX hbl hbA hS (z_lx2 hi hL) dL_law_451 ?_
  refine z_ro (va_runV (As := [.int (xs (nI i + (1 : Int32)).toNatClampNeg), .int (xs (nI i + (2 : Int32)).toNatClampNeg)]) (rest := [.int (deRet S (xs (nI i + (1 : Int32)).toNatClampNeg) (xs (nI i + (2 : Int32)).toNatClampNeg))]) ⟨hx, hb, hml, hown, hz⟩ (c_X6_debt l D cI cQ r M (xs (nI i + (1 : Int32)).toNatClampNeg) (xs (nI i + (2 : Int32)).toNatClampNeg) a f hA) (zcwV 2 hz q4_8 q4_9 q4_10 q1_7 q4_11 hd_X6_debt (Nat.le_of_ble_eq_true rfl) (Nat.le_of_ble_eq_true rfl)) (z_pv (ci := 6) (q := (RX6, TX6, 3)) hK (zB_blk (b := zMod cI r M) hP 13 rfl) rfl rfl) rfl rfl hl.1 rfl (lv_room (Nat.le_of_ble_eq_true rfl)) dL_law_452 ⟨hcc.1, hcc.2⟩) ?_
  have hv : deRet S (xs (nI i + (1 : Int32)).toNatClampNeg) (xs (nI i + (2 : Int32)).toNatClampNeg) = mdeRet (mR M) (xs (nI i + (1 : Int32)).toNatClampNeg) (xs (nI i + (2 : Int32)).toNatClampNeg) := hJ.f_debt _ _ _ _ _ _ _ _ a f hj hA (xs (nI i + (1 : Int32)).toNatClampNeg) (xs (nI i + (2 : Int32)).toNatClampNeg)
  refine lv_icmp_eq (tgt := 671) hx hb dL_law_455 (by decide) (fun c_1 => ?_) (fun c_1 => absurd hv c_1)
  exact kk H locs ls ⟨g, q, h, t0, t1, t2, t3, t4, r, S, Z, S0, S1, S2, S3, S4, M, rfl, rfl, hq0, hq1, hq2, hq3, hq4, hj, hP, hD, hS⟩ hl
set_option maxHeartbeats 2000000 in
set_option maxRecDepth 100000 in
theorem law_at {pg : Program} {l : Launch} {e : Env} {s : State} {mi : MethodId} {args : Array Value} {below : List Frame} {meth : Method} {cd : Code} {H : Heap} {locs : List Loc} {KC KS : Nat} {Q : State → Prop} {ls : Array Slot} {D : va_G} {cI cQ : ClassId} {A : Nat → Prop} {b L : Nat} {xs : Nat → Int32} {i xg xr : Nat} {J : CS → Int32 → CS → CS → CS → CS → CS → MS → Prop} (hx : pg.tables.exec = Jvm.exec) (hb : cd.code = cL_law) (hown : s.vm.findClass "TitheGridLaw" = some mi.cls) (hml : cd.maxLocals = 4) (hz : ∀ w ∈ zT, w.before args s = true) (hX : va_X b L xs s s.heap) (hbl : b < s.heap.size) (hbA : ¬ A b) (hK : zK D cI cQ s) (hL : L ≤ 3072) (hi : i + 6 ≤ L) (hJ : LawOK J) (hcc : KC ≤ 600000 ∧ KS ≤ 7302250) (hI : LI J D cI cQ A s.heap xg xr H locs) (hl : lv_has ls 4 [(3, .int (nI i)), (0, .ref b), (1, .ref xg), (2, .ref xr)]) (kk : ∀ (H : Heap) (locs : List Loc) (ls : Array Slot), LI J D cI cQ A s.heap xg xr H locs → lv_has ls 4 [(3, .int (nI i)), (0, .ref b), (1, .ref xg), (2, .ref xr)] → W pg l e room_1 s mi args below meth cd H locs KC KS Q (F0 mi 671 ls [])) : W pg l e room_1 s mi args below meth cd H locs KC KS Q (F0 mi 460 ls []) := by
  obtain ⟨g, q, h, t0, t1, t2, t3, t4, r, S, Z, S0, S1, S2, S3, S4, M, rfl, rfl, hq0, hq1, hq2, hq3, hq4, hj, hP, hD, hS⟩ := hI
  obtain ⟨a, f, n, hA, hn, hK5, hsc, hmj⟩ := hJ.f0 _ _ _ _ _ _ _ _ hj
  refine lv_aload_n hx hb dL_law_460 rfl (lv_at hl 2 rfl) ?_
  refine lv_aload_n hx hb dL_law_461 rfl (lv_at hl 1 rfl) ?_
  refine lv_iload_n hx hb dL_law_462 rfl (lv_at hl 0 rfl) ?_
  refine lv_iconst (v := 1) hx hb dL_law_463 (by decide) ?_
  refine lv_iadd hx hb dL_law_464 ?_
  refine va_sld hx hb hX hbl hbA hS (z_lx1 hi hL) dL_law_465 ?_
  refine lv_aload_n hx hb dL_law_466 rfl (lv_at hl 1 rfl) ?_
  refine lv_iload_n hx hb dL_law_467 rfl (lv_at hl 0 rfl) ?_
  refine lv_iconst (v := 2) hx hb dL_law_468 (by decide) ?_
  refine lv_iadd hx hb dL_law_469 ?_
  refine va_sld hx hb hX hbl hbA hS (z_lx2 hi hL) dL_law_470 ?_
  refine z_ro (va_runV (As := [.int (xs (nI i + (1 : Int32)).toNatClampNeg), .int (xs (nI i + (2 : Int32)).toNatClampNeg)]) (rest := []) ⟨hx, hb, hml, hown, hz⟩ (c_X5_at l D cI cQ g q h S (xs (nI i + (1 : Int32)).toNatClampNeg) (xs (nI i + (2 : Int32)).toNatClampNeg)) (zcwV 2 hz q3_17 q3_18 q3_19 q1_1 q3_20 hd_X5_at (Nat.le_of_ble_eq_true rfl) (Nat.le_of_ble_eq_true rfl)) (z_pv (ci := 5) (q := (RX5, TX5, 2)) hK (zB_sub (Cs := [zGri g q h, zSta cI q S]) hP [0, 1] rfl) rfl rfl) rfl rfl hl.1 rfl (lv_room (Nat.le_of_ble_eq_true rfl)) dL_law_471 ⟨hcc.1, hcc.2⟩) ?_
  refine lv_aload_n hx hb dL_law_474 rfl (lv_at hl 3 rfl) ?_
  refine lv_aload_n hx hb dL_law_475 rfl (lv_at hl 1 rfl) ?_
  refine lv_iload_n hx hb dL_law_476 rfl (lv_at hl 0 rfl) ?_
  refine lv_iconst (v := 1) hx hb dL_law_477 (by decide) ?_
  refine lv_iadd hx hb dL_law_478 ?_
  refine va_sld hx hb hX hbl hbA hS (z_lx1 hi hL) dL_law_479 ?_
  refine lv_aload_n hx hb dL_law_480 rfl (lv_at hl 1 rfl) ?_
  refine lv_iload_n hx hb dL_law_481 rfl (lv_at hl 0 rfl) ?_
  refine lv_iconst (v := 2) hx hb dL_law_482 (by decide) ?_
  refine lv_iadd hx hb dL_law_483 ?_
  refine va_sld hx hb hX hbl hbA hS (z_lx2 hi hL) dL_law_484 ?_
  refine z_ro (va_runV (As := [.int (xs (nI i + (1 : Int32)).toNatClampNeg), .int (xs (nI i + (2 : Int32)).toNatClampNeg)]) (rest := [.int (atRet S (xs (nI i + (1 : Int32)).toNatClampNeg) (xs (nI i + (2 : Int32)).toNatClampNeg))]) ⟨hx, hb, hml, hown, hz⟩ (c_X6_at l D cI cQ r M (xs (nI i + (1 : Int32)).toNatClampNeg) (xs (nI i + (2 : Int32)).toNatClampNeg) a f hA) (zcwV 2 hz q4_12 q4_13 q4_14 q1_7 q4_15 hd_X6_at (Nat.le_of_ble_eq_true rfl) (Nat.le_of_ble_eq_true rfl)) (z_pv (ci := 6) (q := (RX6, TX6, 3)) hK (zB_blk (b := zMod cI r M) hP 13 rfl) rfl rfl) rfl rfl hl.1 rfl (lv_room (Nat.le_of_ble_eq_true rfl)) dL_law_485 ⟨hcc.1, hcc.2⟩) ?_
  have hv : atRet S (xs (nI i + (1 : Int32)).toNatClampNeg) (xs (nI i + (2 : Int32)).toNatClampNeg) = matRet (mR M) f (xs (nI i + (1 : Int32)).toNatClampNeg) (xs (nI i + (2 : Int32)).toNatClampNeg) := hJ.f_at _ _ _ _ _ _ _ _ a f hj hA (xs (nI i + (1 : Int32)).toNatClampNeg) (xs (nI i + (2 : Int32)).toNatClampNeg)
  refine lv_icmp_eq (tgt := 671) hx hb dL_law_488 (by decide) (fun c_1 => ?_) (fun c_1 => absurd hv c_1)
  exact kk H locs ls ⟨g, q, h, t0, t1, t2, t3, t4, r, S, Z, S0, S1, S2, S3, S4, M, rfl, rfl, hq0, hq1, hq2, hq3, hq4, hj, hP, hD, hS⟩ hl
set_option maxHeartbeats 2000000 in
set_option maxRecDepth 100000 in
theorem law_range {pg : Program} {l : Launch} {e : Env} {s : State} {mi : MethodId} {args : Array Value} {below : List Frame} {meth : Method} {cd : Code} {H : Heap} {locs : List Loc} {KC KS : Nat} {Q : State → Prop} {ls : Array Slot} {D : va_G} {cI cQ : ClassId} {A : Nat → Prop} {b L : Nat} {xs : Nat → Int32} {i xg xr : Nat} {J : CS → Int32 → CS → CS → CS → CS → CS → MS → Prop} (hx : pg.tables.exec = Jvm.exec) (hb : cd.code = cL_law) (hown : s.vm.findClass "TitheGridLaw" = some mi.cls) (hml : cd.maxLocals = 4) (hz : ∀ w ∈ zT, w.before args s = true) (hX : va_X b L xs s s.heap) (hbl : b < s.heap.size) (hbA : ¬ A b) (hK : zK D cI cQ s) (hL : L ≤ 3072) (hi : i + 6 ≤ L) (hJ : LawOK J) (hcc : KC ≤ 600000 ∧ KS ≤ 7302250) (hI : LI J D cI cQ A s.heap xg xr H locs) (hl : lv_has ls 4 [(3, .int (nI i)), (0, .ref b), (1, .ref xg), (2, .ref xr)]) (kk : ∀ (H : Heap) (locs : List Loc) (ls : Array Slot), LI J D cI cQ A s.heap xg xr H locs → lv_has ls 4 [(3, .int (nI i)), (0, .ref b), (1, .ref xg), (2, .ref xr)] → W pg l e room_1 s mi args below meth cd H locs KC KS Q (F0 mi 671 ls [])) : W pg l e room_1 s mi args below meth cd H locs KC KS Q (F0 mi 493 ls []) := by
  obtain ⟨g, q, h, t0, t1, t2, t3, t4, r, S, Z, S0, S1, S2, S3, S4, M, rfl, rfl, hq0, hq1, hq2, hq3, hq4, hj, hP, hD, hS⟩ := hI
  obtain ⟨a, f, n, hA, hn, hK5, hsc, hmj⟩ := hJ.f0 _ _ _ _ _ _ _ _ hj
  refine lv_aload_n hx hb dL_law_493 rfl (lv_at hl 2 rfl) ?_
  refine lv_aload_n hx hb dL_law_494 rfl (lv_at hl 1 rfl) ?_
  refine lv_iload_n hx hb dL_law_495 rfl (lv_at hl 0 rfl) ?_
  refine lv_iconst (v := 1) hx hb dL_law_496 (by decide) ?_
  refine lv_iadd hx hb dL_law_497 ?_
  refine va_sld hx hb hX hbl hbA hS (z_lx1 hi hL) dL_law_498 ?_
  refine lv_aload_n hx hb dL_law_499 rfl (lv_at hl 1 rfl) ?_
  refine lv_iload_n hx hb dL_law_500 rfl (lv_at hl 0 rfl) ?_
  refine lv_iconst (v := 2) hx hb dL_law_501 (by decide) ?_
  refine lv_iadd hx hb dL_law_502 ?_
  refine va_sld hx hb hX hbl hbA hS (z_lx2 hi hL) dL_law_503 ?_
  refine lv_aload_n hx hb dL_law_504 rfl (lv_at hl 1 rfl) ?_
  refine lv_iload_n hx hb dL_law_505 rfl (lv_at hl 0 rfl) ?_
  refine lv_iconst (v := 3) hx hb dL_law_506 (by decide) ?_
  refine lv_iadd hx hb dL_law_507 ?_
  refine va_sld hx hb hX hbl hbA hS (z_lx3 hi hL) dL_law_508 ?_
  refine lv_aload_n hx hb dL_law_509 rfl (lv_at hl 1 rfl) ?_
  refine lv_iload_n hx hb dL_law_510 rfl (lv_at hl 0 rfl) ?_
  refine lv_iconst (v := 4) hx hb dL_law_511 (by decide) ?_
  refine lv_iadd hx hb dL_law_512 ?_
  refine va_sld hx hb hX hbl hbA hS (z_lx4 hi hL) dL_law_513 ?_
  refine lv_aload_n hx hb dL_law_514 rfl (lv_at hl 1 rfl) ?_
  refine lv_iload_n hx hb dL_law_515 rfl (lv_at hl 0 rfl) ?_
  refine lv_iconst (v := 5) hx hb dL_law_516 (by decide) ?_
  refine lv_iadd hx hb dL_law_517 ?_
  refine va_sld hx hb hX hbl hbA hS (z_lx5 hi hL) dL_law_518 ?_
  refine z_ro (va_runV (As := [.int (xs (nI i + (1 : Int32)).toNatClampNeg), .int (xs (nI i + (2 : Int32)).toNatClampNeg), .int (xs (nI i + (3 : Int32)).toNatClampNeg), .int (xs (nI i + (4 : Int32)).toNatClampNeg), .int (xs (nI i + (5 : Int32)).toNatClampNeg)]) (rest := []) ⟨hx, hb, hml, hown, hz⟩ (c_X5_range l D cI cQ g q h S (xs (nI i + (1 : Int32)).toNatClampNeg) (xs (nI i + (2 : Int32)).toNatClampNeg) (xs (nI i + (3 : Int32)).toNatClampNeg) (xs (nI i + (4 : Int32)).toNatClampNeg) (xs (nI i + (5 : Int32)).toNatClampNeg)) (zcwV 5 hz q3_22 q3_23 q3_24 q1_1 q3_25 hd_X5_range (Nat.le_of_ble_eq_true rfl) (Nat.le_of_ble_eq_true rfl)) (z_pv (ci := 5) (q := (RX5, TX5, 2)) hK (zB_sub (Cs := [zGri g q h, zSta cI q S]) hP [0, 1] rfl) rfl rfl) rfl rfl hl.1 rfl (lv_room (Nat.le_of_ble_eq_true rfl)) dL_law_519 ⟨hcc.1, hcc.2⟩) ?_
  refine lv_aload_n hx hb dL_law_522 rfl (lv_at hl 3 rfl) ?_
  refine lv_aload_n hx hb dL_law_523 rfl (lv_at hl 1 rfl) ?_
  refine lv_iload_n hx hb dL_law_524 rfl (lv_at hl 0 rfl) ?_
  refine lv_iconst (v := 1) hx hb dL_law_525 (by decide) ?_
  refine lv_iadd hx hb dL_law_526 ?_
  refine va_sld hx hb hX hbl hbA hS (z_lx1 hi hL) dL_law_527 ?_
  refine lv_aload_n hx hb dL_law_528 rfl (lv_at hl 1 rfl) ?_
  refine lv_iload_n hx hb dL_law_529 rfl (lv_at hl 0 rfl) ?_
  refine lv_iconst (v := 2) hx hb dL_law_530 (by decide) ?_
  refine lv_iadd hx hb dL_law_531 ?_
  refine va_sld hx hb hX hbl hbA hS (z_lx2 hi hL) dL_law_532 ?_
  refine lv_aload_n hx hb dL_law_533 rfl (lv_at hl 1 rfl) ?_
  refine lv_iload_n hx hb dL_law_534 rfl (lv_at hl 0 rfl) ?_
  refine lv_iconst (v := 3) hx hb dL_law_535 (by decide) ?_
  refine lv_iadd hx hb dL_law_536 ?_
  refine va_sld hx hb hX hbl hbA hS (z_lx3 hi hL) dL_law_537 ?_
  refine lv_aload_n hx hb dL_law_538 rfl (lv_at hl 1 rfl) ?_
  refine lv_iload_n hx hb dL_law_539 rfl (lv_at hl 0 rfl) ?_
  refine lv_iconst (v := 4) hx hb dL_law_540 (by decide) ?_
  refine lv_iadd hx hb dL_law_541 ?_
  refine va_sld hx hb hX hbl hbA hS (z_lx4 hi hL) dL_law_542 ?_
  refine lv_aload_n hx hb dL_law_543 rfl (lv_at hl 1 rfl) ?_
  refine lv_iload_n hx hb dL_law_544 rfl (lv_at hl 0 rfl) ?_
  refine lv_iconst (v := 5) hx hb dL_law_545 (by decide) ?_
  refine lv_iadd hx hb dL_law_546 ?_
  refine va_sld hx hb hX hbl hbA hS (z_lx5 hi hL) dL_law_547 ?_
  refine z_ro (va_runV (As := [.int (xs (nI i + (1 : Int32)).toNatClampNeg), .int (xs (nI i + (2 : Int32)).toNatClampNeg), .int (xs (nI i + (3 : Int32)).toNatClampNeg), .int (xs (nI i + (4 : Int32)).toNatClampNeg), .int (xs (nI i + (5 : Int32)).toNatClampNeg)]) (rest := [.int (raRet S (xs (nI i + (1 : Int32)).toNatClampNeg) (xs (nI i + (2 : Int32)).toNatClampNeg) (xs (nI i + (3 : Int32)).toNatClampNeg) (xs (nI i + (4 : Int32)).toNatClampNeg) (xs (nI i + (5 : Int32)).toNatClampNeg))]) ⟨hx, hb, hml, hown, hz⟩ (c_X6_range l D cI cQ r M (xs (nI i + (1 : Int32)).toNatClampNeg) (xs (nI i + (2 : Int32)).toNatClampNeg) (xs (nI i + (3 : Int32)).toNatClampNeg) (xs (nI i + (4 : Int32)).toNatClampNeg) (xs (nI i + (5 : Int32)).toNatClampNeg) a f hA) (zcwV 5 hz q4_16 q4_17 q4_18 q1_7 q4_19 hd_X6_range (Nat.le_of_ble_eq_true rfl) (Nat.le_of_ble_eq_true rfl)) (z_pv (ci := 6) (q := (RX6, TX6, 3)) hK (zB_blk (b := zMod cI r M) hP 13 rfl) rfl rfl) rfl rfl hl.1 rfl (lv_room (Nat.le_of_ble_eq_true rfl)) dL_law_548 ⟨hcc.1, hcc.2⟩) ?_
  have hv : raRet S (xs (nI i + (1 : Int32)).toNatClampNeg) (xs (nI i + (2 : Int32)).toNatClampNeg) (xs (nI i + (3 : Int32)).toNatClampNeg) (xs (nI i + (4 : Int32)).toNatClampNeg) (xs (nI i + (5 : Int32)).toNatClampNeg) = mraRet (mR M) a f (xs (nI i + (1 : Int32)).toNatClampNeg) (xs (nI i + (2 : Int32)).toNatClampNeg) (xs (nI i + (3 : Int32)).toNatClampNeg) (xs (nI i + (4 : Int32)).toNatClampNeg) (xs (nI i + (5 : Int32)).toNatClampNeg) := hJ.f_range _ _ _ _ _ _ _ _ a f hj hA (xs (nI i + (1 : Int32)).toNatClampNeg) (xs (nI i + (2 : Int32)).toNatClampNeg) (xs (nI i + (3 : Int32)).toNatClampNeg) (xs (nI i + (4 : Int32)).toNatClampNeg) (xs (nI i + (5 : Int32)).toNatClampNeg)
  refine lv_icmp_eq (tgt := 671) hx hb dL_law_551 (by decide) (fun c_1 => ?_) (fun c_1 => absurd hv c_1)
  exact kk H locs ls ⟨g, q, h, t0, t1, t2, t3, t4, r, S, Z, S0, S1, S2, S3, S4, M, rfl, rfl, hq0, hq1, hq2, hq3, hq4, hj, hP, hD, hS⟩ hl
set_option maxHeartbeats 2000000 in
set_option maxRecDepth 100000 in
theorem law_nearest {pg : Program} {l : Launch} {e : Env} {s : State} {mi : MethodId} {args : Array Value} {below : List Frame} {meth : Method} {cd : Code} {H : Heap} {locs : List Loc} {KC KS : Nat} {Q : State → Prop} {ls : Array Slot} {D : va_G} {cI cQ : ClassId} {A : Nat → Prop} {b L : Nat} {xs : Nat → Int32} {i xg xr : Nat} {J : CS → Int32 → CS → CS → CS → CS → CS → MS → Prop} (hx : pg.tables.exec = Jvm.exec) (hb : cd.code = cL_law) (hown : s.vm.findClass "TitheGridLaw" = some mi.cls) (hml : cd.maxLocals = 4) (hz : ∀ w ∈ zT, w.before args s = true) (hX : va_X b L xs s s.heap) (hbl : b < s.heap.size) (hbA : ¬ A b) (hK : zK D cI cQ s) (hL : L ≤ 3072) (hi : i + 6 ≤ L) (hJ : LawOK J) (hcc : KC ≤ 600000 ∧ KS ≤ 7302250) (hI : LI J D cI cQ A s.heap xg xr H locs) (hl : lv_has ls 4 [(3, .int (nI i)), (0, .ref b), (1, .ref xg), (2, .ref xr)]) (kk : ∀ (H : Heap) (locs : List Loc) (ls : Array Slot), LI J D cI cQ A s.heap xg xr H locs → lv_has ls 4 [(3, .int (nI i)), (0, .ref b), (1, .ref xg), (2, .ref xr)] → W pg l e room_1 s mi args below meth cd H locs KC KS Q (F0 mi 671 ls [])) : W pg l e room_1 s mi args below meth cd H locs KC KS Q (F0 mi 556 ls []) := by
  obtain ⟨g, q, h, t0, t1, t2, t3, t4, r, S, Z, S0, S1, S2, S3, S4, M, rfl, rfl, hq0, hq1, hq2, hq3, hq4, hj, hP, hD, hS⟩ := hI
  obtain ⟨a, f, n, hA, hn, hK5, hsc, hmj⟩ := hJ.f0 _ _ _ _ _ _ _ _ hj
  refine lv_aload_n hx hb dL_law_556 rfl (lv_at hl 2 rfl) ?_
  refine lv_aload_n hx hb dL_law_557 rfl (lv_at hl 1 rfl) ?_
  refine lv_iload_n hx hb dL_law_558 rfl (lv_at hl 0 rfl) ?_
  refine lv_iconst (v := 1) hx hb dL_law_559 (by decide) ?_
  refine lv_iadd hx hb dL_law_560 ?_
  refine va_sld hx hb hX hbl hbA hS (z_lx1 hi hL) dL_law_561 ?_
  refine lv_aload_n hx hb dL_law_562 rfl (lv_at hl 1 rfl) ?_
  refine lv_iload_n hx hb dL_law_563 rfl (lv_at hl 0 rfl) ?_
  refine lv_iconst (v := 2) hx hb dL_law_564 (by decide) ?_
  refine lv_iadd hx hb dL_law_565 ?_
  refine va_sld hx hb hX hbl hbA hS (z_lx2 hi hL) dL_law_566 ?_
  refine z_ro (va_runV (As := [.int (xs (nI i + (1 : Int32)).toNatClampNeg), .int (xs (nI i + (2 : Int32)).toNatClampNeg)]) (rest := []) ⟨hx, hb, hml, hown, hz⟩ (c_X5_nearest l D cI cQ g q h S (xs (nI i + (1 : Int32)).toNatClampNeg) (xs (nI i + (2 : Int32)).toNatClampNeg)) (zcwV 2 hz q3_33 q3_34 q3_35 q1_1 q3_36 hd_X5_nearest (Nat.le_of_ble_eq_true rfl) (Nat.le_of_ble_eq_true rfl)) (z_pv (ci := 5) (q := (RX5, TX5, 2)) hK (zB_sub (Cs := [zGri g q h, zSta cI q S]) hP [0, 1] rfl) rfl rfl) rfl rfl hl.1 rfl (lv_room (Nat.le_of_ble_eq_true rfl)) dL_law_567 ⟨hcc.1, hcc.2⟩) ?_
  refine lv_aload_n hx hb dL_law_570 rfl (lv_at hl 3 rfl) ?_
  refine lv_aload_n hx hb dL_law_571 rfl (lv_at hl 1 rfl) ?_
  refine lv_iload_n hx hb dL_law_572 rfl (lv_at hl 0 rfl) ?_
  refine lv_iconst (v := 1) hx hb dL_law_573 (by decide) ?_
  refine lv_iadd hx hb dL_law_574 ?_
  refine va_sld hx hb hX hbl hbA hS (z_lx1 hi hL) dL_law_575 ?_
  refine lv_aload_n hx hb dL_law_576 rfl (lv_at hl 1 rfl) ?_
  refine lv_iload_n hx hb dL_law_577 rfl (lv_at hl 0 rfl) ?_
  refine lv_iconst (v := 2) hx hb dL_law_578 (by decide) ?_
  refine lv_iadd hx hb dL_law_579 ?_
  refine va_sld hx hb hX hbl hbA hS (z_lx2 hi hL) dL_law_580 ?_
  refine z_ro (va_runV (As := [.int (xs (nI i + (1 : Int32)).toNatClampNeg), .int (xs (nI i + (2 : Int32)).toNatClampNeg)]) (rest := [.int (neRet S (xs (nI i + (1 : Int32)).toNatClampNeg) (xs (nI i + (2 : Int32)).toNatClampNeg))]) ⟨hx, hb, hml, hown, hz⟩ (c_X6_nearest l D cI cQ r M (xs (nI i + (1 : Int32)).toNatClampNeg) (xs (nI i + (2 : Int32)).toNatClampNeg) a f hA) (zcwV 2 hz q4_20 q4_21 q4_22 q1_7 q4_23 hd_X6_nearest (Nat.le_of_ble_eq_true rfl) (Nat.le_of_ble_eq_true rfl)) (z_pv (ci := 6) (q := (RX6, TX6, 3)) hK (zB_blk (b := zMod cI r M) hP 13 rfl) rfl rfl) rfl rfl hl.1 rfl (lv_room (Nat.le_of_ble_eq_true rfl)) dL_law_581 ⟨hcc.1, hcc.2⟩) ?_
  have hv : neRet S (xs (nI i + (1 : Int32)).toNatClampNeg) (xs (nI i + (2 : Int32)).toNatClampNeg) = mneRet (mR M) a (xs (nI i + (1 : Int32)).toNatClampNeg) (xs (nI i + (2 : Int32)).toNatClampNeg) := hJ.f_nearest _ _ _ _ _ _ _ _ a f hj hA (xs (nI i + (1 : Int32)).toNatClampNeg) (xs (nI i + (2 : Int32)).toNatClampNeg)
  refine lv_icmp_eq (tgt := 671) hx hb dL_law_584 (by decide) (fun c_1 => ?_) (fun c_1 => absurd hv c_1)
  exact kk H locs ls ⟨g, q, h, t0, t1, t2, t3, t4, r, S, Z, S0, S1, S2, S3, S4, M, rfl, rfl, hq0, hq1, hq2, hq3, hq4, hj, hP, hD, hS⟩ hl
set_option maxHeartbeats 2000000 in
set_option maxRecDepth 100000 in
theorem law_inOrder {pg : Program} {l : Launch} {e : Env} {s : State} {mi : MethodId} {args : Array Value} {below : List Frame} {meth : Method} {cd : Code} {H : Heap} {locs : List Loc} {KC KS : Nat} {Q : State → Prop} {ls : Array Slot} {D : va_G} {cI cQ : ClassId} {A : Nat → Prop} {b L : Nat} {xs : Nat → Int32} {i xg xr : Nat} {J : CS → Int32 → CS → CS → CS → CS → CS → MS → Prop} (hx : pg.tables.exec = Jvm.exec) (hb : cd.code = cL_law) (hown : s.vm.findClass "TitheGridLaw" = some mi.cls) (hml : cd.maxLocals = 4) (hz : ∀ w ∈ zT, w.before args s = true) (hX : va_X b L xs s s.heap) (hbl : b < s.heap.size) (hbA : ¬ A b) (hK : zK D cI cQ s) (hL : L ≤ 3072) (hi : i + 6 ≤ L) (hJ : LawOK J) (hcc : KC ≤ 600000 ∧ KS ≤ 7302250) (hI : LI J D cI cQ A s.heap xg xr H locs) (hl : lv_has ls 4 [(3, .int (nI i)), (0, .ref b), (1, .ref xg), (2, .ref xr)]) (kk : ∀ (H : Heap) (locs : List Loc) (ls : Array Slot), LI J D cI cQ A s.heap xg xr H locs → lv_has ls 4 [(3, .int (nI i)), (0, .ref b), (1, .ref xg), (2, .ref xr)] → W pg l e room_1 s mi args below meth cd H locs KC KS Q (F0 mi 671 ls [])) : W pg l e room_1 s mi args below meth cd H locs KC KS Q (F0 mi 589 ls []) := by
  obtain ⟨g, q, h, t0, t1, t2, t3, t4, r, S, Z, S0, S1, S2, S3, S4, M, rfl, rfl, hq0, hq1, hq2, hq3, hq4, hj, hP, hD, hS⟩ := hI
  obtain ⟨a, f, n, hA, hn, hK5, hsc, hmj⟩ := hJ.f0 _ _ _ _ _ _ _ _ hj
  refine lv_aload_n hx hb dL_law_589 rfl (lv_at hl 2 rfl) ?_
  refine lv_aload_n hx hb dL_law_590 rfl (lv_at hl 1 rfl) ?_
  refine lv_iload_n hx hb dL_law_591 rfl (lv_at hl 0 rfl) ?_
  refine lv_iconst (v := 1) hx hb dL_law_592 (by decide) ?_
  refine lv_iadd hx hb dL_law_593 ?_
  refine va_sld hx hb hX hbl hbA hS (z_lx1 hi hL) dL_law_594 ?_
  refine z_ro (va_runV (As := [.int (xs (nI i + (1 : Int32)).toNatClampNeg)]) (rest := []) ⟨hx, hb, hml, hown, hz⟩ (c_X5_inOrder l D cI cQ g q h S (xs (nI i + (1 : Int32)).toNatClampNeg)) (zcwV 1 hz q3_44 q3_45 q3_46 q1_1 q3_47 hd_X5_inOrder (Nat.le_of_ble_eq_true rfl) (Nat.le_of_ble_eq_true rfl)) (z_pv (ci := 5) (q := (RX5, TX5, 2)) hK (zB_sub (Cs := [zGri g q h, zSta cI q S]) hP [0, 1] rfl) rfl rfl) rfl rfl hl.1 rfl (lv_room (Nat.le_of_ble_eq_true rfl)) dL_law_595 ⟨hcc.1, hcc.2⟩) ?_
  refine lv_aload_n hx hb dL_law_598 rfl (lv_at hl 3 rfl) ?_
  refine lv_aload_n hx hb dL_law_599 rfl (lv_at hl 1 rfl) ?_
  refine lv_iload_n hx hb dL_law_600 rfl (lv_at hl 0 rfl) ?_
  refine lv_iconst (v := 1) hx hb dL_law_601 (by decide) ?_
  refine lv_iadd hx hb dL_law_602 ?_
  refine va_sld hx hb hX hbl hbA hS (z_lx1 hi hL) dL_law_603 ?_
  refine z_ro (va_runV (As := [.int (xs (nI i + (1 : Int32)).toNatClampNeg)]) (rest := [.int (ioRet S (xs (nI i + (1 : Int32)).toNatClampNeg))]) ⟨hx, hb, hml, hown, hz⟩ (c_X6_inOrder l D cI cQ r M (xs (nI i + (1 : Int32)).toNatClampNeg) a f hA) (zcwV 1 hz q4_27 q4_28 q4_29 q1_7 q4_30 hd_X6_inOrder (Nat.le_of_ble_eq_true rfl) (Nat.le_of_ble_eq_true rfl)) (z_pv (ci := 6) (q := (RX6, TX6, 3)) hK (zB_blk (b := zMod cI r M) hP 13 rfl) rfl rfl) rfl rfl hl.1 rfl (lv_room (Nat.le_of_ble_eq_true rfl)) dL_law_604 ⟨hcc.1, hcc.2⟩) ?_
  have hv : ioRet S (xs (nI i + (1 : Int32)).toNatClampNeg) = mioRet (mR M) f (xs (nI i + (1 : Int32)).toNatClampNeg) := hJ.f_inOrder _ _ _ _ _ _ _ _ a f hj hA (xs (nI i + (1 : Int32)).toNatClampNeg)
  refine lv_icmp_eq (tgt := 671) hx hb dL_law_607 (by decide) (fun c_1 => ?_) (fun c_1 => absurd hv c_1)
  exact kk H locs ls ⟨g, q, h, t0, t1, t2, t3, t4, r, S, Z, S0, S1, S2, S3, S4, M, rfl, rfl, hq0, hq1, hq2, hq3, hq4, hj, hP, hD, hS⟩ hl
set_option maxHeartbeats 2000000 in
set_option maxRecDepth 100000 in
theorem law_payable {pg : Program} {l : Launch} {e : Env} {s : State} {mi : MethodId} {args : Array Value} {below : List Frame} {meth : Method} {cd : Code} {H : Heap} {locs : List Loc} {KC KS : Nat} {Q : State → Prop} {ls : Array Slot} {D : va_G} {cI cQ : ClassId} {A : Nat → Prop} {b L : Nat} {xs : Nat → Int32} {i xg xr : Nat} {J : CS → Int32 → CS → CS → CS → CS → CS → MS → Prop} (hx : pg.tables.exec = Jvm.exec) (hb : cd.code = cL_law) (hown : s.vm.findClass "TitheGridLaw" = some mi.cls) (hml : cd.maxLocals = 4) (hz : ∀ w ∈ zT, w.before args s = true) (hX : va_X b L xs s s.heap) (hbl : b < s.heap.size) (hbA : ¬ A b) (hK : zK D cI cQ s) (hL : L ≤ 3072) (hi : i + 6 ≤ L) (hJ : LawOK J) (hcc : KC ≤ 600000 ∧ KS ≤ 7302250) (hI : LI J D cI cQ A s.heap xg xr H locs) (hl : lv_has ls 4 [(3, .int (nI i)), (0, .ref b), (1, .ref xg), (2, .ref xr)]) (kk : ∀ (H : Heap) (locs : List Loc) (ls : Array Slot), LI J D cI cQ A s.heap xg xr H locs → lv_has ls 4 [(3, .int (nI i)), (0, .ref b), (1, .ref xg), (2, .ref xr)] → W pg l e room_1 s mi args below meth cd H locs KC KS Q (F0 mi 671 ls [])) : W pg l e room_1 s mi args below meth cd H locs KC KS Q (F0 mi 612 ls []) := by
  obtain ⟨g, q, h, t0, t1, t2, t3, t4, r, S, Z, S0, S1, S2, S3, S4, M, rfl, rfl, hq0, hq1, hq2, hq3, hq4, hj, hP, hD, hS⟩ := hI
  obtain ⟨a, f, n, hA, hn, hK5, hsc, hmj⟩ := hJ.f0 _ _ _ _ _ _ _ _ hj
  refine lv_aload_n hx hb dL_law_612 rfl (lv_at hl 2 rfl) ?_
  refine lv_aload_n hx hb dL_law_613 rfl (lv_at hl 1 rfl) ?_
  refine lv_iload_n hx hb dL_law_614 rfl (lv_at hl 0 rfl) ?_
  refine lv_iconst (v := 1) hx hb dL_law_615 (by decide) ?_
  refine lv_iadd hx hb dL_law_616 ?_
  refine va_sld hx hb hX hbl hbA hS (z_lx1 hi hL) dL_law_617 ?_
  refine z_ro (va_runV (As := [.int (xs (nI i + (1 : Int32)).toNatClampNeg)]) (rest := []) ⟨hx, hb, hml, hown, hz⟩ (c_X5_payable l D cI cQ g q h S (xs (nI i + (1 : Int32)).toNatClampNeg)) (zcwV 1 hz q3_56 q3_57 q3_58 q1_1 q3_59 hd_X5_payable (Nat.le_of_ble_eq_true rfl) (Nat.le_of_ble_eq_true rfl)) (z_pv (ci := 5) (q := (RX5, TX5, 2)) hK (zB_sub (Cs := [zGri g q h, zSta cI q S]) hP [0, 1] rfl) rfl rfl) rfl rfl hl.1 rfl (lv_room (Nat.le_of_ble_eq_true rfl)) dL_law_618 ⟨hcc.1, hcc.2⟩) ?_
  refine lv_aload_n hx hb dL_law_621 rfl (lv_at hl 3 rfl) ?_
  refine lv_aload_n hx hb dL_law_622 rfl (lv_at hl 1 rfl) ?_
  refine lv_iload_n hx hb dL_law_623 rfl (lv_at hl 0 rfl) ?_
  refine lv_iconst (v := 1) hx hb dL_law_624 (by decide) ?_
  refine lv_iadd hx hb dL_law_625 ?_
  refine va_sld hx hb hX hbl hbA hS (z_lx1 hi hL) dL_law_626 ?_
  refine z_ro (va_runV (As := [.int (xs (nI i + (1 : Int32)).toNatClampNeg)]) (rest := [.int (pbRet S (xs (nI i + (1 : Int32)).toNatClampNeg))]) ⟨hx, hb, hml, hown, hz⟩ (c_X6_payable l D cI cQ r M (xs (nI i + (1 : Int32)).toNatClampNeg) a f hA) (zcwV 1 hz q4_31 q4_32 q4_33 q1_7 q4_34 hd_X6_payable (Nat.le_of_ble_eq_true rfl) (Nat.le_of_ble_eq_true rfl)) (z_pv (ci := 6) (q := (RX6, TX6, 3)) hK (zB_blk (b := zMod cI r M) hP 13 rfl) rfl rfl) rfl rfl hl.1 rfl (lv_room (Nat.le_of_ble_eq_true rfl)) dL_law_627 ⟨hcc.1, hcc.2⟩) ?_
  have hv : pbRet S (xs (nI i + (1 : Int32)).toNatClampNeg) = mpbRet (mR M) a f (xs (nI i + (1 : Int32)).toNatClampNeg) := hJ.f_payable _ _ _ _ _ _ _ _ a f hj hA (xs (nI i + (1 : Int32)).toNatClampNeg)
  refine lv_icmp_eq (tgt := 671) hx hb dL_law_630 (by decide) (fun c_1 => ?_) (fun c_1 => absurd hv c_1)
  exact kk H locs ls ⟨g, q, h, t0, t1, t2, t3, t4, r, S, Z, S0, S1, S2, S3, S4, M, rfl, rfl, hq0, hq1, hq2, hq3, hq4, hj, hP, hD, hS⟩ hl
set_option maxHeartbeats 2000000 in
set_option maxRecDepth 100000 in
theorem law_cellsWith {pg : Program} {l : Launch} {e : Env} {s : State} {mi : MethodId} {args : Array Value} {below : List Frame} {meth : Method} {cd : Code} {H : Heap} {locs : List Loc} {KC KS : Nat} {Q : State → Prop} {ls : Array Slot} {D : va_G} {cI cQ : ClassId} {A : Nat → Prop} {b L : Nat} {xs : Nat → Int32} {i xg xr : Nat} {J : CS → Int32 → CS → CS → CS → CS → CS → MS → Prop} (hx : pg.tables.exec = Jvm.exec) (hb : cd.code = cL_law) (hown : s.vm.findClass "TitheGridLaw" = some mi.cls) (hml : cd.maxLocals = 4) (hz : ∀ w ∈ zT, w.before args s = true) (hX : va_X b L xs s s.heap) (hbl : b < s.heap.size) (hbA : ¬ A b) (hK : zK D cI cQ s) (hL : L ≤ 3072) (hi : i + 6 ≤ L) (hJ : LawOK J) (hcc : KC ≤ 600000 ∧ KS ≤ 7302250) (hI : LI J D cI cQ A s.heap xg xr H locs) (hl : lv_has ls 4 [(3, .int (nI i)), (0, .ref b), (1, .ref xg), (2, .ref xr)]) (kk : ∀ (H : Heap) (locs : List Loc) (ls : Array Slot), LI J D cI cQ A s.heap xg xr H locs → lv_has ls 4 [(3, .int (nI i)), (0, .ref b), (1, .ref xg), (2, .ref xr)] → W pg l e room_1 s mi args below meth cd H locs KC KS Q (F0 mi 671 ls [])) : W pg l e room_1 s mi args below meth cd H locs KC KS Q (F0 mi 635 ls []) := by
  obtain ⟨g, q, h, t0, t1, t2, t3, t4, r, S, Z, S0, S1, S2, S3, S4, M, rfl, rfl, hq0, hq1, hq2, hq3, hq4, hj, hP, hD, hS⟩ := hI
  obtain ⟨a, f, n, hA, hn, hK5, hsc, hmj⟩ := hJ.f0 _ _ _ _ _ _ _ _ hj
  refine lv_aload_n hx hb dL_law_635 rfl (lv_at hl 2 rfl) ?_
  refine lv_aload_n hx hb dL_law_636 rfl (lv_at hl 1 rfl) ?_
  refine lv_iload_n hx hb dL_law_637 rfl (lv_at hl 0 rfl) ?_
  refine lv_iconst (v := 1) hx hb dL_law_638 (by decide) ?_
  refine lv_iadd hx hb dL_law_639 ?_
  refine va_sld hx hb hX hbl hbA hS (z_lx1 hi hL) dL_law_640 ?_
  refine z_ro (va_runV (As := [.int (xs (nI i + (1 : Int32)).toNatClampNeg)]) (rest := []) ⟨hx, hb, hml, hown, hz⟩ (c_X5_cellsWith l D cI cQ g q h S (xs (nI i + (1 : Int32)).toNatClampNeg)) (zcwV 1 hz q3_65 q3_66 q3_67 q1_1 q3_68 hd_X5_cellsWith (Nat.le_of_ble_eq_true rfl) (Nat.le_of_ble_eq_true rfl)) (z_pv (ci := 5) (q := (RX5, TX5, 2)) hK (zB_sub (Cs := [zGri g q h, zSta cI q S]) hP [0, 1] rfl) rfl rfl) rfl rfl hl.1 rfl (lv_room (Nat.le_of_ble_eq_true rfl)) dL_law_641 ⟨hcc.1, hcc.2⟩) ?_
  refine lv_aload_n hx hb dL_law_644 rfl (lv_at hl 3 rfl) ?_
  refine lv_aload_n hx hb dL_law_645 rfl (lv_at hl 1 rfl) ?_
  refine lv_iload_n hx hb dL_law_646 rfl (lv_at hl 0 rfl) ?_
  refine lv_iconst (v := 1) hx hb dL_law_647 (by decide) ?_
  refine lv_iadd hx hb dL_law_648 ?_
  refine va_sld hx hb hX hbl hbA hS (z_lx1 hi hL) dL_law_649 ?_
  refine z_ro (va_runV (As := [.int (xs (nI i + (1 : Int32)).toNatClampNeg)]) (rest := [.int (cwRet S (xs (nI i + (1 : Int32)).toNatClampNeg))]) ⟨hx, hb, hml, hown, hz⟩ (c_X6_cellsWith l D cI cQ r M (xs (nI i + (1 : Int32)).toNatClampNeg) a f hA) (zcwV 1 hz q4_35 q4_36 q4_37 q1_7 q4_38 hd_X6_cellsWith (Nat.le_of_ble_eq_true rfl) (Nat.le_of_ble_eq_true rfl)) (z_pv (ci := 6) (q := (RX6, TX6, 3)) hK (zB_blk (b := zMod cI r M) hP 13 rfl) rfl rfl) rfl rfl hl.1 rfl (lv_room (Nat.le_of_ble_eq_true rfl)) dL_law_650 ⟨hcc.1, hcc.2⟩) ?_
  have hv : cwRet S (xs (nI i + (1 : Int32)).toNatClampNeg) = mcwRet (mR M) a (xs (nI i + (1 : Int32)).toNatClampNeg) := hJ.f_cellsWith _ _ _ _ _ _ _ _ a f hj hA (xs (nI i + (1 : Int32)).toNatClampNeg)
  refine lv_icmp_eq (tgt := 671) hx hb dL_law_653 (by decide) (fun c_1 => ?_) (fun c_1 => absurd hv c_1)
  exact kk H locs ls ⟨g, q, h, t0, t1, t2, t3, t4, r, S, Z, S0, S1, S2, S3, S4, M, rfl, rfl, hq0, hq1, hq2, hq3, hq4, hj, hP, hD, hS⟩ hl
set_option maxHeartbeats 2000000 in
set_option maxRecDepth 100000 in
theorem law_joinable {pg : Program} {l : Launch} {e : Env} {s : State} {mi : MethodId} {args : Array Value} {below : List Frame} {meth : Method} {cd : Code} {H : Heap} {locs : List Loc} {KC KS : Nat} {Q : State → Prop} {ls : Array Slot} {D : va_G} {cI cQ : ClassId} {A : Nat → Prop} {b L : Nat} {xs : Nat → Int32} {i xg xr : Nat} {J : CS → Int32 → CS → CS → CS → CS → CS → MS → Prop} (hx : pg.tables.exec = Jvm.exec) (hb : cd.code = cL_law) (hown : s.vm.findClass "TitheGridLaw" = some mi.cls) (hml : cd.maxLocals = 4) (hz : ∀ w ∈ zT, w.before args s = true) (hX : va_X b L xs s s.heap) (hbl : b < s.heap.size) (hbA : ¬ A b) (hK : zK D cI cQ s) (hL : L ≤ 3072) (hi : i + 6 ≤ L) (hJ : LawOK J) (hcc : KC ≤ 600000 ∧ KS ≤ 7302250) (hI : LI J D cI cQ A s.heap xg xr H locs) (hl : lv_has ls 4 [(3, .int (nI i)), (0, .ref b), (1, .ref xg), (2, .ref xr)]) (kk : ∀ (H : Heap) (locs : List Loc) (ls : Array Slot), LI J D cI cQ A s.heap xg xr H locs → lv_has ls 4 [(3, .int (nI i)), (0, .ref b), (1, .ref xg), (2, .ref xr)] → W pg l e room_1 s mi args below meth cd H locs KC KS Q (F0 mi 671 ls [])) : W pg l e room_1 s mi args below meth cd H locs KC KS Q (F0 mi 658 ls []) := by
  obtain ⟨g, q, h, t0, t1, t2, t3, t4, r, S, Z, S0, S1, S2, S3, S4, M, rfl, rfl, hq0, hq1, hq2, hq3, hq4, hj, hP, hD, hS⟩ := hI
  obtain ⟨a, f, n, hA, hn, hK5, hsc, hmj⟩ := hJ.f0 _ _ _ _ _ _ _ _ hj
  refine lv_aload_n hx hb dL_law_658 rfl (lv_at hl 2 rfl) ?_
  refine z_ro (va_runV (As := []) (rest := []) ⟨hx, hb, hml, hown, hz⟩ (c_X5_joinable l D cI cQ g q h S ) (zcwV 0 hz q3_78 q3_79 q3_80 q1_1 q3_81 hd_X5_joinable (Nat.le_of_ble_eq_true rfl) (Nat.le_of_ble_eq_true rfl)) (z_pv (ci := 5) (q := (RX5, TX5, 2)) hK (zB_sub (Cs := [zGri g q h, zSta cI q S]) hP [0, 1] rfl) rfl rfl) rfl rfl hl.1 rfl (lv_room (Nat.le_of_ble_eq_true rfl)) dL_law_659 ⟨hcc.1, hcc.2⟩) ?_
  refine lv_aload_n hx hb dL_law_662 rfl (lv_at hl 3 rfl) ?_
  obtain ⟨m1, hm1⟩ : ∃ z : FI, z = jbG (mR M) a f f 0 (mF M) := ⟨_, rfl⟩
  refine z_bwi (b' := zMod cI r (uF M m1)) (Bs' := [zGri g q h, zSta cI q S, zHea cQ h Z, zSto cI t0 S0, zTl cI t0 S0, zSto cI t1 S1, zTl cI t1 S1, zSto cI t2 S2, zTl cI t2 S2, zSto cI t3 S3, zTl cI t3 S3, zSto cI t4 S4, zTl cI t4 S4, zMod cI r (uF M m1)]) (va_runV (As := []) (rest := [.int (jbRet S)]) ⟨hx, hb, hml, hown, hz⟩ (c_X6_joinable l D cI cQ r M a f hA hsc m1 hm1) (zcwV 0 hz q4_39 q4_40 q4_41 q1_7 q4_42 hd_X6_joinable (Nat.le_of_ble_eq_true rfl) (Nat.le_of_ble_eq_true rfl)) (z_pvw (ci := 6) (q := (RX6, TX6, 3)) hK (zB_blk (b := zMod cI r M) hP 13 rfl) (zB_Dblk (b := zMod cI r M) hD 13 rfl) rfl rfl) rfl rfl hl.1 rfl (lv_room (Nat.le_of_ble_eq_true rfl)) dL_law_663 ⟨hcc.1, hcc.2⟩) hP hD hS 13 rfl [0, 1, 2] rfl rfl rfl rfl (fun H locs hP hD hS => ?_)
  have hv : jbRet S = mjbRet (mR M) a f := hJ.f_joinable _ _ _ _ _ _ _ _ a f hj hA
  refine lv_icmp_eq (tgt := 671) hx hb dL_law_666 (by decide) (fun c_1 => ?_) (fun c_1 => absurd hv c_1)
  exact kk H locs ls ⟨g, q, h, t0, t1, t2, t3, t4, r, S, Z, S0, S1, S2, S3, S4, uF M m1, rfl, rfl, hq0, hq1, hq2, hq3, hq4, hJ.fF _ _ _ _ _ _ _ _ m1 hj, hP, hD, hS⟩ hl
theorem z_lex {i L : Nat} (hL : L ≤ 3072) (hi : i ≤ L + 6) (h : ¬ Int32.ofNat L - 6 < nI i) : i + 6 ≤ L := by
  have e1 : (Int32.ofNat L - 6).toInt = (L : Int) - 6 := by
    rw [show (6 : Int32) = nI 6 from by decide, show Int32.ofNat L = nI L from rfl, pk_sub_toInt (by omega) (by omega)]; rfl
  have e2 : (nI i).toInt = (i : Int) := nI_toInt (by omega)
  have h2 : ¬ (Int32.ofNat L - 6).toInt < (nI i).toInt := fun h3 => h (Int32.lt_iff_toInt_lt.mpr h3)
  omega
set_option maxHeartbeats 2000000 in
set_option maxRecDepth 100000 in
theorem law_loop {pg : Program} {l : Launch} {e : Env} {s : State} {mi : MethodId} {args : Array Value} {below : List Frame} {meth : Method} {cd : Code} {KC KS : Nat} {Q : State → Prop} {D : va_G} {cI cQ : ClassId} {A : Nat → Prop} {b L : Nat} {xs : Nat → Int32} {xg xr : Nat} {J : CS → Int32 → CS → CS → CS → CS → CS → MS → Prop} (hx : pg.tables.exec = Jvm.exec) (hb : cd.code = cL_law) (hown : s.vm.findClass "TitheGridLaw" = some mi.cls) (hml : cd.maxLocals = 4) (hz : ∀ w ∈ zT, w.before args s = true) (hX : va_X b L xs s s.heap) (hbl : b < s.heap.size) (hbA : ¬ A b) (hK : zK D cI cQ s) (hL : L ≤ 3072) (hJ : LawOK J) (hcc : KC ≤ 600000 ∧ KS ≤ 7302250) (kend : ∀ (H : Heap) (locs : List Loc) (ls : Array Slot), va_S A s.heap H locs → W pg l e room_1 s mi args below meth cd H locs KC KS Q (F0 mi 677 ls [])) : ∀ (n i : Nat), i ≤ L + 6 → L + 6 < i + n → ∀ (H : Heap) (locs : List Loc) (ls : Array Slot), LI J D cI cQ A s.heap xg xr H locs → lv_has ls 4 [(3, .int (nI i)), (0, .ref b), (1, .ref xg), (2, .ref xr)] → W pg l e room_1 s mi args below meth cd H locs KC KS Q (F0 mi 18 ls []) := by
  intro n
  induction n with
  | zero => intro i h1 h2; exact absurd h2 (by omega)
  | succ n ih =>
    intro i h1 h2 H locs ls hI hl
    have hS : va_S A s.heap H locs := by obtain ⟨g, q, h, t0, t1, t2, t3, t4, r, S, Z, S0, S1, S2, S3, S4, M, _, _, _, _, _, _, _, _, _, _, hS⟩ := hI; exact hS
    refine lv_iload_n hx hb dL_law_18 rfl (lv_at hl 0 rfl) ?_
    refine lv_aload_n hx hb dL_law_19 rfl (lv_at hl 1 rfl) ?_
    refine va_slen hx hb hX hbl hbA hS dL_law_20 ?_
    refine lv_bipush (v := 6) hx hb dL_law_21 (by decide) ?_
    refine lv_isub hx hb dL_law_23 ?_
    refine lv_icmp_gt (tgt := 677) hx hb dL_law_24 (by decide) (fun _ => kend H locs ls hS) (fun c_1 => ?_)
    have hi : i + 6 ≤ L := z_lex hL h1 c_1
    have kk : ∀ (H : Heap) (locs : List Loc) (ls : Array Slot), LI J D cI cQ A s.heap xg xr H locs → lv_has ls 4 [(3, .int (nI i)), (0, .ref b), (1, .ref xg), (2, .ref xr)] → W pg l e room_1 s mi args below meth cd H locs KC KS Q (F0 mi 671 ls []) := by
      intro H locs ls hI hl
      refine lv_iinc (v := nI (i + 6)) (lv' := [(3, .int (nI (i + 6))), (0, .ref b), (1, .ref xg), (2, .ref xr)]) hx hb dL_law_671 hl (k := 0) rfl (by rw [show Int32.ofInt 6 = nI 6 from by decide, nI_add]) (by decide) rfl (fun ls hl => ?_)
      refine lv_goto (tgt := 18) hx hb dL_law_674 (by decide) ?_
      exact ih (i + 6) (by omega) (by omega) H locs ls hI hl
    refine lv_aload_n hx hb dL_law_27 rfl (lv_at hl 1 rfl) ?_
    refine lv_iload_n hx hb dL_law_28 rfl (lv_at hl 0 rfl) ?_
    refine va_sld hx hb hX hbl hbA hS (z_lx hi hL) dL_law_29 ?_
    refine lv_bipush (v := 31) hx hb dL_law_30 (by decide) ?_
    refine lv_iand hx hb dL_law_32 ?_
    refine lv_topi (fun wv hwv => ?_)
    by_cases d0 : wv = 0
    · subst d0
      refine lv_tableIn (tgt := 124) hx hb dL_law_33 (by decide) (by decide) rfl (by decide) ?_
      exact law_add hx hb hown hml hz hX hbl hbA hK hL hi hJ hcc hI hl kk
    by_cases d1 : wv = 1
    · subst d1
      refine lv_tableIn (tgt := 167) hx hb dL_law_33 (by decide) (by decide) rfl (by decide) ?_
      exact law_remove hx hb hown hml hz hX hbl hbA hK hL hi hJ hcc hI hl kk
    by_cases d2 : wv = 2
    · subst d2
      refine lv_tableIn (tgt := 190) hx hb dL_law_33 (by decide) (by decide) rfl (by decide) ?_
      exact law_move hx hb hown hml hz hX hbl hbA hK hL hi hJ hcc hI hl kk
    by_cases d3 : wv = 3
    · subst d3
      refine lv_tableIn (tgt := 233) hx hb dL_law_33 (by decide) (by decide) rfl (by decide) ?_
      exact law_setCrowd hx hb hown hml hz hX hbl hbA hK hL hi hJ hcc hI hl kk
    by_cases d4 : wv = 4
    · subst d4
      refine lv_tableIn (tgt := 256) hx hb dL_law_33 (by decide) (by decide) rfl (by decide) ?_
      exact law_setTithe hx hb hown hml hz hX hbl hbA hK hL hi hJ hcc hI hl kk
    by_cases d5 : wv = 5
    · subst d5
      refine lv_tableIn (tgt := 279) hx hb dL_law_33 (by decide) (by decide) rfl (by decide) ?_
      exact law_pay hx hb hown hml hz hX hbl hbA hK hL hi hJ hcc hI hl kk
    by_cases d6 : wv = 6
    · subst d6
      refine lv_tableIn (tgt := 302) hx hb dL_law_33 (by decide) (by decide) rfl (by decide) ?_
      exact law_join hx hb hown hml hz hX hbl hbA hK hL hi hJ hcc hI hl kk
    by_cases d7 : wv = 7
    · subst d7
      refine lv_tableIn (tgt := 325) hx hb dL_law_33 (by decide) (by decide) rfl (by decide) ?_
      exact law_undo hx hb hown hml hz hX hbl hbA hK hL hi hJ hcc hI hl kk
    by_cases d8 : wv = 8
    · subst d8
      refine lv_tableIn (tgt := 338) hx hb dL_law_33 (by decide) (by decide) rfl (by decide) ?_
      exact law_count hx hb hown hml hz hX hbl hbA hK hL hi hJ hcc hI hl kk
    by_cases d9 : wv = 9
    · subst d9
      refine lv_tableIn (tgt := 361) hx hb dL_law_33 (by decide) (by decide) rfl (by decide) ?_
      exact law_point hx hb hown hml hz hX hbl hbA hK hL hi hJ hcc hI hl kk
    by_cases d10 : wv = 10
    · subst d10
      refine lv_tableIn (tgt := 394) hx hb dL_law_33 (by decide) (by decide) rfl (by decide) ?_
      exact law_parish hx hb hown hml hz hX hbl hbA hK hL hi hJ hcc hI hl kk
    by_cases d11 : wv = 11
    · subst d11
      refine lv_tableIn (tgt := 427) hx hb dL_law_33 (by decide) (by decide) rfl (by decide) ?_
      exact law_debt hx hb hown hml hz hX hbl hbA hK hL hi hJ hcc hI hl kk
    by_cases d12 : wv = 12
    · subst d12
      refine lv_tableIn (tgt := 460) hx hb dL_law_33 (by decide) (by decide) rfl (by decide) ?_
      exact law_at hx hb hown hml hz hX hbl hbA hK hL hi hJ hcc hI hl kk
    by_cases d13 : wv = 13
    · subst d13
      refine lv_tableIn (tgt := 493) hx hb dL_law_33 (by decide) (by decide) rfl (by decide) ?_
      exact law_range hx hb hown hml hz hX hbl hbA hK hL hi hJ hcc hI hl kk
    by_cases d14 : wv = 14
    · subst d14
      refine lv_tableIn (tgt := 556) hx hb dL_law_33 (by decide) (by decide) rfl (by decide) ?_
      exact law_nearest hx hb hown hml hz hX hbl hbA hK hL hi hJ hcc hI hl kk
    by_cases d15 : wv = 15
    · subst d15
      refine lv_tableIn (tgt := 589) hx hb dL_law_33 (by decide) (by decide) rfl (by decide) ?_
      exact law_inOrder hx hb hown hml hz hX hbl hbA hK hL hi hJ hcc hI hl kk
    by_cases d16 : wv = 16
    · subst d16
      refine lv_tableIn (tgt := 612) hx hb dL_law_33 (by decide) (by decide) rfl (by decide) ?_
      exact law_payable hx hb hown hml hz hX hbl hbA hK hL hi hJ hcc hI hl kk
    by_cases d17 : wv = 17
    · subst d17
      refine lv_tableIn (tgt := 635) hx hb dL_law_33 (by decide) (by decide) rfl (by decide) ?_
      exact law_cellsWith hx hb hown hml hz hX hbl hbA hK hL hi hJ hcc hI hl kk
    by_cases d18 : wv = 18
    · subst d18
      refine lv_tableIn (tgt := 658) hx hb dL_law_33 (by decide) (by decide) rfl (by decide) ?_
      exact law_joinable hx hb hown hml hz hX hbl hbA hK hL hi hJ hcc hI hl kk
    refine lv_tableOut (tgt := 671) hx hb dL_law_33 (z_sw18 d0 d1 d2 d3 d4 d5 d6 d7 d8 d9 d10 d11 d12 d13 d14 d15 d16 d17 d18) (by decide) ?_
    exact kk H locs ls hI hl
