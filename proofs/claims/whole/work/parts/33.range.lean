/-! the two sides answer alike: ranges, the nearest, payable, cellsWith -/
theorem iAbs_n : ∀ a, a < 64 → ∀ b, b < 64 → iAbs (nI a - nI b) = nI (if b ≤ a then a - b else b - a) := by decide +kernel
theorem faR_n : ∀ a, a < 64 → ∀ b, b < 64 → faR (nI a) (nI b) = nI (if a ≤ b then b - a else a - b) := by decide +kernel
theorem pEx_m9 {S : CS} : pEx S (-9) = false := by
  rw [pEx, decide_eq_true (show (-9 : Int32) < 0 by decide)]; rfl
theorem pLies_ex {S : CS} {i l t r b : Int32} (h : pLies S i l t r b = true) : pEx S i = true := by
  simp only [pLies, Bool.and_eq_true] at h; exact h.1.1
section KG
variable {S : CS} {R : FI} {a f : Nat}
theorem kF_rg (h : kFull S R a f) {k : Nat} (hk : k < 40) (x y tx ty : Int32) : mRg R x y tx ty k = pLies S (nI k) x y tx ty := (kp_lie (kF_a h) (kF_2 h) (kF_pts h) hk x y tx ty).symm
theorem kF_raw (h : kFull S R a f) (x y tx ty : Int32) : pWea S x y tx ty 40 = raW R x y tx ty a :=
  fldR (pWea S x y tx ty) (raW R x y tx ty) (fun k v => if pLies S (nI k) x y tx ty then v + sW S (nI k).toNatClampNeg else v) (fun k v => if mRg R x y tx ty k then v + oP R (nI k) 2 else v) Eq 40 a (kF_a h) rfl (fun _ => rfl) (fun _ => rfl)
    (fun k v w hk e => by
      have hk4 : k < 40 := by have := kF_a h; omega
      rw [e, kF_rg h hk4, nI_clamp (by omega)]
      cases he : pLies S (nI k) x y tx ty with
      | false => simp
      | true =>
        obtain ⟨w', -, -, e1, e2, -⟩ := kF_we h hk4 (pLies_ex he)
        rw [e1, e2]) (fun k v h1 h2 => by simp [pLies, kp_no (kF_pts h) h2 h1])
theorem kF_ran (h : kFull S R a f) (x y tx ty : Int32) : rNumT S x y tx ty 40 = raN R x y tx ty f :=
  fldR (rNumT S x y tx ty) (raN R x y tx ty) (fun k v => if rTou S (nI k) x y tx ty then v + 1 else v) (fun k v => if raT R x y tx ty k then v + 1 else v) Eq 40 f (kF_f h) rfl (fun _ => rfl) (fun _ => rfl)
    (fun k v w hk e => by
      have hk4 : k < 40 := by have := kF_f h; omega
      rw [e, kr_tou (kF_f h) (kF_3 h) hk4 (kF_par h k hk4)]) (fun k v h1 h2 => by rw [rTou, kr_no1 h2 h1 (kF_par h k h2)]; simp)
theorem kF_rich (h : kFull S R a f) (x y tx ty : Int32) : pRich S x y tx ty 40 = raR R x y tx ty a :=
  (fldR (pRich S x y tx ty) (raR R x y tx ty) (fun k v => if pLies S (nI k) x y tx ty && !decide (sW S (nI k).toNatClampNeg ≤ pWof S v) then nI k else v) (fun k v => if mRg R x y tx ty k && (decide (v = -9) || !decide (oP R (nI k) 2 ≤ oP R v 2)) then nI k else v) (fun v w => v = w ∧ (v = -9 ∨ ∃ j, j < 40 ∧ v = nI j ∧ pEx S (nI j) = true)) 40 a (kF_a h) ⟨rfl, Or.inl rfl⟩ (fun _ => rfl) (fun _ => rfl)
    (fun k v w hk e => by
      obtain ⟨rfl, e2⟩ := e
      have hk4 : k < 40 := by have := kF_a h; omega
      rw [kF_rg h hk4, nI_clamp (by omega)]
      cases he : pLies S (nI k) x y tx ty with
      | false => exact ⟨by simp, by simpa using e2⟩
      | true =>
        have hx := pLies_ex he
        obtain ⟨w', w1, w2, e3, e4, -⟩ := kF_we h hk4 hx
        rcases e2 with rfl | ⟨j, hj, rfl, hej⟩
        · have e9 : pWof S (-9) = 0 := by rw [pWof, pEx_m9]; rfl
          rw [e9, e3, decide_eq_false (nI_nle (n := w') (by omega) (by omega))]
          exact ⟨by simp, Or.inr ⟨k, hk4, by simp, hx⟩⟩
        · obtain ⟨wj, -, -, -, e5, e6⟩ := kF_we h hj hej
          rw [e6, e3, e4, e5, decide_eq_false (nI_nm9 (show j < 2 ^ 31 by omega))]
          by_cases hw : nI w' ≤ nI wj
          · simp only [hw, decide_true, Bool.not_true, Bool.and_false, Bool.or_false]
            exact ⟨trivial, Or.inr ⟨j, hj, rfl, hej⟩⟩
          · simp only [hw, decide_false, Bool.not_false, Bool.and_true, Bool.false_or]
            exact ⟨trivial, Or.inr ⟨k, hk4, rfl, hx⟩⟩) (fun k v h1 h2 => by simp [pLies, kp_no (kF_pts h) h2 h1])).1
theorem raOk_eq (x y tx ty : Int32) : (onMap x y && onMap tx ty && !decide (tx < x) && decide (y ≤ ty)) = (onMap x y && btw tx x 63 && btw ty y 63) := by
  rw [Bool.eq_iff_iff]
  have e0 : (0 : Int32).toInt = 0 := by decide
  have e1 : (63 : Int32).toInt = 63 := by decide
  simp only [onMap, btw, Bool.and_eq_true, Bool.not_eq_true', decide_eq_false_iff_not, decide_eq_true_eq, Int32.lt_iff_toInt_lt, Int32.le_iff_toInt_le, e0, e1]
  omega
theorem kF_range (h : kFull S R a f) (x y tx ty w : Int32) : raRet S x y tx ty w = mraRet R a f x y tx ty w := by
  rw [raRet, mraRet, mraOk, raOk_eq, kF_num h, kF_raw h, kF_ran h, kF_rich h]
  cases hb : (onMap x y && btw tx x 63 && btw ty y 63) with
  | false => simp
  | true =>
    by_cases h0 : w = 0
    · subst h0; rfl
    by_cases h1 : w = 1
    · subst h1; rfl
    by_cases h2 : w = 2
    · subst h2; rfl
    by_cases h3 : w = 3
    · subst h3; rfl
    have h8 := z_sw3 h0 h1 h2 h3
    have h9 : btw w 0 3 = false := by
      rw [btw]
      rcases h8 with h8 | h8
      · rw [decide_eq_true (show w < 0 from Int32.lt_iff_toInt_lt.mpr h8)]; rfl
      · rw [decide_eq_true (show (3 : Int32) < w from Int32.lt_iff_toInt_lt.mpr h8)]; simp
    rw [if_pos rfl, if_neg h0, if_neg h1, if_neg h2, if_neg h3, h9]; rfl
theorem kF_near (h : kFull S R a f) {x y : Nat} (hx : x < 64) (hy : y < 64) : (pNear S (nI x) (nI y) 40).1 = (mNe R (nI x) (nI y) a).1 :=
  (fldR (pNear S (nI x) (nI y)) (mNe R (nI x) (nI y)) (fun k v => if pEx S (nI k) && !decide (v.2 ≤ pDist S (nI x) (nI y) (nI k)) then (nI k, pDist S (nI x) (nI y) (nI k)) else v) (fun k v => if iP R (nI k) && (decide (v.1 = -9) || !decide (v.2 ≤ mDi R (nI x) (nI y) (nI k))) then (nI k, mDi R (nI x) (nI y) (nI k)) else v) (fun v w => v.1 = w.1 ∧ ((v.1 = -9 ∧ v.2 = 128) ∨ ∃ j d, j < 40 ∧ d ≤ 126 ∧ v.1 = nI j ∧ v.2 = nI d ∧ w.2 = nI d)) 40 a (kF_a h) ⟨rfl, Or.inl ⟨rfl, rfl⟩⟩ (fun _ => rfl) (fun _ => rfl)
    (fun k v w hk e => by
      have hk4 : k < 40 := by have := kF_a h; omega
      rw [← kF_pex h]
      cases he : pEx S (nI k) with
      | false => simpa using e
      | true =>
        obtain ⟨px, py, hpx, hpy, -, -, e1, e2, e3, e4⟩ := kF_xy h hk4 he
        obtain ⟨d, hd, ed, em⟩ : ∃ d : Nat, d ≤ 126 ∧ pDist S (nI x) (nI y) (nI k) = nI d ∧ mDi R (nI x) (nI y) (nI k) = nI d := by
          refine ⟨(if x ≤ px then px - x else x - px) + (if y ≤ py then py - y else y - py), by split <;> split <;> omega, ?_, ?_⟩
          · rw [pDist, nI_clamp (by omega), e1, e2, iAbs_n px hpx x hx, iAbs_n py hpy y hy, nI_add]
          · rw [mDi, e3, e4, faR_n x hx px hpx, faR_n y hy py hpy, nI_add]
        rw [ed, em]
        obtain ⟨q1, q2⟩ := e
        rcases q2 with ⟨q2, q3⟩ | ⟨j, d0, hj, hd0, q2, q3, q4⟩
        · rw [q3, ← q1, q2, decide_eq_false (show ¬ (128 : Int32) ≤ nI d from nI_ge (a := d) (b := 128) (by omega) (by decide))]
          exact ⟨by simp, Or.inr ⟨k, d, hk4, hd, by simp, by simp, by simp⟩⟩
        · rw [q3, q4, ← q1, q2, decide_eq_false (nI_nm9 (show j < 2 ^ 31 by omega))]
          by_cases hw : nI d0 ≤ nI d
          · simp only [hw, decide_true, Bool.not_true, Bool.and_false, Bool.or_false]
            exact ⟨q1, Or.inr ⟨j, d0, hj, hd0, q2, q3, q4⟩⟩
          · simp only [hw, decide_false, Bool.not_false, Bool.and_true, Bool.false_or]
            exact ⟨rfl, Or.inr ⟨k, d, hk4, hd, rfl, rfl, rfl⟩⟩) (fun k v h1 h2 => by rw [kp_no (kF_pts h) h2 h1]; simp)).1
theorem kF_nearest (h : kFull S R a f) (x y : Int32) : neRet S x y = mneRet R a x y := by
  rw [neRet, mneRet]
  cases he : onMap x y with
  | false => simp
  | true =>
    obtain ⟨u, v, hu, hv, rfl, rfl⟩ := onMap_n he
    rw [kF_near h hu hv]
theorem kF_pan (h : kFull S R a f) {p : Nat} (hp : p < 40) : paN S (nI p) 40 = mpN R f (nI p) a :=
  fldR (paN S (nI p)) (mpN R f (nI p)) (fun k v => if pLof S (nI k) = nI p ∧ aAr S (nI k) = nI p then v + 1 else v) (fun k v => if iP R (nI k) && decide (oP R (nI k) 4 = nI p) && decide (mAr R f (nI k) = nI p) then v + 1 else v) Eq 40 a (kF_a h) rfl (fun _ => rfl) (fun _ => rfl)
    (fun k v w hk e => by
      have hk4 : k < 40 := by have := kF_a h; omega
      rw [e, ← kF_pex h]
      cases he : pEx S (nI k) with
      | false =>
        have : ¬ pLof S (nI k) = nI p := by rw [pLof, if_neg (by rw [he]; decide)]; exact fun e => nI_nm9 (by omega) e.symm
        simp [this]
      | true => rw [kp_lo2 h hk4 he, kF_ar h hk4 he]; simp) (fun k v h1 h2 => by
      have : ¬ pLof S (nI k) = nI p := by rw [pLof, if_neg (by rw [kp_no (kF_pts h) h2 h1]; decide)]; exact fun e => nI_nm9 (by omega) e.symm
      simp [this])
theorem kF_payable (h : kFull S R a f) (p : Int32) : pbRet S p = mpbRet R a f p := by
  rw [pbRet, mpbRet, ← kF_rex h]
  cases he : rEx S p with
  | false => simp
  | true =>
    obtain ⟨k, hk, rfl⟩ := vp_in_of (rEx_in he) (by decide)
    rw [paY, kF_pan h hk, kF_by h hk, if_pos rfl, if_pos rfl]
    generalize mBy R (nI k) 40 = u
    generalize mpN R f (nI k) a = v
    by_cases h1 : u < v
    · rw [if_pos h1, if_pos (by have := Int32.lt_iff_toInt_lt.mp h1; exact Int32.le_iff_toInt_le.mpr (by omega))]
    · rw [if_neg h1]
      by_cases h2 : u ≤ v
      · rw [if_pos h2]
        apply Int32.toInt_inj.mp
        have a1 := Int32.le_iff_toInt_le.mp h2
        have a2 : ¬ u.toInt < v.toInt := fun h3 => h1 (Int32.lt_iff_toInt_lt.mpr h3)
        omega
      · rw [if_neg h2]
/-! cellsWith -/
def su1 (g : Nat → Nat) : Nat → Nat
  | 0 => 0
  | n + 1 => su1 g n + g n
theorem su1_add (g h : Nat → Nat) : ∀ n, su1 (fun i => g i + h i) n = su1 g n + su1 h n
  | 0 => rfl
  | n + 1 => by simp only [su1, su1_add g h n]; omega
theorem su1_z : ∀ n, su1 (fun _ => 0) n = 0
  | 0 => rfl
  | n + 1 => by simp only [su1, su1_z n]
theorem su1_sw (g : Nat → Nat → Nat) (m : Nat) : ∀ n, su1 (fun i => su1 (g i) m) n = su1 (fun j => su1 (fun i => g i j) n) m
  | 0 => (su1_z m).symm
  | n + 1 => by
    rw [su1, su1_sw g m n, ← su1_add]
    rfl
def cwU (R : FI) (a d : Nat) (v : Int32) (i j : Nat) : Nat := if mCe R a (nI (i * d)) (nI (j * d)) (nI d) ≤ v then 0 else 1
theorem kF_col (h : kFull S R a f) (d j : Nat) (v : Int32) (c : Nat) : ∀ k, pCol S (nI d) v (nI j) (nI c) k = nI (c + su1 (fun i => cwU R a d v i j) k)
  | 0 => rfl
  | k + 1 => by
    rw [pCol, kF_col h d j v c k, pk_mul, pk_mul, kF_num h, show mPt R (nI (k * d)) (nI (j * d)) (nI (k * d) + nI d - 1) (nI (j * d) + nI d - 1) a = mCe R a (nI (k * d)) (nI (j * d)) (nI d) from rfl, su1, cwU]
    split
    · rfl
    · rw [nI_1]; rfl
theorem kF_row (h : kFull S R a f) (d : Nat) (v : Int32) (N : Nat) : ∀ k, pRow S (nI d) v N k = nI (su1 (fun j => su1 (fun i => cwU R a d v i j) N) k)
  | 0 => rfl
  | k + 1 => by rw [pRow, kF_row h d v N k, kF_col h d k v _ N]; rfl
theorem kF_cy (h : kFull S R a f) (s i : Nat) (v c : Int32) : ∀ k, cnY R a v s i c k = c + nI (3 * su1 (cwU R a (cnS s) v i) k)
  | 0 => by show c = c + nI (3 * 0); rw [show nI (3 * 0) = 0 from rfl]; simp
  | k + 1 => by
    rw [cnY, kF_cy h s i v c k, cnC, su1, Nat.mul_add, ← nI_add, Int32.add_assoc]
    congr 2
    rw [cwU]
    split <;> rfl
theorem kF_cx (h : kFull S R a f) (s : Nat) (v c : Int32) : ∀ k, cnX R a v s c k = c + nI (3 * su1 (fun i => su1 (cwU R a (cnS s) v i) (2 ^ s)) k)
  | 0 => by show c = c + nI (3 * 0); rw [show nI (3 * 0) = 0 from rfl]; simp
  | k + 1 => by rw [cnX, kF_cx h s v c k, kF_cy h, su1, Nat.mul_add, ← nI_add, Int32.add_assoc]
theorem kF_div (h : kFull S R a f) (v : Int32) : ∀ k, k ≤ 4 → pDiv S v k = cnA R a v k
  | 0, _ => rfl
  | k + 1, hk => by
    rw [pDiv, cnA, kF_div h v k (by omega), sideF_n (by omega), kF_row h, kF_cx h, su1_sw, show (3 : Int32) = nI 3 from rfl, pk_mul]
    rfl
theorem kF_cellsWith (h : kFull S R a f) (v : Int32) : cwRet S v = mcwRet R a v := by
  rw [cwRet, mcwRet, kF_div h v 4 (Nat.le_refl _)]
end KG
