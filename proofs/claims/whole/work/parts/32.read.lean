/-! the two sides answer alike: looking -/
def kWf (S : CS) : Prop := ∀ p, p < 40 → sSc S p = -1 ∨ ∃ l t s, kCl S p l t s
section KF
variable {S : CS} {R : FI} {a f : Nat}
theorem kF_par (h : kFull S R a f) : ∀ p, p < 40 → kPa S R f p := fun p hp => h.1.2.2.1 p hp (by omega)
theorem kF_pts (h : kFull S R a f) : ∀ i, i < 40 → kPt S R a i := h.1.2.1
theorem kF_wf (h : kFull S R a f) : kWf S := fun p hp => by
  rcases kF_par h p hp with h1 | h1
  · exact Or.inl h1.1
  · obtain ⟨-, -, l, t, s, h2⟩ := h1
    exact Or.inr ⟨l, t, s, h2.1⟩
theorem kF_a (h : kFull S R a f) : a ≤ 40 := h.1.1.1
theorem kF_f (h : kFull S R a f) : f ≤ 40 := h.1.1.2.2.1
theorem kF_f1 (h : kFull S R a f) : 1 ≤ f := h.1.1.2.1
theorem kF_0 (h : kFull S R a f) : R 0 = sCr S := h.1.1.2.2.2.1
theorem kF_1 (h : kFull S R a f) : R 1 = sTi S := h.1.1.2.2.2.2.1
theorem kF_2 (h : kFull S R a f) : R 2 = nI a := h.1.1.2.2.2.2.2.1
theorem kF_ad (h : kFull S R a f) : sAd S = nI a := h.1.1.2.2.2.2.2.2.1
theorem kF_3 (h : kFull S R a f) : R 3 = nI f := h.1.1.2.2.2.2.2.2.2.1
theorem kF_fo (h : kFull S R a f) : sFo S = nI f := h.1.1.2.2.2.2.2.2.2.2.1
theorem kF_ti (h : kFull S R a f) : ∃ t : Nat, 1 ≤ t ∧ t ≤ 9 ∧ sTi S = nI t := h.1.1.2.2.2.2.2.2.2.2.2
theorem kF_mOk (h : kFull S R a f) : mOk R a f := by
  obtain ⟨t, h1, h2, h3⟩ := kF_ti h
  refine ⟨kF_a h, by have := kF_f h; omega, kF_2 h, kF_3 h, ?_⟩
  rw [kF_1 h, h3]; exact nI_ne0 (by omega) (by omega)
theorem kF_pex (h : kFull S R a f) (i : Int32) : pEx S i = iP R i := kp_exI (kF_a h) (kF_2 h) (kF_pts h) i
theorem kF_rex (h : kFull S R a f) (p : Int32) : rEx S p = iR R p := kr_exI (kF_f h) (kF_3 h) (kF_par h) p
theorem kF_num (h : kFull S R a f) (l t r b : Int32) : pNum S l t r b 40 = mPt R l t r b a := kp_num (kF_a h) (kF_2 h) (kF_pts h) l t r b
theorem kF_pd (h : kFull S R a f) {k : Nat} (hk : k < 40) (he : pEx S (nI k) = true) : k < a ∧ R (4 + 5 * k + 3) = 1 ∧ ∃ x y w, kPD S R k x y w := kp_dat (kF_pts h) hk he
theorem kF_rd (h : kFull S R a f) {k : Nat} (hk : k < 40) (he : rEx S (nI k) = true) : k < f ∧ R (204 + 4 * k) = 1 ∧ ∃ l t s, kRD S R k l t s := kr_dat1 hk (kF_par h k hk) he
theorem kp_lo {k : Nat} (hk : k < 40) (he : pEx S (nI k) = true) : pLof S (nI k) = sL S k := by rw [pLof, if_pos he, nI_clamp (by omega)]
theorem kp_lo2 (h : kFull S R a f) {k : Nat} (hk : k < 40) (he : pEx S (nI k) = true) : pLof S (nI k) = oP R (nI k) 4 := by
  obtain ⟨-, -, x, y, w, hd⟩ := kF_pd h hk he
  rw [kp_lo hk he, oP_4 (by omega), hd.2.2.2.2.2.2.2.2.2.2]
theorem btw_d {x l d : Nat} (hx : x < 64) (hl : l < 64) (hd : d ≤ 64) (h0 : 1 ≤ d) : btw (nI x - nI l) 0 (nI d - 1) = decide (l ≤ x ∧ x < l + d) := by
  have e1 : (nI d - 1).toInt = (d : Int) - 1 := by
    rw [show (1 : Int32) = nI 1 from rfl, pk_sub_toInt (by omega) (by omega)]; rfl
  have e2 : (nI x - nI l).toInt = (x : Int) - l := pk_sub_toInt (by omega) (by omega)
  have e0 : (0 : Int32).toInt = 0 := by decide
  rw [btw, Bool.eq_iff_iff]
  simp only [Bool.and_eq_true, Bool.not_eq_true', decide_eq_false_iff_not, decide_eq_true_eq, Int32.lt_iff_toInt_lt, e0, e1, e2]
  omega
theorem kr_mtou (hf : f ≤ 40) (h3 : R 3 = nI f) {k x y : Nat} (hk : k < 40) (hx : x < 64) (hy : y < 64) (h : kPa S R f k) : mTou R (nI x) (nI y) k = rTou S (nI k) (nI x) (nI y) (nI x) (nI y) := by
  rw [Bool.eq_iff_iff, kr_touI hk hx hy (by
    rcases h with h1 | h1
    · exact Or.inl h1.1
    · obtain ⟨-, -, l, t, s, h2⟩ := h1
      exact Or.inr ⟨l, t, s, h2.1⟩), mTou, ← kr_ex1 hf h3 hk h]
  cases he : rEx S (nI k) with
  | false =>
    simp only [Bool.false_and, Bool.false_eq_true, false_iff]
    rintro ⟨l, t, s, h1, -⟩
    rw [(kr_val hk h1).1] at he
    exact absurd he (by decide)
  | true =>
    obtain ⟨-, -, l, t, s, hd⟩ := kr_dat1 hk h he
    obtain ⟨m1, m2, m3, m4⟩ := kr_mval hk hd
    have hs := sd_le hd.1.2.2.2.1
    have hc := hd.1.2.2.2
    rw [m1, m2, m4, btw_d hx hc.2.1 hs.2 (by omega), btw_d hy hc.2.2.1 hs.2 (by omega)]
    simp only [Bool.true_and, Bool.and_eq_true, decide_eq_true_eq]
    constructor
    · intro h1
      exact ⟨l, t, s, hd.1, by omega, by omega, by omega, by omega⟩
    · rintro ⟨l', t', s', h1, h2, h3, h4, h5⟩
      have q1 : l' = l := (nI_eq (by have := h1.2.2.2.2.1; omega) (by have := hc.2.1; omega)).mp (h1.1.symm.trans hd.1.1)
      have q2 : t' = t := (nI_eq (by have := h1.2.2.2.2.2.1; omega) (by have := hc.2.2.1; omega)).mp (h1.2.1.symm.trans hd.1.2.1)
      have q3 : s' = s := (nI_eq (by have := h1.2.2.2.1; omega) (by have := hc.1; omega)).mp (h1.2.2.1.symm.trans hd.1.2.2.1)
      subst q1; subst q2; subst q3
      omega
theorem kr_one (hw : kWf S) (hd : kDis S) {p x y : Nat} (hp : p < 40) (hx : x < 64) (hy : y < 64) (h : kInC S p x y) : rAt S (nI x) (nI y) = nI p :=
  fnd_one 40 0 (Nat.zero_le _) (by omega) ((kr_touI hp hx hy (hw p hp)).mpr h) (fun j _ hj h1 => hd j p x y (by omega) hp ((kr_touI (by omega) hx hy (hw j (by omega))).mp h1) h)
theorem kF_at (h : kFull S R a f) {x y : Nat} (hx : x < 64) (hy : y < 64) : rAt S (nI x) (nI y) = mAt R f (nI x) (nI y) :=
  fnd_eq (kF_f h) (fun k hk => (kr_mtou (kF_f h) (kF_3 h) (by have := kF_f h; omega) hx hy (kF_par h k (by have := kF_f h; omega))).symm)
    (fun k h1 h2 => by rw [rTou, kr_no1 h2 h1 (kF_par h k h2)]; simp)
theorem kF_at1 (h : kFull S R a f) {x y : Nat} (hx : x < 64) (hy : y < 64) : ∃ p, p < 40 ∧ kInC S p x y ∧ rAt S (nI x) (nI y) = nI p := by
  obtain ⟨p, hp, h1⟩ := h.2.1 x y hx hy
  exact ⟨p, hp, h1, kr_one (kF_wf h) h.2.2 hp hx hy h1⟩
theorem kF_xy (h : kFull S R a f) {k : Nat} (hk : k < 40) (he : pEx S (nI k) = true) : ∃ x y, x < 64 ∧ y < 64 ∧ pXof S (nI k) = nI x ∧ pYof S (nI k) = nI y ∧ sX S k = nI x ∧ sY S k = nI y ∧ oP R (nI k) 0 = nI x ∧ oP R (nI k) 1 = nI y := by
  obtain ⟨-, -, x, y, w, hd⟩ := kF_pd h hk he
  exact ⟨x, y, hd.1, hd.2.1, by rw [pXof, if_pos he, nI_clamp (by omega)]; exact hd.2.2.2.2.1, by rw [pYof, if_pos he, nI_clamp (by omega)]; exact hd.2.2.2.2.2.1, hd.2.2.2.2.1, hd.2.2.2.2.2.1, by rw [oP_0 (by omega)]; exact hd.2.2.2.2.2.2.2.1, by rw [oP_1 (by omega)]; exact hd.2.2.2.2.2.2.2.2.1⟩
theorem kF_ar (h : kFull S R a f) {k : Nat} (hk : k < 40) (he : pEx S (nI k) = true) : aAr S (nI k) = mAr R f (nI k) := by
  obtain ⟨x, y, hx, hy, e1, e2, -, -, e3, e4⟩ := kF_xy h hk he
  rw [aAr, mAr, e1, e2, e3, e4, kF_at h hx hy]
theorem kF_we (h : kFull S R a f) {k : Nat} (hk : k < 40) (he : pEx S (nI k) = true) : ∃ w, 1 ≤ w ∧ w ≤ 100 ∧ sW S k = nI w ∧ oP R (nI k) 2 = nI w ∧ pWof S (nI k) = nI w := by
  obtain ⟨-, -, x, y, w, hd⟩ := kF_pd h hk he
  exact ⟨w, hd.2.2.1, hd.2.2.2.1, hd.2.2.2.2.2.2.1, by rw [oP_2 (by omega)]; exact hd.2.2.2.2.2.2.2.2.2.1, by rw [pWof, if_pos he, nI_clamp (by omega)]; exact hd.2.2.2.2.2.2.1⟩
/-! debts -/
theorem dOw_n {g : FI} {p c : Nat} (hp : p < 40) (hc : c < 40) : dOwF g (nI p) (nI c) = g (40 * p + c) := by
  have e : ∀ j : Nat, j < 40 → decide (nI j < 0) = false ∧ decide ((40 : Int32) ≤ nI j) = false := fun j hj => ⟨decide_eq_false (nI_pos (by omega)), decide_eq_false (nI_ge (a := j) (b := 40) hj (by decide))⟩
  rw [dOwF, dOk, (e p hp).1, (e p hp).2, (e c hc).1, (e c hc).2, show nI p * 40 + nI c = nI (40 * p + c) from by rw [show (40 : Int32) = nI 40 from rfl, pk_mul, nI_add, Nat.mul_comm], nI_clamp (by omega)]
  simp
theorem kF_ow (h : kFull S R a f) {p c : Nat} (hp : p < 40) (hc : c < 40) : dOwF (sD S) (nI p) (nI c) = dO R (nI p) (nI c) := by
  rw [dOw_n hp hc, dO_n (by omega) (by omega)]
  exact h.1.2.2.2.1 p c hp hc (by omega)
theorem kF_by (h : kFull S R a f) {p : Nat} (hp : p < 40) : dBy (sD S) (nI p) 40 = mBy R (nI p) 40 :=
  fldR (dBy (sD S) (nI p)) (mBy R (nI p)) (fun k v => v + dOwF (sD S) (nI p) (nI k)) (fun k v => v + dO R (nI p) (nI k)) Eq 40 40 (Nat.le_refl _) rfl (fun _ => rfl) (fun _ => rfl) (fun k v w hk e => by rw [e, kF_ow h hp hk]) (fun k v h1 h2 => absurd h1 (by omega))
theorem kF_to (h : kFull S R a f) {p : Nat} (hp : p < 40) : dTo (sD S) (nI p) 40 = maG R (nI p) 40 :=
  fldR (dTo (sD S) (nI p)) (maG R (nI p)) (fun k v => v + dOwF (sD S) (nI k) (nI p)) (fun k v => v + dO R (nI k) (nI p)) Eq 40 40 (Nat.le_refl _) rfl (fun _ => rfl) (fun _ => rfl) (fun k v w hk e => by rw [e, kF_ow h hk hp]) (fun k v h1 h2 => absurd h1 (by omega))
theorem kF_by0 (h : kFull S R a f) {p : Nat} (hp : p < 40) (hpf : f ≤ p) : ∀ k, k ≤ 40 → dBy (sD S) (nI p) k = 0
  | 0, _ => rfl
  | k + 1, hk => by
    rw [dBy, kF_by0 h hp hpf k (by omega), dOw_n hp (by omega), h.1.2.2.2.2.2 p k hpf hp (by omega)]; rfl
theorem kF_sum (h : kFull S R a f) : dSum (sD S) 40 = coD R f :=
  fldR (dSum (sD S)) (coD R) (fun k v => v + dBy (sD S) (nI k) 40) (fun k v => v + mBy R (nI k) 40) Eq 40 f (kF_f h) rfl (fun _ => rfl) (fun _ => rfl) (fun k v w hk e => by rw [e, kF_by h (by have := kF_f h; omega)]) (fun k v h1 h2 => by rw [kF_by0 h h2 h1 40 (Nat.le_refl _)]; simp)
/-! count -/
theorem kF_all (h : kFull S R a f) {k : Nat} (hk : k < 40) : raT R 0 0 63 63 k = iR R (nI k) := by
  rw [raT]
  cases he : iR R (nI k) with
  | false => simp only [Bool.false_and]
  | true =>
    obtain ⟨-, -, l, t, s, hd⟩ := kF_rd h hk (by rw [kF_rex h]; exact he)
    obtain ⟨m1, m2, m3, m4⟩ := kr_mval hk hd
    have hc := hd.1.2.2.2
    have hs := sd_le hc.1
    have b1 := hc.2.1
    have b2 := hc.2.2.1
    rw [m1, m2, m4, nI_add, nI_add, decide_eq_false (show ¬ (63 : Int32) < nI l from nI_nlt (a := 63) (by omega) (by omega)), decide_eq_false (show ¬ (63 : Int32) < nI t from nI_nlt (a := 63) (by omega) (by omega)), decide_eq_false (nI_nle (n := l + 64 / 2 ^ s) (by omega) (by omega)), decide_eq_false (nI_nle (n := t + 64 / 2 ^ s) (by omega) (by omega))]
    rfl
theorem kF_cop (h : kFull S R a f) : rNumT S 0 0 63 63 40 = coP R f :=
  fldR (rNumT S 0 0 63 63) (coP R) (fun k v => if rTou S (nI k) 0 0 63 63 then v + 1 else v) (fun k v => if iR R (nI k) then v + 1 else v) Eq 40 f (kF_f h) rfl (fun _ => rfl) (fun _ => rfl)
    (fun k v w hk e => by
      have hk4 : k < 40 := by have := kF_f h; omega
      rw [e, kr_tou (kF_f h) (kF_3 h) hk4 (kF_par h k hk4), kF_all h hk4]) (fun k v h1 h2 => by rw [rTou, kr_no1 h2 h1 (kF_par h k h2)]; simp)
theorem kF_els (h : kFull S R a f) : eLs S 40 = coS R f a :=
  fldR (eLs S) (coS R f) (fun k v => if pEx S (nI k) && !decide (pLof S (nI k) = aAr S (nI k)) then v + 1 else v) (fun k v => if iP R (nI k) && !decide (oP R (nI k) 4 = mAr R f (nI k)) then v + 1 else v) Eq 40 a (kF_a h) rfl (fun _ => rfl) (fun _ => rfl)
    (fun k v w hk e => by
      have hk4 : k < 40 := by have := kF_a h; omega
      rw [e, ← kF_pex h]
      cases he : pEx S (nI k) with
      | false => simp only [Bool.false_and]
      | true => rw [kp_lo2 h hk4 he, kF_ar h hk4 he]) (fun k v h1 h2 => by rw [kp_no (kF_pts h) h2 h1]; simp)
theorem nI_nlm1 {n : Nat} (h : n < 2 ^ 31) : ¬ nI n < -1 := by
  intro e
  have h1 := nI_toInt h
  have h2 := Int32.lt_iff_toInt_lt.mp e
  have h3 : (-1 : Int32).toInt = -1 := by decide
  omega
theorem rGr_ge : ∀ k, ¬ rGr S k < -1
  | 0 => by show ¬ (0 : Int32) < -1; decide
  | k + 1 => by
    have ih := rGr_ge k
    rw [rGr]
    split
    · rename_i h1
      intro h2
      have a1 := Int32.lt_iff_toInt_lt.mp h1
      have a2 := Int32.lt_iff_toInt_lt.mp h2
      exact ih (Int32.lt_iff_toInt_lt.mpr (by omega))
    · exact ih
theorem rSc_no {k : Nat} (he : rEx S (nI k) = false) : rSc S (nI k) = -1 := by rw [rSc, if_neg (by rw [he]; decide)]
theorem kF_gr (h : kFull S R a f) : rGr S 40 = coG R f :=
  fldR (rGr S) (coG R) (fun k v => if rEx S (nI k) && decide (v < rSc S (nI k)) then rSc S (nI k) else v) (fun k v => if iR R (nI k) && !decide (qA R (nI k) 3 ≤ v) then qA R (nI k) 3 else v) Eq 40 f (kF_f h) rfl
    (fun k => by
      rw [rGr]
      cases he : rEx S (nI k) with
      | false => rw [rSc_no he, if_neg (rGr_ge k)]; simp
      | true => simp) (fun _ => rfl)
    (fun k v w hk e => by
      subst e
      have hk4 : k < 40 := by have := kF_f h; omega
      rw [← kF_rex h]
      cases he : rEx S (nI k) with
      | false => simp
      | true =>
        obtain ⟨-, -, l, t, s, hd⟩ := kF_rd h hk4 he
        rw [(kr_val hk4 hd.1).2.2.2.1, (kr_mval hk4 hd).2.2.1]
        by_cases hv : v < nI s
        · have : ¬ nI s ≤ v := Int32.not_le.mpr hv
          simp [this, hv]
        · have : nI s ≤ v := Int32.not_lt.mp hv
          simp [this, hv]) (fun k v h1 h2 => by rw [kr_no1 h2 h1 (kF_par h k h2)]; simp)
theorem kF_lall (h : kFull S R a f) {k : Nat} (hk : k < 40) : pLies S (nI k) 0 0 63 63 = iP R (nI k) := by
  rw [kp_lie (kF_a h) (kF_2 h) (kF_pts h) hk, ← kF_pex h]
  cases he : pEx S (nI k) with
  | false => simp only [Bool.false_and]
  | true =>
    obtain ⟨x, y, hx, hy, -, -, -, -, e3, e4⟩ := kF_xy h hk he
    rw [e3, e4, show btw (nI x) 0 63 = decide (0 ≤ x ∧ x ≤ 63) from btw_n (lo := 0) (hi := 63) (by omega) (by omega) (by omega), show btw (nI y) 0 63 = decide (0 ≤ y ∧ y ≤ 63) from btw_n (lo := 0) (hi := 63) (by omega) (by omega) (by omega), decide_eq_true (show 0 ≤ x ∧ x ≤ 63 by omega), decide_eq_true (show 0 ≤ y ∧ y ≤ 63 by omega)]
    rfl
theorem kF_wall (h : kFull S R a f) : pWea S 0 0 63 63 40 = coW R a :=
  fldR (pWea S 0 0 63 63) (coW R) (fun k v => if pLies S (nI k) 0 0 63 63 then v + sW S (nI k).toNatClampNeg else v) (fun k v => if iP R (nI k) then v + oP R (nI k) 2 else v) Eq 40 a (kF_a h) rfl (fun _ => rfl) (fun _ => rfl)
    (fun k v w hk e => by
      have hk4 : k < 40 := by have := kF_a h; omega
      rw [e, kF_lall h hk4, nI_clamp (by omega), ← kF_pex h]
      cases he : pEx S (nI k) with
      | false => simp
      | true =>
        obtain ⟨w', -, -, e1, e2, -⟩ := kF_we h hk4 he
        rw [e1, e2]) (fun k v h1 h2 => by rw [kF_lall h h2, ← kF_pex h, kp_no (kF_pts h) h2 h1]; simp)
theorem kF_count (h : kFull S R a f) (n : Int32) (fq : Nat → Option Nat) (w : Int32) : coRet S (n, fq) w = mcoRet R n a f w := by
  rw [coRet, mcoRet, kF_num h, kF_ad h, kF_2 h, kF_cop h, kF_fo h, kF_3 h, kF_0 h, kF_1 h, kF_sum h, kF_els h, kF_gr h, kF_wall h]
/-! point, parish, debt, at -/
theorem kF_point (h : kFull S R a f) (i w : Int32) : poRet S i w = mpoRet R f i w := by
  rw [poRet, mpoRet, ← kF_pex h]
  cases he : pEx S i with
  | false => simp
  | true =>
    obtain ⟨k, hk, rfl⟩ := vp_in_of (pEx_in he) (by decide)
    obtain ⟨x, y, hx, hy, e1, e2, -, -, e3, e4⟩ := kF_xy h hk he
    obtain ⟨w', -, -, -, e5, e6⟩ := kF_we h hk he
    rw [e1, e2, e6, kF_ar h hk he, kp_lo2 h hk he]
    by_cases h0 : w = 0
    · subst h0; rw [e3]; rfl
    by_cases h1 : w = 1
    · subst h1; rw [e4]; rfl
    by_cases h2 : w = 2
    · subst h2; rw [e5]; rfl
    by_cases h3 : w = 3
    · subst h3; rfl
    by_cases h4 : w = 4
    · subst h4; rfl
    have h5 := z_sw4 h0 h1 h2 h3 h4
    have h6 : btw w 0 4 = false := by
      rw [btw]
      rcases h5 with h5 | h5
      · rw [decide_eq_true (show w < 0 from Int32.lt_iff_toInt_lt.mpr h5)]; rfl
      · rw [decide_eq_true (show (4 : Int32) < w from Int32.lt_iff_toInt_lt.mpr h5)]; simp
    rw [if_pos rfl, if_neg h0, if_neg h1, if_neg h2, if_neg h3, if_neg h4, h6]; rfl
theorem kF_nin (h : kFull S R a f) {k : Nat} (hk : k < 40) (he : rEx S (nI k) = true) : nIn S (nI k) = mCe R a (qA R (nI k) 1) (qA R (nI k) 2) (mSd R (nI k)) := by
  obtain ⟨-, -, l, t, s, hd⟩ := kF_rd h hk he
  obtain ⟨-, v1, v2, v3, v4, v5⟩ := kr_val hk hd.1
  obtain ⟨m1, m2, m3, m4⟩ := kr_mval hk hd
  have hs := sd_le hd.1.2.2.2.1
  rw [nIn, mCe, v1, v2, v4, v5, m1, m2, m4, kF_num h, nI_add, nI_add, show (1 : Int32) = nI 1 from rfl, pk_sub (by omega), pk_sub (by omega)]
theorem kF_numU (h : kFull S R a f) {p : Nat} (hp : p < 40) : pNumU S (nI p) 40 = maO R (nI p) a :=
  fldR (pNumU S (nI p)) (maO R (nI p)) (fun k v => if pLof S (nI k) = nI p then v + 1 else v) (fun k v => if iP R (nI k) && decide (oP R (nI k) 4 = nI p) then v + 1 else v) Eq 40 a (kF_a h) rfl (fun _ => rfl) (fun _ => rfl)
    (fun k v w hk e => by
      have hk4 : k < 40 := by have := kF_a h; omega
      rw [e, ← kF_pex h]
      cases he : pEx S (nI k) with
      | false =>
        have : ¬ pLof S (nI k) = nI p := by rw [pLof, if_neg (by rw [he]; decide)]; exact fun e => nI_nm9 (by omega) e.symm
        simp [this]
      | true => rw [kp_lo2 h hk4 he]; simp) (fun k v h1 h2 => by
      have : ¬ pLof S (nI k) = nI p := by rw [pLof, if_neg (by rw [kp_no (kF_pts h) h2 h1]; decide)]; exact fun e => nI_nm9 (by omega) e.symm
      simp [this])
theorem kF_weaU (h : kFull S R a f) {p : Nat} (hp : p < 40) : pWeaU S (nI p) 40 = maW R (nI p) a :=
  fldR (pWeaU S (nI p)) (maW R (nI p)) (fun k v => if pLof S (nI k) = nI p then v + sW S (nI k).toNatClampNeg else v) (fun k v => if iP R (nI k) && decide (oP R (nI k) 4 = nI p) then v + oP R (nI k) 2 else v) Eq 40 a (kF_a h) rfl (fun _ => rfl) (fun _ => rfl)
    (fun k v w hk e => by
      have hk4 : k < 40 := by have := kF_a h; omega
      rw [e, ← kF_pex h, nI_clamp (by omega)]
      cases he : pEx S (nI k) with
      | false =>
        have : ¬ pLof S (nI k) = nI p := by rw [pLof, if_neg (by rw [he]; decide)]; exact fun e => nI_nm9 (by omega) e.symm
        simp [this]
      | true =>
        obtain ⟨w', -, -, e5, e6, -⟩ := kF_we h hk4 he
        rw [kp_lo2 h hk4 he, e5, e6]; simp) (fun k v h1 h2 => by
      have : ¬ pLof S (nI k) = nI p := by rw [pLof, if_neg (by rw [kp_no (kF_pts h) h2 h1]; decide)]; exact fun e => nI_nm9 (by omega) e.symm
      simp [this])
theorem kF_parish (h : kFull S R a f) (p w : Int32) : paRet S p w = mpaRet R a p w := by
  rw [paRet, mpaRet, ← kF_rex h]
  cases he : rEx S p with
  | false => simp
  | true =>
    obtain ⟨k, hk, rfl⟩ := vp_in_of (rEx_in he) (by decide)
    obtain ⟨-, -, l, t, s, hd⟩ := kF_rd h hk he
    obtain ⟨-, v1, v2, v3, -, -⟩ := kr_val hk hd.1
    obtain ⟨m1, m2, m3, -⟩ := kr_mval hk hd
    rw [kF_nin h hk he, kF_numU h hk, kF_weaU h hk, kF_by h hk, kF_to h hk, v1, v2, v3]
    by_cases h0 : w = 0
    · subst h0; exact m1.symm
    by_cases h1 : w = 1
    · subst h1; exact m2.symm
    by_cases h2 : w = 2
    · subst h2; exact m3.symm
    by_cases h3 : w = 3
    · subst h3; rfl
    by_cases h4 : w = 4
    · subst h4; rfl
    by_cases h5 : w = 5
    · subst h5; rfl
    by_cases h6 : w = 6
    · subst h6; rfl
    by_cases h7 : w = 7
    · subst h7; rfl
    have h8 := z_sw7 h0 h1 h2 h3 h4 h5 h6 h7
    have h9 : btw w 0 7 = false := by
      rw [btw]
      rcases h8 with h8 | h8
      · rw [decide_eq_true (show w < 0 from Int32.lt_iff_toInt_lt.mpr h8)]; rfl
      · rw [decide_eq_true (show (7 : Int32) < w from Int32.lt_iff_toInt_lt.mpr h8)]; simp
    rw [if_pos rfl, if_neg h0, if_neg h1, if_neg h2, if_neg h3, if_neg h4, if_neg h5, if_neg h6, if_neg h7, h9]; rfl
theorem kF_debt (h : kFull S R a f) (p c : Int32) : deRet S p c = mdeRet R p c := by
  rw [deRet, mdeRet, ← kF_rex h, ← kF_rex h]
  cases he : rEx S p with
  | false => simp
  | true =>
    cases he2 : rEx S c with
    | false => simp
    | true =>
      obtain ⟨k, hk, rfl⟩ := vp_in_of (rEx_in he) (by decide)
      obtain ⟨j, hj, rfl⟩ := vp_in_of (rEx_in he2) (by decide)
      rw [kF_ow h hk hj]
theorem kF_atR (h : kFull S R a f) (x y : Int32) : atRet S x y = matRet R f x y := by
  rw [atRet, matRet]
  cases he : onMap x y with
  | false => simp
  | true =>
    obtain ⟨u, v, hu, hv, rfl, rfl⟩ := onMap_n he
    rw [kF_at h hu hv]
end KF
