/-! the two sides change alike: points -/
def kHi (R Q : FI) : Prop := ∀ j, 1964 ≤ j → Q j = R j
theorem kHi_r {R : FI} : kHi R R := fun _ _ => rfl
theorem kHi_t {R Q P : FI} (h1 : kHi R Q) (h2 : kHi Q P) : kHi R P := fun j hj => (h2 j hj).trans (h1 j hj)
theorem kHi_u {R Q : FI} {k : Nat} {v : Int32} (h : kHi R Q) (hk : k < 1964) : kHi R (upd Q k v) := fun j hj => (pk_un (by omega)).trans (h j hj)
section KU
variable {S S' : CS} {R Q : FI} {a f f' e1 e2 : Nat}
theorem kPt_c {i : Nat} (hw : sW S' i = sW S i) (hx : sX S' i = sX S i) (hy : sY S' i = sY S i) (hl : sL S' i = sL S i) (hq : ∀ j, 4 + 5 * i ≤ j → j < 9 + 5 * i → Q j = R j) (h : kPt S R a i) : kPt S' Q a i := by
  rcases h with ⟨h1, h2⟩ | ⟨h1, h2, x, y, w, h3⟩
  · exact Or.inl ⟨hw.trans h1, fun h => by rw [hq _ (by omega) (by omega)]; exact h2 h⟩
  · obtain ⟨d1, d2, d3, d4, d5, d6, d7, d8, d9, d10, d11⟩ := h3
    exact Or.inr ⟨h1, by rw [hq _ (by omega) (by omega)]; exact h2, x, y, w, d1, d2, d3, d4, hx.trans d5, hy.trans d6, hw.trans d7, by rw [hq _ (by omega) (by omega)]; exact d8, by rw [hq _ (by omega) (by omega)]; exact d9, by rw [hq _ (by omega) (by omega)]; exact d10, by rw [hq _ (by omega) (by omega), hl]; exact d11⟩
theorem kPa_c {p : Nat} (hsc : sSc S' p = sSc S p) (hle : sLe S' p = sLe S p) (hto : sTo S' p = sTo S p) (hq : ∀ j, 204 + 4 * p ≤ j → j < 208 + 4 * p → Q j = R j) (hf : p < f ↔ p < f') (h : kPa S R f p) : kPa S' Q f' p := by
  rcases h with ⟨h1, h2⟩ | ⟨h1, h2, l, t, s, h3⟩
  · exact Or.inl ⟨hsc.trans h1, fun h => by rw [hq _ (by omega) (by omega)]; exact h2 (hf.mpr h)⟩
  · obtain ⟨⟨d1, d2, d3, d4⟩, d5, d6, d7⟩ := h3
    exact Or.inr ⟨hf.mp h1, by rw [hq _ (by omega) (by omega)]; exact h2, l, t, s, ⟨hle.trans d1, hto.trans d2, hsc.trans d3, d4⟩, by rw [hq _ (by omega) (by omega)]; exact d5, by rw [hq _ (by omega) (by omega)]; exact d6, by rw [hq _ (by omega) (by omega)]; exact d7⟩
theorem kDeb_c (hd : ∀ j, j < 1600 → sD S' j = sD S j) (hq : ∀ j, 364 ≤ j → j < 1964 → Q j = R j) (hff : f ≤ f') (h : kDeb S R f e1) : kDeb S' Q f' e1 := by
  obtain ⟨h1, h2, h3⟩ := h
  exact ⟨fun p c hp hc hn => by rw [hd _ (by omega), hq _ (by omega) (by omega)]; exact h1 p c hp hc hn, fun p hp => by rw [hd _ (by omega)]; exact h2 p hp, fun p c hp hp2 hc => by rw [hd _ (by omega)]; exact h3 p c (by omega) hp2 hc⟩
theorem kInC_c {p x y : Nat} (hsc : sSc S' p = sSc S p) (hle : sLe S' p = sLe S p) (hto : sTo S' p = sTo S p) : kInC S' p x y ↔ kInC S p x y := by
  simp only [kInC, kCl, hsc, hle, hto]
theorem kCov_c (hsc : sSc S' = sSc S) (hle : sLe S' = sLe S) (hto : sTo S' = sTo S) (h : kCov S) : kCov S' := by
  intro x y hx hy
  obtain ⟨p, hp, h1⟩ := h x y hx hy
  exact ⟨p, hp, (kInC_c (by rw [hsc]) (by rw [hle]) (by rw [hto])).mpr h1⟩
theorem kDis_c (hsc : sSc S' = sSc S) (hle : sLe S' = sLe S) (hto : sTo S' = sTo S) (h : kDis S) : kDis S' := fun p q x y hp hq h1 h2 =>
  h p q x y hp hq ((kInC_c (by rw [hsc]) (by rw [hle]) (by rw [hto])).mp h1) ((kInC_c (by rw [hsc]) (by rw [hle]) (by rw [hto])).mp h2)
theorem rAt_c (hsc : sSc S' = sSc S) (hle : sLe S' = sLe S) (hto : sTo S' = sTo S) (x y : Int32) : rAt S' x y = rAt S x y := by
  rw [rAt, rAt]
  congr 1
  funext k
  rw [rTou, rTou, rEx, rEx, hsc, hle, hto]
theorem pNum_c (hw : sW S' = sW S) (hx : sX S' = sX S) (hy : sY S' = sY S) (l t r b : Int32) : ∀ n, pNum S' l t r b n = pNum S l t r b n
  | 0 => rfl
  | n + 1 => by rw [pNum, pNum, pNum_c hw hx hy l t r b n, pLies, pLies, pEx, pEx, hw, hx, hy]
/-- points alone are changed -/
theorem kFull_p (h : kFull S R a f) (hb : kBas S' Q a f) (hp : ∀ i, i < 40 → kPt S' Q a i) (hsc : sSc S' = sSc S) (hle : sLe S' = sLe S) (hto : sTo S' = sTo S) (hd : sD S' = sD S) (hq : ∀ j, 204 ≤ j → j < 1964 → Q j = R j) : kFull S' Q a f :=
  ⟨⟨hb, hp, fun p hp1 hp2 => kPa_c (by rw [hsc]) (by rw [hle]) (by rw [hto]) (fun j h1 h2 => hq j (by omega) (by omega)) Iff.rfl (h.1.2.2.1 p hp1 hp2), kDeb_c (fun j _ => by rw [hd]) (fun j h1 h2 => hq j (by omega) h2) (Nat.le_refl _) h.1.2.2.2⟩, kCov_c hsc hle hto h.2.1, kDis_c hsc hle hto h.2.2⟩
theorem ix1v {i w : Nat} (hi : i < 100) (hw : w < 10) : ((4 : Int32) + 5 * nI i + nI w).toNatClampNeg = 4 + 5 * i + w := by rw [ix1e, nI_clamp (by omega)]
/-- a lord is set -/
theorem sLo_n {i : Nat} (hi : i < 100) (v : Int32) : sLo Q (nI i) v = upd Q (4 + 5 * i + 4) v := by
  show upd Q ((4 : Int32) + 5 * nI i + nI 4).toNatClampNeg v = _
  rw [ix1v hi (by omega)]
theorem kp_set {k : Nat} {v : Int32} (hk : k < 40) (h : ∀ i, i < 40 → kPt S Q a i) : ∀ i, i < 40 → kPt (uL S (upd (sL S) k v)) (upd Q (4 + 5 * k + 4) v) a i := by
  intro i hi
  by_cases e : i = k
  · subst e
    rcases h i hi with ⟨h1, h2⟩ | ⟨h1, h2, x, y, w, d1, d2, d3, d4, d5, d6, d7, d8, d9, d10, d11⟩
    · exact Or.inl ⟨h1, fun h => by rw [pk_un (by omega)]; exact h2 h⟩
    · exact Or.inr ⟨h1, by rw [pk_un (by omega)]; exact h2, x, y, w, d1, d2, d3, d4, d5, d6, d7, by rw [pk_un (by omega)]; exact d8, by rw [pk_un (by omega)]; exact d9, by rw [pk_un (by omega)]; exact d10, by rw [pk_us]; exact pk_us.symm⟩
  · exact kPt_c (S := S) (R := Q) rfl rfl rfl (pk_un e) (fun j h1 h2 => pk_un (by omega)) (h i hi)
theorem kp_setN {k : Nat} {v : Int32} (h0 : pEx S (nI k) = false) (h : ∀ i, i < 40 → kPt S Q a i) : ∀ i, i < 40 → kPt S (upd Q (4 + 5 * k + 4) v) a i := by
  intro i hi
  by_cases e : i = k
  · subst e
    rcases h i hi with ⟨h1, h2⟩ | ⟨h1, h2, x, y, w, h3⟩
    · exact Or.inl ⟨h1, fun h => by rw [pk_un (by omega)]; exact h2 h⟩
    · rw [pEx_n hi, h3.2.2.2.2.2.2.1, decide_eq_false (nI_nle (by have := h3.2.2.1; omega) (by have := h3.2.2.2.1; omega))] at h0
      exact absurd h0 (by decide)
  · exact kPt_c rfl rfl rfl rfl (fun j h1 h2 => pk_un (by omega)) (h i hi)
/-- lords in a range change, in the class; in the reference, row by row, under a test that is the same where a point stands -/
theorem kp_chl (ha : a ≤ 40) (hp : ∀ i, i < 40 → kPt S R a i) (fr to l t r b : Int32) (G : Nat → FI) (c : FI → Nat → Bool) (hG0 : G 0 = R) (hG : ∀ k, G (k + 1) = if c (G k) k then sLo (G k) (nI k) to else G k)
    (hc : ∀ (F Q : FI) (k : Nat), k < a → (∀ j, (j < 4 ∨ 204 ≤ j) → Q j = R j) → (∀ i, i < 40 → kPt (uL S F) Q a i) → pEx S (nI k) = true → c Q k = (pLies S (nI k) l t r b && decide (F k = fr))) :
    (∀ i, i < 40 → kPt (uL S (pChl S fr to l t r b 40)) (G a) a i) ∧ ∀ j, (j < 4 ∨ 204 ≤ j) → G a j = R j := by
  refine fldR (pChl S fr to l t r b) G (fun k F => if pLies S (nI k) l t r b && decide (F (nI k).toNatClampNeg = fr) then upd F (nI k).toNatClampNeg to else F) (fun k Q => if c Q k then sLo Q (nI k) to else Q) (fun F Q => (∀ i, i < 40 → kPt (uL S F) Q a i) ∧ ∀ j, (j < 4 ∨ 204 ≤ j) → Q j = R j) 40 a ha ⟨by rw [hG0]; exact hp, fun j _ => by rw [hG0]⟩ (fun _ => rfl) hG ?_ ?_
  · intro k F Q hk e
    have hk4 : k < 40 := by omega
    obtain ⟨h1, h2⟩ := e
    rw [nI_clamp (by omega)]
    cases he : pEx S (nI k) with
    | false =>
      have hl : pLies S (nI k) l t r b = false := by rw [pLies, he]; rfl
      rw [hl]
      simp only [Bool.false_and, Bool.false_eq_true, if_false]
      split
      · rw [sLo_n (by omega)]
        exact ⟨kp_setN (S := uL S F) he h1, fun j hj => by rw [pk_un (by omega)]; exact h2 j hj⟩
      · exact ⟨h1, h2⟩
    | true =>
      rw [hc F Q k hk h2 h1 he]
      split
      · rw [sLo_n (by omega)]
        exact ⟨kp_set (S := uL S F) hk4 h1, fun j hj => by rw [pk_un (by omega)]; exact h2 j hj⟩
      · exact ⟨h1, h2⟩
  · intro k F h1 h2
    rw [pLies, kp_no hp h2 h1]
    simp
/-! the actions on points, the crowd and the tithe, before the splits -/
theorem kU_crowd (h : kFull S R a f) (v : Int32) : kFull (uCr S v) (upd R 0 v) a f ∧ kHi R (upd R 0 v) := by
  refine ⟨kFull_p h ?_ (fun i hi => kPt_c (S := S) (R := R) rfl rfl rfl rfl (fun j h1 h2 => pk_un (by omega)) (kF_pts h i hi)) rfl rfl rfl rfl (fun j h1 h2 => pk_un (by omega)), kHi_u kHi_r (by omega)⟩
  obtain ⟨b1, b2, b3, b4, b5, b6, b7, b8, b9, b10⟩ := h.1.1
  exact ⟨b1, b2, b3, pk_us, (pk_un (by omega)).trans b5, (pk_un (by omega)).trans b6, b7, (pk_un (by omega)).trans b8, b9, b10⟩
theorem kU_tithe (h : kFull S R a f) {v : Int32} (hv : btw v 1 9 = true) : kFull (uTi S v) (upd R 1 v) a f ∧ kHi R (upd R 1 v) := by
  have hv2 : ∃ t : Nat, 1 ≤ t ∧ t ≤ 9 ∧ v = nI t := by
    simp [btw] at hv
    have a1 := Int32.le_iff_toInt_le.mp hv.1
    have a2 := Int32.le_iff_toInt_le.mp hv.2
    have e1 : (1 : Int32).toInt = 1 := by decide
    have e2 : (9 : Int32).toInt = 9 := by decide
    refine ⟨v.toInt.toNat, by omega, by omega, Int32.toInt_inj.mp ?_⟩
    rw [nI_toInt (by omega)]; omega
  refine ⟨kFull_p h ?_ (fun i hi => kPt_c (S := S) (R := R) rfl rfl rfl rfl (fun j h1 h2 => pk_un (by omega)) (kF_pts h i hi)) rfl rfl rfl rfl (fun j h1 h2 => pk_un (by omega)), kHi_u kHi_r (by omega)⟩
  obtain ⟨b1, b2, b3, b4, b5, b6, b7, b8, b9, b10⟩ := h.1.1
  exact ⟨b1, b2, b3, (pk_un (by omega)).trans b4, pk_us, (pk_un (by omega)).trans b6, b7, (pk_un (by omega)).trans b8, b9, hv2⟩
theorem kU_remove (h : kFull S R a f) {i : Int32} (hi : pEx S i = true) : kFull (uW S (pSetAt S (sW S) i 0)) (upd R (4 + 5 * i + 3).toNatClampNeg 0) a f ∧ kHi R (upd R (4 + 5 * i + 3).toNatClampNeg 0) := by
  obtain ⟨k, hk, rfl⟩ := vp_in_of (pEx_in hi) (by decide)
  rw [pSetAt, if_pos hi, nI_clamp (by omega), show ((4 : Int32) + 5 * nI k + 3).toNatClampNeg = 4 + 5 * k + 3 from ix1v (w := 3) (by omega) (by omega)]
  refine ⟨kFull_p h ?_ (fun i hi2 => ?_) rfl rfl rfl rfl (fun j h1 h2 => pk_un (by omega)), kHi_u kHi_r (by omega)⟩
  · obtain ⟨b1, b2, b3, b4, b5, b6, b7, b8, b9, b10⟩ := h.1.1
    exact ⟨b1, b2, b3, (pk_un (by omega)).trans b4, (pk_un (by omega)).trans b5, (pk_un (by omega)).trans b6, b7, (pk_un (by omega)).trans b8, b9, b10⟩
  · by_cases e : i = k
    · subst e
      exact Or.inl ⟨pk_us, fun _ => by rw [pk_us]; decide⟩
    · exact kPt_c (S := S) (R := R) (pk_un e) rfl rfl rfl (fun j h1 h2 => pk_un (by omega)) (kF_pts h i hi2)
theorem mAt_c (hf : f ≤ 40) (h3 : R 3 = nI f) (hv : ∀ j, (j = 3 ∨ 204 ≤ j) → Q j = R j) (x y : Int32) : mAt Q f x y = mAt R f x y := by
  rw [mAt, mAt]
  refine fnd_eq (Nat.le_refl _) (fun k hk => ?_) (fun k h1 h2 => absurd h1 (by omega))
  have hk4 : k < 40 := by omega
  rw [mTou, mTou, mSd, mSd, iR_n (f := f) (by omega) (by omega) (by rw [hv 3 (Or.inl rfl)]; exact h3), iR_n (f := f) (by omega) (by omega) h3, qA_1 (by omega), qA_1 (by omega), qA_2 (by omega), qA_2 (by omega), qA_3 (by omega), qA_3 (by omega), hv _ (Or.inr (by omega)), hv _ (Or.inr (by omega)), hv _ (Or.inr (by omega)), hv _ (Or.inr (by omega))]
theorem kU_add (h : kFull S R a f) (ha : a < 40) {x y w : Nat} (hx : x < 64) (hy : y < 64) (hw : 1 ≤ w) (hw2 : w ≤ 100) :
    kFull (uL (uW (uY (uX (uAd S (pAd1 S)) (pPut S (sX S) (nI x))) (pPut S (sY S) (nI y))) (pPut S (sW S) (nI w))) (pPut S (sL S) (rAt S (nI x) (nI y)))) (maR R f (nI x) (nI y) (nI w)) (a + 1) f ∧ kHi R (maR R f (nI x) (nI y) (nI w)) := by
  have hroom : pRoom S = true := by
    rw [pRoom, kF_ad h, show btw (nI a) 0 39 = decide (0 ≤ a ∧ a ≤ 39) from btw_n (lo := 0) (hi := 39) (by omega) (by omega) (by omega)]
    exact decide_eq_true (by omega)
  have hcl : (sAd S).toNatClampNeg = a := by rw [kF_ad h, nI_clamp (by omega)]
  have e0 : ∀ w : Nat, w < 10 → ((4 : Int32) + 5 * R 2 + nI w).toNatClampNeg = 4 + 5 * a + w := fun w hw => by rw [kF_2 h, ix1v (by omega) hw]
  have hP : maP R (R 2) (nI x) (nI y) (nI w) = upd (upd (upd (upd (upd R 2 (nI (a + 1))) (4 + 5 * a) (nI x)) (4 + 5 * a + 1) (nI y)) (4 + 5 * a + 2) (nI w)) (4 + 5 * a + 3) 1 := by
    rw [maP, show ((4 : Int32) + 5 * R 2 + 0).toNatClampNeg = 4 + 5 * a from e0 0 (by omega), show ((4 : Int32) + 5 * R 2 + 1).toNatClampNeg = 4 + 5 * a + 1 from e0 1 (by omega), show ((4 : Int32) + 5 * R 2 + 2).toNatClampNeg = 4 + 5 * a + 2 from e0 2 (by omega), show ((4 : Int32) + 5 * R 2 + 3).toNatClampNeg = 4 + 5 * a + 3 from e0 3 (by omega), kF_2 h, nI_1]
  have hat : mAt (maP R (R 2) (nI x) (nI y) (nI w)) f (nI x) (nI y) = rAt S (nI x) (nI y) := by
    rw [kF_at h hx hy]
    exact mAt_c (kF_f h) (kF_3 h) (fun j hj => by rw [hP, pk_un (by omega), pk_un (by omega), pk_un (by omega), pk_un (by omega), pk_un (by omega)]) _ _
  have hR : maR R f (nI x) (nI y) (nI w) = upd (upd (upd (upd (upd (upd R 2 (nI (a + 1))) (4 + 5 * a) (nI x)) (4 + 5 * a + 1) (nI y)) (4 + 5 * a + 2) (nI w)) (4 + 5 * a + 3) 1) (4 + 5 * a + 4) (rAt S (nI x) (nI y)) := by
    rw [maR, hat, hP, kF_2 h, sLo_n (by omega)]
  have hv : ∀ j, (j < 2 ∨ j = 3 ∨ (4 ≤ j ∧ (j < 4 + 5 * a ∨ 9 + 5 * a ≤ j))) → maR R f (nI x) (nI y) (nI w) j = R j := fun j hj => by
    rw [hR, pk_un (by omega), pk_un (by omega), pk_un (by omega), pk_un (by omega), pk_un (by omega), pk_un (by omega)]
  rw [pAd1, if_pos hroom, pPut, if_pos hroom, pPut, if_pos hroom, pPut, if_pos hroom, pPut, if_pos hroom, hcl]
  obtain ⟨b1, b2, b3, b4, b5, b6, b7, b8, b9, b10⟩ := h.1.1
  refine ⟨⟨⟨⟨by omega, b2, b3, (hv 0 (by omega)).trans b4, (hv 1 (by omega)).trans b5, ?_, ?_, (hv 3 (by omega)).trans b8, b9, b10⟩, fun i hi => ?_, fun p hp1 hp2 => ?_, ?_⟩, ?_, ?_⟩, fun j hj => hv j (by omega)⟩
  · rw [hR, pk_un (by omega), pk_un (by omega), pk_un (by omega), pk_un (by omega), pk_un (by omega), pk_us]
  · show sAd S + 1 = _
    rw [b7]; exact nI_1 a
  · by_cases e : i = a
    · subst e
      refine Or.inr ⟨by omega, ?_, x, y, w, hx, hy, hw, hw2, pk_us, pk_us, pk_us, ?_, ?_, ?_, ?_⟩
      · rw [hR, pk_un (by omega), pk_us]
      · rw [hR, pk_un (by omega), pk_un (by omega), pk_un (by omega), pk_un (by omega), pk_us]
      · rw [hR, pk_un (by omega), pk_un (by omega), pk_un (by omega), pk_us]
      · rw [hR, pk_un (by omega), pk_un (by omega), pk_us]
      · rw [hR, pk_us]; exact pk_us.symm
    · have := kPt_c (S := S) (R := R) (S' := (uL (uW (uY (uX (uAd S (sAd S + 1)) (upd (sX S) a (nI x))) (upd (sY S) a (nI y))) (upd (sW S) a (nI w))) (upd (sL S) a (rAt S (nI x) (nI y))))) (Q := maR R f (nI x) (nI y) (nI w)) (pk_un e) (pk_un e) (pk_un e) (pk_un e) (fun j h1 h2 => hv j (by omega)) (kF_pts h i hi)
      rcases this with ⟨h1, h2⟩ | ⟨h1, h2⟩
      · exact Or.inl ⟨h1, fun h3 => h2 (by omega)⟩
      · exact Or.inr ⟨by omega, h2⟩
  · exact kPa_c (S := S) (R := R) rfl rfl rfl (fun j h1 h2 => hv j (by omega)) Iff.rfl (h.1.2.2.1 p hp1 hp2)
  · exact kDeb_c (S := S) (R := R) (fun _ _ => rfl) (fun j h1 h2 => hv j (by omega)) (Nat.le_refl _) h.1.2.2.2
  · exact kCov_c (S := S) rfl rfl rfl h.2.1
  · exact kDis_c (S := S) rfl rfl rfl h.2.2
theorem kU_move (h : kFull S R a f) {k x y : Nat} (hk : k < 40) (hi : pEx S (nI k) = true) (hx : x < 64) (hy : y < 64) :
    (kFull (uL (uY (uX S (pSetAt S (sX S) (nI k) (nI x))) (pSetAt S (sY S) (nI k) (nI y))) (mvL S (nI k) (nI x) (nI y))) (mmR R f (nI k) (nI x) (nI y)) a f ∧ kHi R (mmR R f (nI k) (nI x) (nI y))) ∧ mvR S (nI k) (nI x) (nI y) = !decide (mmNx R f (nI k) (nI x) (nI y) = oP R (nI k) 4) := by
  have e0 : ((4 : Int32) + 5 * nI k + 0).toNatClampNeg = 4 + 5 * k := ix1v (w := 0) (by omega) (by omega)
  have e1 : ((4 : Int32) + 5 * nI k + 1).toNatClampNeg = 4 + 5 * k + 1 := ix1v (w := 1) (by omega) (by omega)
  have hka := (kF_pd h hk hi).1
  have hmv : mvL S (nI k) (nI x) (nI y) = upd (sL S) k (mmNx R f (nI k) (nI x) (nI y)) := by
    have hl : oP R (nI k) 4 = sL S k := by rw [← kp_lo2 h hk hi, kp_lo hk hi]
    rw [mvL, mmNx, kp_lo hk hi, hl, kF_ar h hk hi, e0, e1]
    by_cases ho : sL S k = mAr R f (nI k)
    · rw [if_pos ho, if_pos ho, pSetAt, if_pos hi, nI_clamp (by omega), mAt_c (kF_f h) (kF_3 h) (fun j hj => by rw [pk_un (by omega), pk_un (by omega)]), ← kF_at h hx hy]
      congr 1
      have hi2 : pEx (uY (uX S (pSetAt S (sX S) (nI k) (nI x))) (pSetAt S (sY S) (nI k) (nI y))) (nI k) = true := hi
      rw [aAr, pXof, pYof, if_pos hi2, if_pos hi2, nI_clamp (by omega), pSetAt, if_pos hi, pSetAt, if_pos hi, nI_clamp (by omega), show sX (uY (uX S (upd (sX S) k (nI x))) (upd (sY S) k (nI y))) k = nI x from pk_us, show sY (uY (uX S (upd (sX S) k (nI x))) (upd (sY S) k (nI y))) k = nI y from pk_us]
      exact rAt_c rfl rfl rfl _ _
    · rw [if_neg ho, if_neg ho]
      funext j
      by_cases e : j = k
      · subst e; rw [pk_us]
      · rw [pk_un e]
  constructor
  · rw [hmv, mmR, sLo_n (by omega), e0, e1, pSetAt, if_pos hi, pSetAt, if_pos hi, nI_clamp (by omega)]
    generalize mmNx R f (nI k) (nI x) (nI y) = N
    have hv : ∀ j, (j < 4 + 5 * k ∨ 9 + 5 * k ≤ j) → upd (upd (upd R (4 + 5 * k) (nI x)) (4 + 5 * k + 1) (nI y)) (4 + 5 * k + 4) N j = R j := fun j hj => by
      rw [pk_un (by omega), pk_un (by omega), pk_un (by omega)]
    obtain ⟨b1, b2, b3, b4, b5, b6, b7, b8, b9, b10⟩ := h.1.1
    refine ⟨kFull_p h ⟨b1, b2, b3, (hv 0 (by omega)).trans b4, (hv 1 (by omega)).trans b5, (hv 2 (by omega)).trans b6, b7, (hv 3 (by omega)).trans b8, b9, b10⟩ (fun i hi2 => ?_) rfl rfl rfl rfl (fun j h1 h2 => hv j (by omega)), fun j hj => hv j (by omega)⟩
    by_cases e : i = k
    · subst e
      obtain ⟨-, h1, x0, y0, w, d1, d2, d3, d4, d5, d6, d7, d8, d9, d10, d11⟩ := kF_pd h hk hi
      refine Or.inr ⟨hka, by rw [pk_un (by omega), pk_un (by omega), pk_un (by omega)]; exact h1, x, y, w, hx, hy, d3, d4, pk_us, pk_us, d7, ?_, ?_, ?_, ?_⟩
      · rw [pk_un (by omega), pk_un (by omega), pk_us]
      · rw [pk_un (by omega), pk_us]
      · rw [pk_un (by omega), pk_un (by omega), pk_un (by omega)]; exact d10
      · rw [pk_us]; exact pk_us.symm
    · exact kPt_c (S := S) (R := R) rfl (pk_un e) (pk_un e) (pk_un e) (fun j h1 h2 => hv j (by omega)) (kF_pts h i hi2)
  · have hi2 : pEx (uL S (mvL S (nI k) (nI x) (nI y))) (nI k) = true := hi
    rw [mvR, kp_lo2 h hk hi, pLof, if_pos hi2, nI_clamp (by omega), hmv, show sL (uL S (upd (sL S) k (mmNx R f (nI k) (nI x) (nI y)))) k = mmNx R f (nI k) (nI x) (nI y) from pk_us]
end KU
