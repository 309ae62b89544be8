/-! the two sides change alike: splits -/
theorem quD : ∀ s, s < 4 → 64 / 2 ^ s = 2 * (64 / 2 ^ (s + 1)) ∧ (64 / 2 ^ (s + 1) = 32 ∨ 64 / 2 ^ (s + 1) = 16 ∨ 64 / 2 ^ (s + 1) = 8 ∨ 64 / 2 ^ (s + 1) = 4) := by decide +kernel
theorem quC {l t s q : Nat} (h : kCel l t s) (hs : s < 4) (hq : q < 4) : kCel (l + 64 / 2 ^ (s + 1) * (q % 2)) (t + 64 / 2 ^ (s + 1) * (q / 2)) (s + 1) := by
  obtain ⟨e1, e2⟩ := quD s hs
  have hi := kCel_in h
  obtain ⟨h1, h2, h3, h4, h5⟩ := h
  rw [e1] at h4 h5 hi
  refine ⟨by omega, ?_, ?_, ?_, ?_⟩ <;> generalize 64 / 2 ^ (s + 1) = d at * <;> (rcases (show q = 0 ∨ q = 1 ∨ q = 2 ∨ q = 3 by omega) with rfl | rfl | rfl | rfl) <;> (rcases e2 with rfl | rfl | rfl | rfl) <;> omega
theorem quI {l t s x y : Nat} (hs : s < 4) (h : kIn l t s x y) : ∃ q, q < 4 ∧ kIn (l + 64 / 2 ^ (s + 1) * (q % 2)) (t + 64 / 2 ^ (s + 1) * (q / 2)) (s + 1) x y := by
  obtain ⟨e1, -⟩ := quD s hs
  rw [kIn, e1] at h
  simp only [kIn]
  generalize 64 / 2 ^ (s + 1) = d at *
  by_cases hx : x < l + d
  · by_cases hy : y < t + d
    · exact ⟨0, by omega, by omega⟩
    · exact ⟨2, by omega, by omega⟩
  · by_cases hy : y < t + d
    · exact ⟨1, by omega, by omega⟩
    · exact ⟨3, by omega, by omega⟩
theorem quO {l t s x y q : Nat} (hs : s < 4) (hq : q < 4) (h : kIn (l + 64 / 2 ^ (s + 1) * (q % 2)) (t + 64 / 2 ^ (s + 1) * (q / 2)) (s + 1) x y) : kIn l t s x y := by
  obtain ⟨e1, -⟩ := quD s hs
  rw [kIn, e1]
  simp only [kIn] at h
  generalize 64 / 2 ^ (s + 1) = d at *
  rcases (show q = 0 ∨ q = 1 ∨ q = 2 ∨ q = 3 by omega) with rfl | rfl | rfl | rfl <;> omega
theorem quU {l t s x y q q' : Nat} (hs : s < 4) (hq : q < 4) (hq' : q' < 4) (h : kIn (l + 64 / 2 ^ (s + 1) * (q % 2)) (t + 64 / 2 ^ (s + 1) * (q / 2)) (s + 1) x y) (h' : kIn (l + 64 / 2 ^ (s + 1) * (q' % 2)) (t + 64 / 2 ^ (s + 1) * (q' / 2)) (s + 1) x y) : q = q' := by
  simp only [kIn] at h h'
  generalize 64 / 2 ^ (s + 1) = d at *
  rcases (show q = 0 ∨ q = 1 ∨ q = 2 ∨ q = 3 by omega) with rfl | rfl | rfl | rfl <;> rcases (show q' = 0 ∨ q' = 1 ∨ q' = 2 ∨ q' = 3 by omega) with rfl | rfl | rfl | rfl <;> omega
theorem quMx {x d q : Nat} (hq : q < 4) : mQx (nI x) (nI d) (nI q) = nI (x + d * (q % 2)) ∧ mQy (nI x) (nI d) (nI q) = nI (x + d * (q / 2)) ∧ qLef (nI x) (nI d) (nI q) = nI (x + d * (q % 2)) ∧ qTop (nI x) (nI d) (nI q) = nI (x + d * (q / 2)) := by
  refine ⟨?_, ?_, ?_, ?_⟩
  · rw [mQx, (quM q hq).1, pk_mul, nI_add]
  · rw [mQy, (quM q hq).2, pk_mul, nI_add]
  · rw [qLef, (quA q hq).1, pk_mul, nI_add, Nat.mul_comm]
  · rw [qTop, (quA q hq).2, pk_mul, nI_add, Nat.mul_comm]
theorem sPa_n {Q : FI} {r : Nat} (hr : r < 100) (x y s : Int32) : sPa Q (nI r) x y s = upd (upd (upd (upd Q (204 + 4 * r) 1) (204 + 4 * r + 1) x) (204 + 4 * r + 2) y) (204 + 4 * r + 3) s := by
  have e : ∀ w : Nat, w < 10 → ((204 : Int32) + 4 * nI r + nI w).toNatClampNeg = 204 + 4 * r + w := fun w hw => by rw [ix2e, nI_clamp (by omega)]
  have e0 : ((204 : Int32) + 4 * nI r).toNatClampNeg = 204 + 4 * r := by
    rw [show (4 : Int32) = nI 4 from rfl, show (204 : Int32) = nI 204 from rfl, pk_mul, nI_add, nI_clamp (by omega)]
  rw [sPa, e0, show ((204 : Int32) + 4 * nI r + 1).toNatClampNeg = 204 + 4 * r + 1 from e 1 (by omega), show ((204 : Int32) + 4 * nI r + 2).toNatClampNeg = 204 + 4 * r + 2 from e 2 (by omega), show ((204 : Int32) + 4 * nI r + 3).toNatClampNeg = 204 + 4 * r + 3 from e 3 (by omega)]
theorem oW_n {Q : FI} {p c : Nat} (hp : p < 100) (hc : c < 100) (v : Int32) : oW Q (nI p) (nI c) v = upd Q (364 + 40 * p + c) (Q (364 + 40 * p + c) + v) := by
  have e : ((364 : Int32) + 40 * nI p + nI c).toNatClampNeg = 364 + 40 * p + c := by rw [ix3e, nI_clamp (by omega)]
  rw [oW, e]
theorem dCh_n {g : FI} {p c : Nat} (hp : p < 40) (hc : c < 40) (v : Int32) : dCh g (nI p) (nI c) v = upd g (40 * p + c) (g (40 * p + c) + v) := by
  have e : ∀ j : Nat, j < 40 → decide (nI j < 0) = false ∧ decide ((40 : Int32) ≤ nI j) = false := fun j hj => ⟨decide_eq_false (nI_pos (by omega)), decide_eq_false (nI_ge (a := j) (b := 40) hj (by decide))⟩
  have hk : dOk (nI p) (nI c) = true := by rw [dOk, (e p hp).1, (e p hp).2, (e c hc).1, (e c hc).2]; rfl
  rw [dCh, if_pos hk, show nI p * 40 + nI c = nI (40 * p + c) from by rw [show (40 : Int32) = nI 40 from rfl, pk_mul, nI_add, Nat.mul_comm], nI_clamp (by omega)]
theorem rGiv_n {g : FI} {f : Nat} (hf : f < 40) (v : Int32) : rGiv g (nI f) v = upd g f v := by
  rw [rGiv, show btw (nI f) 0 39 = decide (0 ≤ f ∧ f ≤ 39) from btw_n (lo := 0) (hi := 39) (by omega) (by omega) (by omega), decide_eq_true (show 0 ≤ f ∧ f ≤ 39 by omega), if_pos rfl, nI_clamp (by omega)]
theorem rRi_v {S : CS} {k X s : Nat} (hk : k < 40) (h1 : sLe S k = nI X) (h2 : sSc S k = nI s) (hs : s ≤ 4) : rRi S (nI k) = nI (X + 64 / 2 ^ s - 1) := by
  have he : rEx S (nI k) = true := by rw [rEx_n hk, h2, decide_eq_false (nI_nm1 (by omega))]; rfl
  have := sd_le hs
  rw [rRi, rLe, if_pos he, rSc, if_pos he, nI_clamp (by omega), h1, h2, sideF_n hs, nI_add, show (1 : Int32) = nI 1 from rfl, pk_sub (by omega)]
theorem rBo_v {S : CS} {k X s : Nat} (hk : k < 40) (h1 : sTo S k = nI X) (h2 : sSc S k = nI s) (hs : s ≤ 4) : rBo S (nI k) = nI (X + 64 / 2 ^ s - 1) := by
  have he : rEx S (nI k) = true := by rw [rEx_n hk, h2, decide_eq_false (nI_nm1 (by omega))]; rfl
  have := sd_le hs
  rw [rBo, rTo, if_pos he, rSc, if_pos he, nI_clamp (by omega), h1, h2, sideF_n hs, nI_add, show (1 : Int32) = nI 1 from rfl, pk_sub (by omega)]
section KS
variable {S : CS} {R : FI} {a f : Nat}
theorem k_found {p X Y s : Nat} (h : kCore S R a f p 40) (hf : f < 40) (hp : p < f) (hc : kCel X Y s) :
    kCore (fnS S (nI X) (nI Y) (nI s) (nI p)) (fou R a (nI p) (nI X) (nI Y) (nI s)) a (f + 1) p 40 ∧ kHi R (fou R a (nI p) (nI X) (nI Y) (nI s)) ∧
    (∀ r, r ≠ f → sLe (fnS S (nI X) (nI Y) (nI s) (nI p)) r = sLe S r ∧ sTo (fnS S (nI X) (nI Y) (nI s) (nI p)) r = sTo S r ∧ sSc (fnS S (nI X) (nI Y) (nI s) (nI p)) r = sSc S r) ∧
    kCl (fnS S (nI X) (nI Y) (nI s) (nI p)) f X Y s ∧ (∀ j, 204 + 4 * p ≤ j → j < 208 + 4 * p → fou R a (nI p) (nI X) (nI Y) (nI s) j = R j) := by
  obtain ⟨⟨b1, b2, b3, b4, b5, b6, b7, b8, b9, t0, b10, b11, b12⟩, hpt, hpa, hd1, hd2, hd3⟩ := h
  have hsd := sd_le hc.1
  have hc2 := hc.2.1
  have hc3 := hc.2.2.1
  have hroom : rRoom S = true := by
    rw [rRoom, b9, show btw (nI f) 0 39 = decide (0 ≤ f ∧ f ≤ 39) from btw_n (lo := 0) (hi := 39) (by omega) (by omega) (by omega)]
    exact decide_eq_true (by omega)
  have hfo : rFo1 S = nI (f + 1) := by rw [rFo1, if_pos hroom, b9, nI_1]
  have hfp : fnP S = nI f := by rw [fnP, if_pos hroom, b9]
  have hri : fnRi S (nI X) (nI s) = nI (X + 64 / 2 ^ s - 1) := by
    rw [fnRi, hfp, b9, rGiv_n hf, rGiv_n hf]
    exact rRi_v hf pk_us pk_us hc.1
  have hbo : fnBo S (nI Y) (nI s) = nI (Y + 64 / 2 ^ s - 1) := by
    rw [fnBo, hfp, b9, rGiv_n hf, rGiv_n hf]
    exact rBo_v hf pk_us pk_us hc.1
  obtain ⟨R1, hR1⟩ : ∃ z, z = fouA R (nI X) (nI Y) (nI s) := ⟨_, rfl⟩
  have hR1e : R1 = upd (upd (upd (upd (upd R 3 (nI (f + 1))) (204 + 4 * f) 1) (204 + 4 * f + 1) (nI X)) (204 + 4 * f + 2) (nI Y)) (204 + 4 * f + 3) (nI s) := by
    rw [hR1, fouA, b8, sPa_n (by omega), nI_1]
  have v1 : ∀ j, j ≠ 3 → (j < 204 + 4 * f ∨ 208 + 4 * f ≤ j) → R1 j = R j := fun j h1 h2 => by
    rw [hR1e, pk_un (by omega), pk_un (by omega), pk_un (by omega), pk_un (by omega), pk_un (by omega)]
  have hpt1 : ∀ i, i < 40 → kPt S R1 a i := fun i hi => kPt_c rfl rfl rfl rfl (fun j h1 h2 => v1 j (by omega) (by omega)) (hpt i hi)
  obtain ⟨nn, hnn⟩ : ∃ z, z = pNum S (nI X) (nI Y) (nI (X + 64 / 2 ^ s - 1)) (nI (Y + 64 / 2 ^ s - 1)) 40 := ⟨_, rfl⟩
  have hsX : (nI X : Int32) + nI (64 / 2 ^ s) - 1 = nI (X + 64 / 2 ^ s - 1) := by rw [nI_add, show (1 : Int32) = nI 1 from rfl, pk_sub (by omega)]
  have hsY : (nI Y : Int32) + nI (64 / 2 ^ s) - 1 = nI (Y + 64 / 2 ^ s - 1) := by rw [nI_add, show (1 : Int32) = nI 1 from rfl, pk_sub (by omega)]
  have hfn : fouN R a (nI X) (nI Y) (nI s) = nn := by
    rw [fouN, ← hR1, mCe, shF_n hc.1, hsX, hsY, hnn, kp_num b1 ((v1 2 (by omega) (by omega)).trans b6) hpt1]
  have hto : tOf S nn = (nn + R1 1 - 1) / R1 1 := by
    rw [tOf, v1 1 (by omega) (by omega), b5, if_neg (by rw [b12]; exact nI_nle (by omega) (by omega))]
  obtain ⟨tv, htv⟩ : ∃ z, z = tOf S nn := ⟨_, rfl⟩
  obtain ⟨R2, hR2⟩ : ∃ z, z = fouB R a (nI p) (nI X) (nI Y) (nI s) := ⟨_, rfl⟩
  have hR2e : R2 = upd R1 (364 + 40 * f + p) (R (364 + 40 * f + p) + tv) := by
    rw [hR2, fouB, ← hR1, hfn, ← hto, ← htv, b8, oW_n (by omega) (by omega), v1 _ (by omega) (by omega)]
  have v2 : ∀ j, j ≠ 364 + 40 * f + p → R2 j = R1 j := fun j h1 => by rw [hR2e, pk_un h1]
  have hpt2 : ∀ i, i < 40 → kPt S R2 a i := fun i hi => kPt_c rfl rfl rfl rfl (fun j h1 h2 => v2 j (by omega)) (hpt1 i hi)
  have hR22 : R2 2 = nI a := (v2 2 (by omega)).trans ((v1 2 (by omega) (by omega)).trans b6)
  -- the lords
  have hlo := kp_chl (S := S) (R := R2) (a := a) b1 hpt2 (nI p) (nI f) (nI X) (nI Y) (nI (X + 64 / 2 ^ s - 1)) (nI (Y + 64 / 2 ^ s - 1)) (foL R2 (nI p) (nI f) (nI X) (nI Y) (nI (64 / 2 ^ s))) (fun Q k => iP Q (nI k) && foLi Q (nI X) (nI Y) (nI (64 / 2 ^ s)) (nI k) && decide (oP Q (nI k) 4 = nI p)) rfl (fun _ => rfl) (by
    intro F Q k hk hq hp2 he
    have hk4 : k < 40 := by omega
    have hq2 : Q 2 = nI a := (hq 2 (by omega)).trans hR22
    have e1 := kp_lie (S := uL S F) (R := Q) b1 hq2 hp2 hk4 (nI X) (nI Y) (nI (X + 64 / 2 ^ s - 1)) (nI (Y + 64 / 2 ^ s - 1))
    obtain ⟨-, -, x, y, w, hd⟩ := kp_dat (S := uL S F) (R := Q) hp2 hk4 he
    have e2 : oP Q (nI k) 4 = F k := by rw [oP_4 (by omega), hd.2.2.2.2.2.2.2.2.2.2]
    show (iP Q (nI k) && foLi Q (nI X) (nI Y) (nI (64 / 2 ^ s)) (nI k) && decide (oP Q (nI k) 4 = nI p)) = (pLies (uL S F) (nI k) (nI X) (nI Y) (nI (X + 64 / 2 ^ s - 1)) (nI (Y + 64 / 2 ^ s - 1)) && decide (F k = nI p))
    rw [e1, e2, foLi, hsX, hsY]
    simp only [Bool.and_assoc])
  have hR3 : fou R a (nI p) (nI X) (nI Y) (nI s) = foL R2 (nI p) (nI f) (nI X) (nI Y) (nI (64 / 2 ^ s)) a := by rw [fou, ← hR2, b8, shF_n hc.1]
  rw [hR3]
  obtain ⟨R3, hR3e⟩ : ∃ z, z = foL R2 (nI p) (nI f) (nI X) (nI Y) (nI (64 / 2 ^ s)) a := ⟨_, rfl⟩
  rw [← hR3e] at hlo ⊢
  obtain ⟨hl1, hl2⟩ := hlo
  have hS : fnS S (nI X) (nI Y) (nI s) (nI p) = uL (uD (uSc (uTo (uLe (uFo S (nI (f + 1))) (upd (sLe S) f (nI X))) (upd (sTo S) f (nI Y))) (upd (sSc S) f (nI s))) (upd (sD S) (40 * f + p) (sD S (40 * f + p) + tv))) (pChl S (nI p) (nI f) (nI X) (nI Y) (nI (X + 64 / 2 ^ s - 1)) (nI (Y + 64 / 2 ^ s - 1)) 40) := by
    rw [fnS, hfo, hfp, hri, hbo, b9, rGiv_n hf, rGiv_n hf, rGiv_n hf, ← hnn, ← htv, dCh_n hf (by omega)]
  rw [hS]
  have hRf : ∀ j, (j = 0 ∨ j = 1 ∨ j = 2 ∨ (204 ≤ j ∧ (j < 204 + 4 * f ∨ 208 + 4 * f ≤ j) ∧ j ≠ 364 + 40 * f + p)) → R3 j = R j := fun j hj => by
    rw [hl2 j (by omega), v2 j (by omega), v1 j (by omega) (by omega)]
  have hR1f : ∀ j, 204 ≤ j → j < 364 → R3 j = R1 j := fun j h1 h2 => by rw [hl2 j (by omega), v2 j (by omega)]
  refine ⟨⟨⟨b1, by omega, by omega, (hRf 0 (by omega)).trans b4, (hRf 1 (by omega)).trans b5, (hRf 2 (by omega)).trans b6, b7, ?_, rfl, t0, b10, b11, b12⟩, fun i hi => ?_, fun r hr hrp => ?_, ⟨fun p' c hp' hc' hne => ?_, fun p' hp' => ?_, fun p' c hp1 hp2 hc' => ?_⟩⟩, fun j hj => hRf j (by omega), fun r hr => ⟨pk_un hr, pk_un hr, pk_un hr⟩, ⟨pk_us, pk_us, pk_us, hc⟩, fun j h1 h2 => hRf j (by omega)⟩
  · rw [hl2 3 (by omega), v2 3 (by omega), hR1e, pk_un (by omega), pk_un (by omega), pk_un (by omega), pk_un (by omega), pk_us]
  · exact kPt_c rfl rfl rfl rfl (fun j h1 h2 => rfl) (hl1 i hi)
  · by_cases e : r = f
    · subst e
      refine Or.inr ⟨by omega, ?_, X, Y, s, ⟨pk_us, pk_us, pk_us, hc⟩, ?_, ?_, ?_⟩
      · rw [hR1f _ (by omega) (by omega), hR1e, pk_un (by omega), pk_un (by omega), pk_un (by omega), pk_us]
      · rw [hR1f _ (by omega) (by omega), hR1e, pk_un (by omega), pk_un (by omega), pk_us]
      · rw [hR1f _ (by omega) (by omega), hR1e, pk_un (by omega), pk_us]
      · rw [hR1f _ (by omega) (by omega), hR1e, pk_us]
    · exact kPa_c (pk_un e) (pk_un e) (pk_un e) (fun j h1 h2 => hRf j (by omega)) (by omega) (hpa r hr hrp)
  · by_cases e : 40 * p' + c = 40 * f + p
    · have q1 : p' = f := by omega
      have q2 : c = p := by omega
      subst q1; subst q2
      show upd (sD S) _ _ _ = _
      rw [pk_us, hl2 _ (by omega), hR2e, pk_us, hd1 p' c hp' hc' hne]
    · show upd (sD S) _ _ _ = _
      rw [pk_un e, hRf _ (by omega)]; exact hd1 p' c hp' hc' hne
  · show upd (sD S) _ _ _ = _
    rw [pk_un (by omega)]; exact hd2 p' hp'
  · show upd (sD S) _ _ _ = _
    rw [pk_un (by omega)]; exact hd3 p' c (by omega) hp2 hc'
theorem k_fq (h : kFull S R a f) (l t d : Nat) (hd : 1 ≤ d) : fQ S (nI l) (nI t) (nI d) 4 = mFq R a (nI l) (nI t) (nI d) 4 ∧ ∃ e, e < 4 ∧ (fQ S (nI l) (nI t) (nI d) 4).1 = nI e := by
  have := fldR (fQ S (nI l) (nI t) (nI d)) (mFq R a (nI l) (nI t) (nI d)) (fun k v => if fQn S (nI l) (nI t) (nI d) (nI k) ≤ v.2 then v else (nI k, fQn S (nI l) (nI t) (nI d) (nI k))) (fun k v => if mFn R a (nI l) (nI t) (nI d) (nI k) ≤ v.2 then v else (nI k, mFn R a (nI l) (nI t) (nI d) (nI k))) (fun v w => v = w ∧ ∃ e, e < 4 ∧ v.1 = nI e) 4 4 (Nat.le_refl _) ⟨rfl, 0, by omega, rfl⟩ (fun _ => rfl) (fun _ => rfl) (fun k v w hk e => by
    obtain ⟨rfl, e2⟩ := e
    have e3 : fQn S (nI l) (nI t) (nI d) (nI k) = mFn R a (nI l) (nI t) (nI d) (nI k) := by
      rw [fQn, mFn, (quMx hk).2.2.1, (quMx hk).2.2.2, (quMx hk).1, (quMx hk).2.1, mCe, kF_num h]
    rw [e3]
    refine ⟨rfl, ?_⟩
    split
    · exact e2
    · exact ⟨k, hk, rfl⟩) (fun k v h1 h2 => absurd h1 (by omega))
  exact ⟨this.1, this.2⟩
def mkk (e k : Nat) : Nat := if k ≤ e then k else k - 1
theorem k_split (h : kFull S R a f) (hf : f < 38) {p l t s : Nat} (hp : p < 40) (hpf : p < f) (hd : kRD S R p l t s) (hs : s < 4) : kFull (splS S (nI p)) (spl R a (nI p)) a (f + 3) ∧ kHi R (spl R a (nI p)) := by
  obtain ⟨-, v1, v2, v3, -, -⟩ := kr_val hp hd.1
  obtain ⟨m1, m2, m3, m4⟩ := kr_mval hp hd
  have hc := hd.1.2.2.2
  obtain ⟨sd1, sd2⟩ := quD s hs
  have c1 : spSc S (nI p) = nI (s + 1) := by rw [spSc, v3, nI_1]
  have c2 : spSd S (nI p) = nI (64 / 2 ^ (s + 1)) := by rw [spSd, c1, sideF_n (by omega)]
  have c3 : spC R (nI p) = nI (s + 1) := by rw [spC, m3, nI_1]
  have c4 : spH R (nI p) = nI (64 / 2 ^ (s + 1)) := by rw [spH, c3, shF_n (by omega)]
  have c5 : spX R (nI p) = nI l := m1
  have c6 : spY R (nI p) = nI t := m2
  obtain ⟨q1, e, he, q2⟩ := k_fq h l t (64 / 2 ^ (s + 1)) (by omega)
  have c7 : spKe S (nI p) = nI e := by rw [spKe, v1, v2, c2]; exact q2
  have c8 : spE R a (nI p) = nI e := by rw [spE, c5, c6, c4, ← q1]; exact q2
  have cX : ∀ q, q < 4 → kCel (l + 64 / 2 ^ (s + 1) * (q % 2)) (t + 64 / 2 ^ (s + 1) * (q / 2)) (s + 1) := fun q hq => quC hc hs hq
  have loop : ∀ k, k ≤ 4 → kCore (spK S (nI p) k) (spq R a (nI p) k) a (f + mkk e k) p 40 ∧ kHi R (spq R a (nI p) k) ∧ (∀ r, r < f → sLe (spK S (nI p) k) r = sLe S r ∧ sTo (spK S (nI p) k) r = sTo S r ∧ sSc (spK S (nI p) k) r = sSc S r) ∧
      (∀ q, q < k → q ≠ e → kCl (spK S (nI p) k) (f + mkk e q) (l + 64 / 2 ^ (s + 1) * (q % 2)) (t + 64 / 2 ^ (s + 1) * (q / 2)) (s + 1)) ∧
      spq R a (nI p) k (204 + 4 * p) = 1 ∧ spq R a (nI p) k (204 + 4 * p + 1) = nI (l + 64 / 2 ^ (s + 1) * (e % 2)) ∧ spq R a (nI p) k (204 + 4 * p + 2) = nI (t + 64 / 2 ^ (s + 1) * (e / 2)) ∧ spq R a (nI p) k (204 + 4 * p + 3) = nI (s + 1) := by
    intro k
    induction k with
    | zero =>
      intro _
      have e0 : spq R a (nI p) 0 = upd (upd (upd (upd R (204 + 4 * p) 1) (204 + 4 * p + 1) (nI (l + 64 / 2 ^ (s + 1) * (e % 2)))) (204 + 4 * p + 2) (nI (t + 64 / 2 ^ (s + 1) * (e / 2)))) (204 + 4 * p + 3) (nI (s + 1)) := by
        rw [spq, c8, c5, c6, c4, c3, (quMx he).1, (quMx he).2.1, sPa_n (by omega)]
      rw [e0]
      have hv : ∀ j, (j < 204 + 4 * p ∨ 208 + 4 * p ≤ j) → upd (upd (upd (upd R (204 + 4 * p) 1) (204 + 4 * p + 1) (nI (l + 64 / 2 ^ (s + 1) * (e % 2)))) (204 + 4 * p + 2) (nI (t + 64 / 2 ^ (s + 1) * (e / 2)))) (204 + 4 * p + 3) (nI (s + 1)) j = R j := fun j hj => by
        rw [pk_un (by omega), pk_un (by omega), pk_un (by omega), pk_un (by omega)]
      obtain ⟨b1, b2, b3, b4, b5, b6, b7, b8, b9, b10⟩ := h.1.1
      refine ⟨⟨⟨b1, b2, b3, (hv 0 (by omega)).trans b4, (hv 1 (by omega)).trans b5, (hv 2 (by omega)).trans b6, b7, (hv 3 (by omega)).trans b8, b9, b10⟩, fun i hi => kPt_c rfl rfl rfl rfl (fun j h1 h2 => hv j (by omega)) (kF_pts h i hi), fun r hr hrp => kPa_c rfl rfl rfl (fun j h1 h2 => hv j (by omega)) Iff.rfl (kF_par h r hr), kDeb_c (fun _ _ => rfl) (fun j h1 h2 => hv j (by omega)) (Nat.le_refl _) h.1.2.2.2⟩, fun j hj => hv j (by omega), fun r hr => ⟨rfl, rfl, rfl⟩, fun q hq => absurd hq (by omega), ?_, ?_, ?_, pk_us⟩
      · rw [pk_un (by omega), pk_un (by omega), pk_un (by omega), pk_us]
      · rw [pk_un (by omega), pk_un (by omega), pk_us]
      · rw [pk_un (by omega), pk_us]
    | succ k ih =>
      intro hk
      obtain ⟨i1, i2, i3, i4, i5, i6, i7, i8⟩ := ih (by omega)
      rw [spK, spq, c7, c8]
      by_cases hke : k = e
      · subst hke
        rw [if_pos rfl, if_pos rfl]
        have hm : mkk k (k + 1) = mkk k k := by simp only [mkk]; split <;> split <;> omega
        rw [hm]
        exact ⟨i1, i2, i3, fun q hq hqe => i4 q (by omega) hqe, i5, i6, i7, i8⟩
      · have hne : ¬ (nI k : Int32) = nI e := fun hh => hke ((nI_eq (by omega) (by omega)).mp hh)
        rw [if_neg hne, if_neg hne, v1, v2, c2, c1, c5, c6, c4, c3, (quMx (by omega)).1, (quMx (by omega)).2.1, (quMx (by omega)).2.2.1, (quMx (by omega)).2.2.2]
        have hm : mkk e (k + 1) = mkk e k + 1 := by simp only [mkk]; split <;> split <;> omega
        have hm2 : mkk e k ≤ 2 := by simp only [mkk]; split <;> omega
        obtain ⟨g1, g2, g3, g4, g5⟩ := k_found (X := l + 64 / 2 ^ (s + 1) * (k % 2)) (Y := t + 64 / 2 ^ (s + 1) * (k / 2)) (s := s + 1) i1 (by omega) (by omega) (cX k (by omega))
        rw [hm]
        refine ⟨g1, kHi_t i2 g2, fun r hr => ?_, fun q hq hqe => ?_, (g5 _ (by omega) (by omega)).trans i5, (g5 _ (by omega) (by omega)).trans i6, (g5 _ (by omega) (by omega)).trans i7, (g5 _ (by omega) (by omega)).trans i8⟩
        · obtain ⟨x1, x2, x3⟩ := g3 r (by omega)
          obtain ⟨y1, y2, y3⟩ := i3 r hr
          exact ⟨x1.trans y1, x2.trans y2, x3.trans y3⟩
        · by_cases hqk : q = k
          · subst hqk; exact g4
          · have hlt : mkk e q < mkk e k := by simp only [mkk]; split <;> split <;> omega
            obtain ⟨x1, x2, x3⟩ := g3 (f + mkk e q) (by omega)
            obtain ⟨y1, y2, y3, y4⟩ := i4 q (by omega) hqe
            exact ⟨x1.trans y1, x2.trans y2, x3.trans y3, y4⟩
  obtain ⟨i1, i2, i3, i4, i5, i6, i7, i8⟩ := loop 4 (Nat.le_refl _)
  have hm : mkk e 4 = 3 := by simp only [mkk]; split <;> omega
  rw [hm] at i1
  have hS : splS S (nI p) = uSc (uTo (uLe (spK S (nI p) 4) (upd (sLe (spK S (nI p) 4)) p (nI (l + 64 / 2 ^ (s + 1) * (e % 2))))) (upd (sTo (spK S (nI p) 4)) p (nI (t + 64 / 2 ^ (s + 1) * (e / 2))))) (upd (sSc (spK S (nI p) 4)) p (nI (s + 1))) := by
    rw [splS, gvS, v1, v2, c2, c1, c7, (quMx he).2.2.1, (quMx he).2.2.2, rGiv_n hp, rGiv_n hp, rGiv_n hp]
  rw [spl]
  obtain ⟨T, hT⟩ : ∃ z, z = spK S (nI p) 4 := ⟨_, rfl⟩
  obtain ⟨Q, hQ⟩ : ∃ z, z = spq R a (nI p) 4 := ⟨_, rfl⟩
  rw [← hT] at hS i1 i3 i4
  rw [← hQ] at i1 i2 i5 i6 i7 i8 ⊢
  obtain ⟨S', hS'⟩ : ∃ z, z = splS S (nI p) := ⟨_, rfl⟩
  rw [← hS'] at hS ⊢
  have w1 : ∀ r, r ≠ p → sLe S' r = sLe T r ∧ sTo S' r = sTo T r ∧ sSc S' r = sSc T r := fun r hr => by
    rw [hS]; exact ⟨pk_un hr, pk_un hr, pk_un hr⟩
  have w2 : kCl S' p (l + 64 / 2 ^ (s + 1) * (e % 2)) (t + 64 / 2 ^ (s + 1) * (e / 2)) (s + 1) := by
    rw [hS]; exact ⟨pk_us, pk_us, pk_us, cX e he⟩
  have hcore : kCore S' Q a (f + 3) 40 40 := by
    obtain ⟨z1, z2, z3, z4⟩ := i1
    refine ⟨by rw [hS]; exact z1, fun i hi => ?_, fun r hr _ => ?_, ?_⟩
    · rw [hS]; exact kPt_c (S := T) (R := Q) rfl rfl rfl rfl (fun _ _ _ => rfl) (z2 i hi)
    · by_cases hrp : r = p
      · subst hrp
        exact Or.inr ⟨by omega, i5, _, _, _, w2, i6, i7, i8⟩
      · obtain ⟨x1, x2, x3⟩ := w1 r hrp
        exact kPa_c x3 x1 x2 (fun _ _ _ => rfl) Iff.rfl (z3 r hr hrp)
    · rw [hS]; exact kDeb_c (S := T) (R := Q) (fun _ _ => rfl) (fun _ _ _ => rfl) (Nat.le_refl _) z4
  -- the cells
  have qi : ∀ q, q < 4 → ∃ r, r < 40 ∧ (r = p ∨ f ≤ r) ∧ kCl S' r (l + 64 / 2 ^ (s + 1) * (q % 2)) (t + 64 / 2 ^ (s + 1) * (q / 2)) (s + 1) := by
    intro q hq
    by_cases hqe : q = e
    · subst hqe; exact ⟨p, hp, Or.inl rfl, w2⟩
    · have hm3 : mkk e q ≤ 2 := by simp only [mkk]; split <;> omega
      obtain ⟨x1, x2, x3⟩ := w1 (f + mkk e q) (by omega)
      obtain ⟨y1, y2, y3, y4⟩ := i4 q hq hqe
      exact ⟨f + mkk e q, by omega, Or.inr (by omega), x1.trans y1, x2.trans y2, x3.trans y3, y4⟩
  have old : ∀ r x y, r < f → r ≠ p → (kInC S' r x y ↔ kInC S r x y) := fun r x y hr hrp => by
    obtain ⟨x1, x2, x3⟩ := w1 r hrp
    obtain ⟨y1, y2, y3⟩ := i3 r hr
    exact kInC_c (x3.trans y3) (x1.trans y1) (x2.trans y2)
  have cls : ∀ r x y, r < 40 → kInC S' r x y → (r < f ∧ r ≠ p ∧ kInC S r x y) ∨ ∃ q, q < 4 ∧ r = (if q = e then p else f + mkk e q) ∧ kIn (l + 64 / 2 ^ (s + 1) * (q % 2)) (t + 64 / 2 ^ (s + 1) * (q / 2)) (s + 1) x y := by
    intro r x y hr hi
    by_cases hrp : r = p
    · subst hrp
      right
      obtain ⟨l', t', s', g1, g2⟩ := hi
      obtain ⟨rfl, rfl, rfl⟩ := kCl_inj w2 g1
      exact ⟨e, he, by rw [if_pos rfl], g2⟩
    · by_cases hrf : r < f
      · exact Or.inl ⟨hrf, hrp, (old r x y hrf hrp).mp hi⟩
      · right
        have hr3 : r < f + 3 := by
          rcases Nat.lt_or_ge r (f + 3) with q | q
          · exact q
          · obtain ⟨l', t', s', g1, -⟩ := hi
            rcases hcore.2.2.1 r hr (by omega) with ⟨g2, -⟩ | ⟨g2, -⟩
            · exact absurd (g1.2.2.1.symm.trans g2) (nI_nm1 (by have := g1.2.2.2.1; omega))
            · omega
        obtain ⟨q, hq, hqe, hrq⟩ : ∃ q, q < 4 ∧ q ≠ e ∧ r = f + mkk e q := by
          by_cases hj : r - f < e
          · exact ⟨r - f, by omega, by omega, by simp only [mkk]; split <;> omega⟩
          · exact ⟨r - f + 1, by omega, by omega, by simp only [mkk]; split <;> omega⟩
        obtain ⟨x1, x2, x3⟩ := w1 r hrp
        obtain ⟨y1, y2, y3, y4⟩ := i4 q hq hqe
        obtain ⟨l', t', s', g1, g2⟩ := hi
        rw [← hrq] at y1 y2 y3
        obtain ⟨rfl, rfl, rfl⟩ := kCl_inj ⟨x1.trans y1, x2.trans y2, x3.trans y3, y4⟩ g1
        exact ⟨q, hq, by rw [if_neg hqe]; exact hrq, g2⟩
  refine ⟨⟨hcore, fun x y hx hy => ?_, fun r1 r2 x y h1 h2 g1 g2 => ?_⟩, i2⟩
  · obtain ⟨r, hr, l', t', s', g1, g2⟩ := h.2.1 x y hx hy
    by_cases hrp : r = p
    · subst hrp
      obtain ⟨rfl, rfl, rfl⟩ := kCl_inj hd.1 g1
      obtain ⟨q, hq, g3⟩ := quI hs g2
      obtain ⟨r', hr', -, g4⟩ := qi q hq
      exact ⟨r', hr', _, _, _, g4, g3⟩
    · have hrf := (kF_rd h hr (kr_val hr g1).1).1
      exact ⟨r, hr, (old r x y hrf hrp).mpr ⟨l', t', s', g1, g2⟩⟩
  · rcases cls r1 x y h1 g1 with ⟨a1, a2, a3⟩ | ⟨q, a1, a2, a3⟩
    · rcases cls r2 x y h2 g2 with ⟨d1, d2, d3⟩ | ⟨q', d1, d2, d3⟩
      · exact h.2.2 r1 r2 x y h1 h2 a3 d3
      · exact absurd (h.2.2 r1 p x y h1 hp a3 ⟨_, _, _, hd.1, quO hs d1 d3⟩) a2
    · rcases cls r2 x y h2 g2 with ⟨d1, d2, d3⟩ | ⟨q', d1, d2, d3⟩
      · exact absurd (h.2.2 r2 p x y h2 hp d3 ⟨_, _, _, hd.1, quO hs a1 a3⟩) d2
      · have := quU hs a1 d1 a3 d3
        subst this
        rw [a2, d2]
theorem k_settle : ∀ (n : Nat) {S : CS} {R : FI} {f : Nat}, kFull S R a f → ∃ f', kFull (spG n S) (stG a n R) a f' ∧ kHi R (stG a n R)
  | 0, S, R, f, h => ⟨f, h, kHi_r⟩
  | n + 1, S, R, f, h => by
    have hfo := kF_fo h
    have hR3 := kF_3 h
    have hf4 := kF_f h
    rw [spG, stG, mTsN, nFn, hR3, nI_clamp (by omega), fSp, hfo]
    by_cases hf : f < 38
    · have e1 : (nI f : Int32) < 38 := nI_lt (b := 38) hf (by decide)
      have e2 : ¬ (38 : Int32) ≤ nI f := nI_ge (a := f) (b := 38) hf (by decide)
      have e3 : fnd (fSpB S) 40 0 = mTs R a f := fnd_eq hf4 (fun k hk => by
        have hk4 : k < 40 := by omega
        rw [fSpB, mTsB, kF_rex h]
        cases he : iR R (nI k) with
        | false => simp only [Bool.false_and]
        | true =>
          have he2 : rEx S (nI k) = true := by rw [kF_rex h]; exact he
          obtain ⟨-, -, l, t, s, hd⟩ := kF_rd h hk4 he2
          rw [(kr_val hk4 hd.1).2.2.2.1, (kr_mval hk4 hd).2.2.1, mCr, kF_nin h hk4 he2, kF_0 h]) (fun k h1 h2 => by rw [fSpB, kr_no1 h2 h1 (kF_par h k h2)]; rfl)
      rw [if_pos e1, if_neg e2, ← e3]
      rcases fnd_or (g := fSpB S) 40 0 with h1 | ⟨p, -, h2, h3, h4⟩
      · rw [if_pos h1, if_pos h1]; exact ⟨f, h, kHi_r⟩
      · have hp : p < 40 := by omega
        have hne : ¬ fnd (fSpB S) 40 0 = -9 := by rw [h3]; exact nI_nm9 (by omega)
        rw [if_neg hne, if_neg hne, h3]
        simp only [fSpB, Bool.and_eq_true, Bool.not_eq_true', decide_eq_false_iff_not] at h4
        obtain ⟨hpf, -, l, t, s, hd⟩ := kF_rd h hp h4.1.1
        have hs : s < 4 := by
          rcases Nat.lt_or_ge s 4 with q | q
          · exact q
          · exact absurd (show (4 : Int32) ≤ rSc S (nI p) from by rw [(kr_val hp hd.1).2.2.2.1]; exact nI_le (a := 4) q (by have := hd.1.2.2.2.1; omega)) h4.1.2
        obtain ⟨g1, g2⟩ := k_split h hf hp hpf hd hs
        obtain ⟨f', g3, g4⟩ := k_settle n g1
        exact ⟨f', g3, kHi_t g2 g4⟩
    · have e1 : ¬ (nI f : Int32) < 38 := nI_nlt (a := f) (b := 38) (by omega) (by omega)
      have e2 : (38 : Int32) ≤ nI f := nI_le (a := 38) (by omega) (by omega)
      rw [if_neg e1, if_pos rfl, if_pos e2]
      refine ⟨f, ?_, ?_⟩
      · split <;> exact h
      · split <;> exact kHi_r
end KS
