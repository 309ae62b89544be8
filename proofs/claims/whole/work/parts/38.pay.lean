/-! the two sides change alike: tithes are paid -/
theorem fnd_fst {g : Nat → Bool} {c : Nat} : ∀ (n k : Nat), k ≤ c → c < k + n → g c = true → (∀ j, k ≤ j → j < c → g j = false) → fnd g n k = nI c
  | 0, _, h1, h2, _, _ => absurd h2 (by omega)
  | n + 1, k, h1, h2, h3, h4 => by
    by_cases e : k = c
    · subst e; rw [fnd, if_pos h3]
    · rw [fnd, if_neg (by rw [h4 k (Nat.le_refl k) (by omega)]; decide)]
      exact fnd_fst n (k + 1) (by omega) (by omega) h3 (fun j a b => h4 j (by omega) b)
def kOwn (S : CS) (p l t s j : Nat) : Bool := decide (pLof S (nI j) = nI p) && pLies S (nI j) (nI l) (nI t) (nI (l + 64 / 2 ^ s - 1)) (nI (t + 64 / 2 ^ s - 1))
section KY
variable {S : CS} {R : FI} {a f : Nat}
theorem kY_lies (h : kFull S R a f) {p l t s : Nat} (hp : p < 40) (hd : kCl S p l t s) {k : Nat} (hk : k < 40) (he : pEx S (nI k) = true) : pLies S (nI k) (nI l) (nI t) (nI (l + 64 / 2 ^ s - 1)) (nI (t + 64 / 2 ^ s - 1)) = decide (mAr R f (nI k) = nI p) := by
  obtain ⟨x, y, hx, hy, -, -, e1, e2, e3, e4⟩ := kF_xy h hk he
  obtain ⟨r, hr, h1, h2⟩ := kF_at1 h hx hy
  have hs := sd_le hd.2.2.2.1
  have b1 := hd.2.2.2.2.1
  have b2 := hd.2.2.2.2.2.1
  rw [mAr, e3, e4, ← kF_at h hx hy, h2, pLies, he, nI_clamp (by omega), e1, e2, btw_n (by omega) (by omega) (by omega), btw_n (by omega) (by omega) (by omega), Bool.eq_iff_iff]
  simp only [Bool.true_and, Bool.and_eq_true, decide_eq_true_eq]
  rw [nI_eq (by omega) (by omega)]
  constructor
  · intro h3
    exact h.2.2 r p x y hr hp h1 ⟨l, t, s, hd, by omega, by omega, by omega, by omega⟩
  · intro h3
    subst h3
    obtain ⟨l', t', s', g1, g2⟩ := h1
    obtain ⟨rfl, rfl, rfl⟩ := kCl_inj hd g1
    obtain ⟨q1, q2, q3, q4⟩ := g2
    omega
theorem kY_gift (h : kFull S R a f) {p l t s : Nat} (hp : p < 40) (hd : kCl S p l t s) : pyP S (nI p) = giF R (nI p) f a ∧ (pyP S (nI p) = -9 ∨ ∃ j, j < 40 ∧ pyP S (nI p) = nI j ∧ pEx S (nI j) = true ∧ kOwn S p l t s j = true) := by
  obtain ⟨-, v1, v2, v3, v4, v5⟩ := kr_val hp hd
  have key := fldR (pPoor S (nI p) (nI l) (nI t) (nI (l + 64 / 2 ^ s - 1)) (nI (t + 64 / 2 ^ s - 1))) (giF R (nI p) f) (fun k v => if decide (pLof S (nI k) = nI p) && pLies S (nI k) (nI l) (nI t) (nI (l + 64 / 2 ^ s - 1)) (nI (t + 64 / 2 ^ s - 1)) && !decide (v.2 ≤ sW S (nI k).toNatClampNeg) then (nI k, sW S (nI k).toNatClampNeg) else v) (fun k v => if iP R (nI k) && decide (oP R (nI k) 4 = nI p) && decide (mAr R f (nI k) = nI p) && (decide (v = -9) || !decide (oP R v 2 ≤ oP R (nI k) 2)) then nI k else v) (fun v w => v.1 = w ∧ ((v.1 = -9 ∧ v.2 = 101) ∨ ∃ j w', j < 40 ∧ v.1 = nI j ∧ v.2 = nI w' ∧ oP R (nI j) 2 = nI w' ∧ pEx S (nI j) = true ∧ kOwn S p l t s j = true)) 40 a (kF_a h) ⟨rfl, Or.inl ⟨rfl, rfl⟩⟩ (fun _ => rfl) (fun _ => rfl) (fun k v w hk e => by
    have hk4 : k < 40 := by have := kF_a h; omega
    rw [← kF_pex h, nI_clamp (by omega)]
    cases he : pEx S (nI k) with
    | false =>
      have hl : pLies S (nI k) (nI l) (nI t) (nI (l + 64 / 2 ^ s - 1)) (nI (t + 64 / 2 ^ s - 1)) = false := by rw [pLies, he]; rfl
      rw [hl]
      simpa using e
    | true =>
      obtain ⟨w', w1, w2, e3, e4, -⟩ := kF_we h hk4 he
      rw [← kY_lies h hp hd hk4 he, ← kp_lo2 h hk4 he, Bool.true_and]
      cases ho : (decide (pLof S (nI k) = nI p) && pLies S (nI k) (nI l) (nI t) (nI (l + 64 / 2 ^ s - 1)) (nI (t + 64 / 2 ^ s - 1))) with
      | false => simpa using e
      | true =>
        obtain ⟨q1, q2⟩ := e
        rw [e3, e4]
        rcases q2 with ⟨q2, q3⟩ | ⟨j, wj, hj, q2, q3, q4, q5, q6⟩
        · rw [q3, ← q1, q2, decide_eq_false (show ¬ (101 : Int32) ≤ nI w' from nI_ge (a := w') (b := 101) (by omega) (by decide))]
          exact ⟨by simp, Or.inr ⟨k, w', hk4, by simp, by simp, e4, he, ho⟩⟩
        · rw [q3, ← q1, q2, q4, decide_eq_false (nI_nm9 (show j < 2 ^ 31 by omega))]
          by_cases hw : nI wj ≤ nI w'
          · simp only [hw, decide_true, Bool.not_true, Bool.and_false, Bool.or_false]
            exact ⟨q2, Or.inr ⟨j, wj, hj, q2, q3, q4, q5, q6⟩⟩
          · simp only [hw, decide_false, Bool.not_false, Bool.and_true, Bool.or_true]
            exact ⟨rfl, Or.inr ⟨k, w', hk4, rfl, rfl, e4, he, ho⟩⟩) (fun k v h1 h2 => by
      have hl : pLies S (nI k) (nI l) (nI t) (nI (l + 64 / 2 ^ s - 1)) (nI (t + 64 / 2 ^ s - 1)) = false := by rw [pLies, kp_no (kF_pts h) h2 h1]; rfl
      rw [hl]; simp)
  rw [pyP, v1, v2, v4, v5]
  refine ⟨key.1, ?_⟩
  rcases key.2 with ⟨q, -⟩ | ⟨j, w', hj, q2, -, -, q5, q6⟩
  · exact Or.inl q
  · exact Or.inr ⟨j, hj, q2, q5, q6⟩
/-- a gift -/
theorem kY_step (h : kFull S R a f) {p c j : Nat} (hp : p < 40) (hpf : p < f) (hc : c < 40) (hpc : c ≠ p) (hj : j < 40) (he : pEx S (nI j) = true) (h1 : pyP S (nI p) = nI j) (h2 : pyC S (nI p) = nI c) (h3 : giF R (nI p) f a = nI j) :
    kFull (pyS S (nI p)) (oW (sLo R (nI j) (nI c)) (nI p) (nI c) (-1)) a f ∧ kHi R (oW (sLo R (nI j) (nI c)) (nI p) (nI c) (-1)) ∧ pyS S (nI p) = uD (uL S (upd (sL S) j (nI c))) (upd (sD S) (40 * p + c) (sD S (40 * p + c) + -1)) := by
  have e1 : pyS S (nI p) = uD (uL S (upd (sL S) j (nI c))) (upd (sD S) (40 * p + c) (sD S (40 * p + c) + -1)) := by
    rw [pyS, h1, h2, pSetAt, if_pos he, nI_clamp (by omega), dCh_n hp hc]
  have e2 : oW (sLo R (nI j) (nI c)) (nI p) (nI c) (-1) = upd (upd R (4 + 5 * j + 4) (nI c)) (364 + 40 * p + c) (R (364 + 40 * p + c) + -1) := by
    rw [sLo_n (by omega), oW_n (by omega) (by omega), pk_un (by omega)]
  rw [e2, e1]
  obtain ⟨⟨b, hpt, hpa, hd1, hd2, hd3⟩, hcov, hdis⟩ := h
  obtain ⟨b1, b2, b3, b4, b5, b6, b7, b8, b9, b10⟩ := b
  have hv : ∀ i, (i < 4 ∨ 204 ≤ i) → i ≠ 364 + 40 * p + c → upd (upd R (4 + 5 * j + 4) (nI c)) (364 + 40 * p + c) (R (364 + 40 * p + c) + -1) i = R i := fun i h1 h2 => by
    rw [pk_un h2, pk_un (by omega)]
  refine ⟨⟨⟨⟨b1, b2, b3, (hv 0 (by omega) (by omega)).trans b4, (hv 1 (by omega) (by omega)).trans b5, (hv 2 (by omega) (by omega)).trans b6, b7, (hv 3 (by omega) (by omega)).trans b8, b9, b10⟩, fun i hi => ?_, fun r hr hrp => ?_, ⟨fun p' c' hp' hc' hne => ?_, fun p' hp' => ?_, fun p' c' q1 q2 q3 => ?_⟩⟩, kCov_c (S := S) rfl rfl rfl hcov, kDis_c (S := S) rfl rfl rfl hdis⟩, fun i hi => hv i (by omega) (by omega), rfl⟩
  · exact kPt_c rfl rfl rfl rfl (fun i h1 h2 => pk_un (by omega)) (kp_set (S := S) (Q := R) (v := nI c) hj hpt i hi)
  · exact kPa_c (S := S) (R := R) rfl rfl rfl (fun i h1 h2 => hv i (by omega) (by omega)) Iff.rfl (hpa r hr hrp)
  · show upd (sD S) _ _ _ = _
    by_cases e : 40 * p' + c' = 40 * p + c
    · have q1 : p' = p := by omega
      have q2 : c' = c := by omega
      subst q1; subst q2
      rw [pk_us, pk_us, hd1 p' c' hp' hc' hne]
    · rw [pk_un e, hv _ (by omega) (by omega)]; exact hd1 p' c' hp' hc' hne
  · show upd (sD S) _ _ _ = _
    rw [pk_un (by omega)]; exact hd2 p' hp'
  · show upd (sD S) _ _ _ = _
    rw [pk_un (by omega)]; exact hd3 p' c' q1 q2 q3
theorem kY_inner {p l t s c : Nat} (hp : p < 40) (hpf : p < f) (hc : c < 40) : ∀ (fuel n k : Nat) {S : CS} {R : FI}, kFull S R a f → kCl S p l t s → (∀ c', c' < c → dOwF (sD S) (nI p) (nI c') ≤ 0) → cb (kOwn S p l t s) 40 ≤ n → (dO R (nI p) (nI c)).toNatClampNeg ≤ fuel →
    ∃ (n' k' : Nat) (S' : CS) (R' : FI), pyG (nI p) n k S = pyG (nI p) n' k' S' ∧ pIn (nI p) a f (nI c) fuel (R, nI k) = (R', nI k') ∧ kFull S' R' a f ∧ kCl S' p l t s ∧ cb (kOwn S' p l t s) 40 ≤ n' ∧ kHi R R' ∧ ((∀ c', c' < c + 1 → dOwF (sD S') (nI p) (nI c') ≤ 0) ∨ giF R' (nI p) f a = -9) := by
  intro fuel
  induction fuel with
  | zero =>
    intro n k S R h hd hlo hn hfu
    refine ⟨n, k, S, R, rfl, rfl, h, hd, hn, kHi_r, Or.inl (fun c' hc' => ?_)⟩
    by_cases e : c' = c
    · subst e
      rw [kF_ow h hp hc]
      have e0 : (0 : Int32).toInt = 0 := by decide
      have h4 : (dO R (nI p) (nI c')).toNatClampNeg = (dO R (nI p) (nI c')).toInt.toNat := rfl
      exact Int32.le_iff_toInt_le.mpr (by omega)
    · exact hlo c' (by omega)
  | succ fuel ih =>
    intro n k S R h hd hlo hn hfu
    by_cases h0 : dO R (nI p) (nI c) ≤ 0
    · refine ⟨n, k, S, R, rfl, by rw [pIn_1 (s := (R, nI k)) h0], h, hd, hn, kHi_r, Or.inl (fun c' hc' => ?_)⟩
      by_cases e : c' = c
      · subst e; rw [kF_ow h hp hc]; exact h0
      · exact hlo c' (by omega)
    · by_cases hg : giF R (nI p) f a = -9
      · exact ⟨n, k, S, R, rfl, by rw [pIn_2 (s := (R, nI k)) h0 hg], h, hd, hn, kHi_r, Or.inr hg⟩
      · obtain ⟨g1, g2⟩ := kY_gift h hp hd
        rcases g2 with g2 | ⟨j, hj, g3, g4, g5⟩
        · exact absurd (g1.symm.trans g2) hg
        · have hC : pyC S (nI p) = nI c := by
            rw [pyC, dFst]
            exact fnd_fst 40 0 (Nat.zero_le _) (by omega) (by rw [kF_ow h hp hc]; simp [h0]) (fun i _ hi => by simp [hlo i hi])
          have hpc : c ≠ p := by
            intro e
            subst e
            apply h0
            rw [← kF_ow h hp hc, dOw_n hp hp, h.1.2.2.2.2.1 c hp]
            exact Int32.le_refl _
          have hgj : giF R (nI p) f a = nI j := g1.symm.trans g3
          obtain ⟨s1, s2, s3⟩ := kY_step h hp hpf hc hpc hj g4 g3 hC hgj
          have hd2 : kCl (pyS S (nI p)) p l t s := by rw [s3]; exact hd
          have hlt : cb (kOwn (pyS S (nI p)) p l t s) 40 + 1 ≤ cb (kOwn S p l t s) 40 := by
            rw [s3]
            have hw : ∀ i, pLies (uD (uL S (upd (sL S) j (nI c))) (upd (sD S) (40 * p + c) (sD S (40 * p + c) + -1))) (nI i) (nI l) (nI t) (nI (l + 64 / 2 ^ s - 1)) (nI (t + 64 / 2 ^ s - 1)) = pLies S (nI i) (nI l) (nI t) (nI (l + 64 / 2 ^ s - 1)) (nI (t + 64 / 2 ^ s - 1)) := fun i => rfl
            have hlf : ∀ i, i < 40 → pLof (uD (uL S (upd (sL S) j (nI c))) (upd (sD S) (40 * p + c) (sD S (40 * p + c) + -1))) (nI i) = if pEx S (nI i) = true then upd (sL S) j (nI c) i else -9 := fun i hi => by
              show (if pEx S (nI i) = true then upd (sL S) j (nI c) (nI i).toNatClampNeg else -9) = _
              rw [nI_clamp (by omega)]
            refine cb_lt 40 hj (fun i hi q => ?_) ?_ g5
            · rw [kOwn, hw, hlf i hi] at q
              rw [kOwn]
              by_cases e : i = j
              · subst e
                rw [pk_us, if_pos g4, decide_eq_false (fun hh => hpc ((nI_eq (by omega) (by omega)).mp hh))] at q
                exact absurd q (by simp)
              · rw [pk_un e] at q
                rw [pLof, nI_clamp (by omega)]
                exact q
            · rw [kOwn, hlf j hj, pk_us, if_pos g4, decide_eq_false (fun hh => hpc ((nI_eq (by omega) (by omega)).mp hh))]
              rfl
          have hn1 : 1 ≤ n := by omega
          obtain ⟨m, rfl⟩ : ∃ m, n = m + 1 := ⟨n - 1, by omega⟩
          have hst : pIn (nI p) a f (nI c) (fuel + 1) (R, nI k) = pIn (nI p) a f (nI c) fuel (oW (sLo R (nI j) (nI c)) (nI p) (nI c) (-1), nI (k + 1)) := by
            rw [pIn, if_neg h0, if_neg hg, pIs, hgj, nI_1]
          have hcl : pyG (nI p) (m + 1) k S = pyG (nI p) m (k + 1) (pyS S (nI p)) := by
            rw [pyG, if_neg (fun hh => hh.elim (fun h5 => nI_nm9 (by omega) (hC.symm.trans h5)) (fun h5 => nI_nm9 (by omega) (g3.symm.trans h5)))]
          have hD : ∀ c', c' < 40 → c' ≠ c → dOwF (sD (pyS S (nI p))) (nI p) (nI c') = dOwF (sD S) (nI p) (nI c') := fun c' hc' hne => by
            rw [dOw_n hp hc', dOw_n hp hc', s3]
            show upd (sD S) _ _ _ = _
            rw [pk_un (by omega)]
          have hdec : (dO (oW (sLo R (nI j) (nI c)) (nI p) (nI c) (-1)) (nI p) (nI c)).toNatClampNeg ≤ fuel := by
            have := dO_step (R := R) (p := nI p) (c := nI c) (i := nI j) (vp_in_nI (by omega) (by decide)) (vp_in_nI (by omega) (by decide)) (vp_in_nI (by omega) (by decide)) h0
            have h4 : (dO R (nI p) (nI c)).toNatClampNeg = (dO R (nI p) (nI c)).toInt.toNat := rfl
            have h5 : (dO (oW (sLo R (nI j) (nI c)) (nI p) (nI c) (-1)) (nI p) (nI c)).toNatClampNeg = (dO (oW (sLo R (nI j) (nI c)) (nI p) (nI c) (-1)) (nI p) (nI c)).toInt.toNat := rfl
            omega
          obtain ⟨n', k', S', R', r1, r2, r3, r4, r5, r6, r7⟩ := ih m (k + 1) s1 hd2 (fun c' hc' => by rw [hD c' (by omega) (by omega)]; exact hlo c' hc') (by omega) hdec
          exact ⟨n', k', S', R', hcl.trans r1, hst.trans r2, r3, r4, r5, kHi_t s2 r6, r7⟩
theorem kY_stop {p n k : Nat} (h : (∀ c', c' < 40 → dOwF (sD S) (nI p) (nI c') ≤ 0) ∨ pyP S (nI p) = -9) : pyG (nI p) n k S = (nI k, S) := by
  cases n with
  | zero => rfl
  | succ n =>
    rw [pyG, if_pos ?_]
    rcases h with h | h
    · left
      rw [pyC, dFst]
      exact fnd_nn 40 0 (fun j _ hj => by simp [h j (by omega)])
    · exact Or.inr h
theorem kY_pay (h : kFull S R a f) {p : Nat} (hp : p < 40) (he : rEx S (nI p) = true) : (pyG (nI p) 40 0 S).1 = (pOu R (nI p) a f 40).2 ∧ kFull (pyG (nI p) 40 0 S).2 (pOu R (nI p) a f 40).1 a f ∧ kHi R (pOu R (nI p) a f 40).1 := by
  obtain ⟨hpf, -, l, t, s, hd⟩ := kF_rd h hp he
  have outer : ∀ c, c ≤ 40 → ∃ (n' k' : Nat) (S' : CS), pyG (nI p) 40 0 S = pyG (nI p) n' k' S' ∧ (pOu R (nI p) a f c).2 = nI k' ∧ kFull S' (pOu R (nI p) a f c).1 a f ∧ kCl S' p l t s ∧ cb (kOwn S' p l t s) 40 ≤ n' ∧ kHi R (pOu R (nI p) a f c).1 ∧ ((∀ c', c' < c → dOwF (sD S') (nI p) (nI c') ≤ 0) ∨ giF (pOu R (nI p) a f c).1 (nI p) f a = -9) := by
    intro c
    induction c with
    | zero => intro _; exact ⟨40, 0, S, rfl, rfl, h, hd.1, cb_le _ 40, kHi_r, Or.inl (fun c' hc' => absurd hc' (by omega))⟩
    | succ c ih =>
      intro hc
      obtain ⟨n, k, S1, r1, r2, r3, r4, r5, r6, r7⟩ := ih (by omega)
      rcases r7 with r7 | r7
      · obtain ⟨n', k', S', R', q1, q2, q3, q4, q5, q6, q7⟩ := kY_inner hp hpf (show c < 40 by omega) (pIf (pOu R (nI p) a f c) (nI p) (nI c)) n k r3 r4 r7 r5 (Nat.le_refl _)
        have e : pOu R (nI p) a f (c + 1) = (R', nI k') := by
          rw [pOu, ← q2, ← r2]
        rw [e]
        exact ⟨n', k', S', r1.trans q1, rfl, q3, q4, q5, kHi_t r6 q6, q7⟩
      · have e : pOu R (nI p) a f (c + 1) = pOu R (nI p) a f c := by
          rw [pOu]
          by_cases h0 : dO (pOu R (nI p) a f c).1 (nI p) (nI c) ≤ 0
          · rw [pIn_1 h0]
          · rw [pIn_2 h0 r7]
        rw [e]
        exact ⟨n, k, S1, r1, r2, r3, r4, r5, r6, Or.inr r7⟩
  obtain ⟨n, k, S1, r1, r2, r3, r4, r5, r6, r7⟩ := outer 40 (Nat.le_refl _)
  have e : pyG (nI p) 40 0 S = (nI k, S1) := by
    rw [r1]
    refine kY_stop (r7.imp id (fun h7 => ?_))
    rw [(kY_gift r3 hp r4).1]; exact h7
  rw [e]
  exact ⟨r2.symm, r3, r6⟩
end KY
