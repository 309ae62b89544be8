/-! the two sides change alike: joins -/
theorem i_an (x : Int32) : x + -x = 0 := by
  first
  | exact Int32.add_right_neg x
  | (rw [← Int32.sub_eq_add_neg]; exact Int32.sub_self)
  | simp
def mn (rr : Nat → Nat) (v : Nat) : Nat → Nat
  | 0 => v
  | k + 1 => if rr k < mn rr v k then rr k else mn rr v k
theorem mn_le (rr : Nat → Nat) (v : Nat) : ∀ k, mn rr v k ≤ v ∧ ∀ q, q < k → mn rr v k ≤ rr q
  | 0 => ⟨Nat.le_refl _, fun q hq => absurd hq (by omega)⟩
  | k + 1 => by
    obtain ⟨h1, h2⟩ := mn_le rr v k
    rw [mn]
    split
    · exact ⟨by omega, fun q hq => by
        by_cases e : q = k
        · subst e; exact Nat.le_refl _
        · have := h2 q (by omega); omega⟩
    · exact ⟨h1, fun q hq => by
        by_cases e : q = k
        · subst e; omega
        · exact h2 q (by omega)⟩
theorem mn_in (rr : Nat → Nat) (v : Nat) : ∀ k, mn rr v k = v ∨ ∃ q, q < k ∧ mn rr v k = rr q
  | 0 => Or.inl rfl
  | k + 1 => by
    rw [mn]
    split
    · exact Or.inr ⟨k, by omega, rfl⟩
    · rcases mn_in rr v k with h | ⟨q, h1, h2⟩
      · exact Or.inl h
      · exact Or.inr ⟨q, by omega, h2⟩
/-- the debts while a parish is dissolved: all but the one of the heir to itself -/
def kMv (F Q Q0 : FI) (f m : Nat) : Prop := (∀ p c, p < 40 → c < 40 → ¬ (p = m ∧ c = m) → F (40 * p + c) = Q (364 + 40 * p + c)) ∧ (∀ p, p < 40 → p ≠ m → F (40 * p + p) = 0) ∧ (∀ p c, f ≤ p → p < 40 → c < 40 → F (40 * p + c) = 0) ∧ ∀ j, (j < 364 ∨ 1964 ≤ j) → Q j = Q0 j
theorem k_mv {F Q Q0 : FI} {f m p1 c1 p2 c2 : Nat} (h : kMv F Q Q0 f m) (hp1 : p1 < 40) (hc1 : c1 < 40) (hp2 : p2 < 40) (hc2 : c2 < 40) (hne : ¬ (p1 = p2 ∧ c1 = c2)) (h1 : ¬ (p1 = m ∧ c1 = m)) (h2 : p2 = c2 → p2 = m) (h3 : f ≤ p2 → p1 = p2) :
    kMv (dSh F (nI p1) (nI c1) (nI p2) (nI c2)) (oW (oW Q (nI p2) (nI c2) (dO Q (nI p1) (nI c1))) (nI p1) (nI c1) (-(dO (oW Q (nI p2) (nI c2) (dO Q (nI p1) (nI c1))) (nI p1) (nI c1)))) Q0 f m := by
  have e1 : dSh F (nI p1) (nI c1) (nI p2) (nI c2) = upd (upd F (40 * p1 + c1) 0) (40 * p2 + c2) (F (40 * p2 + c2) + F (40 * p1 + c1)) := by
    rw [dSh, dOw_n hp1 hc1, dCh_n hp1 hc1, dCh_n hp2 hc2, i_an, pk_un (by omega)]
  have e2 : oW (oW Q (nI p2) (nI c2) (dO Q (nI p1) (nI c1))) (nI p1) (nI c1) (-(dO (oW Q (nI p2) (nI c2) (dO Q (nI p1) (nI c1))) (nI p1) (nI c1))) = upd (upd Q (364 + 40 * p2 + c2) (Q (364 + 40 * p2 + c2) + Q (364 + 40 * p1 + c1))) (364 + 40 * p1 + c1) 0 := by
    rw [dO_n (by omega) (by omega), dO_n (by omega) (by omega), oW_n (by omega) (by omega), oW_n (by omega) (by omega), i_an]
  rw [e1, e2]
  obtain ⟨a1, a2, a3, a4⟩ := h
  refine ⟨fun p c hp hc hn => ?_, fun p hp hpm => ?_, fun p c hf hp hc => ?_, fun j hj => ?_⟩
  · by_cases q2 : 40 * p + c = 40 * p2 + c2
    · have r1 : p = p2 := by omega
      have r2 : c = c2 := by omega
      subst r1; subst r2
      rw [pk_us, pk_un (by omega), pk_us, a1 p c hp hc hn, a1 p1 c1 hp1 hc1 h1]
    · rw [pk_un q2]
      by_cases q1 : 40 * p + c = 40 * p1 + c1
      · have r1 : p = p1 := by omega
        have r2 : c = c1 := by omega
        subst r1; subst r2
        rw [pk_us, pk_us]
      · rw [pk_un q1, pk_un (by omega), pk_un (by omega)]; exact a1 p c hp hc hn
  · by_cases q2 : 40 * p + p = 40 * p2 + c2
    · have r1 : p = p2 := by omega
      have r2 : p = c2 := by omega
      exact absurd (r1.trans (h2 (r1.symm.trans r2))) hpm
    · rw [pk_un q2]
      by_cases q1 : 40 * p + p = 40 * p1 + c1
      · rw [q1, pk_us]
      · rw [pk_un q1]; exact a2 p hp hpm
  · by_cases q2 : 40 * p + c = 40 * p2 + c2
    · have r1 : p = p2 := by omega
      have r2 : c = c2 := by omega
      subst r1; subst r2
      have r3 := h3 hf
      subst r3
      rw [pk_us, a3 p1 c hf hp hc, a3 p1 c1 hf hp hc1]; rfl
    · rw [pk_un q2]
      by_cases q1 : 40 * p + c = 40 * p1 + c1
      · rw [q1, pk_us]
      · rw [pk_un q1]; exact a3 p c hf hp hc
  · rw [pk_un (by omega), pk_un (by omega)]; exact a4 j hj
section KN
variable {S : CS} {R : FI} {a f : Nat}
/-- one is dissolved -/
theorem k_dis {g m : Nat} (h : kCore S R a f m m) (hg : g < 40) (hgf : g < f) (hm : m < 40) (hmf : m < f) (hgm : g ≠ m) (hex : rEx S (nI g) = true) :
    kCore (abS S (nI g) (nI m)) (dis R a (nI g) (nI m)) a f m m ∧ kHi R (dis R a (nI g) (nI m)) ∧ (∀ j, 204 + 4 * m ≤ j → j < 208 + 4 * m → dis R a (nI g) (nI m) j = R j) ∧
    sLe (abS S (nI g) (nI m)) = sLe S ∧ sTo (abS S (nI g) (nI m)) = sTo S ∧ sSc (abS S (nI g) (nI m)) = upd (sSc S) g (-1) := by
  obtain ⟨⟨b1, b2, b3, b4, b5, b6, b7, b8, b9, b10⟩, hpt, hpa, hd1, hd2, hd3⟩ := h
  have e0 : ((204 : Int32) + 4 * nI g).toNatClampNeg = 204 + 4 * g := by
    rw [show (4 : Int32) = nI 4 from rfl, show (204 : Int32) = nI 204 from rfl, pk_mul, nI_add, nI_clamp (by omega)]
  obtain ⟨R1, hR1⟩ : ∃ z, z = upd R (204 + 4 * g) 0 := ⟨_, rfl⟩
  have v1 : ∀ j, j ≠ 204 + 4 * g → R1 j = R j := fun j hj => by rw [hR1, pk_un hj]
  have hpt1 : ∀ i, i < 40 → kPt S R1 a i := fun i hi => kPt_c rfl rfl rfl rfl (fun j h1 h2 => v1 j (by omega)) (hpt i hi)
  have hlo := kp_chl (S := S) (R := R1) (a := a) b1 hpt1 (nI g) (nI m) 0 0 63 63 (ds1 R (nI g) (nI m)) (fun Q k => decide (oP Q (nI k) 4 = nI g)) (by rw [ds1, e0, hR1]) (fun k => by
    rw [ds1]
    by_cases q : oP (ds1 R (nI g) (nI m) k) (nI k) 4 = nI g <;> simp [q]) (by
    intro F Q k hk hq hp2 he
    have hk4 : k < 40 := by omega
    obtain ⟨-, -, x, y, w, hd⟩ := kp_dat (S := uL S F) (R := Q) hp2 hk4 he
    have e2 : oP Q (nI k) 4 = F k := by rw [oP_4 (by omega), hd.2.2.2.2.2.2.2.2.2.2]
    have hx := hd.1
    have hy := hd.2.1
    have e3 : pLies S (nI k) 0 0 63 63 = true := by
      rw [pLies, he, nI_clamp (by omega), show sX S k = nI x from hd.2.2.2.2.1, show sY S k = nI y from hd.2.2.2.2.2.1, show btw (nI x) 0 63 = decide (0 ≤ x ∧ x ≤ 63) from btw_n (lo := 0) (hi := 63) (by omega) (by omega) (by omega), show btw (nI y) 0 63 = decide (0 ≤ y ∧ y ≤ 63) from btw_n (lo := 0) (hi := 63) (by omega) (by omega) (by omega), decide_eq_true (show 0 ≤ x ∧ x ≤ 63 by omega), decide_eq_true (show 0 ≤ y ∧ y ≤ 63 by omega)]
      rfl
    show decide (oP Q (nI k) 4 = nI g) = _
    rw [e3, e2, Bool.true_and])
  obtain ⟨R2, hR2⟩ : ∃ z, z = ds1 R (nI g) (nI m) a := ⟨_, rfl⟩
  rw [← hR2] at hlo
  obtain ⟨hl1, hl2⟩ := hlo
  have hm2 : kMv (sD S) R2 R2 f m := ⟨fun p c hp hc hn => by rw [hl2 _ (by omega), v1 _ (by omega)]; exact hd1 p c hp hc hn, fun p hp _ => hd2 p hp, hd3, fun _ _ => rfl⟩
  have hm3 : kMv (dP1 (sD S) (nI g) (nI m) 40) (ds2 R2 (nI g) (nI m) 40) R2 f m :=
    fldR (dP1 (sD S) (nI g) (nI m)) (ds2 R2 (nI g) (nI m)) (fun k F => dSh F (nI g) (nI k) (nI m) (nI k)) (fun k Q => oW (oW Q (nI m) (nI k) (dO Q (nI g) (nI k))) (nI g) (nI k) (-(dO (oW Q (nI m) (nI k) (dO Q (nI g) (nI k))) (nI g) (nI k)))) (fun F Q => kMv F Q R2 f m) 40 40 (Nat.le_refl _) hm2 (fun _ => rfl) (fun _ => rfl) (fun k F Q hk e => k_mv e hg hk hm hk (by omega) (by omega) (fun _ => rfl) (by omega)) (fun k v h1 h2 => absurd h1 (by omega))
  have hm4 : kMv (dP2 (dP1 (sD S) (nI g) (nI m) 40) (nI g) (nI m) 40) (ds3 (ds2 R2 (nI g) (nI m) 40) (nI g) (nI m) 40) R2 f m :=
    fldR (dP2 (dP1 (sD S) (nI g) (nI m) 40) (nI g) (nI m)) (ds3 (ds2 R2 (nI g) (nI m) 40) (nI g) (nI m)) (fun k F => dSh F (nI k) (nI g) (nI k) (nI m)) (fun k Q => oW (oW Q (nI k) (nI m) (dO Q (nI k) (nI g))) (nI k) (nI g) (-(dO (oW Q (nI k) (nI m) (dO Q (nI k) (nI g))) (nI k) (nI g)))) (fun F Q => kMv F Q R2 f m) 40 40 (Nat.le_refl _) hm3 (fun _ => rfl) (fun _ => rfl) (fun k F Q hk e => k_mv e hk hg hk hm (by omega) (by omega) (fun e => e) (fun _ => rfl)) (fun k v h1 h2 => absurd h1 (by omega))
  have hR3 : dis R a (nI g) (nI m) = ds3 (ds2 R2 (nI g) (nI m) 40) (nI g) (nI m) 40 := by rw [dis, hR2]
  rw [hR3]
  obtain ⟨R3, hR3e⟩ : ∃ z, z = ds3 (ds2 R2 (nI g) (nI m) 40) (nI g) (nI m) 40 := ⟨_, rfl⟩
  obtain ⟨F, hF⟩ : ∃ z, z = dP2 (dP1 (sD S) (nI g) (nI m) 40) (nI g) (nI m) 40 := ⟨_, rfl⟩
  rw [← hR3e, ← hF] at hm4
  rw [← hR3e]
  obtain ⟨a1, a2, a3, a4⟩ := hm4
  have hS : abS S (nI g) (nI m) = uSc (uD (uL S (pChl S (nI g) (nI m) 0 0 63 63 40)) (upd F (40 * m + m) 0)) (upd (sSc S) g (-1)) := by
    rw [abS, if_neg (fun hh => hgm ((nI_eq (by omega) (by omega)).mp hh)), dPass, dDrop, ← hF, dOw_n hm hm, dCh_n hm hm, i_an, rDis, if_pos hex, nI_clamp (by omega)]
  rw [hS]
  have hRf : ∀ j, (j < 4 ∨ (204 ≤ j ∧ j < 364 ∧ j ≠ 204 + 4 * g) ∨ 1964 ≤ j) → R3 j = R j := fun j hj => by
    rw [a4 j (by omega), hl2 j (by omega), v1 j (by omega)]
  refine ⟨⟨⟨b1, b2, b3, (hRf 0 (by omega)).trans b4, (hRf 1 (by omega)).trans b5, (hRf 2 (by omega)).trans b6, b7, (hRf 3 (by omega)).trans b8, b9, b10⟩, fun i hi => ?_, fun r hr hrm => ?_, ⟨fun p c hp hc hn => ?_, fun p hp => ?_, fun p c q1 q2 q3 => ?_⟩⟩, fun j hj => hRf j (by omega), fun j h1 h2 => hRf j (by omega), rfl, rfl, rfl⟩
  · exact kPt_c rfl rfl rfl rfl (fun j h1 h2 => a4 j (by omega)) (hl1 i hi)
  · by_cases e : r = g
    · subst e
      refine Or.inl ⟨pk_us, fun _ => ?_⟩
      rw [a4 _ (by omega), hl2 _ (by omega), hR1, pk_us]; decide
    · exact kPa_c (S := S) (R := R) (pk_un e) rfl rfl (fun j h1 h2 => hRf j (by omega)) Iff.rfl (hpa r hr hrm)
  · show upd F _ _ _ = _
    rw [pk_un (by omega)]; exact a1 p c hp hc hn
  · show upd F _ _ _ = _
    by_cases e : p = m
    · subst e; exact pk_us
    · rw [pk_un (by omega)]; exact a2 p hp e
  · show upd F _ _ _ = _
    rw [pk_un (by omega)]; exact a3 p c q1 q2 q3
/-- the four parishes of a join -/
theorem k_four (h : kFull S R a f) {k l t s : Nat} (hk : k < 40) (hd : kRD S R k l t s) (hs : 1 ≤ s) (hc : cjR R a f (nI k) = true) : ∃ rr : Nat → Nat, ∀ q, q < 4 → rr q < 40 ∧ kCl S (rr q) (qb l s + 64 / 2 ^ s * (q % 2)) (qb t s + 64 / 2 ^ s * (q / 2)) s ∧ mJq R f (nI k) q = nI (rr q) := by
  have hcl := hd.1.2.2.2
  have b1 := qb_in s (by have := hcl.1; omega) hs l hcl.2.1 hcl.2.2.2.1
  have b2 := qb_in s (by have := hcl.1; omega) hs t hcl.2.2.1 hcl.2.2.2.2
  have m3 := (kr_mval hk hd).2.2.1
  have hn0 : ¬ (nI s : Int32) = 0 := nI_ne0 hs (by have := hcl.1; omega)
  rw [cjR, m3, if_neg hn0] at hc
  have hall : ∀ q, q < 4 → qA R (mJq R f (nI k) q) 3 = nI s := by
    simp only [cjb, m3, Bool.and_eq_true, decide_eq_true_eq] at hc
    intro q hq
    rcases (show q = 0 ∨ q = 1 ∨ q = 2 ∨ q = 3 by omega) with rfl | rfl | rfl | rfl
    · exact hc.1.1.1.2
    · exact hc.1.1.2
    · exact hc.1.2
    · exact hc.2
  have each : ∀ q, q < 4 → ∃ r, r < 40 ∧ kCl S r (qb l s + 64 / 2 ^ s * (q % 2)) (qb t s + 64 / 2 ^ s * (q / 2)) s ∧ mJq R f (nI k) q = nI r := by
    intro q hq
    obtain ⟨r, hr, h1, h2, h3⟩ := kJ_at h hk hd hs hq
    obtain ⟨l', t', s', g1, g2⟩ := id h1
    obtain ⟨-, -, l2, t2, s2, hd2⟩ := kF_rd h hr (kr_val hr g1).1
    obtain ⟨rfl, rfl, rfl⟩ := kCl_inj g1 hd2.1
    have e := hall q hq
    rw [h3, (kr_mval hr hd2).2.2.1] at e
    have e2 : s2 = s := (nI_eq (by have := g1.2.2.2.1; omega) (by have := hcl.1; omega)).mp e
    subst e2
    exact ⟨r, hr, kJ_cell hcl.1 (al_add _ b1.2.1) (al_add _ b2.2.1) g1 h1, h3⟩
  obtain ⟨r0, g0⟩ := each 0 (by omega)
  obtain ⟨r1, g1⟩ := each 1 (by omega)
  obtain ⟨r2, g2⟩ := each 2 (by omega)
  obtain ⟨r3, g3⟩ := each 3 (by omega)
  refine ⟨fun q => if q = 0 then r0 else if q = 1 then r1 else if q = 2 then r2 else r3, fun q hq => ?_⟩
  rcases (show q = 0 ∨ q = 1 ∨ q = 2 ∨ q = 3 by omega) with rfl | rfl | rfl | rfl
  · exact g0
  · exact g1
  · exact g2
  · exact g3
theorem k_join (h : kFull S R a f) {p : Nat} (hp : p < 40) (he : rEx S (nI p) = true) (hc : cjR R a f (nI p) = true) (F : FI) (hF : ∀ k, k < 4 → F (nI k).toNatClampNeg = mJq R f (nI p) k) :
    jqFi S (nI p) = jqm F 4 ∧ kFull (jqS S (nI p)) (joW (jnK (joS R F (jqm F 4)) F a (jqm F 4) 4) (jqm F 4)) a f ∧ kHi R (joW (jnK (joS R F (jqm F 4)) F a (jqm F 4) 4) (jqm F 4)) := by
  obtain ⟨hpf, -, l, t, s, hd⟩ := kF_rd h hp he
  have hcl := hd.1.2.2.2
  have hs : 1 ≤ s := by
    rcases Nat.eq_zero_or_pos s with e | e
    · subst e
      rw [cjR, (kr_mval hp hd).2.2.1, if_pos (by decide)] at hc
      exact absurd hc (by decide)
    · exact e
  obtain ⟨rr, hrr⟩ := k_four h hp hd hs hc
  have b1 := qb_in s (by have := hcl.1; omega) hs l hcl.2.1 hcl.2.2.2.1
  have b2 := qb_in s (by have := hcl.1; omega) hs t hcl.2.2.1 hcl.2.2.2.2
  have hsd := sd_le hcl.1
  have hl2 := hcl.2.1
  have ht2 := hcl.2.2.1
  obtain ⟨-, v1, v2, v3, -, -⟩ := kr_val hp hd.1
  have hlA : lAr S (nI p) = nI (qb l s) := by rw [lAr, v1, v3, sideF_n hcl.1]; exact laA s (by have := hcl.1; omega) hs l hl2 hcl.2.2.2.1
  have htA : tAr S (nI p) = nI (qb t s) := by rw [tAr, v2, v3, sideF_n hcl.1]; exact laA s (by have := hcl.1; omega) hs t ht2 hcl.2.2.2.2
  have hFr : ∀ k, k < 4 → F (nI k).toNatClampNeg = nI (rr k) := fun k hk => (hF k hk).trans (hrr k hk).2.2
  have hxy : ∀ q, q < 4 → qb l s + 64 / 2 ^ s * (q % 2) < 64 ∧ qb t s + 64 / 2 ^ s * (q / 2) < 64 := fun q hq => by
    have := (hrr q hq).2.1.2.2.2
    exact ⟨this.2.1, this.2.2.1⟩
  have hself : ∀ q, q < 4 → ∀ T : CS, kCl T (rr q) (qb l s + 64 / 2 ^ s * (q % 2)) (qb t s + 64 / 2 ^ s * (q / 2)) s → kInC T (rr q) (qb l s + 64 / 2 ^ s * (q % 2)) (qb t s + 64 / 2 ^ s * (q / 2)) := fun q hq T hT => ⟨_, _, _, hT, by omega, by omega, by omega, by omega⟩
  have hpQ : ∀ (T : CS), kWf T → kDis T → ∀ q, q < 4 → kCl T (rr q) (qb l s + 64 / 2 ^ s * (q % 2)) (qb t s + 64 / 2 ^ s * (q / 2)) s → pQu T (nI (qb l s)) (nI (qb t s)) (nI s) (nI q) = nI (rr q) := fun T hw hdi q hq hT => by
    rw [pQu, sideF_n hcl.1, (quMx hq).2.2.1, (quMx hq).2.2.2]
    exact kr_one hw hdi (hrr q hq).1 (hxy q hq).1 (hxy q hq).2 (hself q hq T hT)
  have hinj : ∀ q q', q < 4 → q' < 4 → rr q = rr q' → q = q' := fun q q' hq hq' e => by
    have e1 := (hrr q hq).2.1
    rw [e] at e1
    obtain ⟨x1, x2, -⟩ := kCl_inj e1 (hrr q' hq').2.1
    generalize 64 / 2 ^ s = d at *
    rcases (show q = 0 ∨ q = 1 ∨ q = 2 ∨ q = 3 by omega) with rfl | rfl | rfl | rfl <;> rcases (show q' = 0 ∨ q' = 1 ∨ q' = 2 ∨ q' = 3 by omega) with rfl | rfl | rfl | rfl <;> omega
  have hpin : ∃ q, q < 4 ∧ p = rr q := by
    have : ∃ q, q < 4 ∧ l = qb l s + 64 / 2 ^ s * (q % 2) ∧ t = qb t s + 64 / 2 ^ s * (q / 2) := by
      rcases b1.2.2.2 with x | x <;> rcases b2.2.2.2 with y | y
      · exact ⟨0, by omega, by omega, by omega⟩
      · exact ⟨2, by omega, by omega, by omega⟩
      · exact ⟨1, by omega, by omega, by omega⟩
      · exact ⟨3, by omega, by omega, by omega⟩
    obtain ⟨q, hq, x, y⟩ := this
    refine ⟨q, hq, h.2.2 p (rr q) (qb l s + 64 / 2 ^ s * (q % 2)) (qb t s + 64 / 2 ^ s * (q / 2)) hp (hrr q hq).1 ⟨l, t, s, hd.1, ?_⟩ (hself q hq S (hrr q hq).2.1)⟩
    rw [← x, ← y]
    exact ⟨by omega, by omega, by omega, by omega⟩
  have hw := kF_wf h
  -- the first
  have hj1 : ∀ k, k ≤ 4 → jqF S (nI (qb l s)) (nI (qb t s)) (nI s) (nI p) k = nI (mn rr p k) ∧ mn rr p k < 40 := by
    intro k
    induction k with
    | zero => intro _; exact ⟨rfl, hp⟩
    | succ k ih =>
      intro hk
      obtain ⟨i1, i2⟩ := ih (by omega)
      have hr := (hrr k (by omega)).1
      rw [jqF, i1, hpQ S hw h.2.2 k (by omega) (hrr k (by omega)).2.1, mn]
      by_cases q : rr k < mn rr p k
      · rw [if_pos (nI_lt q (by omega)), if_pos q]; exact ⟨rfl, hr⟩
      · rw [if_neg (nI_nlt (by omega) (by omega)), if_neg q]; exact ⟨rfl, i2⟩
  have hj2 : ∀ k, k ≤ 4 → jqm F k = nI (mn rr (rr 0) k) ∧ mn rr (rr 0) k < 40 := by
    intro k
    induction k with
    | zero => intro _; exact ⟨hFr 0 (by omega), (hrr 0 (by omega)).1⟩
    | succ k ih =>
      intro hk
      obtain ⟨i1, i2⟩ := ih (by omega)
      have hr := (hrr k (by omega)).1
      rw [jqm, i1, hFr k (by omega), mn]
      by_cases q : rr k < mn rr (rr 0) k
      · rw [if_neg (nI_ge q (by omega)), if_pos q]; exact ⟨rfl, hr⟩
      · rw [if_pos (nI_le (by omega) (by omega)), if_neg q]; exact ⟨rfl, i2⟩
  obtain ⟨m, hm⟩ : ∃ m, m = mn rr (rr 0) 4 := ⟨_, rfl⟩
  have hmm : mn rr p 4 = m := by
    have x1 := mn_le rr p 4
    have x2 := mn_le rr (rr 0) 4
    have y1 : ∃ q, q < 4 ∧ mn rr p 4 = rr q := by
      rcases mn_in rr p 4 with e | e
      · obtain ⟨q, hq, e2⟩ := hpin; exact ⟨q, hq, e.trans e2⟩
      · exact e
    have y2 : ∃ q, q < 4 ∧ mn rr (rr 0) 4 = rr q := by
      rcases mn_in rr (rr 0) 4 with e | e
      · exact ⟨0, by omega, e⟩
      · exact e
    obtain ⟨q1, hq1, e1⟩ := y1
    obtain ⟨q2, hq2, e2⟩ := y2
    have z1 := x1.2 q2 hq2
    have z2 := x2.2 q1 hq1
    omega
  obtain ⟨qm, hqm, hmq⟩ : ∃ q, q < 4 ∧ m = rr q := by
    rcases mn_in rr (rr 0) 4 with e | ⟨q, hq, e⟩
    · exact ⟨0, by omega, hm.trans e⟩
    · exact ⟨q, hq, hm.trans e⟩
  have hm40 : m < 40 := by rw [hmq]; exact (hrr qm hqm).1
  have hjm : jqm F 4 = nI m := by rw [hm]; exact (hj2 4 (Nat.le_refl _)).1
  have hjf : jqFi S (nI p) = nI m := by rw [jqFi, hlA, htA, v3, (hj1 4 (Nat.le_refl _)).1, hmm]
  have hrf : ∀ q, q < 4 → rr q < f := fun q hq => (kF_rd h (hrr q hq).1 (kr_val (hrr q hq).1 (hrr q hq).2.1).1).1
  have hmf : m < f := by rw [hmq]; exact hrf qm hqm
  refine ⟨hjf.trans hjm.symm, ?_⟩
  rw [hjm]
  -- the reference's first row
  have c0 := (hrr 0 (by omega)).2.1
  have hR0 : joS R F (nI m) = upd (upd (upd (upd R (204 + 4 * m) 1) (204 + 4 * m + 1) (nI (qb l s))) (204 + 4 * m + 2) (nI (qb t s))) (204 + 4 * m + 3) (nI (s - 1)) := by
    have hF0 : F 0 = nI (rr 0) := hFr 0 (by omega)
    obtain ⟨-, -, l0, t0, s0, hd0⟩ := kF_rd h (hrr 0 (by omega)).1 (kr_val (hrr 0 (by omega)).1 c0).1
    obtain ⟨rfl, rfl, rfl⟩ := kCl_inj c0 hd0.1
    obtain ⟨m1, m2, m3, -⟩ := kr_mval (hrr 0 (by omega)).1 hd0
    rw [joS, hF0, m1, m2, m3, show (1 : Int32) = nI 1 from rfl, pk_sub hs, sPa_n (by omega)]
    rfl
  obtain ⟨Q0, hQ0⟩ : ∃ z, z = joS R F (nI m) := ⟨_, rfl⟩
  have w0 : ∀ j, (j < 204 + 4 * m ∨ 208 + 4 * m ≤ j) → Q0 j = R j := fun j hj => by
    rw [hQ0, hR0, pk_un (by omega), pk_un (by omega), pk_un (by omega), pk_un (by omega)]
  rw [← hQ0]
  have loop : ∀ k, k ≤ 4 → kCore (jqK S (nI (qb l s)) (nI (qb t s)) (nI s) (nI m) k) (jnK Q0 F a (nI m) k) a f m m ∧ kHi R (jnK Q0 F a (nI m) k) ∧
      (∀ r, (∃ q, q < k ∧ r = rr q ∧ r ≠ m) → sSc (jqK S (nI (qb l s)) (nI (qb t s)) (nI s) (nI m) k) r = -1) ∧
      (∀ r, ¬ (∃ q, q < k ∧ r = rr q ∧ r ≠ m) → sLe (jqK S (nI (qb l s)) (nI (qb t s)) (nI s) (nI m) k) r = sLe S r ∧ sTo (jqK S (nI (qb l s)) (nI (qb t s)) (nI s) (nI m) k) r = sTo S r ∧ sSc (jqK S (nI (qb l s)) (nI (qb t s)) (nI s) (nI m) k) r = sSc S r) ∧
      (∀ j, 204 + 4 * m ≤ j → j < 208 + 4 * m → jnK Q0 F a (nI m) k j = Q0 j) := by
    intro k
    induction k with
    | zero =>
      intro _
      obtain ⟨z1, z2, z3, z4, z5, z6, z7, z8, z9, z10⟩ := h.1.1
      refine ⟨⟨⟨z1, z2, z3, (w0 0 (by omega)).trans z4, (w0 1 (by omega)).trans z5, (w0 2 (by omega)).trans z6, z7, (w0 3 (by omega)).trans z8, z9, z10⟩, fun i hi => kPt_c rfl rfl rfl rfl (fun j h1 h2 => w0 j (by omega)) (kF_pts h i hi), fun r hr hrm => kPa_c rfl rfl rfl (fun j h1 h2 => w0 j (by omega)) Iff.rfl (kF_par h r hr), ?_⟩, fun j hj => w0 j (by omega), fun r ⟨q, hq, _⟩ => absurd hq (by omega), fun r _ => ⟨rfl, rfl, rfl⟩, fun j _ _ => rfl⟩
      obtain ⟨d1, d2, d3⟩ := h.1.2.2.2
      exact ⟨fun p' c hp' hc' hn => by show sD S _ = Q0 _; rw [w0 _ (by omega)]; exact d1 p' c hp' hc' (by omega), d2, d3⟩
    | succ k ih =>
      intro hk
      obtain ⟨i1, i2, i3, i4, i5⟩ := ih (by omega)
      obtain ⟨T, hT⟩ : ∃ z, z = jqK S (nI (qb l s)) (nI (qb t s)) (nI s) (nI m) k := ⟨_, rfl⟩
      obtain ⟨Q, hQ⟩ : ∃ z, z = jnK Q0 F a (nI m) k := ⟨_, rfl⟩
      rw [jqK, jnK, ← hT, ← hQ, hFr k (by omega)]
      rw [← hT] at i1 i3 i4
      rw [← hQ] at i1 i2 i5
      have hwT : kWf T := fun r hr => by
        by_cases q : ∃ q, q < k ∧ r = rr q ∧ r ≠ m
        · exact Or.inl (i3 r q)
        · obtain ⟨x1, x2, x3⟩ := i4 r q
          rcases hw r hr with y | ⟨l', t', s', y⟩
          · exact Or.inl (x3.trans y)
          · exact Or.inr ⟨l', t', s', x1.trans y.1, x2.trans y.2.1, x3.trans y.2.2.1, y.2.2.2⟩
      have hback : ∀ r x y, kInC T r x y → kInC S r x y := fun r x y hi => by
        by_cases q : ∃ q, q < k ∧ r = rr q ∧ r ≠ m
        · obtain ⟨l', t', s', y1, -⟩ := hi
          exact absurd (y1.2.2.1.symm.trans (i3 r q)) (nI_nm1 (by have := y1.2.2.2.1; omega))
        · obtain ⟨x1, x2, x3⟩ := i4 r q
          exact (kInC_c x3 x1 x2).mp hi
      have hdT : kDis T := fun r1 r2 x y h1 h2 g1 g2 => h.2.2 r1 r2 x y h1 h2 (hback r1 x y g1) (hback r2 x y g2)
      have hnk : ¬ ∃ q, q < k ∧ rr k = rr q ∧ rr k ≠ m := fun ⟨q, hq, e, _⟩ => by have := hinj k q (by omega) (by omega) e; omega
      obtain ⟨x1, x2, x3⟩ := i4 (rr k) hnk
      have hck : kCl T (rr k) (qb l s + 64 / 2 ^ s * (k % 2)) (qb t s + 64 / 2 ^ s * (k / 2)) s := by
        have y := (hrr k (by omega)).2.1
        exact ⟨x1.trans y.1, x2.trans y.2.1, x3.trans y.2.2.1, y.2.2.2⟩
      rw [hpQ T hwT hdT k (by omega) hck]
      have hr40 := (hrr k (by omega)).1
      by_cases e : rr k = m
      · rw [e, abS, if_pos rfl, if_pos rfl]
        have hiff : ∀ r, (∃ q, q < k + 1 ∧ r = rr q ∧ r ≠ m) ↔ (∃ q, q < k ∧ r = rr q ∧ r ≠ m) := fun r => by
          constructor
          · rintro ⟨q, hq, e1, e2⟩
            by_cases eq : q = k
            · subst eq; exact absurd (e1.trans e) e2
            · exact ⟨q, by omega, e1, e2⟩
          · rintro ⟨q, hq, e1⟩; exact ⟨q, by omega, e1⟩
        exact ⟨i1, i2, fun r hr => i3 r ((hiff r).mp hr), fun r hr => i4 r (fun hh => hr ((hiff r).mpr hh)), i5⟩
      · rw [if_neg (fun hh => e ((nI_eq (by omega) (by omega)).mp hh))]
        obtain ⟨g1, g2, g3, g4, g5, g6⟩ := k_dis i1 hr40 (hrf k (by omega)) hm40 hmf e (kr_val hr40 hck).1
        refine ⟨g1, kHi_t i2 g2, fun r ⟨q, hq, e1, e2⟩ => ?_, fun r hr => ?_, fun j h1 h2 => (g3 j h1 h2).trans (i5 j h1 h2)⟩
        · rw [g6]
          by_cases er : r = rr k
          · subst er; exact pk_us
          · rw [pk_un er]
            have : q ≠ k := fun eq => by subst eq; exact er e1
            exact i3 r ⟨q, by omega, e1, e2⟩
        · have er : r ≠ rr k := fun er => hr ⟨k, by omega, er, by rw [er]; exact e⟩
          rw [g4, g5, g6, pk_un er]
          exact i4 r (fun ⟨q, hq, e1⟩ => hr ⟨q, by omega, e1⟩)
  obtain ⟨i1, i2, i3, i4, i5⟩ := loop 4 (Nat.le_refl _)
  obtain ⟨T, hT⟩ : ∃ z, z = jqK S (nI (qb l s)) (nI (qb t s)) (nI s) (nI m) 4 := ⟨_, rfl⟩
  obtain ⟨Q, hQ⟩ : ∃ z, z = jnK Q0 F a (nI m) 4 := ⟨_, rfl⟩
  rw [← hT] at i1 i3 i4
  rw [← hQ] at i1 i2 i5 ⊢
  have hS : jqS S (nI p) = uSc (uTo (uLe T (upd (sLe T) m (nI (qb l s)))) (upd (sTo T) m (nI (qb t s)))) (upd (sSc T) m (nI (s - 1))) := by
    rw [jqS, hjf, hlA, htA, v3, ← hT, gvS, rGiv_n hm40, rGiv_n hm40, rGiv_n hm40, show (1 : Int32) = nI 1 from rfl, pk_sub hs]
  have hW : joW Q (nI m) = upd Q (364 + 40 * m + m) 0 := by
    rw [joW, dO_n (by omega) (by omega), oW_n (by omega) (by omega), i_an]
  rw [hW]
  obtain ⟨S', hS'⟩ : ∃ z, z = jqS S (nI p) := ⟨_, rfl⟩
  rw [← hS'] at hS ⊢
  have hcel : kCel (qb l s) (qb t s) (s - 1) := by
    have hs4 : s < 5 := by have := hcl.1; omega
    have e2 : 64 / 2 ^ (s - 1) = 2 * (64 / 2 ^ s) := by
      have := (quD (s - 1) (by omega)).1
      rwa [show s - 1 + 1 = s by omega] at this
    exact ⟨by omega, by omega, by omega, by rw [e2]; exact b1.2.2.1, by rw [e2]; exact b2.2.2.1⟩
  have w1 : ∀ r, r ≠ m → sLe S' r = sLe T r ∧ sTo S' r = sTo T r ∧ sSc S' r = sSc T r := fun r hr => by
    rw [hS]; exact ⟨pk_un hr, pk_un hr, pk_un hr⟩
  have w2 : kCl S' m (qb l s) (qb t s) (s - 1) := by rw [hS]; exact ⟨pk_us, pk_us, pk_us, hcel⟩
  have e2 : 64 / 2 ^ (s - 1) = 2 * (64 / 2 ^ s) := by
    have := (quD (s - 1) (by have := hcl.1; omega)).1
    rwa [show s - 1 + 1 = s by omega] at this
  have hQm : ∀ j, 204 + 4 * m ≤ j → j < 208 + 4 * m → upd Q (364 + 40 * m + m) 0 j = Q0 j := fun j h1 h2 => by rw [pk_un (by omega)]; exact i5 j h1 h2
  have old : ∀ r x y, r ≠ m → ((∀ q, q < 4 → r ≠ rr q) → (kInC S' r x y ↔ kInC S r x y)) ∧ ((∃ q, q < 4 ∧ r = rr q) → ¬ kInC S' r x y) := fun r x y hrm => by
    obtain ⟨x1, x2, x3⟩ := w1 r hrm
    refine ⟨fun hq => ?_, fun ⟨q, hq, e⟩ hi => ?_⟩
    · obtain ⟨y1, y2, y3⟩ := i4 r (fun ⟨q, hq1, e, _⟩ => hq q hq1 e)
      exact kInC_c (x3.trans y3) (x1.trans y1) (x2.trans y2)
    · obtain ⟨l', t', s', y1, -⟩ := hi
      exact absurd (y1.2.2.1.symm.trans (x3.trans (i3 r ⟨q, hq, e, hrm⟩))) (nI_nm1 (by have := y1.2.2.2.1; omega))
  have hs3 : s - 1 < 4 := by have := hcl.1; omega
  refine ⟨⟨⟨?_, fun i hi => ?_, fun r hr _ => ?_, ?_⟩, fun x y hx hy => ?_, fun r1 r2 x y h1 h2 g1 g2 => ?_⟩, fun j hj => by rw [pk_un (by omega)]; exact i2 j hj⟩
  · obtain ⟨z1, z2, z3, z4, z5, z6, z7, z8, z9, z10⟩ := i1.1
    rw [hS]
    exact ⟨z1, z2, z3, (pk_un (by omega)).trans z4, (pk_un (by omega)).trans z5, (pk_un (by omega)).trans z6, z7, (pk_un (by omega)).trans z8, z9, z10⟩
  · rw [hS]; exact kPt_c (S := T) (R := Q) rfl rfl rfl rfl (fun j h1 h2 => pk_un (by omega)) (i1.2.1 i hi)
  · by_cases e : r = m
    · subst e
      refine Or.inr ⟨hmf, ?_, _, _, _, w2, ?_, ?_, ?_⟩
      · rw [hQm _ (by omega) (by omega), hQ0, hR0, pk_un (by omega), pk_un (by omega), pk_un (by omega), pk_us]
      · rw [hQm _ (by omega) (by omega), hQ0, hR0, pk_un (by omega), pk_un (by omega), pk_us]
      · rw [hQm _ (by omega) (by omega), hQ0, hR0, pk_un (by omega), pk_us]
      · rw [hQm _ (by omega) (by omega), hQ0, hR0, pk_us]
    · obtain ⟨x1, x2, x3⟩ := w1 r e
      exact kPa_c x3 x1 x2 (fun j h1 h2 => pk_un (by omega)) Iff.rfl (i1.2.2.1 r hr e)
  · obtain ⟨d1, d2, d3⟩ := i1.2.2.2
    rw [hS]
    refine ⟨fun p' c hp' hc' _ => ?_, d2, d3⟩
    show sD T _ = _
    by_cases e : 40 * p' + c = 40 * m + m
    · have q1 : p' = m := by omega
      have q2 : c = m := by omega
      subst q1; subst q2
      rw [pk_us]; exact d2 _ hp'
    · rw [pk_un (by omega)]; exact d1 p' c hp' hc' (by omega)
  · obtain ⟨r, hr, g⟩ := h.2.1 x y hx hy
    by_cases hq : ∃ q, q < 4 ∧ r = rr q
    · obtain ⟨q, hq, e⟩ := hq
      subst e
      obtain ⟨l', t', s', y1, y2⟩ := g
      obtain ⟨rfl, rfl, rfl⟩ := kCl_inj (hrr q hq).2.1 y1
      refine ⟨m, hm40, _, _, _, w2, quO hs3 hq ?_⟩
      rw [show s' - 1 + 1 = s' by omega]; exact y2
    · have hq' : ∀ q, q < 4 → r ≠ rr q := fun q h1 h2 => hq ⟨q, h1, h2⟩
      have hrm : r ≠ m := by rw [hmq]; exact hq' qm hqm
      exact ⟨r, hr, ((old r x y hrm).1 hq').mpr g⟩
  · have big : ∀ r, r < 40 → r ≠ m → kInC S' r x y → kInC S' m x y → False := fun r hr hrm k1 k2 => by
      by_cases hq : ∃ q, q < 4 ∧ r = rr q
      · exact (old r x y hrm).2 hq k1
      · have hq' : ∀ q, q < 4 → r ≠ rr q := fun q h1 h2 => hq ⟨q, h1, h2⟩
        have k3 := ((old r x y hrm).1 hq').mp k1
        obtain ⟨l', t', s', y1, y2⟩ := k2
        obtain ⟨rfl, rfl, rfl⟩ := kCl_inj w2 y1
        obtain ⟨q, hq4, y3⟩ := quI hs3 y2
        rw [show s - 1 + 1 = s by omega] at y3
        exact hq' q hq4 (h.2.2 r (rr q) x y hr (hrr q hq4).1 k3 ⟨_, _, _, (hrr q hq4).2.1, y3⟩)
    by_cases e1 : r1 = m
    · subst e1
      by_cases e3 : r2 = r1
      · exact e3.symm
      · exact (big r2 h2 e3 g2 g1).elim
    · by_cases e3 : r2 = m
      · subst e3; exact (big r1 h1 e1 g1 g2).elim
      · have n1 : ∀ q, q < 4 → r1 ≠ rr q := fun q hq e => (old r1 x y e1).2 ⟨q, hq, e⟩ g1
        have n2 : ∀ q, q < 4 → r2 ≠ rr q := fun q hq e => (old r2 x y e3).2 ⟨q, hq, e⟩ g2
        exact h.2.2 r1 r2 x y h1 h2 (((old r1 x y e1).1 n1).mp g1) (((old r2 x y e3).1 n2).mp g2)
end KN
