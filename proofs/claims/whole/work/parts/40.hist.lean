/-! the two sides: the kept states, and the facts that the law's walk asks for -/
def kSl (R : FI) (o : Nat) : FI := fun j => R (o + j)
def kSt (S0 S1 S2 S3 S4 : CS) : Nat → CS
  | 0 => S0
  | 1 => S1
  | 2 => S2
  | 3 => S3
  | _ => S4
def kJ (S : CS) (n : Int32) (S0 S1 S2 S3 S4 : CS) (M : MS) : Prop := ∃ k : Nat, k ≤ 5 ∧ n = nI k ∧ mK M = nI k ∧ (∃ a f, kFull S (mR M) a f) ∧ ∀ j, j < k → ∃ a f, kFull (kSt S0 S1 S2 S3 S4 j) (kSl (mR M) (1964 * (k - j))) a f
theorem kFull_lo {S : CS} {R Q : FI} {a f : Nat} (h : kFull S R a f) (e : ∀ j, j < 1964 → Q j = R j) : kFull S Q a f := by
  obtain ⟨⟨⟨b1, b2, b3, b4, b5, b6, b7, b8, b9, b10⟩, hpt, hpa, hd⟩, hc, hdi⟩ := h
  exact ⟨⟨⟨b1, b2, b3, (e 0 (by omega)).trans b4, (e 1 (by omega)).trans b5, (e 2 (by omega)).trans b6, b7, (e 3 (by omega)).trans b8, b9, b10⟩, fun i hi => kPt_c rfl rfl rfl rfl (fun j h1 h2 => e j (by omega)) (hpt i hi), fun p hp hq => kPa_c rfl rfl rfl (fun j h1 h2 => e j (by omega)) Iff.rfl (hpa p hp hq), kDeb_c (fun _ _ => rfl) (fun j h1 h2 => e j h2) (Nat.le_refl _) hd⟩, hc, hdi⟩
theorem cps_v {R : FI} {x y : Nat} (hx : x + 1964 ≤ 11784) (hy : y + 1964 ≤ 11784) (hd : x + 1964 ≤ y ∨ y + 1964 ≤ x) : ∀ k, k ≤ 1964 → ∀ j, cps R (nI x) (nI y) k j = if y ≤ j ∧ j < y + k then R (x + (j - y)) else R j
  | 0, _, j => by rw [cps, if_neg (by omega)]
  | k + 1, hk, j => by
    rw [cps, nI_add, nI_add, nI_clamp (by omega), nI_clamp (by omega)]
    by_cases e : j = y + k
    · subst e
      rw [pk_us, cps_v hx hy hd k (by omega), if_neg (by omega), if_pos (by omega)]
      exact congrArg R (by omega)
    · rw [pk_un e, cps_v hx hy hd k (by omega) j]
      by_cases q : y ≤ j ∧ j < y + k
      · rw [if_pos q, if_pos (by omega)]
      · rw [if_neg q, if_neg (by omega)]
theorem rec_5 (R : FI) : ∀ j, recR R (nI 5) j = if 9820 ≤ j ∧ j < 11784 then R (j - 9820) else if 1964 ≤ j ∧ j < 9820 then R (j + 1964) else R j := by
  intro j
  rw [recR, if_pos (by decide), show (3928 : Int32) = nI 3928 from rfl, show (1964 : Int32) = nI 1964 from rfl, show (5892 : Int32) = nI 5892 from rfl, show (7856 : Int32) = nI 7856 from rfl, show (9820 : Int32) = nI 9820 from rfl, show (nI 1964 : Int32) * (nI 5 - 1 + 1) = nI 9820 from by decide, show (0 : Int32) = nI 0 from rfl]
  rw [cps_v (by omega) (by omega) (by omega) 1964 (Nat.le_refl _)]
  by_cases q : 9820 ≤ j ∧ j < 11784
  · rw [if_pos q, if_pos (by omega), cps_v (by omega) (by omega) (by omega) 1964 (Nat.le_refl _), if_neg (by omega), cps_v (by omega) (by omega) (by omega) 1964 (Nat.le_refl _), if_neg (by omega), cps_v (by omega) (by omega) (by omega) 1964 (Nat.le_refl _), if_neg (by omega), cps_v (by omega) (by omega) (by omega) 1964 (Nat.le_refl _), if_neg (by omega)]
    exact congrArg R (by omega)
  · rw [if_neg q, if_neg (by omega), cps_v (by omega) (by omega) (by omega) 1964 (Nat.le_refl _)]
    by_cases q4 : 7856 ≤ j ∧ j < 9820
    · rw [if_pos (by omega), if_pos (by omega), cps_v (by omega) (by omega) (by omega) 1964 (Nat.le_refl _), if_neg (by omega), cps_v (by omega) (by omega) (by omega) 1964 (Nat.le_refl _), if_neg (by omega), cps_v (by omega) (by omega) (by omega) 1964 (Nat.le_refl _), if_neg (by omega)]
      exact congrArg R (by omega)
    · rw [if_neg (by omega), cps_v (by omega) (by omega) (by omega) 1964 (Nat.le_refl _)]
      by_cases q3 : 5892 ≤ j ∧ j < 7856
      · rw [if_pos (by omega), if_pos (by omega), cps_v (by omega) (by omega) (by omega) 1964 (Nat.le_refl _), if_neg (by omega), cps_v (by omega) (by omega) (by omega) 1964 (Nat.le_refl _), if_neg (by omega)]
        exact congrArg R (by omega)
      · rw [if_neg (by omega), cps_v (by omega) (by omega) (by omega) 1964 (Nat.le_refl _)]
        by_cases q2 : 3928 ≤ j ∧ j < 5892
        · rw [if_pos (by omega), if_pos (by omega), cps_v (by omega) (by omega) (by omega) 1964 (Nat.le_refl _), if_neg (by omega)]
          exact congrArg R (by omega)
        · rw [if_neg (by omega), cps_v (by omega) (by omega) (by omega) 1964 (Nat.le_refl _)]
          by_cases q1 : 1964 ≤ j ∧ j < 3928
          · rw [if_pos (by omega), if_pos (by omega)]
            exact congrArg R (by omega)
          · rw [if_neg (by omega), if_neg (by omega)]
theorem rec_n (R : FI) {k : Nat} (hk : k < 5) : ∀ j, recR R (nI k) j = if 1964 * (k + 1) ≤ j ∧ j < 1964 * (k + 1) + 1964 then R (j - 1964 * (k + 1)) else R j := by
  intro j
  have hne : ¬ (nI k : Int32) = 5 := fun e => by have := (nI_eq (a := k) (b := 5) (by omega) (by omega)).mp e; omega
  rw [recR, if_neg hne, show (1964 : Int32) = nI 1964 from rfl, nI_1, pk_mul, show (0 : Int32) = nI 0 from rfl, cps_v (by omega) (by omega) (by omega) 1964 (Nat.le_refl _), Nat.zero_add]
theorem kJ_act {S S' S0 S1 S2 S3 S4 : CS} {n : Int32} {M : MS} {Q : FI} (h : kJ S n S0 S1 S2 S3 S4 M) (h1 : ∃ a f, kFull S' Q a f) (h2 : kHi (recR (mR M) (mK M)) Q) : kJ S' (z_minH n) S S0 S1 S2 S3 (uK (uR M Q) (recK (mK M))) := by
  obtain ⟨k, hk, e1, e2, ⟨a, f, h3⟩, h4⟩ := h
  rw [e1, e2]
  rw [e2] at h2
  by_cases h5 : k = 5
  · subst h5
    refine ⟨5, Nat.le_refl _, by decide, (by decide : recK (nI 5) = nI 5), h1, fun j hj => ?_⟩
    show ∃ a f, kFull (kSt S S0 S1 S2 S3 j) (kSl Q (1964 * (5 - j))) a f
    have hr : ∀ i, i < 1964 → kSl Q (1964 * (5 - j)) i = if j = 0 then mR M i else mR M (1964 * (6 - j) + i) := fun i hi => by
      rw [kSl, h2 _ (by omega), rec_5]
      by_cases e : j = 0
      · subst e; rw [if_pos (by omega), if_pos rfl]; exact congrArg (mR M) (by omega)
      · rw [if_neg (by omega), if_pos (by omega), if_neg e]; exact congrArg (mR M) (by omega)
    rcases Nat.eq_zero_or_pos j with e | e
    · subst e
      exact ⟨a, f, kFull_lo h3 (fun i hi => by rw [hr i hi, if_pos rfl])⟩
    · obtain ⟨a', f', g⟩ := h4 (j - 1) (by omega)
      have es : kSt S S0 S1 S2 S3 j = kSt S0 S1 S2 S3 S4 (j - 1) := by
        rcases (show j = 1 ∨ j = 2 ∨ j = 3 ∨ j = 4 by omega) with rfl | rfl | rfl | rfl <;> rfl
      rw [es]
      exact ⟨a', f', kFull_lo g (fun i hi => by rw [hr i hi, if_neg (by omega), kSl]; exact congrArg (mR M) (by omega))⟩
  · have hk5 : k < 5 := by omega
    have hmin : z_minH (nI k) = nI (k + 1) := by
      rw [z_minH, nI_1, if_neg (show ¬ (5 : Int32) < nI (k + 1) from nI_nlt (a := 5) (b := k + 1) (by omega) (by omega))]
    have hrec : recK (nI k) = nI (k + 1) := by
      rw [recK, if_neg (show ¬ (nI k : Int32) = 5 from fun e => h5 ((nI_eq (a := k) (b := 5) (by omega) (by omega)).mp e)), nI_1]
    refine ⟨k + 1, by omega, hmin, hrec, h1, fun j hj => ?_⟩
    show ∃ a f, kFull (kSt S S0 S1 S2 S3 j) (kSl Q (1964 * (k + 1 - j))) a f
    rcases Nat.eq_zero_or_pos j with e | e
    · subst e
      exact ⟨a, f, kFull_lo h3 (fun i hi => by rw [kSl, h2 _ (by omega), rec_n _ hk5, if_pos (by omega)]; exact congrArg (mR M) (by omega))⟩
    · obtain ⟨a', f', g⟩ := h4 (j - 1) (by omega)
      have es : kSt S S0 S1 S2 S3 j = kSt S0 S1 S2 S3 S4 (j - 1) := by
        rcases (show j = 1 ∨ j = 2 ∨ j = 3 ∨ j = 4 by omega) with rfl | rfl | rfl | rfl <;> rfl
      rw [es]
      exact ⟨a', f', kFull_lo g (fun i hi => by rw [kSl, h2 _ (by omega), rec_n _ hk5, if_neg (by omega), kSl]; exact congrArg (mR M) (by omega))⟩
theorem kJ_full {S S0 S1 S2 S3 S4 : CS} {n : Int32} {M : MS} {a f : Nat} (h : kJ S n S0 S1 S2 S3 S4 M) (hA : mOk (mR M) a f) : kFull S (mR M) a f := by
  obtain ⟨k, hk, e1, e2, ⟨a', f', h3⟩, h4⟩ := h
  have q1 : a = a' := (nI_eq (by have := hA.1; omega) (by have := kF_a h3; omega)).mp (hA.2.2.1.symm.trans (kF_2 h3))
  have q2 : f = f' := (nI_eq (by have := hA.2.1; omega) (by have := kF_f h3; omega)).mp (hA.2.2.2.1.symm.trans (kF_3 h3))
  subst q1; subst q2
  exact h3
theorem kJ_rec {S S0 S1 S2 S3 S4 : CS} {n : Int32} {M : MS} {a f : Nat} (h : kJ S n S0 S1 S2 S3 S4 M) (hA : mOk (mR M) a f) : kFull S (recR (mR M) (mK M)) a f := by
  have h2 := kJ_full h hA
  obtain ⟨k, hk, e1, e2, -, -⟩ := h
  exact kFull_lo h2 (fun j hj => recR_lo hk e2 hj)
theorem btw_w100 {we : Int32} (h : btw we 1 100 = true) : ∃ w : Nat, 1 ≤ w ∧ w ≤ 100 ∧ we = nI w := by
  simp [btw] at h
  have a1 := Int32.le_iff_toInt_le.mp h.1
  have a2 := Int32.le_iff_toInt_le.mp h.2
  have e1 : (1 : Int32).toInt = 1 := by decide
  have e2 : (100 : Int32).toInt = 100 := by decide
  refine ⟨we.toInt.toNat, by omega, by omega, Int32.toInt_inj.mp ?_⟩
  rw [nI_toInt (by omega)]; omega
theorem kJ_mjq {S : CS} {R R' : FI} {a f a' f' : Nat} (h : kFull S R a f) (h' : kFull S R' a' f') {p : Nat} (hp : p < 40) (he : rEx S (nI p) = true) (hc : cjR R a f (nI p) = true) {q : Nat} (hq : q < 4) : mJq R f (nI p) q = mJq R' f' (nI p) q := by
  obtain ⟨-, -, l, t, s, hd⟩ := kF_rd h hp he
  obtain ⟨-, -, l', t', s', hd'⟩ := kF_rd h' hp he
  obtain ⟨rfl, rfl, rfl⟩ := kCl_inj hd.1 hd'.1
  have hs : 1 ≤ s' := by
    rcases Nat.eq_zero_or_pos s' with e | e
    · subst e
      rw [cjR, (kr_mval hp hd).2.2.1, if_pos (by decide)] at hc
      exact absurd hc (by decide)
    · exact e
  obtain ⟨r, -, -, e1, e2⟩ := kJ_at h hp hd hs hq
  obtain ⟨r', -, -, e1', e2'⟩ := kJ_at h' hp hd' hs hq
  rw [e2, e2', ← e1, ← e1']
theorem kJ_ok : LawOK kJ := by
  refine ⟨?f0, ?fF, ?add, ?remove, ?move, ?setCrowd, ?setTithe, ?pay, ?join, ?undo, ?count, ?point, ?parish, ?debt, ?atp, ?range, ?nearest, ?inOrder, ?payable, ?cellsWith, ?joinable⟩
  case f0 =>
    intro S n S0 S1 S2 S3 S4 M h
    obtain ⟨k, hk, e1, e2, ⟨a, f, h3⟩, h4⟩ := h
    exact ⟨a, f, k, kF_mOk h3, hk, e2, kF_sc h3, fun p h1 h2 => kF_mj h3 p h1 h2⟩
  case fF => intro S n S0 S1 S2 S3 S4 M F h; exact h
  case add =>
    intro S n S0 S1 S2 S3 S4 M a f h hA u v w
    have hF := kJ_full h hA
    have ha := kF_a hF
    have hfull : pFull S = decide (mR M 2 = 40) := by
      rw [pFull, kF_ad hF, kF_2 hF, Bool.eq_iff_iff]
      simp only [Bool.not_eq_true', decide_eq_false_iff_not, decide_eq_true_eq]
      rw [show (40 : Int32) = nI 40 from rfl, nI_ltI (by omega) (by omega), nI_eq (by omega) (by omega)]
      omega
    have hok : aOk S u v w = maOk (mR M) u v w := by rw [aOk, maOk, hfull]
    refine ⟨?_, hok, fun ho => ?_⟩
    · rw [aRet, maRet, hfull]
      cases hb : (onMap u v && btw w 1 100) with
      | false => simp
      | true =>
        by_cases h40 : mR M 2 = 40
        · simp [h40]
        · have ha4 : a < 40 := a40 hA h40
          have hroom : pRoom S = true := by
            rw [pRoom, kF_ad hF, show btw (nI a) 0 39 = decide (0 ≤ a ∧ a ≤ 39) from btw_n (lo := 0) (hi := 39) (by omega) (by omega) (by omega)]
            exact decide_eq_true (by omega)
          simp [h40, hroom, kF_ad hF, kF_2 hF]
    · rw [aOk, hfull] at ho
      simp only [Bool.and_eq_true, Bool.not_eq_true', decide_eq_false_iff_not] at ho
      obtain ⟨x, y, hx, hy, rfl, rfl⟩ := onMap_n ho.1.1
      obtain ⟨wn, w1, w2, rfl⟩ := btw_w100 ho.1.2
      have ha4 : a < 40 := a40 hA ho.2
      obtain ⟨g1, g2⟩ := kU_add (kJ_rec h hA) ha4 hx hy w1 w2
      obtain ⟨f', g3, g4⟩ := k_settle 40 g1
      exact kJ_act h ⟨_, f', g3⟩ (kHi_t g2 g4)
  case remove =>
    intro S n S0 S1 S2 S3 S4 M a f h hA u
    have hF := kJ_full h hA
    have key : pEx S u = true → (∃ f', kFull (rmNew S u) (mrNew (mR M) (mK M) a u) a f') ∧ kHi (recR (mR M) (mK M)) (mrNew (mR M) (mK M) a u) := fun ho => by
      obtain ⟨g1, g2⟩ := kU_remove (kJ_rec h hA) ho
      obtain ⟨f', g3, g4⟩ := k_settle 40 g1
      exact ⟨⟨f', g3⟩, kHi_t g2 g4⟩
    refine ⟨?_, kF_pex hF u, fun ho => ?_⟩
    · rw [rmRet, mrRet, ← kF_pex hF]
      cases hb : pEx S u with
      | false => simp
      | true =>
        obtain ⟨⟨f', g⟩, -⟩ := key hb
        rw [if_pos rfl, if_pos rfl, kF_num g]
    · obtain ⟨⟨f', g⟩, g2⟩ := key ho
      exact kJ_act h ⟨_, f', g⟩ g2
  case move =>
    intro S n S0 S1 S2 S3 S4 M a f h hA u v w
    have hF := kJ_full h hA
    have hR := kJ_rec h hA
    have hok : mvOk S u v w = mmOk (mR M) u v w := by rw [mvOk, mmOk, kF_pex hF]
    refine ⟨?_, hok, fun ho => ?_⟩
    · rw [mvRet, mmRet, ← hok]
      cases hb : mvOk S u v w with
      | false => simp
      | true =>
        rw [mvOk, Bool.and_eq_true] at hb
        obtain ⟨k, hk, rfl⟩ := vp_in_of (pEx_in hb.1) (by decide)
        obtain ⟨x, y, hx, hy, rfl, rfl⟩ := onMap_n hb.2
        rw [if_pos rfl, if_pos rfl, (kU_move hR hk hb.1 hx hy).2]
    · rw [mvOk, Bool.and_eq_true] at ho
      obtain ⟨k, hk, rfl⟩ := vp_in_of (pEx_in ho.1) (by decide)
      obtain ⟨x, y, hx, hy, rfl, rfl⟩ := onMap_n ho.2
      obtain ⟨⟨g1, g2⟩, -⟩ := kU_move hR hk ho.1 hx hy
      obtain ⟨f', g3, g4⟩ := k_settle 40 g1
      exact kJ_act h ⟨_, f', g3⟩ (kHi_t g2 g4)
  case setCrowd =>
    intro S n S0 S1 S2 S3 S4 M a f h hA u
    have hR := kJ_rec h hA
    refine ⟨by rw [scRet, mcRet, kF_0 hR], rfl, fun ho => ?_⟩
    obtain ⟨g1, g2⟩ := kU_crowd hR u
    obtain ⟨f', g3, g4⟩ := k_settle 40 g1
    exact kJ_act h ⟨_, f', g3⟩ (kHi_t g2 g4)
  case setTithe =>
    intro S n S0 S1 S2 S3 S4 M a f h hA u
    have hR := kJ_rec h hA
    refine ⟨by rw [stRet, mtRet, kF_1 hR], rfl, fun ho => ?_⟩
    obtain ⟨g1, g2⟩ := kU_tithe hR ho
    obtain ⟨f', g3, g4⟩ := k_settle 40 g1
    exact kJ_act h ⟨_, f', g3⟩ (kHi_t g2 g4)
  case pay =>
    intro S n S0 S1 S2 S3 S4 M a f h hA u
    have hF := kJ_full h hA
    have hR := kJ_rec h hA
    refine ⟨?_, kF_rex hF u, fun ho => ?_⟩
    · rw [pyRet, mpyRet, ← kF_rex hF]
      cases hb : rEx S u with
      | false => simp
      | true =>
        obtain ⟨k, hk, rfl⟩ := vp_in_of (rEx_in hb) (by decide)
        rw [if_pos rfl, if_pos rfl, (kY_pay hR hk hb).1]
    · obtain ⟨k, hk, rfl⟩ := vp_in_of (rEx_in ho) (by decide)
      obtain ⟨-, g1, g2⟩ := kY_pay hR hk ho
      obtain ⟨f', g3, g4⟩ := k_settle 40 g1
      exact kJ_act h ⟨_, f', g3⟩ (kHi_t g2 g4)
  case join =>
    intro S n S0 S1 S2 S3 S4 M a f h hA u
    have hF := kJ_full h hA
    have hR := kJ_rec h hA
    have hok : joOk S u = (iR (mR M) u && cjR (mR M) a f u) := by
      rw [joOk, ← kF_rex hF]
      cases hb : rEx S u with
      | false => rfl
      | true =>
        obtain ⟨k, hk, rfl⟩ := vp_in_of (rEx_in hb) (by decide)
        rw [kF_cj hF hk, ← kF_rex hF, hb, Bool.true_and]
    have key : joOk S u = true → jqFi S u = jqm (cjF (mR M) f u (mF M)) 4 ∧ kFull (jqS S u) (joW (jnK (joS (recR (mR M) (mK M)) (cjF (mR M) f u (mF M)) (jqm (cjF (mR M) f u (mF M)) 4)) (cjF (mR M) f u (mF M)) a (jqm (cjF (mR M) f u (mF M)) 4) 4) (jqm (cjF (mR M) f u (mF M)) 4)) a f ∧ kHi (recR (mR M) (mK M)) (joW (jnK (joS (recR (mR M) (mK M)) (cjF (mR M) f u (mF M)) (jqm (cjF (mR M) f u (mF M)) 4)) (cjF (mR M) f u (mF M)) a (jqm (cjF (mR M) f u (mF M)) 4) 4) (jqm (cjF (mR M) f u (mF M)) 4)) := fun ho => by
      have ho2 := ho
      rw [joOk, Bool.and_eq_true] at ho2
      obtain ⟨k, hk, rfl⟩ := vp_in_of (rEx_in ho2.1) (by decide)
      have hc1 : cjR (mR M) a f (nI k) = true := by
        have := ho2.2
        rw [kF_cj hF hk, Bool.and_eq_true] at this
        exact this.2
      have hc2 : cjR (recR (mR M) (mK M)) a f (nI k) = true := by
        have := ho2.2
        rw [kF_cj hR hk, Bool.and_eq_true] at this
        exact this.2
      refine k_join hR hk ho2.1 hc2 _ (fun j hj => ?_)
      have hn0 : ¬ qA (mR M) (nI k) 3 = 0 := fun e => by rw [cjR, if_pos e] at hc1; exact absurd hc1 (by decide)
      rw [cjF, if_neg hn0, mFo_at 4 (Nat.le_refl _) j hj]
      exact kJ_mjq hF hR hk ho2.1 hc1 hj
    refine ⟨?_, hok, fun ho => ?_⟩
    · rw [joRet, mjRet, ← kF_rex hF]
      cases hb : rEx S u with
      | false => simp
      | true =>
        have e : cj S u = cjR (mR M) a f u := by
          rw [joOk, hb, ← kF_rex hF, hb, Bool.true_and, Bool.true_and] at hok
          exact hok
        rw [if_pos rfl, if_pos rfl, ← e]
        cases hc : cj S u with
        | false => simp
        | true =>
          rw [if_pos rfl, if_pos rfl, (key (by rw [joOk, hb, hc]; rfl)).1]
    · obtain ⟨-, g1, g2⟩ := key ho
      obtain ⟨f', g3, g4⟩ := k_settle 40 g1
      exact kJ_act h ⟨_, f', g3⟩ (kHi_t g2 g4)
  case undo =>
    intro S n S0 S1 S2 S3 S4 M a f h hA
    obtain ⟨k, hk, e1, e2, ⟨a', f', h3⟩, h4⟩ := h
    rw [e1, e2]
    refine ⟨?_, Iff.rfl, fun hn => ?_⟩
    · rw [muRet]
      by_cases hz : (nI k : Int32) = 0
      · rw [hz]; decide
      · have hk1 : 1 ≤ k := by
          rcases Nat.eq_zero_or_pos k with e | e
          · subst e; exact absurd rfl hz
          · exact e
        rw [decide_eq_false hz, if_neg hz, if_neg (by decide), z_maxH, show (1 : Int32) = nI 1 from rfl, pk_sub hk1, if_neg (nI_pos (by omega))]
    · have hk1 : 1 ≤ k := by
        rcases Nat.eq_zero_or_pos k with e | e
        · subst e; exact absurd rfl hn
        · exact e
      have hmax : z_maxH (nI k) = nI (k - 1) := by rw [z_maxH, show (1 : Int32) = nI 1 from rfl, pk_sub hk1, if_neg (nI_pos (by omega))]
      have hsub : (nI k : Int32) - 1 = nI (k - 1) := by rw [show (1 : Int32) = nI 1 from rfl, pk_sub hk1]
      have hto : (1964 : Int32) * nI k = nI (1964 * k) := by rw [show (1964 : Int32) = nI 1964 from rfl, pk_mul]
      have hv : ∀ j, cps (mR M) (1964 * nI k) 0 1964 j = if j < 1964 then mR M (1964 * k + j) else mR M j := fun j => by
        rw [hto, show (0 : Int32) = nI 0 from rfl, cps_v (by omega) (by omega) (by omega) 1964 (Nat.le_refl _)]
        by_cases q : j < 1964
        · rw [if_pos (by omega), if_pos q]; rfl
        · rw [if_neg (by omega), if_neg q]
      refine ⟨k - 1, by omega, hmax, hsub, ?_, fun j hj => ?_⟩
      · obtain ⟨a0, f0, g⟩ := h4 0 (by omega)
        exact ⟨a0, f0, kFull_lo g (fun i hi => by show cps (mR M) (1964 * nI k) 0 1964 i = _; rw [hv, if_pos hi]; rfl)⟩
      · obtain ⟨a0, f0, g⟩ := h4 (j + 1) (by omega)
        have es : kSt S1 S2 S3 S4 S0 j = kSt S0 S1 S2 S3 S4 (j + 1) := by
          rcases (show j = 0 ∨ j = 1 ∨ j = 2 ∨ j = 3 by omega) with rfl | rfl | rfl | rfl <;> rfl
        rw [es]
        exact ⟨a0, f0, kFull_lo g (fun i hi => by
          show cps (mR M) (1964 * nI k) 0 1964 _ = _
          rw [hv, if_neg (by omega), kSl]; exact congrArg (mR M) (by omega))⟩
  case count =>
    intro S n S0 S1 S2 S3 S4 M a f h hA u fq
    have e : n = mK M := by obtain ⟨k, hk, e1, e2, -, -⟩ := h; rw [e1, e2]
    rw [e]
    exact kF_count (kJ_full h hA) _ _ _
  case point => intro S n S0 S1 S2 S3 S4 M a f h hA u v; exact kF_point (kJ_full h hA) u v
  case parish => intro S n S0 S1 S2 S3 S4 M a f h hA u v; exact kF_parish (kJ_full h hA) u v
  case debt => intro S n S0 S1 S2 S3 S4 M a f h hA u v; exact kF_debt (kJ_full h hA) u v
  case atp => intro S n S0 S1 S2 S3 S4 M a f h hA u v; exact kF_atR (kJ_full h hA) u v
  case range => intro S n S0 S1 S2 S3 S4 M a f h hA u v w x y; exact kF_range (kJ_full h hA) u v w x y
  case nearest => intro S n S0 S1 S2 S3 S4 M a f h hA u v; exact kF_nearest (kJ_full h hA) u v
  case inOrder => intro S n S0 S1 S2 S3 S4 M a f h hA u; exact kF_inOrder (kJ_full h hA) u
  case payable => intro S n S0 S1 S2 S3 S4 M a f h hA u; exact kF_payable (kJ_full h hA) u
  case cellsWith => intro S n S0 S1 S2 S3 S4 M a f h hA u; exact kF_cellsWith (kJ_full h hA) u
  case joinable => intro S n S0 S1 S2 S3 S4 M a f h hA; exact kF_joinable (kJ_full h hA)
/-! the start -/
theorem flS_v : ∀ k, k ≤ 40 → ∀ j, flS k j = if j < k then -1 else 0
  | 0, _, j => by rw [flS, if_neg (by omega)]; rfl
  | k + 1, hk, j => by
    rw [flS, nI_clamp (by omega)]
    by_cases e : j = k
    · subst e; rw [pk_us, if_pos (by omega)]
    · rw [pk_un e, flS_v k (by omega) j]
      by_cases q : j < k
      · rw [if_pos q, if_pos (by omega)]
      · rw [if_neg q, if_neg (by omega)]
theorem mR0_v (j : Nat) : mR0 j = if j = 204 then 1 else if j = 3 then 1 else if j = 1 then 3 else if j = 0 then 4 else 0 := by
  rw [mR0, show (0 : Int32).toNatClampNeg = 0 from by decide, show (1 : Int32).toNatClampNeg = 1 from by decide, show (3 : Int32).toNatClampNeg = 3 from by decide, show (204 : Int32).toNatClampNeg = 204 from by decide]
  rfl
theorem kJ_0 : kJ cC0 0 cC0 cC0 cC0 cC0 cC0 mM0 := by
  have hsc : ∀ p, p < 40 → sSc cC0 p = if p = 0 then 0 else -1 := fun p hp => by
    show upd (flS 40) (0 : Int32).toNatClampNeg 0 p = _
    rw [show (0 : Int32).toNatClampNeg = 0 from by decide]
    by_cases e : p = 0
    · subst e; rw [pk_us]; rfl
    · rw [pk_un e, flS_v 40 (Nat.le_refl _), if_pos hp, if_neg e]
  have hle : sLe cC0 0 = 0 := by show upd zzF (0 : Int32).toNatClampNeg 0 0 = _; rw [show (0 : Int32).toNatClampNeg = 0 from by decide, pk_us]
  have hto : sTo cC0 0 = 0 := hle
  have hcl : kCl cC0 0 0 0 0 := ⟨hle, hto, by rw [hsc 0 (by omega)]; rfl, by unfold kCel; decide⟩
  have hno : ∀ p x y, p < 40 → kInC cC0 p x y → p = 0 := fun p x y hp ⟨l, t, s, h1, _⟩ => by
    by_cases e : p = 0
    · exact e
    · have h2 := h1.2.2.1
      rw [hsc p hp, if_neg e] at h2
      exact absurd h2.symm (nI_nm1 (by have := h1.2.2.2.1; omega))
  refine ⟨0, by omega, rfl, rfl, ⟨0, 1, ⟨⟨by omega, by omega, by omega, ?_, ?_, ?_, rfl, ?_, rfl, 3, by omega, by omega, rfl⟩, fun i hi => Or.inl ⟨rfl, fun h => absurd h (by omega)⟩, fun p hp _ => ?_, ⟨fun p c hp hc _ => ?_, fun p hp => rfl, fun p c h1 h2 h3 => rfl⟩⟩, fun x y hx hy => ⟨0, by omega, 0, 0, 0, hcl, by omega, by show x < 0 + 64 / 2 ^ 0; omega, by omega, by show y < 0 + 64 / 2 ^ 0; omega⟩, fun p q x y hp hq h1 h2 => (hno p x y hp h1).trans (hno q x y hq h2).symm⟩, fun j hj => absurd hj (by omega)⟩
  · show mR0 0 = _; rw [mR0_v]; rfl
  · show mR0 1 = _; rw [mR0_v]; rfl
  · show mR0 2 = _; rw [mR0_v]; rfl
  · show mR0 3 = _; rw [mR0_v]; rfl
  · by_cases e : p = 0
    · subst e
      refine Or.inr ⟨by omega, ?_, 0, 0, 0, hcl, ?_, ?_, ?_⟩
      · show mR0 (204 + 4 * 0) = _; rw [mR0_v]; rfl
      · show mR0 (204 + 4 * 0 + 1) = _; rw [mR0_v]; rfl
      · show mR0 (204 + 4 * 0 + 2) = _; rw [mR0_v]; rfl
      · show mR0 (204 + 4 * 0 + 3) = _; rw [mR0_v]; rfl
    · exact Or.inl ⟨by rw [hsc p hp, if_neg e], fun h => absurd h (by omega)⟩
  · show zzF (40 * p + c) = mR0 (364 + 40 * p + c)
    rw [mR0_v, if_neg (by omega), if_neg (by omega), if_neg (by omega), if_neg (by omega)]; rfl
