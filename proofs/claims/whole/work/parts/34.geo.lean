/-! the two sides answer alike: what could be joined, the order of cells -/
def cb (g : Nat → Bool) : Nat → Nat
  | 0 => 0
  | n + 1 => cb g n + (if g n then 1 else 0)
theorem cb_le (g : Nat → Bool) : ∀ n, cb g n ≤ n
  | 0 => Nat.le_refl _
  | n + 1 => by have := cb_le g n; rw [cb]; split <;> omega
theorem cb_mono {g h : Nat → Bool} : ∀ n, (∀ j, j < n → g j = true → h j = true) → cb g n ≤ cb h n
  | 0, _ => Nat.le_refl _
  | n + 1, hh => by
    have h1 := cb_mono (g := g) (h := h) n (fun j hj => hh j (by omega))
    have h2 := hh n (by omega)
    rw [cb, cb]
    cases hg : g n with
    | false => simp only [Bool.false_eq_true, if_false]; split <;> omega
    | true => rw [h2 hg]; simp; omega
theorem cb_lt {g h : Nat → Bool} {p : Nat} : ∀ n, p < n → (∀ j, j < n → g j = true → h j = true) → g p = false → h p = true → cb g n + 1 ≤ cb h n
  | 0, hp, _, _, _ => absurd hp (by omega)
  | n + 1, hp, hh, hg, hq => by
    rw [cb, cb]
    by_cases e : p = n
    · subst e
      have h1 := cb_mono (g := g) (h := h) p (fun j hj => hh j (by omega))
      rw [hg, hq]; simp; omega
    · have h1 := cb_lt (g := g) (h := h) n (by omega) (fun j hj => hh j (by omega)) hg hq
      have h2 := hh n (by omega)
      cases hgn : g n with
      | false => simp only [Bool.false_eq_true, if_false]; split <;> omega
      | true => rw [h2 hgn]; simp; omega
theorem cb_sum5 {g g0 g1 g2 g3 : Nat → Bool} : ∀ n, (∀ j, j < n → (if g j then 1 else 0) = (if g0 j then 1 else 0) + (if g1 j then 1 else 0) + (if g2 j then 1 else 0) + (if g3 j then 1 else 0)) → cb g n = cb g0 n + cb g1 n + cb g2 n + cb g3 n
  | 0, _ => rfl
  | n + 1, h => by
    have h1 := cb_sum5 (g := g) (g0 := g0) (g1 := g1) (g2 := g2) (g3 := g3) n (fun j hj => h j (by omega))
    have h2 := h n (by omega)
    simp only [cb]
    omega
theorem pNum_cb (S : CS) (l t r b : Int32) : ∀ n, pNum S l t r b n = nI (cb (fun k => pLies S (nI k) l t r b) n)
  | 0 => rfl
  | n + 1 => by
    rw [pNum, pNum_cb S l t r b n, cb]
    cases hp : pLies S (nI n) l t r b with
    | false => simp only [Bool.false_eq_true, if_false, Nat.add_zero]
    | true => simp only [if_true]; exact nI_1 _
theorem quA : ∀ q, q < 4 → (nI q &&& 1 : Int32) = nI (q % 2) ∧ nI q >>> ((1 : Int32) &&& 31) = nI (q / 2) := by decide +kernel
theorem laA : ∀ s, s < 5 → 1 ≤ s → ∀ l, l < 64 → l % (64 / 2 ^ s) = 0 → (nI l &&& (nI (64 / 2 ^ s) ^^^ (-1)) : Int32) = nI (l / (2 * (64 / 2 ^ s)) * (2 * (64 / 2 ^ s))) := by decide +kernel
/-- the cell around: its smallest column or row, and its quarters' -/
def qb (l s : Nat) : Nat := l / (2 * (64 / 2 ^ s)) * (2 * (64 / 2 ^ s))
theorem qb_1 : ∀ s, s < 5 → 1 ≤ s → ∀ l, l < 64 → l % (64 / 2 ^ s) = 0 → l / (2 * (64 / 2 ^ s)) * (2 * (64 / 2 ^ s)) + 2 * (64 / 2 ^ s) ≤ 64 := by decide +kernel
theorem qb_2 : ∀ s, s < 5 → 1 ≤ s → ∀ l, l < 64 → l % (64 / 2 ^ s) = 0 → l / (2 * (64 / 2 ^ s)) * (2 * (64 / 2 ^ s)) % (64 / 2 ^ s) = 0 := by decide +kernel
theorem qb_3 : ∀ s, s < 5 → 1 ≤ s → ∀ l, l < 64 → l % (64 / 2 ^ s) = 0 → l = l / (2 * (64 / 2 ^ s)) * (2 * (64 / 2 ^ s)) ∨ l = l / (2 * (64 / 2 ^ s)) * (2 * (64 / 2 ^ s)) + 64 / 2 ^ s := by decide +kernel
theorem qb_in (s : Nat) (h : s < 5) (h1 : 1 ≤ s) (l : Nat) (hl : l < 64) (hm : l % (64 / 2 ^ s) = 0) : qb l s + 2 * (64 / 2 ^ s) ≤ 64 ∧ qb l s % (64 / 2 ^ s) = 0 ∧ qb l s % (2 * (64 / 2 ^ s)) = 0 ∧ (l = qb l s ∨ l = qb l s + 64 / 2 ^ s) :=
  ⟨qb_1 s h h1 l hl hm, qb_2 s h h1 l hl hm, Nat.mul_mod_left _ _, qb_3 s h h1 l hl hm⟩
theorem quM : ∀ q, q < 4 → (nI q - nI q / 2 * 2 : Int32) = nI (q % 2) ∧ (nI q / 2 : Int32) = nI (q / 2) := by decide +kernel
theorem sd_cases {s : Nat} (h : s ≤ 4) : 64 / 2 ^ s = 64 ∨ 64 / 2 ^ s = 32 ∨ 64 / 2 ^ s = 16 ∨ 64 / 2 ^ s = 8 ∨ 64 / 2 ^ s = 4 := by
  have : ∀ s, s < 5 → 64 / 2 ^ s = 64 ∨ 64 / 2 ^ s = 32 ∨ 64 / 2 ^ s = 16 ∨ 64 / 2 ^ s = 8 ∨ 64 / 2 ^ s = 4 := by decide
  exact this s (by omega)
theorem al_eq {d l x : Nat} (hd : d = 64 ∨ d = 32 ∨ d = 16 ∨ d = 8 ∨ d = 4) (h1 : l % d = 0) (h2 : x % d = 0) (h3 : l ≤ x) (h4 : x < l + d) : l = x := by
  rcases hd with rfl | rfl | rfl | rfl | rfl <;> omega
theorem al_add {d l : Nat} (b : Nat) (h1 : l % d = 0) : (l + d * b) % d = 0 := by rw [Nat.add_mul_mod_self_left]; exact h1
section KJ
variable {S : CS} {R : FI} {a f : Nat}
theorem kCl_inj {k l t s l' t' s' : Nat} (h : kCl S k l t s) (h' : kCl S k l' t' s') : l' = l ∧ t' = t ∧ s' = s := by
  have c := h.2.2.2
  have c' := h'.2.2.2
  refine ⟨(nI_eq (by have := c'.2.1; omega) (by have := c.2.1; omega)).mp (h'.1.symm.trans h.1), (nI_eq (by have := c'.2.2.1; omega) (by have := c.2.2.1; omega)).mp (h'.2.1.symm.trans h.2.1), (nI_eq (by have := c'.1; omega) (by have := c.1; omega)).mp (h'.2.2.1.symm.trans h.2.2.1)⟩
/-- the parishes at the corners of four quarters -/
theorem kJ_at (h : kFull S R a f) {k l t s : Nat} (hk : k < 40) (hd : kRD S R k l t s) (hs : 1 ≤ s) {q : Nat} (hq : q < 4) : ∃ r, r < 40 ∧ kInC S r (qb l s + 64 / 2 ^ s * (q % 2)) (qb t s + 64 / 2 ^ s * (q / 2)) ∧ pQu S (lAr S (nI k)) (tAr S (nI k)) (rSc S (nI k)) (nI q) = nI r ∧ mJq R f (nI k) q = nI r := by
  have hc := hd.1.2.2.2
  obtain ⟨-, v1, v2, v3, -, -⟩ := kr_val hk hd.1
  obtain ⟨m1, m2, m3, m4⟩ := kr_mval hk hd
  have b1 := qb_in s (by have := hc.1; omega) hs l hc.2.1 hc.2.2.2.1
  have b2 := qb_in s (by have := hc.1; omega) hs t hc.2.2.1 hc.2.2.2.2
  have hsd := sd_le hc.1
  have hq1 : 64 / 2 ^ s * (q % 2) ≤ 64 / 2 ^ s := by
    have : q % 2 ≤ 1 := by omega
    calc 64 / 2 ^ s * (q % 2) ≤ 64 / 2 ^ s * 1 := Nat.mul_le_mul_left _ this
      _ = 64 / 2 ^ s := Nat.mul_one _
  have hq2 : 64 / 2 ^ s * (q / 2) ≤ 64 / 2 ^ s := by
    have : q / 2 ≤ 1 := by omega
    calc 64 / 2 ^ s * (q / 2) ≤ 64 / 2 ^ s * 1 := Nat.mul_le_mul_left _ this
      _ = 64 / 2 ^ s := Nat.mul_one _
  have hx : qb l s + 64 / 2 ^ s * (q % 2) < 64 := by omega
  have hy : qb t s + 64 / 2 ^ s * (q / 2) < 64 := by omega
  obtain ⟨r, hr, h1, h2⟩ := kF_at1 h hx hy
  have hl2 := hc.2.1
  have ht2 := hc.2.2.1
  refine ⟨r, hr, h1, ?_, ?_⟩
  · rw [pQu, lAr, tAr, v1, v2, v3, sideF_n hc.1, laA s (by have := hc.1; omega) hs l hl2 hc.2.2.2.1, laA s (by have := hc.1; omega) hs t ht2 hc.2.2.2.2, qLef, qTop, (quA q hq).1, (quA q hq).2, pk_mul, pk_mul, nI_add, nI_add, Nat.mul_comm (q % 2), Nat.mul_comm (q / 2)]
    exact h2
  · rw [mJq, (quM q hq).1, (quM q hq).2, cjX, cjX, m1, m2, m4, show (2 : Int32) = nI 2 from rfl, pk_mul, pk_div (by omega) (by omega) (by omega), pk_div (by omega) (by omega) (by omega), pk_mul, pk_mul, pk_mul, pk_mul, nI_add, nI_add]
    refine Eq.trans (kF_at h hx hy).symm ?_
    exact h2
/-- a quarter that isn't split is the cell of the parish at its corner -/
theorem kJ_cell {r X Y l' t' s : Nat} (hs : s ≤ 4) (hX : X % (64 / 2 ^ s) = 0) (hY : Y % (64 / 2 ^ s) = 0) (h1 : kCl S r l' t' s) (h2 : kInC S r X Y) : kCl S r X Y s := by
  obtain ⟨l2, t2, s2, h3, h4⟩ := h2
  obtain ⟨rfl, rfl, rfl⟩ := kCl_inj h1 h3
  have e1 := al_eq (sd_cases hs) h1.2.2.2.2.2.2.1 hX h4.1 h4.2.1
  have e2 := al_eq (sd_cases hs) h1.2.2.2.2.2.2.2 hY h4.2.2.1 h4.2.2.2
  subst e1; subst e2; exact h1
theorem kJ_sum (h : kFull S R a f) {L T d : Nat} (hd : 1 ≤ d) (hL : L + 2 * d ≤ 64) (hT : T + 2 * d ≤ 64) : pNum S (nI L) (nI T) (nI (L + 2 * d - 1)) (nI (T + 2 * d - 1)) 40 = nI (cb (fun k => pLies S (nI k) (nI L) (nI T) (nI (L + d - 1)) (nI (T + d - 1))) 40 + cb (fun k => pLies S (nI k) (nI (L + d)) (nI T) (nI (L + d + d - 1)) (nI (T + d - 1))) 40 + cb (fun k => pLies S (nI k) (nI L) (nI (T + d)) (nI (L + d - 1)) (nI (T + d + d - 1))) 40 + cb (fun k => pLies S (nI k) (nI (L + d)) (nI (T + d)) (nI (L + d + d - 1)) (nI (T + d + d - 1))) 40) := by
  rw [pNum_cb]
  congr 1
  refine cb_sum5 40 (fun j hj => ?_)
  cases he : pEx S (nI j) with
  | false => simp [pLies, he]
  | true =>
    obtain ⟨x, y, hx, hy, -, -, e1, e2, -, -⟩ := kF_xy h hj he
    simp only [pLies, he, nI_clamp (show j < 2 ^ 31 by omega), e1, e2, Bool.true_and]
    rw [btw_n (by omega) (by omega) (by omega), btw_n (by omega) (by omega) (by omega), btw_n (by omega) (by omega) (by omega), btw_n (by omega) (by omega) (by omega), btw_n (by omega) (by omega) (by omega), btw_n (by omega) (by omega) (by omega)]
    simp only [Bool.and_eq_true, decide_eq_true_eq]
    split <;> split <;> split <;> split <;> split <;> omega
theorem kJ_nin {r X Y s : Nat} (hr : r < 40) (h : kCl S r X Y s) : nIn S (nI r) = nI (cb (fun k => pLies S (nI k) (nI X) (nI Y) (nI (X + 64 / 2 ^ s - 1)) (nI (Y + 64 / 2 ^ s - 1))) 40) := by
  obtain ⟨-, v1, v2, v3, v4, v5⟩ := kr_val hr h
  rw [nIn, v1, v2, v4, v5, pNum_cb]
/-- the four together, when all are there -/
theorem kJ_can (h : kFull S R a f) {k l t s : Nat} (hk : k < 40) (hd : kRD S R k l t s) (hs : 1 ≤ s) : cj S (nI k) = cjR R a f (nI k) := by
  have hc := hd.1.2.2.2
  obtain ⟨-, v1, v2, v3, -, -⟩ := kr_val hk hd.1
  obtain ⟨m1, m2, m3, m4⟩ := kr_mval hk hd
  have b1 := qb_in s (by have := hc.1; omega) hs l hc.2.1 hc.2.2.2.1
  have b2 := qb_in s (by have := hc.1; omega) hs t hc.2.2.1 hc.2.2.2.2
  have hsd := sd_le hc.1
  have hl2 := hc.2.1
  have ht2 := hc.2.2.1
  obtain ⟨r0, hr0, i0, p0, j0⟩ := kJ_at h hk hd hs (q := 0) (by omega)
  obtain ⟨r1, hr1, i1, p1, j1⟩ := kJ_at h hk hd hs (q := 1) (by omega)
  obtain ⟨r2, hr2, i2, p2, j2⟩ := kJ_at h hk hd hs (q := 2) (by omega)
  obtain ⟨r3, hr3, i3, p3, j3⟩ := kJ_at h hk hd hs (q := 3) (by omega)
  have sc : ∀ r X Y, r < 40 → kInC S r X Y → ∃ s', s' ≤ 4 ∧ rSc S (nI r) = nI s' ∧ qA R (nI r) 3 = nI s' ∧ (s' = s → ∃ l' t', kCl S r l' t' s) := by
    intro r X Y hr hi
    obtain ⟨l', t', s', h1, -⟩ := hi
    obtain ⟨-, -, l2, t2, s2, hd2⟩ := kF_rd h hr (kr_val hr h1).1
    obtain ⟨rfl, rfl, rfl⟩ := kCl_inj h1 hd2.1
    exact ⟨s2, h1.2.2.2.1, (kr_val hr h1).2.2.2.1, (kr_mval hr hd2).2.2.1, fun e => by subst e; exact ⟨_, _, h1⟩⟩
  obtain ⟨s0, hs0, x0, y0, z0⟩ := sc r0 _ _ hr0 i0
  obtain ⟨s1, hs1, x1, y1, z1⟩ := sc r1 _ _ hr1 i1
  obtain ⟨s2, hs2, x2, y2, z2⟩ := sc r2 _ _ hr2 i2
  obtain ⟨s3, hs3, x3, y3, z3⟩ := sc r3 _ _ hr3 i3
  have hsn : ∀ s', s' ≤ 4 → ((nI s' : Int32) = nI s ↔ s' = s) := fun s' h' => nI_eq (by omega) (by have := hc.1; omega)
  have hn0 : ¬ (nI s : Int32) = 0 := nI_ne0 hs (by have := hc.1; omega)
  have h1s : (1 : Int32) ≤ nI s := nI_le (a := 1) hs (by have := hc.1; omega)
  rw [cj, cjR, m3, if_neg hn0, v3, if_pos h1s]
  have hR : cjb R a f (nI k) 4 = (cjc R a (nI k) && decide (s0 = s) && decide (s1 = s) && decide (s2 = s) && decide (s3 = s)) := by
    simp only [cjb, j0, j1, j2, j3, y0, y1, y2, y3, m3, hsn s0 hs0, hsn s1 hs1, hsn s2 hs2, hsn s3 hs3]
  have p0 := v3 ▸ p0
  have p1 := v3 ▸ p1
  have p2 := v3 ▸ p2
  have p3 := v3 ▸ p3
  have hL : cjG S (lAr S (nI k)) (tAr S (nI k)) (nI s) 4 0 = (decide (s0 = s) && decide (s1 = s) && decide (s2 = s) && decide (s3 = s) && !decide (sCr S < cjT S (lAr S (nI k)) (tAr S (nI k)) (nI s) 4)) := by
    simp only [cjG, Nat.zero_add, Nat.reduceAdd, p0, p1, p2, p3, x0, x1, x2, x3, hsn s0 hs0, hsn s1 hs1, hsn s2 hs2, hsn s3 hs3]
    by_cases e0 : s0 = s <;> by_cases e1 : s1 = s <;> by_cases e2 : s2 = s <;> by_cases e3 : s3 = s <;> simp [e0, e1, e2, e3]
  rw [hR, hL]
  by_cases e0 : s0 = s
  case neg => simp [e0]
  by_cases e1 : s1 = s
  case neg => simp [e1]
  by_cases e2 : s2 = s
  case neg => simp [e2]
  by_cases e3 : s3 = s
  case neg => simp [e3]
  have ce : ∀ r q, r < 40 → kInC S r (qb l s + 64 / 2 ^ s * (q % 2)) (qb t s + 64 / 2 ^ s * (q / 2)) → (∃ l' t', kCl S r l' t' s) → kCl S r (qb l s + 64 / 2 ^ s * (q % 2)) (qb t s + 64 / 2 ^ s * (q / 2)) s := by
    intro r q hr hi ⟨l', t', h1⟩
    exact kJ_cell hc.1 (al_add _ b1.2.1) (al_add _ b2.2.1) h1 hi
  have c0 := ce r0 0 hr0 i0 (z0 e0)
  have c1 := ce r1 1 hr1 i1 (z1 e1)
  have c2 := ce r2 2 hr2 i2 (z2 e2)
  have c3 := ce r3 3 hr3 i3 (z3 e3)
  simp only [show (0 : Nat) % 2 = 0 from rfl, show (0 : Nat) / 2 = 0 from rfl, show (1 : Nat) % 2 = 1 from rfl, show (1 : Nat) / 2 = 0 from rfl, show (2 : Nat) % 2 = 0 from rfl, show (2 : Nat) / 2 = 1 from rfl, show (3 : Nat) % 2 = 1 from rfl, show (3 : Nat) / 2 = 1 from rfl, Nat.mul_zero, Nat.mul_one, Nat.add_zero] at c0 c1 c2 c3
  have hT : cjT S (lAr S (nI k)) (tAr S (nI k)) (nI s) 4 = mCe R a (cjX R (nI k) 1) (cjX R (nI k) 2) (2 * mSd R (nI k)) := by
    simp only [cjT, p0, p1, p2, p3]
    rw [kJ_nin hr0 c0, kJ_nin hr1 c1, kJ_nin hr2 c2, kJ_nin hr3 c3, show (0 : Int32) = nI 0 from rfl, nI_add, nI_add, nI_add, nI_add, Nat.zero_add, cjX, cjX, m1, m2, m4, show (2 : Int32) = nI 2 from rfl, pk_mul, pk_div (by omega) (by omega) (by omega), pk_div (by omega) (by omega) (by omega), pk_mul, pk_mul, mCe, nI_add, nI_add, show (1 : Int32) = nI 1 from rfl, pk_sub (by omega), pk_sub (by omega), ← kF_num h]
    exact (kJ_sum h (L := qb l s) (T := qb t s) (d := 64 / 2 ^ s) (by omega) b1.1 b2.1).symm
  rw [hT, cjc, kF_0 h]
  generalize mCe R a (cjX R (nI k) 1) (cjX R (nI k) 2) (2 * mSd R (nI k)) = u
  simp only [e0, e1, e2, e3, decide_true, Bool.true_and, Bool.and_true]
  rw [Bool.eq_iff_iff]
  simp only [Bool.not_eq_true', decide_eq_false_iff_not, decide_eq_true_eq]
  exact Int32.not_lt
theorem kF_cj (h : kFull S R a f) {k : Nat} (hk : k < 40) : cj S (nI k) = (iR R (nI k) && cjR R a f (nI k)) := by
  rw [← kF_rex h]
  cases he : rEx S (nI k) with
  | false =>
    rw [cj, rSc_no he, if_neg (by decide)]; rfl
  | true =>
    obtain ⟨-, -, l, t, s, hd⟩ := kF_rd h hk he
    rw [Bool.true_and]
    by_cases hs : 1 ≤ s
    · exact kJ_can h hk hd hs
    · have e : s = 0 := by omega
      subst e
      rw [cj, (kr_val hk hd.1).2.2.2.1, if_neg (by decide), cjR, (kr_mval hk hd).2.2.1, if_pos (by decide)]
theorem kF_joinable (h : kFull S R a f) : jbRet S = mjbRet R a f :=
  fnd_eq (kF_f h) (fun k hk => kF_cj h (by have := kF_f h; omega)) (fun k h1 h2 => by
    show cj S (nI k) = false
    rw [kF_cj h h2, ← kF_rex h, kr_no1 h2 h1 (kF_par h k h2)]; rfl)
theorem kF_sc (h : kFull S R a f) : mSc R := by
  intro p hp h0 e
  rw [← kF_rex h] at hp
  obtain ⟨k, hk, rfl⟩ := vp_in_of (rEx_in hp) (by decide)
  obtain ⟨-, -, l, t, s, hd⟩ := kF_rd h hk hp
  rw [(kr_mval hk hd).2.2.2, show (2 : Int32) = nI 2 from rfl, pk_mul] at e
  have := sd_le hd.1.2.2.2.1
  exact nI_ne0 (by omega) (by omega) e
theorem kF_mj (h : kFull S R a f) (p : Int32) (h1 : iR R p = true) (h2 : cjR R a f p = true) : ∀ j, j < 4 → vp_in (mJq R f p j) 100 := by
  intro j hj
  rw [← kF_rex h] at h1
  obtain ⟨k, hk, rfl⟩ := vp_in_of (rEx_in h1) (by decide)
  obtain ⟨-, -, l, t, s, hd⟩ := kF_rd h hk h1
  have hs : 1 ≤ s := by
    rcases Nat.eq_zero_or_pos s with e | e
    · subst e
      rw [cjR, (kr_mval hk hd).2.2.1, if_pos (by decide)] at h2
      exact absurd h2 (by decide)
    · exact e
  obtain ⟨r, hr, -, -, e⟩ := kJ_at h hk hd hs hj
  rw [e]; exact vp_in_nI (by omega) (by decide)
end KJ
