/-! the two sides answer alike: the order of cells -/
def ox (c : Nat) : Nat := c % 2 + 2 * (c / 4 % 2) + 4 * (c / 16 % 2) + 8 * (c / 64 % 2)
def oy (c : Nat) : Nat := c / 2 % 2 + 2 * (c / 8 % 2) + 4 * (c / 32 % 2) + 8 * (c / 128 % 2)
def oe (u v : Nat) : Nat := u % 2 + 2 * (v % 2) + 4 * (u / 2 % 2) + 8 * (v / 2 % 2) + 16 * (u / 4 % 2) + 32 * (v / 4 % 2) + 64 * (u / 8 % 2) + 128 * (v / 8 % 2)
theorem o_m : ∀ c, c < 256 → mXc (nI c) 4 = nI (4 * ox c) ∧ mYc (nI c) 4 = nI (4 * oy c) := by decide +kernel
theorem o_b : ∀ c, c < 256 → eB (nI (16 * c)) 6 = nI (4 * ox c) ∧ eB (nI (16 * c) >>> ((1 : Int32) &&& 31)) 6 = nI (4 * oy c) := by decide +kernel
theorem o_16 : ∀ c, c < 256 → ox c < 16 ∧ oy c < 16 := by decide +kernel
theorem o_e : ∀ c, c < 256 → oe (ox c) (oy c) = c := by decide +kernel
theorem o_d : ∀ e, e < 5 → ∀ c, c < 256 → ox c / 2 ^ e = ox (c / 4 ^ e) ∧ oy c / 2 ^ e = oy (c / 4 ^ e) := by decide +kernel
theorem o_0 : ∀ e, e < 5 → ∀ c, c < 256 → (ox c % 2 ^ e = 0 ∧ oy c % 2 ^ e = 0 ↔ c % 4 ^ e = 0) := by decide +kernel
theorem o_sd : ∀ s, s < 5 → 64 / 2 ^ s = 4 * 2 ^ (4 - s) ∧ (64 / 2 ^ s) * (64 / 2 ^ s) = 16 * 4 ^ (4 - s) ∧ 256 % 4 ^ (4 - s) = 0 ∧ 1 ≤ 4 ^ (4 - s) ∧ 1 ≤ 2 ^ (4 - s) := by decide +kernel
theorem o_inj {c c' : Nat} (h : c < 256) (h' : c' < 256) (h1 : ox c = ox c') (h2 : oy c = oy c') : c = c' := by
  rw [← o_e c h, ← o_e c' h', h1, h2]
/-- a place in an aligned interval, by quotients -/
theorem al_div {d l x : Nat} (hd : 1 ≤ d) (h1 : l % d = 0) : (l ≤ x ∧ x < l + d) ↔ x / d = l / d := by
  obtain ⟨m, rfl⟩ : ∃ m, l = d * m := ⟨l / d, by have := Nat.div_add_mod l d; omega⟩
  rw [Nat.mul_div_cancel_left _ (by omega)]
  constructor
  · rintro ⟨a, b⟩
    exact Nat.div_eq_of_lt_le (by rw [Nat.mul_comm]; exact a) (by rw [Nat.succ_mul, Nat.mul_comm]; exact b)
  · intro h
    have a := Nat.div_mul_le_self x d
    have b := Nat.lt_div_mul_add (a := x) (b := d) (by omega)
    rw [h, Nat.mul_comm] at a b
    omega
theorem o_4 {x e : Nat} : 4 * x / (4 * 2 ^ e) = x / 2 ^ e := Nat.mul_div_mul_left _ _ (by omega)
theorem o_cell {l t s c c' : Nat} (h : kCel l t s) (hc : c < 256) (hc' : c' < 256) (h1 : kIn l t s (4 * ox c) (4 * oy c)) : kIn l t s (4 * ox c') (4 * oy c') ↔ c' / 4 ^ (4 - s) = c / 4 ^ (4 - s) := by
  have hs : s < 5 := by have := h.1; omega
  obtain ⟨e1, -, -, -, e5⟩ := o_sd s hs
  have d1 : 1 ≤ 64 / 2 ^ s := by have := sd_le h.1; omega
  have key : ∀ c, c < 256 → (kIn l t s (4 * ox c) (4 * oy c) ↔ (ox (c / 4 ^ (4 - s)) = l / (64 / 2 ^ s) ∧ oy (c / 4 ^ (4 - s)) = t / (64 / 2 ^ s))) := by
    intro c hc
    have a1 := al_div (x := 4 * ox c) d1 h.2.2.2.1
    have a2 := al_div (x := 4 * oy c) d1 h.2.2.2.2
    rw [show 4 * ox c / (64 / 2 ^ s) = ox (c / 4 ^ (4 - s)) from by rw [e1, o_4, (o_d (4 - s) (by omega) c hc).1]] at a1
    rw [show 4 * oy c / (64 / 2 ^ s) = oy (c / 4 ^ (4 - s)) from by rw [e1, o_4, (o_d (4 - s) (by omega) c hc).2]] at a2
    rw [← a1, ← a2, kIn]
    constructor
    · rintro ⟨x1, x2, x3, x4⟩; exact ⟨⟨x1, x2⟩, x3, x4⟩
    · rintro ⟨⟨x1, x2⟩, x3, x4⟩; exact ⟨x1, x2, x3, x4⟩
  have k1 := (key c hc).mp h1
  rw [key c' hc']
  constructor
  · rintro ⟨x1, x2⟩
    exact o_inj (Nat.lt_of_le_of_lt (Nat.div_le_self _ _) hc') (Nat.lt_of_le_of_lt (Nat.div_le_self _ _) hc) (x1.trans k1.1.symm) (x2.trans k1.2.symm)
  · intro x; rw [x]; exact k1
theorem o_corner {l t s c : Nat} (h : kCel l t s) (hc : c < 256) (h1 : kIn l t s (4 * ox c) (4 * oy c)) : (4 * ox c = l ∧ 4 * oy c = t) ↔ c % 4 ^ (4 - s) = 0 := by
  have hs : s < 5 := by have := h.1; omega
  have e1 := (o_sd s hs).1
  rw [← o_0 (4 - s) (by omega) c hc]
  have h4 : ∀ x, 4 * x % (4 * 2 ^ (4 - s)) = 4 * (x % 2 ^ (4 - s)) := fun x => Nat.mul_mod_mul_left _ _ _
  constructor
  · rintro ⟨rfl, rfl⟩
    have a := h.2.2.2.1
    have b := h.2.2.2.2
    rw [e1, h4] at a b
    omega
  · rintro ⟨a, b⟩
    exact ⟨(al_eq (sd_cases h.1) h.2.2.2.1 (by rw [e1, h4, a]) h1.1 h1.2.1).symm, (al_eq (sd_cases h.1) h.2.2.2.2 (by rw [e1, h4, b]) h1.2.2.1 h1.2.2.2).symm⟩
section KO
variable {S : CS} {R : FI} {a f : Nat}
/-- the parish at a code -/
theorem kO_at (h : kFull S R a f) {c : Nat} (hc : c < 256) : ∃ p l t s, p < 40 ∧ kRD S R p l t s ∧ kIn l t s (4 * ox c) (4 * oy c) ∧ rAt S (nI (4 * ox c)) (nI (4 * oy c)) = nI p ∧ ioP R f c = nI p ∧ ioB R f c = decide (c % 4 ^ (4 - s) = 0) := by
  have h16 := o_16 c hc
  obtain ⟨p, hp, h1, h2⟩ := kF_at1 h (x := 4 * ox c) (y := 4 * oy c) (by omega) (by omega)
  obtain ⟨l, t, s, h3, h4⟩ := h1
  obtain ⟨-, -, l', t', s', hd⟩ := kF_rd h hp (kr_val hp h3).1
  obtain ⟨rfl, rfl, rfl⟩ := kCl_inj h3 hd.1
  have hio : ioP R f c = nI p := by rw [ioP, (o_m c hc).1, (o_m c hc).2, ← kF_at h (by omega) (by omega)]; exact h2
  refine ⟨p, l', t', s', hp, hd, h4, h2, hio, ?_⟩
  obtain ⟨m1, m2, -, -⟩ := kr_mval hp hd
  have c1 := hd.1.2.2.2.2.1
  have c2 := hd.1.2.2.2.2.2.1
  rw [ioB, hio, m1, m2, (o_m c hc).1, (o_m c hc).2, Bool.eq_iff_iff]
  simp only [Bool.and_eq_true, decide_eq_true_eq]
  rw [nI_eq (by omega) (by omega), nI_eq (by omega) (by omega), ← o_corner hd.1.2.2.2 hc h4]
  constructor
  · rintro ⟨x, y⟩; exact ⟨x.symm, y.symm⟩
  · rintro ⟨x, y⟩; exact ⟨x.symm, y.symm⟩
/-- how many cells begin before a code -/
def oG (S : CS) (c p : Nat) : Bool := !decide (sSc S p = -1) && decide (oe ((sLe S p).toNatClampNeg / 4) ((sTo S p).toNatClampNeg / 4) < c)
theorem kO_run (h : kFull S R a f) {c q : Nat} (ix : Int32) (hq : c + q ≤ 256) : ∀ j, j ≤ q → (∀ i, 1 ≤ i → i < q → ioB R f (c + i) = false) → 1 ≤ j → ioN R f (c + j) = ioN R f (c + 1) ∧ ioG R f ix (256 - (c + 1)) (c + 1) = ioG R f ix (256 - (c + j)) (c + j)
  | 0, _, _, h1 => absurd h1 (by omega)
  | 1, _, _, _ => ⟨rfl, rfl⟩
  | j + 2, hj, hb, _ => by
    obtain ⟨h2, h3⟩ := kO_run h ix hq (j + 1) (by omega) hb (by omega)
    have hn := hb (j + 1) (by omega) (by omega)
    refine ⟨?_, ?_⟩
    · rw [← h2, show c + (j + 2) = (c + (j + 1)) + 1 by omega, ioN, hn]; simp
    · rw [h3, ioG_on (by omega : c + (j + 1) < 256) (by rw [hn]; simp), show c + (j + 1) + 1 = c + (j + 2) by omega]
theorem kO_main (h : kFull S R a f) (ix : Int32) : ∀ (n k c : Nat), k + n = 40 → c ≤ 256 → wPl S k = nI (16 * c) → ioN R f c = nI k → (c < 256 → ioB R f c = true) → k ≤ cb (oG S c) 40 → wGo S ix n k = ioG R f ix (256 - c) c := by
  intro n
  induction n with
  | zero =>
    intro k c hk hc hw hn hs hcb
    have e : c = 256 := by
      rcases Nat.lt_or_ge c 256 with h1 | h1
      · exfalso
        obtain ⟨p, l, t, s, hp, hd, hin, -, -, hb⟩ := kO_at h h1
        rw [hs h1] at hb
        have hcor := (o_corner hd.1.2.2.2 h1 hin).mpr (of_decide_eq_true hb.symm)
        have ek : oe ((sLe S p).toNatClampNeg / 4) ((sTo S p).toNatClampNeg / 4) = c := by
          have b1 := hd.1.2.2.2.2.1
          have b2 := hd.1.2.2.2.2.2.1
          rw [hd.1.1, hd.1.2.1, nI_clamp (by omega), nI_clamp (by omega), ← hcor.1, ← hcor.2, Nat.mul_div_cancel_left _ (by omega), Nat.mul_div_cancel_left _ (by omega), o_e c h1]
        have ex : decide (sSc S p = -1) = false := decide_eq_false (by rw [hd.1.2.2.1]; exact nI_nm1 (by have := hd.1.2.2.2.1; omega))
        have := cb_lt (g := oG S c) (h := oG S (c + 1)) 40 hp (fun j _ hg => by
          simp only [oG, Bool.and_eq_true, decide_eq_true_eq] at hg ⊢
          exact ⟨hg.1, by omega⟩) (by rw [oG, ek]; simp) (by rw [oG, ek, ex]; simp)
        have := cb_le (oG S (c + 1)) 40
        omega
      · omega
    subst e
    rfl
  | succ n ih =>
    intro k c hk hc hw hn hs hcb
    rcases Nat.lt_or_ge c 256 with h1 | h1
    · obtain ⟨p, l, t, s, hp, hd, hin, hat, hio, hb⟩ := kO_at h h1
      have hsb := hs h1
      rw [hsb] at hb
      have hm := of_decide_eq_true hb.symm
      have hs4 := hd.1.2.2.2.1
      obtain ⟨e1, e2, e3, e4, -⟩ := o_sd s (by omega)
      have hpar : wPar S (wPl S k) = nI p := by rw [wPar, hw, (o_b c h1).1, (o_b c h1).2]; exact hat
      have hlt : ¬ (4096 : Int32) ≤ wPl S k := by rw [hw]; exact nI_ge (a := 16 * c) (b := 4096) (by omega) (by decide)
      rw [wGo, if_neg hlt, hpar]
      by_cases hix : nI k = ix
      · rw [if_pos hix, ioG_hit h1 (by rw [hsb, hn, hix]; simp), hio]
      · rw [if_neg hix, ioG_on h1 (by rw [hsb, hn]; simp [hix])]
        have hc' : c + 4 ^ (4 - s) ≤ 256 := by
          have a1 := Nat.div_add_mod c (4 ^ (4 - s))
          have a2 := Nat.div_add_mod 256 (4 ^ (4 - s))
          rw [hm] at a1
          rw [e3] at a2
          have a3 : c / 4 ^ (4 - s) < 256 / 4 ^ (4 - s) := by
            rcases Nat.lt_or_ge (c / 4 ^ (4 - s)) (256 / 4 ^ (4 - s)) with q | q
            · exact q
            · have := Nat.mul_le_mul_left (4 ^ (4 - s)) q
              omega
          have a4 := Nat.mul_le_mul_left (4 ^ (4 - s)) (Nat.succ_le_of_lt a3)
          rw [Nat.mul_succ] at a4
          omega
        have hno : ∀ i, 1 ≤ i → i < 4 ^ (4 - s) → ioB R f (c + i) = false ∧ kIn l t s (4 * ox (c + i)) (4 * oy (c + i)) := by
          intro i hi1 hi2
          have hq : (c + i) / 4 ^ (4 - s) = c / 4 ^ (4 - s) := by
            have a1 := Nat.div_add_mod c (4 ^ (4 - s))
            rw [hm] at a1
            rw [← a1, Nat.add_zero, Nat.mul_add_div (by omega), Nat.div_eq_of_lt hi2, Nat.add_zero, Nat.mul_div_cancel_left _ (by omega)]
          have hin2 := (o_cell hd.1.2.2.2 h1 (by omega) hin).mpr hq
          refine ⟨?_, hin2⟩
          obtain ⟨p', l', t', s', hp', hd', hin', -, -, hb'⟩ := kO_at h (show c + i < 256 by omega)
          have ep : p' = p := h.2.2 p' p _ _ hp' hp ⟨_, _, _, hd'.1, hin'⟩ ⟨_, _, _, hd.1, hin2⟩
          subst ep
          obtain ⟨rfl, rfl, rfl⟩ := kCl_inj hd.1 hd'.1
          rw [hb', decide_eq_false_iff_not]
          intro hz
          have a1 := Nat.add_mod c i (4 ^ (4 - s'))
          rw [hm, hz, Nat.zero_add, Nat.mod_mod, Nat.mod_eq_of_lt hi2] at a1
          omega
        obtain ⟨r1, r2⟩ := kO_run h ix hc' (4 ^ (4 - s)) (Nat.le_refl _) (fun i x y => (hno i x y).1) e4
        have hn' : ioN R f (c + 1) = nI (k + 1) := by rw [ioN, hsb, if_pos rfl, hn]; exact nI_1 k
        rw [r2]
        refine ih (k + 1) (c + 4 ^ (4 - s)) (by omega) hc' ?_ (r1.trans hn') ?_ ?_
        · have v3 := (kr_val hp hd.1).2.2.2.1
          rw [wPl, hpar, v3, sideF_n hs4, hw, pk_mul, nI_add, e2, Nat.mul_add]
        · intro hlt2
          obtain ⟨p', l', t', s', hp', hd', hin', -, -, hb'⟩ := kO_at h hlt2
          rw [hb', decide_eq_true_eq]
          rcases Nat.eq_zero_or_pos ((c + 4 ^ (4 - s)) % 4 ^ (4 - s')) with hz | hz
          · exact hz
          exfalso
          have hs4' := hd'.1.2.2.2.1
          have e4' := (o_sd s' (by omega)).2.2.2.1
          have hq : (c + 4 ^ (4 - s) - 1) / 4 ^ (4 - s') = (c + 4 ^ (4 - s)) / 4 ^ (4 - s') := by
            have a1 := Nat.div_add_mod (c + 4 ^ (4 - s)) (4 ^ (4 - s'))
            have a2 := Nat.mod_lt (c + 4 ^ (4 - s)) (show 4 ^ (4 - s') > 0 by omega)
            refine Nat.div_eq_of_lt_le ?_ ?_
            · rw [Nat.mul_comm]; omega
            · rw [Nat.succ_mul, Nat.mul_comm]; omega
          have hin2 := (o_cell hd'.1.2.2.2 hlt2 (by omega : c + 4 ^ (4 - s) - 1 < 256) hin').mpr hq
          have hin3 : kIn l t s (4 * ox (c + 4 ^ (4 - s) - 1)) (4 * oy (c + 4 ^ (4 - s) - 1)) := by
            rcases Nat.eq_or_lt_of_le e4 with q | q
            · rw [← q]; exact hin
            · rw [show c + 4 ^ (4 - s) - 1 = c + (4 ^ (4 - s) - 1) by omega]
              exact (hno _ (by omega) (by omega)).2
          have ep : p' = p := h.2.2 p' p _ _ hp' hp ⟨_, _, _, hd'.1, hin2⟩ ⟨_, _, _, hd.1, hin3⟩
          subst ep
          obtain ⟨rfl, rfl, rfl⟩ := kCl_inj hd.1 hd'.1
          rw [Nat.add_mod_right, hm] at hz
          omega
        · have hcor := (o_corner hd.1.2.2.2 h1 hin).mpr hm
          have ek : oe ((sLe S p).toNatClampNeg / 4) ((sTo S p).toNatClampNeg / 4) = c := by
            have b1 := hd.1.2.2.2.2.1
            have b2 := hd.1.2.2.2.2.2.1
            rw [hd.1.1, hd.1.2.1, nI_clamp (by omega), nI_clamp (by omega), ← hcor.1, ← hcor.2, Nat.mul_div_cancel_left _ (by omega), Nat.mul_div_cancel_left _ (by omega), o_e c h1]
          have ex : decide (sSc S p = -1) = false := decide_eq_false (by rw [hd.1.2.2.1]; exact nI_nm1 (by omega))
          have := cb_lt (g := oG S c) (h := oG S (c + 4 ^ (4 - s))) 40 hp (fun j _ hg => by
            simp only [oG, Bool.and_eq_true, decide_eq_true_eq] at hg ⊢
            exact ⟨hg.1, by omega⟩) (by rw [oG, ek]; simp) (by rw [oG, ek, ex, decide_eq_true (show c < c + 4 ^ (4 - s) by omega)]; rfl)
          omega
    · have e : c = 256 := by omega
      subst e
      rw [wGo, if_pos (by rw [hw]; exact nI_le (a := 4096) (b := 16 * 256) (by decide) (by decide))]
      rfl
theorem kF_inOrder (h : kFull S R a f) (ix : Int32) : ioRet S ix = mioRet R f ix := by
  rw [ioRet, mioRet, wNB, mioRes, kO_main h ix 40 0 0 (by omega) (by omega) rfl rfl (fun _ => by
    obtain ⟨p, l, t, s, -, -, -, -, -, hb⟩ := kO_at h (show 0 < 256 by omega)
    rw [hb]; simp) (Nat.zero_le _)]
end KO
