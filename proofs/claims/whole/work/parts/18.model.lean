/-! the reference: splits, tithes, joins -/
theorem mOk_upd {R : FI} {a f j : Nat} {v : Int32} (h : mOk R a f) (hj : 4 ≤ j) : mOk (upd R j v) a f := by
  obtain ⟨h1, h2, h3, h4, h5⟩ := h
  refine ⟨h1, h2, ?_, ?_, ?_⟩
  · show (if 2 = j then v else R 2) = _; rw [if_neg (by omega)]; exact h3
  · show (if 3 = j then v else R 3) = _; rw [if_neg (by omega)]; exact h4
  · show ¬ (if 1 = j then v else R 1) = 0; rw [if_neg (by omega)]; exact h5
theorem ix1n {i w : Int32} (hi : vp_in i 100) (hw : vp_in w 10) : 4 ≤ (4 + 5 * i + w).toNatClampNeg := by
  obtain ⟨j, hj, rfl⟩ := vp_in_of hi (by decide)
  obtain ⟨k, hk, rfl⟩ := vp_in_of hw (by decide)
  rw [ix1e, nI_clamp (by omega)]; omega
theorem ix2n {p w : Int32} (hi : vp_in p 100) (hw : vp_in w 10) : 4 ≤ (204 + 4 * p + w).toNatClampNeg := by
  obtain ⟨j, hj, rfl⟩ := vp_in_of hi (by decide)
  obtain ⟨k, hk, rfl⟩ := vp_in_of hw (by decide)
  rw [ix2e, nI_clamp (by omega)]; omega
theorem ix2n' {p : Int32} (hi : vp_in p 100) : 4 ≤ (204 + 4 * p).toNatClampNeg := by
  have := ix2n hi (w := 0) (z_inC (by decide) (by decide))
  simpa using this
theorem ix3n {p c : Int32} (hi : vp_in p 100) (hw : vp_in c 100) : 4 ≤ (364 + 40 * p + c).toNatClampNeg := by
  obtain ⟨j, hj, rfl⟩ := vp_in_of hi (by decide)
  obtain ⟨k, hk, rfl⟩ := vp_in_of hw (by decide)
  rw [ix3e, nI_clamp (by omega)]; omega
theorem mOk_sPa {R : FI} {a f : Nat} {p x y s : Int32} (h : mOk R a f) (hp : vp_in p 100) : mOk (sPa R p x y s) a f :=
  mOk_upd (mOk_upd (mOk_upd (mOk_upd h (ix2n' hp)) (ix2n hp (z_inC (by decide) (by decide)))) (ix2n hp (z_inC (by decide) (by decide)))) (ix2n hp (z_inC (by decide) (by decide)))
theorem mOk_sLo {R : FI} {a f : Nat} {i p : Int32} (h : mOk R a f) (hi : vp_in i 100) : mOk (sLo R i p) a f := mOk_upd h (ix1n hi (z_inC (by decide) (by decide)))
theorem mOk_oW {R : FI} {a f : Nat} {p c v : Int32} (h : mOk R a f) (hp : vp_in p 100) (hc : vp_in c 100) : mOk (oW R p c v) a f := mOk_upd h (ix3n hp hc)
theorem mOk_up3 {R : FI} {a f : Nat} (h : mOk R a f) (hf : f + 1 ≤ 60) : mOk (upd R 3 (R 3 + 1)) a (f + 1) := by
  obtain ⟨h1, h2, h3, h4, h5⟩ := h
  exact ⟨h1, hf, h3, by show R 3 + 1 = _; rw [h4, nI_1], h5⟩
def foLi (R : FI) (x y sd i : Int32) : Bool := btw (oP R i 0) x (x + sd - 1) && btw (oP R i 1) y (y + sd - 1)
def foL (R : FI) (p fo x y sd : Int32) : Nat → FI
  | 0 => R
  | k + 1 => if iP (foL R p fo x y sd k) (nI k) && foLi (foL R p fo x y sd k) x y sd (nI k) && decide (oP (foL R p fo x y sd k) (nI k) 4 = p) then sLo (foL R p fo x y sd k) (nI k) fo else foL R p fo x y sd k
theorem mOk_foL {R : FI} {a f : Nat} {p fo x y sd : Int32} (h : mOk R a f) : ∀ k, k ≤ 60 → mOk (foL R p fo x y sd k) a f
  | 0, _ => h
  | k + 1, hk => by
    rw [foL]
    split
    · exact mOk_sLo (mOk_foL h k (by omega)) (vp_in_nI (by omega) (by decide))
    · exact mOk_foL h k (by omega)
def fouA (R : FI) (x y sc : Int32) : FI := sPa (upd R 3 (R 3 + 1)) (R 3) x y sc
def fouN (R : FI) (a : Nat) (x y sc : Int32) : Int32 := mCe (fouA R x y sc) a x y (64 >>> (sc &&& 31))
def fouB (R : FI) (a : Nat) (p x y sc : Int32) : FI := oW (fouA R x y sc) (R 3) p ((fouN R a x y sc + fouA R x y sc 1 - 1) / fouA R x y sc 1)
def fou (R : FI) (a : Nat) (p x y sc : Int32) : FI := foL (fouB R a p x y sc) p (R 3) x y (64 >>> (sc &&& 31)) a
theorem mOk_fouA {R : FI} {a f : Nat} {x y sc : Int32} (h : mOk R a f) (hf : f + 1 ≤ 60) : mOk (fouA R x y sc) a (f + 1) := mOk_sPa (mOk_up3 h hf) (by rw [h.2.2.2.1]; exact vp_in_nI (by omega) (by decide))
theorem mOk_fouB {R : FI} {a f : Nat} {p x y sc : Int32} (h : mOk R a f) (hf : f + 1 ≤ 60) (hp : vp_in p 100) : mOk (fouB R a p x y sc) a (f + 1) := mOk_oW (mOk_fouA h hf) (by rw [h.2.2.2.1]; exact vp_in_nI (by omega) (by decide)) hp
theorem mOk_fou {R : FI} {a f : Nat} {p x y sc : Int32} (h : mOk R a f) (hf : f + 1 ≤ 60) (hp : vp_in p 100) : mOk (fou R a p x y sc) a (f + 1) := mOk_foL (mOk_fouB h hf hp) a (by have := h.1; omega)
def mQx (x h i : Int32) : Int32 := x + h * (i - i / 2 * 2)
def mQy (y h i : Int32) : Int32 := y + h * (i / 2)
def mFn (R : FI) (a : Nat) (x y h i : Int32) : Int32 := mCe R a (mQx x h i) (mQy y h i) h
def mFq (R : FI) (a : Nat) (x y h : Int32) : Nat → Int32 × Int32
  | 0 => (0, -1)
  | k + 1 => if mFn R a x y h (nI k) ≤ (mFq R a x y h k).2 then mFq R a x y h k else (nI k, mFn R a x y h (nI k))
def spX (R : FI) (p : Int32) : Int32 := qA R p 1
def spY (R : FI) (p : Int32) : Int32 := qA R p 2
def spC (R : FI) (p : Int32) : Int32 := qA R p 3 + 1
def spH (R : FI) (p : Int32) : Int32 := 64 >>> (spC R p &&& 31)
def spE (R : FI) (a : Nat) (p : Int32) : Int32 := (mFq R a (spX R p) (spY R p) (spH R p) 4).1
def spq (R : FI) (a : Nat) (p : Int32) : Nat → FI
  | 0 => sPa R p (mQx (spX R p) (spH R p) (spE R a p)) (mQy (spY R p) (spH R p) (spE R a p)) (spC R p)
  | k + 1 => if nI k = spE R a p then spq R a p k else fou (spq R a p k) a p (mQx (spX R p) (spH R p) (nI k)) (mQy (spY R p) (spH R p) (nI k)) (spC R p)
def spl (R : FI) (a : Nat) (p : Int32) : FI := spq R a p 4
def spn (R : FI) (a f : Nat) (p : Int32) : Nat → Nat
  | 0 => f
  | k + 1 => if nI k = spE R a p then spn R a f p k else spn R a f p k + 1
theorem spn_le {R : FI} {a f : Nat} {p : Int32} : ∀ k, f ≤ spn R a f p k ∧ spn R a f p k ≤ f + k
  | 0 => ⟨Nat.le_refl _, Nat.le_refl _⟩
  | k + 1 => by
    have := spn_le (R := R) (a := a) (f := f) (p := p) k
    rw [spn]; split <;> omega
theorem mOk_spq {R : FI} {a f : Nat} {p : Int32} (h : mOk R a f) (hf : f + 4 ≤ 60) (hp : vp_in p 100) : ∀ k, k ≤ 4 → mOk (spq R a p k) a (spn R a f p k)
  | 0, _ => mOk_sPa h hp
  | k + 1, hk => by
    have ih := mOk_spq h hf hp k (by omega)
    have hl := spn_le (R := R) (a := a) (f := f) (p := p) k
    rw [spq, spn]
    split
    · exact ih
    · exact mOk_fou ih (by omega) hp
theorem spn_3 {R : FI} {a f : Nat} {p : Int32} : f + 3 ≤ spn R a f p 4 := by
  have e : ∀ i j : Nat, i < 4 → j < 4 → nI i = spE R a p → nI j = spE R a p → i = j := fun i j hi hj h1 h2 => (nI_eq (by omega) (by omega)).mp (h1.trans h2.symm)
  simp only [spn]
  by_cases h0 : nI 0 = spE R a p
  · have n1 : ¬ nI 1 = spE R a p := fun h => by have := e 0 1 (by omega) (by omega) h0 h; omega
    have n2 : ¬ nI 2 = spE R a p := fun h => by have := e 0 2 (by omega) (by omega) h0 h; omega
    have n3 : ¬ nI 3 = spE R a p := fun h => by have := e 0 3 (by omega) (by omega) h0 h; omega
    simp only [h0, n1, n2, n3, if_true, if_false]; omega
  · by_cases h1 : nI 1 = spE R a p
    · have n2 : ¬ nI 2 = spE R a p := fun h => by have := e 1 2 (by omega) (by omega) h1 h; omega
      have n3 : ¬ nI 3 = spE R a p := fun h => by have := e 1 3 (by omega) (by omega) h1 h; omega
      simp only [h0, h1, n2, n3, if_true, if_false]; omega
    · by_cases h2 : nI 2 = spE R a p
      · have n3 : ¬ nI 3 = spE R a p := fun h => by have := e 2 3 (by omega) (by omega) h2 h; omega
        simp only [h0, h1, h2, n3, if_true, if_false]; omega
      · simp only [h0, h1, h2, if_false]; split <;> omega
def nFn (R : FI) : Nat := (R 3).toNatClampNeg
theorem nFn_ok {R : FI} {a f : Nat} (h : mOk R a f) : nFn R = f := by
  rw [nFn, h.2.2.2.1, nI_clamp (by have := h.2.1; omega)]
def mTsN (R : FI) (a : Nat) : Int32 := mTs R a (nFn R)
def stK (R : FI) (a : Nat) : Nat → FI
  | 0 => R
  | k + 1 => spl (stK R a k) a (mTsN (stK R a k) a)
def stG (a : Nat) : Nat → FI → FI
  | 0, R => R
  | n + 1, R => if mTsN R a = -9 then R else if (38 : Int32) ≤ R 3 then R else stG a n (spl R a (mTsN R a))
theorem stG_1 {a : Nat} {R : FI} {n : Nat} (h : mTsN R a = -9) : stG a n R = R := by
  cases n with
  | zero => rfl
  | succ n => rw [stG, if_pos h]
theorem stG_2 {a : Nat} {R : FI} {n : Nat} (h : ¬ mTsN R a = -9) (h2 : (38 : Int32) ≤ R 3) : stG a n R = R := by
  cases n with
  | zero => rfl
  | succ n => rw [stG, if_neg h, if_pos h2]
theorem spl_ok {R : FI} {a f : Nat} {p : Int32} (h : mOk R a f) (hf : f + 4 ≤ 60) (hp : vp_in p 100) : mOk (spl R a p) a (nFn (spl R a p)) ∧ f + 3 ≤ nFn (spl R a p) := by
  have h1 : mOk (spl R a p) a (spn R a f p 4) := mOk_spq h hf hp 4 (by omega)
  rw [nFn_ok h1]
  exact ⟨h1, spn_3⟩
theorem stG_3 {a : Nat} {R : FI} {N k : Nat} (hk : k < N) (h : ¬ mTsN R a = -9) (h2 : ¬ (38 : Int32) ≤ R 3) : stG a (N - k) R = stG a (N - (k + 1)) (spl R a (mTsN R a)) := by
  rw [show N - k = (N - (k + 1)) + 1 by omega, stG, if_neg h, if_neg h2]
theorem f38 {R : FI} {a f : Nat} (h : mOk R a f) (h2 : ¬ (38 : Int32) ≤ R 3) : f < 38 := by
  rw [h.2.2.2.1, show (38 : Int32) = nI 38 from rfl, nI_leI (by decide) (by have := h.2.1; omega)] at h2
  omega
theorem mTs_in {R : FI} {a f : Nat} (h : mOk R a f) (h2 : ¬ mTsN R a = -9) : vp_in (mTsN R a) 100 := by
  rcases fnd_or (g := mTsB R a) f 0 with h3 | ⟨j, -, h4, h5, -⟩
  · exact absurd (by rw [mTsN, mTs, nFn_ok h]; exact h3) h2
  · rw [mTsN, mTs, nFn_ok h, h5]; exact vp_in_nI (by have := h.2.1; omega) (by decide)
