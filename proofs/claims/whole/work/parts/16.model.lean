/-! the reference's row of numbers: places in it, what its methods answer -/
def mOk (R : FI) (a f : Nat) : Prop := a ≤ 40 ∧ f ≤ 60 ∧ R 2 = nI a ∧ R 3 = nI f ∧ ¬ R 1 = 0
def oP (R : FI) (i w : Int32) : Int32 := R (4 + 5 * i + w).toNatClampNeg
def qA (R : FI) (p w : Int32) : Int32 := R (204 + 4 * p + w).toNatClampNeg
def dO (R : FI) (p c : Int32) : Int32 := R (364 + 40 * p + c).toNatClampNeg
theorem z_i100 {i : Int32} {n : Nat} (h : vp_in i n) (hn : n < 2 ^ 31) : ∃ j : Nat, j < n ∧ i = nI j := vp_in_of h hn
theorem ix1e (j w : Nat) : (4 : Int32) + 5 * nI j + nI w = nI (4 + 5 * j + w) := by
  rw [show (5 : Int32) = nI 5 from rfl, show (4 : Int32) = nI 4 from rfl, pk_mul, nI_add, nI_add]
theorem ix2e (j w : Nat) : (204 : Int32) + 4 * nI j + nI w = nI (204 + 4 * j + w) := by
  rw [show (4 : Int32) = nI 4 from rfl, show (204 : Int32) = nI 204 from rfl, pk_mul, nI_add, nI_add]
theorem ix3e (j w : Nat) : (364 : Int32) + 40 * nI j + nI w = nI (364 + 40 * j + w) := by
  rw [show (40 : Int32) = nI 40 from rfl, show (364 : Int32) = nI 364 from rfl, pk_mul, nI_add, nI_add]
theorem ix1 {i w : Int32} (hi : vp_in i 100) (hw : vp_in w 10) : vp_in (4 + 5 * i + w) 11784 := by
  obtain ⟨j, hj, rfl⟩ := vp_in_of hi (by decide)
  obtain ⟨k, hk, rfl⟩ := vp_in_of hw (by decide)
  rw [ix1e]; exact vp_in_nI (by omega) (by decide)
theorem ix2 {p w : Int32} (hp : vp_in p 100 ∨ p = -9) (hw : vp_in w 10) : vp_in (204 + 4 * p + w) 11784 := by
  obtain ⟨k, hk, rfl⟩ := vp_in_of hw (by decide)
  rcases hp with hp | rfl
  · obtain ⟨j, hj, rfl⟩ := vp_in_of hp (by decide)
    rw [ix2e]; exact vp_in_nI (by omega) (by decide)
  · rw [show (204 : Int32) + 4 * (-9) = nI 168 from by decide, nI_add]; exact vp_in_nI (by omega) (by decide)
theorem ix3 {p c : Int32} (hp : vp_in p 100) (hc : vp_in c 100) : vp_in (364 + 40 * p + c) 11784 := by
  obtain ⟨j, hj, rfl⟩ := vp_in_of hp (by decide)
  obtain ⟨k, hk, rfl⟩ := vp_in_of hc (by decide)
  rw [ix3e]; exact vp_in_nI (by omega) (by decide)
theorem ix2' {p : Int32} (hp : vp_in p 100) : vp_in (204 + 4 * p) 11784 := by
  obtain ⟨j, hj, rfl⟩ := vp_in_of hp (by decide)
  rw [show (204 : Int32) + 4 * nI j = nI (204 + 4 * j) from by rw [show (4 : Int32) = nI 4 from rfl, show (204 : Int32) = nI 204 from rfl, pk_mul, nI_add]]
  exact vp_in_nI (by omega) (by decide)
theorem z_wk {i : Int32} {n m : Nat} (h : vp_in i n) (hnm : n ≤ m) : vp_in i m := by
  rw [vp_in_iff] at h ⊢
  omega
theorem btw_R {i v : Int32} {a : Nat} (ha : a ≤ 60) (hv : v = nI a) (h : btw i 0 (v - 1) = true) : vp_in i 100 := by
  simp [btw] at h
  subst hv
  rw [vp_in_iff]
  have h1 := Int32.le_iff_toInt_le.mp h.1
  have h2 := Int32.le_iff_toInt_le.mp h.2
  have e0 : (0 : Int32).toInt = 0 := by decide
  have e1 : (nI a - 1).toInt = (a : Int) - 1 := by
    rw [show (1 : Int32) = nI 1 from rfl, pk_sub_toInt (by omega) (by omega)]; simp
  omega
theorem kin {k a : Nat} (hk : k < a) (ha : a ≤ 60) : vp_in (nI k) 100 := vp_in_nI (by omega) (by decide)
def iP (R : FI) (i : Int32) : Bool := btw i 0 (R 2 - 1) && decide (oP R i 3 = 1)
def iR (R : FI) (p : Int32) : Bool := btw p 0 (R 3 - 1) && decide (qA R p 0 = 1)
theorem iP_in {R : FI} {a f : Nat} {i : Int32} (hA : mOk R a f) (h : iP R i = true) : vp_in i 100 := by
  simp only [iP, Bool.and_eq_true] at h
  have h0 := hA.1
  exact btw_R (by omega) hA.2.2.1 h.1
theorem iR_in {R : FI} {a f : Nat} {i : Int32} (hA : mOk R a f) (h : iR R i = true) : vp_in i 100 := by
  simp only [iR, Bool.and_eq_true] at h
  exact btw_R hA.2.1 hA.2.2.2.1 h.1
def mSd (R : FI) (p : Int32) : Int32 := 64 >>> (qA R p 3 &&& 31)
def mTou (R : FI) (x y : Int32) (k : Nat) : Bool := iR R (nI k) && btw (x - qA R (nI k) 1) 0 (mSd R (nI k) - 1) && btw (y - qA R (nI k) 2) 0 (mSd R (nI k) - 1)
def mAt (R : FI) (f : Nat) (x y : Int32) : Int32 := fnd (mTou R x y) f 0
theorem fnd_or {g : Nat → Bool} : ∀ (n k : Nat), fnd g n k = -9 ∨ ∃ j, k ≤ j ∧ j < k + n ∧ fnd g n k = nI j ∧ g j = true
  | 0, k => Or.inl rfl
  | n + 1, k => by
    by_cases h : g k = true
    · right
      exact ⟨k, Nat.le_refl k, by omega, by rw [fnd, if_pos h], h⟩
    · rcases fnd_or n (k + 1) with h1 | ⟨j, h1, h2, h3, h4⟩
      · left; rw [fnd, if_neg h]; exact h1
      · right; exact ⟨j, by omega, by omega, by rw [fnd, if_neg h]; exact h3, h4⟩
theorem mAt_in {R : FI} {f : Nat} {x y : Int32} (hf : f ≤ 60) : vp_in (mAt R f x y) 100 ∨ mAt R f x y = -9 := by
  rcases fnd_or (g := mTou R x y) f 0 with h | ⟨j, -, h2, h3, -⟩
  · exact Or.inr h
  · left; rw [mAt, h3]; exact vp_in_nI (by omega) (by decide)
def mAr (R : FI) (f : Nat) (i : Int32) : Int32 := mAt R f (oP R i 0) (oP R i 1)
def mPt (R : FI) (l t r b : Int32) : Nat → Int32
  | 0 => 0
  | k + 1 => if iP R (nI k) && btw (oP R (nI k) 0) l r && btw (oP R (nI k) 1) t b then mPt R l t r b k + 1 else mPt R l t r b k
def mCe (R : FI) (a : Nat) (x y sd : Int32) : Int32 := mPt R x y (x + sd - 1) (y + sd - 1) a
def oW (R : FI) (p c v : Int32) : FI := upd R (364 + 40 * p + c).toNatClampNeg (R (364 + 40 * p + c).toNatClampNeg + v)
def mBy (R : FI) (p : Int32) : Nat → Int32
  | 0 => 0
  | k + 1 => mBy R p k + dO R p (nI k)
def sPa (R : FI) (p x y s : Int32) : FI := upd (upd (upd (upd R (204 + 4 * p).toNatClampNeg 1) (204 + 4 * p + 1).toNatClampNeg x) (204 + 4 * p + 2).toNatClampNeg y) (204 + 4 * p + 3).toNatClampNeg s
def sLo (R : FI) (i p : Int32) : FI := upd R (4 + 5 * i + 4).toNatClampNeg p
def mCr (R : FI) (a : Nat) (p : Int32) : Bool := !decide (mCe R a (qA R p 1) (qA R p 2) (mSd R p) ≤ R 0)
def mTsB (R : FI) (a : Nat) (k : Nat) : Bool := iR R (nI k) && !decide (4 ≤ qA R (nI k) 3) && mCr R a (nI k)
def mTs (R : FI) (a f : Nat) : Int32 := fnd (mTsB R a) f 0
def cps (R : FI) (fr to : Int32) : Nat → FI
  | 0 => R
  | k + 1 => upd (cps R fr to k) (to + nI k).toNatClampNeg (cps R fr to k (fr + nI k).toNatClampNeg)
def cpOk (fr : Int32) : Prop := ∃ x : Nat, fr = nI x ∧ x + 1964 ≤ 11784
theorem cp_in {fr : Int32} {k : Nat} (h : cpOk fr) (hk : k < 1964) : vp_in (fr + nI k) 11784 := by
  obtain ⟨x, h1, h2⟩ := h
  rw [h1, nI_add]; exact vp_in_nI (by omega) (by decide)
def recR (R : FI) (K : Int32) : FI := if K = 5 then cps (cps (cps (cps (cps R 3928 1964 1964) 5892 3928 1964) 7856 5892 1964) 9820 7856 1964) 0 (1964 * (K - 1 + 1)) 1964 else cps R 0 (1964 * (K + 1)) 1964
def recK (K : Int32) : Int32 := if K = 5 then K - 1 + 1 else K + 1
theorem rec_to5 {K : Int32} (h : K = 5) : cpOk ((1964 : Int32) * (K - 1 + 1)) := by subst h; exact ⟨9820, by decide, by decide⟩
theorem rec_to {K : Int32} {n : Nat} (hn : n ≤ 5) (hK : K = nI n) (h : ¬ K = 5) : cpOk ((1964 : Int32) * (K + 1)) := by
  have h5 : n ≠ 5 := fun e => h (by rw [hK, e]; rfl)
  refine ⟨1964 * (n + 1), ?_, by omega⟩
  rw [hK, show (1964 : Int32) = nI 1964 from rfl, nI_1, pk_mul]
