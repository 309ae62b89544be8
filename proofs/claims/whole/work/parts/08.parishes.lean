/-! parishes and debts: what their methods answer -/
def fnd (f : Nat → Bool) : Nat → Nat → Int32
  | 0, _ => -9
  | n + 1, k => if f k then nI k else fnd f n (k + 1)
theorem fnd_yes {f : Nat → Bool} {N k : Nat} (hk : k < N) (h : f k = true) : fnd f (N - k) k = nI k := by
  rw [show N - k = (N - (k + 1)) + 1 by omega, fnd, if_pos h]
theorem fnd_no {f : Nat → Bool} {N k : Nat} (hk : k < N) (h : f k = false) : fnd f (N - k) k = fnd f (N - (k + 1)) (k + 1) := by
  rw [show N - k = (N - (k + 1)) + 1 by omega, fnd, if_neg (by rw [h]; decide)]
def rEx (S : CS) (i : Int32) : Bool := !decide (i < 0) && !decide (40 ≤ i) && !decide (sSc S i.toNatClampNeg = -1)
theorem rEx_in {S : CS} {i : Int32} (h : rEx S i = true) : vp_in i 40 := by
  simp [rEx] at h
  exact z_in40 (Int32.not_lt.mpr h.1.1) (Int32.not_le.mpr h.1.2)
def rLe (S : CS) (i : Int32) : Int32 := if rEx S i then sLe S i.toNatClampNeg else -9
def rTo (S : CS) (i : Int32) : Int32 := if rEx S i then sTo S i.toNatClampNeg else -9
def rSc (S : CS) (i : Int32) : Int32 := if rEx S i then sSc S i.toNatClampNeg else -1
def rRi (S : CS) (i : Int32) : Int32 := rLe S i + sideF (rSc S i) - 1
def rBo (S : CS) (i : Int32) : Int32 := rTo S i + sideF (rSc S i) - 1
def rGiv (f : FI) (pa v : Int32) : FI := if btw pa 0 39 then upd f pa.toNatClampNeg v else f
def rRoom (S : CS) : Bool := btw (sFo S) 0 39
def rFo1 (S : CS) : Int32 := if rRoom S then sFo S + 1 else sFo S
def rDis (S : CS) (pa : Int32) : FI := if rEx S pa then upd (sSc S) pa.toNatClampNeg (-1) else sSc S
def rTou (S : CS) (i x y tx ty : Int32) : Bool := rEx S i && !decide (tx < sLe S i.toNatClampNeg) && !decide (sLe S i.toNatClampNeg + sideF (sSc S i.toNatClampNeg) ≤ x) && !decide (ty < sTo S i.toNatClampNeg) && !decide (sTo S i.toNatClampNeg + sideF (sSc S i.toNatClampNeg) ≤ y)
def rAt (S : CS) (x y : Int32) : Int32 := fnd (fun k => rTou S (nI k) x y x y) 40 0
def rNumT (S : CS) (x y tx ty : Int32) : Nat → Int32
  | 0 => 0
  | k + 1 => if rTou S (nI k) x y tx ty then rNumT S x y tx ty k + 1 else rNumT S x y tx ty k
def rGr (S : CS) : Nat → Int32
  | 0 => 0
  | k + 1 => if rGr S k < rSc S (nI k) then rSc S (nI k) else rGr S k
def eB (pl : Int32) : Nat → Int32
  | 0 => 0
  | k + 1 => eB pl k ||| (((pl >>> (((2 : Int32) * nI k) &&& 31)) &&& 1) <<< (nI k &&& 31))
def wPar (S : CS) (pl : Int32) : Int32 := rAt S (eB pl 6) (eB (pl >>> ((1 : Int32) &&& 31)) 6)
def wPl (S : CS) : Nat → Int32
  | 0 => 0
  | k + 1 => wPl S k + sideF (rSc S (wPar S (wPl S k))) * sideF (rSc S (wPar S (wPl S k)))
def wGo (S : CS) (nu : Int32) : Nat → Nat → Int32
  | 0, _ => -9
  | n + 1, k => if 4096 ≤ wPl S k then -9 else if nI k = nu then wPar S (wPl S k) else wGo S nu n (k + 1)
def wNB (S : CS) (nu : Int32) : Int32 := wGo S nu 40 0
theorem wGo_out {S : CS} {nu : Int32} {N k : Nat} (hk : k < N) (h : (4096 : Int32) ≤ wPl S k) : wGo S nu (N - k) k = -9 := by
  rw [show N - k = (N - (k + 1)) + 1 by omega, wGo, if_pos h]
theorem wGo_hit {S : CS} {nu : Int32} {N k : Nat} (hk : k < N) (h : ¬ (4096 : Int32) ≤ wPl S k) (h2 : nI k = nu) : wGo S nu (N - k) k = wPar S (wPl S k) := by
  rw [show N - k = (N - (k + 1)) + 1 by omega, wGo, if_neg h, if_pos h2]
theorem wGo_on {S : CS} {nu : Int32} {N k : Nat} (hk : k < N) (h : ¬ (4096 : Int32) ≤ wPl S k) (h2 : ¬ nI k = nu) : wGo S nu (N - k) k = wGo S nu (N - (k + 1)) (k + 1) := by
  rw [show N - k = (N - (k + 1)) + 1 by omega, wGo, if_neg h, if_neg h2]
def dOk (a b : Int32) : Bool := !decide (a < 0) && !decide (40 ≤ a) && !decide (b < 0) && !decide (40 ≤ b)
theorem z_nI40 {i : Int32} (h : vp_in i 40) : ∃ j : Nat, j < 40 ∧ i = nI j := vp_in_of h (by decide)
theorem dOk_in {a b : Int32} (h : dOk a b = true) : vp_in (a * 40 + b) 1600 := by
  simp [dOk] at h
  obtain ⟨j, hj, rfl⟩ := z_nI40 (z_in40 (Int32.not_lt.mpr h.1.1.1) (Int32.not_le.mpr h.1.1.2))
  obtain ⟨k, hk, rfl⟩ := z_nI40 (z_in40 (Int32.not_lt.mpr h.1.2) (Int32.not_le.mpr h.2))
  rw [show nI j * 40 + nI k = nI (j * 40 + k) from by rw [show (40 : Int32) = nI 40 from rfl, pk_mul, nI_add]]
  exact vp_in_nI (by omega) (by decide)
def dOwF (f : FI) (a b : Int32) : Int32 := if dOk a b then f (a * 40 + b).toNatClampNeg else 0
def dCh (f : FI) (a b v : Int32) : FI := if dOk a b then upd f (a * 40 + b).toNatClampNeg (f (a * 40 + b).toNatClampNeg + v) else f
def dSh (f : FI) (a b na nb : Int32) : FI := dCh (dCh f a b (-(dOwF f a b))) na nb (dOwF f a b)
def dP1 (f : FI) (fr to : Int32) : Nat → FI
  | 0 => f
  | k + 1 => dSh (dP1 f fr to k) fr (nI k) to (nI k)
def dP2 (f : FI) (fr to : Int32) : Nat → FI
  | 0 => f
  | k + 1 => dSh (dP2 f fr to k) (nI k) fr (nI k) to
def dDrop (f : FI) (to : Int32) : FI := dCh f to to (-(dOwF f to to))
def dPass (f : FI) (fr to : Int32) : FI := dDrop (dP2 (dP1 f fr to 40) fr to 40) to
def dBy (f : FI) (a : Int32) : Nat → Int32
  | 0 => 0
  | k + 1 => dBy f a k + dOwF f a (nI k)
def dTo (f : FI) (a : Int32) : Nat → Int32
  | 0 => 0
  | k + 1 => dTo f a k + dOwF f (nI k) a
def dSum (f : FI) : Nat → Int32
  | 0 => 0
  | k + 1 => dSum f k + dBy f (nI k) 40
def dFst (f : FI) (a : Int32) : Int32 := fnd (fun k => !decide (dOwF f a (nI k) ≤ 0)) 40 0
