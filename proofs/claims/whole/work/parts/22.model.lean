/-! the reference: what its looking calls answer -/
theorem z_sw6 {x : Int32} (h0 : ¬ x = 0) (h1 : ¬ x = 1) (h2 : ¬ x = 2) (h3 : ¬ x = 3) (h4 : ¬ x = 4) (h5 : ¬ x = 5) (h6 : ¬ x = 6) : x.toInt < 0 ∨ (6 : Int) < x.toInt := z_swN (n := 7) (by decide) (fun k hk => by
  match k, hk with
  | 0, _ => exact h0
  | 1, _ => exact h1
  | 2, _ => exact h2
  | 3, _ => exact h3
  | 4, _ => exact h4
  | 5, _ => exact h5
  | 6, _ => exact h6
  | k + 7, hk => exact absurd hk (by omega))
def coP (R : FI) : Nat → Int32
  | 0 => 0
  | k + 1 => if iR R (nI k) then coP R k + 1 else coP R k
def coD (R : FI) : Nat → Int32
  | 0 => 0
  | k + 1 => coD R k + mBy R (nI k) 40
def coG (R : FI) : Nat → Int32
  | 0 => 0
  | k + 1 => if iR R (nI k) && !decide (qA R (nI k) 3 ≤ coG R k) then qA R (nI k) 3 else coG R k
def coS (R : FI) (f : Nat) : Nat → Int32
  | 0 => 0
  | k + 1 => if iP R (nI k) && !decide (oP R (nI k) 4 = mAr R f (nI k)) then coS R f k + 1 else coS R f k
def coW (R : FI) : Nat → Int32
  | 0 => 0
  | k + 1 => if iP R (nI k) then coW R k + oP R (nI k) 2 else coW R k
def mcoRet (R : FI) (K : Int32) (a f : Nat) (w : Int32) : Int32 := if w = 0 then mPt R 0 0 63 63 a else if w = 1 then R 2 else if w = 2 then coP R f else if w = 3 then R 3 else if w = 4 then R 0 else if w = 5 then R 1 else if w = 6 then coD R f else if w = 7 then coS R f a else if w = 8 then coG R f else if w = 9 then coW R a else if w = 10 then K else -1
def mpoRet (R : FI) (f : Nat) (i w : Int32) : Int32 := if iP R i && btw w 0 4 then (if 3 ≤ w then (if w = 3 then mAr R f i else oP R i 4) else oP R i w) else -1
theorem btw_w {w hi : Int32} {n : Nat} (hn : n < 2 ^ 31) (hh : hi = nI n) (h : btw w 0 hi = true) : vp_in w (n + 1) := by
  simp [btw] at h
  subst hh
  rw [vp_in_iff]
  have h1 := Int32.le_iff_toInt_le.mp h.1
  have h2 := Int32.le_iff_toInt_le.mp h.2
  have e0 : (0 : Int32).toInt = 0 := by decide
  rw [nI_toInt hn] at h2
  omega
theorem wp1 {w : Int32} (h : vp_in w 8) : vp_in (w + 1) 10 := by
  obtain ⟨k, hk, rfl⟩ := vp_in_of h (by decide)
  rw [nI_1]; exact vp_in_nI (by omega) (by decide)
def maO (R : FI) (p : Int32) : Nat → Int32
  | 0 => 0
  | k + 1 => if iP R (nI k) && decide (oP R (nI k) 4 = p) then maO R p k + 1 else maO R p k
def maW (R : FI) (p : Int32) : Nat → Int32
  | 0 => 0
  | k + 1 => if iP R (nI k) && decide (oP R (nI k) 4 = p) then maW R p k + oP R (nI k) 2 else maW R p k
def maG (R : FI) (p : Int32) : Nat → Int32
  | 0 => 0
  | k + 1 => maG R p k + dO R (nI k) p
def mpaRet (R : FI) (a : Nat) (p w : Int32) : Int32 := if iR R p && btw w 0 7 then (if w = 0 then qA R p (w + 1) else if w = 1 then qA R p (w + 1) else if w = 2 then qA R p (w + 1) else if w = 3 then mCe R a (qA R p 1) (qA R p 2) (mSd R p) else if w = 4 then maO R p a else if w = 5 then maW R p a else if w = 6 then mBy R p 40 else maG R p 40) else -1
def mdeRet (R : FI) (p c : Int32) : Int32 := if iR R p && iR R c then dO R p c else -1
def matRet (R : FI) (f : Nat) (x y : Int32) : Int32 := if onMap x y then mAt R f x y else -1
def raT (R : FI) (x y tx ty : Int32) (k : Nat) : Bool := iR R (nI k) && !decide (tx < qA R (nI k) 1) && !decide (qA R (nI k) 1 + mSd R (nI k) ≤ x) && !decide (ty < qA R (nI k) 2) && !decide (qA R (nI k) 2 + mSd R (nI k) ≤ y)
def raN (R : FI) (x y tx ty : Int32) : Nat → Int32
  | 0 => 0
  | k + 1 => if raT R x y tx ty k then raN R x y tx ty k + 1 else raN R x y tx ty k
def raW (R : FI) (x y tx ty : Int32) : Nat → Int32
  | 0 => 0
  | k + 1 => if mRg R x y tx ty k then raW R x y tx ty k + oP R (nI k) 2 else raW R x y tx ty k
def raR (R : FI) (x y tx ty : Int32) : Nat → Int32
  | 0 => -9
  | k + 1 => if mRg R x y tx ty k && (decide (raR R x y tx ty k = -9) || !decide (oP R (nI k) 2 ≤ oP R (raR R x y tx ty k) 2)) then nI k else raR R x y tx ty k
theorem raR_in {R : FI} {x y tx ty : Int32} : ∀ k, k ≤ 60 → raR R x y tx ty k = -9 ∨ vp_in (raR R x y tx ty k) 100
  | 0, _ => Or.inl rfl
  | k + 1, hk => by
    rw [raR]; split
    · exact Or.inr (vp_in_nI (by omega) (by decide))
    · exact raR_in k (by omega)
def mraOk (x y tx ty w : Int32) : Bool := onMap x y && btw tx x 63 && btw ty y 63 && btw w 0 3
def mraRet (R : FI) (a f : Nat) (x y tx ty w : Int32) : Int32 := if mraOk x y tx ty w then (if w = 0 then mPt R x y tx ty a else if w = 2 then raN R x y tx ty f else if w = 1 then raW R x y tx ty a else raR R x y tx ty a) else -1
def faR (a b : Int32) : Int32 := if b ≤ a then a - b else b - a
def mDi (R : FI) (x y i : Int32) : Int32 := faR x (oP R i 0) + faR y (oP R i 1)
def mNe (R : FI) (x y : Int32) : Nat → Int32 × Int32
  | 0 => (-9, 0)
  | k + 1 => if iP R (nI k) && (decide ((mNe R x y k).1 = -9) || !decide ((mNe R x y k).2 ≤ mDi R x y (nI k))) then (nI k, mDi R x y (nI k)) else mNe R x y k
def mneRet (R : FI) (a : Nat) (x y : Int32) : Int32 := if onMap x y then (mNe R x y a).1 else -1
def mXc (c : Int32) : Nat → Int32
  | 0 => 0
  | k + 1 => mXc c k + ((c >>> (((2 : Int32) * nI k) &&& 31)) &&& 1) * ((4 : Int32) <<< (nI k &&& 31))
def mYc (c : Int32) : Nat → Int32
  | 0 => 0
  | k + 1 => mYc c k + ((c >>> (((2 : Int32) * nI k + 1) &&& 31)) &&& 1) * ((4 : Int32) <<< (nI k &&& 31))
def ioP (R : FI) (f k : Nat) : Int32 := mAt R f (mXc (nI k) 4) (mYc (nI k) 4)
def ioB (R : FI) (f k : Nat) : Bool := decide (qA R (ioP R f k) 1 = mXc (nI k) 4) && decide (qA R (ioP R f k) 2 = mYc (nI k) 4)
def ioN (R : FI) (f : Nat) : Nat → Int32
  | 0 => 0
  | k + 1 => if ioB R f k then ioN R f k + 1 else ioN R f k
def ioG (R : FI) (f : Nat) (ix : Int32) : Nat → Nat → Int32
  | 0, _ => -9
  | n + 1, k => if ioB R f k && decide (ioN R f k = ix) then ioP R f k else ioG R f ix n (k + 1)
theorem ioG_hit {R : FI} {f : Nat} {ix : Int32} {N k : Nat} (hk : k < N) (h : (ioB R f k && decide (ioN R f k = ix)) = true) : ioG R f ix (N - k) k = ioP R f k := by
  rw [show N - k = (N - (k + 1)) + 1 by omega, ioG, if_pos h]
theorem ioG_on {R : FI} {f : Nat} {ix : Int32} {N k : Nat} (hk : k < N) (h : ¬ (ioB R f k && decide (ioN R f k = ix)) = true) : ioG R f ix (N - k) k = ioG R f ix (N - (k + 1)) (k + 1) := by
  rw [show N - k = (N - (k + 1)) + 1 by omega, ioG, if_neg h]
def mioRes (R : FI) (f : Nat) (ix : Int32) : Int32 := ioG R f ix 256 0
def mioRet (R : FI) (f : Nat) (ix : Int32) : Int32 := if 0 ≤ ix then mioRes R f ix else -1
def mpN (R : FI) (f : Nat) (p : Int32) : Nat → Int32
  | 0 => 0
  | k + 1 => if iP R (nI k) && decide (oP R (nI k) 4 = p) && decide (mAr R f (nI k) = p) then mpN R f p k + 1 else mpN R f p k
def mpbRet (R : FI) (a f : Nat) (p : Int32) : Int32 := if iR R p then (if mBy R p 40 ≤ mpN R f p a then mBy R p 40 else mpN R f p a) else -1
