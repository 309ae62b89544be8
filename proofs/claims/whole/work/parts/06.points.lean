/-! small numbers, and the points -/
theorem z_swN {n : Nat} {x : Int32} (hn : n < 2 ^ 31) (h : ∀ k, k < n → ¬ x = nI k) : x.toInt < 0 ∨ ((n : Int) - 1) < x.toInt := by
  rcases Int.lt_or_le x.toInt 0 with h0 | h0
  · exact Or.inl h0
  · right
    rcases Int.lt_or_le ((n : Int) - 1) x.toInt with h1 | h1
    · exact h1
    · exfalso
      have hx : x = nI x.toInt.toNat := by
        apply Int32.toInt_inj.mp
        rw [nI_toInt (by omega)]
        omega
      exact h x.toInt.toNat (by omega) hx
def onMap (x y : Int32) : Bool := btw x 0 63 && btw y 0 63
def sideF (sc : Int32) : Int32 := if !decide (sc < 0) && !decide (4 < sc) then 64 >>> (sc &&& 31) else 0
def qLef (left side quarter : Int32) : Int32 := left + (quarter &&& 1) * side
def qTop (top side quarter : Int32) : Int32 := top + (quarter >>> ((1 : Int32) &&& 31)) * side
def pEx (S : CS) (i : Int32) : Bool := !decide (i < 0) && !decide (40 ≤ i) && !decide (sW S i.toNatClampNeg ≤ 0)
theorem pEx_in {S : CS} {i : Int32} (h : pEx S i = true) : vp_in i 40 := by
  simp [pEx] at h
  exact z_in40 (Int32.not_lt.mpr h.1.1) (Int32.not_le.mpr h.1.2)
def pXof (S : CS) (i : Int32) : Int32 := if pEx S i then sX S i.toNatClampNeg else -9
def pYof (S : CS) (i : Int32) : Int32 := if pEx S i then sY S i.toNatClampNeg else -9
def pWof (S : CS) (i : Int32) : Int32 := if pEx S i then sW S i.toNatClampNeg else 0
def pLof (S : CS) (i : Int32) : Int32 := if pEx S i then sL S i.toNatClampNeg else -9
def pRoom (S : CS) : Bool := btw (sAd S) 0 39
theorem btw_in {i : Int32} (h : btw i 0 39 = true) : vp_in i 40 := by
  simp [btw] at h
  refine z_in40 (Int32.not_lt.mpr h.1) (fun h2 => ?_)
  have h3 := Int32.le_iff_toInt_le.mp h.2
  have h4 := Int32.le_iff_toInt_le.mp h2
  have e1 : (39 : Int32).toInt = 39 := by decide
  have e2 : (40 : Int32).toInt = 40 := by decide
  omega
def pFull (S : CS) : Bool := !decide (sAd S < 40)
def pAd1 (S : CS) : Int32 := if pRoom S then sAd S + 1 else sAd S
def pPut (S : CS) (f : FI) (v : Int32) : FI := if pRoom S then upd f (sAd S).toNatClampNeg v else f
def pSetAt (S : CS) (f : FI) (i v : Int32) : FI := if pEx S i then upd f i.toNatClampNeg v else f
def pLies (S : CS) (i l t r b : Int32) : Bool := pEx S i && btw (sX S i.toNatClampNeg) l r && btw (sY S i.toNatClampNeg) t b
def pNum (S : CS) (l t r b : Int32) : Nat → Int32
  | 0 => 0
  | k + 1 => if pLies S (nI k) l t r b then pNum S l t r b k + 1 else pNum S l t r b k
def pWea (S : CS) (l t r b : Int32) : Nat → Int32
  | 0 => 0
  | k + 1 => if pLies S (nI k) l t r b then pWea S l t r b k + sW S (nI k).toNatClampNeg else pWea S l t r b k
def pRich (S : CS) (l t r b : Int32) : Nat → Int32
  | 0 => -9
  | k + 1 => if pLies S (nI k) l t r b && !decide (sW S (nI k).toNatClampNeg ≤ pWof S (pRich S l t r b k)) then nI k else pRich S l t r b k
def iAbs (x : Int32) : Int32 := if 0 ≤ x then x else 0 - x
def pDist (S : CS) (tx ty i : Int32) : Int32 := iAbs (sX S i.toNatClampNeg - tx) + iAbs (sY S i.toNatClampNeg - ty)
def pNear (S : CS) (tx ty : Int32) : Nat → Int32 × Int32
  | 0 => (-9, 128)
  | k + 1 => if pEx S (nI k) && !decide ((pNear S tx ty k).2 ≤ pDist S tx ty (nI k)) then (nI k, pDist S tx ty (nI k)) else pNear S tx ty k
def pNumU (S : CS) (pa : Int32) : Nat → Int32
  | 0 => 0
  | k + 1 => if pLof S (nI k) = pa then pNumU S pa k + 1 else pNumU S pa k
def pWeaU (S : CS) (pa : Int32) : Nat → Int32
  | 0 => 0
  | k + 1 => if pLof S (nI k) = pa then pWeaU S pa k + sW S (nI k).toNatClampNeg else pWeaU S pa k
def pPoor (S : CS) (pa l t r b : Int32) : Nat → Int32 × Int32
  | 0 => (-9, 101)
  | k + 1 => if decide (pLof S (nI k) = pa) && pLies S (nI k) l t r b && !decide ((pPoor S pa l t r b k).2 ≤ sW S (nI k).toNatClampNeg) then (nI k, sW S (nI k).toNatClampNeg) else pPoor S pa l t r b k
def pChl (S : CS) (fr to l t r b : Int32) : Nat → FI
  | 0 => sL S
  | k + 1 => if pLies S (nI k) l t r b && decide (pChl S fr to l t r b k (nI k).toNatClampNeg = fr) then upd (pChl S fr to l t r b k) (nI k).toNatClampNeg to else pChl S fr to l t r b k
theorem z_sw3 {x : Int32} (h0 : ¬ x = 0) (h1 : ¬ x = 1) (h2 : ¬ x = 2) (h3 : ¬ x = 3) : x.toInt < 0 ∨ (3 : Int) < x.toInt := z_swN (n := 4) (by decide) (fun k hk => by
  match k, hk with
  | 0, _ => exact h0
  | 1, _ => exact h1
  | 2, _ => exact h2
  | 3, _ => exact h3
  | k + 4, hk => exact absurd hk (by omega))
theorem z_sw4 {x : Int32} (h0 : ¬ x = 0) (h1 : ¬ x = 1) (h2 : ¬ x = 2) (h3 : ¬ x = 3) (h4 : ¬ x = 4) : x.toInt < 0 ∨ (4 : Int) < x.toInt := z_swN (n := 5) (by decide) (fun k hk => by
  match k, hk with
  | 0, _ => exact h0
  | 1, _ => exact h1
  | 2, _ => exact h2
  | 3, _ => exact h3
  | 4, _ => exact h4
  | k + 5, hk => exact absurd hk (by omega))
theorem z_sw7 {x : Int32} (h0 : ¬ x = 0) (h1 : ¬ x = 1) (h2 : ¬ x = 2) (h3 : ¬ x = 3) (h4 : ¬ x = 4) (h5 : ¬ x = 5) (h6 : ¬ x = 6) (h7 : ¬ x = 7) : x.toInt < 0 ∨ (7 : Int) < x.toInt := z_swN (n := 8) (by decide) (fun k hk => by
  match k, hk with
  | 0, _ => exact h0
  | 1, _ => exact h1
  | 2, _ => exact h2
  | 3, _ => exact h3
  | 4, _ => exact h4
  | 5, _ => exact h5
  | 6, _ => exact h6
  | 7, _ => exact h7
  | k + 8, hk => exact absurd hk (by omega))
theorem z_sw10 {x : Int32} (h0 : ¬ x = 0) (h1 : ¬ x = 1) (h2 : ¬ x = 2) (h3 : ¬ x = 3) (h4 : ¬ x = 4) (h5 : ¬ x = 5) (h6 : ¬ x = 6) (h7 : ¬ x = 7) (h8 : ¬ x = 8) (h9 : ¬ x = 9) (h10 : ¬ x = 10) : x.toInt < 0 ∨ (10 : Int) < x.toInt := z_swN (n := 11) (by decide) (fun k hk => by
  match k, hk with
  | 0, _ => exact h0
  | 1, _ => exact h1
  | 2, _ => exact h2
  | 3, _ => exact h3
  | 4, _ => exact h4
  | 5, _ => exact h5
  | 6, _ => exact h6
  | 7, _ => exact h7
  | 8, _ => exact h8
  | 9, _ => exact h9
  | 10, _ => exact h10
  | k + 11, hk => exact absurd hk (by omega))
theorem z_sw18 {x : Int32} (h0 : ¬ x = 0) (h1 : ¬ x = 1) (h2 : ¬ x = 2) (h3 : ¬ x = 3) (h4 : ¬ x = 4) (h5 : ¬ x = 5) (h6 : ¬ x = 6) (h7 : ¬ x = 7) (h8 : ¬ x = 8) (h9 : ¬ x = 9) (h10 : ¬ x = 10) (h11 : ¬ x = 11) (h12 : ¬ x = 12) (h13 : ¬ x = 13) (h14 : ¬ x = 14) (h15 : ¬ x = 15) (h16 : ¬ x = 16) (h17 : ¬ x = 17) (h18 : ¬ x = 18) : x.toInt < 0 ∨ (18 : Int) < x.toInt := z_swN (n := 19) (by decide) (fun k hk => by
  match k, hk with
  | 0, _ => exact h0
  | 1, _ => exact h1
  | 2, _ => exact h2
  | 3, _ => exact h3
  | 4, _ => exact h4
  | 5, _ => exact h5
  | 6, _ => exact h6
  | 7, _ => exact h7
  | 8, _ => exact h8
  | 9, _ => exact h9
  | 10, _ => exact h10
  | 11, _ => exact h11
  | 12, _ => exact h12
  | 13, _ => exact h13
  | 14, _ => exact h14
  | 15, _ => exact h15
  | 16, _ => exact h16
  | 17, _ => exact h17
  | 18, _ => exact h18
  | k + 19, hk => exact absurd hk (by omega))
theorem uCr_self (S : CS) : uCr S (sCr S) = S := rfl
theorem uCr_u (S : CS) (v w : Int32) : uCr (uCr S v) w = uCr S w := rfl
theorem sCr_u (S : CS) (v : Int32) : sCr (uCr S v) = v := rfl
theorem uTi_self (S : CS) : uTi S (sTi S) = S := rfl
theorem uTi_u (S : CS) (v w : Int32) : uTi (uTi S v) w = uTi S w := rfl
theorem sTi_u (S : CS) (v : Int32) : sTi (uTi S v) = v := rfl
theorem uAd_self (S : CS) : uAd S (sAd S) = S := rfl
theorem uAd_u (S : CS) (v w : Int32) : uAd (uAd S v) w = uAd S w := rfl
theorem sAd_u (S : CS) (v : Int32) : sAd (uAd S v) = v := rfl
theorem uX_self (S : CS) : uX S (sX S) = S := rfl
theorem uX_u (S : CS) (v w : FI) : uX (uX S v) w = uX S w := rfl
theorem sX_u (S : CS) (v : FI) : sX (uX S v) = v := rfl
theorem uY_self (S : CS) : uY S (sY S) = S := rfl
theorem uY_u (S : CS) (v w : FI) : uY (uY S v) w = uY S w := rfl
theorem sY_u (S : CS) (v : FI) : sY (uY S v) = v := rfl
theorem uW_self (S : CS) : uW S (sW S) = S := rfl
theorem uW_u (S : CS) (v w : FI) : uW (uW S v) w = uW S w := rfl
theorem sW_u (S : CS) (v : FI) : sW (uW S v) = v := rfl
theorem uL_self (S : CS) : uL S (sL S) = S := rfl
theorem uL_u (S : CS) (v w : FI) : uL (uL S v) w = uL S w := rfl
theorem sL_u (S : CS) (v : FI) : sL (uL S v) = v := rfl
theorem uFo_self (S : CS) : uFo S (sFo S) = S := rfl
theorem uFo_u (S : CS) (v w : Int32) : uFo (uFo S v) w = uFo S w := rfl
theorem sFo_u (S : CS) (v : Int32) : sFo (uFo S v) = v := rfl
theorem uLe_self (S : CS) : uLe S (sLe S) = S := rfl
theorem uLe_u (S : CS) (v w : FI) : uLe (uLe S v) w = uLe S w := rfl
theorem sLe_u (S : CS) (v : FI) : sLe (uLe S v) = v := rfl
theorem uTo_self (S : CS) : uTo S (sTo S) = S := rfl
theorem uTo_u (S : CS) (v w : FI) : uTo (uTo S v) w = uTo S w := rfl
theorem sTo_u (S : CS) (v : FI) : sTo (uTo S v) = v := rfl
theorem uSc_self (S : CS) : uSc S (sSc S) = S := rfl
theorem uSc_u (S : CS) (v w : FI) : uSc (uSc S v) w = uSc S w := rfl
theorem sSc_u (S : CS) (v : FI) : sSc (uSc S v) = v := rfl
theorem uD_self (S : CS) : uD S (sD S) = S := rfl
theorem uD_u (S : CS) (v w : FI) : uD (uD S v) w = uD S w := rfl
theorem sD_u (S : CS) (v : FI) : sD (uD S v) = v := rfl
def pCol (S : CS) (sd cr ro : Int32) (acc : Int32) : Nat → Int32
  | 0 => acc
  | k + 1 => if pNum S (nI k * sd) (ro * sd) (nI k * sd + sd - 1) (ro * sd + sd - 1) 40 ≤ cr then pCol S sd cr ro acc k else pCol S sd cr ro acc k + 1
def pRow (S : CS) (sd cr : Int32) (N : Nat) : Nat → Int32
  | 0 => 0
  | k + 1 => pCol S sd cr (nI k) (pRow S sd cr N k) N
def pDiv (S : CS) (cr : Int32) : Nat → Int32
  | 0 => 1
  | k + 1 => pDiv S cr k + 3 * pRow S (sideF (nI k)) cr (2 ^ k) (2 ^ k)
theorem z_sh4 : ∀ k, k < 4 → 2 ^ k < 1000 ∧ (1 : Int32) <<< (nI k &&& 31) = nI (2 ^ k) := by decide
