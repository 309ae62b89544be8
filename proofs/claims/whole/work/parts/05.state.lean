/-! the state of the class as a value; its cells -/
abbrev FI : Type := Nat → Int32
abbrev CS : Type := (Int32 × Int32) × (Int32 × FI × FI × FI × FI) × (Int32 × FI × FI × FI) × FI
abbrev sCr (S : CS) : Int32 := S.1.1
abbrev sTi (S : CS) : Int32 := S.1.2
abbrev sAd (S : CS) : Int32 := S.2.1.1
abbrev sX (S : CS) : FI := S.2.1.2.1
abbrev sY (S : CS) : FI := S.2.1.2.2.1
abbrev sW (S : CS) : FI := S.2.1.2.2.2.1
abbrev sL (S : CS) : FI := S.2.1.2.2.2.2
abbrev sFo (S : CS) : Int32 := S.2.2.1.1
abbrev sLe (S : CS) : FI := S.2.2.1.2.1
abbrev sTo (S : CS) : FI := S.2.2.1.2.2.1
abbrev sSc (S : CS) : FI := S.2.2.1.2.2.2
abbrev sD (S : CS) : FI := S.2.2.2
abbrev uCr (S : CS) (v : Int32) : CS := ((v, S.1.2), S.2)
abbrev uTi (S : CS) (v : Int32) : CS := ((S.1.1, v), S.2)
abbrev uAd (S : CS) (v : Int32) : CS := (S.1, (v, S.2.1.2), S.2.2)
abbrev uX (S : CS) (v : FI) : CS := (S.1, (S.2.1.1, v, S.2.1.2.2), S.2.2)
abbrev uY (S : CS) (v : FI) : CS := (S.1, (S.2.1.1, S.2.1.2.1, v, S.2.1.2.2.2), S.2.2)
abbrev uW (S : CS) (v : FI) : CS := (S.1, (S.2.1.1, S.2.1.2.1, S.2.1.2.2.1, v, S.2.1.2.2.2.2), S.2.2)
abbrev uL (S : CS) (v : FI) : CS := (S.1, (S.2.1.1, S.2.1.2.1, S.2.1.2.2.1, S.2.1.2.2.2.1, v), S.2.2)
abbrev uFo (S : CS) (v : Int32) : CS := (S.1, S.2.1, (v, S.2.2.1.2), S.2.2.2)
abbrev uLe (S : CS) (v : FI) : CS := (S.1, S.2.1, (S.2.2.1.1, v, S.2.2.1.2.2), S.2.2.2)
abbrev uTo (S : CS) (v : FI) : CS := (S.1, S.2.1, (S.2.2.1.1, S.2.2.1.2.1, v, S.2.2.1.2.2.2), S.2.2.2)
abbrev uSc (S : CS) (v : FI) : CS := (S.1, S.2.1, (S.2.2.1.1, S.2.2.1.2.1, S.2.2.1.2.2.1, v), S.2.2.2)
abbrev uD (S : CS) (v : FI) : CS := (S.1, S.2.1, S.2.2.1, v)
/-- points' cells: q 1 the object, q 2 .. q 5 its rows -/
abbrev zPts (cI : ClassId) (q : Nat → Nat) (S : CS) : va_W := [(q 1, .inr (3, [.int (sAd S), .ref (q 2), .ref (q 3), .ref (q 4), .ref (q 5)])), (q 2, .inl (cI, 40, .inl (sX S))), (q 3, .inl (cI, 40, .inl (sY S))), (q 4, .inl (cI, 40, .inl (sW S))), (q 5, .inl (cI, 40, .inl (sL S)))]
abbrev zPar (cI : ClassId) (q : Nat → Nat) (S : CS) : va_W := [(q 6, .inr (2, [.int (sFo S), .ref (q 7), .ref (q 8), .ref (q 9)])), (q 7, .inl (cI, 40, .inl (sLe S))), (q 8, .inl (cI, 40, .inl (sTo S))), (q 9, .inl (cI, 40, .inl (sSc S)))]
abbrev zDeb (cI : ClassId) (q : Nat → Nat) (S : CS) : va_W := [(q 10, .inr (0, [.ref (q 11)])), (q 11, .inl (cI, 1600, .inl (sD S)))]
abbrev zSta (cI : ClassId) (q : Nat → Nat) (S : CS) : va_W := [(q 0, .inr (4, [.int (sCr S), .int (sTi S), .ref (q 1), .ref (q 6), .ref (q 10)])), (q 1, .inr (3, [.int (sAd S), .ref (q 2), .ref (q 3), .ref (q 4), .ref (q 5)])), (q 2, .inl (cI, 40, .inl (sX S))), (q 3, .inl (cI, 40, .inl (sY S))), (q 4, .inl (cI, 40, .inl (sW S))), (q 5, .inl (cI, 40, .inl (sL S))), (q 6, .inr (2, [.int (sFo S), .ref (q 7), .ref (q 8), .ref (q 9)])), (q 7, .inl (cI, 40, .inl (sLe S))), (q 8, .inl (cI, 40, .inl (sTo S))), (q 9, .inl (cI, 40, .inl (sSc S))), (q 10, .inr (0, [.ref (q 11)])), (q 11, .inl (cI, 1600, .inl (sD S)))]
/-- the reference: its row of numbers, how many states it keeps, its four -/
abbrev MS : Type := FI × Int32 × FI
abbrev mR (M : MS) : FI := M.1
abbrev mK (M : MS) : Int32 := M.2.1
abbrev mF (M : MS) : FI := M.2.2
abbrev uR (M : MS) (v : FI) : MS := (v, M.2)
abbrev uK (M : MS) (v : Int32) : MS := (M.1, v, M.2.2)
abbrev uF (M : MS) (v : FI) : MS := (M.1, M.2.1, v)
abbrev zMod (cI : ClassId) (r : Nat → Nat) (M : MS) : va_W := [(r 0, .inr (6, [.ref (r 1), .int (mK M), .ref (r 2)])), (r 1, .inl (cI, 11784, .inl (mR M))), (r 2, .inl (cI, 4, .inl (mF M)))]
abbrev nC (i : Int32) : Nat := i.toNatClampNeg
theorem z_in40 {i : Int32} (h0 : ¬ i < 0) (h1 : ¬ (40 : Int32) ≤ i) : vp_in i 40 := by
  rw [vp_in_iff]
  have h2 : ¬ i.toInt < 0 := fun h => h0 (Int32.lt_iff_toInt_lt.mpr h)
  have h3 : ¬ (40 : Int) ≤ i.toInt := fun h => h1 (Int32.le_iff_toInt_le.mpr h)
  omega
theorem z_exit {k N : Nat} (hN : N < 2 ^ 31) (h1 : k ≤ N) (c : nI N ≤ nI k) : k = N := by
  have := (nI_leI hN (by omega : k < 2 ^ 31)).mp c
  omega
theorem z_cont {k N : Nat} (hN : N < 2 ^ 31) (h1 : k ≤ N) (c : ¬ nI N ≤ nI k) : k < N := by
  rcases Nat.lt_or_ge k N with h | h
  · exact h
  · exact absurd (nI_le h (by omega)) c
def btw (n lo hi : Int32) : Bool := !decide (n < lo) && !decide (hi < n)
/-- a value behind a seal: nothing unfolds it by itself -/
noncomputable def sl {α : Type} (x : α) : α := Classical.choose (⟨x, rfl⟩ : ∃ y : α, y = x)
theorem sl_eq {α : Type} (x : α) : sl x = x := Classical.choose_spec (⟨x, rfl⟩ : ∃ y : α, y = x)
theorem z_app2 {a b c d : va_W} (h : a = b) (h2 : c = d) : a ++ c = b ++ d := by rw [h, h2]
