/-! the reference: cellsWith -/
def cnS (s : Nat) : Nat := 64 / 2 ^ s
theorem cn_sd {s : Nat} (h : s < 4) : (64 : Int32) >>> (nI s &&& 31) = nI (cnS s) := by
  rcases s with _ | _ | _ | _ | s
  · decide
  · decide
  · decide
  · decide
  · omega
theorem cn_N {s : Nat} (h : s < 4) : 2 ^ s ≤ 8 ∧ 2 ^ s * cnS s = 64 := by
  rcases s with _ | _ | _ | _ | s
  · decide
  · decide
  · decide
  · decide
  · omega
def cnC (R : FI) (a : Nat) (w : Int32) (s i j : Nat) : Int32 := if mCe R a (nI (i * cnS s)) (nI (j * cnS s)) (nI (cnS s)) ≤ w then 0 else 3
def cnY (R : FI) (a : Nat) (w : Int32) (s i : Nat) (c : Int32) : Nat → Int32
  | 0 => c
  | j + 1 => cnY R a w s i c j + cnC R a w s i j
def cnX (R : FI) (a : Nat) (w : Int32) (s : Nat) (c : Int32) : Nat → Int32
  | 0 => c
  | i + 1 => cnY R a w s i (cnX R a w s c i) (2 ^ s)
def cnA (R : FI) (a : Nat) (w : Int32) : Nat → Int32
  | 0 => 1
  | s + 1 => cnX R a w s (cnA R a w s) (2 ^ s)
def mcwRet (R : FI) (a : Nat) (w : Int32) : Int32 := if btw w 2 9 then cnA R a w 4 else -1
theorem cn_step {k d : Nat} : nI ((k + 1) * d) = nI (k * d) + nI d := by rw [Nat.succ_mul, nI_add]
theorem cn_br {s k : Nat} (h : s < 4) (hk : k ≤ 2 ^ s) : ((64 : Int32) ≤ nI (k * cnS s)) = (nI (2 ^ s) ≤ nI k) := by
  have h1 := (cn_N h).1
  have h2 := (cn_N h).2
  have h3 : k * cnS s ≤ 64 := by rw [← h2]; exact Nat.mul_le_mul_right _ hk
  rcases s with _ | _ | _ | _ | s
  · rcases k with _ | _ | k <;> first | decide | (exfalso; simp at hk)
  · rcases k with _ | _ | _ | k <;> first | decide | (exfalso; simp at hk)
  · rcases k with _ | _ | _ | _ | _ | k <;> first | decide | (exfalso; simp at hk)
  · rcases k with _ | _ | _ | _ | _ | _ | _ | _ | _ | k <;> first | decide | (exfalso; simp at hk)
  · omega
