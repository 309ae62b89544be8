/-! the state: what its methods answer and do -/
def aAr (S : CS) (i : Int32) : Int32 := rAt S (pXof S i) (pYof S i)
def mvL (S : CS) (i nx ny : Int32) : FI := if pLof S i = aAr S i then pSetAt S (sL S) i (aAr (uY (uX S (pSetAt S (sX S) i nx)) (pSetAt S (sY S) i ny)) i) else sL S
def mvR (S : CS) (i nx ny : Int32) : Bool := !decide (pLof (uL S (mvL S i nx ny)) i = pLof S i)
def nIn (S : CS) (i : Int32) : Int32 := pNum S (rLe S i) (rTo S i) (rRi S i) (rBo S i) 40
def eLs (S : CS) : Nat → Int32
  | 0 => 0
  | k + 1 => if pEx S (nI k) && !decide (pLof S (nI k) = aAr S (nI k)) then eLs S k + 1 else eLs S k
def fSpB (S : CS) (k : Nat) : Bool := rEx S (nI k) && !decide (4 ≤ rSc S (nI k)) && !decide (nIn S (nI k) ≤ sCr S)
def fSp (S : CS) : Int32 := if sFo S < 38 then fnd (fSpB S) 40 0 else -9
def fQn (S : CS) (le to sd i : Int32) : Int32 := pNum S (qLef le sd i) (qTop to sd i) (qLef le sd i + sd - 1) (qTop to sd i + sd - 1) 40
def fQ (S : CS) (le to sd : Int32) : Nat → Int32 × Int32
  | 0 => (0, -1)
  | k + 1 => if fQn S le to sd (nI k) ≤ (fQ S le to sd k).2 then fQ S le to sd k else (nI k, fQn S le to sd (nI k))
def tOf (S : CS) (n : Int32) : Int32 := if sTi S ≤ 0 then 0 else (n + sTi S - 1) / sTi S
def fnP (S : CS) : Int32 := if rRoom S then sFo S else -9
def fnRi (S : CS) (le sc : Int32) : Int32 := rRi (uSc (uLe S (rGiv (sLe S) (sFo S) le)) (rGiv (sSc S) (sFo S) sc)) (fnP S)
def fnBo (S : CS) (to sc : Int32) : Int32 := rBo (uSc (uTo S (rGiv (sTo S) (sFo S) to)) (rGiv (sSc S) (sFo S) sc)) (fnP S)
def fnS (S : CS) (le to sc pa : Int32) : CS := uL (uD (uSc (uTo (uLe (uFo S (rFo1 S)) (rGiv (sLe S) (sFo S) le)) (rGiv (sTo S) (sFo S) to)) (rGiv (sSc S) (sFo S) sc)) (dCh (sD S) (fnP S) pa (tOf S (pNum S le to (fnRi S le sc) (fnBo S to sc) 40)))) (pChl S pa (fnP S) le to (fnRi S le sc) (fnBo S to sc) 40)
def spSc (S : CS) (pa : Int32) : Int32 := rSc S pa + 1
def spSd (S : CS) (pa : Int32) : Int32 := sideF (spSc S pa)
def spKe (S : CS) (pa : Int32) : Int32 := (fQ S (rLe S pa) (rTo S pa) (spSd S pa) 4).1
def spK (S : CS) (pa : Int32) : Nat → CS
  | 0 => S
  | k + 1 => if nI k = spKe S pa then spK S pa k else fnS (spK S pa k) (qLef (rLe S pa) (spSd S pa) (nI k)) (qTop (rTo S pa) (spSd S pa) (nI k)) (spSc S pa) pa
def gvS (S : CS) (pa nl nt ns : Int32) : CS := uSc (uTo (uLe S (rGiv (sLe S) pa nl)) (rGiv (sTo S) pa nt)) (rGiv (sSc S) pa ns)
def splS (S : CS) (pa : Int32) : CS := gvS (spK S pa 4) pa (qLef (rLe S pa) (spSd S pa) (spKe S pa)) (qTop (rTo S pa) (spSd S pa) (spKe S pa)) (spSc S pa)
def sCk (S : CS) : Nat → CS
  | 0 => S
  | k + 1 => splS (sCk S k) (fSp (sCk S k))
def spG : Nat → CS → CS
  | 0, S => S
  | n + 1, S => if fSp S = -9 then S else spG n (splS S (fSp S))
theorem spG_stop {S : CS} {N k : Nat} (hk : k < N) (h : fSp S = -9) : spG (N - k) S = S := by
  rw [show N - k = (N - (k + 1)) + 1 by omega, spG, if_pos h]
theorem spG_on {S : CS} {N k : Nat} (hk : k < N) (h : ¬ fSp S = -9) : spG (N - k) S = spG (N - (k + 1)) (splS S (fSp S)) := by
  rw [show N - k = (N - (k + 1)) + 1 by omega, spG, if_neg h]
def pyC (S : CS) (pa : Int32) : Int32 := dFst (sD S) pa
def pyP (S : CS) (pa : Int32) : Int32 := (pPoor S pa (rLe S pa) (rTo S pa) (rRi S pa) (rBo S pa) 40).1
def pyS (S : CS) (pa : Int32) : CS := uD (uL S (pSetAt S (sL S) (pyP S pa) (pyC S pa))) (dCh (sD S) pa (pyC S pa) (-1))
def pyK (S : CS) (pa : Int32) : Nat → CS
  | 0 => S
  | k + 1 => pyS (pyK S pa k) pa
def pyG (pa : Int32) : Nat → Nat → CS → Int32 × CS
  | 0, k, S => (nI k, S)
  | n + 1, k, S => if pyC S pa = -9 ∨ pyP S pa = -9 then (nI k, S) else pyG pa n (k + 1) (pyS S pa)
theorem pyG_stop {pa : Int32} {S : CS} {N k : Nat} (hk : k < N) (h : pyC S pa = -9 ∨ pyP S pa = -9) : pyG pa (N - k) k S = (nI k, S) := by
  rw [show N - k = (N - (k + 1)) + 1 by omega, pyG, if_pos h]
theorem pyG_on {pa : Int32} {S : CS} {N k : Nat} (hk : k < N) (h1 : ¬ pyC S pa = -9) (h2 : ¬ pyP S pa = -9) : pyG pa (N - k) k S = pyG pa (N - (k + 1)) (k + 1) (pyS S pa) := by
  rw [show N - k = (N - (k + 1)) + 1 by omega, pyG, if_neg (fun h => h.elim h1 h2)]
def paN (S : CS) (pa : Int32) : Nat → Int32
  | 0 => 0
  | k + 1 => if pLof S (nI k) = pa ∧ aAr S (nI k) = pa then paN S pa k + 1 else paN S pa k
def paY (S : CS) (pa : Int32) : Int32 := if dBy (sD S) pa 40 < paN S pa 40 then dBy (sD S) pa 40 else paN S pa 40
def lAr (S : CS) (pa : Int32) : Int32 := rLe S pa &&& (sideF (rSc S pa) ^^^ (-1))
def tAr (S : CS) (pa : Int32) : Int32 := rTo S pa &&& (sideF (rSc S pa) ^^^ (-1))
def pQu (S : CS) (le to sc i : Int32) : Int32 := rAt S (qLef le (sideF sc) i) (qTop to (sideF sc) i)
def cjT (S : CS) (le to sc : Int32) : Nat → Int32
  | 0 => 0
  | k + 1 => cjT S le to sc k + nIn S (pQu S le to sc (nI k))
def cjG (S : CS) (le to sc : Int32) : Nat → Nat → Bool
  | 0, k => !decide (sCr S < cjT S le to sc k)
  | n + 1, k => if rSc S (pQu S le to sc (nI k)) = sc then cjG S le to sc n (k + 1) else false
theorem cjG_no {S : CS} {le to sc : Int32} {N k : Nat} (hk : k < N) (h : ¬ rSc S (pQu S le to sc (nI k)) = sc) : cjG S le to sc (N - k) k = false := by
  rw [show N - k = (N - (k + 1)) + 1 by omega, cjG, if_neg h]
theorem cjG_on {S : CS} {le to sc : Int32} {N k : Nat} (hk : k < N) (h : rSc S (pQu S le to sc (nI k)) = sc) : cjG S le to sc (N - k) k = cjG S le to sc (N - (k + 1)) (k + 1) := by
  rw [show N - k = (N - (k + 1)) + 1 by omega, cjG, if_pos h]
def cj (S : CS) (pa : Int32) : Bool := if (1 : Int32) ≤ rSc S pa then cjG S (lAr S pa) (tAr S pa) (rSc S pa) 4 0 else false
def jqF (S : CS) (le to sc pa : Int32) : Nat → Int32
  | 0 => pa
  | k + 1 => if pQu S le to sc (nI k) < jqF S le to sc pa k then pQu S le to sc (nI k) else jqF S le to sc pa k
def abS (S : CS) (pa he : Int32) : CS := if pa = he then S else uSc (uD (uL S (pChl S pa he 0 0 63 63 40)) (dPass (sD S) pa he)) (rDis S pa)
def jqK (S : CS) (le to sc fi : Int32) : Nat → CS
  | 0 => S
  | k + 1 => abS (jqK S le to sc fi k) (pQu (jqK S le to sc fi k) le to sc (nI k)) fi
def jqFi (S : CS) (pa : Int32) : Int32 := jqF S (lAr S pa) (tAr S pa) (rSc S pa) pa 4
def jqS (S : CS) (pa : Int32) : CS := gvS (jqK S (lAr S pa) (tAr S pa) (rSc S pa) (jqFi S pa) 4) (jqFi S pa) (lAr S pa) (tAr S pa) (rSc S pa - 1)
