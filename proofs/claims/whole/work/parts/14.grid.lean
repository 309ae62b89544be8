/-! the public calls: what they answer and do -/
def aOk (S : CS) (x y we : Int32) : Bool := onMap x y && btw we 1 100 && !pFull S
def aNew (S : CS) (x y we : Int32) : CS := spG 40 (uL (uW (uY (uX (uAd S (pAd1 S)) (pPut S (sX S) x)) (pPut S (sY S) y)) (pPut S (sW S) we)) (pPut S (sL S) (rAt S x y)))
def aRet (S : CS) (x y we : Int32) : Int32 := if onMap x y && btw we 1 100 then (if pFull S then -3 else if pRoom S then sAd S else -3) else -1
def rmNew (S : CS) (i : Int32) : CS := spG 40 (uW S (pSetAt S (sW S) i 0))
def rmRet (S : CS) (i : Int32) : Int32 := if pEx S i then pNum (rmNew S i) 0 0 63 63 40 else -1
def mvOk (S : CS) (i x y : Int32) : Bool := pEx S i && onMap x y
def mvNew (S : CS) (i nx ny : Int32) : CS := spG 40 (uL (uY (uX S (pSetAt S (sX S) i nx)) (pSetAt S (sY S) i ny)) (mvL S i nx ny))
def mvRet (S : CS) (i nx ny : Int32) : Int32 := if mvOk S i nx ny then bI (mvR S i nx ny) else -1
def scNew (S : CS) (v : Int32) : CS := spG 40 (uCr S v)
def scRet (S : CS) (v : Int32) : Int32 := if btw v 2 9 then sCr S else -1
def stNew (S : CS) (v : Int32) : CS := spG 40 (uTi S v)
def stRet (S : CS) (v : Int32) : Int32 := if btw v 1 9 then sTi S else -1
def pyNew (S : CS) (pa : Int32) : CS := spG 40 (pyG pa 40 0 S).2
def pyRet (S : CS) (pa : Int32) : Int32 := if rEx S pa then (pyG pa 40 0 S).1 else -1
def joOk (S : CS) (pa : Int32) : Bool := rEx S pa && cj S pa
def joNew (S : CS) (pa : Int32) : CS := spG 40 (jqS S pa)
def joRet (S : CS) (pa : Int32) : Int32 := if rEx S pa then (if cj S pa then jqFi S pa else -2) else -1
def unRet (Z : HZ) : Int32 := if hEm Z then -2 else z_maxH (hN Z)
def coRet (S : CS) (Z : HZ) (w : Int32) : Int32 := if w = 0 then pNum S 0 0 63 63 40 else if w = 1 then sAd S else if w = 2 then rNumT S 0 0 63 63 40 else if w = 3 then sFo S else if w = 4 then sCr S else if w = 5 then sTi S else if w = 6 then dSum (sD S) 40 else if w = 7 then eLs S 40 else if w = 8 then rGr S 40 else if w = 9 then pWea S 0 0 63 63 40 else if w = 10 then hN Z else -1
def poRet (S : CS) (i w : Int32) : Int32 := if pEx S i then (if w = 0 then pXof S i else if w = 1 then pYof S i else if w = 2 then pWof S i else if w = 3 then aAr S i else if w = 4 then pLof S i else -1) else -1
def paRet (S : CS) (pa w : Int32) : Int32 := if rEx S pa then (if w = 0 then rLe S pa else if w = 1 then rTo S pa else if w = 2 then rSc S pa else if w = 3 then nIn S pa else if w = 4 then pNumU S pa 40 else if w = 5 then pWeaU S pa 40 else if w = 6 then dBy (sD S) pa 40 else if w = 7 then dTo (sD S) pa 40 else -1) else -1
def deRet (S : CS) (pa cr : Int32) : Int32 := if rEx S pa && rEx S cr then dOwF (sD S) pa cr else -1
def atRet (S : CS) (x y : Int32) : Int32 := if onMap x y then rAt S x y else -1
def raRet (S : CS) (x y tx ty w : Int32) : Int32 := if onMap x y && onMap tx ty && !decide (tx < x) && decide (y ≤ ty) then (if w = 0 then pNum S x y tx ty 40 else if w = 1 then pWea S x y tx ty 40 else if w = 2 then rNumT S x y tx ty 40 else if w = 3 then pRich S x y tx ty 40 else -1) else -1
def neRet (S : CS) (x y : Int32) : Int32 := if onMap x y then (pNear S x y 40).1 else -1
def ioRet (S : CS) (ix : Int32) : Int32 := if 0 ≤ ix then wNB S ix else -1
def pbRet (S : CS) (pa : Int32) : Int32 := if rEx S pa then paY S pa else -1
def cwRet (S : CS) (v : Int32) : Int32 := if btw v 2 9 then pDiv S v 4 else -1
def jbRet (S : CS) : Int32 := fnd (fun k => cj S (nI k)) 40 0
