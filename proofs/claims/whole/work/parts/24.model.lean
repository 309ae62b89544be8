/-! the reference: pay, join, cellsWith -/
def pIs (p : Int32) (a f : Nat) (c : Int32) (s : FI × Int32) : FI × Int32 := (oW (sLo s.1 (giF s.1 p f a) c) p c (-1), s.2 + 1)
def pIn (p : Int32) (a f : Nat) (c : Int32) : Nat → FI × Int32 → FI × Int32
  | 0, s => s
  | n + 1, s => if dO s.1 p c ≤ 0 then s else if giF s.1 p f a = -9 then s else pIn p a f c n (pIs p a f c s)
def pIk (p : Int32) (a f : Nat) (c : Int32) (s : FI × Int32) : Nat → FI × Int32
  | 0 => s
  | k + 1 => pIs p a f c (pIk p a f c s k)
def pIf (s : FI × Int32) (p c : Int32) : Nat := (dO s.1 p c).toNatClampNeg
def pOu (R : FI) (p : Int32) (a f : Nat) : Nat → FI × Int32
  | 0 => (R, 0)
  | k + 1 => pIn p a f (nI k) (pIf (pOu R p a f k) p (nI k)) (pOu R p a f k)
theorem pIn_1 {p : Int32} {a f n : Nat} {c : Int32} {s : FI × Int32} (h : dO s.1 p c ≤ 0) : pIn p a f c n s = s := by
  cases n with
  | zero => rfl
  | succ n => rw [pIn, if_pos h]
theorem pIn_2 {p : Int32} {a f n : Nat} {c : Int32} {s : FI × Int32} (h : ¬ dO s.1 p c ≤ 0) (h2 : giF s.1 p f a = -9) : pIn p a f c n s = s := by
  cases n with
  | zero => rfl
  | succ n => rw [pIn, if_neg h, if_pos h2]
theorem pIn_3 {p : Int32} {a f N k : Nat} {c : Int32} {s : FI × Int32} (hk : k < N) (h : ¬ dO s.1 p c ≤ 0) (h2 : ¬ giF s.1 p f a = -9) : pIn p a f c (N - k) s = pIn p a f c (N - (k + 1)) (pIs p a f c s) := by
  rw [show N - k = (N - (k + 1)) + 1 by omega, pIn, if_neg h, if_neg h2]
theorem mOk_pIs {p : Int32} {a f : Nat} {c : Int32} {s : FI × Int32} (h : mOk s.1 a f) (hp : vp_in p 100) (hc : vp_in c 100) (h2 : ¬ giF s.1 p f a = -9) : mOk (pIs p a f c s).1 a f :=
  mOk_oW (mOk_sLo h ((giF_in a (by have := h.1; omega)).resolve_left h2)) hp hc
theorem mOk_pIn {p : Int32} {a f : Nat} {c : Int32} (hp : vp_in p 100) (hc : vp_in c 100) : ∀ (n : Nat) (s : FI × Int32), mOk s.1 a f → mOk (pIn p a f c n s).1 a f
  | 0, s, h => h
  | n + 1, s, h => by
    rw [pIn]
    split
    · exact h
    · split
      · exact h
      · rename_i h2
        exact mOk_pIn hp hc n _ (mOk_pIs h hp hc h2)
theorem mOk_pOu {R : FI} {p : Int32} {a f : Nat} (h : mOk R a f) (hp : vp_in p 100) : ∀ k, k ≤ 60 → mOk (pOu R p a f k).1 a f
  | 0, _ => h
  | k + 1, hk => mOk_pIn hp (vp_in_nI (by omega) (by decide)) _ _ (mOk_pOu h hp k (by omega))
theorem giF_i6 {R : FI} {p : Int32} {f : Nat} : ∀ k, k ≤ 40 → giF R p f k = -9 ∨ vp_in (giF R p f k) 60
  | 0, _ => Or.inl rfl
  | k + 1, hk => by
    rw [giF]; split
    · exact Or.inr (vp_in_nI (by omega) (by decide))
    · exact giF_i6 k (by omega)
theorem dO_oW {R : FI} {p c v : Int32} : dO (oW R p c v) p c = dO R p c + v := by
  simp only [dO, oW, upd, if_true]
theorem dO_sLo {R : FI} {p c i v : Int32} (hp : vp_in p 100) (hc : vp_in c 100) (hi : vp_in i 60) : dO (sLo R i v) p c = dO R p c := by
  obtain ⟨j, hj, rfl⟩ := vp_in_of hp (by decide)
  obtain ⟨k, hk, rfl⟩ := vp_in_of hc (by decide)
  obtain ⟨m, hm, rfl⟩ := vp_in_of hi (by decide)
  have e1 : ((364 : Int32) + 40 * nI j + nI k).toNatClampNeg = 364 + 40 * j + k := by rw [ix3e, nI_clamp (by omega)]
  have e2 : ((4 : Int32) + 5 * nI m + 4).toNatClampNeg = 4 + 5 * m + 4 := by rw [show (4 : Int32) + 5 * nI m + 4 = 4 + 5 * nI m + nI 4 from rfl, ix1e, nI_clamp (by omega)]
  show upd R _ _ _ = R _
  rw [e1, e2]
  exact if_neg (by omega)
theorem fb_m1 {v : Int32} (h : 0 < v.toInt) : (v + (-1)).toInt = v.toInt - 1 := by
  have hr := Int32.toInt_lt v
  rw [Int32.toInt_add, show (-1 : Int32).toInt = -1 from by decide, Int.bmod_eq_of_le (by omega) (by omega)]
  omega
theorem dO_step {R : FI} {p c i : Int32} (hp : vp_in p 100) (hc : vp_in c 100) (hi : vp_in i 60) (h : ¬ dO R p c ≤ 0) : (dO (oW (sLo R i c) p c (-1)) p c).toInt = (dO R p c).toInt - 1 := by
  have h1 : 0 < (dO R p c).toInt := by
    have e0 : (0 : Int32).toInt = 0 := by decide
    have h3 : ¬ (dO R p c).toInt ≤ 0 := fun g => h (Int32.le_iff_toInt_le.mpr (by rw [e0]; exact g))
    omega
  rw [dO_oW, dO_sLo hp hc hi]
  exact fb_m1 h1
def mpyNew (R : FI) (K : Int32) (a f : Nat) (p : Int32) : FI := stG a 40 (pOu (recR R K) p a f 40).1
def mpyRet (R : FI) (K : Int32) (a f : Nat) (p : Int32) : Int32 := if iR R p then (pOu (recR R K) p a f 40).2 else -1
theorem pIf_lt {R S : FI} {p c : Int32} {k : Nat} (h : ¬ dO S p c ≤ 0) (hd : (dO S p c).toInt = (dO R p c).toInt - k) : k < (dO R p c).toNatClampNeg := by
  have e0 : (0 : Int32).toInt = 0 := by decide
  have h3 : ¬ (dO S p c).toInt ≤ 0 := fun g => h (Int32.le_iff_toInt_le.mpr (by rw [e0]; exact g))
  have h4 : (dO R p c).toNatClampNeg = (dO R p c).toInt.toNat := rfl
  omega
theorem upd_s {g : FI} {i : Nat} {v : Int32} : upd g i v i = v := by simp [upd]
def cjX (R : FI) (p w : Int32) : Int32 := qA R p w / (2 * mSd R p) * (2 * mSd R p)
def cjc (R : FI) (a : Nat) (p : Int32) : Bool := decide (mCe R a (cjX R p 1) (cjX R p 2) (2 * mSd R p) ≤ R 0)
def mJq (R : FI) (f : Nat) (p : Int32) (k : Nat) : Int32 := mAt R f (cjX R p 1 + mSd R p * (nI k - nI k / 2 * 2)) (cjX R p 2 + mSd R p * (nI k / 2))
def mFo (R : FI) (f : Nat) (p : Int32) (F : FI) : Nat → FI
  | 0 => F
  | k + 1 => upd (mFo R f p F k) (nI k).toNatClampNeg (mJq R f p k)
def cjb (R : FI) (a f : Nat) (p : Int32) : Nat → Bool
  | 0 => cjc R a p
  | k + 1 => cjb R a f p k && decide (qA R (mJq R f p k) 3 = qA R p 3)
def cjR (R : FI) (a f : Nat) (p : Int32) : Bool := if qA R p 3 = 0 then false else cjb R a f p 4
def cjF (R : FI) (f : Nat) (p : Int32) (F : FI) : FI := if qA R p 3 = 0 then F else mFo R f p F 4
def mSc (R : FI) : Prop := ∀ p, iR R p = true → ¬ qA R p 3 = 0 → ¬ (2 : Int32) * mSd R p = 0
def jbB (R : FI) (a f : Nat) (k : Nat) : Bool := iR R (nI k) && cjR R a f (nI k)
def mjbRet (R : FI) (a f : Nat) : Int32 := fnd (jbB R a f) f 0
def jlF (R : FI) (f : Nat) (F : FI) : Nat → FI
  | 0 => F
  | k + 1 => if iR R (nI k) = true then cjF R f (nI k) (jlF R f F k) else jlF R f F k
def jbG (R : FI) (a f : Nat) : Nat → Nat → FI → FI
  | 0, _, F => F
  | n + 1, k, F => if iR R (nI k) = true then (if cjR R a f (nI k) = true then cjF R f (nI k) F else jbG R a f n (k + 1) (cjF R f (nI k) F)) else jbG R a f n (k + 1) F
theorem jbG_1 {R : FI} {a f N k : Nat} {F : FI} (hk : k < N) (h : iR R (nI k) = false) : jbG R a f (N - k) k F = jbG R a f (N - (k + 1)) (k + 1) F := by
  rw [show N - k = (N - (k + 1)) + 1 by omega, jbG, if_neg (by rw [h]; decide)]
theorem jbG_2 {R : FI} {a f N k : Nat} {F : FI} (hk : k < N) (h : iR R (nI k) = true) (h2 : cjR R a f (nI k) = false) : jbG R a f (N - k) k F = jbG R a f (N - (k + 1)) (k + 1) (cjF R f (nI k) F) := by
  rw [show N - k = (N - (k + 1)) + 1 by omega, jbG, if_pos h, if_neg (by rw [h2]; decide)]
theorem jbG_3 {R : FI} {a f N k : Nat} {F : FI} (hk : k < N) (h : iR R (nI k) = true) (h2 : cjR R a f (nI k) = true) : jbG R a f (N - k) k F = cjF R f (nI k) F := by
  rw [show N - k = (N - (k + 1)) + 1 by omega, jbG, if_pos h, if_pos h2]
theorem mFo_at {R : FI} {f : Nat} {p : Int32} {F : FI} : ∀ n, n ≤ 4 → ∀ k, k < n → mFo R f p F n (nI k).toNatClampNeg = mJq R f p k
  | 0, _, k, h => absurd h (by omega)
  | n + 1, hn, k, h => by
    rw [mFo, nI_clamp (by omega), nI_clamp (by omega)]
    by_cases e : k = n
    · rw [e]; exact upd_s
    · have h2 := mFo_at (R := R) (f := f) (p := p) (F := F) n (by omega) k (by omega)
      rw [nI_clamp (by omega)] at h2
      rw [← h2]; exact if_neg e
theorem cjF_in {R : FI} {a f : Nat} {p : Int32} {F : FI} (h : cjR R a f p = true) (hm : ∀ k, k < 4 → vp_in (mJq R f p k) 100) : ∀ k, k < 4 → vp_in (cjF R f p F (nI k).toNatClampNeg) 100 := by
  intro k hk
  by_cases h0 : qA R p 3 = 0
  · rw [cjR, if_pos h0] at h; exact absurd h (by decide)
  · rw [cjF, if_neg h0, mFo_at 4 (by omega) k hk]; exact hm k hk
def jqm (F : FI) : Nat → Int32
  | 0 => F 0
  | k + 1 => if jqm F k ≤ F (nI k).toNatClampNeg then jqm F k else F (nI k).toNatClampNeg
theorem jqm_in {F : FI} (h : ∀ k, k < 4 → vp_in (F (nI k).toNatClampNeg) 100) : ∀ k, k ≤ 4 → vp_in (jqm F k) 100
  | 0, _ => h 0 (by omega)
  | k + 1, hk => by
    rw [jqm]; split
    · exact jqm_in h k (by omega)
    · exact h k (by omega)
theorem jqm_1 {F : FI} : jqm F 1 = F 0 := by
  rw [jqm]; split
  · rfl
  · rfl
def jnK (R F : FI) (a : Nat) (q : Int32) : Nat → FI
  | 0 => R
  | k + 1 => if F (nI k).toNatClampNeg = q then jnK R F a q k else dis (jnK R F a q k) a (F (nI k).toNatClampNeg) q
theorem mOk_jnK {R F : FI} {a f : Nat} {q : Int32} (h : mOk R a f) (hF : ∀ k, k < 4 → vp_in (F (nI k).toNatClampNeg) 100) (hq : vp_in q 100) : ∀ k, k ≤ 4 → mOk (jnK R F a q k) a f
  | 0, _ => h
  | k + 1, hk => by
    rw [jnK]; split
    · exact mOk_jnK h hF hq k (by omega)
    · exact mOk_dis (mOk_jnK h hF hq k (by omega)) (hF k (by omega)) hq
def joS (S F : FI) (q : Int32) : FI := sPa S q (qA S (F 0) 1) (qA S (F 0) 2) (qA S (F 0) 3 - 1)
def joW (T : FI) (q : Int32) : FI := oW T q q (-(dO T q q))
def joT (S F : FI) (a : Nat) : FI := stG a 40 (joW (jnK (joS S F (jqm F 4)) F a (jqm F 4) 4) (jqm F 4))
def mjNew (R : FI) (K : Int32) (a f : Nat) (p : Int32) (F : FI) : FI := joT (recR R K) (cjF R f p F) a
def mjRet (R : FI) (a f : Nat) (p : Int32) (F : FI) : Int32 := if iR R p = true then (if cjR R a f p = true then jqm (cjF R f p F) 4 else -2) else -1
theorem jo_eq {S F T U V W : FI} {a k : Nat} (hk : k = 4) (h4 : T = sPa S (jqm F 4) (qA S (F 0) 1) (qA S (F 0) 2) (qA S (F 0) 3 - 1)) (hU : U = jnK T F a (jqm F 4) k) (h5 : V = oW U (jqm F 4) (jqm F 4) (-(dO U (jqm F 4) (jqm F 4)))) (h6 : W = stG a 40 V) : joT S F a = W := by
  subst hk; subst h6; subst h5; subst hU; subst h4; rfl
