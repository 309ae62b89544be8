/-! the reference: its public calls -/
theorem cps_lo {R : FI} {fr to : Int32} {y : Nat} (h : to = nI y) (hy : y + 1964 ≤ 11784) {j : Nat} (hj : j < y) : ∀ k, k ≤ 1964 → cps R fr to k j = R j
  | 0, _ => rfl
  | k + 1, hk => by
    rw [cps]
    show (if j = (to + nI k).toNatClampNeg then _ else cps R fr to k j) = R j
    rw [h, nI_add, nI_clamp (by omega), if_neg (by omega)]
    rw [← h]; exact cps_lo h hy hj k (by omega)
theorem recR_lo {R : FI} {K : Int32} {n : Nat} (hn : n ≤ 5) (hK : K = nI n) {j : Nat} (hj : j < 1964) : recR R K j = R j := by
  unfold recR
  split
  · rename_i h5
    subst h5
    rw [cps_lo (y := 9820) (by decide) (by omega) (by omega) 1964 (Nat.le_refl _), cps_lo (y := 7856) (by decide) (by omega) (by omega) 1964 (Nat.le_refl _), cps_lo (y := 5892) (by decide) (by omega) (by omega) 1964 (Nat.le_refl _), cps_lo (y := 3928) (by decide) (by omega) (by omega) 1964 (Nat.le_refl _), cps_lo (y := 1964) (by decide) (by omega) (by omega) 1964 (Nat.le_refl _)]
  · rename_i h5
    have h6 : n ≠ 5 := fun e => h5 (by rw [hK, e]; rfl)
    have e1 : (1964 : Int32) * (K + 1) = nI (1964 * (n + 1)) := by rw [hK, show (1964 : Int32) = nI 1964 from rfl, nI_1, pk_mul]
    exact cps_lo e1 (by omega) (by omega) 1964 (Nat.le_refl _)
theorem mOk_low {R Q : FI} {a f : Nat} (h : mOk R a f) (e : ∀ j, j < 4 → Q j = R j) : mOk Q a f := by
  obtain ⟨h1, h2, h3, h4, h5⟩ := h
  exact ⟨h1, h2, by rw [e 2 (by omega)]; exact h3, by rw [e 3 (by omega)]; exact h4, by rw [e 1 (by omega)]; exact h5⟩
theorem mOk_rec {R : FI} {a f n : Nat} {K : Int32} (h : mOk R a f) (hn : n ≤ 5) (hK : K = nI n) : mOk (recR R K) a f := mOk_low h (fun j hj => recR_lo hn hK (by omega))
def ds1 (R : FI) (go fi : Int32) : Nat → FI
  | 0 => upd R (204 + 4 * go).toNatClampNeg 0
  | k + 1 => if oP (ds1 R go fi k) (nI k) 4 = go then sLo (ds1 R go fi k) (nI k) fi else ds1 R go fi k
def ds2 (R : FI) (go fi : Int32) : Nat → FI
  | 0 => R
  | k + 1 => oW (oW (ds2 R go fi k) fi (nI k) (dO (ds2 R go fi k) go (nI k))) go (nI k) (-(dO (oW (ds2 R go fi k) fi (nI k) (dO (ds2 R go fi k) go (nI k))) go (nI k)))
def ds3 (R : FI) (go fi : Int32) : Nat → FI
  | 0 => R
  | k + 1 => oW (oW (ds3 R go fi k) (nI k) fi (dO (ds3 R go fi k) (nI k) go)) (nI k) go (-(dO (oW (ds3 R go fi k) (nI k) fi (dO (ds3 R go fi k) (nI k) go)) (nI k) go))
def dis (R : FI) (a : Nat) (go fi : Int32) : FI := ds3 (ds2 (ds1 R go fi a) go fi 40) go fi 40
theorem mOk_ds1 {R : FI} {a f : Nat} {go fi : Int32} (h : mOk R a f) (hg : vp_in go 100) : ∀ k, k ≤ 60 → mOk (ds1 R go fi k) a f
  | 0, _ => mOk_upd h (ix2n' hg)
  | k + 1, hk => by
    rw [ds1]; split
    · exact mOk_sLo (mOk_ds1 h hg k (by omega)) (vp_in_nI (by omega) (by decide))
    · exact mOk_ds1 h hg k (by omega)
theorem mOk_ds2 {R : FI} {a f : Nat} {go fi : Int32} (h : mOk R a f) (hg : vp_in go 100) (hf : vp_in fi 100) : ∀ k, k ≤ 60 → mOk (ds2 R go fi k) a f
  | 0, _ => h
  | k + 1, hk => mOk_oW (mOk_oW (mOk_ds2 h hg hf k (by omega)) hf (vp_in_nI (by omega) (by decide))) hg (vp_in_nI (by omega) (by decide))
theorem mOk_ds3 {R : FI} {a f : Nat} {go fi : Int32} (h : mOk R a f) (hg : vp_in go 100) (hf : vp_in fi 100) : ∀ k, k ≤ 60 → mOk (ds3 R go fi k) a f
  | 0, _ => h
  | k + 1, hk => mOk_oW (mOk_oW (mOk_ds3 h hg hf k (by omega)) (vp_in_nI (by omega) (by decide)) hf) (vp_in_nI (by omega) (by decide)) hg
theorem mOk_dis {R : FI} {a f : Nat} {go fi : Int32} (h : mOk R a f) (hg : vp_in go 100) (hf : vp_in fi 100) : mOk (dis R a go fi) a f :=
  mOk_ds3 (mOk_ds2 (mOk_ds1 h hg a (by have := h.1; omega)) hg hf 40 (by omega)) hg hf 40 (by omega)
def giF (R : FI) (p : Int32) (f : Nat) : Nat → Int32
  | 0 => -9
  | k + 1 => if iP R (nI k) && decide (oP R (nI k) 4 = p) && decide (mAr R f (nI k) = p) && (decide (giF R p f k = -9) || !decide (oP R (giF R p f k) 2 ≤ oP R (nI k) 2)) then nI k else giF R p f k
theorem giF_in {R : FI} {p : Int32} {f : Nat} : ∀ k, k ≤ 60 → giF R p f k = -9 ∨ vp_in (giF R p f k) 100
  | 0, _ => Or.inl rfl
  | k + 1, hk => by
    rw [giF]; split
    · exact Or.inr (vp_in_nI (by omega) (by decide))
    · exact giF_in k (by omega)
def mRg (R : FI) (x y tx ty : Int32) (i : Nat) : Bool := iP R (nI i) && btw (oP R (nI i) 0) x tx && btw (oP R (nI i) 1) y ty
def maP (R : FI) (i x y we : Int32) : FI := upd (upd (upd (upd (upd R 2 (R 2 + 1)) (4 + 5 * i + 0).toNatClampNeg x) (4 + 5 * i + 1).toNatClampNeg y) (4 + 5 * i + 2).toNatClampNeg we) (4 + 5 * i + 3).toNatClampNeg 1
theorem mOk_maP {R : FI} {a f : Nat} {i x y we : Int32} (h : mOk R a f) (hi : i = nI a) (ha : a < 40) : mOk (maP R i x y we) (a + 1) f := by
  have hv : vp_in i 100 := by rw [hi]; exact vp_in_nI (by omega) (by decide)
  have h0 : mOk (upd R 2 (R 2 + 1)) (a + 1) f := by
    obtain ⟨h1, h2, h3, h4, h5⟩ := h
    exact ⟨by omega, h2, by show R 2 + 1 = _; rw [h3, nI_1], h4, h5⟩
  exact mOk_upd (mOk_upd (mOk_upd (mOk_upd h0 (ix1n hv (z_inC (by decide) (by decide)))) (ix1n hv (z_inC (by decide) (by decide)))) (ix1n hv (z_inC (by decide) (by decide)))) (ix1n hv (z_inC (by decide) (by decide)))
def maR (R : FI) (f : Nat) (x y we : Int32) : FI := sLo (maP R (R 2) x y we) (R 2) (mAt (maP R (R 2) x y we) f x y)
theorem mOk_maR {R : FI} {a f : Nat} {x y we : Int32} (h : mOk R a f) (ha : a < 40) : mOk (maR R f x y we) (a + 1) f :=
  mOk_sLo (mOk_maP h h.2.2.1 ha) (by rw [h.2.2.1]; exact vp_in_nI (by omega) (by decide))
theorem a40 {R : FI} {a f : Nat} (h : mOk R a f) (h2 : ¬ R 2 = 40) : a < 40 := by
  rcases Nat.lt_or_ge a 40 with h3 | h3
  · exact h3
  · have : a = 40 := by have := h.1; omega
    exact absurd (by rw [h.2.2.1, this]; rfl) h2
def maOk (R : FI) (x y we : Int32) : Bool := onMap x y && btw we 1 100 && !decide (R 2 = 40)
def maRet (R : FI) (x y we : Int32) : Int32 := if onMap x y && btw we 1 100 then (if R 2 = 40 then -3 else R 2) else -1
def maNew (R : FI) (K : Int32) (a f : Nat) (x y we : Int32) : FI := stG (a + 1) 40 (maR (recR R K) f x y we)
def mrNew (R : FI) (K : Int32) (a : Nat) (i : Int32) : FI := stG a 40 (upd (recR R K) (4 + 5 * i + 3).toNatClampNeg 0)
def mrRet (R : FI) (K : Int32) (a : Nat) (i : Int32) : Int32 := if iP R i then mPt (mrNew R K a i) 0 0 63 63 a else -1
def mmNx (R : FI) (f : Nat) (i x y : Int32) : Int32 := if oP R i 4 = mAr R f i then mAt (upd (upd R (4 + 5 * i + 0).toNatClampNeg x) (4 + 5 * i + 1).toNatClampNeg y) f x y else oP R i 4
def mmR (R : FI) (f : Nat) (i x y : Int32) : FI := sLo (upd (upd R (4 + 5 * i + 0).toNatClampNeg x) (4 + 5 * i + 1).toNatClampNeg y) i (mmNx R f i x y)
def mmOk (R : FI) (i x y : Int32) : Bool := iP R i && onMap x y
def mmNew (R : FI) (K : Int32) (a f : Nat) (i x y : Int32) : FI := stG a 40 (mmR (recR R K) f i x y)
def mmRet (R : FI) (K : Int32) (f : Nat) (i x y : Int32) : Int32 := if mmOk R i x y then bI (!decide (mmNx (recR R K) f i x y = oP (recR R K) i 4)) else -1
theorem mOk_mm2 {R : FI} {a f : Nat} {i x y : Int32} (h : mOk R a f) (hi : vp_in i 100) : mOk (upd (upd R (4 + 5 * i + 0).toNatClampNeg x) (4 + 5 * i + 1).toNatClampNeg y) a f :=
  mOk_upd (mOk_upd h (ix1n hi (z_inC (by decide) (by decide)))) (ix1n hi (z_inC (by decide) (by decide)))
theorem mOk_cr {R : FI} {a f : Nat} {v : Int32} (h : mOk R a f) : mOk (upd R 0 v) a f := h
theorem btw_n0 {v hi : Int32} (h : btw v 1 hi = true) : ¬ v = 0 := by
  intro e; subst e; simp [btw] at h
theorem mOk_ti {R : FI} {a f : Nat} {v : Int32} (h : mOk R a f) (hv : btw v 1 9 = true) : mOk (upd R 1 v) a f := ⟨h.1, h.2.1, h.2.2.1, h.2.2.2.1, btw_n0 hv⟩
def mcNew (R : FI) (K : Int32) (a : Nat) (v : Int32) : FI := stG a 40 (upd (recR R K) 0 v)
def mcRet (R : FI) (K v : Int32) : Int32 := if btw v 2 9 then recR R K 0 else -1
def mtNew (R : FI) (K : Int32) (a : Nat) (v : Int32) : FI := stG a 40 (upd (recR R K) 1 v)
def mtRet (R : FI) (K v : Int32) : Int32 := if btw v 1 9 then recR R K 1 else -1
theorem un_to {K : Int32} {n : Nat} (hn : n ≤ 5) (hK : K = nI n) : cpOk ((1964 : Int32) * K) := by
  refine ⟨1964 * n, ?_, by omega⟩
  rw [hK, show (1964 : Int32) = nI 1964 from rfl, pk_mul]
def muRet (K : Int32) : Int32 := if K = 0 then -2 else K - 1
theorem stG_ok {a : Nat} : ∀ (n : Nat) {R : FI} {f : Nat}, mOk R a f → ∃ f', mOk (stG a n R) a f'
  | 0, R, f, h => ⟨f, h⟩
  | n + 1, R, f, h => by
    rw [stG]
    split
    · exact ⟨f, h⟩
    · rename_i h1
      split
      · exact ⟨f, h⟩
      · rename_i h2
        exact stG_ok n (spl_ok h (by have := f38 h h2; omega) (mTs_in h h1)).1
theorem stG_nF {a n : Nat} {R : FI} {f : Nat} (h : mOk R a f) : mOk (stG a n R) a (nFn (stG a n R)) := by
  obtain ⟨f', h'⟩ := stG_ok n h
  rw [nFn_ok h']; exact h'
