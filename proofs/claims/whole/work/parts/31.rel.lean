/-! the two sides: what of the class's state stands where in the reference's row -/
theorem fldR {σ τ : Type} (F : Nat → σ) (G : Nat → τ) (f : Nat → σ → σ) (g : Nat → τ → τ) (r : σ → τ → Prop) (N a : Nat) (ha : a ≤ N) (h0 : r (F 0) (G 0)) (hF : ∀ k, F (k + 1) = f k (F k)) (hG : ∀ k, G (k + 1) = g k (G k)) (hs : ∀ k v w, k < a → r v w → r (f k v) (g k w)) (hid : ∀ k v, a ≤ k → k < N → f k v = v) : r (F N) (G a) := by
  have h1 : ∀ k, k ≤ a → r (F k) (G k) := by
    intro k
    induction k with
    | zero => intro _; exact h0
    | succ k ih => intro hk; rw [hF, hG]; exact hs k _ _ (by omega) (ih (by omega))
  have h2 : ∀ j, a + j ≤ N → F (a + j) = F a := by
    intro j
    induction j with
    | zero => intro _; rfl
    | succ j ih => intro hj; rw [← Nat.add_assoc, hF, hid _ _ (by omega) (by omega), ih (by omega)]
  have h3 := h2 (N - a) (by omega)
  rw [show a + (N - a) = N by omega] at h3
  rw [h3]; exact h1 a (Nat.le_refl a)
theorem fnd_nn {g : Nat → Bool} : ∀ (n k : Nat), (∀ j, k ≤ j → j < k + n → g j = false) → fnd g n k = -9
  | 0, _, _ => rfl
  | n + 1, k, h => by
    rw [fnd, if_neg (by rw [h k (Nat.le_refl k) (by omega)]; decide)]
    exact fnd_nn n (k + 1) (fun j h1 h2 => h j (by omega) (by omega))
theorem fnd_eqk {g h : Nat → Bool} (m : Nat) : ∀ (a k : Nat), (∀ j, k ≤ j → j < k + a → g j = h j) → (∀ j, k + a ≤ j → j < k + a + m → g j = false) → fnd g (a + m) k = fnd h a k
  | 0, k, _, h2 => by rw [Nat.zero_add, fnd]; exact fnd_nn m k (fun j a b => h2 j (by omega) (by omega))
  | a + 1, k, h1, h2 => by
    rw [show a + 1 + m = (a + m) + 1 by omega, fnd, fnd, h1 k (Nat.le_refl k) (by omega), fnd_eqk m a (k + 1) (fun j x y => h1 j (by omega) (by omega)) (fun j x y => h2 j (by omega) (by omega))]
theorem fnd_eq {g h : Nat → Bool} {N a : Nat} (ha : a ≤ N) (h1 : ∀ k, k < a → g k = h k) (h2 : ∀ k, a ≤ k → k < N → g k = false) : fnd g N 0 = fnd h a 0 := by
  have := fnd_eqk (g := g) (h := h) (N - a) a 0 (fun j _ b => h1 j (by omega)) (fun j x y => h2 j (by omega) (by omega))
  rwa [show a + (N - a) = N by omega] at this
/-- the one found -/
theorem fnd_one {g : Nat → Bool} {p : Nat} : ∀ (n k : Nat), k ≤ p → p < k + n → g p = true → (∀ j, k ≤ j → j < k + n → g j = true → j = p) → fnd g n k = nI p
  | 0, _, h1, h2, _, _ => absurd h2 (by omega)
  | n + 1, k, h1, h2, h3, h4 => by
    by_cases e : k = p
    · subst e; rw [fnd, if_pos h3]
    · have h5 : ¬ g k = true := fun h => e (h4 k (Nat.le_refl k) (by omega) h)
      rw [fnd, if_neg h5]
      exact fnd_one n (k + 1) (by omega) (by omega) h3 (fun j a b => h4 j (by omega) (by omega))
def kCel (l t s : Nat) : Prop := s ≤ 4 ∧ l < 64 ∧ t < 64 ∧ l % (64 / 2 ^ s) = 0 ∧ t % (64 / 2 ^ s) = 0
def kIn (l t s x y : Nat) : Prop := l ≤ x ∧ x < l + 64 / 2 ^ s ∧ t ≤ y ∧ y < t + 64 / 2 ^ s
def kCl (S : CS) (p l t s : Nat) : Prop := sLe S p = nI l ∧ sTo S p = nI t ∧ sSc S p = nI s ∧ kCel l t s
def kInC (S : CS) (p x y : Nat) : Prop := ∃ l t s, kCl S p l t s ∧ kIn l t s x y
def kCov (S : CS) : Prop := ∀ x y, x < 64 → y < 64 → ∃ p, p < 40 ∧ kInC S p x y
def kDis (S : CS) : Prop := ∀ p q x y, p < 40 → q < 40 → kInC S p x y → kInC S q x y → p = q
def kPD (S : CS) (R : FI) (i x y w : Nat) : Prop := x < 64 ∧ y < 64 ∧ 1 ≤ w ∧ w ≤ 100 ∧ sX S i = nI x ∧ sY S i = nI y ∧ sW S i = nI w ∧ R (4 + 5 * i) = nI x ∧ R (4 + 5 * i + 1) = nI y ∧ R (4 + 5 * i + 2) = nI w ∧ R (4 + 5 * i + 4) = sL S i
def kPt (S : CS) (R : FI) (a i : Nat) : Prop := (sW S i = 0 ∧ (i < a → ¬ R (4 + 5 * i + 3) = 1)) ∨ (i < a ∧ R (4 + 5 * i + 3) = 1 ∧ ∃ x y w, kPD S R i x y w)
def kRD (S : CS) (R : FI) (p l t s : Nat) : Prop := kCl S p l t s ∧ R (204 + 4 * p + 1) = nI l ∧ R (204 + 4 * p + 2) = nI t ∧ R (204 + 4 * p + 3) = nI s
def kPa (S : CS) (R : FI) (f p : Nat) : Prop := (sSc S p = -1 ∧ (p < f → ¬ R (204 + 4 * p) = 1)) ∨ (p < f ∧ R (204 + 4 * p) = 1 ∧ ∃ l t s, kRD S R p l t s)
def kBas (S : CS) (R : FI) (a f : Nat) : Prop := a ≤ 40 ∧ 1 ≤ f ∧ f ≤ 40 ∧ R 0 = sCr S ∧ R 1 = sTi S ∧ R 2 = nI a ∧ sAd S = nI a ∧ R 3 = nI f ∧ sFo S = nI f ∧ ∃ t : Nat, 1 ≤ t ∧ t ≤ 9 ∧ sTi S = nI t
def kDeb (S : CS) (R : FI) (f e : Nat) : Prop := (∀ p c, p < 40 → c < 40 → ¬ (p = e ∧ c = e) → sD S (40 * p + c) = R (364 + 40 * p + c)) ∧ (∀ p, p < 40 → sD S (40 * p + p) = 0) ∧ ∀ p c, f ≤ p → p < 40 → c < 40 → sD S (40 * p + c) = 0
def kCore (S : CS) (R : FI) (a f e1 e2 : Nat) : Prop := kBas S R a f ∧ (∀ i, i < 40 → kPt S R a i) ∧ (∀ p, p < 40 → p ≠ e1 → kPa S R f p) ∧ kDeb S R f e2
def kFull (S : CS) (R : FI) (a f : Nat) : Prop := kCore S R a f 40 40 ∧ kCov S ∧ kDis S
/-! places in the row -/
theorem oP_0 {R : FI} {i : Nat} (hi : i < 100) : oP R (nI i) 0 = R (4 + 5 * i) := by
  show R ((4 : Int32) + 5 * nI i + nI 0).toNatClampNeg = _; rw [ix1e, nI_clamp (by omega)]; rfl
theorem oP_1 {R : FI} {i : Nat} (hi : i < 100) : oP R (nI i) 1 = R (4 + 5 * i + 1) := by
  show R ((4 : Int32) + 5 * nI i + nI 1).toNatClampNeg = _; rw [ix1e, nI_clamp (by omega)]
theorem oP_2 {R : FI} {i : Nat} (hi : i < 100) : oP R (nI i) 2 = R (4 + 5 * i + 2) := by
  show R ((4 : Int32) + 5 * nI i + nI 2).toNatClampNeg = _; rw [ix1e, nI_clamp (by omega)]
theorem oP_3 {R : FI} {i : Nat} (hi : i < 100) : oP R (nI i) 3 = R (4 + 5 * i + 3) := by
  show R ((4 : Int32) + 5 * nI i + nI 3).toNatClampNeg = _; rw [ix1e, nI_clamp (by omega)]
theorem oP_4 {R : FI} {i : Nat} (hi : i < 100) : oP R (nI i) 4 = R (4 + 5 * i + 4) := by
  show R ((4 : Int32) + 5 * nI i + nI 4).toNatClampNeg = _; rw [ix1e, nI_clamp (by omega)]
theorem qA_0 {R : FI} {p : Nat} (hp : p < 100) : qA R (nI p) 0 = R (204 + 4 * p) := by
  show R ((204 : Int32) + 4 * nI p + nI 0).toNatClampNeg = _; rw [ix2e, nI_clamp (by omega)]; rfl
theorem qA_1 {R : FI} {p : Nat} (hp : p < 100) : qA R (nI p) 1 = R (204 + 4 * p + 1) := by
  show R ((204 : Int32) + 4 * nI p + nI 1).toNatClampNeg = _; rw [ix2e, nI_clamp (by omega)]
theorem qA_2 {R : FI} {p : Nat} (hp : p < 100) : qA R (nI p) 2 = R (204 + 4 * p + 2) := by
  show R ((204 : Int32) + 4 * nI p + nI 2).toNatClampNeg = _; rw [ix2e, nI_clamp (by omega)]
theorem qA_3 {R : FI} {p : Nat} (hp : p < 100) : qA R (nI p) 3 = R (204 + 4 * p + 3) := by
  show R ((204 : Int32) + 4 * nI p + nI 3).toNatClampNeg = _; rw [ix2e, nI_clamp (by omega)]
theorem dO_n {R : FI} {p c : Nat} (hp : p < 100) (hc : c < 100) : dO R (nI p) (nI c) = R (364 + 40 * p + c) := by
  show R ((364 : Int32) + 40 * nI p + nI c).toNatClampNeg = _; rw [ix3e, nI_clamp (by omega)]
theorem nI_nm1 {n : Nat} (h : n < 2 ^ 31) : ¬ nI n = -1 := by
  intro e
  have h1 := nI_toInt h
  rw [e] at h1
  have h2 : (-1 : Int32).toInt = -1 := by decide
  omega
theorem nI_nm9 {n : Nat} (h : n < 2 ^ 31) : ¬ nI n = -9 := by
  intro e
  have h1 := nI_toInt h
  rw [e] at h1
  have h2 : (-9 : Int32).toInt = -9 := by decide
  omega
theorem sideF_n {s : Nat} (h : s ≤ 4) : sideF (nI s) = nI (64 / 2 ^ s) := by
  have : ∀ s, s < 5 → sideF (nI s) = nI (64 / 2 ^ s) := by decide +kernel
  exact this s (by omega)
theorem shF_n {s : Nat} (h : s ≤ 4) : (64 : Int32) >>> (nI s &&& 31) = nI (64 / 2 ^ s) := by
  have : ∀ s, s < 5 → (64 : Int32) >>> (nI s &&& 31) = nI (64 / 2 ^ s) := by decide +kernel
  exact this s (by omega)
theorem sd_le {s : Nat} (h : s ≤ 4) : 4 ≤ 64 / 2 ^ s ∧ 64 / 2 ^ s ≤ 64 := by
  have : ∀ s, s < 5 → 4 ≤ 64 / 2 ^ s ∧ 64 / 2 ^ s ≤ 64 := by decide
  exact this s (by omega)
/-- a cell lies on the map -/
theorem kCel_in {l t s : Nat} (h : kCel l t s) : l + 64 / 2 ^ s ≤ 64 ∧ t + 64 / 2 ^ s ≤ 64 := by
  obtain ⟨h1, h2, h3, h4, h5⟩ := h
  have key : ∀ s, s < 5 → ∀ l, l < 64 → l % (64 / 2 ^ s) = 0 → l + 64 / 2 ^ s ≤ 64 := by decide +kernel
  exact ⟨key s (by omega) l h2 h4, key s (by omega) t h3 h5⟩
theorem btw_n {k lo hi : Nat} (hk : k < 2 ^ 31) (hl : lo < 2 ^ 31) (hh : hi < 2 ^ 31) : btw (nI k) (nI lo) (nI hi) = decide (lo ≤ k ∧ k ≤ hi) := by
  rw [btw, Bool.eq_iff_iff]
  simp [nI_ltI, nI_leI, hk, hl, hh]
theorem btw_a {k a : Nat} (hk : k < 2 ^ 30) (ha : a < 2 ^ 30) : btw (nI k) 0 (nI a - 1) = decide (k < a) := by
  have e1 : (nI a - 1).toInt = (a : Int) - 1 := by
    rw [show (1 : Int32) = nI 1 from rfl, pk_sub_toInt (by omega) (by omega)]; rfl
  have e2 : (nI k).toInt = (k : Int) := nI_toInt (by omega)
  have h0 : ¬ nI k < 0 := nI_pos (by omega)
  have h1 : decide (nI a - 1 < nI k) = !decide (k < a) := by
    rw [Bool.eq_iff_iff]
    simp only [decide_eq_true_eq, Bool.not_eq_true', decide_eq_false_iff_not, Int32.lt_iff_toInt_lt, e1, e2]
    omega
  rw [btw, h1, decide_eq_false h0]
  simp
theorem onMap_n {x y : Int32} (h : onMap x y = true) : ∃ a b : Nat, a < 64 ∧ b < 64 ∧ x = nI a ∧ y = nI b := by
  simp only [onMap, Bool.and_eq_true] at h
  have key : ∀ v : Int32, btw v 0 63 = true → ∃ a : Nat, a < 64 ∧ v = nI a := by
    intro v hv
    simp [btw] at hv
    obtain ⟨j, hj, e⟩ := nI_of2 (x := v) (M := 63) (n := 63) (by decide) (Int32.not_lt.mpr hv.1) hv.2
    exact ⟨j, by omega, e⟩
  obtain ⟨a, ha, e1⟩ := key x h.1
  obtain ⟨b, hb, e2⟩ := key y h.2
  exact ⟨a, b, ha, hb, e1, e2⟩
/-! points -/
theorem pEx_n {S : CS} {k : Nat} (hk : k < 40) : pEx S (nI k) = !decide (sW S k ≤ 0) := by
  rw [pEx, nI_clamp (by omega), decide_eq_false (nI_pos (by omega)), decide_eq_false (show ¬ (40 : Int32) ≤ nI k from nI_ge (a := k) (b := 40) hk (by decide))]
  simp
theorem iP_n {R : FI} {a k : Nat} (hk : k < 100) (ha : a ≤ 60) (h2 : R 2 = nI a) : iP R (nI k) = (decide (k < a) && decide (R (4 + 5 * k + 3) = 1)) := by
  rw [iP, h2, btw_a (by omega) (by omega), oP_3 hk]
section KP
variable {S : CS} {R : FI} {a f e1 e2 : Nat}
theorem kp_ex (ha : a ≤ 40) (h2 : R 2 = nI a) (h : ∀ i, i < 40 → kPt S R a i) {k : Nat} (hk : k < 40) : pEx S (nI k) = iP R (nI k) := by
  rw [pEx_n hk, iP_n (by omega) (by omega) h2]
  rcases h k hk with ⟨h3, h4⟩ | ⟨h3, h4, x, y, w, h5⟩
  · rw [h3]
    by_cases hka : k < a
    · simp [hka, h4 hka]
    · simp [hka]
  · rw [h5.2.2.2.2.2.2.1, decide_eq_false (nI_nle (by have := h5.2.2.1; omega) (by have := h5.2.2.2.1; omega))]
    simp [h3, h4]
theorem kp_exI (ha : a ≤ 40) (h2 : R 2 = nI a) (h : ∀ i, i < 40 → kPt S R a i) (i : Int32) : pEx S i = iP R i := by
  rw [Bool.eq_iff_iff]
  constructor
  · intro h1
    obtain ⟨k, hk, rfl⟩ := vp_in_of (pEx_in h1) (by decide)
    rw [← kp_ex ha h2 h hk]; exact h1
  · intro h1
    have h3 : vp_in i 40 := by
      simp only [iP, Bool.and_eq_true, h2] at h1
      have h4 := btw_R (a := a) (by omega) rfl h1.1
      obtain ⟨k, hk, rfl⟩ := vp_in_of h4 (by decide)
      rw [btw_a (by omega) (by omega)] at h1
      exact vp_in_nI (by have := of_decide_eq_true h1.1; omega) (by decide)
    obtain ⟨k, hk, rfl⟩ := vp_in_of h3 (by decide)
    rw [kp_ex ha h2 h hk]; exact h1
theorem kp_no {S : CS} {R : FI} {a : Nat} (h : ∀ i, i < 40 → kPt S R a i) {k : Nat} (hk : k < 40) (hka : a ≤ k) : pEx S (nI k) = false := by
  rw [pEx_n hk]
  rcases h k hk with ⟨h3, h4⟩ | ⟨h3, -⟩
  · rw [h3]; decide
  · exact absurd h3 (by omega)
theorem kp_dat {S : CS} {R : FI} {a : Nat} (h : ∀ i, i < 40 → kPt S R a i) {k : Nat} (hk : k < 40) (he : pEx S (nI k) = true) : k < a ∧ R (4 + 5 * k + 3) = 1 ∧ ∃ x y w, kPD S R k x y w := by
  rcases h k hk with ⟨h3, h4⟩ | h3
  · rw [pEx_n hk, h3] at he; exact absurd he (by decide)
  · exact h3
theorem kp_lie (ha : a ≤ 40) (h2 : R 2 = nI a) (h : ∀ i, i < 40 → kPt S R a i) {k : Nat} (hk : k < 40) (l t r b : Int32) : pLies S (nI k) l t r b = (iP R (nI k) && btw (oP R (nI k) 0) l r && btw (oP R (nI k) 1) t b) := by
  rw [pLies, ← kp_ex ha h2 h hk, nI_clamp (by omega)]
  cases he : pEx S (nI k) with
  | false => simp only [Bool.false_and]
  | true =>
    obtain ⟨-, -, x, y, w, hd⟩ := kp_dat h hk he
    rw [oP_0 (by omega), oP_1 (by omega), hd.2.2.2.2.1, hd.2.2.2.2.2.1, hd.2.2.2.2.2.2.2.1, hd.2.2.2.2.2.2.2.2.1]
theorem kp_num (ha : a ≤ 40) (h2 : R 2 = nI a) (h : ∀ i, i < 40 → kPt S R a i) (l t r b : Int32) : pNum S l t r b 40 = mPt R l t r b a :=
  fldR (pNum S l t r b) (mPt R l t r b) (fun k v => if pLies S (nI k) l t r b then v + 1 else v) (fun k v => if iP R (nI k) && btw (oP R (nI k) 0) l r && btw (oP R (nI k) 1) t b then v + 1 else v) Eq 40 a ha rfl (fun _ => rfl) (fun _ => rfl)
    (fun k v w hk e => by rw [e, kp_lie ha h2 h (by omega : k < 40)]) (fun k v h3 h4 => by simp [pLies, kp_no h h4 h3])
end KP
/-! parishes -/
theorem rEx_n {S : CS} {k : Nat} (hk : k < 40) : rEx S (nI k) = !decide (sSc S k = -1) := by
  rw [rEx, nI_clamp (by omega), decide_eq_false (nI_pos (by omega)), decide_eq_false (show ¬ (40 : Int32) ≤ nI k from nI_ge (a := k) (b := 40) hk (by decide))]
  simp
theorem iR_n {R : FI} {f k : Nat} (hk : k < 100) (hf : f ≤ 60) (h3 : R 3 = nI f) : iR R (nI k) = (decide (k < f) && decide (R (204 + 4 * k) = 1)) := by
  rw [iR, h3, btw_a (by omega) (by omega), qA_0 hk]
section KR
variable {S : CS} {R : FI} {a f e1 e2 : Nat}
theorem kr_ex1 (hf : f ≤ 40) (h3 : R 3 = nI f) {k : Nat} (hk : k < 40) (h : kPa S R f k) : rEx S (nI k) = iR R (nI k) := by
  rw [rEx_n hk, iR_n (by omega) (by omega) h3]
  rcases h with ⟨h4, h5⟩ | ⟨h4, h5, l, t, s, h6⟩
  · rw [h4]
    by_cases hka : k < f
    · simp [hka, h5 hka]
    · simp [hka]
  · rw [h6.1.2.2.1, decide_eq_false (nI_nm1 (by have := h6.1.2.2.2.1; omega))]
    simp [h4, h5]
theorem kr_dat1 {k : Nat} (hk : k < 40) (h : kPa S R f k) (he : rEx S (nI k) = true) : k < f ∧ R (204 + 4 * k) = 1 ∧ ∃ l t s, kRD S R k l t s := by
  rcases h with ⟨h3, h4⟩ | h3
  · rw [rEx_n hk, h3] at he; exact absurd he (by decide)
  · exact h3
theorem kr_no1 {k : Nat} (hk : k < 40) (hkf : f ≤ k) (h : kPa S R f k) : rEx S (nI k) = false := by
  rw [rEx_n hk]
  rcases h with ⟨h3, h4⟩ | ⟨h3, -⟩
  · rw [h3]; decide
  · exact absurd h3 (by omega)
theorem kr_exI (hf : f ≤ 40) (h3 : R 3 = nI f) (h : ∀ p, p < 40 → kPa S R f p) (p : Int32) : rEx S p = iR R p := by
  rw [Bool.eq_iff_iff]
  constructor
  · intro h1
    obtain ⟨k, hk, rfl⟩ := vp_in_of (rEx_in h1) (by decide)
    rw [← kr_ex1 hf h3 hk (h k hk)]; exact h1
  · intro h1
    have h4 : vp_in p 40 := by
      simp only [iR, Bool.and_eq_true, h3] at h1
      have h4 := btw_R (a := f) (by omega) rfl h1.1
      obtain ⟨k, hk, rfl⟩ := vp_in_of h4 (by decide)
      rw [btw_a (by omega) (by omega)] at h1
      exact vp_in_nI (by have := of_decide_eq_true h1.1; omega) (by decide)
    obtain ⟨k, hk, rfl⟩ := vp_in_of h4 (by decide)
    rw [kr_ex1 hf h3 hk (h k hk)]; exact h1
/-- a parish that stands: its values on both sides -/
theorem kr_val {k l t s : Nat} (hk : k < 40) (h : kCl S k l t s) : rEx S (nI k) = true ∧ rLe S (nI k) = nI l ∧ rTo S (nI k) = nI t ∧ rSc S (nI k) = nI s ∧ rRi S (nI k) = nI (l + 64 / 2 ^ s - 1) ∧ rBo S (nI k) = nI (t + 64 / 2 ^ s - 1) := by
  obtain ⟨h1, h2, h3, h4⟩ := h
  have he : rEx S (nI k) = true := by
    rw [rEx_n hk, h3, decide_eq_false (nI_nm1 (by have := h4.1; omega))]; rfl
  have e1 : rLe S (nI k) = nI l := by rw [rLe, if_pos he, nI_clamp (by omega)]; exact h1
  have e2 : rTo S (nI k) = nI t := by rw [rTo, if_pos he, nI_clamp (by omega)]; exact h2
  have e3 : rSc S (nI k) = nI s := by rw [rSc, if_pos he, nI_clamp (by omega)]; exact h3
  have hs := sd_le h4.1
  refine ⟨he, e1, e2, e3, ?_, ?_⟩
  · rw [rRi, e1, e3, sideF_n h4.1, nI_add, show (1 : Int32) = nI 1 from rfl, pk_sub (by omega)]
  · rw [rBo, e2, e3, sideF_n h4.1, nI_add, show (1 : Int32) = nI 1 from rfl, pk_sub (by omega)]
theorem kr_mval {k l t s : Nat} (hk : k < 40) (h : kRD S R k l t s) : qA R (nI k) 1 = nI l ∧ qA R (nI k) 2 = nI t ∧ qA R (nI k) 3 = nI s ∧ mSd R (nI k) = nI (64 / 2 ^ s) := by
  obtain ⟨h0, h1, h2, h3⟩ := h
  have e3 : qA R (nI k) 3 = nI s := by rw [qA_3 (by omega)]; exact h3
  exact ⟨by rw [qA_1 (by omega)]; exact h1, by rw [qA_2 (by omega)]; exact h2, e3, by rw [mSd, e3, shF_n h0.2.2.2.1]⟩
/-- touching, for whatever bounds -/
theorem kr_tou (hf : f ≤ 40) (h3 : R 3 = nI f) {k : Nat} (hk : k < 40) (h : kPa S R f k) (x y tx ty : Int32) : rTou S (nI k) x y tx ty = raT R x y tx ty k := by
  rw [rTou, raT, kr_ex1 hf h3 hk h, nI_clamp (by omega)]
  cases he : iR R (nI k) with
  | false => simp only [Bool.false_and]
  | true =>
    obtain ⟨-, -, l, t, s, hd⟩ := kr_dat1 hk h (by rw [kr_ex1 hf h3 hk h]; exact he)
    obtain ⟨m1, m2, m3, m4⟩ := kr_mval hk hd
    rw [m1, m2, m4, hd.1.1, hd.1.2.1, hd.1.2.2.1, sideF_n hd.1.2.2.2.1]
theorem kr_touI {k x y : Nat} (hk : k < 40) (hx : x < 64) (hy : y < 64) (h : sSc S k = -1 ∨ ∃ l t s, kCl S k l t s) : rTou S (nI k) (nI x) (nI y) (nI x) (nI y) = true ↔ kInC S k x y := by
  rcases h with h | ⟨l, t, s, h⟩
  · constructor
    · intro h1
      rw [rTou, rEx_n hk, h] at h1
      exact absurd h1 (by simp)
    · rintro ⟨l, t, s, h1, -⟩
      exact absurd (h1.2.2.1.symm.trans h) (nI_nm1 (by have := h1.2.2.2.1; omega))
  · have hs := sd_le h.2.2.2.1
    have hc := kCel_in h.2.2.2
    have h0 := h.2.2.2
    rw [rTou, (kr_val hk h).1, nI_clamp (by omega), h.1, h.2.1, h.2.2.1, sideF_n h.2.2.2.1, nI_add, nI_add]
    have b1 := h0.2.1
    have b2 := h0.2.2.1
    simp only [Bool.and_eq_true, Bool.not_eq_true', decide_eq_false_iff_not, Bool.true_and, nI_ltI (show x < 2 ^ 31 by omega) (show l < 2 ^ 31 by omega), nI_ltI (show y < 2 ^ 31 by omega) (show t < 2 ^ 31 by omega), nI_leI (show l + 64 / 2 ^ s < 2 ^ 31 by omega) (show x < 2 ^ 31 by omega), nI_leI (show t + 64 / 2 ^ s < 2 ^ 31 by omega) (show y < 2 ^ 31 by omega)]
    constructor
    · intro h1
      exact ⟨l, t, s, h, by omega, by omega, by omega, by omega⟩
    · rintro ⟨l', t', s', h1, h2, h3, h4, h5⟩
      have q1 : l' = l := (nI_eq (by have := h1.2.2.2.2.1; omega) (by omega)).mp (h1.1.symm.trans h.1)
      have q2 : t' = t := (nI_eq (by have := h1.2.2.2.2.2.1; omega) (by omega)).mp (h1.2.1.symm.trans h.2.1)
      have q3 : s' = s := (nI_eq (by have := h1.2.2.2.1; omega) (by have := h0.1; omega)).mp (h1.2.2.1.symm.trans h.2.2.1)
      subst q1; subst q2; subst q3
      omega
end KR
