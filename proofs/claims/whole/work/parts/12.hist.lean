/-! the history's head: how many states it keeps, where they lie; the grid; copies of whole rows -/
abbrev HZ : Type := Int32 × (Nat → Option Nat)
abbrev hN (Z : HZ) : Int32 := Z.1
abbrev hQ (Z : HZ) : Nat → Option Nat := Z.2
abbrev uN (Z : HZ) (v : Int32) : HZ := (v, Z.2)
abbrev uQ (Z : HZ) (v : Nat → Option Nat) : HZ := (Z.1, v)
abbrev zHea (cQ : ClassId) (h : Nat → Nat) (Z : HZ) : va_W := [(h 0, .inr (1, [.int (hN Z), .ref (h 1)])), (h 1, .inl (cQ, 5, .inr (.inr (.inr (.inr (hQ Z))))))]
abbrev zGri (g q h : Nat → Nat) : va_W := [(g 0, .inr (5, [.ref (q 0), .ref (h 0)]))]
theorem z_congr {cA : ClassId} {n : Nat} {f g : FI} (h : ∀ k, k < n → f k = g k) : vp_cell cA (n, .inl f) = vp_cell cA (n, .inl g) := by
  rw [vp_cell_i, vp_cell_i]
  unfold arrV
  congr 1
  apply Array.ext
  · simp
  · intro i h1 h2
    simp only [Array.getElem_ofFn]
    rw [h i (by simpa using h1)]
theorem z_setE {D : va_G} {ws : va_W} {q1 a : Nat} {cA : ClassId} {n : Nat} {f g : FI} {H : Heap} (h : ∀ k, k < n → f k = g k) (hP : va_P D vwCl (ws.set q1 (a, .inl (cA, n, .inl f))) H) : va_P D vwCl (ws.set q1 (a, .inl (cA, n, .inl g))) H := by
  intro k q hk
  by_cases hkp : k = q1
  · subst hkp
    by_cases hl : k < ws.length
    · rw [List.getElem?_set_self hl] at hk
      cases hk
      have h1 := hP k _ (by rw [List.getElem?_set_self hl])
      show H[a]? = some (vp_cell cA (n, .inl g))
      rw [← z_congr h]
      exact h1
    · rw [List.getElem?_eq_none (by simpa using Nat.not_lt.mp hl)] at hk
      cases hk
  · rw [List.getElem?_set_ne (Ne.symm hkp)] at hk
    exact hP k q (by rw [List.getElem?_set_ne (Ne.symm hkp)]; exact hk)
theorem z_fitI (x : Int32) : fits .int (.int x) = true := by rfl
section ZC
variable {p : Program} {l : Launch} {e : Env} {R : Room} {s : State} {m : MethodId} {args : Array Value} {below : List Frame} {meth : Method} {c : Code} {H : Heap} {locs : List Loc} {cells slots : Nat} {Q : State → Prop} {pc : Nat} {ls : Array Slot} {rest : List Value} {D : va_G} {A : Nat → Prop} {a : Nat} {tys : List (ClassId × FieldType)} {ws : va_W} {H0 : Heap}
theorem z_cpy {cc : ByteArray} (hexec : p.tables.exec = Jvm.exec) (hb : c.code = cc) (hml : c.maxLocals = ls.size) {own : String} {index : Nat} (hown : s.vm.findClass own = some m.cls) (hlink : (Cond.methodLink own index arraycopyName).before args s = true) (hnat : (Cond.native arraycopyName).before args s = true) (hstat : (Cond.static arraycopyName).before args s = true) (hini : (Cond.initialized "java/lang/System").before args s = true)
    (hK : va_K D vwCl tys s) (hP : va_P D vwCl ws H) (hD : va_D A ws) (hS : va_S A H0 H locs) (q0 q1 t0 : Nat) {a0 n : Nat} {c0 : ClassId} {f g : FI} (ha0 : ws[q0]? = some (a0, .inl (c0, n, .inl f))) (ha1 : ws[q1]? = some (a, .inl (c0, n, .inl g))) (ht0 : tys[t0]? = some (c0, .int))
    {N : Int32} (hN : ¬ N < 0) (hNn : N.toNatClampNeg = n) (h0 : ((0 : Int32).toNatClampNeg = 0)) (hframes : 1 ≤ R.frames) (hlocals : (rest.map fun v => v.category).sum + (nativeFrameWords "java/lang/System" "arraycopy" 5 + 11) ≤ R.locals) (hdg : decode cc pc = .ok (.invokestatic index, 3))
    (kk : ∀ (H1 : Heap) (locs1 : List Loc), va_P D vwCl (ws.set q1 (a, .inl (c0, n, .inl f))) H1 → va_D A (ws.set q1 (a, .inl (c0, n, .inl f))) → va_S A H0 H1 locs1 → W p l e R s m args below meth c H1 locs1 cells slots Q (F0 m (pc + 3) ls rest)) : W p l e R s m args below meth c H locs cells slots Q (F0 m pc ls (.int N :: .int 0 :: .ref a :: .int 0 :: .ref a0 :: rest)) := by
  subst hNn
  refine va_copyi hexec hb hml hown hlink hnat hstat hini hK hP hD hS q0 q1 t0 t0 ha0 ha1 ht0 ht0 rfl (by decide) (by decide) hN (by rw [h0]; omega) (by rw [h0]; omega) (fun i _ => z_fitI _) hframes hlocals hdg (fun H1 locs1 hP1 hD1 hS1 => ?_)
  refine kk H1 locs1 (z_setE (fun k hk => ?_) hP1) (hD.set ha1) hS1
  rw [h0, pk_cpy_in (Nat.zero_le k) (by omega)]
  simp
theorem z_aldq {cc : ByteArray} (hexec : p.tables.exec = Jvm.exec) (hb : c.code = cc) (hK : va_K D vwCl tys s) (hP : va_P D vwCl ws H) (q0 t0 : Nat) {cA : ClassId} {C : String} {n : Nat} {f : Nat → Option Nat} (ha : ws[q0]? = some (a, .inl (cA, n, .inr (.inr (.inr (.inr f)))))) (ht : tys[t0]? = some (cA, .object C)) {i : Int32} (hin : vp_in i n) {v : Nat} (hv : f i.toNatClampNeg = some v) (hdg : decode cc pc = .ok (.aaload, 1))
    (kk : W p l e R s m args below meth c H locs cells slots Q (F0 m (pc + 1) ls (.ref v :: rest))) : W p l e R s m args below meth c H locs cells slots Q (F0 m pc ls (.int i :: .ref a :: rest)) := by
  refine va_aldq hexec hb hK hP q0 t0 ha ht hin hdg ?_
  rw [hv]
  exact kk
end ZC
def z_minH (n : Int32) : Int32 := if 5 < n + 1 then 5 else n + 1
def z_maxH (n : Int32) : Int32 := if n - 1 < 0 then 0 else n - 1
def z_qK (f : Nat → Option Nat) (a0 a1 a2 a3 a4 : Nat) : Nat → Option Nat := va_up (va_up (va_up (va_up (va_up f 4 (some a3)) 3 (some a2)) 2 (some a1)) 1 (some a0)) 0 (some a4)
def z_qR (f : Nat → Option Nat) (a0 a1 a2 a3 a4 : Nat) : Nat → Option Nat := va_up (va_up (va_up (va_up (va_up f 0 (some a1)) 1 (some a2)) 2 (some a3)) 3 (some a4)) 4 (some a0)
theorem z_inC {i : Int32} {n : Nat} (h0 : 0 ≤ i.toInt) (h1 : i.toInt < n) : vp_in i n := vp_in_iff.mpr ⟨h0, h1⟩
abbrev zSto (_ : ClassId) (q : Nat → Nat) (S : CS) : va_W := [(q 0, .inr (4, [.int (sCr S), .int (sTi S), .ref (q 1), .ref (q 6), .ref (q 10)]))]
theorem z_adD {A : Nat → Prop} {X X' : va_W} (h : va_D A X) (ha : X'.map (fun q => q.1) = X.map (fun q => q.1)) : va_D A X' := by
  refine ⟨fun i j x y hi hj hxy => ?_, fun k q hk => ?_⟩
  · obtain ⟨x0, h1, h2⟩ := z_adr ha i x hi
    obtain ⟨y0, h3, h4⟩ := z_adr ha j y hj
    exact h.1 i j x0 y0 h1 h3 (h2.trans (hxy.trans h4.symm))
  · obtain ⟨x0, h1, h2⟩ := z_adr ha k q hk
    rw [← h2]
    exact h.2 k x0 h1
theorem z_join {D : va_G} {A : Nat → Prop} {X wr wd wd' : va_W} {H H1 : Heap} (hP : va_P D vwCl X H) (hD : va_D A X) (isC isR : List Nat) (hC : isC.map (fun i => X[i]?) = wd.map some) (hR : isR.map (fun i => X[i]?) = wr.map some) (hn : va_nd (isR ++ isC) = true) (ha : wd'.map (fun q => q.1) = wd.map (fun q => q.1))
    (hP1 : va_P D vwCl wd' H1) (hk : ∀ q : Nat, q < H.size → ¬ zA wd q → H1[q]? = H[q]?) : va_P D vwCl (wr ++ wd') H1 ∧ va_D A (wr ++ wd') := by
  have hD2 : va_D A (wr ++ wd) := hD.sub (isR ++ isC) hn (by rw [List.map_append, hC, hR, List.map_append])
  refine ⟨va_P.app (fun k q hq => ?_) hP1, z_adD hD2 (by rw [List.map_append, List.map_append, ha])⟩
  obtain ⟨i, h1, h2⟩ := z_map2 hR k q hq
  have hat := hP i q h2
  refine hat.kept (hk q.1 hat.lt ?_)
  rintro ⟨k2, e2, h3⟩
  have h4 := (List.getElem?_eq_some_iff.mp hq).1
  have h5 := hD2.1 k (wr.length + k2) q (q.1, e2) (by rw [List.getElem?_append_left h4]; exact hq) (by rw [List.getElem?_append_right (by omega)]; simpa using h3) rfl
  omega
section ZJ
variable {p : Program} {l : Launch} {e : Env} {R : Room} {s : State} {m : MethodId} {args : Array Value} {below : List Frame} {meth : Method} {c : Code} {H : Heap} {locs : List Loc} {cells slots : Nat} {Q : State → Prop} {pc : Nat} {ls : Array Slot} {rest st0 : List Value} {a : Array Value}
theorem z_wj {v : Option Value} {D : va_G} {wd wd' X wr : va_W} {A : Nat → Prop} {H0 : Heap} (hr : va_Run p l e R s m args below meth c H locs cells slots 0 0 (F0 m pc ls st0) rest (zQ D wd v wd' a) (zA wd))
    (hP : va_P D vwCl X H) (hD : va_D A X) (hS : va_S A H0 H locs) (isC isR : List Nat) (hC : isC.map (fun i => X[i]?) = wd.map some) (hR : isR.map (fun i => X[i]?) = wr.map some) (hn : va_nd (isR ++ isC) = true) (ha : wd'.map (fun q => q.1) = wd.map (fun q => q.1))
    (kk : ∀ (H1 : Heap) (locs1 : List Loc), va_P D vwCl (wr ++ wd') H1 → va_D A (wr ++ wd') → va_S A H0 H1 locs1 → W p l e R s m args below meth c H1 locs1 cells slots Q (F0 m (pc + 3) ls (v.toList ++ rest))) : W p l e R s m args below meth c H locs cells slots Q (F0 m pc ls st0) := by
  intro T hT X0
  obtain ⟨v', st₀, t, T', L, h0, X', hL, e1, e2, ⟨hv, hp, hz, hk⟩, st⟩ := hr T hT X0
  have hv := Outcome.returned.inj hv
  subst hv
  rw [h0] at hz hk
  obtain ⟨hP1, hD1⟩ := z_join (H1 := T'.heap) hP hD isC isR hC hR hn ha (by rw [e1]; exact hp) (fun q h1 h2 => by rw [e1]; exact hk q h1 h2)
  obtain ⟨t2, a1, b1⟩ := kk T'.heap (locs ++ L) hP1 hD1
    ⟨Nat.le_trans hS.1 (by rw [e1]; exact hz), fun q h1 h2 => by rw [e1, hk q (Nat.lt_of_lt_of_le h1 hS.1) (fun z => h2 (z_inA hD isC hC q z))]; exact hS.2.1 q h1 h2, fun q hq => by
      rcases List.mem_append.mp hq with h | h
      · exact hS.2.2 q h
      · exact z_inA hD isC hC _ (hL q h)⟩ T' rfl X'
  exact ⟨t2, st t2 a1, b1⟩
theorem z_wvj {D : va_G} {wd wd' X wr : va_W} {A : Nat → Prop} {H0 : Heap} (hr : va_Run p l e R s m args below meth c H locs cells slots 0 0 (F0 m pc ls st0) rest (zQ D wd none wd' a) (zA wd))
    (hP : va_P D vwCl X H) (hD : va_D A X) (hS : va_S A H0 H locs) (isC isR : List Nat) (hC : isC.map (fun i => X[i]?) = wd.map some) (hR : isR.map (fun i => X[i]?) = wr.map some) (hn : va_nd (isR ++ isC) = true) (ha : wd'.map (fun q => q.1) = wd.map (fun q => q.1))
    (kk : ∀ (H1 : Heap) (locs1 : List Loc), va_P D vwCl (wr ++ wd') H1 → va_D A (wr ++ wd') → va_S A H0 H1 locs1 → W p l e R s m args below meth c H1 locs1 cells slots Q (F0 m (pc + 3) ls rest)) : W p l e R s m args below meth c H locs cells slots Q (F0 m pc ls st0) := z_wj hr hP hD hS isC isR hC hR hn ha kk
theorem z_wij {v : Int32} {D : va_G} {wd wd' X wr : va_W} {A : Nat → Prop} {H0 : Heap} (hr : va_Run p l e R s m args below meth c H locs cells slots 0 0 (F0 m pc ls st0) rest (zQ D wd (some (.int v)) wd' a) (zA wd))
    (hP : va_P D vwCl X H) (hD : va_D A X) (hS : va_S A H0 H locs) (isC isR : List Nat) (hC : isC.map (fun i => X[i]?) = wd.map some) (hR : isR.map (fun i => X[i]?) = wr.map some) (hn : va_nd (isR ++ isC) = true) (ha : wd'.map (fun q => q.1) = wd.map (fun q => q.1))
    (kk : ∀ (H1 : Heap) (locs1 : List Loc), va_P D vwCl (wr ++ wd') H1 → va_D A (wr ++ wd') → va_S A H0 H1 locs1 → W p l e R s m args below meth c H1 locs1 cells slots Q (F0 m (pc + 3) ls (.int v :: rest))) : W p l e R s m args below meth c H locs cells slots Q (F0 m pc ls st0) := z_wj hr hP hD hS isC isR hC hR hn ha kk
end ZJ
/-! worlds of blocks -/
abbrev zB (Bs : List va_W) : va_W := Bs.flatten
theorem z_Pm {D : va_G} {ws : va_W} {H : Heap} : va_P D vwCl ws H ↔ ∀ q ∈ ws, va_at D vwCl q H :=
  ⟨fun h q hq => by obtain ⟨i, hi⟩ := List.getElem?_of_mem hq; exact h i q hi, fun h k q hk => h q (List.mem_of_getElem? hk)⟩
theorem z_Dp {A : Nat → Prop} {ws : va_W} : va_D A ws ↔ ws.Pairwise (fun x y => x.1 ≠ y.1) ∧ ∀ q ∈ ws, A q.1 := by
  constructor
  · intro h
    refine ⟨List.pairwise_iff_getElem.mpr (fun i j hi hj hij he => ?_), fun q hq => ?_⟩
    · have := h.1 i j ws[i] ws[j] (List.getElem?_eq_getElem hi) (List.getElem?_eq_getElem hj) he
      omega
    · obtain ⟨i, hi⟩ := List.getElem?_of_mem hq
      exact h.2 i q hi
  · intro ⟨h1, h2⟩
    refine ⟨fun i j x y hi hj hxy => ?_, fun k q hk => h2 q (List.mem_of_getElem? hk)⟩
    obtain ⟨hi1, hi2⟩ := List.getElem?_eq_some_iff.mp hi
    obtain ⟨hj1, hj2⟩ := List.getElem?_eq_some_iff.mp hj
    rcases Nat.lt_trichotomy i j with h | h | h
    · exact absurd (by rw [hi2, hj2]; exact hxy) (List.pairwise_iff_getElem.mp h1 i j hi1 hj1 h)
    · exact h
    · exact absurd (by rw [hi2, hj2]; exact hxy.symm) (List.pairwise_iff_getElem.mp h1 j i hj1 hi1 h)
theorem zB_P {D : va_G} {Bs : List va_W} {H : Heap} : va_P D vwCl (zB Bs) H ↔ ∀ b ∈ Bs, va_P D vwCl b H := by
  rw [z_Pm]
  constructor
  · intro h b hb
    rw [z_Pm]
    intro q hq
    exact h q (List.mem_flatten.mpr ⟨b, hb, hq⟩)
  · intro h q hq
    obtain ⟨b, hb, hq⟩ := List.mem_flatten.mp hq
    exact z_Pm.mp (h b hb) q hq
theorem zB_blk {D : va_G} {Bs : List va_W} {b : va_W} {H : Heap} (h : va_P D vwCl (zB Bs) H) (i : Nat) (hb : Bs[i]? = some b) : va_P D vwCl b H := zB_P.mp h b (List.mem_of_getElem? hb)
theorem zB_D {A : Nat → Prop} {Bs : List va_W} : va_D A (zB Bs) ↔ (∀ b ∈ Bs, va_D A b) ∧ Bs.Pairwise (fun b c => ∀ x ∈ b, ∀ y ∈ c, x.1 ≠ y.1) := by
  rw [z_Dp, List.pairwise_flatten]
  constructor
  · intro ⟨⟨h1, h2⟩, h3⟩
    exact ⟨fun b hb => z_Dp.mpr ⟨h1 b hb, fun q hq => h3 q (List.mem_flatten.mpr ⟨b, hb, hq⟩)⟩, h2⟩
  · intro ⟨h1, h2⟩
    refine ⟨⟨fun b hb => (z_Dp.mp (h1 b hb)).1, h2⟩, fun q hq => ?_⟩
    obtain ⟨b, hb, hq⟩ := List.mem_flatten.mp hq
    exact (z_Dp.mp (h1 b hb)).2 q hq
theorem zB_dis {A : Nat → Prop} {Bs : List va_W} (h : va_D A (zB Bs)) {i j : Nat} {b c : va_W} (hi : Bs[i]? = some b) (hj : Bs[j]? = some c) (hij : i ≠ j) : ∀ x ∈ b, ∀ y ∈ c, x.1 ≠ y.1 := by
  have h2 := (zB_D.mp h).2
  obtain ⟨hi1, hi2⟩ := List.getElem?_eq_some_iff.mp hi
  obtain ⟨hj1, hj2⟩ := List.getElem?_eq_some_iff.mp hj
  rcases Nat.lt_or_gt_of_ne hij with hl | hl
  · have := List.pairwise_iff_getElem.mp h2 i j hi1 hj1 hl
    rw [hi2, hj2] at this
    exact this
  · have := List.pairwise_iff_getElem.mp h2 j i hj1 hi1 hl
    rw [hi2, hj2] at this
    exact fun x hx y hy he => this y hy x hx he.symm
theorem zB_Dblk {A : Nat → Prop} {Bs : List va_W} {b : va_W} (h : va_D A (zB Bs)) (i : Nat) (hb : Bs[i]? = some b) : va_D A b := (zB_D.mp h).1 b (List.mem_of_getElem? hb)
theorem zB_sel {Bs Cs : List va_W} {is : List Nat} (hs : is.map (fun i => Bs[i]?) = Cs.map some) (k : Nat) (b : va_W) (hk : Cs[k]? = some b) : ∃ i, is[k]? = some i ∧ Bs[i]? = some b := by
  have h1 : (is.map (fun i => Bs[i]?))[k]? = some (some b) := by rw [hs, List.getElem?_map, hk]; rfl
  rw [List.getElem?_map] at h1
  cases hi : is[k]? with
  | none => rw [hi] at h1; cases h1
  | some i => rw [hi] at h1; exact ⟨i, rfl, Option.some.inj h1⟩
theorem zB_sub {D : va_G} {Bs Cs : List va_W} {H : Heap} (h : va_P D vwCl (zB Bs) H) (is : List Nat) (hs : is.map (fun i => Bs[i]?) = Cs.map some) : va_P D vwCl (zB Cs) H := by
  rw [zB_P]
  intro b hb
  obtain ⟨k, hk⟩ := List.getElem?_of_mem hb
  obtain ⟨i, -, hi⟩ := zB_sel hs k b hk
  exact zB_blk h i hi
theorem zB_Dsub {A : Nat → Prop} {Bs Cs : List va_W} (h : va_D A (zB Bs)) (is : List Nat) (hn : va_nd is = true) (hs : is.map (fun i => Bs[i]?) = Cs.map some) : va_D A (zB Cs) := by
  rw [zB_D]
  refine ⟨fun b hb => ?_, List.pairwise_iff_getElem.mpr (fun i j hi hj hij => ?_)⟩
  · obtain ⟨k, hk⟩ := List.getElem?_of_mem hb
    obtain ⟨i, -, hi⟩ := zB_sel hs k b hk
    exact zB_Dblk h i hi
  · obtain ⟨i1, h1, h2⟩ := zB_sel hs i _ (List.getElem?_eq_getElem hi)
    obtain ⟨j1, h3, h4⟩ := zB_sel hs j _ (List.getElem?_eq_getElem hj)
    refine zB_dis h h2 h4 (fun he => ?_)
    subst he
    have := va_nd_inj is hn i j i1 h1 h3
    omega
theorem zPut_adr : ∀ (ps : List Nat) (es X wd : va_W), ps.map (fun i => X[i]?) = wd.map some → es.map (fun q => q.1) = wd.map (fun q => q.1) → (zPut X ps es).map (fun q => q.1) = X.map (fun q => q.1) := by
  intro ps es X wd hC ha
  apply List.ext_getElem?
  intro k
  have hlen : (zPut X ps es).length = X.length := by
    clear hC ha
    induction ps generalizing es X with
    | nil => simp [zPut]
    | cons p ps ih =>
      cases es with
      | nil => simp [zPut]
      | cons e es => simp only [zPut]; rw [ih]; simp
  rw [List.getElem?_map, List.getElem?_map]
  by_cases hk : k < X.length
  · have h1 : (zPut X ps es)[k]? = some ((zPut X ps es)[k]'(by omega)) := List.getElem?_eq_getElem (by omega)
    have h2 : X[k]? = some (X[k]) := List.getElem?_eq_getElem hk
    have hlen' : es.length = wd.length := by simpa using congrArg List.length ha
    obtain ⟨hl2, hm⟩ := z_map hC
    rcases zPut_at ps es X k _ h1 with ⟨h3, -⟩ | ⟨j, h3, h4⟩
    · rw [h1, h3]
    · obtain ⟨q0, h5, h6⟩ := z_adr ha j _ h4
      obtain ⟨q1, h7, h8⟩ := hm j k h3
      have e1 : q1 = q0 := Option.some.inj (h7.symm.trans h5)
      subst e1
      rw [h1, h8]
      simp [h6]
  · rw [List.getElem?_eq_none (by omega), List.getElem?_eq_none (by omega)]
theorem zB_put {D : va_G} {A : Nat → Prop} {Bs Bs' : List va_W} {b b' wd wd' : va_W} {H H1 : Heap} (hP : va_P D vwCl (zB Bs) H) (hD : va_D A (zB Bs)) (i : Nat) (hi : Bs[i]? = some b) (ps : List Nat) (hC : ps.map (fun i => b[i]?) = wd.map some) (ha : wd'.map (fun q => q.1) = wd.map (fun q => q.1)) (hX : zPut b ps wd' = b') (hBs : Bs.set i b' = Bs')
    (hP1 : va_P D vwCl wd' H1) (hk : ∀ q : Nat, q < H.size → ¬ zA wd q → H1[q]? = H[q]?) : va_P D vwCl (zB Bs') H1 ∧ va_D A (zB Bs') := by
  subst hBs
  obtain ⟨hb1, -⟩ := z_put (zB_blk hP i hi) (zB_Dblk hD i hi) ps hC ha hX hP1 hk
  have hl := (List.getElem?_eq_some_iff.mp hi).1
  refine ⟨zB_P.mpr (fun c hc => ?_), z_adD hD ?_⟩
  · obtain ⟨j, hj⟩ := List.getElem?_of_mem hc
    by_cases hji : j = i
    · subst hji
      rw [List.getElem?_set_self hl] at hj
      cases hj
      exact hb1
    · rw [List.getElem?_set_ne (Ne.symm hji)] at hj
      rw [z_Pm]
      intro q hq
      have hat := z_Pm.mp (zB_blk hP j hj) q hq
      refine hat.kept (hk q.1 hat.lt ?_)
      rintro ⟨k2, e2, h3⟩
      obtain ⟨k3, h4, h5⟩ := z_map2 hC k2 _ h3
      exact zB_dis hD hj hi hji q hq (q.1, e2) (List.mem_of_getElem? h5) rfl
  · have e1 : b'.map (fun q => q.1) = b.map (fun q => q.1) := by rw [← hX]; exact zPut_adr ps wd' b wd hC ha
    show ((Bs.set i b').flatten).map (fun q => q.1) = (Bs.flatten).map (fun q => q.1)
    rw [List.map_flatten, List.map_flatten, List.map_set, e1]
    congr 1
    apply List.ext_getElem?
    intro k
    by_cases hki : k = i
    · subst hki
      rw [List.getElem?_set_self (by simpa using hl), List.getElem?_map, hi]
      rfl
    · rw [List.getElem?_set_ne (Ne.symm hki)]
theorem zB_join {D : va_G} {A : Nat → Prop} {Bs Cs Cs' Rs : List va_W} {H H1 : Heap} (hP : va_P D vwCl (zB Bs) H) (hD : va_D A (zB Bs)) (isC isR : List Nat) (hC : isC.map (fun i => Bs[i]?) = Cs.map some) (hR : isR.map (fun i => Bs[i]?) = Rs.map some) (hn : va_nd (isR ++ isC) = true) (ha : (zB Cs').map (fun q => q.1) = (zB Cs).map (fun q => q.1))
    (hP1 : va_P D vwCl (zB Cs') H1) (hk : ∀ q : Nat, q < H.size → ¬ zA (zB Cs) q → H1[q]? = H[q]?) : va_P D vwCl (zB (Rs ++ Cs')) H1 ∧ va_D A (zB (Rs ++ Cs')) := by
  have hD2 : va_D A (zB (Rs ++ Cs)) := zB_Dsub hD (isR ++ isC) hn (by rw [List.map_append, hC, hR, List.map_append])
  refine ⟨zB_P.mpr (fun b hb => ?_), z_adD hD2 (by rw [zB, List.flatten_append, List.map_append, ha, ← List.map_append, ← List.flatten_append])⟩
  rcases List.mem_append.mp hb with h | h
  · obtain ⟨k, hk1⟩ := List.getElem?_of_mem h
    obtain ⟨i, -, hi⟩ := zB_sel hR k b hk1
    rw [z_Pm]
    intro q hq
    have hat := z_Pm.mp (zB_blk hP i hi) q hq
    refine hat.kept (hk q.1 hat.lt ?_)
    rintro ⟨k2, e2, h3⟩
    have hmem := List.mem_of_getElem? h3
    obtain ⟨c, hc, hqc⟩ := List.mem_flatten.mp hmem
    obtain ⟨j, hj⟩ := List.getElem?_of_mem hc
    have hlt := (List.getElem?_eq_some_iff.mp hk1).1
    exact zB_dis hD2 (i := k) (j := Rs.length + j) (b := b) (c := c) (by rw [List.getElem?_append_left hlt]; exact hk1) (by rw [List.getElem?_append_right (by omega)]; simpa using hj) (by omega) q hq (q.1, e2) hqc rfl
  · exact zB_P.mp hP1 b h
theorem zB_in {A : Nat → Prop} {Bs Cs : List va_W} {isC : List Nat} (hD : va_D A (zB Bs)) (hC : isC.map (fun i => Bs[i]?) = Cs.map some) (q : Nat) (h : zA (zB Cs) q) : A q := by
  obtain ⟨k, e, h1⟩ := h
  obtain ⟨c, hc, hq⟩ := List.mem_flatten.mp (List.mem_of_getElem? h1)
  obtain ⟨j, hj⟩ := List.getElem?_of_mem hc
  obtain ⟨i, -, hi⟩ := zB_sel hC j c hj
  exact (z_Dp.mp (zB_Dblk hD i hi)).2 _ hq
section ZBB
variable {p : Program} {l : Launch} {e : Env} {R : Room} {s : State} {m : MethodId} {args : Array Value} {below : List Frame} {meth : Method} {c : Code} {H : Heap} {locs : List Loc} {cells slots : Nat} {Q : State → Prop} {pc : Nat} {ls : Array Slot} {rest st0 : List Value} {a : Array Value}
theorem z_bw {v : Option Value} {D : va_G} {wd wd' b b' : va_W} {Bs Bs' : List va_W} {A : Nat → Prop} {H0 : Heap} (hr : va_Run p l e R s m args below meth c H locs cells slots 0 0 (F0 m pc ls st0) rest (zQ D wd v wd' a) (zA wd))
    (hP : va_P D vwCl (zB Bs) H) (hD : va_D A (zB Bs)) (hS : va_S A H0 H locs) (i : Nat) (hi : Bs[i]? = some b) (ps : List Nat) (hC : ps.map (fun i => b[i]?) = wd.map some) (ha : wd'.map (fun q => q.1) = wd.map (fun q => q.1)) (hX : zPut b ps wd' = b') (hBs : Bs.set i b' = Bs')
    (kk : ∀ (H1 : Heap) (locs1 : List Loc), va_P D vwCl (zB Bs') H1 → va_D A (zB Bs') → va_S A H0 H1 locs1 → W p l e R s m args below meth c H1 locs1 cells slots Q (F0 m (pc + 3) ls (v.toList ++ rest))) : W p l e R s m args below meth c H locs cells slots Q (F0 m pc ls st0) := by
  intro T hT X0
  obtain ⟨v', st₀, t, T', L, h0, X', hL, e1, e2, ⟨hv, hp, hz, hk⟩, st⟩ := hr T hT X0
  have hv := Outcome.returned.inj hv
  subst hv
  rw [h0] at hz hk
  obtain ⟨hP1, hD1⟩ := zB_put (H1 := T'.heap) hP hD i hi ps hC ha hX hBs (by rw [e1]; exact hp) (fun q h1 h2 => by rw [e1]; exact hk q h1 h2)
  have hin : ∀ q, zA wd q → A q := fun q h => z_inA (zB_Dblk hD i hi) ps hC q h
  obtain ⟨t2, a1, b1⟩ := kk T'.heap (locs ++ L) hP1 hD1
    ⟨Nat.le_trans hS.1 (by rw [e1]; exact hz), fun q h1 h2 => by rw [e1, hk q (Nat.lt_of_lt_of_le h1 hS.1) (fun z => h2 (hin q z))]; exact hS.2.1 q h1 h2, fun q hq => by
      rcases List.mem_append.mp hq with h | h
      · exact hS.2.2 q h
      · exact hin _ (hL q h)⟩ T' rfl X'
  exact ⟨t2, st t2 a1, b1⟩
theorem z_bwv {D : va_G} {wd wd' b b' : va_W} {Bs Bs' : List va_W} {A : Nat → Prop} {H0 : Heap} (hr : va_Run p l e R s m args below meth c H locs cells slots 0 0 (F0 m pc ls st0) rest (zQ D wd none wd' a) (zA wd))
    (hP : va_P D vwCl (zB Bs) H) (hD : va_D A (zB Bs)) (hS : va_S A H0 H locs) (i : Nat) (hi : Bs[i]? = some b) (ps : List Nat) (hC : ps.map (fun i => b[i]?) = wd.map some) (ha : wd'.map (fun q => q.1) = wd.map (fun q => q.1)) (hX : zPut b ps wd' = b') (hBs : Bs.set i b' = Bs')
    (kk : ∀ (H1 : Heap) (locs1 : List Loc), va_P D vwCl (zB Bs') H1 → va_D A (zB Bs') → va_S A H0 H1 locs1 → W p l e R s m args below meth c H1 locs1 cells slots Q (F0 m (pc + 3) ls rest)) : W p l e R s m args below meth c H locs cells slots Q (F0 m pc ls st0) := z_bw hr hP hD hS i hi ps hC ha hX hBs kk
theorem z_bwi {v : Int32} {D : va_G} {wd wd' b b' : va_W} {Bs Bs' : List va_W} {A : Nat → Prop} {H0 : Heap} (hr : va_Run p l e R s m args below meth c H locs cells slots 0 0 (F0 m pc ls st0) rest (zQ D wd (some (.int v)) wd' a) (zA wd))
    (hP : va_P D vwCl (zB Bs) H) (hD : va_D A (zB Bs)) (hS : va_S A H0 H locs) (i : Nat) (hi : Bs[i]? = some b) (ps : List Nat) (hC : ps.map (fun i => b[i]?) = wd.map some) (ha : wd'.map (fun q => q.1) = wd.map (fun q => q.1)) (hX : zPut b ps wd' = b') (hBs : Bs.set i b' = Bs')
    (kk : ∀ (H1 : Heap) (locs1 : List Loc), va_P D vwCl (zB Bs') H1 → va_D A (zB Bs') → va_S A H0 H1 locs1 → W p l e R s m args below meth c H1 locs1 cells slots Q (F0 m (pc + 3) ls (.int v :: rest))) : W p l e R s m args below meth c H locs cells slots Q (F0 m pc ls st0) := z_bw hr hP hD hS i hi ps hC ha hX hBs kk
theorem z_bj {v : Option Value} {D : va_G} {Bs Cs Cs' Rs : List va_W} {A : Nat → Prop} {H0 : Heap} (hr : va_Run p l e R s m args below meth c H locs cells slots 0 0 (F0 m pc ls st0) rest (zQ D (zB Cs) v (zB Cs') a) (zA (zB Cs)))
    (hP : va_P D vwCl (zB Bs) H) (hD : va_D A (zB Bs)) (hS : va_S A H0 H locs) (isC isR : List Nat) (hC : isC.map (fun i => Bs[i]?) = Cs.map some) (hR : isR.map (fun i => Bs[i]?) = Rs.map some) (hn : va_nd (isR ++ isC) = true) (ha : (zB Cs').map (fun q => q.1) = (zB Cs).map (fun q => q.1))
    (kk : ∀ (H1 : Heap) (locs1 : List Loc), va_P D vwCl (zB (Rs ++ Cs')) H1 → va_D A (zB (Rs ++ Cs')) → va_S A H0 H1 locs1 → W p l e R s m args below meth c H1 locs1 cells slots Q (F0 m (pc + 3) ls (v.toList ++ rest))) : W p l e R s m args below meth c H locs cells slots Q (F0 m pc ls st0) := by
  intro T hT X0
  obtain ⟨v', st₀, t, T', L, h0, X', hL, e1, e2, ⟨hv, hp, hz, hk⟩, st⟩ := hr T hT X0
  have hv := Outcome.returned.inj hv
  subst hv
  rw [h0] at hz hk
  obtain ⟨hP1, hD1⟩ := zB_join (H1 := T'.heap) hP hD isC isR hC hR hn ha (by rw [e1]; exact hp) (fun q h1 h2 => by rw [e1]; exact hk q h1 h2)
  have hin : ∀ q, zA (zB Cs) q → A q := fun q h => zB_in hD hC q h
  obtain ⟨t2, a1, b1⟩ := kk T'.heap (locs ++ L) hP1 hD1
    ⟨Nat.le_trans hS.1 (by rw [e1]; exact hz), fun q h1 h2 => by rw [e1, hk q (Nat.lt_of_lt_of_le h1 hS.1) (fun z => h2 (hin q z))]; exact hS.2.1 q h1 h2, fun q hq => by
      rcases List.mem_append.mp hq with h | h
      · exact hS.2.2 q h
      · exact hin _ (hL q h)⟩ T' rfl X'
  exact ⟨t2, st t2 a1, b1⟩
theorem z_bjv {D : va_G} {Bs Cs Cs' Rs : List va_W} {A : Nat → Prop} {H0 : Heap} (hr : va_Run p l e R s m args below meth c H locs cells slots 0 0 (F0 m pc ls st0) rest (zQ D (zB Cs) none (zB Cs') a) (zA (zB Cs)))
    (hP : va_P D vwCl (zB Bs) H) (hD : va_D A (zB Bs)) (hS : va_S A H0 H locs) (isC isR : List Nat) (hC : isC.map (fun i => Bs[i]?) = Cs.map some) (hR : isR.map (fun i => Bs[i]?) = Rs.map some) (hn : va_nd (isR ++ isC) = true) (ha : (zB Cs').map (fun q => q.1) = (zB Cs).map (fun q => q.1))
    (kk : ∀ (H1 : Heap) (locs1 : List Loc), va_P D vwCl (zB (Rs ++ Cs')) H1 → va_D A (zB (Rs ++ Cs')) → va_S A H0 H1 locs1 → W p l e R s m args below meth c H1 locs1 cells slots Q (F0 m (pc + 3) ls rest)) : W p l e R s m args below meth c H locs cells slots Q (F0 m pc ls st0) := z_bj hr hP hD hS isC isR hC hR hn ha kk
theorem z_bji {v : Int32} {D : va_G} {Bs Cs Cs' Rs : List va_W} {A : Nat → Prop} {H0 : Heap} (hr : va_Run p l e R s m args below meth c H locs cells slots 0 0 (F0 m pc ls st0) rest (zQ D (zB Cs) (some (.int v)) (zB Cs') a) (zA (zB Cs)))
    (hP : va_P D vwCl (zB Bs) H) (hD : va_D A (zB Bs)) (hS : va_S A H0 H locs) (isC isR : List Nat) (hC : isC.map (fun i => Bs[i]?) = Cs.map some) (hR : isR.map (fun i => Bs[i]?) = Rs.map some) (hn : va_nd (isR ++ isC) = true) (ha : (zB Cs').map (fun q => q.1) = (zB Cs).map (fun q => q.1))
    (kk : ∀ (H1 : Heap) (locs1 : List Loc), va_P D vwCl (zB (Rs ++ Cs')) H1 → va_D A (zB (Rs ++ Cs')) → va_S A H0 H1 locs1 → W p l e R s m args below meth c H1 locs1 cells slots Q (F0 m (pc + 3) ls (.int v :: rest))) : W p l e R s m args below meth c H locs cells slots Q (F0 m pc ls st0) := z_bj hr hP hD hS isC isR hC hR hn ha kk
end ZBB
theorem z_cons {b b' : va_W} {Bs Bs' : List va_W} (h : b = b') (h2 : Bs = Bs') : b :: Bs = b' :: Bs' := by rw [h, h2]
