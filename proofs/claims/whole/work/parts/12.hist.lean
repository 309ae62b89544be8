/-! the history's head: how many states it keeps, where they lie; the grid; copies of whole rows -/
abbrev HZ : Type := Int32 × (Nat → Option Nat)
abbrev hN (Z : HZ) : Int32 := Z.1
abbrev hQ (Z : HZ) : Nat → Option Nat := Z.2
abbrev uN (Z : HZ) (v : Int32) : HZ := (v, Z.2)
abbrev uQ (Z : HZ) (v : Nat → Option Nat) : HZ := (Z.1, v)
abbrev zHea (cQ : ClassId) (h : Nat → Nat) (Z : HZ) : va_W := [(h 0, .inr (1, [.int (hN Z), .ref (h 1)])), (h 1, .inl (cQ, 5, .inr (.inr (.inr (.inr (hQ Z))))))]
abbrev zGri (g q h : Nat → Nat) : va_W := [(g 0, .inr (5, [.ref (q 0), .ref (h 0)]))]
theorem z_congr {cA : ClassId} {n : Nat} {f g : FI} (h : ∀ k, k < n → f k = g k) : vp_cell cA (n, .inl f) = vp_cell cA (n, .inl g) := by
  rw [vp_cell_i, vp_cell_i]
  unfold arrV
  congr 1
  apply Array.ext
  · simp
  · intro i h1 h2
    simp only [Array.getElem_ofFn]
    rw [h i (by simpa using h1)]
theorem z_setE {D : va_G} {ws : va_W} {q1 a : Nat} {cA : ClassId} {n : Nat} {f g : FI} {H : Heap} (h : ∀ k, k < n → f k = g k) (hP : va_P D vwCl (ws.set q1 (a, .inl (cA, n, .inl f))) H) : va_P D vwCl (ws.set q1 (a, .inl (cA, n, .inl g))) H := by
  intro k q hk
  by_cases hkp : k = q1
  · subst hkp
    by_cases hl : k < ws.length
    · rw [List.getElem?_set_self hl] at hk
      cases hk
      have h1 := hP k _ (by rw [List.getElem?_set_self hl])
      show H[a]? = some (vp_cell cA (n, .inl g))
      rw [← z_congr h]
      exact h1
    · rw [List.getElem?_eq_none (by simpa using Nat.not_lt.mp hl)] at hk
      cases hk
  · rw [List.getElem?_set_ne (Ne.symm hkp)] at hk
    exact hP k q (by rw [List.getElem?_set_ne (Ne.symm hkp)]; exact hk)
theorem z_fitI (x : Int32) : fits .int (.int x) = true := by rfl
section ZC
variable {p : Program} {l : Launch} {e : Env} {R : Room} {s : State} {m : MethodId} {args : Array Value} {below : List Frame} {meth : Method} {c : Code} {H : Heap} {locs : List Loc} {cells slots : Nat} {Q : State → Prop} {pc : Nat} {ls : Array Slot} {rest : List Value} {D : va_G} {A : Nat → Prop} {a : Nat} {tys : List (ClassId × FieldType)} {ws : va_W} {H0 : Heap}
theorem z_cpy {cc : ByteArray} (hexec : p.tables.exec = Jvm.exec) (hb : c.code = cc) (hml : c.maxLocals = ls.size) {own : String} {index : Nat} (hown : s.vm.findClass own = some m.cls) (hlink : (Cond.methodLink own index arraycopyName).before args s = true) (hnat : (Cond.native arraycopyName).before args s = true) (hstat : (Cond.static arraycopyName).before args s = true) (hini : (Cond.initialized "java/lang/System").before args s = true)
    (hK : va_K D vwCl tys s) (hP : va_P D vwCl ws H) (hD : va_D A ws) (hS : va_S A H0 H locs) (q0 q1 t0 : Nat) {a0 n : Nat} {c0 : ClassId} {f g : FI} (ha0 : ws[q0]? = some (a0, .inl (c0, n, .inl f))) (ha1 : ws[q1]? = some (a, .inl (c0, n, .inl g))) (ht0 : tys[t0]? = some (c0, .int))
    {N : Int32} (hN : ¬ N < 0) (hNn : N.toNatClampNeg = n) (h0 : ((0 : Int32).toNatClampNeg = 0)) (hframes : 1 ≤ R.frames) (hlocals : (rest.map fun v => v.category).sum + (nativeFrameWords "java/lang/System" "arraycopy" 5 + 11) ≤ R.locals) (hdg : decode cc pc = .ok (.invokestatic index, 3))
    (kk : ∀ (H1 : Heap) (locs1 : List Loc), va_P D vwCl (ws.set q1 (a, .inl (c0, n, .inl f))) H1 → va_D A (ws.set q1 (a, .inl (c0, n, .inl f))) → va_S A H0 H1 locs1 → W p l e R s m args below meth c H1 locs1 cells slots Q (F0 m (pc + 3) ls rest)) : W p l e R s m args below meth c H locs cells slots Q (F0 m pc ls (.int N :: .int 0 :: .ref a :: .int 0 :: .ref a0 :: rest)) := by
  subst hNn
  refine va_copyi hexec hb hml hown hlink hnat hstat hini hK hP hD hS q0 q1 t0 t0 ha0 ha1 ht0 ht0 rfl (by decide) (by decide) hN (by rw [h0]; omega) (by rw [h0]; omega) (fun i _ => z_fitI _) hframes hlocals hdg (fun H1 locs1 hP1 hD1 hS1 => ?_)
  refine kk H1 locs1 (z_setE (fun k hk => ?_) hP1) (hD.set ha1) hS1
  rw [h0, pk_cpy_in (Nat.zero_le k) (by omega)]
  simp
theorem z_aldq {cc : ByteArray} (hexec : p.tables.exec = Jvm.exec) (hb : c.code = cc) (hK : va_K D vwCl tys s) (hP : va_P D vwCl ws H) (q0 t0 : Nat) {cA : ClassId} {C : String} {n : Nat} {f : Nat → Option Nat} (ha : ws[q0]? = some (a, .inl (cA, n, .inr (.inr (.inr (.inr f)))))) (ht : tys[t0]? = some (cA, .object C)) {i : Int32} (hin : vp_in i n) {v : Nat} (hv : f i.toNatClampNeg = some v) (hdg : decode cc pc = .ok (.aaload, 1))
    (kk : W p l e R s m args below meth c H locs cells slots Q (F0 m (pc + 1) ls (.ref v :: rest))) : W p l e R s m args below meth c H locs cells slots Q (F0 m pc ls (.int i :: .ref a :: rest)) := by
  refine va_aldq hexec hb hK hP q0 t0 ha ht hin hdg ?_
  rw [hv]
  exact kk
end ZC
def z_minH (n : Int32) : Int32 := if 5 < n + 1 then 5 else n + 1
def z_maxH (n : Int32) : Int32 := if n - 1 < 0 then 0 else n - 1
def z_qK (f : Nat → Option Nat) (a0 a1 a2 a3 a4 : Nat) : Nat → Option Nat := va_up (va_up (va_up (va_up (va_up f 4 (some a3)) 3 (some a2)) 2 (some a1)) 1 (some a0)) 0 (some a4)
def z_qR (f : Nat → Option Nat) (a0 a1 a2 a3 a4 : Nat) : Nat → Option Nat := va_up (va_up (va_up (va_up (va_up f 0 (some a1)) 1 (some a2)) 2 (some a3)) 3 (some a4)) 4 (some a0)
theorem z_inC {i : Int32} {n : Nat} (h0 : 0 ≤ i.toInt) (h1 : i.toInt < n) : vp_in i n := vp_in_iff.mpr ⟨h0, h1⟩
abbrev zSto (_ : ClassId) (q : Nat → Nat) (S : CS) : va_W := [(q 0, .inr (4, [.int (sCr S), .int (sTi S), .ref (q 1), .ref (q 6), .ref (q 10)]))]
theorem z_adD {A : Nat → Prop} {X X' : va_W} (h : va_D A X) (ha : X'.map (fun q => q.1) = X.map (fun q => q.1)) : va_D A X' := by
  refine ⟨fun i j x y hi hj hxy => ?_, fun k q hk => ?_⟩
  · obtain ⟨x0, h1, h2⟩ := z_adr ha i x hi
    obtain ⟨y0, h3, h4⟩ := z_adr ha j y hj
    exact h.1 i j x0 y0 h1 h3 (h2.trans (hxy.trans h4.symm))
  · obtain ⟨x0, h1, h2⟩ := z_adr ha k q hk
    rw [← h2]
    exact h.2 k x0 h1
theorem z_join {D : va_G} {A : Nat → Prop} {X wr wd wd' : va_W} {H H1 : Heap} (hP : va_P D vwCl X H) (hD : va_D A X) (isC isR : List Nat) (hC : isC.map (fun i => X[i]?) = wd.map some) (hR : isR.map (fun i => X[i]?) = wr.map some) (hn : va_nd (isR ++ isC) = true) (ha : wd'.map (fun q => q.1) = wd.map (fun q => q.1))
    (hP1 : va_P D vwCl wd' H1) (hk : ∀ q : Nat, q < H.size → ¬ zA wd q → H1[q]? = H[q]?) : va_P D vwCl (wr ++ wd') H1 ∧ va_D A (wr ++ wd') := by
  have hD2 : va_D A (wr ++ wd) := hD.sub (isR ++ isC) hn (by rw [List.map_append, hC, hR, List.map_append])
  refine ⟨va_P.app (fun k q hq => ?_) hP1, z_adD hD2 (by rw [List.map_append, List.map_append, ha])⟩
  obtain ⟨i, h1, h2⟩ := z_map2 hR k q hq
  have hat := hP i q h2
  refine hat.kept (hk q.1 hat.lt ?_)
  rintro ⟨k2, e2, h3⟩
  have h4 := (List.getElem?_eq_some_iff.mp hq).1
  have h5 := hD2.1 k (wr.length + k2) q (q.1, e2) (by rw [List.getElem?_append_left h4]; exact hq) (by rw [List.getElem?_append_right (by omega)]; simpa using h3) rfl
  omega
section ZJ
variable {p : Program} {l : Launch} {e : Env} {R : Room} {s : State} {m : MethodId} {args : Array Value} {below : List Frame} {meth : Method} {c : Code} {H : Heap} {locs : List Loc} {cells slots : Nat} {Q : State → Prop} {pc : Nat} {ls : Array Slot} {rest st0 : List Value} {a : Array Value}
theorem z_wj {v : Option Value} {D : va_G} {wd wd' X wr : va_W} {A : Nat → Prop} {H0 : Heap} (hr : va_Run p l e R s m args below meth c H locs cells slots 0 0 (F0 m pc ls st0) rest (zQ D wd v wd' a) (zA wd))
    (hP : va_P D vwCl X H) (hD : va_D A X) (hS : va_S A H0 H locs) (isC isR : List Nat) (hC : isC.map (fun i => X[i]?) = wd.map some) (hR : isR.map (fun i => X[i]?) = wr.map some) (hn : va_nd (isR ++ isC) = true) (ha : wd'.map (fun q => q.1) = wd.map (fun q => q.1))
    (kk : ∀ (H1 : Heap) (locs1 : List Loc), va_P D vwCl (wr ++ wd') H1 → va_D A (wr ++ wd') → va_S A H0 H1 locs1 → W p l e R s m args below meth c H1 locs1 cells slots Q (F0 m (pc + 3) ls (v.toList ++ rest))) : W p l e R s m args below meth c H locs cells slots Q (F0 m pc ls st0) := by
  intro T hT X0
  obtain ⟨v', st₀, t, T', L, h0, X', hL, e1, e2, ⟨hv, hp, hz, hk⟩, st⟩ := hr T hT X0
  have hv := Outcome.returned.inj hv
  subst hv
  rw [h0] at hz hk
  obtain ⟨hP1, hD1⟩ := z_join (H1 := T'.heap) hP hD isC isR hC hR hn ha (by rw [e1]; exact hp) (fun q h1 h2 => by rw [e1]; exact hk q h1 h2)
  obtain ⟨t2, a1, b1⟩ := kk T'.heap (locs ++ L) hP1 hD1
    ⟨Nat.le_trans hS.1 (by rw [e1]; exact hz), fun q h1 h2 => by rw [e1, hk q (Nat.lt_of_lt_of_le h1 hS.1) (fun z => h2 (z_inA hD isC hC q z))]; exact hS.2.1 q h1 h2, fun q hq => by
      rcases List.mem_append.mp hq with h | h
      · exact hS.2.2 q h
      · exact z_inA hD isC hC _ (hL q h)⟩ T' rfl X'
  exact ⟨t2, st t2 a1, b1⟩
theorem z_wvj {D : va_G} {wd wd' X wr : va_W} {A : Nat → Prop} {H0 : Heap} (hr : va_Run p l e R s m args below meth c H locs cells slots 0 0 (F0 m pc ls st0) rest (zQ D wd none wd' a) (zA wd))
    (hP : va_P D vwCl X H) (hD : va_D A X) (hS : va_S A H0 H locs) (isC isR : List Nat) (hC : isC.map (fun i => X[i]?) = wd.map some) (hR : isR.map (fun i => X[i]?) = wr.map some) (hn : va_nd (isR ++ isC) = true) (ha : wd'.map (fun q => q.1) = wd.map (fun q => q.1))
    (kk : ∀ (H1 : Heap) (locs1 : List Loc), va_P D vwCl (wr ++ wd') H1 → va_D A (wr ++ wd') → va_S A H0 H1 locs1 → W p l e R s m args below meth c H1 locs1 cells slots Q (F0 m (pc + 3) ls rest)) : W p l e R s m args below meth c H locs cells slots Q (F0 m pc ls st0) := z_wj hr hP hD hS isC isR hC hR hn ha kk
theorem z_wij {v : Int32} {D : va_G} {wd wd' X wr : va_W} {A : Nat → Prop} {H0 : Heap} (hr : va_Run p l e R s m args below meth c H locs cells slots 0 0 (F0 m pc ls st0) rest (zQ D wd (some (.int v)) wd' a) (zA wd))
    (hP : va_P D vwCl X H) (hD : va_D A X) (hS : va_S A H0 H locs) (isC isR : List Nat) (hC : isC.map (fun i => X[i]?) = wd.map some) (hR : isR.map (fun i => X[i]?) = wr.map some) (hn : va_nd (isR ++ isC) = true) (ha : wd'.map (fun q => q.1) = wd.map (fun q => q.1))
    (kk : ∀ (H1 : Heap) (locs1 : List Loc), va_P D vwCl (wr ++ wd') H1 → va_D A (wr ++ wd') → va_S A H0 H1 locs1 → W p l e R s m args below meth c H1 locs1 cells slots Q (F0 m (pc + 3) ls (.int v :: rest))) : W p l e R s m args below meth c H locs cells slots Q (F0 m pc ls st0) := z_wj hr hP hD hS isC isR hC hR hn ha kk
end ZJ
