/-! my own layer over the kit: worlds with fixed addresses, read-only and writing contracts, calls of them -/
def zA (wd : va_W) : Nat → Prop := fun q => ∃ (k : Nat) (e : va_E), wd[k]? = some (q, e)
def zNW (U : State) : Prop :=
  va_Nw (.methodLinkNest "TitheGrid" 9 yX4_init "TitheGrid") U ∧ va_Nw (.methodLinkNest "TitheGrid$State" 20 yX3_init "TitheGrid") U ∧ va_Nw (.methodLinkNest "TitheGrid$Parishes" 56 yX5_isBetween "TitheGrid") U ∧ va_Nw (.methodLinkNest "TitheGrid$State" 34 yX0_init "TitheGrid") U ∧ va_Nw (.methodLinkNest "TitheGrid$History" 17 yX4_init "TitheGrid") U ∧ va_Nw (.methodLinkNest "TitheGrid$Parishes" 50 yX5_sideOf "TitheGrid") U ∧ va_Nw (.methodLinkNest "TitheGrid$Points" 38 yX5_isBetween "TitheGrid") U ∧ va_Nw (.methodLinkNest "TitheGrid$State" 115 yX5_sideOf "TitheGrid") U ∧ va_Nw (.methodLinkNest "TitheGrid$State" 122 yX5_quarterLeft "TitheGrid") U ∧ va_Nw (.methodLinkNest "TitheGrid$State" 125 yX5_quarterTop "TitheGrid") U ∧ va_Nw (.methodLinkNest "TitheGrid$Points" 66 yX5_sideOf "TitheGrid") U ∧
  va_Nw (.fieldLinkNest "TitheGrid" 67 "TitheGrid$State" "crowd" "I" "TitheGrid") U ∧ va_Nw (.fieldLinkNest "TitheGrid" 71 "TitheGrid$State" "tithe" "I" "TitheGrid") U ∧ va_Nw (.fieldLinkNest "TitheGrid" 31 "TitheGrid$State" "points" "LTitheGrid$Points;" "TitheGrid") U ∧ va_Nw (.fieldLinkNest "TitheGrid" 74 "TitheGrid$State" "parishes" "LTitheGrid$Parishes;" "TitheGrid") U ∧ va_Nw (.fieldLinkNest "TitheGrid" 105 "TitheGrid$State" "debts" "LTitheGrid$Debts;" "TitheGrid") U
theorem zNW.warm {s U : State} (hW : s.WarmedH U.vm) (h : zNW s) : zNW U := by
  obtain ⟨h1, h2, h3, h4, h5, h6, h7, h8, h9, h10, h11, h12, h13, h14, h15, h16⟩ := h
  exact ⟨h1.warmM hW, h2.warmM hW, h3.warmM hW, h4.warmM hW, h5.warmM hW, h6.warmM hW, h7.warmM hW, h8.warmM hW, h9.warmM hW, h10.warmM hW, h11.warmM hW, h12.warmF hW, h13.warmF hW, h14.warmF hW, h15.warmF hW, h16.warmF hW⟩
theorem zNW.same {s U : State} (hW : s.vm = U.vm) (h : zNW s) : zNW U := by
  obtain ⟨h1, h2, h3, h4, h5, h6, h7, h8, h9, h10, h11, h12, h13, h14, h15, h16⟩ := h
  exact ⟨h1.same rfl hW, h2.same rfl hW, h3.same rfl hW, h4.same rfl hW, h5.same rfl hW, h6.same rfl hW, h7.same rfl hW, h8.same rfl hW, h9.same rfl hW, h10.same rfl hW, h11.same rfl hW, h12.same rfl hW, h13.same rfl hW, h14.same rfl hW, h15.same rfl hW, h16.same rfl hW⟩
def zK (D : va_G) (cI cQ : ClassId) (U : State) : Prop := va_K D vwCl [(cI, .int), (cQ, .object RX4)] U ∧ zNW U
theorem zK.warm {D : va_G} {cI cQ : ClassId} {s U : State} (hW : s.WarmedH U.vm) (h : zK D cI cQ s) : zK D cI cQ U := ⟨va_K.moved hW.alike h.1, h.2.warm hW⟩
theorem zK.same {D : va_G} {cI cQ : ClassId} {s U : State} (hW : s.vm = U.vm) (h : zK D cI cQ s) : zK D cI cQ U := ⟨va_K.moved (by rw [hW]; exact Vm.Alike.refl _) h.1, h.2.same hW⟩
/-- a start: the world, the tables -/
abbrev zP (av : List Value) (D : va_G) (cI cQ : ClassId) (wd : va_W) : Array Value → State → Prop := va_Pc av (fun U => va_P D vwCl wd U.heap ∧ zK D cI cQ U)
abbrev zPW (av : List Value) (D : va_G) (cI cQ : ClassId) (wd : va_W) : Array Value → State → Prop := va_Pc av (fun U => va_P D vwCl wd U.heap ∧ zK D cI cQ U ∧ va_D (fun _ => True) wd)
def zQ (D : va_G) (wd : va_W) (v : Option Value) (wd' : va_W) : Array Value → State → Outcome → State → Prop := fun _ st o t => o = .returned v ∧ va_P D vwCl wd' t.heap ∧ va_F (zA wd) st t
/-- a method that writes nothing: its answer -/
abbrev zRO (l : Launch) (y : MethodName) (ws : List Cond) (fr lo : Nat) (av : List Value) (D : va_G) (cI cQ : ClassId) (wd : va_W) (v : Int32) : Prop :=
  Met l y ws ({ frames := fr, cells := 0, slots := 0, locals := lo }) (zP av D cI cQ wd) (vp_Si (fun r => r = v)) 0 0 (fun _ => False)
/-- a method that writes in its world: its answer, the world behind it -/
abbrev zWR (l : Launch) (y : MethodName) (ws : List Cond) (fr lo : Nat) (av : List Value) (D : va_G) (cI cQ : ClassId) (wd : va_W) (v : Option Value) (wd' : va_W) : Prop :=
  Met l y ws ({ frames := fr, cells := 0, slots := 0, locals := lo }) (zPW av D cI cQ wd) (zQ D wd v wd') 0 0 (zA wd)
theorem zP_blind {av : List Value} {D : va_G} {cI cQ : ClassId} {wd : va_W} : FrameBlind (zP av D cI cQ wd) := fun a U g mk q => ⟨q.1, q.2.1, zK.same (s := U) (U := U.calling g mk a) rfl q.2.2⟩
theorem zPW_blind {av : List Value} {D : va_G} {cI cQ : ClassId} {wd : va_W} : FrameBlind (zPW av D cI cQ wd) := fun a U g mk q => ⟨q.1, q.2.1, zK.same (s := U) (U := U.calling g mk a) rfl q.2.2.1, q.2.2.2⟩
theorem z_pv {s : State} {H : Heap} {D : va_G} {cI cQ : ClassId} {wd : va_W} {b ci : Nat} {fs : List Value} {As : List Value} {q : vw_C} (hK : zK D cI cQ s) (hP : va_P D vwCl wd H) (he : wd[0]? = some (b, .inr (ci, fs))) (hc : vwCl[ci]? = some q) : PreV s H q.1 b (zP (.ref b :: As) D cI cQ wd) As :=
  ⟨zP_blind, va_recv hK.1 hP hc he, fun U hU hW => ⟨rfl, by rw [hU]; exact hP, hK.warm hW⟩⟩
theorem z_pvw {s : State} {H : Heap} {D : va_G} {cI cQ : ClassId} {wd : va_W} {b ci : Nat} {fs : List Value} {As : List Value} {q : vw_C} {A : Nat → Prop} (hK : zK D cI cQ s) (hP : va_P D vwCl wd H) (hD : va_D A wd) (he : wd[0]? = some (b, .inr (ci, fs))) (hc : vwCl[ci]? = some q) : PreV s H q.1 b (zPW (.ref b :: As) D cI cQ wd) As :=
  ⟨zPW_blind, va_recv hK.1 hP hc he, fun U hU hW => ⟨rfl, by rw [hU]; exact hP, hK.warm hW, hD.weaken (fun _ _ _ _ => trivial)⟩⟩
theorem z_ps {s : State} {H : Heap} {D : va_G} {cI cQ : ClassId} {wd : va_W} {As : List Value} (hK : zK D cI cQ s) (hP : va_P D vwCl wd H) : PreS s H (zP As D cI cQ wd) As :=
  ⟨zP_blind, fun U hU hW => ⟨rfl, by rw [hU]; exact hP, hK.warm hW⟩⟩
theorem z_nil {D : va_G} {H : Heap} : va_P D vwCl [] H := fun k q h => by simp at h
/-- the cells at the places ps, put anew -/
def zPut : va_W → List Nat → va_W → va_W
  | X, p :: ps, e :: es => zPut (X.set p e) ps es
  | X, _, _ => X
theorem zPut_at : ∀ (ps : List Nat) (es X : va_W) (k : Nat) (q : Nat × va_E), (zPut X ps es)[k]? = some q → (X[k]? = some q ∧ (k ∉ ps.take es.length)) ∨ ∃ j : Nat, ps[j]? = some k ∧ es[j]? = some q
  | [], es, X, k, q, h => by
    left; exact ⟨by simpa [zPut] using h, by simp⟩
  | p :: ps, [], X, k, q, h => by
    left; exact ⟨by simpa [zPut] using h, by simp⟩
  | p :: ps, e :: es, X, k, q, h => by
    have h := zPut_at ps es (X.set p e) k q (by simpa [zPut] using h)
    rcases h with ⟨h1, h2⟩ | ⟨j, h1, h2⟩
    · by_cases hk : k = p
      · subst hk
        right
        refine ⟨0, by simp, ?_⟩
        have hl : k < X.length := by
          have := (List.getElem?_eq_some_iff.mp h1).1
          simpa using this
        rw [List.getElem?_set_self hl] at h1
        simpa using h1
      · left
        rw [List.getElem?_set_ne (Ne.symm hk)] at h1
        refine ⟨h1, ?_⟩
        simp only [List.length_cons, List.take_succ_cons, List.mem_cons, not_or]
        exact ⟨hk, h2⟩
    · right
      exact ⟨j + 1, by simpa using h1, by simpa using h2⟩
theorem z_map {ps : List Nat} {X wd : va_W} (hC : ps.map (fun i => X[i]?) = wd.map some) : ps.length = wd.length ∧ ∀ (j k : Nat), ps[j]? = some k → ∃ q, wd[j]? = some q ∧ X[k]? = some q := by
  refine ⟨by simpa using congrArg List.length hC, fun j k h => ?_⟩
  have h1 : (ps.map (fun i => X[i]?))[j]? = some (X[k]?) := by rw [List.getElem?_map, h]; rfl
  rw [hC, List.getElem?_map] at h1
  cases hj : wd[j]? with
  | none => rw [hj] at h1; cases h1
  | some q => rw [hj] at h1; exact ⟨q, rfl, (Option.some.inj h1).symm⟩
theorem z_map2 {ps : List Nat} {X wd : va_W} (hC : ps.map (fun i => X[i]?) = wd.map some) (j : Nat) (q : Nat × va_E) (h : wd[j]? = some q) : ∃ k, ps[j]? = some k ∧ X[k]? = some q := by
  have h1 : (ps.map (fun i => X[i]?))[j]? = some (some q) := by rw [hC, List.getElem?_map, h]; rfl
  rw [List.getElem?_map] at h1
  cases hi : ps[j]? with
  | none => rw [hi] at h1; cases h1
  | some i => rw [hi] at h1; exact ⟨i, rfl, Option.some.inj h1⟩
theorem z_adr {wd wd' : va_W} (h : wd'.map (fun q => q.1) = wd.map (fun q => q.1)) (j : Nat) (q : Nat × va_E) (hj : wd'[j]? = some q) : ∃ q0, wd[j]? = some q0 ∧ q0.1 = q.1 := by
  have h1 : (wd'.map (fun q => q.1))[j]? = some q.1 := by rw [List.getElem?_map, hj]; rfl
  rw [h, List.getElem?_map] at h1
  cases hi : wd[j]? with
  | none => rw [hi] at h1; cases h1
  | some i => rw [hi] at h1; exact ⟨i, rfl, Option.some.inj h1⟩
theorem z_put {D : va_G} {A : Nat → Prop} {X X' wd wd' : va_W} {H H1 : Heap} (hP : va_P D vwCl X H) (hD : va_D A X) (ps : List Nat) (hC : ps.map (fun i => X[i]?) = wd.map some) (ha : wd'.map (fun q => q.1) = wd.map (fun q => q.1)) (hX : zPut X ps wd' = X')
    (hP1 : va_P D vwCl wd' H1) (hk : ∀ q : Nat, q < H.size → ¬ zA wd q → H1[q]? = H[q]?) : va_P D vwCl X' H1 ∧ va_D A X' := by
  subst hX
  obtain ⟨hlen, hm⟩ := z_map hC
  have hlen' : wd'.length = wd.length := by simpa using congrArg List.length ha
  have key : ∀ (k : Nat) (q : Nat × va_E), (zPut X ps wd')[k]? = some q → (X[k]? = some q ∧ k ∉ ps) ∨ ∃ j : Nat, ps[j]? = some k ∧ wd'[j]? = some q := by
    intro k q h
    rcases zPut_at ps wd' X k q h with ⟨h1, h2⟩ | h2
    · left
      refine ⟨h1, ?_⟩
      rw [hlen', ← hlen, List.take_length] at h2
      exact h2
    · exact Or.inr h2
  refine ⟨fun k q h => ?_, ?_⟩
  · rcases key k q h with ⟨h1, h2⟩ | ⟨j, h1, h2⟩
    · have hat := hP k q h1
      refine hat.kept (hk q.1 hat.lt ?_)
      rintro ⟨k2, e2, h3⟩
      obtain ⟨k3, h4, h5⟩ := z_map2 hC k2 _ h3
      have h6 := hD.1 k k3 q (q.1, e2) h1 h5 rfl
      subst h6
      exact h2 (List.mem_of_getElem? h4)
    · exact hP1 j q h2
  · have old : ∀ (k : Nat) (q : Nat × va_E), (zPut X ps wd')[k]? = some q → ∃ q0, X[k]? = some q0 ∧ q0.1 = q.1 := by
      intro k q h
      rcases key k q h with ⟨h1, h2⟩ | ⟨j, h1, h2⟩
      · exact ⟨q, h1, rfl⟩
      · obtain ⟨q0, h3, h4⟩ := z_adr ha j q h2
        obtain ⟨q1, h5, h6⟩ := hm j k h1
        have : q1 = q0 := Option.some.inj (h5.symm.trans h3)
        subst this
        exact ⟨q1, h6, h4⟩
    refine ⟨fun i j x y hi hj hxy => ?_, fun k q h => ?_⟩
    · obtain ⟨x0, h1, h2⟩ := old i x hi
      obtain ⟨y0, h3, h4⟩ := old j y hj
      exact hD.1 i j x0 y0 h1 h3 (h2.trans (hxy.trans h4.symm))
    · obtain ⟨x0, h1, h2⟩ := old k q h
      rw [← h2]
      exact hD.2 k x0 h1
theorem z_inA {A : Nat → Prop} {X wd : va_W} (hD : va_D A X) (ps : List Nat) (hC : ps.map (fun i => X[i]?) = wd.map some) (q : Nat) (h : zA wd q) : A q := by
  obtain ⟨k, e, h1⟩ := h
  obtain ⟨k3, h4, h5⟩ := z_map2 hC k _ h1
  exact hD.2 k3 _ h5
theorem z_selfD {A : Nat → Prop} {wd : va_W} (h : va_D A wd) : va_D (zA wd) wd := ⟨h.1, fun k q hk => ⟨k, q.2, hk⟩⟩
section ZK
variable {p : Program} {l : Launch} {e : Env} {R : Room} {s : State} {m : MethodId} {args : Array Value} {below : List Frame} {meth : Method} {c : Code} {H : Heap} {locs : List Loc} {cells slots : Nat} {Q : State → Prop} {pc : Nat} {ls : Array Slot} {rest st0 : List Value} {a : Array Value}
/-- a call that writes nothing -/
theorem z_ro {v : Int32} (hr : va_Run p l e R s m args below meth c H locs cells slots 0 0 (F0 m pc ls st0) rest (vp_Si (fun r => r = v) a) (fun _ => False))
    (kk : W p l e R s m args below meth c H locs cells slots Q (F0 m (pc + 3) ls (.int v :: rest))) : W p l e R s m args below meth c H locs cells slots Q (F0 m pc ls st0) := by
  intro T hT X
  obtain ⟨v', st₀, t, T', L, h0, X', hL, e1, e2, ⟨r, hv, hp, hh⟩, st⟩ := hr T hT X
  cases hv
  subst hp
  obtain ⟨t2, a1, b1⟩ := kk T' (by rw [e1, hh, h0]) (Stand.forget X' (fun q h => (hL q h).elim))
  exact ⟨t2, st t2 a1, b1⟩
theorem z_w {v : Option Value} {D : va_G} {wd wd' X X' : va_W} {A : Nat → Prop} {H0 : Heap} (hr : va_Run p l e R s m args below meth c H locs cells slots 0 0 (F0 m pc ls st0) rest (zQ D wd v wd' a) (zA wd))
    (hP : va_P D vwCl X H) (hD : va_D A X) (hS : va_S A H0 H locs) (ps : List Nat) (hC : ps.map (fun i => X[i]?) = wd.map some) (ha : wd'.map (fun q => q.1) = wd.map (fun q => q.1)) (hX : zPut X ps wd' = X')
    (kk : ∀ (H1 : Heap) (locs1 : List Loc), va_P D vwCl X' H1 → va_D A X' → va_S A H0 H1 locs1 → W p l e R s m args below meth c H1 locs1 cells slots Q (F0 m (pc + 3) ls (v.toList ++ rest))) : W p l e R s m args below meth c H locs cells slots Q (F0 m pc ls st0) := by
  intro T hT X0
  obtain ⟨v', st₀, t, T', L, h0, X', hL, e1, e2, ⟨hv, hp, hz, hk⟩, st⟩ := hr T hT X0
  have hv := Outcome.returned.inj hv
  subst hv
  rw [h0] at hz hk
  obtain ⟨hP1, hD1⟩ := z_put (H1 := T'.heap) hP hD ps hC ha hX (by rw [e1]; exact hp) (fun q h1 h2 => by rw [e1]; exact hk q h1 h2)
  obtain ⟨t2, a1, b1⟩ := kk T'.heap (locs ++ L) hP1 hD1
    ⟨Nat.le_trans hS.1 (by rw [e1]; exact hz), fun q h1 h2 => by rw [e1, hk q (Nat.lt_of_lt_of_le h1 hS.1) (fun z => h2 (z_inA hD ps hC q z))]; exact hS.2.1 q h1 h2, fun q hq => by
      rcases List.mem_append.mp hq with h | h
      · exact hS.2.2 q h
      · exact z_inA hD ps hC _ (hL q h)⟩ T' rfl X'
  exact ⟨t2, st t2 a1, b1⟩
theorem z_wv {D : va_G} {wd wd' X X' : va_W} {A : Nat → Prop} {H0 : Heap} (hr : va_Run p l e R s m args below meth c H locs cells slots 0 0 (F0 m pc ls st0) rest (zQ D wd none wd' a) (zA wd))
    (hP : va_P D vwCl X H) (hD : va_D A X) (hS : va_S A H0 H locs) (ps : List Nat) (hC : ps.map (fun i => X[i]?) = wd.map some) (ha : wd'.map (fun q => q.1) = wd.map (fun q => q.1)) (hX : zPut X ps wd' = X')
    (kk : ∀ (H1 : Heap) (locs1 : List Loc), va_P D vwCl X' H1 → va_D A X' → va_S A H0 H1 locs1 → W p l e R s m args below meth c H1 locs1 cells slots Q (F0 m (pc + 3) ls rest)) : W p l e R s m args below meth c H locs cells slots Q (F0 m pc ls st0) := z_w hr hP hD hS ps hC ha hX kk
theorem z_wi {v : Int32} {D : va_G} {wd wd' X X' : va_W} {A : Nat → Prop} {H0 : Heap} (hr : va_Run p l e R s m args below meth c H locs cells slots 0 0 (F0 m pc ls st0) rest (zQ D wd (some (.int v)) wd' a) (zA wd))
    (hP : va_P D vwCl X H) (hD : va_D A X) (hS : va_S A H0 H locs) (ps : List Nat) (hC : ps.map (fun i => X[i]?) = wd.map some) (ha : wd'.map (fun q => q.1) = wd.map (fun q => q.1)) (hX : zPut X ps wd' = X')
    (kk : ∀ (H1 : Heap) (locs1 : List Loc), va_P D vwCl X' H1 → va_D A X' → va_S A H0 H1 locs1 → W p l e R s m args below meth c H1 locs1 cells slots Q (F0 m (pc + 3) ls (.int v :: rest))) : W p l e R s m args below meth c H locs cells slots Q (F0 m pc ls st0) := z_w hr hP hD hS ps hC ha hX kk
/-- ends -/
theorem z_iret {cc : ByteArray} {v w : Int32} {ty : FieldType} {free : Addr → Prop} (hx : p.tables.exec = Jvm.exec) (hb : c.code = cc) (hr : meth.sig.returnType = some ty) (hn : narrow ty (.int v) = .int v) (hlocks : meth.locks = false) (he : v = w) {pc : Nat} {ls : Array Slot} (hdg : decode cc pc = .ok (.ireturn, 1)) :
    W p l e R s m args below meth c s.heap [] cells slots (MQ below (vp_Si (fun r => r = w)) args s cells slots free) (F0 m pc ls [.int v]) :=
  W.zret hx hb hr hn (fun t ht _ => ⟨v, rfl, he, ht⟩) (fun q h => by cases h) hdg hlocks
theorem z_wvret {cc : ByteArray} {D : va_G} {wd wd1 wd' : va_W} (hx : p.tables.exec = Jvm.exec) (hb : c.code = cc) (hr : meth.sig.returnType = none) (hlocks : meth.locks = false) (hP : va_P D vwCl wd1 H) (hS : va_S (zA wd) s.heap H locs) (he : wd1 = wd') {pc : Nat} {ls : Array Slot} (hdg : decode cc pc = .ok (.return_, 1)) :
    W p l e R s m args below meth c H locs cells slots (MQ below (zQ D wd none wd') args s cells slots (zA wd)) (F0 m pc ls []) :=
  W.vret hx hb hr (fun t ht _ => ⟨rfl, by rw [ht, ← he]; exact hP, hS.F ht⟩) hS.2.2 hdg hlocks
theorem z_wiret {cc : ByteArray} {D : va_G} {wd wd1 wd' : va_W} {v w : Int32} {ty : FieldType} (hx : p.tables.exec = Jvm.exec) (hb : c.code = cc) (hr : meth.sig.returnType = some ty) (hn : narrow ty (.int v) = .int v) (hlocks : meth.locks = false) (hP : va_P D vwCl wd1 H) (hS : va_S (zA wd) s.heap H locs) (hv : v = w) (he : wd1 = wd') {pc : Nat} {ls : Array Slot} (hdg : decode cc pc = .ok (.ireturn, 1)) :
    W p l e R s m args below meth c H locs cells slots (MQ below (zQ D wd (some (.int w)) wd') args s cells slots (zA wd)) (F0 m pc ls [.int v]) :=
  W.zret hx hb hr hn (fun t ht _ => ⟨by rw [hv], by rw [ht, ← he]; exact hP, hS.F ht⟩) hS.2.2 hdg hlocks
end ZK
/-- how a method's contract begins -/
theorem zRO.of {l : Launch} {y : MethodName} {ws ws' : List Cond} {fr lo : Nat} {av : List Value} {D : va_G} {cI cQ : ClassId} {wd : va_W} {v : Int32} {cc : ByteArray} {maxL : Nat} {ret : Option FieldType}
    (hy : plainName y.cls = true) (hw : ws = Cond.code y cc maxL ret :: ws') (hlen : (lg_sl av).length ≤ maxL)
    (body : ∀ (p : Program) (e : Env) (s : State) (m : MethodId) (args : Array Value) (below : List Frame) (meth : Method) (c : Code), p.tables.exec = Jvm.exec → c.code = cc → meth.sig.returnType = ret → (∀ w ∈ ws, w.before args s = true) → s.vm.findClass y.cls = some m.cls → meth.locks = false → c.maxLocals = maxL → va_P D vwCl wd s.heap → zK D cI cQ s → ∀ ls, lv_has ls maxL (lv_args 0 av) →
      W p l e ({ frames := fr, cells := 0, slots := 0, locals := lo }) s m args below meth c s.heap [] 0 0 (MQ below (vp_Si (fun r => r = v)) args s 0 0 (fun _ => False)) (F0 m 0 ls [])) : zRO l y ws fr lo av D cI cQ wd v := by
  refine Met.ofW (cc := cc) (maxL := maxL) (ret := ret) hy hw ?_
  intro p e s m args below meth c s₁ B hml hv
  obtain ⟨rfl, hP, hK⟩ := hv
  rw [lg_entry_eq]
  exact body p e s m _ below meth c B.exec B.bytes B.returns (atoms_spec (ws := ws) B.pre) (findClass_of_methodNamed B.named) B.notSynchronized hml hP hK _ (lv_entry av hlen)
theorem zWR.of {l : Launch} {y : MethodName} {ws ws' : List Cond} {fr lo : Nat} {av : List Value} {D : va_G} {cI cQ : ClassId} {wd wd' : va_W} {v : Option Value} {cc : ByteArray} {maxL : Nat} {ret : Option FieldType}
    (hy : plainName y.cls = true) (hw : ws = Cond.code y cc maxL ret :: ws') (hlen : (lg_sl av).length ≤ maxL)
    (body : ∀ (p : Program) (e : Env) (s : State) (m : MethodId) (args : Array Value) (below : List Frame) (meth : Method) (c : Code), p.tables.exec = Jvm.exec → c.code = cc → meth.sig.returnType = ret → (∀ w ∈ ws, w.before args s = true) → s.vm.findClass y.cls = some m.cls → meth.locks = false → c.maxLocals = maxL → va_P D vwCl wd s.heap → va_D (zA wd) wd → va_S (zA wd) s.heap s.heap [] → zK D cI cQ s → ∀ ls, lv_has ls maxL (lv_args 0 av) →
      W p l e ({ frames := fr, cells := 0, slots := 0, locals := lo }) s m args below meth c s.heap [] 0 0 (MQ below (zQ D wd v wd') args s 0 0 (zA wd)) (F0 m 0 ls [])) : zWR l y ws fr lo av D cI cQ wd v wd' := by
  refine Met.ofW (cc := cc) (maxL := maxL) (ret := ret) hy hw ?_
  intro p e s m args below meth c s₁ B hml hv
  obtain ⟨rfl, hP, hK, hD⟩ := hv
  rw [lg_entry_eq]
  exact body p e s m _ below meth c B.exec B.bytes B.returns (atoms_spec (ws := ws) B.pre) (findClass_of_methodNamed B.named) B.notSynchronized hml hP (z_selfD hD) va_S.rf hK _ (lv_entry av hlen)
/-- booleans -/
def bI (b : Bool) : Int32 := if b then 1 else 0
theorem bI_t {b : Bool} (h : ¬ bI b = 0) : b = true := by cases b <;> simp [bI] at h ⊢
theorem bI_f {b : Bool} (h : bI b = 0) : b = false := by cases b <;> simp [bI] at h ⊢
theorem bI_nar (b : Bool) : narrow .boolean (.int (bI b)) = .int (bI b) := by cases b <;> rfl
theorem zcwB {R : Room} {s : State} {args : Array Value} {own : String} {index : Nat} {y : MethodName} {bytes : ByteArray} {maxL : Nat} {ret : Option FieldType} {fr lo : Nat} (n : Nat) (hz : ∀ w ∈ zT, w.before args s = true) (q1 : Cond.methodLink own index y ∈ zT) (q4 : Cond.initialized y.cls ∈ zT) (q5 : Cond.code y bytes maxL ret ∈ zT)
    (hd : y.cls ≠ "java/lang/invoke/MethodHandle" ∧ y.cls ≠ "java/lang/invoke/VarHandle" ∧ (parseMethodDescriptor y.desc).map (fun d => d.parameters.length) = some n) (h1 : fr + 1 ≤ R.frames) (h2 : 8 + (maxL + 11) + lo ≤ R.locals) :
    CallB R s args own index y bytes maxL ret (Cond.code y bytes maxL ret :: zT) ({ frames := fr, cells := 0, slots := 0, locals := lo }) 0 0 n := by
  refine ⟨rfl, rfl, h1, h2, fun w hw a' U hW => ?_, List.mem_cons_self, hz _ q5, hz _ q4, ⟨hd.1, hd.2.1⟩, fun sig h => ?_, hz _ q1⟩
  · rcases List.mem_cons.mp hw with h | h
    · subst h; exact word_at hW (good_of_word (zT_good q5)) (hz _ q5)
    · exact word_at hW (good_of_word (zT_good h)) (hz _ h)
  · have h2 := hd.2.2
    rw [h] at h2
    exact (Option.some.inj h2).symm
theorem zcwV {R : Room} {s : State} {args : Array Value} {own : String} {index : Nat} {y : MethodName} {bytes : ByteArray} {maxL : Nat} {ret : Option FieldType} {fr lo : Nat} {C : String} (n : Nat) (hz : ∀ w ∈ zT, w.before args s = true) (q1 : Cond.methodLink own index y ∈ zT) (q2 : Cond.instanceMethod y ∈ zT) (q3 : Cond.selects C y y ∈ zT) (q4 : Cond.initialized y.cls ∈ zT) (q5 : Cond.code y bytes maxL ret ∈ zT)
    (hd : y.cls ≠ "java/lang/invoke/MethodHandle" ∧ y.cls ≠ "java/lang/invoke/VarHandle" ∧ (parseMethodDescriptor y.desc).map (fun d => d.parameters.length) = some n) (h1 : fr + 1 ≤ R.frames) (h2 : 8 + (maxL + 11) + lo ≤ R.locals) :
    CallW R s args own C index y bytes maxL ret (Cond.code y bytes maxL ret :: zT) ({ frames := fr, cells := 0, slots := 0, locals := lo }) 0 0 n :=
  ⟨zcwB n hz q1 q4 q5 hd h1 h2, hz _ q2, hz _ q3⟩
theorem zcwS {R : Room} {s : State} {args : Array Value} {own : String} {index : Nat} {y : MethodName} {bytes : ByteArray} {maxL : Nat} {ret : Option FieldType} {fr lo : Nat} (n : Nat) (hz : ∀ w ∈ zT, w.before args s = true) (q1 : Cond.methodLink own index y ∈ zT) (q2 : Cond.static y ∈ zT) (q4 : Cond.initialized y.cls ∈ zT) (q5 : Cond.code y bytes maxL ret ∈ zT)
    (hd : y.cls ≠ "java/lang/invoke/MethodHandle" ∧ y.cls ≠ "java/lang/invoke/VarHandle" ∧ (parseMethodDescriptor y.desc).map (fun d => d.parameters.length) = some n) (h1 : fr + 1 ≤ R.frames) (h2 : 8 + (maxL + 11) + lo ≤ R.locals) :
    CallB R s args own index y bytes maxL ret (Cond.code y bytes maxL ret :: zT) ({ frames := fr, cells := 0, slots := 0, locals := lo }) 0 0 n ∧ (Cond.static y).before args s = true :=
  ⟨zcwB n hz q1 q4 q5 hd h1 h2, hz _ q2⟩
theorem zcnS {R : Room} {s : State} {args : Array Value} {own host : String} {index : Nat} {y : MethodName} {bytes : ByteArray} {maxL : Nat} {ret : Option FieldType} {fr lo : Nat} (n : Nat) (hz : ∀ w ∈ zT, w.before args s = true) (q2 : Cond.static y ∈ zT) (q4 : Cond.initialized y.cls ∈ zT) (q5 : Cond.code y bytes maxL ret ∈ zT) (hl : va_Nw (.methodLinkNest own index y host) s)
    (hd : y.cls ≠ "java/lang/invoke/MethodHandle" ∧ y.cls ≠ "java/lang/invoke/VarHandle" ∧ (parseMethodDescriptor y.desc).map (fun d => d.parameters.length) = some n) (h1 : fr + 1 ≤ R.frames) (h2 : 8 + (maxL + 11) + lo ≤ R.locals) :
    va_CN R s args own index y host bytes maxL ret (Cond.code y bytes maxL ret :: zT) ({ frames := fr, cells := 0, slots := 0, locals := lo }) 0 0 n ∧ (Cond.static y).before args s = true ∧ True := by
  refine ⟨⟨⟨rfl, rfl, h1, h2, fun w hw a' U hW => ?_, List.mem_cons_self⟩, hz _ q5, hz _ q4, ⟨hd.1, hd.2.1⟩, fun sig h => ?_, va_Nw.use rfl hl⟩, hz _ q2, trivial⟩
  · rcases List.mem_cons.mp hw with h | h
    · subst h; exact word_at hW (good_of_word (zT_good q5)) (hz _ q5)
    · exact word_at hW (good_of_word (zT_good h)) (hz _ h)
  · have h2 := hd.2.2
    rw [h] at h2
    exact (Option.some.inj h2).symm
