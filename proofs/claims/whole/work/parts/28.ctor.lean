/-! constructors: my layer -/
theorem z_nd : ∀ l : List Nat, l.Nodup → va_nd l = true
  | [], _ => rfl
  | a :: l, h => by
    have h := List.nodup_cons.mp h
    simp [va_nd, h.1, z_nd l h.2]
theorem z_pR (wr wc : va_W) : (List.range wr.length).map (fun i => (wr ++ wc)[i]?) = wr.map some := by
  apply List.ext_getElem (by simp)
  intro k h1 h2
  have hk : k < wr.length := by simpa using h1
  simp [List.getElem?_append_left hk, List.getElem?_eq_getElem hk]
theorem z_pC (wr wc : va_W) : ((List.range wc.length).map (fun i => wr.length + i)).map (fun i => (wr ++ wc)[i]?) = wc.map some := by
  apply List.ext_getElem (by simp)
  intro k h1 h2
  have hk : k < wc.length := by simpa using h1
  simp [List.getElem?_append_right, List.getElem?_eq_getElem hk]
theorem z_cj {D : va_G} {A0 : Nat → Prop} {wr wc w1 : va_W} {H H1 : Heap} (hP : va_P D vwCl (wr ++ wc) H) (hD : va_D A0 (wr ++ wc)) (hk : ∀ q : Nat, q < H.size → ¬ va_A wc H.size q → H1[q]? = H[q]?) (hF : ∀ q, va_A wc H.size q → A0 q) (hP1 : va_P D vwCl w1 H1) (hD1 : va_D (va_A wc H.size) w1) : va_P D vwCl (wr ++ w1) H1 ∧ va_D A0 (wr ++ w1) :=
  va_join hP hD _ _ (z_pC wr wc) (z_pR wr wc) (z_nd _ List.nodup_range) (by
    intro i hi hc
    obtain ⟨j, -, h2⟩ := List.mem_map.mp hc
    have := List.mem_range.mp hi
    omega) hk hF hP1 hD1
abbrev zCP (b : Nat) (D : va_G) (cI cQ : ClassId) (pre : va_W) (sz : Nat) : Array Value → State → Prop := va_Pc [.ref b] (fun U => U.heap.size = sz ∧ va_P D vwCl pre U.heap ∧ zK D cI cQ U ∧ va_AO RX4 U ∧ va_D (fun _ => True) pre)
abbrev zCQ {S : Type} (D : va_G) (pre : va_W) (sz : Nat) (pin : S → Prop) (F : S → va_W) : Array Value → State → Outcome → State → Prop := va_Qv (fun q : S => pin q) (fun q t => va_P D vwCl (F q) t.heap ∧ va_D (va_A pre sz) (F q)) (va_A pre sz)
/-- a constructor: what it makes -/
abbrev zCT {S : Type} (l : Launch) (y : MethodName) (ws : List Cond) (fr mc ms lo : Nat) (b : Nat) (D : va_G) (cI cQ : ClassId) (pre : va_W) (pin : S → Prop) (F : S → va_W) : Prop :=
  ∀ sz : Nat, Met l y ws ({ frames := fr, cells := mc, slots := ms, locals := lo }) (zCP b D cI cQ pre sz) (zCQ D pre sz pin F) mc ms (va_A pre sz)
theorem zCT.of {S : Type} {l : Launch} {y : MethodName} {ws ws' : List Cond} {fr mc ms lo : Nat} {b : Nat} {D : va_G} {cI cQ : ClassId} {pre : va_W} {pin : S → Prop} {F : S → va_W} {cc : ByteArray} {maxL : Nat}
    (hy : plainName y.cls = true) (hyn : y.name = "<init>") (hw : ws = Cond.code y cc maxL none :: ws') (hlen : (lg_sl [Value.ref b]).length ≤ maxL)
    (body : ∀ (p : Program) (e : Env) (s : State) (m : MethodId) (args : Array Value) (below : List Frame) (meth : Method) (c : Code) (A : Nat → Prop), p.tables.exec = Jvm.exec → c.code = cc → meth.sig.returnType = none → (∀ w ∈ ws, w.before args s = true) → s.vm.findClass y.cls = some m.cls → meth.locks = false → meth.name = "<init>" → c.maxLocals = maxL → va_P D vwCl pre s.heap → va_D A pre → va_S A s.heap s.heap [] → (∀ q : Nat, s.heap.size ≤ q → A q) → zK D cI cQ s → va_AO RX4 s → ∀ ls, lv_has ls maxL [(0, .ref b)] →
      W p l e ({ frames := fr, cells := mc, slots := ms, locals := lo }) s m args below meth c s.heap [] 0 0 (MQ below (va_Qv (fun q : S => pin q) (fun q t => va_P D vwCl (F q) t.heap ∧ va_D A (F q)) A) args s mc ms A) (F0 m 0 ls [])) : zCT l y ws fr mc ms lo b D cI cQ pre pin F := by
  intro sz
  refine Met.ofW (cc := cc) (maxL := maxL) (ret := none) hy hw ?_
  intro p e s m args below meth c s₁ B hml hv
  obtain ⟨rfl, hsz, hP, hK, hO, hD0⟩ := hv
  subst hsz
  rw [lg_entry_eq]
  exact body p e s m _ below meth c _ B.exec B.bytes B.returns (atoms_spec (ws := ws) B.pre) (findClass_of_methodNamed B.named) B.notSynchronized ((name_of_methodNamed B.named B.method).1.trans hyn) hml hP hD0.self va_S.rf (fun q h => Or.inr h) hK hO _ (lv_entry [.ref b] hlen)
theorem z_pci {s : State} {H : Heap} {D : va_G} {cI cQ : ClassId} {A : Nat → Prop} {wr wc : va_W} {b : Nat} (hK : zK D cI cQ s) (hO : va_AO RX4 s) (hP : va_P D vwCl (wr ++ wc) H) (hD : va_D A (wr ++ wc)) : PreS s H (zCP b D cI cQ wc H.size) (.ref b :: []) :=
  ⟨fun a U g mk q => ⟨q.1, q.2.1, q.2.2.1, zK.same (s := U) (U := U.calling g mk a) rfl q.2.2.2.1, va_AO.moved (u := U) (U := U.calling g mk a) (Vm.Alike.refl U.vm) q.2.2.2.2.1, q.2.2.2.2.2⟩, fun U hU hW => ⟨rfl, by rw [hU], by rw [hU]; exact fun k q h => hP (wr.length + k) q (by rw [List.getElem?_append_right (by omega)]; simpa using h), hK.warm hW, va_AO.moved hW.alike hO, (hD.sub _ (z_nd _ (by
    rw [List.nodup_iff_pairwise_ne, List.pairwise_map]
    exact List.Pairwise.imp (fun h => by omega) (List.nodup_iff_pairwise_ne.mp List.nodup_range))) (z_pC wr wc)).weaken (fun _ _ _ _ => trivial)⟩⟩
section ZCR
variable {p : Program} {l : Launch} {e : Env} {R : Room} {s : State} {m : MethodId} {args : Array Value} {below : List Frame} {meth : Method} {c : Code} {H : Heap} {locs : List Loc} {cells slots : Nat} {Q : State → Prop} {pc : Nat} {ls : Array Slot} {rest st0 : List Value} {a : Array Value}
theorem z_ct {S : Type} {mc ms : Nat} {D : va_G} {wr wc : va_W} {A : Nat → Prop} {H0 : Heap} {pin : S → Prop} {F : S → va_W} (hr : va_Run p l e R s m args below meth c H locs cells slots mc ms (F0 m pc ls st0) rest (zCQ D wc H.size pin F a) (va_A wc H.size))
    (hP : va_P D vwCl (wr ++ wc) H) (hD : va_D A (wr ++ wc)) (hS : va_S A H0 H locs) (hA : ∀ q, H0.size ≤ q → A q)
    (kk : ∀ (q : S) (H1 : Heap) (locs1 : List Loc), pin q → va_P D vwCl (wr ++ F q) H1 → va_D A (wr ++ F q) → va_S A H0 H1 locs1 → W p l e R s m args below meth c H1 locs1 (cells + mc) (slots + ms) Q (F0 m (pc + 3) ls rest)) : W p l e R s m args below meth c H locs cells slots Q (F0 m pc ls st0) := by
  have hF := va_free hD hS hA _ (z_pC wr wc)
  refine va_callv hr hS (fun q _ h => hF q h) hF (fun u t H1 locs1 ht hvm hw hB hz1 hk1 hS1 => ?_)
  obtain ⟨hP1, hD1⟩ := hB
  rw [ht] at hP1
  obtain ⟨hP2, hD2⟩ := z_cj hP hD hk1 hF hP1 hD1
  exact kk u H1 locs1 hw hP2 hD2 hS1
theorem zcwB2 {own : String} {index : Nat} {y : MethodName} {bytes : ByteArray} {maxL : Nat} {ret : Option FieldType} {fr mc ms lo : Nat} (n : Nat) (hz : ∀ w ∈ zT, w.before args s = true) (q1 : Cond.methodLink own index y ∈ zT) (q4 : Cond.initialized y.cls ∈ zT) (q5 : Cond.code y bytes maxL ret ∈ zT)
    (hd : y.cls ≠ "java/lang/invoke/MethodHandle" ∧ y.cls ≠ "java/lang/invoke/VarHandle" ∧ (parseMethodDescriptor y.desc).map (fun d => d.parameters.length) = some n) (h1 : fr + 1 ≤ R.frames) (h2 : 8 + (maxL + 11) + lo ≤ R.locals) :
    CallB R s args own index y bytes maxL ret (Cond.code y bytes maxL ret :: zT) ({ frames := fr, cells := mc, slots := ms, locals := lo }) mc ms n := by
  refine ⟨rfl, rfl, h1, h2, fun w hw a' U hW => ?_, List.mem_cons_self, hz _ q5, hz _ q4, ⟨hd.1, hd.2.1⟩, fun sig h => ?_, hz _ q1⟩
  · rcases List.mem_cons.mp hw with h | h
    · subst h; exact word_at hW (good_of_word (zT_good q5)) (hz _ q5)
    · exact word_at hW (good_of_word (zT_good h)) (hz _ h)
  · have h2 := hd.2.2
    rw [h] at h2
    exact (Option.some.inj h2).symm
theorem zcwI {own : String} {index : Nat} {y : MethodName} {bytes : ByteArray} {maxL : Nat} {fr mc ms lo : Nat} (hz : ∀ w ∈ zT, w.before args s = true) (q1 : Cond.methodLink own index y ∈ zT) (q2 : Cond.instanceMethod y ∈ zT) (q4 : Cond.initialized y.cls ∈ zT) (q5 : Cond.code y bytes maxL none ∈ zT) (hyn : y.name = "<init>")
    (hd : y.cls ≠ "java/lang/invoke/MethodHandle" ∧ y.cls ≠ "java/lang/invoke/VarHandle" ∧ (parseMethodDescriptor y.desc).map (fun d => d.parameters.length) = some 0) (h1 : fr + 1 ≤ R.frames) (h2 : 8 + (maxL + 11) + lo ≤ R.locals) :
    CallB R s args own index y bytes maxL none (Cond.code y bytes maxL none :: zT) ({ frames := fr, cells := mc, slots := ms, locals := lo }) mc ms 0 ∧ y.name = "<init>" ∧ (Cond.instanceMethod y).before args s = true :=
  ⟨zcwB2 0 hz q1 q4 q5 hd h1 h2, hyn, hz _ q2⟩
theorem zcnI {own host : String} {index : Nat} {y : MethodName} {bytes : ByteArray} {maxL : Nat} {fr mc ms lo : Nat} (hz : ∀ w ∈ zT, w.before args s = true) (q2 : Cond.instanceMethod y ∈ zT) (q4 : Cond.initialized y.cls ∈ zT) (q5 : Cond.code y bytes maxL none ∈ zT) (hl : va_Nw (.methodLinkNest own index y host) s) (hyn : y.name = "<init>")
    (hd : y.cls ≠ "java/lang/invoke/MethodHandle" ∧ y.cls ≠ "java/lang/invoke/VarHandle" ∧ (parseMethodDescriptor y.desc).map (fun d => d.parameters.length) = some 0) (h1 : fr + 1 ≤ R.frames) (h2 : 8 + (maxL + 11) + lo ≤ R.locals) :
    va_CN R s args own index y host bytes maxL none (Cond.code y bytes maxL none :: zT) ({ frames := fr, cells := mc, slots := ms, locals := lo }) mc ms 0 ∧ y.name = "<init>" ∧ (Cond.instanceMethod y).before args s = true := by
  refine ⟨⟨⟨rfl, rfl, h1, h2, fun w hw a' U hW => ?_, List.mem_cons_self⟩, hz _ q5, hz _ q4, ⟨hd.1, hd.2.1⟩, fun sig h => ?_, va_Nw.use rfl hl⟩, hyn, hz _ q2⟩
  · rcases List.mem_cons.mp hw with h | h
    · subst h; exact word_at hW (good_of_word (zT_good q5)) (hz _ q5)
    · exact word_at hW (good_of_word (zT_good h)) (hz _ h)
  · have h2 := hd.2.2
    rw [h] at h2
    exact (Option.some.inj h2).symm
theorem z_cA {D : va_G} {cI cQ cA : ClassId} (h : va_K D vwCl ([(cI, .int), (cQ, .object RX4)] ++ [(cA, .int)]) s) : cA = cI :=
  Option.some.inj ((show s.vm.findClass _ = some cA from (h.2 2 (cA, .int) rfl).2).symm.trans (show s.vm.findClass _ = some cI from (h.2 0 (cI, .int) rfl).2))
theorem z_cB {D : va_G} {cI cQ cA : ClassId} (h : va_K D vwCl ([(cI, .int), (cQ, .object RX4)] ++ [(cA, .object RX4)]) s) : cA = cQ := by
  obtain ⟨-, -, -, -, -, h1⟩ := (h.2 2 (cA, .object RX4) rfl).2
  obtain ⟨-, -, -, -, -, h2⟩ := (h.2 1 (cQ, .object RX4) rfl).2
  exact Option.some.inj (h1.symm.trans h2)
theorem z_newi {cc : ByteArray} {D : va_G} {cI cQ : ClassId} {ws : va_W} {A : Nat → Prop} {H0 : Heap} (hx : p.tables.exec = Jvm.exec) (hb : c.code = cc) (hz : ∀ w ∈ zT, w.before args s = true) (hK : zK D cI cQ s) (hP : va_P D vwCl ws H) (hD : va_D A ws) (hS : va_S A H0 H locs) (hA : ∀ q, H0.size ≤ q → A q)
    {n : Int32} {N : Nat} (hn : ¬ n < 0) (hN : n.toNatClampNeg = N) (hbytes : N * componentBytes .int ≤ 536870912) (hcells : cells + 1 ≤ R.cells) (hslots : slots + N ≤ R.slots) (hdg : decode cc pc = .ok (.newarray .int, 2))
    (kk : ∀ (q : Nat) (H1 : Heap), va_P D vwCl (ws ++ [(q, .inl (cI, N, .inl (fun _ => 0)))]) H1 → va_D A (ws ++ [(q, .inl (cI, N, .inl (fun _ => 0)))]) → va_S A H0 H1 locs →
      W p l e R s m args below meth c H1 locs (cells + 1) (slots + N) Q (F0 m (pc + 2) ls (.ref q :: rest))) : W p l e R s m args below meth c H locs cells slots Q (F0 m pc ls (.int n :: rest)) := by
  refine va_newa (atype := .int) (ty := .int) (a0 := (N, .inl (fun _ => 0))) hx hb (hz _ q1_46) rfl hK.1 hP hD hS hA (fun cA => by rw [vp_cell_i]; rfl) hn hN hbytes hcells hslots hdg (fun q cA H1 hK1 hP1 hD1 hS1 => ?_)
  rw [z_cA hK1] at hP1 hD1
  exact kk q H1 hP1 hD1 hS1
theorem z_newq {cc : ByteArray} {own : String} {index : Nat} {D : va_G} {cI cQ : ClassId} {ws : va_W} {A : Nat → Prop} {H0 : Heap} (hx : p.tables.exec = Jvm.exec) (hb : c.code = cc) (hown : s.vm.findClass own = some m.cls) (hcl : (Cond.classLink own index RX4).before args s = true) (hO : va_AO RX4 s) (hK : zK D cI cQ s) (hP : va_P D vwCl ws H) (hD : va_D A ws) (hS : va_S A H0 H locs) (hA : ∀ q, H0.size ≤ q → A q)
    {n : Int32} {N : Nat} (hn : ¬ n < 0) (hN : n.toNatClampNeg = N) (hbytes : N * 4 ≤ 536870912) (hcells : cells + 1 ≤ R.cells) (hslots : slots + N ≤ R.slots) (hdg : decode cc pc = .ok (.anewarray index, 3))
    (kk : ∀ (q : Nat) (H1 : Heap), va_P D vwCl (ws ++ [(q, .inl (cQ, N, .inr (.inr (.inr (.inr (fun _ => none))))))]) H1 → va_D A (ws ++ [(q, .inl (cQ, N, .inr (.inr (.inr (.inr (fun _ => none))))))]) → va_S A H0 H1 locs →
      W p l e R s m args below meth c H1 locs (cells + 1) (slots + N) Q (F0 m (pc + 3) ls (.ref q :: rest))) : W p l e R s m args below meth c H locs cells slots Q (F0 m pc ls (.int n :: rest)) := by
  refine va_newq hx hb hown hcl hO hK.1 hP hD hS hA hn hN hbytes hcells hslots hdg (fun q cA H1 hK1 hP1 hD1 hS1 => ?_)
  rw [z_cB hK1] at hP1 hD1
  exact kk q H1 hP1 hD1 hS1
end ZCR
/-- what a constructor leaves -/
def zzF : FI := fun _ => 0
def flS : Nat → FI
  | 0 => zzF
  | k + 1 => upd (flS k) (nI k).toNatClampNeg (-1)
def cC0 : CS := ((4, 3), (0, zzF, zzF, zzF, zzF), (1, upd zzF (0 : Int32).toNatClampNeg 0, upd zzF (0 : Int32).toNatClampNeg 0, upd (flS 40) (0 : Int32).toNatClampNeg 0), zzF)
def mR0 : FI := upd (upd (upd (upd zzF (0 : Int32).toNatClampNeg 4) (1 : Int32).toNatClampNeg 3) (3 : Int32).toNatClampNeg 1) (204 : Int32).toNatClampNeg 1
def mM0 : MS := (mR0, 0, zzF)
def zq3 (a b c d e : Nat) : Nat → Nat := fun i => if i = 1 then a else if i = 2 then b else if i = 3 then c else if i = 4 then d else e
def zq2 (a b c d : Nat) : Nat → Nat := fun i => if i = 6 then a else if i = 7 then b else if i = 8 then c else d
def zq0 (a b : Nat) : Nat → Nat := fun i => if i = 10 then a else b
def zq1 (a b : Nat) : Nat → Nat := fun i => if i = 0 then a else b
def zq6 (a b c : Nat) : Nat → Nat := fun i => if i = 0 then a else if i = 1 then b else c
def zq4 (a : Nat) (p r d : Nat → Nat) : Nat → Nat := fun i => if i = 0 then a else if i ≤ 5 then p i else if i ≤ 9 then r i else d i
def zHF (t : Nat → Nat → Nat) : Nat → Option Nat := va_up (va_up (va_up (va_up (va_up (fun _ => none) (nI 0).toNatClampNeg (some (t 0 0))) (nI 1).toNatClampNeg (some (t 1 0))) (nI 2).toNatClampNeg (some (t 2 0))) (nI 3).toNatClampNeg (some (t 3 0))) (nI 4).toNatClampNeg (some (t 4 0))
def zt5 (a b c d e : Nat → Nat) : Nat → Nat → Nat := fun i => if i = 0 then a else if i = 1 then b else if i = 2 then c else if i = 3 then d else e
abbrev zF1 (cI cQ : ClassId) (u : (Nat → Nat) × (Nat → Nat → Nat)) : va_W := zB [zHea cQ u.1 (0, zHF u.2), zSta cI (u.2 0) cC0, zSta cI (u.2 1) cC0, zSta cI (u.2 2) cC0, zSta cI (u.2 3) cC0, zSta cI (u.2 4) cC0]
abbrev zF5 (cI cQ : ClassId) (u : (Nat → Nat) × (Nat → Nat) × (Nat → Nat) × (Nat → Nat → Nat)) : va_W := zB [zGri u.1 u.2.1 u.2.2.1, zSta cI u.2.1 cC0, zHea cQ u.2.2.1 (0, zHF u.2.2.2), zSta cI (u.2.2.2 0) cC0, zSta cI (u.2.2.2 1) cC0, zSta cI (u.2.2.2 2) cC0, zSta cI (u.2.2.2 3) cC0, zSta cI (u.2.2.2 4) cC0]
