/-! PART 64: constructors: a world that grows -/
def Kc (g : Geo) (U : State) : Prop := Kn g U ∧ va_AO "WordsFirst$Room" U
theorem Kc.warm {g : Geo} {s U : State} (hW : s.WarmedH U.vm) (h : Kc g s) : Kc g U := ⟨⟨va_K.moved hW.alike h.1.1, NwAll.warm hW h.1.2⟩, va_AO.moved hW.alike h.2⟩
theorem Kc.moved {g : Geo} {u U : State} (hW : u.vm = U.vm) (h : Kc g u) : Kc g U := ⟨⟨va_K.moved (by rw [hW]; exact Vm.Alike.refl _) h.1.1, fun q hq => va_Nw.same rfl hW (h.1.2 q hq)⟩, va_AO.moved (by rw [hW]; exact Vm.Alike.refl _) h.2⟩
/-- the machine, at pc with these locals, this stack, these cells, so many cells and slots made, comes to a state with Q -/
def CW (l : Launch) (x : Cx) (g : Geo) (A : Nat → Prop) (R : Room) (nL : Nat) (Q : State → Prop) (pc : Nat) (L : List (Nat × Value)) (st : List Value) (ws : va_W) (k m : Nat) : Prop :=
  ∀ (H : Heap) (locs : List Loc) (ls : Array Slot), va_P g.1 vwCl ws H → va_D A ws → va_S A x.s.heap H locs → lv_has ls nL L → W x.p l x.e R x.s x.m x.a x.b x.h x.c H locs k m Q (F0 x.m pc ls st)
def OkC (x : Cx) (g : Geo) (A : Nat → Prop) (d : Md) : Prop := x.p.tables.exec = Jvm.exec ∧ x.c.code = d.2.1 ∧ x.c.maxLocals = d.2.2.1 ∧ x.s.vm.findClass d.1.cls = some x.m.cls ∧ (∀ w ∈ gtbl, w.before x.a x.s = true) ∧ Kc g x.s ∧ (∀ q, x.s.heap.size ≤ q → A q) ∧ x.h.sig.returnType = d.2.2.2.1 ∧ x.h.locks = false ∧ (d.1.name = "<init>" → x.h.name = "<init>")
def mcr (d : Md) (mc ms : Nat) : Room := { frames := d.2.2.2.2.1, cells := mc, slots := ms, locals := d.2.2.2.2.2 }
def PreC (g : Geo) (w0 : va_W) (sz : Nat) (U : State) : Prop := U.heap.size = sz ∧ va_P g.1 vwCl w0 U.heap ∧ Kc g U ∧ va_D (fun _ => True) w0
def PstC (g : Geo) (A : Nat → Prop) (w : va_W) (t : State) : Prop := va_P g.1 vwCl w t.heap ∧ va_D A w
/-- a constructor, called with these values over the cells w0, makes at most mc cells of ms slots; then K of the cells -/
def MCt (l : Launch) (g : Geo) (d : Md) (mc ms : Nat) (vs : List Value) (w0 : va_W) (K : va_W → Prop) : Prop := ∀ sz : Nat, Met l d.1 (mdw d) (mcr d mc ms) (va_Pc vs (PreC g w0 sz)) (va_Qv K (PstC g (va_A w0 sz)) (va_A w0 sz)) mc ms (va_A w0 sz)
def QC (x : Cx) (g : Geo) (A : Nat → Prop) (mc ms : Nat) (K : va_W → Prop) : State → Prop := MQ x.b (va_Qv K (PstC g A) A) x.a x.s mc ms A
theorem MCt.intro {l : Launch} {g : Geo} {d : Md} {mc ms : Nat} {vs : List Value} {w0 : va_W} {K : va_W → Prop} (L : List (Nat × Value)) (hy : plainName d.1.cls = true) (hn : d.1.name = "<init>") (hlen : (lg_sl vs).length ≤ d.2.2.1) (hL : lv_args 0 vs = L)
    (body : ∀ (x : Cx) (A : Nat → Prop), OkC x g A d → CW l x g A (mcr d mc ms) d.2.2.1 (QC x g A mc ms K) 0 L [] w0 0 0) : MCt l g d mc ms vs w0 K := by
  intro sz
  refine Met.ofW (cc := d.2.1) (maxL := d.2.2.1) (ret := d.2.2.2.1) hy rfl ?_
  intro p e s m args below meth c s₁ B hml hv
  obtain ⟨rfl, hsz, hP, hK, hD⟩ := hv
  subst hsz
  have hb := body (p, e, s, m, vs.toArray, below, meth, c) (va_A w0 s.heap.size) ⟨B.exec, B.bytes, hml, findClass_of_methodNamed B.named, fun w hw => atoms_spec (ws := mdw d) B.pre w (List.mem_cons_of_mem _ hw), hK, fun q h => Or.inr h, B.returns, B.notSynchronized, fun _ => (name_of_methodNamed B.named B.method).1.trans hn⟩
  rw [lg_entry_eq]
  exact hb s.heap [] _ hP hD.self va_S.rf (hL ▸ lv_entry vs hlen)
theorem RA_one {U : State} {cA cB : ClassId} {ty : FieldType} (h1 : va_RA U cA ty) (h2 : va_RA U cB ty) : cA = cB := by
  cases ty with
  | object C =>
    obtain ⟨_, _, _, _, _, h1⟩ := h1
    obtain ⟨_, _, _, _, _, h2⟩ := h2
    exact Option.some.inj (h1.symm.trans h2)
  | _ => exact Option.some.inj (Eq.trans (Eq.symm h1) h2)
theorem nd_of : ∀ {l : List Nat}, l.Nodup → va_nd l = true
  | [], _ => rfl
  | a :: l, h => by
    rw [List.nodup_cons] at h
    rw [va_nd, nd_of h.2, decide_eq_true h.1]
    rfl
theorem rng_map {α : Type} (pre : List α) (x : α) : (List.range pre.length).map (fun i => (pre ++ [x])[i]?) = pre.map some := by
  apply List.ext_getElem?
  intro j
  rw [List.getElem?_map, List.getElem?_map]
  by_cases h : j < pre.length
  · rw [List.getElem?_range h]
    rw [Option.map_some, List.getElem?_append_left h, List.getElem?_eq_getElem h]; rfl
  · rw [List.getElem?_eq_none (by simp; omega), List.getElem?_eq_none (by omega)]
    rfl
theorem at_last {α : Type} (pre : List α) (x : α) : [pre.length].map (fun i => (pre ++ [x])[i]?) = [x].map some := by simp
section CTOR
variable {l : Launch} {x : Cx} {g : Geo} {A : Nat → Prop} {d : Md} {R : Room} {Q : State → Prop} {pc : Nat} {L : List (Nat × Value)} {rest : List Value} {ws : va_W} {k m : Nat}
theorem cr_aload (ok : OkC x g A d) {j : Fin 4} {a : Nat} (q : Nat) (hd : decode d.2.1 pc = .ok (.aload_n j, 1)) (hq : L[q]? = some ((j : Nat), .ref a)) (kk : CW l x g A R d.2.2.1 Q (pc + 1) L (.ref a :: rest) ws k m) : CW l x g A R d.2.2.1 Q pc L rest ws k m := fun H locs ls hP hD hS hl => lv_aload_n ok.1 ok.2.1 hd rfl (lv_at hl q hq) (kk H locs ls hP hD hS hl)
theorem cr_iload (ok : OkC x g A d) {j : Fin 4} {a : Int32} (q : Nat) (hd : decode d.2.1 pc = .ok (.iload_n j, 1)) (hq : L[q]? = some ((j : Nat), .int a)) (kk : CW l x g A R d.2.2.1 Q (pc + 1) L (.int a :: rest) ws k m) : CW l x g A R d.2.2.1 Q pc L rest ws k m := fun H locs ls hP hD hS hl => lv_iload_n ok.1 ok.2.1 hd rfl (lv_at hl q hq) (kk H locs ls hP hD hS hl)
theorem cr_iconst (ok : OkC x g A d) {n : Int} (v : Int32) (hd : decode d.2.1 pc = .ok (.iconst n, 1)) (hv : Int32.ofInt n = v) (kk : CW l x g A R d.2.2.1 Q (pc + 1) L (.int v :: rest) ws k m) : CW l x g A R d.2.2.1 Q pc L rest ws k m := fun H locs ls hP hD hS hl => lv_iconst ok.1 ok.2.1 hd hv (kk H locs ls hP hD hS hl)
theorem cr_bipush (ok : OkC x g A d) {n : Int} (v : Int32) (hd : decode d.2.1 pc = .ok (.bipush n, 2)) (hv : (Int8.ofInt n).toInt32 = v) (kk : CW l x g A R d.2.2.1 Q (pc + 2) L (.int v :: rest) ws k m) : CW l x g A R d.2.2.1 Q pc L rest ws k m := fun H locs ls hP hD hS hl => lv_bipush ok.1 ok.2.1 hd hv (kk H locs ls hP hD hS hl)
theorem cr_sipush (ok : OkC x g A d) {n : Int} (v : Int32) (hd : decode d.2.1 pc = .ok (.sipush n, 3)) (hv : (Int16.ofInt n).toInt32 = v) (kk : CW l x g A R d.2.2.1 Q (pc + 3) L (.int v :: rest) ws k m) : CW l x g A R d.2.2.1 Q pc L rest ws k m := fun H locs ls hP hD hS hl => lv_sipush ok.1 ok.2.1 hd hv (kk H locs ls hP hD hS hl)
theorem cr_ldc (ok : OkC x g A d) {i : Nat} (v : Int32) (hd : decode d.2.1 pc = .ok (.ldc i, 2)) (hw : Cond.constant d.1.cls i v ∈ gtbl) (kk : CW l x g A R d.2.2.1 Q (pc + 2) L (.int v :: rest) ws k m) : CW l x g A R d.2.2.1 Q pc L rest ws k m := fun H locs ls hP hD hS hl => lv_ldc ok.1 ok.2.1 ok.2.2.2.1 (ok.2.2.2.2.1 _ hw) hd (kk H locs ls hP hD hS hl)
theorem cr_dup (ok : OkC x g A d) {v : Value} (hd : decode d.2.1 pc = .ok (.dup, 1)) (hv : v.category = 1) (kk : CW l x g A R d.2.2.1 Q (pc + 1) L (v :: v :: rest) ws k m) : CW l x g A R d.2.2.1 Q pc L (v :: rest) ws k m := fun H locs ls hP hD hS hl => lv_dup ok.1 ok.2.1 hd hv (kk H locs ls hP hD hS hl)
theorem cr_istore (ok : OkC x g A d) {j : Fin 4} {a : Int32} (L2 : List (Nat × Value)) (hd : decode d.2.1 pc = .ok (.istore_n j, 1)) (hn : (j : Nat) < d.2.2.1) (hl2 : ((j : Nat), Value.int a) :: L.filter (fun q => !(q.1 == (j : Nat)) && !(q.1 + 1 == (j : Nat) && q.2.category == 2)) = L2) (kk : CW l x g A R d.2.2.1 Q (pc + 1) L2 rest ws k m) : CW l x g A R d.2.2.1 Q pc L (.int a :: rest) ws k m := fun H locs ls hP hD hS hl => lv_istore_n ok.1 ok.2.1 hd rfl hl hn hl2 (fun ls2 hl2 => kk H locs ls2 hP hD hS hl2)
theorem cr_iinc (ok : OkC x g A d) {j : Nat} {n : Int} {a : Int32} (q : Nat) (v : Int32) (L2 : List (Nat × Value)) (hd : decode d.2.1 pc = .ok (.iinc j n, 3)) (hq : L[q]? = some (j, .int a)) (hv : a + Int32.ofInt n = v) (hn : j < d.2.2.1) (hl2 : (j, Value.int v) :: L.filter (fun q => !(q.1 == j) && !(q.1 + 1 == j && q.2.category == 2)) = L2) (kk : CW l x g A R d.2.2.1 Q (pc + 3) L2 rest ws k m) : CW l x g A R d.2.2.1 Q pc L rest ws k m := fun H locs ls hP hD hS hl => lv_iinc ok.1 ok.2.1 hd hl hq hv hn hl2 (fun ls2 hl2 => kk H locs ls2 hP hD hS hl2)
theorem cr_goto (ok : OkC x g A d) {off : Int} (tgt : Nat) (hd : decode d.2.1 pc = .ok (.goto off, 3)) (ht : (pc : Int) + off = (tgt : Int)) (kk : CW l x g A R d.2.2.1 Q tgt L rest ws k m) : CW l x g A R d.2.2.1 Q pc L rest ws k m := fun H locs ls hP hD hS hl => lv_goto ok.1 ok.2.1 hd ht (kk H locs ls hP hD hS hl)
theorem cr_ge (ok : OkC x g A d) {a b : Int32} {off : Int} (tgt : Nat) (hd : decode d.2.1 pc = .ok (.if_icmp .ge off, 3)) (ht : (pc : Int) + off = (tgt : Int)) (kk : (b ≤ a → CW l x g A R d.2.2.1 Q tgt L rest ws k m) ∧ (¬ b ≤ a → CW l x g A R d.2.2.1 Q (pc + 3) L rest ws k m)) : CW l x g A R d.2.2.1 Q pc L (.int b :: .int a :: rest) ws k m := fun H locs ls hP hD hS hl => lv_icmp_ge ok.1 ok.2.1 hd ht (fun c => kk.1 c H locs ls hP hD hS hl) (fun c => kk.2 c H locs ls hP hD hS hl)
theorem cr_obj (ok : OkC x g A d) {i a : Nat} (hd : decode d.2.1 pc = .ok (.invokespecial i, 3)) (hw1 : Cond.methodLink d.1.cls i objectInit ∈ gtbl) (hw2 : Cond.instanceMethod objectInit ∈ gtbl) (hw3 : Cond.code objectInit ⟨#[0xb1]⟩ 1 none ∈ gtbl) (hf : 1 ≤ R.frames) (hlo : (rest.map fun v => v.category).sum + 12 ≤ R.locals) (kk : CW l x g A R d.2.2.1 Q (pc + 3) L rest ws k m) : CW l x g A R d.2.2.1 Q pc L (.ref a :: rest) ws k m := fun H locs ls hP hD hS hl =>
  W.objInit ok.1 ok.2.1 ok.2.2.2.1 (ok.2.2.2.2.1 _ hw1) (ok.2.2.2.2.1 _ hw2) (ok.2.2.2.2.1 _ hw3) rfl (hl.1.trans ok.2.2.1.symm) rfl hd hf (by show 2 * 0 + _ + 12 ≤ _; omega) (kk H locs ls hP hD hS hl)
theorem cr_newa (ok : OkC x g A d) (t N : Nat) {at0 : ArrayType} {ty : FieldType} (hd : decode d.2.1 pc = .ok (.newarray at0, 2)) (hty : newarray.typeOf at0 = ty) (ht : (tysG g)[t]? = some (g.2.2 t, ty)) (hw : Cond.arrayClass ty ∈ gtbl) (hdef : ∀ cA : ClassId, vp_cell cA (N, .inl (fun _ => 0)) = arrV cA N (fun _ => defaultValue ty)) (hN : N < 2 ^ 31) (hb : N * componentBytes ty ≤ 536870912) (hc : k + 1 ≤ R.cells) (hs : m + N ≤ R.slots) (kk : ∀ q : Nat, CW l x g A R d.2.2.1 Q (pc + 2) L (.ref q :: rest) (ws ++ [(q, .inl (g.2.2 t, N, .inl (fun _ => 0)))]) (k + 1) (m + N)) : CW l x g A R d.2.2.1 Q pc L (.int (nI N) :: rest) ws k m := fun H locs ls hP hD hS hl =>
  va_newa (a0 := (N, .inl (fun _ => 0))) ok.1 ok.2.1 (by rw [hty]; exact ok.2.2.2.2.1 _ hw) hty ok.2.2.2.2.2.1.1.1 hP hD hS ok.2.2.2.2.2.2.1 hdef (fun h => nI_pos hN h) (nI_clamp hN) hb hc hs hd (fun q cA H1 hK1 hP1 hD1 hS1 => by
    have e : cA = g.2.2 t := RA_one (hK1.2 3 (cA, ty) rfl).2 (ok.2.2.2.2.2.1.1.1.2 t _ ht).2
    subst e
    exact kk q H1 locs ls hP1 hD1 hS1 hl)
/-- a final field that its constructor writes -/
def PutF (own : String) (i ci j : Nat) (C : String) (T : u_T) (N : Nat) (ty : Nat → FieldType) : Prop := FldOk own i ci j C T N ∧ (∀ k, k < N → parseFieldDescriptor (T k).2.2.1 = some (ty k)) ∧ (∀ a, a < N → ∀ b, b < N → a ≠ b → (T a).2.1 ≠ (T b).2.1) ∧ (T j).2.2.2 = true ∧ (T j).1 = own
theorem cr_putF (ok : OkC x g A d) {i ci N a : Nat} {C : String} {T : u_T} {ty : Nat → FieldType} {fs : List Value} {v : Value} (j : Nat) (hd : decode d.2.1 pc = .ok (.putfield i, 3)) (ho : PutF d.1.cls i ci j C T N ty) (hn : narrow (ty j) v = v) (hfit : fits (ty j) v = true) (hj : j < fs.length) (kk : CW l x g A R d.2.2.1 Q (pc + 3) L rest ((a, .inr (ci, fs.set j v)) :: ws) k m) (hnm : d.1.name = "<init>" := by rfl) : CW l x g A R d.2.2.1 Q pc L (v :: .ref a :: rest) ((a, .inr (ci, fs)) :: ws) k m := fun H locs ls hP hD hS hl =>
  va_putF ok.1 ok.2.1 ok.2.2.2.2.1 ho.1.2.1 ty ho.2.1 ho.2.2.1 ok.2.2.2.1 ok.2.2.2.2.2.1.1.1 hP hD hS 0 rfl ho.1.1 j ho.1.2.2.1 (ok.2.2.2.2.1 _ ho.1.2.2.2) (fun _ h => h) ho.2.2.2.1 (ok.2.2.2.2.2.2.2.2.2 hnm) ho.2.2.2.2 (ho.2.1 j ho.1.2.2.1) hn hfit hj hd (fun H1 locs1 hP1 hD1 hS1 => kk H1 locs1 ls hP1 hD1 hS1 hl)
theorem cr_put (ok : OkC x g A d) {i ci N a : Nat} {C : String} {T : u_T} {ty : Nat → FieldType} {fs : List Value} {v : Value} (j : Nat) (hd : decode d.2.1 pc = .ok (.putfield i, 3)) (ho : PutOk d.1.cls i ci j C T N ty) (hn : narrow (ty j) v = v) (hfit : fits (ty j) v = true) (hj : j < fs.length) (kk : CW l x g A R d.2.2.1 Q (pc + 3) L rest ((a, .inr (ci, fs.set j v)) :: ws) k m) : CW l x g A R d.2.2.1 Q pc L (v :: .ref a :: rest) ((a, .inr (ci, fs)) :: ws) k m := fun H locs ls hP hD hS hl =>
  va_put ok.1 ok.2.1 ok.2.2.2.2.1 ho.1.2.1 ty ho.2.1 ho.2.2.1 ok.2.2.2.1 ok.2.2.2.2.2.1.1.1 hP hD hS 0 rfl ho.1.1 j ho.1.2.2.1 (ok.2.2.2.2.1 _ ho.1.2.2.2) (fun _ h => h) ho.2.2.2 (ho.2.1 j ho.1.2.2.1) hn hfit hj hd (fun H1 locs1 hP1 hD1 hS1 => kk H1 locs1 ls hP1 hD1 hS1 hl)
theorem cr_get (ok : OkC x g A d) {i ci N a : Nat} {C : String} {T : u_T} {fs : List Value} {v : Value} (q0 j : Nat) (hd : decode d.2.1 pc = .ok (.getfield i, 3)) (ho : FldOk d.1.cls i ci j C T N) (he : ws[q0]? = some (a, .inr (ci, fs))) (hv : fs[j]? = some v) (kk : CW l x g A R d.2.2.1 Q (pc + 3) L (v :: rest) ws k m) : CW l x g A R d.2.2.1 Q pc L (.ref a :: rest) ws k m := fun H locs ls hP hD hS hl =>
  va_get ok.1 ok.2.1 ok.2.2.2.2.1 ho.2.1 ok.2.2.2.1 ok.2.2.2.2.2.1.1.1 hP q0 he ho.1 j ho.2.2.1 (ok.2.2.2.2.1 _ ho.2.2.2) (fun _ h => h) hv hd (kk H locs ls hP hD hS hl)
/-- a class whose objects a method makes -/
def NewOk (own : String) (i ci : Nat) (C : String) (T : u_T) (N : Nat) (ty : Nat → FieldType) : Prop := vwCl[ci]? = some (C, T, N) ∧ (∀ w ∈ u_ws C T N, w ∈ gtbl) ∧ (∀ k, k < N → parseFieldDescriptor (T k).2.2.1 = some (ty k)) ∧ Cond.classLink own i C ∈ gtbl ∧ Cond.instantiable C N ∈ gtbl ∧ Cond.initialized C ∈ gtbl
theorem cr_new (ok : OkC x g A d) {i ci N : Nat} {C : String} {T : u_T} {ty : Nat → FieldType} (fs : List Value) (hd : decode d.2.1 pc = .ok (.new i, 3)) (ho : NewOk d.1.cls i ci C T N ty) (hfs : ∀ j, j < N → defaultValue (ty j) = vp_V fs j) (hc : k + 1 ≤ R.cells) (hs : m + N ≤ R.slots) (kk : ∀ q : Nat, CW l x g A R d.2.2.1 Q (pc + 3) L (.ref q :: rest) (ws ++ [(q, .inr (ci, fs))]) (k + 1) (m + N)) : CW l x g A R d.2.2.1 Q pc L rest ws k m := fun H locs ls hP hD hS hl =>
  va_new ok.1 ok.2.1 ok.2.2.2.2.1 ho.2.1 ty ho.2.2.1 ok.2.2.2.1 (ok.2.2.2.2.1 _ ho.2.2.2.1) (ok.2.2.2.2.1 _ ho.2.2.2.2.1) (ok.2.2.2.2.1 _ ho.2.2.2.2.2) ok.2.2.2.2.2.1.1.1 hP hD hS ok.2.2.2.2.2.2.1 ho.1 hfs hc hs hd (fun q H1 hP1 hD1 hS1 => kk q H1 locs ls hP1 hD1 hS1 hl)
/-- a call of constructor c at link i from method d -/
def CalI (d c : Md) (i n : Nat) : Prop := (∀ w ∈ ([.methodLink d.1.cls i c.1, .instanceMethod c.1, .initialized c.1.cls, .code c.1 c.2.1 c.2.2.1 none] : List Cond), w ∈ gtbl) ∧ (c.1.cls ≠ "java/lang/invoke/MethodHandle" ∧ c.1.cls ≠ "java/lang/invoke/VarHandle" ∧ (parseMethodDescriptor c.1.desc).map (fun d => d.parameters.length) = some n) ∧ c.1.name = "<init>" ∧ c.2.2.2.1 = none
theorem PreC.blind {vs : List Value} {w0 : va_W} {sz : Nat} : FrameBlind (va_Pc vs (PreC g w0 sz)) := fun a U gf mk q => ⟨q.1, q.2.1, q.2.2.1, Kc.moved (u := U) (U := U.calling gf mk a) rfl q.2.2.2.1, q.2.2.2.2⟩
theorem cr_init (ok : OkC x g A d) {c : Md} {i n q : Nat} {e0 : va_E} {As : List Value} (mc ms : Nat) (st : List Value) (hd : decode d.2.1 pc = .ok (.invokespecial i, 3)) (hc : CalI d c i n) (hst : st = As.reverse ++ .ref q :: rest) (hlen : As.length = n) (hrm : (rest.map fun v => v.category).sum ≤ 8) (hR : c.2.2.2.2.1 + 1 ≤ R.frames ∧ 8 + (c.2.2.1 + 11) + c.2.2.2.2.2 ≤ R.locals) (hcs : k + mc ≤ R.cells ∧ m + ms ≤ R.slots) (kk : MCt l g c mc ms (.ref q :: As) [(q, e0)] (fun w => CW l x g A R d.2.2.1 Q (pc + 3) L rest (ws ++ w) (k + mc) (m + ms))) : CW l x g A R d.2.2.1 Q pc L st (ws ++ [(q, e0)]) k m := fun H locs ls hP hD hS hl => by
  have hm := hc.1
  have hPc := hP.sub (ws' := [(q, e0)]) [ws.length] (by simp)
  have hDc := hD.sub (ws' := [(q, e0)]) [ws.length] rfl (at_last ws (q, e0))
  have hFc := va_free (wc := [(q, e0)]) hD hS ok.2.2.2.2.2.2.1 [ws.length] (at_last ws (q, e0))
  refine va_callv (va_runI (As := As) (rest := rest) ⟨ok.1, ok.2.1, ok.2.2.1, ok.2.2.2.1, ok.2.2.2.2.1⟩ (kk H.size) (cwI n ok.2.2.2.2.1 (gt_good (mdw_in (by rw [hc.2.2.2]; exact hm _ (by simp)))) (by unfold mdw; rw [hc.2.2.2]) rfl rfl (ok.2.2.2.2.1 _ (hm _ (by simp))) (ok.2.2.2.2.1 _ (hm _ (by simp))) (ok.2.2.2.2.1 _ (hm _ (by simp))) hc.2.2.1 hc.2.1 hR) ⟨PreC.blind, fun U hU hW => ⟨rfl, by rw [hU], by rw [hU]; exact hPc, Kc.warm hW ok.2.2.2.2.2.1, hDc.weaken (fun _ _ _ _ => trivial)⟩⟩ rfl hlen hl.1 hst (lv_room hrm) hd hcs) hS (fun q _ h => hFc q h) hFc (fun u t H1 locs1 ht hvm hw hB hz hk hS1 => ?_)
  obtain ⟨hP1, hD1⟩ := hB
  rw [ht] at hP1
  obtain ⟨hP2, hD2⟩ := va_join (wr := ws) (w1 := u) hP hD [ws.length] (List.range ws.length) (at_last ws (q, e0)) (rng_map ws (q, e0)) (nd_of List.nodup_range) (fun i hi h => by simp at hi h; omega) hk hFc hP1 hD1
  exact hw H1 locs1 ls hP2 hD2 hS1 hl
theorem cr_ret (ok : OkC x g A d) {mc ms : Nat} {K : va_W → Prop} (hd : decode d.2.1 pc = .ok (.return_, 1)) (hr : d.2.2.2.1 = none) (hk : K ws) : CW l x g A R d.2.2.1 (QC x g A mc ms K) pc L [] ws mc ms := fun H locs ls hP hD hS hl => W.vret ok.1 ok.2.1 (ok.2.2.2.2.2.2.2.1.trans hr) (fun t ht hW => ⟨⟨ws, rfl, hk, by show va_P _ _ _ _; rw [ht]; exact hP, hD⟩, hS.F ht⟩) hS.2.2 hd ok.2.2.2.2.2.2.2.2.1
theorem cr_eq {ws2 : va_W} {k2 m2 : Nat} (h : ws = ws2) (h1 : k = k2) (h2 : m = m2) {nL : Nat} {st : List Value} (kk : CW l x g A R nL Q pc L st ws2 k2 m2) : CW l x g A R nL Q pc L st ws k m := by
  subst h; subst h1; subst h2; exact kk
/-- a call over a part of the cells: a static method -/
theorem Apart.of {g2 : Geo} {sh : List Shp} {S : Mem} (hD : va_D A (wld g2 sh S)) : Apart g2 sh := fun i j hi hj e => by
  have e1 : (wld g2 sh S)[i]? = some (g2.2.1 i, cE g2 S i sh[i]) := wld_at (List.getElem?_eq_getElem hi)
  have e2 : (wld g2 sh S)[j]? = some (g2.2.1 j, cE g2 S j sh[j]) := wld_at (List.getElem?_eq_getElem hj)
  exact hD.1 i j _ _ e1 e2 e
theorem wld_len {g2 : Geo} {sh : List Shp} {S : Mem} : (wld g2 sh S).length = sh.length := by unfold wld; rw [List.length_mapIdx]
theorem Aw.of {g2 : Geo} {sh : List Shp} {S : Mem} {sz q : Nat} (h : Aw g2 sh q) : va_A (wld g2 sh S) sz q := by
  obtain ⟨i, hi, rfl⟩ := h
  exact Or.inl ⟨i, _, wld_at (List.getElem?_eq_getElem hi)⟩
/-- behind such a call: the cells that it didn't reach, and its own -/
theorem w_join {g2 : Geo} {sh : List Shp} {S S2 : Mem} {wr : va_W} {H H1 : Heap} (hg : g2.1 = g.1) (hP : va_P g.1 vwCl ws H) (hD : va_D A ws) (hF : ∀ q, va_A (wld g2 sh S) H.size q → A q) (isC isR : List Nat) (hC : isC.map (fun i => ws[i]?) = (wld g2 sh S).map some) (hR : isR.map (fun i => ws[i]?) = wr.map some) (hn : va_nd isR = true) (hdis : ∀ i ∈ isR, i ∉ isC) (hap : Apart g2 sh) (hz : H.size ≤ H1.size) (hk : ∀ q : Nat, q < H.size → ¬ Aw g2 sh q → H1[q]? = H[q]?) (hP1 : va_P g2.1 vwCl (wld g2 sh S2) H1) : va_P g.1 vwCl (wr ++ wld g2 sh S2) H1 ∧ va_D A (wr ++ wld g2 sh S2) := by
  rw [hg] at hP1
  refine va_join (wr := wr) (w1 := wld g2 sh S2) hP hD isC isR hC hR hn hdis (fun q h1 h2 => hk q h1 (fun h => h2 (Aw.of h))) hF hP1 ((wld_D hap S2).weaken (fun _ _ _ h => Aw.of h))
theorem cr_statv (ok : OkC x g A d) {c : Md} {i n : Nat} {As : List Value} {g2 : Geo} {sh : List Shp} {S : Mem} {wr : va_W} (isC isR : List Nat) (st : List Value) (hd : decode d.2.1 pc = .ok (.invokestatic i, 3)) (hg : g2.1 = g.1 ∧ g2.2.2 = g.2.2) (hc : ∀ w ∈ ([.methodLink d.1.cls i c.1, .static c.1, .initialized c.1.cls, .code c.1 c.2.1 c.2.2.1 c.2.2.2.1] : List Cond), w ∈ gtbl) (hc2 : c.1.cls ≠ "java/lang/invoke/MethodHandle" ∧ c.1.cls ≠ "java/lang/invoke/VarHandle" ∧ (parseMethodDescriptor c.1.desc).map (fun d => d.parameters.length) = some n) (hst : st = As.reverse ++ rest) (hlen : As.length = n) (hrm : (rest.map fun v => v.category).sum ≤ 8) (hR : c.2.2.2.2.1 + 1 ≤ R.frames ∧ 8 + (c.2.2.1 + 11) + c.2.2.2.2.2 ≤ R.locals) (hcs : k ≤ R.cells ∧ m ≤ R.slots) (hC : isC.map (fun i => ws[i]?) = (wld g2 sh S).map some) (hRr : isR.map (fun i => ws[i]?) = wr.map some) (hn : va_nd isR = true) (hnC : va_nd isC = true) (hdis : ∀ i ∈ isR, i ∉ isC)
    (kk : MWv l g2 sh c As S (fun S2 => CW l x g A R d.2.2.1 Q (pc + 3) L rest (wr ++ wld g2 sh S2) k m)) : CW l x g A R d.2.2.1 Q pc L st ws k m := fun H locs ls hP hD hS hl => by
  obtain ⟨dC, ad, ca⟩ := g2
  obtain ⟨rfl, rfl⟩ : dC = g.1 ∧ ca = g.2.2 := hg
  have hPc : va_P g.1 vwCl (wld (g.1, ad, g.2.2) sh S) H := fun k q hk => by
    have h1 : ((wld (g.1, ad, g.2.2) sh S).map some)[k]? = some (some q) := by rw [List.getElem?_map, hk]; rfl
    rw [← hC, List.getElem?_map] at h1
    cases hi : isC[k]? with
    | none => rw [hi] at h1; cases h1
    | some i => rw [hi] at h1; exact hP i q (Option.some.inj h1)
  have hDc := hD.sub isC hnC hC
  have hap := Apart.of hDc
  have hFc := va_free (wc := wld (g.1, ad, g.2.2) sh S) hD hS ok.2.2.2.2.2.2.1 isC hC
  refine va_callv (va_runS (As := As) (rest := rest) ⟨ok.1, ok.2.1, ok.2.2.1, ok.2.2.2.1, ok.2.2.2.2.1⟩ kk (va_cwS n ok.2.2.2.2.1 (gt_good fun w hw => ?_) rfl rfl rfl hc2 hR) ⟨PreW.blind, fun U hU hW => ⟨rfl, by rw [hU]; exact hPc, (Kc.warm hW ok.2.2.2.2.2.1).1, hap⟩⟩ rfl hlen hl.1 hst (lv_room hrm) hd hcs) hS (fun q _ h => hFc q (Aw.of h)) (fun q h => hFc q (Aw.of h)) (fun u t H1 locs1 ht hvm hw hB hz hk hS1 => ?_)
  · rcases List.mem_append.mp hw with q | q
    · simp only [List.mem_cons, List.not_mem_nil, or_false] at q
      rcases q with rfl | rfl | rfl
      · exact hc _ (by simp)
      · exact hc _ (by simp)
      · exact hc _ (by simp)
    · exact mdw_in (hc _ (by simp)) w q
  · have hP1 : va_P g.1 vwCl (wld (g.1, ad, g.2.2) sh u) t.heap := hB
    rw [ht] at hP1
    obtain ⟨hP2, hD2⟩ := w_join (g2 := (g.1, ad, g.2.2)) (S := S) (S2 := u) rfl hP hD hFc isC isR hC hRr hn hdis hap hz hk hP1
    exact hw H1 locs1 ls hP2 hD2 hS1 hl
theorem cr_virtv (ok : OkC x g A d) {c : Md} {i n kc ci N : Nat} {fs : List (Option Nat)} {T : u_T} {As : List Value} {g2 : Geo} {sh : List Shp} {S : Mem} {wr : va_W} (isC isR : List Nat) (st : List Value) (hd : decode d.2.1 pc = .ok (.invokevirtual i, 3)) (hg : g2.1 = g.1 ∧ g2.2.2 = g.2.2) (hc : ∀ w ∈ ([.methodLink d.1.cls i c.1, .instanceMethod c.1, .selects c.1.cls c.1 c.1, .initialized c.1.cls, .code c.1 c.2.1 c.2.2.1 c.2.2.2.1] : List Cond), w ∈ gtbl) (hc2 : c.1.cls ≠ "java/lang/invoke/MethodHandle" ∧ c.1.cls ≠ "java/lang/invoke/VarHandle" ∧ (parseMethodDescriptor c.1.desc).map (fun d => d.parameters.length) = some n) (hst : st = As.reverse ++ .ref (g2.ad kc) :: rest) (hlen : As.length = n) (hs : sh[kc]? = some (.inr (.inl (ci, fs)))) (hcl : vwCl[ci]? = some (c.1.cls, T, N)) (hrm : (rest.map fun v => v.category).sum ≤ 8) (hR : c.2.2.2.2.1 + 1 ≤ R.frames ∧ 8 + (c.2.2.1 + 11) + c.2.2.2.2.2 ≤ R.locals) (hcs : k ≤ R.cells ∧ m ≤ R.slots) (hC : isC.map (fun i => ws[i]?) = (wld g2 sh S).map some) (hRr : isR.map (fun i => ws[i]?) = wr.map some) (hn : va_nd isR = true) (hnC : va_nd isC = true) (hdis : ∀ i ∈ isR, i ∉ isC)
    (kk : MWv l g2 sh c (.ref (g2.ad kc) :: As) S (fun S2 => CW l x g A R d.2.2.1 Q (pc + 3) L rest (wr ++ wld g2 sh S2) k m)) : CW l x g A R d.2.2.1 Q pc L st ws k m := fun H locs ls hP hD hS hl => by
  obtain ⟨dC, ad, ca⟩ := g2
  obtain ⟨rfl, rfl⟩ : dC = g.1 ∧ ca = g.2.2 := hg
  have hPc : va_P g.1 vwCl (wld (g.1, ad, g.2.2) sh S) H := fun k q hk => by
    have h1 : ((wld (g.1, ad, g.2.2) sh S).map some)[k]? = some (some q) := by rw [List.getElem?_map, hk]; rfl
    rw [← hC, List.getElem?_map] at h1
    cases hi : isC[k]? with
    | none => rw [hi] at h1; cases h1
    | some i => rw [hi] at h1; exact hP i q (Option.some.inj h1)
  have hDc := hD.sub isC hnC hC
  have hap := Apart.of hDc
  have hFc := va_free (wc := wld (g.1, ad, g.2.2) sh S) hD hS ok.2.2.2.2.2.2.1 isC hC
  refine va_callv (va_runV (As := As) (rest := rest) ⟨ok.1, ok.2.1, ok.2.2.1, ok.2.2.2.1, ok.2.2.2.2.1⟩ kk (cwV n ok.2.2.2.2.1 (gt_good fun w hw => ?_) rfl rfl rfl ⟨rfl, hc2⟩ hR) ⟨PreW.blind, va_recv ok.2.2.2.2.2.1.1.1 hPc (ci := ci) (q0 := kc) hcl (wld_at hs), fun U hU hW => ⟨rfl, by rw [hU]; exact hPc, (Kc.warm hW ok.2.2.2.2.2.1).1, hap⟩⟩ rfl hlen hl.1 hst (lv_room hrm) hd hcs) hS (fun q _ h => hFc q (Aw.of h)) (fun q h => hFc q (Aw.of h)) (fun u t H1 locs1 ht hvm hw hB hz hk hS1 => ?_)
  · rcases List.mem_append.mp hw with q | q
    · simp only [List.mem_cons, List.not_mem_nil, or_false] at q
      rcases q with rfl | rfl | rfl | rfl
      · exact hc _ (by simp)
      · exact hc _ (by simp)
      · exact hc _ (by simp)
      · exact hc _ (by simp)
    · exact mdw_in (hc _ (by simp)) w q
  · have hP1 : va_P g.1 vwCl (wld (g.1, ad, g.2.2) sh u) t.heap := hB
    rw [ht] at hP1
    obtain ⟨hP2, hD2⟩ := w_join (g2 := (g.1, ad, g.2.2)) (S := S) (S2 := u) rfl hP hD hFc isC isR hC hRr hn hdis hap hz hk hP1
    exact hw H1 locs1 ls hP2 hD2 hS1 hl
theorem cr_iast (ok : OkC x g A d) {a n : Nat} {f : Nat → Int32} {i v : Int32} (q0 : Nat) (hd : decode d.2.1 pc = .ok (.iastore, 1)) (ha : ws[q0]? = some (a, .inl (g.2.2 0, n, .inl f))) (hi : vp_in i n) (kk : CW l x g A R d.2.2.1 Q (pc + 1) L rest (ws.set q0 (a, .inl (g.2.2 0, n, .inl (upd f (cl i) v)))) k m) : CW l x g A R d.2.2.1 Q pc L (.int v :: .int i :: .ref a :: rest) ws k m := fun H locs ls hP hD hS hl => va_iast ok.1 ok.2.1 ok.2.2.2.2.2.1.1.1 hP hD hS q0 0 ha rfl hi hd (fun H1 locs1 hP1 hD1 hS1 => kk H1 locs1 ls hP1 hD1 hS1 hl)
theorem cr_newq (ok : OkC x g A d) {i : Nat} (N : Nat) (hd : decode d.2.1 pc = .ok (.anewarray i, 3)) (hw : Cond.classLink d.1.cls i "WordsFirst$Room" ∈ gtbl) (hN : N < 2 ^ 31) (hb : N * 4 ≤ 536870912) (hc : k + 1 ≤ R.cells) (hs : m + N ≤ R.slots) (kk : ∀ q : Nat, CW l x g A R d.2.2.1 Q (pc + 3) L (.ref q :: rest) (ws ++ [(q, .inl (g.2.2 2, N, .inr (.inr (.inr (.inr (fun _ => none))))))]) (k + 1) (m + N)) : CW l x g A R d.2.2.1 Q pc L (.int (nI N) :: rest) ws k m := fun H locs ls hP hD hS hl =>
  va_newq ok.1 ok.2.1 ok.2.2.2.1 (ok.2.2.2.2.1 _ hw) ok.2.2.2.2.2.1.2 ok.2.2.2.2.2.1.1.1 hP hD hS ok.2.2.2.2.2.2.1 (fun h => nI_pos hN h) (nI_clamp hN) hb hc hs hd (fun q cA H1 hK1 hP1 hD1 hS1 => by
    have e : cA = g.2.2 2 := RA_one (hK1.2 3 (cA, .object "WordsFirst$Room") rfl).2 (ok.2.2.2.2.2.1.1.1.2 2 (g.2.2 2, .object "WordsFirst$Room") rfl).2
    subst e
    exact kk q H1 locs ls hP1 hD1 hS1 hl)
theorem cr_astq (ok : OkC x g A d) {a n v ci N : Nat} {T : u_T} {vs : List Value} {f : Nat → Option Nat} {i : Int32} (q0 qk : Nat) (hd : decode d.2.1 pc = .ok (.aastore, 1)) (ha : ws[q0]? = some (a, .inl (g.2.2 2, n, .inr (.inr (.inr (.inr f)))))) (hv : ws[qk]? = some (v, .inr (ci, vs))) (hc : vwCl[ci]? = some ("WordsFirst$Room", T, N)) (hi : vp_in i n) (kk : CW l x g A R d.2.2.1 Q (pc + 1) L rest (ws.set q0 (a, .inl (g.2.2 2, n, .inr (.inr (.inr (.inr (va_up f (cl i) (some v)))))))) k m) : CW l x g A R d.2.2.1 Q pc L (.ref v :: .int i :: .ref a :: rest) ws k m := fun H locs ls hP hD hS hl => va_astq (r := ("WordsFirst$Room", T, N)) ok.1 ok.2.1 ok.2.2.2.2.2.1.1.1 hP hD hS q0 2 qk ci ha rfl hv hc hi hd (fun H1 locs1 hP1 hD1 hS1 => kk H1 locs1 ls hP1 hD1 hS1 hl)
end CTOR
