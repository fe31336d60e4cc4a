/-! PART 03: the pure judgement. A world is a fixed list of cells (a shape); its numbers are a memory, cell by place. -/
abbrev Mem : Type := Nat → Nat → Int32
def stf (S : Mem) (k : Nat) (f : Nat → Int32) : Mem := fun a => if a = k then f else S a
def st2 (S : Mem) (k i : Nat) (v : Int32) : Mem := stf S k (upd (S k) i v)
/-- a copy of the first n places of an array -/
def stc (S : Mem) (s1 d1 : Nat) (n : Int32) : Mem := stf S d1 (va_cpy (S s1) (S d1) 0 0 n.toNatClampNeg)
/-- an array of numbers (type, length), an object (class, fields: a number or the cell that it points to), an array of references -/
abbrev Shp : Type := (Nat × Nat) ⊕ ((Nat × List (Option Nat)) ⊕ List Nat)
/-- classes and slots, addresses of the cells, array classes (0 int, 1 boolean, 2 Room) -/
abbrev Geo : Type := va_G × (Nat → Nat) × (Nat → ClassId)
abbrev Geo.ad (g : Geo) (k : Nat) : Nat := g.2.1 k
def cF (g : Geo) (S : Mem) (k j : Nat) (f : Option Nat) : Value := match f with
  | none => .int (S k j)
  | some r => .ref (g.2.1 r)
def cE (g : Geo) (S : Mem) (k : Nat) (c : Shp) : va_E := match c with
  | .inl (t, n) => .inl (g.2.2 t, n, .inl (S k))
  | .inr (.inl (ci, fs)) => .inr (ci, fs.mapIdx (cF g S k))
  | .inr (.inr rs) => .inl (g.2.2 2, rs.length, .inr (.inr (.inr (.inr (fun j => (rs[j]?).map g.2.1)))))
def wld (g : Geo) (sh : List Shp) (S : Mem) : va_W := sh.mapIdx (fun k c => (g.2.1 k, cE g S k c))
theorem wld_at {g : Geo} {sh : List Shp} {S : Mem} {k : Nat} {c : Shp} (h : sh[k]? = some c) : (wld g sh S)[k]? = some (g.2.1 k, cE g S k c) := by
  simp [wld, h]
theorem fld_at {g : Geo} {S : Mem} {k j : Nat} {fs : List (Option Nat)} {f : Option Nat} (h : fs[j]? = some f) : (fs.mapIdx (cF g S k))[j]? = some (cF g S k j f) := by
  simp [h]
theorem stf_same {S : Mem} {k : Nat} {f : Nat → Int32} : stf S k f k = f := by simp [stf]
theorem stf_off {S : Mem} {k a : Nat} {f : Nat → Int32} (h : a ≠ k) : stf S k f a = S a := by simp [stf, h]
theorem st2_same {S : Mem} {k i : Nat} {v : Int32} : st2 S k i v k = upd (S k) i v := stf_same
theorem st2_off {S : Mem} {k i a : Nat} {v : Int32} (h : a ≠ k) : st2 S k i v a = S a := stf_off h
theorem wld_stf {g : Geo} {sh : List Shp} {S : Mem} {k t n : Nat} {f : Nat → Int32} (h : sh[k]? = some (.inl (t, n))) : (wld g sh S).set k (g.2.1 k, .inl (g.2.2 t, n, .inl f)) = wld g sh (stf S k f) := by
  apply List.ext_getElem?
  intro a
  rw [List.getElem?_set]
  by_cases ha : k = a
  · subst ha
    have hl : k < (wld g sh S).length := by
      have := (List.getElem?_eq_some_iff.mp h).1
      simpa [wld] using this
    rw [wld_at (S := stf S k f) h]
    simp [hl, cE, stf_same, wld_at h]
  · simp only [ha, if_false]
    simp only [wld, List.getElem?_mapIdx]
    cases hs : sh[a]? with
    | none => rfl
    | some c =>
      simp only [Option.map_some, Option.some.injEq, Prod.mk.injEq, true_and]
      rcases c with ⟨t', n'⟩ | ⟨ci, fs⟩ | rs
      · simp [cE, stf_off (Ne.symm ha)]
      · simp only [cE]
        congr 2
        apply List.ext_getElem?
        intro b
        simp only [List.getElem?_mapIdx]
        cases fs[b]? with
        | none => rfl
        | some fo => cases fo <;> simp [cF, stf_off (Ne.symm ha)]
      · rfl
theorem wld_arr {g : Geo} {sh : List Shp} {S : Mem} {k i t n : Nat} {v : Int32} (h : sh[k]? = some (.inl (t, n))) : (wld g sh S).set k (g.2.1 k, .inl (g.2.2 t, n, .inl (upd (S k) i v))) = wld g sh (st2 S k i v) := wld_stf h
theorem wld_fld {g : Geo} {sh : List Shp} {S : Mem} {k j ci : Nat} {fs : List (Option Nat)} {v : Int32} (h : sh[k]? = some (.inr (.inl (ci, fs)))) (hj : fs[j]? = some none) : (wld g sh S).set k (g.2.1 k, .inr (ci, (fs.mapIdx (cF g S k)).set j (.int v))) = wld g sh (st2 S k j v) := by
  apply List.ext_getElem?
  intro a
  rw [List.getElem?_set]
  by_cases ha : k = a
  · subst ha
    have hl : k < (wld g sh S).length := by
      have := (List.getElem?_eq_some_iff.mp h).1
      simpa [wld] using this
    rw [wld_at (S := st2 S k j v) h]
    simp only [hl, if_true, cE, Option.map_some, wld_at h, Option.some.injEq, Prod.mk.injEq, true_and]
    congr 2
    apply List.ext_getElem?
    intro b
    rw [List.getElem?_set]
    simp only [List.getElem?_mapIdx, List.length_mapIdx]
    by_cases hb : j = b
    · subst hb
      have hl2 := (List.getElem?_eq_some_iff.mp hj).1
      have hj2 := (List.getElem?_eq_some_iff.mp hj).2
      simp [hl2, hj2, cF, st2_same, upd]
    · simp only [hb, if_false]
      cases fs[b]? with
      | none => rfl
      | some f => cases f <;> simp [cF, st2_same, upd, Ne.symm hb]
  · simp only [ha, if_false]
    simp only [wld, List.getElem?_mapIdx]
    cases hs : sh[a]? with
    | none => rfl
    | some c =>
      simp only [Option.map_some, Option.some.injEq, Prod.mk.injEq, true_and]
      rcases c with ⟨t', n'⟩ | ⟨ci', fs'⟩ | rs
      · simp [cE, st2_off (Ne.symm ha)]
      · simp only [cE]
        congr 2
        apply List.ext_getElem?
        intro b
        simp only [List.getElem?_mapIdx]
        cases fs'[b]? with
        | none => rfl
        | some f => cases f <;> simp [cF, st2_off (Ne.symm ha)]
      · rfl
def Aw (g : Geo) (sh : List Shp) : Nat → Prop := fun q => ∃ k, k < sh.length ∧ q = g.2.1 k
def Apart (g : Geo) (sh : List Shp) : Prop := ∀ i j, i < sh.length → j < sh.length → g.2.1 i = g.2.1 j → i = j
theorem wld_D {g : Geo} {sh : List Shp} (h : Apart g sh) (S : Mem) : va_D (Aw g sh) (wld g sh S) := by
  have hl : ∀ (k : Nat) (q : Nat × va_E), (wld g sh S)[k]? = some q → k < sh.length ∧ q.1 = g.2.1 k := by
    intro k q hk
    simp only [wld, List.getElem?_mapIdx] at hk
    cases hs : sh[k]? with
    | none => simp [hs] at hk
    | some c =>
      simp only [hs, Option.map_some, Option.some.injEq] at hk
      exact ⟨(List.getElem?_eq_some_iff.mp hs).1, by rw [← hk]⟩
  refine ⟨fun i j p q hi hj e => ?_, fun k q hk => ?_⟩
  · obtain ⟨a1, a2⟩ := hl i p hi
    obtain ⟨b1, b2⟩ := hl j q hj
    exact h i j a1 b1 (by rw [← a2, ← b2]; exact e)
  · obtain ⟨a1, a2⟩ := hl k q hk
    exact ⟨k, a1, a2⟩
/-! the words: all good ones of the tables -/
def gtbl : List Cond := lw_tbl.filter goodWord
theorem gt_in {w : Cond} (h : w ∈ lw_tbl) (hg : goodWord w = true) : w ∈ gtbl := List.mem_filter.mpr ⟨h, hg⟩
theorem gt_good {ws : List Cond} (h : ∀ w ∈ ws, w ∈ gtbl) : GoodIn gtbl ws := fun w hw => ⟨h w hw, good_of_word (List.mem_filter.mp (h w hw)).2⟩
/-- links of nest mates -/
def nests : List (String × Nat × MethodName × String) := lw_tbl.filterMap (fun w => match w with
  | .methodLinkNest a i y h => some (a, i, y, h)
  | _ => none)
def NwAll (U : State) : Prop := ∀ q ∈ nests, va_Nw (.methodLinkNest q.1 q.2.1 q.2.2.1 q.2.2.2) U
theorem NwAll.warm {s U : State} (hW : s.WarmedH U.vm) (h : NwAll s) : NwAll U := fun q hq => va_Nw.warmM hW (h q hq)
abbrev tysG (g : Geo) : List (ClassId × FieldType) := [(g.2.2 0, .int), (g.2.2 1, .boolean), (g.2.2 2, .object "WordsFirst$Room")]
def Kn (g : Geo) (U : State) : Prop := va_K g.1 vwCl (tysG g) U ∧ NwAll U
/-! methods: name, code, locals, return, frames, locals' room -/
abbrev Md : Type := MethodName × ByteArray × Nat × Option FieldType × Nat × Nat
def mdw (d : Md) : List Cond := Cond.code d.1 d.2.1 d.2.2.1 d.2.2.2.1 :: gtbl
def mdr (d : Md) : Room := { frames := d.2.2.2.2.1, cells := 0, slots := 0, locals := d.2.2.2.2.2 }
def PreW (g : Geo) (sh : List Shp) (S : Mem) (U : State) : Prop := va_P g.1 vwCl (wld g sh S) U.heap ∧ Kn g U ∧ Apart g sh
def PstW (g : Geo) (sh : List Shp) (S : Mem) (t : State) : Prop := va_P g.1 vwCl (wld g sh S) t.heap
/-- method d, called with these values over memory S, returns; then K -/
def MWi (l : Launch) (g : Geo) (sh : List Shp) (d : Md) (vs : List Value) (S : Mem) (K : Int32 → Mem → Prop) : Prop := Met l d.1 (mdw d) (mdr d) (va_Pc vs (PreW g sh S)) (va_Qi K (PstW g sh) (Aw g sh)) 0 0 (Aw g sh)
def MWl (l : Launch) (g : Geo) (sh : List Shp) (d : Md) (vs : List Value) (S : Mem) (K : Int64 → Mem → Prop) : Prop := Met l d.1 (mdw d) (mdr d) (va_Pc vs (PreW g sh S)) (va_Ql K (PstW g sh) (Aw g sh)) 0 0 (Aw g sh)
def MWv (l : Launch) (g : Geo) (sh : List Shp) (d : Md) (vs : List Value) (S : Mem) (K : Mem → Prop) : Prop := Met l d.1 (mdw d) (mdr d) (va_Pc vs (PreW g sh S)) (va_Qv K (PstW g sh) (Aw g sh)) 0 0 (Aw g sh)
abbrev Cx : Type := Program × Env × State × MethodId × Array Value × List Frame × Method × Code
abbrev Cx.p (x : Cx) : Program := x.1
abbrev Cx.e (x : Cx) : Env := x.2.1
abbrev Cx.s (x : Cx) : State := x.2.2.1
abbrev Cx.m (x : Cx) : MethodId := x.2.2.2.1
abbrev Cx.a (x : Cx) : Array Value := x.2.2.2.2.1
abbrev Cx.b (x : Cx) : List Frame := x.2.2.2.2.2.1
abbrev Cx.h (x : Cx) : Method := x.2.2.2.2.2.2.1
abbrev Cx.c (x : Cx) : Code := x.2.2.2.2.2.2.2
/-- what holds at a body of method d -/
def Ok (x : Cx) (g : Geo) (sh : List Shp) (d : Md) : Prop := x.p.tables.exec = Jvm.exec ∧ x.c.code = d.2.1 ∧ x.c.maxLocals = d.2.2.1 ∧ x.s.vm.findClass d.1.cls = some x.m.cls ∧ (∀ w ∈ gtbl, w.before x.a x.s = true) ∧ Kn g x.s ∧ Apart g sh ∧ x.h.sig.returnType = d.2.2.2.1 ∧ x.h.locks = false
/-- the machine, at pc of method d with these locals and this stack over memory S, comes to a state with Q -/
def PW (l : Launch) (x : Cx) (g : Geo) (sh : List Shp) (d : Md) (Q : State → Prop) (pc : Nat) (L : List (Nat × Value)) (st : List Value) (S : Mem) : Prop :=
  ∀ (H : Heap) (locs : List Loc) (ls : Array Slot), va_P g.1 vwCl (wld g sh S) H → va_S (Aw g sh) x.s.heap H locs → lv_has ls d.2.2.1 L → W x.p l x.e (mdr d) x.s x.m x.a x.b x.h x.c H locs 0 0 Q (F0 x.m pc ls st)
def Qi (x : Cx) (g : Geo) (sh : List Shp) (K : Int32 → Mem → Prop) : State → Prop := MQ x.b (va_Qi K (PstW g sh) (Aw g sh)) x.a x.s 0 0 (Aw g sh)
def Ql (x : Cx) (g : Geo) (sh : List Shp) (K : Int64 → Mem → Prop) : State → Prop := MQ x.b (va_Ql K (PstW g sh) (Aw g sh)) x.a x.s 0 0 (Aw g sh)
def Qv (x : Cx) (g : Geo) (sh : List Shp) (K : Mem → Prop) : State → Prop := MQ x.b (va_Qv K (PstW g sh) (Aw g sh)) x.a x.s 0 0 (Aw g sh)
theorem PreW.moved {g : Geo} {sh : List Shp} {S : Mem} {u U : State} (hh : U.heap = u.heap) (hW : u.vm = U.vm) (h : PreW g sh S u) : PreW g sh S U := by
  obtain ⟨h1, ⟨h2, h3⟩, h4⟩ := h
  refine ⟨by rw [hh]; exact h1, ⟨va_K.moved (by rw [hW]; exact Vm.Alike.refl _) h2, fun q hq => va_Nw.same rfl hW (h3 q hq)⟩, h4⟩
