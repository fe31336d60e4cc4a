/-! PART 69: the law: two worlds side by side -/
abbrev m_L : Md := (yL_law, cL_law, 4, some .boolean, 11, 444)
def OkL (x : Cx) (gX gM : Geo) (b N : Nat) (xs : Nat → Int32) : Prop := x.p.tables.exec = Jvm.exec ∧ x.c.code = code ∧ x.c.maxLocals = 4 ∧ x.s.vm.findClass RL = some x.m.cls ∧ (∀ w ∈ gtbl, w.before x.a x.s = true) ∧ Kc gX x.s ∧ Kc gM x.s ∧ (Apart gX shX ∧ Apart gM shM ∧ (∀ i j, i < 76 → j < 23 → gX.ad i ≠ gM.ad j) ∧ (∀ i, i < 76 → x.s.heap.size ≤ gX.ad i) ∧ ∀ j, j < 23 → x.s.heap.size ≤ gM.ad j) ∧ va_X b N xs x.s x.s.heap ∧ b < x.s.heap.size ∧ N ≤ 2048
/-- the machine, at pc of the law with these locals and this stack over both memories, comes to a state with Q -/
def LW (l : Launch) (x : Cx) (gX gM : Geo) (Q : State → Prop) (pc : Nat) (L : List (Nat × Value)) (st : List Value) (SX SM : Mem) : Prop := ∀ (H : Heap) (locs : List Loc) (ls : Array Slot), va_P gX.1 vwCl (wld gX shX SX) H → va_P gM.1 vwCl (wld gM shM SM) H → va_S (fun q => x.s.heap.size ≤ q) x.s.heap H locs → lv_has ls 4 L → W x.p l x.e room_1 x.s x.m x.a x.b x.h x.c H locs 99 60301 Q (F0 x.m pc ls st)
abbrev fX0 : List (Option Nat) := [some 1, some 3, some 18, some 25, some 27, some 31, some 35, some 39, some 44, some 45]
abbrev fM0 : List (Option Nat) := [some 1, some 2, some 3, some 4, none, some 5, none, none, some 6, some 7, some 8, some 9, some 10, some 11, none, none, some 12, some 13, some 14, some 15, some 16, some 17, none, some 18, some 19, some 20, none, some 21, some 22, none, none]
theorem shX_len : shX.length = 76 := by decide +kernel
theorem shM_len : shM.length = 23 := by decide +kernel
theorem wld_in {g : Geo} {sh : List Shp} {S : Mem} {k : Nat} {q : Nat × va_E} (h : (wld g sh S)[k]? = some q) : k < sh.length ∧ q.1 = g.ad k := by
  unfold wld at h
  rw [List.getElem?_mapIdx] at h
  cases hs : sh[k]? with
  | none => rw [hs] at h; cases h
  | some c =>
    rw [hs] at h
    cases h
    exact ⟨(List.getElem?_eq_some_iff.mp hs).1, rfl⟩
theorem lg_same (a : Int64) : lg_cmp a a = 0 := by
  unfold lg_cmp
  rw [if_neg (by rw [gt_iff_lt, Int64.lt_iff_toInt_lt]; omega), if_pos rfl]
section LAWR
variable {l : Launch} {x : Cx} {gX gM : Geo} {b N : Nat} {xs : Nat → Int32} {Q : State → Prop} {pc : Nat} {L : List (Nat × Value)} {rest : List Value} {SX SM : Mem}
theorem lr_aload (ok : OkL x gX gM b N xs) {j : Fin 4} {a : Nat} (q : Nat) (hd : decode code pc = .ok (.aload_n j, 1)) (hq : L[q]? = some ((j : Nat), .ref a)) (kk : LW l x gX gM Q (pc + 1) L (.ref a :: rest) SX SM) : LW l x gX gM Q pc L rest SX SM := fun H locs ls hP hM hS hl => lv_aload_n ok.1 ok.2.1 hd rfl (lv_at hl q hq) (kk H locs ls hP hM hS hl)
theorem lr_iload (ok : OkL x gX gM b N xs) {j : Fin 4} {a : Int32} (q : Nat) (hd : decode code pc = .ok (.iload_n j, 1)) (hq : L[q]? = some ((j : Nat), .int a)) (kk : LW l x gX gM Q (pc + 1) L (.int a :: rest) SX SM) : LW l x gX gM Q pc L rest SX SM := fun H locs ls hP hM hS hl => lv_iload_n ok.1 ok.2.1 hd rfl (lv_at hl q hq) (kk H locs ls hP hM hS hl)
theorem lr_iconst (ok : OkL x gX gM b N xs) {n : Int} (v : Int32) (hd : decode code pc = .ok (.iconst n, 1)) (hv : Int32.ofInt n = v) (kk : LW l x gX gM Q (pc + 1) L (.int v :: rest) SX SM) : LW l x gX gM Q pc L rest SX SM := fun H locs ls hP hM hS hl => lv_iconst ok.1 ok.2.1 hd hv (kk H locs ls hP hM hS hl)
theorem lr_bipush (ok : OkL x gX gM b N xs) {n : Int} (v : Int32) (hd : decode code pc = .ok (.bipush n, 2)) (hv : (Int8.ofInt n).toInt32 = v) (kk : LW l x gX gM Q (pc + 2) L (.int v :: rest) SX SM) : LW l x gX gM Q pc L rest SX SM := fun H locs ls hP hM hS hl => lv_bipush ok.1 ok.2.1 hd hv (kk H locs ls hP hM hS hl)
theorem lr_iadd (ok : OkL x gX gM b N xs) {a c : Int32} (hd : decode code pc = .ok (.iadd, 1)) (kk : LW l x gX gM Q (pc + 1) L (.int (a + c) :: rest) SX SM) : LW l x gX gM Q pc L (.int c :: .int a :: rest) SX SM := fun H locs ls hP hM hS hl => lv_iadd ok.1 ok.2.1 hd (kk H locs ls hP hM hS hl)
theorem lr_isub (ok : OkL x gX gM b N xs) {a c : Int32} (hd : decode code pc = .ok (.isub, 1)) (kk : LW l x gX gM Q (pc + 1) L (.int (a - c) :: rest) SX SM) : LW l x gX gM Q pc L (.int c :: .int a :: rest) SX SM := fun H locs ls hP hM hS hl => lv_isub ok.1 ok.2.1 hd (kk H locs ls hP hM hS hl)
theorem lr_iand (ok : OkL x gX gM b N xs) {a c : Int32} (hd : decode code pc = .ok (.iand, 1)) (kk : LW l x gX gM Q (pc + 1) L (.int (a &&& c) :: rest) SX SM) : LW l x gX gM Q pc L (.int c :: .int a :: rest) SX SM := fun H locs ls hP hM hS hl => lv_iand ok.1 ok.2.1 hd (kk H locs ls hP hM hS hl)
theorem lr_iald (ok : OkL x gX gM b N xs) {v : Int32} (j : Nat) (hv : v = nI j) (hj : j < N) (hd : decode code pc = .ok (.iaload, 1)) (kk : LW l x gX gM Q (pc + 1) L (.int (xs j) :: rest) SX SM) : LW l x gX gM Q pc L (.int v :: .ref b :: rest) SX SM := fun H locs ls hP hM hS hl => by
  obtain ⟨k1, k2, k3, k4, k5, k6, k7, k8, k9, k10, k11⟩ := ok
  subst hv
  refine va_sld k1 k2 k9 k10 (A := fun q => x.s.heap.size ≤ q) (Nat.not_le.mpr k10) hS (inI hj (by omega)) hd ?_
  rw [nI_clamp (by omega)]
  exact kk H locs ls hP hM hS hl
theorem lr_alen (ok : OkL x gX gM b N xs) (hd : decode code pc = .ok (.arraylength, 1)) (kk : LW l x gX gM Q (pc + 1) L (.int (nI N) :: rest) SX SM) : LW l x gX gM Q pc L (.ref b :: rest) SX SM := fun H locs ls hP hM hS hl => by
  obtain ⟨k1, k2, k3, k4, k5, k6, k7, k8, k9, k10, k11⟩ := ok
  exact va_slen k1 k2 k9 k10 (A := fun q => x.s.heap.size ≤ q) (Nat.not_le.mpr k10) hS hd (kk H locs ls hP hM hS hl)
theorem lr_gt (ok : OkL x gX gM b N xs) {a c : Int32} {off : Int} (tgt : Nat) (hd : decode code pc = .ok (.if_icmp .gt off, 3)) (ht : (pc : Int) + off = (tgt : Int)) (kk : (c < a → LW l x gX gM Q tgt L rest SX SM) ∧ (¬ c < a → LW l x gX gM Q (pc + 3) L rest SX SM)) : LW l x gX gM Q pc L (.int c :: .int a :: rest) SX SM := fun H locs ls hP hM hS hl => lv_icmp_gt ok.1 ok.2.1 hd ht (fun z => kk.1 z H locs ls hP hM hS hl) (fun z => kk.2 z H locs ls hP hM hS hl)
theorem lr_if0 (ok : OkL x gX gM b N xs) {a : Int32} {off : Int} (tgt : Nat) (hd : decode code pc = .ok (.ifCond .eq off, 3)) (ht : (pc : Int) + off = (tgt : Int)) (kk : (a = 0 → LW l x gX gM Q tgt L rest SX SM) ∧ (¬ a = 0 → LW l x gX gM Q (pc + 3) L rest SX SM)) : LW l x gX gM Q pc L (.int a :: rest) SX SM := fun H locs ls hP hM hS hl => lv_if_eq ok.1 ok.2.1 hd ht (fun z => kk.1 z H locs ls hP hM hS hl) (fun z => kk.2 z H locs ls hP hM hS hl)
theorem lr_eqI (ok : OkL x gX gM b N xs) {a : Int32} {off : Int} (tgt : Nat) (hd : decode code pc = .ok (.if_icmp .eq off, 3)) (ht : (pc : Int) + off = (tgt : Int)) (kk : LW l x gX gM Q tgt L rest SX SM) : LW l x gX gM Q pc L (.int a :: .int a :: rest) SX SM := fun H locs ls hP hM hS hl => lv_icmp_eq ok.1 ok.2.1 hd ht (fun _ => kk H locs ls hP hM hS hl) (fun z => absurd rfl z)
theorem lr_eqL (ok : OkL x gX gM b N xs) {a : Int64} {off : Int} (tgt : Nat) (hd : decode code pc = .ok (.lcmp, 1)) (hd2 : decode code (pc + 1) = .ok (.ifCond .eq off, 3)) (ht : ((pc + 1 : Nat) : Int) + off = (tgt : Int)) (kk : LW l x gX gM Q tgt L rest SX SM) : LW l x gX gM Q pc L (.long a :: .long a :: rest) SX SM := fun H locs ls hP hM hS hl => W.lcmp ok.1 ok.2.1 hd (lv_if_eq ok.1 ok.2.1 hd2 ht (fun _ => kk H locs ls hP hM hS hl) (fun z => absurd (lg_same a) z))
theorem lr_goto (ok : OkL x gX gM b N xs) {off : Int} (tgt : Nat) (hd : decode code pc = .ok (.goto off, 3)) (ht : (pc : Int) + off = (tgt : Int)) (kk : LW l x gX gM Q tgt L rest SX SM) : LW l x gX gM Q pc L rest SX SM := fun H locs ls hP hM hS hl => lv_goto ok.1 ok.2.1 hd ht (kk H locs ls hP hM hS hl)
theorem lr_iinc (ok : OkL x gX gM b N xs) {j : Nat} {n : Int} {a : Int32} (q : Nat) (v : Int32) (L2 : List (Nat × Value)) (hd : decode code pc = .ok (.iinc j n, 3)) (hq : L[q]? = some (j, .int a)) (hv : a + Int32.ofInt n = v) (hn : j < 4) (hl2 : (j, Value.int v) :: L.filter (fun q => !(q.1 == j) && !(q.1 + 1 == j && q.2.category == 2)) = L2) (kk : LW l x gX gM Q (pc + 3) L2 rest SX SM) : LW l x gX gM Q pc L rest SX SM := fun H locs ls hP hM hS hl => lv_iinc ok.1 ok.2.1 hd hl hq hv hn hl2 (fun ls2 hl2 => kk H locs ls2 hP hM hS hl2)
theorem lr_sub (ks : List Nat) (L2 : List (Nat × Value)) (h : lv_pick L ks = L2) (kk : LW l x gX gM Q pc L2 rest SX SM) : LW l x gX gM Q pc L rest SX SM := fun H locs ls hP hM hS hl => kk H locs ls hP hM hS (lv_sub hl ks h)
theorem lr_table (ok : OkL x gX gM b N xs) {a : Int32} {df lo hi off : Int} {offs : Array Int} {len : Nat} (tgt : Nat) (hd : decode code pc = .ok (.tableswitch df lo hi offs, len)) (h1 : ¬ a.toInt < lo) (h2 : ¬ hi < a.toInt) (ho : offs[(a.toInt - lo).toNat]? = some off) (ht : (pc : Int) + off = (tgt : Int)) (kk : LW l x gX gM Q tgt L rest SX SM) : LW l x gX gM Q pc L (.int a :: rest) SX SM := fun H locs ls hP hM hS hl => lv_tableIn ok.1 ok.2.1 hd h1 h2 ho ht (kk H locs ls hP hM hS hl)
/-- a number of the script -/
theorem lr_scr (ok : OkL x gX gM b N xs) {i j : Nat} {n : Int} (hi : i + j < N) (h0 : L[0]? = some (0, .ref b)) (h3 : L[3]? = some (3, .int (nI i))) (d1 : decode code pc = .ok (.aload_n 0, 1)) (d2 : decode code (pc + 1) = .ok (.iload_n 3, 1)) (d3 : decode code (pc + 1 + 1) = .ok (.iconst n, 1)) (hv : Int32.ofInt n = nI j) (d4 : decode code (pc + 1 + 1 + 1) = .ok (.iadd, 1)) (d5 : decode code (pc + 1 + 1 + 1 + 1) = .ok (.iaload, 1)) (kk : LW l x gX gM Q (pc + 1 + 1 + 1 + 1 + 1) L (.int (xs (i + j)) :: rest) SX SM) : LW l x gX gM Q pc L rest SX SM :=
  lr_aload ok 0 d1 h0 (lr_iload ok 3 d2 h3 (lr_iconst ok (nI j) d3 hv (lr_iadd ok d4 (lr_iald ok (i + j) (nI_add i j) hi d5 kk))))
theorem lr_cw (ok : OkL x gX gM b N xs) {c : Md} {i n : Nat} (h : CalV m_L c i n) : CallW room_1 x.s x.a RL c.1.cls i c.1 c.2.1 c.2.2.1 c.2.2.2.1 (mdw c) (mdr c) 0 0 n := by
  have hm := h.1
  refine cwV n ok.2.2.2.2.1 (gt_good fun w hw => ?_) rfl rfl rfl ⟨rfl, h.2.1⟩ h.2.2
  rcases List.mem_append.mp hw with q | q
  · simp only [List.mem_cons, List.not_mem_nil, or_false] at q
    rcases q with rfl | rfl | rfl | rfl
    · exact hm _ List.mem_cons_self
    · exact hm _ (by simp)
    · exact hm _ (by simp)
    · exact hm _ (by simp)
  · exact mdw_in (hm _ (by simp)) w q
theorem inX (ok : OkL x gX gM b N xs) {q : Nat} (h : Aw gX shX q) : x.s.heap.size ≤ q := by
  obtain ⟨i, hi, rfl⟩ := h
  rw [shX_len] at hi
  exact ok.2.2.2.2.2.2.2.1.2.2.2.1 i hi
theorem inM (ok : OkL x gX gM b N xs) {q : Nat} (h : Aw gM shM q) : x.s.heap.size ≤ q := by
  obtain ⟨i, hi, rfl⟩ := h
  rw [shM_len] at hi
  exact ok.2.2.2.2.2.2.2.1.2.2.2.2 i hi
theorem keepM (ok : OkL x gX gM b N xs) {H H1 : Heap} (hM : va_P gM.1 vwCl (wld gM shM SM) H) (hk : ∀ q : Nat, q < H.size → ¬ Aw gX shX q → H1[q]? = H[q]?) : va_P gM.1 vwCl (wld gM shM SM) H1 := hM.kept (fun k q hq => hk q.1 (hM k q hq).lt (fun h => by
  obtain ⟨h1, h2⟩ := wld_in hq
  obtain ⟨i, hi, e⟩ := h
  rw [shX_len] at hi
  rw [shM_len] at h1
  rw [h2] at e
  exact ok.2.2.2.2.2.2.2.1.2.2.1 i k hi h1 e.symm))
theorem keepX (ok : OkL x gX gM b N xs) {H H1 : Heap} (hP : va_P gX.1 vwCl (wld gX shX SX) H) (hk : ∀ q : Nat, q < H.size → ¬ Aw gM shM q → H1[q]? = H[q]?) : va_P gX.1 vwCl (wld gX shX SX) H1 := hP.kept (fun k q hq => hk q.1 (hP k q hq).lt (fun h => by
  obtain ⟨h1, h2⟩ := wld_in hq
  obtain ⟨i, hi, e⟩ := h
  rw [shM_len] at hi
  rw [shX_len] at h1
  rw [h2] at e
  exact ok.2.2.2.2.2.2.2.1.2.2.1 k i h1 hi e))
theorem lr_xi (ok : OkL x gX gM b N xs) {c : Md} {i n Nc : Nat} {T : u_T} {As : List Value} (st : List Value) (hd : decode code pc = .ok (.invokevirtual i, 3)) (hc : CalV m_L c i n) (hst : st = As.reverse ++ .ref (gX.ad 0) :: rest) (hlen : As.length = n) (hcl : vwCl[11]? = some (c.1.cls, T, Nc)) (hrm : (rest.map fun v => v.category).sum ≤ 8) (kk : MWi l gX shX c (.ref (gX.ad 0) :: As) SX (fun r S2 => LW l x gX gM Q (pc + 3) L (.int r :: rest) S2 SM)) : LW l x gX gM Q pc L st SX SM := fun H locs ls hP hM hS hl =>
  va_calli (va_runV (As := As) (rest := rest) ⟨ok.1, ok.2.1, ok.2.2.1, ok.2.2.2.1, ok.2.2.2.2.1⟩ kk (lr_cw ok hc) ⟨PreW.blind, va_recv ok.2.2.2.2.2.1.1.1 hP (ci := 11) (q0 := 0) hcl (wld_at (c := .inr (.inl (11, fX0))) rfl), fun U hU hW => ⟨rfl, by rw [hU]; exact hP, (Kc.warm hW ok.2.2.2.2.2.1).1, ok.2.2.2.2.2.2.2.1.1⟩⟩ rfl hlen hl.1 hst (lv_room hrm) hd ⟨Nat.le_of_ble_eq_true rfl, Nat.le_of_ble_eq_true rfl⟩) hS (fun q _ h => inX ok h) (fun q h => inX ok h) (fun r u t H1 locs1 ht hvm hw hB hz hk hS1 => hw H1 locs1 ls (by have h := hB; unfold PstW at h; rw [ht] at h; exact h) (keepM ok hM hk) hS1 hl)
theorem lr_xl (ok : OkL x gX gM b N xs) {c : Md} {i n Nc : Nat} {T : u_T} {As : List Value} (st : List Value) (hd : decode code pc = .ok (.invokevirtual i, 3)) (hc : CalV m_L c i n) (hst : st = As.reverse ++ .ref (gX.ad 0) :: rest) (hlen : As.length = n) (hcl : vwCl[11]? = some (c.1.cls, T, Nc)) (hrm : (rest.map fun v => v.category).sum ≤ 8) (kk : MWl l gX shX c (.ref (gX.ad 0) :: As) SX (fun r S2 => LW l x gX gM Q (pc + 3) L (.long r :: rest) S2 SM)) : LW l x gX gM Q pc L st SX SM := fun H locs ls hP hM hS hl =>
  va_calll (va_runV (As := As) (rest := rest) ⟨ok.1, ok.2.1, ok.2.2.1, ok.2.2.2.1, ok.2.2.2.2.1⟩ kk (lr_cw ok hc) ⟨PreW.blind, va_recv ok.2.2.2.2.2.1.1.1 hP (ci := 11) (q0 := 0) hcl (wld_at (c := .inr (.inl (11, fX0))) rfl), fun U hU hW => ⟨rfl, by rw [hU]; exact hP, (Kc.warm hW ok.2.2.2.2.2.1).1, ok.2.2.2.2.2.2.2.1.1⟩⟩ rfl hlen hl.1 hst (lv_room hrm) hd ⟨Nat.le_of_ble_eq_true rfl, Nat.le_of_ble_eq_true rfl⟩) hS (fun q _ h => inX ok h) (fun q h => inX ok h) (fun r u t H1 locs1 ht hvm hw hB hz hk hS1 => hw H1 locs1 ls (by have h := hB; unfold PstW at h; rw [ht] at h; exact h) (keepM ok hM hk) hS1 hl)
theorem lr_mi (ok : OkL x gX gM b N xs) {c : Md} {i n Nc : Nat} {T : u_T} {As : List Value} (st : List Value) (hd : decode code pc = .ok (.invokevirtual i, 3)) (hc : CalV m_L c i n) (hst : st = As.reverse ++ .ref (gM.ad 0) :: rest) (hlen : As.length = n) (hcl : vwCl[12]? = some (c.1.cls, T, Nc)) (hrm : (rest.map fun v => v.category).sum ≤ 8) (kk : MWi l gM shM c (.ref (gM.ad 0) :: As) SM (fun r S2 => LW l x gX gM Q (pc + 3) L (.int r :: rest) SX S2)) : LW l x gX gM Q pc L st SX SM := fun H locs ls hP hM hS hl =>
  va_calli (va_runV (As := As) (rest := rest) ⟨ok.1, ok.2.1, ok.2.2.1, ok.2.2.2.1, ok.2.2.2.2.1⟩ kk (lr_cw ok hc) ⟨PreW.blind, va_recv ok.2.2.2.2.2.2.1.1.1 hM (ci := 12) (q0 := 0) hcl (wld_at (c := .inr (.inl (12, fM0))) rfl), fun U hU hW => ⟨rfl, by rw [hU]; exact hM, (Kc.warm hW ok.2.2.2.2.2.2.1).1, ok.2.2.2.2.2.2.2.1.2.1⟩⟩ rfl hlen hl.1 hst (lv_room hrm) hd ⟨Nat.le_of_ble_eq_true rfl, Nat.le_of_ble_eq_true rfl⟩) hS (fun q _ h => inM ok h) (fun q h => inM ok h) (fun r u t H1 locs1 ht hvm hw hB hz hk hS1 => hw H1 locs1 ls (keepX ok hP hk) (by have h := hB; unfold PstW at h; rw [ht] at h; exact h) hS1 hl)
theorem lr_ml (ok : OkL x gX gM b N xs) {c : Md} {i n Nc : Nat} {T : u_T} {As : List Value} (st : List Value) (hd : decode code pc = .ok (.invokevirtual i, 3)) (hc : CalV m_L c i n) (hst : st = As.reverse ++ .ref (gM.ad 0) :: rest) (hlen : As.length = n) (hcl : vwCl[12]? = some (c.1.cls, T, Nc)) (hrm : (rest.map fun v => v.category).sum ≤ 8) (kk : MWl l gM shM c (.ref (gM.ad 0) :: As) SM (fun r S2 => LW l x gX gM Q (pc + 3) L (.long r :: rest) SX S2)) : LW l x gX gM Q pc L st SX SM := fun H locs ls hP hM hS hl =>
  va_calll (va_runV (As := As) (rest := rest) ⟨ok.1, ok.2.1, ok.2.2.1, ok.2.2.2.1, ok.2.2.2.2.1⟩ kk (lr_cw ok hc) ⟨PreW.blind, va_recv ok.2.2.2.2.2.2.1.1.1 hM (ci := 12) (q0 := 0) hcl (wld_at (c := .inr (.inl (12, fM0))) rfl), fun U hU hW => ⟨rfl, by rw [hU]; exact hM, (Kc.warm hW ok.2.2.2.2.2.2.1).1, ok.2.2.2.2.2.2.2.1.2.1⟩⟩ rfl hlen hl.1 hst (lv_room hrm) hd ⟨Nat.le_of_ble_eq_true rfl, Nat.le_of_ble_eq_true rfl⟩) hS (fun q _ h => inM ok h) (fun q h => inM ok h) (fun r u t H1 locs1 ht hvm hw hB hz hk hS1 => hw H1 locs1 ls (keepX ok hP hk) (by have h := hB; unfold PstW at h; rw [ht] at h; exact h) hS1 hl)
end LAWR
