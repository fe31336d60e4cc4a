/-! THE CLAIM OUT OF ONE WALK OF THE LAW'S BODY. Your part is whole_start (and what it stands on); all else here is the same for every law, but numbers. -/
def R_law : String := "WordsFirstLaw"
def lw_P (b : Addr) (xs : List Int32) (args : Array Value) (s : State) : Prop := args = #[.ref b] ∧ s.IntsAt b xs ∧ xs.length ≤ 2048 ∧ (Jvm.Cond.and given_1 narrow_1).before args s = true
def lw_Q (_ : Array Value) (s : State) (o : Outcome) (t : State) : Prop := o = .returned (some (.int 1)) ∧ Framed s o t [] 600000 7302250
def lw_Z (below : List Frame) (a : Array Value) (s : State) : State → Prop := fun t => ∃ o, t.status = .running ∧ Ended t below o ∧ lw_Q a s o t
/-- the law's own end, with 1 on the stack, nothing written that was there before, its room as the claim has it -/
theorem lw_ret {p : Program} {l : Launch} {e : Env} {s : State} {m : MethodId} {below : List Frame} {meth : Method} {c : Code} {b : Nat} (hx : p.tables.exec = Jvm.exec) (hb : c.code = code) (hr : meth.sig.returnType = ret) (hlocks : meth.locks = false) {pc : Nat} {H : Heap} {ls : Array Slot} (hdg : decode code pc = .ok (.ireturn, 1)) : W p l e room_1 s m #[Value.ref b] below meth c H [] 600000 7302250 (lw_Z below #[Value.ref b] s) (F0 m pc ls [.int 1]) := by
  intro T hT X
  obtain ⟨fs, hret, hrun, hended, hW, hframe⟩ := X.leave (v := some (.int 1)) (hlocks := hlocks) (fun h => by rw [hr] at h; cases h)
  have hmeth' : T.vm.method? m = some meth := X.method'
  refine ⟨T.setFrames fs, ?_, .returned (some (.int 1)), hrun, hended, rfl, ⟨_, rfl⟩, hW, hframe⟩
  jvm_step X.here [X.here.top, hx, hb, hdg, hmeth', hr, ret, narrow_b1]
  (try refine ⟨rfl, ?_⟩); (try refine ⟨rfl, ?_⟩)
  first | (intro acts; rw [hret _ acts rfl rfl rfl]) | rw [hret _ _ rfl rfl rfl]
  exact Steps.refl _
/-- what holds at the law's entry: the machine, the code, the tables' words (any of lw_tbl by 'hts w (by decide +kernel)'), the script of L ints xs at the cell b, what the Statement gives of the start (any of its parts by flat_of_before) -/
def lw_At (p : Program) (s : State) (m : MethodId) (meth : Method) (c : Code) (b L : Nat) (xs : Nat → Int32) : Prop :=
  p.tables.exec = Jvm.exec ∧ c.code = code ∧ meth.sig.returnType = ret ∧ c.maxLocals = 4 ∧ s.vm.findClass R_law = some m.cls ∧ (∀ w ∈ lw_tbl, w.before #[Value.ref b] s = true) ∧ va_X b L xs s s.heap ∧ b < s.heap.size ∧ meth.locks = false ∧ (Jvm.Cond.and given_1 narrow_1).before #[Value.ref b] s = true
/-! PART 71: the law's loop -/
theorem and31 (v : Int32) : ∃ j, j < 32 ∧ v &&& nI 31 = nI j := by
  have e : v = nI v.toBitVec.toNat := by
    apply Int32.toBitVec_inj.1
    show v.toBitVec = BitVec.ofNat 32 v.toBitVec.toNat
    rw [BitVec.ofNat_toNat, BitVec.setWidth_eq]
  refine ⟨v.toBitVec.toNat % 2 ^ 5, Nat.mod_lt _ (by decide), ?_⟩
  rw [← fa_mask, ← e]
theorem sub4 {N i : Nat} (hN : N ≤ 2048) (h : ¬ nI N - nI 4 < nI i) (hi : i < 2 ^ 31) : i + 3 < N := by
  by_cases h4 : 4 ≤ N
  · rw [pk_sub h4, nI_ltI (by omega) hi] at h
    omega
  · exfalso
    apply h
    rw [fa_lt, nI_toInt hi]
    have h5 : N = 0 ∨ N = 1 ∨ N = 2 ∨ N = 3 := by omega
    rcases h5 with h5 | h5 | h5 | h5 <;> subst h5
    · have : (nI 0 - nI 4).toInt = -4 := by decide
      omega
    · have : (nI 1 - nI 4).toInt = -3 := by decide
      omega
    · have : (nI 2 - nI 4).toInt = -2 := by decide
      omega
    · have : (nI 3 - nI 4).toInt = -1 := by decide
      omega
theorem law_loop {l : Launch} {x : Cx} {gX gM : Geo} {b N : Nat} {xs : Nat → Int32} {Q : State → Prop} (ok : OkL x gX gM b N xs) (fin : ∀ i SX SM, LW l x gX gM Q 1087 (Lc b gX gM i) [] SX SM) : ∀ n i s SX SM, N ≤ i + n → i ≤ N → SgOk s → XRep SX s → MRep SM s → LW l x gX gM Q 18 (Lc b gX gM i) [] SX SM := by
  have hN : N ≤ 2048 := ok.2.2.2.2.2.2.2.2.2.2
  intro n
  induction n with
  | zero =>
    intro i s SX SM h1 h2 hs hX hM
    refine lr_iload ok 3 dL_law_18 rfl (lr_aload ok 0 dL_law_19 rfl (lr_alen ok dL_law_20 (lr_iconst ok (nI 4) dL_law_21 (by decide) (lr_isub ok dL_law_22 (lr_gt ok 1087 dL_law_23 (by decide) ⟨fun _ => fin i SX SM, fun z => ?_⟩)))))
    have := sub4 hN z (by omega)
    omega
  | succ n ih =>
    intro i s SX SM h1 h2 hs hX hM
    refine lr_iload ok 3 dL_law_18 rfl (lr_aload ok 0 dL_law_19 rfl (lr_alen ok dL_law_20 (lr_iconst ok (nI 4) dL_law_21 (by decide) (lr_isub ok dL_law_22 (lr_gt ok 1087 dL_law_23 (by decide) ⟨fun _ => fin i SX SM, fun z => ?_⟩)))))
    have hi := sub4 hN z (by omega)
    refine lr_aload ok 0 dL_law_26 rfl (lr_iload ok 3 dL_law_27 rfl (lr_iald ok i rfl (by omega) dL_law_28 (lr_bipush ok (nI 31) dL_law_29 (by decide) (lr_iand ok dL_law_31 ?_))))
    obtain ⟨j, hj, e⟩ := and31 (xs i)
    rw [e]
    have E : ∀ s2 SX2 SM2, SgOk s2 → XRep SX2 s2 → MRep SM2 s2 → LW l x gX gM Q 1081 (Lc b gX gM i) [] SX2 SM2 := by
      intro s2 SX2 SM2 q1 q2 q3
      refine lr_iinc ok 3 (nI (i + 4)) [(3, .int (nI (i + 4))), (0, .ref b), (1, .ref (gX.ad 0)), (2, .ref (gM.ad 0))] dL_law_1081 rfl (nI_add i 4) (by decide) rfl ?_
      refine lr_goto ok 18 dL_law_1084 (by decide) ?_
      exact lr_sub [1, 2, 3, 0] _ rfl (ih (i + 4) s2 SX2 SM2 (by omega) (by omega) q1 q2 q3)
    clear e z h1 h2 ih fin
    revert j
    refine allB_all (n := 32) (P := fun j => LW l x gX gM Q 32 (Lc b gX gM i) [.int (nI j)] SX SM) ?_
    exact ⟨⟨⟨⟨⟨⟨⟨⟨⟨⟨⟨⟨⟨⟨⟨⟨⟨⟨⟨⟨⟨⟨⟨⟨⟨⟨⟨⟨⟨⟨⟨⟨trivial,
      lr_table ok 176 dL_law_32 (by decide) (by decide) (off := 144) rfl (by decide) (lc_0 ok hi hs hX hM E)⟩,
      lr_table ok 199 dL_law_32 (by decide) (by decide) (off := 167) rfl (by decide) (lc_1 ok hi hs hX hM E)⟩,
      lr_table ok 212 dL_law_32 (by decide) (by decide) (off := 180) rfl (by decide) (lc_2 ok hi hs hX hM E)⟩,
      lr_table ok 225 dL_law_32 (by decide) (by decide) (off := 193) rfl (by decide) (lc_3 ok hi hs hX hM E)⟩,
      lr_table ok 248 dL_law_32 (by decide) (by decide) (off := 216) rfl (by decide) (lc_4 ok hi hs hX hM E)⟩,
      lr_table ok 281 dL_law_32 (by decide) (by decide) (off := 249) rfl (by decide) (lc_5 ok hi hs hX hM E)⟩,
      lr_table ok 314 dL_law_32 (by decide) (by decide) (off := 282) rfl (by decide) (lc_6 ok hi hs hX hM E)⟩,
      lr_table ok 358 dL_law_32 (by decide) (by decide) (off := 326) rfl (by decide) (lc_7 ok hi hs hX hM E)⟩,
      lr_table ok 381 dL_law_32 (by decide) (by decide) (off := 349) rfl (by decide) (lc_8 ok hi hs hX hM E)⟩,
      lr_table ok 405 dL_law_32 (by decide) (by decide) (off := 373) rfl (by decide) (lc_9 ok hi hs hX hM E)⟩,
      lr_table ok 448 dL_law_32 (by decide) (by decide) (off := 416) rfl (by decide) (lc_10 ok hi hs hX hM E)⟩,
      lr_table ok 491 dL_law_32 (by decide) (by decide) (off := 459) rfl (by decide) (lc_11 ok hi hs hX hM E)⟩,
      lr_table ok 534 dL_law_32 (by decide) (by decide) (off := 502) rfl (by decide) (lc_12 ok hi hs hX hM E)⟩,
      lr_table ok 557 dL_law_32 (by decide) (by decide) (off := 525) rfl (by decide) (lc_13 ok hi hs hX hM E)⟩,
      lr_table ok 590 dL_law_32 (by decide) (by decide) (off := 558) rfl (by decide) (lc_14 ok hi hs hX hM E)⟩,
      lr_table ok 613 dL_law_32 (by decide) (by decide) (off := 581) rfl (by decide) (lc_15 ok hi hs hX hM E)⟩,
      lr_table ok 656 dL_law_32 (by decide) (by decide) (off := 624) rfl (by decide) (lc_16 ok hi hs hX hM E)⟩,
      lr_table ok 689 dL_law_32 (by decide) (by decide) (off := 657) rfl (by decide) (lc_17 ok hi hs hX hM E)⟩,
      lr_table ok 738 dL_law_32 (by decide) (by decide) (off := 706) rfl (by decide) (lc_18 ok hi hs hX hM E)⟩,
      lr_table ok 751 dL_law_32 (by decide) (by decide) (off := 719) rfl (by decide) (lc_19 ok hi hs hX hM E)⟩,
      lr_table ok 764 dL_law_32 (by decide) (by decide) (off := 732) rfl (by decide) (lc_20 ok hi hs hX hM E)⟩,
      lr_table ok 798 dL_law_32 (by decide) (by decide) (off := 766) rfl (by decide) (lc_21 ok hi hs hX hM E)⟩,
      lr_table ok 811 dL_law_32 (by decide) (by decide) (off := 779) rfl (by decide) (lc_22 ok hi hs hX hM E)⟩,
      lr_table ok 824 dL_law_32 (by decide) (by decide) (off := 792) rfl (by decide) (lc_23 ok hi hs hX hM E)⟩,
      lr_table ok 857 dL_law_32 (by decide) (by decide) (off := 825) rfl (by decide) (lc_24 ok hi hs hX hM E)⟩,
      lr_table ok 880 dL_law_32 (by decide) (by decide) (off := 848) rfl (by decide) (lc_25 ok hi hs hX hM E)⟩,
      lr_table ok 913 dL_law_32 (by decide) (by decide) (off := 881) rfl (by decide) (lc_26 ok hi hs hX hM E)⟩,
      lr_table ok 946 dL_law_32 (by decide) (by decide) (off := 914) rfl (by decide) (lc_27 ok hi hs hX hM E)⟩,
      lr_table ok 989 dL_law_32 (by decide) (by decide) (off := 957) rfl (by decide) (lc_28 ok hi hs hX hM E)⟩,
      lr_table ok 1012 dL_law_32 (by decide) (by decide) (off := 980) rfl (by decide) (lc_29 ok hi hs hX hM E)⟩,
      lr_table ok 1035 dL_law_32 (by decide) (by decide) (off := 1003) rfl (by decide) (lc_30 ok hi hs hX hM E)⟩,
      lr_table ok 1058 dL_law_32 (by decide) (by decide) (off := 1026) rfl (by decide) (lc_31 ok hi hs hX hM E)⟩
