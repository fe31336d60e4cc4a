/-! segments, written by program: 11.segM0.lean.txt -/
set_option maxRecDepth 10000 in
theorem s_X12_in_0 {l : Launch} {x : Cx} {g : Geo} {K : Int32 → Mem → Prop} (ok : Ok x g shM m_X12_in) (v0 : Int64) (v2 : Int64) (v4 : Int64) (S : Mem) (h : (((lg_cmp v0 v2) < 0 → K (nI 0) S) ∧ (¬ (lg_cmp v0 v2) < 0 → ((0 < (lg_cmp v0 v4) → K (nI 0) S) ∧ (¬ 0 < (lg_cmp v0 v4) → K (nI 1) S))))) : PW l x g shM m_X12_in (Qi x g shM K) 0 [(0, .long v0), (2, .long v2), (4, .long v4)] [] S := by
  refine r_lload_n ok 0 dX12_in_0 rfl ?_
  refine r_lload_n ok 1 dX12_in_1 rfl ?_
  refine r_lcmp ok dX12_in_2 ?_
  refine r_if_lt ok 17 dX12_in_3 (by decide) ⟨fun c => ?_, fun c => ?_⟩
  · have h := h.1 c
    refine r_iconst ok (nI 0) dX12_in_17 (by decide) ?_
    exact r_zret ok rfl dX12_in_18 ⟨rfl, h⟩
  · have h := h.2 c
    refine r_lload_n ok 0 dX12_in_6 rfl ?_
    refine r_lload ok 2 dX12_in_7 rfl ?_
    refine r_lcmp ok dX12_in_9 ?_
    refine r_if_gt ok 17 dX12_in_10 (by decide) ⟨fun c => ?_, fun c => ?_⟩
    · have h := h.1 c
      refine r_iconst ok (nI 0) dX12_in_17 (by decide) ?_
      exact r_zret ok rfl dX12_in_18 ⟨rfl, h⟩
    · have h := h.2 c
      refine r_iconst ok (nI 1) dX12_in_13 (by decide) ?_
      refine r_goto ok 18 dX12_in_14 (by decide) ?_
      exact r_zret ok rfl dX12_in_18 ⟨rfl, h⟩
set_option maxRecDepth 10000 in
theorem s_X12_isSign_0 {l : Launch} {x : Cx} {g : Geo} {K : Int32 → Mem → Prop} (ok : Ok x g shM m_X12_isSign) (v0 : Int32) (S : Mem) (h : MWi l g shM m_X12_in [.long v0.toInt64, .long (lN 0), .long (lN 9)] S (fun r1 S1 => (narrow .boolean (.int r1) = .int r1 ∧ K r1 S1))) : PW l x g shM m_X12_isSign (Qi x g shM K) 0 [(0, .int v0)] [] S := by
  refine r_iload_n ok 0 dX12_isSign_0 rfl ?_
  refine r_i2l ok dX12_isSign_1 ?_
  refine r_lconst ok (lN 0) dX12_isSign_2 (by decide) ?_
  refine r_ldc2 ok (lN 9) dX12_isSign_3 (gt_in (List.mem_of_getElem? (i := 1125) (by decide +kernel)) rfl) ?_
  refine r_stati ok (rest := []) (As := [.long v0.toInt64, .long (lN 0), .long (lN 9)]) _ k_X12_isSign_80 rfl rfl (Nat.le_of_ble_eq_true rfl) dX12_isSign_6 (MWi.mono h (fun r1 S1 h => ?_))
  exact r_zret ok rfl dX12_isSign_9 h
set_option maxRecDepth 10000 in
theorem s_X12_isChild_0 {l : Launch} {x : Cx} {g : Geo} {K : Int32 → Mem → Prop} (ok : Ok x g shM m_X12_isChild) (v0 : Int32) (S : Mem) (h : MWi l g shM m_X12_in [.long v0.toInt64, .long (lN 0), .long (lN 3)] S (fun r1 S1 => (narrow .boolean (.int r1) = .int r1 ∧ K r1 S1))) : PW l x g shM m_X12_isChild (Qi x g shM K) 0 [(0, .int v0)] [] S := by
  refine r_iload_n ok 0 dX12_isChild_0 rfl ?_
  refine r_i2l ok dX12_isChild_1 ?_
  refine r_lconst ok (lN 0) dX12_isChild_2 (by decide) ?_
  refine r_ldc2 ok (lN 3) dX12_isChild_3 (gt_in (List.mem_of_getElem? (i := 1153) (by decide +kernel)) rfl) ?_
  refine r_stati ok (rest := []) (As := [.long v0.toInt64, .long (lN 0), .long (lN 3)]) _ k_X12_isChild_80 rfl rfl (Nat.le_of_ble_eq_true rfl) dX12_isChild_6 (MWi.mono h (fun r1 S1 h => ?_))
  exact r_zret ok rfl dX12_isChild_9 h
set_option maxRecDepth 10000 in
theorem s_X12_isEnd_0 {l : Launch} {x : Cx} {g : Geo} {K : Int32 → Mem → Prop} (ok : Ok x g shM m_X12_isEnd) (v0 : Int32) (S : Mem) (h : MWi l g shM m_X12_in [.long v0.toInt64, .long (lN 0), .long (lN 1)] S (fun r1 S1 => (narrow .boolean (.int r1) = .int r1 ∧ K r1 S1))) : PW l x g shM m_X12_isEnd (Qi x g shM K) 0 [(0, .int v0)] [] S := by
  refine r_iload_n ok 0 dX12_isEnd_0 rfl ?_
  refine r_i2l ok dX12_isEnd_1 ?_
  refine r_lconst ok (lN 0) dX12_isEnd_2 (by decide) ?_
  refine r_lconst ok (lN 1) dX12_isEnd_3 (by decide) ?_
  refine r_stati ok (rest := []) (As := [.long v0.toInt64, .long (lN 0), .long (lN 1)]) _ k_X12_isEnd_80 rfl rfl (Nat.le_of_ble_eq_true rfl) dX12_isEnd_4 (MWi.mono h (fun r1 S1 h => ?_))
  exact r_zret ok rfl dX12_isEnd_7 h
set_option maxRecDepth 10000 in
theorem s_X12_ones_0 {l : Launch} {x : Cx} {g : Geo} {K : Int32 → Mem → Prop} (ok : Ok x g shM m_X12_ones) (v0 : Int32) (S : Mem) (h : PW l x g shM m_X12_ones (Qi x g shM K) 4 [(1, .int (nI 0)), (2, .int v0)] [] S) : PW l x g shM m_X12_ones (Qi x g shM K) 0 [(0, .int v0)] [] S := by
  refine r_iconst ok (nI 0) dX12_ones_0 (by decide) ?_
  refine r_istore_n ok [(1, .int (nI 0)), (0, .int v0)] dX12_ones_1 (by decide) rfl ?_
  refine r_iload_n ok 1 dX12_ones_2 rfl ?_
  refine r_istore_n ok [(2, .int v0), (1, .int (nI 0)), (0, .int v0)] dX12_ones_3 (by decide) rfl ?_
  exact r_sub [1, 0] _ rfl h
set_option maxRecDepth 10000 in
theorem s_X12_ones_4 {l : Launch} {x : Cx} {g : Geo} {K : Int32 → Mem → Prop} (ok : Ok x g shM m_X12_ones) (v1 : Int32) (v2 : Int32) (S : Mem) (h : ((v2 = 0 → K v1 S) ∧ (¬ v2 = 0 → PW l x g shM m_X12_ones (Qi x g shM K) 4 [(1, .int (v1 + (nI 1))), (2, .int (v2 &&& (v2 - (nI 1))))] [] S))) : PW l x g shM m_X12_ones (Qi x g shM K) 4 [(1, .int v1), (2, .int v2)] [] S := by
  refine r_iload_n ok 1 dX12_ones_4 rfl ?_
  refine r_if_eq ok 20 dX12_ones_5 (by decide) ⟨fun c => ?_, fun c => ?_⟩
  · have h := h.1 c
    refine r_iload_n ok 0 dX12_ones_20 rfl ?_
    exact r_iret ok rfl dX12_ones_21 h
  · have h := h.2 c
    refine r_iinc ok 0 (v1 + (nI 1)) [(1, .int (v1 + (nI 1))), (2, .int v2)] dX12_ones_8 rfl rfl (by decide) rfl ?_
    refine r_iload_n ok 1 dX12_ones_11 rfl ?_
    refine r_iload_n ok 1 dX12_ones_12 rfl ?_
    refine r_iconst ok (nI 1) dX12_ones_13 (by decide) ?_
    refine r_isub ok dX12_ones_14 ?_
    refine r_iand ok dX12_ones_15 ?_
    refine r_istore_n ok [(2, .int (v2 &&& (v2 - (nI 1)))), (1, .int (v1 + (nI 1)))] dX12_ones_16 (by decide) rfl ?_
    refine r_goto ok 4 dX12_ones_17 (by decide) ?_
    exact r_sub [1, 0] _ rfl h
set_option maxRecDepth 10000 in
theorem s_X12_lowest_0 {l : Launch} {x : Cx} {g : Geo} {K : Int64 → Mem → Prop} (ok : Ok x g shM m_X12_lowest) (v0 : Int64) (v2 : Int64) (v4 : Int32) (S : Mem) (h : ((¬ (lg_cmp v2 (lN 0)) = 0 → PW l x g shM m_X12_lowest (Ql x g shM K) 16 [(0, .long v0), (2, .long v2), (4, .int v4), (5, .long v0), (7, .long v2)] [] S) ∧ ((lg_cmp v2 (lN 0)) = 0 → K v4.toInt64 S))) : PW l x g shM m_X12_lowest (Ql x g shM K) 0 [(0, .long v0), (2, .long v2), (4, .int v4)] [] S := by
  refine r_lload_n ok 1 dX12_lowest_0 rfl ?_
  refine r_lconst ok (lN 0) dX12_lowest_1 (by decide) ?_
  refine r_lcmp ok dX12_lowest_2 ?_
  refine r_if_ne ok 10 dX12_lowest_3 (by decide) ⟨fun c => ?_, fun c => ?_⟩
  · have h := h.1 c
    refine r_lload_n ok 0 dX12_lowest_10 rfl ?_
    refine r_lstore ok [(5, .long v0), (0, .long v0), (2, .long v2), (4, .int v4)] dX12_lowest_11 (by decide) rfl ?_
    refine r_lload_n ok 2 dX12_lowest_13 rfl ?_
    refine r_lstore ok [(7, .long v2), (5, .long v0), (0, .long v0), (2, .long v2), (4, .int v4)] dX12_lowest_14 (by decide) rfl ?_
    exact r_sub [2, 3, 4, 1, 0] _ rfl h
  · have h := h.2 c
    refine r_iload ok 2 dX12_lowest_6 rfl ?_
    refine r_i2l ok dX12_lowest_8 ?_
    exact r_lret ok rfl dX12_lowest_9 h
set_option maxRecDepth 10000 in
theorem s_X12_lowest_16 {l : Launch} {x : Cx} {g : Geo} {K : Int64 → Mem → Prop} (ok : Ok x g shM m_X12_lowest) (v0 : Int64) (v2 : Int64) (v4 : Int32) (v5 : Int64) (v7 : Int64) (S : Mem) (h : (((lg_cmp v7 (lN 0)) = 0 → ((¬ v4 = 0 → (¬ v5 = 0 ∧ K (v2 / v5) S)) ∧ (v4 = 0 → (¬ v5 = 0 ∧ K (v0 / v5) S)))) ∧ (¬ (lg_cmp v7 (lN 0)) = 0 → (¬ v7 = 0 ∧ PW l x g shM m_X12_lowest (Ql x g shM K) 16 [(0, .long v0), (2, .long v2), (4, .int v4), (5, .long v7), (7, .long (jremL v5 v7))] [] S)))) : PW l x g shM m_X12_lowest (Ql x g shM K) 16 [(0, .long v0), (2, .long v2), (4, .int v4), (5, .long v5), (7, .long v7)] [] S := by
  refine r_lload ok 4 dX12_lowest_16 rfl ?_
  refine r_lconst ok (lN 0) dX12_lowest_18 (by decide) ?_
  refine r_lcmp ok dX12_lowest_19 ?_
  refine r_if_eq ok 41 dX12_lowest_20 (by decide) ⟨fun c => ?_, fun c => ?_⟩
  · have h := h.1 c
    refine r_iload ok 2 dX12_lowest_41 rfl ?_
    refine r_if_ne ok 53 dX12_lowest_43 (by decide) ⟨fun c => ?_, fun c => ?_⟩
    · have h := h.1 c
      refine r_lload_n ok 1 dX12_lowest_53 rfl ?_
      refine r_lload ok 3 dX12_lowest_54 rfl ?_
      refine r_ldiv ok dX12_lowest_56 h.1 ?_
      have h := h.2
      exact r_lret ok rfl dX12_lowest_57 h
    · have h := h.2 c
      refine r_lload_n ok 0 dX12_lowest_46 rfl ?_
      refine r_lload ok 3 dX12_lowest_47 rfl ?_
      refine r_ldiv ok dX12_lowest_49 h.1 ?_
      have h := h.2
      refine r_goto ok 57 dX12_lowest_50 (by decide) ?_
      exact r_lret ok rfl dX12_lowest_57 h
  · have h := h.2 c
    refine r_lload ok 3 dX12_lowest_23 rfl ?_
    refine r_lload ok 4 dX12_lowest_25 rfl ?_
    refine r_lrem ok dX12_lowest_27 h.1 ?_
    have h := h.2
    refine r_lstore ok [(9, .long (jremL v5 v7)), (0, .long v0), (2, .long v2), (4, .int v4), (5, .long v5), (7, .long v7)] dX12_lowest_28 (by decide) rfl ?_
    refine r_lload ok 5 dX12_lowest_30 rfl ?_
    refine r_lstore ok [(5, .long v7), (9, .long (jremL v5 v7)), (0, .long v0), (2, .long v2), (4, .int v4), (7, .long v7)] dX12_lowest_32 (by decide) rfl ?_
    refine r_lload ok 1 dX12_lowest_34 rfl ?_
    refine r_lstore ok [(7, .long (jremL v5 v7)), (5, .long v7), (9, .long (jremL v5 v7)), (0, .long v0), (2, .long v2), (4, .int v4)] dX12_lowest_36 (by decide) rfl ?_
    refine r_goto ok 16 dX12_lowest_38 (by decide) ?_
    exact r_sub [3, 4, 5, 1, 0] _ rfl h
set_option maxRecDepth 10000 in
theorem s_X12_say_0 {l : Launch} {x : Cx} {g : Geo} {K : Int32 → Mem → Prop} (ok : Ok x g shM m_X12_say) (v1 : Int32) (S : Mem) (h : MWi l g shM m_X12_in [.long v1.toInt64, .long (lN 33), .long (lN 126)] S (fun r1 S1 => ((¬ r1 = 0 → ((¬ (S1 0 6) = (nI 14) → (vp_in (S1 0 6) 14 ∧ K ((st2 (st2 S1 5 (cl (S1 0 6)) v1) 0 6 (((st2 S1 5 (cl (S1 0 6)) v1) 0 6) + (nI 1))) 0 6) (st2 (st2 S1 5 (cl (S1 0 6)) v1) 0 6 (((st2 S1 5 (cl (S1 0 6)) v1) 0 6) + (nI 1))))) ∧ ((S1 0 6) = (nI 14) → K (-4) S1))) ∧ (r1 = 0 → K (-2) S1)))) : PW l x g shM m_X12_say (Qi x g shM K) 0 [(0, .ref (g.ad 0)), (1, .int v1)] [] S := by
  refine r_iload_n ok 1 dX12_say_0 rfl ?_
  refine r_i2l ok dX12_say_1 ?_
  refine r_ldc2 ok (lN 33) dX12_say_2 (gt_in (List.mem_of_getElem? (i := 1060) (by decide +kernel)) rfl) ?_
  refine r_ldc2 ok (lN 126) dX12_say_5 (gt_in (List.mem_of_getElem? (i := 1061) (by decide +kernel)) rfl) ?_
  refine r_stati ok (rest := []) (As := [.long v1.toInt64, .long (lN 33), .long (lN 126)]) _ k_X12_say_80 rfl rfl (Nat.le_of_ble_eq_true rfl) dX12_say_8 (MWi.mono h (fun r1 S1 h => ?_))
  refine r_if_ne ok 17 dX12_say_11 (by decide) ⟨fun c => ?_, fun c => ?_⟩
  · have h := h.1 c
    refine r_aload_n ok 0 dX12_say_17 rfl ?_
    refine r_getI ok 0 6 rfl rfl fo_X12_90 dX12_say_18 ?_
    refine r_bipush ok (nI 14) dX12_say_21 (by decide) ?_
    refine r_icmp_ne ok 29 dX12_say_23 (by decide) ⟨fun c => ?_, fun c => ?_⟩
    · have h := h.1 c
      refine r_aload_n ok 0 dX12_say_29 rfl ?_
      refine r_getR ok 0 5 rfl rfl fo_X12_22 dX12_say_30 ?_
      refine r_aload_n ok 0 dX12_say_33 rfl ?_
      refine r_getI ok 0 6 rfl rfl fo_X12_90 dX12_say_34 ?_
      refine r_iload_n ok 1 dX12_say_37 rfl ?_
      refine r_iastore ok 5 rfl dX12_say_38 h.1 ?_
      have h := h.2
      refine r_aload_n ok 0 dX12_say_39 rfl ?_
      refine r_dup ok dX12_say_40 rfl ?_
      refine r_getI ok 0 6 rfl rfl fo_X12_90 dX12_say_41 ?_
      refine r_iconst ok (nI 1) dX12_say_44 (by decide) ?_
      refine r_iadd ok dX12_say_45 ?_
      refine r_put ok 0 6 rfl rfl po_X12_90 rfl rfl dX12_say_46 ?_
      refine r_aload_n ok 0 dX12_say_49 rfl ?_
      refine r_getI ok 0 6 rfl rfl fo_X12_90 dX12_say_50 ?_
      exact r_iret ok rfl dX12_say_53 h
    · have h := h.2 c
      refine r_bipush ok (-4) dX12_say_26 (by decide) ?_
      exact r_iret ok rfl dX12_say_28 h
  · have h := h.2 c
    refine r_bipush ok (-2) dX12_say_14 (by decide) ?_
    exact r_iret ok rfl dX12_say_16 h
set_option maxRecDepth 10000 in
theorem s_X12_wipe_0 {l : Launch} {x : Cx} {g : Geo} {K : Int32 → Mem → Prop} (ok : Ok x g shM m_X12_wipe) (S : Mem) (h : K (S 0 6) (st2 S 0 6 (nI 0))) : PW l x g shM m_X12_wipe (Qi x g shM K) 0 [(0, .ref (g.ad 0))] [] S := by
  refine r_aload_n ok 0 dX12_wipe_0 rfl ?_
  refine r_getI ok 0 6 rfl rfl fo_X12_90 dX12_wipe_1 ?_
  refine r_istore_n ok [(1, .int (S 0 6)), (0, .ref (g.ad 0))] dX12_wipe_4 (by decide) rfl ?_
  refine r_aload_n ok 1 dX12_wipe_5 rfl ?_
  refine r_iconst ok (nI 0) dX12_wipe_6 (by decide) ?_
  refine r_put ok 0 6 rfl rfl po_X12_90 rfl rfl dX12_wipe_7 ?_
  refine r_iload_n ok 0 dX12_wipe_10 rfl ?_
  exact r_iret ok rfl dX12_wipe_11 h
set_option maxRecDepth 10000 in
theorem s_X12_fault_0 {l : Launch} {x : Cx} {g : Geo} {K : Int32 → Mem → Prop} (ok : Ok x g shM m_X12_fault) (S : Mem) (h : PW l x g shM m_X12_fault (Qi x g shM K) 11 [(0, .ref (g.ad 0)), (1, .int (nI 0)), (2, .int (nI 0)), (3, .int (nI 0))] [] (st2 S 0 7 (nI 0))) : PW l x g shM m_X12_fault (Qi x g shM K) 0 [(0, .ref (g.ad 0))] [] S := by
  refine r_aload_n ok 0 dX12_fault_0 rfl ?_
  refine r_iconst ok (nI 0) dX12_fault_1 (by decide) ?_
  refine r_put ok 0 7 rfl rfl po_X12_94 rfl rfl dX12_fault_2 ?_
  refine r_iconst ok (nI 0) dX12_fault_5 (by decide) ?_
  refine r_istore_n ok [(1, .int (nI 0)), (0, .ref (g.ad 0))] dX12_fault_6 (by decide) rfl ?_
  refine r_iconst ok (nI 0) dX12_fault_7 (by decide) ?_
  refine r_istore_n ok [(2, .int (nI 0)), (1, .int (nI 0)), (0, .ref (g.ad 0))] dX12_fault_8 (by decide) rfl ?_
  refine r_iconst ok (nI 0) dX12_fault_9 (by decide) ?_
  refine r_istore_n ok [(3, .int (nI 0)), (2, .int (nI 0)), (1, .int (nI 0)), (0, .ref (g.ad 0))] dX12_fault_10 (by decide) rfl ?_
  exact r_sub [3, 2, 1, 0] _ rfl h
set_option maxRecDepth 10000 in
theorem s_X12_fault_11 {l : Launch} {x : Cx} {g : Geo} {K : Int32 → Mem → Prop} (ok : Ok x g shM m_X12_fault) (v1 : Int32) (v2 : Int32) (v3 : Int32) (S : Mem) (h : (((S 0 6) ≤ v3 → ((v2 = 0 → K (S 0 6) S) ∧ (¬ v2 = 0 → ((¬ v1 = (S 0 7) → K (S 0 6) S) ∧ (v1 = (S 0 7) → K (-6) S))))) ∧ (¬ (S 0 6) ≤ v3 → (vp_in v3 14 ∧ ((¬ v2 = 0 → PW l x g shM m_X12_fault (Qi x g shM K) 67 [(0, .ref (g.ad 0)), (1, .int v1), (2, .int v2), (3, .int v3), (4, .int (S 5 (cl v3)))] [] S) ∧ (v2 = 0 → MWi l g shM m_X12_in [.long (S 5 (cl v3)).toInt64, .long (lN 97), .long (lN 106)] S (fun r1 S1 => ((r1 = 0 → PW l x g shM m_X12_fault (Qi x g shM K) 67 [(0, .ref (g.ad 0)), (1, .int v1), (2, .int v2), (3, .int v3), (4, .int (S 5 (cl v3)))] [] S1) ∧ (¬ r1 = 0 → (((nI 5) ≤ (S1 0 7) → PW l x g shM m_X12_fault (Qi x g shM K) 67 [(0, .ref (g.ad 0)), (1, .int v1), (2, .int v2), (3, .int v3), (4, .int (S 5 (cl v3)))] [] S1) ∧ (¬ (nI 5) ≤ (S1 0 7) → PW l x g shM m_X12_fault (Qi x g shM K) 11 [(0, .ref (g.ad 0)), (1, .int v1), (2, .int v2), (3, .int (v3 + (nI 1)))] [] (st2 S1 0 7 ((S1 0 7) + (nI 1)))))))))))))) : PW l x g shM m_X12_fault (Qi x g shM K) 11 [(0, .ref (g.ad 0)), (1, .int v1), (2, .int v2), (3, .int v3)] [] S := by
  refine r_iload_n ok 3 dX12_fault_11 rfl ?_
  refine r_aload_n ok 0 dX12_fault_12 rfl ?_
  refine r_getI ok 0 6 rfl rfl fo_X12_90 dX12_fault_13 ?_
  refine r_icmp_ge ok 131 dX12_fault_16 (by decide) ⟨fun c => ?_, fun c => ?_⟩
  · have h := h.1 c
    refine r_iload_n ok 2 dX12_fault_131 rfl ?_
    refine r_if_eq ok 148 dX12_fault_132 (by decide) ⟨fun c => ?_, fun c => ?_⟩
    · have h := h.1 c
      refine r_aload_n ok 0 dX12_fault_148 rfl ?_
      refine r_getI ok 0 6 rfl rfl fo_X12_90 dX12_fault_149 ?_
      exact r_iret ok rfl dX12_fault_152 h
    · have h := h.2 c
      refine r_iload_n ok 1 dX12_fault_135 rfl ?_
      refine r_aload_n ok 0 dX12_fault_136 rfl ?_
      refine r_getI ok 0 7 rfl rfl fo_X12_94 dX12_fault_137 ?_
      refine r_icmp_ne ok 148 dX12_fault_140 (by decide) ⟨fun c => ?_, fun c => ?_⟩
      · have h := h.1 c
        refine r_aload_n ok 0 dX12_fault_148 rfl ?_
        refine r_getI ok 0 6 rfl rfl fo_X12_90 dX12_fault_149 ?_
        exact r_iret ok rfl dX12_fault_152 h
      · have h := h.2 c
        refine r_bipush ok (-6) dX12_fault_143 (by decide) ?_
        refine r_goto ok 152 dX12_fault_145 (by decide) ?_
        exact r_iret ok rfl dX12_fault_152 h
  · have h := h.2 c
    refine r_aload_n ok 0 dX12_fault_19 rfl ?_
    refine r_getR ok 0 5 rfl rfl fo_X12_22 dX12_fault_20 ?_
    refine r_iload_n ok 3 dX12_fault_23 rfl ?_
    refine r_iaload ok 5 rfl dX12_fault_24 h.1 ?_
    have h := h.2
    refine r_istore ok [(4, .int (S 5 (cl v3))), (0, .ref (g.ad 0)), (1, .int v1), (2, .int v2), (3, .int v3)] dX12_fault_25 (by decide) rfl ?_
    refine r_iload_n ok 3 dX12_fault_27 rfl ?_
    refine r_if_ne ok 67 dX12_fault_28 (by decide) ⟨fun c => ?_, fun c => ?_⟩
    · have h := h.1 c
      exact r_sub [1, 2, 3, 4, 0] _ rfl h
    · have h := h.2 c
      refine r_iload ok 0 dX12_fault_31 rfl ?_
      refine r_i2l ok dX12_fault_33 ?_
      refine r_ldc2 ok (lN 97) dX12_fault_34 (gt_in (List.mem_of_getElem? (i := 1073) (by decide +kernel)) rfl) ?_
      refine r_ldc2 ok (lN 106) dX12_fault_37 (gt_in (List.mem_of_getElem? (i := 1074) (by decide +kernel)) rfl) ?_
      refine r_stati ok (rest := []) (As := [.long (S 5 (cl v3)).toInt64, .long (lN 97), .long (lN 106)]) _ k_X12_fault_80 rfl rfl (Nat.le_of_ble_eq_true rfl) dX12_fault_40 (MWi.mono h (fun r1 S1 h => ?_))
      refine r_if_eq ok 67 dX12_fault_43 (by decide) ⟨fun c => ?_, fun c => ?_⟩
      · have h := h.1 c
        exact r_sub [1, 2, 3, 4, 0] _ rfl h
      · have h := h.2 c
        refine r_aload_n ok 1 dX12_fault_46 rfl ?_
        refine r_getI ok 0 7 rfl rfl fo_X12_94 dX12_fault_47 ?_
        refine r_iconst ok (nI 5) dX12_fault_50 (by decide) ?_
        refine r_icmp_ge ok 67 dX12_fault_51 (by decide) ⟨fun c => ?_, fun c => ?_⟩
        · have h := h.1 c
          exact r_sub [1, 2, 3, 4, 0] _ rfl h
        · have h := h.2 c
          refine r_aload_n ok 1 dX12_fault_54 rfl ?_
          refine r_dup ok dX12_fault_55 rfl ?_
          refine r_getI ok 0 7 rfl rfl fo_X12_94 dX12_fault_56 ?_
          refine r_iconst ok (nI 1) dX12_fault_59 (by decide) ?_
          refine r_iadd ok dX12_fault_60 ?_
          refine r_put ok 0 7 rfl rfl po_X12_94 rfl rfl dX12_fault_61 ?_
          refine r_goto ok 125 dX12_fault_64 (by decide) ?_
          refine r_iinc ok 4 (v3 + (nI 1)) [(3, .int (v3 + (nI 1))), (4, .int (S 5 (cl v3))), (0, .ref (g.ad 0)), (1, .int v1), (2, .int v2)] dX12_fault_125 rfl rfl (by decide) rfl ?_
          refine r_goto ok 11 dX12_fault_128 (by decide) ?_
          exact r_sub [2, 3, 4, 0] _ rfl h
set_option maxRecDepth 10000 in
theorem s_X12_fault_67 {l : Launch} {x : Cx} {g : Geo} {K : Int32 → Mem → Prop} (ok : Ok x g shM m_X12_fault) (v1 : Int32) (v2 : Int32) (v3 : Int32) (v4 : Int32) (S : Mem) (h : ((¬ v2 = 0 → PW l x g shM m_X12_fault (Qi x g shM K) 90 [(0, .ref (g.ad 0)), (1, .int v1), (2, .int v2), (3, .int v3), (4, .int v4)] [] S) ∧ (v2 = 0 → ((¬ v4 = (nI 61) → PW l x g shM m_X12_fault (Qi x g shM K) 90 [(0, .ref (g.ad 0)), (1, .int v1), (2, .int v2), (3, .int v3), (4, .int v4)] [] S) ∧ (v4 = (nI 61) → (((S 0 7) ≤ 0 → PW l x g shM m_X12_fault (Qi x g shM K) 90 [(0, .ref (g.ad 0)), (1, .int v1), (2, .int v2), (3, .int v3), (4, .int v4)] [] S) ∧ (¬ (S 0 7) ≤ 0 → PW l x g shM m_X12_fault (Qi x g shM K) 11 [(0, .ref (g.ad 0)), (1, .int v1), (2, .int (nI 1)), (3, .int (v3 + (nI 1)))] [] S))))))) : PW l x g shM m_X12_fault (Qi x g shM K) 67 [(0, .ref (g.ad 0)), (1, .int v1), (2, .int v2), (3, .int v3), (4, .int v4)] [] S := by
  refine r_iload_n ok 2 dX12_fault_67 rfl ?_
  refine r_if_ne ok 90 dX12_fault_68 (by decide) ⟨fun c => ?_, fun c => ?_⟩
  · have h := h.1 c
    exact r_sub [0, 1, 2, 3, 4] _ rfl h
  · have h := h.2 c
    refine r_iload ok 4 dX12_fault_71 rfl ?_
    refine r_bipush ok (nI 61) dX12_fault_73 (by decide) ?_
    refine r_icmp_ne ok 90 dX12_fault_75 (by decide) ⟨fun c => ?_, fun c => ?_⟩
    · have h := h.1 c
      exact r_sub [0, 1, 2, 3, 4] _ rfl h
    · have h := h.2 c
      refine r_aload_n ok 0 dX12_fault_78 rfl ?_
      refine r_getI ok 0 7 rfl rfl fo_X12_94 dX12_fault_79 ?_
      refine r_if_le ok 90 dX12_fault_82 (by decide) ⟨fun c => ?_, fun c => ?_⟩
      · have h := h.1 c
        exact r_sub [0, 1, 2, 3, 4] _ rfl h
      · have h := h.2 c
        refine r_iconst ok (nI 1) dX12_fault_85 (by decide) ?_
        refine r_istore_n ok [(2, .int (nI 1)), (0, .ref (g.ad 0)), (1, .int v1), (3, .int v3), (4, .int v4)] dX12_fault_86 (by decide) rfl ?_
        refine r_goto ok 125 dX12_fault_87 (by decide) ?_
        refine r_iinc ok 3 (v3 + (nI 1)) [(3, .int (v3 + (nI 1))), (2, .int (nI 1)), (0, .ref (g.ad 0)), (1, .int v1), (4, .int v4)] dX12_fault_125 rfl rfl (by decide) rfl ?_
        refine r_goto ok 11 dX12_fault_128 (by decide) ?_
        exact r_sub [2, 3, 1, 0] _ rfl h
set_option maxRecDepth 10000 in
theorem s_X12_fault_90 {l : Launch} {x : Cx} {g : Geo} {K : Int32 → Mem → Prop} (ok : Ok x g shM m_X12_fault) (v1 : Int32) (v2 : Int32) (v3 : Int32) (v4 : Int32) (S : Mem) (h : ((v2 = 0 → K v3 S) ∧ (¬ v2 = 0 → MWi l g shM m_X12_in [.long v4.toInt64, .long (lN 48), .long (lN 57)] S (fun r1 S1 => ((r1 = 0 → K v3 S1) ∧ (¬ r1 = 0 → (((S1 0 7) ≤ v1 → K v3 S1) ∧ (¬ (S1 0 7) ≤ v1 → PW l x g shM m_X12_fault (Qi x g shM K) 11 [(0, .ref (g.ad 0)), (1, .int (v1 + (nI 1))), (2, .int v2), (3, .int (v3 + (nI 1)))] [] S1)))))))) : PW l x g shM m_X12_fault (Qi x g shM K) 90 [(0, .ref (g.ad 0)), (1, .int v1), (2, .int v2), (3, .int v3), (4, .int v4)] [] S := by
  refine r_iload_n ok 2 dX12_fault_90 rfl ?_
  refine r_if_eq ok 123 dX12_fault_91 (by decide) ⟨fun c => ?_, fun c => ?_⟩
  · have h := h.1 c
    refine r_iload_n ok 3 dX12_fault_123 rfl ?_
    exact r_iret ok rfl dX12_fault_124 h
  · have h := h.2 c
    refine r_iload ok 4 dX12_fault_94 rfl ?_
    refine r_i2l ok dX12_fault_96 ?_
    refine r_ldc2 ok (lN 48) dX12_fault_97 (gt_in (List.mem_of_getElem? (i := 1075) (by decide +kernel)) rfl) ?_
    refine r_ldc2 ok (lN 57) dX12_fault_100 (gt_in (List.mem_of_getElem? (i := 1076) (by decide +kernel)) rfl) ?_
    refine r_stati ok (rest := []) (As := [.long v4.toInt64, .long (lN 48), .long (lN 57)]) _ k_X12_fault_80 rfl rfl (Nat.le_of_ble_eq_true rfl) dX12_fault_103 (MWi.mono h (fun r1 S1 h => ?_))
    refine r_if_eq ok 123 dX12_fault_106 (by decide) ⟨fun c => ?_, fun c => ?_⟩
    · have h := h.1 c
      refine r_iload_n ok 3 dX12_fault_123 rfl ?_
      exact r_iret ok rfl dX12_fault_124 h
    · have h := h.2 c
      refine r_iload_n ok 1 dX12_fault_109 rfl ?_
      refine r_aload_n ok 0 dX12_fault_110 rfl ?_
      refine r_getI ok 0 7 rfl rfl fo_X12_94 dX12_fault_111 ?_
      refine r_icmp_ge ok 123 dX12_fault_114 (by decide) ⟨fun c => ?_, fun c => ?_⟩
      · have h := h.1 c
        refine r_iload_n ok 3 dX12_fault_123 rfl ?_
        exact r_iret ok rfl dX12_fault_124 h
      · have h := h.2 c
        refine r_iinc ok 1 (v1 + (nI 1)) [(1, .int (v1 + (nI 1))), (0, .ref (g.ad 0)), (2, .int v2), (3, .int v3), (4, .int v4)] dX12_fault_117 rfl rfl (by decide) rfl ?_
        refine r_goto ok 125 dX12_fault_120 (by decide) ?_
        refine r_iinc ok 3 (v3 + (nI 1)) [(3, .int (v3 + (nI 1))), (1, .int (v1 + (nI 1))), (0, .ref (g.ad 0)), (2, .int v2), (4, .int v4)] dX12_fault_125 rfl rfl (by decide) rfl ?_
        refine r_goto ok 11 dX12_fault_128 (by decide) ?_
        exact r_sub [2, 1, 3, 0] _ rfl h
set_option maxRecDepth 10000 in
theorem s_X12_isThere_0 {l : Launch} {x : Cx} {g : Geo} {K : Int32 → Mem → Prop} (ok : Ok x g shM m_X12_isThere) (S : Mem) (h : PW l x g shM m_X12_isThere (Qi x g shM K) 2 [(0, .ref (g.ad 0)), (1, .int (nI 0))] [] S) : PW l x g shM m_X12_isThere (Qi x g shM K) 0 [(0, .ref (g.ad 0))] [] S := by
  refine r_iconst ok (nI 0) dX12_isThere_0 (by decide) ?_
  refine r_istore_n ok [(1, .int (nI 0)), (0, .ref (g.ad 0))] dX12_isThere_1 (by decide) rfl ?_
  exact r_sub [1, 0] _ rfl h
set_option maxRecDepth 10000 in
theorem s_X12_isThere_2 {l : Launch} {x : Cx} {g : Geo} {K : Int32 → Mem → Prop} (ok : Ok x g shM m_X12_isThere) (v1 : Int32) (S : Mem) (h : (((S 0 4) ≤ v1 → K (nI 0) S) ∧ (¬ (S 0 4) ≤ v1 → (vp_in v1 12 ∧ ((¬ (S 3 (cl v1)) = (S 0 7) → PW l x g shM m_X12_isThere (Qi x g shM K) 31 [(0, .ref (g.ad 0)), (1, .int v1), (2, .int (nI 0)), (3, .int (nI 0))] [] S) ∧ ((S 3 (cl v1)) = (S 0 7) → PW l x g shM m_X12_isThere (Qi x g shM K) 31 [(0, .ref (g.ad 0)), (1, .int v1), (2, .int (nI 1)), (3, .int (nI 0))] [] S)))))) : PW l x g shM m_X12_isThere (Qi x g shM K) 2 [(0, .ref (g.ad 0)), (1, .int v1)] [] S := by
  refine r_iload_n ok 1 dX12_isThere_2 rfl ?_
  refine r_aload_n ok 0 dX12_isThere_3 rfl ?_
  refine r_getI ok 0 4 rfl rfl fo_X12_105 dX12_isThere_4 ?_
  refine r_icmp_ge ok 89 dX12_isThere_7 (by decide) ⟨fun c => ?_, fun c => ?_⟩
  · have h := h.1 c
    refine r_iconst ok (nI 0) dX12_isThere_89 (by decide) ?_
    exact r_zret ok rfl dX12_isThere_90 ⟨rfl, h⟩
  · have h := h.2 c
    refine r_aload_n ok 0 dX12_isThere_10 rfl ?_
    refine r_getR ok 0 2 rfl rfl fo_X12_16 dX12_isThere_11 ?_
    refine r_iload_n ok 1 dX12_isThere_14 rfl ?_
    refine r_iaload ok 3 rfl dX12_isThere_15 h.1 ?_
    have h := h.2
    refine r_aload_n ok 0 dX12_isThere_16 rfl ?_
    refine r_getI ok 0 7 rfl rfl fo_X12_94 dX12_isThere_17 ?_
    refine r_icmp_ne ok 27 dX12_isThere_20 (by decide) ⟨fun c => ?_, fun c => ?_⟩
    · have h := h.1 c
      refine r_iconst ok (nI 0) dX12_isThere_27 (by decide) ?_
      refine r_istore_n ok [(2, .int (nI 0)), (0, .ref (g.ad 0)), (1, .int v1)] dX12_isThere_28 (by decide) rfl ?_
      refine r_iconst ok (nI 0) dX12_isThere_29 (by decide) ?_
      refine r_istore_n ok [(3, .int (nI 0)), (2, .int (nI 0)), (0, .ref (g.ad 0)), (1, .int v1)] dX12_isThere_30 (by decide) rfl ?_
      exact r_sub [2, 3, 1, 0] _ rfl h
    · have h := h.2 c
      refine r_iconst ok (nI 1) dX12_isThere_23 (by decide) ?_
      refine r_goto ok 28 dX12_isThere_24 (by decide) ?_
      refine r_istore_n ok [(2, .int (nI 1)), (0, .ref (g.ad 0)), (1, .int v1)] dX12_isThere_28 (by decide) rfl ?_
      refine r_iconst ok (nI 0) dX12_isThere_29 (by decide) ?_
      refine r_istore_n ok [(3, .int (nI 0)), (2, .int (nI 1)), (0, .ref (g.ad 0)), (1, .int v1)] dX12_isThere_30 (by decide) rfl ?_
      exact r_sub [2, 3, 1, 0] _ rfl h
set_option maxRecDepth 10000 in
theorem s_X12_isThere_31 {l : Launch} {x : Cx} {g : Geo} {K : Int32 → Mem → Prop} (ok : Ok x g shM m_X12_isThere) (v1 : Int32) (v2 : Int32) (v3 : Int32) (S : Mem) (h : (((S 0 7) ≤ v3 → ((v2 = 0 → PW l x g shM m_X12_isThere (Qi x g shM K) 2 [(0, .ref (g.ad 0)), (1, .int (v1 + (nI 1)))] [] S) ∧ (¬ v2 = 0 → K (nI 1) S))) ∧ (¬ (S 0 7) ≤ v3 → ((v2 = 0 → ((v2 = 0 → PW l x g shM m_X12_isThere (Qi x g shM K) 2 [(0, .ref (g.ad 0)), (1, .int (v1 + (nI 1)))] [] S) ∧ (¬ v2 = 0 → K (nI 1) S))) ∧ (¬ v2 = 0 → (vp_in (((nI 5) * v1) + v3) 60 ∧ (vp_in v3 14 ∧ ((¬ (S 1 (cl (((nI 5) * v1) + v3))) = ((S 5 (cl v3)) - (nI 97)) → PW l x g shM m_X12_isThere (Qi x g shM K) 31 [(0, .ref (g.ad 0)), (1, .int v1), (2, .int (nI 0)), (3, .int (v3 + (nI 1)))] [] S) ∧ ((S 1 (cl (((nI 5) * v1) + v3))) = ((S 5 (cl v3)) - (nI 97)) → PW l x g shM m_X12_isThere (Qi x g shM K) 31 [(0, .ref (g.ad 0)), (1, .int v1), (2, .int (nI 1)), (3, .int (v3 + (nI 1)))] [] S))))))))) : PW l x g shM m_X12_isThere (Qi x g shM K) 31 [(0, .ref (g.ad 0)), (1, .int v1), (2, .int v2), (3, .int v3)] [] S := by
  refine r_iload_n ok 3 dX12_isThere_31 rfl ?_
  refine r_aload_n ok 0 dX12_isThere_32 rfl ?_
  refine r_getI ok 0 7 rfl rfl fo_X12_94 dX12_isThere_33 ?_
  refine r_icmp_ge ok 77 dX12_isThere_36 (by decide) ⟨fun c => ?_, fun c => ?_⟩
  · have h := h.1 c
    refine r_iload_n ok 2 dX12_isThere_77 rfl ?_
    refine r_if_eq ok 83 dX12_isThere_78 (by decide) ⟨fun c => ?_, fun c => ?_⟩
    · have h := h.1 c
      refine r_iinc ok 1 (v1 + (nI 1)) [(1, .int (v1 + (nI 1))), (0, .ref (g.ad 0)), (2, .int v2), (3, .int v3)] dX12_isThere_83 rfl rfl (by decide) rfl ?_
      refine r_goto ok 2 dX12_isThere_86 (by decide) ?_
      exact r_sub [1, 0] _ rfl h
    · have h := h.2 c
      refine r_iconst ok (nI 1) dX12_isThere_81 (by decide) ?_
      exact r_zret ok rfl dX12_isThere_82 ⟨rfl, h⟩
  · have h := h.2 c
    refine r_iload_n ok 2 dX12_isThere_39 rfl ?_
    refine r_if_eq ok 77 dX12_isThere_40 (by decide) ⟨fun c => ?_, fun c => ?_⟩
    · have h := h.1 c
      refine r_iload_n ok 2 dX12_isThere_77 rfl ?_
      refine r_if_eq ok 83 dX12_isThere_78 (by decide) ⟨fun c => ?_, fun c => ?_⟩
      · have h := h.1 c
        refine r_iinc ok 1 (v1 + (nI 1)) [(1, .int (v1 + (nI 1))), (0, .ref (g.ad 0)), (2, .int v2), (3, .int v3)] dX12_isThere_83 rfl rfl (by decide) rfl ?_
        refine r_goto ok 2 dX12_isThere_86 (by decide) ?_
        exact r_sub [1, 0] _ rfl h
      · have h := h.2 c
        refine r_iconst ok (nI 1) dX12_isThere_81 (by decide) ?_
        exact r_zret ok rfl dX12_isThere_82 ⟨rfl, h⟩
    · have h := h.2 c
      refine r_aload_n ok 0 dX12_isThere_43 rfl ?_
      refine r_getR ok 0 0 rfl rfl fo_X12_7 dX12_isThere_44 ?_
      refine r_iconst ok (nI 5) dX12_isThere_47 (by decide) ?_
      refine r_iload_n ok 1 dX12_isThere_48 rfl ?_
      refine r_imul ok dX12_isThere_49 ?_
      refine r_iload_n ok 3 dX12_isThere_50 rfl ?_
      refine r_iadd ok dX12_isThere_51 ?_
      refine r_iaload ok 1 rfl dX12_isThere_52 h.1 ?_
      have h := h.2
      refine r_aload_n ok 0 dX12_isThere_53 rfl ?_
      refine r_getR ok 0 5 rfl rfl fo_X12_22 dX12_isThere_54 ?_
      refine r_iload_n ok 3 dX12_isThere_57 rfl ?_
      refine r_iaload ok 5 rfl dX12_isThere_58 h.1 ?_
      have h := h.2
      refine r_bipush ok (nI 97) dX12_isThere_59 (by decide) ?_
      refine r_isub ok dX12_isThere_61 ?_
      refine r_icmp_ne ok 69 dX12_isThere_62 (by decide) ⟨fun c => ?_, fun c => ?_⟩
      · have h := h.1 c
        refine r_iconst ok (nI 0) dX12_isThere_69 (by decide) ?_
        refine r_istore_n ok [(2, .int (nI 0)), (0, .ref (g.ad 0)), (1, .int v1), (3, .int v3)] dX12_isThere_70 (by decide) rfl ?_
        refine r_iinc ok 3 (v3 + (nI 1)) [(3, .int (v3 + (nI 1))), (2, .int (nI 0)), (0, .ref (g.ad 0)), (1, .int v1)] dX12_isThere_71 rfl rfl (by decide) rfl ?_
        refine r_goto ok 31 dX12_isThere_74 (by decide) ?_
        exact r_sub [2, 3, 1, 0] _ rfl h
      · have h := h.2 c
        refine r_iconst ok (nI 1) dX12_isThere_65 (by decide) ?_
        refine r_goto ok 70 dX12_isThere_66 (by decide) ?_
        refine r_istore_n ok [(2, .int (nI 1)), (0, .ref (g.ad 0)), (1, .int v1), (3, .int v3)] dX12_isThere_70 (by decide) rfl ?_
        refine r_iinc ok 3 (v3 + (nI 1)) [(3, .int (v3 + (nI 1))), (2, .int (nI 1)), (0, .ref (g.ad 0)), (1, .int v1)] dX12_isThere_71 rfl rfl (by decide) rfl ?_
        refine r_goto ok 31 dX12_isThere_74 (by decide) ?_
        exact r_sub [2, 3, 1, 0] _ rfl h
set_option maxRecDepth 10000 in
theorem s_X12_isOften_0 {l : Launch} {x : Cx} {g : Geo} {K : Int32 → Mem → Prop} (ok : Ok x g shM m_X12_isOften) (v0 : Int32) (S : Mem) (h : MWi l g shM m_X12_in [.long v0.toInt64, .long (lN 1), .long (lN 999)] S (fun r1 S1 => (narrow .boolean (.int r1) = .int r1 ∧ K r1 S1))) : PW l x g shM m_X12_isOften (Qi x g shM K) 0 [(0, .int v0)] [] S := by
  refine r_iload_n ok 0 dX12_isOften_0 rfl ?_
  refine r_i2l ok dX12_isOften_1 ?_
  refine r_lconst ok (lN 1) dX12_isOften_2 (by decide) ?_
  refine r_ldc2 ok (lN 999) dX12_isOften_3 (gt_in (List.mem_of_getElem? (i := 1084) (by decide +kernel)) rfl) ?_
  refine r_stati ok (rest := []) (As := [.long v0.toInt64, .long (lN 1), .long (lN 999)]) _ k_X12_isOften_80 rfl rfl (Nat.le_of_ble_eq_true rfl) dX12_isOften_6 (MWi.mono h (fun r1 S1 h => ?_))
  exact r_zret ok rfl dX12_isOften_9 h
set_option maxRecDepth 10000 in
theorem s_X12_word_0 {l : Launch} {x : Cx} {g : Geo} {K : Int32 → Mem → Prop} (ok : Ok x g shM m_X12_word) (v1 : Int32) (S : Mem) (h : MWi l g shM m_X12_isOften [.int v1] S (fun r1 S1 => ((¬ r1 = 0 → MWi l g shM m_X12_fault [.ref (g.ad 0)] S1 (fun r2 S2 => ((0 ≤ r2 → K (-5) S2) ∧ (¬ 0 ≤ r2 → MWi l g shM m_X12_isThere [.ref (g.ad 0)] S2 (fun r3 S3 => ((r3 = 0 → ((¬ (S3 0 4) = (nI 12) → (vp_in (S3 0 4) 12 ∧ PW l x g shM m_X12_word (Qi x g shM K) 54 [(0, .ref (g.ad 0)), (1, .int v1), (2, .int (nI 0))] [] (st2 S3 3 (cl (S3 0 4)) (S3 0 7)))) ∧ ((S3 0 4) = (nI 12) → K (-4) S3))) ∧ (¬ r3 = 0 → K (-5) S3))))))) ∧ (r1 = 0 → K (-2) S1)))) : PW l x g shM m_X12_word (Qi x g shM K) 0 [(0, .ref (g.ad 0)), (1, .int v1)] [] S := by
  refine r_iload_n ok 1 dX12_word_0 rfl ?_
  refine r_stati ok (rest := []) (As := [.int v1]) _ k_X12_word_110 rfl rfl (Nat.le_of_ble_eq_true rfl) dX12_word_1 (MWi.mono h (fun r1 S1 h => ?_))
  refine r_if_ne ok 10 dX12_word_4 (by decide) ⟨fun c => ?_, fun c => ?_⟩
  · have h := h.1 c
    refine r_aload_n ok 0 dX12_word_10 rfl ?_
    refine r_virti ok (rest := []) (As := []) 0 _ k_X12_word_114 rfl rfl rfl rfl (Nat.le_of_ble_eq_true rfl) dX12_word_11 (MWi.mono h (fun r2 S2 h => ?_))
    refine r_if_ge ok 24 dX12_word_14 (by decide) ⟨fun c => ?_, fun c => ?_⟩
    · have h := h.1 c
      refine r_bipush ok (-5) dX12_word_24 (by decide) ?_
      exact r_iret ok rfl dX12_word_26 h
    · have h := h.2 c
      refine r_aload_n ok 0 dX12_word_17 rfl ?_
      refine r_virti ok (rest := []) (As := []) 0 _ k_X12_word_118 rfl rfl rfl rfl (Nat.le_of_ble_eq_true rfl) dX12_word_18 (MWi.mono h (fun r3 S3 h => ?_))
      refine r_if_eq ok 27 dX12_word_21 (by decide) ⟨fun c => ?_, fun c => ?_⟩
      · have h := h.1 c
        refine r_aload_n ok 0 dX12_word_27 rfl ?_
        refine r_getI ok 0 4 rfl rfl fo_X12_105 dX12_word_28 ?_
        refine r_bipush ok (nI 12) dX12_word_31 (by decide) ?_
        refine r_icmp_ne ok 39 dX12_word_33 (by decide) ⟨fun c => ?_, fun c => ?_⟩
        · have h := h.1 c
          refine r_aload_n ok 0 dX12_word_39 rfl ?_
          refine r_getR ok 0 2 rfl rfl fo_X12_16 dX12_word_40 ?_
          refine r_aload_n ok 0 dX12_word_43 rfl ?_
          refine r_getI ok 0 4 rfl rfl fo_X12_105 dX12_word_44 ?_
          refine r_aload_n ok 0 dX12_word_47 rfl ?_
          refine r_getI ok 0 7 rfl rfl fo_X12_94 dX12_word_48 ?_
          refine r_iastore ok 3 rfl dX12_word_51 h.1 ?_
          have h := h.2
          refine r_iconst ok (nI 0) dX12_word_52 (by decide) ?_
          refine r_istore_n ok [(2, .int (nI 0)), (0, .ref (g.ad 0)), (1, .int v1)] dX12_word_53 (by decide) rfl ?_
          exact r_sub [1, 2, 0] _ rfl h
        · have h := h.2 c
          refine r_bipush ok (-4) dX12_word_36 (by decide) ?_
          exact r_iret ok rfl dX12_word_38 h
      · have h := h.2 c
        refine r_bipush ok (-5) dX12_word_24 (by decide) ?_
        exact r_iret ok rfl dX12_word_26 h
  · have h := h.2 c
    refine r_bipush ok (-2) dX12_word_7 (by decide) ?_
    exact r_iret ok rfl dX12_word_9 h
set_option maxRecDepth 10000 in
theorem s_X12_word_54 {l : Launch} {x : Cx} {g : Geo} {K : Int32 → Mem → Prop} (ok : Ok x g shM m_X12_word) (v1 : Int32) (v2 : Int32) (S : Mem) (h : (((S 0 7) ≤ v2 → (vp_in (S 0 4) 12 ∧ K (((st2 (st2 (st2 S 4 (cl (S 0 4)) v1) 0 4 (((st2 S 4 (cl (S 0 4)) v1) 0 4) + (nI 1))) 0 6 (nI 0)) 0 4) - (nI 1)) (st2 (st2 (st2 S 4 (cl (S 0 4)) v1) 0 4 (((st2 S 4 (cl (S 0 4)) v1) 0 4) + (nI 1))) 0 6 (nI 0)))) ∧ (¬ (S 0 7) ≤ v2 → (vp_in v2 14 ∧ (vp_in (((nI 5) * (S 0 4)) + v2) 60 ∧ (vp_in ((((st2 S 1 (cl (((nI 5) * (S 0 4)) + v2)) ((S 5 (cl v2)) - (nI 97))) 0 7) + (nI 1)) + v2) 14 ∧ (vp_in (((nI 5) * ((st2 S 1 (cl (((nI 5) * (S 0 4)) + v2)) ((S 5 (cl v2)) - (nI 97))) 0 4)) + v2) 60 ∧ PW l x g shM m_X12_word (Qi x g shM K) 54 [(0, .ref (g.ad 0)), (1, .int v1), (2, .int (v2 + (nI 1)))] [] (st2 (st2 S 1 (cl (((nI 5) * (S 0 4)) + v2)) ((S 5 (cl v2)) - (nI 97))) 2 (cl (((nI 5) * ((st2 S 1 (cl (((nI 5) * (S 0 4)) + v2)) ((S 5 (cl v2)) - (nI 97))) 0 4)) + v2)) (((st2 S 1 (cl (((nI 5) * (S 0 4)) + v2)) ((S 5 (cl v2)) - (nI 97))) 5 (cl ((((st2 S 1 (cl (((nI 5) * (S 0 4)) + v2)) ((S 5 (cl v2)) - (nI 97))) 0 7) + (nI 1)) + v2))) - (nI 48)))))))))) : PW l x g shM m_X12_word (Qi x g shM K) 54 [(0, .ref (g.ad 0)), (1, .int v1), (2, .int v2)] [] S := by
  refine r_iload_n ok 2 dX12_word_54 rfl ?_
  refine r_aload_n ok 0 dX12_word_55 rfl ?_
  refine r_getI ok 0 7 rfl rfl fo_X12_94 dX12_word_56 ?_
  refine r_icmp_ge ok 119 dX12_word_59 (by decide) ⟨fun c => ?_, fun c => ?_⟩
  · have h := h.1 c
    refine r_aload_n ok 0 dX12_word_119 rfl ?_
    refine r_getR ok 0 3 rfl rfl fo_X12_19 dX12_word_120 ?_
    refine r_aload_n ok 0 dX12_word_123 rfl ?_
    refine r_getI ok 0 4 rfl rfl fo_X12_105 dX12_word_124 ?_
    refine r_iload_n ok 1 dX12_word_127 rfl ?_
    refine r_iastore ok 4 rfl dX12_word_128 h.1 ?_
    have h := h.2
    refine r_aload_n ok 0 dX12_word_129 rfl ?_
    refine r_dup ok dX12_word_130 rfl ?_
    refine r_getI ok 0 4 rfl rfl fo_X12_105 dX12_word_131 ?_
    refine r_iconst ok (nI 1) dX12_word_134 (by decide) ?_
    refine r_iadd ok dX12_word_135 ?_
    refine r_put ok 0 4 rfl rfl po_X12_105 rfl rfl dX12_word_136 ?_
    refine r_aload_n ok 0 dX12_word_139 rfl ?_
    refine r_iconst ok (nI 0) dX12_word_140 (by decide) ?_
    refine r_put ok 0 6 rfl rfl po_X12_90 rfl rfl dX12_word_141 ?_
    refine r_aload_n ok 0 dX12_word_144 rfl ?_
    refine r_getI ok 0 4 rfl rfl fo_X12_105 dX12_word_145 ?_
    refine r_iconst ok (nI 1) dX12_word_148 (by decide) ?_
    refine r_isub ok dX12_word_149 ?_
    exact r_iret ok rfl dX12_word_150 h
  · have h := h.2 c
    refine r_aload_n ok 0 dX12_word_62 rfl ?_
    refine r_getR ok 0 0 rfl rfl fo_X12_7 dX12_word_63 ?_
    refine r_iconst ok (nI 5) dX12_word_66 (by decide) ?_
    refine r_aload_n ok 0 dX12_word_67 rfl ?_
    refine r_getI ok 0 4 rfl rfl fo_X12_105 dX12_word_68 ?_
    refine r_imul ok dX12_word_71 ?_
    refine r_iload_n ok 2 dX12_word_72 rfl ?_
    refine r_iadd ok dX12_word_73 ?_
    refine r_aload_n ok 0 dX12_word_74 rfl ?_
    refine r_getR ok 0 5 rfl rfl fo_X12_22 dX12_word_75 ?_
    refine r_iload_n ok 2 dX12_word_78 rfl ?_
    refine r_iaload ok 5 rfl dX12_word_79 h.1 ?_
    have h := h.2
    refine r_bipush ok (nI 97) dX12_word_80 (by decide) ?_
    refine r_isub ok dX12_word_82 ?_
    refine r_iastore ok 1 rfl dX12_word_83 h.1 ?_
    have h := h.2
    refine r_aload_n ok 0 dX12_word_84 rfl ?_
    refine r_getR ok 0 1 rfl rfl fo_X12_13 dX12_word_85 ?_
    refine r_iconst ok (nI 5) dX12_word_88 (by decide) ?_
    refine r_aload_n ok 0 dX12_word_89 rfl ?_
    refine r_getI ok 0 4 rfl rfl fo_X12_105 dX12_word_90 ?_
    refine r_imul ok dX12_word_93 ?_
    refine r_iload_n ok 2 dX12_word_94 rfl ?_
    refine r_iadd ok dX12_word_95 ?_
    refine r_aload_n ok 0 dX12_word_96 rfl ?_
    refine r_getR ok 0 5 rfl rfl fo_X12_22 dX12_word_97 ?_
    refine r_aload_n ok 0 dX12_word_100 rfl ?_
    refine r_getI ok 0 7 rfl rfl fo_X12_94 dX12_word_101 ?_
    refine r_iconst ok (nI 1) dX12_word_104 (by decide) ?_
    refine r_iadd ok dX12_word_105 ?_
    refine r_iload_n ok 2 dX12_word_106 rfl ?_
    refine r_iadd ok dX12_word_107 ?_
    refine r_iaload ok 5 rfl dX12_word_108 h.1 ?_
    have h := h.2
    refine r_bipush ok (nI 48) dX12_word_109 (by decide) ?_
    refine r_isub ok dX12_word_111 ?_
    refine r_iastore ok 2 rfl dX12_word_112 h.1 ?_
    have h := h.2
    refine r_iinc ok 2 (v2 + (nI 1)) [(2, .int (v2 + (nI 1))), (0, .ref (g.ad 0)), (1, .int v1)] dX12_word_113 rfl rfl (by decide) rfl ?_
    refine r_goto ok 54 dX12_word_116 (by decide) ?_
    exact r_sub [1, 2, 0] _ rfl h
set_option maxRecDepth 10000 in
theorem s_X12_isWord_0 {l : Launch} {x : Cx} {g : Geo} {K : Int32 → Mem → Prop} (ok : Ok x g shM m_X12_isWord) (v1 : Int32) (S : Mem) (h : MWi l g shM m_X12_in [.long v1.toInt64, .long (lN 0), .long ((S 0 4) - (nI 1)).toInt64] S (fun r1 S1 => (narrow .boolean (.int r1) = .int r1 ∧ K r1 S1))) : PW l x g shM m_X12_isWord (Qi x g shM K) 0 [(0, .ref (g.ad 0)), (1, .int v1)] [] S := by
  refine r_iload_n ok 1 dX12_isWord_0 rfl ?_
  refine r_i2l ok dX12_isWord_1 ?_
  refine r_lconst ok (lN 0) dX12_isWord_2 (by decide) ?_
  refine r_aload_n ok 0 dX12_isWord_3 rfl ?_
  refine r_getI ok 0 4 rfl rfl fo_X12_105 dX12_isWord_4 ?_
  refine r_iconst ok (nI 1) dX12_isWord_7 (by decide) ?_
  refine r_isub ok dX12_isWord_8 ?_
  refine r_i2l ok dX12_isWord_9 ?_
  refine r_stati ok (rest := []) (As := [.long v1.toInt64, .long (lN 0), .long ((S 0 4) - (nI 1)).toInt64]) _ k_X12_isWord_80 rfl rfl (Nat.le_of_ble_eq_true rfl) dX12_isWord_10 (MWi.mono h (fun r1 S1 h => ?_))
  exact r_zret ok rfl dX12_isWord_13 h
set_option maxRecDepth 10000 in
theorem s_X12_signsOf_0 {l : Launch} {x : Cx} {g : Geo} {K : Int32 → Mem → Prop} (ok : Ok x g shM m_X12_signsOf) (v1 : Int32) (S : Mem) (h : PW l x g shM m_X12_signsOf (Qi x g shM K) 4 [(0, .ref (g.ad 0)), (1, .int v1), (2, .int (nI 0)), (3, .int (nI 0))] [] S) : PW l x g shM m_X12_signsOf (Qi x g shM K) 0 [(0, .ref (g.ad 0)), (1, .int v1)] [] S := by
  refine r_iconst ok (nI 0) dX12_signsOf_0 (by decide) ?_
  refine r_istore_n ok [(2, .int (nI 0)), (0, .ref (g.ad 0)), (1, .int v1)] dX12_signsOf_1 (by decide) rfl ?_
  refine r_iconst ok (nI 0) dX12_signsOf_2 (by decide) ?_
  refine r_istore_n ok [(3, .int (nI 0)), (2, .int (nI 0)), (0, .ref (g.ad 0)), (1, .int v1)] dX12_signsOf_3 (by decide) rfl ?_
  exact r_sub [2, 3, 1, 0] _ rfl h
set_option maxRecDepth 10000 in
theorem s_X12_signsOf_4 {l : Launch} {x : Cx} {g : Geo} {K : Int32 → Mem → Prop} (ok : Ok x g shM m_X12_signsOf) (v1 : Int32) (v2 : Int32) (v3 : Int32) (S : Mem) (h : (vp_in v1 12 ∧ (((S 3 (cl v1)) ≤ v3 → K v2 S) ∧ (¬ (S 3 (cl v1)) ≤ v3 → (vp_in (((nI 5) * v1) + v3) 60 ∧ PW l x g shM m_X12_signsOf (Qi x g shM K) 4 [(0, .ref (g.ad 0)), (1, .int v1), (2, .int (v2 ||| (jshl (nI 1) (S 1 (cl (((nI 5) * v1) + v3)))))), (3, .int (v3 + (nI 1)))] [] S))))) : PW l x g shM m_X12_signsOf (Qi x g shM K) 4 [(0, .ref (g.ad 0)), (1, .int v1), (2, .int v2), (3, .int v3)] [] S := by
  refine r_iload_n ok 3 dX12_signsOf_4 rfl ?_
  refine r_aload_n ok 0 dX12_signsOf_5 rfl ?_
  refine r_getR ok 0 2 rfl rfl fo_X12_16 dX12_signsOf_6 ?_
  refine r_iload_n ok 1 dX12_signsOf_9 rfl ?_
  refine r_iaload ok 3 rfl dX12_signsOf_10 h.1 ?_
  have h := h.2
  refine r_icmp_ge ok 35 dX12_signsOf_11 (by decide) ⟨fun c => ?_, fun c => ?_⟩
  · have h := h.1 c
    refine r_iload_n ok 2 dX12_signsOf_35 rfl ?_
    exact r_iret ok rfl dX12_signsOf_36 h
  · have h := h.2 c
    refine r_iload_n ok 2 dX12_signsOf_14 rfl ?_
    refine r_iconst ok (nI 1) dX12_signsOf_15 (by decide) ?_
    refine r_aload_n ok 0 dX12_signsOf_16 rfl ?_
    refine r_getR ok 0 0 rfl rfl fo_X12_7 dX12_signsOf_17 ?_
    refine r_iconst ok (nI 5) dX12_signsOf_20 (by decide) ?_
    refine r_iload_n ok 1 dX12_signsOf_21 rfl ?_
    refine r_imul ok dX12_signsOf_22 ?_
    refine r_iload_n ok 3 dX12_signsOf_23 rfl ?_
    refine r_iadd ok dX12_signsOf_24 ?_
    refine r_iaload ok 1 rfl dX12_signsOf_25 h.1 ?_
    have h := h.2
    refine r_ishl ok dX12_signsOf_26 ?_
    refine r_ior ok dX12_signsOf_27 ?_
    refine r_istore_n ok [(2, .int (v2 ||| (jshl (nI 1) (S 1 (cl (((nI 5) * v1) + v3)))))), (0, .ref (g.ad 0)), (1, .int v1), (3, .int v3)] dX12_signsOf_28 (by decide) rfl ?_
    refine r_iinc ok 3 (v3 + (nI 1)) [(3, .int (v3 + (nI 1))), (2, .int (v2 ||| (jshl (nI 1) (S 1 (cl (((nI 5) * v1) + v3)))))), (0, .ref (g.ad 0)), (1, .int v1)] dX12_signsOf_29 rfl rfl (by decide) rfl ?_
    refine r_goto ok 4 dX12_signsOf_32 (by decide) ?_
    exact r_sub [2, 3, 1, 0] _ rfl h
set_option maxRecDepth 10000 in
theorem s_X12_about_0 {l : Launch} {x : Cx} {g : Geo} {K : Int32 → Mem → Prop} (ok : Ok x g shM m_X12_about) (v1 : Int32) (v2 : Int32) (S : Mem) (h : MWi l g shM m_X12_isWord [.ref (g.ad 0), .int v1] S (fun r1 S1 => ((¬ r1 = 0 → MWi l g shM m_X12_in [.long v2.toInt64, .long (lN 10), .long (lN 14)] S1 (fun r2 S2 => ((r2 = 0 → MWi l g shM m_X12_in [.long v2.toInt64, .long (lN 20), .long (lN 24)] S2 (fun r3 S3 => ((r3 = 0 → ((v2 = nI 0 → (vp_in v1 12 ∧ K (S3 3 (cl v1)) S3)) ∧ (v2 = nI 1 → (vp_in v1 12 ∧ K (S3 4 (cl v1)) S3)) ∧ (v2 = nI 2 → MWi l g shM m_X12_signsOf [.ref (g.ad 0), .int v1] S3 (fun r4 S4 => K r4 S4)) ∧ (v2 = nI 3 → MWv l g shM m_X12_findCommon [.ref (g.ad 0)] S3 (fun S5 => MWi l g shM m_X12_isRegular [.ref (g.ad 0), .int v1] S5 (fun r6 S6 => ((r6 = 0 → K (nI 0) S6) ∧ (¬ r6 = 0 → K (nI 1) S6))))) ∧ ((v2.toInt < 0 ∨ 3 < v2.toInt) → K (-2) S3))) ∧ (¬ r3 = 0 → (vp_in v1 12 ∧ (((S3 3 (cl v1)) ≤ (v2 - (nI 20)) → K (-6) S3) ∧ (¬ (S3 3 (cl v1)) ≤ (v2 - (nI 20)) → (vp_in ((((nI 5) * v1) + v2) - (nI 20)) 60 ∧ K (S3 2 (cl ((((nI 5) * v1) + v2) - (nI 20)))) S3)))))))) ∧ (¬ r2 = 0 → (vp_in v1 12 ∧ (((S2 3 (cl v1)) ≤ (v2 - (nI 10)) → K (-6) S2) ∧ (¬ (S2 3 (cl v1)) ≤ (v2 - (nI 10)) → (vp_in ((((nI 5) * v1) + v2) - (nI 10)) 60 ∧ K (S2 1 (cl ((((nI 5) * v1) + v2) - (nI 10)))) S2)))))))) ∧ (r1 = 0 → K (-1) S1)))) : PW l x g shM m_X12_about (Qi x g shM K) 0 [(0, .ref (g.ad 0)), (1, .int v1), (2, .int v2)] [] S := by
  refine r_aload_n ok 0 dX12_about_0 rfl ?_
  refine r_iload_n ok 1 dX12_about_1 rfl ?_
  refine r_virti ok (rest := []) (As := [.int v1]) 0 _ k_X12_about_122 rfl rfl rfl rfl (Nat.le_of_ble_eq_true rfl) dX12_about_2 (MWi.mono h (fun r1 S1 h => ?_))
  refine r_if_ne ok 10 dX12_about_5 (by decide) ⟨fun c => ?_, fun c => ?_⟩
  · have h := h.1 c
    refine r_iload_n ok 2 dX12_about_10 rfl ?_
    refine r_i2l ok dX12_about_11 ?_
    refine r_ldc2 ok (lN 10) dX12_about_12 (gt_in (List.mem_of_getElem? (i := 1098) (by decide +kernel)) rfl) ?_
    refine r_ldc2 ok (lN 14) dX12_about_15 (gt_in (List.mem_of_getElem? (i := 1099) (by decide +kernel)) rfl) ?_
    refine r_stati ok (rest := []) (As := [.long v2.toInt64, .long (lN 10), .long (lN 14)]) _ k_X12_about_80 rfl rfl (Nat.le_of_ble_eq_true rfl) dX12_about_18 (MWi.mono h (fun r2 S2 h => ?_))
    refine r_if_eq ok 56 dX12_about_21 (by decide) ⟨fun c => ?_, fun c => ?_⟩
    · have h := h.1 c
      refine r_iload_n ok 2 dX12_about_56 rfl ?_
      refine r_i2l ok dX12_about_57 ?_
      refine r_ldc2 ok (lN 20) dX12_about_58 (gt_in (List.mem_of_getElem? (i := 1100) (by decide +kernel)) rfl) ?_
      refine r_ldc2 ok (lN 24) dX12_about_61 (gt_in (List.mem_of_getElem? (i := 1101) (by decide +kernel)) rfl) ?_
      refine r_stati ok (rest := []) (As := [.long v2.toInt64, .long (lN 20), .long (lN 24)]) _ k_X12_about_80 rfl rfl (Nat.le_of_ble_eq_true rfl) dX12_about_64 (MWi.mono h (fun r3 S3 h => ?_))
      refine r_if_eq ok 102 dX12_about_67 (by decide) ⟨fun c => ?_, fun c => ?_⟩
      · have h := h.1 c
        refine r_iload_n ok 2 dX12_about_102 rfl ?_
        rcases sw3 v2 with e | e | e | e | e
        · have h := h.1 e
          rw [e]
          refine r_tableIn ok 132 dX12_about_103 (by decide) (by decide) rfl (by decide) ?_
          refine r_aload_n ok 0 dX12_about_132 rfl ?_
          refine r_getR ok 0 2 rfl rfl fo_X12_16 dX12_about_133 ?_
          refine r_iload_n ok 1 dX12_about_136 rfl ?_
          refine r_iaload ok 3 rfl dX12_about_137 h.1 ?_
          have h := h.2
          exact r_iret ok rfl dX12_about_138 h
        · have h := h.2.1 e
          rw [e]
          refine r_tableIn ok 139 dX12_about_103 (by decide) (by decide) rfl (by decide) ?_
          refine r_aload_n ok 0 dX12_about_139 rfl ?_
          refine r_getR ok 0 3 rfl rfl fo_X12_19 dX12_about_140 ?_
          refine r_iload_n ok 1 dX12_about_143 rfl ?_
          refine r_iaload ok 4 rfl dX12_about_144 h.1 ?_
          have h := h.2
          exact r_iret ok rfl dX12_about_145 h
        · have h := h.2.2.1 e
          rw [e]
          refine r_tableIn ok 146 dX12_about_103 (by decide) (by decide) rfl (by decide) ?_
          refine r_aload_n ok 0 dX12_about_146 rfl ?_
          refine r_iload_n ok 1 dX12_about_147 rfl ?_
          refine r_virti ok (rest := []) (As := [.int v1]) 0 _ k_X12_about_133 rfl rfl rfl rfl (Nat.le_of_ble_eq_true rfl) dX12_about_148 (MWi.mono h (fun r4 S4 h => ?_))
          exact r_iret ok rfl dX12_about_151 h
        · have h := h.2.2.2.1 e
          rw [e]
          refine r_tableIn ok 152 dX12_about_103 (by decide) (by decide) rfl (by decide) ?_
          refine r_aload_n ok 0 dX12_about_152 rfl ?_
          refine r_virtv ok (rest := []) (As := []) 0 _ k_X12_about_137 rfl rfl rfl rfl (Nat.le_of_ble_eq_true rfl) dX12_about_153 (MWv.mono h (fun S5 h => ?_))
          refine r_aload_n ok 0 dX12_about_156 rfl ?_
          refine r_iload_n ok 1 dX12_about_157 rfl ?_
          refine r_virti ok (rest := []) (As := [.int v1]) 0 _ k_X12_about_140 rfl rfl rfl rfl (Nat.le_of_ble_eq_true rfl) dX12_about_158 (MWi.mono h (fun r6 S6 h => ?_))
          refine r_if_eq ok 168 dX12_about_161 (by decide) ⟨fun c => ?_, fun c => ?_⟩
          · have h := h.1 c
            refine r_iconst ok (nI 0) dX12_about_168 (by decide) ?_
            exact r_iret ok rfl dX12_about_169 h
          · have h := h.2 c
            refine r_iconst ok (nI 1) dX12_about_164 (by decide) ?_
            refine r_goto ok 169 dX12_about_165 (by decide) ?_
            exact r_iret ok rfl dX12_about_169 h
        · have h := h.2.2.2.2 e
          refine r_tableOut ok 170 dX12_about_103 e (by decide) ?_
          refine r_bipush ok (-2) dX12_about_170 (by decide) ?_
          exact r_iret ok rfl dX12_about_172 h
      · have h := h.2 c
        refine r_iload_n ok 2 dX12_about_70 rfl ?_
        refine r_bipush ok (nI 20) dX12_about_71 (by decide) ?_
        refine r_isub ok dX12_about_73 ?_
        refine r_aload_n ok 0 dX12_about_74 rfl ?_
        refine r_getR ok 0 2 rfl rfl fo_X12_16 dX12_about_75 ?_
        refine r_iload_n ok 1 dX12_about_78 rfl ?_
        refine r_iaload ok 3 rfl dX12_about_79 h.1 ?_
        have h := h.2
        refine r_icmp_ge ok 99 dX12_about_80 (by decide) ⟨fun c => ?_, fun c => ?_⟩
        · have h := h.1 c
          refine r_bipush ok (-6) dX12_about_99 (by decide) ?_
          exact r_iret ok rfl dX12_about_101 h
        · have h := h.2 c
          refine r_aload_n ok 0 dX12_about_83 rfl ?_
          refine r_getR ok 0 1 rfl rfl fo_X12_13 dX12_about_84 ?_
          refine r_iconst ok (nI 5) dX12_about_87 (by decide) ?_
          refine r_iload_n ok 1 dX12_about_88 rfl ?_
          refine r_imul ok dX12_about_89 ?_
          refine r_iload_n ok 2 dX12_about_90 rfl ?_
          refine r_iadd ok dX12_about_91 ?_
          refine r_bipush ok (nI 20) dX12_about_92 (by decide) ?_
          refine r_isub ok dX12_about_94 ?_
          refine r_iaload ok 2 rfl dX12_about_95 h.1 ?_
          have h := h.2
          refine r_goto ok 101 dX12_about_96 (by decide) ?_
          exact r_iret ok rfl dX12_about_101 h
    · have h := h.2 c
      refine r_iload_n ok 2 dX12_about_24 rfl ?_
      refine r_bipush ok (nI 10) dX12_about_25 (by decide) ?_
      refine r_isub ok dX12_about_27 ?_
      refine r_aload_n ok 0 dX12_about_28 rfl ?_
      refine r_getR ok 0 2 rfl rfl fo_X12_16 dX12_about_29 ?_
      refine r_iload_n ok 1 dX12_about_32 rfl ?_
      refine r_iaload ok 3 rfl dX12_about_33 h.1 ?_
      have h := h.2
      refine r_icmp_ge ok 53 dX12_about_34 (by decide) ⟨fun c => ?_, fun c => ?_⟩
      · have h := h.1 c
        refine r_bipush ok (-6) dX12_about_53 (by decide) ?_
        exact r_iret ok rfl dX12_about_55 h
      · have h := h.2 c
        refine r_aload_n ok 0 dX12_about_37 rfl ?_
        refine r_getR ok 0 0 rfl rfl fo_X12_7 dX12_about_38 ?_
        refine r_iconst ok (nI 5) dX12_about_41 (by decide) ?_
        refine r_iload_n ok 1 dX12_about_42 rfl ?_
        refine r_imul ok dX12_about_43 ?_
        refine r_iload_n ok 2 dX12_about_44 rfl ?_
        refine r_iadd ok dX12_about_45 ?_
        refine r_bipush ok (nI 10) dX12_about_46 (by decide) ?_
        refine r_isub ok dX12_about_48 ?_
        refine r_iaload ok 1 rfl dX12_about_49 h.1 ?_
        have h := h.2
        refine r_goto ok 55 dX12_about_50 (by decide) ?_
        exact r_iret ok rfl dX12_about_55 h
  · have h := h.2 c
    refine r_iconst ok (-1) dX12_about_8 (by decide) ?_
    exact r_iret ok rfl dX12_about_9 h
set_option maxRecDepth 10000 in
theorem s_X12_often_0 {l : Launch} {x : Cx} {g : Geo} {K : Int32 → Mem → Prop} (ok : Ok x g shM m_X12_often) (v1 : Int32) (v2 : Int32) (S : Mem) (h : MWi l g shM m_X12_isWord [.ref (g.ad 0), .int v1] S (fun r1 S1 => ((¬ r1 = 0 → MWi l g shM m_X12_isOften [.int v2] S1 (fun r2 S2 => ((¬ r2 = 0 → (vp_in v1 12 ∧ (vp_in v1 12 ∧ K (S2 4 (cl v1)) (st2 S2 4 (cl v1) v2)))) ∧ (r2 = 0 → K (-2) S2)))) ∧ (r1 = 0 → K (-1) S1)))) : PW l x g shM m_X12_often (Qi x g shM K) 0 [(0, .ref (g.ad 0)), (1, .int v1), (2, .int v2)] [] S := by
  refine r_aload_n ok 0 dX12_often_0 rfl ?_
  refine r_iload_n ok 1 dX12_often_1 rfl ?_
  refine r_virti ok (rest := []) (As := [.int v1]) 0 _ k_X12_often_122 rfl rfl rfl rfl (Nat.le_of_ble_eq_true rfl) dX12_often_2 (MWi.mono h (fun r1 S1 h => ?_))
  refine r_if_ne ok 10 dX12_often_5 (by decide) ⟨fun c => ?_, fun c => ?_⟩
  · have h := h.1 c
    refine r_iload_n ok 2 dX12_often_10 rfl ?_
    refine r_stati ok (rest := []) (As := [.int v2]) _ k_X12_often_110 rfl rfl (Nat.le_of_ble_eq_true rfl) dX12_often_11 (MWi.mono h (fun r2 S2 h => ?_))
    refine r_if_ne ok 20 dX12_often_14 (by decide) ⟨fun c => ?_, fun c => ?_⟩
    · have h := h.1 c
      refine r_aload_n ok 0 dX12_often_20 rfl ?_
      refine r_getR ok 0 3 rfl rfl fo_X12_19 dX12_often_21 ?_
      refine r_iload_n ok 1 dX12_often_24 rfl ?_
      refine r_iaload ok 4 rfl dX12_often_25 h.1 ?_
      have h := h.2
      refine r_istore_n ok [(3, .int (S2 4 (cl v1))), (0, .ref (g.ad 0)), (1, .int v1), (2, .int v2)] dX12_often_26 (by decide) rfl ?_
      refine r_aload_n ok 1 dX12_often_27 rfl ?_
      refine r_getR ok 0 3 rfl rfl fo_X12_19 dX12_often_28 ?_
      refine r_iload_n ok 2 dX12_often_31 rfl ?_
      refine r_iload_n ok 3 dX12_often_32 rfl ?_
      refine r_iastore ok 4 rfl dX12_often_33 h.1 ?_
      have h := h.2
      refine r_iload_n ok 0 dX12_often_34 rfl ?_
      exact r_iret ok rfl dX12_often_35 h
    · have h := h.2 c
      refine r_bipush ok (-2) dX12_often_17 (by decide) ?_
      exact r_iret ok rfl dX12_often_19 h
  · have h := h.2 c
    refine r_iconst ok (-1) dX12_often_8 (by decide) ?_
    exact r_iret ok rfl dX12_often_9 h
set_option maxRecDepth 10000 in
theorem s_X12_findCommon_0 {l : Launch} {x : Cx} {g : Geo} {K : Mem → Prop} (ok : Ok x g shM m_X12_findCommon) (S : Mem) (h : PW l x g shM m_X12_findCommon (Qv x g shM K) 2 [(0, .ref (g.ad 0)), (1, .int (nI 0))] [] S) : PW l x g shM m_X12_findCommon (Qv x g shM K) 0 [(0, .ref (g.ad 0))] [] S := by
  refine r_iconst ok (nI 0) dX12_findCommon_0 (by decide) ?_
  refine r_istore_n ok [(1, .int (nI 0)), (0, .ref (g.ad 0))] dX12_findCommon_1 (by decide) rfl ?_
  exact r_sub [1, 0] _ rfl h
set_option maxRecDepth 10000 in
theorem s_X12_findCommon_2 {l : Launch} {x : Cx} {g : Geo} {K : Mem → Prop} (ok : Ok x g shM m_X12_findCommon) (v1 : Int32) (S : Mem) (h : (((nI 100) ≤ v1 → PW l x g shM m_X12_findCommon (Qv x g shM K) 23 [(0, .ref (g.ad 0)), (1, .int (nI 0))] [] S) ∧ (¬ (nI 100) ≤ v1 → (vp_in v1 100 ∧ PW l x g shM m_X12_findCommon (Qv x g shM K) 2 [(0, .ref (g.ad 0)), (1, .int (v1 + (nI 1)))] [] (st2 S 6 (cl v1) (nI 0)))))) : PW l x g shM m_X12_findCommon (Qv x g shM K) 2 [(0, .ref (g.ad 0)), (1, .int v1)] [] S := by
  refine r_iload_n ok 1 dX12_findCommon_2 rfl ?_
  refine r_bipush ok (nI 100) dX12_findCommon_3 (by decide) ?_
  refine r_icmp_ge ok 21 dX12_findCommon_5 (by decide) ⟨fun c => ?_, fun c => ?_⟩
  · have h := h.1 c
    refine r_iconst ok (nI 0) dX12_findCommon_21 (by decide) ?_
    refine r_istore_n ok [(1, .int (nI 0)), (0, .ref (g.ad 0))] dX12_findCommon_22 (by decide) rfl ?_
    exact r_sub [1, 0] _ rfl h
  · have h := h.2 c
    refine r_aload_n ok 0 dX12_findCommon_8 rfl ?_
    refine r_getR ok 0 8 rfl rfl fo_X12_25 dX12_findCommon_9 ?_
    refine r_iload_n ok 1 dX12_findCommon_12 rfl ?_
    refine r_iconst ok (nI 0) dX12_findCommon_13 (by decide) ?_
    refine r_iastore ok 6 rfl dX12_findCommon_14 h.1 ?_
    have h := h.2
    refine r_iinc ok 1 (v1 + (nI 1)) [(1, .int (v1 + (nI 1))), (0, .ref (g.ad 0))] dX12_findCommon_15 rfl rfl (by decide) rfl ?_
    refine r_goto ok 2 dX12_findCommon_18 (by decide) ?_
    exact r_sub [1, 0] _ rfl h
set_option maxRecDepth 10000 in
theorem s_X12_findCommon_23 {l : Launch} {x : Cx} {g : Geo} {K : Mem → Prop} (ok : Ok x g shM m_X12_findCommon) (v1 : Int32) (S : Mem) (h : (((S 0 4) ≤ v1 → PW l x g shM m_X12_findCommon (Qv x g shM K) 95 [(0, .ref (g.ad 0)), (1, .int (nI 0))] [] S) ∧ (¬ (S 0 4) ≤ v1 → PW l x g shM m_X12_findCommon (Qv x g shM K) 33 [(0, .ref (g.ad 0)), (1, .int v1), (2, .int (nI 0))] [] S))) : PW l x g shM m_X12_findCommon (Qv x g shM K) 23 [(0, .ref (g.ad 0)), (1, .int v1)] [] S := by
  refine r_iload_n ok 1 dX12_findCommon_23 rfl ?_
  refine r_aload_n ok 0 dX12_findCommon_24 rfl ?_
  refine r_getI ok 0 4 rfl rfl fo_X12_105 dX12_findCommon_25 ?_
  refine r_icmp_ge ok 93 dX12_findCommon_28 (by decide) ⟨fun c => ?_, fun c => ?_⟩
  · have h := h.1 c
    refine r_iconst ok (nI 0) dX12_findCommon_93 (by decide) ?_
    refine r_istore_n ok [(1, .int (nI 0)), (0, .ref (g.ad 0))] dX12_findCommon_94 (by decide) rfl ?_
    exact r_sub [1, 0] _ rfl h
  · have h := h.2 c
    refine r_iconst ok (nI 0) dX12_findCommon_31 (by decide) ?_
    refine r_istore_n ok [(2, .int (nI 0)), (0, .ref (g.ad 0)), (1, .int v1)] dX12_findCommon_32 (by decide) rfl ?_
    exact r_sub [1, 2, 0] _ rfl h
set_option maxRecDepth 10000 in
theorem s_X12_findCommon_33 {l : Launch} {x : Cx} {g : Geo} {K : Mem → Prop} (ok : Ok x g shM m_X12_findCommon) (v1 : Int32) (v2 : Int32) (S : Mem) (h : (vp_in v1 12 ∧ (((S 3 (cl v1)) ≤ v2 → PW l x g shM m_X12_findCommon (Qv x g shM K) 23 [(0, .ref (g.ad 0)), (1, .int (v1 + (nI 1)))] [] S) ∧ (¬ (S 3 (cl v1)) ≤ v2 → (vp_in (((nI 5) * v1) + v2) 60 ∧ (vp_in (((nI 5) * v1) + v2) 60 ∧ (vp_in (((nI 10) * (S 1 (cl (((nI 5) * v1) + v2)))) + (S 2 (cl (((nI 5) * v1) + v2)))) 100 ∧ (vp_in v1 12 ∧ (vp_in (((nI 10) * (S 1 (cl (((nI 5) * v1) + v2)))) + (S 2 (cl (((nI 5) * v1) + v2)))) 100 ∧ PW l x g shM m_X12_findCommon (Qv x g shM K) 33 [(0, .ref (g.ad 0)), (1, .int v1), (2, .int (v2 + (nI 1)))] [] (st2 S 6 (cl (((nI 10) * (S 1 (cl (((nI 5) * v1) + v2)))) + (S 2 (cl (((nI 5) * v1) + v2))))) ((S 6 (cl (((nI 10) * (S 1 (cl (((nI 5) * v1) + v2)))) + (S 2 (cl (((nI 5) * v1) + v2)))))) + (S 4 (cl v1))))))))))))) : PW l x g shM m_X12_findCommon (Qv x g shM K) 33 [(0, .ref (g.ad 0)), (1, .int v1), (2, .int v2)] [] S := by
  refine r_iload_n ok 2 dX12_findCommon_33 rfl ?_
  refine r_aload_n ok 0 dX12_findCommon_34 rfl ?_
  refine r_getR ok 0 2 rfl rfl fo_X12_16 dX12_findCommon_35 ?_
  refine r_iload_n ok 1 dX12_findCommon_38 rfl ?_
  refine r_iaload ok 3 rfl dX12_findCommon_39 h.1 ?_
  have h := h.2
  refine r_icmp_ge ok 87 dX12_findCommon_40 (by decide) ⟨fun c => ?_, fun c => ?_⟩
  · have h := h.1 c
    refine r_iinc ok 1 (v1 + (nI 1)) [(1, .int (v1 + (nI 1))), (0, .ref (g.ad 0)), (2, .int v2)] dX12_findCommon_87 rfl rfl (by decide) rfl ?_
    refine r_goto ok 23 dX12_findCommon_90 (by decide) ?_
    exact r_sub [1, 0] _ rfl h
  · have h := h.2 c
    refine r_aload_n ok 0 dX12_findCommon_43 rfl ?_
    refine r_getR ok 0 8 rfl rfl fo_X12_25 dX12_findCommon_44 ?_
    refine r_bipush ok (nI 10) dX12_findCommon_47 (by decide) ?_
    refine r_aload_n ok 0 dX12_findCommon_49 rfl ?_
    refine r_getR ok 0 0 rfl rfl fo_X12_7 dX12_findCommon_50 ?_
    refine r_iconst ok (nI 5) dX12_findCommon_53 (by decide) ?_
    refine r_iload_n ok 1 dX12_findCommon_54 rfl ?_
    refine r_imul ok dX12_findCommon_55 ?_
    refine r_iload_n ok 2 dX12_findCommon_56 rfl ?_
    refine r_iadd ok dX12_findCommon_57 ?_
    refine r_iaload ok 1 rfl dX12_findCommon_58 h.1 ?_
    have h := h.2
    refine r_imul ok dX12_findCommon_59 ?_
    refine r_aload_n ok 0 dX12_findCommon_60 rfl ?_
    refine r_getR ok 0 1 rfl rfl fo_X12_13 dX12_findCommon_61 ?_
    refine r_iconst ok (nI 5) dX12_findCommon_64 (by decide) ?_
    refine r_iload_n ok 1 dX12_findCommon_65 rfl ?_
    refine r_imul ok dX12_findCommon_66 ?_
    refine r_iload_n ok 2 dX12_findCommon_67 rfl ?_
    refine r_iadd ok dX12_findCommon_68 ?_
    refine r_iaload ok 2 rfl dX12_findCommon_69 h.1 ?_
    have h := h.2
    refine r_iadd ok dX12_findCommon_70 ?_
    refine r_dup2 ok dX12_findCommon_71 rfl rfl ?_
    refine r_iaload ok 6 rfl dX12_findCommon_72 h.1 ?_
    have h := h.2
    refine r_aload_n ok 0 dX12_findCommon_73 rfl ?_
    refine r_getR ok 0 3 rfl rfl fo_X12_19 dX12_findCommon_74 ?_
    refine r_iload_n ok 1 dX12_findCommon_77 rfl ?_
    refine r_iaload ok 4 rfl dX12_findCommon_78 h.1 ?_
    have h := h.2
    refine r_iadd ok dX12_findCommon_79 ?_
    refine r_iastore ok 6 rfl dX12_findCommon_80 h.1 ?_
    have h := h.2
    refine r_iinc ok 2 (v2 + (nI 1)) [(2, .int (v2 + (nI 1))), (0, .ref (g.ad 0)), (1, .int v1)] dX12_findCommon_81 rfl rfl (by decide) rfl ?_
    refine r_goto ok 33 dX12_findCommon_84 (by decide) ?_
    exact r_sub [1, 2, 0] _ rfl h
set_option maxRecDepth 10000 in
theorem s_X12_findCommon_95 {l : Launch} {x : Cx} {g : Geo} {K : Mem → Prop} (ok : Ok x g shM m_X12_findCommon) (v1 : Int32) (S : Mem) (h : (((nI 10) ≤ v1 → PW l x g shM m_X12_findCommon (Qv x g shM K) 167 [(0, .ref (g.ad 0)), (1, .int (nI 0))] [] S) ∧ (¬ (nI 10) ≤ v1 → (vp_in v1 10 ∧ PW l x g shM m_X12_findCommon (Qv x g shM K) 113 [(0, .ref (g.ad 0)), (1, .int v1), (2, .int (nI 0)), (3, .int (nI 0))] [] (st2 S 7 (cl v1) (-6)))))) : PW l x g shM m_X12_findCommon (Qv x g shM K) 95 [(0, .ref (g.ad 0)), (1, .int v1)] [] S := by
  refine r_iload_n ok 1 dX12_findCommon_95 rfl ?_
  refine r_bipush ok (nI 10) dX12_findCommon_96 (by decide) ?_
  refine r_icmp_ge ok 165 dX12_findCommon_98 (by decide) ⟨fun c => ?_, fun c => ?_⟩
  · have h := h.1 c
    refine r_iconst ok (nI 0) dX12_findCommon_165 (by decide) ?_
    refine r_istore_n ok [(1, .int (nI 0)), (0, .ref (g.ad 0))] dX12_findCommon_166 (by decide) rfl ?_
    exact r_sub [1, 0] _ rfl h
  · have h := h.2 c
    refine r_aload_n ok 0 dX12_findCommon_101 rfl ?_
    refine r_getR ok 0 9 rfl rfl fo_X12_28 dX12_findCommon_102 ?_
    refine r_iload_n ok 1 dX12_findCommon_105 rfl ?_
    refine r_bipush ok (-6) dX12_findCommon_106 (by decide) ?_
    refine r_iastore ok 7 rfl dX12_findCommon_108 h.1 ?_
    have h := h.2
    refine r_iconst ok (nI 0) dX12_findCommon_109 (by decide) ?_
    refine r_istore_n ok [(2, .int (nI 0)), (0, .ref (g.ad 0)), (1, .int v1)] dX12_findCommon_110 (by decide) rfl ?_
    refine r_iconst ok (nI 0) dX12_findCommon_111 (by decide) ?_
    refine r_istore_n ok [(3, .int (nI 0)), (2, .int (nI 0)), (0, .ref (g.ad 0)), (1, .int v1)] dX12_findCommon_112 (by decide) rfl ?_
    exact r_sub [2, 3, 1, 0] _ rfl h
set_option maxRecDepth 10000 in
theorem s_X12_findCommon_113 {l : Launch} {x : Cx} {g : Geo} {K : Mem → Prop} (ok : Ok x g shM m_X12_findCommon) (v1 : Int32) (v2 : Int32) (v3 : Int32) (S : Mem) (h : (((nI 10) ≤ v3 → PW l x g shM m_X12_findCommon (Qv x g shM K) 95 [(0, .ref (g.ad 0)), (1, .int (v1 + (nI 1)))] [] S) ∧ (¬ (nI 10) ≤ v3 → (vp_in (((nI 10) * v1) + v3) 100 ∧ (((S 6 (cl (((nI 10) * v1) + v3))) ≤ v2 → PW l x g shM m_X12_findCommon (Qv x g shM K) 113 [(0, .ref (g.ad 0)), (1, .int v1), (2, .int v2), (3, .int (v3 + (nI 1)))] [] S) ∧ (¬ (S 6 (cl (((nI 10) * v1) + v3))) ≤ v2 → (vp_in v1 10 ∧ (vp_in (((nI 10) * v1) + v3) 100 ∧ PW l x g shM m_X12_findCommon (Qv x g shM K) 113 [(0, .ref (g.ad 0)), (1, .int v1), (2, .int ((st2 S 7 (cl v1) v3) 6 (cl (((nI 10) * v1) + v3)))), (3, .int (v3 + (nI 1)))] [] (st2 S 7 (cl v1) v3))))))))) : PW l x g shM m_X12_findCommon (Qv x g shM K) 113 [(0, .ref (g.ad 0)), (1, .int v1), (2, .int v2), (3, .int v3)] [] S := by
  refine r_iload_n ok 3 dX12_findCommon_113 rfl ?_
  refine r_bipush ok (nI 10) dX12_findCommon_114 (by decide) ?_
  refine r_icmp_ge ok 159 dX12_findCommon_116 (by decide) ⟨fun c => ?_, fun c => ?_⟩
  · have h := h.1 c
    refine r_iinc ok 1 (v1 + (nI 1)) [(1, .int (v1 + (nI 1))), (0, .ref (g.ad 0)), (2, .int v2), (3, .int v3)] dX12_findCommon_159 rfl rfl (by decide) rfl ?_
    refine r_goto ok 95 dX12_findCommon_162 (by decide) ?_
    exact r_sub [1, 0] _ rfl h
  · have h := h.2 c
    refine r_aload_n ok 0 dX12_findCommon_119 rfl ?_
    refine r_getR ok 0 8 rfl rfl fo_X12_25 dX12_findCommon_120 ?_
    refine r_bipush ok (nI 10) dX12_findCommon_123 (by decide) ?_
    refine r_iload_n ok 1 dX12_findCommon_125 rfl ?_
    refine r_imul ok dX12_findCommon_126 ?_
    refine r_iload_n ok 3 dX12_findCommon_127 rfl ?_
    refine r_iadd ok dX12_findCommon_128 ?_
    refine r_iaload ok 6 rfl dX12_findCommon_129 h.1 ?_
    have h := h.2
    refine r_iload_n ok 2 dX12_findCommon_130 rfl ?_
    refine r_icmp_le ok 153 dX12_findCommon_131 (by decide) ⟨fun c => ?_, fun c => ?_⟩
    · have h := h.1 c
      refine r_iinc ok 3 (v3 + (nI 1)) [(3, .int (v3 + (nI 1))), (0, .ref (g.ad 0)), (1, .int v1), (2, .int v2)] dX12_findCommon_153 rfl rfl (by decide) rfl ?_
      refine r_goto ok 113 dX12_findCommon_156 (by decide) ?_
      exact r_sub [1, 2, 3, 0] _ rfl h
    · have h := h.2 c
      refine r_aload_n ok 0 dX12_findCommon_134 rfl ?_
      refine r_getR ok 0 9 rfl rfl fo_X12_28 dX12_findCommon_135 ?_
      refine r_iload_n ok 1 dX12_findCommon_138 rfl ?_
      refine r_iload_n ok 3 dX12_findCommon_139 rfl ?_
      refine r_iastore ok 7 rfl dX12_findCommon_140 h.1 ?_
      have h := h.2
      refine r_aload_n ok 0 dX12_findCommon_141 rfl ?_
      refine r_getR ok 0 8 rfl rfl fo_X12_25 dX12_findCommon_142 ?_
      refine r_bipush ok (nI 10) dX12_findCommon_145 (by decide) ?_
      refine r_iload_n ok 1 dX12_findCommon_147 rfl ?_
      refine r_imul ok dX12_findCommon_148 ?_
      refine r_iload_n ok 3 dX12_findCommon_149 rfl ?_
      refine r_iadd ok dX12_findCommon_150 ?_
      refine r_iaload ok 6 rfl dX12_findCommon_151 h.1 ?_
      have h := h.2
      refine r_istore_n ok [(2, .int ((st2 S 7 (cl v1) v3) 6 (cl (((nI 10) * v1) + v3)))), (0, .ref (g.ad 0)), (1, .int v1), (3, .int v3)] dX12_findCommon_152 (by decide) rfl ?_
      refine r_iinc ok 3 (v3 + (nI 1)) [(3, .int (v3 + (nI 1))), (2, .int ((st2 S 7 (cl v1) v3) 6 (cl (((nI 10) * v1) + v3)))), (0, .ref (g.ad 0)), (1, .int v1)] dX12_findCommon_153 rfl rfl (by decide) rfl ?_
      refine r_goto ok 113 dX12_findCommon_156 (by decide) ?_
      exact r_sub [2, 3, 1, 0] _ rfl h
set_option maxRecDepth 10000 in
theorem s_X12_findCommon_167 {l : Launch} {x : Cx} {g : Geo} {K : Mem → Prop} (ok : Ok x g shM m_X12_findCommon) (v1 : Int32) (S : Mem) (h : (((S 0 4) ≤ v1 → K S) ∧ (¬ (S 0 4) ≤ v1 → (vp_in v1 12 ∧ PW l x g shM m_X12_findCommon (Qv x g shM K) 184 [(0, .ref (g.ad 0)), (1, .int v1), (2, .int (nI 0))] [] (st2 S 8 (cl v1) (nI 1)))))) : PW l x g shM m_X12_findCommon (Qv x g shM K) 167 [(0, .ref (g.ad 0)), (1, .int v1)] [] S := by
  refine r_iload_n ok 1 dX12_findCommon_167 rfl ?_
  refine r_aload_n ok 0 dX12_findCommon_168 rfl ?_
  refine r_getI ok 0 4 rfl rfl fo_X12_105 dX12_findCommon_169 ?_
  refine r_icmp_ge ok 250 dX12_findCommon_172 (by decide) ⟨fun c => ?_, fun c => ?_⟩
  · have h := h.1 c
    exact r_ret ok rfl dX12_findCommon_250 h
  · have h := h.2 c
    refine r_aload_n ok 0 dX12_findCommon_175 rfl ?_
    refine r_getR ok 0 10 rfl rfl fo_X12_31 dX12_findCommon_176 ?_
    refine r_iload_n ok 1 dX12_findCommon_179 rfl ?_
    refine r_iconst ok (nI 1) dX12_findCommon_180 (by decide) ?_
    refine r_iastore ok 8 rfl dX12_findCommon_181 h.1 ?_
    have h := h.2
    refine r_iconst ok (nI 0) dX12_findCommon_182 (by decide) ?_
    refine r_istore_n ok [(2, .int (nI 0)), (0, .ref (g.ad 0)), (1, .int v1)] dX12_findCommon_183 (by decide) rfl ?_
    exact r_sub [1, 2, 0] _ rfl h
set_option maxRecDepth 10000 in
theorem s_X12_findCommon_184 {l : Launch} {x : Cx} {g : Geo} {K : Mem → Prop} (ok : Ok x g shM m_X12_findCommon) (v1 : Int32) (v2 : Int32) (S : Mem) (h : (vp_in v1 12 ∧ (((S 3 (cl v1)) ≤ v2 → PW l x g shM m_X12_findCommon (Qv x g shM K) 167 [(0, .ref (g.ad 0)), (1, .int (v1 + (nI 1)))] [] S) ∧ (¬ (S 3 (cl v1)) ≤ v2 → (vp_in (((nI 5) * v1) + v2) 60 ∧ (vp_in (S 1 (cl (((nI 5) * v1) + v2))) 10 ∧ (vp_in (((nI 5) * v1) + v2) 60 ∧ ((¬ (S 7 (cl (S 1 (cl (((nI 5) * v1) + v2))))) = (S 2 (cl (((nI 5) * v1) + v2))) → (vp_in v1 12 ∧ PW l x g shM m_X12_findCommon (Qv x g shM K) 184 [(0, .ref (g.ad 0)), (1, .int v1), (2, .int (v2 + (nI 1)))] [] (st2 S 8 (cl v1) (nI 0)))) ∧ ((S 7 (cl (S 1 (cl (((nI 5) * v1) + v2))))) = (S 2 (cl (((nI 5) * v1) + v2))) → (vp_in v1 12 ∧ (vp_in v1 12 ∧ PW l x g shM m_X12_findCommon (Qv x g shM K) 184 [(0, .ref (g.ad 0)), (1, .int v1), (2, .int (v2 + (nI 1)))] [] (st2 S 8 (cl v1) (S 8 (cl v1)))))))))))))) : PW l x g shM m_X12_findCommon (Qv x g shM K) 184 [(0, .ref (g.ad 0)), (1, .int v1), (2, .int v2)] [] S := by
  refine r_iload_n ok 2 dX12_findCommon_184 rfl ?_
  refine r_aload_n ok 0 dX12_findCommon_185 rfl ?_
  refine r_getR ok 0 2 rfl rfl fo_X12_16 dX12_findCommon_186 ?_
  refine r_iload_n ok 1 dX12_findCommon_189 rfl ?_
  refine r_iaload ok 3 rfl dX12_findCommon_190 h.1 ?_
  have h := h.2
  refine r_icmp_ge ok 244 dX12_findCommon_191 (by decide) ⟨fun c => ?_, fun c => ?_⟩
  · have h := h.1 c
    refine r_iinc ok 1 (v1 + (nI 1)) [(1, .int (v1 + (nI 1))), (0, .ref (g.ad 0)), (2, .int v2)] dX12_findCommon_244 rfl rfl (by decide) rfl ?_
    refine r_goto ok 167 dX12_findCommon_247 (by decide) ?_
    exact r_sub [1, 0] _ rfl h
  · have h := h.2 c
    refine r_aload_n ok 0 dX12_findCommon_194 rfl ?_
    refine r_getR ok 0 10 rfl rfl fo_X12_31 dX12_findCommon_195 ?_
    refine r_iload_n ok 1 dX12_findCommon_198 rfl ?_
    refine r_aload_n ok 0 dX12_findCommon_199 rfl ?_
    refine r_getR ok 0 9 rfl rfl fo_X12_28 dX12_findCommon_200 ?_
    refine r_aload_n ok 0 dX12_findCommon_203 rfl ?_
    refine r_getR ok 0 0 rfl rfl fo_X12_7 dX12_findCommon_204 ?_
    refine r_iconst ok (nI 5) dX12_findCommon_207 (by decide) ?_
    refine r_iload_n ok 1 dX12_findCommon_208 rfl ?_
    refine r_imul ok dX12_findCommon_209 ?_
    refine r_iload_n ok 2 dX12_findCommon_210 rfl ?_
    refine r_iadd ok dX12_findCommon_211 ?_
    refine r_iaload ok 1 rfl dX12_findCommon_212 h.1 ?_
    have h := h.2
    refine r_iaload ok 7 rfl dX12_findCommon_213 h.1 ?_
    have h := h.2
    refine r_aload_n ok 0 dX12_findCommon_214 rfl ?_
    refine r_getR ok 0 1 rfl rfl fo_X12_13 dX12_findCommon_215 ?_
    refine r_iconst ok (nI 5) dX12_findCommon_218 (by decide) ?_
    refine r_iload_n ok 1 dX12_findCommon_219 rfl ?_
    refine r_imul ok dX12_findCommon_220 ?_
    refine r_iload_n ok 2 dX12_findCommon_221 rfl ?_
    refine r_iadd ok dX12_findCommon_222 ?_
    refine r_iaload ok 2 rfl dX12_findCommon_223 h.1 ?_
    have h := h.2
    refine r_icmp_ne ok 236 dX12_findCommon_224 (by decide) ⟨fun c => ?_, fun c => ?_⟩
    · have h := h.1 c
      refine r_iconst ok (nI 0) dX12_findCommon_236 (by decide) ?_
      refine r_iastore ok 8 rfl dX12_findCommon_237 h.1 ?_
      have h := h.2
      refine r_iinc ok 2 (v2 + (nI 1)) [(2, .int (v2 + (nI 1))), (0, .ref (g.ad 0)), (1, .int v1)] dX12_findCommon_238 rfl rfl (by decide) rfl ?_
      refine r_goto ok 184 dX12_findCommon_241 (by decide) ?_
      exact r_sub [1, 2, 0] _ rfl h
    · have h := h.2 c
      refine r_aload_n ok 0 dX12_findCommon_227 rfl ?_
      refine r_getR ok 0 10 rfl rfl fo_X12_31 dX12_findCommon_228 ?_
      refine r_iload_n ok 1 dX12_findCommon_231 rfl ?_
      refine r_iaload ok 8 rfl dX12_findCommon_232 h.1 ?_
      have h := h.2
      refine r_goto ok 237 dX12_findCommon_233 (by decide) ?_
      refine r_iastore ok 8 rfl dX12_findCommon_237 h.1 ?_
      have h := h.2
      refine r_iinc ok 2 (v2 + (nI 1)) [(2, .int (v2 + (nI 1))), (0, .ref (g.ad 0)), (1, .int v1)] dX12_findCommon_238 rfl rfl (by decide) rfl ?_
      refine r_goto ok 184 dX12_findCommon_241 (by decide) ?_
      exact r_sub [1, 2, 0] _ rfl h
set_option maxRecDepth 10000 in
theorem s_X12_isRegular_0 {l : Launch} {x : Cx} {g : Geo} {K : Int32 → Mem → Prop} (ok : Ok x g shM m_X12_isRegular) (v1 : Int32) (S : Mem) (h : (vp_in v1 12 ∧ ((¬ (S 8 (cl v1)) = (nI 1) → K (nI 0) S) ∧ ((S 8 (cl v1)) = (nI 1) → K (nI 1) S)))) : PW l x g shM m_X12_isRegular (Qi x g shM K) 0 [(0, .ref (g.ad 0)), (1, .int v1)] [] S := by
  refine r_aload_n ok 0 dX12_isRegular_0 rfl ?_
  refine r_getR ok 0 10 rfl rfl fo_X12_31 dX12_isRegular_1 ?_
  refine r_iload_n ok 1 dX12_isRegular_4 rfl ?_
  refine r_iaload ok 8 rfl dX12_isRegular_5 h.1 ?_
  have h := h.2
  refine r_iconst ok (nI 1) dX12_isRegular_6 (by decide) ?_
  refine r_icmp_ne ok 14 dX12_isRegular_7 (by decide) ⟨fun c => ?_, fun c => ?_⟩
  · have h := h.1 c
    refine r_iconst ok (nI 0) dX12_isRegular_14 (by decide) ?_
    exact r_zret ok rfl dX12_isRegular_15 ⟨rfl, h⟩
  · have h := h.2 c
    refine r_iconst ok (nI 1) dX12_isRegular_10 (by decide) ?_
    refine r_goto ok 15 dX12_isRegular_11 (by decide) ?_
    exact r_zret ok rfl dX12_isRegular_15 ⟨rfl, h⟩
set_option maxRecDepth 10000 in
theorem s_X12_allOf_0 {l : Launch} {x : Cx} {g : Geo} {K : Int32 → Mem → Prop} (ok : Ok x g shM m_X12_allOf) (v1 : Int32) (S : Mem) (h : PW l x g shM m_X12_allOf (Qi x g shM K) 4 [(0, .ref (g.ad 0)), (1, .int v1), (2, .int (nI 0)), (3, .int (nI 0))] [] S) : PW l x g shM m_X12_allOf (Qi x g shM K) 0 [(0, .ref (g.ad 0)), (1, .int v1)] [] S := by
  refine r_iconst ok (nI 0) dX12_allOf_0 (by decide) ?_
  refine r_istore_n ok [(2, .int (nI 0)), (0, .ref (g.ad 0)), (1, .int v1)] dX12_allOf_1 (by decide) rfl ?_
  refine r_iconst ok (nI 0) dX12_allOf_2 (by decide) ?_
  refine r_istore_n ok [(3, .int (nI 0)), (2, .int (nI 0)), (0, .ref (g.ad 0)), (1, .int v1)] dX12_allOf_3 (by decide) rfl ?_
  exact r_sub [2, 3, 1, 0] _ rfl h
set_option maxRecDepth 10000 in
theorem s_X12_allOf_4 {l : Launch} {x : Cx} {g : Geo} {K : Int32 → Mem → Prop} (ok : Ok x g shM m_X12_allOf) (v1 : Int32) (v2 : Int32) (v3 : Int32) (S : Mem) (h : (((nI 10) ≤ v3 → K v2 S) ∧ (¬ (nI 10) ≤ v3 → (vp_in (((nI 10) * v1) + v3) 100 ∧ PW l x g shM m_X12_allOf (Qi x g shM K) 4 [(0, .ref (g.ad 0)), (1, .int v1), (2, .int (v2 + (S 6 (cl (((nI 10) * v1) + v3))))), (3, .int (v3 + (nI 1)))] [] S)))) : PW l x g shM m_X12_allOf (Qi x g shM K) 4 [(0, .ref (g.ad 0)), (1, .int v1), (2, .int v2), (3, .int v3)] [] S := by
  refine r_iload_n ok 3 dX12_allOf_4 rfl ?_
  refine r_bipush ok (nI 10) dX12_allOf_5 (by decide) ?_
  refine r_icmp_ge ok 30 dX12_allOf_7 (by decide) ⟨fun c => ?_, fun c => ?_⟩
  · have h := h.1 c
    refine r_iload_n ok 2 dX12_allOf_30 rfl ?_
    exact r_iret ok rfl dX12_allOf_31 h
  · have h := h.2 c
    refine r_iload_n ok 2 dX12_allOf_10 rfl ?_
    refine r_aload_n ok 0 dX12_allOf_11 rfl ?_
    refine r_getR ok 0 8 rfl rfl fo_X12_25 dX12_allOf_12 ?_
    refine r_bipush ok (nI 10) dX12_allOf_15 (by decide) ?_
    refine r_iload_n ok 1 dX12_allOf_17 rfl ?_
    refine r_imul ok dX12_allOf_18 ?_
    refine r_iload_n ok 3 dX12_allOf_19 rfl ?_
    refine r_iadd ok dX12_allOf_20 ?_
    refine r_iaload ok 6 rfl dX12_allOf_21 h.1 ?_
    have h := h.2
    refine r_iadd ok dX12_allOf_22 ?_
    refine r_istore_n ok [(2, .int (v2 + (S 6 (cl (((nI 10) * v1) + v3))))), (0, .ref (g.ad 0)), (1, .int v1), (3, .int v3)] dX12_allOf_23 (by decide) rfl ?_
    refine r_iinc ok 3 (v3 + (nI 1)) [(3, .int (v3 + (nI 1))), (2, .int (v2 + (S 6 (cl (((nI 10) * v1) + v3))))), (0, .ref (g.ad 0)), (1, .int v1)] dX12_allOf_24 rfl rfl (by decide) rfl ?_
    refine r_goto ok 4 dX12_allOf_27 (by decide) ?_
    exact r_sub [2, 3, 1, 0] _ rfl h
set_option maxRecDepth 10000 in
theorem s_X12_has_0 {l : Launch} {x : Cx} {g : Geo} {K : Int64 → Mem → Prop} (ok : Ok x g shM m_X12_has) (v1 : Int32) (v2 : Int32) (v3 : Int32) (S : Mem) (h : MWi l g shM m_X12_isSign [.int v1] S (fun r1 S1 => ((¬ r1 = 0 → MWi l g shM m_X12_in [.long v2.toInt64, .long (lN 0), .long (lN 9)] S1 (fun r2 S2 => ((r2 = 0 → K (-1000000000000000002) S2) ∧ (¬ r2 = 0 → MWi l g shM m_X12_isEnd [.int v3] S2 (fun r3 S3 => ((¬ r3 = 0 → MWv l g shM m_X12_findCommon [.ref (g.ad 0)] S3 (fun S4 => (vp_in (((nI 10) * v1) + v2) 100 ∧ MWi l g shM m_X12_allOf [.ref (g.ad 0), .int v1] S4 (fun r5 S5 => MWl l g shM m_X12_lowest [.long (S4 6 (cl (((nI 10) * v1) + v2))).toInt64, .long r5.toInt64, .int v3] S5 (fun r6 S6 => K r6 S6))))) ∧ (r3 = 0 → K (-1000000000000000002) S3))))))) ∧ (r1 = 0 → K (-1000000000000000001) S1)))) : PW l x g shM m_X12_has (Ql x g shM K) 0 [(0, .ref (g.ad 0)), (1, .int v1), (2, .int v2), (3, .int v3)] [] S := by
  refine r_iload_n ok 1 dX12_has_0 rfl ?_
  refine r_stati ok (rest := []) (As := [.int v1]) _ k_X12_has_143 rfl rfl (Nat.le_of_ble_eq_true rfl) dX12_has_1 (MWi.mono h (fun r1 S1 h => ?_))
  refine r_if_ne ok 11 dX12_has_4 (by decide) ⟨fun c => ?_, fun c => ?_⟩
  · have h := h.1 c
    refine r_iload_n ok 2 dX12_has_11 rfl ?_
    refine r_i2l ok dX12_has_12 ?_
    refine r_lconst ok (lN 0) dX12_has_13 (by decide) ?_
    refine r_ldc2 ok (lN 9) dX12_has_14 (gt_in (List.mem_of_getElem? (i := 1125) (by decide +kernel)) rfl) ?_
    refine r_stati ok (rest := []) (As := [.long v2.toInt64, .long (lN 0), .long (lN 9)]) _ k_X12_has_80 rfl rfl (Nat.le_of_ble_eq_true rfl) dX12_has_17 (MWi.mono h (fun r2 S2 h => ?_))
    refine r_if_eq ok 30 dX12_has_20 (by decide) ⟨fun c => ?_, fun c => ?_⟩
    · have h := h.1 c
      refine r_ldc2 ok (-1000000000000000002) dX12_has_30 (gt_in (List.mem_of_getElem? (i := 1130) (by decide +kernel)) rfl) ?_
      exact r_lret ok rfl dX12_has_33 h
    · have h := h.2 c
      refine r_iload_n ok 3 dX12_has_23 rfl ?_
      refine r_stati ok (rest := []) (As := [.int v3]) _ k_X12_has_148 rfl rfl (Nat.le_of_ble_eq_true rfl) dX12_has_24 (MWi.mono h (fun r3 S3 h => ?_))
      refine r_if_ne ok 34 dX12_has_27 (by decide) ⟨fun c => ?_, fun c => ?_⟩
      · have h := h.1 c
        refine r_aload_n ok 0 dX12_has_34 rfl ?_
        refine r_virtv ok (rest := []) (As := []) 0 _ k_X12_has_137 rfl rfl rfl rfl (Nat.le_of_ble_eq_true rfl) dX12_has_35 (MWv.mono h (fun S4 h => ?_))
        refine r_aload_n ok 0 dX12_has_38 rfl ?_
        refine r_getR ok 0 8 rfl rfl fo_X12_25 dX12_has_39 ?_
        refine r_bipush ok (nI 10) dX12_has_42 (by decide) ?_
        refine r_iload_n ok 1 dX12_has_44 rfl ?_
        refine r_imul ok dX12_has_45 ?_
        refine r_iload_n ok 2 dX12_has_46 rfl ?_
        refine r_iadd ok dX12_has_47 ?_
        refine r_iaload ok 6 rfl dX12_has_48 h.1 ?_
        have h := h.2
        refine r_i2l ok dX12_has_49 ?_
        refine r_aload_n ok 0 dX12_has_50 rfl ?_
        refine r_iload_n ok 1 dX12_has_51 rfl ?_
        refine r_virti ok (rest := [.long (S4 6 (cl (((nI 10) * v1) + v2))).toInt64]) (As := [.int v1]) 0 _ k_X12_has_153 rfl rfl rfl rfl (Nat.le_of_ble_eq_true rfl) dX12_has_52 (MWi.mono h (fun r5 S5 h => ?_))
        refine r_i2l ok dX12_has_55 ?_
        refine r_iload_n ok 3 dX12_has_56 rfl ?_
        refine r_statl ok (rest := []) (As := [.long (S4 6 (cl (((nI 10) * v1) + v2))).toInt64, .long r5.toInt64, .int v3]) _ k_X12_has_156 rfl rfl (Nat.le_of_ble_eq_true rfl) dX12_has_57 (MWl.mono h (fun r6 S6 h => ?_))
        exact r_lret ok rfl dX12_has_60 h
      · have h := h.2 c
        refine r_ldc2 ok (-1000000000000000002) dX12_has_30 (gt_in (List.mem_of_getElem? (i := 1130) (by decide +kernel)) rfl) ?_
        exact r_lret ok rfl dX12_has_33 h
  · have h := h.2 c
    refine r_ldc2 ok (-1000000000000000001) dX12_has_7 (gt_in (List.mem_of_getElem? (i := 1126) (by decide +kernel)) rfl) ?_
    exact r_lret ok rfl dX12_has_10 h
set_option maxRecDepth 10000 in
theorem s_X12_common_0 {l : Launch} {x : Cx} {g : Geo} {K : Int32 → Mem → Prop} (ok : Ok x g shM m_X12_common) (v1 : Int32) (S : Mem) (h : MWi l g shM m_X12_isSign [.int v1] S (fun r1 S1 => ((¬ r1 = 0 → MWv l g shM m_X12_findCommon [.ref (g.ad 0)] S1 (fun S2 => (vp_in v1 10 ∧ K (S2 7 (cl v1)) S2))) ∧ (r1 = 0 → K (-1) S1)))) : PW l x g shM m_X12_common (Qi x g shM K) 0 [(0, .ref (g.ad 0)), (1, .int v1)] [] S := by
  refine r_iload_n ok 1 dX12_common_0 rfl ?_
  refine r_stati ok (rest := []) (As := [.int v1]) _ k_X12_common_143 rfl rfl (Nat.le_of_ble_eq_true rfl) dX12_common_1 (MWi.mono h (fun r1 S1 h => ?_))
  refine r_if_ne ok 9 dX12_common_4 (by decide) ⟨fun c => ?_, fun c => ?_⟩
  · have h := h.1 c
    refine r_aload_n ok 0 dX12_common_9 rfl ?_
    refine r_virtv ok (rest := []) (As := []) 0 _ k_X12_common_137 rfl rfl rfl rfl (Nat.le_of_ble_eq_true rfl) dX12_common_10 (MWv.mono h (fun S2 h => ?_))
    refine r_aload_n ok 0 dX12_common_13 rfl ?_
    refine r_getR ok 0 9 rfl rfl fo_X12_28 dX12_common_14 ?_
    refine r_iload_n ok 1 dX12_common_17 rfl ?_
    refine r_iaload ok 7 rfl dX12_common_18 h.1 ?_
    have h := h.2
    exact r_iret ok rfl dX12_common_19 h
  · have h := h.2 c
    refine r_iconst ok (-1) dX12_common_7 (by decide) ?_
    exact r_iret ok rfl dX12_common_8 h
set_option maxRecDepth 10000 in
theorem s_X12_ruled_0 {l : Launch} {x : Cx} {g : Geo} {K : Int64 → Mem → Prop} (ok : Ok x g shM m_X12_ruled) (v1 : Int32) (S : Mem) (h : MWi l g shM m_X12_isEnd [.int v1] S (fun r1 S1 => ((¬ r1 = 0 → MWv l g shM m_X12_findCommon [.ref (g.ad 0)] S1 (fun S2 => PW l x g shM m_X12_ruled (Ql x g shM K) 23 [(0, .ref (g.ad 0)), (1, .int v1), (2, .long (lN 0)), (4, .long (lN 0)), (6, .int (nI 0))] [] S2)) ∧ (r1 = 0 → K (-1000000000000000002) S1)))) : PW l x g shM m_X12_ruled (Ql x g shM K) 0 [(0, .ref (g.ad 0)), (1, .int v1)] [] S := by
  refine r_iload_n ok 1 dX12_ruled_0 rfl ?_
  refine r_stati ok (rest := []) (As := [.int v1]) _ k_X12_ruled_148 rfl rfl (Nat.le_of_ble_eq_true rfl) dX12_ruled_1 (MWi.mono h (fun r1 S1 h => ?_))
  refine r_if_ne ok 11 dX12_ruled_4 (by decide) ⟨fun c => ?_, fun c => ?_⟩
  · have h := h.1 c
    refine r_aload_n ok 0 dX12_ruled_11 rfl ?_
    refine r_virtv ok (rest := []) (As := []) 0 _ k_X12_ruled_137 rfl rfl rfl rfl (Nat.le_of_ble_eq_true rfl) dX12_ruled_12 (MWv.mono h (fun S2 h => ?_))
    refine r_lconst ok (lN 0) dX12_ruled_15 (by decide) ?_
    refine r_lstore_n ok [(2, .long (lN 0)), (0, .ref (g.ad 0)), (1, .int v1)] dX12_ruled_16 (by decide) rfl ?_
    refine r_lconst ok (lN 0) dX12_ruled_17 (by decide) ?_
    refine r_lstore ok [(4, .long (lN 0)), (2, .long (lN 0)), (0, .ref (g.ad 0)), (1, .int v1)] dX12_ruled_18 (by decide) rfl ?_
    refine r_iconst ok (nI 0) dX12_ruled_20 (by decide) ?_
    refine r_istore ok [(6, .int (nI 0)), (4, .long (lN 0)), (2, .long (lN 0)), (0, .ref (g.ad 0)), (1, .int v1)] dX12_ruled_21 (by decide) rfl ?_
    exact r_sub [3, 4, 2, 1, 0] _ rfl h
  · have h := h.2 c
    refine r_ldc2 ok (-1000000000000000002) dX12_ruled_7 (gt_in (List.mem_of_getElem? (i := 1130) (by decide +kernel)) rfl) ?_
    exact r_lret ok rfl dX12_ruled_10 h
set_option maxRecDepth 10000 in
theorem s_X12_ruled_23 {l : Launch} {x : Cx} {g : Geo} {K : Int64 → Mem → Prop} (ok : Ok x g shM m_X12_ruled) (v1 : Int32) (v2 : Int64) (v4 : Int64) (v6 : Int32) (S : Mem) (h : (((nI 10) ≤ v6 → MWl l g shM m_X12_lowest [.long v2, .long v4, .int v1] S (fun r1 S1 => K r1 S1)) ∧ (¬ (nI 10) ≤ v6 → (vp_in v6 10 ∧ ((0 ≤ (S 7 (cl v6)) → (vp_in v6 10 ∧ (vp_in (((nI 10) * v6) + (S 7 (cl v6))) 100 ∧ MWi l g shM m_X12_allOf [.ref (g.ad 0), .int v6] S (fun r2 S2 => PW l x g shM m_X12_ruled (Ql x g shM K) 23 [(0, .ref (g.ad 0)), (1, .int v1), (2, .long (v2 + (S 6 (cl (((nI 10) * v6) + (S 7 (cl v6))))).toInt64)), (4, .long (v4 + r2.toInt64)), (6, .int (v6 + (nI 1)))] [] S2)))) ∧ (¬ 0 ≤ (S 7 (cl v6)) → MWi l g shM m_X12_allOf [.ref (g.ad 0), .int v6] S (fun r3 S3 => PW l x g shM m_X12_ruled (Ql x g shM K) 23 [(0, .ref (g.ad 0)), (1, .int v1), (2, .long (v2 + (lN 0))), (4, .long (v4 + r3.toInt64)), (6, .int (v6 + (nI 1)))] [] S3))))))) : PW l x g shM m_X12_ruled (Ql x g shM K) 23 [(0, .ref (g.ad 0)), (1, .int v1), (2, .long v2), (4, .long v4), (6, .int v6)] [] S := by
  refine r_iload ok 4 dX12_ruled_23 rfl ?_
  refine r_bipush ok (nI 10) dX12_ruled_25 (by decide) ?_
  refine r_icmp_ge ok 84 dX12_ruled_27 (by decide) ⟨fun c => ?_, fun c => ?_⟩
  · have h := h.1 c
    refine r_lload_n ok 2 dX12_ruled_84 rfl ?_
    refine r_lload ok 3 dX12_ruled_85 rfl ?_
    refine r_iload_n ok 1 dX12_ruled_87 rfl ?_
    refine r_statl ok (rest := []) (As := [.long v2, .long v4, .int v1]) _ k_X12_ruled_156 rfl rfl (Nat.le_of_ble_eq_true rfl) dX12_ruled_88 (MWl.mono h (fun r1 S1 h => ?_))
    exact r_lret ok rfl dX12_ruled_91 h
  · have h := h.2 c
    refine r_lload_n ok 2 dX12_ruled_30 rfl ?_
    refine r_aload_n ok 0 dX12_ruled_31 rfl ?_
    refine r_getR ok 0 9 rfl rfl fo_X12_28 dX12_ruled_32 ?_
    refine r_iload ok 4 dX12_ruled_35 rfl ?_
    refine r_iaload ok 7 rfl dX12_ruled_37 h.1 ?_
    have h := h.2
    refine r_if_ge ok 45 dX12_ruled_38 (by decide) ⟨fun c => ?_, fun c => ?_⟩
    · have h := h.1 c
      refine r_aload_n ok 0 dX12_ruled_45 rfl ?_
      refine r_getR ok 0 8 rfl rfl fo_X12_25 dX12_ruled_46 ?_
      refine r_bipush ok (nI 10) dX12_ruled_49 (by decide) ?_
      refine r_iload ok 4 dX12_ruled_51 rfl ?_
      refine r_imul ok dX12_ruled_53 ?_
      refine r_aload_n ok 0 dX12_ruled_54 rfl ?_
      refine r_getR ok 0 9 rfl rfl fo_X12_28 dX12_ruled_55 ?_
      refine r_iload ok 4 dX12_ruled_58 rfl ?_
      refine r_iaload ok 7 rfl dX12_ruled_60 h.1 ?_
      have h := h.2
      refine r_iadd ok dX12_ruled_61 ?_
      refine r_iaload ok 6 rfl dX12_ruled_62 h.1 ?_
      have h := h.2
      refine r_i2l ok dX12_ruled_63 ?_
      refine r_ladd ok dX12_ruled_64 ?_
      refine r_lstore_n ok [(2, .long (v2 + (S 6 (cl (((nI 10) * v6) + (S 7 (cl v6))))).toInt64)), (0, .ref (g.ad 0)), (1, .int v1), (4, .long v4), (6, .int v6)] dX12_ruled_65 (by decide) rfl ?_
      refine r_lload ok 3 dX12_ruled_66 rfl ?_
      refine r_aload_n ok 1 dX12_ruled_68 rfl ?_
      refine r_iload ok 4 dX12_ruled_69 rfl ?_
      refine r_virti ok (rest := [.long v4]) (As := [.int v6]) 0 _ k_X12_ruled_153 rfl rfl rfl rfl (Nat.le_of_ble_eq_true rfl) dX12_ruled_71 (MWi.mono h (fun r2 S2 h => ?_))
      refine r_i2l ok dX12_ruled_74 ?_
      refine r_ladd ok dX12_ruled_75 ?_
      refine r_lstore ok [(4, .long (v4 + r2.toInt64)), (2, .long (v2 + (S 6 (cl (((nI 10) * v6) + (S 7 (cl v6))))).toInt64)), (0, .ref (g.ad 0)), (1, .int v1), (6, .int v6)] dX12_ruled_76 (by decide) rfl ?_
      refine r_iinc ok 4 (v6 + (nI 1)) [(6, .int (v6 + (nI 1))), (4, .long (v4 + r2.toInt64)), (2, .long (v2 + (S 6 (cl (((nI 10) * v6) + (S 7 (cl v6))))).toInt64)), (0, .ref (g.ad 0)), (1, .int v1)] dX12_ruled_78 rfl rfl (by decide) rfl ?_
      refine r_goto ok 23 dX12_ruled_81 (by decide) ?_
      exact r_sub [3, 4, 2, 1, 0] _ rfl h
    · have h := h.2 c
      refine r_lconst ok (lN 0) dX12_ruled_41 (by decide) ?_
      refine r_goto ok 64 dX12_ruled_42 (by decide) ?_
      refine r_ladd ok dX12_ruled_64 ?_
      refine r_lstore_n ok [(2, .long (v2 + (lN 0))), (0, .ref (g.ad 0)), (1, .int v1), (4, .long v4), (6, .int v6)] dX12_ruled_65 (by decide) rfl ?_
      refine r_lload ok 3 dX12_ruled_66 rfl ?_
      refine r_aload_n ok 1 dX12_ruled_68 rfl ?_
      refine r_iload ok 4 dX12_ruled_69 rfl ?_
      refine r_virti ok (rest := [.long v4]) (As := [.int v6]) 0 _ k_X12_ruled_153 rfl rfl rfl rfl (Nat.le_of_ble_eq_true rfl) dX12_ruled_71 (MWi.mono h (fun r3 S3 h => ?_))
      refine r_i2l ok dX12_ruled_74 ?_
      refine r_ladd ok dX12_ruled_75 ?_
      refine r_lstore ok [(4, .long (v4 + r3.toInt64)), (2, .long (v2 + (lN 0))), (0, .ref (g.ad 0)), (1, .int v1), (6, .int v6)] dX12_ruled_76 (by decide) rfl ?_
      refine r_iinc ok 4 (v6 + (nI 1)) [(6, .int (v6 + (nI 1))), (4, .long (v4 + r3.toInt64)), (2, .long (v2 + (lN 0))), (0, .ref (g.ad 0)), (1, .int v1)] dX12_ruled_78 rfl rfl (by decide) rfl ?_
      refine r_goto ok 23 dX12_ruled_81 (by decide) ?_
      exact r_sub [3, 4, 2, 1, 0] _ rfl h
set_option maxRecDepth 10000 in
theorem s_X12_knows_0 {l : Launch} {x : Cx} {g : Geo} {K : Int32 → Mem → Prop} (ok : Ok x g shM m_X12_knows) (v1 : Int32) (v2 : Int32) (v3 : Int32) (S : Mem) (h : MWi l g shM m_X12_isChild [.int v1] S (fun r1 S1 => ((¬ r1 = 0 → MWi l g shM m_X12_isEnd [.int v2] S1 (fun r2 S2 => ((r2 = 0 → K (-2) S2) ∧ (¬ r2 = 0 → ((¬ v2 = 0 → MWi l g shM m_X12_in [.long v3.toInt64, .long (lN 0), .long ((jshl (nI 1) (S2 0 4)) - (nI 1)).toInt64] S2 (fun r3 S3 => ((¬ r3 = 0 → ((¬ v2 = 0 → (vp_in v1 4 ∧ ((¬ v2 = 0 → (vp_in v1 4 ∧ K (S3 10 (cl v1)) (st2 S3 10 (cl v1) v3))) ∧ (v2 = 0 → (vp_in v1 4 ∧ K (S3 10 (cl v1)) (st2 S3 9 (cl v1) v3)))))) ∧ (v2 = 0 → (vp_in v1 4 ∧ ((¬ v2 = 0 → (vp_in v1 4 ∧ K (S3 9 (cl v1)) (st2 S3 10 (cl v1) v3))) ∧ (v2 = 0 → (vp_in v1 4 ∧ K (S3 9 (cl v1)) (st2 S3 9 (cl v1) v3)))))))) ∧ (r3 = 0 → K (-2) S3)))) ∧ (v2 = 0 → MWi l g shM m_X12_in [.long v3.toInt64, .long (lN 0), .long (lN 1023)] S2 (fun r4 S4 => ((¬ r4 = 0 → ((¬ v2 = 0 → (vp_in v1 4 ∧ ((¬ v2 = 0 → (vp_in v1 4 ∧ K (S4 10 (cl v1)) (st2 S4 10 (cl v1) v3))) ∧ (v2 = 0 → (vp_in v1 4 ∧ K (S4 10 (cl v1)) (st2 S4 9 (cl v1) v3)))))) ∧ (v2 = 0 → (vp_in v1 4 ∧ ((¬ v2 = 0 → (vp_in v1 4 ∧ K (S4 9 (cl v1)) (st2 S4 10 (cl v1) v3))) ∧ (v2 = 0 → (vp_in v1 4 ∧ K (S4 9 (cl v1)) (st2 S4 9 (cl v1) v3)))))))) ∧ (r4 = 0 → K (-2) S4))))))))) ∧ (r1 = 0 → K (-1) S1)))) : PW l x g shM m_X12_knows (Qi x g shM K) 0 [(0, .ref (g.ad 0)), (1, .int v1), (2, .int v2), (3, .int v3)] [] S := by
  refine r_iload_n ok 1 dX12_knows_0 rfl ?_
  refine r_stati ok (rest := []) (As := [.int v1]) _ k_X12_knows_160 rfl rfl (Nat.le_of_ble_eq_true rfl) dX12_knows_1 (MWi.mono h (fun r1 S1 h => ?_))
  refine r_if_ne ok 9 dX12_knows_4 (by decide) ⟨fun c => ?_, fun c => ?_⟩
  · have h := h.1 c
    refine r_iload_n ok 2 dX12_knows_9 rfl ?_
    refine r_stati ok (rest := []) (As := [.int v2]) _ k_X12_knows_148 rfl rfl (Nat.le_of_ble_eq_true rfl) dX12_knows_10 (MWi.mono h (fun r2 S2 h => ?_))
    refine r_if_eq ok 44 dX12_knows_13 (by decide) ⟨fun c => ?_, fun c => ?_⟩
    · have h := h.1 c
      refine r_bipush ok (-2) dX12_knows_44 (by decide) ?_
      exact r_iret ok rfl dX12_knows_46 h
    · have h := h.2 c
      refine r_iload_n ok 3 dX12_knows_16 rfl ?_
      refine r_i2l ok dX12_knows_17 ?_
      refine r_lconst ok (lN 0) dX12_knows_18 (by decide) ?_
      refine r_iload_n ok 2 dX12_knows_19 rfl ?_
      refine r_if_ne ok 29 dX12_knows_20 (by decide) ⟨fun c => ?_, fun c => ?_⟩
      · have h := h.1 c
        refine r_iconst ok (nI 1) dX12_knows_29 (by decide) ?_
        refine r_aload_n ok 0 dX12_knows_30 rfl ?_
        refine r_getI ok 0 4 rfl rfl fo_X12_105 dX12_knows_31 ?_
        refine r_ishl ok dX12_knows_34 ?_
        refine r_iconst ok (nI 1) dX12_knows_35 (by decide) ?_
        refine r_isub ok dX12_knows_36 ?_
        refine r_i2l ok dX12_knows_37 ?_
        refine r_stati ok (rest := []) (As := [.long v3.toInt64, .long (lN 0), .long ((jshl (nI 1) (S2 0 4)) - (nI 1)).toInt64]) _ k_X12_knows_80 rfl rfl (Nat.le_of_ble_eq_true rfl) dX12_knows_38 (MWi.mono h (fun r3 S3 h => ?_))
        refine r_if_ne ok 47 dX12_knows_41 (by decide) ⟨fun c => ?_, fun c => ?_⟩
        · have h := h.1 c
          refine r_iload_n ok 2 dX12_knows_47 rfl ?_
          refine r_if_ne ok 60 dX12_knows_48 (by decide) ⟨fun c => ?_, fun c => ?_⟩
          · have h := h.1 c
            refine r_aload_n ok 0 dX12_knows_60 rfl ?_
            refine r_getR ok 0 12 rfl rfl fo_X12_37 dX12_knows_61 ?_
            refine r_iload_n ok 1 dX12_knows_64 rfl ?_
            refine r_iaload ok 10 rfl dX12_knows_65 h.1 ?_
            have h := h.2
            refine r_istore ok [(4, .int (S3 10 (cl v1))), (0, .ref (g.ad 0)), (1, .int v1), (2, .int v2), (3, .int v3)] dX12_knows_66 (by decide) rfl ?_
            refine r_iload_n ok 3 dX12_knows_68 rfl ?_
            refine r_if_ne ok 82 dX12_knows_69 (by decide) ⟨fun c => ?_, fun c => ?_⟩
            · have h := h.1 c
              refine r_aload_n ok 1 dX12_knows_82 rfl ?_
              refine r_getR ok 0 12 rfl rfl fo_X12_37 dX12_knows_83 ?_
              refine r_iload_n ok 2 dX12_knows_86 rfl ?_
              refine r_iload_n ok 4 dX12_knows_87 rfl ?_
              refine r_iastore ok 10 rfl dX12_knows_88 h.1 ?_
              have h := h.2
              refine r_iload ok 0 dX12_knows_89 rfl ?_
              exact r_iret ok rfl dX12_knows_91 h
            · have h := h.2 c
              refine r_aload_n ok 1 dX12_knows_72 rfl ?_
              refine r_getR ok 0 11 rfl rfl fo_X12_34 dX12_knows_73 ?_
              refine r_iload_n ok 2 dX12_knows_76 rfl ?_
              refine r_iload_n ok 4 dX12_knows_77 rfl ?_
              refine r_iastore ok 9 rfl dX12_knows_78 h.1 ?_
              have h := h.2
              refine r_goto ok 89 dX12_knows_79 (by decide) ?_
              refine r_iload ok 0 dX12_knows_89 rfl ?_
              exact r_iret ok rfl dX12_knows_91 h
          · have h := h.2 c
            refine r_aload_n ok 0 dX12_knows_51 rfl ?_
            refine r_getR ok 0 11 rfl rfl fo_X12_34 dX12_knows_52 ?_
            refine r_iload_n ok 1 dX12_knows_55 rfl ?_
            refine r_iaload ok 9 rfl dX12_knows_56 h.1 ?_
            have h := h.2
            refine r_goto ok 66 dX12_knows_57 (by decide) ?_
            refine r_istore ok [(4, .int (S3 9 (cl v1))), (0, .ref (g.ad 0)), (1, .int v1), (2, .int v2), (3, .int v3)] dX12_knows_66 (by decide) rfl ?_
            refine r_iload_n ok 3 dX12_knows_68 rfl ?_
            refine r_if_ne ok 82 dX12_knows_69 (by decide) ⟨fun c => ?_, fun c => ?_⟩
            · have h := h.1 c
              refine r_aload_n ok 1 dX12_knows_82 rfl ?_
              refine r_getR ok 0 12 rfl rfl fo_X12_37 dX12_knows_83 ?_
              refine r_iload_n ok 2 dX12_knows_86 rfl ?_
              refine r_iload_n ok 4 dX12_knows_87 rfl ?_
              refine r_iastore ok 10 rfl dX12_knows_88 h.1 ?_
              have h := h.2
              refine r_iload ok 0 dX12_knows_89 rfl ?_
              exact r_iret ok rfl dX12_knows_91 h
            · have h := h.2 c
              refine r_aload_n ok 1 dX12_knows_72 rfl ?_
              refine r_getR ok 0 11 rfl rfl fo_X12_34 dX12_knows_73 ?_
              refine r_iload_n ok 2 dX12_knows_76 rfl ?_
              refine r_iload_n ok 4 dX12_knows_77 rfl ?_
              refine r_iastore ok 9 rfl dX12_knows_78 h.1 ?_
              have h := h.2
              refine r_goto ok 89 dX12_knows_79 (by decide) ?_
              refine r_iload ok 0 dX12_knows_89 rfl ?_
              exact r_iret ok rfl dX12_knows_91 h
        · have h := h.2 c
          refine r_bipush ok (-2) dX12_knows_44 (by decide) ?_
          exact r_iret ok rfl dX12_knows_46 h
      · have h := h.2 c
        refine r_ldc2 ok (lN 1023) dX12_knows_23 (gt_in (List.mem_of_getElem? (i := 1154) (by decide +kernel)) rfl) ?_
        refine r_goto ok 38 dX12_knows_26 (by decide) ?_
        refine r_stati ok (rest := []) (As := [.long v3.toInt64, .long (lN 0), .long (lN 1023)]) _ k_X12_knows_80 rfl rfl (Nat.le_of_ble_eq_true rfl) dX12_knows_38 (MWi.mono h (fun r4 S4 h => ?_))
        refine r_if_ne ok 47 dX12_knows_41 (by decide) ⟨fun c => ?_, fun c => ?_⟩
        · have h := h.1 c
          refine r_iload_n ok 2 dX12_knows_47 rfl ?_
          refine r_if_ne ok 60 dX12_knows_48 (by decide) ⟨fun c => ?_, fun c => ?_⟩
          · have h := h.1 c
            refine r_aload_n ok 0 dX12_knows_60 rfl ?_
            refine r_getR ok 0 12 rfl rfl fo_X12_37 dX12_knows_61 ?_
            refine r_iload_n ok 1 dX12_knows_64 rfl ?_
            refine r_iaload ok 10 rfl dX12_knows_65 h.1 ?_
            have h := h.2
            refine r_istore ok [(4, .int (S4 10 (cl v1))), (0, .ref (g.ad 0)), (1, .int v1), (2, .int v2), (3, .int v3)] dX12_knows_66 (by decide) rfl ?_
            refine r_iload_n ok 3 dX12_knows_68 rfl ?_
            refine r_if_ne ok 82 dX12_knows_69 (by decide) ⟨fun c => ?_, fun c => ?_⟩
            · have h := h.1 c
              refine r_aload_n ok 1 dX12_knows_82 rfl ?_
              refine r_getR ok 0 12 rfl rfl fo_X12_37 dX12_knows_83 ?_
              refine r_iload_n ok 2 dX12_knows_86 rfl ?_
              refine r_iload_n ok 4 dX12_knows_87 rfl ?_
              refine r_iastore ok 10 rfl dX12_knows_88 h.1 ?_
              have h := h.2
              refine r_iload ok 0 dX12_knows_89 rfl ?_
              exact r_iret ok rfl dX12_knows_91 h
            · have h := h.2 c
              refine r_aload_n ok 1 dX12_knows_72 rfl ?_
              refine r_getR ok 0 11 rfl rfl fo_X12_34 dX12_knows_73 ?_
              refine r_iload_n ok 2 dX12_knows_76 rfl ?_
              refine r_iload_n ok 4 dX12_knows_77 rfl ?_
              refine r_iastore ok 9 rfl dX12_knows_78 h.1 ?_
              have h := h.2
              refine r_goto ok 89 dX12_knows_79 (by decide) ?_
              refine r_iload ok 0 dX12_knows_89 rfl ?_
              exact r_iret ok rfl dX12_knows_91 h
          · have h := h.2 c
            refine r_aload_n ok 0 dX12_knows_51 rfl ?_
            refine r_getR ok 0 11 rfl rfl fo_X12_34 dX12_knows_52 ?_
            refine r_iload_n ok 1 dX12_knows_55 rfl ?_
            refine r_iaload ok 9 rfl dX12_knows_56 h.1 ?_
            have h := h.2
            refine r_goto ok 66 dX12_knows_57 (by decide) ?_
            refine r_istore ok [(4, .int (S4 9 (cl v1))), (0, .ref (g.ad 0)), (1, .int v1), (2, .int v2), (3, .int v3)] dX12_knows_66 (by decide) rfl ?_
            refine r_iload_n ok 3 dX12_knows_68 rfl ?_
            refine r_if_ne ok 82 dX12_knows_69 (by decide) ⟨fun c => ?_, fun c => ?_⟩
            · have h := h.1 c
              refine r_aload_n ok 1 dX12_knows_82 rfl ?_
              refine r_getR ok 0 12 rfl rfl fo_X12_37 dX12_knows_83 ?_
              refine r_iload_n ok 2 dX12_knows_86 rfl ?_
              refine r_iload_n ok 4 dX12_knows_87 rfl ?_
              refine r_iastore ok 10 rfl dX12_knows_88 h.1 ?_
              have h := h.2
              refine r_iload ok 0 dX12_knows_89 rfl ?_
              exact r_iret ok rfl dX12_knows_91 h
            · have h := h.2 c
              refine r_aload_n ok 1 dX12_knows_72 rfl ?_
              refine r_getR ok 0 11 rfl rfl fo_X12_34 dX12_knows_73 ?_
              refine r_iload_n ok 2 dX12_knows_76 rfl ?_
              refine r_iload_n ok 4 dX12_knows_77 rfl ?_
              refine r_iastore ok 9 rfl dX12_knows_78 h.1 ?_
              have h := h.2
              refine r_goto ok 89 dX12_knows_79 (by decide) ?_
              refine r_iload ok 0 dX12_knows_89 rfl ?_
              exact r_iret ok rfl dX12_knows_91 h
        · have h := h.2 c
          refine r_bipush ok (-2) dX12_knows_44 (by decide) ?_
          exact r_iret ok rfl dX12_knows_46 h
  · have h := h.2 c
    refine r_iconst ok (-1) dX12_knows_7 (by decide) ?_
    exact r_iret ok rfl dX12_knows_8 h
set_option maxRecDepth 10000 in
theorem s_X12_mix_0 {l : Launch} {x : Cx} {g : Geo} {K : Int32 → Mem → Prop} (ok : Ok x g shM m_X12_mix) (v1 : Int32) (v2 : Int32) (v3 : Int32) (S : Mem) (h : ((¬ v2 = (-1) → PW l x g shM m_X12_mix (Qi x g shM K) 14 [(0, .ref (g.ad 0)), (1, .int v1), (2, .int v2), (3, .int v3)] [] S) ∧ (v2 = (-1) → ((¬ v3 = (-1) → PW l x g shM m_X12_mix (Qi x g shM K) 14 [(0, .ref (g.ad 0)), (1, .int v1), (2, .int v2), (3, .int v3)] [] S) ∧ (v3 = (-1) → MWi l g shM m_X12_isChild [.int v1] S (fun r1 S1 => ((r1 = 0 → K (-1) S1) ∧ (¬ r1 = 0 → PW l x g shM m_X12_mix (Qi x g shM K) 50 [(0, .ref (g.ad 0)), (1, .int v1), (2, .int v2), (3, .int v3), (4, .int (nI 1))] [] S1)))))))) : PW l x g shM m_X12_mix (Qi x g shM K) 0 [(0, .ref (g.ad 0)), (1, .int v1), (2, .int v2), (3, .int v3)] [] S := by
  refine r_iload_n ok 2 dX12_mix_0 rfl ?_
  refine r_iconst ok (-1) dX12_mix_1 (by decide) ?_
  refine r_icmp_ne ok 14 dX12_mix_2 (by decide) ⟨fun c => ?_, fun c => ?_⟩
  · have h := h.1 c
    exact r_sub [0, 1, 2, 3] _ rfl h
  · have h := h.2 c
    refine r_iload_n ok 3 dX12_mix_5 rfl ?_
    refine r_iconst ok (-1) dX12_mix_6 (by decide) ?_
    refine r_icmp_ne ok 14 dX12_mix_7 (by decide) ⟨fun c => ?_, fun c => ?_⟩
    · have h := h.1 c
      exact r_sub [0, 1, 2, 3] _ rfl h
    · have h := h.2 c
      refine r_iconst ok (nI 1) dX12_mix_10 (by decide) ?_
      refine r_goto ok 15 dX12_mix_11 (by decide) ?_
      refine r_istore ok [(4, .int (nI 1)), (0, .ref (g.ad 0)), (1, .int v1), (2, .int v2), (3, .int v3)] dX12_mix_15 (by decide) rfl ?_
      refine r_iload_n ok 2 dX12_mix_17 rfl ?_
      refine r_stati ok (rest := []) (As := [.int v1]) _ k_X12_mix_160 rfl rfl (Nat.le_of_ble_eq_true rfl) dX12_mix_18 (MWi.mono h (fun r1 S1 h => ?_))
      refine r_if_eq ok 48 dX12_mix_21 (by decide) ⟨fun c => ?_, fun c => ?_⟩
      · have h := h.1 c
        refine r_iconst ok (-1) dX12_mix_48 (by decide) ?_
        exact r_iret ok rfl dX12_mix_49 h
      · have h := h.2 c
        refine r_iload ok 0 dX12_mix_24 rfl ?_
        refine r_if_ne ok 50 dX12_mix_26 (by decide) ⟨fun _ => ?_, fun c => absurd c (by decide)⟩
        exact r_sub [1, 2, 3, 4, 0] _ rfl h
set_option maxRecDepth 10000 in
theorem s_X12_mix_14 {l : Launch} {x : Cx} {g : Geo} {K : Int32 → Mem → Prop} (ok : Ok x g shM m_X12_mix) (v1 : Int32) (v2 : Int32) (v3 : Int32) (S : Mem) (h : MWi l g shM m_X12_isChild [.int v1] S (fun r1 S1 => ((r1 = 0 → K (-1) S1) ∧ (¬ r1 = 0 → MWi l g shM m_X12_isSign [.int v2] S1 (fun r2 S2 => ((r2 = 0 → K (-1) S2) ∧ (¬ r2 = 0 → MWi l g shM m_X12_isSign [.int v3] S2 (fun r3 S3 => ((r3 = 0 → K (-1) S3) ∧ (¬ r3 = 0 → ((¬ v2 = v3 → PW l x g shM m_X12_mix (Qi x g shM K) 50 [(0, .ref (g.ad 0)), (1, .int v1), (2, .int v2), (3, .int v3), (4, .int (nI 0))] [] S3) ∧ (v2 = v3 → K (-1) S3)))))))))))) : PW l x g shM m_X12_mix (Qi x g shM K) 14 [(0, .ref (g.ad 0)), (1, .int v1), (2, .int v2), (3, .int v3)] [] S := by
  refine r_iconst ok (nI 0) dX12_mix_14 (by decide) ?_
  refine r_istore ok [(4, .int (nI 0)), (0, .ref (g.ad 0)), (1, .int v1), (2, .int v2), (3, .int v3)] dX12_mix_15 (by decide) rfl ?_
  refine r_iload_n ok 2 dX12_mix_17 rfl ?_
  refine r_stati ok (rest := []) (As := [.int v1]) _ k_X12_mix_160 rfl rfl (Nat.le_of_ble_eq_true rfl) dX12_mix_18 (MWi.mono h (fun r1 S1 h => ?_))
  refine r_if_eq ok 48 dX12_mix_21 (by decide) ⟨fun c => ?_, fun c => ?_⟩
  · have h := h.1 c
    refine r_iconst ok (-1) dX12_mix_48 (by decide) ?_
    exact r_iret ok rfl dX12_mix_49 h
  · have h := h.2 c
    refine r_iload ok 0 dX12_mix_24 rfl ?_
    refine r_if_ne ok 50 dX12_mix_26 (by decide) ⟨fun c => absurd c (by decide), fun _ => ?_⟩
    refine r_iload_n ok 3 dX12_mix_29 rfl ?_
    refine r_stati ok (rest := []) (As := [.int v2]) _ k_X12_mix_143 rfl rfl (Nat.le_of_ble_eq_true rfl) dX12_mix_30 (MWi.mono h (fun r2 S2 h => ?_))
    refine r_if_eq ok 48 dX12_mix_33 (by decide) ⟨fun c => ?_, fun c => ?_⟩
    · have h := h.1 c
      refine r_iconst ok (-1) dX12_mix_48 (by decide) ?_
      exact r_iret ok rfl dX12_mix_49 h
    · have h := h.2 c
      refine r_iload_n ok 4 dX12_mix_36 rfl ?_
      refine r_stati ok (rest := []) (As := [.int v3]) _ k_X12_mix_143 rfl rfl (Nat.le_of_ble_eq_true rfl) dX12_mix_37 (MWi.mono h (fun r3 S3 h => ?_))
      refine r_if_eq ok 48 dX12_mix_40 (by decide) ⟨fun c => ?_, fun c => ?_⟩
      · have h := h.1 c
        refine r_iconst ok (-1) dX12_mix_48 (by decide) ?_
        exact r_iret ok rfl dX12_mix_49 h
      · have h := h.2 c
        refine r_iload_n ok 3 dX12_mix_43 rfl ?_
        refine r_iload_n ok 4 dX12_mix_44 rfl ?_
        refine r_icmp_ne ok 50 dX12_mix_45 (by decide) ⟨fun c => ?_, fun c => ?_⟩
        · have h := h.1 c
          exact r_sub [1, 2, 3, 4, 0] _ rfl h
        · have h := h.2 c
          refine r_iconst ok (-1) dX12_mix_48 (by decide) ?_
          exact r_iret ok rfl dX12_mix_49 h
set_option maxRecDepth 10000 in
theorem s_X12_mix_50 {l : Launch} {x : Cx} {g : Geo} {K : Int32 → Mem → Prop} (ok : Ok x g shM m_X12_mix) (v1 : Int32) (v2 : Int32) (v3 : Int32) (v4 : Int32) (S : Mem) (h : (vp_in v1 4 ∧ ((v4 = 0 → ((v3 ≤ v2 → (vp_in v1 4 ∧ K (S 11 (cl v1)) (st2 S 11 (cl v1) (((nI 10) * v3) + v2)))) ∧ (¬ v3 ≤ v2 → (vp_in v1 4 ∧ K (S 11 (cl v1)) (st2 S 11 (cl v1) (((nI 10) * v2) + v3)))))) ∧ (¬ v4 = 0 → (vp_in v1 4 ∧ K (S 11 (cl v1)) (st2 S 11 (cl v1) (-6))))))) : PW l x g shM m_X12_mix (Qi x g shM K) 50 [(0, .ref (g.ad 0)), (1, .int v1), (2, .int v2), (3, .int v3), (4, .int v4)] [] S := by
  refine r_aload_n ok 0 dX12_mix_50 rfl ?_
  refine r_getR ok 0 13 rfl rfl fo_X12_40 dX12_mix_51 ?_
  refine r_iload_n ok 1 dX12_mix_54 rfl ?_
  refine r_iaload ok 11 rfl dX12_mix_55 h.1 ?_
  have h := h.2
  refine r_istore ok [(5, .int (S 11 (cl v1))), (0, .ref (g.ad 0)), (1, .int v1), (2, .int v2), (3, .int v3), (4, .int v4)] dX12_mix_56 (by decide) rfl ?_
  refine r_aload_n ok 1 dX12_mix_58 rfl ?_
  refine r_getR ok 0 13 rfl rfl fo_X12_40 dX12_mix_59 ?_
  refine r_iload_n ok 2 dX12_mix_62 rfl ?_
  refine r_iload ok 5 dX12_mix_63 rfl ?_
  refine r_if_eq ok 73 dX12_mix_65 (by decide) ⟨fun c => ?_, fun c => ?_⟩
  · have h := h.1 c
    refine r_iload_n ok 3 dX12_mix_73 rfl ?_
    refine r_iload_n ok 4 dX12_mix_74 rfl ?_
    refine r_icmp_ge ok 87 dX12_mix_75 (by decide) ⟨fun c => ?_, fun c => ?_⟩
    · have h := h.1 c
      refine r_bipush ok (nI 10) dX12_mix_87 (by decide) ?_
      refine r_iload_n ok 4 dX12_mix_89 rfl ?_
      refine r_imul ok dX12_mix_90 ?_
      refine r_iload_n ok 3 dX12_mix_91 rfl ?_
      refine r_iadd ok dX12_mix_92 ?_
      refine r_iastore ok 11 rfl dX12_mix_93 h.1 ?_
      have h := h.2
      refine r_iload ok 0 dX12_mix_94 rfl ?_
      exact r_iret ok rfl dX12_mix_96 h
    · have h := h.2 c
      refine r_bipush ok (nI 10) dX12_mix_78 (by decide) ?_
      refine r_iload_n ok 3 dX12_mix_80 rfl ?_
      refine r_imul ok dX12_mix_81 ?_
      refine r_iload_n ok 4 dX12_mix_82 rfl ?_
      refine r_iadd ok dX12_mix_83 ?_
      refine r_goto ok 93 dX12_mix_84 (by decide) ?_
      refine r_iastore ok 11 rfl dX12_mix_93 h.1 ?_
      have h := h.2
      refine r_iload ok 0 dX12_mix_94 rfl ?_
      exact r_iret ok rfl dX12_mix_96 h
  · have h := h.2 c
    refine r_bipush ok (-6) dX12_mix_68 (by decide) ?_
    refine r_goto ok 93 dX12_mix_70 (by decide) ?_
    refine r_iastore ok 11 rfl dX12_mix_93 h.1 ?_
    have h := h.2
    refine r_iload ok 0 dX12_mix_94 rfl ?_
    exact r_iret ok rfl dX12_mix_96 h
set_option maxRecDepth 10000 in
theorem s_X12_takenFor_0 {l : Launch} {x : Cx} {g : Geo} {K : Int32 → Mem → Prop} (ok : Ok x g shM m_X12_takenFor) (v1 : Int32) (v2 : Int32) (S : Mem) (h : (vp_in v1 4 ∧ ((0 ≤ (S 11 (cl v1)) → (¬ (nI 10) = 0 ∧ ((¬ ((S 11 (cl v1)) / (nI 10)) = v2 → (¬ (nI 10) = 0 ∧ ((¬ (jrem (S 11 (cl v1)) (nI 10)) = v2 → K v2 S) ∧ ((jrem (S 11 (cl v1)) (nI 10)) = v2 → (¬ (nI 10) = 0 ∧ K ((S 11 (cl v1)) / (nI 10)) S))))) ∧ (((S 11 (cl v1)) / (nI 10)) = v2 → (¬ (nI 10) = 0 ∧ K (jrem (S 11 (cl v1)) (nI 10)) S))))) ∧ (¬ 0 ≤ (S 11 (cl v1)) → K v2 S)))) : PW l x g shM m_X12_takenFor (Qi x g shM K) 0 [(0, .ref (g.ad 0)), (1, .int v1), (2, .int v2)] [] S := by
  refine r_aload_n ok 0 dX12_takenFor_0 rfl ?_
  refine r_getR ok 0 13 rfl rfl fo_X12_40 dX12_takenFor_1 ?_
  refine r_iload_n ok 1 dX12_takenFor_4 rfl ?_
  refine r_iaload ok 11 rfl dX12_takenFor_5 h.1 ?_
  have h := h.2
  refine r_istore_n ok [(3, .int (S 11 (cl v1))), (0, .ref (g.ad 0)), (1, .int v1), (2, .int v2)] dX12_takenFor_6 (by decide) rfl ?_
  refine r_iload_n ok 0 dX12_takenFor_7 rfl ?_
  refine r_if_ge ok 15 dX12_takenFor_8 (by decide) ⟨fun c => ?_, fun c => ?_⟩
  · have h := h.1 c
    refine r_iload_n ok 0 dX12_takenFor_15 rfl ?_
    refine r_bipush ok (nI 10) dX12_takenFor_16 (by decide) ?_
    refine r_idiv ok dX12_takenFor_18 h.1 ?_
    have h := h.2
    refine r_iload_n ok 3 dX12_takenFor_19 rfl ?_
    refine r_icmp_ne ok 30 dX12_takenFor_20 (by decide) ⟨fun c => ?_, fun c => ?_⟩
    · have h := h.1 c
      refine r_iload_n ok 0 dX12_takenFor_30 rfl ?_
      refine r_bipush ok (nI 10) dX12_takenFor_31 (by decide) ?_
      refine r_irem ok dX12_takenFor_33 h.1 ?_
      have h := h.2
      refine r_iload_n ok 3 dX12_takenFor_34 rfl ?_
      refine r_icmp_ne ok 45 dX12_takenFor_35 (by decide) ⟨fun c => ?_, fun c => ?_⟩
      · have h := h.1 c
        refine r_iload_n ok 3 dX12_takenFor_45 rfl ?_
        exact r_iret ok rfl dX12_takenFor_46 h
      · have h := h.2 c
        refine r_iload_n ok 0 dX12_takenFor_38 rfl ?_
        refine r_bipush ok (nI 10) dX12_takenFor_39 (by decide) ?_
        refine r_idiv ok dX12_takenFor_41 h.1 ?_
        have h := h.2
        refine r_goto ok 46 dX12_takenFor_42 (by decide) ?_
        exact r_iret ok rfl dX12_takenFor_46 h
    · have h := h.2 c
      refine r_iload_n ok 0 dX12_takenFor_23 rfl ?_
      refine r_bipush ok (nI 10) dX12_takenFor_24 (by decide) ?_
      refine r_irem ok dX12_takenFor_26 h.1 ?_
      have h := h.2
      refine r_goto ok 46 dX12_takenFor_27 (by decide) ?_
      exact r_iret ok rfl dX12_takenFor_46 h
  · have h := h.2 c
    refine r_iload_n ok 3 dX12_takenFor_11 rfl ?_
    refine r_goto ok 46 dX12_takenFor_12 (by decide) ?_
    exact r_iret ok rfl dX12_takenFor_46 h
