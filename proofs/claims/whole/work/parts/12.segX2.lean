/-! segments, written by program: 12.segX2.lean.txt -/
set_option maxRecDepth 10000 in
theorem s_X3_hear_0 {l : Launch} {x : Cx} {g : Geo} {K : Mem → Prop} (ok : Ok x g shX m_X3_hear) (S : Mem) (h : PW l x g shX m_X3_hear (Qv x g shX K) 17 [(0, .ref (g.ad 35)), (1, .int (nI 0))] [] (st2 (st2 (st2 S 35 4 (nI 0)) 35 5 (nI 0)) 35 6 (nI 0))) : PW l x g shX m_X3_hear (Qv x g shX K) 0 [(0, .ref (g.ad 35))] [] S := by
  refine r_aload_n ok 0 dX3_hear_0 rfl ?_
  refine r_iconst ok (nI 0) dX3_hear_1 (by decide) ?_
  refine r_put ok 35 4 rfl rfl po_X3_33 rfl rfl dX3_hear_2 ?_
  refine r_aload_n ok 0 dX3_hear_5 rfl ?_
  refine r_iconst ok (nI 0) dX3_hear_6 (by decide) ?_
  refine r_put ok 35 5 rfl rfl po_X3_37 rfl rfl dX3_hear_7 ?_
  refine r_aload_n ok 0 dX3_hear_10 rfl ?_
  refine r_iconst ok (nI 0) dX3_hear_11 (by decide) ?_
  refine r_put ok 35 6 rfl rfl po_X3_40 rfl rfl dX3_hear_12 ?_
  refine r_iconst ok (nI 0) dX3_hear_15 (by decide) ?_
  refine r_istore_n ok [(1, .int (nI 0)), (0, .ref (g.ad 35))] dX3_hear_16 (by decide) rfl ?_
  exact r_sub [1, 0] _ rfl h
set_option maxRecDepth 10000 in
theorem s_X3_hear_17 {l : Launch} {x : Cx} {g : Geo} {K : Mem → Prop} (ok : Ok x g shX m_X3_hear) (v1 : Int32) (S : Mem) (h : (((S 15 2) ≤ v1 → K S) ∧ (¬ (S 15 2) ≤ v1 → (vp_in v1 20 ∧ MWi l g shX m_X8_isRegular [.ref (g.ad 18), .int (S 16 (cl v1))] S (fun r1 S1 => (vp_in v1 20 ∧ (((S1 17 (cl v1)) = 0 → ((r1 = 0 → PW l x g shX m_X3_hear (Qv x g shX K) 17 [(0, .ref (g.ad 35)), (1, .int (v1 + (nI 1)))] [] S1) ∧ (¬ r1 = 0 → (vp_in (S 16 (cl v1)) 12 ∧ (vp_in (S1 35 4) 20 ∧ PW l x g shX m_X3_hear (Qv x g shX K) 17 [(0, .ref (g.ad 35)), (1, .int (v1 + (nI 1)))] [] (st2 (st2 S1 36 (cl (S1 35 4)) (S1 7 (cl (S 16 (cl v1))))) 35 4 (((st2 S1 36 (cl (S1 35 4)) (S1 7 (cl (S 16 (cl v1))))) 35 4) + (nI 1)))))))) ∧ (¬ (S1 17 (cl v1)) = 0 → (vp_in (S 16 (cl v1)) 12 ∧ ((¬ r1 = 0 → ((narrow .boolean (.int (((st2 S1 35 5 ((S1 35 5) ||| (S1 7 (cl (S 16 (cl v1)))))) 35 6) ||| (nI 0))) = .int (((st2 S1 35 5 ((S1 35 5) ||| (S1 7 (cl (S 16 (cl v1)))))) 35 6) ||| (nI 0)) ∧ fits .boolean (.int (((st2 S1 35 5 ((S1 35 5) ||| (S1 7 (cl (S 16 (cl v1)))))) 35 6) ||| (nI 0))) = true) ∧ PW l x g shX m_X3_hear (Qv x g shX K) 17 [(0, .ref (g.ad 35)), (1, .int (v1 + (nI 1)))] [] (st2 (st2 S1 35 5 ((S1 35 5) ||| (S1 7 (cl (S 16 (cl v1)))))) 35 6 (((st2 S1 35 5 ((S1 35 5) ||| (S1 7 (cl (S 16 (cl v1)))))) 35 6) ||| (nI 0))))) ∧ (r1 = 0 → ((narrow .boolean (.int (((st2 S1 35 5 ((S1 35 5) ||| (S1 7 (cl (S 16 (cl v1)))))) 35 6) ||| (nI 1))) = .int (((st2 S1 35 5 ((S1 35 5) ||| (S1 7 (cl (S 16 (cl v1)))))) 35 6) ||| (nI 1)) ∧ fits .boolean (.int (((st2 S1 35 5 ((S1 35 5) ||| (S1 7 (cl (S 16 (cl v1)))))) 35 6) ||| (nI 1))) = true) ∧ PW l x g shX m_X3_hear (Qv x g shX K) 17 [(0, .ref (g.ad 35)), (1, .int (v1 + (nI 1)))] [] (st2 (st2 S1 35 5 ((S1 35 5) ||| (S1 7 (cl (S 16 (cl v1)))))) 35 6 (((st2 S1 35 5 ((S1 35 5) ||| (S1 7 (cl (S 16 (cl v1)))))) 35 6) ||| (nI 1))))))))))))))) : PW l x g shX m_X3_hear (Qv x g shX K) 17 [(0, .ref (g.ad 35)), (1, .int v1)] [] S := by
  refine r_iload_n ok 1 dX3_hear_17 rfl ?_
  refine r_aload_n ok 0 dX3_hear_18 rfl ?_
  refine r_getR ok 35 2 rfl rfl fo_X3_19 dX3_hear_19 ?_
  refine r_getI ok 15 2 rfl rfl fo_X3_44 dX3_hear_22 ?_
  refine r_icmp_ge ok 136 dX3_hear_25 (by decide) ⟨fun c => ?_, fun c => ?_⟩
  · have h := h.1 c
    exact r_ret ok rfl dX3_hear_136 h
  · have h := h.2 c
    refine r_aload_n ok 0 dX3_hear_28 rfl ?_
    refine r_getR ok 35 2 rfl rfl fo_X3_19 dX3_hear_29 ?_
    refine r_getR ok 15 0 rfl rfl fo_X3_49 dX3_hear_32 ?_
    refine r_iload_n ok 1 dX3_hear_35 rfl ?_
    refine r_iaload ok 16 rfl dX3_hear_36 h.1 ?_
    have h := h.2
    refine r_istore_n ok [(2, .int (S 16 (cl v1))), (0, .ref (g.ad 35)), (1, .int v1)] dX3_hear_37 (by decide) rfl ?_
    refine r_aload_n ok 1 dX3_hear_38 rfl ?_
    refine r_getR ok 35 1 rfl rfl fo_X3_15 dX3_hear_39 ?_
    refine r_iload_n ok 0 dX3_hear_42 rfl ?_
    refine r_virti ok (rest := []) (As := [.int (S 16 (cl v1))]) 18 _ k_X3_hear_52 rfl rfl rfl rfl (Nat.le_of_ble_eq_true rfl) dX3_hear_43 (MWi.mono h (fun r1 S1 h => ?_))
    refine r_istore_n ok [(3, .int r1), (2, .int (S 16 (cl v1))), (0, .ref (g.ad 35)), (1, .int v1)] dX3_hear_46 (by decide) rfl ?_
    refine r_aload_n ok 2 dX3_hear_47 rfl ?_
    refine r_getR ok 35 2 rfl rfl fo_X3_19 dX3_hear_48 ?_
    refine r_getR ok 15 1 rfl rfl fo_X3_58 dX3_hear_51 ?_
    refine r_iload_n ok 3 dX3_hear_54 rfl ?_
    refine r_baload ok 17 rfl dX3_hear_55 h.1 ?_
    have h := h.2
    refine r_if_eq ok 98 dX3_hear_56 (by decide) ⟨fun c => ?_, fun c => ?_⟩
    · have h := h.1 c
      refine r_iload_n ok 0 dX3_hear_98 rfl ?_
      refine r_if_eq ok 130 dX3_hear_99 (by decide) ⟨fun c => ?_, fun c => ?_⟩
      · have h := h.1 c
        refine r_iinc ok 3 (v1 + (nI 1)) [(1, .int (v1 + (nI 1))), (3, .int r1), (2, .int (S 16 (cl v1))), (0, .ref (g.ad 35))] dX3_hear_130 rfl rfl (by decide) rfl ?_
        refine r_goto ok 17 dX3_hear_133 (by decide) ?_
        exact r_sub [3, 0] _ rfl h
      · have h := h.2 c
        refine r_aload_n ok 2 dX3_hear_102 rfl ?_
        refine r_getR ok 35 3 rfl rfl fo_X3_23 dX3_hear_103 ?_
        refine r_aload_n ok 2 dX3_hear_106 rfl ?_
        refine r_getI ok 35 4 rfl rfl fo_X3_33 dX3_hear_107 ?_
        refine r_aload_n ok 2 dX3_hear_110 rfl ?_
        refine r_getR ok 35 0 rfl rfl fo_X3_9 dX3_hear_111 ?_
        refine r_getR ok 4 2 rfl rfl fo_X3_62 dX3_hear_114 ?_
        refine r_iload_n ok 1 dX3_hear_117 rfl ?_
        refine r_iaload ok 7 rfl dX3_hear_118 h.1 ?_
        have h := h.2
        refine r_iastore ok 36 rfl dX3_hear_119 h.1 ?_
        have h := h.2
        refine r_aload_n ok 2 dX3_hear_120 rfl ?_
        refine r_dup ok dX3_hear_121 rfl ?_
        refine r_getI ok 35 4 rfl rfl fo_X3_33 dX3_hear_122 ?_
        refine r_iconst ok (nI 1) dX3_hear_125 (by decide) ?_
        refine r_iadd ok dX3_hear_126 ?_
        refine r_put ok 35 4 rfl rfl po_X3_33 rfl rfl dX3_hear_127 ?_
        refine r_iinc ok 3 (v1 + (nI 1)) [(1, .int (v1 + (nI 1))), (3, .int r1), (2, .int (S 16 (cl v1))), (0, .ref (g.ad 35))] dX3_hear_130 rfl rfl (by decide) rfl ?_
        refine r_goto ok 17 dX3_hear_133 (by decide) ?_
        exact r_sub [3, 0] _ rfl h
    · have h := h.2 c
      refine r_aload_n ok 2 dX3_hear_59 rfl ?_
      refine r_dup ok dX3_hear_60 rfl ?_
      refine r_getI ok 35 5 rfl rfl fo_X3_37 dX3_hear_61 ?_
      refine r_aload_n ok 2 dX3_hear_64 rfl ?_
      refine r_getR ok 35 0 rfl rfl fo_X3_9 dX3_hear_65 ?_
      refine r_getR ok 4 2 rfl rfl fo_X3_62 dX3_hear_68 ?_
      refine r_iload_n ok 1 dX3_hear_71 rfl ?_
      refine r_iaload ok 7 rfl dX3_hear_72 h.1 ?_
      have h := h.2
      refine r_ior ok dX3_hear_73 ?_
      refine r_put ok 35 5 rfl rfl po_X3_37 rfl rfl dX3_hear_74 ?_
      refine r_aload_n ok 2 dX3_hear_77 rfl ?_
      refine r_dup ok dX3_hear_78 rfl ?_
      refine r_getI ok 35 6 rfl rfl fo_X3_40 dX3_hear_79 ?_
      refine r_iload_n ok 0 dX3_hear_82 rfl ?_
      refine r_if_ne ok 90 dX3_hear_83 (by decide) ⟨fun c => ?_, fun c => ?_⟩
      · have h := h.1 c
        refine r_iconst ok (nI 0) dX3_hear_90 (by decide) ?_
        refine r_ior ok dX3_hear_91 ?_
        refine r_put ok 35 6 rfl rfl po_X3_40 h.1.1 h.1.2 dX3_hear_92 ?_
        have h := h.2
        refine r_goto ok 130 dX3_hear_95 (by decide) ?_
        refine r_iinc ok 3 (v1 + (nI 1)) [(1, .int (v1 + (nI 1))), (3, .int r1), (2, .int (S 16 (cl v1))), (0, .ref (g.ad 35))] dX3_hear_130 rfl rfl (by decide) rfl ?_
        refine r_goto ok 17 dX3_hear_133 (by decide) ?_
        exact r_sub [3, 0] _ rfl h
      · have h := h.2 c
        refine r_iconst ok (nI 1) dX3_hear_86 (by decide) ?_
        refine r_goto ok 91 dX3_hear_87 (by decide) ?_
        refine r_ior ok dX3_hear_91 ?_
        refine r_put ok 35 6 rfl rfl po_X3_40 h.1.1 h.1.2 dX3_hear_92 ?_
        have h := h.2
        refine r_goto ok 130 dX3_hear_95 (by decide) ?_
        refine r_iinc ok 3 (v1 + (nI 1)) [(1, .int (v1 + (nI 1))), (3, .int r1), (2, .int (S 16 (cl v1))), (0, .ref (g.ad 35))] dX3_hear_130 rfl rfl (by decide) rfl ?_
        refine r_goto ok 17 dX3_hear_133 (by decide) ?_
        exact r_sub [3, 0] _ rfl h
set_option maxRecDepth 10000 in
theorem s_X3_fits_0 {l : Launch} {x : Cx} {g : Geo} {K : Int32 → Mem → Prop} (ok : Ok x g shX m_X3_fits) (v1 : Int32) (S : Mem) (h : ((¬ (S 35 6) = 0 → K (nI 0) S) ∧ ((S 35 6) = 0 → (((v1 &&& (S 35 5)) = 0 → PW l x g shX m_X3_fits (Qi x g shX K) 20 [(0, .ref (g.ad 35)), (1, .int v1), (2, .int (nI 0))] [] S) ∧ (¬ (v1 &&& (S 35 5)) = 0 → K (nI 0) S))))) : PW l x g shX m_X3_fits (Qi x g shX K) 0 [(0, .ref (g.ad 35)), (1, .int v1)] [] S := by
  refine r_aload_n ok 0 dX3_fits_0 rfl ?_
  refine r_getI ok 35 6 rfl rfl fo_X3_40 dX3_fits_1 ?_
  refine r_if_ne ok 16 dX3_fits_4 (by decide) ⟨fun c => ?_, fun c => ?_⟩
  · have h := h.1 c
    refine r_iconst ok (nI 0) dX3_fits_16 (by decide) ?_
    exact r_zret ok rfl dX3_fits_17 ⟨rfl, h⟩
  · have h := h.2 c
    refine r_iload_n ok 1 dX3_fits_7 rfl ?_
    refine r_aload_n ok 0 dX3_fits_8 rfl ?_
    refine r_getI ok 35 5 rfl rfl fo_X3_37 dX3_fits_9 ?_
    refine r_iand ok dX3_fits_12 ?_
    refine r_if_eq ok 18 dX3_fits_13 (by decide) ⟨fun c => ?_, fun c => ?_⟩
    · have h := h.1 c
      refine r_iconst ok (nI 0) dX3_fits_18 (by decide) ?_
      refine r_istore_n ok [(2, .int (nI 0)), (0, .ref (g.ad 35)), (1, .int v1)] dX3_fits_19 (by decide) rfl ?_
      exact r_sub [1, 2, 0] _ rfl h
    · have h := h.2 c
      refine r_iconst ok (nI 0) dX3_fits_16 (by decide) ?_
      exact r_zret ok rfl dX3_fits_17 ⟨rfl, h⟩
set_option maxRecDepth 10000 in
theorem s_X3_fits_20 {l : Launch} {x : Cx} {g : Geo} {K : Int32 → Mem → Prop} (ok : Ok x g shX m_X3_fits) (v1 : Int32) (v2 : Int32) (S : Mem) (h : (((S 35 4) ≤ v2 → K (nI 1) S) ∧ (¬ (S 35 4) ≤ v2 → (vp_in v2 20 ∧ ((¬ (v1 &&& (S 36 (cl v2))) = 0 → PW l x g shX m_X3_fits (Qi x g shX K) 20 [(0, .ref (g.ad 35)), (1, .int v1), (2, .int (v2 + (nI 1)))] [] S) ∧ ((v1 &&& (S 36 (cl v2))) = 0 → K (nI 0) S)))))) : PW l x g shX m_X3_fits (Qi x g shX K) 20 [(0, .ref (g.ad 35)), (1, .int v1), (2, .int v2)] [] S := by
  refine r_iload_n ok 2 dX3_fits_20 rfl ?_
  refine r_aload_n ok 0 dX3_fits_21 rfl ?_
  refine r_getI ok 35 4 rfl rfl fo_X3_33 dX3_fits_22 ?_
  refine r_icmp_ge ok 47 dX3_fits_25 (by decide) ⟨fun c => ?_, fun c => ?_⟩
  · have h := h.1 c
    refine r_iconst ok (nI 1) dX3_fits_47 (by decide) ?_
    exact r_zret ok rfl dX3_fits_48 ⟨rfl, h⟩
  · have h := h.2 c
    refine r_iload_n ok 1 dX3_fits_28 rfl ?_
    refine r_aload_n ok 0 dX3_fits_29 rfl ?_
    refine r_getR ok 35 3 rfl rfl fo_X3_23 dX3_fits_30 ?_
    refine r_iload_n ok 2 dX3_fits_33 rfl ?_
    refine r_iaload ok 36 rfl dX3_fits_34 h.1 ?_
    have h := h.2
    refine r_iand ok dX3_fits_35 ?_
    refine r_if_ne ok 41 dX3_fits_36 (by decide) ⟨fun c => ?_, fun c => ?_⟩
    · have h := h.1 c
      refine r_iinc ok 2 (v2 + (nI 1)) [(2, .int (v2 + (nI 1))), (0, .ref (g.ad 35)), (1, .int v1)] dX3_fits_41 rfl rfl (by decide) rfl ?_
      refine r_goto ok 20 dX3_fits_44 (by decide) ?_
      exact r_sub [1, 2, 0] _ rfl h
    · have h := h.2 c
      refine r_iconst ok (nI 0) dX3_fits_39 (by decide) ?_
      exact r_zret ok rfl dX3_fits_40 ⟨rfl, h⟩
set_option maxRecDepth 10000 in
theorem s_X3_countSets_0 {l : Launch} {x : Cx} {g : Geo} {K : Int32 → Mem → Prop} (ok : Ok x g shX m_X3_countSets) (v1 : Int32) (S : Mem) (h : PW l x g shX m_X3_countSets (Qi x g shX K) 4 [(0, .ref (g.ad 35)), (1, .int v1), (2, .int (nI 0)), (3, .int (nI 0))] [] S) : PW l x g shX m_X3_countSets (Qi x g shX K) 0 [(0, .ref (g.ad 35)), (1, .int v1)] [] S := by
  refine r_iconst ok (nI 0) dX3_countSets_0 (by decide) ?_
  refine r_istore_n ok [(2, .int (nI 0)), (0, .ref (g.ad 35)), (1, .int v1)] dX3_countSets_1 (by decide) rfl ?_
  refine r_iconst ok (nI 0) dX3_countSets_2 (by decide) ?_
  refine r_istore_n ok [(3, .int (nI 0)), (2, .int (nI 0)), (0, .ref (g.ad 35)), (1, .int v1)] dX3_countSets_3 (by decide) rfl ?_
  exact r_sub [2, 3, 1, 0] _ rfl h
set_option maxRecDepth 10000 in
theorem s_X3_countSets_4 {l : Launch} {x : Cx} {g : Geo} {K : Int32 → Mem → Prop} (ok : Ok x g shX m_X3_countSets) (v1 : Int32) (v2 : Int32) (v3 : Int32) (S : Mem) (h : (((nI 1024) ≤ v3 → K v2 S) ∧ (¬ (nI 1024) ≤ v3 → ((¬ (v1 &&& (v3 ^^^ (-1))) = 0 → PW l x g shX m_X3_countSets (Qi x g shX K) 4 [(0, .ref (g.ad 35)), (1, .int v1), (2, .int v2), (3, .int (v3 + (nI 1)))] [] S) ∧ ((v1 &&& (v3 ^^^ (-1))) = 0 → MWi l g shX m_X3_fits [.ref (g.ad 35), .int v3] S (fun r1 S1 => ((r1 = 0 → PW l x g shX m_X3_countSets (Qi x g shX K) 4 [(0, .ref (g.ad 35)), (1, .int v1), (2, .int v2), (3, .int (v3 + (nI 1)))] [] S1) ∧ (¬ r1 = 0 → PW l x g shX m_X3_countSets (Qi x g shX K) 4 [(0, .ref (g.ad 35)), (1, .int v1), (2, .int (v2 + (nI 1))), (3, .int (v3 + (nI 1)))] [] S1)))))))) : PW l x g shX m_X3_countSets (Qi x g shX K) 4 [(0, .ref (g.ad 35)), (1, .int v1), (2, .int v2), (3, .int v3)] [] S := by
  refine r_iload_n ok 3 dX3_countSets_4 rfl ?_
  refine r_sipush ok (nI 1024) dX3_countSets_5 (by decide) ?_
  refine r_icmp_ge ok 36 dX3_countSets_8 (by decide) ⟨fun c => ?_, fun c => ?_⟩
  · have h := h.1 c
    refine r_iload_n ok 2 dX3_countSets_36 rfl ?_
    exact r_iret ok rfl dX3_countSets_37 h
  · have h := h.2 c
    refine r_iload_n ok 1 dX3_countSets_11 rfl ?_
    refine r_iload_n ok 3 dX3_countSets_12 rfl ?_
    refine r_iconst ok (-1) dX3_countSets_13 (by decide) ?_
    refine r_ixor ok dX3_countSets_14 ?_
    refine r_iand ok dX3_countSets_15 ?_
    refine r_if_ne ok 30 dX3_countSets_16 (by decide) ⟨fun c => ?_, fun c => ?_⟩
    · have h := h.1 c
      refine r_iinc ok 3 (v3 + (nI 1)) [(3, .int (v3 + (nI 1))), (0, .ref (g.ad 35)), (1, .int v1), (2, .int v2)] dX3_countSets_30 rfl rfl (by decide) rfl ?_
      refine r_goto ok 4 dX3_countSets_33 (by decide) ?_
      exact r_sub [1, 2, 3, 0] _ rfl h
    · have h := h.2 c
      refine r_aload_n ok 0 dX3_countSets_19 rfl ?_
      refine r_iload_n ok 3 dX3_countSets_20 rfl ?_
      refine r_virti ok (rest := []) (As := [.int v3]) 35 _ k_X3_countSets_67 rfl rfl rfl rfl (Nat.le_of_ble_eq_true rfl) dX3_countSets_21 (MWi.mono h (fun r1 S1 h => ?_))
      refine r_if_eq ok 30 dX3_countSets_24 (by decide) ⟨fun c => ?_, fun c => ?_⟩
      · have h := h.1 c
        refine r_iinc ok 3 (v3 + (nI 1)) [(3, .int (v3 + (nI 1))), (0, .ref (g.ad 35)), (1, .int v1), (2, .int v2)] dX3_countSets_30 rfl rfl (by decide) rfl ?_
        refine r_goto ok 4 dX3_countSets_33 (by decide) ?_
        exact r_sub [1, 2, 3, 0] _ rfl h
      · have h := h.2 c
        refine r_iinc ok 2 (v2 + (nI 1)) [(2, .int (v2 + (nI 1))), (0, .ref (g.ad 35)), (1, .int v1), (3, .int v3)] dX3_countSets_27 rfl rfl (by decide) rfl ?_
        refine r_iinc ok 3 (v3 + (nI 1)) [(3, .int (v3 + (nI 1))), (2, .int (v2 + (nI 1))), (0, .ref (g.ad 35)), (1, .int v1)] dX3_countSets_30 rfl rfl (by decide) rfl ?_
        refine r_goto ok 4 dX3_countSets_33 (by decide) ?_
        exact r_sub [2, 3, 1, 0] _ rfl h
set_option maxRecDepth 10000 in
theorem s_X3_bestQuestion_0 {l : Launch} {x : Cx} {g : Geo} {K : Int32 → Mem → Prop} (ok : Ok x g shX m_X3_bestQuestion) (S : Mem) (h : MWv l g shX m_J7_fill_53178 [.ref (g.ad 37), .int (nI 0)] S (fun S1 => PW l x g shX m_X3_bestQuestion (Qi x g shX K) 12 [(0, .ref (g.ad 35)), (1, .int (nI 0)), (2, .int (nI 0))] [] S1)) : PW l x g shX m_X3_bestQuestion (Qi x g shX K) 0 [(0, .ref (g.ad 35))] [] S := by
  refine r_aload_n ok 0 dX3_bestQuestion_0 rfl ?_
  refine r_getR ok 35 7 rfl rfl fo_X3_27 dX3_bestQuestion_1 ?_
  refine r_iconst ok (nI 0) dX3_bestQuestion_4 (by decide) ?_
  refine r_statv ok (rest := []) (As := [.ref (g.ad 37), .int (nI 0)]) _ k_X3_bestQuestion_70 rfl rfl (Nat.le_of_ble_eq_true rfl) dX3_bestQuestion_5 (MWv.mono h (fun S1 h => ?_))
  refine r_iconst ok (nI 0) dX3_bestQuestion_8 (by decide) ?_
  refine r_istore_n ok [(1, .int (nI 0)), (0, .ref (g.ad 35))] dX3_bestQuestion_9 (by decide) rfl ?_
  refine r_iconst ok (nI 0) dX3_bestQuestion_10 (by decide) ?_
  refine r_istore_n ok [(2, .int (nI 0)), (1, .int (nI 0)), (0, .ref (g.ad 35))] dX3_bestQuestion_11 (by decide) rfl ?_
  exact r_sub [2, 1, 0] _ rfl h
set_option maxRecDepth 10000 in
theorem s_X3_bestQuestion_12 {l : Launch} {x : Cx} {g : Geo} {K : Int32 → Mem → Prop} (ok : Ok x g shX m_X3_bestQuestion) (v1 : Int32) (v2 : Int32) (S : Mem) (h : (((nI 1024) ≤ v2 → PW l x g shX m_X3_bestQuestion (Qi x g shX K) 49 [(0, .ref (g.ad 35)), (1, .int v1), (2, .int (-1)), (3, .int (-6)), (4, .int (nI 0))] [] S) ∧ (¬ (nI 1024) ≤ v2 → MWi l g shX m_X3_fits [.ref (g.ad 35), .int v2] S (fun r1 S1 => ((r1 = 0 → PW l x g shX m_X3_bestQuestion (Qi x g shX K) 12 [(0, .ref (g.ad 35)), (1, .int v1), (2, .int (v2 + (nI 1)))] [] S1) ∧ (¬ r1 = 0 → MWv l g shX m_X3_countKnown [.ref (g.ad 35), .int v2] S1 (fun S2 => PW l x g shX m_X3_bestQuestion (Qi x g shX K) 12 [(0, .ref (g.ad 35)), (1, .int (v1 + (nI 1))), (2, .int (v2 + (nI 1)))] [] S2))))))) : PW l x g shX m_X3_bestQuestion (Qi x g shX K) 12 [(0, .ref (g.ad 35)), (1, .int v1), (2, .int v2)] [] S := by
  refine r_iload_n ok 2 dX3_bestQuestion_12 rfl ?_
  refine r_sipush ok (nI 1024) dX3_bestQuestion_13 (by decide) ?_
  refine r_icmp_ge ok 41 dX3_bestQuestion_16 (by decide) ⟨fun c => ?_, fun c => ?_⟩
  · have h := h.1 c
    refine r_iconst ok (-1) dX3_bestQuestion_41 (by decide) ?_
    refine r_istore_n ok [(2, .int (-1)), (0, .ref (g.ad 35)), (1, .int v1)] dX3_bestQuestion_42 (by decide) rfl ?_
    refine r_bipush ok (-6) dX3_bestQuestion_43 (by decide) ?_
    refine r_istore_n ok [(3, .int (-6)), (2, .int (-1)), (0, .ref (g.ad 35)), (1, .int v1)] dX3_bestQuestion_45 (by decide) rfl ?_
    refine r_iconst ok (nI 0) dX3_bestQuestion_46 (by decide) ?_
    refine r_istore ok [(4, .int (nI 0)), (3, .int (-6)), (2, .int (-1)), (0, .ref (g.ad 35)), (1, .int v1)] dX3_bestQuestion_47 (by decide) rfl ?_
    exact r_sub [3, 4, 2, 1, 0] _ rfl h
  · have h := h.2 c
    refine r_aload_n ok 0 dX3_bestQuestion_19 rfl ?_
    refine r_iload_n ok 2 dX3_bestQuestion_20 rfl ?_
    refine r_virti ok (rest := []) (As := [.int v2]) 35 _ k_X3_bestQuestion_67 rfl rfl rfl rfl (Nat.le_of_ble_eq_true rfl) dX3_bestQuestion_21 (MWi.mono h (fun r1 S1 h => ?_))
    refine r_if_eq ok 35 dX3_bestQuestion_24 (by decide) ⟨fun c => ?_, fun c => ?_⟩
    · have h := h.1 c
      refine r_iinc ok 2 (v2 + (nI 1)) [(2, .int (v2 + (nI 1))), (0, .ref (g.ad 35)), (1, .int v1)] dX3_bestQuestion_35 rfl rfl (by decide) rfl ?_
      refine r_goto ok 12 dX3_bestQuestion_38 (by decide) ?_
      exact r_sub [1, 2, 0] _ rfl h
    · have h := h.2 c
      refine r_iinc ok 1 (v1 + (nI 1)) [(1, .int (v1 + (nI 1))), (0, .ref (g.ad 35)), (2, .int v2)] dX3_bestQuestion_27 rfl rfl (by decide) rfl ?_
      refine r_aload_n ok 1 dX3_bestQuestion_30 rfl ?_
      refine r_iload_n ok 2 dX3_bestQuestion_31 rfl ?_
      refine r_virtv ok (rest := []) (As := [.int v2]) 35 _ k_X3_bestQuestion_76 rfl rfl rfl rfl (Nat.le_of_ble_eq_true rfl) dX3_bestQuestion_32 (MWv.mono h (fun S2 h => ?_))
      refine r_iinc ok 2 (v2 + (nI 1)) [(2, .int (v2 + (nI 1))), (1, .int (v1 + (nI 1))), (0, .ref (g.ad 35))] dX3_bestQuestion_35 rfl rfl (by decide) rfl ?_
      refine r_goto ok 12 dX3_bestQuestion_38 (by decide) ?_
      exact r_sub [2, 1, 0] _ rfl h
set_option maxRecDepth 10000 in
theorem s_X3_bestQuestion_49 {l : Launch} {x : Cx} {g : Geo} {K : Int32 → Mem → Prop} (ok : Ok x g shX m_X3_bestQuestion) (v1 : Int32) (v2 : Int32) (v3 : Int32) (v4 : Int32) (S : Mem) (h : (((S 4 5) ≤ v4 → K v3 S) ∧ (¬ (S 4 5) ≤ v4 → MWi l g shX m_X8_isRegular [.ref (g.ad 18), .int v4] S (fun r1 S1 => ((r1 = 0 → (((jmin (nI 0) (v1 - (nI 0))) ≤ v2 → PW l x g shX m_X3_bestQuestion (Qi x g shX K) 49 [(0, .ref (g.ad 35)), (1, .int v1), (2, .int v2), (3, .int v3), (4, .int (v4 + (nI 1)))] [] S1) ∧ (¬ (jmin (nI 0) (v1 - (nI 0))) ≤ v2 → PW l x g shX m_X3_bestQuestion (Qi x g shX K) 49 [(0, .ref (g.ad 35)), (1, .int v1), (2, .int (jmin (nI 0) (v1 - (nI 0)))), (3, .int v4), (4, .int (v4 + (nI 1)))] [] S1))) ∧ (¬ r1 = 0 → (vp_in v4 12 ∧ (((jmin (S1 37 (cl v4)) (v1 - (S1 37 (cl v4)))) ≤ v2 → PW l x g shX m_X3_bestQuestion (Qi x g shX K) 49 [(0, .ref (g.ad 35)), (1, .int v1), (2, .int v2), (3, .int v3), (4, .int (v4 + (nI 1)))] [] S1) ∧ (¬ (jmin (S1 37 (cl v4)) (v1 - (S1 37 (cl v4)))) ≤ v2 → PW l x g shX m_X3_bestQuestion (Qi x g shX K) 49 [(0, .ref (g.ad 35)), (1, .int v1), (2, .int (jmin (S1 37 (cl v4)) (v1 - (S1 37 (cl v4))))), (3, .int v4), (4, .int (v4 + (nI 1)))] [] S1))))))))) : PW l x g shX m_X3_bestQuestion (Qi x g shX K) 49 [(0, .ref (g.ad 35)), (1, .int v1), (2, .int v2), (3, .int v3), (4, .int v4)] [] S := by
  refine r_iload ok 4 dX3_bestQuestion_49 rfl ?_
  refine r_aload_n ok 0 dX3_bestQuestion_51 rfl ?_
  refine r_getR ok 35 0 rfl rfl fo_X3_9 dX3_bestQuestion_52 ?_
  refine r_getI ok 4 5 rfl rfl fo_X3_80 dX3_bestQuestion_55 ?_
  refine r_icmp_ge ok 115 dX3_bestQuestion_58 (by decide) ⟨fun c => ?_, fun c => ?_⟩
  · have h := h.1 c
    refine r_iload_n ok 3 dX3_bestQuestion_115 rfl ?_
    exact r_iret ok rfl dX3_bestQuestion_116 h
  · have h := h.2 c
    refine r_aload_n ok 0 dX3_bestQuestion_61 rfl ?_
    refine r_getR ok 35 1 rfl rfl fo_X3_15 dX3_bestQuestion_62 ?_
    refine r_iload ok 4 dX3_bestQuestion_65 rfl ?_
    refine r_virti ok (rest := []) (As := [.int v4]) 18 _ k_X3_bestQuestion_52 rfl rfl rfl rfl (Nat.le_of_ble_eq_true rfl) dX3_bestQuestion_67 (MWi.mono h (fun r1 S1 h => ?_))
    refine r_if_eq ok 83 dX3_bestQuestion_70 (by decide) ⟨fun c => ?_, fun c => ?_⟩
    · have h := h.1 c
      refine r_iconst ok (nI 0) dX3_bestQuestion_83 (by decide) ?_
      refine r_istore ok [(5, .int (nI 0)), (0, .ref (g.ad 35)), (1, .int v1), (2, .int v2), (3, .int v3), (4, .int v4)] dX3_bestQuestion_84 (by decide) rfl ?_
      refine r_iload ok 0 dX3_bestQuestion_86 rfl ?_
      refine r_iload_n ok 2 dX3_bestQuestion_88 rfl ?_
      refine r_iload ok 0 dX3_bestQuestion_89 rfl ?_
      refine r_isub ok dX3_bestQuestion_91 ?_
      refine r_min ok (rest := []) k_X3_bestQuestion_81 (Nat.le_of_ble_eq_true rfl) dX3_bestQuestion_92 ?_
      refine r_istore ok [(6, .int (jmin (nI 0) (v1 - (nI 0)))), (5, .int (nI 0)), (0, .ref (g.ad 35)), (1, .int v1), (2, .int v2), (3, .int v3), (4, .int v4)] dX3_bestQuestion_95 (by decide) rfl ?_
      refine r_iload ok 0 dX3_bestQuestion_97 rfl ?_
      refine r_iload_n ok 4 dX3_bestQuestion_99 rfl ?_
      refine r_icmp_le ok 109 dX3_bestQuestion_100 (by decide) ⟨fun c => ?_, fun c => ?_⟩
      · have h := h.1 c
        refine r_iinc ok 6 (v4 + (nI 1)) [(4, .int (v4 + (nI 1))), (6, .int (jmin (nI 0) (v1 - (nI 0)))), (5, .int (nI 0)), (0, .ref (g.ad 35)), (1, .int v1), (2, .int v2), (3, .int v3)] dX3_bestQuestion_109 rfl rfl (by decide) rfl ?_
        refine r_goto ok 49 dX3_bestQuestion_112 (by decide) ?_
        exact r_sub [3, 4, 5, 6, 0] _ rfl h
      · have h := h.2 c
        refine r_iload ok 0 dX3_bestQuestion_103 rfl ?_
        refine r_istore_n ok [(2, .int (jmin (nI 0) (v1 - (nI 0)))), (6, .int (jmin (nI 0) (v1 - (nI 0)))), (5, .int (nI 0)), (0, .ref (g.ad 35)), (1, .int v1), (3, .int v3), (4, .int v4)] dX3_bestQuestion_105 (by decide) rfl ?_
        refine r_iload ok 6 dX3_bestQuestion_106 rfl ?_
        refine r_istore_n ok [(3, .int v4), (2, .int (jmin (nI 0) (v1 - (nI 0)))), (6, .int (jmin (nI 0) (v1 - (nI 0)))), (5, .int (nI 0)), (0, .ref (g.ad 35)), (1, .int v1), (4, .int v4)] dX3_bestQuestion_108 (by decide) rfl ?_
        refine r_iinc ok 6 (v4 + (nI 1)) [(4, .int (v4 + (nI 1))), (3, .int v4), (2, .int (jmin (nI 0) (v1 - (nI 0)))), (6, .int (jmin (nI 0) (v1 - (nI 0)))), (5, .int (nI 0)), (0, .ref (g.ad 35)), (1, .int v1)] dX3_bestQuestion_109 rfl rfl (by decide) rfl ?_
        refine r_goto ok 49 dX3_bestQuestion_112 (by decide) ?_
        exact r_sub [5, 6, 2, 1, 0] _ rfl h
    · have h := h.2 c
      refine r_aload_n ok 0 dX3_bestQuestion_73 rfl ?_
      refine r_getR ok 35 7 rfl rfl fo_X3_27 dX3_bestQuestion_74 ?_
      refine r_iload ok 4 dX3_bestQuestion_77 rfl ?_
      refine r_iaload ok 37 rfl dX3_bestQuestion_79 h.1 ?_
      have h := h.2
      refine r_goto ok 84 dX3_bestQuestion_80 (by decide) ?_
      refine r_istore ok [(5, .int (S1 37 (cl v4))), (0, .ref (g.ad 35)), (1, .int v1), (2, .int v2), (3, .int v3), (4, .int v4)] dX3_bestQuestion_84 (by decide) rfl ?_
      refine r_iload ok 0 dX3_bestQuestion_86 rfl ?_
      refine r_iload_n ok 2 dX3_bestQuestion_88 rfl ?_
      refine r_iload ok 0 dX3_bestQuestion_89 rfl ?_
      refine r_isub ok dX3_bestQuestion_91 ?_
      refine r_min ok (rest := []) k_X3_bestQuestion_81 (Nat.le_of_ble_eq_true rfl) dX3_bestQuestion_92 ?_
      refine r_istore ok [(6, .int (jmin (S1 37 (cl v4)) (v1 - (S1 37 (cl v4))))), (5, .int (S1 37 (cl v4))), (0, .ref (g.ad 35)), (1, .int v1), (2, .int v2), (3, .int v3), (4, .int v4)] dX3_bestQuestion_95 (by decide) rfl ?_
      refine r_iload ok 0 dX3_bestQuestion_97 rfl ?_
      refine r_iload_n ok 4 dX3_bestQuestion_99 rfl ?_
      refine r_icmp_le ok 109 dX3_bestQuestion_100 (by decide) ⟨fun c => ?_, fun c => ?_⟩
      · have h := h.1 c
        refine r_iinc ok 6 (v4 + (nI 1)) [(4, .int (v4 + (nI 1))), (6, .int (jmin (S1 37 (cl v4)) (v1 - (S1 37 (cl v4))))), (5, .int (S1 37 (cl v4))), (0, .ref (g.ad 35)), (1, .int v1), (2, .int v2), (3, .int v3)] dX3_bestQuestion_109 rfl rfl (by decide) rfl ?_
        refine r_goto ok 49 dX3_bestQuestion_112 (by decide) ?_
        exact r_sub [3, 4, 5, 6, 0] _ rfl h
      · have h := h.2 c
        refine r_iload ok 0 dX3_bestQuestion_103 rfl ?_
        refine r_istore_n ok [(2, .int (jmin (S1 37 (cl v4)) (v1 - (S1 37 (cl v4))))), (6, .int (jmin (S1 37 (cl v4)) (v1 - (S1 37 (cl v4))))), (5, .int (S1 37 (cl v4))), (0, .ref (g.ad 35)), (1, .int v1), (3, .int v3), (4, .int v4)] dX3_bestQuestion_105 (by decide) rfl ?_
        refine r_iload ok 6 dX3_bestQuestion_106 rfl ?_
        refine r_istore_n ok [(3, .int v4), (2, .int (jmin (S1 37 (cl v4)) (v1 - (S1 37 (cl v4))))), (6, .int (jmin (S1 37 (cl v4)) (v1 - (S1 37 (cl v4))))), (5, .int (S1 37 (cl v4))), (0, .ref (g.ad 35)), (1, .int v1), (4, .int v4)] dX3_bestQuestion_108 (by decide) rfl ?_
        refine r_iinc ok 6 (v4 + (nI 1)) [(4, .int (v4 + (nI 1))), (3, .int v4), (2, .int (jmin (S1 37 (cl v4)) (v1 - (S1 37 (cl v4))))), (6, .int (jmin (S1 37 (cl v4)) (v1 - (S1 37 (cl v4))))), (5, .int (S1 37 (cl v4))), (0, .ref (g.ad 35)), (1, .int v1)] dX3_bestQuestion_109 rfl rfl (by decide) rfl ?_
        refine r_goto ok 49 dX3_bestQuestion_112 (by decide) ?_
        exact r_sub [5, 6, 2, 1, 0] _ rfl h
set_option maxRecDepth 10000 in
theorem s_X3_countKnown_0 {l : Launch} {x : Cx} {g : Geo} {K : Mem → Prop} (ok : Ok x g shX m_X3_countKnown) (v1 : Int32) (S : Mem) (h : PW l x g shX m_X3_countKnown (Qv x g shX K) 2 [(0, .ref (g.ad 35)), (1, .int v1), (2, .int (nI 0))] [] S) : PW l x g shX m_X3_countKnown (Qv x g shX K) 0 [(0, .ref (g.ad 35)), (1, .int v1)] [] S := by
  refine r_iconst ok (nI 0) dX3_countKnown_0 (by decide) ?_
  refine r_istore_n ok [(2, .int (nI 0)), (0, .ref (g.ad 35)), (1, .int v1)] dX3_countKnown_1 (by decide) rfl ?_
  exact r_sub [1, 2, 0] _ rfl h
set_option maxRecDepth 10000 in
theorem s_X3_countKnown_2 {l : Launch} {x : Cx} {g : Geo} {K : Mem → Prop} (ok : Ok x g shX m_X3_countKnown) (v1 : Int32) (v2 : Int32) (S : Mem) (h : (((S 4 5) ≤ v2 → K S) ∧ (¬ (S 4 5) ≤ v2 → (vp_in v2 12 ∧ ((¬ ((S 7 (cl v2)) &&& v1) = 0 → PW l x g shX m_X3_countKnown (Qv x g shX K) 2 [(0, .ref (g.ad 35)), (1, .int v1), (2, .int (v2 + (nI 1)))] [] S) ∧ (((S 7 (cl v2)) &&& v1) = 0 → (vp_in v2 12 ∧ (vp_in v2 12 ∧ PW l x g shX m_X3_countKnown (Qv x g shX K) 2 [(0, .ref (g.ad 35)), (1, .int v1), (2, .int (v2 + (nI 1)))] [] (st2 S 37 (cl v2) ((S 37 (cl v2)) + (nI 1))))))))))) : PW l x g shX m_X3_countKnown (Qv x g shX K) 2 [(0, .ref (g.ad 35)), (1, .int v1), (2, .int v2)] [] S := by
  refine r_iload_n ok 2 dX3_countKnown_2 rfl ?_
  refine r_aload_n ok 0 dX3_countKnown_3 rfl ?_
  refine r_getR ok 35 0 rfl rfl fo_X3_9 dX3_countKnown_4 ?_
  refine r_getI ok 4 5 rfl rfl fo_X3_80 dX3_countKnown_7 ?_
  refine r_icmp_ge ok 43 dX3_countKnown_10 (by decide) ⟨fun c => ?_, fun c => ?_⟩
  · have h := h.1 c
    exact r_ret ok rfl dX3_countKnown_43 h
  · have h := h.2 c
    refine r_aload_n ok 0 dX3_countKnown_13 rfl ?_
    refine r_getR ok 35 0 rfl rfl fo_X3_9 dX3_countKnown_14 ?_
    refine r_getR ok 4 2 rfl rfl fo_X3_62 dX3_countKnown_17 ?_
    refine r_iload_n ok 2 dX3_countKnown_20 rfl ?_
    refine r_iaload ok 7 rfl dX3_countKnown_21 h.1 ?_
    have h := h.2
    refine r_iload_n ok 1 dX3_countKnown_22 rfl ?_
    refine r_iand ok dX3_countKnown_23 ?_
    refine r_if_ne ok 37 dX3_countKnown_24 (by decide) ⟨fun c => ?_, fun c => ?_⟩
    · have h := h.1 c
      refine r_iinc ok 2 (v2 + (nI 1)) [(2, .int (v2 + (nI 1))), (0, .ref (g.ad 35)), (1, .int v1)] dX3_countKnown_37 rfl rfl (by decide) rfl ?_
      refine r_goto ok 2 dX3_countKnown_40 (by decide) ?_
      exact r_sub [1, 2, 0] _ rfl h
    · have h := h.2 c
      refine r_aload_n ok 0 dX3_countKnown_27 rfl ?_
      refine r_getR ok 35 7 rfl rfl fo_X3_27 dX3_countKnown_28 ?_
      refine r_iload_n ok 2 dX3_countKnown_31 rfl ?_
      refine r_dup2 ok dX3_countKnown_32 rfl rfl ?_
      refine r_iaload ok 37 rfl dX3_countKnown_33 h.1 ?_
      have h := h.2
      refine r_iconst ok (nI 1) dX3_countKnown_34 (by decide) ?_
      refine r_iadd ok dX3_countKnown_35 ?_
      refine r_iastore ok 37 rfl dX3_countKnown_36 h.1 ?_
      have h := h.2
      refine r_iinc ok 2 (v2 + (nI 1)) [(2, .int (v2 + (nI 1))), (0, .ref (g.ad 35)), (1, .int v1)] dX3_countKnown_37 rfl rfl (by decide) rfl ?_
      refine r_goto ok 2 dX3_countKnown_40 (by decide) ?_
      exact r_sub [1, 2, 0] _ rfl h
set_option maxRecDepth 10000 in
theorem s_X3_leastTest_0 {l : Launch} {x : Cx} {g : Geo} {K : Int32 → Mem → Prop} (ok : Ok x g shX m_X3_leastTest) (S : Mem) (h : MWv l g shX m_X3_findWordsWith [.ref (g.ad 35)] S (fun S1 => MWi l g shX m_J6_bitCount_0f7a4 [.int (S1 18 7)] S1 (fun r2 S2 => PW l x g shX m_X3_leastTest (Qi x g shX K) 19 [(0, .ref (g.ad 35)), (1, .int (S1 18 7)), (2, .int r2), (3, .int (nI 0))] [] S2))) : PW l x g shX m_X3_leastTest (Qi x g shX K) 0 [(0, .ref (g.ad 35))] [] S := by
  refine r_aload_n ok 0 dX3_leastTest_0 rfl ?_
  refine r_virtv ok (rest := []) (As := []) 35 _ k_X3_leastTest_87 rfl rfl rfl rfl (Nat.le_of_ble_eq_true rfl) dX3_leastTest_1 (MWv.mono h (fun S1 h => ?_))
  refine r_aload_n ok 0 dX3_leastTest_4 rfl ?_
  refine r_getR ok 35 1 rfl rfl fo_X3_15 dX3_leastTest_5 ?_
  refine r_getI ok 18 7 rfl rfl fo_X3_90 dX3_leastTest_8 ?_
  refine r_istore_n ok [(1, .int (S1 18 7)), (0, .ref (g.ad 35))] dX3_leastTest_11 (by decide) rfl ?_
  refine r_iload_n ok 0 dX3_leastTest_12 rfl ?_
  refine r_stati ok (rest := []) (As := [.int (S1 18 7)]) _ k_X3_leastTest_93 rfl rfl (Nat.le_of_ble_eq_true rfl) dX3_leastTest_13 (MWi.mono h (fun r2 S2 h => ?_))
  refine r_istore_n ok [(2, .int r2), (1, .int (S1 18 7)), (0, .ref (g.ad 35))] dX3_leastTest_16 (by decide) rfl ?_
  refine r_iconst ok (nI 0) dX3_leastTest_17 (by decide) ?_
  refine r_istore_n ok [(3, .int (nI 0)), (2, .int r2), (1, .int (S1 18 7)), (0, .ref (g.ad 35))] dX3_leastTest_18 (by decide) rfl ?_
  exact r_sub [3, 2, 1, 0] _ rfl h
set_option maxRecDepth 10000 in
theorem s_X3_leastTest_19 {l : Launch} {x : Cx} {g : Geo} {K : Int32 → Mem → Prop} (ok : Ok x g shX m_X3_leastTest) (v1 : Int32) (v2 : Int32) (v3 : Int32) (S : Mem) (h : (((S 18 7) ≤ v3 → K v1 S) ∧ (¬ (S 18 7) ≤ v3 → MWi l g shX m_J6_bitCount_0f7a4 [.int v3] S (fun r1 S1 => ((v2 ≤ r1 → PW l x g shX m_X3_leastTest (Qi x g shX K) 19 [(0, .ref (g.ad 35)), (1, .int v1), (2, .int v2), (3, .int (v3 + (nI 1)))] [] S1) ∧ (¬ v2 ≤ r1 → ((¬ (v3 &&& ((S1 18 7) ^^^ (-1))) = 0 → PW l x g shX m_X3_leastTest (Qi x g shX K) 19 [(0, .ref (g.ad 35)), (1, .int v1), (2, .int v2), (3, .int (v3 + (nI 1)))] [] S1) ∧ ((v3 &&& ((S1 18 7) ^^^ (-1))) = 0 → MWi l g shX m_X3_tellsAll [.ref (g.ad 35), .int v3] S1 (fun r2 S2 => ((r2 = 0 → PW l x g shX m_X3_leastTest (Qi x g shX K) 19 [(0, .ref (g.ad 35)), (1, .int v1), (2, .int v2), (3, .int (v3 + (nI 1)))] [] S2) ∧ (¬ r2 = 0 → PW l x g shX m_X3_leastTest (Qi x g shX K) 19 [(0, .ref (g.ad 35)), (1, .int v3), (2, .int r1), (3, .int (v3 + (nI 1)))] [] S2))))))))))) : PW l x g shX m_X3_leastTest (Qi x g shX K) 19 [(0, .ref (g.ad 35)), (1, .int v1), (2, .int v2), (3, .int v3)] [] S := by
  refine r_iload_n ok 3 dX3_leastTest_19 rfl ?_
  refine r_aload_n ok 0 dX3_leastTest_20 rfl ?_
  refine r_getR ok 35 1 rfl rfl fo_X3_15 dX3_leastTest_21 ?_
  refine r_getI ok 18 7 rfl rfl fo_X3_90 dX3_leastTest_24 ?_
  refine r_icmp_ge ok 75 dX3_leastTest_27 (by decide) ⟨fun c => ?_, fun c => ?_⟩
  · have h := h.1 c
    refine r_iload_n ok 1 dX3_leastTest_75 rfl ?_
    exact r_iret ok rfl dX3_leastTest_76 h
  · have h := h.2 c
    refine r_iload_n ok 3 dX3_leastTest_30 rfl ?_
    refine r_stati ok (rest := []) (As := [.int v3]) _ k_X3_leastTest_93 rfl rfl (Nat.le_of_ble_eq_true rfl) dX3_leastTest_31 (MWi.mono h (fun r1 S1 h => ?_))
    refine r_istore ok [(4, .int r1), (0, .ref (g.ad 35)), (1, .int v1), (2, .int v2), (3, .int v3)] dX3_leastTest_34 (by decide) rfl ?_
    refine r_iload ok 0 dX3_leastTest_36 rfl ?_
    refine r_iload_n ok 3 dX3_leastTest_38 rfl ?_
    refine r_icmp_ge ok 69 dX3_leastTest_39 (by decide) ⟨fun c => ?_, fun c => ?_⟩
    · have h := h.1 c
      refine r_iinc ok 4 (v3 + (nI 1)) [(3, .int (v3 + (nI 1))), (4, .int r1), (0, .ref (g.ad 35)), (1, .int v1), (2, .int v2)] dX3_leastTest_69 rfl rfl (by decide) rfl ?_
      refine r_goto ok 19 dX3_leastTest_72 (by decide) ?_
      exact r_sub [2, 3, 4, 0] _ rfl h
    · have h := h.2 c
      refine r_iload_n ok 4 dX3_leastTest_42 rfl ?_
      refine r_aload_n ok 1 dX3_leastTest_43 rfl ?_
      refine r_getR ok 35 1 rfl rfl fo_X3_15 dX3_leastTest_44 ?_
      refine r_getI ok 18 7 rfl rfl fo_X3_90 dX3_leastTest_47 ?_
      refine r_iconst ok (-1) dX3_leastTest_50 (by decide) ?_
      refine r_ixor ok dX3_leastTest_51 ?_
      refine r_iand ok dX3_leastTest_52 ?_
      refine r_if_ne ok 69 dX3_leastTest_53 (by decide) ⟨fun c => ?_, fun c => ?_⟩
      · have h := h.1 c
        refine r_iinc ok 4 (v3 + (nI 1)) [(3, .int (v3 + (nI 1))), (4, .int r1), (0, .ref (g.ad 35)), (1, .int v1), (2, .int v2)] dX3_leastTest_69 rfl rfl (by decide) rfl ?_
        refine r_goto ok 19 dX3_leastTest_72 (by decide) ?_
        exact r_sub [2, 3, 4, 0] _ rfl h
      · have h := h.2 c
        refine r_aload_n ok 1 dX3_leastTest_56 rfl ?_
        refine r_iload_n ok 4 dX3_leastTest_57 rfl ?_
        refine r_virti ok (rest := []) (As := [.int v3]) 35 _ k_X3_leastTest_99 rfl rfl rfl rfl (Nat.le_of_ble_eq_true rfl) dX3_leastTest_58 (MWi.mono h (fun r2 S2 h => ?_))
        refine r_if_eq ok 69 dX3_leastTest_61 (by decide) ⟨fun c => ?_, fun c => ?_⟩
        · have h := h.1 c
          refine r_iinc ok 4 (v3 + (nI 1)) [(3, .int (v3 + (nI 1))), (4, .int r1), (0, .ref (g.ad 35)), (1, .int v1), (2, .int v2)] dX3_leastTest_69 rfl rfl (by decide) rfl ?_
          refine r_goto ok 19 dX3_leastTest_72 (by decide) ?_
          exact r_sub [2, 3, 4, 0] _ rfl h
        · have h := h.2 c
          refine r_iload_n ok 4 dX3_leastTest_64 rfl ?_
          refine r_istore_n ok [(1, .int v3), (4, .int r1), (0, .ref (g.ad 35)), (2, .int v2), (3, .int v3)] dX3_leastTest_65 (by decide) rfl ?_
          refine r_iload ok 1 dX3_leastTest_66 rfl ?_
          refine r_istore_n ok [(2, .int r1), (1, .int v3), (4, .int r1), (0, .ref (g.ad 35)), (3, .int v3)] dX3_leastTest_68 (by decide) rfl ?_
          refine r_iinc ok 4 (v3 + (nI 1)) [(3, .int (v3 + (nI 1))), (2, .int r1), (1, .int v3), (4, .int r1), (0, .ref (g.ad 35))] dX3_leastTest_69 rfl rfl (by decide) rfl ?_
          refine r_goto ok 19 dX3_leastTest_72 (by decide) ?_
          exact r_sub [4, 2, 1, 0] _ rfl h
set_option maxRecDepth 10000 in
theorem s_X3_findWordsWith_0 {l : Launch} {x : Cx} {g : Geo} {K : Mem → Prop} (ok : Ok x g shX m_X3_findWordsWith) (S : Mem) (h : MWv l g shX m_J7_fill_53178 [.ref (g.ad 38), .int (nI 0)] S (fun S1 => PW l x g shX m_X3_findWordsWith (Qv x g shX K) 10 [(0, .ref (g.ad 35)), (1, .int (nI 0))] [] S1)) : PW l x g shX m_X3_findWordsWith (Qv x g shX K) 0 [(0, .ref (g.ad 35))] [] S := by
  refine r_aload_n ok 0 dX3_findWordsWith_0 rfl ?_
  refine r_getR ok 35 8 rfl rfl fo_X3_30 dX3_findWordsWith_1 ?_
  refine r_iconst ok (nI 0) dX3_findWordsWith_4 (by decide) ?_
  refine r_statv ok (rest := []) (As := [.ref (g.ad 38), .int (nI 0)]) _ k_X3_findWordsWith_70 rfl rfl (Nat.le_of_ble_eq_true rfl) dX3_findWordsWith_5 (MWv.mono h (fun S1 h => ?_))
  refine r_iconst ok (nI 0) dX3_findWordsWith_8 (by decide) ?_
  refine r_istore_n ok [(1, .int (nI 0)), (0, .ref (g.ad 35))] dX3_findWordsWith_9 (by decide) rfl ?_
  exact r_sub [1, 0] _ rfl h
set_option maxRecDepth 10000 in
theorem s_X3_findWordsWith_10 {l : Launch} {x : Cx} {g : Geo} {K : Mem → Prop} (ok : Ok x g shX m_X3_findWordsWith) (v1 : Int32) (S : Mem) (h : (((S 4 5) ≤ v1 → K S) ∧ (¬ (S 4 5) ≤ v1 → MWi l g shX m_X8_isRegular [.ref (g.ad 18), .int v1] S (fun r1 S1 => ((¬ r1 = 0 → PW l x g shX m_X3_findWordsWith (Qv x g shX K) 37 [(0, .ref (g.ad 35)), (1, .int v1), (2, .int (nI 0))] [] S1) ∧ (r1 = 0 → PW l x g shX m_X3_findWordsWith (Qv x g shX K) 10 [(0, .ref (g.ad 35)), (1, .int (v1 + (nI 1)))] [] S1)))))) : PW l x g shX m_X3_findWordsWith (Qv x g shX K) 10 [(0, .ref (g.ad 35)), (1, .int v1)] [] S := by
  refine r_iload_n ok 1 dX3_findWordsWith_10 rfl ?_
  refine r_aload_n ok 0 dX3_findWordsWith_11 rfl ?_
  refine r_getR ok 35 0 rfl rfl fo_X3_9 dX3_findWordsWith_12 ?_
  refine r_getI ok 4 5 rfl rfl fo_X3_80 dX3_findWordsWith_15 ?_
  refine r_icmp_ge ok 82 dX3_findWordsWith_18 (by decide) ⟨fun c => ?_, fun c => ?_⟩
  · have h := h.1 c
    exact r_ret ok rfl dX3_findWordsWith_82 h
  · have h := h.2 c
    refine r_aload_n ok 0 dX3_findWordsWith_21 rfl ?_
    refine r_getR ok 35 1 rfl rfl fo_X3_15 dX3_findWordsWith_22 ?_
    refine r_iload_n ok 1 dX3_findWordsWith_25 rfl ?_
    refine r_virti ok (rest := []) (As := [.int v1]) 18 _ k_X3_findWordsWith_52 rfl rfl rfl rfl (Nat.le_of_ble_eq_true rfl) dX3_findWordsWith_26 (MWi.mono h (fun r1 S1 h => ?_))
    refine r_if_ne ok 35 dX3_findWordsWith_29 (by decide) ⟨fun c => ?_, fun c => ?_⟩
    · have h := h.1 c
      refine r_iconst ok (nI 0) dX3_findWordsWith_35 (by decide) ?_
      refine r_istore_n ok [(2, .int (nI 0)), (0, .ref (g.ad 35)), (1, .int v1)] dX3_findWordsWith_36 (by decide) rfl ?_
      exact r_sub [1, 2, 0] _ rfl h
    · have h := h.2 c
      refine r_goto ok 76 dX3_findWordsWith_32 (by decide) ?_
      refine r_iinc ok 1 (v1 + (nI 1)) [(1, .int (v1 + (nI 1))), (0, .ref (g.ad 35))] dX3_findWordsWith_76 rfl rfl (by decide) rfl ?_
      refine r_goto ok 10 dX3_findWordsWith_79 (by decide) ?_
      exact r_sub [1, 0] _ rfl h
set_option maxRecDepth 10000 in
theorem s_X3_findWordsWith_37 {l : Launch} {x : Cx} {g : Geo} {K : Mem → Prop} (ok : Ok x g shX m_X3_findWordsWith) (v1 : Int32) (v2 : Int32) (S : Mem) (h : (vp_in v1 12 ∧ (((S 5 (cl v1)) ≤ v2 → PW l x g shX m_X3_findWordsWith (Qv x g shX K) 10 [(0, .ref (g.ad 35)), (1, .int (v1 + (nI 1)))] [] S) ∧ (¬ (S 5 (cl v1)) ≤ v2 → MWi l g shX m_X1_signAt [.ref (g.ad 4), .int v1, .int v2] S (fun r1 S1 => (vp_in r1 10 ∧ (vp_in r1 10 ∧ PW l x g shX m_X3_findWordsWith (Qv x g shX K) 37 [(0, .ref (g.ad 35)), (1, .int v1), (2, .int (v2 + (nI 1)))] [] (st2 S1 38 (cl r1) ((S1 38 (cl r1)) ||| (jshl (nI 1) v1)))))))))) : PW l x g shX m_X3_findWordsWith (Qv x g shX K) 37 [(0, .ref (g.ad 35)), (1, .int v1), (2, .int v2)] [] S := by
  refine r_iload_n ok 2 dX3_findWordsWith_37 rfl ?_
  refine r_aload_n ok 0 dX3_findWordsWith_38 rfl ?_
  refine r_getR ok 35 0 rfl rfl fo_X3_9 dX3_findWordsWith_39 ?_
  refine r_getR ok 4 0 rfl rfl fo_X3_102 dX3_findWordsWith_42 ?_
  refine r_iload_n ok 1 dX3_findWordsWith_45 rfl ?_
  refine r_iaload ok 5 rfl dX3_findWordsWith_46 h.1 ?_
  have h := h.2
  refine r_icmp_ge ok 76 dX3_findWordsWith_47 (by decide) ⟨fun c => ?_, fun c => ?_⟩
  · have h := h.1 c
    refine r_iinc ok 1 (v1 + (nI 1)) [(1, .int (v1 + (nI 1))), (0, .ref (g.ad 35)), (2, .int v2)] dX3_findWordsWith_76 rfl rfl (by decide) rfl ?_
    refine r_goto ok 10 dX3_findWordsWith_79 (by decide) ?_
    exact r_sub [1, 0] _ rfl h
  · have h := h.2 c
    refine r_aload_n ok 0 dX3_findWordsWith_50 rfl ?_
    refine r_getR ok 35 8 rfl rfl fo_X3_30 dX3_findWordsWith_51 ?_
    refine r_aload_n ok 0 dX3_findWordsWith_54 rfl ?_
    refine r_getR ok 35 0 rfl rfl fo_X3_9 dX3_findWordsWith_55 ?_
    refine r_iload_n ok 1 dX3_findWordsWith_58 rfl ?_
    refine r_iload_n ok 2 dX3_findWordsWith_59 rfl ?_
    refine r_virti ok (rest := [.ref (g.ad 38)]) (As := [.int v1, .int v2]) 4 _ k_X3_findWordsWith_105 rfl rfl rfl rfl (Nat.le_of_ble_eq_true rfl) dX3_findWordsWith_60 (MWi.mono h (fun r1 S1 h => ?_))
    refine r_dup2 ok dX3_findWordsWith_63 rfl rfl ?_
    refine r_iaload ok 38 rfl dX3_findWordsWith_64 h.1 ?_
    have h := h.2
    refine r_iconst ok (nI 1) dX3_findWordsWith_65 (by decide) ?_
    refine r_iload_n ok 1 dX3_findWordsWith_66 rfl ?_
    refine r_ishl ok dX3_findWordsWith_67 ?_
    refine r_ior ok dX3_findWordsWith_68 ?_
    refine r_iastore ok 38 rfl dX3_findWordsWith_69 h.1 ?_
    have h := h.2
    refine r_iinc ok 2 (v2 + (nI 1)) [(2, .int (v2 + (nI 1))), (0, .ref (g.ad 35)), (1, .int v1)] dX3_findWordsWith_70 rfl rfl (by decide) rfl ?_
    refine r_goto ok 37 dX3_findWordsWith_73 (by decide) ?_
    exact r_sub [1, 2, 0] _ rfl h
set_option maxRecDepth 10000 in
theorem s_X3_tellsAll_0 {l : Launch} {x : Cx} {g : Geo} {K : Int32 → Mem → Prop} (ok : Ok x g shX m_X3_tellsAll) (v1 : Int32) (S : Mem) (h : PW l x g shX m_X3_tellsAll (Qi x g shX K) 2 [(0, .ref (g.ad 35)), (1, .int v1), (2, .int (nI 0))] [] S) : PW l x g shX m_X3_tellsAll (Qi x g shX K) 0 [(0, .ref (g.ad 35)), (1, .int v1)] [] S := by
  refine r_iconst ok (nI 0) dX3_tellsAll_0 (by decide) ?_
  refine r_istore_n ok [(2, .int (nI 0)), (0, .ref (g.ad 35)), (1, .int v1)] dX3_tellsAll_1 (by decide) rfl ?_
  exact r_sub [1, 2, 0] _ rfl h
set_option maxRecDepth 10000 in
theorem s_X3_tellsAll_2 {l : Launch} {x : Cx} {g : Geo} {K : Int32 → Mem → Prop} (ok : Ok x g shX m_X3_tellsAll) (v1 : Int32) (v2 : Int32) (S : Mem) (h : (((nI 10) ≤ v2 → K (nI 1) S) ∧ (¬ (nI 10) ≤ v2 → (vp_in v2 10 ∧ (((S 38 (cl v2)) = 0 → PW l x g shX m_X3_tellsAll (Qi x g shX K) 30 [(0, .ref (g.ad 35)), (1, .int v1), (2, .int v2), (3, .int (S 38 (cl v2))), (4, .int (nI 0))] [] S) ∧ (¬ (S 38 (cl v2)) = 0 → ((¬ ((S 38 (cl v2)) &&& v1) = 0 → PW l x g shX m_X3_tellsAll (Qi x g shX K) 30 [(0, .ref (g.ad 35)), (1, .int v1), (2, .int v2), (3, .int (S 38 (cl v2))), (4, .int (nI 0))] [] S) ∧ (((S 38 (cl v2)) &&& v1) = 0 → K (nI 0) S)))))))) : PW l x g shX m_X3_tellsAll (Qi x g shX K) 2 [(0, .ref (g.ad 35)), (1, .int v1), (2, .int v2)] [] S := by
  refine r_iload_n ok 2 dX3_tellsAll_2 rfl ?_
  refine r_bipush ok (nI 10) dX3_tellsAll_3 (by decide) ?_
  refine r_icmp_ge ok 73 dX3_tellsAll_5 (by decide) ⟨fun c => ?_, fun c => ?_⟩
  · have h := h.1 c
    refine r_iconst ok (nI 1) dX3_tellsAll_73 (by decide) ?_
    exact r_zret ok rfl dX3_tellsAll_74 ⟨rfl, h⟩
  · have h := h.2 c
    refine r_aload_n ok 0 dX3_tellsAll_8 rfl ?_
    refine r_getR ok 35 8 rfl rfl fo_X3_30 dX3_tellsAll_9 ?_
    refine r_iload_n ok 2 dX3_tellsAll_12 rfl ?_
    refine r_iaload ok 38 rfl dX3_tellsAll_13 h.1 ?_
    have h := h.2
    refine r_istore_n ok [(3, .int (S 38 (cl v2))), (0, .ref (g.ad 35)), (1, .int v1), (2, .int v2)] dX3_tellsAll_14 (by decide) rfl ?_
    refine r_iload_n ok 0 dX3_tellsAll_15 rfl ?_
    refine r_if_eq ok 27 dX3_tellsAll_16 (by decide) ⟨fun c => ?_, fun c => ?_⟩
    · have h := h.1 c
      refine r_iconst ok (nI 0) dX3_tellsAll_27 (by decide) ?_
      refine r_istore ok [(4, .int (nI 0)), (3, .int (S 38 (cl v2))), (0, .ref (g.ad 35)), (1, .int v1), (2, .int v2)] dX3_tellsAll_28 (by decide) rfl ?_
      exact r_sub [2, 3, 4, 1, 0] _ rfl h
    · have h := h.2 c
      refine r_iload_n ok 0 dX3_tellsAll_19 rfl ?_
      refine r_iload_n ok 2 dX3_tellsAll_20 rfl ?_
      refine r_iand ok dX3_tellsAll_21 ?_
      refine r_if_ne ok 27 dX3_tellsAll_22 (by decide) ⟨fun c => ?_, fun c => ?_⟩
      · have h := h.1 c
        refine r_iconst ok (nI 0) dX3_tellsAll_27 (by decide) ?_
        refine r_istore ok [(4, .int (nI 0)), (3, .int (S 38 (cl v2))), (0, .ref (g.ad 35)), (1, .int v1), (2, .int v2)] dX3_tellsAll_28 (by decide) rfl ?_
        exact r_sub [2, 3, 4, 1, 0] _ rfl h
      · have h := h.2 c
        refine r_iconst ok (nI 0) dX3_tellsAll_25 (by decide) ?_
        exact r_zret ok rfl dX3_tellsAll_26 ⟨rfl, h⟩
set_option maxRecDepth 10000 in
theorem s_X3_tellsAll_30 {l : Launch} {x : Cx} {g : Geo} {K : Int32 → Mem → Prop} (ok : Ok x g shX m_X3_tellsAll) (v1 : Int32) (v2 : Int32) (v3 : Int32) (v4 : Int32) (S : Mem) (h : ((v2 ≤ v4 → PW l x g shX m_X3_tellsAll (Qi x g shX K) 2 [(0, .ref (g.ad 35)), (1, .int v1), (2, .int (v2 + (nI 1)))] [] S) ∧ (¬ v2 ≤ v4 → (vp_in v4 10 ∧ (((v3 ^^^ (S 38 (cl v4))) = 0 → PW l x g shX m_X3_tellsAll (Qi x g shX K) 30 [(0, .ref (g.ad 35)), (1, .int v1), (2, .int v2), (3, .int v3), (4, .int (v4 + (nI 1)))] [] S) ∧ (¬ (v3 ^^^ (S 38 (cl v4))) = 0 → ((¬ ((v3 ^^^ (S 38 (cl v4))) &&& v1) = 0 → PW l x g shX m_X3_tellsAll (Qi x g shX K) 30 [(0, .ref (g.ad 35)), (1, .int v1), (2, .int v2), (3, .int v3), (4, .int (v4 + (nI 1)))] [] S) ∧ (((v3 ^^^ (S 38 (cl v4))) &&& v1) = 0 → K (nI 0) S)))))))) : PW l x g shX m_X3_tellsAll (Qi x g shX K) 30 [(0, .ref (g.ad 35)), (1, .int v1), (2, .int v2), (3, .int v3), (4, .int v4)] [] S := by
  refine r_iload ok 4 dX3_tellsAll_30 rfl ?_
  refine r_iload_n ok 2 dX3_tellsAll_32 rfl ?_
  refine r_icmp_ge ok 67 dX3_tellsAll_33 (by decide) ⟨fun c => ?_, fun c => ?_⟩
  · have h := h.1 c
    refine r_iinc ok 2 (v2 + (nI 1)) [(2, .int (v2 + (nI 1))), (0, .ref (g.ad 35)), (1, .int v1), (3, .int v3), (4, .int v4)] dX3_tellsAll_67 rfl rfl (by decide) rfl ?_
    refine r_goto ok 2 dX3_tellsAll_70 (by decide) ?_
    exact r_sub [1, 2, 0] _ rfl h
  · have h := h.2 c
    refine r_iload_n ok 3 dX3_tellsAll_36 rfl ?_
    refine r_aload_n ok 0 dX3_tellsAll_37 rfl ?_
    refine r_getR ok 35 8 rfl rfl fo_X3_30 dX3_tellsAll_38 ?_
    refine r_iload ok 4 dX3_tellsAll_41 rfl ?_
    refine r_iaload ok 38 rfl dX3_tellsAll_43 h.1 ?_
    have h := h.2
    refine r_ixor ok dX3_tellsAll_44 ?_
    refine r_istore ok [(5, .int (v3 ^^^ (S 38 (cl v4)))), (0, .ref (g.ad 35)), (1, .int v1), (2, .int v2), (3, .int v3), (4, .int v4)] dX3_tellsAll_45 (by decide) rfl ?_
    refine r_iload ok 0 dX3_tellsAll_47 rfl ?_
    refine r_if_eq ok 61 dX3_tellsAll_49 (by decide) ⟨fun c => ?_, fun c => ?_⟩
    · have h := h.1 c
      refine r_iinc ok 5 (v4 + (nI 1)) [(4, .int (v4 + (nI 1))), (5, .int (v3 ^^^ (S 38 (cl v4)))), (0, .ref (g.ad 35)), (1, .int v1), (2, .int v2), (3, .int v3)] dX3_tellsAll_61 rfl rfl (by decide) rfl ?_
      refine r_goto ok 30 dX3_tellsAll_64 (by decide) ?_
      exact r_sub [2, 3, 4, 5, 0] _ rfl h
    · have h := h.2 c
      refine r_iload ok 0 dX3_tellsAll_52 rfl ?_
      refine r_iload_n ok 2 dX3_tellsAll_54 rfl ?_
      refine r_iand ok dX3_tellsAll_55 ?_
      refine r_if_ne ok 61 dX3_tellsAll_56 (by decide) ⟨fun c => ?_, fun c => ?_⟩
      · have h := h.1 c
        refine r_iinc ok 5 (v4 + (nI 1)) [(4, .int (v4 + (nI 1))), (5, .int (v3 ^^^ (S 38 (cl v4)))), (0, .ref (g.ad 35)), (1, .int v1), (2, .int v2), (3, .int v3)] dX3_tellsAll_61 rfl rfl (by decide) rfl ?_
        refine r_goto ok 30 dX3_tellsAll_64 (by decide) ?_
        exact r_sub [2, 3, 4, 5, 0] _ rfl h
      · have h := h.2 c
        refine r_iconst ok (nI 0) dX3_tellsAll_59 (by decide) ?_
        exact r_zret ok rfl dX3_tellsAll_60 ⟨rfl, h⟩
set_option maxRecDepth 10000 in
theorem s_X4_forget_0 {l : Launch} {x : Cx} {g : Geo} {K : Mem → Prop} (ok : Ok x g shX m_X4_forget) (v1 : Int32) (S : Mem) (h : (vp_in v1 4 ∧ K (st2 S 42 (cl v1) (nI 0)))) : PW l x g shX m_X4_forget (Qv x g shX K) 0 [(0, .ref (g.ad 39)), (1, .int v1)] [] S := by
  refine r_aload_n ok 0 dX4_forget_0 rfl ?_
  refine r_getR ok 39 5 rfl rfl fo_X4_30 dX4_forget_1 ?_
  refine r_iload_n ok 1 dX4_forget_4 rfl ?_
  refine r_iconst ok (nI 0) dX4_forget_5 (by decide) ?_
  refine r_bastore ok 42 rfl dX4_forget_6 h.1 rfl ?_
  have h := h.2
  exact r_ret ok rfl dX4_forget_7 h
set_option maxRecDepth 10000 in
theorem s_X4_bestShare_0 {l : Launch} {x : Cx} {g : Geo} {K : Int32 → Mem → Prop} (ok : Ok x g shX m_X4_bestShare) (v1 : Int32) (v2 : Int32) (S : Mem) (h : (vp_in ((v1 * (nI 13)) + v2) 52 ∧ K (S 41 (cl ((v1 * (nI 13)) + v2))) S)) : PW l x g shX m_X4_bestShare (Qi x g shX K) 0 [(0, .ref (g.ad 39)), (1, .int v1), (2, .int v2)] [] S := by
  refine r_aload_n ok 0 dX4_bestShare_0 rfl ?_
  refine r_getR ok 39 4 rfl rfl fo_X4_27 dX4_bestShare_1 ?_
  refine r_iload_n ok 1 dX4_bestShare_4 rfl ?_
  refine r_bipush ok (nI 13) dX4_bestShare_5 (by decide) ?_
  refine r_imul ok dX4_bestShare_7 ?_
  refine r_iload_n ok 2 dX4_bestShare_8 rfl ?_
  refine r_iadd ok dX4_bestShare_9 ?_
  refine r_iaload ok 41 rfl dX4_bestShare_10 h.1 ?_
  have h := h.2
  exact r_iret ok rfl dX4_bestShare_11 h
set_option maxRecDepth 10000 in
theorem s_X4_findBest_0 {l : Launch} {x : Cx} {g : Geo} {K : Mem → Prop} (ok : Ok x g shX m_X4_findBest) (v1 : Int32) (S : Mem) (h : (vp_in v1 4 ∧ (((S 42 (cl v1)) = 0 → MWv l g shX m_X4_findShares [.ref (g.ad 39), .int v1] S (fun S1 => (vp_in v1 4 ∧ MWi l g shX m_J6_bitCount_0f7a4 [.int (S1 11 (cl v1))] S1 (fun r2 S2 => PW l x g shX m_X4_findBest (Qv x g shX K) 39 [(0, .ref (g.ad 39)), (1, .int v1), (2, .int (S1 11 (cl v1))), (3, .int r2), (4, .int (v1 * (nI 13))), (5, .int (nI 0))] [] S2)))) ∧ (¬ (S 42 (cl v1)) = 0 → K S)))) : PW l x g shX m_X4_findBest (Qv x g shX K) 0 [(0, .ref (g.ad 39)), (1, .int v1)] [] S := by
  refine r_aload_n ok 0 dX4_findBest_0 rfl ?_
  refine r_getR ok 39 5 rfl rfl fo_X4_30 dX4_findBest_1 ?_
  refine r_iload_n ok 1 dX4_findBest_4 rfl ?_
  refine r_baload ok 42 rfl dX4_findBest_5 h.1 ?_
  have h := h.2
  refine r_if_eq ok 10 dX4_findBest_6 (by decide) ⟨fun c => ?_, fun c => ?_⟩
  · have h := h.1 c
    refine r_aload_n ok 0 dX4_findBest_10 rfl ?_
    refine r_iload_n ok 1 dX4_findBest_11 rfl ?_
    refine r_virtv ok (rest := []) (As := [.int v1]) 39 _ k_X4_findBest_37 rfl rfl rfl rfl (Nat.le_of_ble_eq_true rfl) dX4_findBest_12 (MWv.mono h (fun S1 h => ?_))
    refine r_aload_n ok 0 dX4_findBest_15 rfl ?_
    refine r_getR ok 39 1 rfl rfl fo_X4_15 dX4_findBest_16 ?_
    refine r_getR ok 10 0 rfl rfl fo_X4_41 dX4_findBest_19 ?_
    refine r_iload_n ok 1 dX4_findBest_22 rfl ?_
    refine r_iaload ok 11 rfl dX4_findBest_23 h.1 ?_
    have h := h.2
    refine r_istore_n ok [(2, .int (S1 11 (cl v1))), (0, .ref (g.ad 39)), (1, .int v1)] dX4_findBest_24 (by decide) rfl ?_
    refine r_iload_n ok 0 dX4_findBest_25 rfl ?_
    refine r_stati ok (rest := []) (As := [.int (S1 11 (cl v1))]) _ k_X4_findBest_46 rfl rfl (Nat.le_of_ble_eq_true rfl) dX4_findBest_26 (MWi.mono h (fun r2 S2 h => ?_))
    refine r_istore_n ok [(3, .int r2), (2, .int (S1 11 (cl v1))), (0, .ref (g.ad 39)), (1, .int v1)] dX4_findBest_29 (by decide) rfl ?_
    refine r_iload_n ok 3 dX4_findBest_30 rfl ?_
    refine r_bipush ok (nI 13) dX4_findBest_31 (by decide) ?_
    refine r_imul ok dX4_findBest_33 ?_
    refine r_istore ok [(4, .int (v1 * (nI 13))), (3, .int r2), (2, .int (S1 11 (cl v1))), (0, .ref (g.ad 39)), (1, .int v1)] dX4_findBest_34 (by decide) rfl ?_
    refine r_iconst ok (nI 0) dX4_findBest_36 (by decide) ?_
    refine r_istore ok [(5, .int (nI 0)), (4, .int (v1 * (nI 13))), (3, .int r2), (2, .int (S1 11 (cl v1))), (0, .ref (g.ad 39)), (1, .int v1)] dX4_findBest_37 (by decide) rfl ?_
    exact r_sub [4, 5, 3, 2, 1, 0] _ rfl h
  · have h := h.2 c
    exact r_ret ok rfl dX4_findBest_9 h
set_option maxRecDepth 10000 in
theorem s_X4_findBest_39 {l : Launch} {x : Cx} {g : Geo} {K : Mem → Prop} (ok : Ok x g shX m_X4_findBest) (v1 : Int32) (v2 : Int32) (v3 : Int32) (v4 : Int32) (v5 : Int32) (S : Mem) (h : (((nI 12) < v5 → PW l x g shX m_X4_findBest (Qv x g shX K) 66 [(0, .ref (g.ad 39)), (1, .int v1), (2, .int v2), (3, .int v3), (4, .int v4), (5, .int (nI 0))] [] S) ∧ (¬ (nI 12) < v5 → (vp_in (v4 + v5) 52 ∧ PW l x g shX m_X4_findBest (Qv x g shX K) 39 [(0, .ref (g.ad 39)), (1, .int v1), (2, .int v2), (3, .int v3), (4, .int v4), (5, .int (v5 + (nI 1)))] [] (st2 S 41 (cl (v4 + v5)) (nI 0)))))) : PW l x g shX m_X4_findBest (Qv x g shX K) 39 [(0, .ref (g.ad 39)), (1, .int v1), (2, .int v2), (3, .int v3), (4, .int v4), (5, .int v5)] [] S := by
  refine r_iload ok 5 dX4_findBest_39 rfl ?_
  refine r_bipush ok (nI 12) dX4_findBest_41 (by decide) ?_
  refine r_icmp_gt ok 63 dX4_findBest_43 (by decide) ⟨fun c => ?_, fun c => ?_⟩
  · have h := h.1 c
    refine r_iconst ok (nI 0) dX4_findBest_63 (by decide) ?_
    refine r_istore ok [(5, .int (nI 0)), (0, .ref (g.ad 39)), (1, .int v1), (2, .int v2), (3, .int v3), (4, .int v4)] dX4_findBest_64 (by decide) rfl ?_
    exact r_sub [1, 2, 3, 4, 5, 0] _ rfl h
  · have h := h.2 c
    refine r_aload_n ok 0 dX4_findBest_46 rfl ?_
    refine r_getR ok 39 4 rfl rfl fo_X4_27 dX4_findBest_47 ?_
    refine r_iload ok 4 dX4_findBest_50 rfl ?_
    refine r_iload ok 5 dX4_findBest_52 rfl ?_
    refine r_iadd ok dX4_findBest_54 ?_
    refine r_iconst ok (nI 0) dX4_findBest_55 (by decide) ?_
    refine r_iastore ok 41 rfl dX4_findBest_56 h.1 ?_
    have h := h.2
    refine r_iinc ok 5 (v5 + (nI 1)) [(5, .int (v5 + (nI 1))), (0, .ref (g.ad 39)), (1, .int v1), (2, .int v2), (3, .int v3), (4, .int v4)] dX4_findBest_57 rfl rfl (by decide) rfl ?_
    refine r_goto ok 39 dX4_findBest_60 (by decide) ?_
    exact r_sub [1, 2, 3, 4, 5, 0] _ rfl h
set_option maxRecDepth 10000 in
theorem s_X4_findBest_66 {l : Launch} {x : Cx} {g : Geo} {K : Mem → Prop} (ok : Ok x g shX m_X4_findBest) (v1 : Int32) (v2 : Int32) (v3 : Int32) (v4 : Int32) (v5 : Int32) (S : Mem) (h : (((nI 1024) ≤ v5 → PW l x g shX m_X4_findBest (Qv x g shX K) 133 [(0, .ref (g.ad 39)), (1, .int v1), (4, .int v4), (5, .int (((nI 10) - v3) + (nI 1)))] [] S) ∧ (¬ (nI 1024) ≤ v5 → ((¬ (v2 &&& (v5 ^^^ (-1))) = 0 → PW l x g shX m_X4_findBest (Qv x g shX K) 66 [(0, .ref (g.ad 39)), (1, .int v1), (2, .int v2), (3, .int v3), (4, .int v4), (5, .int (v5 + (nI 1)))] [] S) ∧ ((v2 &&& (v5 ^^^ (-1))) = 0 → MWi l g shX m_J6_bitCount_0f7a4 [.int v5] S (fun r1 S1 => (vp_in ((v4 + r1) - v3) 52 ∧ (vp_in v5 1024 ∧ (vp_in ((v4 + r1) - v3) 52 ∧ PW l x g shX m_X4_findBest (Qv x g shX K) 66 [(0, .ref (g.ad 39)), (1, .int v1), (2, .int v2), (3, .int v3), (4, .int v4), (5, .int (v5 + (nI 1)))] [] (st2 S1 41 (cl ((v4 + r1) - v3)) (jmax (S1 41 (cl ((v4 + r1) - v3))) (S1 40 (cl v5))))))))))))) : PW l x g shX m_X4_findBest (Qv x g shX K) 66 [(0, .ref (g.ad 39)), (1, .int v1), (2, .int v2), (3, .int v3), (4, .int v4), (5, .int v5)] [] S := by
  refine r_iload ok 5 dX4_findBest_66 rfl ?_
  refine r_sipush ok (nI 1024) dX4_findBest_68 (by decide) ?_
  refine r_icmp_ge ok 125 dX4_findBest_71 (by decide) ⟨fun c => ?_, fun c => ?_⟩
  · have h := h.1 c
    refine r_bipush ok (nI 10) dX4_findBest_125 (by decide) ?_
    refine r_iload_n ok 3 dX4_findBest_127 rfl ?_
    refine r_isub ok dX4_findBest_128 ?_
    refine r_iconst ok (nI 1) dX4_findBest_129 (by decide) ?_
    refine r_iadd ok dX4_findBest_130 ?_
    refine r_istore ok [(5, .int (((nI 10) - v3) + (nI 1))), (0, .ref (g.ad 39)), (1, .int v1), (2, .int v2), (3, .int v3), (4, .int v4)] dX4_findBest_131 (by decide) rfl ?_
    exact r_sub [1, 2, 5, 0] _ rfl h
  · have h := h.2 c
    refine r_iload_n ok 2 dX4_findBest_74 rfl ?_
    refine r_iload ok 5 dX4_findBest_75 rfl ?_
    refine r_iconst ok (-1) dX4_findBest_77 (by decide) ?_
    refine r_ixor ok dX4_findBest_78 ?_
    refine r_iand ok dX4_findBest_79 ?_
    refine r_if_ne ok 119 dX4_findBest_80 (by decide) ⟨fun c => ?_, fun c => ?_⟩
    · have h := h.1 c
      refine r_iinc ok 5 (v5 + (nI 1)) [(5, .int (v5 + (nI 1))), (0, .ref (g.ad 39)), (1, .int v1), (2, .int v2), (3, .int v3), (4, .int v4)] dX4_findBest_119 rfl rfl (by decide) rfl ?_
      refine r_goto ok 66 dX4_findBest_122 (by decide) ?_
      exact r_sub [1, 2, 3, 4, 5, 0] _ rfl h
    · have h := h.2 c
      refine r_iload ok 4 dX4_findBest_83 rfl ?_
      refine r_iload ok 5 dX4_findBest_85 rfl ?_
      refine r_stati ok (rest := [.int v4]) (As := [.int v5]) _ k_X4_findBest_46 rfl rfl (Nat.le_of_ble_eq_true rfl) dX4_findBest_87 (MWi.mono h (fun r1 S1 h => ?_))
      refine r_iadd ok dX4_findBest_90 ?_
      refine r_iload_n ok 3 dX4_findBest_91 rfl ?_
      refine r_isub ok dX4_findBest_92 ?_
      refine r_istore ok [(6, .int ((v4 + r1) - v3)), (0, .ref (g.ad 39)), (1, .int v1), (2, .int v2), (3, .int v3), (4, .int v4), (5, .int v5)] dX4_findBest_93 (by decide) rfl ?_
      refine r_aload_n ok 1 dX4_findBest_95 rfl ?_
      refine r_getR ok 39 4 rfl rfl fo_X4_27 dX4_findBest_96 ?_
      refine r_iload ok 0 dX4_findBest_99 rfl ?_
      refine r_aload_n ok 1 dX4_findBest_101 rfl ?_
      refine r_getR ok 39 4 rfl rfl fo_X4_27 dX4_findBest_102 ?_
      refine r_iload ok 0 dX4_findBest_105 rfl ?_
      refine r_iaload ok 41 rfl dX4_findBest_107 h.1 ?_
      have h := h.2
      refine r_aload_n ok 1 dX4_findBest_108 rfl ?_
      refine r_getR ok 39 3 rfl rfl fo_X4_23 dX4_findBest_109 ?_
      refine r_iload ok 6 dX4_findBest_112 rfl ?_
      refine r_iaload ok 40 rfl dX4_findBest_114 h.1 ?_
      have h := h.2
      refine r_max ok (rest := [.int ((v4 + r1) - v3), .ref (g.ad 41)]) k_X4_findBest_52 (Nat.le_of_ble_eq_true rfl) dX4_findBest_115 ?_
      refine r_iastore ok 41 rfl dX4_findBest_118 h.1 ?_
      have h := h.2
      refine r_iinc ok 6 (v5 + (nI 1)) [(5, .int (v5 + (nI 1))), (6, .int ((v4 + r1) - v3)), (0, .ref (g.ad 39)), (1, .int v1), (2, .int v2), (3, .int v3), (4, .int v4)] dX4_findBest_119 rfl rfl (by decide) rfl ?_
      refine r_goto ok 66 dX4_findBest_122 (by decide) ?_
      exact r_sub [2, 3, 4, 5, 6, 0] _ rfl h
set_option maxRecDepth 10000 in
theorem s_X4_findBest_133 {l : Launch} {x : Cx} {g : Geo} {K : Mem → Prop} (ok : Ok x g shX m_X4_findBest) (v1 : Int32) (v4 : Int32) (v5 : Int32) (S : Mem) (h : (((nI 12) < v5 → (vp_in v1 4 ∧ K (st2 S 42 (cl v1) (nI 1)))) ∧ (¬ (nI 12) < v5 → (vp_in (nI 1023) 1024 ∧ (vp_in (v4 + v5) 52 ∧ PW l x g shX m_X4_findBest (Qv x g shX K) 133 [(0, .ref (g.ad 39)), (1, .int v1), (4, .int v4), (5, .int (v5 + (nI 1)))] [] (st2 S 41 (cl (v4 + v5)) (S 40 (cl (nI 1023))))))))) : PW l x g shX m_X4_findBest (Qv x g shX K) 133 [(0, .ref (g.ad 39)), (1, .int v1), (4, .int v4), (5, .int v5)] [] S := by
  refine r_iload ok 3 dX4_findBest_133 rfl ?_
  refine r_bipush ok (nI 12) dX4_findBest_135 (by decide) ?_
  refine r_icmp_gt ok 164 dX4_findBest_137 (by decide) ⟨fun c => ?_, fun c => ?_⟩
  · have h := h.1 c
    refine r_aload_n ok 0 dX4_findBest_164 rfl ?_
    refine r_getR ok 39 5 rfl rfl fo_X4_30 dX4_findBest_165 ?_
    refine r_iload_n ok 1 dX4_findBest_168 rfl ?_
    refine r_iconst ok (nI 1) dX4_findBest_169 (by decide) ?_
    refine r_bastore ok 42 rfl dX4_findBest_170 h.1 rfl ?_
    have h := h.2
    exact r_ret ok rfl dX4_findBest_171 h
  · have h := h.2 c
    refine r_aload_n ok 0 dX4_findBest_140 rfl ?_
    refine r_getR ok 39 4 rfl rfl fo_X4_27 dX4_findBest_141 ?_
    refine r_iload ok 2 dX4_findBest_144 rfl ?_
    refine r_iload ok 3 dX4_findBest_146 rfl ?_
    refine r_iadd ok dX4_findBest_148 ?_
    refine r_aload_n ok 0 dX4_findBest_149 rfl ?_
    refine r_getR ok 39 3 rfl rfl fo_X4_23 dX4_findBest_150 ?_
    refine r_sipush ok (nI 1023) dX4_findBest_153 (by decide) ?_
    refine r_iaload ok 40 rfl dX4_findBest_156 h.1 ?_
    have h := h.2
    refine r_iastore ok 41 rfl dX4_findBest_157 h.1 ?_
    have h := h.2
    refine r_iinc ok 3 (v5 + (nI 1)) [(5, .int (v5 + (nI 1))), (0, .ref (g.ad 39)), (1, .int v1), (4, .int v4)] dX4_findBest_158 rfl rfl (by decide) rfl ?_
    refine r_goto ok 133 dX4_findBest_161 (by decide) ?_
    exact r_sub [1, 2, 3, 0] _ rfl h
set_option maxRecDepth 10000 in
theorem s_X4_findShares_0 {l : Launch} {x : Cx} {g : Geo} {K : Mem → Prop} (ok : Ok x g shX m_X4_findShares) (v1 : Int32) (S : Mem) (h : MWv l g shX m_J7_fill_53178 [.ref (g.ad 40), .int (nI 0)] S (fun S1 => PW l x g shX m_X4_findShares (Qv x g shX K) 10 [(0, .ref (g.ad 39)), (1, .int v1), (2, .int (nI 0))] [] S1)) : PW l x g shX m_X4_findShares (Qv x g shX K) 0 [(0, .ref (g.ad 39)), (1, .int v1)] [] S := by
  refine r_aload_n ok 0 dX4_findShares_0 rfl ?_
  refine r_getR ok 39 3 rfl rfl fo_X4_23 dX4_findShares_1 ?_
  refine r_iconst ok (nI 0) dX4_findShares_4 (by decide) ?_
  refine r_statv ok (rest := []) (As := [.ref (g.ad 40), .int (nI 0)]) _ k_X4_findShares_58 rfl rfl (Nat.le_of_ble_eq_true rfl) dX4_findShares_5 (MWv.mono h (fun S1 h => ?_))
  refine r_iconst ok (nI 0) dX4_findShares_8 (by decide) ?_
  refine r_istore_n ok [(2, .int (nI 0)), (0, .ref (g.ad 39)), (1, .int v1)] dX4_findShares_9 (by decide) rfl ?_
  exact r_sub [1, 2, 0] _ rfl h
set_option maxRecDepth 10000 in
theorem s_X4_findShares_10 {l : Launch} {x : Cx} {g : Geo} {K : Mem → Prop} (ok : Ok x g shX m_X4_findShares) (v1 : Int32) (v2 : Int32) (S : Mem) (h : (((S 4 5) ≤ v2 → MWv l g shX m_X11_addUpSubsets [.ref (g.ad 40)] S (fun S1 => K S1)) ∧ (¬ (S 4 5) ≤ v2 → (vp_in v2 12 ∧ (vp_in v1 4 ∧ MWi l g shX m_X11_hasBit [.int (S 12 (cl v1)), .int v2] S (fun r2 S2 => ((r2 = 0 → MWi l g shX m_X6_guessedAs [.ref (g.ad 25), .int v2] S2 (fun r3 S3 => ((¬ r3 = v2 → MWi l g shX m_X6_soundedAs [.ref (g.ad 25), .int v1, .int v2] S3 (fun r4 S4 => ((¬ r4 = v2 → MWi l g shX m_X1_firstSign [.ref (g.ad 4), .int v2] S4 (fun r5 S5 => (vp_in (jshl (nI 1) r5) 1024 ∧ (vp_in (jshl (nI 1) r5) 1024 ∧ (vp_in v2 12 ∧ (vp_in ((st2 S5 40 (cl (jshl (nI 1) r5)) ((S5 40 (cl (jshl (nI 1) r5))) + (nI 0))) 7 (cl v2)) 1024 ∧ (vp_in ((st2 S5 40 (cl (jshl (nI 1) r5)) ((S5 40 (cl (jshl (nI 1) r5))) + (nI 0))) 7 (cl v2)) 1024 ∧ PW l x g shX m_X4_findShares (Qv x g shX K) 10 [(0, .ref (g.ad 39)), (1, .int v1), (2, .int (v2 + (nI 1)))] [] (st2 (st2 S5 40 (cl (jshl (nI 1) r5)) ((S5 40 (cl (jshl (nI 1) r5))) + (nI 0))) 40 (cl ((st2 S5 40 (cl (jshl (nI 1) r5)) ((S5 40 (cl (jshl (nI 1) r5))) + (nI 0))) 7 (cl v2))) (((st2 S5 40 (cl (jshl (nI 1) r5)) ((S5 40 (cl (jshl (nI 1) r5))) + (nI 0))) 40 (cl ((st2 S5 40 (cl (jshl (nI 1) r5)) ((S5 40 (cl (jshl (nI 1) r5))) + (nI 0))) 7 (cl v2)))) + ((nI 0) - (nI 0))))))))))) ∧ (r4 = v2 → MWi l g shX m_X1_firstSign [.ref (g.ad 4), .int v2] S4 (fun r6 S6 => (vp_in (jshl (nI 1) r6) 1024 ∧ (vp_in (jshl (nI 1) r6) 1024 ∧ (vp_in v2 12 ∧ (vp_in ((st2 S6 40 (cl (jshl (nI 1) r6)) ((S6 40 (cl (jshl (nI 1) r6))) + (nI 0))) 7 (cl v2)) 1024 ∧ (vp_in ((st2 S6 40 (cl (jshl (nI 1) r6)) ((S6 40 (cl (jshl (nI 1) r6))) + (nI 0))) 7 (cl v2)) 1024 ∧ PW l x g shX m_X4_findShares (Qv x g shX K) 10 [(0, .ref (g.ad 39)), (1, .int v1), (2, .int (v2 + (nI 1)))] [] (st2 (st2 S6 40 (cl (jshl (nI 1) r6)) ((S6 40 (cl (jshl (nI 1) r6))) + (nI 0))) 40 (cl ((st2 S6 40 (cl (jshl (nI 1) r6)) ((S6 40 (cl (jshl (nI 1) r6))) + (nI 0))) 7 (cl v2))) (((st2 S6 40 (cl (jshl (nI 1) r6)) ((S6 40 (cl (jshl (nI 1) r6))) + (nI 0))) 40 (cl ((st2 S6 40 (cl (jshl (nI 1) r6)) ((S6 40 (cl (jshl (nI 1) r6))) + (nI 0))) 7 (cl v2)))) + ((S 6 (cl v2)) - (nI 0)))))))))))))) ∧ (r3 = v2 → MWi l g shX m_X6_soundedAs [.ref (g.ad 25), .int v1, .int v2] S3 (fun r7 S7 => ((¬ r7 = v2 → MWi l g shX m_X1_firstSign [.ref (g.ad 4), .int v2] S7 (fun r8 S8 => (vp_in (jshl (nI 1) r8) 1024 ∧ (vp_in (jshl (nI 1) r8) 1024 ∧ (vp_in v2 12 ∧ (vp_in ((st2 S8 40 (cl (jshl (nI 1) r8)) ((S8 40 (cl (jshl (nI 1) r8))) + (S 6 (cl v2)))) 7 (cl v2)) 1024 ∧ (vp_in ((st2 S8 40 (cl (jshl (nI 1) r8)) ((S8 40 (cl (jshl (nI 1) r8))) + (S 6 (cl v2)))) 7 (cl v2)) 1024 ∧ PW l x g shX m_X4_findShares (Qv x g shX K) 10 [(0, .ref (g.ad 39)), (1, .int v1), (2, .int (v2 + (nI 1)))] [] (st2 (st2 S8 40 (cl (jshl (nI 1) r8)) ((S8 40 (cl (jshl (nI 1) r8))) + (S 6 (cl v2)))) 40 (cl ((st2 S8 40 (cl (jshl (nI 1) r8)) ((S8 40 (cl (jshl (nI 1) r8))) + (S 6 (cl v2)))) 7 (cl v2))) (((st2 S8 40 (cl (jshl (nI 1) r8)) ((S8 40 (cl (jshl (nI 1) r8))) + (S 6 (cl v2)))) 40 (cl ((st2 S8 40 (cl (jshl (nI 1) r8)) ((S8 40 (cl (jshl (nI 1) r8))) + (S 6 (cl v2)))) 7 (cl v2)))) + ((nI 0) - (S 6 (cl v2)))))))))))) ∧ (r7 = v2 → MWi l g shX m_X1_firstSign [.ref (g.ad 4), .int v2] S7 (fun r9 S9 => (vp_in (jshl (nI 1) r9) 1024 ∧ (vp_in (jshl (nI 1) r9) 1024 ∧ (vp_in v2 12 ∧ (vp_in ((st2 S9 40 (cl (jshl (nI 1) r9)) ((S9 40 (cl (jshl (nI 1) r9))) + (S 6 (cl v2)))) 7 (cl v2)) 1024 ∧ (vp_in ((st2 S9 40 (cl (jshl (nI 1) r9)) ((S9 40 (cl (jshl (nI 1) r9))) + (S 6 (cl v2)))) 7 (cl v2)) 1024 ∧ PW l x g shX m_X4_findShares (Qv x g shX K) 10 [(0, .ref (g.ad 39)), (1, .int v1), (2, .int (v2 + (nI 1)))] [] (st2 (st2 S9 40 (cl (jshl (nI 1) r9)) ((S9 40 (cl (jshl (nI 1) r9))) + (S 6 (cl v2)))) 40 (cl ((st2 S9 40 (cl (jshl (nI 1) r9)) ((S9 40 (cl (jshl (nI 1) r9))) + (S 6 (cl v2)))) 7 (cl v2))) (((st2 S9 40 (cl (jshl (nI 1) r9)) ((S9 40 (cl (jshl (nI 1) r9))) + (S 6 (cl v2)))) 40 (cl ((st2 S9 40 (cl (jshl (nI 1) r9)) ((S9 40 (cl (jshl (nI 1) r9))) + (S 6 (cl v2)))) 7 (cl v2)))) + ((S 6 (cl v2)) - (S 6 (cl v2)))))))))))))))))) ∧ (¬ r2 = 0 → (vp_in (nI 0) 1024 ∧ (vp_in (nI 0) 1024 ∧ PW l x g shX m_X4_findShares (Qv x g shX K) 10 [(0, .ref (g.ad 39)), (1, .int v1), (2, .int (v2 + (nI 1)))] [] (st2 S2 40 (cl (nI 0)) ((S2 40 (cl (nI 0))) + (S 6 (cl v2)))))))))))))) : PW l x g shX m_X4_findShares (Qv x g shX K) 10 [(0, .ref (g.ad 39)), (1, .int v1), (2, .int v2)] [] S := by
  refine r_iload_n ok 2 dX4_findShares_10 rfl ?_
  refine r_aload_n ok 0 dX4_findShares_11 rfl ?_
  refine r_getR ok 39 0 rfl rfl fo_X4_9 dX4_findShares_12 ?_
  refine r_getI ok 4 5 rfl rfl fo_X4_64 dX4_findShares_15 ?_
  refine r_icmp_ge ok 147 dX4_findShares_18 (by decide) ⟨fun c => ?_, fun c => ?_⟩
  · have h := h.1 c
    refine r_aload_n ok 0 dX4_findShares_147 rfl ?_
    refine r_getR ok 39 3 rfl rfl fo_X4_23 dX4_findShares_148 ?_
    refine r_nestv ok (rest := []) (As := [.ref (g.ad 40)]) _ k_X4_findShares_94 rfl rfl (Nat.le_of_ble_eq_true rfl) dX4_findShares_151 (MWv.mono h (fun S1 h => ?_))
    exact r_ret ok rfl dX4_findShares_154 h
  · have h := h.2 c
    refine r_aload_n ok 0 dX4_findShares_21 rfl ?_
    refine r_getR ok 39 0 rfl rfl fo_X4_9 dX4_findShares_22 ?_
    refine r_getR ok 4 1 rfl rfl fo_X4_70 dX4_findShares_25 ?_
    refine r_iload_n ok 2 dX4_findShares_28 rfl ?_
    refine r_iaload ok 6 rfl dX4_findShares_29 h.1 ?_
    have h := h.2
    refine r_istore_n ok [(3, .int (S 6 (cl v2))), (0, .ref (g.ad 39)), (1, .int v1), (2, .int v2)] dX4_findShares_30 (by decide) rfl ?_
    refine r_aload_n ok 1 dX4_findShares_31 rfl ?_
    refine r_getR ok 39 1 rfl rfl fo_X4_15 dX4_findShares_32 ?_
    refine r_getR ok 10 1 rfl rfl fo_X4_73 dX4_findShares_35 ?_
    refine r_iload_n ok 2 dX4_findShares_38 rfl ?_
    refine r_iaload ok 12 rfl dX4_findShares_39 h.1 ?_
    have h := h.2
    refine r_iload_n ok 3 dX4_findShares_40 rfl ?_
    refine r_nesti ok (rest := []) (As := [.int (S 12 (cl v1)), .int v2]) _ k_X4_findShares_76 rfl rfl (Nat.le_of_ble_eq_true rfl) dX4_findShares_41 (MWi.mono h (fun r2 S2 h => ?_))
    refine r_if_eq ok 60 dX4_findShares_44 (by decide) ⟨fun c => ?_, fun c => ?_⟩
    · have h := h.1 c
      refine r_aload_n ok 1 dX4_findShares_60 rfl ?_
      refine r_getR ok 39 2 rfl rfl fo_X4_19 dX4_findShares_61 ?_
      refine r_iload_n ok 3 dX4_findShares_64 rfl ?_
      refine r_virti ok (rest := []) (As := [.int v2]) 25 _ k_X4_findShares_80 rfl rfl rfl rfl (Nat.le_of_ble_eq_true rfl) dX4_findShares_65 (MWi.mono h (fun r3 S3 h => ?_))
      refine r_iload_n ok 3 dX4_findShares_68 rfl ?_
      refine r_icmp_ne ok 76 dX4_findShares_69 (by decide) ⟨fun c => ?_, fun c => ?_⟩
      · have h := h.1 c
        refine r_iconst ok (nI 0) dX4_findShares_76 (by decide) ?_
        refine r_istore ok [(4, .int (nI 0)), (3, .int (S 6 (cl v2))), (0, .ref (g.ad 39)), (1, .int v1), (2, .int v2)] dX4_findShares_77 (by decide) rfl ?_
        refine r_aload_n ok 2 dX4_findShares_79 rfl ?_
        refine r_getR ok 39 2 rfl rfl fo_X4_19 dX4_findShares_80 ?_
        refine r_iload_n ok 3 dX4_findShares_83 rfl ?_
        refine r_iload_n ok 4 dX4_findShares_84 rfl ?_
        refine r_virti ok (rest := []) (As := [.int v1, .int v2]) 25 _ k_X4_findShares_85 rfl rfl rfl rfl (Nat.le_of_ble_eq_true rfl) dX4_findShares_85 (MWi.mono h (fun r4 S4 h => ?_))
        refine r_iload_n ok 4 dX4_findShares_88 rfl ?_
        refine r_icmp_ne ok 96 dX4_findShares_89 (by decide) ⟨fun c => ?_, fun c => ?_⟩
        · have h := h.1 c
          refine r_iconst ok (nI 0) dX4_findShares_96 (by decide) ?_
          refine r_istore ok [(5, .int (nI 0)), (4, .int (nI 0)), (3, .int (S 6 (cl v2))), (0, .ref (g.ad 39)), (1, .int v1), (2, .int v2)] dX4_findShares_97 (by decide) rfl ?_
          refine r_aload_n ok 3 dX4_findShares_99 rfl ?_
          refine r_getR ok 39 3 rfl rfl fo_X4_23 dX4_findShares_100 ?_
          refine r_iconst ok (nI 1) dX4_findShares_103 (by decide) ?_
          refine r_aload_n ok 3 dX4_findShares_104 rfl ?_
          refine r_getR ok 39 0 rfl rfl fo_X4_9 dX4_findShares_105 ?_
          refine r_iload_n ok 5 dX4_findShares_108 rfl ?_
          refine r_virti ok (rest := [.int (nI 1), .ref (g.ad 40)]) (As := [.int v2]) 4 _ k_X4_findShares_88 rfl rfl rfl rfl (Nat.le_of_ble_eq_true rfl) dX4_findShares_109 (MWi.mono h (fun r5 S5 h => ?_))
          refine r_ishl ok dX4_findShares_112 ?_
          refine r_dup2 ok dX4_findShares_113 rfl rfl ?_
          refine r_iaload ok 40 rfl dX4_findShares_114 h.1 ?_
          have h := h.2
          refine r_iload ok 1 dX4_findShares_115 rfl ?_
          refine r_iadd ok dX4_findShares_117 ?_
          refine r_iastore ok 40 rfl dX4_findShares_118 h.1 ?_
          have h := h.2
          refine r_aload_n ok 3 dX4_findShares_119 rfl ?_
          refine r_getR ok 39 3 rfl rfl fo_X4_23 dX4_findShares_120 ?_
          refine r_aload_n ok 3 dX4_findShares_123 rfl ?_
          refine r_getR ok 39 0 rfl rfl fo_X4_9 dX4_findShares_124 ?_
          refine r_getR ok 4 2 rfl rfl fo_X4_91 dX4_findShares_127 ?_
          refine r_iload_n ok 5 dX4_findShares_130 rfl ?_
          refine r_iaload ok 7 rfl dX4_findShares_131 h.1 ?_
          have h := h.2
          refine r_dup2 ok dX4_findShares_132 rfl rfl ?_
          refine r_iaload ok 40 rfl dX4_findShares_133 h.1 ?_
          have h := h.2
          refine r_iload ok 0 dX4_findShares_134 rfl ?_
          refine r_iload ok 1 dX4_findShares_136 rfl ?_
          refine r_isub ok dX4_findShares_138 ?_
          refine r_iadd ok dX4_findShares_139 ?_
          refine r_iastore ok 40 rfl dX4_findShares_140 h.1 ?_
          have h := h.2
          refine r_iinc ok 5 (v2 + (nI 1)) [(2, .int (v2 + (nI 1))), (5, .int (nI 0)), (4, .int (nI 0)), (3, .int (S 6 (cl v2))), (0, .ref (g.ad 39)), (1, .int v1)] dX4_findShares_141 rfl rfl (by decide) rfl ?_
          refine r_goto ok 10 dX4_findShares_144 (by decide) ?_
          exact r_sub [4, 5, 0] _ rfl h
        · have h := h.2 c
          refine r_iload_n ok 1 dX4_findShares_92 rfl ?_
          refine r_goto ok 97 dX4_findShares_93 (by decide) ?_
          refine r_istore ok [(5, .int (S 6 (cl v2))), (4, .int (nI 0)), (3, .int (S 6 (cl v2))), (0, .ref (g.ad 39)), (1, .int v1), (2, .int v2)] dX4_findShares_97 (by decide) rfl ?_
          refine r_aload_n ok 3 dX4_findShares_99 rfl ?_
          refine r_getR ok 39 3 rfl rfl fo_X4_23 dX4_findShares_100 ?_
          refine r_iconst ok (nI 1) dX4_findShares_103 (by decide) ?_
          refine r_aload_n ok 3 dX4_findShares_104 rfl ?_
          refine r_getR ok 39 0 rfl rfl fo_X4_9 dX4_findShares_105 ?_
          refine r_iload_n ok 5 dX4_findShares_108 rfl ?_
          refine r_virti ok (rest := [.int (nI 1), .ref (g.ad 40)]) (As := [.int v2]) 4 _ k_X4_findShares_88 rfl rfl rfl rfl (Nat.le_of_ble_eq_true rfl) dX4_findShares_109 (MWi.mono h (fun r6 S6 h => ?_))
          refine r_ishl ok dX4_findShares_112 ?_
          refine r_dup2 ok dX4_findShares_113 rfl rfl ?_
          refine r_iaload ok 40 rfl dX4_findShares_114 h.1 ?_
          have h := h.2
          refine r_iload ok 1 dX4_findShares_115 rfl ?_
          refine r_iadd ok dX4_findShares_117 ?_
          refine r_iastore ok 40 rfl dX4_findShares_118 h.1 ?_
          have h := h.2
          refine r_aload_n ok 3 dX4_findShares_119 rfl ?_
          refine r_getR ok 39 3 rfl rfl fo_X4_23 dX4_findShares_120 ?_
          refine r_aload_n ok 3 dX4_findShares_123 rfl ?_
          refine r_getR ok 39 0 rfl rfl fo_X4_9 dX4_findShares_124 ?_
          refine r_getR ok 4 2 rfl rfl fo_X4_91 dX4_findShares_127 ?_
          refine r_iload_n ok 5 dX4_findShares_130 rfl ?_
          refine r_iaload ok 7 rfl dX4_findShares_131 h.1 ?_
          have h := h.2
          refine r_dup2 ok dX4_findShares_132 rfl rfl ?_
          refine r_iaload ok 40 rfl dX4_findShares_133 h.1 ?_
          have h := h.2
          refine r_iload ok 0 dX4_findShares_134 rfl ?_
          refine r_iload ok 1 dX4_findShares_136 rfl ?_
          refine r_isub ok dX4_findShares_138 ?_
          refine r_iadd ok dX4_findShares_139 ?_
          refine r_iastore ok 40 rfl dX4_findShares_140 h.1 ?_
          have h := h.2
          refine r_iinc ok 5 (v2 + (nI 1)) [(2, .int (v2 + (nI 1))), (5, .int (S 6 (cl v2))), (4, .int (nI 0)), (3, .int (S 6 (cl v2))), (0, .ref (g.ad 39)), (1, .int v1)] dX4_findShares_141 rfl rfl (by decide) rfl ?_
          refine r_goto ok 10 dX4_findShares_144 (by decide) ?_
          exact r_sub [4, 5, 0] _ rfl h
      · have h := h.2 c
        refine r_iload_n ok 0 dX4_findShares_72 rfl ?_
        refine r_goto ok 77 dX4_findShares_73 (by decide) ?_
        refine r_istore ok [(4, .int (S 6 (cl v2))), (3, .int (S 6 (cl v2))), (0, .ref (g.ad 39)), (1, .int v1), (2, .int v2)] dX4_findShares_77 (by decide) rfl ?_
        refine r_aload_n ok 2 dX4_findShares_79 rfl ?_
        refine r_getR ok 39 2 rfl rfl fo_X4_19 dX4_findShares_80 ?_
        refine r_iload_n ok 3 dX4_findShares_83 rfl ?_
        refine r_iload_n ok 4 dX4_findShares_84 rfl ?_
        refine r_virti ok (rest := []) (As := [.int v1, .int v2]) 25 _ k_X4_findShares_85 rfl rfl rfl rfl (Nat.le_of_ble_eq_true rfl) dX4_findShares_85 (MWi.mono h (fun r7 S7 h => ?_))
        refine r_iload_n ok 4 dX4_findShares_88 rfl ?_
        refine r_icmp_ne ok 96 dX4_findShares_89 (by decide) ⟨fun c => ?_, fun c => ?_⟩
        · have h := h.1 c
          refine r_iconst ok (nI 0) dX4_findShares_96 (by decide) ?_
          refine r_istore ok [(5, .int (nI 0)), (4, .int (S 6 (cl v2))), (3, .int (S 6 (cl v2))), (0, .ref (g.ad 39)), (1, .int v1), (2, .int v2)] dX4_findShares_97 (by decide) rfl ?_
          refine r_aload_n ok 3 dX4_findShares_99 rfl ?_
          refine r_getR ok 39 3 rfl rfl fo_X4_23 dX4_findShares_100 ?_
          refine r_iconst ok (nI 1) dX4_findShares_103 (by decide) ?_
          refine r_aload_n ok 3 dX4_findShares_104 rfl ?_
          refine r_getR ok 39 0 rfl rfl fo_X4_9 dX4_findShares_105 ?_
          refine r_iload_n ok 5 dX4_findShares_108 rfl ?_
          refine r_virti ok (rest := [.int (nI 1), .ref (g.ad 40)]) (As := [.int v2]) 4 _ k_X4_findShares_88 rfl rfl rfl rfl (Nat.le_of_ble_eq_true rfl) dX4_findShares_109 (MWi.mono h (fun r8 S8 h => ?_))
          refine r_ishl ok dX4_findShares_112 ?_
          refine r_dup2 ok dX4_findShares_113 rfl rfl ?_
          refine r_iaload ok 40 rfl dX4_findShares_114 h.1 ?_
          have h := h.2
          refine r_iload ok 1 dX4_findShares_115 rfl ?_
          refine r_iadd ok dX4_findShares_117 ?_
          refine r_iastore ok 40 rfl dX4_findShares_118 h.1 ?_
          have h := h.2
          refine r_aload_n ok 3 dX4_findShares_119 rfl ?_
          refine r_getR ok 39 3 rfl rfl fo_X4_23 dX4_findShares_120 ?_
          refine r_aload_n ok 3 dX4_findShares_123 rfl ?_
          refine r_getR ok 39 0 rfl rfl fo_X4_9 dX4_findShares_124 ?_
          refine r_getR ok 4 2 rfl rfl fo_X4_91 dX4_findShares_127 ?_
          refine r_iload_n ok 5 dX4_findShares_130 rfl ?_
          refine r_iaload ok 7 rfl dX4_findShares_131 h.1 ?_
          have h := h.2
          refine r_dup2 ok dX4_findShares_132 rfl rfl ?_
          refine r_iaload ok 40 rfl dX4_findShares_133 h.1 ?_
          have h := h.2
          refine r_iload ok 0 dX4_findShares_134 rfl ?_
          refine r_iload ok 1 dX4_findShares_136 rfl ?_
          refine r_isub ok dX4_findShares_138 ?_
          refine r_iadd ok dX4_findShares_139 ?_
          refine r_iastore ok 40 rfl dX4_findShares_140 h.1 ?_
          have h := h.2
          refine r_iinc ok 5 (v2 + (nI 1)) [(2, .int (v2 + (nI 1))), (5, .int (nI 0)), (4, .int (S 6 (cl v2))), (3, .int (S 6 (cl v2))), (0, .ref (g.ad 39)), (1, .int v1)] dX4_findShares_141 rfl rfl (by decide) rfl ?_
          refine r_goto ok 10 dX4_findShares_144 (by decide) ?_
          exact r_sub [4, 5, 0] _ rfl h
        · have h := h.2 c
          refine r_iload_n ok 1 dX4_findShares_92 rfl ?_
          refine r_goto ok 97 dX4_findShares_93 (by decide) ?_
          refine r_istore ok [(5, .int (S 6 (cl v2))), (4, .int (S 6 (cl v2))), (3, .int (S 6 (cl v2))), (0, .ref (g.ad 39)), (1, .int v1), (2, .int v2)] dX4_findShares_97 (by decide) rfl ?_
          refine r_aload_n ok 3 dX4_findShares_99 rfl ?_
          refine r_getR ok 39 3 rfl rfl fo_X4_23 dX4_findShares_100 ?_
          refine r_iconst ok (nI 1) dX4_findShares_103 (by decide) ?_
          refine r_aload_n ok 3 dX4_findShares_104 rfl ?_
          refine r_getR ok 39 0 rfl rfl fo_X4_9 dX4_findShares_105 ?_
          refine r_iload_n ok 5 dX4_findShares_108 rfl ?_
          refine r_virti ok (rest := [.int (nI 1), .ref (g.ad 40)]) (As := [.int v2]) 4 _ k_X4_findShares_88 rfl rfl rfl rfl (Nat.le_of_ble_eq_true rfl) dX4_findShares_109 (MWi.mono h (fun r9 S9 h => ?_))
          refine r_ishl ok dX4_findShares_112 ?_
          refine r_dup2 ok dX4_findShares_113 rfl rfl ?_
          refine r_iaload ok 40 rfl dX4_findShares_114 h.1 ?_
          have h := h.2
          refine r_iload ok 1 dX4_findShares_115 rfl ?_
          refine r_iadd ok dX4_findShares_117 ?_
          refine r_iastore ok 40 rfl dX4_findShares_118 h.1 ?_
          have h := h.2
          refine r_aload_n ok 3 dX4_findShares_119 rfl ?_
          refine r_getR ok 39 3 rfl rfl fo_X4_23 dX4_findShares_120 ?_
          refine r_aload_n ok 3 dX4_findShares_123 rfl ?_
          refine r_getR ok 39 0 rfl rfl fo_X4_9 dX4_findShares_124 ?_
          refine r_getR ok 4 2 rfl rfl fo_X4_91 dX4_findShares_127 ?_
          refine r_iload_n ok 5 dX4_findShares_130 rfl ?_
          refine r_iaload ok 7 rfl dX4_findShares_131 h.1 ?_
          have h := h.2
          refine r_dup2 ok dX4_findShares_132 rfl rfl ?_
          refine r_iaload ok 40 rfl dX4_findShares_133 h.1 ?_
          have h := h.2
          refine r_iload ok 0 dX4_findShares_134 rfl ?_
          refine r_iload ok 1 dX4_findShares_136 rfl ?_
          refine r_isub ok dX4_findShares_138 ?_
          refine r_iadd ok dX4_findShares_139 ?_
          refine r_iastore ok 40 rfl dX4_findShares_140 h.1 ?_
          have h := h.2
          refine r_iinc ok 5 (v2 + (nI 1)) [(2, .int (v2 + (nI 1))), (5, .int (S 6 (cl v2))), (4, .int (S 6 (cl v2))), (3, .int (S 6 (cl v2))), (0, .ref (g.ad 39)), (1, .int v1)] dX4_findShares_141 rfl rfl (by decide) rfl ?_
          refine r_goto ok 10 dX4_findShares_144 (by decide) ?_
          exact r_sub [4, 5, 0] _ rfl h
    · have h := h.2 c
      refine r_aload_n ok 1 dX4_findShares_47 rfl ?_
      refine r_getR ok 39 3 rfl rfl fo_X4_23 dX4_findShares_48 ?_
      refine r_iconst ok (nI 0) dX4_findShares_51 (by decide) ?_
      refine r_dup2 ok dX4_findShares_52 rfl rfl ?_
      refine r_iaload ok 40 rfl dX4_findShares_53 h.1 ?_
      have h := h.2
      refine r_iload_n ok 0 dX4_findShares_54 rfl ?_
      refine r_iadd ok dX4_findShares_55 ?_
      refine r_iastore ok 40 rfl dX4_findShares_56 h.1 ?_
      have h := h.2
      refine r_goto ok 141 dX4_findShares_57 (by decide) ?_
      refine r_iinc ok 3 (v2 + (nI 1)) [(2, .int (v2 + (nI 1))), (3, .int (S 6 (cl v2))), (0, .ref (g.ad 39)), (1, .int v1)] dX4_findShares_141 rfl rfl (by decide) rfl ?_
      refine r_goto ok 10 dX4_findShares_144 (by decide) ?_
      exact r_sub [2, 3, 0] _ rfl h
set_option maxRecDepth 10000 in
theorem s_X4_split_0 {l : Launch} {x : Cx} {g : Geo} {K : Mem → Prop} (ok : Ok x g shX m_X4_split) (v1 : Int32) (S : Mem) (h : PW l x g shX m_X4_split (Qv x g shX K) 2 [(0, .ref (g.ad 39)), (1, .int v1), (2, .int (nI 0))] [] S) : PW l x g shX m_X4_split (Qv x g shX K) 0 [(0, .ref (g.ad 39)), (1, .int v1)] [] S := by
  refine r_iconst ok (nI 0) dX4_split_0 (by decide) ?_
  refine r_istore_n ok [(2, .int (nI 0)), (0, .ref (g.ad 39)), (1, .int v1)] dX4_split_1 (by decide) rfl ?_
  exact r_sub [1, 2, 0] _ rfl h
set_option maxRecDepth 10000 in
theorem s_X4_split_2 {l : Launch} {x : Cx} {g : Geo} {K : Mem → Prop} (ok : Ok x g shX m_X4_split) (v1 : Int32) (v2 : Int32) (S : Mem) (h : (((nI 4) ≤ v2 → PW l x g shX m_X4_split (Qv x g shX K) 25 [(0, .ref (g.ad 39)), (1, .int v1), (2, .int (nI 0))] [] (st2 S 39 7 (-1))) ∧ (¬ (nI 4) ≤ v2 → MWv l g shX m_X4_findBest [.ref (g.ad 39), .int v2] S (fun S1 => PW l x g shX m_X4_split (Qv x g shX K) 2 [(0, .ref (g.ad 39)), (1, .int v1), (2, .int (v2 + (nI 1)))] [] S1)))) : PW l x g shX m_X4_split (Qv x g shX K) 2 [(0, .ref (g.ad 39)), (1, .int v1), (2, .int v2)] [] S := by
  refine r_iload_n ok 2 dX4_split_2 rfl ?_
  refine r_iconst ok (nI 4) dX4_split_3 (by decide) ?_
  refine r_icmp_ge ok 18 dX4_split_4 (by decide) ⟨fun c => ?_, fun c => ?_⟩
  · have h := h.1 c
    refine r_aload_n ok 0 dX4_split_18 rfl ?_
    refine r_iconst ok (-1) dX4_split_19 (by decide) ?_
    refine r_put ok 39 7 rfl rfl po_X4_101 rfl rfl dX4_split_20 ?_
    refine r_iconst ok (nI 0) dX4_split_23 (by decide) ?_
    refine r_istore_n ok [(2, .int (nI 0)), (0, .ref (g.ad 39)), (1, .int v1)] dX4_split_24 (by decide) rfl ?_
    exact r_sub [1, 2, 0] _ rfl h
  · have h := h.2 c
    refine r_aload_n ok 0 dX4_split_7 rfl ?_
    refine r_iload_n ok 2 dX4_split_8 rfl ?_
    refine r_virtv ok (rest := []) (As := [.int v2]) 39 _ k_X4_split_98 rfl rfl rfl rfl (Nat.le_of_ble_eq_true rfl) dX4_split_9 (MWv.mono h (fun S1 h => ?_))
    refine r_iinc ok 2 (v2 + (nI 1)) [(2, .int (v2 + (nI 1))), (0, .ref (g.ad 39)), (1, .int v1)] dX4_split_12 rfl rfl (by decide) rfl ?_
    refine r_goto ok 2 dX4_split_15 (by decide) ?_
    exact r_sub [1, 2, 0] _ rfl h
set_option maxRecDepth 10000 in
theorem s_X4_split_25 {l : Launch} {x : Cx} {g : Geo} {K : Mem → Prop} (ok : Ok x g shX m_X4_split) (v1 : Int32) (v2 : Int32) (S : Mem) (h : ((v1 < v2 → K S) ∧ (¬ v1 < v2 → PW l x g shX m_X4_split (Qv x g shX K) 32 [(0, .ref (g.ad 39)), (1, .int v1), (2, .int v2), (3, .int (nI 0))] [] S))) : PW l x g shX m_X4_split (Qv x g shX K) 25 [(0, .ref (g.ad 39)), (1, .int v1), (2, .int v2)] [] S := by
  refine r_iload_n ok 2 dX4_split_25 rfl ?_
  refine r_iload_n ok 1 dX4_split_26 rfl ?_
  refine r_icmp_gt ok 86 dX4_split_27 (by decide) ⟨fun c => ?_, fun c => ?_⟩
  · have h := h.1 c
    exact r_ret ok rfl dX4_split_86 h
  · have h := h.2 c
    refine r_iconst ok (nI 0) dX4_split_30 (by decide) ?_
    refine r_istore_n ok [(3, .int (nI 0)), (0, .ref (g.ad 39)), (1, .int v1), (2, .int v2)] dX4_split_31 (by decide) rfl ?_
    exact r_sub [1, 2, 3, 0] _ rfl h
set_option maxRecDepth 10000 in
theorem s_X4_split_32 {l : Launch} {x : Cx} {g : Geo} {K : Mem → Prop} (ok : Ok x g shX m_X4_split) (v1 : Int32) (v2 : Int32) (v3 : Int32) (S : Mem) (h : ((v1 < (v2 + v3) → PW l x g shX m_X4_split (Qv x g shX K) 25 [(0, .ref (g.ad 39)), (1, .int v1), (2, .int (v2 + (nI 1)))] [] S) ∧ (¬ v1 < (v2 + v3) → PW l x g shX m_X4_split (Qv x g shX K) 42 [(0, .ref (g.ad 39)), (1, .int v1), (2, .int v2), (3, .int v3), (4, .int (nI 0))] [] S))) : PW l x g shX m_X4_split (Qv x g shX K) 32 [(0, .ref (g.ad 39)), (1, .int v1), (2, .int v2), (3, .int v3)] [] S := by
  refine r_iload_n ok 2 dX4_split_32 rfl ?_
  refine r_iload_n ok 3 dX4_split_33 rfl ?_
  refine r_iadd ok dX4_split_34 ?_
  refine r_iload_n ok 1 dX4_split_35 rfl ?_
  refine r_icmp_gt ok 80 dX4_split_36 (by decide) ⟨fun c => ?_, fun c => ?_⟩
  · have h := h.1 c
    refine r_iinc ok 2 (v2 + (nI 1)) [(2, .int (v2 + (nI 1))), (0, .ref (g.ad 39)), (1, .int v1), (3, .int v3)] dX4_split_80 rfl rfl (by decide) rfl ?_
    refine r_goto ok 25 dX4_split_83 (by decide) ?_
    exact r_sub [1, 2, 0] _ rfl h
  · have h := h.2 c
    refine r_iconst ok (nI 0) dX4_split_39 (by decide) ?_
    refine r_istore ok [(4, .int (nI 0)), (0, .ref (g.ad 39)), (1, .int v1), (2, .int v2), (3, .int v3)] dX4_split_40 (by decide) rfl ?_
    exact r_sub [1, 2, 3, 4, 0] _ rfl h
set_option maxRecDepth 10000 in
theorem s_X4_split_42 {l : Launch} {x : Cx} {g : Geo} {K : Mem → Prop} (ok : Ok x g shX m_X4_split) (v1 : Int32) (v2 : Int32) (v3 : Int32) (v4 : Int32) (S : Mem) (h : ((v1 < ((v2 + v3) + v4) → PW l x g shX m_X4_split (Qv x g shX K) 32 [(0, .ref (g.ad 39)), (1, .int v1), (2, .int v2), (3, .int (v3 + (nI 1)))] [] S) ∧ (¬ v1 < ((v2 + v3) + v4) → MWv l g shX m_X4_trySplit [.ref (g.ad 39), .int v2, .int v3, .int v4, .int (((v1 - v2) - v3) - v4)] S (fun S1 => PW l x g shX m_X4_split (Qv x g shX K) 42 [(0, .ref (g.ad 39)), (1, .int v1), (2, .int v2), (3, .int v3), (4, .int (v4 + (nI 1)))] [] S1)))) : PW l x g shX m_X4_split (Qv x g shX K) 42 [(0, .ref (g.ad 39)), (1, .int v1), (2, .int v2), (3, .int v3), (4, .int v4)] [] S := by
  refine r_iload_n ok 2 dX4_split_42 rfl ?_
  refine r_iload_n ok 3 dX4_split_43 rfl ?_
  refine r_iadd ok dX4_split_44 ?_
  refine r_iload ok 4 dX4_split_45 rfl ?_
  refine r_iadd ok dX4_split_47 ?_
  refine r_iload_n ok 1 dX4_split_48 rfl ?_
  refine r_icmp_gt ok 74 dX4_split_49 (by decide) ⟨fun c => ?_, fun c => ?_⟩
  · have h := h.1 c
    refine r_iinc ok 3 (v3 + (nI 1)) [(3, .int (v3 + (nI 1))), (0, .ref (g.ad 39)), (1, .int v1), (2, .int v2), (4, .int v4)] dX4_split_74 rfl rfl (by decide) rfl ?_
    refine r_goto ok 32 dX4_split_77 (by decide) ?_
    exact r_sub [1, 2, 3, 0] _ rfl h
  · have h := h.2 c
    refine r_aload_n ok 0 dX4_split_52 rfl ?_
    refine r_iload_n ok 2 dX4_split_53 rfl ?_
    refine r_iload_n ok 3 dX4_split_54 rfl ?_
    refine r_iload ok 4 dX4_split_55 rfl ?_
    refine r_iload_n ok 1 dX4_split_57 rfl ?_
    refine r_iload_n ok 2 dX4_split_58 rfl ?_
    refine r_isub ok dX4_split_59 ?_
    refine r_iload_n ok 3 dX4_split_60 rfl ?_
    refine r_isub ok dX4_split_61 ?_
    refine r_iload ok 4 dX4_split_62 rfl ?_
    refine r_isub ok dX4_split_64 ?_
    refine r_virtv ok (rest := []) (As := [.int v2, .int v3, .int v4, .int (((v1 - v2) - v3) - v4)]) 39 _ k_X4_split_104 rfl rfl rfl rfl (Nat.le_of_ble_eq_true rfl) dX4_split_65 (MWv.mono h (fun S1 h => ?_))
    refine r_iinc ok 4 (v4 + (nI 1)) [(4, .int (v4 + (nI 1))), (0, .ref (g.ad 39)), (1, .int v1), (2, .int v2), (3, .int v3)] dX4_split_68 rfl rfl (by decide) rfl ?_
    refine r_goto ok 42 dX4_split_71 (by decide) ?_
    exact r_sub [1, 2, 3, 4, 0] _ rfl h
set_option maxRecDepth 10000 in
theorem s_X4_trySplit_0 {l : Launch} {x : Cx} {g : Geo} {K : Mem → Prop} (ok : Ok x g shX m_X4_trySplit) (v1 : Int32) (v2 : Int32) (v3 : Int32) (v4 : Int32) (S : Mem) (h : MWi l g shX m_X4_bestShare [.ref (g.ad 39), .int (nI 0), .int v1] S (fun r1 S1 => MWi l g shX m_X4_bestShare [.ref (g.ad 39), .int (nI 1), .int v2] S1 (fun r2 S2 => MWi l g shX m_X4_bestShare [.ref (g.ad 39), .int (nI 2), .int v3] S2 (fun r3 S3 => MWi l g shX m_X4_bestShare [.ref (g.ad 39), .int (nI 3), .int v4] S3 (fun r4 S4 => (((((r1 + r2) + r3) + r4) ≤ (S4 39 7) → K S4) ∧ (¬ (((r1 + r2) + r3) + r4) ≤ (S4 39 7) → (vp_in (nI 0) 4 ∧ (vp_in (nI 1) 4 ∧ (vp_in (nI 2) 4 ∧ (vp_in (nI 3) 4 ∧ K (st2 (st2 (st2 (st2 (st2 S4 39 7 (((r1 + r2) + r3) + r4)) 43 (cl (nI 0)) v1) 43 (cl (nI 1)) v2) 43 (cl (nI 2)) v3) 43 (cl (nI 3)) v4)))))))))))) : PW l x g shX m_X4_trySplit (Qv x g shX K) 0 [(0, .ref (g.ad 39)), (1, .int v1), (2, .int v2), (3, .int v3), (4, .int v4)] [] S := by
  refine r_aload_n ok 0 dX4_trySplit_0 rfl ?_
  refine r_iconst ok (nI 0) dX4_trySplit_1 (by decide) ?_
  refine r_iload_n ok 1 dX4_trySplit_2 rfl ?_
  refine r_virti ok (rest := []) (As := [.int (nI 0), .int v1]) 39 _ k_X4_trySplit_108 rfl rfl rfl rfl (Nat.le_of_ble_eq_true rfl) dX4_trySplit_3 (MWi.mono h (fun r1 S1 h => ?_))
  refine r_aload_n ok 0 dX4_trySplit_6 rfl ?_
  refine r_iconst ok (nI 1) dX4_trySplit_7 (by decide) ?_
  refine r_iload_n ok 2 dX4_trySplit_8 rfl ?_
  refine r_virti ok (rest := [.int r1]) (As := [.int (nI 1), .int v2]) 39 _ k_X4_trySplit_108 rfl rfl rfl rfl (Nat.le_of_ble_eq_true rfl) dX4_trySplit_9 (MWi.mono h (fun r2 S2 h => ?_))
  refine r_iadd ok dX4_trySplit_12 ?_
  refine r_aload_n ok 0 dX4_trySplit_13 rfl ?_
  refine r_iconst ok (nI 2) dX4_trySplit_14 (by decide) ?_
  refine r_iload_n ok 3 dX4_trySplit_15 rfl ?_
  refine r_virti ok (rest := [.int (r1 + r2)]) (As := [.int (nI 2), .int v3]) 39 _ k_X4_trySplit_108 rfl rfl rfl rfl (Nat.le_of_ble_eq_true rfl) dX4_trySplit_16 (MWi.mono h (fun r3 S3 h => ?_))
  refine r_iadd ok dX4_trySplit_19 ?_
  refine r_aload_n ok 0 dX4_trySplit_20 rfl ?_
  refine r_iconst ok (nI 3) dX4_trySplit_21 (by decide) ?_
  refine r_iload ok 4 dX4_trySplit_22 rfl ?_
  refine r_virti ok (rest := [.int ((r1 + r2) + r3)]) (As := [.int (nI 3), .int v4]) 39 _ k_X4_trySplit_108 rfl rfl rfl rfl (Nat.le_of_ble_eq_true rfl) dX4_trySplit_24 (MWi.mono h (fun r4 S4 h => ?_))
  refine r_iadd ok dX4_trySplit_27 ?_
  refine r_istore ok [(5, .int (((r1 + r2) + r3) + r4)), (0, .ref (g.ad 39)), (1, .int v1), (2, .int v2), (3, .int v3), (4, .int v4)] dX4_trySplit_28 (by decide) rfl ?_
  refine r_iload ok 0 dX4_trySplit_30 rfl ?_
  refine r_aload_n ok 1 dX4_trySplit_32 rfl ?_
  refine r_getI ok 39 7 rfl rfl fo_X4_101 dX4_trySplit_33 ?_
  refine r_icmp_le ok 74 dX4_trySplit_36 (by decide) ⟨fun c => ?_, fun c => ?_⟩
  · have h := h.1 c
    exact r_ret ok rfl dX4_trySplit_74 h
  · have h := h.2 c
    refine r_aload_n ok 1 dX4_trySplit_39 rfl ?_
    refine r_iload ok 0 dX4_trySplit_40 rfl ?_
    refine r_put ok 39 7 rfl rfl po_X4_101 rfl rfl dX4_trySplit_42 ?_
    refine r_aload_n ok 1 dX4_trySplit_45 rfl ?_
    refine r_getR ok 39 6 rfl rfl fo_X4_34 dX4_trySplit_46 ?_
    refine r_iconst ok (nI 0) dX4_trySplit_49 (by decide) ?_
    refine r_iload_n ok 2 dX4_trySplit_50 rfl ?_
    refine r_iastore ok 43 rfl dX4_trySplit_51 h.1 ?_
    have h := h.2
    refine r_aload_n ok 1 dX4_trySplit_52 rfl ?_
    refine r_getR ok 39 6 rfl rfl fo_X4_34 dX4_trySplit_53 ?_
    refine r_iconst ok (nI 1) dX4_trySplit_56 (by decide) ?_
    refine r_iload_n ok 3 dX4_trySplit_57 rfl ?_
    refine r_iastore ok 43 rfl dX4_trySplit_58 h.1 ?_
    have h := h.2
    refine r_aload_n ok 1 dX4_trySplit_59 rfl ?_
    refine r_getR ok 39 6 rfl rfl fo_X4_34 dX4_trySplit_60 ?_
    refine r_iconst ok (nI 2) dX4_trySplit_63 (by decide) ?_
    refine r_iload_n ok 4 dX4_trySplit_64 rfl ?_
    refine r_iastore ok 43 rfl dX4_trySplit_65 h.1 ?_
    have h := h.2
    refine r_aload_n ok 1 dX4_trySplit_66 rfl ?_
    refine r_getR ok 39 6 rfl rfl fo_X4_34 dX4_trySplit_67 ?_
    refine r_iconst ok (nI 3) dX4_trySplit_70 (by decide) ?_
    refine r_iload ok 5 dX4_trySplit_71 rfl ?_
    refine r_iastore ok 43 rfl dX4_trySplit_73 h.1 ?_
    have h := h.2
    exact r_ret ok rfl dX4_trySplit_74 h
set_option maxRecDepth 10000 in
theorem s_X9_findOrder_0 {l : Launch} {x : Cx} {g : Geo} {K : Mem → Prop} (ok : Ok x g shX m_X9_findOrder) (S : Mem) (h : (((S 27 6) = 0 → MWv l g shX m_X9_weighSets [.ref (g.ad 27)] S (fun S1 => (vp_in (nI 1023) 1024 ∧ PW l x g shX m_X9_findOrder (Qv x g shX K) 25 [(0, .ref (g.ad 27)), (1, .int (nI 1022))] [] (st2 S1 29 (cl (nI 1023)) (nI 0))))) ∧ (¬ (S 27 6) = 0 → K S))) : PW l x g shX m_X9_findOrder (Qv x g shX K) 0 [(0, .ref (g.ad 27))] [] S := by
  refine r_aload_n ok 0 dX9_findOrder_0 rfl ?_
  refine r_getI ok 27 6 rfl rfl fo_X9_29 dX9_findOrder_1 ?_
  refine r_if_eq ok 8 dX9_findOrder_4 (by decide) ⟨fun c => ?_, fun c => ?_⟩
  · have h := h.1 c
    refine r_aload_n ok 0 dX9_findOrder_8 rfl ?_
    refine r_virtv ok (rest := []) (As := []) 27 _ k_X9_findOrder_33 rfl rfl rfl rfl (Nat.le_of_ble_eq_true rfl) dX9_findOrder_9 (MWv.mono h (fun S1 h => ?_))
    refine r_aload_n ok 0 dX9_findOrder_12 rfl ?_
    refine r_getR ok 27 3 rfl rfl fo_X9_23 dX9_findOrder_13 ?_
    refine r_sipush ok (nI 1023) dX9_findOrder_16 (by decide) ?_
    refine r_iconst ok (nI 0) dX9_findOrder_19 (by decide) ?_
    refine r_iastore ok 29 rfl dX9_findOrder_20 h.1 ?_
    have h := h.2
    refine r_sipush ok (nI 1022) dX9_findOrder_21 (by decide) ?_
    refine r_istore_n ok [(1, .int (nI 1022)), (0, .ref (g.ad 27))] dX9_findOrder_24 (by decide) rfl ?_
    exact r_sub [1, 0] _ rfl h
  · have h := h.2 c
    exact r_ret ok rfl dX9_findOrder_7 h
set_option maxRecDepth 10000 in
theorem s_X9_findOrder_25 {l : Launch} {x : Cx} {g : Geo} {K : Mem → Prop} (ok : Ok x g shX m_X9_findOrder) (v1 : Int32) (S : Mem) (h : ((v1 < 0 → (vp_in (nI 0) 1024 ∧ MWv l g shX m_X9_pickOrder [.ref (g.ad 27)] (st2 S 27 5 (S 29 (cl (nI 0)))) (fun S1 => K (st2 S1 27 6 (nI 1))))) ∧ (¬ v1 < 0 → MWi l g shX m_X9_bestAhead [.ref (g.ad 27), .int v1] S (fun r2 S2 => (vp_in v1 1024 ∧ PW l x g shX m_X9_findOrder (Qv x g shX K) 25 [(0, .ref (g.ad 27)), (1, .int (v1 + (-1)))] [] (st2 S2 29 (cl v1) r2)))))) : PW l x g shX m_X9_findOrder (Qv x g shX K) 25 [(0, .ref (g.ad 27)), (1, .int v1)] [] S := by
  refine r_iload_n ok 1 dX9_findOrder_25 rfl ?_
  refine r_if_lt ok 46 dX9_findOrder_26 (by decide) ⟨fun c => ?_, fun c => ?_⟩
  · have h := h.1 c
    refine r_aload_n ok 0 dX9_findOrder_46 rfl ?_
    refine r_aload_n ok 0 dX9_findOrder_47 rfl ?_
    refine r_getR ok 27 3 rfl rfl fo_X9_23 dX9_findOrder_48 ?_
    refine r_iconst ok (nI 0) dX9_findOrder_51 (by decide) ?_
    refine r_iaload ok 29 rfl dX9_findOrder_52 h.1 ?_
    have h := h.2
    refine r_put ok 27 5 rfl rfl po_X9_40 rfl rfl dX9_findOrder_53 ?_
    refine r_aload_n ok 0 dX9_findOrder_56 rfl ?_
    refine r_virtv ok (rest := []) (As := []) 27 _ k_X9_findOrder_44 rfl rfl rfl rfl (Nat.le_of_ble_eq_true rfl) dX9_findOrder_57 (MWv.mono h (fun S1 h => ?_))
    refine r_aload_n ok 0 dX9_findOrder_60 rfl ?_
    refine r_iconst ok (nI 1) dX9_findOrder_61 (by decide) ?_
    refine r_put ok 27 6 rfl rfl po_X9_29 rfl rfl dX9_findOrder_62 ?_
    exact r_ret ok rfl dX9_findOrder_65 h
  · have h := h.2 c
    refine r_aload_n ok 0 dX9_findOrder_29 rfl ?_
    refine r_getR ok 27 3 rfl rfl fo_X9_23 dX9_findOrder_30 ?_
    refine r_iload_n ok 1 dX9_findOrder_33 rfl ?_
    refine r_aload_n ok 0 dX9_findOrder_34 rfl ?_
    refine r_iload_n ok 1 dX9_findOrder_35 rfl ?_
    refine r_virti ok (rest := [.int v1, .ref (g.ad 29)]) (As := [.int v1]) 27 _ k_X9_findOrder_36 rfl rfl rfl rfl (Nat.le_of_ble_eq_true rfl) dX9_findOrder_36 (MWi.mono h (fun r2 S2 h => ?_))
    refine r_iastore ok 29 rfl dX9_findOrder_39 h.1 ?_
    have h := h.2
    refine r_iinc ok 1 (v1 + (-1)) [(1, .int (v1 + (-1))), (0, .ref (g.ad 27))] dX9_findOrder_40 rfl rfl (by decide) rfl ?_
    refine r_goto ok 25 dX9_findOrder_43 (by decide) ?_
    exact r_sub [1, 0] _ rfl h
set_option maxRecDepth 10000 in
theorem s_X9_bestAhead_0 {l : Launch} {x : Cx} {g : Geo} {K : Int32 → Mem → Prop} (ok : Ok x g shX m_X9_bestAhead) (v1 : Int32) (S : Mem) (h : PW l x g shX m_X9_bestAhead (Qi x g shX K) 4 [(0, .ref (g.ad 27)), (1, .int v1), (2, .int (nI 0)), (3, .int (nI 0))] [] S) : PW l x g shX m_X9_bestAhead (Qi x g shX K) 0 [(0, .ref (g.ad 27)), (1, .int v1)] [] S := by
  refine r_iconst ok (nI 0) dX9_bestAhead_0 (by decide) ?_
  refine r_istore_n ok [(2, .int (nI 0)), (0, .ref (g.ad 27)), (1, .int v1)] dX9_bestAhead_1 (by decide) rfl ?_
  refine r_iconst ok (nI 0) dX9_bestAhead_2 (by decide) ?_
  refine r_istore_n ok [(3, .int (nI 0)), (2, .int (nI 0)), (0, .ref (g.ad 27)), (1, .int v1)] dX9_bestAhead_3 (by decide) rfl ?_
  exact r_sub [2, 3, 1, 0] _ rfl h
set_option maxRecDepth 10000 in
theorem s_X9_bestAhead_4 {l : Launch} {x : Cx} {g : Geo} {K : Int32 → Mem → Prop} (ok : Ok x g shX m_X9_bestAhead) (v1 : Int32) (v2 : Int32) (v3 : Int32) (S : Mem) (h : (((nI 10) ≤ v3 → K v2 S) ∧ (¬ (nI 10) ≤ v3 → (((v1 ||| (jshl (nI 1) v3)) = v1 → PW l x g shX m_X9_bestAhead (Qi x g shX K) 4 [(0, .ref (g.ad 27)), (1, .int v1), (2, .int v2), (3, .int (v3 + (nI 1)))] [] S) ∧ (¬ (v1 ||| (jshl (nI 1) v3)) = v1 → (vp_in (v1 ||| (jshl (nI 1) v3)) 1024 ∧ (vp_in (v1 ||| (jshl (nI 1) v3)) 1024 ∧ PW l x g shX m_X9_bestAhead (Qi x g shX K) 4 [(0, .ref (g.ad 27)), (1, .int v1), (2, .int (jmax v2 ((S 28 (cl (v1 ||| (jshl (nI 1) v3)))) + (S 29 (cl (v1 ||| (jshl (nI 1) v3))))))), (3, .int (v3 + (nI 1)))] [] S))))))) : PW l x g shX m_X9_bestAhead (Qi x g shX K) 4 [(0, .ref (g.ad 27)), (1, .int v1), (2, .int v2), (3, .int v3)] [] S := by
  refine r_iload_n ok 3 dX9_bestAhead_4 rfl ?_
  refine r_bipush ok (nI 10) dX9_bestAhead_5 (by decide) ?_
  refine r_icmp_ge ok 49 dX9_bestAhead_7 (by decide) ⟨fun c => ?_, fun c => ?_⟩
  · have h := h.1 c
    refine r_iload_n ok 2 dX9_bestAhead_49 rfl ?_
    exact r_iret ok rfl dX9_bestAhead_50 h
  · have h := h.2 c
    refine r_iload_n ok 1 dX9_bestAhead_10 rfl ?_
    refine r_iconst ok (nI 1) dX9_bestAhead_11 (by decide) ?_
    refine r_iload_n ok 3 dX9_bestAhead_12 rfl ?_
    refine r_ishl ok dX9_bestAhead_13 ?_
    refine r_ior ok dX9_bestAhead_14 ?_
    refine r_istore ok [(4, .int (v1 ||| (jshl (nI 1) v3))), (0, .ref (g.ad 27)), (1, .int v1), (2, .int v2), (3, .int v3)] dX9_bestAhead_15 (by decide) rfl ?_
    refine r_iload ok 0 dX9_bestAhead_17 rfl ?_
    refine r_iload_n ok 2 dX9_bestAhead_19 rfl ?_
    refine r_icmp_eq ok 43 dX9_bestAhead_20 (by decide) ⟨fun c => ?_, fun c => ?_⟩
    · have h := h.1 c
      refine r_iinc ok 4 (v3 + (nI 1)) [(3, .int (v3 + (nI 1))), (4, .int (v1 ||| (jshl (nI 1) v3))), (0, .ref (g.ad 27)), (1, .int v1), (2, .int v2)] dX9_bestAhead_43 rfl rfl (by decide) rfl ?_
      refine r_goto ok 4 dX9_bestAhead_46 (by decide) ?_
      exact r_sub [2, 3, 4, 0] _ rfl h
    · have h := h.2 c
      refine r_iload_n ok 3 dX9_bestAhead_23 rfl ?_
      refine r_aload_n ok 1 dX9_bestAhead_24 rfl ?_
      refine r_getR ok 27 2 rfl rfl fo_X9_19 dX9_bestAhead_25 ?_
      refine r_iload ok 0 dX9_bestAhead_28 rfl ?_
      refine r_iaload ok 28 rfl dX9_bestAhead_30 h.1 ?_
      have h := h.2
      refine r_aload_n ok 1 dX9_bestAhead_31 rfl ?_
      refine r_getR ok 27 3 rfl rfl fo_X9_23 dX9_bestAhead_32 ?_
      refine r_iload ok 0 dX9_bestAhead_35 rfl ?_
      refine r_iaload ok 29 rfl dX9_bestAhead_37 h.1 ?_
      have h := h.2
      refine r_iadd ok dX9_bestAhead_38 ?_
      refine r_max ok (rest := []) k_X9_bestAhead_47 (Nat.le_of_ble_eq_true rfl) dX9_bestAhead_39 ?_
      refine r_istore_n ok [(2, .int (jmax v2 ((S 28 (cl (v1 ||| (jshl (nI 1) v3)))) + (S 29 (cl (v1 ||| (jshl (nI 1) v3))))))), (4, .int (v1 ||| (jshl (nI 1) v3))), (0, .ref (g.ad 27)), (1, .int v1), (3, .int v3)] dX9_bestAhead_42 (by decide) rfl ?_
      refine r_iinc ok 4 (v3 + (nI 1)) [(3, .int (v3 + (nI 1))), (2, .int (jmax v2 ((S 28 (cl (v1 ||| (jshl (nI 1) v3)))) + (S 29 (cl (v1 ||| (jshl (nI 1) v3))))))), (4, .int (v1 ||| (jshl (nI 1) v3))), (0, .ref (g.ad 27)), (1, .int v1)] dX9_bestAhead_43 rfl rfl (by decide) rfl ?_
      refine r_goto ok 4 dX9_bestAhead_46 (by decide) ?_
      exact r_sub [3, 4, 1, 0] _ rfl h
set_option maxRecDepth 10000 in
theorem s_X9_weighSets_0 {l : Launch} {x : Cx} {g : Geo} {K : Mem → Prop} (ok : Ok x g shX m_X9_weighSets) (S : Mem) (h : MWv l g shX m_J7_fill_53178 [.ref (g.ad 28), .int (nI 0)] S (fun S1 => PW l x g shX m_X9_weighSets (Qv x g shX K) 10 [(0, .ref (g.ad 27)), (1, .int (nI 0))] [] S1)) : PW l x g shX m_X9_weighSets (Qv x g shX K) 0 [(0, .ref (g.ad 27))] [] S := by
  refine r_aload_n ok 0 dX9_weighSets_0 rfl ?_
  refine r_getR ok 27 2 rfl rfl fo_X9_19 dX9_weighSets_1 ?_
  refine r_iconst ok (nI 0) dX9_weighSets_4 (by decide) ?_
  refine r_statv ok (rest := []) (As := [.ref (g.ad 28), .int (nI 0)]) _ k_X9_weighSets_53 rfl rfl (Nat.le_of_ble_eq_true rfl) dX9_weighSets_5 (MWv.mono h (fun S1 h => ?_))
  refine r_iconst ok (nI 0) dX9_weighSets_8 (by decide) ?_
  refine r_istore_n ok [(1, .int (nI 0)), (0, .ref (g.ad 27))] dX9_weighSets_9 (by decide) rfl ?_
  exact r_sub [1, 0] _ rfl h
set_option maxRecDepth 10000 in
theorem s_X9_weighSets_10 {l : Launch} {x : Cx} {g : Geo} {K : Mem → Prop} (ok : Ok x g shX m_X9_weighSets) (v1 : Int32) (S : Mem) (h : (((S 4 5) ≤ v1 → MWv l g shX m_X11_addUpSubsets [.ref (g.ad 28)] S (fun S1 => K S1)) ∧ (¬ (S 4 5) ≤ v1 → MWi l g shX m_X8_isRegular [.ref (g.ad 18), .int v1] S (fun r2 S2 => ((r2 = 0 → PW l x g shX m_X9_weighSets (Qv x g shX K) 10 [(0, .ref (g.ad 27)), (1, .int (v1 + (nI 1)))] [] S2) ∧ (¬ r2 = 0 → (vp_in v1 12 ∧ (vp_in (S2 7 (cl v1)) 1024 ∧ (vp_in v1 12 ∧ (vp_in (S2 7 (cl v1)) 1024 ∧ PW l x g shX m_X9_weighSets (Qv x g shX K) 10 [(0, .ref (g.ad 27)), (1, .int (v1 + (nI 1)))] [] (st2 S2 28 (cl (S2 7 (cl v1))) ((S2 28 (cl (S2 7 (cl v1)))) + (S2 6 (cl v1)))))))))))))) : PW l x g shX m_X9_weighSets (Qv x g shX K) 10 [(0, .ref (g.ad 27)), (1, .int v1)] [] S := by
  refine r_iload_n ok 1 dX9_weighSets_10 rfl ?_
  refine r_aload_n ok 0 dX9_weighSets_11 rfl ?_
  refine r_getR ok 27 0 rfl rfl fo_X9_9 dX9_weighSets_12 ?_
  refine r_getI ok 4 5 rfl rfl fo_X9_59 dX9_weighSets_15 ?_
  refine r_icmp_ge ok 64 dX9_weighSets_18 (by decide) ⟨fun c => ?_, fun c => ?_⟩
  · have h := h.1 c
    refine r_aload_n ok 0 dX9_weighSets_64 rfl ?_
    refine r_getR ok 27 2 rfl rfl fo_X9_19 dX9_weighSets_65 ?_
    refine r_nestv ok (rest := []) (As := [.ref (g.ad 28)]) _ k_X9_weighSets_76 rfl rfl (Nat.le_of_ble_eq_true rfl) dX9_weighSets_68 (MWv.mono h (fun S1 h => ?_))
    exact r_ret ok rfl dX9_weighSets_71 h
  · have h := h.2 c
    refine r_aload_n ok 0 dX9_weighSets_21 rfl ?_
    refine r_getR ok 27 1 rfl rfl fo_X9_15 dX9_weighSets_22 ?_
    refine r_iload_n ok 1 dX9_weighSets_25 rfl ?_
    refine r_virti ok (rest := []) (As := [.int v1]) 18 _ k_X9_weighSets_64 rfl rfl rfl rfl (Nat.le_of_ble_eq_true rfl) dX9_weighSets_26 (MWi.mono h (fun r2 S2 h => ?_))
    refine r_if_eq ok 58 dX9_weighSets_29 (by decide) ⟨fun c => ?_, fun c => ?_⟩
    · have h := h.1 c
      refine r_iinc ok 1 (v1 + (nI 1)) [(1, .int (v1 + (nI 1))), (0, .ref (g.ad 27))] dX9_weighSets_58 rfl rfl (by decide) rfl ?_
      refine r_goto ok 10 dX9_weighSets_61 (by decide) ?_
      exact r_sub [1, 0] _ rfl h
    · have h := h.2 c
      refine r_aload_n ok 0 dX9_weighSets_32 rfl ?_
      refine r_getR ok 27 2 rfl rfl fo_X9_19 dX9_weighSets_33 ?_
      refine r_aload_n ok 0 dX9_weighSets_36 rfl ?_
      refine r_getR ok 27 0 rfl rfl fo_X9_9 dX9_weighSets_37 ?_
      refine r_getR ok 4 2 rfl rfl fo_X9_70 dX9_weighSets_40 ?_
      refine r_iload_n ok 1 dX9_weighSets_43 rfl ?_
      refine r_iaload ok 7 rfl dX9_weighSets_44 h.1 ?_
      have h := h.2
      refine r_dup2 ok dX9_weighSets_45 rfl rfl ?_
      refine r_iaload ok 28 rfl dX9_weighSets_46 h.1 ?_
      have h := h.2
      refine r_aload_n ok 0 dX9_weighSets_47 rfl ?_
      refine r_getR ok 27 0 rfl rfl fo_X9_9 dX9_weighSets_48 ?_
      refine r_getR ok 4 1 rfl rfl fo_X9_73 dX9_weighSets_51 ?_
      refine r_iload_n ok 1 dX9_weighSets_54 rfl ?_
      refine r_iaload ok 6 rfl dX9_weighSets_55 h.1 ?_
      have h := h.2
      refine r_iadd ok dX9_weighSets_56 ?_
      refine r_iastore ok 28 rfl dX9_weighSets_57 h.1 ?_
      have h := h.2
      refine r_iinc ok 1 (v1 + (nI 1)) [(1, .int (v1 + (nI 1))), (0, .ref (g.ad 27))] dX9_weighSets_58 rfl rfl (by decide) rfl ?_
      refine r_goto ok 10 dX9_weighSets_61 (by decide) ?_
      exact r_sub [1, 0] _ rfl h
set_option maxRecDepth 10000 in
theorem s_X9_pickOrder_0 {l : Launch} {x : Cx} {g : Geo} {K : Mem → Prop} (ok : Ok x g shX m_X9_pickOrder) (S : Mem) (h : PW l x g shX m_X9_pickOrder (Qv x g shX K) 4 [(0, .ref (g.ad 27)), (1, .int (nI 0)), (2, .int (nI 0))] [] S) : PW l x g shX m_X9_pickOrder (Qv x g shX K) 0 [(0, .ref (g.ad 27))] [] S := by
  refine r_iconst ok (nI 0) dX9_pickOrder_0 (by decide) ?_
  refine r_istore_n ok [(1, .int (nI 0)), (0, .ref (g.ad 27))] dX9_pickOrder_1 (by decide) rfl ?_
  refine r_iconst ok (nI 0) dX9_pickOrder_2 (by decide) ?_
  refine r_istore_n ok [(2, .int (nI 0)), (1, .int (nI 0)), (0, .ref (g.ad 27))] dX9_pickOrder_3 (by decide) rfl ?_
  exact r_sub [2, 1, 0] _ rfl h
set_option maxRecDepth 10000 in
theorem s_X9_pickOrder_4 {l : Launch} {x : Cx} {g : Geo} {K : Mem → Prop} (ok : Ok x g shX m_X9_pickOrder) (v1 : Int32) (v2 : Int32) (S : Mem) (h : (((nI 10) ≤ v2 → K S) ∧ (¬ (nI 10) ≤ v2 → MWi l g shX m_X9_nextSign [.ref (g.ad 27), .int v1] S (fun r1 S1 => (vp_in v2 10 ∧ PW l x g shX m_X9_pickOrder (Qv x g shX K) 4 [(0, .ref (g.ad 27)), (1, .int (v1 ||| (jshl (nI 1) r1))), (2, .int (v2 + (nI 1)))] [] (st2 S1 30 (cl v2) r1)))))) : PW l x g shX m_X9_pickOrder (Qv x g shX K) 4 [(0, .ref (g.ad 27)), (1, .int v1), (2, .int v2)] [] S := by
  refine r_iload_n ok 2 dX9_pickOrder_4 rfl ?_
  refine r_bipush ok (nI 10) dX9_pickOrder_5 (by decide) ?_
  refine r_icmp_ge ok 35 dX9_pickOrder_7 (by decide) ⟨fun c => ?_, fun c => ?_⟩
  · have h := h.1 c
    exact r_ret ok rfl dX9_pickOrder_35 h
  · have h := h.2 c
    refine r_aload_n ok 0 dX9_pickOrder_10 rfl ?_
    refine r_iload_n ok 1 dX9_pickOrder_11 rfl ?_
    refine r_virti ok (rest := []) (As := [.int v1]) 27 _ k_X9_pickOrder_80 rfl rfl rfl rfl (Nat.le_of_ble_eq_true rfl) dX9_pickOrder_12 (MWi.mono h (fun r1 S1 h => ?_))
    refine r_istore_n ok [(3, .int r1), (0, .ref (g.ad 27)), (1, .int v1), (2, .int v2)] dX9_pickOrder_15 (by decide) rfl ?_
    refine r_aload_n ok 1 dX9_pickOrder_16 rfl ?_
    refine r_getR ok 27 4 rfl rfl fo_X9_26 dX9_pickOrder_17 ?_
    refine r_iload_n ok 3 dX9_pickOrder_20 rfl ?_
    refine r_iload_n ok 0 dX9_pickOrder_21 rfl ?_
    refine r_iastore ok 30 rfl dX9_pickOrder_22 h.1 ?_
    have h := h.2
    refine r_iload_n ok 2 dX9_pickOrder_23 rfl ?_
    refine r_iconst ok (nI 1) dX9_pickOrder_24 (by decide) ?_
    refine r_iload_n ok 0 dX9_pickOrder_25 rfl ?_
    refine r_ishl ok dX9_pickOrder_26 ?_
    refine r_ior ok dX9_pickOrder_27 ?_
    refine r_istore_n ok [(1, .int (v1 ||| (jshl (nI 1) r1))), (3, .int r1), (0, .ref (g.ad 27)), (2, .int v2)] dX9_pickOrder_28 (by decide) rfl ?_
    refine r_iinc ok 3 (v2 + (nI 1)) [(2, .int (v2 + (nI 1))), (1, .int (v1 ||| (jshl (nI 1) r1))), (3, .int r1), (0, .ref (g.ad 27))] dX9_pickOrder_29 rfl rfl (by decide) rfl ?_
    refine r_goto ok 4 dX9_pickOrder_32 (by decide) ?_
    exact r_sub [3, 1, 0] _ rfl h
set_option maxRecDepth 10000 in
theorem s_X9_nextSign_0 {l : Launch} {x : Cx} {g : Geo} {K : Int32 → Mem → Prop} (ok : Ok x g shX m_X9_nextSign) (v1 : Int32) (S : Mem) (h : PW l x g shX m_X9_nextSign (Qi x g shX K) 2 [(0, .ref (g.ad 27)), (1, .int v1), (2, .int (nI 0))] [] S) : PW l x g shX m_X9_nextSign (Qi x g shX K) 0 [(0, .ref (g.ad 27)), (1, .int v1)] [] S := by
  refine r_iconst ok (nI 0) dX9_nextSign_0 (by decide) ?_
  refine r_istore_n ok [(2, .int (nI 0)), (0, .ref (g.ad 27)), (1, .int v1)] dX9_nextSign_1 (by decide) rfl ?_
  exact r_sub [1, 2, 0] _ rfl h
set_option maxRecDepth 10000 in
theorem s_X9_nextSign_2 {l : Launch} {x : Cx} {g : Geo} {K : Int32 → Mem → Prop} (ok : Ok x g shX m_X9_nextSign) (v1 : Int32) (v2 : Int32) (S : Mem) (h : (((nI 10) ≤ v2 → K (nI 0) S) ∧ (¬ (nI 10) ≤ v2 → (((v1 ||| (jshl (nI 1) v2)) = v1 → PW l x g shX m_X9_nextSign (Qi x g shX K) 2 [(0, .ref (g.ad 27)), (1, .int v1), (2, .int (v2 + (nI 1)))] [] S) ∧ (¬ (v1 ||| (jshl (nI 1) v2)) = v1 → (vp_in (v1 ||| (jshl (nI 1) v2)) 1024 ∧ (vp_in (v1 ||| (jshl (nI 1) v2)) 1024 ∧ (vp_in v1 1024 ∧ ((¬ ((S 28 (cl (v1 ||| (jshl (nI 1) v2)))) + (S 29 (cl (v1 ||| (jshl (nI 1) v2))))) = (S 29 (cl v1)) → PW l x g shX m_X9_nextSign (Qi x g shX K) 2 [(0, .ref (g.ad 27)), (1, .int v1), (2, .int (v2 + (nI 1)))] [] S) ∧ (((S 28 (cl (v1 ||| (jshl (nI 1) v2)))) + (S 29 (cl (v1 ||| (jshl (nI 1) v2))))) = (S 29 (cl v1)) → K v2 S)))))))))) : PW l x g shX m_X9_nextSign (Qi x g shX K) 2 [(0, .ref (g.ad 27)), (1, .int v1), (2, .int v2)] [] S := by
  refine r_iload_n ok 2 dX9_nextSign_2 rfl ?_
  refine r_bipush ok (nI 10) dX9_nextSign_3 (by decide) ?_
  refine r_icmp_ge ok 49 dX9_nextSign_5 (by decide) ⟨fun c => ?_, fun c => ?_⟩
  · have h := h.1 c
    refine r_iconst ok (nI 0) dX9_nextSign_49 (by decide) ?_
    exact r_iret ok rfl dX9_nextSign_50 h
  · have h := h.2 c
    refine r_iload_n ok 1 dX9_nextSign_8 rfl ?_
    refine r_iconst ok (nI 1) dX9_nextSign_9 (by decide) ?_
    refine r_iload_n ok 2 dX9_nextSign_10 rfl ?_
    refine r_ishl ok dX9_nextSign_11 ?_
    refine r_ior ok dX9_nextSign_12 ?_
    refine r_istore_n ok [(3, .int (v1 ||| (jshl (nI 1) v2))), (0, .ref (g.ad 27)), (1, .int v1), (2, .int v2)] dX9_nextSign_13 (by decide) rfl ?_
    refine r_iload_n ok 0 dX9_nextSign_14 rfl ?_
    refine r_iload_n ok 2 dX9_nextSign_15 rfl ?_
    refine r_icmp_eq ok 43 dX9_nextSign_16 (by decide) ⟨fun c => ?_, fun c => ?_⟩
    · have h := h.1 c
      refine r_iinc ok 3 (v2 + (nI 1)) [(2, .int (v2 + (nI 1))), (3, .int (v1 ||| (jshl (nI 1) v2))), (0, .ref (g.ad 27)), (1, .int v1)] dX9_nextSign_43 rfl rfl (by decide) rfl ?_
      refine r_goto ok 2 dX9_nextSign_46 (by decide) ?_
      exact r_sub [2, 3, 0] _ rfl h
    · have h := h.2 c
      refine r_aload_n ok 1 dX9_nextSign_19 rfl ?_
      refine r_getR ok 27 2 rfl rfl fo_X9_19 dX9_nextSign_20 ?_
      refine r_iload_n ok 0 dX9_nextSign_23 rfl ?_
      refine r_iaload ok 28 rfl dX9_nextSign_24 h.1 ?_
      have h := h.2
      refine r_aload_n ok 1 dX9_nextSign_25 rfl ?_
      refine r_getR ok 27 3 rfl rfl fo_X9_23 dX9_nextSign_26 ?_
      refine r_iload_n ok 0 dX9_nextSign_29 rfl ?_
      refine r_iaload ok 29 rfl dX9_nextSign_30 h.1 ?_
      have h := h.2
      refine r_iadd ok dX9_nextSign_31 ?_
      refine r_aload_n ok 1 dX9_nextSign_32 rfl ?_
      refine r_getR ok 27 3 rfl rfl fo_X9_23 dX9_nextSign_33 ?_
      refine r_iload_n ok 2 dX9_nextSign_36 rfl ?_
      refine r_iaload ok 29 rfl dX9_nextSign_37 h.1 ?_
      have h := h.2
      refine r_icmp_ne ok 43 dX9_nextSign_38 (by decide) ⟨fun c => ?_, fun c => ?_⟩
      · have h := h.1 c
        refine r_iinc ok 3 (v2 + (nI 1)) [(2, .int (v2 + (nI 1))), (3, .int (v1 ||| (jshl (nI 1) v2))), (0, .ref (g.ad 27)), (1, .int v1)] dX9_nextSign_43 rfl rfl (by decide) rfl ?_
        refine r_goto ok 2 dX9_nextSign_46 (by decide) ?_
        exact r_sub [2, 3, 0] _ rfl h
      · have h := h.2 c
        refine r_iload_n ok 3 dX9_nextSign_41 rfl ?_
        exact r_iret ok rfl dX9_nextSign_42 h
set_option maxRecDepth 10000 in
theorem s_X9_bestSigns_0 {l : Launch} {x : Cx} {g : Geo} {K : Int32 → Mem → Prop} (ok : Ok x g shX m_X9_bestSigns) (v1 : Int32) (v2 : Int32) (S : Mem) (h : PW l x g shX m_X9_bestSigns (Qi x g shX K) 8 [(0, .ref (g.ad 27)), (1, .int v1), (2, .int v2), (3, .int (-1)), (4, .int (nI 0)), (5, .int (nI 0))] [] S) : PW l x g shX m_X9_bestSigns (Qi x g shX K) 0 [(0, .ref (g.ad 27)), (1, .int v1), (2, .int v2)] [] S := by
  refine r_iconst ok (-1) dX9_bestSigns_0 (by decide) ?_
  refine r_istore_n ok [(3, .int (-1)), (0, .ref (g.ad 27)), (1, .int v1), (2, .int v2)] dX9_bestSigns_1 (by decide) rfl ?_
  refine r_iconst ok (nI 0) dX9_bestSigns_2 (by decide) ?_
  refine r_istore ok [(4, .int (nI 0)), (3, .int (-1)), (0, .ref (g.ad 27)), (1, .int v1), (2, .int v2)] dX9_bestSigns_3 (by decide) rfl ?_
  refine r_iconst ok (nI 0) dX9_bestSigns_5 (by decide) ?_
  refine r_istore ok [(5, .int (nI 0)), (4, .int (nI 0)), (3, .int (-1)), (0, .ref (g.ad 27)), (1, .int v1), (2, .int v2)] dX9_bestSigns_6 (by decide) rfl ?_
  exact r_sub [3, 4, 5, 2, 1, 0] _ rfl h
set_option maxRecDepth 10000 in
theorem s_X9_bestSigns_8 {l : Launch} {x : Cx} {g : Geo} {K : Int32 → Mem → Prop} (ok : Ok x g shX m_X9_bestSigns) (v1 : Int32) (v2 : Int32) (v3 : Int32) (v4 : Int32) (v5 : Int32) (S : Mem) (h : (((nI 1024) ≤ v5 → K v4 S) ∧ (¬ (nI 1024) ≤ v5 → MWi l g shX m_J6_bitCount_0f7a4 [.int v5] S (fun r1 S1 => ((¬ r1 = v1 → PW l x g shX m_X9_bestSigns (Qi x g shX K) 8 [(0, .ref (g.ad 27)), (1, .int v1), (2, .int v2), (3, .int v3), (4, .int v4), (5, .int (v5 + (nI 1)))] [] S1) ∧ (r1 = v1 → MWi l g shX m_X9_worthWith [.ref (g.ad 27), .int v5, .int v2] S1 (fun r2 S2 => ((r2 ≤ v3 → PW l x g shX m_X9_bestSigns (Qi x g shX K) 8 [(0, .ref (g.ad 27)), (1, .int v1), (2, .int v2), (3, .int v3), (4, .int v4), (5, .int (v5 + (nI 1)))] [] S2) ∧ (¬ r2 ≤ v3 → PW l x g shX m_X9_bestSigns (Qi x g shX K) 8 [(0, .ref (g.ad 27)), (1, .int v1), (2, .int v2), (3, .int r2), (4, .int v5), (5, .int (v5 + (nI 1)))] [] S2))))))))) : PW l x g shX m_X9_bestSigns (Qi x g shX K) 8 [(0, .ref (g.ad 27)), (1, .int v1), (2, .int v2), (3, .int v3), (4, .int v4), (5, .int v5)] [] S := by
  refine r_iload ok 5 dX9_bestSigns_8 rfl ?_
  refine r_sipush ok (nI 1024) dX9_bestSigns_10 (by decide) ?_
  refine r_icmp_ge ok 53 dX9_bestSigns_13 (by decide) ⟨fun c => ?_, fun c => ?_⟩
  · have h := h.1 c
    refine r_iload ok 4 dX9_bestSigns_53 rfl ?_
    exact r_iret ok rfl dX9_bestSigns_55 h
  · have h := h.2 c
    refine r_iload ok 5 dX9_bestSigns_16 rfl ?_
    refine r_stati ok (rest := []) (As := [.int v5]) _ k_X9_bestSigns_83 rfl rfl (Nat.le_of_ble_eq_true rfl) dX9_bestSigns_18 (MWi.mono h (fun r1 S1 h => ?_))
    refine r_iload_n ok 1 dX9_bestSigns_21 rfl ?_
    refine r_icmp_ne ok 47 dX9_bestSigns_22 (by decide) ⟨fun c => ?_, fun c => ?_⟩
    · have h := h.1 c
      refine r_iinc ok 5 (v5 + (nI 1)) [(5, .int (v5 + (nI 1))), (0, .ref (g.ad 27)), (1, .int v1), (2, .int v2), (3, .int v3), (4, .int v4)] dX9_bestSigns_47 rfl rfl (by decide) rfl ?_
      refine r_goto ok 8 dX9_bestSigns_50 (by decide) ?_
      exact r_sub [1, 2, 3, 4, 5, 0] _ rfl h
    · have h := h.2 c
      refine r_aload_n ok 0 dX9_bestSigns_25 rfl ?_
      refine r_iload ok 5 dX9_bestSigns_26 rfl ?_
      refine r_iload_n ok 2 dX9_bestSigns_28 rfl ?_
      refine r_virti ok (rest := []) (As := [.int v5, .int v2]) 27 _ k_X9_bestSigns_88 rfl rfl rfl rfl (Nat.le_of_ble_eq_true rfl) dX9_bestSigns_29 (MWi.mono h (fun r2 S2 h => ?_))
      refine r_istore ok [(6, .int r2), (0, .ref (g.ad 27)), (1, .int v1), (2, .int v2), (3, .int v3), (4, .int v4), (5, .int v5)] dX9_bestSigns_32 (by decide) rfl ?_
      refine r_iload ok 0 dX9_bestSigns_34 rfl ?_
      refine r_iload_n ok 4 dX9_bestSigns_36 rfl ?_
      refine r_icmp_le ok 47 dX9_bestSigns_37 (by decide) ⟨fun c => ?_, fun c => ?_⟩
      · have h := h.1 c
        refine r_iinc ok 6 (v5 + (nI 1)) [(5, .int (v5 + (nI 1))), (6, .int r2), (0, .ref (g.ad 27)), (1, .int v1), (2, .int v2), (3, .int v3), (4, .int v4)] dX9_bestSigns_47 rfl rfl (by decide) rfl ?_
        refine r_goto ok 8 dX9_bestSigns_50 (by decide) ?_
        exact r_sub [2, 3, 4, 5, 6, 0] _ rfl h
      · have h := h.2 c
        refine r_iload ok 0 dX9_bestSigns_40 rfl ?_
        refine r_istore_n ok [(3, .int r2), (6, .int r2), (0, .ref (g.ad 27)), (1, .int v1), (2, .int v2), (4, .int v4), (5, .int v5)] dX9_bestSigns_42 (by decide) rfl ?_
        refine r_iload ok 6 dX9_bestSigns_43 rfl ?_
        refine r_istore ok [(4, .int v5), (3, .int r2), (6, .int r2), (0, .ref (g.ad 27)), (1, .int v1), (2, .int v2), (5, .int v5)] dX9_bestSigns_45 (by decide) rfl ?_
        refine r_iinc ok 6 (v5 + (nI 1)) [(5, .int (v5 + (nI 1))), (4, .int v5), (3, .int r2), (6, .int r2), (0, .ref (g.ad 27)), (1, .int v1), (2, .int v2)] dX9_bestSigns_47 rfl rfl (by decide) rfl ?_
        refine r_goto ok 8 dX9_bestSigns_50 (by decide) ?_
        exact r_sub [4, 5, 6, 2, 1, 0] _ rfl h
set_option maxRecDepth 10000 in
theorem s_X9_worthWith_0 {l : Launch} {x : Cx} {g : Geo} {K : Int32 → Mem → Prop} (ok : Ok x g shX m_X9_worthWith) (v1 : Int32) (v2 : Int32) (S : Mem) (h : PW l x g shX m_X9_worthWith (Qi x g shX K) 8 [(0, .ref (g.ad 27)), (1, .int v1), (3, .int (nI 0)), (4, .int v2), (5, .int (nI 0))] [] S) : PW l x g shX m_X9_worthWith (Qi x g shX K) 0 [(0, .ref (g.ad 27)), (1, .int v1), (2, .int v2)] [] S := by
  refine r_iconst ok (nI 0) dX9_worthWith_0 (by decide) ?_
  refine r_istore_n ok [(3, .int (nI 0)), (0, .ref (g.ad 27)), (1, .int v1), (2, .int v2)] dX9_worthWith_1 (by decide) rfl ?_
  refine r_iload_n ok 3 dX9_worthWith_2 rfl ?_
  refine r_istore ok [(4, .int v2), (3, .int (nI 0)), (0, .ref (g.ad 27)), (1, .int v1), (2, .int v2)] dX9_worthWith_3 (by decide) rfl ?_
  refine r_iconst ok (nI 0) dX9_worthWith_5 (by decide) ?_
  refine r_istore ok [(5, .int (nI 0)), (4, .int v2), (3, .int (nI 0)), (0, .ref (g.ad 27)), (1, .int v1), (2, .int v2)] dX9_worthWith_6 (by decide) rfl ?_
  exact r_sub [3, 4, 2, 1, 0] _ rfl h
set_option maxRecDepth 10000 in
theorem s_X9_worthWith_8 {l : Launch} {x : Cx} {g : Geo} {K : Int32 → Mem → Prop} (ok : Ok x g shX m_X9_worthWith) (v1 : Int32) (v3 : Int32) (v4 : Int32) (v5 : Int32) (S : Mem) (h : (((S 4 5) ≤ v5 → K v3 S) ∧ (¬ (S 4 5) ≤ v5 → (vp_in v5 12 ∧ MWi l g shX m_X8_isGiven [.ref (g.ad 18), .int (S 23 (cl v5)), .int v1] S (fun r1 S1 => ((r1 = 0 → ((v4 ≤ 0 → PW l x g shX m_X9_worthWith (Qi x g shX K) 8 [(0, .ref (g.ad 27)), (1, .int v1), (3, .int v3), (4, .int v4), (5, .int (v5 + (nI 1)))] [] S1) ∧ (¬ v4 ≤ 0 → (vp_in (S 23 (cl v5)) 12 ∧ PW l x g shX m_X9_worthWith (Qi x g shX K) 8 [(0, .ref (g.ad 27)), (1, .int v1), (3, .int (v3 + (S1 6 (cl (S 23 (cl v5)))))), (4, .int (v4 + (-1))), (5, .int (v5 + (nI 1)))] [] S1)))) ∧ (¬ r1 = 0 → (vp_in (S 23 (cl v5)) 12 ∧ PW l x g shX m_X9_worthWith (Qi x g shX K) 8 [(0, .ref (g.ad 27)), (1, .int v1), (3, .int (v3 + (S1 6 (cl (S 23 (cl v5)))))), (4, .int v4), (5, .int (v5 + (nI 1)))] [] S1)))))))) : PW l x g shX m_X9_worthWith (Qi x g shX K) 8 [(0, .ref (g.ad 27)), (1, .int v1), (3, .int v3), (4, .int v4), (5, .int v5)] [] S := by
  refine r_iload ok 4 dX9_worthWith_8 rfl ?_
  refine r_aload_n ok 0 dX9_worthWith_10 rfl ?_
  refine r_getR ok 27 0 rfl rfl fo_X9_9 dX9_worthWith_11 ?_
  refine r_getI ok 4 5 rfl rfl fo_X9_59 dX9_worthWith_14 ?_
  refine r_icmp_ge ok 88 dX9_worthWith_17 (by decide) ⟨fun c => ?_, fun c => ?_⟩
  · have h := h.1 c
    refine r_iload_n ok 2 dX9_worthWith_88 rfl ?_
    exact r_iret ok rfl dX9_worthWith_89 h
  · have h := h.2 c
    refine r_aload_n ok 0 dX9_worthWith_20 rfl ?_
    refine r_getR ok 27 1 rfl rfl fo_X9_15 dX9_worthWith_21 ?_
    refine r_getR ok 18 5 rfl rfl fo_X9_91 dX9_worthWith_24 ?_
    refine r_iload ok 4 dX9_worthWith_27 rfl ?_
    refine r_iaload ok 23 rfl dX9_worthWith_29 h.1 ?_
    have h := h.2
    refine r_istore ok [(6, .int (S 23 (cl v5))), (0, .ref (g.ad 27)), (1, .int v1), (3, .int v3), (4, .int v4), (5, .int v5)] dX9_worthWith_30 (by decide) rfl ?_
    refine r_aload_n ok 1 dX9_worthWith_32 rfl ?_
    refine r_getR ok 27 1 rfl rfl fo_X9_15 dX9_worthWith_33 ?_
    refine r_iload ok 0 dX9_worthWith_36 rfl ?_
    refine r_iload_n ok 2 dX9_worthWith_38 rfl ?_
    refine r_virti ok (rest := []) (As := [.int (S 23 (cl v5)), .int v1]) 18 _ k_X9_worthWith_94 rfl rfl rfl rfl (Nat.le_of_ble_eq_true rfl) dX9_worthWith_39 (MWi.mono h (fun r1 S1 h => ?_))
    refine r_if_eq ok 61 dX9_worthWith_42 (by decide) ⟨fun c => ?_, fun c => ?_⟩
    · have h := h.1 c
      refine r_iload ok 4 dX9_worthWith_61 rfl ?_
      refine r_if_le ok 82 dX9_worthWith_63 (by decide) ⟨fun c => ?_, fun c => ?_⟩
      · have h := h.1 c
        refine r_iinc ok 5 (v5 + (nI 1)) [(5, .int (v5 + (nI 1))), (6, .int (S 23 (cl v5))), (0, .ref (g.ad 27)), (1, .int v1), (3, .int v3), (4, .int v4)] dX9_worthWith_82 rfl rfl (by decide) rfl ?_
        refine r_goto ok 8 dX9_worthWith_85 (by decide) ?_
        exact r_sub [2, 3, 4, 5, 0] _ rfl h
      · have h := h.2 c
        refine r_iload_n ok 3 dX9_worthWith_66 rfl ?_
        refine r_aload_n ok 1 dX9_worthWith_67 rfl ?_
        refine r_getR ok 27 0 rfl rfl fo_X9_9 dX9_worthWith_68 ?_
        refine r_getR ok 4 1 rfl rfl fo_X9_73 dX9_worthWith_71 ?_
        refine r_iload ok 0 dX9_worthWith_74 rfl ?_
        refine r_iaload ok 6 rfl dX9_worthWith_76 h.1 ?_
        have h := h.2
        refine r_iadd ok dX9_worthWith_77 ?_
        refine r_istore_n ok [(3, .int (v3 + (S1 6 (cl (S 23 (cl v5)))))), (6, .int (S 23 (cl v5))), (0, .ref (g.ad 27)), (1, .int v1), (4, .int v4), (5, .int v5)] dX9_worthWith_78 (by decide) rfl ?_
        refine r_iinc ok 4 (v4 + (-1)) [(4, .int (v4 + (-1))), (3, .int (v3 + (S1 6 (cl (S 23 (cl v5)))))), (6, .int (S 23 (cl v5))), (0, .ref (g.ad 27)), (1, .int v1), (5, .int v5)] dX9_worthWith_79 rfl rfl (by decide) rfl ?_
        refine r_iinc ok 5 (v5 + (nI 1)) [(5, .int (v5 + (nI 1))), (4, .int (v4 + (-1))), (3, .int (v3 + (S1 6 (cl (S 23 (cl v5)))))), (6, .int (S 23 (cl v5))), (0, .ref (g.ad 27)), (1, .int v1)] dX9_worthWith_82 rfl rfl (by decide) rfl ?_
        refine r_goto ok 8 dX9_worthWith_85 (by decide) ?_
        exact r_sub [4, 5, 2, 1, 0] _ rfl h
    · have h := h.2 c
      refine r_iload_n ok 3 dX9_worthWith_45 rfl ?_
      refine r_aload_n ok 1 dX9_worthWith_46 rfl ?_
      refine r_getR ok 27 0 rfl rfl fo_X9_9 dX9_worthWith_47 ?_
      refine r_getR ok 4 1 rfl rfl fo_X9_73 dX9_worthWith_50 ?_
      refine r_iload ok 0 dX9_worthWith_53 rfl ?_
      refine r_iaload ok 6 rfl dX9_worthWith_55 h.1 ?_
      have h := h.2
      refine r_iadd ok dX9_worthWith_56 ?_
      refine r_istore_n ok [(3, .int (v3 + (S1 6 (cl (S 23 (cl v5)))))), (6, .int (S 23 (cl v5))), (0, .ref (g.ad 27)), (1, .int v1), (4, .int v4), (5, .int v5)] dX9_worthWith_57 (by decide) rfl ?_
      refine r_goto ok 82 dX9_worthWith_58 (by decide) ?_
      refine r_iinc ok 5 (v5 + (nI 1)) [(5, .int (v5 + (nI 1))), (3, .int (v3 + (S1 6 (cl (S 23 (cl v5)))))), (6, .int (S 23 (cl v5))), (0, .ref (g.ad 27)), (1, .int v1), (4, .int v4)] dX9_worthWith_82 rfl rfl (by decide) rfl ?_
      refine r_goto ok 8 dX9_worthWith_85 (by decide) ?_
      exact r_sub [3, 4, 1, 5, 0] _ rfl h
set_option maxRecDepth 10000 in
theorem s_X9_bestWholes_0 {l : Launch} {x : Cx} {g : Geo} {K : Int32 → Mem → Prop} (ok : Ok x g shX m_X9_bestWholes) (v1 : Int32) (v2 : Int32) (S : Mem) (h : PW l x g shX m_X9_bestWholes (Qi x g shX K) 8 [(0, .ref (g.ad 27)), (1, .int v1), (3, .int (nI 0)), (4, .int v2), (5, .int (nI 0))] [] S) : PW l x g shX m_X9_bestWholes (Qi x g shX K) 0 [(0, .ref (g.ad 27)), (1, .int v1), (2, .int v2)] [] S := by
  refine r_iconst ok (nI 0) dX9_bestWholes_0 (by decide) ?_
  refine r_istore_n ok [(3, .int (nI 0)), (0, .ref (g.ad 27)), (1, .int v1), (2, .int v2)] dX9_bestWholes_1 (by decide) rfl ?_
  refine r_iload_n ok 3 dX9_bestWholes_2 rfl ?_
  refine r_istore ok [(4, .int v2), (3, .int (nI 0)), (0, .ref (g.ad 27)), (1, .int v1), (2, .int v2)] dX9_bestWholes_3 (by decide) rfl ?_
  refine r_iconst ok (nI 0) dX9_bestWholes_5 (by decide) ?_
  refine r_istore ok [(5, .int (nI 0)), (4, .int v2), (3, .int (nI 0)), (0, .ref (g.ad 27)), (1, .int v1), (2, .int v2)] dX9_bestWholes_6 (by decide) rfl ?_
  exact r_sub [3, 4, 2, 1, 0] _ rfl h
set_option maxRecDepth 10000 in
theorem s_X9_bestWholes_8 {l : Launch} {x : Cx} {g : Geo} {K : Int32 → Mem → Prop} (ok : Ok x g shX m_X9_bestWholes) (v1 : Int32) (v3 : Int32) (v4 : Int32) (v5 : Int32) (S : Mem) (h : (((S 4 5) ≤ v5 → K v3 S) ∧ (¬ (S 4 5) ≤ v5 → ((v4 ≤ 0 → K v3 S) ∧ (¬ v4 ≤ 0 → (vp_in v5 12 ∧ MWi l g shX m_X8_isGiven [.ref (g.ad 18), .int (S 23 (cl v5)), .int v1] S (fun r1 S1 => ((¬ r1 = 0 → PW l x g shX m_X9_bestWholes (Qi x g shX K) 8 [(0, .ref (g.ad 27)), (1, .int v1), (3, .int v3), (4, .int v4), (5, .int (v5 + (nI 1)))] [] S1) ∧ (r1 = 0 → PW l x g shX m_X9_bestWholes (Qi x g shX K) 8 [(0, .ref (g.ad 27)), (1, .int v1), (3, .int (v3 ||| (jshl (nI 1) (S 23 (cl v5))))), (4, .int (v4 + (-1))), (5, .int (v5 + (nI 1)))] [] S1))))))))) : PW l x g shX m_X9_bestWholes (Qi x g shX K) 8 [(0, .ref (g.ad 27)), (1, .int v1), (3, .int v3), (4, .int v4), (5, .int v5)] [] S := by
  refine r_iload ok 4 dX9_bestWholes_8 rfl ?_
  refine r_aload_n ok 0 dX9_bestWholes_10 rfl ?_
  refine r_getR ok 27 0 rfl rfl fo_X9_9 dX9_bestWholes_11 ?_
  refine r_getI ok 4 5 rfl rfl fo_X9_59 dX9_bestWholes_14 ?_
  refine r_icmp_ge ok 66 dX9_bestWholes_17 (by decide) ⟨fun c => ?_, fun c => ?_⟩
  · have h := h.1 c
    refine r_iload_n ok 2 dX9_bestWholes_66 rfl ?_
    exact r_iret ok rfl dX9_bestWholes_67 h
  · have h := h.2 c
    refine r_iload ok 3 dX9_bestWholes_20 rfl ?_
    refine r_if_le ok 66 dX9_bestWholes_22 (by decide) ⟨fun c => ?_, fun c => ?_⟩
    · have h := h.1 c
      refine r_iload_n ok 2 dX9_bestWholes_66 rfl ?_
      exact r_iret ok rfl dX9_bestWholes_67 h
    · have h := h.2 c
      refine r_aload_n ok 0 dX9_bestWholes_25 rfl ?_
      refine r_getR ok 27 1 rfl rfl fo_X9_15 dX9_bestWholes_26 ?_
      refine r_getR ok 18 5 rfl rfl fo_X9_91 dX9_bestWholes_29 ?_
      refine r_iload ok 4 dX9_bestWholes_32 rfl ?_
      refine r_iaload ok 23 rfl dX9_bestWholes_34 h.1 ?_
      have h := h.2
      refine r_istore ok [(6, .int (S 23 (cl v5))), (0, .ref (g.ad 27)), (1, .int v1), (3, .int v3), (4, .int v4), (5, .int v5)] dX9_bestWholes_35 (by decide) rfl ?_
      refine r_aload_n ok 1 dX9_bestWholes_37 rfl ?_
      refine r_getR ok 27 1 rfl rfl fo_X9_15 dX9_bestWholes_38 ?_
      refine r_iload ok 0 dX9_bestWholes_41 rfl ?_
      refine r_iload_n ok 2 dX9_bestWholes_43 rfl ?_
      refine r_virti ok (rest := []) (As := [.int (S 23 (cl v5)), .int v1]) 18 _ k_X9_bestWholes_94 rfl rfl rfl rfl (Nat.le_of_ble_eq_true rfl) dX9_bestWholes_44 (MWi.mono h (fun r1 S1 h => ?_))
      refine r_if_ne ok 60 dX9_bestWholes_47 (by decide) ⟨fun c => ?_, fun c => ?_⟩
      · have h := h.1 c
        refine r_iinc ok 5 (v5 + (nI 1)) [(5, .int (v5 + (nI 1))), (6, .int (S 23 (cl v5))), (0, .ref (g.ad 27)), (1, .int v1), (3, .int v3), (4, .int v4)] dX9_bestWholes_60 rfl rfl (by decide) rfl ?_
        refine r_goto ok 8 dX9_bestWholes_63 (by decide) ?_
        exact r_sub [2, 3, 4, 5, 0] _ rfl h
      · have h := h.2 c
        refine r_iload_n ok 3 dX9_bestWholes_50 rfl ?_
        refine r_iconst ok (nI 1) dX9_bestWholes_51 (by decide) ?_
        refine r_iload ok 0 dX9_bestWholes_52 rfl ?_
        refine r_ishl ok dX9_bestWholes_54 ?_
        refine r_ior ok dX9_bestWholes_55 ?_
        refine r_istore_n ok [(3, .int (v3 ||| (jshl (nI 1) (S 23 (cl v5))))), (6, .int (S 23 (cl v5))), (0, .ref (g.ad 27)), (1, .int v1), (4, .int v4), (5, .int v5)] dX9_bestWholes_56 (by decide) rfl ?_
        refine r_iinc ok 4 (v4 + (-1)) [(4, .int (v4 + (-1))), (3, .int (v3 ||| (jshl (nI 1) (S 23 (cl v5))))), (6, .int (S 23 (cl v5))), (0, .ref (g.ad 27)), (1, .int v1), (5, .int v5)] dX9_bestWholes_57 rfl rfl (by decide) rfl ?_
        refine r_iinc ok 5 (v5 + (nI 1)) [(5, .int (v5 + (nI 1))), (4, .int (v4 + (-1))), (3, .int (v3 ||| (jshl (nI 1) (S 23 (cl v5))))), (6, .int (S 23 (cl v5))), (0, .ref (g.ad 27)), (1, .int v1)] dX9_bestWholes_60 rfl rfl (by decide) rfl ?_
        refine r_goto ok 8 dX9_bestWholes_63 (by decide) ?_
        exact r_sub [4, 5, 2, 1, 0] _ rfl h
set_option maxRecDepth 10000 in
theorem s_X10_find_0 {l : Launch} {x : Cx} {g : Geo} {K : Mem → Prop} (ok : Ok x g shX m_X10_find) (v1 : Int32) (S : Mem) (h : MWv l g shX m_X10_findBehind [.ref (g.ad 31)] S (fun S1 => PW l x g shX m_X10_find (Qv x g shX K) 13 [(0, .ref (g.ad 31)), (1, .int v1), (2, .int (nI 0)), (3, .int (nI 1))] [] (st2 S1 31 4 (nI 0)))) : PW l x g shX m_X10_find (Qv x g shX K) 0 [(0, .ref (g.ad 31)), (1, .int v1)] [] S := by
  refine r_aload_n ok 0 dX10_find_0 rfl ?_
  refine r_virtv ok (rest := []) (As := []) 31 _ k_X10_find_29 rfl rfl rfl rfl (Nat.le_of_ble_eq_true rfl) dX10_find_1 (MWv.mono h (fun S1 h => ?_))
  refine r_aload_n ok 0 dX10_find_4 rfl ?_
  refine r_iconst ok (nI 0) dX10_find_5 (by decide) ?_
  refine r_put ok 31 4 rfl rfl po_X10_32 rfl rfl dX10_find_6 ?_
  refine r_iconst ok (nI 0) dX10_find_9 (by decide) ?_
  refine r_istore_n ok [(2, .int (nI 0)), (0, .ref (g.ad 31)), (1, .int v1)] dX10_find_10 (by decide) rfl ?_
  refine r_iconst ok (nI 1) dX10_find_11 (by decide) ?_
  refine r_istore_n ok [(3, .int (nI 1)), (2, .int (nI 0)), (0, .ref (g.ad 31)), (1, .int v1)] dX10_find_12 (by decide) rfl ?_
  exact r_sub [2, 3, 1, 0] _ rfl h
set_option maxRecDepth 10000 in
theorem s_X10_find_13 {l : Launch} {x : Cx} {g : Geo} {K : Mem → Prop} (ok : Ok x g shX m_X10_find) (v1 : Int32) (v2 : Int32) (v3 : Int32) (S : Mem) (h : (((nI 4096) ≤ v3 → MWv l g shX m_X10_pickRow [.ref (g.ad 31), .int v1] S (fun S1 => K S1)) ∧ (¬ (nI 4096) ≤ v3 → ((v2 = v1 → MWv l g shX m_X10_pickRow [.ref (g.ad 31), .int v1] S (fun S2 => K S2)) ∧ (¬ v2 = v1 → MWi l g shX m_X10_nextWithin [.int v2, .int v1] S (fun r3 S3 => MWi l g shX m_X10_startsOf [.ref (g.ad 31), .int r3] S3 (fun r4 S4 => (vp_in r3 4096 ∧ (vp_in r3 4096 ∧ ((((st2 S4 32 (cl r3) r4) 32 (cl r3)) = 0 → PW l x g shX m_X10_find (Qv x g shX K) 13 [(0, .ref (g.ad 31)), (1, .int v1), (2, .int r3), (3, .int (v3 + (nI 1)))] [] (st2 S4 32 (cl r3) r4)) ∧ (¬ ((st2 S4 32 (cl r3) r4) 32 (cl r3)) = 0 → MWi l g shX m_J6_bitCount_0f7a4 [.int r3] (st2 S4 32 (cl r3) r4) (fun r5 S5 => PW l x g shX m_X10_find (Qv x g shX K) 13 [(0, .ref (g.ad 31)), (1, .int v1), (2, .int r3), (3, .int (v3 + (nI 1)))] [] (st2 S5 31 4 (jmax ((st2 S4 32 (cl r3) r4) 31 4) r5)))))))))))))) : PW l x g shX m_X10_find (Qv x g shX K) 13 [(0, .ref (g.ad 31)), (1, .int v1), (2, .int v2), (3, .int v3)] [] S := by
  refine r_iload_n ok 3 dX10_find_13 rfl ?_
  refine r_sipush ok (nI 4096) dX10_find_14 (by decide) ?_
  refine r_icmp_ge ok 72 dX10_find_17 (by decide) ⟨fun c => ?_, fun c => ?_⟩
  · have h := h.1 c
    refine r_aload_n ok 0 dX10_find_72 rfl ?_
    refine r_iload_n ok 1 dX10_find_73 rfl ?_
    refine r_virtv ok (rest := []) (As := [.int v1]) 31 _ k_X10_find_53 rfl rfl rfl rfl (Nat.le_of_ble_eq_true rfl) dX10_find_74 (MWv.mono h (fun S1 h => ?_))
    exact r_ret ok rfl dX10_find_77 h
  · have h := h.2 c
    refine r_iload_n ok 2 dX10_find_20 rfl ?_
    refine r_iload_n ok 1 dX10_find_21 rfl ?_
    refine r_icmp_eq ok 72 dX10_find_22 (by decide) ⟨fun c => ?_, fun c => ?_⟩
    · have h := h.1 c
      refine r_aload_n ok 0 dX10_find_72 rfl ?_
      refine r_iload_n ok 1 dX10_find_73 rfl ?_
      refine r_virtv ok (rest := []) (As := [.int v1]) 31 _ k_X10_find_53 rfl rfl rfl rfl (Nat.le_of_ble_eq_true rfl) dX10_find_74 (MWv.mono h (fun S2 h => ?_))
      exact r_ret ok rfl dX10_find_77 h
    · have h := h.2 c
      refine r_iload_n ok 2 dX10_find_25 rfl ?_
      refine r_iload_n ok 1 dX10_find_26 rfl ?_
      refine r_stati ok (rest := []) (As := [.int v2, .int v1]) _ k_X10_find_35 rfl rfl (Nat.le_of_ble_eq_true rfl) dX10_find_27 (MWi.mono h (fun r3 S3 h => ?_))
      refine r_istore_n ok [(2, .int r3), (0, .ref (g.ad 31)), (1, .int v1), (3, .int v3)] dX10_find_30 (by decide) rfl ?_
      refine r_aload_n ok 1 dX10_find_31 rfl ?_
      refine r_getR ok 31 1 rfl rfl fo_X10_15 dX10_find_32 ?_
      refine r_iload_n ok 0 dX10_find_35 rfl ?_
      refine r_aload_n ok 1 dX10_find_36 rfl ?_
      refine r_iload_n ok 0 dX10_find_37 rfl ?_
      refine r_virti ok (rest := [.int r3, .ref (g.ad 32)]) (As := [.int r3]) 31 _ k_X10_find_39 rfl rfl rfl rfl (Nat.le_of_ble_eq_true rfl) dX10_find_38 (MWi.mono h (fun r4 S4 h => ?_))
      refine r_iastore ok 32 rfl dX10_find_41 h.1 ?_
      have h := h.2
      refine r_aload_n ok 1 dX10_find_42 rfl ?_
      refine r_getR ok 31 1 rfl rfl fo_X10_15 dX10_find_43 ?_
      refine r_iload_n ok 0 dX10_find_46 rfl ?_
      refine r_iaload ok 32 rfl dX10_find_47 h.1 ?_
      have h := h.2
      refine r_if_eq ok 66 dX10_find_48 (by decide) ⟨fun c => ?_, fun c => ?_⟩
      · have h := h.1 c
        refine r_iinc ok 3 (v3 + (nI 1)) [(3, .int (v3 + (nI 1))), (2, .int r3), (0, .ref (g.ad 31)), (1, .int v1)] dX10_find_66 rfl rfl (by decide) rfl ?_
        refine r_goto ok 13 dX10_find_69 (by decide) ?_
        exact r_sub [2, 3, 1, 0] _ rfl h
      · have h := h.2 c
        refine r_aload_n ok 1 dX10_find_51 rfl ?_
        refine r_aload_n ok 1 dX10_find_52 rfl ?_
        refine r_getI ok 31 4 rfl rfl fo_X10_32 dX10_find_53 ?_
        refine r_iload_n ok 0 dX10_find_56 rfl ?_
        refine r_stati ok (rest := [.int ((st2 S4 32 (cl r3) r4) 31 4), .ref (g.ad 31)]) (As := [.int r3]) _ k_X10_find_43 rfl rfl (Nat.le_of_ble_eq_true rfl) dX10_find_57 (MWi.mono h (fun r5 S5 h => ?_))
        refine r_max ok (rest := [.ref (g.ad 31)]) k_X10_find_48 (Nat.le_of_ble_eq_true rfl) dX10_find_60 ?_
        refine r_put ok 31 4 rfl rfl po_X10_32 rfl rfl dX10_find_63 ?_
        refine r_iinc ok 3 (v3 + (nI 1)) [(3, .int (v3 + (nI 1))), (2, .int r3), (0, .ref (g.ad 31)), (1, .int v1)] dX10_find_66 rfl rfl (by decide) rfl ?_
        refine r_goto ok 13 dX10_find_69 (by decide) ?_
        exact r_sub [2, 3, 1, 0] _ rfl h
set_option maxRecDepth 10000 in
theorem s_X10_nextWithin_0 {l : Launch} {x : Cx} {g : Geo} {K : Int32 → Mem → Prop} (ok : Ok x g shX m_X10_nextWithin) (v0 : Int32) (v1 : Int32) (S : Mem) (h : K ((v0 - v1) &&& v1) S) : PW l x g shX m_X10_nextWithin (Qi x g shX K) 0 [(0, .int v0), (1, .int v1)] [] S := by
  refine r_iload_n ok 0 dX10_nextWithin_0 rfl ?_
  refine r_iload_n ok 1 dX10_nextWithin_1 rfl ?_
  refine r_isub ok dX10_nextWithin_2 ?_
  refine r_iload_n ok 1 dX10_nextWithin_3 rfl ?_
  refine r_iand ok dX10_nextWithin_4 ?_
  exact r_iret ok rfl dX10_nextWithin_5 h
set_option maxRecDepth 10000 in
theorem s_X10_findBehind_0 {l : Launch} {x : Cx} {g : Geo} {K : Mem → Prop} (ok : Ok x g shX m_X10_findBehind) (S : Mem) (h : PW l x g shX m_X10_findBehind (Qv x g shX K) 2 [(0, .ref (g.ad 31)), (1, .int (nI 0))] [] S) : PW l x g shX m_X10_findBehind (Qv x g shX K) 0 [(0, .ref (g.ad 31))] [] S := by
  refine r_iconst ok (nI 0) dX10_findBehind_0 (by decide) ?_
  refine r_istore_n ok [(1, .int (nI 0)), (0, .ref (g.ad 31))] dX10_findBehind_1 (by decide) rfl ?_
  exact r_sub [1, 0] _ rfl h
set_option maxRecDepth 10000 in
theorem s_X10_findBehind_2 {l : Launch} {x : Cx} {g : Geo} {K : Mem → Prop} (ok : Ok x g shX m_X10_findBehind) (v1 : Int32) (S : Mem) (h : (((S 4 5) ≤ v1 → K S) ∧ (¬ (S 4 5) ≤ v1 → (vp_in v1 12 ∧ PW l x g shX m_X10_findBehind (Qv x g shX K) 22 [(0, .ref (g.ad 31)), (1, .int v1), (2, .int (nI 0))] [] (st2 S 33 (cl v1) (nI 0)))))) : PW l x g shX m_X10_findBehind (Qv x g shX K) 2 [(0, .ref (g.ad 31)), (1, .int v1)] [] S := by
  refine r_iload_n ok 1 dX10_findBehind_2 rfl ?_
  refine r_aload_n ok 0 dX10_findBehind_3 rfl ?_
  refine r_getR ok 31 0 rfl rfl fo_X10_9 dX10_findBehind_4 ?_
  refine r_getI ok 4 5 rfl rfl fo_X10_57 dX10_findBehind_7 ?_
  refine r_icmp_ge ok 76 dX10_findBehind_10 (by decide) ⟨fun c => ?_, fun c => ?_⟩
  · have h := h.1 c
    exact r_ret ok rfl dX10_findBehind_76 h
  · have h := h.2 c
    refine r_aload_n ok 0 dX10_findBehind_13 rfl ?_
    refine r_getR ok 31 2 rfl rfl fo_X10_19 dX10_findBehind_14 ?_
    refine r_iload_n ok 1 dX10_findBehind_17 rfl ?_
    refine r_iconst ok (nI 0) dX10_findBehind_18 (by decide) ?_
    refine r_iastore ok 33 rfl dX10_findBehind_19 h.1 ?_
    have h := h.2
    refine r_iconst ok (nI 0) dX10_findBehind_20 (by decide) ?_
    refine r_istore_n ok [(2, .int (nI 0)), (0, .ref (g.ad 31)), (1, .int v1)] dX10_findBehind_21 (by decide) rfl ?_
    exact r_sub [1, 2, 0] _ rfl h
set_option maxRecDepth 10000 in
theorem s_X10_findBehind_22 {l : Launch} {x : Cx} {g : Geo} {K : Mem → Prop} (ok : Ok x g shX m_X10_findBehind) (v1 : Int32) (v2 : Int32) (S : Mem) (h : (((S 4 5) ≤ v2 → PW l x g shX m_X10_findBehind (Qv x g shX K) 2 [(0, .ref (g.ad 31)), (1, .int (v1 + (nI 1)))] [] S) ∧ (¬ (S 4 5) ≤ v2 → MWi l g shX m_X1_firstSign [.ref (g.ad 4), .int v2] S (fun r1 S1 => MWi l g shX m_X1_lastSign [.ref (g.ad 4), .int v1] S1 (fun r2 S2 => ((¬ r1 = r2 → PW l x g shX m_X10_findBehind (Qv x g shX K) 22 [(0, .ref (g.ad 31)), (1, .int v1), (2, .int (v2 + (nI 1)))] [] S2) ∧ (r1 = r2 → (vp_in v1 12 ∧ (vp_in v1 12 ∧ PW l x g shX m_X10_findBehind (Qv x g shX K) 22 [(0, .ref (g.ad 31)), (1, .int v1), (2, .int (v2 + (nI 1)))] [] (st2 S2 33 (cl v1) ((S2 33 (cl v1)) ||| (jshl (nI 1) v2)))))))))))) : PW l x g shX m_X10_findBehind (Qv x g shX K) 22 [(0, .ref (g.ad 31)), (1, .int v1), (2, .int v2)] [] S := by
  refine r_iload_n ok 2 dX10_findBehind_22 rfl ?_
  refine r_aload_n ok 0 dX10_findBehind_23 rfl ?_
  refine r_getR ok 31 0 rfl rfl fo_X10_9 dX10_findBehind_24 ?_
  refine r_getI ok 4 5 rfl rfl fo_X10_57 dX10_findBehind_27 ?_
  refine r_icmp_ge ok 70 dX10_findBehind_30 (by decide) ⟨fun c => ?_, fun c => ?_⟩
  · have h := h.1 c
    refine r_iinc ok 1 (v1 + (nI 1)) [(1, .int (v1 + (nI 1))), (0, .ref (g.ad 31)), (2, .int v2)] dX10_findBehind_70 rfl rfl (by decide) rfl ?_
    refine r_goto ok 2 dX10_findBehind_73 (by decide) ?_
    exact r_sub [1, 0] _ rfl h
  · have h := h.2 c
    refine r_aload_n ok 0 dX10_findBehind_33 rfl ?_
    refine r_getR ok 31 0 rfl rfl fo_X10_9 dX10_findBehind_34 ?_
    refine r_iload_n ok 2 dX10_findBehind_37 rfl ?_
    refine r_virti ok (rest := []) (As := [.int v2]) 4 _ k_X10_findBehind_60 rfl rfl rfl rfl (Nat.le_of_ble_eq_true rfl) dX10_findBehind_38 (MWi.mono h (fun r1 S1 h => ?_))
    refine r_aload_n ok 0 dX10_findBehind_41 rfl ?_
    refine r_getR ok 31 0 rfl rfl fo_X10_9 dX10_findBehind_42 ?_
    refine r_iload_n ok 1 dX10_findBehind_45 rfl ?_
    refine r_virti ok (rest := [.int r1]) (As := [.int v1]) 4 _ k_X10_findBehind_63 rfl rfl rfl rfl (Nat.le_of_ble_eq_true rfl) dX10_findBehind_46 (MWi.mono h (fun r2 S2 h => ?_))
    refine r_icmp_ne ok 64 dX10_findBehind_49 (by decide) ⟨fun c => ?_, fun c => ?_⟩
    · have h := h.1 c
      refine r_iinc ok 2 (v2 + (nI 1)) [(2, .int (v2 + (nI 1))), (0, .ref (g.ad 31)), (1, .int v1)] dX10_findBehind_64 rfl rfl (by decide) rfl ?_
      refine r_goto ok 22 dX10_findBehind_67 (by decide) ?_
      exact r_sub [1, 2, 0] _ rfl h
    · have h := h.2 c
      refine r_aload_n ok 0 dX10_findBehind_52 rfl ?_
      refine r_getR ok 31 2 rfl rfl fo_X10_19 dX10_findBehind_53 ?_
      refine r_iload_n ok 1 dX10_findBehind_56 rfl ?_
      refine r_dup2 ok dX10_findBehind_57 rfl rfl ?_
      refine r_iaload ok 33 rfl dX10_findBehind_58 h.1 ?_
      have h := h.2
      refine r_iconst ok (nI 1) dX10_findBehind_59 (by decide) ?_
      refine r_iload_n ok 2 dX10_findBehind_60 rfl ?_
      refine r_ishl ok dX10_findBehind_61 ?_
      refine r_ior ok dX10_findBehind_62 ?_
      refine r_iastore ok 33 rfl dX10_findBehind_63 h.1 ?_
      have h := h.2
      refine r_iinc ok 2 (v2 + (nI 1)) [(2, .int (v2 + (nI 1))), (0, .ref (g.ad 31)), (1, .int v1)] dX10_findBehind_64 rfl rfl (by decide) rfl ?_
      refine r_goto ok 22 dX10_findBehind_67 (by decide) ?_
      exact r_sub [1, 2, 0] _ rfl h
set_option maxRecDepth 10000 in
theorem s_X10_startsOf_0 {l : Launch} {x : Cx} {g : Geo} {K : Int32 → Mem → Prop} (ok : Ok x g shX m_X10_startsOf) (v1 : Int32) (S : Mem) (h : PW l x g shX m_X10_startsOf (Qi x g shX K) 4 [(0, .ref (g.ad 31)), (1, .int v1), (2, .int (nI 0)), (3, .int (nI 0))] [] S) : PW l x g shX m_X10_startsOf (Qi x g shX K) 0 [(0, .ref (g.ad 31)), (1, .int v1)] [] S := by
  refine r_iconst ok (nI 0) dX10_startsOf_0 (by decide) ?_
  refine r_istore_n ok [(2, .int (nI 0)), (0, .ref (g.ad 31)), (1, .int v1)] dX10_startsOf_1 (by decide) rfl ?_
  refine r_iconst ok (nI 0) dX10_startsOf_2 (by decide) ?_
  refine r_istore_n ok [(3, .int (nI 0)), (2, .int (nI 0)), (0, .ref (g.ad 31)), (1, .int v1)] dX10_startsOf_3 (by decide) rfl ?_
  exact r_sub [2, 3, 1, 0] _ rfl h
set_option maxRecDepth 10000 in
theorem s_X10_startsOf_4 {l : Launch} {x : Cx} {g : Geo} {K : Int32 → Mem → Prop} (ok : Ok x g shX m_X10_startsOf) (v1 : Int32) (v2 : Int32) (v3 : Int32) (S : Mem) (h : (((S 4 5) ≤ v3 → K v2 S) ∧ (¬ (S 4 5) ≤ v3 → (((v1 &&& (jshl (nI 1) v3)) = 0 → PW l x g shX m_X10_startsOf (Qi x g shX K) 4 [(0, .ref (g.ad 31)), (1, .int v1), (2, .int v2), (3, .int (v3 + (nI 1)))] [] S) ∧ (¬ (v1 &&& (jshl (nI 1) v3)) = 0 → (((v1 ^^^ (jshl (nI 1) v3)) = 0 → PW l x g shX m_X10_startsOf (Qi x g shX K) 4 [(0, .ref (g.ad 31)), (1, .int v1), (2, .int (v2 ||| (jshl (nI 1) v3))), (3, .int (v3 + (nI 1)))] [] S) ∧ (¬ (v1 ^^^ (jshl (nI 1) v3)) = 0 → (vp_in (v1 ^^^ (jshl (nI 1) v3)) 4096 ∧ (vp_in v3 12 ∧ ((((S 32 (cl (v1 ^^^ (jshl (nI 1) v3)))) &&& (S 33 (cl v3))) = 0 → PW l x g shX m_X10_startsOf (Qi x g shX K) 4 [(0, .ref (g.ad 31)), (1, .int v1), (2, .int v2), (3, .int (v3 + (nI 1)))] [] S) ∧ (¬ ((S 32 (cl (v1 ^^^ (jshl (nI 1) v3)))) &&& (S 33 (cl v3))) = 0 → PW l x g shX m_X10_startsOf (Qi x g shX K) 4 [(0, .ref (g.ad 31)), (1, .int v1), (2, .int (v2 ||| (jshl (nI 1) v3))), (3, .int (v3 + (nI 1)))] [] S))))))))))) : PW l x g shX m_X10_startsOf (Qi x g shX K) 4 [(0, .ref (g.ad 31)), (1, .int v1), (2, .int v2), (3, .int v3)] [] S := by
  refine r_iload_n ok 3 dX10_startsOf_4 rfl ?_
  refine r_aload_n ok 0 dX10_startsOf_5 rfl ?_
  refine r_getR ok 31 0 rfl rfl fo_X10_9 dX10_startsOf_6 ?_
  refine r_getI ok 4 5 rfl rfl fo_X10_57 dX10_startsOf_9 ?_
  refine r_icmp_ge ok 66 dX10_startsOf_12 (by decide) ⟨fun c => ?_, fun c => ?_⟩
  · have h := h.1 c
    refine r_iload_n ok 2 dX10_startsOf_66 rfl ?_
    exact r_iret ok rfl dX10_startsOf_67 h
  · have h := h.2 c
    refine r_iconst ok (nI 1) dX10_startsOf_15 (by decide) ?_
    refine r_iload_n ok 3 dX10_startsOf_16 rfl ?_
    refine r_ishl ok dX10_startsOf_17 ?_
    refine r_istore ok [(4, .int (jshl (nI 1) v3)), (0, .ref (g.ad 31)), (1, .int v1), (2, .int v2), (3, .int v3)] dX10_startsOf_18 (by decide) rfl ?_
    refine r_iload_n ok 2 dX10_startsOf_20 rfl ?_
    refine r_iload ok 0 dX10_startsOf_21 rfl ?_
    refine r_iand ok dX10_startsOf_23 ?_
    refine r_if_eq ok 60 dX10_startsOf_24 (by decide) ⟨fun c => ?_, fun c => ?_⟩
    · have h := h.1 c
      refine r_iinc ok 4 (v3 + (nI 1)) [(3, .int (v3 + (nI 1))), (4, .int (jshl (nI 1) v3)), (0, .ref (g.ad 31)), (1, .int v1), (2, .int v2)] dX10_startsOf_60 rfl rfl (by decide) rfl ?_
      refine r_goto ok 4 dX10_startsOf_63 (by decide) ?_
      exact r_sub [2, 3, 4, 0] _ rfl h
    · have h := h.2 c
      refine r_iload_n ok 2 dX10_startsOf_27 rfl ?_
      refine r_iload ok 0 dX10_startsOf_28 rfl ?_
      refine r_ixor ok dX10_startsOf_30 ?_
      refine r_istore ok [(5, .int (v1 ^^^ (jshl (nI 1) v3))), (4, .int (jshl (nI 1) v3)), (0, .ref (g.ad 31)), (1, .int v1), (2, .int v2), (3, .int v3)] dX10_startsOf_31 (by decide) rfl ?_
      refine r_iload ok 0 dX10_startsOf_33 rfl ?_
      refine r_if_eq ok 55 dX10_startsOf_35 (by decide) ⟨fun c => ?_, fun c => ?_⟩
      · have h := h.1 c
        refine r_iload_n ok 4 dX10_startsOf_55 rfl ?_
        refine r_iload ok 1 dX10_startsOf_56 rfl ?_
        refine r_ior ok dX10_startsOf_58 ?_
        refine r_istore_n ok [(2, .int (v2 ||| (jshl (nI 1) v3))), (5, .int (v1 ^^^ (jshl (nI 1) v3))), (4, .int (jshl (nI 1) v3)), (0, .ref (g.ad 31)), (1, .int v1), (3, .int v3)] dX10_startsOf_59 (by decide) rfl ?_
        refine r_iinc ok 5 (v3 + (nI 1)) [(3, .int (v3 + (nI 1))), (2, .int (v2 ||| (jshl (nI 1) v3))), (5, .int (v1 ^^^ (jshl (nI 1) v3))), (4, .int (jshl (nI 1) v3)), (0, .ref (g.ad 31)), (1, .int v1)] dX10_startsOf_60 rfl rfl (by decide) rfl ?_
        refine r_goto ok 4 dX10_startsOf_63 (by decide) ?_
        exact r_sub [4, 5, 1, 0] _ rfl h
      · have h := h.2 c
        refine r_aload_n ok 2 dX10_startsOf_38 rfl ?_
        refine r_getR ok 31 1 rfl rfl fo_X10_15 dX10_startsOf_39 ?_
        refine r_iload ok 0 dX10_startsOf_42 rfl ?_
        refine r_iaload ok 32 rfl dX10_startsOf_44 h.1 ?_
        have h := h.2
        refine r_aload_n ok 2 dX10_startsOf_45 rfl ?_
        refine r_getR ok 31 2 rfl rfl fo_X10_19 dX10_startsOf_46 ?_
        refine r_iload_n ok 5 dX10_startsOf_49 rfl ?_
        refine r_iaload ok 33 rfl dX10_startsOf_50 h.1 ?_
        have h := h.2
        refine r_iand ok dX10_startsOf_51 ?_
        refine r_if_eq ok 60 dX10_startsOf_52 (by decide) ⟨fun c => ?_, fun c => ?_⟩
        · have h := h.1 c
          refine r_iinc ok 5 (v3 + (nI 1)) [(3, .int (v3 + (nI 1))), (5, .int (v1 ^^^ (jshl (nI 1) v3))), (4, .int (jshl (nI 1) v3)), (0, .ref (g.ad 31)), (1, .int v1), (2, .int v2)] dX10_startsOf_60 rfl rfl (by decide) rfl ?_
          refine r_goto ok 4 dX10_startsOf_63 (by decide) ?_
          exact r_sub [3, 4, 5, 0] _ rfl h
        · have h := h.2 c
          refine r_iload_n ok 4 dX10_startsOf_55 rfl ?_
          refine r_iload ok 1 dX10_startsOf_56 rfl ?_
          refine r_ior ok dX10_startsOf_58 ?_
          refine r_istore_n ok [(2, .int (v2 ||| (jshl (nI 1) v3))), (5, .int (v1 ^^^ (jshl (nI 1) v3))), (4, .int (jshl (nI 1) v3)), (0, .ref (g.ad 31)), (1, .int v1), (3, .int v3)] dX10_startsOf_59 (by decide) rfl ?_
          refine r_iinc ok 5 (v3 + (nI 1)) [(3, .int (v3 + (nI 1))), (2, .int (v2 ||| (jshl (nI 1) v3))), (5, .int (v1 ^^^ (jshl (nI 1) v3))), (4, .int (jshl (nI 1) v3)), (0, .ref (g.ad 31)), (1, .int v1)] dX10_startsOf_60 rfl rfl (by decide) rfl ?_
          refine r_goto ok 4 dX10_startsOf_63 (by decide) ?_
          exact r_sub [4, 5, 1, 0] _ rfl h
set_option maxRecDepth 10000 in
theorem s_X10_pickRow_0 {l : Launch} {x : Cx} {g : Geo} {K : Mem → Prop} (ok : Ok x g shX m_X10_pickRow) (v1 : Int32) (S : Mem) (h : PW l x g shX m_X10_pickRow (Qv x g shX K) 7 [(0, .ref (g.ad 31)), (2, .int v1), (3, .int v1), (4, .int (nI 0))] [] S) : PW l x g shX m_X10_pickRow (Qv x g shX K) 0 [(0, .ref (g.ad 31)), (1, .int v1)] [] S := by
  refine r_iload_n ok 1 dX10_pickRow_0 rfl ?_
  refine r_istore_n ok [(2, .int v1), (0, .ref (g.ad 31)), (1, .int v1)] dX10_pickRow_1 (by decide) rfl ?_
  refine r_iload_n ok 2 dX10_pickRow_2 rfl ?_
  refine r_istore_n ok [(3, .int v1), (2, .int v1), (0, .ref (g.ad 31)), (1, .int v1)] dX10_pickRow_3 (by decide) rfl ?_
  refine r_iconst ok (nI 0) dX10_pickRow_4 (by decide) ?_
  refine r_istore ok [(4, .int (nI 0)), (3, .int v1), (2, .int v1), (0, .ref (g.ad 31)), (1, .int v1)] dX10_pickRow_5 (by decide) rfl ?_
  exact r_sub [3, 2, 1, 0] _ rfl h
set_option maxRecDepth 10000 in
theorem s_X10_pickRow_7 {l : Launch} {x : Cx} {g : Geo} {K : Mem → Prop} (ok : Ok x g shX m_X10_pickRow) (v2 : Int32) (v3 : Int32) (v4 : Int32) (S : Mem) (h : (((S 31 4) ≤ v4 → K S) ∧ (¬ (S 31 4) ≤ v4 → MWi l g shX m_X10_leastStart [.ref (g.ad 31), .int v2, .int ((S 31 4) - v4), .int v3] S (fun r1 S1 => (vp_in v4 12 ∧ (vp_in r1 12 ∧ PW l x g shX m_X10_pickRow (Qv x g shX K) 7 [(0, .ref (g.ad 31)), (2, .int (v2 &&& ((jshl (nI 1) r1) ^^^ (-1)))), (3, .int ((st2 S1 34 (cl v4) r1) 33 (cl r1))), (4, .int (v4 + (nI 1)))] [] (st2 S1 34 (cl v4) r1))))))) : PW l x g shX m_X10_pickRow (Qv x g shX K) 7 [(0, .ref (g.ad 31)), (2, .int v2), (3, .int v3), (4, .int v4)] [] S := by
  refine r_iload ok 3 dX10_pickRow_7 rfl ?_
  refine r_aload_n ok 0 dX10_pickRow_9 rfl ?_
  refine r_getI ok 31 4 rfl rfl fo_X10_32 dX10_pickRow_10 ?_
  refine r_icmp_ge ok 63 dX10_pickRow_13 (by decide) ⟨fun c => ?_, fun c => ?_⟩
  · have h := h.1 c
    exact r_ret ok rfl dX10_pickRow_63 h
  · have h := h.2 c
    refine r_aload_n ok 0 dX10_pickRow_16 rfl ?_
    refine r_iload_n ok 1 dX10_pickRow_17 rfl ?_
    refine r_aload_n ok 0 dX10_pickRow_18 rfl ?_
    refine r_getI ok 31 4 rfl rfl fo_X10_32 dX10_pickRow_19 ?_
    refine r_iload ok 3 dX10_pickRow_22 rfl ?_
    refine r_isub ok dX10_pickRow_24 ?_
    refine r_iload_n ok 2 dX10_pickRow_25 rfl ?_
    refine r_virti ok (rest := []) (As := [.int v2, .int ((S 31 4) - v4), .int v3]) 31 _ k_X10_pickRow_66 rfl rfl rfl rfl (Nat.le_of_ble_eq_true rfl) dX10_pickRow_26 (MWi.mono h (fun r1 S1 h => ?_))
    refine r_istore ok [(5, .int r1), (0, .ref (g.ad 31)), (2, .int v2), (3, .int v3), (4, .int v4)] dX10_pickRow_29 (by decide) rfl ?_
    refine r_aload_n ok 1 dX10_pickRow_31 rfl ?_
    refine r_getR ok 31 3 rfl rfl fo_X10_22 dX10_pickRow_32 ?_
    refine r_iload ok 4 dX10_pickRow_35 rfl ?_
    refine r_iload ok 0 dX10_pickRow_37 rfl ?_
    refine r_iastore ok 34 rfl dX10_pickRow_39 h.1 ?_
    have h := h.2
    refine r_iload_n ok 2 dX10_pickRow_40 rfl ?_
    refine r_iconst ok (nI 1) dX10_pickRow_41 (by decide) ?_
    refine r_iload ok 0 dX10_pickRow_42 rfl ?_
    refine r_ishl ok dX10_pickRow_44 ?_
    refine r_iconst ok (-1) dX10_pickRow_45 (by decide) ?_
    refine r_ixor ok dX10_pickRow_46 ?_
    refine r_iand ok dX10_pickRow_47 ?_
    refine r_istore_n ok [(2, .int (v2 &&& ((jshl (nI 1) r1) ^^^ (-1)))), (5, .int r1), (0, .ref (g.ad 31)), (3, .int v3), (4, .int v4)] dX10_pickRow_48 (by decide) rfl ?_
    refine r_aload_n ok 2 dX10_pickRow_49 rfl ?_
    refine r_getR ok 31 2 rfl rfl fo_X10_19 dX10_pickRow_50 ?_
    refine r_iload ok 1 dX10_pickRow_53 rfl ?_
    refine r_iaload ok 33 rfl dX10_pickRow_55 h.1 ?_
    have h := h.2
    refine r_istore_n ok [(3, .int ((st2 S1 34 (cl v4) r1) 33 (cl r1))), (2, .int (v2 &&& ((jshl (nI 1) r1) ^^^ (-1)))), (5, .int r1), (0, .ref (g.ad 31)), (4, .int v4)] dX10_pickRow_56 (by decide) rfl ?_
    refine r_iinc ok 4 (v4 + (nI 1)) [(4, .int (v4 + (nI 1))), (3, .int ((st2 S1 34 (cl v4) r1) 33 (cl r1))), (2, .int (v2 &&& ((jshl (nI 1) r1) ^^^ (-1)))), (5, .int r1), (0, .ref (g.ad 31))] dX10_pickRow_57 rfl rfl (by decide) rfl ?_
    refine r_goto ok 7 dX10_pickRow_60 (by decide) ?_
    exact r_sub [4, 2, 1, 0] _ rfl h
set_option maxRecDepth 10000 in
theorem s_X10_leastStart_0 {l : Launch} {x : Cx} {g : Geo} {K : Int32 → Mem → Prop} (ok : Ok x g shX m_X10_leastStart) (v1 : Int32) (v2 : Int32) (v3 : Int32) (S : Mem) (h : PW l x g shX m_X10_leastStart (Qi x g shX K) 9 [(0, .ref (g.ad 31)), (1, .int v1), (2, .int v2), (3, .int v3), (4, .int (nI 0)), (5, .int (nI 0)), (6, .int (nI 1))] [] S) : PW l x g shX m_X10_leastStart (Qi x g shX K) 0 [(0, .ref (g.ad 31)), (1, .int v1), (2, .int v2), (3, .int v3)] [] S := by
  refine r_iconst ok (nI 0) dX10_leastStart_0 (by decide) ?_
  refine r_istore ok [(4, .int (nI 0)), (0, .ref (g.ad 31)), (1, .int v1), (2, .int v2), (3, .int v3)] dX10_leastStart_1 (by decide) rfl ?_
  refine r_iconst ok (nI 0) dX10_leastStart_3 (by decide) ?_
  refine r_istore ok [(5, .int (nI 0)), (4, .int (nI 0)), (0, .ref (g.ad 31)), (1, .int v1), (2, .int v2), (3, .int v3)] dX10_leastStart_4 (by decide) rfl ?_
  refine r_iconst ok (nI 1) dX10_leastStart_6 (by decide) ?_
  refine r_istore ok [(6, .int (nI 1)), (5, .int (nI 0)), (4, .int (nI 0)), (0, .ref (g.ad 31)), (1, .int v1), (2, .int v2), (3, .int v3)] dX10_leastStart_7 (by decide) rfl ?_
  exact r_sub [3, 4, 5, 6, 2, 1, 0] _ rfl h
set_option maxRecDepth 10000 in
theorem s_X10_leastStart_9 {l : Launch} {x : Cx} {g : Geo} {K : Int32 → Mem → Prop} (ok : Ok x g shX m_X10_leastStart) (v1 : Int32) (v2 : Int32) (v3 : Int32) (v4 : Int32) (v5 : Int32) (v6 : Int32) (S : Mem) (h : (((nI 4096) ≤ v6 → PW l x g shX m_X10_leastStart (Qi x g shX K) 63 [(4, .int v4), (6, .int (nI 0))] [] S) ∧ (¬ (nI 4096) ≤ v6 → ((v5 = v1 → PW l x g shX m_X10_leastStart (Qi x g shX K) 63 [(4, .int v4), (6, .int (nI 0))] [] S) ∧ (¬ v5 = v1 → MWi l g shX m_X10_nextWithin [.int v5, .int v1] S (fun r1 S1 => MWi l g shX m_J6_bitCount_0f7a4 [.int r1] S1 (fun r2 S2 => ((¬ r2 = v2 → PW l x g shX m_X10_leastStart (Qi x g shX K) 9 [(0, .ref (g.ad 31)), (1, .int v1), (2, .int v2), (3, .int v3), (4, .int v4), (5, .int r1), (6, .int (v6 + (nI 1)))] [] S2) ∧ (r2 = v2 → (vp_in r1 4096 ∧ PW l x g shX m_X10_leastStart (Qi x g shX K) 9 [(0, .ref (g.ad 31)), (1, .int v1), (2, .int v2), (3, .int v3), (4, .int (v4 ||| ((S2 32 (cl r1)) &&& v3))), (5, .int r1), (6, .int (v6 + (nI 1)))] [] S2)))))))))) : PW l x g shX m_X10_leastStart (Qi x g shX K) 9 [(0, .ref (g.ad 31)), (1, .int v1), (2, .int v2), (3, .int v3), (4, .int v4), (5, .int v5), (6, .int v6)] [] S := by
  refine r_iload ok 6 dX10_leastStart_9 rfl ?_
  refine r_sipush ok (nI 4096) dX10_leastStart_11 (by decide) ?_
  refine r_icmp_ge ok 60 dX10_leastStart_14 (by decide) ⟨fun c => ?_, fun c => ?_⟩
  · have h := h.1 c
    refine r_iconst ok (nI 0) dX10_leastStart_60 (by decide) ?_
    refine r_istore ok [(6, .int (nI 0)), (0, .ref (g.ad 31)), (1, .int v1), (2, .int v2), (3, .int v3), (4, .int v4), (5, .int v5)] dX10_leastStart_61 (by decide) rfl ?_
    exact r_sub [5, 0] _ rfl h
  · have h := h.2 c
    refine r_iload ok 5 dX10_leastStart_17 rfl ?_
    refine r_iload_n ok 1 dX10_leastStart_19 rfl ?_
    refine r_icmp_eq ok 60 dX10_leastStart_20 (by decide) ⟨fun c => ?_, fun c => ?_⟩
    · have h := h.1 c
      refine r_iconst ok (nI 0) dX10_leastStart_60 (by decide) ?_
      refine r_istore ok [(6, .int (nI 0)), (0, .ref (g.ad 31)), (1, .int v1), (2, .int v2), (3, .int v3), (4, .int v4), (5, .int v5)] dX10_leastStart_61 (by decide) rfl ?_
      exact r_sub [5, 0] _ rfl h
    · have h := h.2 c
      refine r_iload ok 5 dX10_leastStart_23 rfl ?_
      refine r_iload_n ok 1 dX10_leastStart_25 rfl ?_
      refine r_stati ok (rest := []) (As := [.int v5, .int v1]) _ k_X10_leastStart_35 rfl rfl (Nat.le_of_ble_eq_true rfl) dX10_leastStart_26 (MWi.mono h (fun r1 S1 h => ?_))
      refine r_istore ok [(5, .int r1), (0, .ref (g.ad 31)), (1, .int v1), (2, .int v2), (3, .int v3), (4, .int v4), (6, .int v6)] dX10_leastStart_29 (by decide) rfl ?_
      refine r_iload ok 0 dX10_leastStart_31 rfl ?_
      refine r_stati ok (rest := []) (As := [.int r1]) _ k_X10_leastStart_43 rfl rfl (Nat.le_of_ble_eq_true rfl) dX10_leastStart_33 (MWi.mono h (fun r2 S2 h => ?_))
      refine r_iload_n ok 3 dX10_leastStart_36 rfl ?_
      refine r_icmp_ne ok 54 dX10_leastStart_37 (by decide) ⟨fun c => ?_, fun c => ?_⟩
      · have h := h.1 c
        refine r_iinc ok 6 (v6 + (nI 1)) [(6, .int (v6 + (nI 1))), (5, .int r1), (0, .ref (g.ad 31)), (1, .int v1), (2, .int v2), (3, .int v3), (4, .int v4)] dX10_leastStart_54 rfl rfl (by decide) rfl ?_
        refine r_goto ok 9 dX10_leastStart_57 (by decide) ?_
        exact r_sub [2, 3, 4, 5, 6, 1, 0] _ rfl h
      · have h := h.2 c
        refine r_iload ok 5 dX10_leastStart_40 rfl ?_
        refine r_aload_n ok 1 dX10_leastStart_42 rfl ?_
        refine r_getR ok 31 1 rfl rfl fo_X10_15 dX10_leastStart_43 ?_
        refine r_iload ok 0 dX10_leastStart_46 rfl ?_
        refine r_iaload ok 32 rfl dX10_leastStart_48 h.1 ?_
        have h := h.2
        refine r_iload_n ok 4 dX10_leastStart_49 rfl ?_
        refine r_iand ok dX10_leastStart_50 ?_
        refine r_ior ok dX10_leastStart_51 ?_
        refine r_istore ok [(4, .int (v4 ||| ((S2 32 (cl r1)) &&& v3))), (5, .int r1), (0, .ref (g.ad 31)), (1, .int v1), (2, .int v2), (3, .int v3), (6, .int v6)] dX10_leastStart_52 (by decide) rfl ?_
        refine r_iinc ok 6 (v6 + (nI 1)) [(6, .int (v6 + (nI 1))), (4, .int (v4 ||| ((S2 32 (cl r1)) &&& v3))), (5, .int r1), (0, .ref (g.ad 31)), (1, .int v1), (2, .int v2), (3, .int v3)] dX10_leastStart_54 rfl rfl (by decide) rfl ?_
        refine r_goto ok 9 dX10_leastStart_57 (by decide) ?_
        exact r_sub [3, 4, 5, 6, 1, 2, 0] _ rfl h
set_option maxRecDepth 10000 in
theorem s_X10_leastStart_63 {l : Launch} {x : Cx} {g : Geo} {K : Int32 → Mem → Prop} (ok : Ok x g shX m_X10_leastStart) (v4 : Int32) (v6 : Int32) (S : Mem) (h : (((nI 12) ≤ v6 → K (nI 0) S) ∧ (¬ (nI 12) ≤ v6 → MWi l g shX m_X11_hasBit [.int v4, .int v6] S (fun r1 S1 => ((r1 = 0 → PW l x g shX m_X10_leastStart (Qi x g shX K) 63 [(4, .int v4), (6, .int (v6 + (nI 1)))] [] S1) ∧ (¬ r1 = 0 → K v6 S1)))))) : PW l x g shX m_X10_leastStart (Qi x g shX K) 63 [(4, .int v4), (6, .int v6)] [] S := by
  refine r_iload ok 1 dX10_leastStart_63 rfl ?_
  refine r_bipush ok (nI 12) dX10_leastStart_65 (by decide) ?_
  refine r_icmp_ge ok 89 dX10_leastStart_67 (by decide) ⟨fun c => ?_, fun c => ?_⟩
  · have h := h.1 c
    refine r_iconst ok (nI 0) dX10_leastStart_89 (by decide) ?_
    exact r_iret ok rfl dX10_leastStart_90 h
  · have h := h.2 c
    refine r_iload ok 0 dX10_leastStart_70 rfl ?_
    refine r_iload ok 1 dX10_leastStart_72 rfl ?_
    refine r_nesti ok (rest := []) (As := [.int v4, .int v6]) _ k_X10_leastStart_70 rfl rfl (Nat.le_of_ble_eq_true rfl) dX10_leastStart_74 (MWi.mono h (fun r1 S1 h => ?_))
    refine r_if_eq ok 83 dX10_leastStart_77 (by decide) ⟨fun c => ?_, fun c => ?_⟩
    · have h := h.1 c
      refine r_iinc ok 1 (v6 + (nI 1)) [(6, .int (v6 + (nI 1))), (4, .int v4)] dX10_leastStart_83 rfl rfl (by decide) rfl ?_
      refine r_goto ok 63 dX10_leastStart_86 (by decide) ?_
      exact r_sub [1, 0] _ rfl h
    · have h := h.2 c
      refine r_iload ok 1 dX10_leastStart_80 rfl ?_
      exact r_iret ok rfl dX10_leastStart_82 h
