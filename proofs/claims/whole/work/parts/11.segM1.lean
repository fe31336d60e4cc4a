/-! segments, written by program: 11.segM1.lean.txt -/
set_option maxRecDepth 10000 in
theorem s_X12_findReading_0 {l : Launch} {x : Cx} {g : Geo} {K : Mem → Prop} (ok : Ok x g shM m_X12_findReading) (v1 : Int32) (v2 : Int32) (v3 : Int32) (v4 : Int32) (S : Mem) (h : ((¬ ((jshr v3 v4) &&& (nI 1)) = (nI 1) → MWi l g shM m_X12_signsOf [.ref (g.ad 0), .int v4] (st2 (st2 S 0 14 (nI 3)) 0 15 (-6)) (fun r1 S1 => ((¬ (r1 &&& (v2 ^^^ (-1))) = 0 → (vp_in ((nI 5) * v4) 60 ∧ ((¬ ((jshr v2 (S1 1 (cl ((nI 5) * v4)))) &&& (nI 1)) = (nI 1) → K S1) ∧ (((jshr v2 (S1 1 (cl ((nI 5) * v4)))) &&& (nI 1)) = (nI 1) → (vp_in ((nI 5) * v4) 60 ∧ MWi l g shM m_X12_guessed [.ref (g.ad 0), .int ((st2 S1 0 14 (nI 2)) 1 (cl ((nI 5) * v4)))] (st2 S1 0 14 (nI 2)) (fun r2 S2 => K (st2 S2 0 15 r2))))))) ∧ ((r1 &&& (v2 ^^^ (-1))) = 0 → MWi l g shM m_X12_sounded [.ref (g.ad 0), .int v1, .int v4] (st2 S1 0 14 (nI 1)) (fun r3 S3 => K (st2 S3 0 15 r3)))))) ∧ (((jshr v3 v4) &&& (nI 1)) = (nI 1) → K (st2 (st2 (st2 (st2 S 0 14 (nI 3)) 0 15 (-6)) 0 14 (nI 0)) 0 15 v4)))) : PW l x g shM m_X12_findReading (Qv x g shM K) 0 [(0, .ref (g.ad 0)), (1, .int v1), (2, .int v2), (3, .int v3), (4, .int v4)] [] S := by
  refine r_aload_n ok 0 dX12_findReading_0 rfl ?_
  refine r_iconst ok (nI 3) dX12_findReading_1 (by decide) ?_
  refine r_put ok 0 14 rfl rfl po_X12_165 rfl rfl dX12_findReading_2 ?_
  refine r_aload_n ok 0 dX12_findReading_5 rfl ?_
  refine r_bipush ok (-6) dX12_findReading_6 (by decide) ?_
  refine r_put ok 0 15 rfl rfl po_X12_168 rfl rfl dX12_findReading_8 ?_
  refine r_iload_n ok 3 dX12_findReading_11 rfl ?_
  refine r_iload ok 4 dX12_findReading_12 rfl ?_
  refine r_ishr ok dX12_findReading_14 ?_
  refine r_iconst ok (nI 1) dX12_findReading_15 (by decide) ?_
  refine r_iand ok dX12_findReading_16 ?_
  refine r_iconst ok (nI 1) dX12_findReading_17 (by decide) ?_
  refine r_icmp_ne ok 35 dX12_findReading_18 (by decide) ⟨fun c => ?_, fun c => ?_⟩
  · have h := h.1 c
    refine r_aload_n ok 0 dX12_findReading_35 rfl ?_
    refine r_iload ok 4 dX12_findReading_36 rfl ?_
    refine r_virti ok (rest := []) (As := [.int v4]) 0 _ k_X12_findReading_133 rfl rfl rfl rfl (Nat.le_of_ble_eq_true rfl) dX12_findReading_38 (MWi.mono h (fun r1 S1 h => ?_))
    refine r_iload_n ok 2 dX12_findReading_41 rfl ?_
    refine r_iconst ok (-1) dX12_findReading_42 (by decide) ?_
    refine r_ixor ok dX12_findReading_43 ?_
    refine r_iand ok dX12_findReading_44 ?_
    refine r_if_ne ok 67 dX12_findReading_45 (by decide) ⟨fun c => ?_, fun c => ?_⟩
    · have h := h.1 c
      refine r_iload_n ok 2 dX12_findReading_67 rfl ?_
      refine r_aload_n ok 0 dX12_findReading_68 rfl ?_
      refine r_getR ok 0 0 rfl rfl fo_X12_7 dX12_findReading_69 ?_
      refine r_iconst ok (nI 5) dX12_findReading_72 (by decide) ?_
      refine r_iload ok 4 dX12_findReading_73 rfl ?_
      refine r_imul ok dX12_findReading_75 ?_
      refine r_iaload ok 1 rfl dX12_findReading_76 h.1 ?_
      have h := h.2
      refine r_ishr ok dX12_findReading_77 ?_
      refine r_iconst ok (nI 1) dX12_findReading_78 (by decide) ?_
      refine r_iand ok dX12_findReading_79 ?_
      refine r_iconst ok (nI 1) dX12_findReading_80 (by decide) ?_
      refine r_icmp_ne ok 106 dX12_findReading_81 (by decide) ⟨fun c => ?_, fun c => ?_⟩
      · have h := h.1 c
        exact r_ret ok rfl dX12_findReading_106 h
      · have h := h.2 c
        refine r_aload_n ok 0 dX12_findReading_84 rfl ?_
        refine r_iconst ok (nI 2) dX12_findReading_85 (by decide) ?_
        refine r_put ok 0 14 rfl rfl po_X12_165 rfl rfl dX12_findReading_86 ?_
        refine r_aload_n ok 0 dX12_findReading_89 rfl ?_
        refine r_aload_n ok 0 dX12_findReading_90 rfl ?_
        refine r_aload_n ok 0 dX12_findReading_91 rfl ?_
        refine r_getR ok 0 0 rfl rfl fo_X12_7 dX12_findReading_92 ?_
        refine r_iconst ok (nI 5) dX12_findReading_95 (by decide) ?_
        refine r_iload ok 4 dX12_findReading_96 rfl ?_
        refine r_imul ok dX12_findReading_98 ?_
        refine r_iaload ok 1 rfl dX12_findReading_99 h.1 ?_
        have h := h.2
        refine r_virti ok (rest := [.ref (g.ad 0)]) (As := [.int ((st2 S1 0 14 (nI 2)) 1 (cl ((nI 5) * v4)))]) 0 _ k_X12_findReading_175 rfl rfl rfl rfl (Nat.le_of_ble_eq_true rfl) dX12_findReading_100 (MWi.mono h (fun r2 S2 h => ?_))
        refine r_put ok 0 15 rfl rfl po_X12_168 rfl rfl dX12_findReading_103 ?_
        exact r_ret ok rfl dX12_findReading_106 h
    · have h := h.2 c
      refine r_aload_n ok 0 dX12_findReading_48 rfl ?_
      refine r_iconst ok (nI 1) dX12_findReading_49 (by decide) ?_
      refine r_put ok 0 14 rfl rfl po_X12_165 rfl rfl dX12_findReading_50 ?_
      refine r_aload_n ok 0 dX12_findReading_53 rfl ?_
      refine r_aload_n ok 0 dX12_findReading_54 rfl ?_
      refine r_iload_n ok 1 dX12_findReading_55 rfl ?_
      refine r_iload ok 4 dX12_findReading_56 rfl ?_
      refine r_virti ok (rest := [.ref (g.ad 0)]) (As := [.int v1, .int v4]) 0 _ k_X12_findReading_171 rfl rfl rfl rfl (Nat.le_of_ble_eq_true rfl) dX12_findReading_58 (MWi.mono h (fun r3 S3 h => ?_))
      refine r_put ok 0 15 rfl rfl po_X12_168 rfl rfl dX12_findReading_61 ?_
      refine r_goto ok 106 dX12_findReading_64 (by decide) ?_
      exact r_ret ok rfl dX12_findReading_106 h
  · have h := h.2 c
    refine r_aload_n ok 0 dX12_findReading_21 rfl ?_
    refine r_iconst ok (nI 0) dX12_findReading_22 (by decide) ?_
    refine r_put ok 0 14 rfl rfl po_X12_165 rfl rfl dX12_findReading_23 ?_
    refine r_aload_n ok 0 dX12_findReading_26 rfl ?_
    refine r_iload ok 4 dX12_findReading_27 rfl ?_
    refine r_put ok 0 15 rfl rfl po_X12_168 rfl rfl dX12_findReading_29 ?_
    refine r_goto ok 106 dX12_findReading_32 (by decide) ?_
    exact r_ret ok rfl dX12_findReading_106 h
set_option maxRecDepth 10000 in
theorem s_X12_soundsAs_0 {l : Launch} {x : Cx} {g : Geo} {K : Int32 → Mem → Prop} (ok : Ok x g shM m_X12_soundsAs) (v1 : Int32) (v2 : Int32) (v3 : Int32) (S : Mem) (h : (vp_in v3 12 ∧ (vp_in v2 12 ∧ ((¬ (S 3 (cl v3)) = (S 3 (cl v2)) → PW l x g shM m_X12_soundsAs (Qi x g shM K) 25 [(0, .ref (g.ad 0)), (1, .int v1), (2, .int v2), (3, .int v3), (4, .int (nI 0)), (5, .int (nI 0))] [] S) ∧ ((S 3 (cl v3)) = (S 3 (cl v2)) → PW l x g shM m_X12_soundsAs (Qi x g shM K) 25 [(0, .ref (g.ad 0)), (1, .int v1), (2, .int v2), (3, .int v3), (4, .int (nI 1)), (5, .int (nI 0))] [] S))))) : PW l x g shM m_X12_soundsAs (Qi x g shM K) 0 [(0, .ref (g.ad 0)), (1, .int v1), (2, .int v2), (3, .int v3)] [] S := by
  refine r_aload_n ok 0 dX12_soundsAs_0 rfl ?_
  refine r_getR ok 0 2 rfl rfl fo_X12_16 dX12_soundsAs_1 ?_
  refine r_iload_n ok 3 dX12_soundsAs_4 rfl ?_
  refine r_iaload ok 3 rfl dX12_soundsAs_5 h.1 ?_
  have h := h.2
  refine r_aload_n ok 0 dX12_soundsAs_6 rfl ?_
  refine r_getR ok 0 2 rfl rfl fo_X12_16 dX12_soundsAs_7 ?_
  refine r_iload_n ok 2 dX12_soundsAs_10 rfl ?_
  refine r_iaload ok 3 rfl dX12_soundsAs_11 h.1 ?_
  have h := h.2
  refine r_icmp_ne ok 19 dX12_soundsAs_12 (by decide) ⟨fun c => ?_, fun c => ?_⟩
  · have h := h.1 c
    refine r_iconst ok (nI 0) dX12_soundsAs_19 (by decide) ?_
    refine r_istore ok [(4, .int (nI 0)), (0, .ref (g.ad 0)), (1, .int v1), (2, .int v2), (3, .int v3)] dX12_soundsAs_20 (by decide) rfl ?_
    refine r_iconst ok (nI 0) dX12_soundsAs_22 (by decide) ?_
    refine r_istore ok [(5, .int (nI 0)), (4, .int (nI 0)), (0, .ref (g.ad 0)), (1, .int v1), (2, .int v2), (3, .int v3)] dX12_soundsAs_23 (by decide) rfl ?_
    exact r_sub [2, 3, 4, 5, 1, 0] _ rfl h
  · have h := h.2 c
    refine r_iconst ok (nI 1) dX12_soundsAs_15 (by decide) ?_
    refine r_goto ok 20 dX12_soundsAs_16 (by decide) ?_
    refine r_istore ok [(4, .int (nI 1)), (0, .ref (g.ad 0)), (1, .int v1), (2, .int v2), (3, .int v3)] dX12_soundsAs_20 (by decide) rfl ?_
    refine r_iconst ok (nI 0) dX12_soundsAs_22 (by decide) ?_
    refine r_istore ok [(5, .int (nI 0)), (4, .int (nI 1)), (0, .ref (g.ad 0)), (1, .int v1), (2, .int v2), (3, .int v3)] dX12_soundsAs_23 (by decide) rfl ?_
    exact r_sub [2, 3, 4, 5, 1, 0] _ rfl h
set_option maxRecDepth 10000 in
theorem s_X12_soundsAs_25 {l : Launch} {x : Cx} {g : Geo} {K : Int32 → Mem → Prop} (ok : Ok x g shM m_X12_soundsAs) (v1 : Int32) (v2 : Int32) (v3 : Int32) (v4 : Int32) (v5 : Int32) (S : Mem) (h : (vp_in v2 12 ∧ (((S 3 (cl v2)) ≤ v5 → (narrow .boolean (.int v4) = .int v4 ∧ K v4 S)) ∧ (¬ (S 3 (cl v2)) ≤ v5 → ((v4 = 0 → (narrow .boolean (.int v4) = .int v4 ∧ K v4 S)) ∧ (¬ v4 = 0 → (vp_in (((nI 5) * v2) + v5) 60 ∧ MWi l g shM m_X12_takenFor [.ref (g.ad 0), .int v1, .int (S 1 (cl (((nI 5) * v2) + v5)))] S (fun r1 S1 => (vp_in r1 10 ∧ (((S1 7 (cl r1)) < 0 → PW l x g shM m_X12_soundsAs (Qi x g shM K) 25 [(0, .ref (g.ad 0)), (1, .int v1), (2, .int v2), (3, .int v3), (4, .int (nI 0)), (5, .int (v5 + (nI 1)))] [] S1) ∧ (¬ (S1 7 (cl r1)) < 0 → (vp_in (((nI 5) * v3) + v5) 60 ∧ ((¬ (S1 7 (cl r1)) = (S1 2 (cl (((nI 5) * v3) + v5))) → PW l x g shM m_X12_soundsAs (Qi x g shM K) 25 [(0, .ref (g.ad 0)), (1, .int v1), (2, .int v2), (3, .int v3), (4, .int (nI 0)), (5, .int (v5 + (nI 1)))] [] S1) ∧ ((S1 7 (cl r1)) = (S1 2 (cl (((nI 5) * v3) + v5))) → PW l x g shM m_X12_soundsAs (Qi x g shM K) 25 [(0, .ref (g.ad 0)), (1, .int v1), (2, .int v2), (3, .int v3), (4, .int (nI 1)), (5, .int (v5 + (nI 1)))] [] S1)))))))))))))) : PW l x g shM m_X12_soundsAs (Qi x g shM K) 25 [(0, .ref (g.ad 0)), (1, .int v1), (2, .int v2), (3, .int v3), (4, .int v4), (5, .int v5)] [] S := by
  refine r_iload ok 5 dX12_soundsAs_25 rfl ?_
  refine r_aload_n ok 0 dX12_soundsAs_27 rfl ?_
  refine r_getR ok 0 2 rfl rfl fo_X12_16 dX12_soundsAs_28 ?_
  refine r_iload_n ok 2 dX12_soundsAs_31 rfl ?_
  refine r_iaload ok 3 rfl dX12_soundsAs_32 h.1 ?_
  have h := h.2
  refine r_icmp_ge ok 98 dX12_soundsAs_33 (by decide) ⟨fun c => ?_, fun c => ?_⟩
  · have h := h.1 c
    refine r_iload ok 4 dX12_soundsAs_98 rfl ?_
    exact r_zret ok rfl dX12_soundsAs_100 h
  · have h := h.2 c
    refine r_iload ok 4 dX12_soundsAs_36 rfl ?_
    refine r_if_eq ok 98 dX12_soundsAs_38 (by decide) ⟨fun c => ?_, fun c => ?_⟩
    · have h := h.1 c
      refine r_iload ok 4 dX12_soundsAs_98 rfl ?_
      exact r_zret ok rfl dX12_soundsAs_100 h
    · have h := h.2 c
      refine r_aload_n ok 0 dX12_soundsAs_41 rfl ?_
      refine r_getR ok 0 9 rfl rfl fo_X12_28 dX12_soundsAs_42 ?_
      refine r_aload_n ok 0 dX12_soundsAs_45 rfl ?_
      refine r_iload_n ok 1 dX12_soundsAs_46 rfl ?_
      refine r_aload_n ok 0 dX12_soundsAs_47 rfl ?_
      refine r_getR ok 0 0 rfl rfl fo_X12_7 dX12_soundsAs_48 ?_
      refine r_iconst ok (nI 5) dX12_soundsAs_51 (by decide) ?_
      refine r_iload_n ok 2 dX12_soundsAs_52 rfl ?_
      refine r_imul ok dX12_soundsAs_53 ?_
      refine r_iload ok 5 dX12_soundsAs_54 rfl ?_
      refine r_iadd ok dX12_soundsAs_56 ?_
      refine r_iaload ok 1 rfl dX12_soundsAs_57 h.1 ?_
      have h := h.2
      refine r_virti ok (rest := [.ref (g.ad 7)]) (As := [.int v1, .int (S 1 (cl (((nI 5) * v2) + v5)))]) 0 _ k_X12_soundsAs_178 rfl rfl rfl rfl (Nat.le_of_ble_eq_true rfl) dX12_soundsAs_58 (MWi.mono h (fun r1 S1 h => ?_))
      refine r_iaload ok 7 rfl dX12_soundsAs_61 h.1 ?_
      have h := h.2
      refine r_istore ok [(6, .int (S1 7 (cl r1))), (0, .ref (g.ad 0)), (1, .int v1), (2, .int v2), (3, .int v3), (4, .int v4), (5, .int v5)] dX12_soundsAs_62 (by decide) rfl ?_
      refine r_iload ok 0 dX12_soundsAs_64 rfl ?_
      refine r_if_lt ok 89 dX12_soundsAs_66 (by decide) ⟨fun c => ?_, fun c => ?_⟩
      · have h := h.1 c
        refine r_iconst ok (nI 0) dX12_soundsAs_89 (by decide) ?_
        refine r_istore ok [(4, .int (nI 0)), (6, .int (S1 7 (cl r1))), (0, .ref (g.ad 0)), (1, .int v1), (2, .int v2), (3, .int v3), (5, .int v5)] dX12_soundsAs_90 (by decide) rfl ?_
        refine r_iinc ok 6 (v5 + (nI 1)) [(5, .int (v5 + (nI 1))), (4, .int (nI 0)), (6, .int (S1 7 (cl r1))), (0, .ref (g.ad 0)), (1, .int v1), (2, .int v2), (3, .int v3)] dX12_soundsAs_92 rfl rfl (by decide) rfl ?_
        refine r_goto ok 25 dX12_soundsAs_95 (by decide) ?_
        exact r_sub [3, 4, 5, 6, 1, 0] _ rfl h
      · have h := h.2 c
        refine r_iload ok 0 dX12_soundsAs_69 rfl ?_
        refine r_aload_n ok 1 dX12_soundsAs_71 rfl ?_
        refine r_getR ok 0 1 rfl rfl fo_X12_13 dX12_soundsAs_72 ?_
        refine r_iconst ok (nI 5) dX12_soundsAs_75 (by decide) ?_
        refine r_iload_n ok 4 dX12_soundsAs_76 rfl ?_
        refine r_imul ok dX12_soundsAs_77 ?_
        refine r_iload ok 6 dX12_soundsAs_78 rfl ?_
        refine r_iadd ok dX12_soundsAs_80 ?_
        refine r_iaload ok 2 rfl dX12_soundsAs_81 h.1 ?_
        have h := h.2
        refine r_icmp_ne ok 89 dX12_soundsAs_82 (by decide) ⟨fun c => ?_, fun c => ?_⟩
        · have h := h.1 c
          refine r_iconst ok (nI 0) dX12_soundsAs_89 (by decide) ?_
          refine r_istore ok [(4, .int (nI 0)), (6, .int (S1 7 (cl r1))), (0, .ref (g.ad 0)), (1, .int v1), (2, .int v2), (3, .int v3), (5, .int v5)] dX12_soundsAs_90 (by decide) rfl ?_
          refine r_iinc ok 6 (v5 + (nI 1)) [(5, .int (v5 + (nI 1))), (4, .int (nI 0)), (6, .int (S1 7 (cl r1))), (0, .ref (g.ad 0)), (1, .int v1), (2, .int v2), (3, .int v3)] dX12_soundsAs_92 rfl rfl (by decide) rfl ?_
          refine r_goto ok 25 dX12_soundsAs_95 (by decide) ?_
          exact r_sub [3, 4, 5, 6, 1, 0] _ rfl h
        · have h := h.2 c
          refine r_iconst ok (nI 1) dX12_soundsAs_85 (by decide) ?_
          refine r_goto ok 90 dX12_soundsAs_86 (by decide) ?_
          refine r_istore ok [(4, .int (nI 1)), (6, .int (S1 7 (cl r1))), (0, .ref (g.ad 0)), (1, .int v1), (2, .int v2), (3, .int v3), (5, .int v5)] dX12_soundsAs_90 (by decide) rfl ?_
          refine r_iinc ok 6 (v5 + (nI 1)) [(5, .int (v5 + (nI 1))), (4, .int (nI 1)), (6, .int (S1 7 (cl r1))), (0, .ref (g.ad 0)), (1, .int v1), (2, .int v2), (3, .int v3)] dX12_soundsAs_92 rfl rfl (by decide) rfl ?_
          refine r_goto ok 25 dX12_soundsAs_95 (by decide) ?_
          exact r_sub [3, 4, 5, 6, 1, 0] _ rfl h
set_option maxRecDepth 10000 in
theorem s_X12_sounded_0 {l : Launch} {x : Cx} {g : Geo} {K : Int32 → Mem → Prop} (ok : Ok x g shM m_X12_sounded) (v1 : Int32) (v2 : Int32) (S : Mem) (h : MWi l g shM m_X12_soundsAs [.ref (g.ad 0), .int v1, .int v2, .int v2] S (fun r1 S1 => ((r1 = 0 → PW l x g shM m_X12_sounded (Qi x g shM K) 14 [(0, .ref (g.ad 0)), (1, .int v1), (2, .int v2), (3, .int (nI 0))] [] S1) ∧ (¬ r1 = 0 → K v2 S1)))) : PW l x g shM m_X12_sounded (Qi x g shM K) 0 [(0, .ref (g.ad 0)), (1, .int v1), (2, .int v2)] [] S := by
  refine r_aload_n ok 0 dX12_sounded_0 rfl ?_
  refine r_iload_n ok 1 dX12_sounded_1 rfl ?_
  refine r_iload_n ok 2 dX12_sounded_2 rfl ?_
  refine r_iload_n ok 2 dX12_sounded_3 rfl ?_
  refine r_virti ok (rest := []) (As := [.int v1, .int v2, .int v2]) 0 _ k_X12_sounded_181 rfl rfl rfl rfl (Nat.le_of_ble_eq_true rfl) dX12_sounded_4 (MWi.mono h (fun r1 S1 h => ?_))
  refine r_if_eq ok 12 dX12_sounded_7 (by decide) ⟨fun c => ?_, fun c => ?_⟩
  · have h := h.1 c
    refine r_iconst ok (nI 0) dX12_sounded_12 (by decide) ?_
    refine r_istore_n ok [(3, .int (nI 0)), (0, .ref (g.ad 0)), (1, .int v1), (2, .int v2)] dX12_sounded_13 (by decide) rfl ?_
    exact r_sub [1, 2, 3, 0] _ rfl h
  · have h := h.2 c
    refine r_iload_n ok 2 dX12_sounded_10 rfl ?_
    exact r_iret ok rfl dX12_sounded_11 h
set_option maxRecDepth 10000 in
theorem s_X12_sounded_14 {l : Launch} {x : Cx} {g : Geo} {K : Int32 → Mem → Prop} (ok : Ok x g shM m_X12_sounded) (v1 : Int32) (v2 : Int32) (v3 : Int32) (S : Mem) (h : (((S 0 4) ≤ v3 → K (-6) S) ∧ (¬ (S 0 4) ≤ v3 → MWi l g shM m_X12_soundsAs [.ref (g.ad 0), .int v1, .int v2, .int v3] S (fun r1 S1 => ((r1 = 0 → PW l x g shM m_X12_sounded (Qi x g shM K) 14 [(0, .ref (g.ad 0)), (1, .int v1), (2, .int v2), (3, .int (v3 + (nI 1)))] [] S1) ∧ (¬ r1 = 0 → K v3 S1)))))) : PW l x g shM m_X12_sounded (Qi x g shM K) 14 [(0, .ref (g.ad 0)), (1, .int v1), (2, .int v2), (3, .int v3)] [] S := by
  refine r_iload_n ok 3 dX12_sounded_14 rfl ?_
  refine r_aload_n ok 0 dX12_sounded_15 rfl ?_
  refine r_getI ok 0 4 rfl rfl fo_X12_105 dX12_sounded_16 ?_
  refine r_icmp_ge ok 40 dX12_sounded_19 (by decide) ⟨fun c => ?_, fun c => ?_⟩
  · have h := h.1 c
    refine r_bipush ok (-6) dX12_sounded_40 (by decide) ?_
    exact r_iret ok rfl dX12_sounded_42 h
  · have h := h.2 c
    refine r_aload_n ok 0 dX12_sounded_22 rfl ?_
    refine r_iload_n ok 1 dX12_sounded_23 rfl ?_
    refine r_iload_n ok 2 dX12_sounded_24 rfl ?_
    refine r_iload_n ok 3 dX12_sounded_25 rfl ?_
    refine r_virti ok (rest := []) (As := [.int v1, .int v2, .int v3]) 0 _ k_X12_sounded_181 rfl rfl rfl rfl (Nat.le_of_ble_eq_true rfl) dX12_sounded_26 (MWi.mono h (fun r1 S1 h => ?_))
    refine r_if_eq ok 34 dX12_sounded_29 (by decide) ⟨fun c => ?_, fun c => ?_⟩
    · have h := h.1 c
      refine r_iinc ok 3 (v3 + (nI 1)) [(3, .int (v3 + (nI 1))), (0, .ref (g.ad 0)), (1, .int v1), (2, .int v2)] dX12_sounded_34 rfl rfl (by decide) rfl ?_
      refine r_goto ok 14 dX12_sounded_37 (by decide) ?_
      exact r_sub [1, 2, 3, 0] _ rfl h
    · have h := h.2 c
      refine r_iload_n ok 3 dX12_sounded_32 rfl ?_
      exact r_iret ok rfl dX12_sounded_33 h
set_option maxRecDepth 10000 in
theorem s_X12_guessed_0 {l : Launch} {x : Cx} {g : Geo} {K : Int32 → Mem → Prop} (ok : Ok x g shM m_X12_guessed) (v1 : Int32) (S : Mem) (h : PW l x g shM m_X12_guessed (Qi x g shM K) 5 [(0, .ref (g.ad 0)), (1, .int v1), (2, .int (-6)), (3, .int (nI 0))] [] S) : PW l x g shM m_X12_guessed (Qi x g shM K) 0 [(0, .ref (g.ad 0)), (1, .int v1)] [] S := by
  refine r_bipush ok (-6) dX12_guessed_0 (by decide) ?_
  refine r_istore_n ok [(2, .int (-6)), (0, .ref (g.ad 0)), (1, .int v1)] dX12_guessed_2 (by decide) rfl ?_
  refine r_iconst ok (nI 0) dX12_guessed_3 (by decide) ?_
  refine r_istore_n ok [(3, .int (nI 0)), (2, .int (-6)), (0, .ref (g.ad 0)), (1, .int v1)] dX12_guessed_4 (by decide) rfl ?_
  exact r_sub [2, 3, 1, 0] _ rfl h
set_option maxRecDepth 10000 in
theorem s_X12_guessed_5 {l : Launch} {x : Cx} {g : Geo} {K : Int32 → Mem → Prop} (ok : Ok x g shM m_X12_guessed) (v1 : Int32) (v2 : Int32) (v3 : Int32) (S : Mem) (h : (((S 0 4) ≤ v3 → K v2 S) ∧ (¬ (S 0 4) ≤ v3 → (vp_in ((nI 5) * v3) 60 ∧ ((¬ (S 1 (cl ((nI 5) * v3))) = v1 → PW l x g shM m_X12_guessed (Qi x g shM K) 5 [(0, .ref (g.ad 0)), (1, .int v1), (2, .int v2), (3, .int (v3 + (nI 1)))] [] S) ∧ ((S 1 (cl ((nI 5) * v3))) = v1 → ((v2 < 0 → PW l x g shM m_X12_guessed (Qi x g shM K) 5 [(0, .ref (g.ad 0)), (1, .int v1), (2, .int v3), (3, .int (v3 + (nI 1)))] [] S) ∧ (¬ v2 < 0 → (vp_in v3 12 ∧ (vp_in v2 12 ∧ (((S 4 (cl v3)) ≤ (S 4 (cl v2)) → PW l x g shM m_X12_guessed (Qi x g shM K) 5 [(0, .ref (g.ad 0)), (1, .int v1), (2, .int v2), (3, .int (v3 + (nI 1)))] [] S) ∧ (¬ (S 4 (cl v3)) ≤ (S 4 (cl v2)) → PW l x g shM m_X12_guessed (Qi x g shM K) 5 [(0, .ref (g.ad 0)), (1, .int v1), (2, .int v3), (3, .int (v3 + (nI 1)))] [] S)))))))))))) : PW l x g shM m_X12_guessed (Qi x g shM K) 5 [(0, .ref (g.ad 0)), (1, .int v1), (2, .int v2), (3, .int v3)] [] S := by
  refine r_iload_n ok 3 dX12_guessed_5 rfl ?_
  refine r_aload_n ok 0 dX12_guessed_6 rfl ?_
  refine r_getI ok 0 4 rfl rfl fo_X12_105 dX12_guessed_7 ?_
  refine r_icmp_ge ok 56 dX12_guessed_10 (by decide) ⟨fun c => ?_, fun c => ?_⟩
  · have h := h.1 c
    refine r_iload_n ok 2 dX12_guessed_56 rfl ?_
    exact r_iret ok rfl dX12_guessed_57 h
  · have h := h.2 c
    refine r_aload_n ok 0 dX12_guessed_13 rfl ?_
    refine r_getR ok 0 0 rfl rfl fo_X12_7 dX12_guessed_14 ?_
    refine r_iconst ok (nI 5) dX12_guessed_17 (by decide) ?_
    refine r_iload_n ok 3 dX12_guessed_18 rfl ?_
    refine r_imul ok dX12_guessed_19 ?_
    refine r_iaload ok 1 rfl dX12_guessed_20 h.1 ?_
    have h := h.2
    refine r_iload_n ok 1 dX12_guessed_21 rfl ?_
    refine r_icmp_ne ok 48 dX12_guessed_22 (by decide) ⟨fun c => ?_, fun c => ?_⟩
    · have h := h.1 c
      refine r_iload_n ok 2 dX12_guessed_48 rfl ?_
      refine r_istore_n ok [(2, .int v2), (0, .ref (g.ad 0)), (1, .int v1), (3, .int v3)] dX12_guessed_49 (by decide) rfl ?_
      refine r_iinc ok 3 (v3 + (nI 1)) [(3, .int (v3 + (nI 1))), (2, .int v2), (0, .ref (g.ad 0)), (1, .int v1)] dX12_guessed_50 rfl rfl (by decide) rfl ?_
      refine r_goto ok 5 dX12_guessed_53 (by decide) ?_
      exact r_sub [2, 3, 1, 0] _ rfl h
    · have h := h.2 c
      refine r_iload_n ok 2 dX12_guessed_25 rfl ?_
      refine r_if_lt ok 44 dX12_guessed_26 (by decide) ⟨fun c => ?_, fun c => ?_⟩
      · have h := h.1 c
        refine r_iload_n ok 3 dX12_guessed_44 rfl ?_
        refine r_goto ok 49 dX12_guessed_45 (by decide) ?_
        refine r_istore_n ok [(2, .int v3), (0, .ref (g.ad 0)), (1, .int v1), (3, .int v3)] dX12_guessed_49 (by decide) rfl ?_
        refine r_iinc ok 3 (v3 + (nI 1)) [(3, .int (v3 + (nI 1))), (2, .int v3), (0, .ref (g.ad 0)), (1, .int v1)] dX12_guessed_50 rfl rfl (by decide) rfl ?_
        refine r_goto ok 5 dX12_guessed_53 (by decide) ?_
        exact r_sub [2, 3, 1, 0] _ rfl h
      · have h := h.2 c
        refine r_aload_n ok 0 dX12_guessed_29 rfl ?_
        refine r_getR ok 0 3 rfl rfl fo_X12_19 dX12_guessed_30 ?_
        refine r_iload_n ok 3 dX12_guessed_33 rfl ?_
        refine r_iaload ok 4 rfl dX12_guessed_34 h.1 ?_
        have h := h.2
        refine r_aload_n ok 0 dX12_guessed_35 rfl ?_
        refine r_getR ok 0 3 rfl rfl fo_X12_19 dX12_guessed_36 ?_
        refine r_iload_n ok 2 dX12_guessed_39 rfl ?_
        refine r_iaload ok 4 rfl dX12_guessed_40 h.1 ?_
        have h := h.2
        refine r_icmp_le ok 48 dX12_guessed_41 (by decide) ⟨fun c => ?_, fun c => ?_⟩
        · have h := h.1 c
          refine r_iload_n ok 2 dX12_guessed_48 rfl ?_
          refine r_istore_n ok [(2, .int v2), (0, .ref (g.ad 0)), (1, .int v1), (3, .int v3)] dX12_guessed_49 (by decide) rfl ?_
          refine r_iinc ok 3 (v3 + (nI 1)) [(3, .int (v3 + (nI 1))), (2, .int v2), (0, .ref (g.ad 0)), (1, .int v1)] dX12_guessed_50 rfl rfl (by decide) rfl ?_
          refine r_goto ok 5 dX12_guessed_53 (by decide) ?_
          exact r_sub [2, 3, 1, 0] _ rfl h
        · have h := h.2 c
          refine r_iload_n ok 3 dX12_guessed_44 rfl ?_
          refine r_goto ok 49 dX12_guessed_45 (by decide) ?_
          refine r_istore_n ok [(2, .int v3), (0, .ref (g.ad 0)), (1, .int v1), (3, .int v3)] dX12_guessed_49 (by decide) rfl ?_
          refine r_iinc ok 3 (v3 + (nI 1)) [(3, .int (v3 + (nI 1))), (2, .int v3), (0, .ref (g.ad 0)), (1, .int v1)] dX12_guessed_50 rfl rfl (by decide) rfl ?_
          refine r_goto ok 5 dX12_guessed_53 (by decide) ?_
          exact r_sub [2, 3, 1, 0] _ rfl h
set_option maxRecDepth 10000 in
theorem s_X12_canRead_0 {l : Launch} {x : Cx} {g : Geo} {K : Int32 → Mem → Prop} (ok : Ok x g shM m_X12_canRead) (v1 : Int32) (v2 : Int32) (v3 : Int32) (v4 : Int32) (S : Mem) (h : MWv l g shM m_X12_findReading [.ref (g.ad 0), .int v1, .int v2, .int v3, .int v4] S (fun S1 => ((¬ (S1 0 15) = v4 → K (nI 0) S1) ∧ ((S1 0 15) = v4 → K (nI 1) S1)))) : PW l x g shM m_X12_canRead (Qi x g shM K) 0 [(0, .ref (g.ad 0)), (1, .int v1), (2, .int v2), (3, .int v3), (4, .int v4)] [] S := by
  refine r_aload_n ok 0 dX12_canRead_0 rfl ?_
  refine r_iload_n ok 1 dX12_canRead_1 rfl ?_
  refine r_iload_n ok 2 dX12_canRead_2 rfl ?_
  refine r_iload_n ok 3 dX12_canRead_3 rfl ?_
  refine r_iload ok 4 dX12_canRead_4 rfl ?_
  refine r_virtv ok (rest := []) (As := [.int v1, .int v2, .int v3, .int v4]) 0 _ k_X12_canRead_185 rfl rfl rfl rfl (Nat.le_of_ble_eq_true rfl) dX12_canRead_6 (MWv.mono h (fun S1 h => ?_))
  refine r_aload_n ok 0 dX12_canRead_9 rfl ?_
  refine r_getI ok 0 15 rfl rfl fo_X12_168 dX12_canRead_10 ?_
  refine r_iload ok 4 dX12_canRead_13 rfl ?_
  refine r_icmp_ne ok 22 dX12_canRead_15 (by decide) ⟨fun c => ?_, fun c => ?_⟩
  · have h := h.1 c
    refine r_iconst ok (nI 0) dX12_canRead_22 (by decide) ?_
    exact r_zret ok rfl dX12_canRead_23 ⟨rfl, h⟩
  · have h := h.2 c
    refine r_iconst ok (nI 1) dX12_canRead_18 (by decide) ?_
    refine r_goto ok 23 dX12_canRead_19 (by decide) ?_
    exact r_zret ok rfl dX12_canRead_23 ⟨rfl, h⟩
set_option maxRecDepth 10000 in
theorem s_X12_shareOf_0 {l : Launch} {x : Cx} {g : Geo} {K : Int32 → Mem → Prop} (ok : Ok x g shM m_X12_shareOf) (v1 : Int32) (v2 : Int32) (v3 : Int32) (S : Mem) (h : PW l x g shM m_X12_shareOf (Qi x g shM K) 6 [(0, .ref (g.ad 0)), (1, .int v1), (2, .int v2), (3, .int v3), (4, .int (nI 0)), (5, .int (nI 0))] [] S) : PW l x g shM m_X12_shareOf (Qi x g shM K) 0 [(0, .ref (g.ad 0)), (1, .int v1), (2, .int v2), (3, .int v3)] [] S := by
  refine r_iconst ok (nI 0) dX12_shareOf_0 (by decide) ?_
  refine r_istore ok [(4, .int (nI 0)), (0, .ref (g.ad 0)), (1, .int v1), (2, .int v2), (3, .int v3)] dX12_shareOf_1 (by decide) rfl ?_
  refine r_iconst ok (nI 0) dX12_shareOf_3 (by decide) ?_
  refine r_istore ok [(5, .int (nI 0)), (4, .int (nI 0)), (0, .ref (g.ad 0)), (1, .int v1), (2, .int v2), (3, .int v3)] dX12_shareOf_4 (by decide) rfl ?_
  exact r_sub [2, 3, 4, 5, 1, 0] _ rfl h
set_option maxRecDepth 10000 in
theorem s_X12_shareOf_6 {l : Launch} {x : Cx} {g : Geo} {K : Int32 → Mem → Prop} (ok : Ok x g shM m_X12_shareOf) (v1 : Int32) (v2 : Int32) (v3 : Int32) (v4 : Int32) (v5 : Int32) (S : Mem) (h : (((S 0 4) ≤ v5 → K v4 S) ∧ (¬ (S 0 4) ≤ v5 → MWi l g shM m_X12_canRead [.ref (g.ad 0), .int v1, .int v2, .int v3, .int v5] S (fun r1 S1 => ((r1 = 0 → PW l x g shM m_X12_shareOf (Qi x g shM K) 6 [(0, .ref (g.ad 0)), (1, .int v1), (2, .int v2), (3, .int v3), (4, .int (v4 + (nI 0))), (5, .int (v5 + (nI 1)))] [] S1) ∧ (¬ r1 = 0 → (vp_in v5 12 ∧ PW l x g shM m_X12_shareOf (Qi x g shM K) 6 [(0, .ref (g.ad 0)), (1, .int v1), (2, .int v2), (3, .int v3), (4, .int (v4 + (S1 4 (cl v5)))), (5, .int (v5 + (nI 1)))] [] S1))))))) : PW l x g shM m_X12_shareOf (Qi x g shM K) 6 [(0, .ref (g.ad 0)), (1, .int v1), (2, .int v2), (3, .int v3), (4, .int v4), (5, .int v5)] [] S := by
  refine r_iload ok 5 dX12_shareOf_6 rfl ?_
  refine r_aload_n ok 0 dX12_shareOf_8 rfl ?_
  refine r_getI ok 0 4 rfl rfl fo_X12_105 dX12_shareOf_9 ?_
  refine r_icmp_ge ok 49 dX12_shareOf_12 (by decide) ⟨fun c => ?_, fun c => ?_⟩
  · have h := h.1 c
    refine r_iload ok 4 dX12_shareOf_49 rfl ?_
    exact r_iret ok rfl dX12_shareOf_51 h
  · have h := h.2 c
    refine r_iload ok 4 dX12_shareOf_15 rfl ?_
    refine r_aload_n ok 0 dX12_shareOf_17 rfl ?_
    refine r_iload_n ok 1 dX12_shareOf_18 rfl ?_
    refine r_iload_n ok 2 dX12_shareOf_19 rfl ?_
    refine r_iload_n ok 3 dX12_shareOf_20 rfl ?_
    refine r_iload ok 5 dX12_shareOf_21 rfl ?_
    refine r_virti ok (rest := [.int v4]) (As := [.int v1, .int v2, .int v3, .int v5]) 0 _ k_X12_shareOf_189 rfl rfl rfl rfl (Nat.le_of_ble_eq_true rfl) dX12_shareOf_23 (MWi.mono h (fun r1 S1 h => ?_))
    refine r_if_eq ok 39 dX12_shareOf_26 (by decide) ⟨fun c => ?_, fun c => ?_⟩
    · have h := h.1 c
      refine r_iconst ok (nI 0) dX12_shareOf_39 (by decide) ?_
      refine r_iadd ok dX12_shareOf_40 ?_
      refine r_istore ok [(4, .int (v4 + (nI 0))), (0, .ref (g.ad 0)), (1, .int v1), (2, .int v2), (3, .int v3), (5, .int v5)] dX12_shareOf_41 (by decide) rfl ?_
      refine r_iinc ok 5 (v5 + (nI 1)) [(5, .int (v5 + (nI 1))), (4, .int (v4 + (nI 0))), (0, .ref (g.ad 0)), (1, .int v1), (2, .int v2), (3, .int v3)] dX12_shareOf_43 rfl rfl (by decide) rfl ?_
      refine r_goto ok 6 dX12_shareOf_46 (by decide) ?_
      exact r_sub [2, 3, 4, 5, 1, 0] _ rfl h
    · have h := h.2 c
      refine r_aload_n ok 0 dX12_shareOf_29 rfl ?_
      refine r_getR ok 0 3 rfl rfl fo_X12_19 dX12_shareOf_30 ?_
      refine r_iload ok 5 dX12_shareOf_33 rfl ?_
      refine r_iaload ok 4 rfl dX12_shareOf_35 h.1 ?_
      have h := h.2
      refine r_goto ok 40 dX12_shareOf_36 (by decide) ?_
      refine r_iadd ok dX12_shareOf_40 ?_
      refine r_istore ok [(4, .int (v4 + (S1 4 (cl v5)))), (0, .ref (g.ad 0)), (1, .int v1), (2, .int v2), (3, .int v3), (5, .int v5)] dX12_shareOf_41 (by decide) rfl ?_
      refine r_iinc ok 5 (v5 + (nI 1)) [(5, .int (v5 + (nI 1))), (4, .int (v4 + (S1 4 (cl v5)))), (0, .ref (g.ad 0)), (1, .int v1), (2, .int v2), (3, .int v3)] dX12_shareOf_43 rfl rfl (by decide) rfl ?_
      refine r_goto ok 6 dX12_shareOf_46 (by decide) ?_
      exact r_sub [2, 3, 4, 5, 1, 0] _ rfl h
set_option maxRecDepth 10000 in
theorem s_X12_read_0 {l : Launch} {x : Cx} {g : Geo} {K : Int32 → Mem → Prop} (ok : Ok x g shM m_X12_read) (v1 : Int32) (v2 : Int32) (v3 : Int32) (S : Mem) (h : MWi l g shM m_X12_isChild [.int v1] S (fun r1 S1 => ((r1 = 0 → K (-1) S1) ∧ (¬ r1 = 0 → MWi l g shM m_X12_isWord [.ref (g.ad 0), .int v2] S1 (fun r2 S2 => ((¬ r2 = 0 → MWi l g shM m_X12_isEnd [.int v3] S2 (fun r3 S3 => ((¬ r3 = 0 → MWv l g shM m_X12_findCommon [.ref (g.ad 0)] S3 (fun S4 => (vp_in v1 4 ∧ (vp_in v1 4 ∧ MWv l g shM m_X12_findReading [.ref (g.ad 0), .int v1, .int (S4 9 (cl v1)), .int (S4 10 (cl v1)), .int v2] S4 (fun S5 => ((¬ v3 = 0 → K (S5 0 15) S5) ∧ (v3 = 0 → K (S5 0 14) S5))))))) ∧ (r3 = 0 → K (-2) S3)))) ∧ (r2 = 0 → K (-1) S2))))))) : PW l x g shM m_X12_read (Qi x g shM K) 0 [(0, .ref (g.ad 0)), (1, .int v1), (2, .int v2), (3, .int v3)] [] S := by
  refine r_iload_n ok 1 dX12_read_0 rfl ?_
  refine r_stati ok (rest := []) (As := [.int v1]) _ k_X12_read_160 rfl rfl (Nat.le_of_ble_eq_true rfl) dX12_read_1 (MWi.mono h (fun r1 S1 h => ?_))
  refine r_if_eq ok 15 dX12_read_4 (by decide) ⟨fun c => ?_, fun c => ?_⟩
  · have h := h.1 c
    refine r_iconst ok (-1) dX12_read_15 (by decide) ?_
    exact r_iret ok rfl dX12_read_16 h
  · have h := h.2 c
    refine r_aload_n ok 0 dX12_read_7 rfl ?_
    refine r_iload_n ok 2 dX12_read_8 rfl ?_
    refine r_virti ok (rest := []) (As := [.int v2]) 0 _ k_X12_read_122 rfl rfl rfl rfl (Nat.le_of_ble_eq_true rfl) dX12_read_9 (MWi.mono h (fun r2 S2 h => ?_))
    refine r_if_ne ok 17 dX12_read_12 (by decide) ⟨fun c => ?_, fun c => ?_⟩
    · have h := h.1 c
      refine r_iload_n ok 3 dX12_read_17 rfl ?_
      refine r_stati ok (rest := []) (As := [.int v3]) _ k_X12_read_148 rfl rfl (Nat.le_of_ble_eq_true rfl) dX12_read_18 (MWi.mono h (fun r3 S3 h => ?_))
      refine r_if_ne ok 27 dX12_read_21 (by decide) ⟨fun c => ?_, fun c => ?_⟩
      · have h := h.1 c
        refine r_aload_n ok 0 dX12_read_27 rfl ?_
        refine r_virtv ok (rest := []) (As := []) 0 _ k_X12_read_137 rfl rfl rfl rfl (Nat.le_of_ble_eq_true rfl) dX12_read_28 (MWv.mono h (fun S4 h => ?_))
        refine r_aload_n ok 0 dX12_read_31 rfl ?_
        refine r_iload_n ok 1 dX12_read_32 rfl ?_
        refine r_aload_n ok 0 dX12_read_33 rfl ?_
        refine r_getR ok 0 11 rfl rfl fo_X12_34 dX12_read_34 ?_
        refine r_iload_n ok 1 dX12_read_37 rfl ?_
        refine r_iaload ok 9 rfl dX12_read_38 h.1 ?_
        have h := h.2
        refine r_aload_n ok 0 dX12_read_39 rfl ?_
        refine r_getR ok 0 12 rfl rfl fo_X12_37 dX12_read_40 ?_
        refine r_iload_n ok 1 dX12_read_43 rfl ?_
        refine r_iaload ok 10 rfl dX12_read_44 h.1 ?_
        have h := h.2
        refine r_iload_n ok 2 dX12_read_45 rfl ?_
        refine r_virtv ok (rest := []) (As := [.int v1, .int (S4 9 (cl v1)), .int (S4 10 (cl v1)), .int v2]) 0 _ k_X12_read_185 rfl rfl rfl rfl (Nat.le_of_ble_eq_true rfl) dX12_read_46 (MWv.mono h (fun S5 h => ?_))
        refine r_iload_n ok 3 dX12_read_49 rfl ?_
        refine r_if_ne ok 60 dX12_read_50 (by decide) ⟨fun c => ?_, fun c => ?_⟩
        · have h := h.1 c
          refine r_aload_n ok 0 dX12_read_60 rfl ?_
          refine r_getI ok 0 15 rfl rfl fo_X12_168 dX12_read_61 ?_
          exact r_iret ok rfl dX12_read_64 h
        · have h := h.2 c
          refine r_aload_n ok 0 dX12_read_53 rfl ?_
          refine r_getI ok 0 14 rfl rfl fo_X12_165 dX12_read_54 ?_
          refine r_goto ok 64 dX12_read_57 (by decide) ?_
          exact r_iret ok rfl dX12_read_64 h
      · have h := h.2 c
        refine r_bipush ok (-2) dX12_read_24 (by decide) ?_
        exact r_iret ok rfl dX12_read_26 h
    · have h := h.2 c
      refine r_iconst ok (-1) dX12_read_15 (by decide) ?_
      exact r_iret ok rfl dX12_read_16 h
set_option maxRecDepth 10000 in
theorem s_X12_share_0 {l : Launch} {x : Cx} {g : Geo} {K : Int32 → Mem → Prop} (ok : Ok x g shM m_X12_share) (v1 : Int32) (S : Mem) (h : MWi l g shM m_X12_isChild [.int v1] S (fun r1 S1 => ((¬ r1 = 0 → MWv l g shM m_X12_findCommon [.ref (g.ad 0)] S1 (fun S2 => (vp_in v1 4 ∧ (vp_in v1 4 ∧ MWi l g shM m_X12_shareOf [.ref (g.ad 0), .int v1, .int (S2 9 (cl v1)), .int (S2 10 (cl v1))] S2 (fun r3 S3 => K r3 S3))))) ∧ (r1 = 0 → K (-1) S1)))) : PW l x g shM m_X12_share (Qi x g shM K) 0 [(0, .ref (g.ad 0)), (1, .int v1)] [] S := by
  refine r_iload_n ok 1 dX12_share_0 rfl ?_
  refine r_stati ok (rest := []) (As := [.int v1]) _ k_X12_share_160 rfl rfl (Nat.le_of_ble_eq_true rfl) dX12_share_1 (MWi.mono h (fun r1 S1 h => ?_))
  refine r_if_ne ok 9 dX12_share_4 (by decide) ⟨fun c => ?_, fun c => ?_⟩
  · have h := h.1 c
    refine r_aload_n ok 0 dX12_share_9 rfl ?_
    refine r_virtv ok (rest := []) (As := []) 0 _ k_X12_share_137 rfl rfl rfl rfl (Nat.le_of_ble_eq_true rfl) dX12_share_10 (MWv.mono h (fun S2 h => ?_))
    refine r_aload_n ok 0 dX12_share_13 rfl ?_
    refine r_iload_n ok 1 dX12_share_14 rfl ?_
    refine r_aload_n ok 0 dX12_share_15 rfl ?_
    refine r_getR ok 0 11 rfl rfl fo_X12_34 dX12_share_16 ?_
    refine r_iload_n ok 1 dX12_share_19 rfl ?_
    refine r_iaload ok 9 rfl dX12_share_20 h.1 ?_
    have h := h.2
    refine r_aload_n ok 0 dX12_share_21 rfl ?_
    refine r_getR ok 0 12 rfl rfl fo_X12_37 dX12_share_22 ?_
    refine r_iload_n ok 1 dX12_share_25 rfl ?_
    refine r_iaload ok 10 rfl dX12_share_26 h.1 ?_
    have h := h.2
    refine r_virti ok (rest := []) (As := [.int v1, .int (S2 9 (cl v1)), .int (S2 10 (cl v1))]) 0 _ k_X12_share_193 rfl rfl rfl rfl (Nat.le_of_ble_eq_true rfl) dX12_share_27 (MWi.mono h (fun r3 S3 h => ?_))
    exact r_iret ok rfl dX12_share_30 h
  · have h := h.2 c
    refine r_iconst ok (-1) dX12_share_7 (by decide) ?_
    exact r_iret ok rfl dX12_share_8 h
set_option maxRecDepth 10000 in
theorem s_X12_isGiven_0 {l : Launch} {x : Cx} {g : Geo} {K : Int32 → Mem → Prop} (ok : Ok x g shM m_X12_isGiven) (v1 : Int32) (v2 : Int32) (S : Mem) (h : MWi l g shM m_X12_isRegular [.ref (g.ad 0), .int v1] S (fun r1 S1 => ((r1 = 0 → K (nI 0) S1) ∧ (¬ r1 = 0 → MWi l g shM m_X12_signsOf [.ref (g.ad 0), .int v1] S1 (fun r2 S2 => ((¬ (r2 &&& (v2 ^^^ (-1))) = 0 → K (nI 0) S2) ∧ ((r2 &&& (v2 ^^^ (-1))) = 0 → K (nI 1) S2))))))) : PW l x g shM m_X12_isGiven (Qi x g shM K) 0 [(0, .ref (g.ad 0)), (1, .int v1), (2, .int v2)] [] S := by
  refine r_aload_n ok 0 dX12_isGiven_0 rfl ?_
  refine r_iload_n ok 1 dX12_isGiven_1 rfl ?_
  refine r_virti ok (rest := []) (As := [.int v1]) 0 _ k_X12_isGiven_140 rfl rfl rfl rfl (Nat.le_of_ble_eq_true rfl) dX12_isGiven_2 (MWi.mono h (fun r1 S1 h => ?_))
  refine r_if_eq ok 24 dX12_isGiven_5 (by decide) ⟨fun c => ?_, fun c => ?_⟩
  · have h := h.1 c
    refine r_iconst ok (nI 0) dX12_isGiven_24 (by decide) ?_
    exact r_zret ok rfl dX12_isGiven_25 ⟨rfl, h⟩
  · have h := h.2 c
    refine r_aload_n ok 0 dX12_isGiven_8 rfl ?_
    refine r_iload_n ok 1 dX12_isGiven_9 rfl ?_
    refine r_virti ok (rest := []) (As := [.int v1]) 0 _ k_X12_isGiven_133 rfl rfl rfl rfl (Nat.le_of_ble_eq_true rfl) dX12_isGiven_10 (MWi.mono h (fun r2 S2 h => ?_))
    refine r_iload_n ok 2 dX12_isGiven_13 rfl ?_
    refine r_iconst ok (-1) dX12_isGiven_14 (by decide) ?_
    refine r_ixor ok dX12_isGiven_15 ?_
    refine r_iand ok dX12_isGiven_16 ?_
    refine r_if_ne ok 24 dX12_isGiven_17 (by decide) ⟨fun c => ?_, fun c => ?_⟩
    · have h := h.1 c
      refine r_iconst ok (nI 0) dX12_isGiven_24 (by decide) ?_
      exact r_zret ok rfl dX12_isGiven_25 ⟨rfl, h⟩
    · have h := h.2 c
      refine r_iconst ok (nI 1) dX12_isGiven_20 (by decide) ?_
      refine r_goto ok 25 dX12_isGiven_21 (by decide) ?_
      exact r_zret ok rfl dX12_isGiven_25 ⟨rfl, h⟩
set_option maxRecDepth 10000 in
theorem s_X12_givesOf_0 {l : Launch} {x : Cx} {g : Geo} {K : Int32 → Mem → Prop} (ok : Ok x g shM m_X12_givesOf) (v1 : Int32) (v2 : Int32) (S : Mem) (h : PW l x g shM m_X12_givesOf (Qi x g shM K) 5 [(0, .ref (g.ad 0)), (1, .int v1), (2, .int v2), (3, .int (nI 0)), (4, .int (nI 0))] [] S) : PW l x g shM m_X12_givesOf (Qi x g shM K) 0 [(0, .ref (g.ad 0)), (1, .int v1), (2, .int v2)] [] S := by
  refine r_iconst ok (nI 0) dX12_givesOf_0 (by decide) ?_
  refine r_istore_n ok [(3, .int (nI 0)), (0, .ref (g.ad 0)), (1, .int v1), (2, .int v2)] dX12_givesOf_1 (by decide) rfl ?_
  refine r_iconst ok (nI 0) dX12_givesOf_2 (by decide) ?_
  refine r_istore ok [(4, .int (nI 0)), (3, .int (nI 0)), (0, .ref (g.ad 0)), (1, .int v1), (2, .int v2)] dX12_givesOf_3 (by decide) rfl ?_
  exact r_sub [2, 3, 4, 1, 0] _ rfl h
set_option maxRecDepth 10000 in
theorem s_X12_givesOf_5 {l : Launch} {x : Cx} {g : Geo} {K : Int32 → Mem → Prop} (ok : Ok x g shM m_X12_givesOf) (v1 : Int32) (v2 : Int32) (v3 : Int32) (v4 : Int32) (S : Mem) (h : (((S 0 4) ≤ v4 → K v3 S) ∧ (¬ (S 0 4) ≤ v4 → ((((jshr v2 v4) &&& (nI 1)) = (nI 1) → (vp_in v4 12 ∧ PW l x g shM m_X12_givesOf (Qi x g shM K) 5 [(0, .ref (g.ad 0)), (1, .int v1), (2, .int v2), (3, .int (v3 + (S 4 (cl v4)))), (4, .int (v4 + (nI 1)))] [] S)) ∧ (¬ ((jshr v2 v4) &&& (nI 1)) = (nI 1) → MWi l g shM m_X12_isGiven [.ref (g.ad 0), .int v4, .int v1] S (fun r1 S1 => ((r1 = 0 → PW l x g shM m_X12_givesOf (Qi x g shM K) 5 [(0, .ref (g.ad 0)), (1, .int v1), (2, .int v2), (3, .int (v3 + (nI 0))), (4, .int (v4 + (nI 1)))] [] S1) ∧ (¬ r1 = 0 → (vp_in v4 12 ∧ PW l x g shM m_X12_givesOf (Qi x g shM K) 5 [(0, .ref (g.ad 0)), (1, .int v1), (2, .int v2), (3, .int (v3 + (S1 4 (cl v4)))), (4, .int (v4 + (nI 1)))] [] S1))))))))) : PW l x g shM m_X12_givesOf (Qi x g shM K) 5 [(0, .ref (g.ad 0)), (1, .int v1), (2, .int v2), (3, .int v3), (4, .int v4)] [] S := by
  refine r_iload ok 4 dX12_givesOf_5 rfl ?_
  refine r_aload_n ok 0 dX12_givesOf_7 rfl ?_
  refine r_getI ok 0 4 rfl rfl fo_X12_105 dX12_givesOf_8 ?_
  refine r_icmp_ge ok 54 dX12_givesOf_11 (by decide) ⟨fun c => ?_, fun c => ?_⟩
  · have h := h.1 c
    refine r_iload_n ok 3 dX12_givesOf_54 rfl ?_
    exact r_iret ok rfl dX12_givesOf_55 h
  · have h := h.2 c
    refine r_iload_n ok 3 dX12_givesOf_14 rfl ?_
    refine r_iload_n ok 2 dX12_givesOf_15 rfl ?_
    refine r_iload ok 4 dX12_givesOf_16 rfl ?_
    refine r_ishr ok dX12_givesOf_18 ?_
    refine r_iconst ok (nI 1) dX12_givesOf_19 (by decide) ?_
    refine r_iand ok dX12_givesOf_20 ?_
    refine r_iconst ok (nI 1) dX12_givesOf_21 (by decide) ?_
    refine r_icmp_eq ok 35 dX12_givesOf_22 (by decide) ⟨fun c => ?_, fun c => ?_⟩
    · have h := h.1 c
      refine r_aload_n ok 0 dX12_givesOf_35 rfl ?_
      refine r_getR ok 0 3 rfl rfl fo_X12_19 dX12_givesOf_36 ?_
      refine r_iload ok 4 dX12_givesOf_39 rfl ?_
      refine r_iaload ok 4 rfl dX12_givesOf_41 h.1 ?_
      have h := h.2
      refine r_goto ok 46 dX12_givesOf_42 (by decide) ?_
      refine r_iadd ok dX12_givesOf_46 ?_
      refine r_istore_n ok [(3, .int (v3 + (S 4 (cl v4)))), (0, .ref (g.ad 0)), (1, .int v1), (2, .int v2), (4, .int v4)] dX12_givesOf_47 (by decide) rfl ?_
      refine r_iinc ok 4 (v4 + (nI 1)) [(4, .int (v4 + (nI 1))), (3, .int (v3 + (S 4 (cl v4)))), (0, .ref (g.ad 0)), (1, .int v1), (2, .int v2)] dX12_givesOf_48 rfl rfl (by decide) rfl ?_
      refine r_goto ok 5 dX12_givesOf_51 (by decide) ?_
      exact r_sub [2, 3, 4, 1, 0] _ rfl h
    · have h := h.2 c
      refine r_aload_n ok 0 dX12_givesOf_25 rfl ?_
      refine r_iload ok 4 dX12_givesOf_26 rfl ?_
      refine r_iload_n ok 1 dX12_givesOf_28 rfl ?_
      refine r_virti ok (rest := [.int v3]) (As := [.int v4, .int v1]) 0 _ k_X12_givesOf_197 rfl rfl rfl rfl (Nat.le_of_ble_eq_true rfl) dX12_givesOf_29 (MWi.mono h (fun r1 S1 h => ?_))
      refine r_if_eq ok 45 dX12_givesOf_32 (by decide) ⟨fun c => ?_, fun c => ?_⟩
      · have h := h.1 c
        refine r_iconst ok (nI 0) dX12_givesOf_45 (by decide) ?_
        refine r_iadd ok dX12_givesOf_46 ?_
        refine r_istore_n ok [(3, .int (v3 + (nI 0))), (0, .ref (g.ad 0)), (1, .int v1), (2, .int v2), (4, .int v4)] dX12_givesOf_47 (by decide) rfl ?_
        refine r_iinc ok 4 (v4 + (nI 1)) [(4, .int (v4 + (nI 1))), (3, .int (v3 + (nI 0))), (0, .ref (g.ad 0)), (1, .int v1), (2, .int v2)] dX12_givesOf_48 rfl rfl (by decide) rfl ?_
        refine r_goto ok 5 dX12_givesOf_51 (by decide) ?_
        exact r_sub [2, 3, 4, 1, 0] _ rfl h
      · have h := h.2 c
        refine r_aload_n ok 0 dX12_givesOf_35 rfl ?_
        refine r_getR ok 0 3 rfl rfl fo_X12_19 dX12_givesOf_36 ?_
        refine r_iload ok 4 dX12_givesOf_39 rfl ?_
        refine r_iaload ok 4 rfl dX12_givesOf_41 h.1 ?_
        have h := h.2
        refine r_goto ok 46 dX12_givesOf_42 (by decide) ?_
        refine r_iadd ok dX12_givesOf_46 ?_
        refine r_istore_n ok [(3, .int (v3 + (S1 4 (cl v4)))), (0, .ref (g.ad 0)), (1, .int v1), (2, .int v2), (4, .int v4)] dX12_givesOf_47 (by decide) rfl ?_
        refine r_iinc ok 4 (v4 + (nI 1)) [(4, .int (v4 + (nI 1))), (3, .int (v3 + (S1 4 (cl v4)))), (0, .ref (g.ad 0)), (1, .int v1), (2, .int v2)] dX12_givesOf_48 rfl rfl (by decide) rfl ?_
        refine r_goto ok 5 dX12_givesOf_51 (by decide) ?_
        exact r_sub [2, 3, 4, 1, 0] _ rfl h
set_option maxRecDepth 10000 in
theorem s_X12_gives_0 {l : Launch} {x : Cx} {g : Geo} {K : Int32 → Mem → Prop} (ok : Ok x g shM m_X12_gives) (v1 : Int32) (v2 : Int32) (S : Mem) (h : MWi l g shM m_X12_in [.long v1.toInt64, .long (lN 0), .long (lN 1023)] S (fun r1 S1 => ((r1 = 0 → K (-2) S1) ∧ (¬ r1 = 0 → MWi l g shM m_X12_in [.long v2.toInt64, .long (lN 0), .long ((jshl (nI 1) (S1 0 4)) - (nI 1)).toInt64] S1 (fun r2 S2 => ((¬ r2 = 0 → MWv l g shM m_X12_findCommon [.ref (g.ad 0)] S2 (fun S3 => MWi l g shM m_X12_givesOf [.ref (g.ad 0), .int v1, .int v2] S3 (fun r4 S4 => K r4 S4))) ∧ (r2 = 0 → K (-2) S2))))))) : PW l x g shM m_X12_gives (Qi x g shM K) 0 [(0, .ref (g.ad 0)), (1, .int v1), (2, .int v2)] [] S := by
  refine r_iload_n ok 1 dX12_gives_0 rfl ?_
  refine r_i2l ok dX12_gives_1 ?_
  refine r_lconst ok (lN 0) dX12_gives_2 (by decide) ?_
  refine r_ldc2 ok (lN 1023) dX12_gives_3 (gt_in (List.mem_of_getElem? (i := 1154) (by decide +kernel)) rfl) ?_
  refine r_stati ok (rest := []) (As := [.long v1.toInt64, .long (lN 0), .long (lN 1023)]) _ k_X12_gives_80 rfl rfl (Nat.le_of_ble_eq_true rfl) dX12_gives_6 (MWi.mono h (fun r1 S1 h => ?_))
  refine r_if_eq ok 30 dX12_gives_9 (by decide) ⟨fun c => ?_, fun c => ?_⟩
  · have h := h.1 c
    refine r_bipush ok (-2) dX12_gives_30 (by decide) ?_
    exact r_iret ok rfl dX12_gives_32 h
  · have h := h.2 c
    refine r_iload_n ok 2 dX12_gives_12 rfl ?_
    refine r_i2l ok dX12_gives_13 ?_
    refine r_lconst ok (lN 0) dX12_gives_14 (by decide) ?_
    refine r_iconst ok (nI 1) dX12_gives_15 (by decide) ?_
    refine r_aload_n ok 0 dX12_gives_16 rfl ?_
    refine r_getI ok 0 4 rfl rfl fo_X12_105 dX12_gives_17 ?_
    refine r_ishl ok dX12_gives_20 ?_
    refine r_iconst ok (nI 1) dX12_gives_21 (by decide) ?_
    refine r_isub ok dX12_gives_22 ?_
    refine r_i2l ok dX12_gives_23 ?_
    refine r_stati ok (rest := []) (As := [.long v2.toInt64, .long (lN 0), .long ((jshl (nI 1) (S1 0 4)) - (nI 1)).toInt64]) _ k_X12_gives_80 rfl rfl (Nat.le_of_ble_eq_true rfl) dX12_gives_24 (MWi.mono h (fun r2 S2 h => ?_))
    refine r_if_ne ok 33 dX12_gives_27 (by decide) ⟨fun c => ?_, fun c => ?_⟩
    · have h := h.1 c
      refine r_aload_n ok 0 dX12_gives_33 rfl ?_
      refine r_virtv ok (rest := []) (As := []) 0 _ k_X12_gives_137 rfl rfl rfl rfl (Nat.le_of_ble_eq_true rfl) dX12_gives_34 (MWv.mono h (fun S3 h => ?_))
      refine r_aload_n ok 0 dX12_gives_37 rfl ?_
      refine r_iload_n ok 1 dX12_gives_38 rfl ?_
      refine r_iload_n ok 2 dX12_gives_39 rfl ?_
      refine r_virti ok (rest := []) (As := [.int v1, .int v2]) 0 _ k_X12_gives_201 rfl rfl rfl rfl (Nat.le_of_ble_eq_true rfl) dX12_gives_40 (MWi.mono h (fun r4 S4 h => ?_))
      exact r_iret ok rfl dX12_gives_43 h
    · have h := h.2 c
      refine r_bipush ok (-2) dX12_gives_30 (by decide) ?_
      exact r_iret ok rfl dX12_gives_32 h
set_option maxRecDepth 10000 in
theorem s_X12_findOrder_0 {l : Launch} {x : Cx} {g : Geo} {K : Mem → Prop} (ok : Ok x g shM m_X12_findOrder) (S : Mem) (h : MWv l g shM m_X12_findCommon [.ref (g.ad 0)] S (fun S1 => PW l x g shM m_X12_findOrder (Qv x g shM K) 8 [(0, .ref (g.ad 0)), (1, .int (nI 1023))] [] S1)) : PW l x g shM m_X12_findOrder (Qv x g shM K) 0 [(0, .ref (g.ad 0))] [] S := by
  refine r_aload_n ok 0 dX12_findOrder_0 rfl ?_
  refine r_virtv ok (rest := []) (As := []) 0 _ k_X12_findOrder_137 rfl rfl rfl rfl (Nat.le_of_ble_eq_true rfl) dX12_findOrder_1 (MWv.mono h (fun S1 h => ?_))
  refine r_sipush ok (nI 1023) dX12_findOrder_4 (by decide) ?_
  refine r_istore_n ok [(1, .int (nI 1023)), (0, .ref (g.ad 0))] dX12_findOrder_7 (by decide) rfl ?_
  exact r_sub [1, 0] _ rfl h
set_option maxRecDepth 10000 in
theorem s_X12_findOrder_8 {l : Launch} {x : Cx} {g : Geo} {K : Mem → Prop} (ok : Ok x g shM m_X12_findOrder) (v1 : Int32) (S : Mem) (h : ((v1 < 0 → K S) ∧ (¬ v1 < 0 → MWi l g shM m_X12_givesOf [.ref (g.ad 0), .int v1, .int (nI 0)] S (fun r1 S1 => (vp_in v1 1024 ∧ (vp_in v1 1024 ∧ PW l x g shM m_X12_findOrder (Qv x g shM K) 33 [(0, .ref (g.ad 0)), (1, .int v1), (2, .int (nI 0))] [] (st2 (st2 S1 12 (cl v1) r1) 13 (cl v1) (nI 0)))))))) : PW l x g shM m_X12_findOrder (Qv x g shM K) 8 [(0, .ref (g.ad 0)), (1, .int v1)] [] S := by
  refine r_iload_n ok 1 dX12_findOrder_8 rfl ?_
  refine r_if_lt ok 105 dX12_findOrder_9 (by decide) ⟨fun c => ?_, fun c => ?_⟩
  · have h := h.1 c
    exact r_ret ok rfl dX12_findOrder_105 h
  · have h := h.2 c
    refine r_aload_n ok 0 dX12_findOrder_12 rfl ?_
    refine r_getR ok 0 16 rfl rfl fo_X12_43 dX12_findOrder_13 ?_
    refine r_iload_n ok 1 dX12_findOrder_16 rfl ?_
    refine r_aload_n ok 0 dX12_findOrder_17 rfl ?_
    refine r_iload_n ok 1 dX12_findOrder_18 rfl ?_
    refine r_iconst ok (nI 0) dX12_findOrder_19 (by decide) ?_
    refine r_virti ok (rest := [.int v1, .ref (g.ad 12)]) (As := [.int v1, .int (nI 0)]) 0 _ k_X12_findOrder_201 rfl rfl rfl rfl (Nat.le_of_ble_eq_true rfl) dX12_findOrder_20 (MWi.mono h (fun r1 S1 h => ?_))
    refine r_iastore ok 12 rfl dX12_findOrder_23 h.1 ?_
    have h := h.2
    refine r_aload_n ok 0 dX12_findOrder_24 rfl ?_
    refine r_getR ok 0 17 rfl rfl fo_X12_46 dX12_findOrder_25 ?_
    refine r_iload_n ok 1 dX12_findOrder_28 rfl ?_
    refine r_iconst ok (nI 0) dX12_findOrder_29 (by decide) ?_
    refine r_iastore ok 13 rfl dX12_findOrder_30 h.1 ?_
    have h := h.2
    refine r_iconst ok (nI 0) dX12_findOrder_31 (by decide) ?_
    refine r_istore_n ok [(2, .int (nI 0)), (0, .ref (g.ad 0)), (1, .int v1)] dX12_findOrder_32 (by decide) rfl ?_
    exact r_sub [1, 2, 0] _ rfl h
set_option maxRecDepth 10000 in
theorem s_X12_findOrder_33 {l : Launch} {x : Cx} {g : Geo} {K : Mem → Prop} (ok : Ok x g shM m_X12_findOrder) (v1 : Int32) (v2 : Int32) (S : Mem) (h : (((nI 10) ≤ v2 → PW l x g shM m_X12_findOrder (Qv x g shM K) 8 [(0, .ref (g.ad 0)), (1, .int (v1 + (-1)))] [] S) ∧ (¬ (nI 10) ≤ v2 → (vp_in (v1 ||| (jshl (nI 1) v2)) 1024 ∧ (vp_in (v1 ||| (jshl (nI 1) v2)) 1024 ∧ (((v1 ||| (jshl (nI 1) v2)) = v1 → (vp_in v1 1024 ∧ (vp_in v1 1024 ∧ PW l x g shM m_X12_findOrder (Qv x g shM K) 33 [(0, .ref (g.ad 0)), (1, .int v1), (2, .int (v2 + (nI 1)))] [] (st2 S 13 (cl v1) (S 13 (cl v1)))))) ∧ (¬ (v1 ||| (jshl (nI 1) v2)) = v1 → (vp_in v1 1024 ∧ ((((S 12 (cl (v1 ||| (jshl (nI 1) v2)))) + (S 13 (cl (v1 ||| (jshl (nI 1) v2))))) ≤ (S 13 (cl v1)) → (vp_in v1 1024 ∧ (vp_in v1 1024 ∧ PW l x g shM m_X12_findOrder (Qv x g shM K) 33 [(0, .ref (g.ad 0)), (1, .int v1), (2, .int (v2 + (nI 1)))] [] (st2 S 13 (cl v1) (S 13 (cl v1)))))) ∧ (¬ ((S 12 (cl (v1 ||| (jshl (nI 1) v2)))) + (S 13 (cl (v1 ||| (jshl (nI 1) v2))))) ≤ (S 13 (cl v1)) → (vp_in v1 1024 ∧ PW l x g shM m_X12_findOrder (Qv x g shM K) 33 [(0, .ref (g.ad 0)), (1, .int v1), (2, .int (v2 + (nI 1)))] [] (st2 S 13 (cl v1) ((S 12 (cl (v1 ||| (jshl (nI 1) v2)))) + (S 13 (cl (v1 ||| (jshl (nI 1) v2))))))))))))))))) : PW l x g shM m_X12_findOrder (Qv x g shM K) 33 [(0, .ref (g.ad 0)), (1, .int v1), (2, .int v2)] [] S := by
  refine r_iload_n ok 2 dX12_findOrder_33 rfl ?_
  refine r_bipush ok (nI 10) dX12_findOrder_34 (by decide) ?_
  refine r_icmp_ge ok 99 dX12_findOrder_36 (by decide) ⟨fun c => ?_, fun c => ?_⟩
  · have h := h.1 c
    refine r_iinc ok 1 (v1 + (-1)) [(1, .int (v1 + (-1))), (0, .ref (g.ad 0)), (2, .int v2)] dX12_findOrder_99 rfl rfl (by decide) rfl ?_
    refine r_goto ok 8 dX12_findOrder_102 (by decide) ?_
    exact r_sub [1, 0] _ rfl h
  · have h := h.2 c
    refine r_iload_n ok 1 dX12_findOrder_39 rfl ?_
    refine r_iconst ok (nI 1) dX12_findOrder_40 (by decide) ?_
    refine r_iload_n ok 2 dX12_findOrder_41 rfl ?_
    refine r_ishl ok dX12_findOrder_42 ?_
    refine r_ior ok dX12_findOrder_43 ?_
    refine r_istore_n ok [(3, .int (v1 ||| (jshl (nI 1) v2))), (0, .ref (g.ad 0)), (1, .int v1), (2, .int v2)] dX12_findOrder_44 (by decide) rfl ?_
    refine r_aload_n ok 1 dX12_findOrder_45 rfl ?_
    refine r_getR ok 0 16 rfl rfl fo_X12_43 dX12_findOrder_46 ?_
    refine r_iload_n ok 0 dX12_findOrder_49 rfl ?_
    refine r_iaload ok 12 rfl dX12_findOrder_50 h.1 ?_
    have h := h.2
    refine r_aload_n ok 1 dX12_findOrder_51 rfl ?_
    refine r_getR ok 0 17 rfl rfl fo_X12_46 dX12_findOrder_52 ?_
    refine r_iload_n ok 0 dX12_findOrder_55 rfl ?_
    refine r_iaload ok 13 rfl dX12_findOrder_56 h.1 ?_
    have h := h.2
    refine r_iadd ok dX12_findOrder_57 ?_
    refine r_istore ok [(4, .int ((S 12 (cl (v1 ||| (jshl (nI 1) v2)))) + (S 13 (cl (v1 ||| (jshl (nI 1) v2)))))), (3, .int (v1 ||| (jshl (nI 1) v2))), (0, .ref (g.ad 0)), (1, .int v1), (2, .int v2)] dX12_findOrder_58 (by decide) rfl ?_
    refine r_aload_n ok 2 dX12_findOrder_60 rfl ?_
    refine r_getR ok 0 17 rfl rfl fo_X12_46 dX12_findOrder_61 ?_
    refine r_iload_n ok 3 dX12_findOrder_64 rfl ?_
    refine r_iload_n ok 1 dX12_findOrder_65 rfl ?_
    refine r_iload_n ok 3 dX12_findOrder_66 rfl ?_
    refine r_icmp_eq ok 86 dX12_findOrder_67 (by decide) ⟨fun c => ?_, fun c => ?_⟩
    · have h := h.1 c
      refine r_aload_n ok 2 dX12_findOrder_86 rfl ?_
      refine r_getR ok 0 17 rfl rfl fo_X12_46 dX12_findOrder_87 ?_
      refine r_iload_n ok 3 dX12_findOrder_90 rfl ?_
      refine r_iaload ok 13 rfl dX12_findOrder_91 h.1 ?_
      have h := h.2
      refine r_iastore ok 13 rfl dX12_findOrder_92 h.1 ?_
      have h := h.2
      refine r_iinc ok 4 (v2 + (nI 1)) [(2, .int (v2 + (nI 1))), (4, .int ((S 12 (cl (v1 ||| (jshl (nI 1) v2)))) + (S 13 (cl (v1 ||| (jshl (nI 1) v2)))))), (3, .int (v1 ||| (jshl (nI 1) v2))), (0, .ref (g.ad 0)), (1, .int v1)] dX12_findOrder_93 rfl rfl (by decide) rfl ?_
      refine r_goto ok 33 dX12_findOrder_96 (by decide) ?_
      exact r_sub [3, 4, 0] _ rfl h
    · have h := h.2 c
      refine r_iload ok 0 dX12_findOrder_70 rfl ?_
      refine r_aload_n ok 2 dX12_findOrder_72 rfl ?_
      refine r_getR ok 0 17 rfl rfl fo_X12_46 dX12_findOrder_73 ?_
      refine r_iload_n ok 3 dX12_findOrder_76 rfl ?_
      refine r_iaload ok 13 rfl dX12_findOrder_77 h.1 ?_
      have h := h.2
      refine r_icmp_le ok 86 dX12_findOrder_78 (by decide) ⟨fun c => ?_, fun c => ?_⟩
      · have h := h.1 c
        refine r_aload_n ok 2 dX12_findOrder_86 rfl ?_
        refine r_getR ok 0 17 rfl rfl fo_X12_46 dX12_findOrder_87 ?_
        refine r_iload_n ok 3 dX12_findOrder_90 rfl ?_
        refine r_iaload ok 13 rfl dX12_findOrder_91 h.1 ?_
        have h := h.2
        refine r_iastore ok 13 rfl dX12_findOrder_92 h.1 ?_
        have h := h.2
        refine r_iinc ok 4 (v2 + (nI 1)) [(2, .int (v2 + (nI 1))), (4, .int ((S 12 (cl (v1 ||| (jshl (nI 1) v2)))) + (S 13 (cl (v1 ||| (jshl (nI 1) v2)))))), (3, .int (v1 ||| (jshl (nI 1) v2))), (0, .ref (g.ad 0)), (1, .int v1)] dX12_findOrder_93 rfl rfl (by decide) rfl ?_
        refine r_goto ok 33 dX12_findOrder_96 (by decide) ?_
        exact r_sub [3, 4, 0] _ rfl h
      · have h := h.2 c
        refine r_iload ok 0 dX12_findOrder_81 rfl ?_
        refine r_goto ok 92 dX12_findOrder_83 (by decide) ?_
        refine r_iastore ok 13 rfl dX12_findOrder_92 h.1 ?_
        have h := h.2
        refine r_iinc ok 4 (v2 + (nI 1)) [(2, .int (v2 + (nI 1))), (4, .int ((S 12 (cl (v1 ||| (jshl (nI 1) v2)))) + (S 13 (cl (v1 ||| (jshl (nI 1) v2)))))), (3, .int (v1 ||| (jshl (nI 1) v2))), (0, .ref (g.ad 0)), (1, .int v1)] dX12_findOrder_93 rfl rfl (by decide) rfl ?_
        refine r_goto ok 33 dX12_findOrder_96 (by decide) ?_
        exact r_sub [3, 4, 0] _ rfl h
set_option maxRecDepth 10000 in
theorem s_X12_order_0 {l : Launch} {x : Cx} {g : Geo} {K : Int32 → Mem → Prop} (ok : Ok x g shM m_X12_order) (v1 : Int32) (S : Mem) (h : MWi l g shM m_X12_in [.long v1.toInt64, .long (-1), .long (lN 9)] S (fun r1 S1 => ((¬ r1 = 0 → MWv l g shM m_X12_findOrder [.ref (g.ad 0)] S1 (fun S2 => ((¬ v1 = (-1) → PW l x g shM m_X12_order (Qi x g shM K) 40 [(0, .ref (g.ad 0)), (1, .int v1), (2, .int (nI 0)), (3, .int (nI 0)), (4, .int (nI 0))] [] S2) ∧ (v1 = (-1) → (vp_in (nI 0) 1024 ∧ K (S2 13 (cl (nI 0))) S2))))) ∧ (r1 = 0 → K (-6) S1)))) : PW l x g shM m_X12_order (Qi x g shM K) 0 [(0, .ref (g.ad 0)), (1, .int v1)] [] S := by
  refine r_iload_n ok 1 dX12_order_0 rfl ?_
  refine r_i2l ok dX12_order_1 ?_
  refine r_ldc2 ok (-1) dX12_order_2 (gt_in (List.mem_of_getElem? (i := 1211) (by decide +kernel)) rfl) ?_
  refine r_ldc2 ok (lN 9) dX12_order_5 (gt_in (List.mem_of_getElem? (i := 1125) (by decide +kernel)) rfl) ?_
  refine r_stati ok (rest := []) (As := [.long v1.toInt64, .long (-1), .long (lN 9)]) _ k_X12_order_80 rfl rfl (Nat.le_of_ble_eq_true rfl) dX12_order_8 (MWi.mono h (fun r1 S1 h => ?_))
  refine r_if_ne ok 17 dX12_order_11 (by decide) ⟨fun c => ?_, fun c => ?_⟩
  · have h := h.1 c
    refine r_aload_n ok 0 dX12_order_17 rfl ?_
    refine r_virtv ok (rest := []) (As := []) 0 _ k_X12_order_206 rfl rfl rfl rfl (Nat.le_of_ble_eq_true rfl) dX12_order_18 (MWv.mono h (fun S2 h => ?_))
    refine r_iload_n ok 1 dX12_order_21 rfl ?_
    refine r_iconst ok (-1) dX12_order_22 (by decide) ?_
    refine r_icmp_ne ok 33 dX12_order_23 (by decide) ⟨fun c => ?_, fun c => ?_⟩
    · have h := h.1 c
      refine r_iconst ok (nI 0) dX12_order_33 (by decide) ?_
      refine r_istore_n ok [(2, .int (nI 0)), (0, .ref (g.ad 0)), (1, .int v1)] dX12_order_34 (by decide) rfl ?_
      refine r_iconst ok (nI 0) dX12_order_35 (by decide) ?_
      refine r_istore_n ok [(3, .int (nI 0)), (2, .int (nI 0)), (0, .ref (g.ad 0)), (1, .int v1)] dX12_order_36 (by decide) rfl ?_
      refine r_iconst ok (nI 0) dX12_order_37 (by decide) ?_
      refine r_istore ok [(4, .int (nI 0)), (3, .int (nI 0)), (2, .int (nI 0)), (0, .ref (g.ad 0)), (1, .int v1)] dX12_order_38 (by decide) rfl ?_
      exact r_sub [3, 4, 2, 1, 0] _ rfl h
    · have h := h.2 c
      refine r_aload_n ok 0 dX12_order_26 rfl ?_
      refine r_getR ok 0 17 rfl rfl fo_X12_46 dX12_order_27 ?_
      refine r_iconst ok (nI 0) dX12_order_30 (by decide) ?_
      refine r_iaload ok 13 rfl dX12_order_31 h.1 ?_
      have h := h.2
      exact r_iret ok rfl dX12_order_32 h
  · have h := h.2 c
    refine r_bipush ok (-6) dX12_order_14 (by decide) ?_
    exact r_iret ok rfl dX12_order_16 h
set_option maxRecDepth 10000 in
theorem s_X12_order_40 {l : Launch} {x : Cx} {g : Geo} {K : Int32 → Mem → Prop} (ok : Ok x g shM m_X12_order) (v1 : Int32) (v2 : Int32) (v3 : Int32) (v4 : Int32) (S : Mem) (h : ((v1 < v4 → K v3 S) ∧ (¬ v1 < v4 → PW l x g shM m_X12_order (Qi x g shM K) 48 [(0, .ref (g.ad 0)), (1, .int v1), (2, .int v2), (3, .int (nI 0)), (4, .int v4)] [] S))) : PW l x g shM m_X12_order (Qi x g shM K) 40 [(0, .ref (g.ad 0)), (1, .int v1), (2, .int v2), (3, .int v3), (4, .int v4)] [] S := by
  refine r_iload ok 4 dX12_order_40 rfl ?_
  refine r_iload_n ok 1 dX12_order_42 rfl ?_
  refine r_icmp_gt ok 105 dX12_order_43 (by decide) ⟨fun c => ?_, fun c => ?_⟩
  · have h := h.1 c
    refine r_iload_n ok 3 dX12_order_105 rfl ?_
    exact r_iret ok rfl dX12_order_106 h
  · have h := h.2 c
    refine r_iconst ok (nI 0) dX12_order_46 (by decide) ?_
    refine r_istore_n ok [(3, .int (nI 0)), (0, .ref (g.ad 0)), (1, .int v1), (2, .int v2), (4, .int v4)] dX12_order_47 (by decide) rfl ?_
    exact r_sub [1, 2, 3, 0, 4] _ rfl h
set_option maxRecDepth 10000 in
theorem s_X12_order_48 {l : Launch} {x : Cx} {g : Geo} {K : Int32 → Mem → Prop} (ok : Ok x g shM m_X12_order) (v1 : Int32) (v2 : Int32) (v3 : Int32) (v4 : Int32) (S : Mem) (h : ((((jshr v2 v3) &&& (nI 1)) = (nI 1) → PW l x g shM m_X12_order (Qi x g shM K) 48 [(0, .ref (g.ad 0)), (1, .int v1), (2, .int v2), (3, .int (v3 + (nI 1))), (4, .int v4)] [] S) ∧ (¬ ((jshr v2 v3) &&& (nI 1)) = (nI 1) → (vp_in (v2 ||| (jshl (nI 1) v3)) 1024 ∧ (vp_in (v2 ||| (jshl (nI 1) v3)) 1024 ∧ (vp_in v2 1024 ∧ ((((S 12 (cl (v2 ||| (jshl (nI 1) v3)))) + (S 13 (cl (v2 ||| (jshl (nI 1) v3))))) = (S 13 (cl v2)) → PW l x g shM m_X12_order (Qi x g shM K) 40 [(0, .ref (g.ad 0)), (1, .int v1), (2, .int (v2 ||| (jshl (nI 1) v3))), (3, .int v3), (4, .int (v4 + (nI 1)))] [] S) ∧ (¬ ((S 12 (cl (v2 ||| (jshl (nI 1) v3)))) + (S 13 (cl (v2 ||| (jshl (nI 1) v3))))) = (S 13 (cl v2)) → PW l x g shM m_X12_order (Qi x g shM K) 48 [(0, .ref (g.ad 0)), (1, .int v1), (2, .int v2), (3, .int (v3 + (nI 1))), (4, .int v4)] [] S)))))))) : PW l x g shM m_X12_order (Qi x g shM K) 48 [(0, .ref (g.ad 0)), (1, .int v1), (2, .int v2), (3, .int v3), (4, .int v4)] [] S := by
  refine r_iload_n ok 2 dX12_order_48 rfl ?_
  refine r_iload_n ok 3 dX12_order_49 rfl ?_
  refine r_ishr ok dX12_order_50 ?_
  refine r_iconst ok (nI 1) dX12_order_51 (by decide) ?_
  refine r_iand ok dX12_order_52 ?_
  refine r_iconst ok (nI 1) dX12_order_53 (by decide) ?_
  refine r_icmp_eq ok 87 dX12_order_54 (by decide) ⟨fun c => ?_, fun c => ?_⟩
  · have h := h.1 c
    refine r_iinc ok 3 (v3 + (nI 1)) [(3, .int (v3 + (nI 1))), (0, .ref (g.ad 0)), (1, .int v1), (2, .int v2), (4, .int v4)] dX12_order_87 rfl rfl (by decide) rfl ?_
    refine r_goto ok 48 dX12_order_90 (by decide) ?_
    exact r_sub [1, 2, 3, 0, 4] _ rfl h
  · have h := h.2 c
    refine r_aload_n ok 0 dX12_order_57 rfl ?_
    refine r_getR ok 0 16 rfl rfl fo_X12_43 dX12_order_58 ?_
    refine r_iload_n ok 2 dX12_order_61 rfl ?_
    refine r_iconst ok (nI 1) dX12_order_62 (by decide) ?_
    refine r_iload_n ok 3 dX12_order_63 rfl ?_
    refine r_ishl ok dX12_order_64 ?_
    refine r_ior ok dX12_order_65 ?_
    refine r_iaload ok 12 rfl dX12_order_66 h.1 ?_
    have h := h.2
    refine r_aload_n ok 0 dX12_order_67 rfl ?_
    refine r_getR ok 0 17 rfl rfl fo_X12_46 dX12_order_68 ?_
    refine r_iload_n ok 2 dX12_order_71 rfl ?_
    refine r_iconst ok (nI 1) dX12_order_72 (by decide) ?_
    refine r_iload_n ok 3 dX12_order_73 rfl ?_
    refine r_ishl ok dX12_order_74 ?_
    refine r_ior ok dX12_order_75 ?_
    refine r_iaload ok 13 rfl dX12_order_76 h.1 ?_
    have h := h.2
    refine r_iadd ok dX12_order_77 ?_
    refine r_aload_n ok 0 dX12_order_78 rfl ?_
    refine r_getR ok 0 17 rfl rfl fo_X12_46 dX12_order_79 ?_
    refine r_iload_n ok 2 dX12_order_82 rfl ?_
    refine r_iaload ok 13 rfl dX12_order_83 h.1 ?_
    have h := h.2
    refine r_icmp_eq ok 93 dX12_order_84 (by decide) ⟨fun c => ?_, fun c => ?_⟩
    · have h := h.1 c
      refine r_iload_n ok 2 dX12_order_93 rfl ?_
      refine r_iconst ok (nI 1) dX12_order_94 (by decide) ?_
      refine r_iload_n ok 3 dX12_order_95 rfl ?_
      refine r_ishl ok dX12_order_96 ?_
      refine r_ior ok dX12_order_97 ?_
      refine r_istore_n ok [(2, .int (v2 ||| (jshl (nI 1) v3))), (0, .ref (g.ad 0)), (1, .int v1), (3, .int v3), (4, .int v4)] dX12_order_98 (by decide) rfl ?_
      refine r_iinc ok 4 (v4 + (nI 1)) [(4, .int (v4 + (nI 1))), (2, .int (v2 ||| (jshl (nI 1) v3))), (0, .ref (g.ad 0)), (1, .int v1), (3, .int v3)] dX12_order_99 rfl rfl (by decide) rfl ?_
      refine r_goto ok 40 dX12_order_102 (by decide) ?_
      exact r_sub [2, 3, 1, 4, 0] _ rfl h
    · have h := h.2 c
      refine r_iinc ok 3 (v3 + (nI 1)) [(3, .int (v3 + (nI 1))), (0, .ref (g.ad 0)), (1, .int v1), (2, .int v2), (4, .int v4)] dX12_order_87 rfl rfl (by decide) rfl ?_
      refine r_goto ok 48 dX12_order_90 (by decide) ?_
      exact r_sub [1, 2, 3, 0, 4] _ rfl h
set_option maxRecDepth 10000 in
theorem s_X12_wholesFor_0 {l : Launch} {x : Cx} {g : Geo} {K : Int32 → Mem → Prop} (ok : Ok x g shM m_X12_wholesFor) (v1 : Int32) (v2 : Int32) (S : Mem) (h : PW l x g shM m_X12_wholesFor (Qi x g shM K) 5 [(0, .ref (g.ad 0)), (1, .int v1), (2, .int v2), (3, .int (nI 0)), (4, .int (nI 0))] [] S) : PW l x g shM m_X12_wholesFor (Qi x g shM K) 0 [(0, .ref (g.ad 0)), (1, .int v1), (2, .int v2)] [] S := by
  refine r_iconst ok (nI 0) dX12_wholesFor_0 (by decide) ?_
  refine r_istore_n ok [(3, .int (nI 0)), (0, .ref (g.ad 0)), (1, .int v1), (2, .int v2)] dX12_wholesFor_1 (by decide) rfl ?_
  refine r_iconst ok (nI 0) dX12_wholesFor_2 (by decide) ?_
  refine r_istore ok [(4, .int (nI 0)), (3, .int (nI 0)), (0, .ref (g.ad 0)), (1, .int v1), (2, .int v2)] dX12_wholesFor_3 (by decide) rfl ?_
  exact r_sub [2, 3, 4, 1, 0] _ rfl h
set_option maxRecDepth 10000 in
theorem s_X12_wholesFor_5 {l : Launch} {x : Cx} {g : Geo} {K : Int32 → Mem → Prop} (ok : Ok x g shM m_X12_wholesFor) (v1 : Int32) (v2 : Int32) (v3 : Int32) (v4 : Int32) (S : Mem) (h : ((v2 ≤ v4 → K v3 S) ∧ (¬ v2 ≤ v4 → PW l x g shM m_X12_wholesFor (Qi x g shM K) 18 [(0, .ref (g.ad 0)), (1, .int v1), (2, .int v2), (3, .int v3), (4, .int v4), (5, .int (-6)), (6, .int (nI 0))] [] S))) : PW l x g shM m_X12_wholesFor (Qi x g shM K) 5 [(0, .ref (g.ad 0)), (1, .int v1), (2, .int v2), (3, .int v3), (4, .int v4)] [] S := by
  refine r_iload ok 4 dX12_wholesFor_5 rfl ?_
  refine r_iload_n ok 2 dX12_wholesFor_7 rfl ?_
  refine r_icmp_ge ok 117 dX12_wholesFor_8 (by decide) ⟨fun c => ?_, fun c => ?_⟩
  · have h := h.1 c
    refine r_iload_n ok 3 dX12_wholesFor_117 rfl ?_
    exact r_iret ok rfl dX12_wholesFor_118 h
  · have h := h.2 c
    refine r_bipush ok (-6) dX12_wholesFor_11 (by decide) ?_
    refine r_istore ok [(5, .int (-6)), (0, .ref (g.ad 0)), (1, .int v1), (2, .int v2), (3, .int v3), (4, .int v4)] dX12_wholesFor_13 (by decide) rfl ?_
    refine r_iconst ok (nI 0) dX12_wholesFor_15 (by decide) ?_
    refine r_istore ok [(6, .int (nI 0)), (5, .int (-6)), (0, .ref (g.ad 0)), (1, .int v1), (2, .int v2), (3, .int v3), (4, .int v4)] dX12_wholesFor_16 (by decide) rfl ?_
    exact r_sub [2, 3, 4, 5, 6, 1, 0] _ rfl h
set_option maxRecDepth 10000 in
theorem s_X12_wholesFor_18 {l : Launch} {x : Cx} {g : Geo} {K : Int32 → Mem → Prop} (ok : Ok x g shM m_X12_wholesFor) (v1 : Int32) (v2 : Int32) (v3 : Int32) (v4 : Int32) (v5 : Int32) (v6 : Int32) (S : Mem) (h : (((S 0 4) ≤ v6 → ((0 ≤ v5 → PW l x g shM m_X12_wholesFor (Qi x g shM K) 5 [(0, .ref (g.ad 0)), (1, .int v1), (2, .int v2), (3, .int (v3 ||| (jshl (nI 1) v5))), (4, .int (v4 + (nI 1)))] [] S) ∧ (¬ 0 ≤ v5 → PW l x g shM m_X12_wholesFor (Qi x g shM K) 5 [(0, .ref (g.ad 0)), (1, .int v1), (2, .int v2), (3, .int (v3 ||| (nI 0))), (4, .int (v4 + (nI 1)))] [] S))) ∧ (¬ (S 0 4) ≤ v6 → ((¬ ((jshr v3 v6) &&& (nI 1)) = 0 → PW l x g shM m_X12_wholesFor (Qi x g shM K) 50 [(0, .ref (g.ad 0)), (1, .int v1), (2, .int v2), (3, .int v3), (4, .int v4), (5, .int v5), (6, .int v6)] [] S) ∧ (((jshr v3 v6) &&& (nI 1)) = 0 → MWi l g shM m_X12_isGiven [.ref (g.ad 0), .int v6, .int v1] S (fun r1 S1 => ((¬ r1 = 0 → PW l x g shM m_X12_wholesFor (Qi x g shM K) 50 [(0, .ref (g.ad 0)), (1, .int v1), (2, .int v2), (3, .int v3), (4, .int v4), (5, .int v5), (6, .int v6)] [] S1) ∧ (r1 = 0 → ((v5 < 0 → PW l x g shM m_X12_wholesFor (Qi x g shM K) 18 [(0, .ref (g.ad 0)), (1, .int v1), (2, .int v2), (3, .int v3), (4, .int v4), (5, .int v6), (6, .int (v6 + (nI 1)))] [] S1) ∧ (¬ v5 < 0 → (vp_in v6 12 ∧ (vp_in v5 12 ∧ (((S1 4 (cl v6)) ≤ (S1 4 (cl v5)) → PW l x g shM m_X12_wholesFor (Qi x g shM K) 18 [(0, .ref (g.ad 0)), (1, .int v1), (2, .int v2), (3, .int v3), (4, .int v4), (5, .int v5), (6, .int (v6 + (nI 1)))] [] S1) ∧ (¬ (S1 4 (cl v6)) ≤ (S1 4 (cl v5)) → PW l x g shM m_X12_wholesFor (Qi x g shM K) 18 [(0, .ref (g.ad 0)), (1, .int v1), (2, .int v2), (3, .int v3), (4, .int v4), (5, .int v6), (6, .int (v6 + (nI 1)))] [] S1)))))))))))))) : PW l x g shM m_X12_wholesFor (Qi x g shM K) 18 [(0, .ref (g.ad 0)), (1, .int v1), (2, .int v2), (3, .int v3), (4, .int v4), (5, .int v5), (6, .int v6)] [] S := by
  refine r_iload ok 6 dX12_wholesFor_18 rfl ?_
  refine r_aload_n ok 0 dX12_wholesFor_20 rfl ?_
  refine r_getI ok 0 4 rfl rfl fo_X12_105 dX12_wholesFor_21 ?_
  refine r_icmp_ge ok 95 dX12_wholesFor_24 (by decide) ⟨fun c => ?_, fun c => ?_⟩
  · have h := h.1 c
    refine r_iload_n ok 3 dX12_wholesFor_95 rfl ?_
    refine r_iload ok 5 dX12_wholesFor_96 rfl ?_
    refine r_if_ge ok 105 dX12_wholesFor_98 (by decide) ⟨fun c => ?_, fun c => ?_⟩
    · have h := h.1 c
      refine r_iconst ok (nI 1) dX12_wholesFor_105 (by decide) ?_
      refine r_iload ok 5 dX12_wholesFor_106 rfl ?_
      refine r_ishl ok dX12_wholesFor_108 ?_
      refine r_ior ok dX12_wholesFor_109 ?_
      refine r_istore_n ok [(3, .int (v3 ||| (jshl (nI 1) v5))), (0, .ref (g.ad 0)), (1, .int v1), (2, .int v2), (4, .int v4), (5, .int v5), (6, .int v6)] dX12_wholesFor_110 (by decide) rfl ?_
      refine r_iinc ok 4 (v4 + (nI 1)) [(4, .int (v4 + (nI 1))), (3, .int (v3 ||| (jshl (nI 1) v5))), (0, .ref (g.ad 0)), (1, .int v1), (2, .int v2), (5, .int v5), (6, .int v6)] dX12_wholesFor_111 rfl rfl (by decide) rfl ?_
      refine r_goto ok 5 dX12_wholesFor_114 (by decide) ?_
      exact r_sub [2, 3, 4, 1, 0] _ rfl h
    · have h := h.2 c
      refine r_iconst ok (nI 0) dX12_wholesFor_101 (by decide) ?_
      refine r_goto ok 109 dX12_wholesFor_102 (by decide) ?_
      refine r_ior ok dX12_wholesFor_109 ?_
      refine r_istore_n ok [(3, .int (v3 ||| (nI 0))), (0, .ref (g.ad 0)), (1, .int v1), (2, .int v2), (4, .int v4), (5, .int v5), (6, .int v6)] dX12_wholesFor_110 (by decide) rfl ?_
      refine r_iinc ok 4 (v4 + (nI 1)) [(4, .int (v4 + (nI 1))), (3, .int (v3 ||| (nI 0))), (0, .ref (g.ad 0)), (1, .int v1), (2, .int v2), (5, .int v5), (6, .int v6)] dX12_wholesFor_111 rfl rfl (by decide) rfl ?_
      refine r_goto ok 5 dX12_wholesFor_114 (by decide) ?_
      exact r_sub [2, 3, 4, 1, 0] _ rfl h
  · have h := h.2 c
    refine r_iload_n ok 3 dX12_wholesFor_27 rfl ?_
    refine r_iload ok 6 dX12_wholesFor_28 rfl ?_
    refine r_ishr ok dX12_wholesFor_30 ?_
    refine r_iconst ok (nI 1) dX12_wholesFor_31 (by decide) ?_
    refine r_iand ok dX12_wholesFor_32 ?_
    refine r_if_ne ok 50 dX12_wholesFor_33 (by decide) ⟨fun c => ?_, fun c => ?_⟩
    · have h := h.1 c
      exact r_sub [0, 1, 2, 3, 4, 5, 6] _ rfl h
    · have h := h.2 c
      refine r_aload_n ok 0 dX12_wholesFor_36 rfl ?_
      refine r_iload ok 6 dX12_wholesFor_37 rfl ?_
      refine r_iload_n ok 1 dX12_wholesFor_39 rfl ?_
      refine r_virti ok (rest := []) (As := [.int v6, .int v1]) 0 _ k_X12_wholesFor_197 rfl rfl rfl rfl (Nat.le_of_ble_eq_true rfl) dX12_wholesFor_40 (MWi.mono h (fun r1 S1 h => ?_))
      refine r_if_ne ok 50 dX12_wholesFor_43 (by decide) ⟨fun c => ?_, fun c => ?_⟩
      · have h := h.1 c
        exact r_sub [0, 1, 2, 3, 4, 5, 6] _ rfl h
      · have h := h.2 c
        refine r_iconst ok (nI 1) dX12_wholesFor_46 (by decide) ?_
        refine r_goto ok 51 dX12_wholesFor_47 (by decide) ?_
        refine r_istore ok [(7, .int (nI 1)), (0, .ref (g.ad 0)), (1, .int v1), (2, .int v2), (3, .int v3), (4, .int v4), (5, .int v5), (6, .int v6)] dX12_wholesFor_51 (by decide) rfl ?_
        refine r_iload ok 0 dX12_wholesFor_53 rfl ?_
        refine r_if_eq ok 85 dX12_wholesFor_55 (by decide) ⟨fun c => absurd c (by decide), fun _ => ?_⟩
        refine r_iload ok 6 dX12_wholesFor_58 rfl ?_
        refine r_if_lt ok 80 dX12_wholesFor_60 (by decide) ⟨fun c => ?_, fun c => ?_⟩
        · have h := h.1 c
          refine r_iload ok 7 dX12_wholesFor_80 rfl ?_
          refine r_goto ok 87 dX12_wholesFor_82 (by decide) ?_
          refine r_istore ok [(5, .int v6), (7, .int (nI 1)), (0, .ref (g.ad 0)), (1, .int v1), (2, .int v2), (3, .int v3), (4, .int v4), (6, .int v6)] dX12_wholesFor_87 (by decide) rfl ?_
          refine r_iinc ok 7 (v6 + (nI 1)) [(6, .int (v6 + (nI 1))), (5, .int v6), (7, .int (nI 1)), (0, .ref (g.ad 0)), (1, .int v1), (2, .int v2), (3, .int v3), (4, .int v4)] dX12_wholesFor_89 rfl rfl (by decide) rfl ?_
          refine r_goto ok 18 dX12_wholesFor_92 (by decide) ?_
          exact r_sub [3, 4, 5, 6, 7, 1, 0] _ rfl h
        · have h := h.2 c
          refine r_aload_n ok 1 dX12_wholesFor_63 rfl ?_
          refine r_getR ok 0 3 rfl rfl fo_X12_19 dX12_wholesFor_64 ?_
          refine r_iload ok 7 dX12_wholesFor_67 rfl ?_
          refine r_iaload ok 4 rfl dX12_wholesFor_69 h.1 ?_
          have h := h.2
          refine r_aload_n ok 1 dX12_wholesFor_70 rfl ?_
          refine r_getR ok 0 3 rfl rfl fo_X12_19 dX12_wholesFor_71 ?_
          refine r_iload ok 6 dX12_wholesFor_74 rfl ?_
          refine r_iaload ok 4 rfl dX12_wholesFor_76 h.1 ?_
          have h := h.2
          refine r_icmp_le ok 85 dX12_wholesFor_77 (by decide) ⟨fun c => ?_, fun c => ?_⟩
          · have h := h.1 c
            refine r_iload ok 6 dX12_wholesFor_85 rfl ?_
            refine r_istore ok [(5, .int v5), (7, .int (nI 1)), (0, .ref (g.ad 0)), (1, .int v1), (2, .int v2), (3, .int v3), (4, .int v4), (6, .int v6)] dX12_wholesFor_87 (by decide) rfl ?_
            refine r_iinc ok 7 (v6 + (nI 1)) [(6, .int (v6 + (nI 1))), (5, .int v5), (7, .int (nI 1)), (0, .ref (g.ad 0)), (1, .int v1), (2, .int v2), (3, .int v3), (4, .int v4)] dX12_wholesFor_89 rfl rfl (by decide) rfl ?_
            refine r_goto ok 18 dX12_wholesFor_92 (by decide) ?_
            exact r_sub [3, 4, 5, 6, 7, 1, 0] _ rfl h
          · have h := h.2 c
            refine r_iload ok 7 dX12_wholesFor_80 rfl ?_
            refine r_goto ok 87 dX12_wholesFor_82 (by decide) ?_
            refine r_istore ok [(5, .int v6), (7, .int (nI 1)), (0, .ref (g.ad 0)), (1, .int v1), (2, .int v2), (3, .int v3), (4, .int v4), (6, .int v6)] dX12_wholesFor_87 (by decide) rfl ?_
            refine r_iinc ok 7 (v6 + (nI 1)) [(6, .int (v6 + (nI 1))), (5, .int v6), (7, .int (nI 1)), (0, .ref (g.ad 0)), (1, .int v1), (2, .int v2), (3, .int v3), (4, .int v4)] dX12_wholesFor_89 rfl rfl (by decide) rfl ?_
            refine r_goto ok 18 dX12_wholesFor_92 (by decide) ?_
            exact r_sub [3, 4, 5, 6, 7, 1, 0] _ rfl h
set_option maxRecDepth 10000 in
theorem s_X12_wholesFor_50 {l : Launch} {x : Cx} {g : Geo} {K : Int32 → Mem → Prop} (ok : Ok x g shM m_X12_wholesFor) (v1 : Int32) (v2 : Int32) (v3 : Int32) (v4 : Int32) (v5 : Int32) (v6 : Int32) (S : Mem) (h : PW l x g shM m_X12_wholesFor (Qi x g shM K) 18 [(0, .ref (g.ad 0)), (1, .int v1), (2, .int v2), (3, .int v3), (4, .int v4), (5, .int v5), (6, .int (v6 + (nI 1)))] [] S) : PW l x g shM m_X12_wholesFor (Qi x g shM K) 50 [(0, .ref (g.ad 0)), (1, .int v1), (2, .int v2), (3, .int v3), (4, .int v4), (5, .int v5), (6, .int v6)] [] S := by
  refine r_iconst ok (nI 0) dX12_wholesFor_50 (by decide) ?_
  refine r_istore ok [(7, .int (nI 0)), (0, .ref (g.ad 0)), (1, .int v1), (2, .int v2), (3, .int v3), (4, .int v4), (5, .int v5), (6, .int v6)] dX12_wholesFor_51 (by decide) rfl ?_
  refine r_iload ok 0 dX12_wholesFor_53 rfl ?_
  refine r_if_eq ok 85 dX12_wholesFor_55 (by decide) ⟨fun _ => ?_, fun c => absurd c (by decide)⟩
  refine r_iload ok 6 dX12_wholesFor_85 rfl ?_
  refine r_istore ok [(5, .int v5), (7, .int (nI 0)), (0, .ref (g.ad 0)), (1, .int v1), (2, .int v2), (3, .int v3), (4, .int v4), (6, .int v6)] dX12_wholesFor_87 (by decide) rfl ?_
  refine r_iinc ok 7 (v6 + (nI 1)) [(6, .int (v6 + (nI 1))), (5, .int v5), (7, .int (nI 0)), (0, .ref (g.ad 0)), (1, .int v1), (2, .int v2), (3, .int v3), (4, .int v4)] dX12_wholesFor_89 rfl rfl (by decide) rfl ?_
  refine r_goto ok 18 dX12_wholesFor_92 (by decide) ?_
  exact r_sub [3, 4, 5, 6, 7, 1, 0] _ rfl h
set_option maxRecDepth 10000 in
theorem s_X12_most_0 {l : Launch} {x : Cx} {g : Geo} {K : Int32 → Mem → Prop} (ok : Ok x g shM m_X12_most) (v1 : Int32) (v2 : Int32) (v3 : Int32) (S : Mem) (h : MWi l g shM m_X12_in [.long v1.toInt64, .long (lN 0), .long (lN 10)] S (fun r1 S1 => ((r1 = 0 → K (-2) S1) ∧ (¬ r1 = 0 → MWi l g shM m_X12_in [.long v2.toInt64, .long (lN 0), .long (S1 0 4).toInt64] S1 (fun r2 S2 => ((r2 = 0 → K (-2) S2) ∧ (¬ r2 = 0 → MWi l g shM m_X12_in [.long v3.toInt64, .long (lN 0), .long (lN 2)] S2 (fun r3 S3 => ((¬ r3 = 0 → MWv l g shM m_X12_findCommon [.ref (g.ad 0)] S3 (fun S4 => PW l x g shM m_X12_most (Qi x g shM K) 58 [(0, .ref (g.ad 0)), (1, .int v1), (2, .int v2), (3, .int v3), (4, .int (-6)), (5, .int (nI 0)), (6, .int (nI 0)), (7, .int (nI 0))] [] S4)) ∧ (r3 = 0 → K (-2) S3)))))))))) : PW l x g shM m_X12_most (Qi x g shM K) 0 [(0, .ref (g.ad 0)), (1, .int v1), (2, .int v2), (3, .int v3)] [] S := by
  refine r_iload_n ok 1 dX12_most_0 rfl ?_
  refine r_i2l ok dX12_most_1 ?_
  refine r_lconst ok (lN 0) dX12_most_2 (by decide) ?_
  refine r_ldc2 ok (lN 10) dX12_most_3 (gt_in (List.mem_of_getElem? (i := 1098) (by decide +kernel)) rfl) ?_
  refine r_stati ok (rest := []) (As := [.long v1.toInt64, .long (lN 0), .long (lN 10)]) _ k_X12_most_80 rfl rfl (Nat.le_of_ble_eq_true rfl) dX12_most_6 (MWi.mono h (fun r1 S1 h => ?_))
  refine r_if_eq ok 38 dX12_most_9 (by decide) ⟨fun c => ?_, fun c => ?_⟩
  · have h := h.1 c
    refine r_bipush ok (-2) dX12_most_38 (by decide) ?_
    exact r_iret ok rfl dX12_most_40 h
  · have h := h.2 c
    refine r_iload_n ok 2 dX12_most_12 rfl ?_
    refine r_i2l ok dX12_most_13 ?_
    refine r_lconst ok (lN 0) dX12_most_14 (by decide) ?_
    refine r_aload_n ok 0 dX12_most_15 rfl ?_
    refine r_getI ok 0 4 rfl rfl fo_X12_105 dX12_most_16 ?_
    refine r_i2l ok dX12_most_19 ?_
    refine r_stati ok (rest := []) (As := [.long v2.toInt64, .long (lN 0), .long (S1 0 4).toInt64]) _ k_X12_most_80 rfl rfl (Nat.le_of_ble_eq_true rfl) dX12_most_20 (MWi.mono h (fun r2 S2 h => ?_))
    refine r_if_eq ok 38 dX12_most_23 (by decide) ⟨fun c => ?_, fun c => ?_⟩
    · have h := h.1 c
      refine r_bipush ok (-2) dX12_most_38 (by decide) ?_
      exact r_iret ok rfl dX12_most_40 h
    · have h := h.2 c
      refine r_iload_n ok 3 dX12_most_26 rfl ?_
      refine r_i2l ok dX12_most_27 ?_
      refine r_lconst ok (lN 0) dX12_most_28 (by decide) ?_
      refine r_ldc2 ok (lN 2) dX12_most_29 (gt_in (List.mem_of_getElem? (i := 1220) (by decide +kernel)) rfl) ?_
      refine r_stati ok (rest := []) (As := [.long v3.toInt64, .long (lN 0), .long (lN 2)]) _ k_X12_most_80 rfl rfl (Nat.le_of_ble_eq_true rfl) dX12_most_32 (MWi.mono h (fun r3 S3 h => ?_))
      refine r_if_ne ok 41 dX12_most_35 (by decide) ⟨fun c => ?_, fun c => ?_⟩
      · have h := h.1 c
        refine r_aload_n ok 0 dX12_most_41 rfl ?_
        refine r_virtv ok (rest := []) (As := []) 0 _ k_X12_most_137 rfl rfl rfl rfl (Nat.le_of_ble_eq_true rfl) dX12_most_42 (MWv.mono h (fun S4 h => ?_))
        refine r_bipush ok (-6) dX12_most_45 (by decide) ?_
        refine r_istore ok [(4, .int (-6)), (0, .ref (g.ad 0)), (1, .int v1), (2, .int v2), (3, .int v3)] dX12_most_47 (by decide) rfl ?_
        refine r_iconst ok (nI 0) dX12_most_49 (by decide) ?_
        refine r_istore ok [(5, .int (nI 0)), (4, .int (-6)), (0, .ref (g.ad 0)), (1, .int v1), (2, .int v2), (3, .int v3)] dX12_most_50 (by decide) rfl ?_
        refine r_iconst ok (nI 0) dX12_most_52 (by decide) ?_
        refine r_istore ok [(6, .int (nI 0)), (5, .int (nI 0)), (4, .int (-6)), (0, .ref (g.ad 0)), (1, .int v1), (2, .int v2), (3, .int v3)] dX12_most_53 (by decide) rfl ?_
        refine r_iconst ok (nI 0) dX12_most_55 (by decide) ?_
        refine r_istore ok [(7, .int (nI 0)), (6, .int (nI 0)), (5, .int (nI 0)), (4, .int (-6)), (0, .ref (g.ad 0)), (1, .int v1), (2, .int v2), (3, .int v3)] dX12_most_56 (by decide) rfl ?_
        exact r_sub [4, 5, 6, 7, 3, 2, 1, 0] _ rfl h
      · have h := h.2 c
        refine r_bipush ok (-2) dX12_most_38 (by decide) ?_
        exact r_iret ok rfl dX12_most_40 h
set_option maxRecDepth 10000 in
theorem s_X12_most_58 {l : Launch} {x : Cx} {g : Geo} {K : Int32 → Mem → Prop} (ok : Ok x g shM m_X12_most) (v1 : Int32) (v2 : Int32) (v3 : Int32) (v4 : Int32) (v5 : Int32) (v6 : Int32) (v7 : Int32) (S : Mem) (h : (((nI 1024) ≤ v7 → ((¬ v3 = 0 → ((¬ v3 = (nI 1) → K v6 S) ∧ (v3 = (nI 1) → K v5 S))) ∧ (v3 = 0 → K v4 S))) ∧ (¬ (nI 1024) ≤ v7 → MWi l g shM m_X12_ones [.int v7] S (fun r1 S1 => ((¬ r1 = v1 → PW l x g shM m_X12_most (Qi x g shM K) 58 [(0, .ref (g.ad 0)), (1, .int v1), (2, .int v2), (3, .int v3), (4, .int v4), (5, .int v5), (6, .int v6), (7, .int (v7 + (nI 1)))] [] S1) ∧ (r1 = v1 → MWi l g shM m_X12_wholesFor [.ref (g.ad 0), .int v7, .int v2] S1 (fun r2 S2 => MWi l g shM m_X12_givesOf [.ref (g.ad 0), .int v7, .int r2] S2 (fun r3 S3 => ((r3 ≤ v4 → PW l x g shM m_X12_most (Qi x g shM K) 58 [(0, .ref (g.ad 0)), (1, .int v1), (2, .int v2), (3, .int v3), (4, .int v4), (5, .int v5), (6, .int v6), (7, .int (v7 + (nI 1)))] [] S3) ∧ (¬ r3 ≤ v4 → PW l x g shM m_X12_most (Qi x g shM K) 58 [(0, .ref (g.ad 0)), (1, .int v1), (2, .int v2), (3, .int v3), (4, .int r3), (5, .int v7), (6, .int r2), (7, .int (v7 + (nI 1)))] [] S3)))))))))) : PW l x g shM m_X12_most (Qi x g shM K) 58 [(0, .ref (g.ad 0)), (1, .int v1), (2, .int v2), (3, .int v3), (4, .int v4), (5, .int v5), (6, .int v6), (7, .int v7)] [] S := by
  refine r_iload ok 7 dX12_most_58 rfl ?_
  refine r_sipush ok (nI 1024) dX12_most_60 (by decide) ?_
  refine r_icmp_ge ok 119 dX12_most_63 (by decide) ⟨fun c => ?_, fun c => ?_⟩
  · have h := h.1 c
    refine r_iload_n ok 3 dX12_most_119 rfl ?_
    refine r_if_ne ok 128 dX12_most_120 (by decide) ⟨fun c => ?_, fun c => ?_⟩
    · have h := h.1 c
      refine r_iload_n ok 3 dX12_most_128 rfl ?_
      refine r_iconst ok (nI 1) dX12_most_129 (by decide) ?_
      refine r_icmp_ne ok 138 dX12_most_130 (by decide) ⟨fun c => ?_, fun c => ?_⟩
      · have h := h.1 c
        refine r_iload ok 6 dX12_most_138 rfl ?_
        exact r_iret ok rfl dX12_most_140 h
      · have h := h.2 c
        refine r_iload ok 5 dX12_most_133 rfl ?_
        refine r_goto ok 140 dX12_most_135 (by decide) ?_
        exact r_iret ok rfl dX12_most_140 h
    · have h := h.2 c
      refine r_iload ok 4 dX12_most_123 rfl ?_
      refine r_goto ok 140 dX12_most_125 (by decide) ?_
      exact r_iret ok rfl dX12_most_140 h
  · have h := h.2 c
    refine r_iload ok 7 dX12_most_66 rfl ?_
    refine r_stati ok (rest := []) (As := [.int v7]) _ k_X12_most_211 rfl rfl (Nat.le_of_ble_eq_true rfl) dX12_most_68 (MWi.mono h (fun r1 S1 h => ?_))
    refine r_iload_n ok 1 dX12_most_71 rfl ?_
    refine r_icmp_ne ok 113 dX12_most_72 (by decide) ⟨fun c => ?_, fun c => ?_⟩
    · have h := h.1 c
      refine r_iinc ok 7 (v7 + (nI 1)) [(7, .int (v7 + (nI 1))), (0, .ref (g.ad 0)), (1, .int v1), (2, .int v2), (3, .int v3), (4, .int v4), (5, .int v5), (6, .int v6)] dX12_most_113 rfl rfl (by decide) rfl ?_
      refine r_goto ok 58 dX12_most_116 (by decide) ?_
      exact r_sub [1, 2, 3, 4, 5, 6, 7, 0] _ rfl h
    · have h := h.2 c
      refine r_aload_n ok 0 dX12_most_75 rfl ?_
      refine r_iload ok 7 dX12_most_76 rfl ?_
      refine r_iload_n ok 2 dX12_most_78 rfl ?_
      refine r_virti ok (rest := []) (As := [.int v7, .int v2]) 0 _ k_X12_most_214 rfl rfl rfl rfl (Nat.le_of_ble_eq_true rfl) dX12_most_79 (MWi.mono h (fun r2 S2 h => ?_))
      refine r_istore ok [(8, .int r2), (0, .ref (g.ad 0)), (1, .int v1), (2, .int v2), (3, .int v3), (4, .int v4), (5, .int v5), (6, .int v6), (7, .int v7)] dX12_most_82 (by decide) rfl ?_
      refine r_aload_n ok 1 dX12_most_84 rfl ?_
      refine r_iload ok 8 dX12_most_85 rfl ?_
      refine r_iload ok 0 dX12_most_87 rfl ?_
      refine r_virti ok (rest := []) (As := [.int v7, .int r2]) 0 _ k_X12_most_201 rfl rfl rfl rfl (Nat.le_of_ble_eq_true rfl) dX12_most_89 (MWi.mono h (fun r3 S3 h => ?_))
      refine r_istore ok [(9, .int r3), (8, .int r2), (0, .ref (g.ad 0)), (1, .int v1), (2, .int v2), (3, .int v3), (4, .int v4), (5, .int v5), (6, .int v6), (7, .int v7)] dX12_most_92 (by decide) rfl ?_
      refine r_iload ok 0 dX12_most_94 rfl ?_
      refine r_iload ok 6 dX12_most_96 rfl ?_
      refine r_icmp_le ok 113 dX12_most_98 (by decide) ⟨fun c => ?_, fun c => ?_⟩
      · have h := h.1 c
        refine r_iinc ok 9 (v7 + (nI 1)) [(7, .int (v7 + (nI 1))), (9, .int r3), (8, .int r2), (0, .ref (g.ad 0)), (1, .int v1), (2, .int v2), (3, .int v3), (4, .int v4), (5, .int v5), (6, .int v6)] dX12_most_113 rfl rfl (by decide) rfl ?_
        refine r_goto ok 58 dX12_most_116 (by decide) ?_
        exact r_sub [3, 4, 5, 6, 7, 8, 9, 0] _ rfl h
      · have h := h.2 c
        refine r_iload ok 0 dX12_most_101 rfl ?_
        refine r_istore ok [(4, .int r3), (9, .int r3), (8, .int r2), (0, .ref (g.ad 0)), (1, .int v1), (2, .int v2), (3, .int v3), (5, .int v5), (6, .int v6), (7, .int v7)] dX12_most_103 (by decide) rfl ?_
        refine r_iload ok 9 dX12_most_105 rfl ?_
        refine r_istore ok [(5, .int v7), (4, .int r3), (9, .int r3), (8, .int r2), (0, .ref (g.ad 0)), (1, .int v1), (2, .int v2), (3, .int v3), (6, .int v6), (7, .int v7)] dX12_most_107 (by decide) rfl ?_
        refine r_iload ok 3 dX12_most_109 rfl ?_
        refine r_istore ok [(6, .int r2), (5, .int v7), (4, .int r3), (9, .int r3), (8, .int r2), (0, .ref (g.ad 0)), (1, .int v1), (2, .int v2), (3, .int v3), (7, .int v7)] dX12_most_111 (by decide) rfl ?_
        refine r_iinc ok 9 (v7 + (nI 1)) [(7, .int (v7 + (nI 1))), (6, .int r2), (5, .int v7), (4, .int r3), (9, .int r3), (8, .int r2), (0, .ref (g.ad 0)), (1, .int v1), (2, .int v2), (3, .int v3)] dX12_most_113 rfl rfl (by decide) rfl ?_
        refine r_goto ok 58 dX12_most_116 (by decide) ?_
        exact r_sub [6, 7, 8, 9, 3, 2, 1, 0] _ rfl h
set_option maxRecDepth 10000 in
theorem s_X12_follows_0 {l : Launch} {x : Cx} {g : Geo} {K : Int32 → Mem → Prop} (ok : Ok x g shM m_X12_follows) (v1 : Int32) (v2 : Int32) (S : Mem) (h : (vp_in v2 12 ∧ (((S 15 (cl v2)) = 0 → K (nI 0) S) ∧ (¬ (S 15 (cl v2)) = 0 → (vp_in v1 12 ∧ (vp_in ((((nI 5) * v1) + (S 3 (cl v1))) - (nI 1)) 60 ∧ (vp_in ((nI 5) * v2) 60 ∧ ((¬ (S 1 (cl ((((nI 5) * v1) + (S 3 (cl v1))) - (nI 1)))) = (S 1 (cl ((nI 5) * v2))) → K (nI 0) S) ∧ ((S 1 (cl ((((nI 5) * v1) + (S 3 (cl v1))) - (nI 1)))) = (S 1 (cl ((nI 5) * v2))) → K (nI 1) S))))))))) : PW l x g shM m_X12_follows (Qi x g shM K) 0 [(0, .ref (g.ad 0)), (1, .int v1), (2, .int v2)] [] S := by
  refine r_aload_n ok 0 dX12_follows_0 rfl ?_
  refine r_getR ok 0 19 rfl rfl fo_X12_53 dX12_follows_1 ?_
  refine r_iload_n ok 2 dX12_follows_4 rfl ?_
  refine r_baload ok 15 rfl dX12_follows_5 h.1 ?_
  have h := h.2
  refine r_if_eq ok 41 dX12_follows_6 (by decide) ⟨fun c => ?_, fun c => ?_⟩
  · have h := h.1 c
    refine r_iconst ok (nI 0) dX12_follows_41 (by decide) ?_
    exact r_zret ok rfl dX12_follows_42 ⟨rfl, h⟩
  · have h := h.2 c
    refine r_aload_n ok 0 dX12_follows_9 rfl ?_
    refine r_getR ok 0 0 rfl rfl fo_X12_7 dX12_follows_10 ?_
    refine r_iconst ok (nI 5) dX12_follows_13 (by decide) ?_
    refine r_iload_n ok 1 dX12_follows_14 rfl ?_
    refine r_imul ok dX12_follows_15 ?_
    refine r_aload_n ok 0 dX12_follows_16 rfl ?_
    refine r_getR ok 0 2 rfl rfl fo_X12_16 dX12_follows_17 ?_
    refine r_iload_n ok 1 dX12_follows_20 rfl ?_
    refine r_iaload ok 3 rfl dX12_follows_21 h.1 ?_
    have h := h.2
    refine r_iadd ok dX12_follows_22 ?_
    refine r_iconst ok (nI 1) dX12_follows_23 (by decide) ?_
    refine r_isub ok dX12_follows_24 ?_
    refine r_iaload ok 1 rfl dX12_follows_25 h.1 ?_
    have h := h.2
    refine r_aload_n ok 0 dX12_follows_26 rfl ?_
    refine r_getR ok 0 0 rfl rfl fo_X12_7 dX12_follows_27 ?_
    refine r_iconst ok (nI 5) dX12_follows_30 (by decide) ?_
    refine r_iload_n ok 2 dX12_follows_31 rfl ?_
    refine r_imul ok dX12_follows_32 ?_
    refine r_iaload ok 1 rfl dX12_follows_33 h.1 ?_
    have h := h.2
    refine r_icmp_ne ok 41 dX12_follows_34 (by decide) ⟨fun c => ?_, fun c => ?_⟩
    · have h := h.1 c
      refine r_iconst ok (nI 0) dX12_follows_41 (by decide) ?_
      exact r_zret ok rfl dX12_follows_42 ⟨rfl, h⟩
    · have h := h.2 c
      refine r_iconst ok (nI 1) dX12_follows_37 (by decide) ?_
      refine r_goto ok 42 dX12_follows_38 (by decide) ?_
      exact r_zret ok rfl dX12_follows_42 ⟨rfl, h⟩
