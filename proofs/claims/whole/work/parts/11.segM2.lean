/-! segments, written by program: 11.segM2.lean.txt -/
set_option maxRecDepth 10000 in
theorem s_X12_findTales_0 {l : Launch} {x : Cx} {g : Geo} {K : Mem → Prop} (ok : Ok x g shM m_X12_findTales) (v1 : Int32) (S : Mem) (h : MWv l g shM m_X12_findCommon [.ref (g.ad 0)] S (fun S1 => PW l x g shM m_X12_findTales (Qv x g shM K) 6 [(0, .ref (g.ad 0)), (1, .int v1), (2, .int (nI 0))] [] S1)) : PW l x g shM m_X12_findTales (Qv x g shM K) 0 [(0, .ref (g.ad 0)), (1, .int v1)] [] S := by
  refine r_aload_n ok 0 dX12_findTales_0 rfl ?_
  refine r_virtv ok (rest := []) (As := []) 0 _ k_X12_findTales_137 rfl rfl rfl rfl (Nat.le_of_ble_eq_true rfl) dX12_findTales_1 (MWv.mono h (fun S1 h => ?_))
  refine r_iconst ok (nI 0) dX12_findTales_4 (by decide) ?_
  refine r_istore_n ok [(2, .int (nI 0)), (0, .ref (g.ad 0)), (1, .int v1)] dX12_findTales_5 (by decide) rfl ?_
  exact r_sub [1, 2, 0] _ rfl h
set_option maxRecDepth 10000 in
theorem s_X12_findTales_6 {l : Launch} {x : Cx} {g : Geo} {K : Mem → Prop} (ok : Ok x g shM m_X12_findTales) (v1 : Int32) (v2 : Int32) (S : Mem) (h : (((S 0 4) ≤ v2 → PW l x g shM m_X12_findTales (Qv x g shM K) 53 [(0, .ref (g.ad 0)), (2, .int ((jshl (nI 1) (S 0 4)) - (nI 1)))] [] S) ∧ (¬ (S 0 4) ≤ v2 → (vp_in v1 4 ∧ (vp_in v1 4 ∧ MWi l g shM m_X12_canRead [.ref (g.ad 0), .int v1, .int (S 9 (cl v1)), .int (S 10 (cl v1)), .int v2] S (fun r1 S1 => (vp_in v2 12 ∧ vp_nar .boolean r1 = r1 ∧ PW l x g shM m_X12_findTales (Qv x g shM K) 6 [(0, .ref (g.ad 0)), (1, .int v1), (2, .int (v2 + (nI 1)))] [] (st2 S1 15 (cl v2) r1)))))))) : PW l x g shM m_X12_findTales (Qv x g shM K) 6 [(0, .ref (g.ad 0)), (1, .int v1), (2, .int v2)] [] S := by
  refine r_iload_n ok 2 dX12_findTales_6 rfl ?_
  refine r_aload_n ok 0 dX12_findTales_7 rfl ?_
  refine r_getI ok 0 4 rfl rfl fo_X12_105 dX12_findTales_8 ?_
  refine r_icmp_ge ok 44 dX12_findTales_11 (by decide) ⟨fun c => ?_, fun c => ?_⟩
  · have h := h.1 c
    refine r_iconst ok (nI 1) dX12_findTales_44 (by decide) ?_
    refine r_aload_n ok 0 dX12_findTales_45 rfl ?_
    refine r_getI ok 0 4 rfl rfl fo_X12_105 dX12_findTales_46 ?_
    refine r_ishl ok dX12_findTales_49 ?_
    refine r_iconst ok (nI 1) dX12_findTales_50 (by decide) ?_
    refine r_isub ok dX12_findTales_51 ?_
    refine r_istore_n ok [(2, .int ((jshl (nI 1) (S 0 4)) - (nI 1))), (0, .ref (g.ad 0)), (1, .int v1)] dX12_findTales_52 (by decide) rfl ?_
    exact r_sub [1, 0] _ rfl h
  · have h := h.2 c
    refine r_aload_n ok 0 dX12_findTales_14 rfl ?_
    refine r_getR ok 0 19 rfl rfl fo_X12_53 dX12_findTales_15 ?_
    refine r_iload_n ok 2 dX12_findTales_18 rfl ?_
    refine r_aload_n ok 0 dX12_findTales_19 rfl ?_
    refine r_iload_n ok 1 dX12_findTales_20 rfl ?_
    refine r_aload_n ok 0 dX12_findTales_21 rfl ?_
    refine r_getR ok 0 11 rfl rfl fo_X12_34 dX12_findTales_22 ?_
    refine r_iload_n ok 1 dX12_findTales_25 rfl ?_
    refine r_iaload ok 9 rfl dX12_findTales_26 h.1 ?_
    have h := h.2
    refine r_aload_n ok 0 dX12_findTales_27 rfl ?_
    refine r_getR ok 0 12 rfl rfl fo_X12_37 dX12_findTales_28 ?_
    refine r_iload_n ok 1 dX12_findTales_31 rfl ?_
    refine r_iaload ok 10 rfl dX12_findTales_32 h.1 ?_
    have h := h.2
    refine r_iload_n ok 2 dX12_findTales_33 rfl ?_
    refine r_virti ok (rest := [.int v2, .ref (g.ad 15)]) (As := [.int v1, .int (S 9 (cl v1)), .int (S 10 (cl v1)), .int v2]) 0 _ k_X12_findTales_189 rfl rfl rfl rfl (Nat.le_of_ble_eq_true rfl) dX12_findTales_34 (MWi.mono h (fun r1 S1 h => ?_))
    refine r_bastore ok 15 rfl dX12_findTales_37 h.1 h.2.1 ?_
    have h := h.2.2
    refine r_iinc ok 2 (v2 + (nI 1)) [(2, .int (v2 + (nI 1))), (0, .ref (g.ad 0)), (1, .int v1)] dX12_findTales_38 rfl rfl (by decide) rfl ?_
    refine r_goto ok 6 dX12_findTales_41 (by decide) ?_
    exact r_sub [1, 2, 0] _ rfl h
set_option maxRecDepth 10000 in
theorem s_X12_findTales_53 {l : Launch} {x : Cx} {g : Geo} {K : Mem → Prop} (ok : Ok x g shM m_X12_findTales) (v2 : Int32) (S : Mem) (h : ((v2 ≤ 0 → K S) ∧ (¬ v2 ≤ 0 → PW l x g shM m_X12_findTales (Qv x g shM K) 59 [(0, .ref (g.ad 0)), (2, .int v2), (3, .int (nI 0))] [] S))) : PW l x g shM m_X12_findTales (Qv x g shM K) 53 [(0, .ref (g.ad 0)), (2, .int v2)] [] S := by
  refine r_iload_n ok 1 dX12_findTales_53 rfl ?_
  refine r_if_le ok 203 dX12_findTales_54 (by decide) ⟨fun c => ?_, fun c => ?_⟩
  · have h := h.1 c
    exact r_ret ok rfl dX12_findTales_203 h
  · have h := h.2 c
    refine r_iconst ok (nI 0) dX12_findTales_57 (by decide) ?_
    refine r_istore_n ok [(3, .int (nI 0)), (0, .ref (g.ad 0)), (2, .int v2)] dX12_findTales_58 (by decide) rfl ?_
    exact r_sub [1, 2, 0] _ rfl h
set_option maxRecDepth 10000 in
theorem s_X12_findTales_59 {l : Launch} {x : Cx} {g : Geo} {K : Mem → Prop} (ok : Ok x g shM m_X12_findTales) (v2 : Int32) (v3 : Int32) (S : Mem) (h : (((S 0 4) ≤ v3 → PW l x g shM m_X12_findTales (Qv x g shM K) 53 [(0, .ref (g.ad 0)), (2, .int (v2 + (-1)))] [] S) ∧ (¬ (S 0 4) ≤ v3 → ((¬ ((jshr v2 v3) &&& (nI 1)) = (nI 1) → PW l x g shM m_X12_findTales (Qv x g shM K) 59 [(0, .ref (g.ad 0)), (2, .int v2), (3, .int (v3 + (nI 1)))] [] S) ∧ (((jshr v2 v3) &&& (nI 1)) = (nI 1) → PW l x g shM m_X12_findTales (Qv x g shM K) 82 [(0, .ref (g.ad 0)), (2, .int v2), (3, .int v3), (4, .int (nI 0)), (5, .int (nI 0))] [] S))))) : PW l x g shM m_X12_findTales (Qv x g shM K) 59 [(0, .ref (g.ad 0)), (2, .int v2), (3, .int v3)] [] S := by
  refine r_iload_n ok 2 dX12_findTales_59 rfl ?_
  refine r_aload_n ok 0 dX12_findTales_60 rfl ?_
  refine r_getI ok 0 4 rfl rfl fo_X12_105 dX12_findTales_61 ?_
  refine r_icmp_ge ok 197 dX12_findTales_64 (by decide) ⟨fun c => ?_, fun c => ?_⟩
  · have h := h.1 c
    refine r_iinc ok 1 (v2 + (-1)) [(2, .int (v2 + (-1))), (0, .ref (g.ad 0)), (3, .int v3)] dX12_findTales_197 rfl rfl (by decide) rfl ?_
    refine r_goto ok 53 dX12_findTales_200 (by decide) ?_
    exact r_sub [1, 0] _ rfl h
  · have h := h.2 c
    refine r_iload_n ok 1 dX12_findTales_67 rfl ?_
    refine r_iload_n ok 2 dX12_findTales_68 rfl ?_
    refine r_ishr ok dX12_findTales_69 ?_
    refine r_iconst ok (nI 1) dX12_findTales_70 (by decide) ?_
    refine r_iand ok dX12_findTales_71 ?_
    refine r_iconst ok (nI 1) dX12_findTales_72 (by decide) ?_
    refine r_icmp_ne ok 191 dX12_findTales_73 (by decide) ⟨fun c => ?_, fun c => ?_⟩
    · have h := h.1 c
      refine r_iinc ok 2 (v3 + (nI 1)) [(3, .int (v3 + (nI 1))), (0, .ref (g.ad 0)), (2, .int v2)] dX12_findTales_191 rfl rfl (by decide) rfl ?_
      refine r_goto ok 59 dX12_findTales_194 (by decide) ?_
      exact r_sub [1, 2, 0] _ rfl h
    · have h := h.2 c
      refine r_iconst ok (nI 0) dX12_findTales_76 (by decide) ?_
      refine r_istore ok [(4, .int (nI 0)), (0, .ref (g.ad 0)), (2, .int v2), (3, .int v3)] dX12_findTales_77 (by decide) rfl ?_
      refine r_iconst ok (nI 0) dX12_findTales_79 (by decide) ?_
      refine r_istore ok [(5, .int (nI 0)), (4, .int (nI 0)), (0, .ref (g.ad 0)), (2, .int v2), (3, .int v3)] dX12_findTales_80 (by decide) rfl ?_
      exact r_sub [2, 3, 4, 1, 0] _ rfl h
set_option maxRecDepth 10000 in
theorem s_X12_findTales_82 {l : Launch} {x : Cx} {g : Geo} {K : Mem → Prop} (ok : Ok x g shM m_X12_findTales) (v2 : Int32) (v3 : Int32) (v4 : Int32) (v5 : Int32) (S : Mem) (h : (((S 0 4) ≤ v5 → (vp_in (((nI 12) * v2) + v3) 49152 ∧ PW l x g shM m_X12_findTales (Qv x g shM K) 59 [(0, .ref (g.ad 0)), (2, .int v2), (3, .int (v3 + (nI 1)))] [] (st2 S 14 (cl (((nI 12) * v2) + v3)) v4))) ∧ (¬ (S 0 4) ≤ v5 → ((¬ ((jshr v2 v5) &&& (nI 1)) = 0 → PW l x g shM m_X12_findTales (Qv x g shM K) 82 [(0, .ref (g.ad 0)), (2, .int v2), (3, .int v3), (4, .int v4), (5, .int (v5 + (nI 1)))] [] S) ∧ (((jshr v2 v5) &&& (nI 1)) = 0 → MWi l g shM m_X12_follows [.ref (g.ad 0), .int v3, .int v5] S (fun r1 S1 => ((r1 = 0 → PW l x g shM m_X12_findTales (Qv x g shM K) 82 [(0, .ref (g.ad 0)), (2, .int v2), (3, .int v3), (4, .int v4), (5, .int (v5 + (nI 1)))] [] S1) ∧ (¬ r1 = 0 → (vp_in (((nI 12) * (v2 ||| (jshl (nI 1) v5))) + v5) 49152 ∧ ((((nI 1) + (S1 14 (cl (((nI 12) * (v2 ||| (jshl (nI 1) v5))) + v5)))) ≤ v4 → PW l x g shM m_X12_findTales (Qv x g shM K) 82 [(0, .ref (g.ad 0)), (2, .int v2), (3, .int v3), (4, .int v4), (5, .int (v5 + (nI 1)))] [] S1) ∧ (¬ ((nI 1) + (S1 14 (cl (((nI 12) * (v2 ||| (jshl (nI 1) v5))) + v5)))) ≤ v4 → (vp_in (((nI 12) * (v2 ||| (jshl (nI 1) v5))) + v5) 49152 ∧ PW l x g shM m_X12_findTales (Qv x g shM K) 82 [(0, .ref (g.ad 0)), (2, .int v2), (3, .int v3), (4, .int ((nI 1) + (S1 14 (cl (((nI 12) * (v2 ||| (jshl (nI 1) v5))) + v5))))), (5, .int (v5 + (nI 1)))] [] S1)))))))))))) : PW l x g shM m_X12_findTales (Qv x g shM K) 82 [(0, .ref (g.ad 0)), (2, .int v2), (3, .int v3), (4, .int v4), (5, .int v5)] [] S := by
  refine r_iload ok 4 dX12_findTales_82 rfl ?_
  refine r_aload_n ok 0 dX12_findTales_84 rfl ?_
  refine r_getI ok 0 4 rfl rfl fo_X12_105 dX12_findTales_85 ?_
  refine r_icmp_ge ok 178 dX12_findTales_88 (by decide) ⟨fun c => ?_, fun c => ?_⟩
  · have h := h.1 c
    refine r_aload_n ok 0 dX12_findTales_178 rfl ?_
    refine r_getR ok 0 18 rfl rfl fo_X12_50 dX12_findTales_179 ?_
    refine r_bipush ok (nI 12) dX12_findTales_182 (by decide) ?_
    refine r_iload_n ok 1 dX12_findTales_184 rfl ?_
    refine r_imul ok dX12_findTales_185 ?_
    refine r_iload_n ok 2 dX12_findTales_186 rfl ?_
    refine r_iadd ok dX12_findTales_187 ?_
    refine r_iload ok 3 dX12_findTales_188 rfl ?_
    refine r_iastore ok 14 rfl dX12_findTales_190 h.1 ?_
    have h := h.2
    refine r_iinc ok 2 (v3 + (nI 1)) [(3, .int (v3 + (nI 1))), (0, .ref (g.ad 0)), (2, .int v2), (4, .int v4), (5, .int v5)] dX12_findTales_191 rfl rfl (by decide) rfl ?_
    refine r_goto ok 59 dX12_findTales_194 (by decide) ?_
    exact r_sub [1, 2, 0] _ rfl h
  · have h := h.2 c
    refine r_iload_n ok 1 dX12_findTales_91 rfl ?_
    refine r_iload ok 4 dX12_findTales_92 rfl ?_
    refine r_ishr ok dX12_findTales_94 ?_
    refine r_iconst ok (nI 1) dX12_findTales_95 (by decide) ?_
    refine r_iand ok dX12_findTales_96 ?_
    refine r_if_ne ok 114 dX12_findTales_97 (by decide) ⟨fun c => ?_, fun c => ?_⟩
    · have h := h.1 c
      refine r_iconst ok (nI 0) dX12_findTales_114 (by decide) ?_
      refine r_istore ok [(6, .int (nI 0)), (0, .ref (g.ad 0)), (2, .int v2), (3, .int v3), (4, .int v4), (5, .int v5)] dX12_findTales_115 (by decide) rfl ?_
      refine r_iload ok 0 dX12_findTales_117 rfl ?_
      refine r_if_eq ok 168 dX12_findTales_119 (by decide) ⟨fun _ => ?_, fun c => absurd c (by decide)⟩
      refine r_iload ok 4 dX12_findTales_168 rfl ?_
      refine r_istore ok [(4, .int v4), (6, .int (nI 0)), (0, .ref (g.ad 0)), (2, .int v2), (3, .int v3), (5, .int v5)] dX12_findTales_170 (by decide) rfl ?_
      refine r_iinc ok 5 (v5 + (nI 1)) [(5, .int (v5 + (nI 1))), (4, .int v4), (6, .int (nI 0)), (0, .ref (g.ad 0)), (2, .int v2), (3, .int v3)] dX12_findTales_172 rfl rfl (by decide) rfl ?_
      refine r_goto ok 82 dX12_findTales_175 (by decide) ?_
      exact r_sub [3, 4, 5, 1, 0] _ rfl h
    · have h := h.2 c
      refine r_aload_n ok 0 dX12_findTales_100 rfl ?_
      refine r_iload_n ok 2 dX12_findTales_101 rfl ?_
      refine r_iload ok 4 dX12_findTales_102 rfl ?_
      refine r_virti ok (rest := []) (As := [.int v3, .int v5]) 0 _ k_X12_findTales_217 rfl rfl rfl rfl (Nat.le_of_ble_eq_true rfl) dX12_findTales_104 (MWi.mono h (fun r1 S1 h => ?_))
      refine r_if_eq ok 114 dX12_findTales_107 (by decide) ⟨fun c => ?_, fun c => ?_⟩
      · have h := h.1 c
        refine r_iconst ok (nI 0) dX12_findTales_114 (by decide) ?_
        refine r_istore ok [(6, .int (nI 0)), (0, .ref (g.ad 0)), (2, .int v2), (3, .int v3), (4, .int v4), (5, .int v5)] dX12_findTales_115 (by decide) rfl ?_
        refine r_iload ok 0 dX12_findTales_117 rfl ?_
        refine r_if_eq ok 168 dX12_findTales_119 (by decide) ⟨fun _ => ?_, fun c => absurd c (by decide)⟩
        refine r_iload ok 4 dX12_findTales_168 rfl ?_
        refine r_istore ok [(4, .int v4), (6, .int (nI 0)), (0, .ref (g.ad 0)), (2, .int v2), (3, .int v3), (5, .int v5)] dX12_findTales_170 (by decide) rfl ?_
        refine r_iinc ok 5 (v5 + (nI 1)) [(5, .int (v5 + (nI 1))), (4, .int v4), (6, .int (nI 0)), (0, .ref (g.ad 0)), (2, .int v2), (3, .int v3)] dX12_findTales_172 rfl rfl (by decide) rfl ?_
        refine r_goto ok 82 dX12_findTales_175 (by decide) ?_
        exact r_sub [3, 4, 5, 1, 0] _ rfl h
      · have h := h.2 c
        refine r_iconst ok (nI 1) dX12_findTales_110 (by decide) ?_
        refine r_goto ok 115 dX12_findTales_111 (by decide) ?_
        refine r_istore ok [(6, .int (nI 1)), (0, .ref (g.ad 0)), (2, .int v2), (3, .int v3), (4, .int v4), (5, .int v5)] dX12_findTales_115 (by decide) rfl ?_
        refine r_iload ok 0 dX12_findTales_117 rfl ?_
        refine r_if_eq ok 168 dX12_findTales_119 (by decide) ⟨fun c => absurd c (by decide), fun _ => ?_⟩
        refine r_iconst ok (nI 1) dX12_findTales_122 (by decide) ?_
        refine r_aload_n ok 1 dX12_findTales_123 rfl ?_
        refine r_getR ok 0 18 rfl rfl fo_X12_50 dX12_findTales_124 ?_
        refine r_bipush ok (nI 12) dX12_findTales_127 (by decide) ?_
        refine r_iload_n ok 2 dX12_findTales_129 rfl ?_
        refine r_iconst ok (nI 1) dX12_findTales_130 (by decide) ?_
        refine r_iload ok 5 dX12_findTales_131 rfl ?_
        refine r_ishl ok dX12_findTales_133 ?_
        refine r_ior ok dX12_findTales_134 ?_
        refine r_imul ok dX12_findTales_135 ?_
        refine r_iload ok 5 dX12_findTales_136 rfl ?_
        refine r_iadd ok dX12_findTales_138 ?_
        refine r_iaload ok 14 rfl dX12_findTales_139 h.1 ?_
        have h := h.2
        refine r_iadd ok dX12_findTales_140 ?_
        refine r_iload ok 4 dX12_findTales_141 rfl ?_
        refine r_icmp_le ok 168 dX12_findTales_143 (by decide) ⟨fun c => ?_, fun c => ?_⟩
        · have h := h.1 c
          refine r_iload ok 4 dX12_findTales_168 rfl ?_
          refine r_istore ok [(4, .int v4), (6, .int (nI 1)), (0, .ref (g.ad 0)), (2, .int v2), (3, .int v3), (5, .int v5)] dX12_findTales_170 (by decide) rfl ?_
          refine r_iinc ok 5 (v5 + (nI 1)) [(5, .int (v5 + (nI 1))), (4, .int v4), (6, .int (nI 1)), (0, .ref (g.ad 0)), (2, .int v2), (3, .int v3)] dX12_findTales_172 rfl rfl (by decide) rfl ?_
          refine r_goto ok 82 dX12_findTales_175 (by decide) ?_
          exact r_sub [3, 4, 5, 1, 0] _ rfl h
        · have h := h.2 c
          refine r_iconst ok (nI 1) dX12_findTales_146 (by decide) ?_
          refine r_aload_n ok 1 dX12_findTales_147 rfl ?_
          refine r_getR ok 0 18 rfl rfl fo_X12_50 dX12_findTales_148 ?_
          refine r_bipush ok (nI 12) dX12_findTales_151 (by decide) ?_
          refine r_iload_n ok 2 dX12_findTales_153 rfl ?_
          refine r_iconst ok (nI 1) dX12_findTales_154 (by decide) ?_
          refine r_iload ok 5 dX12_findTales_155 rfl ?_
          refine r_ishl ok dX12_findTales_157 ?_
          refine r_ior ok dX12_findTales_158 ?_
          refine r_imul ok dX12_findTales_159 ?_
          refine r_iload ok 5 dX12_findTales_160 rfl ?_
          refine r_iadd ok dX12_findTales_162 ?_
          refine r_iaload ok 14 rfl dX12_findTales_163 h.1 ?_
          have h := h.2
          refine r_iadd ok dX12_findTales_164 ?_
          refine r_goto ok 170 dX12_findTales_165 (by decide) ?_
          refine r_istore ok [(4, .int ((nI 1) + (S1 14 (cl (((nI 12) * (v2 ||| (jshl (nI 1) v5))) + v5))))), (6, .int (nI 1)), (0, .ref (g.ad 0)), (2, .int v2), (3, .int v3), (5, .int v5)] dX12_findTales_170 (by decide) rfl ?_
          refine r_iinc ok 5 (v5 + (nI 1)) [(5, .int (v5 + (nI 1))), (4, .int ((nI 1) + (S1 14 (cl (((nI 12) * (v2 ||| (jshl (nI 1) v5))) + v5))))), (6, .int (nI 1)), (0, .ref (g.ad 0)), (2, .int v2), (3, .int v3)] dX12_findTales_172 rfl rfl (by decide) rfl ?_
          refine r_goto ok 82 dX12_findTales_175 (by decide) ?_
          exact r_sub [3, 4, 5, 1, 0] _ rfl h
set_option maxRecDepth 10000 in
theorem s_X12_tale_0 {l : Launch} {x : Cx} {g : Geo} {K : Int32 → Mem → Prop} (ok : Ok x g shM m_X12_tale) (v1 : Int32) (v2 : Int32) (S : Mem) (h : MWi l g shM m_X12_isChild [.int v1] S (fun r1 S1 => ((¬ r1 = 0 → MWv l g shM m_X12_findTales [.ref (g.ad 0), .int v1] S1 (fun S2 => PW l x g shM m_X12_tale (Qi x g shM K) 19 [(0, .ref (g.ad 0)), (2, .int v2), (3, .int (nI 0)), (4, .int (nI 0))] [] S2)) ∧ (r1 = 0 → K (-1) S1)))) : PW l x g shM m_X12_tale (Qi x g shM K) 0 [(0, .ref (g.ad 0)), (1, .int v1), (2, .int v2)] [] S := by
  refine r_iload_n ok 1 dX12_tale_0 rfl ?_
  refine r_stati ok (rest := []) (As := [.int v1]) _ k_X12_tale_160 rfl rfl (Nat.le_of_ble_eq_true rfl) dX12_tale_1 (MWi.mono h (fun r1 S1 h => ?_))
  refine r_if_ne ok 9 dX12_tale_4 (by decide) ⟨fun c => ?_, fun c => ?_⟩
  · have h := h.1 c
    refine r_aload_n ok 0 dX12_tale_9 rfl ?_
    refine r_iload_n ok 1 dX12_tale_10 rfl ?_
    refine r_virtv ok (rest := []) (As := [.int v1]) 0 _ k_X12_tale_220 rfl rfl rfl rfl (Nat.le_of_ble_eq_true rfl) dX12_tale_11 (MWv.mono h (fun S2 h => ?_))
    refine r_iconst ok (nI 0) dX12_tale_14 (by decide) ?_
    refine r_istore_n ok [(3, .int (nI 0)), (0, .ref (g.ad 0)), (1, .int v1), (2, .int v2)] dX12_tale_15 (by decide) rfl ?_
    refine r_iconst ok (nI 0) dX12_tale_16 (by decide) ?_
    refine r_istore ok [(4, .int (nI 0)), (3, .int (nI 0)), (0, .ref (g.ad 0)), (1, .int v1), (2, .int v2)] dX12_tale_17 (by decide) rfl ?_
    exact r_sub [2, 4, 1, 0] _ rfl h
  · have h := h.2 c
    refine r_iconst ok (-1) dX12_tale_7 (by decide) ?_
    exact r_iret ok rfl dX12_tale_8 h
set_option maxRecDepth 10000 in
theorem s_X12_tale_19 {l : Launch} {x : Cx} {g : Geo} {K : Int32 → Mem → Prop} (ok : Ok x g shM m_X12_tale) (v2 : Int32) (v3 : Int32) (v4 : Int32) (S : Mem) (h : (((S 0 4) ≤ v4 → ((¬ v2 = (-1) → MWi l g shM m_X12_in [.long v2.toInt64, .long (lN 0), .long (v3 - (nI 1)).toInt64] S (fun r1 S1 => ((¬ r1 = 0 → PW l x g shM m_X12_tale (Qi x g shM K) 113 [(0, .ref (g.ad 0)), (2, .int v2), (3, .int v3), (4, .int (nI 0)), (5, .int (-6)), (6, .int (nI 0))] [] S1) ∧ (r1 = 0 → K (-6) S1)))) ∧ (v2 = (-1) → K v3 S))) ∧ (¬ (S 0 4) ≤ v4 → (vp_in v4 12 ∧ (((S 15 (cl v4)) = 0 → (((nI 0) ≤ v3 → PW l x g shM m_X12_tale (Qi x g shM K) 19 [(0, .ref (g.ad 0)), (2, .int v2), (3, .int v3), (4, .int (v4 + (nI 1)))] [] S) ∧ (¬ (nI 0) ≤ v3 → PW l x g shM m_X12_tale (Qi x g shM K) 19 [(0, .ref (g.ad 0)), (2, .int v2), (3, .int (nI 0)), (4, .int (v4 + (nI 1)))] [] S))) ∧ (¬ (S 15 (cl v4)) = 0 → (vp_in (((nI 12) * (jshl (nI 1) v4)) + v4) 49152 ∧ ((((nI 1) + (S 14 (cl (((nI 12) * (jshl (nI 1) v4)) + v4)))) ≤ v3 → PW l x g shM m_X12_tale (Qi x g shM K) 19 [(0, .ref (g.ad 0)), (2, .int v2), (3, .int v3), (4, .int (v4 + (nI 1)))] [] S) ∧ (¬ ((nI 1) + (S 14 (cl (((nI 12) * (jshl (nI 1) v4)) + v4)))) ≤ v3 → PW l x g shM m_X12_tale (Qi x g shM K) 19 [(0, .ref (g.ad 0)), (2, .int v2), (3, .int ((nI 1) + (S 14 (cl (((nI 12) * (jshl (nI 1) v4)) + v4))))), (4, .int (v4 + (nI 1)))] [] S))))))))) : PW l x g shM m_X12_tale (Qi x g shM K) 19 [(0, .ref (g.ad 0)), (2, .int v2), (3, .int v3), (4, .int v4)] [] S := by
  refine r_iload ok 3 dX12_tale_19 rfl ?_
  refine r_aload_n ok 0 dX12_tale_21 rfl ?_
  refine r_getI ok 0 4 rfl rfl fo_X12_105 dX12_tale_22 ?_
  refine r_icmp_ge ok 80 dX12_tale_25 (by decide) ⟨fun c => ?_, fun c => ?_⟩
  · have h := h.1 c
    refine r_iload_n ok 1 dX12_tale_80 rfl ?_
    refine r_iconst ok (-1) dX12_tale_81 (by decide) ?_
    refine r_icmp_ne ok 87 dX12_tale_82 (by decide) ⟨fun c => ?_, fun c => ?_⟩
    · have h := h.1 c
      refine r_iload_n ok 1 dX12_tale_87 rfl ?_
      refine r_i2l ok dX12_tale_88 ?_
      refine r_lconst ok (lN 0) dX12_tale_89 (by decide) ?_
      refine r_iload_n ok 2 dX12_tale_90 rfl ?_
      refine r_iconst ok (nI 1) dX12_tale_91 (by decide) ?_
      refine r_isub ok dX12_tale_92 ?_
      refine r_i2l ok dX12_tale_93 ?_
      refine r_stati ok (rest := []) (As := [.long v2.toInt64, .long (lN 0), .long (v3 - (nI 1)).toInt64]) _ k_X12_tale_80 rfl rfl (Nat.le_of_ble_eq_true rfl) dX12_tale_94 (MWi.mono h (fun r1 S1 h => ?_))
      refine r_if_ne ok 103 dX12_tale_97 (by decide) ⟨fun c => ?_, fun c => ?_⟩
      · have h := h.1 c
        refine r_iconst ok (nI 0) dX12_tale_103 (by decide) ?_
        refine r_istore ok [(4, .int (nI 0)), (0, .ref (g.ad 0)), (2, .int v2), (3, .int v3)] dX12_tale_104 (by decide) rfl ?_
        refine r_bipush ok (-6) dX12_tale_106 (by decide) ?_
        refine r_istore ok [(5, .int (-6)), (4, .int (nI 0)), (0, .ref (g.ad 0)), (2, .int v2), (3, .int v3)] dX12_tale_108 (by decide) rfl ?_
        refine r_iconst ok (nI 0) dX12_tale_110 (by decide) ?_
        refine r_istore ok [(6, .int (nI 0)), (5, .int (-6)), (4, .int (nI 0)), (0, .ref (g.ad 0)), (2, .int v2), (3, .int v3)] dX12_tale_111 (by decide) rfl ?_
        exact r_sub [3, 4, 5, 2, 1, 0] _ rfl h
      · have h := h.2 c
        refine r_bipush ok (-6) dX12_tale_100 (by decide) ?_
        exact r_iret ok rfl dX12_tale_102 h
    · have h := h.2 c
      refine r_iload_n ok 2 dX12_tale_85 rfl ?_
      exact r_iret ok rfl dX12_tale_86 h
  · have h := h.2 c
    refine r_aload_n ok 0 dX12_tale_28 rfl ?_
    refine r_getR ok 0 19 rfl rfl fo_X12_53 dX12_tale_29 ?_
    refine r_iload ok 3 dX12_tale_32 rfl ?_
    refine r_baload ok 15 rfl dX12_tale_34 h.1 ?_
    have h := h.2
    refine r_if_eq ok 58 dX12_tale_35 (by decide) ⟨fun c => ?_, fun c => ?_⟩
    · have h := h.1 c
      refine r_iconst ok (nI 0) dX12_tale_58 (by decide) ?_
      refine r_istore ok [(5, .int (nI 0)), (0, .ref (g.ad 0)), (2, .int v2), (3, .int v3), (4, .int v4)] dX12_tale_59 (by decide) rfl ?_
      refine r_iload ok 0 dX12_tale_61 rfl ?_
      refine r_iload_n ok 3 dX12_tale_63 rfl ?_
      refine r_icmp_le ok 72 dX12_tale_64 (by decide) ⟨fun c => ?_, fun c => ?_⟩
      · have h := h.1 c
        refine r_iload_n ok 3 dX12_tale_72 rfl ?_
        refine r_istore_n ok [(3, .int v3), (5, .int (nI 0)), (0, .ref (g.ad 0)), (2, .int v2), (4, .int v4)] dX12_tale_73 (by decide) rfl ?_
        refine r_iinc ok 4 (v4 + (nI 1)) [(4, .int (v4 + (nI 1))), (3, .int v3), (5, .int (nI 0)), (0, .ref (g.ad 0)), (2, .int v2)] dX12_tale_74 rfl rfl (by decide) rfl ?_
        refine r_goto ok 19 dX12_tale_77 (by decide) ?_
        exact r_sub [3, 4, 1, 0] _ rfl h
      · have h := h.2 c
        refine r_iload ok 0 dX12_tale_67 rfl ?_
        refine r_goto ok 73 dX12_tale_69 (by decide) ?_
        refine r_istore_n ok [(3, .int (nI 0)), (5, .int (nI 0)), (0, .ref (g.ad 0)), (2, .int v2), (4, .int v4)] dX12_tale_73 (by decide) rfl ?_
        refine r_iinc ok 4 (v4 + (nI 1)) [(4, .int (v4 + (nI 1))), (3, .int (nI 0)), (5, .int (nI 0)), (0, .ref (g.ad 0)), (2, .int v2)] dX12_tale_74 rfl rfl (by decide) rfl ?_
        refine r_goto ok 19 dX12_tale_77 (by decide) ?_
        exact r_sub [3, 4, 1, 0] _ rfl h
    · have h := h.2 c
      refine r_iconst ok (nI 1) dX12_tale_38 (by decide) ?_
      refine r_aload_n ok 0 dX12_tale_39 rfl ?_
      refine r_getR ok 0 18 rfl rfl fo_X12_50 dX12_tale_40 ?_
      refine r_bipush ok (nI 12) dX12_tale_43 (by decide) ?_
      refine r_iconst ok (nI 1) dX12_tale_45 (by decide) ?_
      refine r_iload ok 3 dX12_tale_46 rfl ?_
      refine r_ishl ok dX12_tale_48 ?_
      refine r_imul ok dX12_tale_49 ?_
      refine r_iload ok 3 dX12_tale_50 rfl ?_
      refine r_iadd ok dX12_tale_52 ?_
      refine r_iaload ok 14 rfl dX12_tale_53 h.1 ?_
      have h := h.2
      refine r_iadd ok dX12_tale_54 ?_
      refine r_goto ok 59 dX12_tale_55 (by decide) ?_
      refine r_istore ok [(5, .int ((nI 1) + (S 14 (cl (((nI 12) * (jshl (nI 1) v4)) + v4))))), (0, .ref (g.ad 0)), (2, .int v2), (3, .int v3), (4, .int v4)] dX12_tale_59 (by decide) rfl ?_
      refine r_iload ok 0 dX12_tale_61 rfl ?_
      refine r_iload_n ok 3 dX12_tale_63 rfl ?_
      refine r_icmp_le ok 72 dX12_tale_64 (by decide) ⟨fun c => ?_, fun c => ?_⟩
      · have h := h.1 c
        refine r_iload_n ok 3 dX12_tale_72 rfl ?_
        refine r_istore_n ok [(3, .int v3), (5, .int ((nI 1) + (S 14 (cl (((nI 12) * (jshl (nI 1) v4)) + v4))))), (0, .ref (g.ad 0)), (2, .int v2), (4, .int v4)] dX12_tale_73 (by decide) rfl ?_
        refine r_iinc ok 4 (v4 + (nI 1)) [(4, .int (v4 + (nI 1))), (3, .int v3), (5, .int ((nI 1) + (S 14 (cl (((nI 12) * (jshl (nI 1) v4)) + v4))))), (0, .ref (g.ad 0)), (2, .int v2)] dX12_tale_74 rfl rfl (by decide) rfl ?_
        refine r_goto ok 19 dX12_tale_77 (by decide) ?_
        exact r_sub [3, 4, 1, 0] _ rfl h
      · have h := h.2 c
        refine r_iload ok 0 dX12_tale_67 rfl ?_
        refine r_goto ok 73 dX12_tale_69 (by decide) ?_
        refine r_istore_n ok [(3, .int ((nI 1) + (S 14 (cl (((nI 12) * (jshl (nI 1) v4)) + v4))))), (5, .int ((nI 1) + (S 14 (cl (((nI 12) * (jshl (nI 1) v4)) + v4))))), (0, .ref (g.ad 0)), (2, .int v2), (4, .int v4)] dX12_tale_73 (by decide) rfl ?_
        refine r_iinc ok 4 (v4 + (nI 1)) [(4, .int (v4 + (nI 1))), (3, .int ((nI 1) + (S 14 (cl (((nI 12) * (jshl (nI 1) v4)) + v4))))), (5, .int ((nI 1) + (S 14 (cl (((nI 12) * (jshl (nI 1) v4)) + v4))))), (0, .ref (g.ad 0)), (2, .int v2)] dX12_tale_74 rfl rfl (by decide) rfl ?_
        refine r_goto ok 19 dX12_tale_77 (by decide) ?_
        exact r_sub [3, 4, 1, 0] _ rfl h
set_option maxRecDepth 10000 in
theorem s_X12_tale_113 {l : Launch} {x : Cx} {g : Geo} {K : Int32 → Mem → Prop} (ok : Ok x g shM m_X12_tale) (v2 : Int32) (v3 : Int32) (v4 : Int32) (v5 : Int32) (v6 : Int32) (S : Mem) (h : ((v2 < v6 → K v5 S) ∧ (¬ v2 < v6 → PW l x g shM m_X12_tale (Qi x g shM K) 122 [(0, .ref (g.ad 0)), (2, .int v2), (3, .int v3), (4, .int v4), (5, .int v5), (6, .int v6), (7, .int (nI 0))] [] S))) : PW l x g shM m_X12_tale (Qi x g shM K) 113 [(0, .ref (g.ad 0)), (2, .int v2), (3, .int v3), (4, .int v4), (5, .int v5), (6, .int v6)] [] S := by
  refine r_iload ok 5 dX12_tale_113 rfl ?_
  refine r_iload_n ok 1 dX12_tale_115 rfl ?_
  refine r_icmp_gt ok 164 dX12_tale_116 (by decide) ⟨fun c => ?_, fun c => ?_⟩
  · have h := h.1 c
    refine r_iload ok 4 dX12_tale_164 rfl ?_
    exact r_iret ok rfl dX12_tale_166 h
  · have h := h.2 c
    refine r_iconst ok (nI 0) dX12_tale_119 (by decide) ?_
    refine r_istore ok [(7, .int (nI 0)), (0, .ref (g.ad 0)), (2, .int v2), (3, .int v3), (4, .int v4), (5, .int v5), (6, .int v6)] dX12_tale_120 (by decide) rfl ?_
    exact r_sub [1, 2, 3, 4, 5, 6, 0] _ rfl h
set_option maxRecDepth 10000 in
theorem s_X12_tale_122 {l : Launch} {x : Cx} {g : Geo} {K : Int32 → Mem → Prop} (ok : Ok x g shM m_X12_tale) (v2 : Int32) (v3 : Int32) (v4 : Int32) (v5 : Int32) (v6 : Int32) (v7 : Int32) (S : Mem) (h : MWi l g shM m_X12_comes [.ref (g.ad 0), .int v4, .int v5, .int v7, .int (v3 - v6)] S (fun r1 S1 => ((¬ r1 = 0 → PW l x g shM m_X12_tale (Qi x g shM K) 113 [(0, .ref (g.ad 0)), (2, .int v2), (3, .int v3), (4, .int (v4 ||| (jshl (nI 1) v7))), (5, .int v7), (6, .int (v6 + (nI 1)))] [] S1) ∧ (r1 = 0 → PW l x g shM m_X12_tale (Qi x g shM K) 122 [(0, .ref (g.ad 0)), (2, .int v2), (3, .int v3), (4, .int v4), (5, .int v5), (6, .int v6), (7, .int (v7 + (nI 1)))] [] S1)))) : PW l x g shM m_X12_tale (Qi x g shM K) 122 [(0, .ref (g.ad 0)), (2, .int v2), (3, .int v3), (4, .int v4), (5, .int v5), (6, .int v6), (7, .int v7)] [] S := by
  refine r_aload_n ok 0 dX12_tale_122 rfl ?_
  refine r_iload ok 3 dX12_tale_123 rfl ?_
  refine r_iload ok 4 dX12_tale_125 rfl ?_
  refine r_iload ok 6 dX12_tale_127 rfl ?_
  refine r_iload_n ok 2 dX12_tale_129 rfl ?_
  refine r_iload ok 5 dX12_tale_130 rfl ?_
  refine r_isub ok dX12_tale_132 ?_
  refine r_virti ok (rest := []) (As := [.int v4, .int v5, .int v7, .int (v3 - v6)]) 0 _ k_X12_tale_224 rfl rfl rfl rfl (Nat.le_of_ble_eq_true rfl) dX12_tale_133 (MWi.mono h (fun r1 S1 h => ?_))
  refine r_if_ne ok 145 dX12_tale_136 (by decide) ⟨fun c => ?_, fun c => ?_⟩
  · have h := h.1 c
    refine r_iload ok 3 dX12_tale_145 rfl ?_
    refine r_iconst ok (nI 1) dX12_tale_147 (by decide) ?_
    refine r_iload ok 6 dX12_tale_148 rfl ?_
    refine r_ishl ok dX12_tale_150 ?_
    refine r_ior ok dX12_tale_151 ?_
    refine r_istore ok [(4, .int (v4 ||| (jshl (nI 1) v7))), (0, .ref (g.ad 0)), (2, .int v2), (3, .int v3), (5, .int v5), (6, .int v6), (7, .int v7)] dX12_tale_152 (by decide) rfl ?_
    refine r_iload ok 6 dX12_tale_154 rfl ?_
    refine r_istore ok [(5, .int v7), (4, .int (v4 ||| (jshl (nI 1) v7))), (0, .ref (g.ad 0)), (2, .int v2), (3, .int v3), (6, .int v6), (7, .int v7)] dX12_tale_156 (by decide) rfl ?_
    refine r_iinc ok 5 (v6 + (nI 1)) [(6, .int (v6 + (nI 1))), (5, .int v7), (4, .int (v4 ||| (jshl (nI 1) v7))), (0, .ref (g.ad 0)), (2, .int v2), (3, .int v3), (7, .int v7)] dX12_tale_158 rfl rfl (by decide) rfl ?_
    refine r_goto ok 113 dX12_tale_161 (by decide) ?_
    exact r_sub [3, 4, 5, 2, 1, 0] _ rfl h
  · have h := h.2 c
    refine r_iinc ok 6 (v7 + (nI 1)) [(7, .int (v7 + (nI 1))), (0, .ref (g.ad 0)), (2, .int v2), (3, .int v3), (4, .int v4), (5, .int v5), (6, .int v6)] dX12_tale_139 rfl rfl (by decide) rfl ?_
    refine r_goto ok 122 dX12_tale_142 (by decide) ?_
    exact r_sub [1, 2, 3, 4, 5, 6, 0] _ rfl h
set_option maxRecDepth 10000 in
theorem s_X12_comes_0 {l : Launch} {x : Cx} {g : Geo} {K : Int32 → Mem → Prop} (ok : Ok x g shM m_X12_comes) (v1 : Int32) (v2 : Int32) (v3 : Int32) (v4 : Int32) (S : Mem) (h : ((¬ ((jshr v1 v3) &&& (nI 1)) = 0 → PW l x g shM m_X12_comes (Qi x g shM K) 37 [(0, .ref (g.ad 0)), (1, .int v1), (3, .int v3), (4, .int v4)] [] S) ∧ (((jshr v1 v3) &&& (nI 1)) = 0 → ((0 ≤ v2 → MWi l g shM m_X12_follows [.ref (g.ad 0), .int v2, .int v3] S (fun r1 S1 => ((r1 = 0 → PW l x g shM m_X12_comes (Qi x g shM K) 37 [(0, .ref (g.ad 0)), (1, .int v1), (3, .int v3), (4, .int v4)] [] S1) ∧ (¬ r1 = 0 → PW l x g shM m_X12_comes (Qi x g shM K) 33 [(0, .ref (g.ad 0)), (1, .int v1), (3, .int v3), (4, .int v4)] [] S1)))) ∧ (¬ 0 ≤ v2 → (vp_in v3 12 ∧ (((S 15 (cl v3)) = 0 → PW l x g shM m_X12_comes (Qi x g shM K) 37 [(0, .ref (g.ad 0)), (1, .int v1), (3, .int v3), (4, .int v4)] [] S) ∧ (¬ (S 15 (cl v3)) = 0 → PW l x g shM m_X12_comes (Qi x g shM K) 33 [(0, .ref (g.ad 0)), (1, .int v1), (3, .int v3), (4, .int v4)] [] S)))))))) : PW l x g shM m_X12_comes (Qi x g shM K) 0 [(0, .ref (g.ad 0)), (1, .int v1), (2, .int v2), (3, .int v3), (4, .int v4)] [] S := by
  refine r_iload_n ok 1 dX12_comes_0 rfl ?_
  refine r_iload_n ok 3 dX12_comes_1 rfl ?_
  refine r_ishr ok dX12_comes_2 ?_
  refine r_iconst ok (nI 1) dX12_comes_3 (by decide) ?_
  refine r_iand ok dX12_comes_4 ?_
  refine r_if_ne ok 37 dX12_comes_5 (by decide) ⟨fun c => ?_, fun c => ?_⟩
  · have h := h.1 c
    exact r_sub [0, 1, 3, 4] _ rfl h
  · have h := h.2 c
    refine r_iload_n ok 2 dX12_comes_8 rfl ?_
    refine r_if_ge ok 24 dX12_comes_9 (by decide) ⟨fun c => ?_, fun c => ?_⟩
    · have h := h.1 c
      refine r_aload_n ok 0 dX12_comes_24 rfl ?_
      refine r_iload_n ok 2 dX12_comes_25 rfl ?_
      refine r_iload_n ok 3 dX12_comes_26 rfl ?_
      refine r_virti ok (rest := []) (As := [.int v2, .int v3]) 0 _ k_X12_comes_217 rfl rfl rfl rfl (Nat.le_of_ble_eq_true rfl) dX12_comes_27 (MWi.mono h (fun r1 S1 h => ?_))
      refine r_if_eq ok 37 dX12_comes_30 (by decide) ⟨fun c => ?_, fun c => ?_⟩
      · have h := h.1 c
        exact r_sub [0, 1, 3, 4] _ rfl h
      · have h := h.2 c
        exact r_sub [0, 1, 3, 4] _ rfl h
    · have h := h.2 c
      refine r_aload_n ok 0 dX12_comes_12 rfl ?_
      refine r_getR ok 0 19 rfl rfl fo_X12_53 dX12_comes_13 ?_
      refine r_iload_n ok 3 dX12_comes_16 rfl ?_
      refine r_baload ok 15 rfl dX12_comes_17 h.1 ?_
      have h := h.2
      refine r_if_eq ok 37 dX12_comes_18 (by decide) ⟨fun c => ?_, fun c => ?_⟩
      · have h := h.1 c
        exact r_sub [0, 1, 3, 4] _ rfl h
      · have h := h.2 c
        refine r_goto ok 33 dX12_comes_21 (by decide) ?_
        exact r_sub [0, 1, 3, 4] _ rfl h
set_option maxRecDepth 10000 in
theorem s_X12_comes_33 {l : Launch} {x : Cx} {g : Geo} {K : Int32 → Mem → Prop} (ok : Ok x g shM m_X12_comes) (v1 : Int32) (v3 : Int32) (v4 : Int32) (S : Mem) (h : (vp_in (((nI 12) * (v1 ||| (jshl (nI 1) v3))) + v3) 49152 ∧ ((¬ ((nI 1) + (S 14 (cl (((nI 12) * (v1 ||| (jshl (nI 1) v3))) + v3)))) = v4 → K (nI 0) S) ∧ (((nI 1) + (S 14 (cl (((nI 12) * (v1 ||| (jshl (nI 1) v3))) + v3)))) = v4 → K (nI 1) S)))) : PW l x g shM m_X12_comes (Qi x g shM K) 33 [(0, .ref (g.ad 0)), (1, .int v1), (3, .int v3), (4, .int v4)] [] S := by
  refine r_iconst ok (nI 1) dX12_comes_33 (by decide) ?_
  refine r_goto ok 38 dX12_comes_34 (by decide) ?_
  refine r_istore ok [(5, .int (nI 1)), (0, .ref (g.ad 0)), (1, .int v1), (3, .int v3), (4, .int v4)] dX12_comes_38 (by decide) rfl ?_
  refine r_iload ok 0 dX12_comes_40 rfl ?_
  refine r_if_eq ok 71 dX12_comes_42 (by decide) ⟨fun c => absurd c (by decide), fun _ => ?_⟩
  refine r_iconst ok (nI 1) dX12_comes_45 (by decide) ?_
  refine r_aload_n ok 1 dX12_comes_46 rfl ?_
  refine r_getR ok 0 18 rfl rfl fo_X12_50 dX12_comes_47 ?_
  refine r_bipush ok (nI 12) dX12_comes_50 (by decide) ?_
  refine r_iload_n ok 2 dX12_comes_52 rfl ?_
  refine r_iconst ok (nI 1) dX12_comes_53 (by decide) ?_
  refine r_iload_n ok 3 dX12_comes_54 rfl ?_
  refine r_ishl ok dX12_comes_55 ?_
  refine r_ior ok dX12_comes_56 ?_
  refine r_imul ok dX12_comes_57 ?_
  refine r_iload_n ok 3 dX12_comes_58 rfl ?_
  refine r_iadd ok dX12_comes_59 ?_
  refine r_iaload ok 14 rfl dX12_comes_60 h.1 ?_
  have h := h.2
  refine r_iadd ok dX12_comes_61 ?_
  refine r_iload ok 4 dX12_comes_62 rfl ?_
  refine r_icmp_ne ok 71 dX12_comes_64 (by decide) ⟨fun c => ?_, fun c => ?_⟩
  · have h := h.1 c
    refine r_iconst ok (nI 0) dX12_comes_71 (by decide) ?_
    exact r_zret ok rfl dX12_comes_72 ⟨rfl, h⟩
  · have h := h.2 c
    refine r_iconst ok (nI 1) dX12_comes_67 (by decide) ?_
    refine r_goto ok 72 dX12_comes_68 (by decide) ?_
    exact r_zret ok rfl dX12_comes_72 ⟨rfl, h⟩
set_option maxRecDepth 10000 in
theorem s_X12_comes_37 {l : Launch} {x : Cx} {g : Geo} {K : Int32 → Mem → Prop} (ok : Ok x g shM m_X12_comes) (v1 : Int32) (v3 : Int32) (v4 : Int32) (S : Mem) (h : K (nI 0) S) : PW l x g shM m_X12_comes (Qi x g shM K) 37 [(0, .ref (g.ad 0)), (1, .int v1), (3, .int v3), (4, .int v4)] [] S := by
  refine r_iconst ok (nI 0) dX12_comes_37 (by decide) ?_
  refine r_istore ok [(5, .int (nI 0)), (0, .ref (g.ad 0)), (1, .int v1), (3, .int v3), (4, .int v4)] dX12_comes_38 (by decide) rfl ?_
  refine r_iload ok 0 dX12_comes_40 rfl ?_
  refine r_if_eq ok 71 dX12_comes_42 (by decide) ⟨fun _ => ?_, fun c => absurd c (by decide)⟩
  refine r_iconst ok (nI 0) dX12_comes_71 (by decide) ?_
  exact r_zret ok rfl dX12_comes_72 ⟨rfl, h⟩
set_option maxRecDepth 10000 in
theorem s_X12_answer_0 {l : Launch} {x : Cx} {g : Geo} {K : Int32 → Mem → Prop} (ok : Ok x g shM m_X12_answer) (v1 : Int32) (v2 : Int32) (S : Mem) (h : MWi l g shM m_X12_isWord [.ref (g.ad 0), .int v1] S (fun r1 S1 => ((¬ r1 = 0 → ((¬ (S1 0 22) = (nI 20) → (vp_in (S1 0 22) 20 ∧ ((v2 = 0 → (vp_in ((st2 S1 16 (cl (S1 0 22)) v1) 0 22) 20 ∧ K ((st2 (st2 (st2 S1 16 (cl (S1 0 22)) v1) 17 (cl ((st2 S1 16 (cl (S1 0 22)) v1) 0 22)) (nI 0)) 0 22 (((st2 (st2 S1 16 (cl (S1 0 22)) v1) 17 (cl ((st2 S1 16 (cl (S1 0 22)) v1) 0 22)) (nI 0)) 0 22) + (nI 1))) 0 22) (st2 (st2 (st2 S1 16 (cl (S1 0 22)) v1) 17 (cl ((st2 S1 16 (cl (S1 0 22)) v1) 0 22)) (nI 0)) 0 22 (((st2 (st2 S1 16 (cl (S1 0 22)) v1) 17 (cl ((st2 S1 16 (cl (S1 0 22)) v1) 0 22)) (nI 0)) 0 22) + (nI 1))))) ∧ (¬ v2 = 0 → (vp_in ((st2 S1 16 (cl (S1 0 22)) v1) 0 22) 20 ∧ K ((st2 (st2 (st2 S1 16 (cl (S1 0 22)) v1) 17 (cl ((st2 S1 16 (cl (S1 0 22)) v1) 0 22)) (nI 1)) 0 22 (((st2 (st2 S1 16 (cl (S1 0 22)) v1) 17 (cl ((st2 S1 16 (cl (S1 0 22)) v1) 0 22)) (nI 1)) 0 22) + (nI 1))) 0 22) (st2 (st2 (st2 S1 16 (cl (S1 0 22)) v1) 17 (cl ((st2 S1 16 (cl (S1 0 22)) v1) 0 22)) (nI 1)) 0 22 (((st2 (st2 S1 16 (cl (S1 0 22)) v1) 17 (cl ((st2 S1 16 (cl (S1 0 22)) v1) 0 22)) (nI 1)) 0 22) + (nI 1)))))))) ∧ ((S1 0 22) = (nI 20) → K (-4) S1))) ∧ (r1 = 0 → K (-1) S1)))) : PW l x g shM m_X12_answer (Qi x g shM K) 0 [(0, .ref (g.ad 0)), (1, .int v1), (2, .int v2)] [] S := by
  refine r_aload_n ok 0 dX12_answer_0 rfl ?_
  refine r_iload_n ok 1 dX12_answer_1 rfl ?_
  refine r_virti ok (rest := []) (As := [.int v1]) 0 _ k_X12_answer_122 rfl rfl rfl rfl (Nat.le_of_ble_eq_true rfl) dX12_answer_2 (MWi.mono h (fun r1 S1 h => ?_))
  refine r_if_ne ok 10 dX12_answer_5 (by decide) ⟨fun c => ?_, fun c => ?_⟩
  · have h := h.1 c
    refine r_aload_n ok 0 dX12_answer_10 rfl ?_
    refine r_getI ok 0 22 rfl rfl fo_X12_227 dX12_answer_11 ?_
    refine r_bipush ok (nI 20) dX12_answer_14 (by decide) ?_
    refine r_icmp_ne ok 22 dX12_answer_16 (by decide) ⟨fun c => ?_, fun c => ?_⟩
    · have h := h.1 c
      refine r_aload_n ok 0 dX12_answer_22 rfl ?_
      refine r_getR ok 0 20 rfl rfl fo_X12_57 dX12_answer_23 ?_
      refine r_aload_n ok 0 dX12_answer_26 rfl ?_
      refine r_getI ok 0 22 rfl rfl fo_X12_227 dX12_answer_27 ?_
      refine r_iload_n ok 1 dX12_answer_30 rfl ?_
      refine r_iastore ok 16 rfl dX12_answer_31 h.1 ?_
      have h := h.2
      refine r_aload_n ok 0 dX12_answer_32 rfl ?_
      refine r_getR ok 0 21 rfl rfl fo_X12_60 dX12_answer_33 ?_
      refine r_aload_n ok 0 dX12_answer_36 rfl ?_
      refine r_getI ok 0 22 rfl rfl fo_X12_227 dX12_answer_37 ?_
      refine r_iload_n ok 2 dX12_answer_40 rfl ?_
      refine r_if_eq ok 48 dX12_answer_41 (by decide) ⟨fun c => ?_, fun c => ?_⟩
      · have h := h.1 c
        refine r_iconst ok (nI 0) dX12_answer_48 (by decide) ?_
        refine r_iastore ok 17 rfl dX12_answer_49 h.1 ?_
        have h := h.2
        refine r_aload_n ok 0 dX12_answer_50 rfl ?_
        refine r_dup ok dX12_answer_51 rfl ?_
        refine r_getI ok 0 22 rfl rfl fo_X12_227 dX12_answer_52 ?_
        refine r_iconst ok (nI 1) dX12_answer_55 (by decide) ?_
        refine r_iadd ok dX12_answer_56 ?_
        refine r_put ok 0 22 rfl rfl po_X12_227 rfl rfl dX12_answer_57 ?_
        refine r_aload_n ok 0 dX12_answer_60 rfl ?_
        refine r_getI ok 0 22 rfl rfl fo_X12_227 dX12_answer_61 ?_
        exact r_iret ok rfl dX12_answer_64 h
      · have h := h.2 c
        refine r_iconst ok (nI 1) dX12_answer_44 (by decide) ?_
        refine r_goto ok 49 dX12_answer_45 (by decide) ?_
        refine r_iastore ok 17 rfl dX12_answer_49 h.1 ?_
        have h := h.2
        refine r_aload_n ok 0 dX12_answer_50 rfl ?_
        refine r_dup ok dX12_answer_51 rfl ?_
        refine r_getI ok 0 22 rfl rfl fo_X12_227 dX12_answer_52 ?_
        refine r_iconst ok (nI 1) dX12_answer_55 (by decide) ?_
        refine r_iadd ok dX12_answer_56 ?_
        refine r_put ok 0 22 rfl rfl po_X12_227 rfl rfl dX12_answer_57 ?_
        refine r_aload_n ok 0 dX12_answer_60 rfl ?_
        refine r_getI ok 0 22 rfl rfl fo_X12_227 dX12_answer_61 ?_
        exact r_iret ok rfl dX12_answer_64 h
    · have h := h.2 c
      refine r_bipush ok (-4) dX12_answer_19 (by decide) ?_
      exact r_iret ok rfl dX12_answer_21 h
  · have h := h.2 c
    refine r_iconst ok (-1) dX12_answer_8 (by decide) ?_
    exact r_iret ok rfl dX12_answer_9 h
set_option maxRecDepth 10000 in
theorem s_X12_clear_0 {l : Launch} {x : Cx} {g : Geo} {K : Int32 → Mem → Prop} (ok : Ok x g shM m_X12_clear) (S : Mem) (h : K (S 0 22) (st2 S 0 22 (nI 0))) : PW l x g shM m_X12_clear (Qi x g shM K) 0 [(0, .ref (g.ad 0))] [] S := by
  refine r_aload_n ok 0 dX12_clear_0 rfl ?_
  refine r_getI ok 0 22 rfl rfl fo_X12_227 dX12_clear_1 ?_
  refine r_istore_n ok [(1, .int (S 0 22)), (0, .ref (g.ad 0))] dX12_clear_4 (by decide) rfl ?_
  refine r_aload_n ok 1 dX12_clear_5 rfl ?_
  refine r_iconst ok (nI 0) dX12_clear_6 (by decide) ?_
  refine r_put ok 0 22 rfl rfl po_X12_227 rfl rfl dX12_clear_7 ?_
  refine r_iload_n ok 0 dX12_clear_10 rfl ?_
  exact r_iret ok rfl dX12_clear_11 h
set_option maxRecDepth 10000 in
theorem s_X12_readsRight_0 {l : Launch} {x : Cx} {g : Geo} {K : Int32 → Mem → Prop} (ok : Ok x g shM m_X12_readsRight) (v1 : Int32) (v2 : Int32) (S : Mem) (h : MWi l g shM m_X12_isRegular [.ref (g.ad 0), .int v1] S (fun r1 S1 => ((r1 = 0 → K (nI 0) S1) ∧ (¬ r1 = 0 → MWi l g shM m_X12_signsOf [.ref (g.ad 0), .int v1] S1 (fun r2 S2 => ((¬ (r2 &&& v2) = 0 → K (nI 0) S2) ∧ ((r2 &&& v2) = 0 → K (nI 1) S2))))))) : PW l x g shM m_X12_readsRight (Qi x g shM K) 0 [(0, .ref (g.ad 0)), (1, .int v1), (2, .int v2)] [] S := by
  refine r_aload_n ok 0 dX12_readsRight_0 rfl ?_
  refine r_iload_n ok 1 dX12_readsRight_1 rfl ?_
  refine r_virti ok (rest := []) (As := [.int v1]) 0 _ k_X12_readsRight_140 rfl rfl rfl rfl (Nat.le_of_ble_eq_true rfl) dX12_readsRight_2 (MWi.mono h (fun r1 S1 h => ?_))
  refine r_if_eq ok 22 dX12_readsRight_5 (by decide) ⟨fun c => ?_, fun c => ?_⟩
  · have h := h.1 c
    refine r_iconst ok (nI 0) dX12_readsRight_22 (by decide) ?_
    exact r_zret ok rfl dX12_readsRight_23 ⟨rfl, h⟩
  · have h := h.2 c
    refine r_aload_n ok 0 dX12_readsRight_8 rfl ?_
    refine r_iload_n ok 1 dX12_readsRight_9 rfl ?_
    refine r_virti ok (rest := []) (As := [.int v1]) 0 _ k_X12_readsRight_133 rfl rfl rfl rfl (Nat.le_of_ble_eq_true rfl) dX12_readsRight_10 (MWi.mono h (fun r2 S2 h => ?_))
    refine r_iload_n ok 2 dX12_readsRight_13 rfl ?_
    refine r_iand ok dX12_readsRight_14 ?_
    refine r_if_ne ok 22 dX12_readsRight_15 (by decide) ⟨fun c => ?_, fun c => ?_⟩
    · have h := h.1 c
      refine r_iconst ok (nI 0) dX12_readsRight_22 (by decide) ?_
      exact r_zret ok rfl dX12_readsRight_23 ⟨rfl, h⟩
    · have h := h.2 c
      refine r_iconst ok (nI 1) dX12_readsRight_18 (by decide) ?_
      refine r_goto ok 23 dX12_readsRight_19 (by decide) ?_
      exact r_zret ok rfl dX12_readsRight_23 ⟨rfl, h⟩
set_option maxRecDepth 10000 in
theorem s_X12_mayLack_0 {l : Launch} {x : Cx} {g : Geo} {K : Int32 → Mem → Prop} (ok : Ok x g shM m_X12_mayLack) (v1 : Int32) (S : Mem) (h : PW l x g shM m_X12_mayLack (Qi x g shM K) 4 [(0, .ref (g.ad 0)), (1, .int v1), (2, .int (nI 1)), (3, .int (nI 0))] [] S) : PW l x g shM m_X12_mayLack (Qi x g shM K) 0 [(0, .ref (g.ad 0)), (1, .int v1)] [] S := by
  refine r_iconst ok (nI 1) dX12_mayLack_0 (by decide) ?_
  refine r_istore_n ok [(2, .int (nI 1)), (0, .ref (g.ad 0)), (1, .int v1)] dX12_mayLack_1 (by decide) rfl ?_
  refine r_iconst ok (nI 0) dX12_mayLack_2 (by decide) ?_
  refine r_istore_n ok [(3, .int (nI 0)), (2, .int (nI 1)), (0, .ref (g.ad 0)), (1, .int v1)] dX12_mayLack_3 (by decide) rfl ?_
  exact r_sub [2, 3, 1, 0] _ rfl h
set_option maxRecDepth 10000 in
theorem s_X12_mayLack_4 {l : Launch} {x : Cx} {g : Geo} {K : Int32 → Mem → Prop} (ok : Ok x g shM m_X12_mayLack) (v1 : Int32) (v2 : Int32) (v3 : Int32) (S : Mem) (h : (((S 0 22) ≤ v3 → (narrow .boolean (.int v2) = .int v2 ∧ K v2 S)) ∧ (¬ (S 0 22) ≤ v3 → ((v2 = 0 → (narrow .boolean (.int v2) = .int v2 ∧ K v2 S)) ∧ (¬ v2 = 0 → (vp_in v3 20 ∧ MWi l g shM m_X12_readsRight [.ref (g.ad 0), .int (S 16 (cl v3)), .int v1] S (fun r1 S1 => (vp_in v3 20 ∧ ((¬ (S1 17 (cl v3)) = (nI 1) → ((¬ r1 = (nI 0) → PW l x g shM m_X12_mayLack (Qi x g shM K) 4 [(0, .ref (g.ad 0)), (1, .int v1), (2, .int (nI 0)), (3, .int (v3 + (nI 1)))] [] S1) ∧ (r1 = (nI 0) → PW l x g shM m_X12_mayLack (Qi x g shM K) 4 [(0, .ref (g.ad 0)), (1, .int v1), (2, .int (nI 1)), (3, .int (v3 + (nI 1)))] [] S1))) ∧ ((S1 17 (cl v3)) = (nI 1) → ((¬ r1 = (nI 1) → PW l x g shM m_X12_mayLack (Qi x g shM K) 4 [(0, .ref (g.ad 0)), (1, .int v1), (2, .int (nI 0)), (3, .int (v3 + (nI 1)))] [] S1) ∧ (r1 = (nI 1) → PW l x g shM m_X12_mayLack (Qi x g shM K) 4 [(0, .ref (g.ad 0)), (1, .int v1), (2, .int (nI 1)), (3, .int (v3 + (nI 1)))] [] S1)))))))))))) : PW l x g shM m_X12_mayLack (Qi x g shM K) 4 [(0, .ref (g.ad 0)), (1, .int v1), (2, .int v2), (3, .int v3)] [] S := by
  refine r_iload_n ok 3 dX12_mayLack_4 rfl ?_
  refine r_aload_n ok 0 dX12_mayLack_5 rfl ?_
  refine r_getI ok 0 22 rfl rfl fo_X12_227 dX12_mayLack_6 ?_
  refine r_icmp_ge ok 57 dX12_mayLack_9 (by decide) ⟨fun c => ?_, fun c => ?_⟩
  · have h := h.1 c
    refine r_iload_n ok 2 dX12_mayLack_57 rfl ?_
    exact r_zret ok rfl dX12_mayLack_58 h
  · have h := h.2 c
    refine r_iload_n ok 2 dX12_mayLack_12 rfl ?_
    refine r_if_eq ok 57 dX12_mayLack_13 (by decide) ⟨fun c => ?_, fun c => ?_⟩
    · have h := h.1 c
      refine r_iload_n ok 2 dX12_mayLack_57 rfl ?_
      exact r_zret ok rfl dX12_mayLack_58 h
    · have h := h.2 c
      refine r_aload_n ok 0 dX12_mayLack_16 rfl ?_
      refine r_aload_n ok 0 dX12_mayLack_17 rfl ?_
      refine r_getR ok 0 20 rfl rfl fo_X12_57 dX12_mayLack_18 ?_
      refine r_iload_n ok 3 dX12_mayLack_21 rfl ?_
      refine r_iaload ok 16 rfl dX12_mayLack_22 h.1 ?_
      have h := h.2
      refine r_iload_n ok 1 dX12_mayLack_23 rfl ?_
      refine r_virti ok (rest := []) (As := [.int (S 16 (cl v3)), .int v1]) 0 _ k_X12_mayLack_230 rfl rfl rfl rfl (Nat.le_of_ble_eq_true rfl) dX12_mayLack_24 (MWi.mono h (fun r1 S1 h => ?_))
      refine r_aload_n ok 0 dX12_mayLack_27 rfl ?_
      refine r_getR ok 0 21 rfl rfl fo_X12_60 dX12_mayLack_28 ?_
      refine r_iload_n ok 3 dX12_mayLack_31 rfl ?_
      refine r_iaload ok 17 rfl dX12_mayLack_32 h.1 ?_
      have h := h.2
      refine r_iconst ok (nI 1) dX12_mayLack_33 (by decide) ?_
      refine r_icmp_ne ok 41 dX12_mayLack_34 (by decide) ⟨fun c => ?_, fun c => ?_⟩
      · have h := h.1 c
        refine r_iconst ok (nI 0) dX12_mayLack_41 (by decide) ?_
        refine r_icmp_ne ok 49 dX12_mayLack_42 (by decide) ⟨fun c => ?_, fun c => ?_⟩
        · have h := h.1 c
          refine r_iconst ok (nI 0) dX12_mayLack_49 (by decide) ?_
          refine r_istore_n ok [(2, .int (nI 0)), (0, .ref (g.ad 0)), (1, .int v1), (3, .int v3)] dX12_mayLack_50 (by decide) rfl ?_
          refine r_iinc ok 3 (v3 + (nI 1)) [(3, .int (v3 + (nI 1))), (2, .int (nI 0)), (0, .ref (g.ad 0)), (1, .int v1)] dX12_mayLack_51 rfl rfl (by decide) rfl ?_
          refine r_goto ok 4 dX12_mayLack_54 (by decide) ?_
          exact r_sub [2, 3, 1, 0] _ rfl h
        · have h := h.2 c
          refine r_iconst ok (nI 1) dX12_mayLack_45 (by decide) ?_
          refine r_goto ok 50 dX12_mayLack_46 (by decide) ?_
          refine r_istore_n ok [(2, .int (nI 1)), (0, .ref (g.ad 0)), (1, .int v1), (3, .int v3)] dX12_mayLack_50 (by decide) rfl ?_
          refine r_iinc ok 3 (v3 + (nI 1)) [(3, .int (v3 + (nI 1))), (2, .int (nI 1)), (0, .ref (g.ad 0)), (1, .int v1)] dX12_mayLack_51 rfl rfl (by decide) rfl ?_
          refine r_goto ok 4 dX12_mayLack_54 (by decide) ?_
          exact r_sub [2, 3, 1, 0] _ rfl h
      · have h := h.2 c
        refine r_iconst ok (nI 1) dX12_mayLack_37 (by decide) ?_
        refine r_goto ok 42 dX12_mayLack_38 (by decide) ?_
        refine r_icmp_ne ok 49 dX12_mayLack_42 (by decide) ⟨fun c => ?_, fun c => ?_⟩
        · have h := h.1 c
          refine r_iconst ok (nI 0) dX12_mayLack_49 (by decide) ?_
          refine r_istore_n ok [(2, .int (nI 0)), (0, .ref (g.ad 0)), (1, .int v1), (3, .int v3)] dX12_mayLack_50 (by decide) rfl ?_
          refine r_iinc ok 3 (v3 + (nI 1)) [(3, .int (v3 + (nI 1))), (2, .int (nI 0)), (0, .ref (g.ad 0)), (1, .int v1)] dX12_mayLack_51 rfl rfl (by decide) rfl ?_
          refine r_goto ok 4 dX12_mayLack_54 (by decide) ?_
          exact r_sub [2, 3, 1, 0] _ rfl h
        · have h := h.2 c
          refine r_iconst ok (nI 1) dX12_mayLack_45 (by decide) ?_
          refine r_goto ok 50 dX12_mayLack_46 (by decide) ?_
          refine r_istore_n ok [(2, .int (nI 1)), (0, .ref (g.ad 0)), (1, .int v1), (3, .int v3)] dX12_mayLack_50 (by decide) rfl ?_
          refine r_iinc ok 3 (v3 + (nI 1)) [(3, .int (v3 + (nI 1))), (2, .int (nI 1)), (0, .ref (g.ad 0)), (1, .int v1)] dX12_mayLack_51 rfl rfl (by decide) rfl ?_
          refine r_goto ok 4 dX12_mayLack_54 (by decide) ?_
          exact r_sub [2, 3, 1, 0] _ rfl h
set_option maxRecDepth 10000 in
theorem s_X12_mayWith_0 {l : Launch} {x : Cx} {g : Geo} {K : Int32 → Mem → Prop} (ok : Ok x g shM m_X12_mayWith) (v1 : Int32) (S : Mem) (h : PW l x g shM m_X12_mayWith (Qi x g shM K) 4 [(0, .ref (g.ad 0)), (1, .int v1), (2, .int (nI 0)), (3, .int (nI 0))] [] S) : PW l x g shM m_X12_mayWith (Qi x g shM K) 0 [(0, .ref (g.ad 0)), (1, .int v1)] [] S := by
  refine r_iconst ok (nI 0) dX12_mayWith_0 (by decide) ?_
  refine r_istore_n ok [(2, .int (nI 0)), (0, .ref (g.ad 0)), (1, .int v1)] dX12_mayWith_1 (by decide) rfl ?_
  refine r_iconst ok (nI 0) dX12_mayWith_2 (by decide) ?_
  refine r_istore_n ok [(3, .int (nI 0)), (2, .int (nI 0)), (0, .ref (g.ad 0)), (1, .int v1)] dX12_mayWith_3 (by decide) rfl ?_
  exact r_sub [2, 3, 1, 0] _ rfl h
set_option maxRecDepth 10000 in
theorem s_X12_mayWith_4 {l : Launch} {x : Cx} {g : Geo} {K : Int32 → Mem → Prop} (ok : Ok x g shM m_X12_mayWith) (v1 : Int32) (v2 : Int32) (v3 : Int32) (S : Mem) (h : (((nI 1024) ≤ v3 → K v2 S) ∧ (¬ (nI 1024) ≤ v3 → ((¬ (v1 &&& (v3 ^^^ (-1))) = 0 → PW l x g shM m_X12_mayWith (Qi x g shM K) 4 [(0, .ref (g.ad 0)), (1, .int v1), (2, .int (v2 + (nI 0))), (3, .int (v3 + (nI 1)))] [] S) ∧ ((v1 &&& (v3 ^^^ (-1))) = 0 → MWi l g shM m_X12_mayLack [.ref (g.ad 0), .int v3] S (fun r1 S1 => ((r1 = 0 → PW l x g shM m_X12_mayWith (Qi x g shM K) 4 [(0, .ref (g.ad 0)), (1, .int v1), (2, .int (v2 + (nI 0))), (3, .int (v3 + (nI 1)))] [] S1) ∧ (¬ r1 = 0 → PW l x g shM m_X12_mayWith (Qi x g shM K) 4 [(0, .ref (g.ad 0)), (1, .int v1), (2, .int (v2 + (nI 1))), (3, .int (v3 + (nI 1)))] [] S1)))))))) : PW l x g shM m_X12_mayWith (Qi x g shM K) 4 [(0, .ref (g.ad 0)), (1, .int v1), (2, .int v2), (3, .int v3)] [] S := by
  refine r_iload_n ok 3 dX12_mayWith_4 rfl ?_
  refine r_sipush ok (nI 1024) dX12_mayWith_5 (by decide) ?_
  refine r_icmp_ge ok 41 dX12_mayWith_8 (by decide) ⟨fun c => ?_, fun c => ?_⟩
  · have h := h.1 c
    refine r_iload_n ok 2 dX12_mayWith_41 rfl ?_
    exact r_iret ok rfl dX12_mayWith_42 h
  · have h := h.2 c
    refine r_iload_n ok 2 dX12_mayWith_11 rfl ?_
    refine r_iload_n ok 1 dX12_mayWith_12 rfl ?_
    refine r_iload_n ok 3 dX12_mayWith_13 rfl ?_
    refine r_iconst ok (-1) dX12_mayWith_14 (by decide) ?_
    refine r_ixor ok dX12_mayWith_15 ?_
    refine r_iand ok dX12_mayWith_16 ?_
    refine r_if_ne ok 32 dX12_mayWith_17 (by decide) ⟨fun c => ?_, fun c => ?_⟩
    · have h := h.1 c
      refine r_iconst ok (nI 0) dX12_mayWith_32 (by decide) ?_
      refine r_iadd ok dX12_mayWith_33 ?_
      refine r_istore_n ok [(2, .int (v2 + (nI 0))), (0, .ref (g.ad 0)), (1, .int v1), (3, .int v3)] dX12_mayWith_34 (by decide) rfl ?_
      refine r_iinc ok 3 (v3 + (nI 1)) [(3, .int (v3 + (nI 1))), (2, .int (v2 + (nI 0))), (0, .ref (g.ad 0)), (1, .int v1)] dX12_mayWith_35 rfl rfl (by decide) rfl ?_
      refine r_goto ok 4 dX12_mayWith_38 (by decide) ?_
      exact r_sub [2, 3, 1, 0] _ rfl h
    · have h := h.2 c
      refine r_aload_n ok 0 dX12_mayWith_20 rfl ?_
      refine r_iload_n ok 3 dX12_mayWith_21 rfl ?_
      refine r_virti ok (rest := [.int v2]) (As := [.int v3]) 0 _ k_X12_mayWith_233 rfl rfl rfl rfl (Nat.le_of_ble_eq_true rfl) dX12_mayWith_22 (MWi.mono h (fun r1 S1 h => ?_))
      refine r_if_eq ok 32 dX12_mayWith_25 (by decide) ⟨fun c => ?_, fun c => ?_⟩
      · have h := h.1 c
        refine r_iconst ok (nI 0) dX12_mayWith_32 (by decide) ?_
        refine r_iadd ok dX12_mayWith_33 ?_
        refine r_istore_n ok [(2, .int (v2 + (nI 0))), (0, .ref (g.ad 0)), (1, .int v1), (3, .int v3)] dX12_mayWith_34 (by decide) rfl ?_
        refine r_iinc ok 3 (v3 + (nI 1)) [(3, .int (v3 + (nI 1))), (2, .int (v2 + (nI 0))), (0, .ref (g.ad 0)), (1, .int v1)] dX12_mayWith_35 rfl rfl (by decide) rfl ?_
        refine r_goto ok 4 dX12_mayWith_38 (by decide) ?_
        exact r_sub [2, 3, 1, 0] _ rfl h
      · have h := h.2 c
        refine r_iconst ok (nI 1) dX12_mayWith_28 (by decide) ?_
        refine r_goto ok 33 dX12_mayWith_29 (by decide) ?_
        refine r_iadd ok dX12_mayWith_33 ?_
        refine r_istore_n ok [(2, .int (v2 + (nI 1))), (0, .ref (g.ad 0)), (1, .int v1), (3, .int v3)] dX12_mayWith_34 (by decide) rfl ?_
        refine r_iinc ok 3 (v3 + (nI 1)) [(3, .int (v3 + (nI 1))), (2, .int (v2 + (nI 1))), (0, .ref (g.ad 0)), (1, .int v1)] dX12_mayWith_35 rfl rfl (by decide) rfl ?_
        refine r_goto ok 4 dX12_mayWith_38 (by decide) ?_
        exact r_sub [2, 3, 1, 0] _ rfl h
set_option maxRecDepth 10000 in
theorem s_X12_may_0 {l : Launch} {x : Cx} {g : Geo} {K : Int32 → Mem → Prop} (ok : Ok x g shM m_X12_may) (S : Mem) (h : MWv l g shM m_X12_findCommon [.ref (g.ad 0)] S (fun S1 => MWi l g shM m_X12_mayWith [.ref (g.ad 0), .int (nI 0)] S1 (fun r2 S2 => K r2 S2))) : PW l x g shM m_X12_may (Qi x g shM K) 0 [(0, .ref (g.ad 0))] [] S := by
  refine r_aload_n ok 0 dX12_may_0 rfl ?_
  refine r_virtv ok (rest := []) (As := []) 0 _ k_X12_may_137 rfl rfl rfl rfl (Nat.le_of_ble_eq_true rfl) dX12_may_1 (MWv.mono h (fun S1 h => ?_))
  refine r_aload_n ok 0 dX12_may_4 rfl ?_
  refine r_iconst ok (nI 0) dX12_may_5 (by decide) ?_
  refine r_virti ok (rest := []) (As := [.int (nI 0)]) 0 _ k_X12_may_236 rfl rfl rfl rfl (Nat.le_of_ble_eq_true rfl) dX12_may_6 (MWi.mono h (fun r2 S2 h => ?_))
  exact r_iret ok rfl dX12_may_9 h
set_option maxRecDepth 10000 in
theorem s_X12_lacks_0 {l : Launch} {x : Cx} {g : Geo} {K : Int64 → Mem → Prop} (ok : Ok x g shM m_X12_lacks) (v1 : Int32) (v2 : Int32) (S : Mem) (h : MWi l g shM m_X12_isSign [.int v1] S (fun r1 S1 => ((¬ r1 = 0 → MWi l g shM m_X12_isEnd [.int v2] S1 (fun r2 S2 => ((¬ r2 = 0 → MWv l g shM m_X12_findCommon [.ref (g.ad 0)] S2 (fun S3 => MWi l g shM m_X12_mayWith [.ref (g.ad 0), .int (nI 0)] S3 (fun r4 S4 => ((¬ r4 = 0 → MWi l g shM m_X12_mayWith [.ref (g.ad 0), .int (jshl (nI 1) v1)] S4 (fun r5 S5 => MWl l g shM m_X12_lowest [.long r5.toInt64, .long r4.toInt64, .int v2] S5 (fun r6 S6 => K r6 S6))) ∧ (r4 = 0 → K (-1000000000000000005) S4))))) ∧ (r2 = 0 → K (-1000000000000000002) S2)))) ∧ (r1 = 0 → K (-1000000000000000001) S1)))) : PW l x g shM m_X12_lacks (Ql x g shM K) 0 [(0, .ref (g.ad 0)), (1, .int v1), (2, .int v2)] [] S := by
  refine r_iload_n ok 1 dX12_lacks_0 rfl ?_
  refine r_stati ok (rest := []) (As := [.int v1]) _ k_X12_lacks_143 rfl rfl (Nat.le_of_ble_eq_true rfl) dX12_lacks_1 (MWi.mono h (fun r1 S1 h => ?_))
  refine r_if_ne ok 11 dX12_lacks_4 (by decide) ⟨fun c => ?_, fun c => ?_⟩
  · have h := h.1 c
    refine r_iload_n ok 2 dX12_lacks_11 rfl ?_
    refine r_stati ok (rest := []) (As := [.int v2]) _ k_X12_lacks_148 rfl rfl (Nat.le_of_ble_eq_true rfl) dX12_lacks_12 (MWi.mono h (fun r2 S2 h => ?_))
    refine r_if_ne ok 22 dX12_lacks_15 (by decide) ⟨fun c => ?_, fun c => ?_⟩
    · have h := h.1 c
      refine r_aload_n ok 0 dX12_lacks_22 rfl ?_
      refine r_virtv ok (rest := []) (As := []) 0 _ k_X12_lacks_137 rfl rfl rfl rfl (Nat.le_of_ble_eq_true rfl) dX12_lacks_23 (MWv.mono h (fun S3 h => ?_))
      refine r_aload_n ok 0 dX12_lacks_26 rfl ?_
      refine r_iconst ok (nI 0) dX12_lacks_27 (by decide) ?_
      refine r_virti ok (rest := []) (As := [.int (nI 0)]) 0 _ k_X12_lacks_236 rfl rfl rfl rfl (Nat.le_of_ble_eq_true rfl) dX12_lacks_28 (MWi.mono h (fun r4 S4 h => ?_))
      refine r_istore_n ok [(3, .int r4), (0, .ref (g.ad 0)), (1, .int v1), (2, .int v2)] dX12_lacks_31 (by decide) rfl ?_
      refine r_iload_n ok 0 dX12_lacks_32 rfl ?_
      refine r_if_ne ok 42 dX12_lacks_33 (by decide) ⟨fun c => ?_, fun c => ?_⟩
      · have h := h.1 c
        refine r_aload_n ok 1 dX12_lacks_42 rfl ?_
        refine r_iconst ok (nI 1) dX12_lacks_43 (by decide) ?_
        refine r_iload_n ok 2 dX12_lacks_44 rfl ?_
        refine r_ishl ok dX12_lacks_45 ?_
        refine r_virti ok (rest := []) (As := [.int (jshl (nI 1) v1)]) 0 _ k_X12_lacks_236 rfl rfl rfl rfl (Nat.le_of_ble_eq_true rfl) dX12_lacks_46 (MWi.mono h (fun r5 S5 h => ?_))
        refine r_i2l ok dX12_lacks_49 ?_
        refine r_iload_n ok 0 dX12_lacks_50 rfl ?_
        refine r_i2l ok dX12_lacks_51 ?_
        refine r_iload_n ok 3 dX12_lacks_52 rfl ?_
        refine r_statl ok (rest := []) (As := [.long r5.toInt64, .long r4.toInt64, .int v2]) _ k_X12_lacks_156 rfl rfl (Nat.le_of_ble_eq_true rfl) dX12_lacks_53 (MWl.mono h (fun r6 S6 h => ?_))
        exact r_lret ok rfl dX12_lacks_56 h
      · have h := h.2 c
        refine r_ldc2 ok (-1000000000000000005) dX12_lacks_36 (gt_in (List.mem_of_getElem? (i := 1272) (by decide +kernel)) rfl) ?_
        refine r_goto ok 56 dX12_lacks_39 (by decide) ?_
        exact r_lret ok rfl dX12_lacks_56 h
    · have h := h.2 c
      refine r_ldc2 ok (-1000000000000000002) dX12_lacks_18 (gt_in (List.mem_of_getElem? (i := 1130) (by decide +kernel)) rfl) ?_
      exact r_lret ok rfl dX12_lacks_21 h
  · have h := h.2 c
    refine r_ldc2 ok (-1000000000000000001) dX12_lacks_7 (gt_in (List.mem_of_getElem? (i := 1126) (by decide +kernel)) rfl) ?_
    exact r_lret ok rfl dX12_lacks_10 h
set_option maxRecDepth 10000 in
theorem s_X12_tells_0 {l : Launch} {x : Cx} {g : Geo} {K : Int32 → Mem → Prop} (ok : Ok x g shM m_X12_tells) (S : Mem) (h : MWv l g shM m_X12_findCommon [.ref (g.ad 0)] S (fun S1 => MWi l g shM m_X12_mayWith [.ref (g.ad 0), .int (nI 0)] S1 (fun r2 S2 => PW l x g shM m_X12_tells (Qi x g shM K) 18 [(0, .ref (g.ad 0)), (1, .int (-6)), (2, .int (nI 0)), (3, .int r2), (4, .int (nI 0))] [] S2))) : PW l x g shM m_X12_tells (Qi x g shM K) 0 [(0, .ref (g.ad 0))] [] S := by
  refine r_aload_n ok 0 dX12_tells_0 rfl ?_
  refine r_virtv ok (rest := []) (As := []) 0 _ k_X12_tells_137 rfl rfl rfl rfl (Nat.le_of_ble_eq_true rfl) dX12_tells_1 (MWv.mono h (fun S1 h => ?_))
  refine r_bipush ok (-6) dX12_tells_4 (by decide) ?_
  refine r_istore_n ok [(1, .int (-6)), (0, .ref (g.ad 0))] dX12_tells_6 (by decide) rfl ?_
  refine r_iconst ok (nI 0) dX12_tells_7 (by decide) ?_
  refine r_istore_n ok [(2, .int (nI 0)), (1, .int (-6)), (0, .ref (g.ad 0))] dX12_tells_8 (by decide) rfl ?_
  refine r_aload_n ok 2 dX12_tells_9 rfl ?_
  refine r_iconst ok (nI 0) dX12_tells_10 (by decide) ?_
  refine r_virti ok (rest := []) (As := [.int (nI 0)]) 0 _ k_X12_tells_236 rfl rfl rfl rfl (Nat.le_of_ble_eq_true rfl) dX12_tells_11 (MWi.mono h (fun r2 S2 h => ?_))
  refine r_istore_n ok [(3, .int r2), (2, .int (nI 0)), (1, .int (-6)), (0, .ref (g.ad 0))] dX12_tells_14 (by decide) rfl ?_
  refine r_iconst ok (nI 0) dX12_tells_15 (by decide) ?_
  refine r_istore ok [(4, .int (nI 0)), (3, .int r2), (2, .int (nI 0)), (1, .int (-6)), (0, .ref (g.ad 0))] dX12_tells_16 (by decide) rfl ?_
  exact r_sub [4, 3, 2, 1, 0] _ rfl h
set_option maxRecDepth 10000 in
theorem s_X12_tells_18 {l : Launch} {x : Cx} {g : Geo} {K : Int32 → Mem → Prop} (ok : Ok x g shM m_X12_tells) (v1 : Int32) (v2 : Int32) (v3 : Int32) (v4 : Int32) (S : Mem) (h : (((S 0 4) ≤ v4 → K v1 S) ∧ (¬ (S 0 4) ≤ v4 → PW l x g shM m_X12_tells (Qi x g shM K) 33 [(0, .ref (g.ad 0)), (1, .int v1), (2, .int v2), (3, .int v3), (4, .int v4), (5, .int (nI 0)), (6, .int (nI 0))] [] S))) : PW l x g shM m_X12_tells (Qi x g shM K) 18 [(0, .ref (g.ad 0)), (1, .int v1), (2, .int v2), (3, .int v3), (4, .int v4)] [] S := by
  refine r_iload ok 4 dX12_tells_18 rfl ?_
  refine r_aload_n ok 0 dX12_tells_20 rfl ?_
  refine r_getI ok 0 4 rfl rfl fo_X12_105 dX12_tells_21 ?_
  refine r_icmp_ge ok 119 dX12_tells_24 (by decide) ⟨fun c => ?_, fun c => ?_⟩
  · have h := h.1 c
    refine r_iload_n ok 1 dX12_tells_119 rfl ?_
    exact r_iret ok rfl dX12_tells_120 h
  · have h := h.2 c
    refine r_iconst ok (nI 0) dX12_tells_27 (by decide) ?_
    refine r_istore ok [(5, .int (nI 0)), (0, .ref (g.ad 0)), (1, .int v1), (2, .int v2), (3, .int v3), (4, .int v4)] dX12_tells_28 (by decide) rfl ?_
    refine r_iconst ok (nI 0) dX12_tells_30 (by decide) ?_
    refine r_istore ok [(6, .int (nI 0)), (5, .int (nI 0)), (0, .ref (g.ad 0)), (1, .int v1), (2, .int v2), (3, .int v3), (4, .int v4)] dX12_tells_31 (by decide) rfl ?_
    exact r_sub [2, 3, 4, 5, 6, 1, 0] _ rfl h
set_option maxRecDepth 10000 in
theorem s_X12_tells_33 {l : Launch} {x : Cx} {g : Geo} {K : Int32 → Mem → Prop} (ok : Ok x g shM m_X12_tells) (v1 : Int32) (v2 : Int32) (v3 : Int32) (v4 : Int32) (v5 : Int32) (v6 : Int32) (S : Mem) (h : (((nI 1024) ≤ v6 → (((v3 - v5) ≤ v5 → ((v1 < 0 → PW l x g shM m_X12_tells (Qi x g shM K) 18 [(0, .ref (g.ad 0)), (1, .int v4), (2, .int (v3 - v5)), (3, .int v3), (4, .int (v4 + (nI 1)))] [] S) ∧ (¬ v1 < 0 → (((v3 - v5) ≤ v2 → PW l x g shM m_X12_tells (Qi x g shM K) 18 [(0, .ref (g.ad 0)), (1, .int v1), (2, .int v2), (3, .int v3), (4, .int (v4 + (nI 1)))] [] S) ∧ (¬ (v3 - v5) ≤ v2 → PW l x g shM m_X12_tells (Qi x g shM K) 18 [(0, .ref (g.ad 0)), (1, .int v4), (2, .int (v3 - v5)), (3, .int v3), (4, .int (v4 + (nI 1)))] [] S))))) ∧ (¬ (v3 - v5) ≤ v5 → ((v1 < 0 → PW l x g shM m_X12_tells (Qi x g shM K) 18 [(0, .ref (g.ad 0)), (1, .int v4), (2, .int v5), (3, .int v3), (4, .int (v4 + (nI 1)))] [] S) ∧ (¬ v1 < 0 → ((v5 ≤ v2 → PW l x g shM m_X12_tells (Qi x g shM K) 18 [(0, .ref (g.ad 0)), (1, .int v1), (2, .int v2), (3, .int v3), (4, .int (v4 + (nI 1)))] [] S) ∧ (¬ v5 ≤ v2 → PW l x g shM m_X12_tells (Qi x g shM K) 18 [(0, .ref (g.ad 0)), (1, .int v4), (2, .int v5), (3, .int v3), (4, .int (v4 + (nI 1)))] [] S))))))) ∧ (¬ (nI 1024) ≤ v6 → MWi l g shM m_X12_readsRight [.ref (g.ad 0), .int v4, .int v6] S (fun r1 S1 => ((r1 = 0 → PW l x g shM m_X12_tells (Qi x g shM K) 33 [(0, .ref (g.ad 0)), (1, .int v1), (2, .int v2), (3, .int v3), (4, .int v4), (5, .int (v5 + (nI 0))), (6, .int (v6 + (nI 1)))] [] S1) ∧ (¬ r1 = 0 → MWi l g shM m_X12_mayLack [.ref (g.ad 0), .int v6] S1 (fun r2 S2 => ((r2 = 0 → PW l x g shM m_X12_tells (Qi x g shM K) 33 [(0, .ref (g.ad 0)), (1, .int v1), (2, .int v2), (3, .int v3), (4, .int v4), (5, .int (v5 + (nI 0))), (6, .int (v6 + (nI 1)))] [] S2) ∧ (¬ r2 = 0 → PW l x g shM m_X12_tells (Qi x g shM K) 33 [(0, .ref (g.ad 0)), (1, .int v1), (2, .int v2), (3, .int v3), (4, .int v4), (5, .int (v5 + (nI 1))), (6, .int (v6 + (nI 1)))] [] S2))))))))) : PW l x g shM m_X12_tells (Qi x g shM K) 33 [(0, .ref (g.ad 0)), (1, .int v1), (2, .int v2), (3, .int v3), (4, .int v4), (5, .int v5), (6, .int v6)] [] S := by
  refine r_iload ok 6 dX12_tells_33 rfl ?_
  refine r_sipush ok (nI 1024) dX12_tells_35 (by decide) ?_
  refine r_icmp_ge ok 77 dX12_tells_38 (by decide) ⟨fun c => ?_, fun c => ?_⟩
  · have h := h.1 c
    refine r_iload ok 5 dX12_tells_77 rfl ?_
    refine r_iload_n ok 3 dX12_tells_79 rfl ?_
    refine r_iload ok 5 dX12_tells_80 rfl ?_
    refine r_isub ok dX12_tells_82 ?_
    refine r_icmp_ge ok 91 dX12_tells_83 (by decide) ⟨fun c => ?_, fun c => ?_⟩
    · have h := h.1 c
      refine r_iload_n ok 3 dX12_tells_91 rfl ?_
      refine r_iload ok 5 dX12_tells_92 rfl ?_
      refine r_isub ok dX12_tells_94 ?_
      refine r_istore ok [(6, .int (v3 - v5)), (0, .ref (g.ad 0)), (1, .int v1), (2, .int v2), (3, .int v3), (4, .int v4), (5, .int v5)] dX12_tells_95 (by decide) rfl ?_
      refine r_iload_n ok 2 dX12_tells_97 rfl ?_
      refine r_if_lt ok 107 dX12_tells_98 (by decide) ⟨fun c => ?_, fun c => ?_⟩
      · have h := h.1 c
        refine r_iload ok 5 dX12_tells_107 rfl ?_
        refine r_istore_n ok [(1, .int v4), (6, .int (v3 - v5)), (0, .ref (g.ad 0)), (2, .int v2), (3, .int v3), (4, .int v4), (5, .int v5)] dX12_tells_109 (by decide) rfl ?_
        refine r_iload ok 1 dX12_tells_110 rfl ?_
        refine r_istore_n ok [(2, .int (v3 - v5)), (1, .int v4), (6, .int (v3 - v5)), (0, .ref (g.ad 0)), (3, .int v3), (4, .int v4), (5, .int v5)] dX12_tells_112 (by decide) rfl ?_
        refine r_iinc ok 5 (v4 + (nI 1)) [(4, .int (v4 + (nI 1))), (2, .int (v3 - v5)), (1, .int v4), (6, .int (v3 - v5)), (0, .ref (g.ad 0)), (3, .int v3), (5, .int v5)] dX12_tells_113 rfl rfl (by decide) rfl ?_
        refine r_goto ok 18 dX12_tells_116 (by decide) ?_
        exact r_sub [4, 2, 1, 5, 0] _ rfl h
      · have h := h.2 c
        refine r_iload ok 0 dX12_tells_101 rfl ?_
        refine r_iload_n ok 3 dX12_tells_103 rfl ?_
        refine r_icmp_le ok 113 dX12_tells_104 (by decide) ⟨fun c => ?_, fun c => ?_⟩
        · have h := h.1 c
          refine r_iinc ok 5 (v4 + (nI 1)) [(4, .int (v4 + (nI 1))), (6, .int (v3 - v5)), (0, .ref (g.ad 0)), (1, .int v1), (2, .int v2), (3, .int v3), (5, .int v5)] dX12_tells_113 rfl rfl (by decide) rfl ?_
          refine r_goto ok 18 dX12_tells_116 (by decide) ?_
          exact r_sub [2, 3, 4, 5, 0] _ rfl h
        · have h := h.2 c
          refine r_iload ok 5 dX12_tells_107 rfl ?_
          refine r_istore_n ok [(1, .int v4), (6, .int (v3 - v5)), (0, .ref (g.ad 0)), (2, .int v2), (3, .int v3), (4, .int v4), (5, .int v5)] dX12_tells_109 (by decide) rfl ?_
          refine r_iload ok 1 dX12_tells_110 rfl ?_
          refine r_istore_n ok [(2, .int (v3 - v5)), (1, .int v4), (6, .int (v3 - v5)), (0, .ref (g.ad 0)), (3, .int v3), (4, .int v4), (5, .int v5)] dX12_tells_112 (by decide) rfl ?_
          refine r_iinc ok 5 (v4 + (nI 1)) [(4, .int (v4 + (nI 1))), (2, .int (v3 - v5)), (1, .int v4), (6, .int (v3 - v5)), (0, .ref (g.ad 0)), (3, .int v3), (5, .int v5)] dX12_tells_113 rfl rfl (by decide) rfl ?_
          refine r_goto ok 18 dX12_tells_116 (by decide) ?_
          exact r_sub [4, 2, 1, 5, 0] _ rfl h
    · have h := h.2 c
      refine r_iload ok 5 dX12_tells_86 rfl ?_
      refine r_goto ok 95 dX12_tells_88 (by decide) ?_
      refine r_istore ok [(6, .int v5), (0, .ref (g.ad 0)), (1, .int v1), (2, .int v2), (3, .int v3), (4, .int v4), (5, .int v5)] dX12_tells_95 (by decide) rfl ?_
      refine r_iload_n ok 2 dX12_tells_97 rfl ?_
      refine r_if_lt ok 107 dX12_tells_98 (by decide) ⟨fun c => ?_, fun c => ?_⟩
      · have h := h.1 c
        refine r_iload ok 5 dX12_tells_107 rfl ?_
        refine r_istore_n ok [(1, .int v4), (6, .int v5), (0, .ref (g.ad 0)), (2, .int v2), (3, .int v3), (4, .int v4), (5, .int v5)] dX12_tells_109 (by decide) rfl ?_
        refine r_iload ok 1 dX12_tells_110 rfl ?_
        refine r_istore_n ok [(2, .int v5), (1, .int v4), (6, .int v5), (0, .ref (g.ad 0)), (3, .int v3), (4, .int v4), (5, .int v5)] dX12_tells_112 (by decide) rfl ?_
        refine r_iinc ok 5 (v4 + (nI 1)) [(4, .int (v4 + (nI 1))), (2, .int v5), (1, .int v4), (6, .int v5), (0, .ref (g.ad 0)), (3, .int v3), (5, .int v5)] dX12_tells_113 rfl rfl (by decide) rfl ?_
        refine r_goto ok 18 dX12_tells_116 (by decide) ?_
        exact r_sub [4, 2, 1, 5, 0] _ rfl h
      · have h := h.2 c
        refine r_iload ok 0 dX12_tells_101 rfl ?_
        refine r_iload_n ok 3 dX12_tells_103 rfl ?_
        refine r_icmp_le ok 113 dX12_tells_104 (by decide) ⟨fun c => ?_, fun c => ?_⟩
        · have h := h.1 c
          refine r_iinc ok 5 (v4 + (nI 1)) [(4, .int (v4 + (nI 1))), (6, .int v5), (0, .ref (g.ad 0)), (1, .int v1), (2, .int v2), (3, .int v3), (5, .int v5)] dX12_tells_113 rfl rfl (by decide) rfl ?_
          refine r_goto ok 18 dX12_tells_116 (by decide) ?_
          exact r_sub [2, 3, 4, 5, 0] _ rfl h
        · have h := h.2 c
          refine r_iload ok 5 dX12_tells_107 rfl ?_
          refine r_istore_n ok [(1, .int v4), (6, .int v5), (0, .ref (g.ad 0)), (2, .int v2), (3, .int v3), (4, .int v4), (5, .int v5)] dX12_tells_109 (by decide) rfl ?_
          refine r_iload ok 1 dX12_tells_110 rfl ?_
          refine r_istore_n ok [(2, .int v5), (1, .int v4), (6, .int v5), (0, .ref (g.ad 0)), (3, .int v3), (4, .int v4), (5, .int v5)] dX12_tells_112 (by decide) rfl ?_
          refine r_iinc ok 5 (v4 + (nI 1)) [(4, .int (v4 + (nI 1))), (2, .int v5), (1, .int v4), (6, .int v5), (0, .ref (g.ad 0)), (3, .int v3), (5, .int v5)] dX12_tells_113 rfl rfl (by decide) rfl ?_
          refine r_goto ok 18 dX12_tells_116 (by decide) ?_
          exact r_sub [4, 2, 1, 5, 0] _ rfl h
  · have h := h.2 c
    refine r_iload ok 5 dX12_tells_41 rfl ?_
    refine r_aload_n ok 0 dX12_tells_43 rfl ?_
    refine r_iload ok 4 dX12_tells_44 rfl ?_
    refine r_iload ok 6 dX12_tells_46 rfl ?_
    refine r_virti ok (rest := [.int v5]) (As := [.int v4, .int v6]) 0 _ k_X12_tells_230 rfl rfl rfl rfl (Nat.le_of_ble_eq_true rfl) dX12_tells_48 (MWi.mono h (fun r1 S1 h => ?_))
    refine r_if_eq ok 67 dX12_tells_51 (by decide) ⟨fun c => ?_, fun c => ?_⟩
    · have h := h.1 c
      refine r_iconst ok (nI 0) dX12_tells_67 (by decide) ?_
      refine r_iadd ok dX12_tells_68 ?_
      refine r_istore ok [(5, .int (v5 + (nI 0))), (0, .ref (g.ad 0)), (1, .int v1), (2, .int v2), (3, .int v3), (4, .int v4), (6, .int v6)] dX12_tells_69 (by decide) rfl ?_
      refine r_iinc ok 6 (v6 + (nI 1)) [(6, .int (v6 + (nI 1))), (5, .int (v5 + (nI 0))), (0, .ref (g.ad 0)), (1, .int v1), (2, .int v2), (3, .int v3), (4, .int v4)] dX12_tells_71 rfl rfl (by decide) rfl ?_
      refine r_goto ok 33 dX12_tells_74 (by decide) ?_
      exact r_sub [2, 3, 4, 5, 6, 1, 0] _ rfl h
    · have h := h.2 c
      refine r_aload_n ok 0 dX12_tells_54 rfl ?_
      refine r_iload ok 6 dX12_tells_55 rfl ?_
      refine r_virti ok (rest := [.int v5]) (As := [.int v6]) 0 _ k_X12_tells_233 rfl rfl rfl rfl (Nat.le_of_ble_eq_true rfl) dX12_tells_57 (MWi.mono h (fun r2 S2 h => ?_))
      refine r_if_eq ok 67 dX12_tells_60 (by decide) ⟨fun c => ?_, fun c => ?_⟩
      · have h := h.1 c
        refine r_iconst ok (nI 0) dX12_tells_67 (by decide) ?_
        refine r_iadd ok dX12_tells_68 ?_
        refine r_istore ok [(5, .int (v5 + (nI 0))), (0, .ref (g.ad 0)), (1, .int v1), (2, .int v2), (3, .int v3), (4, .int v4), (6, .int v6)] dX12_tells_69 (by decide) rfl ?_
        refine r_iinc ok 6 (v6 + (nI 1)) [(6, .int (v6 + (nI 1))), (5, .int (v5 + (nI 0))), (0, .ref (g.ad 0)), (1, .int v1), (2, .int v2), (3, .int v3), (4, .int v4)] dX12_tells_71 rfl rfl (by decide) rfl ?_
        refine r_goto ok 33 dX12_tells_74 (by decide) ?_
        exact r_sub [2, 3, 4, 5, 6, 1, 0] _ rfl h
      · have h := h.2 c
        refine r_iconst ok (nI 1) dX12_tells_63 (by decide) ?_
        refine r_goto ok 68 dX12_tells_64 (by decide) ?_
        refine r_iadd ok dX12_tells_68 ?_
        refine r_istore ok [(5, .int (v5 + (nI 1))), (0, .ref (g.ad 0)), (1, .int v1), (2, .int v2), (3, .int v3), (4, .int v4), (6, .int v6)] dX12_tells_69 (by decide) rfl ?_
        refine r_iinc ok 6 (v6 + (nI 1)) [(6, .int (v6 + (nI 1))), (5, .int (v5 + (nI 1))), (0, .ref (g.ad 0)), (1, .int v1), (2, .int v2), (3, .int v3), (4, .int v4)] dX12_tells_71 rfl rfl (by decide) rfl ?_
        refine r_goto ok 33 dX12_tells_74 (by decide) ?_
        exact r_sub [2, 3, 4, 5, 6, 1, 0] _ rfl h
set_option maxRecDepth 10000 in
theorem s_X12_tellsAll_0 {l : Launch} {x : Cx} {g : Geo} {K : Int32 → Mem → Prop} (ok : Ok x g shM m_X12_tellsAll) (v1 : Int32) (v2 : Int32) (S : Mem) (h : PW l x g shM m_X12_tellsAll (Qi x g shM K) 5 [(0, .ref (g.ad 0)), (1, .int v1), (2, .int v2), (3, .int (nI 1)), (4, .int (nI 0))] [] S) : PW l x g shM m_X12_tellsAll (Qi x g shM K) 0 [(0, .ref (g.ad 0)), (1, .int v1), (2, .int v2)] [] S := by
  refine r_iconst ok (nI 1) dX12_tellsAll_0 (by decide) ?_
  refine r_istore_n ok [(3, .int (nI 1)), (0, .ref (g.ad 0)), (1, .int v1), (2, .int v2)] dX12_tellsAll_1 (by decide) rfl ?_
  refine r_iconst ok (nI 0) dX12_tellsAll_2 (by decide) ?_
  refine r_istore ok [(4, .int (nI 0)), (3, .int (nI 1)), (0, .ref (g.ad 0)), (1, .int v1), (2, .int v2)] dX12_tellsAll_3 (by decide) rfl ?_
  exact r_sub [2, 3, 4, 1, 0] _ rfl h
set_option maxRecDepth 10000 in
theorem s_X12_tellsAll_5 {l : Launch} {x : Cx} {g : Geo} {K : Int32 → Mem → Prop} (ok : Ok x g shM m_X12_tellsAll) (v1 : Int32) (v2 : Int32) (v3 : Int32) (v4 : Int32) (S : Mem) (h : (((nI 10) < v4 → (narrow .boolean (.int v3) = .int v3 ∧ K v3 S)) ∧ (¬ (nI 10) < v4 → ((v3 = 0 → (narrow .boolean (.int v3) = .int v3 ∧ K v3 S)) ∧ (¬ v3 = 0 → PW l x g shM m_X12_tellsAll (Qi x g shM K) 19 [(0, .ref (g.ad 0)), (1, .int v1), (2, .int v2), (3, .int v3), (4, .int v4), (5, .int (nI 0))] [] S))))) : PW l x g shM m_X12_tellsAll (Qi x g shM K) 5 [(0, .ref (g.ad 0)), (1, .int v1), (2, .int v2), (3, .int v3), (4, .int v4)] [] S := by
  refine r_iload ok 4 dX12_tellsAll_5 rfl ?_
  refine r_bipush ok (nI 10) dX12_tellsAll_7 (by decide) ?_
  refine r_icmp_gt ok 79 dX12_tellsAll_9 (by decide) ⟨fun c => ?_, fun c => ?_⟩
  · have h := h.1 c
    refine r_iload_n ok 3 dX12_tellsAll_79 rfl ?_
    exact r_zret ok rfl dX12_tellsAll_80 h
  · have h := h.2 c
    refine r_iload_n ok 3 dX12_tellsAll_12 rfl ?_
    refine r_if_eq ok 79 dX12_tellsAll_13 (by decide) ⟨fun c => ?_, fun c => ?_⟩
    · have h := h.1 c
      refine r_iload_n ok 3 dX12_tellsAll_79 rfl ?_
      exact r_zret ok rfl dX12_tellsAll_80 h
    · have h := h.2 c
      refine r_iconst ok (nI 0) dX12_tellsAll_16 (by decide) ?_
      refine r_istore ok [(5, .int (nI 0)), (0, .ref (g.ad 0)), (1, .int v1), (2, .int v2), (3, .int v3), (4, .int v4)] dX12_tellsAll_17 (by decide) rfl ?_
      exact r_sub [1, 2, 3, 4, 5, 0] _ rfl h
set_option maxRecDepth 10000 in
theorem s_X12_tellsAll_19 {l : Launch} {x : Cx} {g : Geo} {K : Int32 → Mem → Prop} (ok : Ok x g shM m_X12_tellsAll) (v1 : Int32) (v2 : Int32) (v3 : Int32) (v4 : Int32) (v5 : Int32) (S : Mem) (h : ((v4 ≤ v5 → PW l x g shM m_X12_tellsAll (Qi x g shM K) 5 [(0, .ref (g.ad 0)), (1, .int v1), (2, .int v2), (3, .int v3), (4, .int (v4 + (nI 1)))] [] S) ∧ (¬ v4 ≤ v5 → ((v3 = 0 → PW l x g shM m_X12_tellsAll (Qi x g shM K) 5 [(0, .ref (g.ad 0)), (1, .int v1), (2, .int v2), (3, .int v3), (4, .int (v4 + (nI 1)))] [] S) ∧ (¬ v3 = 0 → (vp_in v4 11 ∧ (vp_in v5 11 ∧ (((((S 18 (cl v4)) ^^^ (S 18 (cl v5))) &&& v2) = 0 → PW l x g shM m_X12_tellsAll (Qi x g shM K) 19 [(0, .ref (g.ad 0)), (1, .int v1), (2, .int v2), (3, .int (nI 1)), (4, .int v4), (5, .int (v5 + (nI 1)))] [] S) ∧ (¬ (((S 18 (cl v4)) ^^^ (S 18 (cl v5))) &&& v2) = 0 → (((((S 18 (cl v4)) ^^^ (S 18 (cl v5))) &&& v1) = 0 → PW l x g shM m_X12_tellsAll (Qi x g shM K) 19 [(0, .ref (g.ad 0)), (1, .int v1), (2, .int v2), (3, .int (nI 0)), (4, .int v4), (5, .int (v5 + (nI 1)))] [] S) ∧ (¬ (((S 18 (cl v4)) ^^^ (S 18 (cl v5))) &&& v1) = 0 → PW l x g shM m_X12_tellsAll (Qi x g shM K) 19 [(0, .ref (g.ad 0)), (1, .int v1), (2, .int v2), (3, .int (nI 1)), (4, .int v4), (5, .int (v5 + (nI 1)))] [] S))))))))))) : PW l x g shM m_X12_tellsAll (Qi x g shM K) 19 [(0, .ref (g.ad 0)), (1, .int v1), (2, .int v2), (3, .int v3), (4, .int v4), (5, .int v5)] [] S := by
  refine r_iload ok 5 dX12_tellsAll_19 rfl ?_
  refine r_iload ok 4 dX12_tellsAll_21 rfl ?_
  refine r_icmp_ge ok 73 dX12_tellsAll_23 (by decide) ⟨fun c => ?_, fun c => ?_⟩
  · have h := h.1 c
    refine r_iinc ok 4 (v4 + (nI 1)) [(4, .int (v4 + (nI 1))), (0, .ref (g.ad 0)), (1, .int v1), (2, .int v2), (3, .int v3), (5, .int v5)] dX12_tellsAll_73 rfl rfl (by decide) rfl ?_
    refine r_goto ok 5 dX12_tellsAll_76 (by decide) ?_
    exact r_sub [1, 2, 3, 4, 0] _ rfl h
  · have h := h.2 c
    refine r_iload_n ok 3 dX12_tellsAll_26 rfl ?_
    refine r_if_eq ok 73 dX12_tellsAll_27 (by decide) ⟨fun c => ?_, fun c => ?_⟩
    · have h := h.1 c
      refine r_iinc ok 4 (v4 + (nI 1)) [(4, .int (v4 + (nI 1))), (0, .ref (g.ad 0)), (1, .int v1), (2, .int v2), (3, .int v3), (5, .int v5)] dX12_tellsAll_73 rfl rfl (by decide) rfl ?_
      refine r_goto ok 5 dX12_tellsAll_76 (by decide) ?_
      exact r_sub [1, 2, 3, 4, 0] _ rfl h
    · have h := h.2 c
      refine r_aload_n ok 0 dX12_tellsAll_30 rfl ?_
      refine r_getR ok 0 23 rfl rfl fo_X12_63 dX12_tellsAll_31 ?_
      refine r_iload ok 4 dX12_tellsAll_34 rfl ?_
      refine r_iaload ok 18 rfl dX12_tellsAll_36 h.1 ?_
      have h := h.2
      refine r_aload_n ok 0 dX12_tellsAll_37 rfl ?_
      refine r_getR ok 0 23 rfl rfl fo_X12_63 dX12_tellsAll_38 ?_
      refine r_iload ok 5 dX12_tellsAll_41 rfl ?_
      refine r_iaload ok 18 rfl dX12_tellsAll_43 h.1 ?_
      have h := h.2
      refine r_ixor ok dX12_tellsAll_44 ?_
      refine r_istore ok [(6, .int ((S 18 (cl v4)) ^^^ (S 18 (cl v5)))), (0, .ref (g.ad 0)), (1, .int v1), (2, .int v2), (3, .int v3), (4, .int v4), (5, .int v5)] dX12_tellsAll_45 (by decide) rfl ?_
      refine r_iload ok 0 dX12_tellsAll_47 rfl ?_
      refine r_iload_n ok 3 dX12_tellsAll_49 rfl ?_
      refine r_iand ok dX12_tellsAll_50 ?_
      refine r_if_eq ok 61 dX12_tellsAll_51 (by decide) ⟨fun c => ?_, fun c => ?_⟩
      · have h := h.1 c
        refine r_iconst ok (nI 1) dX12_tellsAll_61 (by decide) ?_
        refine r_goto ok 66 dX12_tellsAll_62 (by decide) ?_
        refine r_istore_n ok [(3, .int (nI 1)), (6, .int ((S 18 (cl v4)) ^^^ (S 18 (cl v5)))), (0, .ref (g.ad 0)), (1, .int v1), (2, .int v2), (4, .int v4), (5, .int v5)] dX12_tellsAll_66 (by decide) rfl ?_
        refine r_iinc ok 6 (v5 + (nI 1)) [(5, .int (v5 + (nI 1))), (3, .int (nI 1)), (6, .int ((S 18 (cl v4)) ^^^ (S 18 (cl v5)))), (0, .ref (g.ad 0)), (1, .int v1), (2, .int v2), (4, .int v4)] dX12_tellsAll_67 rfl rfl (by decide) rfl ?_
        refine r_goto ok 19 dX12_tellsAll_70 (by decide) ?_
        exact r_sub [3, 4, 5, 1, 6, 0] _ rfl h
      · have h := h.2 c
        refine r_iload ok 0 dX12_tellsAll_54 rfl ?_
        refine r_iload_n ok 2 dX12_tellsAll_56 rfl ?_
        refine r_iand ok dX12_tellsAll_57 ?_
        refine r_if_eq ok 65 dX12_tellsAll_58 (by decide) ⟨fun c => ?_, fun c => ?_⟩
        · have h := h.1 c
          refine r_iconst ok (nI 0) dX12_tellsAll_65 (by decide) ?_
          refine r_istore_n ok [(3, .int (nI 0)), (6, .int ((S 18 (cl v4)) ^^^ (S 18 (cl v5)))), (0, .ref (g.ad 0)), (1, .int v1), (2, .int v2), (4, .int v4), (5, .int v5)] dX12_tellsAll_66 (by decide) rfl ?_
          refine r_iinc ok 6 (v5 + (nI 1)) [(5, .int (v5 + (nI 1))), (3, .int (nI 0)), (6, .int ((S 18 (cl v4)) ^^^ (S 18 (cl v5)))), (0, .ref (g.ad 0)), (1, .int v1), (2, .int v2), (4, .int v4)] dX12_tellsAll_67 rfl rfl (by decide) rfl ?_
          refine r_goto ok 19 dX12_tellsAll_70 (by decide) ?_
          exact r_sub [3, 4, 5, 1, 6, 0] _ rfl h
        · have h := h.2 c
          refine r_iconst ok (nI 1) dX12_tellsAll_61 (by decide) ?_
          refine r_goto ok 66 dX12_tellsAll_62 (by decide) ?_
          refine r_istore_n ok [(3, .int (nI 1)), (6, .int ((S 18 (cl v4)) ^^^ (S 18 (cl v5)))), (0, .ref (g.ad 0)), (1, .int v1), (2, .int v2), (4, .int v4), (5, .int v5)] dX12_tellsAll_66 (by decide) rfl ?_
          refine r_iinc ok 6 (v5 + (nI 1)) [(5, .int (v5 + (nI 1))), (3, .int (nI 1)), (6, .int ((S 18 (cl v4)) ^^^ (S 18 (cl v5)))), (0, .ref (g.ad 0)), (1, .int v1), (2, .int v2), (4, .int v4)] dX12_tellsAll_67 rfl rfl (by decide) rfl ?_
          refine r_goto ok 19 dX12_tellsAll_70 (by decide) ?_
          exact r_sub [3, 4, 5, 1, 6, 0] _ rfl h
set_option maxRecDepth 10000 in
theorem s_X12_test_0 {l : Launch} {x : Cx} {g : Geo} {K : Int32 → Mem → Prop} (ok : Ok x g shM m_X12_test) (S : Mem) (h : MWv l g shM m_X12_findCommon [.ref (g.ad 0)] S (fun S1 => PW l x g shM m_X12_test (Qi x g shM K) 8 [(0, .ref (g.ad 0)), (1, .int (nI 0)), (2, .int (nI 0))] [] S1)) : PW l x g shM m_X12_test (Qi x g shM K) 0 [(0, .ref (g.ad 0))] [] S := by
  refine r_aload_n ok 0 dX12_test_0 rfl ?_
  refine r_virtv ok (rest := []) (As := []) 0 _ k_X12_test_137 rfl rfl rfl rfl (Nat.le_of_ble_eq_true rfl) dX12_test_1 (MWv.mono h (fun S1 h => ?_))
  refine r_iconst ok (nI 0) dX12_test_4 (by decide) ?_
  refine r_istore_n ok [(1, .int (nI 0)), (0, .ref (g.ad 0))] dX12_test_5 (by decide) rfl ?_
  refine r_iconst ok (nI 0) dX12_test_6 (by decide) ?_
  refine r_istore_n ok [(2, .int (nI 0)), (1, .int (nI 0)), (0, .ref (g.ad 0))] dX12_test_7 (by decide) rfl ?_
  exact r_sub [2, 1, 0] _ rfl h
set_option maxRecDepth 10000 in
theorem s_X12_test_8 {l : Launch} {x : Cx} {g : Geo} {K : Int32 → Mem → Prop} (ok : Ok x g shM m_X12_test) (v1 : Int32) (v2 : Int32) (S : Mem) (h : (((nI 10) < v2 → PW l x g shM m_X12_test (Qi x g shM K) 29 [(0, .ref (g.ad 0)), (1, .int v1), (2, .int (nI 0))] [] S) ∧ (¬ (nI 10) < v2 → (vp_in v2 11 ∧ PW l x g shM m_X12_test (Qi x g shM K) 8 [(0, .ref (g.ad 0)), (1, .int v1), (2, .int (v2 + (nI 1)))] [] (st2 S 18 (cl v2) (nI 0)))))) : PW l x g shM m_X12_test (Qi x g shM K) 8 [(0, .ref (g.ad 0)), (1, .int v1), (2, .int v2)] [] S := by
  refine r_iload_n ok 2 dX12_test_8 rfl ?_
  refine r_bipush ok (nI 10) dX12_test_9 (by decide) ?_
  refine r_icmp_gt ok 27 dX12_test_11 (by decide) ⟨fun c => ?_, fun c => ?_⟩
  · have h := h.1 c
    refine r_iconst ok (nI 0) dX12_test_27 (by decide) ?_
    refine r_istore_n ok [(2, .int (nI 0)), (0, .ref (g.ad 0)), (1, .int v1)] dX12_test_28 (by decide) rfl ?_
    exact r_sub [1, 2, 0] _ rfl h
  · have h := h.2 c
    refine r_aload_n ok 0 dX12_test_14 rfl ?_
    refine r_getR ok 0 23 rfl rfl fo_X12_63 dX12_test_15 ?_
    refine r_iload_n ok 2 dX12_test_18 rfl ?_
    refine r_iconst ok (nI 0) dX12_test_19 (by decide) ?_
    refine r_iastore ok 18 rfl dX12_test_20 h.1 ?_
    have h := h.2
    refine r_iinc ok 2 (v2 + (nI 1)) [(2, .int (v2 + (nI 1))), (0, .ref (g.ad 0)), (1, .int v1)] dX12_test_21 rfl rfl (by decide) rfl ?_
    refine r_goto ok 8 dX12_test_24 (by decide) ?_
    exact r_sub [1, 2, 0] _ rfl h
set_option maxRecDepth 10000 in
theorem s_X12_test_29 {l : Launch} {x : Cx} {g : Geo} {K : Int32 → Mem → Prop} (ok : Ok x g shM m_X12_test) (v1 : Int32) (v2 : Int32) (S : Mem) (h : (((S 0 4) ≤ v2 → PW l x g shM m_X12_test (Qi x g shM K) 96 [(0, .ref (g.ad 0)), (1, .int v1), (2, .int (-6)), (3, .int (nI 0))] [] S) ∧ (¬ (S 0 4) ≤ v2 → MWi l g shM m_X12_isRegular [.ref (g.ad 0), .int v2] S (fun r1 S1 => ((r1 = 0 → PW l x g shM m_X12_test (Qi x g shM K) 29 [(0, .ref (g.ad 0)), (1, .int v1), (2, .int (v2 + (nI 1)))] [] S1) ∧ (¬ r1 = 0 → PW l x g shM m_X12_test (Qi x g shM K) 53 [(0, .ref (g.ad 0)), (1, .int (v1 ||| (jshl (nI 1) v2))), (2, .int v2), (3, .int (nI 0))] [] S1)))))) : PW l x g shM m_X12_test (Qi x g shM K) 29 [(0, .ref (g.ad 0)), (1, .int v1), (2, .int v2)] [] S := by
  refine r_iload_n ok 2 dX12_test_29 rfl ?_
  refine r_aload_n ok 0 dX12_test_30 rfl ?_
  refine r_getI ok 0 4 rfl rfl fo_X12_105 dX12_test_31 ?_
  refine r_icmp_ge ok 91 dX12_test_34 (by decide) ⟨fun c => ?_, fun c => ?_⟩
  · have h := h.1 c
    refine r_bipush ok (-6) dX12_test_91 (by decide) ?_
    refine r_istore_n ok [(2, .int (-6)), (0, .ref (g.ad 0)), (1, .int v1)] dX12_test_93 (by decide) rfl ?_
    refine r_iconst ok (nI 0) dX12_test_94 (by decide) ?_
    refine r_istore_n ok [(3, .int (nI 0)), (2, .int (-6)), (0, .ref (g.ad 0)), (1, .int v1)] dX12_test_95 (by decide) rfl ?_
    exact r_sub [2, 3, 1, 0] _ rfl h
  · have h := h.2 c
    refine r_aload_n ok 0 dX12_test_37 rfl ?_
    refine r_iload_n ok 2 dX12_test_38 rfl ?_
    refine r_virti ok (rest := []) (As := [.int v2]) 0 _ k_X12_test_140 rfl rfl rfl rfl (Nat.le_of_ble_eq_true rfl) dX12_test_39 (MWi.mono h (fun r1 S1 h => ?_))
    refine r_if_eq ok 85 dX12_test_42 (by decide) ⟨fun c => ?_, fun c => ?_⟩
    · have h := h.1 c
      refine r_iinc ok 2 (v2 + (nI 1)) [(2, .int (v2 + (nI 1))), (0, .ref (g.ad 0)), (1, .int v1)] dX12_test_85 rfl rfl (by decide) rfl ?_
      refine r_goto ok 29 dX12_test_88 (by decide) ?_
      exact r_sub [1, 2, 0] _ rfl h
    · have h := h.2 c
      refine r_iload_n ok 1 dX12_test_45 rfl ?_
      refine r_iconst ok (nI 1) dX12_test_46 (by decide) ?_
      refine r_iload_n ok 2 dX12_test_47 rfl ?_
      refine r_ishl ok dX12_test_48 ?_
      refine r_ior ok dX12_test_49 ?_
      refine r_istore_n ok [(1, .int (v1 ||| (jshl (nI 1) v2))), (0, .ref (g.ad 0)), (2, .int v2)] dX12_test_50 (by decide) rfl ?_
      refine r_iconst ok (nI 0) dX12_test_51 (by decide) ?_
      refine r_istore_n ok [(3, .int (nI 0)), (1, .int (v1 ||| (jshl (nI 1) v2))), (0, .ref (g.ad 0)), (2, .int v2)] dX12_test_52 (by decide) rfl ?_
      exact r_sub [2, 1, 3, 0] _ rfl h
set_option maxRecDepth 10000 in
theorem s_X12_test_53 {l : Launch} {x : Cx} {g : Geo} {K : Int32 → Mem → Prop} (ok : Ok x g shM m_X12_test) (v1 : Int32) (v2 : Int32) (v3 : Int32) (S : Mem) (h : (((nI 10) ≤ v3 → PW l x g shM m_X12_test (Qi x g shM K) 29 [(0, .ref (g.ad 0)), (1, .int v1), (2, .int (v2 + (nI 1)))] [] S) ∧ (¬ (nI 10) ≤ v3 → (vp_in v3 11 ∧ MWi l g shM m_X12_signsOf [.ref (g.ad 0), .int v2] S (fun r1 S1 => (vp_in v3 11 ∧ PW l x g shM m_X12_test (Qi x g shM K) 53 [(0, .ref (g.ad 0)), (1, .int v1), (2, .int v2), (3, .int (v3 + (nI 1)))] [] (st2 S1 18 (cl v3) ((S 18 (cl v3)) ||| (jshl ((jshr r1 v3) &&& (nI 1)) v2))))))))) : PW l x g shM m_X12_test (Qi x g shM K) 53 [(0, .ref (g.ad 0)), (1, .int v1), (2, .int v2), (3, .int v3)] [] S := by
  refine r_iload_n ok 3 dX12_test_53 rfl ?_
  refine r_bipush ok (nI 10) dX12_test_54 (by decide) ?_
  refine r_icmp_ge ok 85 dX12_test_56 (by decide) ⟨fun c => ?_, fun c => ?_⟩
  · have h := h.1 c
    refine r_iinc ok 2 (v2 + (nI 1)) [(2, .int (v2 + (nI 1))), (0, .ref (g.ad 0)), (1, .int v1), (3, .int v3)] dX12_test_85 rfl rfl (by decide) rfl ?_
    refine r_goto ok 29 dX12_test_88 (by decide) ?_
    exact r_sub [1, 2, 0] _ rfl h
  · have h := h.2 c
    refine r_aload_n ok 0 dX12_test_59 rfl ?_
    refine r_getR ok 0 23 rfl rfl fo_X12_63 dX12_test_60 ?_
    refine r_iload_n ok 3 dX12_test_63 rfl ?_
    refine r_dup2 ok dX12_test_64 rfl rfl ?_
    refine r_iaload ok 18 rfl dX12_test_65 h.1 ?_
    have h := h.2
    refine r_aload_n ok 0 dX12_test_66 rfl ?_
    refine r_iload_n ok 2 dX12_test_67 rfl ?_
    refine r_virti ok (rest := [.int (S 18 (cl v3)), .int v3, .ref (g.ad 18)]) (As := [.int v2]) 0 _ k_X12_test_133 rfl rfl rfl rfl (Nat.le_of_ble_eq_true rfl) dX12_test_68 (MWi.mono h (fun r1 S1 h => ?_))
    refine r_iload_n ok 3 dX12_test_71 rfl ?_
    refine r_ishr ok dX12_test_72 ?_
    refine r_iconst ok (nI 1) dX12_test_73 (by decide) ?_
    refine r_iand ok dX12_test_74 ?_
    refine r_iload_n ok 2 dX12_test_75 rfl ?_
    refine r_ishl ok dX12_test_76 ?_
    refine r_ior ok dX12_test_77 ?_
    refine r_iastore ok 18 rfl dX12_test_78 h.1 ?_
    have h := h.2
    refine r_iinc ok 3 (v3 + (nI 1)) [(3, .int (v3 + (nI 1))), (0, .ref (g.ad 0)), (1, .int v1), (2, .int v2)] dX12_test_79 rfl rfl (by decide) rfl ?_
    refine r_goto ok 53 dX12_test_82 (by decide) ?_
    exact r_sub [1, 2, 3, 0] _ rfl h
set_option maxRecDepth 10000 in
theorem s_X12_test_96 {l : Launch} {x : Cx} {g : Geo} {K : Int32 → Mem → Prop} (ok : Ok x g shM m_X12_test) (v1 : Int32) (v2 : Int32) (v3 : Int32) (S : Mem) (h : ((v1 < v3 → K v2 S) ∧ (¬ v1 < v3 → ((¬ (v3 &&& (v1 ^^^ (-1))) = 0 → PW l x g shM m_X12_test (Qi x g shM K) 96 [(0, .ref (g.ad 0)), (1, .int v1), (2, .int v2), (3, .int (v3 + (nI 1)))] [] S) ∧ ((v3 &&& (v1 ^^^ (-1))) = 0 → ((v2 < 0 → MWi l g shM m_X12_tellsAll [.ref (g.ad 0), .int v3, .int v1] S (fun r1 S1 => ((r1 = 0 → PW l x g shM m_X12_test (Qi x g shM K) 96 [(0, .ref (g.ad 0)), (1, .int v1), (2, .int v2), (3, .int (v3 + (nI 1)))] [] S1) ∧ (¬ r1 = 0 → PW l x g shM m_X12_test (Qi x g shM K) 96 [(0, .ref (g.ad 0)), (1, .int v1), (2, .int v3), (3, .int (v3 + (nI 1)))] [] S1)))) ∧ (¬ v2 < 0 → MWi l g shM m_X12_ones [.int v3] S (fun r2 S2 => MWi l g shM m_X12_ones [.int v2] S2 (fun r3 S3 => ((r3 ≤ r2 → PW l x g shM m_X12_test (Qi x g shM K) 96 [(0, .ref (g.ad 0)), (1, .int v1), (2, .int v2), (3, .int (v3 + (nI 1)))] [] S3) ∧ (¬ r3 ≤ r2 → MWi l g shM m_X12_tellsAll [.ref (g.ad 0), .int v3, .int v1] S3 (fun r4 S4 => ((r4 = 0 → PW l x g shM m_X12_test (Qi x g shM K) 96 [(0, .ref (g.ad 0)), (1, .int v1), (2, .int v2), (3, .int (v3 + (nI 1)))] [] S4) ∧ (¬ r4 = 0 → PW l x g shM m_X12_test (Qi x g shM K) 96 [(0, .ref (g.ad 0)), (1, .int v1), (2, .int v3), (3, .int (v3 + (nI 1)))] [] S4)))))))))))))) : PW l x g shM m_X12_test (Qi x g shM K) 96 [(0, .ref (g.ad 0)), (1, .int v1), (2, .int v2), (3, .int v3)] [] S := by
  refine r_iload_n ok 3 dX12_test_96 rfl ?_
  refine r_iload_n ok 1 dX12_test_97 rfl ?_
  refine r_icmp_gt ok 157 dX12_test_98 (by decide) ⟨fun c => ?_, fun c => ?_⟩
  · have h := h.1 c
    refine r_iload_n ok 2 dX12_test_157 rfl ?_
    exact r_iret ok rfl dX12_test_158 h
  · have h := h.2 c
    refine r_iload_n ok 3 dX12_test_101 rfl ?_
    refine r_iload_n ok 1 dX12_test_102 rfl ?_
    refine r_iconst ok (-1) dX12_test_103 (by decide) ?_
    refine r_ixor ok dX12_test_104 ?_
    refine r_iand ok dX12_test_105 ?_
    refine r_if_ne ok 128 dX12_test_106 (by decide) ⟨fun c => ?_, fun c => ?_⟩
    · have h := h.1 c
      refine r_iconst ok (nI 0) dX12_test_128 (by decide) ?_
      refine r_istore ok [(4, .int (nI 0)), (0, .ref (g.ad 0)), (1, .int v1), (2, .int v2), (3, .int v3)] dX12_test_129 (by decide) rfl ?_
      refine r_iload ok 0 dX12_test_131 rfl ?_
      refine r_if_eq ok 149 dX12_test_133 (by decide) ⟨fun _ => ?_, fun c => absurd c (by decide)⟩
      refine r_iload_n ok 3 dX12_test_149 rfl ?_
      refine r_istore_n ok [(2, .int v2), (4, .int (nI 0)), (0, .ref (g.ad 0)), (1, .int v1), (3, .int v3)] dX12_test_150 (by decide) rfl ?_
      refine r_iinc ok 4 (v3 + (nI 1)) [(3, .int (v3 + (nI 1))), (2, .int v2), (4, .int (nI 0)), (0, .ref (g.ad 0)), (1, .int v1)] dX12_test_151 rfl rfl (by decide) rfl ?_
      refine r_goto ok 96 dX12_test_154 (by decide) ?_
      exact r_sub [3, 4, 1, 0] _ rfl h
    · have h := h.2 c
      refine r_iload_n ok 2 dX12_test_109 rfl ?_
      refine r_if_lt ok 124 dX12_test_110 (by decide) ⟨fun c => ?_, fun c => ?_⟩
      · have h := h.1 c
        refine r_iconst ok (nI 1) dX12_test_124 (by decide) ?_
        refine r_goto ok 129 dX12_test_125 (by decide) ?_
        refine r_istore ok [(4, .int (nI 1)), (0, .ref (g.ad 0)), (1, .int v1), (2, .int v2), (3, .int v3)] dX12_test_129 (by decide) rfl ?_
        refine r_iload ok 0 dX12_test_131 rfl ?_
        refine r_if_eq ok 149 dX12_test_133 (by decide) ⟨fun c => absurd c (by decide), fun _ => ?_⟩
        refine r_aload_n ok 1 dX12_test_136 rfl ?_
        refine r_iload_n ok 4 dX12_test_137 rfl ?_
        refine r_iload_n ok 2 dX12_test_138 rfl ?_
        refine r_virti ok (rest := []) (As := [.int v3, .int v1]) 0 _ k_X12_test_241 rfl rfl rfl rfl (Nat.le_of_ble_eq_true rfl) dX12_test_139 (MWi.mono h (fun r1 S1 h => ?_))
        refine r_if_eq ok 149 dX12_test_142 (by decide) ⟨fun c => ?_, fun c => ?_⟩
        · have h := h.1 c
          refine r_iload_n ok 3 dX12_test_149 rfl ?_
          refine r_istore_n ok [(2, .int v2), (4, .int (nI 1)), (0, .ref (g.ad 0)), (1, .int v1), (3, .int v3)] dX12_test_150 (by decide) rfl ?_
          refine r_iinc ok 4 (v3 + (nI 1)) [(3, .int (v3 + (nI 1))), (2, .int v2), (4, .int (nI 1)), (0, .ref (g.ad 0)), (1, .int v1)] dX12_test_151 rfl rfl (by decide) rfl ?_
          refine r_goto ok 96 dX12_test_154 (by decide) ?_
          exact r_sub [3, 4, 1, 0] _ rfl h
        · have h := h.2 c
          refine r_iload_n ok 4 dX12_test_145 rfl ?_
          refine r_goto ok 150 dX12_test_146 (by decide) ?_
          refine r_istore_n ok [(2, .int v3), (4, .int (nI 1)), (0, .ref (g.ad 0)), (1, .int v1), (3, .int v3)] dX12_test_150 (by decide) rfl ?_
          refine r_iinc ok 4 (v3 + (nI 1)) [(3, .int (v3 + (nI 1))), (2, .int v3), (4, .int (nI 1)), (0, .ref (g.ad 0)), (1, .int v1)] dX12_test_151 rfl rfl (by decide) rfl ?_
          refine r_goto ok 96 dX12_test_154 (by decide) ?_
          exact r_sub [3, 4, 1, 0] _ rfl h
      · have h := h.2 c
        refine r_iload_n ok 3 dX12_test_113 rfl ?_
        refine r_stati ok (rest := []) (As := [.int v3]) _ k_X12_test_211 rfl rfl (Nat.le_of_ble_eq_true rfl) dX12_test_114 (MWi.mono h (fun r2 S2 h => ?_))
        refine r_iload_n ok 2 dX12_test_117 rfl ?_
        refine r_stati ok (rest := [.int r2]) (As := [.int v2]) _ k_X12_test_211 rfl rfl (Nat.le_of_ble_eq_true rfl) dX12_test_118 (MWi.mono h (fun r3 S3 h => ?_))
        refine r_icmp_ge ok 128 dX12_test_121 (by decide) ⟨fun c => ?_, fun c => ?_⟩
        · have h := h.1 c
          refine r_iconst ok (nI 0) dX12_test_128 (by decide) ?_
          refine r_istore ok [(4, .int (nI 0)), (0, .ref (g.ad 0)), (1, .int v1), (2, .int v2), (3, .int v3)] dX12_test_129 (by decide) rfl ?_
          refine r_iload ok 0 dX12_test_131 rfl ?_
          refine r_if_eq ok 149 dX12_test_133 (by decide) ⟨fun _ => ?_, fun c => absurd c (by decide)⟩
          refine r_iload_n ok 3 dX12_test_149 rfl ?_
          refine r_istore_n ok [(2, .int v2), (4, .int (nI 0)), (0, .ref (g.ad 0)), (1, .int v1), (3, .int v3)] dX12_test_150 (by decide) rfl ?_
          refine r_iinc ok 4 (v3 + (nI 1)) [(3, .int (v3 + (nI 1))), (2, .int v2), (4, .int (nI 0)), (0, .ref (g.ad 0)), (1, .int v1)] dX12_test_151 rfl rfl (by decide) rfl ?_
          refine r_goto ok 96 dX12_test_154 (by decide) ?_
          exact r_sub [3, 4, 1, 0] _ rfl h
        · have h := h.2 c
          refine r_iconst ok (nI 1) dX12_test_124 (by decide) ?_
          refine r_goto ok 129 dX12_test_125 (by decide) ?_
          refine r_istore ok [(4, .int (nI 1)), (0, .ref (g.ad 0)), (1, .int v1), (2, .int v2), (3, .int v3)] dX12_test_129 (by decide) rfl ?_
          refine r_iload ok 0 dX12_test_131 rfl ?_
          refine r_if_eq ok 149 dX12_test_133 (by decide) ⟨fun c => absurd c (by decide), fun _ => ?_⟩
          refine r_aload_n ok 1 dX12_test_136 rfl ?_
          refine r_iload_n ok 4 dX12_test_137 rfl ?_
          refine r_iload_n ok 2 dX12_test_138 rfl ?_
          refine r_virti ok (rest := []) (As := [.int v3, .int v1]) 0 _ k_X12_test_241 rfl rfl rfl rfl (Nat.le_of_ble_eq_true rfl) dX12_test_139 (MWi.mono h (fun r4 S4 h => ?_))
          refine r_if_eq ok 149 dX12_test_142 (by decide) ⟨fun c => ?_, fun c => ?_⟩
          · have h := h.1 c
            refine r_iload_n ok 3 dX12_test_149 rfl ?_
            refine r_istore_n ok [(2, .int v2), (4, .int (nI 1)), (0, .ref (g.ad 0)), (1, .int v1), (3, .int v3)] dX12_test_150 (by decide) rfl ?_
            refine r_iinc ok 4 (v3 + (nI 1)) [(3, .int (v3 + (nI 1))), (2, .int v2), (4, .int (nI 1)), (0, .ref (g.ad 0)), (1, .int v1)] dX12_test_151 rfl rfl (by decide) rfl ?_
            refine r_goto ok 96 dX12_test_154 (by decide) ?_
            exact r_sub [3, 4, 1, 0] _ rfl h
          · have h := h.2 c
            refine r_iload_n ok 4 dX12_test_145 rfl ?_
            refine r_goto ok 150 dX12_test_146 (by decide) ?_
            refine r_istore_n ok [(2, .int v3), (4, .int (nI 1)), (0, .ref (g.ad 0)), (1, .int v1), (3, .int v3)] dX12_test_150 (by decide) rfl ?_
            refine r_iinc ok 4 (v3 + (nI 1)) [(3, .int (v3 + (nI 1))), (2, .int v3), (4, .int (nI 1)), (0, .ref (g.ad 0)), (1, .int v1)] dX12_test_151 rfl rfl (by decide) rfl ?_
            refine r_goto ok 96 dX12_test_154 (by decide) ?_
            exact r_sub [3, 4, 1, 0] _ rfl h
set_option maxRecDepth 10000 in
theorem s_X12_signFor_0 {l : Launch} {x : Cx} {g : Geo} {K : Int32 → Mem → Prop} (ok : Ok x g shM m_X12_signFor) (v1 : Int32) (S : Mem) (h : PW l x g shM m_X12_signFor (Qi x g shM K) 4 [(0, .ref (g.ad 0)), (1, .int v1), (2, .int (nI 0)), (3, .int (nI 1))] [] S) : PW l x g shM m_X12_signFor (Qi x g shM K) 0 [(0, .ref (g.ad 0)), (1, .int v1)] [] S := by
  refine r_iconst ok (nI 0) dX12_signFor_0 (by decide) ?_
  refine r_istore_n ok [(2, .int (nI 0)), (0, .ref (g.ad 0)), (1, .int v1)] dX12_signFor_1 (by decide) rfl ?_
  refine r_iconst ok (nI 1) dX12_signFor_2 (by decide) ?_
  refine r_istore_n ok [(3, .int (nI 1)), (2, .int (nI 0)), (0, .ref (g.ad 0)), (1, .int v1)] dX12_signFor_3 (by decide) rfl ?_
  exact r_sub [2, 3, 1, 0] _ rfl h
set_option maxRecDepth 10000 in
theorem s_X12_signFor_4 {l : Launch} {x : Cx} {g : Geo} {K : Int32 → Mem → Prop} (ok : Ok x g shM m_X12_signFor) (v1 : Int32) (v2 : Int32) (v3 : Int32) (S : Mem) (h : (((nI 10) ≤ v3 → K v2 S) ∧ (¬ (nI 10) ≤ v3 → (vp_in (((nI 10) * v3) + v1) 100 ∧ (vp_in (((nI 10) * v2) + v1) 100 ∧ (((S 6 (cl (((nI 10) * v3) + v1))) ≤ (S 6 (cl (((nI 10) * v2) + v1))) → PW l x g shM m_X12_signFor (Qi x g shM K) 4 [(0, .ref (g.ad 0)), (1, .int v1), (2, .int v2), (3, .int (v3 + (nI 1)))] [] S) ∧ (¬ (S 6 (cl (((nI 10) * v3) + v1))) ≤ (S 6 (cl (((nI 10) * v2) + v1))) → PW l x g shM m_X12_signFor (Qi x g shM K) 4 [(0, .ref (g.ad 0)), (1, .int v1), (2, .int v3), (3, .int (v3 + (nI 1)))] [] S))))))) : PW l x g shM m_X12_signFor (Qi x g shM K) 4 [(0, .ref (g.ad 0)), (1, .int v1), (2, .int v2), (3, .int v3)] [] S := by
  refine r_iload_n ok 3 dX12_signFor_4 rfl ?_
  refine r_bipush ok (nI 10) dX12_signFor_5 (by decide) ?_
  refine r_icmp_ge ok 47 dX12_signFor_7 (by decide) ⟨fun c => ?_, fun c => ?_⟩
  · have h := h.1 c
    refine r_iload_n ok 2 dX12_signFor_47 rfl ?_
    exact r_iret ok rfl dX12_signFor_48 h
  · have h := h.2 c
    refine r_aload_n ok 0 dX12_signFor_10 rfl ?_
    refine r_getR ok 0 8 rfl rfl fo_X12_25 dX12_signFor_11 ?_
    refine r_bipush ok (nI 10) dX12_signFor_14 (by decide) ?_
    refine r_iload_n ok 3 dX12_signFor_16 rfl ?_
    refine r_imul ok dX12_signFor_17 ?_
    refine r_iload_n ok 1 dX12_signFor_18 rfl ?_
    refine r_iadd ok dX12_signFor_19 ?_
    refine r_iaload ok 6 rfl dX12_signFor_20 h.1 ?_
    have h := h.2
    refine r_aload_n ok 0 dX12_signFor_21 rfl ?_
    refine r_getR ok 0 8 rfl rfl fo_X12_25 dX12_signFor_22 ?_
    refine r_bipush ok (nI 10) dX12_signFor_25 (by decide) ?_
    refine r_iload_n ok 2 dX12_signFor_27 rfl ?_
    refine r_imul ok dX12_signFor_28 ?_
    refine r_iload_n ok 1 dX12_signFor_29 rfl ?_
    refine r_iadd ok dX12_signFor_30 ?_
    refine r_iaload ok 6 rfl dX12_signFor_31 h.1 ?_
    have h := h.2
    refine r_icmp_le ok 39 dX12_signFor_32 (by decide) ⟨fun c => ?_, fun c => ?_⟩
    · have h := h.1 c
      refine r_iload_n ok 2 dX12_signFor_39 rfl ?_
      refine r_istore_n ok [(2, .int v2), (0, .ref (g.ad 0)), (1, .int v1), (3, .int v3)] dX12_signFor_40 (by decide) rfl ?_
      refine r_iinc ok 3 (v3 + (nI 1)) [(3, .int (v3 + (nI 1))), (2, .int v2), (0, .ref (g.ad 0)), (1, .int v1)] dX12_signFor_41 rfl rfl (by decide) rfl ?_
      refine r_goto ok 4 dX12_signFor_44 (by decide) ?_
      exact r_sub [2, 3, 1, 0] _ rfl h
    · have h := h.2 c
      refine r_iload_n ok 3 dX12_signFor_35 rfl ?_
      refine r_goto ok 40 dX12_signFor_36 (by decide) ?_
      refine r_istore_n ok [(2, .int v3), (0, .ref (g.ad 0)), (1, .int v1), (3, .int v3)] dX12_signFor_40 (by decide) rfl ?_
      refine r_iinc ok 3 (v3 + (nI 1)) [(3, .int (v3 + (nI 1))), (2, .int v3), (0, .ref (g.ad 0)), (1, .int v1)] dX12_signFor_41 rfl rfl (by decide) rfl ?_
      refine r_goto ok 4 dX12_signFor_44 (by decide) ?_
      exact r_sub [2, 3, 1, 0] _ rfl h
set_option maxRecDepth 10000 in
theorem s_X12_respeltAt_0 {l : Launch} {x : Cx} {g : Geo} {K : Int32 → Mem → Prop} (ok : Ok x g shM m_X12_respeltAt) (v1 : Int32) (v2 : Int32) (S : Mem) (h : (vp_in (((nI 5) * v1) + v2) 60 ∧ MWi l g shM m_X12_signFor [.ref (g.ad 0), .int (S 2 (cl (((nI 5) * v1) + v2)))] S (fun r1 S1 => K r1 S1))) : PW l x g shM m_X12_respeltAt (Qi x g shM K) 0 [(0, .ref (g.ad 0)), (1, .int v1), (2, .int v2)] [] S := by
  refine r_aload_n ok 0 dX12_respeltAt_0 rfl ?_
  refine r_aload_n ok 0 dX12_respeltAt_1 rfl ?_
  refine r_getR ok 0 1 rfl rfl fo_X12_13 dX12_respeltAt_2 ?_
  refine r_iconst ok (nI 5) dX12_respeltAt_5 (by decide) ?_
  refine r_iload_n ok 1 dX12_respeltAt_6 rfl ?_
  refine r_imul ok dX12_respeltAt_7 ?_
  refine r_iload_n ok 2 dX12_respeltAt_8 rfl ?_
  refine r_iadd ok dX12_respeltAt_9 ?_
  refine r_iaload ok 2 rfl dX12_respeltAt_10 h.1 ?_
  have h := h.2
  refine r_virti ok (rest := []) (As := [.int (S 2 (cl (((nI 5) * v1) + v2)))]) 0 _ k_X12_respeltAt_244 rfl rfl rfl rfl (Nat.le_of_ble_eq_true rfl) dX12_respeltAt_11 (MWi.mono h (fun r1 S1 h => ?_))
  exact r_iret ok rfl dX12_respeltAt_14 h
set_option maxRecDepth 10000 in
theorem s_X12_respelt_0 {l : Launch} {x : Cx} {g : Geo} {K : Int32 → Mem → Prop} (ok : Ok x g shM m_X12_respelt) (v1 : Int32) (v2 : Int32) (S : Mem) (h : MWi l g shM m_X12_isWord [.ref (g.ad 0), .int v1] S (fun r1 S1 => ((¬ r1 = 0 → MWi l g shM m_X12_in [.long v2.toInt64, .long (lN 0), .long (lN 4)] S1 (fun r2 S2 => ((¬ r2 = 0 → MWv l g shM m_X12_findCommon [.ref (g.ad 0)] S2 (fun S3 => (vp_in v1 12 ∧ (((S3 3 (cl v1)) ≤ v2 → K (-6) S3) ∧ (¬ (S3 3 (cl v1)) ≤ v2 → MWi l g shM m_X12_respeltAt [.ref (g.ad 0), .int v1, .int v2] S3 (fun r4 S4 => K r4 S4)))))) ∧ (r2 = 0 → K (-2) S2)))) ∧ (r1 = 0 → K (-1) S1)))) : PW l x g shM m_X12_respelt (Qi x g shM K) 0 [(0, .ref (g.ad 0)), (1, .int v1), (2, .int v2)] [] S := by
  refine r_aload_n ok 0 dX12_respelt_0 rfl ?_
  refine r_iload_n ok 1 dX12_respelt_1 rfl ?_
  refine r_virti ok (rest := []) (As := [.int v1]) 0 _ k_X12_respelt_122 rfl rfl rfl rfl (Nat.le_of_ble_eq_true rfl) dX12_respelt_2 (MWi.mono h (fun r1 S1 h => ?_))
  refine r_if_ne ok 10 dX12_respelt_5 (by decide) ⟨fun c => ?_, fun c => ?_⟩
  · have h := h.1 c
    refine r_iload_n ok 2 dX12_respelt_10 rfl ?_
    refine r_i2l ok dX12_respelt_11 ?_
    refine r_lconst ok (lN 0) dX12_respelt_12 (by decide) ?_
    refine r_ldc2 ok (lN 4) dX12_respelt_13 (gt_in (List.mem_of_getElem? (i := 1289) (by decide +kernel)) rfl) ?_
    refine r_stati ok (rest := []) (As := [.long v2.toInt64, .long (lN 0), .long (lN 4)]) _ k_X12_respelt_80 rfl rfl (Nat.le_of_ble_eq_true rfl) dX12_respelt_16 (MWi.mono h (fun r2 S2 h => ?_))
    refine r_if_ne ok 25 dX12_respelt_19 (by decide) ⟨fun c => ?_, fun c => ?_⟩
    · have h := h.1 c
      refine r_aload_n ok 0 dX12_respelt_25 rfl ?_
      refine r_virtv ok (rest := []) (As := []) 0 _ k_X12_respelt_137 rfl rfl rfl rfl (Nat.le_of_ble_eq_true rfl) dX12_respelt_26 (MWv.mono h (fun S3 h => ?_))
      refine r_iload_n ok 2 dX12_respelt_29 rfl ?_
      refine r_aload_n ok 0 dX12_respelt_30 rfl ?_
      refine r_getR ok 0 2 rfl rfl fo_X12_16 dX12_respelt_31 ?_
      refine r_iload_n ok 1 dX12_respelt_34 rfl ?_
      refine r_iaload ok 3 rfl dX12_respelt_35 h.1 ?_
      have h := h.2
      refine r_icmp_ge ok 48 dX12_respelt_36 (by decide) ⟨fun c => ?_, fun c => ?_⟩
      · have h := h.1 c
        refine r_bipush ok (-6) dX12_respelt_48 (by decide) ?_
        exact r_iret ok rfl dX12_respelt_50 h
      · have h := h.2 c
        refine r_aload_n ok 0 dX12_respelt_39 rfl ?_
        refine r_iload_n ok 1 dX12_respelt_40 rfl ?_
        refine r_iload_n ok 2 dX12_respelt_41 rfl ?_
        refine r_virti ok (rest := []) (As := [.int v1, .int v2]) 0 _ k_X12_respelt_249 rfl rfl rfl rfl (Nat.le_of_ble_eq_true rfl) dX12_respelt_42 (MWi.mono h (fun r4 S4 h => ?_))
        refine r_goto ok 50 dX12_respelt_45 (by decide) ?_
        exact r_iret ok rfl dX12_respelt_50 h
    · have h := h.2 c
      refine r_bipush ok (-2) dX12_respelt_22 (by decide) ?_
      exact r_iret ok rfl dX12_respelt_24 h
  · have h := h.2 c
    refine r_iconst ok (-1) dX12_respelt_8 (by decide) ?_
    exact r_iret ok rfl dX12_respelt_9 h
set_option maxRecDepth 10000 in
theorem s_X12_clash_0 {l : Launch} {x : Cx} {g : Geo} {K : Int32 → Mem → Prop} (ok : Ok x g shM m_X12_clash) (v1 : Int32) (v2 : Int32) (S : Mem) (h : (vp_in v1 12 ∧ (vp_in v2 12 ∧ ((¬ (S 3 (cl v1)) = (S 3 (cl v2)) → PW l x g shM m_X12_clash (Qi x g shM K) 24 [(0, .ref (g.ad 0)), (1, .int v1), (2, .int v2), (3, .int (nI 0)), (4, .int (nI 0))] [] S) ∧ ((S 3 (cl v1)) = (S 3 (cl v2)) → PW l x g shM m_X12_clash (Qi x g shM K) 24 [(0, .ref (g.ad 0)), (1, .int v1), (2, .int v2), (3, .int (nI 1)), (4, .int (nI 0))] [] S))))) : PW l x g shM m_X12_clash (Qi x g shM K) 0 [(0, .ref (g.ad 0)), (1, .int v1), (2, .int v2)] [] S := by
  refine r_aload_n ok 0 dX12_clash_0 rfl ?_
  refine r_getR ok 0 2 rfl rfl fo_X12_16 dX12_clash_1 ?_
  refine r_iload_n ok 1 dX12_clash_4 rfl ?_
  refine r_iaload ok 3 rfl dX12_clash_5 h.1 ?_
  have h := h.2
  refine r_aload_n ok 0 dX12_clash_6 rfl ?_
  refine r_getR ok 0 2 rfl rfl fo_X12_16 dX12_clash_7 ?_
  refine r_iload_n ok 2 dX12_clash_10 rfl ?_
  refine r_iaload ok 3 rfl dX12_clash_11 h.1 ?_
  have h := h.2
  refine r_icmp_ne ok 19 dX12_clash_12 (by decide) ⟨fun c => ?_, fun c => ?_⟩
  · have h := h.1 c
    refine r_iconst ok (nI 0) dX12_clash_19 (by decide) ?_
    refine r_istore_n ok [(3, .int (nI 0)), (0, .ref (g.ad 0)), (1, .int v1), (2, .int v2)] dX12_clash_20 (by decide) rfl ?_
    refine r_iconst ok (nI 0) dX12_clash_21 (by decide) ?_
    refine r_istore ok [(4, .int (nI 0)), (3, .int (nI 0)), (0, .ref (g.ad 0)), (1, .int v1), (2, .int v2)] dX12_clash_22 (by decide) rfl ?_
    exact r_sub [2, 3, 4, 1, 0] _ rfl h
  · have h := h.2 c
    refine r_iconst ok (nI 1) dX12_clash_15 (by decide) ?_
    refine r_goto ok 20 dX12_clash_16 (by decide) ?_
    refine r_istore_n ok [(3, .int (nI 1)), (0, .ref (g.ad 0)), (1, .int v1), (2, .int v2)] dX12_clash_20 (by decide) rfl ?_
    refine r_iconst ok (nI 0) dX12_clash_21 (by decide) ?_
    refine r_istore ok [(4, .int (nI 0)), (3, .int (nI 1)), (0, .ref (g.ad 0)), (1, .int v1), (2, .int v2)] dX12_clash_22 (by decide) rfl ?_
    exact r_sub [2, 3, 4, 1, 0] _ rfl h
set_option maxRecDepth 10000 in
theorem s_X12_clash_24 {l : Launch} {x : Cx} {g : Geo} {K : Int32 → Mem → Prop} (ok : Ok x g shM m_X12_clash) (v1 : Int32) (v2 : Int32) (v3 : Int32) (v4 : Int32) (S : Mem) (h : (vp_in v1 12 ∧ (((S 3 (cl v1)) ≤ v4 → (narrow .boolean (.int v3) = .int v3 ∧ K v3 S)) ∧ (¬ (S 3 (cl v1)) ≤ v4 → ((v3 = 0 → (narrow .boolean (.int v3) = .int v3 ∧ K v3 S)) ∧ (¬ v3 = 0 → MWi l g shM m_X12_respeltAt [.ref (g.ad 0), .int v1, .int v4] S (fun r1 S1 => MWi l g shM m_X12_respeltAt [.ref (g.ad 0), .int v2, .int v4] S1 (fun r2 S2 => ((¬ r1 = r2 → PW l x g shM m_X12_clash (Qi x g shM K) 24 [(0, .ref (g.ad 0)), (1, .int v1), (2, .int v2), (3, .int (nI 0)), (4, .int (v4 + (nI 1)))] [] S2) ∧ (r1 = r2 → PW l x g shM m_X12_clash (Qi x g shM K) 24 [(0, .ref (g.ad 0)), (1, .int v1), (2, .int v2), (3, .int (nI 1)), (4, .int (v4 + (nI 1)))] [] S2)))))))))) : PW l x g shM m_X12_clash (Qi x g shM K) 24 [(0, .ref (g.ad 0)), (1, .int v1), (2, .int v2), (3, .int v3), (4, .int v4)] [] S := by
  refine r_iload ok 4 dX12_clash_24 rfl ?_
  refine r_aload_n ok 0 dX12_clash_26 rfl ?_
  refine r_getR ok 0 2 rfl rfl fo_X12_16 dX12_clash_27 ?_
  refine r_iload_n ok 1 dX12_clash_30 rfl ?_
  refine r_iaload ok 3 rfl dX12_clash_31 h.1 ?_
  have h := h.2
  refine r_icmp_ge ok 68 dX12_clash_32 (by decide) ⟨fun c => ?_, fun c => ?_⟩
  · have h := h.1 c
    refine r_iload_n ok 3 dX12_clash_68 rfl ?_
    exact r_zret ok rfl dX12_clash_69 h
  · have h := h.2 c
    refine r_iload_n ok 3 dX12_clash_35 rfl ?_
    refine r_if_eq ok 68 dX12_clash_36 (by decide) ⟨fun c => ?_, fun c => ?_⟩
    · have h := h.1 c
      refine r_iload_n ok 3 dX12_clash_68 rfl ?_
      exact r_zret ok rfl dX12_clash_69 h
    · have h := h.2 c
      refine r_aload_n ok 0 dX12_clash_39 rfl ?_
      refine r_iload_n ok 1 dX12_clash_40 rfl ?_
      refine r_iload ok 4 dX12_clash_41 rfl ?_
      refine r_virti ok (rest := []) (As := [.int v1, .int v4]) 0 _ k_X12_clash_249 rfl rfl rfl rfl (Nat.le_of_ble_eq_true rfl) dX12_clash_43 (MWi.mono h (fun r1 S1 h => ?_))
      refine r_aload_n ok 0 dX12_clash_46 rfl ?_
      refine r_iload_n ok 2 dX12_clash_47 rfl ?_
      refine r_iload ok 4 dX12_clash_48 rfl ?_
      refine r_virti ok (rest := [.int r1]) (As := [.int v2, .int v4]) 0 _ k_X12_clash_249 rfl rfl rfl rfl (Nat.le_of_ble_eq_true rfl) dX12_clash_50 (MWi.mono h (fun r2 S2 h => ?_))
      refine r_icmp_ne ok 60 dX12_clash_53 (by decide) ⟨fun c => ?_, fun c => ?_⟩
      · have h := h.1 c
        refine r_iconst ok (nI 0) dX12_clash_60 (by decide) ?_
        refine r_istore_n ok [(3, .int (nI 0)), (0, .ref (g.ad 0)), (1, .int v1), (2, .int v2), (4, .int v4)] dX12_clash_61 (by decide) rfl ?_
        refine r_iinc ok 4 (v4 + (nI 1)) [(4, .int (v4 + (nI 1))), (3, .int (nI 0)), (0, .ref (g.ad 0)), (1, .int v1), (2, .int v2)] dX12_clash_62 rfl rfl (by decide) rfl ?_
        refine r_goto ok 24 dX12_clash_65 (by decide) ?_
        exact r_sub [2, 3, 4, 1, 0] _ rfl h
      · have h := h.2 c
        refine r_iconst ok (nI 1) dX12_clash_56 (by decide) ?_
        refine r_goto ok 61 dX12_clash_57 (by decide) ?_
        refine r_istore_n ok [(3, .int (nI 1)), (0, .ref (g.ad 0)), (1, .int v1), (2, .int v2), (4, .int v4)] dX12_clash_61 (by decide) rfl ?_
        refine r_iinc ok 4 (v4 + (nI 1)) [(4, .int (v4 + (nI 1))), (3, .int (nI 1)), (0, .ref (g.ad 0)), (1, .int v1), (2, .int v2)] dX12_clash_62 rfl rfl (by decide) rfl ?_
        refine r_goto ok 24 dX12_clash_65 (by decide) ?_
        exact r_sub [2, 3, 4, 1, 0] _ rfl h
set_option maxRecDepth 10000 in
theorem s_X12_price_0 {l : Launch} {x : Cx} {g : Geo} {K : Int32 → Mem → Prop} (ok : Ok x g shM m_X12_price) (v1 : Int32) (S : Mem) (h : MWi l g shM m_X12_isEnd [.int v1] S (fun r1 S1 => ((¬ r1 = 0 → MWv l g shM m_X12_findCommon [.ref (g.ad 0)] S1 (fun S2 => PW l x g shM m_X12_price (Qi x g shM K) 18 [(0, .ref (g.ad 0)), (1, .int v1), (2, .int (nI 0)), (3, .int (nI 0))] [] S2)) ∧ (r1 = 0 → K (-2) S1)))) : PW l x g shM m_X12_price (Qi x g shM K) 0 [(0, .ref (g.ad 0)), (1, .int v1)] [] S := by
  refine r_iload_n ok 1 dX12_price_0 rfl ?_
  refine r_stati ok (rest := []) (As := [.int v1]) _ k_X12_price_148 rfl rfl (Nat.le_of_ble_eq_true rfl) dX12_price_1 (MWi.mono h (fun r1 S1 h => ?_))
  refine r_if_ne ok 10 dX12_price_4 (by decide) ⟨fun c => ?_, fun c => ?_⟩
  · have h := h.1 c
    refine r_aload_n ok 0 dX12_price_10 rfl ?_
    refine r_virtv ok (rest := []) (As := []) 0 _ k_X12_price_137 rfl rfl rfl rfl (Nat.le_of_ble_eq_true rfl) dX12_price_11 (MWv.mono h (fun S2 h => ?_))
    refine r_iconst ok (nI 0) dX12_price_14 (by decide) ?_
    refine r_istore_n ok [(2, .int (nI 0)), (0, .ref (g.ad 0)), (1, .int v1)] dX12_price_15 (by decide) rfl ?_
    refine r_iconst ok (nI 0) dX12_price_16 (by decide) ?_
    refine r_istore_n ok [(3, .int (nI 0)), (2, .int (nI 0)), (0, .ref (g.ad 0)), (1, .int v1)] dX12_price_17 (by decide) rfl ?_
    exact r_sub [2, 3, 1, 0] _ rfl h
  · have h := h.2 c
    refine r_bipush ok (-2) dX12_price_7 (by decide) ?_
    exact r_iret ok rfl dX12_price_9 h
set_option maxRecDepth 10000 in
theorem s_X12_price_18 {l : Launch} {x : Cx} {g : Geo} {K : Int32 → Mem → Prop} (ok : Ok x g shM m_X12_price) (v1 : Int32) (v2 : Int32) (v3 : Int32) (S : Mem) (h : (((S 0 4) ≤ v3 → ((¬ v1 = 0 → K (-6) S) ∧ (v1 = 0 → K v2 S))) ∧ (¬ (S 0 4) ≤ v3 → PW l x g shM m_X12_price (Qi x g shM K) 29 [(0, .ref (g.ad 0)), (1, .int v1), (2, .int v2), (3, .int v3), (4, .int (nI 0))] [] S))) : PW l x g shM m_X12_price (Qi x g shM K) 18 [(0, .ref (g.ad 0)), (1, .int v1), (2, .int v2), (3, .int v3)] [] S := by
  refine r_iload_n ok 3 dX12_price_18 rfl ?_
  refine r_aload_n ok 0 dX12_price_19 rfl ?_
  refine r_getI ok 0 4 rfl rfl fo_X12_105 dX12_price_20 ?_
  refine r_icmp_ge ok 129 dX12_price_23 (by decide) ⟨fun c => ?_, fun c => ?_⟩
  · have h := h.1 c
    refine r_iload_n ok 1 dX12_price_129 rfl ?_
    refine r_if_ne ok 137 dX12_price_130 (by decide) ⟨fun c => ?_, fun c => ?_⟩
    · have h := h.1 c
      refine r_bipush ok (-6) dX12_price_137 (by decide) ?_
      exact r_iret ok rfl dX12_price_139 h
    · have h := h.2 c
      refine r_iload_n ok 2 dX12_price_133 rfl ?_
      refine r_goto ok 139 dX12_price_134 (by decide) ?_
      exact r_iret ok rfl dX12_price_139 h
  · have h := h.2 c
    refine r_iconst ok (nI 0) dX12_price_26 (by decide) ?_
    refine r_istore ok [(4, .int (nI 0)), (0, .ref (g.ad 0)), (1, .int v1), (2, .int v2), (3, .int v3)] dX12_price_27 (by decide) rfl ?_
    exact r_sub [1, 2, 3, 4, 0] _ rfl h
set_option maxRecDepth 10000 in
theorem s_X12_price_29 {l : Launch} {x : Cx} {g : Geo} {K : Int32 → Mem → Prop} (ok : Ok x g shM m_X12_price) (v1 : Int32) (v2 : Int32) (v3 : Int32) (v4 : Int32) (S : Mem) (h : (vp_in v3 12 ∧ (((S 3 (cl v3)) ≤ v4 → PW l x g shM m_X12_price (Qi x g shM K) 85 [(0, .ref (g.ad 0)), (1, .int v1), (2, .int v2), (3, .int v3), (4, .int (v3 + (nI 1)))] [] S) ∧ (¬ (S 3 (cl v3)) ≤ v4 → MWi l g shM m_X12_respeltAt [.ref (g.ad 0), .int v3, .int v4] S (fun r1 S1 => (vp_in (((nI 5) * v3) + v4) 60 ∧ ((r1 = (S1 1 (cl (((nI 5) * v3) + v4))) → PW l x g shM m_X12_price (Qi x g shM K) 29 [(0, .ref (g.ad 0)), (1, .int v1), (2, .int (v2 + (nI 0))), (3, .int v3), (4, .int (v4 + (nI 1)))] [] S1) ∧ (¬ r1 = (S1 1 (cl (((nI 5) * v3) + v4))) → (vp_in v3 12 ∧ PW l x g shM m_X12_price (Qi x g shM K) 29 [(0, .ref (g.ad 0)), (1, .int v1), (2, .int (v2 + (S1 4 (cl v3)))), (3, .int v3), (4, .int (v4 + (nI 1)))] [] S1))))))))) : PW l x g shM m_X12_price (Qi x g shM K) 29 [(0, .ref (g.ad 0)), (1, .int v1), (2, .int v2), (3, .int v3), (4, .int v4)] [] S := by
  refine r_iload ok 4 dX12_price_29 rfl ?_
  refine r_aload_n ok 0 dX12_price_31 rfl ?_
  refine r_getR ok 0 2 rfl rfl fo_X12_16 dX12_price_32 ?_
  refine r_iload_n ok 3 dX12_price_35 rfl ?_
  refine r_iaload ok 3 rfl dX12_price_36 h.1 ?_
  have h := h.2
  refine r_icmp_ge ok 80 dX12_price_37 (by decide) ⟨fun c => ?_, fun c => ?_⟩
  · have h := h.1 c
    refine r_iload_n ok 3 dX12_price_80 rfl ?_
    refine r_iconst ok (nI 1) dX12_price_81 (by decide) ?_
    refine r_iadd ok dX12_price_82 ?_
    refine r_istore ok [(4, .int (v3 + (nI 1))), (0, .ref (g.ad 0)), (1, .int v1), (2, .int v2), (3, .int v3)] dX12_price_83 (by decide) rfl ?_
    exact r_sub [1, 2, 3, 4, 0] _ rfl h
  · have h := h.2 c
    refine r_iload_n ok 2 dX12_price_40 rfl ?_
    refine r_aload_n ok 0 dX12_price_41 rfl ?_
    refine r_iload_n ok 3 dX12_price_42 rfl ?_
    refine r_iload ok 4 dX12_price_43 rfl ?_
    refine r_virti ok (rest := [.int v2]) (As := [.int v3, .int v4]) 0 _ k_X12_price_249 rfl rfl rfl rfl (Nat.le_of_ble_eq_true rfl) dX12_price_45 (MWi.mono h (fun r1 S1 h => ?_))
    refine r_aload_n ok 0 dX12_price_48 rfl ?_
    refine r_getR ok 0 0 rfl rfl fo_X12_7 dX12_price_49 ?_
    refine r_iconst ok (nI 5) dX12_price_52 (by decide) ?_
    refine r_iload_n ok 3 dX12_price_53 rfl ?_
    refine r_imul ok dX12_price_54 ?_
    refine r_iload ok 4 dX12_price_55 rfl ?_
    refine r_iadd ok dX12_price_57 ?_
    refine r_iaload ok 1 rfl dX12_price_58 h.1 ?_
    have h := h.2
    refine r_icmp_eq ok 71 dX12_price_59 (by decide) ⟨fun c => ?_, fun c => ?_⟩
    · have h := h.1 c
      refine r_iconst ok (nI 0) dX12_price_71 (by decide) ?_
      refine r_iadd ok dX12_price_72 ?_
      refine r_istore_n ok [(2, .int (v2 + (nI 0))), (0, .ref (g.ad 0)), (1, .int v1), (3, .int v3), (4, .int v4)] dX12_price_73 (by decide) rfl ?_
      refine r_iinc ok 4 (v4 + (nI 1)) [(4, .int (v4 + (nI 1))), (2, .int (v2 + (nI 0))), (0, .ref (g.ad 0)), (1, .int v1), (3, .int v3)] dX12_price_74 rfl rfl (by decide) rfl ?_
      refine r_goto ok 29 dX12_price_77 (by decide) ?_
      exact r_sub [2, 3, 1, 4, 0] _ rfl h
    · have h := h.2 c
      refine r_aload_n ok 0 dX12_price_62 rfl ?_
      refine r_getR ok 0 3 rfl rfl fo_X12_19 dX12_price_63 ?_
      refine r_iload_n ok 3 dX12_price_66 rfl ?_
      refine r_iaload ok 4 rfl dX12_price_67 h.1 ?_
      have h := h.2
      refine r_goto ok 72 dX12_price_68 (by decide) ?_
      refine r_iadd ok dX12_price_72 ?_
      refine r_istore_n ok [(2, .int (v2 + (S1 4 (cl v3)))), (0, .ref (g.ad 0)), (1, .int v1), (3, .int v3), (4, .int v4)] dX12_price_73 (by decide) rfl ?_
      refine r_iinc ok 4 (v4 + (nI 1)) [(4, .int (v4 + (nI 1))), (2, .int (v2 + (S1 4 (cl v3)))), (0, .ref (g.ad 0)), (1, .int v1), (3, .int v3)] dX12_price_74 rfl rfl (by decide) rfl ?_
      refine r_goto ok 29 dX12_price_77 (by decide) ?_
      exact r_sub [2, 3, 1, 4, 0] _ rfl h
set_option maxRecDepth 10000 in
theorem s_X12_price_85 {l : Launch} {x : Cx} {g : Geo} {K : Int32 → Mem → Prop} (ok : Ok x g shM m_X12_price) (v1 : Int32) (v2 : Int32) (v3 : Int32) (v4 : Int32) (S : Mem) (h : (((S 0 4) ≤ v4 → PW l x g shM m_X12_price (Qi x g shM K) 18 [(0, .ref (g.ad 0)), (1, .int v1), (2, .int v2), (3, .int (v3 + (nI 1)))] [] S) ∧ (¬ (S 0 4) ≤ v4 → ((¬ v1 = (nI 1) → PW l x g shM m_X12_price (Qi x g shM K) 18 [(0, .ref (g.ad 0)), (1, .int v1), (2, .int v2), (3, .int (v3 + (nI 1)))] [] S) ∧ (v1 = (nI 1) → MWi l g shM m_X12_clash [.ref (g.ad 0), .int v3, .int v4] S (fun r1 S1 => ((r1 = 0 → PW l x g shM m_X12_price (Qi x g shM K) 85 [(0, .ref (g.ad 0)), (1, .int v1), (2, .int v2), (3, .int v3), (4, .int (v4 + (nI 1)))] [] S1) ∧ (¬ r1 = 0 → K (((nI 100) * v3) + v4) S1)))))))) : PW l x g shM m_X12_price (Qi x g shM K) 85 [(0, .ref (g.ad 0)), (1, .int v1), (2, .int v2), (3, .int v3), (4, .int v4)] [] S := by
  refine r_iload ok 4 dX12_price_85 rfl ?_
  refine r_aload_n ok 0 dX12_price_87 rfl ?_
  refine r_getI ok 0 4 rfl rfl fo_X12_105 dX12_price_88 ?_
  refine r_icmp_ge ok 123 dX12_price_91 (by decide) ⟨fun c => ?_, fun c => ?_⟩
  · have h := h.1 c
    refine r_iinc ok 3 (v3 + (nI 1)) [(3, .int (v3 + (nI 1))), (0, .ref (g.ad 0)), (1, .int v1), (2, .int v2), (4, .int v4)] dX12_price_123 rfl rfl (by decide) rfl ?_
    refine r_goto ok 18 dX12_price_126 (by decide) ?_
    exact r_sub [1, 2, 3, 0] _ rfl h
  · have h := h.2 c
    refine r_iload_n ok 1 dX12_price_94 rfl ?_
    refine r_iconst ok (nI 1) dX12_price_95 (by decide) ?_
    refine r_icmp_ne ok 123 dX12_price_96 (by decide) ⟨fun c => ?_, fun c => ?_⟩
    · have h := h.1 c
      refine r_iinc ok 3 (v3 + (nI 1)) [(3, .int (v3 + (nI 1))), (0, .ref (g.ad 0)), (1, .int v1), (2, .int v2), (4, .int v4)] dX12_price_123 rfl rfl (by decide) rfl ?_
      refine r_goto ok 18 dX12_price_126 (by decide) ?_
      exact r_sub [1, 2, 3, 0] _ rfl h
    · have h := h.2 c
      refine r_aload_n ok 0 dX12_price_99 rfl ?_
      refine r_iload_n ok 3 dX12_price_100 rfl ?_
      refine r_iload ok 4 dX12_price_101 rfl ?_
      refine r_virti ok (rest := []) (As := [.int v3, .int v4]) 0 _ k_X12_price_252 rfl rfl rfl rfl (Nat.le_of_ble_eq_true rfl) dX12_price_103 (MWi.mono h (fun r1 S1 h => ?_))
      refine r_if_eq ok 117 dX12_price_106 (by decide) ⟨fun c => ?_, fun c => ?_⟩
      · have h := h.1 c
        refine r_iinc ok 4 (v4 + (nI 1)) [(4, .int (v4 + (nI 1))), (0, .ref (g.ad 0)), (1, .int v1), (2, .int v2), (3, .int v3)] dX12_price_117 rfl rfl (by decide) rfl ?_
        refine r_goto ok 85 dX12_price_120 (by decide) ?_
        exact r_sub [1, 2, 3, 4, 0] _ rfl h
      · have h := h.2 c
        refine r_bipush ok (nI 100) dX12_price_109 (by decide) ?_
        refine r_iload_n ok 3 dX12_price_111 rfl ?_
        refine r_imul ok dX12_price_112 ?_
        refine r_iload ok 4 dX12_price_113 rfl ?_
        refine r_iadd ok dX12_price_115 ?_
        exact r_iret ok rfl dX12_price_116 h
set_option maxRecDepth 10000 in
theorem s_X12_findLessons_0 {l : Launch} {x : Cx} {g : Geo} {K : Mem → Prop} (ok : Ok x g shM m_X12_findLessons) (v1 : Int32) (S : Mem) (h : (vp_in v1 4 ∧ PW l x g shM m_X12_findLessons (Qv x g shM K) 9 [(0, .ref (g.ad 0)), (1, .int v1), (2, .int (S 9 (cl v1))), (3, .int (nI 0))] [] S)) : PW l x g shM m_X12_findLessons (Qv x g shM K) 0 [(0, .ref (g.ad 0)), (1, .int v1)] [] S := by
  refine r_aload_n ok 0 dX12_findLessons_0 rfl ?_
  refine r_getR ok 0 11 rfl rfl fo_X12_34 dX12_findLessons_1 ?_
  refine r_iload_n ok 1 dX12_findLessons_4 rfl ?_
  refine r_iaload ok 9 rfl dX12_findLessons_5 h.1 ?_
  have h := h.2
  refine r_istore_n ok [(2, .int (S 9 (cl v1))), (0, .ref (g.ad 0)), (1, .int v1)] dX12_findLessons_6 (by decide) rfl ?_
  refine r_iconst ok (nI 0) dX12_findLessons_7 (by decide) ?_
  refine r_istore_n ok [(3, .int (nI 0)), (2, .int (S 9 (cl v1))), (0, .ref (g.ad 0)), (1, .int v1)] dX12_findLessons_8 (by decide) rfl ?_
  exact r_sub [2, 3, 1, 0] _ rfl h
set_option maxRecDepth 10000 in
theorem s_X12_findLessons_9 {l : Launch} {x : Cx} {g : Geo} {K : Mem → Prop} (ok : Ok x g shM m_X12_findLessons) (v1 : Int32) (v2 : Int32) (v3 : Int32) (S : Mem) (h : (((nI 12) < v3 → MWi l g shM m_X12_ones [.int v2] S (fun r1 S1 => PW l x g shM m_X12_findLessons (Qv x g shM K) 44 [(0, .ref (g.ad 0)), (1, .int v1), (2, .int v2), (3, .int ((nI 10) - r1)), (4, .int (nI 0))] [] S1)) ∧ (¬ (nI 12) < v3 → (vp_in (((nI 13) * v1) + v3) 52 ∧ PW l x g shM m_X12_findLessons (Qv x g shM K) 9 [(0, .ref (g.ad 0)), (1, .int v1), (2, .int v2), (3, .int (v3 + (nI 1)))] [] (st2 S 19 (cl (((nI 13) * v1) + v3)) (nI 0)))))) : PW l x g shM m_X12_findLessons (Qv x g shM K) 9 [(0, .ref (g.ad 0)), (1, .int v1), (2, .int v2), (3, .int v3)] [] S := by
  refine r_iload_n ok 3 dX12_findLessons_9 rfl ?_
  refine r_bipush ok (nI 12) dX12_findLessons_10 (by decide) ?_
  refine r_icmp_gt ok 33 dX12_findLessons_12 (by decide) ⟨fun c => ?_, fun c => ?_⟩
  · have h := h.1 c
    refine r_bipush ok (nI 10) dX12_findLessons_33 (by decide) ?_
    refine r_iload_n ok 2 dX12_findLessons_35 rfl ?_
    refine r_stati ok (rest := [.int (nI 10)]) (As := [.int v2]) _ k_X12_findLessons_211 rfl rfl (Nat.le_of_ble_eq_true rfl) dX12_findLessons_36 (MWi.mono h (fun r1 S1 h => ?_))
    refine r_isub ok dX12_findLessons_39 ?_
    refine r_istore_n ok [(3, .int ((nI 10) - r1)), (0, .ref (g.ad 0)), (1, .int v1), (2, .int v2)] dX12_findLessons_40 (by decide) rfl ?_
    refine r_iconst ok (nI 0) dX12_findLessons_41 (by decide) ?_
    refine r_istore ok [(4, .int (nI 0)), (3, .int ((nI 10) - r1)), (0, .ref (g.ad 0)), (1, .int v1), (2, .int v2)] dX12_findLessons_42 (by decide) rfl ?_
    exact r_sub [2, 3, 4, 1, 0] _ rfl h
  · have h := h.2 c
    refine r_aload_n ok 0 dX12_findLessons_15 rfl ?_
    refine r_getR ok 0 24 rfl rfl fo_X12_66 dX12_findLessons_16 ?_
    refine r_bipush ok (nI 13) dX12_findLessons_19 (by decide) ?_
    refine r_iload_n ok 1 dX12_findLessons_21 rfl ?_
    refine r_imul ok dX12_findLessons_22 ?_
    refine r_iload_n ok 3 dX12_findLessons_23 rfl ?_
    refine r_iadd ok dX12_findLessons_24 ?_
    refine r_iconst ok (nI 0) dX12_findLessons_25 (by decide) ?_
    refine r_iastore ok 19 rfl dX12_findLessons_26 h.1 ?_
    have h := h.2
    refine r_iinc ok 3 (v3 + (nI 1)) [(3, .int (v3 + (nI 1))), (0, .ref (g.ad 0)), (1, .int v1), (2, .int v2)] dX12_findLessons_27 rfl rfl (by decide) rfl ?_
    refine r_goto ok 9 dX12_findLessons_30 (by decide) ?_
    exact r_sub [1, 2, 3, 0] _ rfl h
set_option maxRecDepth 10000 in
theorem s_X12_findLessons_44 {l : Launch} {x : Cx} {g : Geo} {K : Mem → Prop} (ok : Ok x g shM m_X12_findLessons) (v1 : Int32) (v2 : Int32) (v3 : Int32) (v4 : Int32) (S : Mem) (h : (((nI 1024) ≤ v4 → K S) ∧ (¬ (nI 1024) ≤ v4 → ((¬ (v4 &&& v2) = 0 → PW l x g shM m_X12_findLessons (Qv x g shM K) 44 [(0, .ref (g.ad 0)), (1, .int v1), (2, .int v2), (3, .int v3), (4, .int (v4 + (nI 1)))] [] S) ∧ ((v4 &&& v2) = 0 → (vp_in v1 4 ∧ MWi l g shM m_X12_shareOf [.ref (g.ad 0), .int v1, .int (v2 ||| v4), .int (S 10 (cl v1))] S (fun r1 S1 => MWi l g shM m_X12_ones [.int v4] S1 (fun r2 S2 => PW l x g shM m_X12_findLessons (Qv x g shM K) 87 [(0, .ref (g.ad 0)), (1, .int v1), (2, .int v2), (3, .int v3), (4, .int v4), (5, .int r1), (6, .int r2), (7, .int r2)] [] S2)))))))) : PW l x g shM m_X12_findLessons (Qv x g shM K) 44 [(0, .ref (g.ad 0)), (1, .int v1), (2, .int v2), (3, .int v3), (4, .int v4)] [] S := by
  refine r_iload ok 4 dX12_findLessons_44 rfl ?_
  refine r_sipush ok (nI 1024) dX12_findLessons_46 (by decide) ?_
  refine r_icmp_ge ok 163 dX12_findLessons_49 (by decide) ⟨fun c => ?_, fun c => ?_⟩
  · have h := h.1 c
    exact r_ret ok rfl dX12_findLessons_163 h
  · have h := h.2 c
    refine r_iload ok 4 dX12_findLessons_52 rfl ?_
    refine r_iload_n ok 2 dX12_findLessons_54 rfl ?_
    refine r_iand ok dX12_findLessons_55 ?_
    refine r_if_ne ok 157 dX12_findLessons_56 (by decide) ⟨fun c => ?_, fun c => ?_⟩
    · have h := h.1 c
      refine r_iinc ok 4 (v4 + (nI 1)) [(4, .int (v4 + (nI 1))), (0, .ref (g.ad 0)), (1, .int v1), (2, .int v2), (3, .int v3)] dX12_findLessons_157 rfl rfl (by decide) rfl ?_
      refine r_goto ok 44 dX12_findLessons_160 (by decide) ?_
      exact r_sub [1, 2, 3, 4, 0] _ rfl h
    · have h := h.2 c
      refine r_aload_n ok 0 dX12_findLessons_59 rfl ?_
      refine r_iload_n ok 1 dX12_findLessons_60 rfl ?_
      refine r_iload_n ok 2 dX12_findLessons_61 rfl ?_
      refine r_iload ok 4 dX12_findLessons_62 rfl ?_
      refine r_ior ok dX12_findLessons_64 ?_
      refine r_aload_n ok 0 dX12_findLessons_65 rfl ?_
      refine r_getR ok 0 12 rfl rfl fo_X12_37 dX12_findLessons_66 ?_
      refine r_iload_n ok 1 dX12_findLessons_69 rfl ?_
      refine r_iaload ok 10 rfl dX12_findLessons_70 h.1 ?_
      have h := h.2
      refine r_virti ok (rest := []) (As := [.int v1, .int (v2 ||| v4), .int (S 10 (cl v1))]) 0 _ k_X12_findLessons_193 rfl rfl rfl rfl (Nat.le_of_ble_eq_true rfl) dX12_findLessons_71 (MWi.mono h (fun r1 S1 h => ?_))
      refine r_istore ok [(5, .int r1), (0, .ref (g.ad 0)), (1, .int v1), (2, .int v2), (3, .int v3), (4, .int v4)] dX12_findLessons_74 (by decide) rfl ?_
      refine r_iload ok 5 dX12_findLessons_76 rfl ?_
      refine r_stati ok (rest := []) (As := [.int v4]) _ k_X12_findLessons_211 rfl rfl (Nat.le_of_ble_eq_true rfl) dX12_findLessons_78 (MWi.mono h (fun r2 S2 h => ?_))
      refine r_istore ok [(6, .int r2), (5, .int r1), (0, .ref (g.ad 0)), (1, .int v1), (2, .int v2), (3, .int v3), (4, .int v4)] dX12_findLessons_81 (by decide) rfl ?_
      refine r_iload ok 0 dX12_findLessons_83 rfl ?_
      refine r_istore ok [(7, .int r2), (6, .int r2), (5, .int r1), (0, .ref (g.ad 0)), (1, .int v1), (2, .int v2), (3, .int v3), (4, .int v4)] dX12_findLessons_85 (by decide) rfl ?_
      exact r_sub [3, 4, 5, 6, 7, 2, 1, 0] _ rfl h
set_option maxRecDepth 10000 in
theorem s_X12_findLessons_87 {l : Launch} {x : Cx} {g : Geo} {K : Mem → Prop} (ok : Ok x g shM m_X12_findLessons) (v1 : Int32) (v2 : Int32) (v3 : Int32) (v4 : Int32) (v5 : Int32) (v6 : Int32) (v7 : Int32) (S : Mem) (h : ((¬ v6 = v3 → ((v6 < v7 → PW l x g shM m_X12_findLessons (Qv x g shM K) 44 [(0, .ref (g.ad 0)), (1, .int v1), (2, .int v2), (3, .int v3), (4, .int (v4 + (nI 1)))] [] S) ∧ (¬ v6 < v7 → (vp_in (((nI 13) * v1) + v7) 52 ∧ ((v5 ≤ (S 19 (cl (((nI 13) * v1) + v7))) → (vp_in (((nI 13) * v1) + v7) 52 ∧ (vp_in (((nI 13) * v1) + v7) 52 ∧ PW l x g shM m_X12_findLessons (Qv x g shM K) 87 [(0, .ref (g.ad 0)), (1, .int v1), (2, .int v2), (3, .int v3), (4, .int v4), (5, .int v5), (6, .int v6), (7, .int (v7 + (nI 1)))] [] (st2 S 19 (cl (((nI 13) * v1) + v7)) (S 19 (cl (((nI 13) * v1) + v7))))))) ∧ (¬ v5 ≤ (S 19 (cl (((nI 13) * v1) + v7))) → (vp_in (((nI 13) * v1) + v7) 52 ∧ PW l x g shM m_X12_findLessons (Qv x g shM K) 87 [(0, .ref (g.ad 0)), (1, .int v1), (2, .int v2), (3, .int v3), (4, .int v4), (5, .int v5), (6, .int v6), (7, .int (v7 + (nI 1)))] [] (st2 S 19 (cl (((nI 13) * v1) + v7)) v5)))))))) ∧ (v6 = v3 → (((nI 12) < v7 → PW l x g shM m_X12_findLessons (Qv x g shM K) 44 [(0, .ref (g.ad 0)), (1, .int v1), (2, .int v2), (3, .int v3), (4, .int (v4 + (nI 1)))] [] S) ∧ (¬ (nI 12) < v7 → (vp_in (((nI 13) * v1) + v7) 52 ∧ ((v5 ≤ (S 19 (cl (((nI 13) * v1) + v7))) → (vp_in (((nI 13) * v1) + v7) 52 ∧ (vp_in (((nI 13) * v1) + v7) 52 ∧ PW l x g shM m_X12_findLessons (Qv x g shM K) 87 [(0, .ref (g.ad 0)), (1, .int v1), (2, .int v2), (3, .int v3), (4, .int v4), (5, .int v5), (6, .int v6), (7, .int (v7 + (nI 1)))] [] (st2 S 19 (cl (((nI 13) * v1) + v7)) (S 19 (cl (((nI 13) * v1) + v7))))))) ∧ (¬ v5 ≤ (S 19 (cl (((nI 13) * v1) + v7))) → (vp_in (((nI 13) * v1) + v7) 52 ∧ PW l x g shM m_X12_findLessons (Qv x g shM K) 87 [(0, .ref (g.ad 0)), (1, .int v1), (2, .int v2), (3, .int v3), (4, .int v4), (5, .int v5), (6, .int v6), (7, .int (v7 + (nI 1)))] [] (st2 S 19 (cl (((nI 13) * v1) + v7)) v5)))))))))) : PW l x g shM m_X12_findLessons (Qv x g shM K) 87 [(0, .ref (g.ad 0)), (1, .int v1), (2, .int v2), (3, .int v3), (4, .int v4), (5, .int v5), (6, .int v6), (7, .int v7)] [] S := by
  refine r_iload ok 7 dX12_findLessons_87 rfl ?_
  refine r_iload ok 6 dX12_findLessons_89 rfl ?_
  refine r_iload_n ok 3 dX12_findLessons_91 rfl ?_
  refine r_icmp_ne ok 100 dX12_findLessons_92 (by decide) ⟨fun c => ?_, fun c => ?_⟩
  · have h := h.1 c
    refine r_iload ok 6 dX12_findLessons_100 rfl ?_
    refine r_icmp_gt ok 157 dX12_findLessons_102 (by decide) ⟨fun c => ?_, fun c => ?_⟩
    · have h := h.1 c
      refine r_iinc ok 4 (v4 + (nI 1)) [(4, .int (v4 + (nI 1))), (0, .ref (g.ad 0)), (1, .int v1), (2, .int v2), (3, .int v3), (5, .int v5), (6, .int v6), (7, .int v7)] dX12_findLessons_157 rfl rfl (by decide) rfl ?_
      refine r_goto ok 44 dX12_findLessons_160 (by decide) ?_
      exact r_sub [1, 2, 3, 4, 0] _ rfl h
    · have h := h.2 c
      refine r_aload_n ok 0 dX12_findLessons_105 rfl ?_
      refine r_getR ok 0 24 rfl rfl fo_X12_66 dX12_findLessons_106 ?_
      refine r_bipush ok (nI 13) dX12_findLessons_109 (by decide) ?_
      refine r_iload_n ok 1 dX12_findLessons_111 rfl ?_
      refine r_imul ok dX12_findLessons_112 ?_
      refine r_iload ok 7 dX12_findLessons_113 rfl ?_
      refine r_iadd ok dX12_findLessons_115 ?_
      refine r_iload ok 5 dX12_findLessons_116 rfl ?_
      refine r_aload_n ok 0 dX12_findLessons_118 rfl ?_
      refine r_getR ok 0 24 rfl rfl fo_X12_66 dX12_findLessons_119 ?_
      refine r_bipush ok (nI 13) dX12_findLessons_122 (by decide) ?_
      refine r_iload_n ok 1 dX12_findLessons_124 rfl ?_
      refine r_imul ok dX12_findLessons_125 ?_
      refine r_iload ok 7 dX12_findLessons_126 rfl ?_
      refine r_iadd ok dX12_findLessons_128 ?_
      refine r_iaload ok 19 rfl dX12_findLessons_129 h.1 ?_
      have h := h.2
      refine r_icmp_le ok 138 dX12_findLessons_130 (by decide) ⟨fun c => ?_, fun c => ?_⟩
      · have h := h.1 c
        refine r_aload_n ok 0 dX12_findLessons_138 rfl ?_
        refine r_getR ok 0 24 rfl rfl fo_X12_66 dX12_findLessons_139 ?_
        refine r_bipush ok (nI 13) dX12_findLessons_142 (by decide) ?_
        refine r_iload_n ok 1 dX12_findLessons_144 rfl ?_
        refine r_imul ok dX12_findLessons_145 ?_
        refine r_iload ok 7 dX12_findLessons_146 rfl ?_
        refine r_iadd ok dX12_findLessons_148 ?_
        refine r_iaload ok 19 rfl dX12_findLessons_149 h.1 ?_
        have h := h.2
        refine r_iastore ok 19 rfl dX12_findLessons_150 h.1 ?_
        have h := h.2
        refine r_iinc ok 7 (v7 + (nI 1)) [(7, .int (v7 + (nI 1))), (0, .ref (g.ad 0)), (1, .int v1), (2, .int v2), (3, .int v3), (4, .int v4), (5, .int v5), (6, .int v6)] dX12_findLessons_151 rfl rfl (by decide) rfl ?_
        refine r_goto ok 87 dX12_findLessons_154 (by decide) ?_
        exact r_sub [1, 2, 3, 4, 5, 6, 7, 0] _ rfl h
      · have h := h.2 c
        refine r_iload ok 5 dX12_findLessons_133 rfl ?_
        refine r_goto ok 150 dX12_findLessons_135 (by decide) ?_
        refine r_iastore ok 19 rfl dX12_findLessons_150 h.1 ?_
        have h := h.2
        refine r_iinc ok 7 (v7 + (nI 1)) [(7, .int (v7 + (nI 1))), (0, .ref (g.ad 0)), (1, .int v1), (2, .int v2), (3, .int v3), (4, .int v4), (5, .int v5), (6, .int v6)] dX12_findLessons_151 rfl rfl (by decide) rfl ?_
        refine r_goto ok 87 dX12_findLessons_154 (by decide) ?_
        exact r_sub [1, 2, 3, 4, 5, 6, 7, 0] _ rfl h
  · have h := h.2 c
    refine r_bipush ok (nI 12) dX12_findLessons_95 (by decide) ?_
    refine r_goto ok 102 dX12_findLessons_97 (by decide) ?_
    refine r_icmp_gt ok 157 dX12_findLessons_102 (by decide) ⟨fun c => ?_, fun c => ?_⟩
    · have h := h.1 c
      refine r_iinc ok 4 (v4 + (nI 1)) [(4, .int (v4 + (nI 1))), (0, .ref (g.ad 0)), (1, .int v1), (2, .int v2), (3, .int v3), (5, .int v5), (6, .int v6), (7, .int v7)] dX12_findLessons_157 rfl rfl (by decide) rfl ?_
      refine r_goto ok 44 dX12_findLessons_160 (by decide) ?_
      exact r_sub [1, 2, 3, 4, 0] _ rfl h
    · have h := h.2 c
      refine r_aload_n ok 0 dX12_findLessons_105 rfl ?_
      refine r_getR ok 0 24 rfl rfl fo_X12_66 dX12_findLessons_106 ?_
      refine r_bipush ok (nI 13) dX12_findLessons_109 (by decide) ?_
      refine r_iload_n ok 1 dX12_findLessons_111 rfl ?_
      refine r_imul ok dX12_findLessons_112 ?_
      refine r_iload ok 7 dX12_findLessons_113 rfl ?_
      refine r_iadd ok dX12_findLessons_115 ?_
      refine r_iload ok 5 dX12_findLessons_116 rfl ?_
      refine r_aload_n ok 0 dX12_findLessons_118 rfl ?_
      refine r_getR ok 0 24 rfl rfl fo_X12_66 dX12_findLessons_119 ?_
      refine r_bipush ok (nI 13) dX12_findLessons_122 (by decide) ?_
      refine r_iload_n ok 1 dX12_findLessons_124 rfl ?_
      refine r_imul ok dX12_findLessons_125 ?_
      refine r_iload ok 7 dX12_findLessons_126 rfl ?_
      refine r_iadd ok dX12_findLessons_128 ?_
      refine r_iaload ok 19 rfl dX12_findLessons_129 h.1 ?_
      have h := h.2
      refine r_icmp_le ok 138 dX12_findLessons_130 (by decide) ⟨fun c => ?_, fun c => ?_⟩
      · have h := h.1 c
        refine r_aload_n ok 0 dX12_findLessons_138 rfl ?_
        refine r_getR ok 0 24 rfl rfl fo_X12_66 dX12_findLessons_139 ?_
        refine r_bipush ok (nI 13) dX12_findLessons_142 (by decide) ?_
        refine r_iload_n ok 1 dX12_findLessons_144 rfl ?_
        refine r_imul ok dX12_findLessons_145 ?_
        refine r_iload ok 7 dX12_findLessons_146 rfl ?_
        refine r_iadd ok dX12_findLessons_148 ?_
        refine r_iaload ok 19 rfl dX12_findLessons_149 h.1 ?_
        have h := h.2
        refine r_iastore ok 19 rfl dX12_findLessons_150 h.1 ?_
        have h := h.2
        refine r_iinc ok 7 (v7 + (nI 1)) [(7, .int (v7 + (nI 1))), (0, .ref (g.ad 0)), (1, .int v1), (2, .int v2), (3, .int v3), (4, .int v4), (5, .int v5), (6, .int v6)] dX12_findLessons_151 rfl rfl (by decide) rfl ?_
        refine r_goto ok 87 dX12_findLessons_154 (by decide) ?_
        exact r_sub [1, 2, 3, 4, 5, 6, 7, 0] _ rfl h
      · have h := h.2 c
        refine r_iload ok 5 dX12_findLessons_133 rfl ?_
        refine r_goto ok 150 dX12_findLessons_135 (by decide) ?_
        refine r_iastore ok 19 rfl dX12_findLessons_150 h.1 ?_
        have h := h.2
        refine r_iinc ok 7 (v7 + (nI 1)) [(7, .int (v7 + (nI 1))), (0, .ref (g.ad 0)), (1, .int v1), (2, .int v2), (3, .int v3), (4, .int v4), (5, .int v5), (6, .int v6)] dX12_findLessons_151 rfl rfl (by decide) rfl ?_
        refine r_goto ok 87 dX12_findLessons_154 (by decide) ?_
        exact r_sub [1, 2, 3, 4, 5, 6, 7, 0] _ rfl h
set_option maxRecDepth 10000 in
theorem s_X12_lessons_0 {l : Launch} {x : Cx} {g : Geo} {K : Int32 → Mem → Prop} (ok : Ok x g shM m_X12_lessons) (v1 : Int32) (v2 : Int32) (S : Mem) (h : MWi l g shM m_X12_isChild [.int v1] S (fun r1 S1 => ((¬ r1 = 0 → MWi l g shM m_X12_in [.long v2.toInt64, .long (lN 0), .long (lN 12)] S1 (fun r2 S2 => ((¬ r2 = 0 → MWv l g shM m_X12_findCommon [.ref (g.ad 0)] S2 (fun S3 => MWv l g shM m_X12_findLessons [.ref (g.ad 0), .int v1] S3 (fun S4 => (vp_in (((nI 13) * v1) + v2) 52 ∧ K (S4 19 (cl (((nI 13) * v1) + v2))) S4)))) ∧ (r2 = 0 → K (-2) S2)))) ∧ (r1 = 0 → K (-1) S1)))) : PW l x g shM m_X12_lessons (Qi x g shM K) 0 [(0, .ref (g.ad 0)), (1, .int v1), (2, .int v2)] [] S := by
  refine r_iload_n ok 1 dX12_lessons_0 rfl ?_
  refine r_stati ok (rest := []) (As := [.int v1]) _ k_X12_lessons_160 rfl rfl (Nat.le_of_ble_eq_true rfl) dX12_lessons_1 (MWi.mono h (fun r1 S1 h => ?_))
  refine r_if_ne ok 9 dX12_lessons_4 (by decide) ⟨fun c => ?_, fun c => ?_⟩
  · have h := h.1 c
    refine r_iload_n ok 2 dX12_lessons_9 rfl ?_
    refine r_i2l ok dX12_lessons_10 ?_
    refine r_lconst ok (lN 0) dX12_lessons_11 (by decide) ?_
    refine r_ldc2 ok (lN 12) dX12_lessons_12 (gt_in (List.mem_of_getElem? (i := 1310) (by decide +kernel)) rfl) ?_
    refine r_stati ok (rest := []) (As := [.long v2.toInt64, .long (lN 0), .long (lN 12)]) _ k_X12_lessons_80 rfl rfl (Nat.le_of_ble_eq_true rfl) dX12_lessons_15 (MWi.mono h (fun r2 S2 h => ?_))
    refine r_if_ne ok 24 dX12_lessons_18 (by decide) ⟨fun c => ?_, fun c => ?_⟩
    · have h := h.1 c
      refine r_aload_n ok 0 dX12_lessons_24 rfl ?_
      refine r_virtv ok (rest := []) (As := []) 0 _ k_X12_lessons_137 rfl rfl rfl rfl (Nat.le_of_ble_eq_true rfl) dX12_lessons_25 (MWv.mono h (fun S3 h => ?_))
      refine r_aload_n ok 0 dX12_lessons_28 rfl ?_
      refine r_iload_n ok 1 dX12_lessons_29 rfl ?_
      refine r_virtv ok (rest := []) (As := [.int v1]) 0 _ k_X12_lessons_257 rfl rfl rfl rfl (Nat.le_of_ble_eq_true rfl) dX12_lessons_30 (MWv.mono h (fun S4 h => ?_))
      refine r_aload_n ok 0 dX12_lessons_33 rfl ?_
      refine r_getR ok 0 24 rfl rfl fo_X12_66 dX12_lessons_34 ?_
      refine r_bipush ok (nI 13) dX12_lessons_37 (by decide) ?_
      refine r_iload_n ok 1 dX12_lessons_39 rfl ?_
      refine r_imul ok dX12_lessons_40 ?_
      refine r_iload_n ok 2 dX12_lessons_41 rfl ?_
      refine r_iadd ok dX12_lessons_42 ?_
      refine r_iaload ok 19 rfl dX12_lessons_43 h.1 ?_
      have h := h.2
      exact r_iret ok rfl dX12_lessons_44 h
    · have h := h.2 c
      refine r_bipush ok (-2) dX12_lessons_21 (by decide) ?_
      exact r_iret ok rfl dX12_lessons_23 h
  · have h := h.2 c
    refine r_iconst ok (-1) dX12_lessons_7 (by decide) ?_
    exact r_iret ok rfl dX12_lessons_8 h
set_option maxRecDepth 10000 in
theorem s_X12_findShared_0 {l : Launch} {x : Cx} {g : Geo} {K : Int32 → Mem → Prop} (ok : Ok x g shM m_X12_findShared) (v1 : Int32) (S : Mem) (h : MWv l g shM m_X12_findCommon [.ref (g.ad 0)] S (fun S1 => PW l x g shM m_X12_findShared (Qi x g shM K) 6 [(0, .ref (g.ad 0)), (1, .int v1), (2, .int (nI 0))] [] S1)) : PW l x g shM m_X12_findShared (Qi x g shM K) 0 [(0, .ref (g.ad 0)), (1, .int v1)] [] S := by
  refine r_aload_n ok 0 dX12_findShared_0 rfl ?_
  refine r_virtv ok (rest := []) (As := []) 0 _ k_X12_findShared_137 rfl rfl rfl rfl (Nat.le_of_ble_eq_true rfl) dX12_findShared_1 (MWv.mono h (fun S1 h => ?_))
  refine r_iconst ok (nI 0) dX12_findShared_4 (by decide) ?_
  refine r_istore_n ok [(2, .int (nI 0)), (0, .ref (g.ad 0)), (1, .int v1)] dX12_findShared_5 (by decide) rfl ?_
  exact r_sub [1, 2, 0] _ rfl h
set_option maxRecDepth 10000 in
theorem s_X12_findShared_6 {l : Launch} {x : Cx} {g : Geo} {K : Int32 → Mem → Prop} (ok : Ok x g shM m_X12_findShared) (v1 : Int32) (v2 : Int32) (S : Mem) (h : (((nI 4) ≤ v2 → PW l x g shM m_X12_findShared (Qi x g shM K) 27 [(0, .ref (g.ad 0)), (1, .int v1), (2, .int (-6)), (3, .int (nI 0))] [] S) ∧ (¬ (nI 4) ≤ v2 → MWv l g shM m_X12_findLessons [.ref (g.ad 0), .int v2] S (fun S1 => PW l x g shM m_X12_findShared (Qi x g shM K) 6 [(0, .ref (g.ad 0)), (1, .int v1), (2, .int (v2 + (nI 1)))] [] S1)))) : PW l x g shM m_X12_findShared (Qi x g shM K) 6 [(0, .ref (g.ad 0)), (1, .int v1), (2, .int v2)] [] S := by
  refine r_iload_n ok 2 dX12_findShared_6 rfl ?_
  refine r_iconst ok (nI 4) dX12_findShared_7 (by decide) ?_
  refine r_icmp_ge ok 22 dX12_findShared_8 (by decide) ⟨fun c => ?_, fun c => ?_⟩
  · have h := h.1 c
    refine r_bipush ok (-6) dX12_findShared_22 (by decide) ?_
    refine r_istore_n ok [(2, .int (-6)), (0, .ref (g.ad 0)), (1, .int v1)] dX12_findShared_24 (by decide) rfl ?_
    refine r_iconst ok (nI 0) dX12_findShared_25 (by decide) ?_
    refine r_istore_n ok [(3, .int (nI 0)), (2, .int (-6)), (0, .ref (g.ad 0)), (1, .int v1)] dX12_findShared_26 (by decide) rfl ?_
    exact r_sub [2, 3, 1, 0] _ rfl h
  · have h := h.2 c
    refine r_aload_n ok 0 dX12_findShared_11 rfl ?_
    refine r_iload_n ok 2 dX12_findShared_12 rfl ?_
    refine r_virtv ok (rest := []) (As := [.int v2]) 0 _ k_X12_findShared_257 rfl rfl rfl rfl (Nat.le_of_ble_eq_true rfl) dX12_findShared_13 (MWv.mono h (fun S1 h => ?_))
    refine r_iinc ok 2 (v2 + (nI 1)) [(2, .int (v2 + (nI 1))), (0, .ref (g.ad 0)), (1, .int v1)] dX12_findShared_16 rfl rfl (by decide) rfl ?_
    refine r_goto ok 6 dX12_findShared_19 (by decide) ?_
    exact r_sub [1, 2, 0] _ rfl h
set_option maxRecDepth 10000 in
theorem s_X12_findShared_27 {l : Launch} {x : Cx} {g : Geo} {K : Int32 → Mem → Prop} (ok : Ok x g shM m_X12_findShared) (v1 : Int32) (v2 : Int32) (v3 : Int32) (S : Mem) (h : ((v1 < v3 → K v2 S) ∧ (¬ v1 < v3 → PW l x g shM m_X12_findShared (Qi x g shM K) 35 [(0, .ref (g.ad 0)), (1, .int v1), (2, .int v2), (3, .int v3), (4, .int (nI 0))] [] S))) : PW l x g shM m_X12_findShared (Qi x g shM K) 27 [(0, .ref (g.ad 0)), (1, .int v1), (2, .int v2), (3, .int v3)] [] S := by
  refine r_iload_n ok 3 dX12_findShared_27 rfl ?_
  refine r_iload_n ok 1 dX12_findShared_28 rfl ?_
  refine r_icmp_gt ok 167 dX12_findShared_29 (by decide) ⟨fun c => ?_, fun c => ?_⟩
  · have h := h.1 c
    refine r_iload_n ok 2 dX12_findShared_167 rfl ?_
    exact r_iret ok rfl dX12_findShared_168 h
  · have h := h.2 c
    refine r_iconst ok (nI 0) dX12_findShared_32 (by decide) ?_
    refine r_istore ok [(4, .int (nI 0)), (0, .ref (g.ad 0)), (1, .int v1), (2, .int v2), (3, .int v3)] dX12_findShared_33 (by decide) rfl ?_
    exact r_sub [1, 2, 3, 4, 0] _ rfl h
set_option maxRecDepth 10000 in
theorem s_X12_findShared_35 {l : Launch} {x : Cx} {g : Geo} {K : Int32 → Mem → Prop} (ok : Ok x g shM m_X12_findShared) (v1 : Int32) (v2 : Int32) (v3 : Int32) (v4 : Int32) (S : Mem) (h : ((v1 < (v3 + v4) → PW l x g shM m_X12_findShared (Qi x g shM K) 27 [(0, .ref (g.ad 0)), (1, .int v1), (2, .int v2), (3, .int (v3 + (nI 1)))] [] S) ∧ (¬ v1 < (v3 + v4) → PW l x g shM m_X12_findShared (Qi x g shM K) 46 [(0, .ref (g.ad 0)), (1, .int v1), (2, .int v2), (3, .int v3), (4, .int v4), (5, .int (nI 0))] [] S))) : PW l x g shM m_X12_findShared (Qi x g shM K) 35 [(0, .ref (g.ad 0)), (1, .int v1), (2, .int v2), (3, .int v3), (4, .int v4)] [] S := by
  refine r_iload_n ok 3 dX12_findShared_35 rfl ?_
  refine r_iload ok 4 dX12_findShared_36 rfl ?_
  refine r_iadd ok dX12_findShared_38 ?_
  refine r_iload_n ok 1 dX12_findShared_39 rfl ?_
  refine r_icmp_gt ok 161 dX12_findShared_40 (by decide) ⟨fun c => ?_, fun c => ?_⟩
  · have h := h.1 c
    refine r_iinc ok 3 (v3 + (nI 1)) [(3, .int (v3 + (nI 1))), (0, .ref (g.ad 0)), (1, .int v1), (2, .int v2), (4, .int v4)] dX12_findShared_161 rfl rfl (by decide) rfl ?_
    refine r_goto ok 27 dX12_findShared_164 (by decide) ?_
    exact r_sub [1, 2, 3, 0] _ rfl h
  · have h := h.2 c
    refine r_iconst ok (nI 0) dX12_findShared_43 (by decide) ?_
    refine r_istore ok [(5, .int (nI 0)), (0, .ref (g.ad 0)), (1, .int v1), (2, .int v2), (3, .int v3), (4, .int v4)] dX12_findShared_44 (by decide) rfl ?_
    exact r_sub [1, 2, 3, 4, 5, 0] _ rfl h
set_option maxRecDepth 10000 in
theorem s_X12_findShared_46 {l : Launch} {x : Cx} {g : Geo} {K : Int32 → Mem → Prop} (ok : Ok x g shM m_X12_findShared) (v1 : Int32) (v2 : Int32) (v3 : Int32) (v4 : Int32) (v5 : Int32) (S : Mem) (h : ((v1 < ((v3 + v4) + v5) → PW l x g shM m_X12_findShared (Qi x g shM K) 35 [(0, .ref (g.ad 0)), (1, .int v1), (2, .int v2), (3, .int v3), (4, .int (v4 + (nI 1)))] [] S) ∧ (¬ v1 < ((v3 + v4) + v5) → (vp_in v3 52 ∧ (vp_in ((nI 13) + v4) 52 ∧ (vp_in ((nI 26) + v5) 52 ∧ (vp_in ((nI 39) + (((v1 - v3) - v4) - v5)) 52 ∧ ((((((S 19 (cl v3)) + (S 19 (cl ((nI 13) + v4)))) + (S 19 (cl ((nI 26) + v5)))) + (S 19 (cl ((nI 39) + (((v1 - v3) - v4) - v5))))) ≤ v2 → PW l x g shM m_X12_findShared (Qi x g shM K) 46 [(0, .ref (g.ad 0)), (1, .int v1), (2, .int v2), (3, .int v3), (4, .int v4), (5, .int (v5 + (nI 1)))] [] S) ∧ (¬ ((((S 19 (cl v3)) + (S 19 (cl ((nI 13) + v4)))) + (S 19 (cl ((nI 26) + v5)))) + (S 19 (cl ((nI 39) + (((v1 - v3) - v4) - v5))))) ≤ v2 → (vp_in (nI 0) 4 ∧ (vp_in (nI 1) 4 ∧ (vp_in (nI 2) 4 ∧ (vp_in (nI 3) 4 ∧ PW l x g shM m_X12_findShared (Qi x g shM K) 46 [(0, .ref (g.ad 0)), (1, .int v1), (2, .int ((((S 19 (cl v3)) + (S 19 (cl ((nI 13) + v4)))) + (S 19 (cl ((nI 26) + v5)))) + (S 19 (cl ((nI 39) + (((v1 - v3) - v4) - v5)))))), (3, .int v3), (4, .int v4), (5, .int (v5 + (nI 1)))] [] (st2 (st2 (st2 (st2 S 20 (cl (nI 0)) v3) 20 (cl (nI 1)) v4) 20 (cl (nI 2)) v5) 20 (cl (nI 3)) (((v1 - v3) - v4) - v5))))))))))))))) : PW l x g shM m_X12_findShared (Qi x g shM K) 46 [(0, .ref (g.ad 0)), (1, .int v1), (2, .int v2), (3, .int v3), (4, .int v4), (5, .int v5)] [] S := by
  refine r_iload_n ok 3 dX12_findShared_46 rfl ?_
  refine r_iload ok 4 dX12_findShared_47 rfl ?_
  refine r_iadd ok dX12_findShared_49 ?_
  refine r_iload ok 5 dX12_findShared_50 rfl ?_
  refine r_iadd ok dX12_findShared_52 ?_
  refine r_iload_n ok 1 dX12_findShared_53 rfl ?_
  refine r_icmp_gt ok 155 dX12_findShared_54 (by decide) ⟨fun c => ?_, fun c => ?_⟩
  · have h := h.1 c
    refine r_iinc ok 4 (v4 + (nI 1)) [(4, .int (v4 + (nI 1))), (0, .ref (g.ad 0)), (1, .int v1), (2, .int v2), (3, .int v3), (5, .int v5)] dX12_findShared_155 rfl rfl (by decide) rfl ?_
    refine r_goto ok 35 dX12_findShared_158 (by decide) ?_
    exact r_sub [1, 2, 3, 4, 0] _ rfl h
  · have h := h.2 c
    refine r_iload_n ok 1 dX12_findShared_57 rfl ?_
    refine r_iload_n ok 3 dX12_findShared_58 rfl ?_
    refine r_isub ok dX12_findShared_59 ?_
    refine r_iload ok 4 dX12_findShared_60 rfl ?_
    refine r_isub ok dX12_findShared_62 ?_
    refine r_iload ok 5 dX12_findShared_63 rfl ?_
    refine r_isub ok dX12_findShared_65 ?_
    refine r_istore ok [(6, .int (((v1 - v3) - v4) - v5)), (0, .ref (g.ad 0)), (1, .int v1), (2, .int v2), (3, .int v3), (4, .int v4), (5, .int v5)] dX12_findShared_66 (by decide) rfl ?_
    refine r_aload_n ok 1 dX12_findShared_68 rfl ?_
    refine r_getR ok 0 24 rfl rfl fo_X12_66 dX12_findShared_69 ?_
    refine r_iload_n ok 4 dX12_findShared_72 rfl ?_
    refine r_iaload ok 19 rfl dX12_findShared_73 h.1 ?_
    have h := h.2
    refine r_aload_n ok 1 dX12_findShared_74 rfl ?_
    refine r_getR ok 0 24 rfl rfl fo_X12_66 dX12_findShared_75 ?_
    refine r_bipush ok (nI 13) dX12_findShared_78 (by decide) ?_
    refine r_iload ok 5 dX12_findShared_80 rfl ?_
    refine r_iadd ok dX12_findShared_82 ?_
    refine r_iaload ok 19 rfl dX12_findShared_83 h.1 ?_
    have h := h.2
    refine r_iadd ok dX12_findShared_84 ?_
    refine r_aload_n ok 1 dX12_findShared_85 rfl ?_
    refine r_getR ok 0 24 rfl rfl fo_X12_66 dX12_findShared_86 ?_
    refine r_bipush ok (nI 26) dX12_findShared_89 (by decide) ?_
    refine r_iload ok 6 dX12_findShared_91 rfl ?_
    refine r_iadd ok dX12_findShared_93 ?_
    refine r_iaload ok 19 rfl dX12_findShared_94 h.1 ?_
    have h := h.2
    refine r_iadd ok dX12_findShared_95 ?_
    refine r_aload_n ok 1 dX12_findShared_96 rfl ?_
    refine r_getR ok 0 24 rfl rfl fo_X12_66 dX12_findShared_97 ?_
    refine r_bipush ok (nI 39) dX12_findShared_100 (by decide) ?_
    refine r_iload ok 0 dX12_findShared_102 rfl ?_
    refine r_iadd ok dX12_findShared_104 ?_
    refine r_iaload ok 19 rfl dX12_findShared_105 h.1 ?_
    have h := h.2
    refine r_iadd ok dX12_findShared_106 ?_
    refine r_istore ok [(7, .int ((((S 19 (cl v3)) + (S 19 (cl ((nI 13) + v4)))) + (S 19 (cl ((nI 26) + v5)))) + (S 19 (cl ((nI 39) + (((v1 - v3) - v4) - v5)))))), (6, .int (((v1 - v3) - v4) - v5)), (0, .ref (g.ad 0)), (1, .int v1), (2, .int v2), (3, .int v3), (4, .int v4), (5, .int v5)] dX12_findShared_107 (by decide) rfl ?_
    refine r_iload ok 0 dX12_findShared_109 rfl ?_
    refine r_iload_n ok 4 dX12_findShared_111 rfl ?_
    refine r_icmp_le ok 149 dX12_findShared_112 (by decide) ⟨fun c => ?_, fun c => ?_⟩
    · have h := h.1 c
      refine r_iinc ok 7 (v5 + (nI 1)) [(5, .int (v5 + (nI 1))), (7, .int ((((S 19 (cl v3)) + (S 19 (cl ((nI 13) + v4)))) + (S 19 (cl ((nI 26) + v5)))) + (S 19 (cl ((nI 39) + (((v1 - v3) - v4) - v5)))))), (6, .int (((v1 - v3) - v4) - v5)), (0, .ref (g.ad 0)), (1, .int v1), (2, .int v2), (3, .int v3), (4, .int v4)] dX12_findShared_149 rfl rfl (by decide) rfl ?_
      refine r_goto ok 46 dX12_findShared_152 (by decide) ?_
      exact r_sub [3, 4, 5, 6, 7, 0] _ rfl h
    · have h := h.2 c
      refine r_iload ok 0 dX12_findShared_115 rfl ?_
      refine r_istore_n ok [(2, .int ((((S 19 (cl v3)) + (S 19 (cl ((nI 13) + v4)))) + (S 19 (cl ((nI 26) + v5)))) + (S 19 (cl ((nI 39) + (((v1 - v3) - v4) - v5)))))), (7, .int ((((S 19 (cl v3)) + (S 19 (cl ((nI 13) + v4)))) + (S 19 (cl ((nI 26) + v5)))) + (S 19 (cl ((nI 39) + (((v1 - v3) - v4) - v5)))))), (6, .int (((v1 - v3) - v4) - v5)), (0, .ref (g.ad 0)), (1, .int v1), (3, .int v3), (4, .int v4), (5, .int v5)] dX12_findShared_117 (by decide) rfl ?_
      refine r_aload_n ok 3 dX12_findShared_118 rfl ?_
      refine r_getR ok 0 25 rfl rfl fo_X12_69 dX12_findShared_119 ?_
      refine r_iconst ok (nI 0) dX12_findShared_122 (by decide) ?_
      refine r_iload_n ok 5 dX12_findShared_123 rfl ?_
      refine r_iastore ok 20 rfl dX12_findShared_124 h.1 ?_
      have h := h.2
      refine r_aload_n ok 3 dX12_findShared_125 rfl ?_
      refine r_getR ok 0 25 rfl rfl fo_X12_69 dX12_findShared_126 ?_
      refine r_iconst ok (nI 1) dX12_findShared_129 (by decide) ?_
      refine r_iload ok 6 dX12_findShared_130 rfl ?_
      refine r_iastore ok 20 rfl dX12_findShared_132 h.1 ?_
      have h := h.2
      refine r_aload_n ok 3 dX12_findShared_133 rfl ?_
      refine r_getR ok 0 25 rfl rfl fo_X12_69 dX12_findShared_134 ?_
      refine r_iconst ok (nI 2) dX12_findShared_137 (by decide) ?_
      refine r_iload ok 7 dX12_findShared_138 rfl ?_
      refine r_iastore ok 20 rfl dX12_findShared_140 h.1 ?_
      have h := h.2
      refine r_aload_n ok 3 dX12_findShared_141 rfl ?_
      refine r_getR ok 0 25 rfl rfl fo_X12_69 dX12_findShared_142 ?_
      refine r_iconst ok (nI 3) dX12_findShared_145 (by decide) ?_
      refine r_iload ok 2 dX12_findShared_146 rfl ?_
      refine r_iastore ok 20 rfl dX12_findShared_148 h.1 ?_
      have h := h.2
      refine r_iinc ok 7 (v5 + (nI 1)) [(5, .int (v5 + (nI 1))), (2, .int ((((S 19 (cl v3)) + (S 19 (cl ((nI 13) + v4)))) + (S 19 (cl ((nI 26) + v5)))) + (S 19 (cl ((nI 39) + (((v1 - v3) - v4) - v5)))))), (7, .int ((((S 19 (cl v3)) + (S 19 (cl ((nI 13) + v4)))) + (S 19 (cl ((nI 26) + v5)))) + (S 19 (cl ((nI 39) + (((v1 - v3) - v4) - v5)))))), (6, .int (((v1 - v3) - v4) - v5)), (0, .ref (g.ad 0)), (1, .int v1), (3, .int v3), (4, .int v4)] dX12_findShared_149 rfl rfl (by decide) rfl ?_
      refine r_goto ok 46 dX12_findShared_152 (by decide) ?_
      exact r_sub [4, 5, 1, 6, 7, 0] _ rfl h
set_option maxRecDepth 10000 in
theorem s_X12_shared_0 {l : Launch} {x : Cx} {g : Geo} {K : Int32 → Mem → Prop} (ok : Ok x g shM m_X12_shared) (v1 : Int32) (v2 : Int32) (S : Mem) (h : ((v2 = (-1) → MWi l g shM m_X12_in [.long v1.toInt64, .long (lN 0), .long (lN 12)] S (fun r1 S1 => ((¬ r1 = 0 → MWi l g shM m_X12_findShared [.ref (g.ad 0), .int v1] S1 (fun r2 S2 => ((¬ v2 = (-1) → (vp_in v2 4 ∧ K (S2 20 (cl v2)) S2)) ∧ (v2 = (-1) → K r2 S2)))) ∧ (r1 = 0 → K (-2) S1)))) ∧ (¬ v2 = (-1) → MWi l g shM m_X12_isChild [.int v2] S (fun r3 S3 => ((¬ r3 = 0 → MWi l g shM m_X12_in [.long v1.toInt64, .long (lN 0), .long (lN 12)] S3 (fun r4 S4 => ((¬ r4 = 0 → MWi l g shM m_X12_findShared [.ref (g.ad 0), .int v1] S4 (fun r5 S5 => ((¬ v2 = (-1) → (vp_in v2 4 ∧ K (S5 20 (cl v2)) S5)) ∧ (v2 = (-1) → K r5 S5)))) ∧ (r4 = 0 → K (-2) S4)))) ∧ (r3 = 0 → K (-1) S3)))))) : PW l x g shM m_X12_shared (Qi x g shM K) 0 [(0, .ref (g.ad 0)), (1, .int v1), (2, .int v2)] [] S := by
  refine r_iload_n ok 2 dX12_shared_0 rfl ?_
  refine r_iconst ok (-1) dX12_shared_1 (by decide) ?_
  refine r_icmp_eq ok 14 dX12_shared_2 (by decide) ⟨fun c => ?_, fun c => ?_⟩
  · have h := h.1 c
    refine r_iload_n ok 1 dX12_shared_14 rfl ?_
    refine r_i2l ok dX12_shared_15 ?_
    refine r_lconst ok (lN 0) dX12_shared_16 (by decide) ?_
    refine r_ldc2 ok (lN 12) dX12_shared_17 (gt_in (List.mem_of_getElem? (i := 1310) (by decide +kernel)) rfl) ?_
    refine r_stati ok (rest := []) (As := [.long v1.toInt64, .long (lN 0), .long (lN 12)]) _ k_X12_shared_80 rfl rfl (Nat.le_of_ble_eq_true rfl) dX12_shared_20 (MWi.mono h (fun r1 S1 h => ?_))
    refine r_if_ne ok 29 dX12_shared_23 (by decide) ⟨fun c => ?_, fun c => ?_⟩
    · have h := h.1 c
      refine r_aload_n ok 0 dX12_shared_29 rfl ?_
      refine r_iload_n ok 1 dX12_shared_30 rfl ?_
      refine r_virti ok (rest := []) (As := [.int v1]) 0 _ k_X12_shared_260 rfl rfl rfl rfl (Nat.le_of_ble_eq_true rfl) dX12_shared_31 (MWi.mono h (fun r2 S2 h => ?_))
      refine r_istore_n ok [(3, .int r2), (0, .ref (g.ad 0)), (1, .int v1), (2, .int v2)] dX12_shared_34 (by decide) rfl ?_
      refine r_iload_n ok 3 dX12_shared_35 rfl ?_
      refine r_iconst ok (-1) dX12_shared_36 (by decide) ?_
      refine r_icmp_ne ok 44 dX12_shared_37 (by decide) ⟨fun c => ?_, fun c => ?_⟩
      · have h := h.1 c
        refine r_aload_n ok 1 dX12_shared_44 rfl ?_
        refine r_getR ok 0 25 rfl rfl fo_X12_69 dX12_shared_45 ?_
        refine r_iload_n ok 3 dX12_shared_48 rfl ?_
        refine r_iaload ok 20 rfl dX12_shared_49 h.1 ?_
        have h := h.2
        exact r_iret ok rfl dX12_shared_50 h
      · have h := h.2 c
        refine r_iload_n ok 0 dX12_shared_40 rfl ?_
        refine r_goto ok 50 dX12_shared_41 (by decide) ?_
        exact r_iret ok rfl dX12_shared_50 h
    · have h := h.2 c
      refine r_bipush ok (-2) dX12_shared_26 (by decide) ?_
      exact r_iret ok rfl dX12_shared_28 h
  · have h := h.2 c
    refine r_iload_n ok 2 dX12_shared_5 rfl ?_
    refine r_stati ok (rest := []) (As := [.int v2]) _ k_X12_shared_160 rfl rfl (Nat.le_of_ble_eq_true rfl) dX12_shared_6 (MWi.mono h (fun r3 S3 h => ?_))
    refine r_if_ne ok 14 dX12_shared_9 (by decide) ⟨fun c => ?_, fun c => ?_⟩
    · have h := h.1 c
      refine r_iload_n ok 1 dX12_shared_14 rfl ?_
      refine r_i2l ok dX12_shared_15 ?_
      refine r_lconst ok (lN 0) dX12_shared_16 (by decide) ?_
      refine r_ldc2 ok (lN 12) dX12_shared_17 (gt_in (List.mem_of_getElem? (i := 1310) (by decide +kernel)) rfl) ?_
      refine r_stati ok (rest := []) (As := [.long v1.toInt64, .long (lN 0), .long (lN 12)]) _ k_X12_shared_80 rfl rfl (Nat.le_of_ble_eq_true rfl) dX12_shared_20 (MWi.mono h (fun r4 S4 h => ?_))
      refine r_if_ne ok 29 dX12_shared_23 (by decide) ⟨fun c => ?_, fun c => ?_⟩
      · have h := h.1 c
        refine r_aload_n ok 0 dX12_shared_29 rfl ?_
        refine r_iload_n ok 1 dX12_shared_30 rfl ?_
        refine r_virti ok (rest := []) (As := [.int v1]) 0 _ k_X12_shared_260 rfl rfl rfl rfl (Nat.le_of_ble_eq_true rfl) dX12_shared_31 (MWi.mono h (fun r5 S5 h => ?_))
        refine r_istore_n ok [(3, .int r5), (0, .ref (g.ad 0)), (1, .int v1), (2, .int v2)] dX12_shared_34 (by decide) rfl ?_
        refine r_iload_n ok 3 dX12_shared_35 rfl ?_
        refine r_iconst ok (-1) dX12_shared_36 (by decide) ?_
        refine r_icmp_ne ok 44 dX12_shared_37 (by decide) ⟨fun c => ?_, fun c => ?_⟩
        · have h := h.1 c
          refine r_aload_n ok 1 dX12_shared_44 rfl ?_
          refine r_getR ok 0 25 rfl rfl fo_X12_69 dX12_shared_45 ?_
          refine r_iload_n ok 3 dX12_shared_48 rfl ?_
          refine r_iaload ok 20 rfl dX12_shared_49 h.1 ?_
          have h := h.2
          exact r_iret ok rfl dX12_shared_50 h
        · have h := h.2 c
          refine r_iload_n ok 0 dX12_shared_40 rfl ?_
          refine r_goto ok 50 dX12_shared_41 (by decide) ?_
          exact r_iret ok rfl dX12_shared_50 h
      · have h := h.2 c
        refine r_bipush ok (-2) dX12_shared_26 (by decide) ?_
        exact r_iret ok rfl dX12_shared_28 h
    · have h := h.2 c
      refine r_iconst ok (-1) dX12_shared_12 (by decide) ?_
      exact r_iret ok rfl dX12_shared_13 h
set_option maxRecDepth 10000 in
theorem s_X12_allOften_0 {l : Launch} {x : Cx} {g : Geo} {K : Int32 → Mem → Prop} (ok : Ok x g shM m_X12_allOften) (S : Mem) (h : PW l x g shM m_X12_allOften (Qi x g shM K) 4 [(0, .ref (g.ad 0)), (1, .int (nI 0)), (2, .int (nI 0))] [] S) : PW l x g shM m_X12_allOften (Qi x g shM K) 0 [(0, .ref (g.ad 0))] [] S := by
  refine r_iconst ok (nI 0) dX12_allOften_0 (by decide) ?_
  refine r_istore_n ok [(1, .int (nI 0)), (0, .ref (g.ad 0))] dX12_allOften_1 (by decide) rfl ?_
  refine r_iconst ok (nI 0) dX12_allOften_2 (by decide) ?_
  refine r_istore_n ok [(2, .int (nI 0)), (1, .int (nI 0)), (0, .ref (g.ad 0))] dX12_allOften_3 (by decide) rfl ?_
  exact r_sub [2, 1, 0] _ rfl h
set_option maxRecDepth 10000 in
theorem s_X12_allOften_4 {l : Launch} {x : Cx} {g : Geo} {K : Int32 → Mem → Prop} (ok : Ok x g shM m_X12_allOften) (v1 : Int32) (v2 : Int32) (S : Mem) (h : (((S 0 4) ≤ v2 → K v1 S) ∧ (¬ (S 0 4) ≤ v2 → (vp_in v2 12 ∧ PW l x g shM m_X12_allOften (Qi x g shM K) 4 [(0, .ref (g.ad 0)), (1, .int (v1 + (S 4 (cl v2)))), (2, .int (v2 + (nI 1)))] [] S)))) : PW l x g shM m_X12_allOften (Qi x g shM K) 4 [(0, .ref (g.ad 0)), (1, .int v1), (2, .int v2)] [] S := by
  refine r_iload_n ok 2 dX12_allOften_4 rfl ?_
  refine r_aload_n ok 0 dX12_allOften_5 rfl ?_
  refine r_getI ok 0 4 rfl rfl fo_X12_105 dX12_allOften_6 ?_
  refine r_icmp_ge ok 27 dX12_allOften_9 (by decide) ⟨fun c => ?_, fun c => ?_⟩
  · have h := h.1 c
    refine r_iload_n ok 1 dX12_allOften_27 rfl ?_
    exact r_iret ok rfl dX12_allOften_28 h
  · have h := h.2 c
    refine r_iload_n ok 1 dX12_allOften_12 rfl ?_
    refine r_aload_n ok 0 dX12_allOften_13 rfl ?_
    refine r_getR ok 0 3 rfl rfl fo_X12_19 dX12_allOften_14 ?_
    refine r_iload_n ok 2 dX12_allOften_17 rfl ?_
    refine r_iaload ok 4 rfl dX12_allOften_18 h.1 ?_
    have h := h.2
    refine r_iadd ok dX12_allOften_19 ?_
    refine r_istore_n ok [(1, .int (v1 + (S 4 (cl v2)))), (0, .ref (g.ad 0)), (2, .int v2)] dX12_allOften_20 (by decide) rfl ?_
    refine r_iinc ok 2 (v2 + (nI 1)) [(2, .int (v2 + (nI 1))), (1, .int (v1 + (S 4 (cl v2)))), (0, .ref (g.ad 0))] dX12_allOften_21 rfl rfl (by decide) rfl ?_
    refine r_goto ok 4 dX12_allOften_24 (by decide) ?_
    exact r_sub [2, 1, 0] _ rfl h
set_option maxRecDepth 10000 in
theorem s_X12_byItself_0 {l : Launch} {x : Cx} {g : Geo} {K : Int32 → Mem → Prop} (ok : Ok x g shM m_X12_byItself) (v1 : Int32) (v2 : Int32) (S : Mem) (h : (vp_in v1 4 ∧ (vp_in v1 4 ∧ MWi l g shM m_X12_allOften [.ref (g.ad 0)] S (fun r1 S1 => MWi l g shM m_X12_shareOf [.ref (g.ad 0), .int v1, .int (S 9 (cl v1)), .int (S 10 (cl v1))] (st2 S1 0 26 (nI 0)) (fun r2 S2 => PW l x g shM m_X12_byItself (Qi x g shM K) 36 [(0, .ref (g.ad 0)), (1, .int v1), (2, .int v2), (3, .int (S 10 (cl v1))), (4, .int (S 9 (cl v1))), (5, .int r1), (6, .int r2)] [] S2))))) : PW l x g shM m_X12_byItself (Qi x g shM K) 0 [(0, .ref (g.ad 0)), (1, .int v1), (2, .int v2)] [] S := by
  refine r_aload_n ok 0 dX12_byItself_0 rfl ?_
  refine r_getR ok 0 12 rfl rfl fo_X12_37 dX12_byItself_1 ?_
  refine r_iload_n ok 1 dX12_byItself_4 rfl ?_
  refine r_iaload ok 10 rfl dX12_byItself_5 h.1 ?_
  have h := h.2
  refine r_istore_n ok [(3, .int (S 10 (cl v1))), (0, .ref (g.ad 0)), (1, .int v1), (2, .int v2)] dX12_byItself_6 (by decide) rfl ?_
  refine r_aload_n ok 1 dX12_byItself_7 rfl ?_
  refine r_getR ok 0 11 rfl rfl fo_X12_34 dX12_byItself_8 ?_
  refine r_iload_n ok 2 dX12_byItself_11 rfl ?_
  refine r_iaload ok 9 rfl dX12_byItself_12 h.1 ?_
  have h := h.2
  refine r_istore ok [(4, .int (S 9 (cl v1))), (3, .int (S 10 (cl v1))), (0, .ref (g.ad 0)), (1, .int v1), (2, .int v2)] dX12_byItself_13 (by decide) rfl ?_
  refine r_aload_n ok 2 dX12_byItself_15 rfl ?_
  refine r_virti ok (rest := []) (As := []) 0 _ k_X12_byItself_263 rfl rfl rfl rfl (Nat.le_of_ble_eq_true rfl) dX12_byItself_16 (MWi.mono h (fun r1 S1 h => ?_))
  refine r_istore ok [(5, .int r1), (4, .int (S 9 (cl v1))), (3, .int (S 10 (cl v1))), (0, .ref (g.ad 0)), (1, .int v1), (2, .int v2)] dX12_byItself_19 (by decide) rfl ?_
  refine r_aload_n ok 3 dX12_byItself_21 rfl ?_
  refine r_iconst ok (nI 0) dX12_byItself_22 (by decide) ?_
  refine r_put ok 0 26 rfl rfl po_X12_266 rfl rfl dX12_byItself_23 ?_
  refine r_aload_n ok 3 dX12_byItself_26 rfl ?_
  refine r_iload_n ok 4 dX12_byItself_27 rfl ?_
  refine r_iload ok 1 dX12_byItself_28 rfl ?_
  refine r_iload_n ok 2 dX12_byItself_30 rfl ?_
  refine r_virti ok (rest := []) (As := [.int v1, .int (S 9 (cl v1)), .int (S 10 (cl v1))]) 0 _ k_X12_byItself_193 rfl rfl rfl rfl (Nat.le_of_ble_eq_true rfl) dX12_byItself_31 (MWi.mono h (fun r2 S2 h => ?_))
  refine r_istore ok [(6, .int r2), (5, .int r1), (4, .int (S 9 (cl v1))), (3, .int (S 10 (cl v1))), (0, .ref (g.ad 0)), (1, .int v1), (2, .int v2)] dX12_byItself_34 (by decide) rfl ?_
  exact r_sub [4, 5, 6, 3, 2, 1, 0] _ rfl h
set_option maxRecDepth 10000 in
theorem s_X12_byItself_36 {l : Launch} {x : Cx} {g : Geo} {K : Int32 → Mem → Prop} (ok : Ok x g shM m_X12_byItself) (v1 : Int32) (v2 : Int32) (v3 : Int32) (v4 : Int32) (v5 : Int32) (v6 : Int32) (S : Mem) (h : ((v5 ≤ v6 → K v6 S) ∧ (¬ v5 ≤ v6 → ((((nI 1000) * v6) < (v2 * v5) → K v6 S) ∧ (¬ ((nI 1000) * v6) < (v2 * v5) → PW l x g shM m_X12_byItself (Qi x g shM K) 63 [(0, .ref (g.ad 0)), (1, .int v1), (2, .int v2), (3, .int v3), (4, .int v4), (5, .int v5), (7, .int (-6)), (8, .int (nI 0))] [] S))))) : PW l x g shM m_X12_byItself (Qi x g shM K) 36 [(0, .ref (g.ad 0)), (1, .int v1), (2, .int v2), (3, .int v3), (4, .int v4), (5, .int v5), (6, .int v6)] [] S := by
  refine r_iload ok 6 dX12_byItself_36 rfl ?_
  refine r_iload ok 5 dX12_byItself_38 rfl ?_
  refine r_icmp_ge ok 152 dX12_byItself_40 (by decide) ⟨fun c => ?_, fun c => ?_⟩
  · have h := h.1 c
    refine r_iload ok 6 dX12_byItself_152 rfl ?_
    exact r_iret ok rfl dX12_byItself_154 h
  · have h := h.2 c
    refine r_sipush ok (nI 1000) dX12_byItself_43 (by decide) ?_
    refine r_iload ok 6 dX12_byItself_46 rfl ?_
    refine r_imul ok dX12_byItself_48 ?_
    refine r_iload_n ok 2 dX12_byItself_49 rfl ?_
    refine r_iload ok 5 dX12_byItself_50 rfl ?_
    refine r_imul ok dX12_byItself_52 ?_
    refine r_icmp_lt ok 152 dX12_byItself_53 (by decide) ⟨fun c => ?_, fun c => ?_⟩
    · have h := h.1 c
      refine r_iload ok 6 dX12_byItself_152 rfl ?_
      exact r_iret ok rfl dX12_byItself_154 h
    · have h := h.2 c
      refine r_bipush ok (-6) dX12_byItself_56 (by decide) ?_
      refine r_istore ok [(7, .int (-6)), (0, .ref (g.ad 0)), (1, .int v1), (2, .int v2), (3, .int v3), (4, .int v4), (5, .int v5), (6, .int v6)] dX12_byItself_58 (by decide) rfl ?_
      refine r_iconst ok (nI 0) dX12_byItself_60 (by decide) ?_
      refine r_istore ok [(8, .int (nI 0)), (7, .int (-6)), (0, .ref (g.ad 0)), (1, .int v1), (2, .int v2), (3, .int v3), (4, .int v4), (5, .int v5), (6, .int v6)] dX12_byItself_61 (by decide) rfl ?_
      exact r_sub [2, 3, 4, 5, 6, 7, 1, 0] _ rfl h
set_option maxRecDepth 10000 in
theorem s_X12_byItself_63 {l : Launch} {x : Cx} {g : Geo} {K : Int32 → Mem → Prop} (ok : Ok x g shM m_X12_byItself) (v1 : Int32) (v2 : Int32) (v3 : Int32) (v4 : Int32) (v5 : Int32) (v7 : Int32) (v8 : Int32) (S : Mem) (h : (((S 0 4) ≤ v8 → MWi l g shM m_X12_shareOf [.ref (g.ad 0), .int v1, .int v4, .int (v3 ||| (jshl (nI 1) v7))] (st2 S 0 26 ((S 0 26) + (nI 1))) (fun r1 S1 => PW l x g shM m_X12_byItself (Qi x g shM K) 36 [(0, .ref (g.ad 0)), (1, .int v1), (2, .int v2), (3, .int (v3 ||| (jshl (nI 1) v7))), (4, .int v4), (5, .int v5), (6, .int r1)] [] S1)) ∧ (¬ (S 0 4) ≤ v8 → MWi l g shM m_X12_canRead [.ref (g.ad 0), .int v1, .int v4, .int v3, .int v8] S (fun r2 S2 => ((¬ r2 = 0 → PW l x g shM m_X12_byItself (Qi x g shM K) 63 [(0, .ref (g.ad 0)), (1, .int v1), (2, .int v2), (3, .int v3), (4, .int v4), (5, .int v5), (7, .int v7), (8, .int (v8 + (nI 1)))] [] S2) ∧ (r2 = 0 → ((v7 < 0 → PW l x g shM m_X12_byItself (Qi x g shM K) 63 [(0, .ref (g.ad 0)), (1, .int v1), (2, .int v2), (3, .int v3), (4, .int v4), (5, .int v5), (7, .int v8), (8, .int (v8 + (nI 1)))] [] S2) ∧ (¬ v7 < 0 → (vp_in v8 12 ∧ (vp_in v7 12 ∧ (((S2 4 (cl v8)) ≤ (S2 4 (cl v7)) → PW l x g shM m_X12_byItself (Qi x g shM K) 63 [(0, .ref (g.ad 0)), (1, .int v1), (2, .int v2), (3, .int v3), (4, .int v4), (5, .int v5), (7, .int v7), (8, .int (v8 + (nI 1)))] [] S2) ∧ (¬ (S2 4 (cl v8)) ≤ (S2 4 (cl v7)) → PW l x g shM m_X12_byItself (Qi x g shM K) 63 [(0, .ref (g.ad 0)), (1, .int v1), (2, .int v2), (3, .int v3), (4, .int v4), (5, .int v5), (7, .int v8), (8, .int (v8 + (nI 1)))] [] S2)))))))))))) : PW l x g shM m_X12_byItself (Qi x g shM K) 63 [(0, .ref (g.ad 0)), (1, .int v1), (2, .int v2), (3, .int v3), (4, .int v4), (5, .int v5), (7, .int v7), (8, .int v8)] [] S := by
  refine r_iload ok 7 dX12_byItself_63 rfl ?_
  refine r_aload_n ok 0 dX12_byItself_65 rfl ?_
  refine r_getI ok 0 4 rfl rfl fo_X12_105 dX12_byItself_66 ?_
  refine r_icmp_ge ok 122 dX12_byItself_69 (by decide) ⟨fun c => ?_, fun c => ?_⟩
  · have h := h.1 c
    refine r_iload_n ok 3 dX12_byItself_122 rfl ?_
    refine r_iconst ok (nI 1) dX12_byItself_123 (by decide) ?_
    refine r_iload ok 6 dX12_byItself_124 rfl ?_
    refine r_ishl ok dX12_byItself_126 ?_
    refine r_ior ok dX12_byItself_127 ?_
    refine r_istore_n ok [(3, .int (v3 ||| (jshl (nI 1) v7))), (0, .ref (g.ad 0)), (1, .int v1), (2, .int v2), (4, .int v4), (5, .int v5), (7, .int v7), (8, .int v8)] dX12_byItself_128 (by decide) rfl ?_
    refine r_aload_n ok 1 dX12_byItself_129 rfl ?_
    refine r_dup ok dX12_byItself_130 rfl ?_
    refine r_getI ok 0 26 rfl rfl fo_X12_266 dX12_byItself_131 ?_
    refine r_iconst ok (nI 1) dX12_byItself_134 (by decide) ?_
    refine r_iadd ok dX12_byItself_135 ?_
    refine r_put ok 0 26 rfl rfl po_X12_266 rfl rfl dX12_byItself_136 ?_
    refine r_aload_n ok 1 dX12_byItself_139 rfl ?_
    refine r_iload_n ok 2 dX12_byItself_140 rfl ?_
    refine r_iload ok 4 dX12_byItself_141 rfl ?_
    refine r_iload_n ok 0 dX12_byItself_143 rfl ?_
    refine r_virti ok (rest := []) (As := [.int v1, .int v4, .int (v3 ||| (jshl (nI 1) v7))]) 0 _ k_X12_byItself_193 rfl rfl rfl rfl (Nat.le_of_ble_eq_true rfl) dX12_byItself_144 (MWi.mono h (fun r1 S1 h => ?_))
    refine r_istore ok [(6, .int r1), (3, .int (v3 ||| (jshl (nI 1) v7))), (0, .ref (g.ad 0)), (1, .int v1), (2, .int v2), (4, .int v4), (5, .int v5), (7, .int v7), (8, .int v8)] dX12_byItself_147 (by decide) rfl ?_
    refine r_goto ok 36 dX12_byItself_149 (by decide) ?_
    exact r_sub [2, 3, 4, 1, 5, 6, 0] _ rfl h
  · have h := h.2 c
    refine r_aload_n ok 0 dX12_byItself_72 rfl ?_
    refine r_iload_n ok 1 dX12_byItself_73 rfl ?_
    refine r_iload ok 4 dX12_byItself_74 rfl ?_
    refine r_iload_n ok 3 dX12_byItself_76 rfl ?_
    refine r_iload ok 7 dX12_byItself_77 rfl ?_
    refine r_virti ok (rest := []) (As := [.int v1, .int v4, .int v3, .int v8]) 0 _ k_X12_byItself_189 rfl rfl rfl rfl (Nat.le_of_ble_eq_true rfl) dX12_byItself_79 (MWi.mono h (fun r2 S2 h => ?_))
    refine r_if_ne ok 112 dX12_byItself_82 (by decide) ⟨fun c => ?_, fun c => ?_⟩
    · have h := h.1 c
      refine r_iload ok 6 dX12_byItself_112 rfl ?_
      refine r_istore ok [(7, .int v7), (0, .ref (g.ad 0)), (1, .int v1), (2, .int v2), (3, .int v3), (4, .int v4), (5, .int v5), (8, .int v8)] dX12_byItself_114 (by decide) rfl ?_
      refine r_iinc ok 7 (v8 + (nI 1)) [(8, .int (v8 + (nI 1))), (7, .int v7), (0, .ref (g.ad 0)), (1, .int v1), (2, .int v2), (3, .int v3), (4, .int v4), (5, .int v5)] dX12_byItself_116 rfl rfl (by decide) rfl ?_
      refine r_goto ok 63 dX12_byItself_119 (by decide) ?_
      exact r_sub [2, 3, 4, 5, 6, 7, 1, 0] _ rfl h
    · have h := h.2 c
      refine r_iload ok 6 dX12_byItself_85 rfl ?_
      refine r_if_lt ok 107 dX12_byItself_87 (by decide) ⟨fun c => ?_, fun c => ?_⟩
      · have h := h.1 c
        refine r_iload ok 7 dX12_byItself_107 rfl ?_
        refine r_goto ok 114 dX12_byItself_109 (by decide) ?_
        refine r_istore ok [(7, .int v8), (0, .ref (g.ad 0)), (1, .int v1), (2, .int v2), (3, .int v3), (4, .int v4), (5, .int v5), (8, .int v8)] dX12_byItself_114 (by decide) rfl ?_
        refine r_iinc ok 7 (v8 + (nI 1)) [(8, .int (v8 + (nI 1))), (7, .int v8), (0, .ref (g.ad 0)), (1, .int v1), (2, .int v2), (3, .int v3), (4, .int v4), (5, .int v5)] dX12_byItself_116 rfl rfl (by decide) rfl ?_
        refine r_goto ok 63 dX12_byItself_119 (by decide) ?_
        exact r_sub [2, 3, 4, 5, 6, 7, 1, 0] _ rfl h
      · have h := h.2 c
        refine r_aload_n ok 0 dX12_byItself_90 rfl ?_
        refine r_getR ok 0 3 rfl rfl fo_X12_19 dX12_byItself_91 ?_
        refine r_iload ok 7 dX12_byItself_94 rfl ?_
        refine r_iaload ok 4 rfl dX12_byItself_96 h.1 ?_
        have h := h.2
        refine r_aload_n ok 0 dX12_byItself_97 rfl ?_
        refine r_getR ok 0 3 rfl rfl fo_X12_19 dX12_byItself_98 ?_
        refine r_iload ok 6 dX12_byItself_101 rfl ?_
        refine r_iaload ok 4 rfl dX12_byItself_103 h.1 ?_
        have h := h.2
        refine r_icmp_le ok 112 dX12_byItself_104 (by decide) ⟨fun c => ?_, fun c => ?_⟩
        · have h := h.1 c
          refine r_iload ok 6 dX12_byItself_112 rfl ?_
          refine r_istore ok [(7, .int v7), (0, .ref (g.ad 0)), (1, .int v1), (2, .int v2), (3, .int v3), (4, .int v4), (5, .int v5), (8, .int v8)] dX12_byItself_114 (by decide) rfl ?_
          refine r_iinc ok 7 (v8 + (nI 1)) [(8, .int (v8 + (nI 1))), (7, .int v7), (0, .ref (g.ad 0)), (1, .int v1), (2, .int v2), (3, .int v3), (4, .int v4), (5, .int v5)] dX12_byItself_116 rfl rfl (by decide) rfl ?_
          refine r_goto ok 63 dX12_byItself_119 (by decide) ?_
          exact r_sub [2, 3, 4, 5, 6, 7, 1, 0] _ rfl h
        · have h := h.2 c
          refine r_iload ok 7 dX12_byItself_107 rfl ?_
          refine r_goto ok 114 dX12_byItself_109 (by decide) ?_
          refine r_istore ok [(7, .int v8), (0, .ref (g.ad 0)), (1, .int v1), (2, .int v2), (3, .int v3), (4, .int v4), (5, .int v5), (8, .int v8)] dX12_byItself_114 (by decide) rfl ?_
          refine r_iinc ok 7 (v8 + (nI 1)) [(8, .int (v8 + (nI 1))), (7, .int v8), (0, .ref (g.ad 0)), (1, .int v1), (2, .int v2), (3, .int v3), (4, .int v4), (5, .int v5)] dX12_byItself_116 rfl rfl (by decide) rfl ?_
          refine r_goto ok 63 dX12_byItself_119 (by decide) ?_
          exact r_sub [2, 3, 4, 5, 6, 7, 1, 0] _ rfl h
set_option maxRecDepth 10000 in
theorem s_X12_itself_0 {l : Launch} {x : Cx} {g : Geo} {K : Int32 → Mem → Prop} (ok : Ok x g shM m_X12_itself) (v1 : Int32) (v2 : Int32) (v3 : Int32) (S : Mem) (h : MWi l g shM m_X12_isChild [.int v1] S (fun r1 S1 => ((¬ r1 = 0 → MWi l g shM m_X12_in [.long v2.toInt64, .long (lN 0), .long (lN 1000)] S1 (fun r2 S2 => ((r2 = 0 → K (-2) S2) ∧ (¬ r2 = 0 → MWi l g shM m_X12_isEnd [.int v3] S2 (fun r3 S3 => ((¬ r3 = 0 → MWv l g shM m_X12_findCommon [.ref (g.ad 0)] S3 (fun S4 => MWi l g shM m_X12_byItself [.ref (g.ad 0), .int v1, .int v2] S4 (fun r5 S5 => ((¬ v3 = 0 → K r5 S5) ∧ (v3 = 0 → K (S5 0 26) S5))))) ∧ (r3 = 0 → K (-2) S3))))))) ∧ (r1 = 0 → K (-1) S1)))) : PW l x g shM m_X12_itself (Qi x g shM K) 0 [(0, .ref (g.ad 0)), (1, .int v1), (2, .int v2), (3, .int v3)] [] S := by
  refine r_iload_n ok 1 dX12_itself_0 rfl ?_
  refine r_stati ok (rest := []) (As := [.int v1]) _ k_X12_itself_160 rfl rfl (Nat.le_of_ble_eq_true rfl) dX12_itself_1 (MWi.mono h (fun r1 S1 h => ?_))
  refine r_if_ne ok 9 dX12_itself_4 (by decide) ⟨fun c => ?_, fun c => ?_⟩
  · have h := h.1 c
    refine r_iload_n ok 2 dX12_itself_9 rfl ?_
    refine r_i2l ok dX12_itself_10 ?_
    refine r_lconst ok (lN 0) dX12_itself_11 (by decide) ?_
    refine r_ldc2 ok (lN 1000) dX12_itself_12 (gt_in (List.mem_of_getElem? (i := 1327) (by decide +kernel)) rfl) ?_
    refine r_stati ok (rest := []) (As := [.long v2.toInt64, .long (lN 0), .long (lN 1000)]) _ k_X12_itself_80 rfl rfl (Nat.le_of_ble_eq_true rfl) dX12_itself_15 (MWi.mono h (fun r2 S2 h => ?_))
    refine r_if_eq ok 28 dX12_itself_18 (by decide) ⟨fun c => ?_, fun c => ?_⟩
    · have h := h.1 c
      refine r_bipush ok (-2) dX12_itself_28 (by decide) ?_
      exact r_iret ok rfl dX12_itself_30 h
    · have h := h.2 c
      refine r_iload_n ok 3 dX12_itself_21 rfl ?_
      refine r_stati ok (rest := []) (As := [.int v3]) _ k_X12_itself_148 rfl rfl (Nat.le_of_ble_eq_true rfl) dX12_itself_22 (MWi.mono h (fun r3 S3 h => ?_))
      refine r_if_ne ok 31 dX12_itself_25 (by decide) ⟨fun c => ?_, fun c => ?_⟩
      · have h := h.1 c
        refine r_aload_n ok 0 dX12_itself_31 rfl ?_
        refine r_virtv ok (rest := []) (As := []) 0 _ k_X12_itself_137 rfl rfl rfl rfl (Nat.le_of_ble_eq_true rfl) dX12_itself_32 (MWv.mono h (fun S4 h => ?_))
        refine r_aload_n ok 0 dX12_itself_35 rfl ?_
        refine r_iload_n ok 1 dX12_itself_36 rfl ?_
        refine r_iload_n ok 2 dX12_itself_37 rfl ?_
        refine r_virti ok (rest := []) (As := [.int v1, .int v2]) 0 _ k_X12_itself_271 rfl rfl rfl rfl (Nat.le_of_ble_eq_true rfl) dX12_itself_38 (MWi.mono h (fun r5 S5 h => ?_))
        refine r_istore ok [(4, .int r5), (0, .ref (g.ad 0)), (1, .int v1), (2, .int v2), (3, .int v3)] dX12_itself_41 (by decide) rfl ?_
        refine r_iload_n ok 4 dX12_itself_43 rfl ?_
        refine r_if_ne ok 54 dX12_itself_44 (by decide) ⟨fun c => ?_, fun c => ?_⟩
        · have h := h.1 c
          refine r_iload ok 0 dX12_itself_54 rfl ?_
          exact r_iret ok rfl dX12_itself_56 h
        · have h := h.2 c
          refine r_aload_n ok 1 dX12_itself_47 rfl ?_
          refine r_getI ok 0 26 rfl rfl fo_X12_266 dX12_itself_48 ?_
          refine r_goto ok 56 dX12_itself_51 (by decide) ?_
          exact r_iret ok rfl dX12_itself_56 h
      · have h := h.2 c
        refine r_bipush ok (-2) dX12_itself_28 (by decide) ?_
        exact r_iret ok rfl dX12_itself_30 h
  · have h := h.2 c
    refine r_iconst ok (-1) dX12_itself_7 (by decide) ?_
    exact r_iret ok rfl dX12_itself_8 h
set_option maxRecDepth 10000 in
theorem s_X12_line_0 {l : Launch} {x : Cx} {g : Geo} {K : Int32 → Mem → Prop} (ok : Ok x g shM m_X12_line) (v1 : Int32) (S : Mem) (h : MWi l g shM m_X12_isChild [.int v1] S (fun r1 S1 => ((¬ r1 = 0 → MWv l g shM m_X12_findCommon [.ref (g.ad 0)] S1 (fun S2 => PW l x g shM m_X12_line (Qi x g shM K) 17 [(0, .ref (g.ad 0)), (1, .int v1), (2, .int (nI 1000))] [] S2)) ∧ (r1 = 0 → K (-1) S1)))) : PW l x g shM m_X12_line (Qi x g shM K) 0 [(0, .ref (g.ad 0)), (1, .int v1)] [] S := by
  refine r_iload_n ok 1 dX12_line_0 rfl ?_
  refine r_stati ok (rest := []) (As := [.int v1]) _ k_X12_line_160 rfl rfl (Nat.le_of_ble_eq_true rfl) dX12_line_1 (MWi.mono h (fun r1 S1 h => ?_))
  refine r_if_ne ok 9 dX12_line_4 (by decide) ⟨fun c => ?_, fun c => ?_⟩
  · have h := h.1 c
    refine r_aload_n ok 0 dX12_line_9 rfl ?_
    refine r_virtv ok (rest := []) (As := []) 0 _ k_X12_line_137 rfl rfl rfl rfl (Nat.le_of_ble_eq_true rfl) dX12_line_10 (MWv.mono h (fun S2 h => ?_))
    refine r_sipush ok (nI 1000) dX12_line_13 (by decide) ?_
    refine r_istore_n ok [(2, .int (nI 1000)), (0, .ref (g.ad 0)), (1, .int v1)] dX12_line_16 (by decide) rfl ?_
    exact r_sub [1, 2, 0] _ rfl h
  · have h := h.2 c
    refine r_iconst ok (-1) dX12_line_7 (by decide) ?_
    exact r_iret ok rfl dX12_line_8 h
set_option maxRecDepth 10000 in
theorem s_X12_line_17 {l : Launch} {x : Cx} {g : Geo} {K : Int32 → Mem → Prop} (ok : Ok x g shM m_X12_line) (v1 : Int32) (v2 : Int32) (S : Mem) (h : MWi l g shM m_X12_byItself [.ref (g.ad 0), .int v1, .int v2] S (fun r1 S1 => MWi l g shM m_X12_allOften [.ref (g.ad 0)] S1 (fun r2 S2 => ((r2 ≤ r1 → K v2 S2) ∧ (¬ r2 ≤ r1 → PW l x g shM m_X12_line (Qi x g shM K) 17 [(0, .ref (g.ad 0)), (1, .int v1), (2, .int (v2 + (-1)))] [] S2))))) : PW l x g shM m_X12_line (Qi x g shM K) 17 [(0, .ref (g.ad 0)), (1, .int v1), (2, .int v2)] [] S := by
  refine r_aload_n ok 0 dX12_line_17 rfl ?_
  refine r_iload_n ok 1 dX12_line_18 rfl ?_
  refine r_iload_n ok 2 dX12_line_19 rfl ?_
  refine r_virti ok (rest := []) (As := [.int v1, .int v2]) 0 _ k_X12_line_271 rfl rfl rfl rfl (Nat.le_of_ble_eq_true rfl) dX12_line_20 (MWi.mono h (fun r1 S1 h => ?_))
  refine r_aload_n ok 0 dX12_line_23 rfl ?_
  refine r_virti ok (rest := [.int r1]) (As := []) 0 _ k_X12_line_263 rfl rfl rfl rfl (Nat.le_of_ble_eq_true rfl) dX12_line_24 (MWi.mono h (fun r2 S2 h => ?_))
  refine r_icmp_ge ok 36 dX12_line_27 (by decide) ⟨fun c => ?_, fun c => ?_⟩
  · have h := h.1 c
    refine r_iload_n ok 2 dX12_line_36 rfl ?_
    exact r_iret ok rfl dX12_line_37 h
  · have h := h.2 c
    refine r_iinc ok 2 (v2 + (-1)) [(2, .int (v2 + (-1))), (0, .ref (g.ad 0)), (1, .int v1)] dX12_line_30 rfl rfl (by decide) rfl ?_
    refine r_goto ok 17 dX12_line_33 (by decide) ?_
    exact r_sub [1, 2, 0] _ rfl h
set_option maxRecDepth 10000 in
theorem s_X12_pass_0 {l : Launch} {x : Cx} {g : Geo} {K : Int32 → Mem → Prop} (ok : Ok x g shM m_X12_pass) (v1 : Int32) (S : Mem) (h : (((S 0 30) = 0 → (vp_in (S 0 29) 440 ∧ (vp_in (S 0 29) 440 ∧ K (S 21 (cl (S 0 29))) (st2 (st2 S 21 (cl (S 0 29)) (S 21 (cl (S 0 29)))) 0 29 (((st2 S 21 (cl (S 0 29)) (S 21 (cl (S 0 29)))) 0 29) + (nI 1)))))) ∧ (¬ (S 0 30) = 0 → (vp_in (S 0 29) 440 ∧ K v1 (st2 (st2 S 21 (cl (S 0 29)) v1) 0 29 (((st2 S 21 (cl (S 0 29)) v1) 0 29) + (nI 1))))))) : PW l x g shM m_X12_pass (Qi x g shM K) 0 [(0, .ref (g.ad 0)), (1, .int v1)] [] S := by
  refine r_aload_n ok 0 dX12_pass_0 rfl ?_
  refine r_getI ok 0 30 rfl rfl fo_X12_274 dX12_pass_1 ?_
  refine r_if_eq ok 11 dX12_pass_4 (by decide) ⟨fun c => ?_, fun c => ?_⟩
  · have h := h.1 c
    refine r_aload_n ok 0 dX12_pass_11 rfl ?_
    refine r_getR ok 0 27 rfl rfl fo_X12_72 dX12_pass_12 ?_
    refine r_aload_n ok 0 dX12_pass_15 rfl ?_
    refine r_getI ok 0 29 rfl rfl fo_X12_278 dX12_pass_16 ?_
    refine r_iaload ok 21 rfl dX12_pass_19 h.1 ?_
    have h := h.2
    refine r_istore_n ok [(2, .int (S 21 (cl (S 0 29)))), (0, .ref (g.ad 0)), (1, .int v1)] dX12_pass_20 (by decide) rfl ?_
    refine r_aload_n ok 1 dX12_pass_21 rfl ?_
    refine r_getR ok 0 27 rfl rfl fo_X12_72 dX12_pass_22 ?_
    refine r_aload_n ok 1 dX12_pass_25 rfl ?_
    refine r_getI ok 0 29 rfl rfl fo_X12_278 dX12_pass_26 ?_
    refine r_iload_n ok 0 dX12_pass_29 rfl ?_
    refine r_iastore ok 21 rfl dX12_pass_30 h.1 ?_
    have h := h.2
    refine r_aload_n ok 1 dX12_pass_31 rfl ?_
    refine r_dup ok dX12_pass_32 rfl ?_
    refine r_getI ok 0 29 rfl rfl fo_X12_278 dX12_pass_33 ?_
    refine r_iconst ok (nI 1) dX12_pass_36 (by decide) ?_
    refine r_iadd ok dX12_pass_37 ?_
    refine r_put ok 0 29 rfl rfl po_X12_278 rfl rfl dX12_pass_38 ?_
    refine r_iload_n ok 0 dX12_pass_41 rfl ?_
    exact r_iret ok rfl dX12_pass_42 h
  · have h := h.2 c
    refine r_iload_n ok 1 dX12_pass_7 rfl ?_
    refine r_goto ok 20 dX12_pass_8 (by decide) ?_
    refine r_istore_n ok [(2, .int v1), (0, .ref (g.ad 0)), (1, .int v1)] dX12_pass_20 (by decide) rfl ?_
    refine r_aload_n ok 1 dX12_pass_21 rfl ?_
    refine r_getR ok 0 27 rfl rfl fo_X12_72 dX12_pass_22 ?_
    refine r_aload_n ok 1 dX12_pass_25 rfl ?_
    refine r_getI ok 0 29 rfl rfl fo_X12_278 dX12_pass_26 ?_
    refine r_iload_n ok 0 dX12_pass_29 rfl ?_
    refine r_iastore ok 21 rfl dX12_pass_30 h.1 ?_
    have h := h.2
    refine r_aload_n ok 1 dX12_pass_31 rfl ?_
    refine r_dup ok dX12_pass_32 rfl ?_
    refine r_getI ok 0 29 rfl rfl fo_X12_278 dX12_pass_33 ?_
    refine r_iconst ok (nI 1) dX12_pass_36 (by decide) ?_
    refine r_iadd ok dX12_pass_37 ?_
    refine r_put ok 0 29 rfl rfl po_X12_278 rfl rfl dX12_pass_38 ?_
    refine r_iload_n ok 0 dX12_pass_41 rfl ?_
    exact r_iret ok rfl dX12_pass_42 h
set_option maxRecDepth 10000 in
theorem s_X12_passAll_0 {l : Launch} {x : Cx} {g : Geo} {K : Mem → Prop} (ok : Ok x g shM m_X12_passAll) (S : Mem) (h : MWi l g shM m_X12_pass [.ref (g.ad 0), .int (S 0 4)] S (fun r1 S1 => MWi l g shM m_X12_pass [.ref (g.ad 0), .int ((st2 S1 0 4 r1) 0 22)] (st2 S1 0 4 r1) (fun r2 S2 => PW l x g shM m_X12_passAll (Qv x g shM K) 26 [(0, .ref (g.ad 0)), (1, .int (nI 0))] [] (st2 S2 0 22 r2)))) : PW l x g shM m_X12_passAll (Qv x g shM K) 0 [(0, .ref (g.ad 0))] [] S := by
  refine r_aload_n ok 0 dX12_passAll_0 rfl ?_
  refine r_aload_n ok 0 dX12_passAll_1 rfl ?_
  refine r_aload_n ok 0 dX12_passAll_2 rfl ?_
  refine r_getI ok 0 4 rfl rfl fo_X12_105 dX12_passAll_3 ?_
  refine r_virti ok (rest := [.ref (g.ad 0)]) (As := [.int (S 0 4)]) 0 _ k_X12_passAll_281 rfl rfl rfl rfl (Nat.le_of_ble_eq_true rfl) dX12_passAll_6 (MWi.mono h (fun r1 S1 h => ?_))
  refine r_put ok 0 4 rfl rfl po_X12_105 rfl rfl dX12_passAll_9 ?_
  refine r_aload_n ok 0 dX12_passAll_12 rfl ?_
  refine r_aload_n ok 0 dX12_passAll_13 rfl ?_
  refine r_aload_n ok 0 dX12_passAll_14 rfl ?_
  refine r_getI ok 0 22 rfl rfl fo_X12_227 dX12_passAll_15 ?_
  refine r_virti ok (rest := [.ref (g.ad 0)]) (As := [.int ((st2 S1 0 4 r1) 0 22)]) 0 _ k_X12_passAll_281 rfl rfl rfl rfl (Nat.le_of_ble_eq_true rfl) dX12_passAll_18 (MWi.mono h (fun r2 S2 h => ?_))
  refine r_put ok 0 22 rfl rfl po_X12_227 rfl rfl dX12_passAll_21 ?_
  refine r_iconst ok (nI 0) dX12_passAll_24 (by decide) ?_
  refine r_istore_n ok [(1, .int (nI 0)), (0, .ref (g.ad 0))] dX12_passAll_25 (by decide) rfl ?_
  exact r_sub [1, 0] _ rfl h
set_option maxRecDepth 10000 in
theorem s_X12_passAll_26 {l : Launch} {x : Cx} {g : Geo} {K : Mem → Prop} (ok : Ok x g shM m_X12_passAll) (v1 : Int32) (S : Mem) (h : (((nI 60) ≤ v1 → PW l x g shM m_X12_passAll (Qv x g shM K) 72 [(0, .ref (g.ad 0)), (1, .int (nI 0))] [] S) ∧ (¬ (nI 60) ≤ v1 → (vp_in v1 60 ∧ MWi l g shM m_X12_pass [.ref (g.ad 0), .int (S 1 (cl v1))] S (fun r1 S1 => (vp_in v1 60 ∧ (vp_in v1 60 ∧ MWi l g shM m_X12_pass [.ref (g.ad 0), .int ((st2 S1 1 (cl v1) r1) 2 (cl v1))] (st2 S1 1 (cl v1) r1) (fun r2 S2 => (vp_in v1 60 ∧ PW l x g shM m_X12_passAll (Qv x g shM K) 26 [(0, .ref (g.ad 0)), (1, .int (v1 + (nI 1)))] [] (st2 S2 2 (cl v1) r2)))))))))) : PW l x g shM m_X12_passAll (Qv x g shM K) 26 [(0, .ref (g.ad 0)), (1, .int v1)] [] S := by
  refine r_iload_n ok 1 dX12_passAll_26 rfl ?_
  refine r_bipush ok (nI 60) dX12_passAll_27 (by decide) ?_
  refine r_icmp_ge ok 70 dX12_passAll_29 (by decide) ⟨fun c => ?_, fun c => ?_⟩
  · have h := h.1 c
    refine r_iconst ok (nI 0) dX12_passAll_70 (by decide) ?_
    refine r_istore_n ok [(1, .int (nI 0)), (0, .ref (g.ad 0))] dX12_passAll_71 (by decide) rfl ?_
    exact r_sub [1, 0] _ rfl h
  · have h := h.2 c
    refine r_aload_n ok 0 dX12_passAll_32 rfl ?_
    refine r_getR ok 0 0 rfl rfl fo_X12_7 dX12_passAll_33 ?_
    refine r_iload_n ok 1 dX12_passAll_36 rfl ?_
    refine r_aload_n ok 0 dX12_passAll_37 rfl ?_
    refine r_aload_n ok 0 dX12_passAll_38 rfl ?_
    refine r_getR ok 0 0 rfl rfl fo_X12_7 dX12_passAll_39 ?_
    refine r_iload_n ok 1 dX12_passAll_42 rfl ?_
    refine r_iaload ok 1 rfl dX12_passAll_43 h.1 ?_
    have h := h.2
    refine r_virti ok (rest := [.int v1, .ref (g.ad 1)]) (As := [.int (S 1 (cl v1))]) 0 _ k_X12_passAll_281 rfl rfl rfl rfl (Nat.le_of_ble_eq_true rfl) dX12_passAll_44 (MWi.mono h (fun r1 S1 h => ?_))
    refine r_iastore ok 1 rfl dX12_passAll_47 h.1 ?_
    have h := h.2
    refine r_aload_n ok 0 dX12_passAll_48 rfl ?_
    refine r_getR ok 0 1 rfl rfl fo_X12_13 dX12_passAll_49 ?_
    refine r_iload_n ok 1 dX12_passAll_52 rfl ?_
    refine r_aload_n ok 0 dX12_passAll_53 rfl ?_
    refine r_aload_n ok 0 dX12_passAll_54 rfl ?_
    refine r_getR ok 0 1 rfl rfl fo_X12_13 dX12_passAll_55 ?_
    refine r_iload_n ok 1 dX12_passAll_58 rfl ?_
    refine r_iaload ok 2 rfl dX12_passAll_59 h.1 ?_
    have h := h.2
    refine r_virti ok (rest := [.int v1, .ref (g.ad 2)]) (As := [.int ((st2 S1 1 (cl v1) r1) 2 (cl v1))]) 0 _ k_X12_passAll_281 rfl rfl rfl rfl (Nat.le_of_ble_eq_true rfl) dX12_passAll_60 (MWi.mono h (fun r2 S2 h => ?_))
    refine r_iastore ok 2 rfl dX12_passAll_63 h.1 ?_
    have h := h.2
    refine r_iinc ok 1 (v1 + (nI 1)) [(1, .int (v1 + (nI 1))), (0, .ref (g.ad 0))] dX12_passAll_64 rfl rfl (by decide) rfl ?_
    refine r_goto ok 26 dX12_passAll_67 (by decide) ?_
    exact r_sub [1, 0] _ rfl h
set_option maxRecDepth 10000 in
theorem s_X12_passAll_72 {l : Launch} {x : Cx} {g : Geo} {K : Mem → Prop} (ok : Ok x g shM m_X12_passAll) (v1 : Int32) (S : Mem) (h : (((nI 12) ≤ v1 → PW l x g shM m_X12_passAll (Qv x g shM K) 118 [(0, .ref (g.ad 0)), (1, .int (nI 0))] [] S) ∧ (¬ (nI 12) ≤ v1 → (vp_in v1 12 ∧ MWi l g shM m_X12_pass [.ref (g.ad 0), .int (S 3 (cl v1))] S (fun r1 S1 => (vp_in v1 12 ∧ (vp_in v1 12 ∧ MWi l g shM m_X12_pass [.ref (g.ad 0), .int ((st2 S1 3 (cl v1) r1) 4 (cl v1))] (st2 S1 3 (cl v1) r1) (fun r2 S2 => (vp_in v1 12 ∧ PW l x g shM m_X12_passAll (Qv x g shM K) 72 [(0, .ref (g.ad 0)), (1, .int (v1 + (nI 1)))] [] (st2 S2 4 (cl v1) r2)))))))))) : PW l x g shM m_X12_passAll (Qv x g shM K) 72 [(0, .ref (g.ad 0)), (1, .int v1)] [] S := by
  refine r_iload_n ok 1 dX12_passAll_72 rfl ?_
  refine r_bipush ok (nI 12) dX12_passAll_73 (by decide) ?_
  refine r_icmp_ge ok 116 dX12_passAll_75 (by decide) ⟨fun c => ?_, fun c => ?_⟩
  · have h := h.1 c
    refine r_iconst ok (nI 0) dX12_passAll_116 (by decide) ?_
    refine r_istore_n ok [(1, .int (nI 0)), (0, .ref (g.ad 0))] dX12_passAll_117 (by decide) rfl ?_
    exact r_sub [1, 0] _ rfl h
  · have h := h.2 c
    refine r_aload_n ok 0 dX12_passAll_78 rfl ?_
    refine r_getR ok 0 2 rfl rfl fo_X12_16 dX12_passAll_79 ?_
    refine r_iload_n ok 1 dX12_passAll_82 rfl ?_
    refine r_aload_n ok 0 dX12_passAll_83 rfl ?_
    refine r_aload_n ok 0 dX12_passAll_84 rfl ?_
    refine r_getR ok 0 2 rfl rfl fo_X12_16 dX12_passAll_85 ?_
    refine r_iload_n ok 1 dX12_passAll_88 rfl ?_
    refine r_iaload ok 3 rfl dX12_passAll_89 h.1 ?_
    have h := h.2
    refine r_virti ok (rest := [.int v1, .ref (g.ad 3)]) (As := [.int (S 3 (cl v1))]) 0 _ k_X12_passAll_281 rfl rfl rfl rfl (Nat.le_of_ble_eq_true rfl) dX12_passAll_90 (MWi.mono h (fun r1 S1 h => ?_))
    refine r_iastore ok 3 rfl dX12_passAll_93 h.1 ?_
    have h := h.2
    refine r_aload_n ok 0 dX12_passAll_94 rfl ?_
    refine r_getR ok 0 3 rfl rfl fo_X12_19 dX12_passAll_95 ?_
    refine r_iload_n ok 1 dX12_passAll_98 rfl ?_
    refine r_aload_n ok 0 dX12_passAll_99 rfl ?_
    refine r_aload_n ok 0 dX12_passAll_100 rfl ?_
    refine r_getR ok 0 3 rfl rfl fo_X12_19 dX12_passAll_101 ?_
    refine r_iload_n ok 1 dX12_passAll_104 rfl ?_
    refine r_iaload ok 4 rfl dX12_passAll_105 h.1 ?_
    have h := h.2
    refine r_virti ok (rest := [.int v1, .ref (g.ad 4)]) (As := [.int ((st2 S1 3 (cl v1) r1) 4 (cl v1))]) 0 _ k_X12_passAll_281 rfl rfl rfl rfl (Nat.le_of_ble_eq_true rfl) dX12_passAll_106 (MWi.mono h (fun r2 S2 h => ?_))
    refine r_iastore ok 4 rfl dX12_passAll_109 h.1 ?_
    have h := h.2
    refine r_iinc ok 1 (v1 + (nI 1)) [(1, .int (v1 + (nI 1))), (0, .ref (g.ad 0))] dX12_passAll_110 rfl rfl (by decide) rfl ?_
    refine r_goto ok 72 dX12_passAll_113 (by decide) ?_
    exact r_sub [1, 0] _ rfl h
set_option maxRecDepth 10000 in
theorem s_X12_passAll_118 {l : Launch} {x : Cx} {g : Geo} {K : Mem → Prop} (ok : Ok x g shM m_X12_passAll) (v1 : Int32) (S : Mem) (h : (((nI 4) ≤ v1 → PW l x g shM m_X12_passAll (Qv x g shM K) 179 [(0, .ref (g.ad 0)), (1, .int (nI 0))] [] S) ∧ (¬ (nI 4) ≤ v1 → (vp_in v1 4 ∧ MWi l g shM m_X12_pass [.ref (g.ad 0), .int (S 9 (cl v1))] S (fun r1 S1 => (vp_in v1 4 ∧ (vp_in v1 4 ∧ MWi l g shM m_X12_pass [.ref (g.ad 0), .int ((st2 S1 9 (cl v1) r1) 10 (cl v1))] (st2 S1 9 (cl v1) r1) (fun r2 S2 => (vp_in v1 4 ∧ (vp_in v1 4 ∧ MWi l g shM m_X12_pass [.ref (g.ad 0), .int ((st2 S2 10 (cl v1) r2) 11 (cl v1))] (st2 S2 10 (cl v1) r2) (fun r3 S3 => (vp_in v1 4 ∧ PW l x g shM m_X12_passAll (Qv x g shM K) 118 [(0, .ref (g.ad 0)), (1, .int (v1 + (nI 1)))] [] (st2 S3 11 (cl v1) r3))))))))))))) : PW l x g shM m_X12_passAll (Qv x g shM K) 118 [(0, .ref (g.ad 0)), (1, .int v1)] [] S := by
  refine r_iload_n ok 1 dX12_passAll_118 rfl ?_
  refine r_iconst ok (nI 4) dX12_passAll_119 (by decide) ?_
  refine r_icmp_ge ok 177 dX12_passAll_120 (by decide) ⟨fun c => ?_, fun c => ?_⟩
  · have h := h.1 c
    refine r_iconst ok (nI 0) dX12_passAll_177 (by decide) ?_
    refine r_istore_n ok [(1, .int (nI 0)), (0, .ref (g.ad 0))] dX12_passAll_178 (by decide) rfl ?_
    exact r_sub [1, 0] _ rfl h
  · have h := h.2 c
    refine r_aload_n ok 0 dX12_passAll_123 rfl ?_
    refine r_getR ok 0 11 rfl rfl fo_X12_34 dX12_passAll_124 ?_
    refine r_iload_n ok 1 dX12_passAll_127 rfl ?_
    refine r_aload_n ok 0 dX12_passAll_128 rfl ?_
    refine r_aload_n ok 0 dX12_passAll_129 rfl ?_
    refine r_getR ok 0 11 rfl rfl fo_X12_34 dX12_passAll_130 ?_
    refine r_iload_n ok 1 dX12_passAll_133 rfl ?_
    refine r_iaload ok 9 rfl dX12_passAll_134 h.1 ?_
    have h := h.2
    refine r_virti ok (rest := [.int v1, .ref (g.ad 9)]) (As := [.int (S 9 (cl v1))]) 0 _ k_X12_passAll_281 rfl rfl rfl rfl (Nat.le_of_ble_eq_true rfl) dX12_passAll_135 (MWi.mono h (fun r1 S1 h => ?_))
    refine r_iastore ok 9 rfl dX12_passAll_138 h.1 ?_
    have h := h.2
    refine r_aload_n ok 0 dX12_passAll_139 rfl ?_
    refine r_getR ok 0 12 rfl rfl fo_X12_37 dX12_passAll_140 ?_
    refine r_iload_n ok 1 dX12_passAll_143 rfl ?_
    refine r_aload_n ok 0 dX12_passAll_144 rfl ?_
    refine r_aload_n ok 0 dX12_passAll_145 rfl ?_
    refine r_getR ok 0 12 rfl rfl fo_X12_37 dX12_passAll_146 ?_
    refine r_iload_n ok 1 dX12_passAll_149 rfl ?_
    refine r_iaload ok 10 rfl dX12_passAll_150 h.1 ?_
    have h := h.2
    refine r_virti ok (rest := [.int v1, .ref (g.ad 10)]) (As := [.int ((st2 S1 9 (cl v1) r1) 10 (cl v1))]) 0 _ k_X12_passAll_281 rfl rfl rfl rfl (Nat.le_of_ble_eq_true rfl) dX12_passAll_151 (MWi.mono h (fun r2 S2 h => ?_))
    refine r_iastore ok 10 rfl dX12_passAll_154 h.1 ?_
    have h := h.2
    refine r_aload_n ok 0 dX12_passAll_155 rfl ?_
    refine r_getR ok 0 13 rfl rfl fo_X12_40 dX12_passAll_156 ?_
    refine r_iload_n ok 1 dX12_passAll_159 rfl ?_
    refine r_aload_n ok 0 dX12_passAll_160 rfl ?_
    refine r_aload_n ok 0 dX12_passAll_161 rfl ?_
    refine r_getR ok 0 13 rfl rfl fo_X12_40 dX12_passAll_162 ?_
    refine r_iload_n ok 1 dX12_passAll_165 rfl ?_
    refine r_iaload ok 11 rfl dX12_passAll_166 h.1 ?_
    have h := h.2
    refine r_virti ok (rest := [.int v1, .ref (g.ad 11)]) (As := [.int ((st2 S2 10 (cl v1) r2) 11 (cl v1))]) 0 _ k_X12_passAll_281 rfl rfl rfl rfl (Nat.le_of_ble_eq_true rfl) dX12_passAll_167 (MWi.mono h (fun r3 S3 h => ?_))
    refine r_iastore ok 11 rfl dX12_passAll_170 h.1 ?_
    have h := h.2
    refine r_iinc ok 1 (v1 + (nI 1)) [(1, .int (v1 + (nI 1))), (0, .ref (g.ad 0))] dX12_passAll_171 rfl rfl (by decide) rfl ?_
    refine r_goto ok 118 dX12_passAll_174 (by decide) ?_
    exact r_sub [1, 0] _ rfl h
set_option maxRecDepth 10000 in
theorem s_X12_passAll_179 {l : Launch} {x : Cx} {g : Geo} {K : Mem → Prop} (ok : Ok x g shM m_X12_passAll) (v1 : Int32) (S : Mem) (h : (((nI 20) ≤ v1 → K S) ∧ (¬ (nI 20) ≤ v1 → (vp_in v1 20 ∧ MWi l g shM m_X12_pass [.ref (g.ad 0), .int (S 16 (cl v1))] S (fun r1 S1 => (vp_in v1 20 ∧ (vp_in v1 20 ∧ MWi l g shM m_X12_pass [.ref (g.ad 0), .int ((st2 S1 16 (cl v1) r1) 17 (cl v1))] (st2 S1 16 (cl v1) r1) (fun r2 S2 => (vp_in v1 20 ∧ PW l x g shM m_X12_passAll (Qv x g shM K) 179 [(0, .ref (g.ad 0)), (1, .int (v1 + (nI 1)))] [] (st2 S2 17 (cl v1) r2)))))))))) : PW l x g shM m_X12_passAll (Qv x g shM K) 179 [(0, .ref (g.ad 0)), (1, .int v1)] [] S := by
  refine r_iload_n ok 1 dX12_passAll_179 rfl ?_
  refine r_bipush ok (nI 20) dX12_passAll_180 (by decide) ?_
  refine r_icmp_ge ok 223 dX12_passAll_182 (by decide) ⟨fun c => ?_, fun c => ?_⟩
  · have h := h.1 c
    exact r_ret ok rfl dX12_passAll_223 h
  · have h := h.2 c
    refine r_aload_n ok 0 dX12_passAll_185 rfl ?_
    refine r_getR ok 0 20 rfl rfl fo_X12_57 dX12_passAll_186 ?_
    refine r_iload_n ok 1 dX12_passAll_189 rfl ?_
    refine r_aload_n ok 0 dX12_passAll_190 rfl ?_
    refine r_aload_n ok 0 dX12_passAll_191 rfl ?_
    refine r_getR ok 0 20 rfl rfl fo_X12_57 dX12_passAll_192 ?_
    refine r_iload_n ok 1 dX12_passAll_195 rfl ?_
    refine r_iaload ok 16 rfl dX12_passAll_196 h.1 ?_
    have h := h.2
    refine r_virti ok (rest := [.int v1, .ref (g.ad 16)]) (As := [.int (S 16 (cl v1))]) 0 _ k_X12_passAll_281 rfl rfl rfl rfl (Nat.le_of_ble_eq_true rfl) dX12_passAll_197 (MWi.mono h (fun r1 S1 h => ?_))
    refine r_iastore ok 16 rfl dX12_passAll_200 h.1 ?_
    have h := h.2
    refine r_aload_n ok 0 dX12_passAll_201 rfl ?_
    refine r_getR ok 0 21 rfl rfl fo_X12_60 dX12_passAll_202 ?_
    refine r_iload_n ok 1 dX12_passAll_205 rfl ?_
    refine r_aload_n ok 0 dX12_passAll_206 rfl ?_
    refine r_aload_n ok 0 dX12_passAll_207 rfl ?_
    refine r_getR ok 0 21 rfl rfl fo_X12_60 dX12_passAll_208 ?_
    refine r_iload_n ok 1 dX12_passAll_211 rfl ?_
    refine r_iaload ok 17 rfl dX12_passAll_212 h.1 ?_
    have h := h.2
    refine r_virti ok (rest := [.int v1, .ref (g.ad 17)]) (As := [.int ((st2 S1 16 (cl v1) r1) 17 (cl v1))]) 0 _ k_X12_passAll_281 rfl rfl rfl rfl (Nat.le_of_ble_eq_true rfl) dX12_passAll_213 (MWi.mono h (fun r2 S2 h => ?_))
    refine r_iastore ok 17 rfl dX12_passAll_216 h.1 ?_
    have h := h.2
    refine r_iinc ok 1 (v1 + (nI 1)) [(1, .int (v1 + (nI 1))), (0, .ref (g.ad 0))] dX12_passAll_217 rfl rfl (by decide) rfl ?_
    refine r_goto ok 179 dX12_passAll_220 (by decide) ?_
    exact r_sub [1, 0] _ rfl h
set_option maxRecDepth 10000 in
theorem s_X12_image_0 {l : Launch} {x : Cx} {g : Geo} {K : Int32 → Mem → Prop} (ok : Ok x g shM m_X12_image) (v1 : Int32) (S : Mem) (h : MWi l g shM m_X12_isEnd [.int v1] S (fun r1 S1 => ((¬ r1 = 0 → MWv l g shM m_X12_passAll [.ref (g.ad 0)] (st2 (st2 S1 0 29 ((nI 220) * v1)) 0 30 (nI 1)) (fun S2 => (vp_in v1 2 ∧ K (nI 1) (st2 S2 22 (cl v1) (nI 1))))) ∧ (r1 = 0 → K (-2) S1)))) : PW l x g shM m_X12_image (Qi x g shM K) 0 [(0, .ref (g.ad 0)), (1, .int v1)] [] S := by
  refine r_iload_n ok 1 dX12_image_0 rfl ?_
  refine r_stati ok (rest := []) (As := [.int v1]) _ k_X12_image_148 rfl rfl (Nat.le_of_ble_eq_true rfl) dX12_image_1 (MWi.mono h (fun r1 S1 h => ?_))
  refine r_if_ne ok 10 dX12_image_4 (by decide) ⟨fun c => ?_, fun c => ?_⟩
  · have h := h.1 c
    refine r_aload_n ok 0 dX12_image_10 rfl ?_
    refine r_sipush ok (nI 220) dX12_image_11 (by decide) ?_
    refine r_iload_n ok 1 dX12_image_14 rfl ?_
    refine r_imul ok dX12_image_15 ?_
    refine r_put ok 0 29 rfl rfl po_X12_278 rfl rfl dX12_image_16 ?_
    refine r_aload_n ok 0 dX12_image_19 rfl ?_
    refine r_iconst ok (nI 1) dX12_image_20 (by decide) ?_
    refine r_put ok 0 30 rfl rfl po_X12_274 rfl rfl dX12_image_21 ?_
    refine r_aload_n ok 0 dX12_image_24 rfl ?_
    refine r_virtv ok (rest := []) (As := []) 0 _ k_X12_image_284 rfl rfl rfl rfl (Nat.le_of_ble_eq_true rfl) dX12_image_25 (MWv.mono h (fun S2 h => ?_))
    refine r_aload_n ok 0 dX12_image_28 rfl ?_
    refine r_getR ok 0 28 rfl rfl fo_X12_75 dX12_image_29 ?_
    refine r_iload_n ok 1 dX12_image_32 rfl ?_
    refine r_iconst ok (nI 1) dX12_image_33 (by decide) ?_
    refine r_bastore ok 22 rfl dX12_image_34 h.1 rfl ?_
    have h := h.2
    refine r_iconst ok (nI 1) dX12_image_35 (by decide) ?_
    exact r_iret ok rfl dX12_image_36 h
  · have h := h.2 c
    refine r_bipush ok (-2) dX12_image_7 (by decide) ?_
    exact r_iret ok rfl dX12_image_9 h
set_option maxRecDepth 10000 in
theorem s_X12_restore_0 {l : Launch} {x : Cx} {g : Geo} {K : Int32 → Mem → Prop} (ok : Ok x g shM m_X12_restore) (v1 : Int32) (S : Mem) (h : MWi l g shM m_X12_isEnd [.int v1] S (fun r1 S1 => ((¬ r1 = 0 → (vp_in v1 2 ∧ ((¬ (S1 22 (cl v1)) = 0 → MWv l g shM m_X12_passAll [.ref (g.ad 0)] (st2 (st2 S1 0 29 ((nI 220) * v1)) 0 30 (nI 0)) (fun S2 => K (nI 1) S2)) ∧ ((S1 22 (cl v1)) = 0 → K (-3) S1)))) ∧ (r1 = 0 → K (-2) S1)))) : PW l x g shM m_X12_restore (Qi x g shM K) 0 [(0, .ref (g.ad 0)), (1, .int v1)] [] S := by
  refine r_iload_n ok 1 dX12_restore_0 rfl ?_
  refine r_stati ok (rest := []) (As := [.int v1]) _ k_X12_restore_148 rfl rfl (Nat.le_of_ble_eq_true rfl) dX12_restore_1 (MWi.mono h (fun r1 S1 h => ?_))
  refine r_if_ne ok 10 dX12_restore_4 (by decide) ⟨fun c => ?_, fun c => ?_⟩
  · have h := h.1 c
    refine r_aload_n ok 0 dX12_restore_10 rfl ?_
    refine r_getR ok 0 28 rfl rfl fo_X12_75 dX12_restore_11 ?_
    refine r_iload_n ok 1 dX12_restore_14 rfl ?_
    refine r_baload ok 22 rfl dX12_restore_15 h.1 ?_
    have h := h.2
    refine r_if_ne ok 22 dX12_restore_16 (by decide) ⟨fun c => ?_, fun c => ?_⟩
    · have h := h.1 c
      refine r_aload_n ok 0 dX12_restore_22 rfl ?_
      refine r_sipush ok (nI 220) dX12_restore_23 (by decide) ?_
      refine r_iload_n ok 1 dX12_restore_26 rfl ?_
      refine r_imul ok dX12_restore_27 ?_
      refine r_put ok 0 29 rfl rfl po_X12_278 rfl rfl dX12_restore_28 ?_
      refine r_aload_n ok 0 dX12_restore_31 rfl ?_
      refine r_iconst ok (nI 0) dX12_restore_32 (by decide) ?_
      refine r_put ok 0 30 rfl rfl po_X12_274 rfl rfl dX12_restore_33 ?_
      refine r_aload_n ok 0 dX12_restore_36 rfl ?_
      refine r_virtv ok (rest := []) (As := []) 0 _ k_X12_restore_284 rfl rfl rfl rfl (Nat.le_of_ble_eq_true rfl) dX12_restore_37 (MWv.mono h (fun S2 h => ?_))
      refine r_iconst ok (nI 1) dX12_restore_40 (by decide) ?_
      exact r_iret ok rfl dX12_restore_41 h
    · have h := h.2 c
      refine r_bipush ok (-3) dX12_restore_19 (by decide) ?_
      exact r_iret ok rfl dX12_restore_21 h
  · have h := h.2 c
    refine r_bipush ok (-2) dX12_restore_7 (by decide) ?_
    exact r_iret ok rfl dX12_restore_9 h
set_option maxRecDepth 10000 in
theorem s_X12_told_0 {l : Launch} {x : Cx} {g : Geo} {K : Int32 → Mem → Prop} (ok : Ok x g shM m_X12_told) (v1 : Int32) (S : Mem) (h : MWi l g shM m_X12_in [.long v1.toInt64, .long (lN 10), .long (lN 13)] S (fun r1 S1 => ((r1 = 0 → MWi l g shM m_X12_in [.long v1.toInt64, .long (lN 20), .long (lN 23)] S1 (fun r2 S2 => ((r2 = 0 → MWi l g shM m_X12_in [.long v1.toInt64, .long (lN 30), .long (lN 33)] S2 (fun r3 S3 => ((r3 = 0 → ((v1 = nI 0 → K (S3 0 6) S3) ∧ (v1 = nI 1 → K (S3 0 4) S3) ∧ (v1 = nI 2 → K (S3 0 22) S3) ∧ (v1 = nI 3 → MWi l g shM m_X12_allOften [.ref (g.ad 0)] S3 (fun r4 S4 => K r4 S4)) ∧ ((v1.toInt < 0 ∨ 3 < v1.toInt) → K (-2) S3))) ∧ (¬ r3 = 0 → (vp_in (v1 - (nI 30)) 4 ∧ K (S3 11 (cl (v1 - (nI 30)))) S3))))) ∧ (¬ r2 = 0 → (vp_in (v1 - (nI 20)) 4 ∧ K (S2 10 (cl (v1 - (nI 20)))) S2))))) ∧ (¬ r1 = 0 → (vp_in (v1 - (nI 10)) 4 ∧ K (S1 9 (cl (v1 - (nI 10)))) S1))))) : PW l x g shM m_X12_told (Qi x g shM K) 0 [(0, .ref (g.ad 0)), (1, .int v1)] [] S := by
  refine r_iload_n ok 1 dX12_told_0 rfl ?_
  refine r_i2l ok dX12_told_1 ?_
  refine r_ldc2 ok (lN 10) dX12_told_2 (gt_in (List.mem_of_getElem? (i := 1098) (by decide +kernel)) rfl) ?_
  refine r_ldc2 ok (lN 13) dX12_told_5 (gt_in (List.mem_of_getElem? (i := 1360) (by decide +kernel)) rfl) ?_
  refine r_stati ok (rest := []) (As := [.long v1.toInt64, .long (lN 10), .long (lN 13)]) _ k_X12_told_80 rfl rfl (Nat.le_of_ble_eq_true rfl) dX12_told_8 (MWi.mono h (fun r1 S1 h => ?_))
  refine r_if_eq ok 24 dX12_told_11 (by decide) ⟨fun c => ?_, fun c => ?_⟩
  · have h := h.1 c
    refine r_iload_n ok 1 dX12_told_24 rfl ?_
    refine r_i2l ok dX12_told_25 ?_
    refine r_ldc2 ok (lN 20) dX12_told_26 (gt_in (List.mem_of_getElem? (i := 1100) (by decide +kernel)) rfl) ?_
    refine r_ldc2 ok (lN 23) dX12_told_29 (gt_in (List.mem_of_getElem? (i := 1361) (by decide +kernel)) rfl) ?_
    refine r_stati ok (rest := []) (As := [.long v1.toInt64, .long (lN 20), .long (lN 23)]) _ k_X12_told_80 rfl rfl (Nat.le_of_ble_eq_true rfl) dX12_told_32 (MWi.mono h (fun r2 S2 h => ?_))
    refine r_if_eq ok 48 dX12_told_35 (by decide) ⟨fun c => ?_, fun c => ?_⟩
    · have h := h.1 c
      refine r_iload_n ok 1 dX12_told_48 rfl ?_
      refine r_i2l ok dX12_told_49 ?_
      refine r_ldc2 ok (lN 30) dX12_told_50 (gt_in (List.mem_of_getElem? (i := 1362) (by decide +kernel)) rfl) ?_
      refine r_ldc2 ok (lN 33) dX12_told_53 (gt_in (List.mem_of_getElem? (i := 1060) (by decide +kernel)) rfl) ?_
      refine r_stati ok (rest := []) (As := [.long v1.toInt64, .long (lN 30), .long (lN 33)]) _ k_X12_told_80 rfl rfl (Nat.le_of_ble_eq_true rfl) dX12_told_56 (MWi.mono h (fun r3 S3 h => ?_))
      refine r_if_eq ok 72 dX12_told_59 (by decide) ⟨fun c => ?_, fun c => ?_⟩
      · have h := h.1 c
        refine r_iload_n ok 1 dX12_told_72 rfl ?_
        rcases sw3 v1 with e | e | e | e | e
        · have h := h.1 e
          rw [e]
          refine r_tableIn ok 104 dX12_told_73 (by decide) (by decide) rfl (by decide) ?_
          refine r_aload_n ok 0 dX12_told_104 rfl ?_
          refine r_getI ok 0 6 rfl rfl fo_X12_90 dX12_told_105 ?_
          exact r_iret ok rfl dX12_told_108 h
        · have h := h.2.1 e
          rw [e]
          refine r_tableIn ok 109 dX12_told_73 (by decide) (by decide) rfl (by decide) ?_
          refine r_aload_n ok 0 dX12_told_109 rfl ?_
          refine r_getI ok 0 4 rfl rfl fo_X12_105 dX12_told_110 ?_
          exact r_iret ok rfl dX12_told_113 h
        · have h := h.2.2.1 e
          rw [e]
          refine r_tableIn ok 114 dX12_told_73 (by decide) (by decide) rfl (by decide) ?_
          refine r_aload_n ok 0 dX12_told_114 rfl ?_
          refine r_getI ok 0 22 rfl rfl fo_X12_227 dX12_told_115 ?_
          exact r_iret ok rfl dX12_told_118 h
        · have h := h.2.2.2.1 e
          rw [e]
          refine r_tableIn ok 119 dX12_told_73 (by decide) (by decide) rfl (by decide) ?_
          refine r_aload_n ok 0 dX12_told_119 rfl ?_
          refine r_virti ok (rest := []) (As := []) 0 _ k_X12_told_263 rfl rfl rfl rfl (Nat.le_of_ble_eq_true rfl) dX12_told_120 (MWi.mono h (fun r4 S4 h => ?_))
          exact r_iret ok rfl dX12_told_123 h
        · have h := h.2.2.2.2 e
          refine r_tableOut ok 124 dX12_told_73 e (by decide) ?_
          refine r_bipush ok (-2) dX12_told_124 (by decide) ?_
          exact r_iret ok rfl dX12_told_126 h
      · have h := h.2 c
        refine r_aload_n ok 0 dX12_told_62 rfl ?_
        refine r_getR ok 0 13 rfl rfl fo_X12_40 dX12_told_63 ?_
        refine r_iload_n ok 1 dX12_told_66 rfl ?_
        refine r_bipush ok (nI 30) dX12_told_67 (by decide) ?_
        refine r_isub ok dX12_told_69 ?_
        refine r_iaload ok 11 rfl dX12_told_70 h.1 ?_
        have h := h.2
        exact r_iret ok rfl dX12_told_71 h
    · have h := h.2 c
      refine r_aload_n ok 0 dX12_told_38 rfl ?_
      refine r_getR ok 0 12 rfl rfl fo_X12_37 dX12_told_39 ?_
      refine r_iload_n ok 1 dX12_told_42 rfl ?_
      refine r_bipush ok (nI 20) dX12_told_43 (by decide) ?_
      refine r_isub ok dX12_told_45 ?_
      refine r_iaload ok 10 rfl dX12_told_46 h.1 ?_
      have h := h.2
      exact r_iret ok rfl dX12_told_47 h
  · have h := h.2 c
    refine r_aload_n ok 0 dX12_told_14 rfl ?_
    refine r_getR ok 0 11 rfl rfl fo_X12_34 dX12_told_15 ?_
    refine r_iload_n ok 1 dX12_told_18 rfl ?_
    refine r_bipush ok (nI 10) dX12_told_19 (by decide) ?_
    refine r_isub ok dX12_told_21 ?_
    refine r_iaload ok 9 rfl dX12_told_22 h.1 ?_
    have h := h.2
    exact r_iret ok rfl dX12_told_23 h
