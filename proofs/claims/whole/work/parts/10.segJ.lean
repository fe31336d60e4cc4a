/-! segments, written by program: 10.segJ.lean.txt -/
set_option maxRecDepth 10000 in
theorem s_J6_bitCount_0f7a4_0 {l : Launch} {x : Cx} {g : Geo} {K : Int32 → Mem → Prop} (ok : Ok x g shX m_J6_bitCount_0f7a4) (v0 : Int32) (S : Mem) (h : K ((((((((v0 - ((jushr v0 (nI 1)) &&& (nI 1431655765))) &&& (nI 858993459)) + ((jushr (v0 - ((jushr v0 (nI 1)) &&& (nI 1431655765))) (nI 2)) &&& (nI 858993459))) + (jushr (((v0 - ((jushr v0 (nI 1)) &&& (nI 1431655765))) &&& (nI 858993459)) + ((jushr (v0 - ((jushr v0 (nI 1)) &&& (nI 1431655765))) (nI 2)) &&& (nI 858993459))) (nI 4))) &&& (nI 252645135)) + (jushr (((((v0 - ((jushr v0 (nI 1)) &&& (nI 1431655765))) &&& (nI 858993459)) + ((jushr (v0 - ((jushr v0 (nI 1)) &&& (nI 1431655765))) (nI 2)) &&& (nI 858993459))) + (jushr (((v0 - ((jushr v0 (nI 1)) &&& (nI 1431655765))) &&& (nI 858993459)) + ((jushr (v0 - ((jushr v0 (nI 1)) &&& (nI 1431655765))) (nI 2)) &&& (nI 858993459))) (nI 4))) &&& (nI 252645135)) (nI 8))) + (jushr ((((((v0 - ((jushr v0 (nI 1)) &&& (nI 1431655765))) &&& (nI 858993459)) + ((jushr (v0 - ((jushr v0 (nI 1)) &&& (nI 1431655765))) (nI 2)) &&& (nI 858993459))) + (jushr (((v0 - ((jushr v0 (nI 1)) &&& (nI 1431655765))) &&& (nI 858993459)) + ((jushr (v0 - ((jushr v0 (nI 1)) &&& (nI 1431655765))) (nI 2)) &&& (nI 858993459))) (nI 4))) &&& (nI 252645135)) + (jushr (((((v0 - ((jushr v0 (nI 1)) &&& (nI 1431655765))) &&& (nI 858993459)) + ((jushr (v0 - ((jushr v0 (nI 1)) &&& (nI 1431655765))) (nI 2)) &&& (nI 858993459))) + (jushr (((v0 - ((jushr v0 (nI 1)) &&& (nI 1431655765))) &&& (nI 858993459)) + ((jushr (v0 - ((jushr v0 (nI 1)) &&& (nI 1431655765))) (nI 2)) &&& (nI 858993459))) (nI 4))) &&& (nI 252645135)) (nI 8))) (nI 16))) &&& (nI 63)) S) : PW l x g shX m_J6_bitCount_0f7a4 (Qi x g shX K) 0 [(0, .int v0)] [] S := by
  refine r_iload_n ok 0 dJ6_bitCount_0f7a4_0 rfl ?_
  refine r_iload_n ok 0 dJ6_bitCount_0f7a4_1 rfl ?_
  refine r_iconst ok (nI 1) dJ6_bitCount_0f7a4_2 (by decide) ?_
  refine r_iushr ok dJ6_bitCount_0f7a4_3 ?_
  refine r_ldcw ok (nI 1431655765) dJ6_bitCount_0f7a4_4 (gt_in (List.mem_of_getElem? (i := 727) (by decide +kernel)) rfl) ?_
  refine r_iand ok dJ6_bitCount_0f7a4_7 ?_
  refine r_isub ok dJ6_bitCount_0f7a4_8 ?_
  refine r_istore_n ok [(0, .int (v0 - ((jushr v0 (nI 1)) &&& (nI 1431655765))))] dJ6_bitCount_0f7a4_9 (by decide) rfl ?_
  refine r_iload_n ok 0 dJ6_bitCount_0f7a4_10 rfl ?_
  refine r_ldcw ok (nI 858993459) dJ6_bitCount_0f7a4_11 (gt_in (List.mem_of_getElem? (i := 728) (by decide +kernel)) rfl) ?_
  refine r_iand ok dJ6_bitCount_0f7a4_14 ?_
  refine r_iload_n ok 0 dJ6_bitCount_0f7a4_15 rfl ?_
  refine r_iconst ok (nI 2) dJ6_bitCount_0f7a4_16 (by decide) ?_
  refine r_iushr ok dJ6_bitCount_0f7a4_17 ?_
  refine r_ldcw ok (nI 858993459) dJ6_bitCount_0f7a4_18 (gt_in (List.mem_of_getElem? (i := 728) (by decide +kernel)) rfl) ?_
  refine r_iand ok dJ6_bitCount_0f7a4_21 ?_
  refine r_iadd ok dJ6_bitCount_0f7a4_22 ?_
  refine r_istore_n ok [(0, .int (((v0 - ((jushr v0 (nI 1)) &&& (nI 1431655765))) &&& (nI 858993459)) + ((jushr (v0 - ((jushr v0 (nI 1)) &&& (nI 1431655765))) (nI 2)) &&& (nI 858993459))))] dJ6_bitCount_0f7a4_23 (by decide) rfl ?_
  refine r_iload_n ok 0 dJ6_bitCount_0f7a4_24 rfl ?_
  refine r_iload_n ok 0 dJ6_bitCount_0f7a4_25 rfl ?_
  refine r_iconst ok (nI 4) dJ6_bitCount_0f7a4_26 (by decide) ?_
  refine r_iushr ok dJ6_bitCount_0f7a4_27 ?_
  refine r_iadd ok dJ6_bitCount_0f7a4_28 ?_
  refine r_ldcw ok (nI 252645135) dJ6_bitCount_0f7a4_29 (gt_in (List.mem_of_getElem? (i := 729) (by decide +kernel)) rfl) ?_
  refine r_iand ok dJ6_bitCount_0f7a4_32 ?_
  refine r_istore_n ok [(0, .int (((((v0 - ((jushr v0 (nI 1)) &&& (nI 1431655765))) &&& (nI 858993459)) + ((jushr (v0 - ((jushr v0 (nI 1)) &&& (nI 1431655765))) (nI 2)) &&& (nI 858993459))) + (jushr (((v0 - ((jushr v0 (nI 1)) &&& (nI 1431655765))) &&& (nI 858993459)) + ((jushr (v0 - ((jushr v0 (nI 1)) &&& (nI 1431655765))) (nI 2)) &&& (nI 858993459))) (nI 4))) &&& (nI 252645135)))] dJ6_bitCount_0f7a4_33 (by decide) rfl ?_
  refine r_iload_n ok 0 dJ6_bitCount_0f7a4_34 rfl ?_
  refine r_iload_n ok 0 dJ6_bitCount_0f7a4_35 rfl ?_
  refine r_bipush ok (nI 8) dJ6_bitCount_0f7a4_36 (by decide) ?_
  refine r_iushr ok dJ6_bitCount_0f7a4_38 ?_
  refine r_iadd ok dJ6_bitCount_0f7a4_39 ?_
  refine r_istore_n ok [(0, .int ((((((v0 - ((jushr v0 (nI 1)) &&& (nI 1431655765))) &&& (nI 858993459)) + ((jushr (v0 - ((jushr v0 (nI 1)) &&& (nI 1431655765))) (nI 2)) &&& (nI 858993459))) + (jushr (((v0 - ((jushr v0 (nI 1)) &&& (nI 1431655765))) &&& (nI 858993459)) + ((jushr (v0 - ((jushr v0 (nI 1)) &&& (nI 1431655765))) (nI 2)) &&& (nI 858993459))) (nI 4))) &&& (nI 252645135)) + (jushr (((((v0 - ((jushr v0 (nI 1)) &&& (nI 1431655765))) &&& (nI 858993459)) + ((jushr (v0 - ((jushr v0 (nI 1)) &&& (nI 1431655765))) (nI 2)) &&& (nI 858993459))) + (jushr (((v0 - ((jushr v0 (nI 1)) &&& (nI 1431655765))) &&& (nI 858993459)) + ((jushr (v0 - ((jushr v0 (nI 1)) &&& (nI 1431655765))) (nI 2)) &&& (nI 858993459))) (nI 4))) &&& (nI 252645135)) (nI 8))))] dJ6_bitCount_0f7a4_40 (by decide) rfl ?_
  refine r_iload_n ok 0 dJ6_bitCount_0f7a4_41 rfl ?_
  refine r_iload_n ok 0 dJ6_bitCount_0f7a4_42 rfl ?_
  refine r_bipush ok (nI 16) dJ6_bitCount_0f7a4_43 (by decide) ?_
  refine r_iushr ok dJ6_bitCount_0f7a4_45 ?_
  refine r_iadd ok dJ6_bitCount_0f7a4_46 ?_
  refine r_istore_n ok [(0, .int (((((((v0 - ((jushr v0 (nI 1)) &&& (nI 1431655765))) &&& (nI 858993459)) + ((jushr (v0 - ((jushr v0 (nI 1)) &&& (nI 1431655765))) (nI 2)) &&& (nI 858993459))) + (jushr (((v0 - ((jushr v0 (nI 1)) &&& (nI 1431655765))) &&& (nI 858993459)) + ((jushr (v0 - ((jushr v0 (nI 1)) &&& (nI 1431655765))) (nI 2)) &&& (nI 858993459))) (nI 4))) &&& (nI 252645135)) + (jushr (((((v0 - ((jushr v0 (nI 1)) &&& (nI 1431655765))) &&& (nI 858993459)) + ((jushr (v0 - ((jushr v0 (nI 1)) &&& (nI 1431655765))) (nI 2)) &&& (nI 858993459))) + (jushr (((v0 - ((jushr v0 (nI 1)) &&& (nI 1431655765))) &&& (nI 858993459)) + ((jushr (v0 - ((jushr v0 (nI 1)) &&& (nI 1431655765))) (nI 2)) &&& (nI 858993459))) (nI 4))) &&& (nI 252645135)) (nI 8))) + (jushr ((((((v0 - ((jushr v0 (nI 1)) &&& (nI 1431655765))) &&& (nI 858993459)) + ((jushr (v0 - ((jushr v0 (nI 1)) &&& (nI 1431655765))) (nI 2)) &&& (nI 858993459))) + (jushr (((v0 - ((jushr v0 (nI 1)) &&& (nI 1431655765))) &&& (nI 858993459)) + ((jushr (v0 - ((jushr v0 (nI 1)) &&& (nI 1431655765))) (nI 2)) &&& (nI 858993459))) (nI 4))) &&& (nI 252645135)) + (jushr (((((v0 - ((jushr v0 (nI 1)) &&& (nI 1431655765))) &&& (nI 858993459)) + ((jushr (v0 - ((jushr v0 (nI 1)) &&& (nI 1431655765))) (nI 2)) &&& (nI 858993459))) + (jushr (((v0 - ((jushr v0 (nI 1)) &&& (nI 1431655765))) &&& (nI 858993459)) + ((jushr (v0 - ((jushr v0 (nI 1)) &&& (nI 1431655765))) (nI 2)) &&& (nI 858993459))) (nI 4))) &&& (nI 252645135)) (nI 8))) (nI 16))))] dJ6_bitCount_0f7a4_47 (by decide) rfl ?_
  refine r_iload_n ok 0 dJ6_bitCount_0f7a4_48 rfl ?_
  refine r_bipush ok (nI 63) dJ6_bitCount_0f7a4_49 (by decide) ?_
  refine r_iand ok dJ6_bitCount_0f7a4_51 ?_
  exact r_iret ok rfl dJ6_bitCount_0f7a4_52 h
set_option maxRecDepth 10000 in
theorem s_J9_max_7cf53_0 {l : Launch} {x : Cx} {g : Geo} {K : Int32 → Mem → Prop} (ok : Ok x g shX m_J9_max_7cf53) (v0 : Int32) (v1 : Int32) (S : Mem) (h : ((v0 < v1 → K v1 S) ∧ (¬ v0 < v1 → K v0 S))) : PW l x g shX m_J9_max_7cf53 (Qi x g shX K) 0 [(0, .int v0), (1, .int v1)] [] S := by
  refine r_iload_n ok 0 dJ9_max_7cf53_0 rfl ?_
  refine r_iload_n ok 1 dJ9_max_7cf53_1 rfl ?_
  refine r_icmp_lt ok 9 dJ9_max_7cf53_2 (by decide) ⟨fun c => ?_, fun c => ?_⟩
  · have h := h.1 c
    refine r_iload_n ok 1 dJ9_max_7cf53_9 rfl ?_
    exact r_iret ok rfl dJ9_max_7cf53_10 h
  · have h := h.2 c
    refine r_iload_n ok 0 dJ9_max_7cf53_5 rfl ?_
    refine r_goto ok 10 dJ9_max_7cf53_6 (by decide) ?_
    exact r_iret ok rfl dJ9_max_7cf53_10 h
set_option maxRecDepth 10000 in
theorem s_J9_min_7cf53_0 {l : Launch} {x : Cx} {g : Geo} {K : Int32 → Mem → Prop} (ok : Ok x g shX m_J9_min_7cf53) (v0 : Int32) (v1 : Int32) (S : Mem) (h : ((v1 < v0 → K v1 S) ∧ (¬ v1 < v0 → K v0 S))) : PW l x g shX m_J9_min_7cf53 (Qi x g shX K) 0 [(0, .int v0), (1, .int v1)] [] S := by
  refine r_iload_n ok 0 dJ9_min_7cf53_0 rfl ?_
  refine r_iload_n ok 1 dJ9_min_7cf53_1 rfl ?_
  refine r_icmp_gt ok 9 dJ9_min_7cf53_2 (by decide) ⟨fun c => ?_, fun c => ?_⟩
  · have h := h.1 c
    refine r_iload_n ok 1 dJ9_min_7cf53_9 rfl ?_
    exact r_iret ok rfl dJ9_min_7cf53_10 h
  · have h := h.2 c
    refine r_iload_n ok 0 dJ9_min_7cf53_5 rfl ?_
    refine r_goto ok 10 dJ9_min_7cf53_6 (by decide) ?_
    exact r_iret ok rfl dJ9_min_7cf53_10 h
set_option maxRecDepth 10000 in
theorem s_J7_fill_53178_0 {l : Launch} {x : Cx} {g : Geo} {K : Mem → Prop} (ok : Ok x g shX m_J7_fill_53178) (ka na : Nat) (hka : shX[ka]? = some (.inl (0, na))) (v1 : Int32) (S : Mem) (h : PW l x g shX m_J7_fill_53178 (Qv x g shX K) 5 [(0, .ref (g.ad ka)), (1, .int v1), (2, .int (nI 0)), (3, .int (nI na))] [] S) : PW l x g shX m_J7_fill_53178 (Qv x g shX K) 0 [(0, .ref (g.ad ka)), (1, .int v1)] [] S := by
  refine r_iconst ok (nI 0) dJ7_fill_53178_0 (by decide) ?_
  refine r_istore_n ok [(2, .int (nI 0)), (0, .ref (g.ad ka)), (1, .int v1)] dJ7_fill_53178_1 (by decide) rfl ?_
  refine r_aload_n ok 1 dJ7_fill_53178_2 rfl ?_
  refine r_alen ok (v := 0) ka hka (by decide) dJ7_fill_53178_3 ?_
  refine r_istore_n ok [(3, .int (nI na)), (2, .int (nI 0)), (0, .ref (g.ad ka)), (1, .int v1)] dJ7_fill_53178_4 (by decide) rfl ?_
  exact r_sub [2, 3, 1, 0] _ rfl h
set_option maxRecDepth 10000 in
theorem s_J7_fill_53178_5 {l : Launch} {x : Cx} {g : Geo} {K : Mem → Prop} (ok : Ok x g shX m_J7_fill_53178) (ka na : Nat) (hka : shX[ka]? = some (.inl (0, na))) (v1 : Int32) (v2 : Int32) (v3 : Int32) (S : Mem) (h : ((v3 ≤ v2 → K S) ∧ (¬ v3 ≤ v2 → (vp_in v2 na ∧ PW l x g shX m_J7_fill_53178 (Qv x g shX K) 5 [(0, .ref (g.ad ka)), (1, .int v1), (2, .int (v2 + (nI 1))), (3, .int v3)] [] (st2 S ka (cl v2) v1))))) : PW l x g shX m_J7_fill_53178 (Qv x g shX K) 5 [(0, .ref (g.ad ka)), (1, .int v1), (2, .int v2), (3, .int v3)] [] S := by
  refine r_iload_n ok 2 dJ7_fill_53178_5 rfl ?_
  refine r_iload_n ok 3 dJ7_fill_53178_6 rfl ?_
  refine r_icmp_ge ok 20 dJ7_fill_53178_7 (by decide) ⟨fun c => ?_, fun c => ?_⟩
  · have h := h.1 c
    exact r_ret ok rfl dJ7_fill_53178_20 h
  · have h := h.2 c
    refine r_aload_n ok 0 dJ7_fill_53178_10 rfl ?_
    refine r_iload_n ok 2 dJ7_fill_53178_11 rfl ?_
    refine r_iload_n ok 1 dJ7_fill_53178_12 rfl ?_
    refine r_iastore ok ka hka dJ7_fill_53178_13 h.1 ?_
    have h := h.2
    refine r_iinc ok 2 (v2 + (nI 1)) [(2, .int (v2 + (nI 1))), (0, .ref (g.ad ka)), (1, .int v1), (3, .int v3)] dJ7_fill_53178_14 rfl rfl (by decide) rfl ?_
    refine r_goto ok 5 dJ7_fill_53178_17 (by decide) ?_
    exact r_sub [1, 2, 0, 3] _ rfl h
