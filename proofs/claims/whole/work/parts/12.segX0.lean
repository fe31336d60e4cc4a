/-! segments, written by program: 12.segX0.lean.txt -/
set_option maxRecDepth 10000 in
theorem s_X0_add_0 {l : Launch} {x : Cx} {g : Geo} {K : Mem → Prop} (ok : Ok x g shX m_X0_add) (v1 : Int32) (v2 : Int32) (S : Mem) (h : (((nI 20) ≤ (S 15 2) → K S) ∧ (¬ (nI 20) ≤ (S 15 2) → (vp_in (S 15 2) 20 ∧ (vp_in ((st2 S 16 (cl (S 15 2)) v1) 15 2) 20 ∧ vp_nar .boolean v2 = v2 ∧ K (st2 (st2 (st2 S 16 (cl (S 15 2)) v1) 17 (cl ((st2 S 16 (cl (S 15 2)) v1) 15 2)) v2) 15 2 (((st2 (st2 S 16 (cl (S 15 2)) v1) 17 (cl ((st2 S 16 (cl (S 15 2)) v1) 15 2)) v2) 15 2) + (nI 1)))))))) : PW l x g shX m_X0_add (Qv x g shX K) 0 [(0, .ref (g.ad 15)), (1, .int v1), (2, .int v2)] [] S := by
  refine r_aload_n ok 0 dX0_add_0 rfl ?_
  refine r_getI ok 15 2 rfl rfl fo_X0_19 dX0_add_1 ?_
  refine r_bipush ok (nI 20) dX0_add_4 (by decide) ?_
  refine r_icmp_ge ok 39 dX0_add_6 (by decide) ⟨fun c => ?_, fun c => ?_⟩
  · have h := h.1 c
    exact r_ret ok rfl dX0_add_39 h
  · have h := h.2 c
    refine r_aload_n ok 0 dX0_add_9 rfl ?_
    refine r_getR ok 15 0 rfl rfl fo_X0_9 dX0_add_10 ?_
    refine r_aload_n ok 0 dX0_add_13 rfl ?_
    refine r_getI ok 15 2 rfl rfl fo_X0_19 dX0_add_14 ?_
    refine r_iload_n ok 1 dX0_add_17 rfl ?_
    refine r_iastore ok 16 rfl dX0_add_18 h.1 ?_
    have h := h.2
    refine r_aload_n ok 0 dX0_add_19 rfl ?_
    refine r_getR ok 15 1 rfl rfl fo_X0_15 dX0_add_20 ?_
    refine r_aload_n ok 0 dX0_add_23 rfl ?_
    refine r_getI ok 15 2 rfl rfl fo_X0_19 dX0_add_24 ?_
    refine r_iload_n ok 2 dX0_add_27 rfl ?_
    refine r_bastore ok 17 rfl dX0_add_28 h.1 h.2.1 ?_
    have h := h.2.2
    refine r_aload_n ok 0 dX0_add_29 rfl ?_
    refine r_dup ok dX0_add_30 rfl ?_
    refine r_getI ok 15 2 rfl rfl fo_X0_19 dX0_add_31 ?_
    refine r_iconst ok (nI 1) dX0_add_34 (by decide) ?_
    refine r_iadd ok dX0_add_35 ?_
    refine r_put ok 15 2 rfl rfl po_X0_19 rfl rfl dX0_add_36 ?_
    exact r_ret ok rfl dX0_add_39 h
set_option maxRecDepth 10000 in
theorem s_X0_copyFrom_15_58_0 {l : Launch} {x : Cx} {g : Geo} {K : Mem → Prop} (ok : Ok x g shX m_X0_copyFrom) (S : Mem) (h : PW l x g shX m_X0_copyFrom (Qv x g shX K) 2 [(0, .ref (g.ad 15)), (1, .ref (g.ad 58)), (2, .int (nI 0))] [] S) : PW l x g shX m_X0_copyFrom (Qv x g shX K) 0 [(0, .ref (g.ad 15)), (1, .ref (g.ad 58))] [] S := by
  refine r_iconst ok (nI 0) dX0_copyFrom_0 (by decide) ?_
  refine r_istore_n ok [(2, .int (nI 0)), (0, .ref (g.ad 15)), (1, .ref (g.ad 58))] dX0_copyFrom_1 (by decide) rfl ?_
  exact r_sub [1, 2, 0] _ rfl h
set_option maxRecDepth 10000 in
theorem s_X0_copyFrom_15_58_2 {l : Launch} {x : Cx} {g : Geo} {K : Mem → Prop} (ok : Ok x g shX m_X0_copyFrom) (v2 : Int32) (S : Mem) (h : (((nI 20) ≤ v2 → K (st2 S 15 2 (S 58 2))) ∧ (¬ (nI 20) ≤ v2 → (vp_in v2 20 ∧ (vp_in v2 20 ∧ (vp_in v2 20 ∧ (vp_in v2 20 ∧ vp_nar .boolean ((st2 S 16 (cl v2) (S 59 (cl v2))) 60 (cl v2)) = ((st2 S 16 (cl v2) (S 59 (cl v2))) 60 (cl v2)) ∧ PW l x g shX m_X0_copyFrom (Qv x g shX K) 2 [(0, .ref (g.ad 15)), (1, .ref (g.ad 58)), (2, .int (v2 + (nI 1)))] [] (st2 (st2 S 16 (cl v2) (S 59 (cl v2))) 17 (cl v2) ((st2 S 16 (cl v2) (S 59 (cl v2))) 60 (cl v2)))))))))) : PW l x g shX m_X0_copyFrom (Qv x g shX K) 2 [(0, .ref (g.ad 15)), (1, .ref (g.ad 58)), (2, .int v2)] [] S := by
  refine r_iload_n ok 2 dX0_copyFrom_2 rfl ?_
  refine r_bipush ok (nI 20) dX0_copyFrom_3 (by decide) ?_
  refine r_icmp_ge ok 38 dX0_copyFrom_5 (by decide) ⟨fun c => ?_, fun c => ?_⟩
  · have h := h.1 c
    refine r_aload_n ok 0 dX0_copyFrom_38 rfl ?_
    refine r_aload_n ok 1 dX0_copyFrom_39 rfl ?_
    refine r_getI ok 58 2 rfl rfl fo_X0_19 dX0_copyFrom_40 ?_
    refine r_put ok 15 2 rfl rfl po_X0_19 rfl rfl dX0_copyFrom_43 ?_
    exact r_ret ok rfl dX0_copyFrom_46 h
  · have h := h.2 c
    refine r_aload_n ok 0 dX0_copyFrom_8 rfl ?_
    refine r_getR ok 15 0 rfl rfl fo_X0_9 dX0_copyFrom_9 ?_
    refine r_iload_n ok 2 dX0_copyFrom_12 rfl ?_
    refine r_aload_n ok 1 dX0_copyFrom_13 rfl ?_
    refine r_getR ok 58 0 rfl rfl fo_X0_9 dX0_copyFrom_14 ?_
    refine r_iload_n ok 2 dX0_copyFrom_17 rfl ?_
    refine r_iaload ok 59 rfl dX0_copyFrom_18 h.1 ?_
    have h := h.2
    refine r_iastore ok 16 rfl dX0_copyFrom_19 h.1 ?_
    have h := h.2
    refine r_aload_n ok 0 dX0_copyFrom_20 rfl ?_
    refine r_getR ok 15 1 rfl rfl fo_X0_15 dX0_copyFrom_21 ?_
    refine r_iload_n ok 2 dX0_copyFrom_24 rfl ?_
    refine r_aload_n ok 1 dX0_copyFrom_25 rfl ?_
    refine r_getR ok 58 1 rfl rfl fo_X0_15 dX0_copyFrom_26 ?_
    refine r_iload_n ok 2 dX0_copyFrom_29 rfl ?_
    refine r_baload ok 60 rfl dX0_copyFrom_30 h.1 ?_
    have h := h.2
    refine r_bastore ok 17 rfl dX0_copyFrom_31 h.1 h.2.1 ?_
    have h := h.2.2
    refine r_iinc ok 2 (v2 + (nI 1)) [(2, .int (v2 + (nI 1))), (0, .ref (g.ad 15)), (1, .ref (g.ad 58))] dX0_copyFrom_32 rfl rfl (by decide) rfl ?_
    refine r_goto ok 2 dX0_copyFrom_35 (by decide) ?_
    exact r_sub [1, 2, 0] _ rfl h
set_option maxRecDepth 10000 in
theorem s_X0_copyFrom_15_73_0 {l : Launch} {x : Cx} {g : Geo} {K : Mem → Prop} (ok : Ok x g shX m_X0_copyFrom) (S : Mem) (h : PW l x g shX m_X0_copyFrom (Qv x g shX K) 2 [(0, .ref (g.ad 15)), (1, .ref (g.ad 73)), (2, .int (nI 0))] [] S) : PW l x g shX m_X0_copyFrom (Qv x g shX K) 0 [(0, .ref (g.ad 15)), (1, .ref (g.ad 73))] [] S := by
  refine r_iconst ok (nI 0) dX0_copyFrom_0 (by decide) ?_
  refine r_istore_n ok [(2, .int (nI 0)), (0, .ref (g.ad 15)), (1, .ref (g.ad 73))] dX0_copyFrom_1 (by decide) rfl ?_
  exact r_sub [1, 2, 0] _ rfl h
set_option maxRecDepth 10000 in
theorem s_X0_copyFrom_15_73_2 {l : Launch} {x : Cx} {g : Geo} {K : Mem → Prop} (ok : Ok x g shX m_X0_copyFrom) (v2 : Int32) (S : Mem) (h : (((nI 20) ≤ v2 → K (st2 S 15 2 (S 73 2))) ∧ (¬ (nI 20) ≤ v2 → (vp_in v2 20 ∧ (vp_in v2 20 ∧ (vp_in v2 20 ∧ (vp_in v2 20 ∧ vp_nar .boolean ((st2 S 16 (cl v2) (S 74 (cl v2))) 75 (cl v2)) = ((st2 S 16 (cl v2) (S 74 (cl v2))) 75 (cl v2)) ∧ PW l x g shX m_X0_copyFrom (Qv x g shX K) 2 [(0, .ref (g.ad 15)), (1, .ref (g.ad 73)), (2, .int (v2 + (nI 1)))] [] (st2 (st2 S 16 (cl v2) (S 74 (cl v2))) 17 (cl v2) ((st2 S 16 (cl v2) (S 74 (cl v2))) 75 (cl v2)))))))))) : PW l x g shX m_X0_copyFrom (Qv x g shX K) 2 [(0, .ref (g.ad 15)), (1, .ref (g.ad 73)), (2, .int v2)] [] S := by
  refine r_iload_n ok 2 dX0_copyFrom_2 rfl ?_
  refine r_bipush ok (nI 20) dX0_copyFrom_3 (by decide) ?_
  refine r_icmp_ge ok 38 dX0_copyFrom_5 (by decide) ⟨fun c => ?_, fun c => ?_⟩
  · have h := h.1 c
    refine r_aload_n ok 0 dX0_copyFrom_38 rfl ?_
    refine r_aload_n ok 1 dX0_copyFrom_39 rfl ?_
    refine r_getI ok 73 2 rfl rfl fo_X0_19 dX0_copyFrom_40 ?_
    refine r_put ok 15 2 rfl rfl po_X0_19 rfl rfl dX0_copyFrom_43 ?_
    exact r_ret ok rfl dX0_copyFrom_46 h
  · have h := h.2 c
    refine r_aload_n ok 0 dX0_copyFrom_8 rfl ?_
    refine r_getR ok 15 0 rfl rfl fo_X0_9 dX0_copyFrom_9 ?_
    refine r_iload_n ok 2 dX0_copyFrom_12 rfl ?_
    refine r_aload_n ok 1 dX0_copyFrom_13 rfl ?_
    refine r_getR ok 73 0 rfl rfl fo_X0_9 dX0_copyFrom_14 ?_
    refine r_iload_n ok 2 dX0_copyFrom_17 rfl ?_
    refine r_iaload ok 74 rfl dX0_copyFrom_18 h.1 ?_
    have h := h.2
    refine r_iastore ok 16 rfl dX0_copyFrom_19 h.1 ?_
    have h := h.2
    refine r_aload_n ok 0 dX0_copyFrom_20 rfl ?_
    refine r_getR ok 15 1 rfl rfl fo_X0_15 dX0_copyFrom_21 ?_
    refine r_iload_n ok 2 dX0_copyFrom_24 rfl ?_
    refine r_aload_n ok 1 dX0_copyFrom_25 rfl ?_
    refine r_getR ok 73 1 rfl rfl fo_X0_15 dX0_copyFrom_26 ?_
    refine r_iload_n ok 2 dX0_copyFrom_29 rfl ?_
    refine r_baload ok 75 rfl dX0_copyFrom_30 h.1 ?_
    have h := h.2
    refine r_bastore ok 17 rfl dX0_copyFrom_31 h.1 h.2.1 ?_
    have h := h.2.2
    refine r_iinc ok 2 (v2 + (nI 1)) [(2, .int (v2 + (nI 1))), (0, .ref (g.ad 15)), (1, .ref (g.ad 73))] dX0_copyFrom_32 rfl rfl (by decide) rfl ?_
    refine r_goto ok 2 dX0_copyFrom_35 (by decide) ?_
    exact r_sub [1, 2, 0] _ rfl h
set_option maxRecDepth 10000 in
theorem s_X0_copyFrom_58_15_0 {l : Launch} {x : Cx} {g : Geo} {K : Mem → Prop} (ok : Ok x g shX m_X0_copyFrom) (S : Mem) (h : PW l x g shX m_X0_copyFrom (Qv x g shX K) 2 [(0, .ref (g.ad 58)), (1, .ref (g.ad 15)), (2, .int (nI 0))] [] S) : PW l x g shX m_X0_copyFrom (Qv x g shX K) 0 [(0, .ref (g.ad 58)), (1, .ref (g.ad 15))] [] S := by
  refine r_iconst ok (nI 0) dX0_copyFrom_0 (by decide) ?_
  refine r_istore_n ok [(2, .int (nI 0)), (0, .ref (g.ad 58)), (1, .ref (g.ad 15))] dX0_copyFrom_1 (by decide) rfl ?_
  exact r_sub [1, 2, 0] _ rfl h
set_option maxRecDepth 10000 in
theorem s_X0_copyFrom_58_15_2 {l : Launch} {x : Cx} {g : Geo} {K : Mem → Prop} (ok : Ok x g shX m_X0_copyFrom) (v2 : Int32) (S : Mem) (h : (((nI 20) ≤ v2 → K (st2 S 58 2 (S 15 2))) ∧ (¬ (nI 20) ≤ v2 → (vp_in v2 20 ∧ (vp_in v2 20 ∧ (vp_in v2 20 ∧ (vp_in v2 20 ∧ vp_nar .boolean ((st2 S 59 (cl v2) (S 16 (cl v2))) 17 (cl v2)) = ((st2 S 59 (cl v2) (S 16 (cl v2))) 17 (cl v2)) ∧ PW l x g shX m_X0_copyFrom (Qv x g shX K) 2 [(0, .ref (g.ad 58)), (1, .ref (g.ad 15)), (2, .int (v2 + (nI 1)))] [] (st2 (st2 S 59 (cl v2) (S 16 (cl v2))) 60 (cl v2) ((st2 S 59 (cl v2) (S 16 (cl v2))) 17 (cl v2)))))))))) : PW l x g shX m_X0_copyFrom (Qv x g shX K) 2 [(0, .ref (g.ad 58)), (1, .ref (g.ad 15)), (2, .int v2)] [] S := by
  refine r_iload_n ok 2 dX0_copyFrom_2 rfl ?_
  refine r_bipush ok (nI 20) dX0_copyFrom_3 (by decide) ?_
  refine r_icmp_ge ok 38 dX0_copyFrom_5 (by decide) ⟨fun c => ?_, fun c => ?_⟩
  · have h := h.1 c
    refine r_aload_n ok 0 dX0_copyFrom_38 rfl ?_
    refine r_aload_n ok 1 dX0_copyFrom_39 rfl ?_
    refine r_getI ok 15 2 rfl rfl fo_X0_19 dX0_copyFrom_40 ?_
    refine r_put ok 58 2 rfl rfl po_X0_19 rfl rfl dX0_copyFrom_43 ?_
    exact r_ret ok rfl dX0_copyFrom_46 h
  · have h := h.2 c
    refine r_aload_n ok 0 dX0_copyFrom_8 rfl ?_
    refine r_getR ok 58 0 rfl rfl fo_X0_9 dX0_copyFrom_9 ?_
    refine r_iload_n ok 2 dX0_copyFrom_12 rfl ?_
    refine r_aload_n ok 1 dX0_copyFrom_13 rfl ?_
    refine r_getR ok 15 0 rfl rfl fo_X0_9 dX0_copyFrom_14 ?_
    refine r_iload_n ok 2 dX0_copyFrom_17 rfl ?_
    refine r_iaload ok 16 rfl dX0_copyFrom_18 h.1 ?_
    have h := h.2
    refine r_iastore ok 59 rfl dX0_copyFrom_19 h.1 ?_
    have h := h.2
    refine r_aload_n ok 0 dX0_copyFrom_20 rfl ?_
    refine r_getR ok 58 1 rfl rfl fo_X0_15 dX0_copyFrom_21 ?_
    refine r_iload_n ok 2 dX0_copyFrom_24 rfl ?_
    refine r_aload_n ok 1 dX0_copyFrom_25 rfl ?_
    refine r_getR ok 15 1 rfl rfl fo_X0_15 dX0_copyFrom_26 ?_
    refine r_iload_n ok 2 dX0_copyFrom_29 rfl ?_
    refine r_baload ok 17 rfl dX0_copyFrom_30 h.1 ?_
    have h := h.2
    refine r_bastore ok 60 rfl dX0_copyFrom_31 h.1 h.2.1 ?_
    have h := h.2.2
    refine r_iinc ok 2 (v2 + (nI 1)) [(2, .int (v2 + (nI 1))), (0, .ref (g.ad 58)), (1, .ref (g.ad 15))] dX0_copyFrom_32 rfl rfl (by decide) rfl ?_
    refine r_goto ok 2 dX0_copyFrom_35 (by decide) ?_
    exact r_sub [1, 2, 0] _ rfl h
set_option maxRecDepth 10000 in
theorem s_X0_copyFrom_73_15_0 {l : Launch} {x : Cx} {g : Geo} {K : Mem → Prop} (ok : Ok x g shX m_X0_copyFrom) (S : Mem) (h : PW l x g shX m_X0_copyFrom (Qv x g shX K) 2 [(0, .ref (g.ad 73)), (1, .ref (g.ad 15)), (2, .int (nI 0))] [] S) : PW l x g shX m_X0_copyFrom (Qv x g shX K) 0 [(0, .ref (g.ad 73)), (1, .ref (g.ad 15))] [] S := by
  refine r_iconst ok (nI 0) dX0_copyFrom_0 (by decide) ?_
  refine r_istore_n ok [(2, .int (nI 0)), (0, .ref (g.ad 73)), (1, .ref (g.ad 15))] dX0_copyFrom_1 (by decide) rfl ?_
  exact r_sub [1, 2, 0] _ rfl h
set_option maxRecDepth 10000 in
theorem s_X0_copyFrom_73_15_2 {l : Launch} {x : Cx} {g : Geo} {K : Mem → Prop} (ok : Ok x g shX m_X0_copyFrom) (v2 : Int32) (S : Mem) (h : (((nI 20) ≤ v2 → K (st2 S 73 2 (S 15 2))) ∧ (¬ (nI 20) ≤ v2 → (vp_in v2 20 ∧ (vp_in v2 20 ∧ (vp_in v2 20 ∧ (vp_in v2 20 ∧ vp_nar .boolean ((st2 S 74 (cl v2) (S 16 (cl v2))) 17 (cl v2)) = ((st2 S 74 (cl v2) (S 16 (cl v2))) 17 (cl v2)) ∧ PW l x g shX m_X0_copyFrom (Qv x g shX K) 2 [(0, .ref (g.ad 73)), (1, .ref (g.ad 15)), (2, .int (v2 + (nI 1)))] [] (st2 (st2 S 74 (cl v2) (S 16 (cl v2))) 75 (cl v2) ((st2 S 74 (cl v2) (S 16 (cl v2))) 17 (cl v2)))))))))) : PW l x g shX m_X0_copyFrom (Qv x g shX K) 2 [(0, .ref (g.ad 73)), (1, .ref (g.ad 15)), (2, .int v2)] [] S := by
  refine r_iload_n ok 2 dX0_copyFrom_2 rfl ?_
  refine r_bipush ok (nI 20) dX0_copyFrom_3 (by decide) ?_
  refine r_icmp_ge ok 38 dX0_copyFrom_5 (by decide) ⟨fun c => ?_, fun c => ?_⟩
  · have h := h.1 c
    refine r_aload_n ok 0 dX0_copyFrom_38 rfl ?_
    refine r_aload_n ok 1 dX0_copyFrom_39 rfl ?_
    refine r_getI ok 15 2 rfl rfl fo_X0_19 dX0_copyFrom_40 ?_
    refine r_put ok 73 2 rfl rfl po_X0_19 rfl rfl dX0_copyFrom_43 ?_
    exact r_ret ok rfl dX0_copyFrom_46 h
  · have h := h.2 c
    refine r_aload_n ok 0 dX0_copyFrom_8 rfl ?_
    refine r_getR ok 73 0 rfl rfl fo_X0_9 dX0_copyFrom_9 ?_
    refine r_iload_n ok 2 dX0_copyFrom_12 rfl ?_
    refine r_aload_n ok 1 dX0_copyFrom_13 rfl ?_
    refine r_getR ok 15 0 rfl rfl fo_X0_9 dX0_copyFrom_14 ?_
    refine r_iload_n ok 2 dX0_copyFrom_17 rfl ?_
    refine r_iaload ok 16 rfl dX0_copyFrom_18 h.1 ?_
    have h := h.2
    refine r_iastore ok 74 rfl dX0_copyFrom_19 h.1 ?_
    have h := h.2
    refine r_aload_n ok 0 dX0_copyFrom_20 rfl ?_
    refine r_getR ok 73 1 rfl rfl fo_X0_15 dX0_copyFrom_21 ?_
    refine r_iload_n ok 2 dX0_copyFrom_24 rfl ?_
    refine r_aload_n ok 1 dX0_copyFrom_25 rfl ?_
    refine r_getR ok 15 1 rfl rfl fo_X0_15 dX0_copyFrom_26 ?_
    refine r_iload_n ok 2 dX0_copyFrom_29 rfl ?_
    refine r_baload ok 17 rfl dX0_copyFrom_30 h.1 ?_
    have h := h.2
    refine r_bastore ok 75 rfl dX0_copyFrom_31 h.1 h.2.1 ?_
    have h := h.2.2
    refine r_iinc ok 2 (v2 + (nI 1)) [(2, .int (v2 + (nI 1))), (0, .ref (g.ad 73)), (1, .ref (g.ad 15))] dX0_copyFrom_32 rfl rfl (by decide) rfl ?_
    refine r_goto ok 2 dX0_copyFrom_35 (by decide) ?_
    exact r_sub [1, 2, 0] _ rfl h
set_option maxRecDepth 10000 in
theorem s_X1_holds_0 {l : Launch} {x : Cx} {g : Geo} {K : Int32 → Mem → Prop} (ok : Ok x g shX m_X1_holds) (v1 : Int32) (S : Mem) (h : ((v1 < 0 → K (nI 0) S) ∧ (¬ v1 < 0 → (((S 4 5) ≤ v1 → K (nI 0) S) ∧ (¬ (S 4 5) ≤ v1 → K (nI 1) S))))) : PW l x g shX m_X1_holds (Qi x g shX K) 0 [(0, .ref (g.ad 4)), (1, .int v1)] [] S := by
  refine r_iload_n ok 1 dX1_holds_0 rfl ?_
  refine r_if_lt ok 16 dX1_holds_1 (by decide) ⟨fun c => ?_, fun c => ?_⟩
  · have h := h.1 c
    refine r_iconst ok (nI 0) dX1_holds_16 (by decide) ?_
    exact r_zret ok rfl dX1_holds_17 ⟨rfl, h⟩
  · have h := h.2 c
    refine r_iload_n ok 1 dX1_holds_4 rfl ?_
    refine r_aload_n ok 0 dX1_holds_5 rfl ?_
    refine r_getI ok 4 5 rfl rfl fo_X1_33 dX1_holds_6 ?_
    refine r_icmp_ge ok 16 dX1_holds_9 (by decide) ⟨fun c => ?_, fun c => ?_⟩
    · have h := h.1 c
      refine r_iconst ok (nI 0) dX1_holds_16 (by decide) ?_
      exact r_zret ok rfl dX1_holds_17 ⟨rfl, h⟩
    · have h := h.2 c
      refine r_iconst ok (nI 1) dX1_holds_12 (by decide) ?_
      refine r_goto ok 17 dX1_holds_13 (by decide) ?_
      exact r_zret ok rfl dX1_holds_17 ⟨rfl, h⟩
set_option maxRecDepth 10000 in
theorem s_X1_allWords_0 {l : Launch} {x : Cx} {g : Geo} {K : Int32 → Mem → Prop} (ok : Ok x g shX m_X1_allWords) (S : Mem) (h : K ((jshl (nI 1) (S 4 5)) - (nI 1)) S) : PW l x g shX m_X1_allWords (Qi x g shX K) 0 [(0, .ref (g.ad 4))] [] S := by
  refine r_iconst ok (nI 1) dX1_allWords_0 (by decide) ?_
  refine r_aload_n ok 0 dX1_allWords_1 rfl ?_
  refine r_getI ok 4 5 rfl rfl fo_X1_33 dX1_allWords_2 ?_
  refine r_ishl ok dX1_allWords_5 ?_
  refine r_iconst ok (nI 1) dX1_allWords_6 (by decide) ?_
  refine r_isub ok dX1_allWords_7 ?_
  exact r_iret ok rfl dX1_allWords_8 h
set_option maxRecDepth 10000 in
theorem s_X1_isWordSet_0 {l : Launch} {x : Cx} {g : Geo} {K : Int32 → Mem → Prop} (ok : Ok x g shX m_X1_isWordSet) (v1 : Int32) (S : Mem) (h : ((v1 < 0 → K (nI 0) S) ∧ (¬ v1 < 0 → MWi l g shX m_X1_allWords [.ref (g.ad 4)] S (fun r1 S1 => ((r1 < v1 → K (nI 0) S1) ∧ (¬ r1 < v1 → K (nI 1) S1)))))) : PW l x g shX m_X1_isWordSet (Qi x g shX K) 0 [(0, .ref (g.ad 4)), (1, .int v1)] [] S := by
  refine r_iload_n ok 1 dX1_isWordSet_0 rfl ?_
  refine r_if_lt ok 16 dX1_isWordSet_1 (by decide) ⟨fun c => ?_, fun c => ?_⟩
  · have h := h.1 c
    refine r_iconst ok (nI 0) dX1_isWordSet_16 (by decide) ?_
    exact r_zret ok rfl dX1_isWordSet_17 ⟨rfl, h⟩
  · have h := h.2 c
    refine r_iload_n ok 1 dX1_isWordSet_4 rfl ?_
    refine r_aload_n ok 0 dX1_isWordSet_5 rfl ?_
    refine r_virti ok (rest := [.int v1]) (As := []) 4 _ k_X1_isWordSet_37 rfl rfl rfl rfl (Nat.le_of_ble_eq_true rfl) dX1_isWordSet_6 (MWi.mono h (fun r1 S1 h => ?_))
    refine r_icmp_gt ok 16 dX1_isWordSet_9 (by decide) ⟨fun c => ?_, fun c => ?_⟩
    · have h := h.1 c
      refine r_iconst ok (nI 0) dX1_isWordSet_16 (by decide) ?_
      exact r_zret ok rfl dX1_isWordSet_17 ⟨rfl, h⟩
    · have h := h.2 c
      refine r_iconst ok (nI 1) dX1_isWordSet_12 (by decide) ?_
      refine r_goto ok 17 dX1_isWordSet_13 (by decide) ?_
      exact r_zret ok rfl dX1_isWordSet_17 ⟨rfl, h⟩
set_option maxRecDepth 10000 in
theorem s_X1_signAt_0 {l : Launch} {x : Cx} {g : Geo} {K : Int32 → Mem → Prop} (ok : Ok x g shX m_X1_signAt) (v1 : Int32) (v2 : Int32) (S : Mem) (h : (vp_in ((v1 * (nI 5)) + v2) 60 ∧ K (S 8 (cl ((v1 * (nI 5)) + v2))) S)) : PW l x g shX m_X1_signAt (Qi x g shX K) 0 [(0, .ref (g.ad 4)), (1, .int v1), (2, .int v2)] [] S := by
  refine r_aload_n ok 0 dX1_signAt_0 rfl ?_
  refine r_getR ok 4 3 rfl rfl fo_X1_21 dX1_signAt_1 ?_
  refine r_iload_n ok 1 dX1_signAt_4 rfl ?_
  refine r_iconst ok (nI 5) dX1_signAt_5 (by decide) ?_
  refine r_imul ok dX1_signAt_6 ?_
  refine r_iload_n ok 2 dX1_signAt_7 rfl ?_
  refine r_iadd ok dX1_signAt_8 ?_
  refine r_iaload ok 8 rfl dX1_signAt_9 h.1 ?_
  have h := h.2
  exact r_iret ok rfl dX1_signAt_10 h
set_option maxRecDepth 10000 in
theorem s_X1_soundAt_0 {l : Launch} {x : Cx} {g : Geo} {K : Int32 → Mem → Prop} (ok : Ok x g shX m_X1_soundAt) (v1 : Int32) (v2 : Int32) (S : Mem) (h : (vp_in ((v1 * (nI 5)) + v2) 60 ∧ K (S 9 (cl ((v1 * (nI 5)) + v2))) S)) : PW l x g shX m_X1_soundAt (Qi x g shX K) 0 [(0, .ref (g.ad 4)), (1, .int v1), (2, .int v2)] [] S := by
  refine r_aload_n ok 0 dX1_soundAt_0 rfl ?_
  refine r_getR ok 4 4 rfl rfl fo_X1_24 dX1_soundAt_1 ?_
  refine r_iload_n ok 1 dX1_soundAt_4 rfl ?_
  refine r_iconst ok (nI 5) dX1_soundAt_5 (by decide) ?_
  refine r_imul ok dX1_soundAt_6 ?_
  refine r_iload_n ok 2 dX1_soundAt_7 rfl ?_
  refine r_iadd ok dX1_soundAt_8 ?_
  refine r_iaload ok 9 rfl dX1_soundAt_9 h.1 ?_
  have h := h.2
  exact r_iret ok rfl dX1_soundAt_10 h
set_option maxRecDepth 10000 in
theorem s_X1_signOrNone_0 {l : Launch} {x : Cx} {g : Geo} {K : Int32 → Mem → Prop} (ok : Ok x g shX m_X1_signOrNone) (v1 : Int32) (v2 : Int32) (S : Mem) (h : (vp_in v1 12 ∧ (((S 5 (cl v1)) ≤ v2 → K (-6) S) ∧ (¬ (S 5 (cl v1)) ≤ v2 → MWi l g shX m_X1_signAt [.ref (g.ad 4), .int v1, .int v2] S (fun r1 S1 => K r1 S1))))) : PW l x g shX m_X1_signOrNone (Qi x g shX K) 0 [(0, .ref (g.ad 4)), (1, .int v1), (2, .int v2)] [] S := by
  refine r_iload_n ok 2 dX1_signOrNone_0 rfl ?_
  refine r_aload_n ok 0 dX1_signOrNone_1 rfl ?_
  refine r_getR ok 4 0 rfl rfl fo_X1_9 dX1_signOrNone_2 ?_
  refine r_iload_n ok 1 dX1_signOrNone_5 rfl ?_
  refine r_iaload ok 5 rfl dX1_signOrNone_6 h.1 ?_
  have h := h.2
  refine r_icmp_ge ok 19 dX1_signOrNone_7 (by decide) ⟨fun c => ?_, fun c => ?_⟩
  · have h := h.1 c
    refine r_bipush ok (-6) dX1_signOrNone_19 (by decide) ?_
    exact r_iret ok rfl dX1_signOrNone_21 h
  · have h := h.2 c
    refine r_aload_n ok 0 dX1_signOrNone_10 rfl ?_
    refine r_iload_n ok 1 dX1_signOrNone_11 rfl ?_
    refine r_iload_n ok 2 dX1_signOrNone_12 rfl ?_
    refine r_virti ok (rest := []) (As := [.int v1, .int v2]) 4 _ k_X1_signOrNone_41 rfl rfl rfl rfl (Nat.le_of_ble_eq_true rfl) dX1_signOrNone_13 (MWi.mono h (fun r1 S1 h => ?_))
    refine r_goto ok 21 dX1_signOrNone_16 (by decide) ?_
    exact r_iret ok rfl dX1_signOrNone_21 h
set_option maxRecDepth 10000 in
theorem s_X1_soundOrNone_0 {l : Launch} {x : Cx} {g : Geo} {K : Int32 → Mem → Prop} (ok : Ok x g shX m_X1_soundOrNone) (v1 : Int32) (v2 : Int32) (S : Mem) (h : (vp_in v1 12 ∧ (((S 5 (cl v1)) ≤ v2 → K (-6) S) ∧ (¬ (S 5 (cl v1)) ≤ v2 → MWi l g shX m_X1_soundAt [.ref (g.ad 4), .int v1, .int v2] S (fun r1 S1 => K r1 S1))))) : PW l x g shX m_X1_soundOrNone (Qi x g shX K) 0 [(0, .ref (g.ad 4)), (1, .int v1), (2, .int v2)] [] S := by
  refine r_iload_n ok 2 dX1_soundOrNone_0 rfl ?_
  refine r_aload_n ok 0 dX1_soundOrNone_1 rfl ?_
  refine r_getR ok 4 0 rfl rfl fo_X1_9 dX1_soundOrNone_2 ?_
  refine r_iload_n ok 1 dX1_soundOrNone_5 rfl ?_
  refine r_iaload ok 5 rfl dX1_soundOrNone_6 h.1 ?_
  have h := h.2
  refine r_icmp_ge ok 19 dX1_soundOrNone_7 (by decide) ⟨fun c => ?_, fun c => ?_⟩
  · have h := h.1 c
    refine r_bipush ok (-6) dX1_soundOrNone_19 (by decide) ?_
    exact r_iret ok rfl dX1_soundOrNone_21 h
  · have h := h.2 c
    refine r_aload_n ok 0 dX1_soundOrNone_10 rfl ?_
    refine r_iload_n ok 1 dX1_soundOrNone_11 rfl ?_
    refine r_iload_n ok 2 dX1_soundOrNone_12 rfl ?_
    refine r_virti ok (rest := []) (As := [.int v1, .int v2]) 4 _ k_X1_soundOrNone_45 rfl rfl rfl rfl (Nat.le_of_ble_eq_true rfl) dX1_soundOrNone_13 (MWi.mono h (fun r1 S1 h => ?_))
    refine r_goto ok 21 dX1_soundOrNone_16 (by decide) ?_
    exact r_iret ok rfl dX1_soundOrNone_21 h
set_option maxRecDepth 10000 in
theorem s_X1_firstSign_0 {l : Launch} {x : Cx} {g : Geo} {K : Int32 → Mem → Prop} (ok : Ok x g shX m_X1_firstSign) (v1 : Int32) (S : Mem) (h : MWi l g shX m_X1_signAt [.ref (g.ad 4), .int v1, .int (nI 0)] S (fun r1 S1 => K r1 S1)) : PW l x g shX m_X1_firstSign (Qi x g shX K) 0 [(0, .ref (g.ad 4)), (1, .int v1)] [] S := by
  refine r_aload_n ok 0 dX1_firstSign_0 rfl ?_
  refine r_iload_n ok 1 dX1_firstSign_1 rfl ?_
  refine r_iconst ok (nI 0) dX1_firstSign_2 (by decide) ?_
  refine r_virti ok (rest := []) (As := [.int v1, .int (nI 0)]) 4 _ k_X1_firstSign_41 rfl rfl rfl rfl (Nat.le_of_ble_eq_true rfl) dX1_firstSign_3 (MWi.mono h (fun r1 S1 h => ?_))
  exact r_iret ok rfl dX1_firstSign_6 h
set_option maxRecDepth 10000 in
theorem s_X1_lastSign_0 {l : Launch} {x : Cx} {g : Geo} {K : Int32 → Mem → Prop} (ok : Ok x g shX m_X1_lastSign) (v1 : Int32) (S : Mem) (h : (vp_in v1 12 ∧ (((S 5 (cl v1)) ≤ 0 → K (-6) S) ∧ (¬ (S 5 (cl v1)) ≤ 0 → MWi l g shX m_X1_signAt [.ref (g.ad 4), .int v1, .int ((S 5 (cl v1)) - (nI 1))] S (fun r1 S1 => K r1 S1))))) : PW l x g shX m_X1_lastSign (Qi x g shX K) 0 [(0, .ref (g.ad 4)), (1, .int v1)] [] S := by
  refine r_aload_n ok 0 dX1_lastSign_0 rfl ?_
  refine r_getR ok 4 0 rfl rfl fo_X1_9 dX1_lastSign_1 ?_
  refine r_iload_n ok 1 dX1_lastSign_4 rfl ?_
  refine r_iaload ok 5 rfl dX1_lastSign_5 h.1 ?_
  have h := h.2
  refine r_istore_n ok [(2, .int (S 5 (cl v1))), (0, .ref (g.ad 4)), (1, .int v1)] dX1_lastSign_6 (by decide) rfl ?_
  refine r_iload_n ok 0 dX1_lastSign_7 rfl ?_
  refine r_if_le ok 22 dX1_lastSign_8 (by decide) ⟨fun c => ?_, fun c => ?_⟩
  · have h := h.1 c
    refine r_bipush ok (-6) dX1_lastSign_22 (by decide) ?_
    exact r_iret ok rfl dX1_lastSign_24 h
  · have h := h.2 c
    refine r_aload_n ok 1 dX1_lastSign_11 rfl ?_
    refine r_iload_n ok 2 dX1_lastSign_12 rfl ?_
    refine r_iload_n ok 0 dX1_lastSign_13 rfl ?_
    refine r_iconst ok (nI 1) dX1_lastSign_14 (by decide) ?_
    refine r_isub ok dX1_lastSign_15 ?_
    refine r_virti ok (rest := []) (As := [.int v1, .int ((S 5 (cl v1)) - (nI 1))]) 4 _ k_X1_lastSign_41 rfl rfl rfl rfl (Nat.le_of_ble_eq_true rfl) dX1_lastSign_16 (MWi.mono h (fun r1 S1 h => ?_))
    refine r_goto ok 24 dX1_lastSign_19 (by decide) ?_
    exact r_iret ok rfl dX1_lastSign_24 h
set_option maxRecDepth 10000 in
theorem s_X1_timesOf_0 {l : Launch} {x : Cx} {g : Geo} {K : Int32 → Mem → Prop} (ok : Ok x g shX m_X1_timesOf) (v1 : Int32) (S : Mem) (h : PW l x g shX m_X1_timesOf (Qi x g shX K) 4 [(0, .ref (g.ad 4)), (1, .int v1), (2, .int (nI 0)), (3, .int (nI 0))] [] S) : PW l x g shX m_X1_timesOf (Qi x g shX K) 0 [(0, .ref (g.ad 4)), (1, .int v1)] [] S := by
  refine r_iconst ok (nI 0) dX1_timesOf_0 (by decide) ?_
  refine r_istore_n ok [(2, .int (nI 0)), (0, .ref (g.ad 4)), (1, .int v1)] dX1_timesOf_1 (by decide) rfl ?_
  refine r_iconst ok (nI 0) dX1_timesOf_2 (by decide) ?_
  refine r_istore_n ok [(3, .int (nI 0)), (2, .int (nI 0)), (0, .ref (g.ad 4)), (1, .int v1)] dX1_timesOf_3 (by decide) rfl ?_
  exact r_sub [2, 3, 1, 0] _ rfl h
set_option maxRecDepth 10000 in
theorem s_X1_timesOf_4 {l : Launch} {x : Cx} {g : Geo} {K : Int32 → Mem → Prop} (ok : Ok x g shX m_X1_timesOf) (v1 : Int32) (v2 : Int32) (v3 : Int32) (S : Mem) (h : (((S 4 5) ≤ v3 → K v2 S) ∧ (¬ (S 4 5) ≤ v3 → MWi l g shX m_X11_hasBit [.int v1, .int v3] S (fun r1 S1 => ((r1 = 0 → PW l x g shX m_X1_timesOf (Qi x g shX K) 4 [(0, .ref (g.ad 4)), (1, .int v1), (2, .int v2), (3, .int (v3 + (nI 1)))] [] S1) ∧ (¬ r1 = 0 → (vp_in v3 12 ∧ PW l x g shX m_X1_timesOf (Qi x g shX K) 4 [(0, .ref (g.ad 4)), (1, .int v1), (2, .int (v2 + (S1 6 (cl v3)))), (3, .int (v3 + (nI 1)))] [] S1))))))) : PW l x g shX m_X1_timesOf (Qi x g shX K) 4 [(0, .ref (g.ad 4)), (1, .int v1), (2, .int v2), (3, .int v3)] [] S := by
  refine r_iload_n ok 3 dX1_timesOf_4 rfl ?_
  refine r_aload_n ok 0 dX1_timesOf_5 rfl ?_
  refine r_getI ok 4 5 rfl rfl fo_X1_33 dX1_timesOf_6 ?_
  refine r_icmp_ge ok 35 dX1_timesOf_9 (by decide) ⟨fun c => ?_, fun c => ?_⟩
  · have h := h.1 c
    refine r_iload_n ok 2 dX1_timesOf_35 rfl ?_
    exact r_iret ok rfl dX1_timesOf_36 h
  · have h := h.2 c
    refine r_iload_n ok 1 dX1_timesOf_12 rfl ?_
    refine r_iload_n ok 3 dX1_timesOf_13 rfl ?_
    refine r_nesti ok (rest := []) (As := [.int v1, .int v3]) _ k_X1_timesOf_48 rfl rfl (Nat.le_of_ble_eq_true rfl) dX1_timesOf_14 (MWi.mono h (fun r1 S1 h => ?_))
    refine r_if_eq ok 29 dX1_timesOf_17 (by decide) ⟨fun c => ?_, fun c => ?_⟩
    · have h := h.1 c
      refine r_iinc ok 3 (v3 + (nI 1)) [(3, .int (v3 + (nI 1))), (0, .ref (g.ad 4)), (1, .int v1), (2, .int v2)] dX1_timesOf_29 rfl rfl (by decide) rfl ?_
      refine r_goto ok 4 dX1_timesOf_32 (by decide) ?_
      exact r_sub [1, 2, 3, 0] _ rfl h
    · have h := h.2 c
      refine r_iload_n ok 2 dX1_timesOf_20 rfl ?_
      refine r_aload_n ok 0 dX1_timesOf_21 rfl ?_
      refine r_getR ok 4 1 rfl rfl fo_X1_15 dX1_timesOf_22 ?_
      refine r_iload_n ok 3 dX1_timesOf_25 rfl ?_
      refine r_iaload ok 6 rfl dX1_timesOf_26 h.1 ?_
      have h := h.2
      refine r_iadd ok dX1_timesOf_27 ?_
      refine r_istore_n ok [(2, .int (v2 + (S1 6 (cl v3)))), (0, .ref (g.ad 4)), (1, .int v1), (3, .int v3)] dX1_timesOf_28 (by decide) rfl ?_
      refine r_iinc ok 3 (v3 + (nI 1)) [(3, .int (v3 + (nI 1))), (2, .int (v2 + (S1 6 (cl v3)))), (0, .ref (g.ad 4)), (1, .int v1)] dX1_timesOf_29 rfl rfl (by decide) rfl ?_
      refine r_goto ok 4 dX1_timesOf_32 (by decide) ?_
      exact r_sub [2, 3, 1, 0] _ rfl h
set_option maxRecDepth 10000 in
theorem s_X1_hasLettersOf_0 {l : Launch} {x : Cx} {g : Geo} {K : Int32 → Mem → Prop} (ok : Ok x g shX m_X1_hasLettersOf) (S : Mem) (h : PW l x g shX m_X1_hasLettersOf (Qi x g shX K) 2 [(0, .ref (g.ad 4)), (1, .ref (g.ad 1)), (2, .int (nI 0))] [] S) : PW l x g shX m_X1_hasLettersOf (Qi x g shX K) 0 [(0, .ref (g.ad 4)), (1, .ref (g.ad 1))] [] S := by
  refine r_iconst ok (nI 0) dX1_hasLettersOf_0 (by decide) ?_
  refine r_istore_n ok [(2, .int (nI 0)), (0, .ref (g.ad 4)), (1, .ref (g.ad 1))] dX1_hasLettersOf_1 (by decide) rfl ?_
  exact r_sub [1, 2, 0] _ rfl h
set_option maxRecDepth 10000 in
theorem s_X1_hasLettersOf_2 {l : Launch} {x : Cx} {g : Geo} {K : Int32 → Mem → Prop} (ok : Ok x g shX m_X1_hasLettersOf) (v2 : Int32) (S : Mem) (h : (((S 4 5) ≤ v2 → K (nI 0) S) ∧ (¬ (S 4 5) ≤ v2 → MWi l g shX m_X1_hasLetters [.ref (g.ad 4), .int v2, .ref (g.ad 1)] S (fun r1 S1 => ((r1 = 0 → PW l x g shX m_X1_hasLettersOf (Qi x g shX K) 2 [(0, .ref (g.ad 4)), (1, .ref (g.ad 1)), (2, .int (v2 + (nI 1)))] [] S1) ∧ (¬ r1 = 0 → K (nI 1) S1)))))) : PW l x g shX m_X1_hasLettersOf (Qi x g shX K) 2 [(0, .ref (g.ad 4)), (1, .ref (g.ad 1)), (2, .int v2)] [] S := by
  refine r_iload_n ok 2 dX1_hasLettersOf_2 rfl ?_
  refine r_aload_n ok 0 dX1_hasLettersOf_3 rfl ?_
  refine r_getI ok 4 5 rfl rfl fo_X1_33 dX1_hasLettersOf_4 ?_
  refine r_icmp_ge ok 27 dX1_hasLettersOf_7 (by decide) ⟨fun c => ?_, fun c => ?_⟩
  · have h := h.1 c
    refine r_iconst ok (nI 0) dX1_hasLettersOf_27 (by decide) ?_
    exact r_zret ok rfl dX1_hasLettersOf_28 ⟨rfl, h⟩
  · have h := h.2 c
    refine r_aload_n ok 0 dX1_hasLettersOf_10 rfl ?_
    refine r_iload_n ok 2 dX1_hasLettersOf_11 rfl ?_
    refine r_aload_n ok 1 dX1_hasLettersOf_12 rfl ?_
    refine r_virti ok (rest := []) (As := [.int v2, .ref (g.ad 1)]) 4 _ k_X1_hasLettersOf_52 rfl rfl rfl rfl (Nat.le_of_ble_eq_true rfl) dX1_hasLettersOf_13 (MWi.mono h (fun r1 S1 h => ?_))
    refine r_if_eq ok 21 dX1_hasLettersOf_16 (by decide) ⟨fun c => ?_, fun c => ?_⟩
    · have h := h.1 c
      refine r_iinc ok 2 (v2 + (nI 1)) [(2, .int (v2 + (nI 1))), (0, .ref (g.ad 4)), (1, .ref (g.ad 1))] dX1_hasLettersOf_21 rfl rfl (by decide) rfl ?_
      refine r_goto ok 2 dX1_hasLettersOf_24 (by decide) ?_
      exact r_sub [1, 2, 0] _ rfl h
    · have h := h.2 c
      refine r_iconst ok (nI 1) dX1_hasLettersOf_19 (by decide) ?_
      exact r_zret ok rfl dX1_hasLettersOf_20 ⟨rfl, h⟩
set_option maxRecDepth 10000 in
theorem s_X1_hasLetters_0 {l : Launch} {x : Cx} {g : Geo} {K : Int32 → Mem → Prop} (ok : Ok x g shX m_X1_hasLetters) (v1 : Int32) (S : Mem) (h : (vp_in v1 12 ∧ MWi l g shX m_X5_letterCount [.ref (g.ad 1)] S (fun r1 S1 => (((S 5 (cl v1)) = r1 → PW l x g shX m_X1_hasLetters (Qi x g shX K) 17 [(0, .ref (g.ad 4)), (1, .int v1), (2, .ref (g.ad 1)), (3, .int (nI 0))] [] S1) ∧ (¬ (S 5 (cl v1)) = r1 → K (nI 0) S1))))) : PW l x g shX m_X1_hasLetters (Qi x g shX K) 0 [(0, .ref (g.ad 4)), (1, .int v1), (2, .ref (g.ad 1))] [] S := by
  refine r_aload_n ok 0 dX1_hasLetters_0 rfl ?_
  refine r_getR ok 4 0 rfl rfl fo_X1_9 dX1_hasLetters_1 ?_
  refine r_iload_n ok 1 dX1_hasLetters_4 rfl ?_
  refine r_iaload ok 5 rfl dX1_hasLetters_5 h.1 ?_
  have h := h.2
  refine r_aload_n ok 2 dX1_hasLetters_6 rfl ?_
  refine r_virti ok (rest := [.int (S 5 (cl v1))]) (As := []) 1 _ k_X1_hasLetters_56 rfl rfl rfl rfl (Nat.le_of_ble_eq_true rfl) dX1_hasLetters_7 (MWi.mono h (fun r1 S1 h => ?_))
  refine r_icmp_eq ok 15 dX1_hasLetters_10 (by decide) ⟨fun c => ?_, fun c => ?_⟩
  · have h := h.1 c
    refine r_iconst ok (nI 0) dX1_hasLetters_15 (by decide) ?_
    refine r_istore_n ok [(3, .int (nI 0)), (0, .ref (g.ad 4)), (1, .int v1), (2, .ref (g.ad 1))] dX1_hasLetters_16 (by decide) rfl ?_
    exact r_sub [1, 2, 3, 0] _ rfl h
  · have h := h.2 c
    refine r_iconst ok (nI 0) dX1_hasLetters_13 (by decide) ?_
    exact r_zret ok rfl dX1_hasLetters_14 ⟨rfl, h⟩
set_option maxRecDepth 10000 in
theorem s_X1_hasLetters_17 {l : Launch} {x : Cx} {g : Geo} {K : Int32 → Mem → Prop} (ok : Ok x g shX m_X1_hasLetters) (v1 : Int32) (v3 : Int32) (S : Mem) (h : (vp_in v1 12 ∧ (((S 5 (cl v1)) ≤ v3 → K (nI 1) S) ∧ (¬ (S 5 (cl v1)) ≤ v3 → MWi l g shX m_X1_signAt [.ref (g.ad 4), .int v1, .int v3] S (fun r1 S1 => MWi l g shX m_X5_letterAt [.ref (g.ad 1), .int v3] S1 (fun r2 S2 => ((r1 = r2 → PW l x g shX m_X1_hasLetters (Qi x g shX K) 17 [(0, .ref (g.ad 4)), (1, .int v1), (2, .ref (g.ad 1)), (3, .int (v3 + (nI 1)))] [] S2) ∧ (¬ r1 = r2 → K (nI 0) S2)))))))) : PW l x g shX m_X1_hasLetters (Qi x g shX K) 17 [(0, .ref (g.ad 4)), (1, .int v1), (2, .ref (g.ad 1)), (3, .int v3)] [] S := by
  refine r_iload_n ok 3 dX1_hasLetters_17 rfl ?_
  refine r_aload_n ok 0 dX1_hasLetters_18 rfl ?_
  refine r_getR ok 4 0 rfl rfl fo_X1_9 dX1_hasLetters_19 ?_
  refine r_iload_n ok 1 dX1_hasLetters_22 rfl ?_
  refine r_iaload ok 5 rfl dX1_hasLetters_23 h.1 ?_
  have h := h.2
  refine r_icmp_ge ok 49 dX1_hasLetters_24 (by decide) ⟨fun c => ?_, fun c => ?_⟩
  · have h := h.1 c
    refine r_iconst ok (nI 1) dX1_hasLetters_49 (by decide) ?_
    exact r_zret ok rfl dX1_hasLetters_50 ⟨rfl, h⟩
  · have h := h.2 c
    refine r_aload_n ok 0 dX1_hasLetters_27 rfl ?_
    refine r_iload_n ok 1 dX1_hasLetters_28 rfl ?_
    refine r_iload_n ok 3 dX1_hasLetters_29 rfl ?_
    refine r_virti ok (rest := []) (As := [.int v1, .int v3]) 4 _ k_X1_hasLetters_41 rfl rfl rfl rfl (Nat.le_of_ble_eq_true rfl) dX1_hasLetters_30 (MWi.mono h (fun r1 S1 h => ?_))
    refine r_aload_n ok 2 dX1_hasLetters_33 rfl ?_
    refine r_iload_n ok 3 dX1_hasLetters_34 rfl ?_
    refine r_virti ok (rest := [.int r1]) (As := [.int v3]) 1 _ k_X1_hasLetters_61 rfl rfl rfl rfl (Nat.le_of_ble_eq_true rfl) dX1_hasLetters_35 (MWi.mono h (fun r2 S2 h => ?_))
    refine r_icmp_eq ok 43 dX1_hasLetters_38 (by decide) ⟨fun c => ?_, fun c => ?_⟩
    · have h := h.1 c
      refine r_iinc ok 3 (v3 + (nI 1)) [(3, .int (v3 + (nI 1))), (0, .ref (g.ad 4)), (1, .int v1), (2, .ref (g.ad 1))] dX1_hasLetters_43 rfl rfl (by decide) rfl ?_
      refine r_goto ok 17 dX1_hasLetters_46 (by decide) ?_
      exact r_sub [1, 2, 3, 0] _ rfl h
    · have h := h.2 c
      refine r_iconst ok (nI 0) dX1_hasLetters_41 (by decide) ?_
      exact r_zret ok rfl dX1_hasLetters_42 ⟨rfl, h⟩
set_option maxRecDepth 10000 in
theorem s_X1_add_0 {l : Launch} {x : Cx} {g : Geo} {K : Mem → Prop} (ok : Ok x g shX m_X1_add) (v2 : Int32) (S : Mem) (h : MWi l g shX m_X5_letterCount [.ref (g.ad 1)] S (fun r1 S1 => (((nI 12) ≤ (S 4 5) → K S1) ∧ (¬ (nI 12) ≤ (S 4 5) → ((r1 ≤ (nI 5) → (vp_in (S 4 5) 12 ∧ (vp_in (S 4 5) 12 ∧ (vp_in (S 4 5) 12 ∧ PW l x g shX m_X1_add (Qv x g shX K) 49 [(0, .ref (g.ad 4)), (1, .ref (g.ad 1)), (3, .int (S 4 5)), (4, .int r1), (5, .int (nI 0))] [] (st2 (st2 (st2 S1 5 (cl (S 4 5)) r1) 6 (cl (S 4 5)) v2) 7 (cl (S 4 5)) (nI 0)))))) ∧ (¬ r1 ≤ (nI 5) → K S1)))))) : PW l x g shX m_X1_add (Qv x g shX K) 0 [(0, .ref (g.ad 4)), (1, .ref (g.ad 1)), (2, .int v2)] [] S := by
  refine r_aload_n ok 0 dX1_add_0 rfl ?_
  refine r_getI ok 4 5 rfl rfl fo_X1_33 dX1_add_1 ?_
  refine r_istore_n ok [(3, .int (S 4 5)), (0, .ref (g.ad 4)), (1, .ref (g.ad 1)), (2, .int v2)] dX1_add_4 (by decide) rfl ?_
  refine r_aload_n ok 2 dX1_add_5 rfl ?_
  refine r_virti ok (rest := []) (As := []) 1 _ k_X1_add_56 rfl rfl rfl rfl (Nat.le_of_ble_eq_true rfl) dX1_add_6 (MWi.mono h (fun r1 S1 h => ?_))
  refine r_istore ok [(4, .int r1), (3, .int (S 4 5)), (0, .ref (g.ad 4)), (1, .ref (g.ad 1)), (2, .int v2)] dX1_add_9 (by decide) rfl ?_
  refine r_iload_n ok 1 dX1_add_11 rfl ?_
  refine r_bipush ok (nI 12) dX1_add_12 (by decide) ?_
  refine r_icmp_ge ok 23 dX1_add_14 (by decide) ⟨fun c => ?_, fun c => ?_⟩
  · have h := h.1 c
    exact r_ret ok rfl dX1_add_23 h
  · have h := h.2 c
    refine r_iload ok 0 dX1_add_17 rfl ?_
    refine r_iconst ok (nI 5) dX1_add_19 (by decide) ?_
    refine r_icmp_le ok 24 dX1_add_20 (by decide) ⟨fun c => ?_, fun c => ?_⟩
    · have h := h.1 c
      refine r_aload_n ok 2 dX1_add_24 rfl ?_
      refine r_getR ok 4 0 rfl rfl fo_X1_9 dX1_add_25 ?_
      refine r_iload_n ok 1 dX1_add_28 rfl ?_
      refine r_iload ok 0 dX1_add_29 rfl ?_
      refine r_iastore ok 5 rfl dX1_add_31 h.1 ?_
      have h := h.2
      refine r_aload_n ok 2 dX1_add_32 rfl ?_
      refine r_getR ok 4 1 rfl rfl fo_X1_15 dX1_add_33 ?_
      refine r_iload_n ok 1 dX1_add_36 rfl ?_
      refine r_iload_n ok 4 dX1_add_37 rfl ?_
      refine r_iastore ok 6 rfl dX1_add_38 h.1 ?_
      have h := h.2
      refine r_aload_n ok 2 dX1_add_39 rfl ?_
      refine r_getR ok 4 2 rfl rfl fo_X1_18 dX1_add_40 ?_
      refine r_iload_n ok 1 dX1_add_43 rfl ?_
      refine r_iconst ok (nI 0) dX1_add_44 (by decide) ?_
      refine r_iastore ok 7 rfl dX1_add_45 h.1 ?_
      have h := h.2
      refine r_iconst ok (nI 0) dX1_add_46 (by decide) ?_
      refine r_istore ok [(5, .int (nI 0)), (4, .int r1), (3, .int (S 4 5)), (0, .ref (g.ad 4)), (1, .ref (g.ad 1)), (2, .int v2)] dX1_add_47 (by decide) rfl ?_
      exact r_sub [3, 4, 2, 1, 0] _ rfl h
    · have h := h.2 c
      exact r_ret ok rfl dX1_add_23 h
set_option maxRecDepth 10000 in
theorem s_X1_add_49 {l : Launch} {x : Cx} {g : Geo} {K : Mem → Prop} (ok : Ok x g shX m_X1_add) (v3 : Int32) (v4 : Int32) (v5 : Int32) (S : Mem) (h : ((v4 ≤ v5 → K (st2 S 4 5 ((S 4 5) + (nI 1)))) ∧ (¬ v4 ≤ v5 → MWi l g shX m_X5_letterAt [.ref (g.ad 1), .int v5] S (fun r1 S1 => (vp_in ((v3 * (nI 5)) + v5) 60 ∧ MWi l g shX m_X5_digitAt [.ref (g.ad 1), .int v5] (st2 S1 8 (cl ((v3 * (nI 5)) + v5)) r1) (fun r2 S2 => (vp_in ((v3 * (nI 5)) + v5) 60 ∧ (vp_in v3 12 ∧ MWi l g shX m_X5_letterAt [.ref (g.ad 1), .int v5] (st2 S2 9 (cl ((v3 * (nI 5)) + v5)) r2) (fun r3 S3 => (vp_in v3 12 ∧ PW l x g shX m_X1_add (Qv x g shX K) 49 [(0, .ref (g.ad 4)), (1, .ref (g.ad 1)), (3, .int v3), (4, .int v4), (5, .int (v5 + (nI 1)))] [] (st2 S3 7 (cl v3) (((st2 S2 9 (cl ((v3 * (nI 5)) + v5)) r2) 7 (cl v3)) ||| (jshl (nI 1) r3))))))))))))) : PW l x g shX m_X1_add (Qv x g shX K) 49 [(0, .ref (g.ad 4)), (1, .ref (g.ad 1)), (3, .int v3), (4, .int v4), (5, .int v5)] [] S := by
  refine r_iload ok 4 dX1_add_49 rfl ?_
  refine r_iload ok 3 dX1_add_51 rfl ?_
  refine r_icmp_ge ok 113 dX1_add_53 (by decide) ⟨fun c => ?_, fun c => ?_⟩
  · have h := h.1 c
    refine r_aload_n ok 0 dX1_add_113 rfl ?_
    refine r_dup ok dX1_add_114 rfl ?_
    refine r_getI ok 4 5 rfl rfl fo_X1_33 dX1_add_115 ?_
    refine r_iconst ok (nI 1) dX1_add_118 (by decide) ?_
    refine r_iadd ok dX1_add_119 ?_
    refine r_put ok 4 5 rfl rfl po_X1_33 rfl rfl dX1_add_120 ?_
    exact r_ret ok rfl dX1_add_123 h
  · have h := h.2 c
    refine r_aload_n ok 0 dX1_add_56 rfl ?_
    refine r_getR ok 4 3 rfl rfl fo_X1_21 dX1_add_57 ?_
    refine r_iload_n ok 2 dX1_add_60 rfl ?_
    refine r_iconst ok (nI 5) dX1_add_61 (by decide) ?_
    refine r_imul ok dX1_add_62 ?_
    refine r_iload ok 4 dX1_add_63 rfl ?_
    refine r_iadd ok dX1_add_65 ?_
    refine r_aload_n ok 1 dX1_add_66 rfl ?_
    refine r_iload ok 4 dX1_add_67 rfl ?_
    refine r_virti ok (rest := [.int ((v3 * (nI 5)) + v5), .ref (g.ad 8)]) (As := [.int v5]) 1 _ k_X1_add_61 rfl rfl rfl rfl (Nat.le_of_ble_eq_true rfl) dX1_add_69 (MWi.mono h (fun r1 S1 h => ?_))
    refine r_iastore ok 8 rfl dX1_add_72 h.1 ?_
    have h := h.2
    refine r_aload_n ok 0 dX1_add_73 rfl ?_
    refine r_getR ok 4 4 rfl rfl fo_X1_24 dX1_add_74 ?_
    refine r_iload_n ok 2 dX1_add_77 rfl ?_
    refine r_iconst ok (nI 5) dX1_add_78 (by decide) ?_
    refine r_imul ok dX1_add_79 ?_
    refine r_iload ok 4 dX1_add_80 rfl ?_
    refine r_iadd ok dX1_add_82 ?_
    refine r_aload_n ok 1 dX1_add_83 rfl ?_
    refine r_iload ok 4 dX1_add_84 rfl ?_
    refine r_virti ok (rest := [.int ((v3 * (nI 5)) + v5), .ref (g.ad 9)]) (As := [.int v5]) 1 _ k_X1_add_65 rfl rfl rfl rfl (Nat.le_of_ble_eq_true rfl) dX1_add_86 (MWi.mono h (fun r2 S2 h => ?_))
    refine r_iastore ok 9 rfl dX1_add_89 h.1 ?_
    have h := h.2
    refine r_aload_n ok 0 dX1_add_90 rfl ?_
    refine r_getR ok 4 2 rfl rfl fo_X1_18 dX1_add_91 ?_
    refine r_iload_n ok 2 dX1_add_94 rfl ?_
    refine r_dup2 ok dX1_add_95 rfl rfl ?_
    refine r_iaload ok 7 rfl dX1_add_96 h.1 ?_
    have h := h.2
    refine r_iconst ok (nI 1) dX1_add_97 (by decide) ?_
    refine r_aload_n ok 1 dX1_add_98 rfl ?_
    refine r_iload ok 4 dX1_add_99 rfl ?_
    refine r_virti ok (rest := [.int (nI 1), .int ((st2 S2 9 (cl ((v3 * (nI 5)) + v5)) r2) 7 (cl v3)), .int v3, .ref (g.ad 7)]) (As := [.int v5]) 1 _ k_X1_add_61 rfl rfl rfl rfl (Nat.le_of_ble_eq_true rfl) dX1_add_101 (MWi.mono h (fun r3 S3 h => ?_))
    refine r_ishl ok dX1_add_104 ?_
    refine r_ior ok dX1_add_105 ?_
    refine r_iastore ok 7 rfl dX1_add_106 h.1 ?_
    have h := h.2
    refine r_iinc ok 4 (v5 + (nI 1)) [(5, .int (v5 + (nI 1))), (0, .ref (g.ad 4)), (1, .ref (g.ad 1)), (3, .int v3), (4, .int v4)] dX1_add_107 rfl rfl (by decide) rfl ?_
    refine r_goto ok 49 dX1_add_110 (by decide) ?_
    exact r_sub [1, 2, 3, 4, 0] _ rfl h
set_option maxRecDepth 10000 in
theorem s_X1_copyFrom_4_47_0 {l : Launch} {x : Cx} {g : Geo} {K : Mem → Prop} (ok : Ok x g shX m_X1_copyFrom) (S : Mem) (h : K (st2 (stc (stc (stc (stc (stc S 48 5 (nI 12)) 49 6 (nI 12)) 50 7 (nI 12)) 51 8 (nI 60)) 52 9 (nI 60)) 4 5 ((stc (stc (stc (stc (stc S 48 5 (nI 12)) 49 6 (nI 12)) 50 7 (nI 12)) 51 8 (nI 60)) 52 9 (nI 60)) 47 5))) : PW l x g shX m_X1_copyFrom (Qv x g shX K) 0 [(0, .ref (g.ad 4)), (1, .ref (g.ad 47))] [] S := by
  refine r_aload_n ok 1 dX1_copyFrom_0 rfl ?_
  refine r_getR ok 47 0 rfl rfl fo_X1_9 dX1_copyFrom_1 ?_
  refine r_iconst ok (nI 0) dX1_copyFrom_4 (by decide) ?_
  refine r_aload_n ok 0 dX1_copyFrom_5 rfl ?_
  refine r_getR ok 4 0 rfl rfl fo_X1_9 dX1_copyFrom_6 ?_
  refine r_iconst ok (nI 0) dX1_copyFrom_9 (by decide) ?_
  refine r_bipush ok (nI 12) dX1_copyFrom_10 (by decide) ?_
  refine r_copy ok 48 5 (nI 12) rfl rfl (gt_in (List.mem_of_getElem? (i := 934) (by decide +kernel)) rfl) cpy_w dX1_copyFrom_12 (by decide) (by decide) (by decide) (by decide) (Nat.le_of_ble_eq_true rfl) ?_
  refine r_aload_n ok 1 dX1_copyFrom_15 rfl ?_
  refine r_getR ok 47 1 rfl rfl fo_X1_15 dX1_copyFrom_16 ?_
  refine r_iconst ok (nI 0) dX1_copyFrom_19 (by decide) ?_
  refine r_aload_n ok 0 dX1_copyFrom_20 rfl ?_
  refine r_getR ok 4 1 rfl rfl fo_X1_15 dX1_copyFrom_21 ?_
  refine r_iconst ok (nI 0) dX1_copyFrom_24 (by decide) ?_
  refine r_bipush ok (nI 12) dX1_copyFrom_25 (by decide) ?_
  refine r_copy ok 49 6 (nI 12) rfl rfl (gt_in (List.mem_of_getElem? (i := 934) (by decide +kernel)) rfl) cpy_w dX1_copyFrom_27 (by decide) (by decide) (by decide) (by decide) (Nat.le_of_ble_eq_true rfl) ?_
  refine r_aload_n ok 1 dX1_copyFrom_30 rfl ?_
  refine r_getR ok 47 2 rfl rfl fo_X1_18 dX1_copyFrom_31 ?_
  refine r_iconst ok (nI 0) dX1_copyFrom_34 (by decide) ?_
  refine r_aload_n ok 0 dX1_copyFrom_35 rfl ?_
  refine r_getR ok 4 2 rfl rfl fo_X1_18 dX1_copyFrom_36 ?_
  refine r_iconst ok (nI 0) dX1_copyFrom_39 (by decide) ?_
  refine r_bipush ok (nI 12) dX1_copyFrom_40 (by decide) ?_
  refine r_copy ok 50 7 (nI 12) rfl rfl (gt_in (List.mem_of_getElem? (i := 934) (by decide +kernel)) rfl) cpy_w dX1_copyFrom_42 (by decide) (by decide) (by decide) (by decide) (Nat.le_of_ble_eq_true rfl) ?_
  refine r_aload_n ok 1 dX1_copyFrom_45 rfl ?_
  refine r_getR ok 47 3 rfl rfl fo_X1_21 dX1_copyFrom_46 ?_
  refine r_iconst ok (nI 0) dX1_copyFrom_49 (by decide) ?_
  refine r_aload_n ok 0 dX1_copyFrom_50 rfl ?_
  refine r_getR ok 4 3 rfl rfl fo_X1_21 dX1_copyFrom_51 ?_
  refine r_iconst ok (nI 0) dX1_copyFrom_54 (by decide) ?_
  refine r_bipush ok (nI 60) dX1_copyFrom_55 (by decide) ?_
  refine r_copy ok 51 8 (nI 60) rfl rfl (gt_in (List.mem_of_getElem? (i := 934) (by decide +kernel)) rfl) cpy_w dX1_copyFrom_57 (by decide) (by decide) (by decide) (by decide) (Nat.le_of_ble_eq_true rfl) ?_
  refine r_aload_n ok 1 dX1_copyFrom_60 rfl ?_
  refine r_getR ok 47 4 rfl rfl fo_X1_24 dX1_copyFrom_61 ?_
  refine r_iconst ok (nI 0) dX1_copyFrom_64 (by decide) ?_
  refine r_aload_n ok 0 dX1_copyFrom_65 rfl ?_
  refine r_getR ok 4 4 rfl rfl fo_X1_24 dX1_copyFrom_66 ?_
  refine r_iconst ok (nI 0) dX1_copyFrom_69 (by decide) ?_
  refine r_bipush ok (nI 60) dX1_copyFrom_70 (by decide) ?_
  refine r_copy ok 52 9 (nI 60) rfl rfl (gt_in (List.mem_of_getElem? (i := 934) (by decide +kernel)) rfl) cpy_w dX1_copyFrom_72 (by decide) (by decide) (by decide) (by decide) (Nat.le_of_ble_eq_true rfl) ?_
  refine r_aload_n ok 0 dX1_copyFrom_75 rfl ?_
  refine r_aload_n ok 1 dX1_copyFrom_76 rfl ?_
  refine r_getI ok 47 5 rfl rfl fo_X1_33 dX1_copyFrom_77 ?_
  refine r_put ok 4 5 rfl rfl po_X1_33 rfl rfl dX1_copyFrom_80 ?_
  exact r_ret ok rfl dX1_copyFrom_83 h
set_option maxRecDepth 10000 in
theorem s_X1_copyFrom_4_62_0 {l : Launch} {x : Cx} {g : Geo} {K : Mem → Prop} (ok : Ok x g shX m_X1_copyFrom) (S : Mem) (h : K (st2 (stc (stc (stc (stc (stc S 63 5 (nI 12)) 64 6 (nI 12)) 65 7 (nI 12)) 66 8 (nI 60)) 67 9 (nI 60)) 4 5 ((stc (stc (stc (stc (stc S 63 5 (nI 12)) 64 6 (nI 12)) 65 7 (nI 12)) 66 8 (nI 60)) 67 9 (nI 60)) 62 5))) : PW l x g shX m_X1_copyFrom (Qv x g shX K) 0 [(0, .ref (g.ad 4)), (1, .ref (g.ad 62))] [] S := by
  refine r_aload_n ok 1 dX1_copyFrom_0 rfl ?_
  refine r_getR ok 62 0 rfl rfl fo_X1_9 dX1_copyFrom_1 ?_
  refine r_iconst ok (nI 0) dX1_copyFrom_4 (by decide) ?_
  refine r_aload_n ok 0 dX1_copyFrom_5 rfl ?_
  refine r_getR ok 4 0 rfl rfl fo_X1_9 dX1_copyFrom_6 ?_
  refine r_iconst ok (nI 0) dX1_copyFrom_9 (by decide) ?_
  refine r_bipush ok (nI 12) dX1_copyFrom_10 (by decide) ?_
  refine r_copy ok 63 5 (nI 12) rfl rfl (gt_in (List.mem_of_getElem? (i := 934) (by decide +kernel)) rfl) cpy_w dX1_copyFrom_12 (by decide) (by decide) (by decide) (by decide) (Nat.le_of_ble_eq_true rfl) ?_
  refine r_aload_n ok 1 dX1_copyFrom_15 rfl ?_
  refine r_getR ok 62 1 rfl rfl fo_X1_15 dX1_copyFrom_16 ?_
  refine r_iconst ok (nI 0) dX1_copyFrom_19 (by decide) ?_
  refine r_aload_n ok 0 dX1_copyFrom_20 rfl ?_
  refine r_getR ok 4 1 rfl rfl fo_X1_15 dX1_copyFrom_21 ?_
  refine r_iconst ok (nI 0) dX1_copyFrom_24 (by decide) ?_
  refine r_bipush ok (nI 12) dX1_copyFrom_25 (by decide) ?_
  refine r_copy ok 64 6 (nI 12) rfl rfl (gt_in (List.mem_of_getElem? (i := 934) (by decide +kernel)) rfl) cpy_w dX1_copyFrom_27 (by decide) (by decide) (by decide) (by decide) (Nat.le_of_ble_eq_true rfl) ?_
  refine r_aload_n ok 1 dX1_copyFrom_30 rfl ?_
  refine r_getR ok 62 2 rfl rfl fo_X1_18 dX1_copyFrom_31 ?_
  refine r_iconst ok (nI 0) dX1_copyFrom_34 (by decide) ?_
  refine r_aload_n ok 0 dX1_copyFrom_35 rfl ?_
  refine r_getR ok 4 2 rfl rfl fo_X1_18 dX1_copyFrom_36 ?_
  refine r_iconst ok (nI 0) dX1_copyFrom_39 (by decide) ?_
  refine r_bipush ok (nI 12) dX1_copyFrom_40 (by decide) ?_
  refine r_copy ok 65 7 (nI 12) rfl rfl (gt_in (List.mem_of_getElem? (i := 934) (by decide +kernel)) rfl) cpy_w dX1_copyFrom_42 (by decide) (by decide) (by decide) (by decide) (Nat.le_of_ble_eq_true rfl) ?_
  refine r_aload_n ok 1 dX1_copyFrom_45 rfl ?_
  refine r_getR ok 62 3 rfl rfl fo_X1_21 dX1_copyFrom_46 ?_
  refine r_iconst ok (nI 0) dX1_copyFrom_49 (by decide) ?_
  refine r_aload_n ok 0 dX1_copyFrom_50 rfl ?_
  refine r_getR ok 4 3 rfl rfl fo_X1_21 dX1_copyFrom_51 ?_
  refine r_iconst ok (nI 0) dX1_copyFrom_54 (by decide) ?_
  refine r_bipush ok (nI 60) dX1_copyFrom_55 (by decide) ?_
  refine r_copy ok 66 8 (nI 60) rfl rfl (gt_in (List.mem_of_getElem? (i := 934) (by decide +kernel)) rfl) cpy_w dX1_copyFrom_57 (by decide) (by decide) (by decide) (by decide) (Nat.le_of_ble_eq_true rfl) ?_
  refine r_aload_n ok 1 dX1_copyFrom_60 rfl ?_
  refine r_getR ok 62 4 rfl rfl fo_X1_24 dX1_copyFrom_61 ?_
  refine r_iconst ok (nI 0) dX1_copyFrom_64 (by decide) ?_
  refine r_aload_n ok 0 dX1_copyFrom_65 rfl ?_
  refine r_getR ok 4 4 rfl rfl fo_X1_24 dX1_copyFrom_66 ?_
  refine r_iconst ok (nI 0) dX1_copyFrom_69 (by decide) ?_
  refine r_bipush ok (nI 60) dX1_copyFrom_70 (by decide) ?_
  refine r_copy ok 67 9 (nI 60) rfl rfl (gt_in (List.mem_of_getElem? (i := 934) (by decide +kernel)) rfl) cpy_w dX1_copyFrom_72 (by decide) (by decide) (by decide) (by decide) (Nat.le_of_ble_eq_true rfl) ?_
  refine r_aload_n ok 0 dX1_copyFrom_75 rfl ?_
  refine r_aload_n ok 1 dX1_copyFrom_76 rfl ?_
  refine r_getI ok 62 5 rfl rfl fo_X1_33 dX1_copyFrom_77 ?_
  refine r_put ok 4 5 rfl rfl po_X1_33 rfl rfl dX1_copyFrom_80 ?_
  exact r_ret ok rfl dX1_copyFrom_83 h
set_option maxRecDepth 10000 in
theorem s_X1_copyFrom_47_4_0 {l : Launch} {x : Cx} {g : Geo} {K : Mem → Prop} (ok : Ok x g shX m_X1_copyFrom) (S : Mem) (h : K (st2 (stc (stc (stc (stc (stc S 5 48 (nI 12)) 6 49 (nI 12)) 7 50 (nI 12)) 8 51 (nI 60)) 9 52 (nI 60)) 47 5 ((stc (stc (stc (stc (stc S 5 48 (nI 12)) 6 49 (nI 12)) 7 50 (nI 12)) 8 51 (nI 60)) 9 52 (nI 60)) 4 5))) : PW l x g shX m_X1_copyFrom (Qv x g shX K) 0 [(0, .ref (g.ad 47)), (1, .ref (g.ad 4))] [] S := by
  refine r_aload_n ok 1 dX1_copyFrom_0 rfl ?_
  refine r_getR ok 4 0 rfl rfl fo_X1_9 dX1_copyFrom_1 ?_
  refine r_iconst ok (nI 0) dX1_copyFrom_4 (by decide) ?_
  refine r_aload_n ok 0 dX1_copyFrom_5 rfl ?_
  refine r_getR ok 47 0 rfl rfl fo_X1_9 dX1_copyFrom_6 ?_
  refine r_iconst ok (nI 0) dX1_copyFrom_9 (by decide) ?_
  refine r_bipush ok (nI 12) dX1_copyFrom_10 (by decide) ?_
  refine r_copy ok 5 48 (nI 12) rfl rfl (gt_in (List.mem_of_getElem? (i := 934) (by decide +kernel)) rfl) cpy_w dX1_copyFrom_12 (by decide) (by decide) (by decide) (by decide) (Nat.le_of_ble_eq_true rfl) ?_
  refine r_aload_n ok 1 dX1_copyFrom_15 rfl ?_
  refine r_getR ok 4 1 rfl rfl fo_X1_15 dX1_copyFrom_16 ?_
  refine r_iconst ok (nI 0) dX1_copyFrom_19 (by decide) ?_
  refine r_aload_n ok 0 dX1_copyFrom_20 rfl ?_
  refine r_getR ok 47 1 rfl rfl fo_X1_15 dX1_copyFrom_21 ?_
  refine r_iconst ok (nI 0) dX1_copyFrom_24 (by decide) ?_
  refine r_bipush ok (nI 12) dX1_copyFrom_25 (by decide) ?_
  refine r_copy ok 6 49 (nI 12) rfl rfl (gt_in (List.mem_of_getElem? (i := 934) (by decide +kernel)) rfl) cpy_w dX1_copyFrom_27 (by decide) (by decide) (by decide) (by decide) (Nat.le_of_ble_eq_true rfl) ?_
  refine r_aload_n ok 1 dX1_copyFrom_30 rfl ?_
  refine r_getR ok 4 2 rfl rfl fo_X1_18 dX1_copyFrom_31 ?_
  refine r_iconst ok (nI 0) dX1_copyFrom_34 (by decide) ?_
  refine r_aload_n ok 0 dX1_copyFrom_35 rfl ?_
  refine r_getR ok 47 2 rfl rfl fo_X1_18 dX1_copyFrom_36 ?_
  refine r_iconst ok (nI 0) dX1_copyFrom_39 (by decide) ?_
  refine r_bipush ok (nI 12) dX1_copyFrom_40 (by decide) ?_
  refine r_copy ok 7 50 (nI 12) rfl rfl (gt_in (List.mem_of_getElem? (i := 934) (by decide +kernel)) rfl) cpy_w dX1_copyFrom_42 (by decide) (by decide) (by decide) (by decide) (Nat.le_of_ble_eq_true rfl) ?_
  refine r_aload_n ok 1 dX1_copyFrom_45 rfl ?_
  refine r_getR ok 4 3 rfl rfl fo_X1_21 dX1_copyFrom_46 ?_
  refine r_iconst ok (nI 0) dX1_copyFrom_49 (by decide) ?_
  refine r_aload_n ok 0 dX1_copyFrom_50 rfl ?_
  refine r_getR ok 47 3 rfl rfl fo_X1_21 dX1_copyFrom_51 ?_
  refine r_iconst ok (nI 0) dX1_copyFrom_54 (by decide) ?_
  refine r_bipush ok (nI 60) dX1_copyFrom_55 (by decide) ?_
  refine r_copy ok 8 51 (nI 60) rfl rfl (gt_in (List.mem_of_getElem? (i := 934) (by decide +kernel)) rfl) cpy_w dX1_copyFrom_57 (by decide) (by decide) (by decide) (by decide) (Nat.le_of_ble_eq_true rfl) ?_
  refine r_aload_n ok 1 dX1_copyFrom_60 rfl ?_
  refine r_getR ok 4 4 rfl rfl fo_X1_24 dX1_copyFrom_61 ?_
  refine r_iconst ok (nI 0) dX1_copyFrom_64 (by decide) ?_
  refine r_aload_n ok 0 dX1_copyFrom_65 rfl ?_
  refine r_getR ok 47 4 rfl rfl fo_X1_24 dX1_copyFrom_66 ?_
  refine r_iconst ok (nI 0) dX1_copyFrom_69 (by decide) ?_
  refine r_bipush ok (nI 60) dX1_copyFrom_70 (by decide) ?_
  refine r_copy ok 9 52 (nI 60) rfl rfl (gt_in (List.mem_of_getElem? (i := 934) (by decide +kernel)) rfl) cpy_w dX1_copyFrom_72 (by decide) (by decide) (by decide) (by decide) (Nat.le_of_ble_eq_true rfl) ?_
  refine r_aload_n ok 0 dX1_copyFrom_75 rfl ?_
  refine r_aload_n ok 1 dX1_copyFrom_76 rfl ?_
  refine r_getI ok 4 5 rfl rfl fo_X1_33 dX1_copyFrom_77 ?_
  refine r_put ok 47 5 rfl rfl po_X1_33 rfl rfl dX1_copyFrom_80 ?_
  exact r_ret ok rfl dX1_copyFrom_83 h
set_option maxRecDepth 10000 in
theorem s_X1_copyFrom_62_4_0 {l : Launch} {x : Cx} {g : Geo} {K : Mem → Prop} (ok : Ok x g shX m_X1_copyFrom) (S : Mem) (h : K (st2 (stc (stc (stc (stc (stc S 5 63 (nI 12)) 6 64 (nI 12)) 7 65 (nI 12)) 8 66 (nI 60)) 9 67 (nI 60)) 62 5 ((stc (stc (stc (stc (stc S 5 63 (nI 12)) 6 64 (nI 12)) 7 65 (nI 12)) 8 66 (nI 60)) 9 67 (nI 60)) 4 5))) : PW l x g shX m_X1_copyFrom (Qv x g shX K) 0 [(0, .ref (g.ad 62)), (1, .ref (g.ad 4))] [] S := by
  refine r_aload_n ok 1 dX1_copyFrom_0 rfl ?_
  refine r_getR ok 4 0 rfl rfl fo_X1_9 dX1_copyFrom_1 ?_
  refine r_iconst ok (nI 0) dX1_copyFrom_4 (by decide) ?_
  refine r_aload_n ok 0 dX1_copyFrom_5 rfl ?_
  refine r_getR ok 62 0 rfl rfl fo_X1_9 dX1_copyFrom_6 ?_
  refine r_iconst ok (nI 0) dX1_copyFrom_9 (by decide) ?_
  refine r_bipush ok (nI 12) dX1_copyFrom_10 (by decide) ?_
  refine r_copy ok 5 63 (nI 12) rfl rfl (gt_in (List.mem_of_getElem? (i := 934) (by decide +kernel)) rfl) cpy_w dX1_copyFrom_12 (by decide) (by decide) (by decide) (by decide) (Nat.le_of_ble_eq_true rfl) ?_
  refine r_aload_n ok 1 dX1_copyFrom_15 rfl ?_
  refine r_getR ok 4 1 rfl rfl fo_X1_15 dX1_copyFrom_16 ?_
  refine r_iconst ok (nI 0) dX1_copyFrom_19 (by decide) ?_
  refine r_aload_n ok 0 dX1_copyFrom_20 rfl ?_
  refine r_getR ok 62 1 rfl rfl fo_X1_15 dX1_copyFrom_21 ?_
  refine r_iconst ok (nI 0) dX1_copyFrom_24 (by decide) ?_
  refine r_bipush ok (nI 12) dX1_copyFrom_25 (by decide) ?_
  refine r_copy ok 6 64 (nI 12) rfl rfl (gt_in (List.mem_of_getElem? (i := 934) (by decide +kernel)) rfl) cpy_w dX1_copyFrom_27 (by decide) (by decide) (by decide) (by decide) (Nat.le_of_ble_eq_true rfl) ?_
  refine r_aload_n ok 1 dX1_copyFrom_30 rfl ?_
  refine r_getR ok 4 2 rfl rfl fo_X1_18 dX1_copyFrom_31 ?_
  refine r_iconst ok (nI 0) dX1_copyFrom_34 (by decide) ?_
  refine r_aload_n ok 0 dX1_copyFrom_35 rfl ?_
  refine r_getR ok 62 2 rfl rfl fo_X1_18 dX1_copyFrom_36 ?_
  refine r_iconst ok (nI 0) dX1_copyFrom_39 (by decide) ?_
  refine r_bipush ok (nI 12) dX1_copyFrom_40 (by decide) ?_
  refine r_copy ok 7 65 (nI 12) rfl rfl (gt_in (List.mem_of_getElem? (i := 934) (by decide +kernel)) rfl) cpy_w dX1_copyFrom_42 (by decide) (by decide) (by decide) (by decide) (Nat.le_of_ble_eq_true rfl) ?_
  refine r_aload_n ok 1 dX1_copyFrom_45 rfl ?_
  refine r_getR ok 4 3 rfl rfl fo_X1_21 dX1_copyFrom_46 ?_
  refine r_iconst ok (nI 0) dX1_copyFrom_49 (by decide) ?_
  refine r_aload_n ok 0 dX1_copyFrom_50 rfl ?_
  refine r_getR ok 62 3 rfl rfl fo_X1_21 dX1_copyFrom_51 ?_
  refine r_iconst ok (nI 0) dX1_copyFrom_54 (by decide) ?_
  refine r_bipush ok (nI 60) dX1_copyFrom_55 (by decide) ?_
  refine r_copy ok 8 66 (nI 60) rfl rfl (gt_in (List.mem_of_getElem? (i := 934) (by decide +kernel)) rfl) cpy_w dX1_copyFrom_57 (by decide) (by decide) (by decide) (by decide) (Nat.le_of_ble_eq_true rfl) ?_
  refine r_aload_n ok 1 dX1_copyFrom_60 rfl ?_
  refine r_getR ok 4 4 rfl rfl fo_X1_24 dX1_copyFrom_61 ?_
  refine r_iconst ok (nI 0) dX1_copyFrom_64 (by decide) ?_
  refine r_aload_n ok 0 dX1_copyFrom_65 rfl ?_
  refine r_getR ok 62 4 rfl rfl fo_X1_24 dX1_copyFrom_66 ?_
  refine r_iconst ok (nI 0) dX1_copyFrom_69 (by decide) ?_
  refine r_bipush ok (nI 60) dX1_copyFrom_70 (by decide) ?_
  refine r_copy ok 9 67 (nI 60) rfl rfl (gt_in (List.mem_of_getElem? (i := 934) (by decide +kernel)) rfl) cpy_w dX1_copyFrom_72 (by decide) (by decide) (by decide) (by decide) (Nat.le_of_ble_eq_true rfl) ?_
  refine r_aload_n ok 0 dX1_copyFrom_75 rfl ?_
  refine r_aload_n ok 1 dX1_copyFrom_76 rfl ?_
  refine r_getI ok 4 5 rfl rfl fo_X1_33 dX1_copyFrom_77 ?_
  refine r_put ok 62 5 rfl rfl po_X1_33 rfl rfl dX1_copyFrom_80 ?_
  exact r_ret ok rfl dX1_copyFrom_83 h
set_option maxRecDepth 10000 in
theorem s_X2_mixedUp_0 {l : Launch} {x : Cx} {g : Geo} {K : Int32 → Mem → Prop} (ok : Ok x g shX m_X2_mixedUp) (v1 : Int32) (S : Mem) (h : (vp_in v1 4 ∧ ((0 ≤ (S 13 (cl v1)) → (vp_in v1 4 ∧ (vp_in v1 4 ∧ K (((nI 10) * (S 13 (cl v1))) + (S 14 (cl v1))) S))) ∧ (¬ 0 ≤ (S 13 (cl v1)) → K (-6) S)))) : PW l x g shX m_X2_mixedUp (Qi x g shX K) 0 [(0, .ref (g.ad 10)), (1, .int v1)] [] S := by
  refine r_aload_n ok 0 dX2_mixedUp_0 rfl ?_
  refine r_getR ok 10 2 rfl rfl fo_X2_18 dX2_mixedUp_1 ?_
  refine r_iload_n ok 1 dX2_mixedUp_4 rfl ?_
  refine r_iaload ok 13 rfl dX2_mixedUp_5 h.1 ?_
  have h := h.2
  refine r_if_ge ok 14 dX2_mixedUp_6 (by decide) ⟨fun c => ?_, fun c => ?_⟩
  · have h := h.1 c
    refine r_bipush ok (nI 10) dX2_mixedUp_14 (by decide) ?_
    refine r_aload_n ok 0 dX2_mixedUp_16 rfl ?_
    refine r_getR ok 10 2 rfl rfl fo_X2_18 dX2_mixedUp_17 ?_
    refine r_iload_n ok 1 dX2_mixedUp_20 rfl ?_
    refine r_iaload ok 13 rfl dX2_mixedUp_21 h.1 ?_
    have h := h.2
    refine r_imul ok dX2_mixedUp_22 ?_
    refine r_aload_n ok 0 dX2_mixedUp_23 rfl ?_
    refine r_getR ok 10 3 rfl rfl fo_X2_21 dX2_mixedUp_24 ?_
    refine r_iload_n ok 1 dX2_mixedUp_27 rfl ?_
    refine r_iaload ok 14 rfl dX2_mixedUp_28 h.1 ?_
    have h := h.2
    refine r_iadd ok dX2_mixedUp_29 ?_
    exact r_iret ok rfl dX2_mixedUp_30 h
  · have h := h.2 c
    refine r_bipush ok (-6) dX2_mixedUp_9 (by decide) ?_
    refine r_goto ok 30 dX2_mixedUp_11 (by decide) ?_
    exact r_iret ok rfl dX2_mixedUp_30 h
set_option maxRecDepth 10000 in
theorem s_X2_takenFor_0 {l : Launch} {x : Cx} {g : Geo} {K : Int32 → Mem → Prop} (ok : Ok x g shX m_X2_takenFor) (v1 : Int32) (v2 : Int32) (S : Mem) (h : (vp_in v1 4 ∧ ((¬ v2 = (S 13 (cl v1)) → (vp_in v1 4 ∧ ((¬ v2 = (S 14 (cl v1)) → K v2 S) ∧ (v2 = (S 14 (cl v1)) → (vp_in v1 4 ∧ K (S 13 (cl v1)) S))))) ∧ (v2 = (S 13 (cl v1)) → (vp_in v1 4 ∧ K (S 14 (cl v1)) S))))) : PW l x g shX m_X2_takenFor (Qi x g shX K) 0 [(0, .ref (g.ad 10)), (1, .int v1), (2, .int v2)] [] S := by
  refine r_iload_n ok 2 dX2_takenFor_0 rfl ?_
  refine r_aload_n ok 0 dX2_takenFor_1 rfl ?_
  refine r_getR ok 10 2 rfl rfl fo_X2_18 dX2_takenFor_2 ?_
  refine r_iload_n ok 1 dX2_takenFor_5 rfl ?_
  refine r_iaload ok 13 rfl dX2_takenFor_6 h.1 ?_
  have h := h.2
  refine r_icmp_ne ok 17 dX2_takenFor_7 (by decide) ⟨fun c => ?_, fun c => ?_⟩
  · have h := h.1 c
    refine r_iload_n ok 2 dX2_takenFor_17 rfl ?_
    refine r_aload_n ok 0 dX2_takenFor_18 rfl ?_
    refine r_getR ok 10 3 rfl rfl fo_X2_21 dX2_takenFor_19 ?_
    refine r_iload_n ok 1 dX2_takenFor_22 rfl ?_
    refine r_iaload ok 14 rfl dX2_takenFor_23 h.1 ?_
    have h := h.2
    refine r_icmp_ne ok 36 dX2_takenFor_24 (by decide) ⟨fun c => ?_, fun c => ?_⟩
    · have h := h.1 c
      refine r_iload_n ok 2 dX2_takenFor_36 rfl ?_
      exact r_iret ok rfl dX2_takenFor_37 h
    · have h := h.2 c
      refine r_aload_n ok 0 dX2_takenFor_27 rfl ?_
      refine r_getR ok 10 2 rfl rfl fo_X2_18 dX2_takenFor_28 ?_
      refine r_iload_n ok 1 dX2_takenFor_31 rfl ?_
      refine r_iaload ok 13 rfl dX2_takenFor_32 h.1 ?_
      have h := h.2
      refine r_goto ok 37 dX2_takenFor_33 (by decide) ?_
      exact r_iret ok rfl dX2_takenFor_37 h
  · have h := h.2 c
    refine r_aload_n ok 0 dX2_takenFor_10 rfl ?_
    refine r_getR ok 10 3 rfl rfl fo_X2_21 dX2_takenFor_11 ?_
    refine r_iload_n ok 1 dX2_takenFor_14 rfl ?_
    refine r_iaload ok 14 rfl dX2_takenFor_15 h.1 ?_
    have h := h.2
    exact r_iret ok rfl dX2_takenFor_16 h
set_option maxRecDepth 10000 in
theorem s_X2_copyFrom_10_53_0 {l : Launch} {x : Cx} {g : Geo} {K : Mem → Prop} (ok : Ok x g shX m_X2_copyFrom) (S : Mem) (h : K (stc (stc (stc (stc S 54 11 (nI 4)) 55 12 (nI 4)) 56 13 (nI 4)) 57 14 (nI 4))) : PW l x g shX m_X2_copyFrom (Qv x g shX K) 0 [(0, .ref (g.ad 10)), (1, .ref (g.ad 53))] [] S := by
  refine r_aload_n ok 1 dX2_copyFrom_0 rfl ?_
  refine r_getR ok 53 0 rfl rfl fo_X2_9 dX2_copyFrom_1 ?_
  refine r_iconst ok (nI 0) dX2_copyFrom_4 (by decide) ?_
  refine r_aload_n ok 0 dX2_copyFrom_5 rfl ?_
  refine r_getR ok 10 0 rfl rfl fo_X2_9 dX2_copyFrom_6 ?_
  refine r_iconst ok (nI 0) dX2_copyFrom_9 (by decide) ?_
  refine r_iconst ok (nI 4) dX2_copyFrom_10 (by decide) ?_
  refine r_copy ok 54 11 (nI 4) rfl rfl (gt_in (List.mem_of_getElem? (i := 941) (by decide +kernel)) rfl) cpy_w dX2_copyFrom_11 (by decide) (by decide) (by decide) (by decide) (Nat.le_of_ble_eq_true rfl) ?_
  refine r_aload_n ok 1 dX2_copyFrom_14 rfl ?_
  refine r_getR ok 53 1 rfl rfl fo_X2_15 dX2_copyFrom_15 ?_
  refine r_iconst ok (nI 0) dX2_copyFrom_18 (by decide) ?_
  refine r_aload_n ok 0 dX2_copyFrom_19 rfl ?_
  refine r_getR ok 10 1 rfl rfl fo_X2_15 dX2_copyFrom_20 ?_
  refine r_iconst ok (nI 0) dX2_copyFrom_23 (by decide) ?_
  refine r_iconst ok (nI 4) dX2_copyFrom_24 (by decide) ?_
  refine r_copy ok 55 12 (nI 4) rfl rfl (gt_in (List.mem_of_getElem? (i := 941) (by decide +kernel)) rfl) cpy_w dX2_copyFrom_25 (by decide) (by decide) (by decide) (by decide) (Nat.le_of_ble_eq_true rfl) ?_
  refine r_aload_n ok 1 dX2_copyFrom_28 rfl ?_
  refine r_getR ok 53 2 rfl rfl fo_X2_18 dX2_copyFrom_29 ?_
  refine r_iconst ok (nI 0) dX2_copyFrom_32 (by decide) ?_
  refine r_aload_n ok 0 dX2_copyFrom_33 rfl ?_
  refine r_getR ok 10 2 rfl rfl fo_X2_18 dX2_copyFrom_34 ?_
  refine r_iconst ok (nI 0) dX2_copyFrom_37 (by decide) ?_
  refine r_iconst ok (nI 4) dX2_copyFrom_38 (by decide) ?_
  refine r_copy ok 56 13 (nI 4) rfl rfl (gt_in (List.mem_of_getElem? (i := 941) (by decide +kernel)) rfl) cpy_w dX2_copyFrom_39 (by decide) (by decide) (by decide) (by decide) (Nat.le_of_ble_eq_true rfl) ?_
  refine r_aload_n ok 1 dX2_copyFrom_42 rfl ?_
  refine r_getR ok 53 3 rfl rfl fo_X2_21 dX2_copyFrom_43 ?_
  refine r_iconst ok (nI 0) dX2_copyFrom_46 (by decide) ?_
  refine r_aload_n ok 0 dX2_copyFrom_47 rfl ?_
  refine r_getR ok 10 3 rfl rfl fo_X2_21 dX2_copyFrom_48 ?_
  refine r_iconst ok (nI 0) dX2_copyFrom_51 (by decide) ?_
  refine r_iconst ok (nI 4) dX2_copyFrom_52 (by decide) ?_
  refine r_copy ok 57 14 (nI 4) rfl rfl (gt_in (List.mem_of_getElem? (i := 941) (by decide +kernel)) rfl) cpy_w dX2_copyFrom_53 (by decide) (by decide) (by decide) (by decide) (Nat.le_of_ble_eq_true rfl) ?_
  exact r_ret ok rfl dX2_copyFrom_56 h
set_option maxRecDepth 10000 in
theorem s_X2_copyFrom_10_68_0 {l : Launch} {x : Cx} {g : Geo} {K : Mem → Prop} (ok : Ok x g shX m_X2_copyFrom) (S : Mem) (h : K (stc (stc (stc (stc S 69 11 (nI 4)) 70 12 (nI 4)) 71 13 (nI 4)) 72 14 (nI 4))) : PW l x g shX m_X2_copyFrom (Qv x g shX K) 0 [(0, .ref (g.ad 10)), (1, .ref (g.ad 68))] [] S := by
  refine r_aload_n ok 1 dX2_copyFrom_0 rfl ?_
  refine r_getR ok 68 0 rfl rfl fo_X2_9 dX2_copyFrom_1 ?_
  refine r_iconst ok (nI 0) dX2_copyFrom_4 (by decide) ?_
  refine r_aload_n ok 0 dX2_copyFrom_5 rfl ?_
  refine r_getR ok 10 0 rfl rfl fo_X2_9 dX2_copyFrom_6 ?_
  refine r_iconst ok (nI 0) dX2_copyFrom_9 (by decide) ?_
  refine r_iconst ok (nI 4) dX2_copyFrom_10 (by decide) ?_
  refine r_copy ok 69 11 (nI 4) rfl rfl (gt_in (List.mem_of_getElem? (i := 941) (by decide +kernel)) rfl) cpy_w dX2_copyFrom_11 (by decide) (by decide) (by decide) (by decide) (Nat.le_of_ble_eq_true rfl) ?_
  refine r_aload_n ok 1 dX2_copyFrom_14 rfl ?_
  refine r_getR ok 68 1 rfl rfl fo_X2_15 dX2_copyFrom_15 ?_
  refine r_iconst ok (nI 0) dX2_copyFrom_18 (by decide) ?_
  refine r_aload_n ok 0 dX2_copyFrom_19 rfl ?_
  refine r_getR ok 10 1 rfl rfl fo_X2_15 dX2_copyFrom_20 ?_
  refine r_iconst ok (nI 0) dX2_copyFrom_23 (by decide) ?_
  refine r_iconst ok (nI 4) dX2_copyFrom_24 (by decide) ?_
  refine r_copy ok 70 12 (nI 4) rfl rfl (gt_in (List.mem_of_getElem? (i := 941) (by decide +kernel)) rfl) cpy_w dX2_copyFrom_25 (by decide) (by decide) (by decide) (by decide) (Nat.le_of_ble_eq_true rfl) ?_
  refine r_aload_n ok 1 dX2_copyFrom_28 rfl ?_
  refine r_getR ok 68 2 rfl rfl fo_X2_18 dX2_copyFrom_29 ?_
  refine r_iconst ok (nI 0) dX2_copyFrom_32 (by decide) ?_
  refine r_aload_n ok 0 dX2_copyFrom_33 rfl ?_
  refine r_getR ok 10 2 rfl rfl fo_X2_18 dX2_copyFrom_34 ?_
  refine r_iconst ok (nI 0) dX2_copyFrom_37 (by decide) ?_
  refine r_iconst ok (nI 4) dX2_copyFrom_38 (by decide) ?_
  refine r_copy ok 71 13 (nI 4) rfl rfl (gt_in (List.mem_of_getElem? (i := 941) (by decide +kernel)) rfl) cpy_w dX2_copyFrom_39 (by decide) (by decide) (by decide) (by decide) (Nat.le_of_ble_eq_true rfl) ?_
  refine r_aload_n ok 1 dX2_copyFrom_42 rfl ?_
  refine r_getR ok 68 3 rfl rfl fo_X2_21 dX2_copyFrom_43 ?_
  refine r_iconst ok (nI 0) dX2_copyFrom_46 (by decide) ?_
  refine r_aload_n ok 0 dX2_copyFrom_47 rfl ?_
  refine r_getR ok 10 3 rfl rfl fo_X2_21 dX2_copyFrom_48 ?_
  refine r_iconst ok (nI 0) dX2_copyFrom_51 (by decide) ?_
  refine r_iconst ok (nI 4) dX2_copyFrom_52 (by decide) ?_
  refine r_copy ok 72 14 (nI 4) rfl rfl (gt_in (List.mem_of_getElem? (i := 941) (by decide +kernel)) rfl) cpy_w dX2_copyFrom_53 (by decide) (by decide) (by decide) (by decide) (Nat.le_of_ble_eq_true rfl) ?_
  exact r_ret ok rfl dX2_copyFrom_56 h
set_option maxRecDepth 10000 in
theorem s_X2_copyFrom_53_10_0 {l : Launch} {x : Cx} {g : Geo} {K : Mem → Prop} (ok : Ok x g shX m_X2_copyFrom) (S : Mem) (h : K (stc (stc (stc (stc S 11 54 (nI 4)) 12 55 (nI 4)) 13 56 (nI 4)) 14 57 (nI 4))) : PW l x g shX m_X2_copyFrom (Qv x g shX K) 0 [(0, .ref (g.ad 53)), (1, .ref (g.ad 10))] [] S := by
  refine r_aload_n ok 1 dX2_copyFrom_0 rfl ?_
  refine r_getR ok 10 0 rfl rfl fo_X2_9 dX2_copyFrom_1 ?_
  refine r_iconst ok (nI 0) dX2_copyFrom_4 (by decide) ?_
  refine r_aload_n ok 0 dX2_copyFrom_5 rfl ?_
  refine r_getR ok 53 0 rfl rfl fo_X2_9 dX2_copyFrom_6 ?_
  refine r_iconst ok (nI 0) dX2_copyFrom_9 (by decide) ?_
  refine r_iconst ok (nI 4) dX2_copyFrom_10 (by decide) ?_
  refine r_copy ok 11 54 (nI 4) rfl rfl (gt_in (List.mem_of_getElem? (i := 941) (by decide +kernel)) rfl) cpy_w dX2_copyFrom_11 (by decide) (by decide) (by decide) (by decide) (Nat.le_of_ble_eq_true rfl) ?_
  refine r_aload_n ok 1 dX2_copyFrom_14 rfl ?_
  refine r_getR ok 10 1 rfl rfl fo_X2_15 dX2_copyFrom_15 ?_
  refine r_iconst ok (nI 0) dX2_copyFrom_18 (by decide) ?_
  refine r_aload_n ok 0 dX2_copyFrom_19 rfl ?_
  refine r_getR ok 53 1 rfl rfl fo_X2_15 dX2_copyFrom_20 ?_
  refine r_iconst ok (nI 0) dX2_copyFrom_23 (by decide) ?_
  refine r_iconst ok (nI 4) dX2_copyFrom_24 (by decide) ?_
  refine r_copy ok 12 55 (nI 4) rfl rfl (gt_in (List.mem_of_getElem? (i := 941) (by decide +kernel)) rfl) cpy_w dX2_copyFrom_25 (by decide) (by decide) (by decide) (by decide) (Nat.le_of_ble_eq_true rfl) ?_
  refine r_aload_n ok 1 dX2_copyFrom_28 rfl ?_
  refine r_getR ok 10 2 rfl rfl fo_X2_18 dX2_copyFrom_29 ?_
  refine r_iconst ok (nI 0) dX2_copyFrom_32 (by decide) ?_
  refine r_aload_n ok 0 dX2_copyFrom_33 rfl ?_
  refine r_getR ok 53 2 rfl rfl fo_X2_18 dX2_copyFrom_34 ?_
  refine r_iconst ok (nI 0) dX2_copyFrom_37 (by decide) ?_
  refine r_iconst ok (nI 4) dX2_copyFrom_38 (by decide) ?_
  refine r_copy ok 13 56 (nI 4) rfl rfl (gt_in (List.mem_of_getElem? (i := 941) (by decide +kernel)) rfl) cpy_w dX2_copyFrom_39 (by decide) (by decide) (by decide) (by decide) (Nat.le_of_ble_eq_true rfl) ?_
  refine r_aload_n ok 1 dX2_copyFrom_42 rfl ?_
  refine r_getR ok 10 3 rfl rfl fo_X2_21 dX2_copyFrom_43 ?_
  refine r_iconst ok (nI 0) dX2_copyFrom_46 (by decide) ?_
  refine r_aload_n ok 0 dX2_copyFrom_47 rfl ?_
  refine r_getR ok 53 3 rfl rfl fo_X2_21 dX2_copyFrom_48 ?_
  refine r_iconst ok (nI 0) dX2_copyFrom_51 (by decide) ?_
  refine r_iconst ok (nI 4) dX2_copyFrom_52 (by decide) ?_
  refine r_copy ok 14 57 (nI 4) rfl rfl (gt_in (List.mem_of_getElem? (i := 941) (by decide +kernel)) rfl) cpy_w dX2_copyFrom_53 (by decide) (by decide) (by decide) (by decide) (Nat.le_of_ble_eq_true rfl) ?_
  exact r_ret ok rfl dX2_copyFrom_56 h
set_option maxRecDepth 10000 in
theorem s_X2_copyFrom_68_10_0 {l : Launch} {x : Cx} {g : Geo} {K : Mem → Prop} (ok : Ok x g shX m_X2_copyFrom) (S : Mem) (h : K (stc (stc (stc (stc S 11 69 (nI 4)) 12 70 (nI 4)) 13 71 (nI 4)) 14 72 (nI 4))) : PW l x g shX m_X2_copyFrom (Qv x g shX K) 0 [(0, .ref (g.ad 68)), (1, .ref (g.ad 10))] [] S := by
  refine r_aload_n ok 1 dX2_copyFrom_0 rfl ?_
  refine r_getR ok 10 0 rfl rfl fo_X2_9 dX2_copyFrom_1 ?_
  refine r_iconst ok (nI 0) dX2_copyFrom_4 (by decide) ?_
  refine r_aload_n ok 0 dX2_copyFrom_5 rfl ?_
  refine r_getR ok 68 0 rfl rfl fo_X2_9 dX2_copyFrom_6 ?_
  refine r_iconst ok (nI 0) dX2_copyFrom_9 (by decide) ?_
  refine r_iconst ok (nI 4) dX2_copyFrom_10 (by decide) ?_
  refine r_copy ok 11 69 (nI 4) rfl rfl (gt_in (List.mem_of_getElem? (i := 941) (by decide +kernel)) rfl) cpy_w dX2_copyFrom_11 (by decide) (by decide) (by decide) (by decide) (Nat.le_of_ble_eq_true rfl) ?_
  refine r_aload_n ok 1 dX2_copyFrom_14 rfl ?_
  refine r_getR ok 10 1 rfl rfl fo_X2_15 dX2_copyFrom_15 ?_
  refine r_iconst ok (nI 0) dX2_copyFrom_18 (by decide) ?_
  refine r_aload_n ok 0 dX2_copyFrom_19 rfl ?_
  refine r_getR ok 68 1 rfl rfl fo_X2_15 dX2_copyFrom_20 ?_
  refine r_iconst ok (nI 0) dX2_copyFrom_23 (by decide) ?_
  refine r_iconst ok (nI 4) dX2_copyFrom_24 (by decide) ?_
  refine r_copy ok 12 70 (nI 4) rfl rfl (gt_in (List.mem_of_getElem? (i := 941) (by decide +kernel)) rfl) cpy_w dX2_copyFrom_25 (by decide) (by decide) (by decide) (by decide) (Nat.le_of_ble_eq_true rfl) ?_
  refine r_aload_n ok 1 dX2_copyFrom_28 rfl ?_
  refine r_getR ok 10 2 rfl rfl fo_X2_18 dX2_copyFrom_29 ?_
  refine r_iconst ok (nI 0) dX2_copyFrom_32 (by decide) ?_
  refine r_aload_n ok 0 dX2_copyFrom_33 rfl ?_
  refine r_getR ok 68 2 rfl rfl fo_X2_18 dX2_copyFrom_34 ?_
  refine r_iconst ok (nI 0) dX2_copyFrom_37 (by decide) ?_
  refine r_iconst ok (nI 4) dX2_copyFrom_38 (by decide) ?_
  refine r_copy ok 13 71 (nI 4) rfl rfl (gt_in (List.mem_of_getElem? (i := 941) (by decide +kernel)) rfl) cpy_w dX2_copyFrom_39 (by decide) (by decide) (by decide) (by decide) (Nat.le_of_ble_eq_true rfl) ?_
  refine r_aload_n ok 1 dX2_copyFrom_42 rfl ?_
  refine r_getR ok 10 3 rfl rfl fo_X2_21 dX2_copyFrom_43 ?_
  refine r_iconst ok (nI 0) dX2_copyFrom_46 (by decide) ?_
  refine r_aload_n ok 0 dX2_copyFrom_47 rfl ?_
  refine r_getR ok 68 3 rfl rfl fo_X2_21 dX2_copyFrom_48 ?_
  refine r_iconst ok (nI 0) dX2_copyFrom_51 (by decide) ?_
  refine r_iconst ok (nI 4) dX2_copyFrom_52 (by decide) ?_
  refine r_copy ok 14 72 (nI 4) rfl rfl (gt_in (List.mem_of_getElem? (i := 941) (by decide +kernel)) rfl) cpy_w dX2_copyFrom_53 (by decide) (by decide) (by decide) (by decide) (Nat.le_of_ble_eq_true rfl) ?_
  exact r_ret ok rfl dX2_copyFrom_56 h
set_option maxRecDepth 10000 in
theorem s_X5_findFault_0 {l : Launch} {x : Cx} {g : Geo} {K : Int32 → Mem → Prop} (ok : Ok x g shX m_X5_findFault) (S : Mem) (h : PW l x g shX m_X5_findFault (Qi x g shX K) 9 [(0, .ref (g.ad 1)), (1, .int (nI 0)), (2, .int (nI 0)), (3, .int (nI 0)), (4, .int (nI 0))] [] S) : PW l x g shX m_X5_findFault (Qi x g shX K) 0 [(0, .ref (g.ad 1))] [] S := by
  refine r_iconst ok (nI 0) dX5_findFault_0 (by decide) ?_
  refine r_istore_n ok [(1, .int (nI 0)), (0, .ref (g.ad 1))] dX5_findFault_1 (by decide) rfl ?_
  refine r_iconst ok (nI 0) dX5_findFault_2 (by decide) ?_
  refine r_istore_n ok [(2, .int (nI 0)), (1, .int (nI 0)), (0, .ref (g.ad 1))] dX5_findFault_3 (by decide) rfl ?_
  refine r_iconst ok (nI 0) dX5_findFault_4 (by decide) ?_
  refine r_istore_n ok [(3, .int (nI 0)), (2, .int (nI 0)), (1, .int (nI 0)), (0, .ref (g.ad 1))] dX5_findFault_5 (by decide) rfl ?_
  refine r_iconst ok (nI 0) dX5_findFault_6 (by decide) ?_
  refine r_istore ok [(4, .int (nI 0)), (3, .int (nI 0)), (2, .int (nI 0)), (1, .int (nI 0)), (0, .ref (g.ad 1))] dX5_findFault_7 (by decide) rfl ?_
  exact r_sub [4, 3, 2, 1, 0] _ rfl h
set_option maxRecDepth 10000 in
theorem s_X5_findFault_9 {l : Launch} {x : Cx} {g : Geo} {K : Int32 → Mem → Prop} (ok : Ok x g shX m_X5_findFault) (v1 : Int32) (v2 : Int32) (v3 : Int32) (v4 : Int32) (S : Mem) (h : (((S 1 1) ≤ v4 → ((v3 = 0 → K (S 1 1) S) ∧ (¬ v3 = 0 → ((¬ v2 = v1 → K (S 1 1) S) ∧ (v2 = v1 → K (-6) S))))) ∧ (¬ (S 1 1) ≤ v4 → (vp_in v4 14 ∧ ((v3 = 0 → ((¬ (S 2 (cl v4)) = (nI 61) → (((S 2 (cl v4)) < (nI 97) → K v4 S) ∧ (¬ (S 2 (cl v4)) < (nI 97) → (((nI 106) < (S 2 (cl v4)) → K v4 S) ∧ (¬ (nI 106) < (S 2 (cl v4)) → ((¬ v1 = (nI 5) → PW l x g shX m_X5_findFault (Qi x g shX K) 9 [(0, .ref (g.ad 1)), (1, .int (v1 + (nI 1))), (2, .int v2), (3, .int v3), (4, .int (v4 + (nI 1)))] [] S) ∧ (v1 = (nI 5) → K v4 S))))))) ∧ ((S 2 (cl v4)) = (nI 61) → ((v1 ≤ 0 → (((S 2 (cl v4)) < (nI 97) → K v4 S) ∧ (¬ (S 2 (cl v4)) < (nI 97) → (((nI 106) < (S 2 (cl v4)) → K v4 S) ∧ (¬ (nI 106) < (S 2 (cl v4)) → ((¬ v1 = (nI 5) → PW l x g shX m_X5_findFault (Qi x g shX K) 9 [(0, .ref (g.ad 1)), (1, .int (v1 + (nI 1))), (2, .int v2), (3, .int v3), (4, .int (v4 + (nI 1)))] [] S) ∧ (v1 = (nI 5) → K v4 S))))))) ∧ (¬ v1 ≤ 0 → PW l x g shX m_X5_findFault (Qi x g shX K) 9 [(0, .ref (g.ad 1)), (1, .int v1), (2, .int v2), (3, .int (nI 1)), (4, .int (v4 + (nI 1)))] [] S))))) ∧ (¬ v3 = 0 → (((S 2 (cl v4)) < (nI 48) → K v4 S) ∧ (¬ (S 2 (cl v4)) < (nI 48) → (((nI 57) < (S 2 (cl v4)) → K v4 S) ∧ (¬ (nI 57) < (S 2 (cl v4)) → ((¬ v2 = v1 → PW l x g shX m_X5_findFault (Qi x g shX K) 9 [(0, .ref (g.ad 1)), (1, .int v1), (2, .int (v2 + (nI 1))), (3, .int v3), (4, .int (v4 + (nI 1)))] [] S) ∧ (v2 = v1 → K v4 S)))))))))))) : PW l x g shX m_X5_findFault (Qi x g shX K) 9 [(0, .ref (g.ad 1)), (1, .int v1), (2, .int v2), (3, .int v3), (4, .int v4)] [] S := by
  refine r_iload ok 4 dX5_findFault_9 rfl ?_
  refine r_aload_n ok 0 dX5_findFault_11 rfl ?_
  refine r_getI ok 1 1 rfl rfl fo_X5_15 dX5_findFault_12 ?_
  refine r_icmp_ge ok 106 dX5_findFault_15 (by decide) ⟨fun c => ?_, fun c => ?_⟩
  · have h := h.1 c
    refine r_iload_n ok 3 dX5_findFault_106 rfl ?_
    refine r_if_eq ok 120 dX5_findFault_107 (by decide) ⟨fun c => ?_, fun c => ?_⟩
    · have h := h.1 c
      refine r_aload_n ok 0 dX5_findFault_120 rfl ?_
      refine r_getI ok 1 1 rfl rfl fo_X5_15 dX5_findFault_121 ?_
      exact r_iret ok rfl dX5_findFault_124 h
    · have h := h.2 c
      refine r_iload_n ok 2 dX5_findFault_110 rfl ?_
      refine r_iload_n ok 1 dX5_findFault_111 rfl ?_
      refine r_icmp_ne ok 120 dX5_findFault_112 (by decide) ⟨fun c => ?_, fun c => ?_⟩
      · have h := h.1 c
        refine r_aload_n ok 0 dX5_findFault_120 rfl ?_
        refine r_getI ok 1 1 rfl rfl fo_X5_15 dX5_findFault_121 ?_
        exact r_iret ok rfl dX5_findFault_124 h
      · have h := h.2 c
        refine r_bipush ok (-6) dX5_findFault_115 (by decide) ?_
        refine r_goto ok 124 dX5_findFault_117 (by decide) ?_
        exact r_iret ok rfl dX5_findFault_124 h
  · have h := h.2 c
    refine r_aload_n ok 0 dX5_findFault_18 rfl ?_
    refine r_getR ok 1 0 rfl rfl fo_X5_9 dX5_findFault_19 ?_
    refine r_iload ok 4 dX5_findFault_22 rfl ?_
    refine r_iaload ok 2 rfl dX5_findFault_24 h.1 ?_
    have h := h.2
    refine r_istore ok [(5, .int (S 2 (cl v4))), (0, .ref (g.ad 1)), (1, .int v1), (2, .int v2), (3, .int v3), (4, .int v4)] dX5_findFault_25 (by decide) rfl ?_
    refine r_iload_n ok 4 dX5_findFault_27 rfl ?_
    refine r_if_eq ok 59 dX5_findFault_28 (by decide) ⟨fun c => ?_, fun c => ?_⟩
    · have h := h.1 c
      refine r_iload ok 0 dX5_findFault_59 rfl ?_
      refine r_bipush ok (nI 61) dX5_findFault_61 (by decide) ?_
      refine r_icmp_ne ok 75 dX5_findFault_63 (by decide) ⟨fun c => ?_, fun c => ?_⟩
      · have h := h.1 c
        refine r_iload ok 0 dX5_findFault_75 rfl ?_
        refine r_bipush ok (nI 97) dX5_findFault_77 (by decide) ?_
        refine r_icmp_lt ok 94 dX5_findFault_79 (by decide) ⟨fun c => ?_, fun c => ?_⟩
        · have h := h.1 c
          refine r_iload ok 5 dX5_findFault_94 rfl ?_
          exact r_iret ok rfl dX5_findFault_96 h
        · have h := h.2 c
          refine r_iload ok 0 dX5_findFault_82 rfl ?_
          refine r_bipush ok (nI 106) dX5_findFault_84 (by decide) ?_
          refine r_icmp_gt ok 94 dX5_findFault_86 (by decide) ⟨fun c => ?_, fun c => ?_⟩
          · have h := h.1 c
            refine r_iload ok 5 dX5_findFault_94 rfl ?_
            exact r_iret ok rfl dX5_findFault_96 h
          · have h := h.2 c
            refine r_iload_n ok 2 dX5_findFault_89 rfl ?_
            refine r_iconst ok (nI 5) dX5_findFault_90 (by decide) ?_
            refine r_icmp_ne ok 97 dX5_findFault_91 (by decide) ⟨fun c => ?_, fun c => ?_⟩
            · have h := h.1 c
              refine r_iinc ok 2 (v1 + (nI 1)) [(1, .int (v1 + (nI 1))), (5, .int (S 2 (cl v4))), (0, .ref (g.ad 1)), (2, .int v2), (3, .int v3), (4, .int v4)] dX5_findFault_97 rfl rfl (by decide) rfl ?_
              refine r_iinc ok 5 (v4 + (nI 1)) [(4, .int (v4 + (nI 1))), (1, .int (v1 + (nI 1))), (5, .int (S 2 (cl v4))), (0, .ref (g.ad 1)), (2, .int v2), (3, .int v3)] dX5_findFault_100 rfl rfl (by decide) rfl ?_
              refine r_goto ok 9 dX5_findFault_103 (by decide) ?_
              exact r_sub [3, 1, 4, 5, 0] _ rfl h
            · have h := h.2 c
              refine r_iload ok 5 dX5_findFault_94 rfl ?_
              exact r_iret ok rfl dX5_findFault_96 h
      · have h := h.2 c
        refine r_iload_n ok 2 dX5_findFault_66 rfl ?_
        refine r_if_le ok 75 dX5_findFault_67 (by decide) ⟨fun c => ?_, fun c => ?_⟩
        · have h := h.1 c
          refine r_iload ok 0 dX5_findFault_75 rfl ?_
          refine r_bipush ok (nI 97) dX5_findFault_77 (by decide) ?_
          refine r_icmp_lt ok 94 dX5_findFault_79 (by decide) ⟨fun c => ?_, fun c => ?_⟩
          · have h := h.1 c
            refine r_iload ok 5 dX5_findFault_94 rfl ?_
            exact r_iret ok rfl dX5_findFault_96 h
          · have h := h.2 c
            refine r_iload ok 0 dX5_findFault_82 rfl ?_
            refine r_bipush ok (nI 106) dX5_findFault_84 (by decide) ?_
            refine r_icmp_gt ok 94 dX5_findFault_86 (by decide) ⟨fun c => ?_, fun c => ?_⟩
            · have h := h.1 c
              refine r_iload ok 5 dX5_findFault_94 rfl ?_
              exact r_iret ok rfl dX5_findFault_96 h
            · have h := h.2 c
              refine r_iload_n ok 2 dX5_findFault_89 rfl ?_
              refine r_iconst ok (nI 5) dX5_findFault_90 (by decide) ?_
              refine r_icmp_ne ok 97 dX5_findFault_91 (by decide) ⟨fun c => ?_, fun c => ?_⟩
              · have h := h.1 c
                refine r_iinc ok 2 (v1 + (nI 1)) [(1, .int (v1 + (nI 1))), (5, .int (S 2 (cl v4))), (0, .ref (g.ad 1)), (2, .int v2), (3, .int v3), (4, .int v4)] dX5_findFault_97 rfl rfl (by decide) rfl ?_
                refine r_iinc ok 5 (v4 + (nI 1)) [(4, .int (v4 + (nI 1))), (1, .int (v1 + (nI 1))), (5, .int (S 2 (cl v4))), (0, .ref (g.ad 1)), (2, .int v2), (3, .int v3)] dX5_findFault_100 rfl rfl (by decide) rfl ?_
                refine r_goto ok 9 dX5_findFault_103 (by decide) ?_
                exact r_sub [3, 1, 4, 5, 0] _ rfl h
              · have h := h.2 c
                refine r_iload ok 5 dX5_findFault_94 rfl ?_
                exact r_iret ok rfl dX5_findFault_96 h
        · have h := h.2 c
          refine r_iconst ok (nI 1) dX5_findFault_70 (by decide) ?_
          refine r_istore_n ok [(3, .int (nI 1)), (5, .int (S 2 (cl v4))), (0, .ref (g.ad 1)), (1, .int v1), (2, .int v2), (4, .int v4)] dX5_findFault_71 (by decide) rfl ?_
          refine r_goto ok 100 dX5_findFault_72 (by decide) ?_
          refine r_iinc ok 5 (v4 + (nI 1)) [(4, .int (v4 + (nI 1))), (3, .int (nI 1)), (5, .int (S 2 (cl v4))), (0, .ref (g.ad 1)), (1, .int v1), (2, .int v2)] dX5_findFault_100 rfl rfl (by decide) rfl ?_
          refine r_goto ok 9 dX5_findFault_103 (by decide) ?_
          exact r_sub [3, 4, 5, 1, 0] _ rfl h
    · have h := h.2 c
      refine r_iload ok 0 dX5_findFault_31 rfl ?_
      refine r_bipush ok (nI 48) dX5_findFault_33 (by decide) ?_
      refine r_icmp_lt ok 50 dX5_findFault_35 (by decide) ⟨fun c => ?_, fun c => ?_⟩
      · have h := h.1 c
        refine r_iload ok 5 dX5_findFault_50 rfl ?_
        exact r_iret ok rfl dX5_findFault_52 h
      · have h := h.2 c
        refine r_iload ok 0 dX5_findFault_38 rfl ?_
        refine r_bipush ok (nI 57) dX5_findFault_40 (by decide) ?_
        refine r_icmp_gt ok 50 dX5_findFault_42 (by decide) ⟨fun c => ?_, fun c => ?_⟩
        · have h := h.1 c
          refine r_iload ok 5 dX5_findFault_50 rfl ?_
          exact r_iret ok rfl dX5_findFault_52 h
        · have h := h.2 c
          refine r_iload_n ok 3 dX5_findFault_45 rfl ?_
          refine r_iload_n ok 2 dX5_findFault_46 rfl ?_
          refine r_icmp_ne ok 53 dX5_findFault_47 (by decide) ⟨fun c => ?_, fun c => ?_⟩
          · have h := h.1 c
            refine r_iinc ok 3 (v2 + (nI 1)) [(2, .int (v2 + (nI 1))), (5, .int (S 2 (cl v4))), (0, .ref (g.ad 1)), (1, .int v1), (3, .int v3), (4, .int v4)] dX5_findFault_53 rfl rfl (by decide) rfl ?_
            refine r_goto ok 100 dX5_findFault_56 (by decide) ?_
            refine r_iinc ok 5 (v4 + (nI 1)) [(4, .int (v4 + (nI 1))), (2, .int (v2 + (nI 1))), (5, .int (S 2 (cl v4))), (0, .ref (g.ad 1)), (1, .int v1), (3, .int v3)] dX5_findFault_100 rfl rfl (by decide) rfl ?_
            refine r_goto ok 9 dX5_findFault_103 (by decide) ?_
            exact r_sub [3, 4, 1, 5, 0] _ rfl h
          · have h := h.2 c
            refine r_iload ok 5 dX5_findFault_50 rfl ?_
            exact r_iret ok rfl dX5_findFault_52 h
set_option maxRecDepth 10000 in
theorem s_X5_letterCount_0 {l : Launch} {x : Cx} {g : Geo} {K : Int32 → Mem → Prop} (ok : Ok x g shX m_X5_letterCount) (S : Mem) (h : (¬ (nI 2) = 0 ∧ K ((S 1 1) / (nI 2)) S)) : PW l x g shX m_X5_letterCount (Qi x g shX K) 0 [(0, .ref (g.ad 1))] [] S := by
  refine r_aload_n ok 0 dX5_letterCount_0 rfl ?_
  refine r_getI ok 1 1 rfl rfl fo_X5_15 dX5_letterCount_1 ?_
  refine r_iconst ok (nI 2) dX5_letterCount_4 (by decide) ?_
  refine r_idiv ok dX5_letterCount_5 h.1 ?_
  have h := h.2
  exact r_iret ok rfl dX5_letterCount_6 h
set_option maxRecDepth 10000 in
theorem s_X5_letterAt_0 {l : Launch} {x : Cx} {g : Geo} {K : Int32 → Mem → Prop} (ok : Ok x g shX m_X5_letterAt) (v1 : Int32) (S : Mem) (h : (vp_in v1 14 ∧ K ((S 2 (cl v1)) - (nI 97)) S)) : PW l x g shX m_X5_letterAt (Qi x g shX K) 0 [(0, .ref (g.ad 1)), (1, .int v1)] [] S := by
  refine r_aload_n ok 0 dX5_letterAt_0 rfl ?_
  refine r_getR ok 1 0 rfl rfl fo_X5_9 dX5_letterAt_1 ?_
  refine r_iload_n ok 1 dX5_letterAt_4 rfl ?_
  refine r_iaload ok 2 rfl dX5_letterAt_5 h.1 ?_
  have h := h.2
  refine r_bipush ok (nI 97) dX5_letterAt_6 (by decide) ?_
  refine r_isub ok dX5_letterAt_8 ?_
  exact r_iret ok rfl dX5_letterAt_9 h
set_option maxRecDepth 10000 in
theorem s_X5_digitAt_0 {l : Launch} {x : Cx} {g : Geo} {K : Int32 → Mem → Prop} (ok : Ok x g shX m_X5_digitAt) (v1 : Int32) (S : Mem) (h : MWi l g shX m_X5_letterCount [.ref (g.ad 1)] S (fun r1 S1 => (vp_in ((r1 + (nI 1)) + v1) 14 ∧ K ((S1 2 (cl ((r1 + (nI 1)) + v1))) - (nI 48)) S1))) : PW l x g shX m_X5_digitAt (Qi x g shX K) 0 [(0, .ref (g.ad 1)), (1, .int v1)] [] S := by
  refine r_aload_n ok 0 dX5_digitAt_0 rfl ?_
  refine r_getR ok 1 0 rfl rfl fo_X5_9 dX5_digitAt_1 ?_
  refine r_aload_n ok 0 dX5_digitAt_4 rfl ?_
  refine r_virti ok (rest := [.ref (g.ad 2)]) (As := []) 1 _ k_X5_digitAt_19 rfl rfl rfl rfl (Nat.le_of_ble_eq_true rfl) dX5_digitAt_5 (MWi.mono h (fun r1 S1 h => ?_))
  refine r_iconst ok (nI 1) dX5_digitAt_8 (by decide) ?_
  refine r_iadd ok dX5_digitAt_9 ?_
  refine r_iload_n ok 1 dX5_digitAt_10 rfl ?_
  refine r_iadd ok dX5_digitAt_11 ?_
  refine r_iaload ok 2 rfl dX5_digitAt_12 h.1 ?_
  have h := h.2
  refine r_bipush ok (nI 48) dX5_digitAt_13 (by decide) ?_
  refine r_isub ok dX5_digitAt_15 ?_
  exact r_iret ok rfl dX5_digitAt_16 h
set_option maxRecDepth 10000 in
theorem s_X7_copyFrom_3_46_0 {l : Launch} {x : Cx} {g : Geo} {K : Mem → Prop} (ok : Ok x g shX m_X7_copyFrom) (S : Mem) (h : MWv l g shX m_X1_copyFrom [.ref (g.ad 4), .ref (g.ad 47)] S (fun S1 => MWv l g shX m_X2_copyFrom [.ref (g.ad 10), .ref (g.ad 53)] S1 (fun S2 => MWv l g shX m_X0_copyFrom [.ref (g.ad 15), .ref (g.ad 58)] S2 (fun S3 => K S3)))) : PW l x g shX m_X7_copyFrom (Qv x g shX K) 0 [(0, .ref (g.ad 3)), (1, .ref (g.ad 46))] [] S := by
  refine r_aload_n ok 0 dX7_copyFrom_0 rfl ?_
  refine r_getR ok 3 0 rfl rfl fo_X7_10 dX7_copyFrom_1 ?_
  refine r_aload_n ok 1 dX7_copyFrom_4 rfl ?_
  refine r_getR ok 46 0 rfl rfl fo_X7_10 dX7_copyFrom_5 ?_
  refine r_virtv ok (rest := []) (As := [.ref (g.ad 47)]) 4 _ k_X7_copyFrom_30 rfl rfl rfl rfl (Nat.le_of_ble_eq_true rfl) dX7_copyFrom_8 (MWv.mono h (fun S1 h => ?_))
  refine r_aload_n ok 0 dX7_copyFrom_11 rfl ?_
  refine r_getR ok 3 1 rfl rfl fo_X7_19 dX7_copyFrom_12 ?_
  refine r_aload_n ok 1 dX7_copyFrom_15 rfl ?_
  refine r_getR ok 46 1 rfl rfl fo_X7_19 dX7_copyFrom_16 ?_
  refine r_virtv ok (rest := []) (As := [.ref (g.ad 53)]) 10 _ k_X7_copyFrom_34 rfl rfl rfl rfl (Nat.le_of_ble_eq_true rfl) dX7_copyFrom_19 (MWv.mono h (fun S2 h => ?_))
  refine r_aload_n ok 0 dX7_copyFrom_22 rfl ?_
  refine r_getR ok 3 2 rfl rfl fo_X7_26 dX7_copyFrom_23 ?_
  refine r_aload_n ok 1 dX7_copyFrom_26 rfl ?_
  refine r_getR ok 46 2 rfl rfl fo_X7_26 dX7_copyFrom_27 ?_
  refine r_virtv ok (rest := []) (As := [.ref (g.ad 58)]) 15 _ k_X7_copyFrom_37 rfl rfl rfl rfl (Nat.le_of_ble_eq_true rfl) dX7_copyFrom_30 (MWv.mono h (fun S3 h => ?_))
  exact r_ret ok rfl dX7_copyFrom_33 h
set_option maxRecDepth 10000 in
theorem s_X7_copyFrom_3_61_0 {l : Launch} {x : Cx} {g : Geo} {K : Mem → Prop} (ok : Ok x g shX m_X7_copyFrom) (S : Mem) (h : MWv l g shX m_X1_copyFrom [.ref (g.ad 4), .ref (g.ad 62)] S (fun S1 => MWv l g shX m_X2_copyFrom [.ref (g.ad 10), .ref (g.ad 68)] S1 (fun S2 => MWv l g shX m_X0_copyFrom [.ref (g.ad 15), .ref (g.ad 73)] S2 (fun S3 => K S3)))) : PW l x g shX m_X7_copyFrom (Qv x g shX K) 0 [(0, .ref (g.ad 3)), (1, .ref (g.ad 61))] [] S := by
  refine r_aload_n ok 0 dX7_copyFrom_0 rfl ?_
  refine r_getR ok 3 0 rfl rfl fo_X7_10 dX7_copyFrom_1 ?_
  refine r_aload_n ok 1 dX7_copyFrom_4 rfl ?_
  refine r_getR ok 61 0 rfl rfl fo_X7_10 dX7_copyFrom_5 ?_
  refine r_virtv ok (rest := []) (As := [.ref (g.ad 62)]) 4 _ k_X7_copyFrom_30 rfl rfl rfl rfl (Nat.le_of_ble_eq_true rfl) dX7_copyFrom_8 (MWv.mono h (fun S1 h => ?_))
  refine r_aload_n ok 0 dX7_copyFrom_11 rfl ?_
  refine r_getR ok 3 1 rfl rfl fo_X7_19 dX7_copyFrom_12 ?_
  refine r_aload_n ok 1 dX7_copyFrom_15 rfl ?_
  refine r_getR ok 61 1 rfl rfl fo_X7_19 dX7_copyFrom_16 ?_
  refine r_virtv ok (rest := []) (As := [.ref (g.ad 68)]) 10 _ k_X7_copyFrom_34 rfl rfl rfl rfl (Nat.le_of_ble_eq_true rfl) dX7_copyFrom_19 (MWv.mono h (fun S2 h => ?_))
  refine r_aload_n ok 0 dX7_copyFrom_22 rfl ?_
  refine r_getR ok 3 2 rfl rfl fo_X7_26 dX7_copyFrom_23 ?_
  refine r_aload_n ok 1 dX7_copyFrom_26 rfl ?_
  refine r_getR ok 61 2 rfl rfl fo_X7_26 dX7_copyFrom_27 ?_
  refine r_virtv ok (rest := []) (As := [.ref (g.ad 73)]) 15 _ k_X7_copyFrom_37 rfl rfl rfl rfl (Nat.le_of_ble_eq_true rfl) dX7_copyFrom_30 (MWv.mono h (fun S3 h => ?_))
  exact r_ret ok rfl dX7_copyFrom_33 h
set_option maxRecDepth 10000 in
theorem s_X7_copyFrom_46_3_0 {l : Launch} {x : Cx} {g : Geo} {K : Mem → Prop} (ok : Ok x g shX m_X7_copyFrom) (S : Mem) (h : MWv l g shX m_X1_copyFrom [.ref (g.ad 47), .ref (g.ad 4)] S (fun S1 => MWv l g shX m_X2_copyFrom [.ref (g.ad 53), .ref (g.ad 10)] S1 (fun S2 => MWv l g shX m_X0_copyFrom [.ref (g.ad 58), .ref (g.ad 15)] S2 (fun S3 => K S3)))) : PW l x g shX m_X7_copyFrom (Qv x g shX K) 0 [(0, .ref (g.ad 46)), (1, .ref (g.ad 3))] [] S := by
  refine r_aload_n ok 0 dX7_copyFrom_0 rfl ?_
  refine r_getR ok 46 0 rfl rfl fo_X7_10 dX7_copyFrom_1 ?_
  refine r_aload_n ok 1 dX7_copyFrom_4 rfl ?_
  refine r_getR ok 3 0 rfl rfl fo_X7_10 dX7_copyFrom_5 ?_
  refine r_virtv ok (rest := []) (As := [.ref (g.ad 4)]) 47 _ k_X7_copyFrom_30 rfl rfl rfl rfl (Nat.le_of_ble_eq_true rfl) dX7_copyFrom_8 (MWv.mono h (fun S1 h => ?_))
  refine r_aload_n ok 0 dX7_copyFrom_11 rfl ?_
  refine r_getR ok 46 1 rfl rfl fo_X7_19 dX7_copyFrom_12 ?_
  refine r_aload_n ok 1 dX7_copyFrom_15 rfl ?_
  refine r_getR ok 3 1 rfl rfl fo_X7_19 dX7_copyFrom_16 ?_
  refine r_virtv ok (rest := []) (As := [.ref (g.ad 10)]) 53 _ k_X7_copyFrom_34 rfl rfl rfl rfl (Nat.le_of_ble_eq_true rfl) dX7_copyFrom_19 (MWv.mono h (fun S2 h => ?_))
  refine r_aload_n ok 0 dX7_copyFrom_22 rfl ?_
  refine r_getR ok 46 2 rfl rfl fo_X7_26 dX7_copyFrom_23 ?_
  refine r_aload_n ok 1 dX7_copyFrom_26 rfl ?_
  refine r_getR ok 3 2 rfl rfl fo_X7_26 dX7_copyFrom_27 ?_
  refine r_virtv ok (rest := []) (As := [.ref (g.ad 15)]) 58 _ k_X7_copyFrom_37 rfl rfl rfl rfl (Nat.le_of_ble_eq_true rfl) dX7_copyFrom_30 (MWv.mono h (fun S3 h => ?_))
  exact r_ret ok rfl dX7_copyFrom_33 h
set_option maxRecDepth 10000 in
theorem s_X7_copyFrom_61_3_0 {l : Launch} {x : Cx} {g : Geo} {K : Mem → Prop} (ok : Ok x g shX m_X7_copyFrom) (S : Mem) (h : MWv l g shX m_X1_copyFrom [.ref (g.ad 62), .ref (g.ad 4)] S (fun S1 => MWv l g shX m_X2_copyFrom [.ref (g.ad 68), .ref (g.ad 10)] S1 (fun S2 => MWv l g shX m_X0_copyFrom [.ref (g.ad 73), .ref (g.ad 15)] S2 (fun S3 => K S3)))) : PW l x g shX m_X7_copyFrom (Qv x g shX K) 0 [(0, .ref (g.ad 61)), (1, .ref (g.ad 3))] [] S := by
  refine r_aload_n ok 0 dX7_copyFrom_0 rfl ?_
  refine r_getR ok 61 0 rfl rfl fo_X7_10 dX7_copyFrom_1 ?_
  refine r_aload_n ok 1 dX7_copyFrom_4 rfl ?_
  refine r_getR ok 3 0 rfl rfl fo_X7_10 dX7_copyFrom_5 ?_
  refine r_virtv ok (rest := []) (As := [.ref (g.ad 4)]) 62 _ k_X7_copyFrom_30 rfl rfl rfl rfl (Nat.le_of_ble_eq_true rfl) dX7_copyFrom_8 (MWv.mono h (fun S1 h => ?_))
  refine r_aload_n ok 0 dX7_copyFrom_11 rfl ?_
  refine r_getR ok 61 1 rfl rfl fo_X7_19 dX7_copyFrom_12 ?_
  refine r_aload_n ok 1 dX7_copyFrom_15 rfl ?_
  refine r_getR ok 3 1 rfl rfl fo_X7_19 dX7_copyFrom_16 ?_
  refine r_virtv ok (rest := []) (As := [.ref (g.ad 10)]) 68 _ k_X7_copyFrom_34 rfl rfl rfl rfl (Nat.le_of_ble_eq_true rfl) dX7_copyFrom_19 (MWv.mono h (fun S2 h => ?_))
  refine r_aload_n ok 0 dX7_copyFrom_22 rfl ?_
  refine r_getR ok 61 2 rfl rfl fo_X7_26 dX7_copyFrom_23 ?_
  refine r_aload_n ok 1 dX7_copyFrom_26 rfl ?_
  refine r_getR ok 3 2 rfl rfl fo_X7_26 dX7_copyFrom_27 ?_
  refine r_virtv ok (rest := []) (As := [.ref (g.ad 15)]) 73 _ k_X7_copyFrom_37 rfl rfl rfl rfl (Nat.le_of_ble_eq_true rfl) dX7_copyFrom_30 (MWv.mono h (fun S3 h => ?_))
  exact r_ret ok rfl dX7_copyFrom_33 h
