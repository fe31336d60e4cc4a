/-! segments, written by program: 12.segX3.lean.txt -/
set_option maxRecDepth 10000 in
theorem s_X11_say_0 {l : Launch} {x : Cx} {g : Geo} {K : Int32 → Mem → Prop} (ok : Ok x g shX m_X11_say) (v1 : Int32) (S : Mem) (h : ((v1 < (nI 33) → K (-2) S) ∧ (¬ v1 < (nI 33) → ((v1 ≤ (nI 126) → (((S 1 1) < (nI 14) → (vp_in (S 1 1) 14 ∧ K ((st2 (st2 S 2 (cl (S 1 1)) v1) 1 1 (((st2 S 2 (cl (S 1 1)) v1) 1 1) + (nI 1))) 1 1) (st2 (st2 S 2 (cl (S 1 1)) v1) 1 1 (((st2 S 2 (cl (S 1 1)) v1) 1 1) + (nI 1))))) ∧ (¬ (S 1 1) < (nI 14) → K (-4) S))) ∧ (¬ v1 ≤ (nI 126) → K (-2) S))))) : PW l x g shX m_X11_say (Qi x g shX K) 0 [(0, .ref (g.ad 0)), (1, .int v1)] [] S := by
  refine r_iload_n ok 1 dX11_say_0 rfl ?_
  refine r_bipush ok (nI 33) dX11_say_1 (by decide) ?_
  refine r_icmp_lt ok 12 dX11_say_3 (by decide) ⟨fun c => ?_, fun c => ?_⟩
  · have h := h.1 c
    refine r_bipush ok (-2) dX11_say_12 (by decide) ?_
    exact r_iret ok rfl dX11_say_14 h
  · have h := h.2 c
    refine r_iload_n ok 1 dX11_say_6 rfl ?_
    refine r_bipush ok (nI 126) dX11_say_7 (by decide) ?_
    refine r_icmp_le ok 15 dX11_say_9 (by decide) ⟨fun c => ?_, fun c => ?_⟩
    · have h := h.1 c
      refine r_aload_n ok 0 dX11_say_15 rfl ?_
      refine r_getR ok 0 0 rfl rfl fo_X11_10 dX11_say_16 ?_
      refine r_getI ok 1 1 rfl rfl fo_X11_98 dX11_say_19 ?_
      refine r_bipush ok (nI 14) dX11_say_22 (by decide) ?_
      refine r_icmp_lt ok 30 dX11_say_24 (by decide) ⟨fun c => ?_, fun c => ?_⟩
      · have h := h.1 c
        refine r_aload_n ok 0 dX11_say_30 rfl ?_
        refine r_getR ok 0 0 rfl rfl fo_X11_10 dX11_say_31 ?_
        refine r_getR ok 1 0 rfl rfl fo_X11_102 dX11_say_34 ?_
        refine r_aload_n ok 0 dX11_say_37 rfl ?_
        refine r_getR ok 0 0 rfl rfl fo_X11_10 dX11_say_38 ?_
        refine r_getI ok 1 1 rfl rfl fo_X11_98 dX11_say_41 ?_
        refine r_iload_n ok 1 dX11_say_44 rfl ?_
        refine r_iastore ok 2 rfl dX11_say_45 h.1 ?_
        have h := h.2
        refine r_aload_n ok 0 dX11_say_46 rfl ?_
        refine r_getR ok 0 0 rfl rfl fo_X11_10 dX11_say_47 ?_
        refine r_dup ok dX11_say_50 rfl ?_
        refine r_getI ok 1 1 rfl rfl fo_X11_98 dX11_say_51 ?_
        refine r_iconst ok (nI 1) dX11_say_54 (by decide) ?_
        refine r_iadd ok dX11_say_55 ?_
        refine r_put ok 1 1 rfl rfl po_X11_98 rfl rfl dX11_say_56 ?_
        refine r_aload_n ok 0 dX11_say_59 rfl ?_
        refine r_getR ok 0 0 rfl rfl fo_X11_10 dX11_say_60 ?_
        refine r_getI ok 1 1 rfl rfl fo_X11_98 dX11_say_63 ?_
        exact r_iret ok rfl dX11_say_66 h
      · have h := h.2 c
        refine r_bipush ok (-4) dX11_say_27 (by decide) ?_
        exact r_iret ok rfl dX11_say_29 h
    · have h := h.2 c
      refine r_bipush ok (-2) dX11_say_12 (by decide) ?_
      exact r_iret ok rfl dX11_say_14 h
set_option maxRecDepth 10000 in
theorem s_X11_wipe_0 {l : Launch} {x : Cx} {g : Geo} {K : Int32 → Mem → Prop} (ok : Ok x g shX m_X11_wipe) (S : Mem) (h : K (S 1 1) (st2 S 1 1 (nI 0))) : PW l x g shX m_X11_wipe (Qi x g shX K) 0 [(0, .ref (g.ad 0))] [] S := by
  refine r_aload_n ok 0 dX11_wipe_0 rfl ?_
  refine r_getR ok 0 0 rfl rfl fo_X11_10 dX11_wipe_1 ?_
  refine r_getI ok 1 1 rfl rfl fo_X11_98 dX11_wipe_4 ?_
  refine r_istore_n ok [(1, .int (S 1 1)), (0, .ref (g.ad 0))] dX11_wipe_7 (by decide) rfl ?_
  refine r_aload_n ok 1 dX11_wipe_8 rfl ?_
  refine r_getR ok 0 0 rfl rfl fo_X11_10 dX11_wipe_9 ?_
  refine r_iconst ok (nI 0) dX11_wipe_12 (by decide) ?_
  refine r_put ok 1 1 rfl rfl po_X11_98 rfl rfl dX11_wipe_13 ?_
  refine r_iload_n ok 0 dX11_wipe_16 rfl ?_
  exact r_iret ok rfl dX11_wipe_17 h
set_option maxRecDepth 10000 in
theorem s_X11_fault_0 {l : Launch} {x : Cx} {g : Geo} {K : Int32 → Mem → Prop} (ok : Ok x g shX m_X11_fault) (S : Mem) (h : MWi l g shX m_X5_findFault [.ref (g.ad 1)] S (fun r1 S1 => K r1 S1)) : PW l x g shX m_X11_fault (Qi x g shX K) 0 [(0, .ref (g.ad 0))] [] S := by
  refine r_aload_n ok 0 dX11_fault_0 rfl ?_
  refine r_getR ok 0 0 rfl rfl fo_X11_10 dX11_fault_1 ?_
  refine r_virti ok (rest := []) (As := []) 1 _ k_X11_fault_106 rfl rfl rfl rfl (Nat.le_of_ble_eq_true rfl) dX11_fault_4 (MWi.mono h (fun r1 S1 h => ?_))
  exact r_iret ok rfl dX11_fault_7 h
set_option maxRecDepth 10000 in
theorem s_X11_word_0 {l : Launch} {x : Cx} {g : Geo} {K : Int32 → Mem → Prop} (ok : Ok x g shX m_X11_word) (v1 : Int32) (S : Mem) (h : ((v1 < (nI 1) → K (-2) S) ∧ (¬ v1 < (nI 1) → ((v1 ≤ (nI 999) → MWi l g shX m_X5_findFault [.ref (g.ad 1)] S (fun r1 S1 => ((¬ r1 = (-6) → K (-5) S1) ∧ (r1 = (-6) → MWi l g shX m_X1_hasLettersOf [.ref (g.ad 4), .ref (g.ad 1)] S1 (fun r2 S2 => ((r2 = 0 → (((S2 4 5) < (nI 12) → MWv l g shX m_X1_add [.ref (g.ad 4), .ref (g.ad 1), .int v1] S2 (fun S3 => MWv l g shX m_X11_bookChanged [.ref (g.ad 0)] (st2 S3 1 1 (nI 0)) (fun S4 => K ((S4 4 5) - (nI 1)) S4))) ∧ (¬ (S2 4 5) < (nI 12) → K (-4) S2))) ∧ (¬ r2 = 0 → K (-5) S2))))))) ∧ (¬ v1 ≤ (nI 999) → K (-2) S))))) : PW l x g shX m_X11_word (Qi x g shX K) 0 [(0, .ref (g.ad 0)), (1, .int v1)] [] S := by
  refine r_iload_n ok 1 dX11_word_0 rfl ?_
  refine r_iconst ok (nI 1) dX11_word_1 (by decide) ?_
  refine r_icmp_lt ok 12 dX11_word_2 (by decide) ⟨fun c => ?_, fun c => ?_⟩
  · have h := h.1 c
    refine r_bipush ok (-2) dX11_word_12 (by decide) ?_
    exact r_iret ok rfl dX11_word_14 h
  · have h := h.2 c
    refine r_iload_n ok 1 dX11_word_5 rfl ?_
    refine r_sipush ok (nI 999) dX11_word_6 (by decide) ?_
    refine r_icmp_le ok 15 dX11_word_9 (by decide) ⟨fun c => ?_, fun c => ?_⟩
    · have h := h.1 c
      refine r_aload_n ok 0 dX11_word_15 rfl ?_
      refine r_getR ok 0 0 rfl rfl fo_X11_10 dX11_word_16 ?_
      refine r_virti ok (rest := []) (As := []) 1 _ k_X11_word_106 rfl rfl rfl rfl (Nat.le_of_ble_eq_true rfl) dX11_word_19 (MWi.mono h (fun r1 S1 h => ?_))
      refine r_bipush ok (-6) dX11_word_22 (by decide) ?_
      refine r_icmp_ne ok 44 dX11_word_24 (by decide) ⟨fun c => ?_, fun c => ?_⟩
      · have h := h.1 c
        refine r_bipush ok (-5) dX11_word_44 (by decide) ?_
        exact r_iret ok rfl dX11_word_46 h
      · have h := h.2 c
        refine r_aload_n ok 0 dX11_word_27 rfl ?_
        refine r_getR ok 0 1 rfl rfl fo_X11_19 dX11_word_28 ?_
        refine r_getR ok 3 0 rfl rfl fo_X11_25 dX11_word_31 ?_
        refine r_aload_n ok 0 dX11_word_34 rfl ?_
        refine r_getR ok 0 0 rfl rfl fo_X11_10 dX11_word_35 ?_
        refine r_virti ok (rest := []) (As := [.ref (g.ad 1)]) 4 _ k_X11_word_110 rfl rfl rfl rfl (Nat.le_of_ble_eq_true rfl) dX11_word_38 (MWi.mono h (fun r2 S2 h => ?_))
        refine r_if_eq ok 47 dX11_word_41 (by decide) ⟨fun c => ?_, fun c => ?_⟩
        · have h := h.1 c
          refine r_aload_n ok 0 dX11_word_47 rfl ?_
          refine r_getR ok 0 1 rfl rfl fo_X11_19 dX11_word_48 ?_
          refine r_getR ok 3 0 rfl rfl fo_X11_25 dX11_word_51 ?_
          refine r_getI ok 4 5 rfl rfl fo_X11_116 dX11_word_54 ?_
          refine r_bipush ok (nI 12) dX11_word_57 (by decide) ?_
          refine r_icmp_lt ok 65 dX11_word_59 (by decide) ⟨fun c => ?_, fun c => ?_⟩
          · have h := h.1 c
            refine r_aload_n ok 0 dX11_word_65 rfl ?_
            refine r_getR ok 0 1 rfl rfl fo_X11_19 dX11_word_66 ?_
            refine r_getR ok 3 0 rfl rfl fo_X11_25 dX11_word_69 ?_
            refine r_aload_n ok 0 dX11_word_72 rfl ?_
            refine r_getR ok 0 0 rfl rfl fo_X11_10 dX11_word_73 ?_
            refine r_iload_n ok 1 dX11_word_76 rfl ?_
            refine r_virtv ok (rest := []) (As := [.ref (g.ad 1), .int v1]) 4 _ k_X11_word_117 rfl rfl rfl rfl (Nat.le_of_ble_eq_true rfl) dX11_word_77 (MWv.mono h (fun S3 h => ?_))
            refine r_aload_n ok 0 dX11_word_80 rfl ?_
            refine r_getR ok 0 0 rfl rfl fo_X11_10 dX11_word_81 ?_
            refine r_iconst ok (nI 0) dX11_word_84 (by decide) ?_
            refine r_put ok 1 1 rfl rfl po_X11_98 rfl rfl dX11_word_85 ?_
            refine r_aload_n ok 0 dX11_word_88 rfl ?_
            refine r_virtv ok (rest := []) (As := []) 0 _ k_X11_word_121 rfl rfl rfl rfl (Nat.le_of_ble_eq_true rfl) dX11_word_89 (MWv.mono h (fun S4 h => ?_))
            refine r_aload_n ok 0 dX11_word_92 rfl ?_
            refine r_getR ok 0 1 rfl rfl fo_X11_19 dX11_word_93 ?_
            refine r_getR ok 3 0 rfl rfl fo_X11_25 dX11_word_96 ?_
            refine r_getI ok 4 5 rfl rfl fo_X11_116 dX11_word_99 ?_
            refine r_iconst ok (nI 1) dX11_word_102 (by decide) ?_
            refine r_isub ok dX11_word_103 ?_
            exact r_iret ok rfl dX11_word_104 h
          · have h := h.2 c
            refine r_bipush ok (-4) dX11_word_62 (by decide) ?_
            exact r_iret ok rfl dX11_word_64 h
        · have h := h.2 c
          refine r_bipush ok (-5) dX11_word_44 (by decide) ?_
          exact r_iret ok rfl dX11_word_46 h
    · have h := h.2 c
      refine r_bipush ok (-2) dX11_word_12 (by decide) ?_
      exact r_iret ok rfl dX11_word_14 h
set_option maxRecDepth 10000 in
theorem s_X11_about_0 {l : Launch} {x : Cx} {g : Geo} {K : Int32 → Mem → Prop} (ok : Ok x g shX m_X11_about) (v1 : Int32) (v2 : Int32) (S : Mem) (h : MWi l g shX m_X1_holds [.ref (g.ad 4), .int v1] S (fun r1 S1 => ((¬ r1 = 0 → ((v2 < (nI 10) → PW l x g shX m_X11_about (Qi x g shX K) 44 [(0, .ref (g.ad 0)), (1, .int v1), (2, .int v2)] [] S1) ∧ (¬ v2 < (nI 10) → (((nI 15) ≤ v2 → PW l x g shX m_X11_about (Qi x g shX K) 44 [(0, .ref (g.ad 0)), (1, .int v1), (2, .int v2)] [] S1) ∧ (¬ (nI 15) ≤ v2 → MWi l g shX m_X1_signOrNone [.ref (g.ad 4), .int v1, .int (v2 - (nI 10))] S1 (fun r2 S2 => K r2 S2)))))) ∧ (r1 = 0 → K (-1) S1)))) : PW l x g shX m_X11_about (Qi x g shX K) 0 [(0, .ref (g.ad 0)), (1, .int v1), (2, .int v2)] [] S := by
  refine r_aload_n ok 0 dX11_about_0 rfl ?_
  refine r_getR ok 0 1 rfl rfl fo_X11_19 dX11_about_1 ?_
  refine r_getR ok 3 0 rfl rfl fo_X11_25 dX11_about_4 ?_
  refine r_iload_n ok 1 dX11_about_7 rfl ?_
  refine r_virti ok (rest := []) (As := [.int v1]) 4 _ k_X11_about_124 rfl rfl rfl rfl (Nat.le_of_ble_eq_true rfl) dX11_about_8 (MWi.mono h (fun r1 S1 h => ?_))
  refine r_if_ne ok 16 dX11_about_11 (by decide) ⟨fun c => ?_, fun c => ?_⟩
  · have h := h.1 c
    refine r_iload_n ok 2 dX11_about_16 rfl ?_
    refine r_bipush ok (nI 10) dX11_about_17 (by decide) ?_
    refine r_icmp_lt ok 44 dX11_about_19 (by decide) ⟨fun c => ?_, fun c => ?_⟩
    · have h := h.1 c
      exact r_sub [0, 1, 2] _ rfl h
    · have h := h.2 c
      refine r_iload_n ok 2 dX11_about_22 rfl ?_
      refine r_bipush ok (nI 15) dX11_about_23 (by decide) ?_
      refine r_icmp_ge ok 44 dX11_about_25 (by decide) ⟨fun c => ?_, fun c => ?_⟩
      · have h := h.1 c
        exact r_sub [0, 1, 2] _ rfl h
      · have h := h.2 c
        refine r_aload_n ok 0 dX11_about_28 rfl ?_
        refine r_getR ok 0 1 rfl rfl fo_X11_19 dX11_about_29 ?_
        refine r_getR ok 3 0 rfl rfl fo_X11_25 dX11_about_32 ?_
        refine r_iload_n ok 1 dX11_about_35 rfl ?_
        refine r_iload_n ok 2 dX11_about_36 rfl ?_
        refine r_bipush ok (nI 10) dX11_about_37 (by decide) ?_
        refine r_isub ok dX11_about_39 ?_
        refine r_virti ok (rest := []) (As := [.int v1, .int (v2 - (nI 10))]) 4 _ k_X11_about_128 rfl rfl rfl rfl (Nat.le_of_ble_eq_true rfl) dX11_about_40 (MWi.mono h (fun r2 S2 h => ?_))
        exact r_iret ok rfl dX11_about_43 h
  · have h := h.2 c
    refine r_iconst ok (-1) dX11_about_14 (by decide) ?_
    exact r_iret ok rfl dX11_about_15 h
set_option maxRecDepth 10000 in
theorem s_X11_about_44 {l : Launch} {x : Cx} {g : Geo} {K : Int32 → Mem → Prop} (ok : Ok x g shX m_X11_about) (v1 : Int32) (v2 : Int32) (S : Mem) (h : ((v2 < (nI 20) → PW l x g shX m_X11_about (Qi x g shX K) 72 [(0, .ref (g.ad 0)), (1, .int v1), (2, .int v2)] [] S) ∧ (¬ v2 < (nI 20) → (((nI 25) ≤ v2 → PW l x g shX m_X11_about (Qi x g shX K) 72 [(0, .ref (g.ad 0)), (1, .int v1), (2, .int v2)] [] S) ∧ (¬ (nI 25) ≤ v2 → MWi l g shX m_X1_soundOrNone [.ref (g.ad 4), .int v1, .int (v2 - (nI 20))] S (fun r1 S1 => K r1 S1)))))) : PW l x g shX m_X11_about (Qi x g shX K) 44 [(0, .ref (g.ad 0)), (1, .int v1), (2, .int v2)] [] S := by
  refine r_iload_n ok 2 dX11_about_44 rfl ?_
  refine r_bipush ok (nI 20) dX11_about_45 (by decide) ?_
  refine r_icmp_lt ok 72 dX11_about_47 (by decide) ⟨fun c => ?_, fun c => ?_⟩
  · have h := h.1 c
    exact r_sub [0, 1, 2] _ rfl h
  · have h := h.2 c
    refine r_iload_n ok 2 dX11_about_50 rfl ?_
    refine r_bipush ok (nI 25) dX11_about_51 (by decide) ?_
    refine r_icmp_ge ok 72 dX11_about_53 (by decide) ⟨fun c => ?_, fun c => ?_⟩
    · have h := h.1 c
      exact r_sub [0, 1, 2] _ rfl h
    · have h := h.2 c
      refine r_aload_n ok 0 dX11_about_56 rfl ?_
      refine r_getR ok 0 1 rfl rfl fo_X11_19 dX11_about_57 ?_
      refine r_getR ok 3 0 rfl rfl fo_X11_25 dX11_about_60 ?_
      refine r_iload_n ok 1 dX11_about_63 rfl ?_
      refine r_iload_n ok 2 dX11_about_64 rfl ?_
      refine r_bipush ok (nI 20) dX11_about_65 (by decide) ?_
      refine r_isub ok dX11_about_67 ?_
      refine r_virti ok (rest := []) (As := [.int v1, .int (v2 - (nI 20))]) 4 _ k_X11_about_132 rfl rfl rfl rfl (Nat.le_of_ble_eq_true rfl) dX11_about_68 (MWi.mono h (fun r1 S1 h => ?_))
      exact r_iret ok rfl dX11_about_71 h
set_option maxRecDepth 10000 in
theorem s_X11_about_72 {l : Launch} {x : Cx} {g : Geo} {K : Int32 → Mem → Prop} (ok : Ok x g shX m_X11_about) (v1 : Int32) (v2 : Int32) (S : Mem) (h : ((v2 = nI 0 → (vp_in v1 12 ∧ K (S 5 (cl v1)) S)) ∧ (v2 = nI 1 → (vp_in v1 12 ∧ K (S 6 (cl v1)) S)) ∧ (v2 = nI 2 → (vp_in v1 12 ∧ K (S 7 (cl v1)) S)) ∧ (v2 = nI 3 → MWi l g shX m_X8_isRegular [.ref (g.ad 18), .int v1] S (fun r1 S1 => ((r1 = 0 → K (nI 0) S1) ∧ (¬ r1 = 0 → K (nI 1) S1)))) ∧ ((v2.toInt < 0 ∨ 3 < v2.toInt) → K (-2) S))) : PW l x g shX m_X11_about (Qi x g shX K) 72 [(0, .ref (g.ad 0)), (1, .int v1), (2, .int v2)] [] S := by
  refine r_iload_n ok 2 dX11_about_72 rfl ?_
  rcases sw3 v2 with e | e | e | e | e
  · have h := h.1 e
    rw [e]
    refine r_tableIn ok 104 dX11_about_73 (by decide) (by decide) rfl (by decide) ?_
    refine r_aload_n ok 0 dX11_about_104 rfl ?_
    refine r_getR ok 0 1 rfl rfl fo_X11_19 dX11_about_105 ?_
    refine r_getR ok 3 0 rfl rfl fo_X11_25 dX11_about_108 ?_
    refine r_getR ok 4 0 rfl rfl fo_X11_135 dX11_about_111 ?_
    refine r_iload_n ok 1 dX11_about_114 rfl ?_
    refine r_iaload ok 5 rfl dX11_about_115 h.1 ?_
    have h := h.2
    exact r_iret ok rfl dX11_about_116 h
  · have h := h.2.1 e
    rw [e]
    refine r_tableIn ok 117 dX11_about_73 (by decide) (by decide) rfl (by decide) ?_
    refine r_aload_n ok 0 dX11_about_117 rfl ?_
    refine r_getR ok 0 1 rfl rfl fo_X11_19 dX11_about_118 ?_
    refine r_getR ok 3 0 rfl rfl fo_X11_25 dX11_about_121 ?_
    refine r_getR ok 4 1 rfl rfl fo_X11_138 dX11_about_124 ?_
    refine r_iload_n ok 1 dX11_about_127 rfl ?_
    refine r_iaload ok 6 rfl dX11_about_128 h.1 ?_
    have h := h.2
    exact r_iret ok rfl dX11_about_129 h
  · have h := h.2.2.1 e
    rw [e]
    refine r_tableIn ok 130 dX11_about_73 (by decide) (by decide) rfl (by decide) ?_
    refine r_aload_n ok 0 dX11_about_130 rfl ?_
    refine r_getR ok 0 1 rfl rfl fo_X11_19 dX11_about_131 ?_
    refine r_getR ok 3 0 rfl rfl fo_X11_25 dX11_about_134 ?_
    refine r_getR ok 4 2 rfl rfl fo_X11_141 dX11_about_137 ?_
    refine r_iload_n ok 1 dX11_about_140 rfl ?_
    refine r_iaload ok 7 rfl dX11_about_141 h.1 ?_
    have h := h.2
    exact r_iret ok rfl dX11_about_142 h
  · have h := h.2.2.2.1 e
    rw [e]
    refine r_tableIn ok 143 dX11_about_73 (by decide) (by decide) rfl (by decide) ?_
    refine r_aload_n ok 0 dX11_about_143 rfl ?_
    refine r_getR ok 0 2 rfl rfl fo_X11_32 dX11_about_144 ?_
    refine r_iload_n ok 1 dX11_about_147 rfl ?_
    refine r_virti ok (rest := []) (As := [.int v1]) 18 _ k_X11_about_144 rfl rfl rfl rfl (Nat.le_of_ble_eq_true rfl) dX11_about_148 (MWi.mono h (fun r1 S1 h => ?_))
    refine r_if_eq ok 158 dX11_about_151 (by decide) ⟨fun c => ?_, fun c => ?_⟩
    · have h := h.1 c
      refine r_iconst ok (nI 0) dX11_about_158 (by decide) ?_
      exact r_iret ok rfl dX11_about_159 h
    · have h := h.2 c
      refine r_iconst ok (nI 1) dX11_about_154 (by decide) ?_
      refine r_goto ok 159 dX11_about_155 (by decide) ?_
      exact r_iret ok rfl dX11_about_159 h
  · have h := h.2.2.2.2 e
    refine r_tableOut ok 160 dX11_about_73 e (by decide) ?_
    refine r_bipush ok (-2) dX11_about_160 (by decide) ?_
    exact r_iret ok rfl dX11_about_162 h
set_option maxRecDepth 10000 in
theorem s_X11_often_0 {l : Launch} {x : Cx} {g : Geo} {K : Int32 → Mem → Prop} (ok : Ok x g shX m_X11_often) (v1 : Int32) (v2 : Int32) (S : Mem) (h : MWi l g shX m_X1_holds [.ref (g.ad 4), .int v1] S (fun r1 S1 => ((¬ r1 = 0 → ((v2 < (nI 1) → K (-2) S1) ∧ (¬ v2 < (nI 1) → ((v2 ≤ (nI 999) → (vp_in v1 12 ∧ (vp_in v1 12 ∧ MWv l g shX m_X11_bookChanged [.ref (g.ad 0)] (st2 S1 6 (cl v1) v2) (fun S2 => K (S1 6 (cl v1)) S2)))) ∧ (¬ v2 ≤ (nI 999) → K (-2) S1))))) ∧ (r1 = 0 → K (-1) S1)))) : PW l x g shX m_X11_often (Qi x g shX K) 0 [(0, .ref (g.ad 0)), (1, .int v1), (2, .int v2)] [] S := by
  refine r_aload_n ok 0 dX11_often_0 rfl ?_
  refine r_getR ok 0 1 rfl rfl fo_X11_19 dX11_often_1 ?_
  refine r_getR ok 3 0 rfl rfl fo_X11_25 dX11_often_4 ?_
  refine r_iload_n ok 1 dX11_often_7 rfl ?_
  refine r_virti ok (rest := []) (As := [.int v1]) 4 _ k_X11_often_124 rfl rfl rfl rfl (Nat.le_of_ble_eq_true rfl) dX11_often_8 (MWi.mono h (fun r1 S1 h => ?_))
  refine r_if_ne ok 16 dX11_often_11 (by decide) ⟨fun c => ?_, fun c => ?_⟩
  · have h := h.1 c
    refine r_iload_n ok 2 dX11_often_16 rfl ?_
    refine r_iconst ok (nI 1) dX11_often_17 (by decide) ?_
    refine r_icmp_lt ok 28 dX11_often_18 (by decide) ⟨fun c => ?_, fun c => ?_⟩
    · have h := h.1 c
      refine r_bipush ok (-2) dX11_often_28 (by decide) ?_
      exact r_iret ok rfl dX11_often_30 h
    · have h := h.2 c
      refine r_iload_n ok 2 dX11_often_21 rfl ?_
      refine r_sipush ok (nI 999) dX11_often_22 (by decide) ?_
      refine r_icmp_le ok 31 dX11_often_25 (by decide) ⟨fun c => ?_, fun c => ?_⟩
      · have h := h.1 c
        refine r_aload_n ok 0 dX11_often_31 rfl ?_
        refine r_getR ok 0 1 rfl rfl fo_X11_19 dX11_often_32 ?_
        refine r_getR ok 3 0 rfl rfl fo_X11_25 dX11_often_35 ?_
        refine r_getR ok 4 1 rfl rfl fo_X11_138 dX11_often_38 ?_
        refine r_iload_n ok 1 dX11_often_41 rfl ?_
        refine r_iaload ok 6 rfl dX11_often_42 h.1 ?_
        have h := h.2
        refine r_istore_n ok [(3, .int (S1 6 (cl v1))), (0, .ref (g.ad 0)), (1, .int v1), (2, .int v2)] dX11_often_43 (by decide) rfl ?_
        refine r_aload_n ok 1 dX11_often_44 rfl ?_
        refine r_getR ok 0 1 rfl rfl fo_X11_19 dX11_often_45 ?_
        refine r_getR ok 3 0 rfl rfl fo_X11_25 dX11_often_48 ?_
        refine r_getR ok 4 1 rfl rfl fo_X11_138 dX11_often_51 ?_
        refine r_iload_n ok 2 dX11_often_54 rfl ?_
        refine r_iload_n ok 3 dX11_often_55 rfl ?_
        refine r_iastore ok 6 rfl dX11_often_56 h.1 ?_
        have h := h.2
        refine r_aload_n ok 1 dX11_often_57 rfl ?_
        refine r_virtv ok (rest := []) (As := []) 0 _ k_X11_often_121 rfl rfl rfl rfl (Nat.le_of_ble_eq_true rfl) dX11_often_58 (MWv.mono h (fun S2 h => ?_))
        refine r_iload_n ok 0 dX11_often_61 rfl ?_
        exact r_iret ok rfl dX11_often_62 h
      · have h := h.2 c
        refine r_bipush ok (-2) dX11_often_28 (by decide) ?_
        exact r_iret ok rfl dX11_often_30 h
  · have h := h.2 c
    refine r_iconst ok (-1) dX11_often_14 (by decide) ?_
    exact r_iret ok rfl dX11_often_15 h
set_option maxRecDepth 10000 in
theorem s_X11_has_0 {l : Launch} {x : Cx} {g : Geo} {K : Int64 → Mem → Prop} (ok : Ok x g shX m_X11_has) (v1 : Int32) (v2 : Int32) (v3 : Int32) (S : Mem) (h : MWi l g shX m_X11_isSign [.int v1] S (fun r1 S1 => ((¬ r1 = 0 → ((v2 < 0 → K (-1000000000000000002) S1) ∧ (¬ v2 < 0 → (((nI 10) ≤ v2 → K (-1000000000000000002) S1) ∧ (¬ (nI 10) ≤ v2 → MWi l g shX m_X11_isPart [.int v3] S1 (fun r2 S2 => ((¬ r2 = 0 → (vp_in ((v1 * (nI 10)) + v2) 100 ∧ (vp_in v1 10 ∧ MWl l g shX m_X11_fractionPart [.int (S2 19 (cl ((v1 * (nI 10)) + v2))), .int (S2 20 (cl v1)), .int v3] S2 (fun r3 S3 => K r3 S3)))) ∧ (r2 = 0 → K (-1000000000000000002) S2)))))))) ∧ (r1 = 0 → K (-1000000000000000001) S1)))) : PW l x g shX m_X11_has (Ql x g shX K) 0 [(0, .ref (g.ad 0)), (1, .int v1), (2, .int v2), (3, .int v3)] [] S := by
  refine r_iload_n ok 1 dX11_has_0 rfl ?_
  refine r_stati ok (rest := []) (As := [.int v1]) _ k_X11_has_147 rfl rfl (Nat.le_of_ble_eq_true rfl) dX11_has_1 (MWi.mono h (fun r1 S1 h => ?_))
  refine r_if_ne ok 11 dX11_has_4 (by decide) ⟨fun c => ?_, fun c => ?_⟩
  · have h := h.1 c
    refine r_iload_n ok 2 dX11_has_11 rfl ?_
    refine r_if_lt ok 28 dX11_has_12 (by decide) ⟨fun c => ?_, fun c => ?_⟩
    · have h := h.1 c
      refine r_ldc2 ok (-1000000000000000002) dX11_has_28 (gt_in (List.mem_of_getElem? (i := 571) (by decide +kernel)) rfl) ?_
      exact r_lret ok rfl dX11_has_31 h
    · have h := h.2 c
      refine r_iload_n ok 2 dX11_has_15 rfl ?_
      refine r_bipush ok (nI 10) dX11_has_16 (by decide) ?_
      refine r_icmp_ge ok 28 dX11_has_18 (by decide) ⟨fun c => ?_, fun c => ?_⟩
      · have h := h.1 c
        refine r_ldc2 ok (-1000000000000000002) dX11_has_28 (gt_in (List.mem_of_getElem? (i := 571) (by decide +kernel)) rfl) ?_
        exact r_lret ok rfl dX11_has_31 h
      · have h := h.2 c
        refine r_iload_n ok 3 dX11_has_21 rfl ?_
        refine r_stati ok (rest := []) (As := [.int v3]) _ k_X11_has_152 rfl rfl (Nat.le_of_ble_eq_true rfl) dX11_has_22 (MWi.mono h (fun r2 S2 h => ?_))
        refine r_if_ne ok 32 dX11_has_25 (by decide) ⟨fun c => ?_, fun c => ?_⟩
        · have h := h.1 c
          refine r_aload_n ok 0 dX11_has_32 rfl ?_
          refine r_getR ok 0 2 rfl rfl fo_X11_32 dX11_has_33 ?_
          refine r_getR ok 18 1 rfl rfl fo_X11_157 dX11_has_36 ?_
          refine r_iload_n ok 1 dX11_has_39 rfl ?_
          refine r_bipush ok (nI 10) dX11_has_40 (by decide) ?_
          refine r_imul ok dX11_has_42 ?_
          refine r_iload_n ok 2 dX11_has_43 rfl ?_
          refine r_iadd ok dX11_has_44 ?_
          refine r_iaload ok 19 rfl dX11_has_45 h.1 ?_
          have h := h.2
          refine r_aload_n ok 0 dX11_has_46 rfl ?_
          refine r_getR ok 0 2 rfl rfl fo_X11_32 dX11_has_47 ?_
          refine r_getR ok 18 2 rfl rfl fo_X11_160 dX11_has_50 ?_
          refine r_iload_n ok 1 dX11_has_53 rfl ?_
          refine r_iaload ok 20 rfl dX11_has_54 h.1 ?_
          have h := h.2
          refine r_iload_n ok 3 dX11_has_55 rfl ?_
          refine r_statl ok (rest := []) (As := [.int (S2 19 (cl ((v1 * (nI 10)) + v2))), .int (S2 20 (cl v1)), .int v3]) _ k_X11_has_163 rfl rfl (Nat.le_of_ble_eq_true rfl) dX11_has_56 (MWl.mono h (fun r3 S3 h => ?_))
          exact r_lret ok rfl dX11_has_59 h
        · have h := h.2 c
          refine r_ldc2 ok (-1000000000000000002) dX11_has_28 (gt_in (List.mem_of_getElem? (i := 571) (by decide +kernel)) rfl) ?_
          exact r_lret ok rfl dX11_has_31 h
  · have h := h.2 c
    refine r_ldc2 ok (-1000000000000000001) dX11_has_7 (gt_in (List.mem_of_getElem? (i := 567) (by decide +kernel)) rfl) ?_
    exact r_lret ok rfl dX11_has_10 h
set_option maxRecDepth 10000 in
theorem s_X11_common_0 {l : Launch} {x : Cx} {g : Geo} {K : Int32 → Mem → Prop} (ok : Ok x g shX m_X11_common) (v1 : Int32) (S : Mem) (h : MWi l g shX m_X11_isSign [.int v1] S (fun r1 S1 => ((r1 = 0 → K (-1) S1) ∧ (¬ r1 = 0 → (vp_in v1 10 ∧ K (S1 21 (cl v1)) S1))))) : PW l x g shX m_X11_common (Qi x g shX K) 0 [(0, .ref (g.ad 0)), (1, .int v1)] [] S := by
  refine r_iload_n ok 1 dX11_common_0 rfl ?_
  refine r_stati ok (rest := []) (As := [.int v1]) _ k_X11_common_147 rfl rfl (Nat.le_of_ble_eq_true rfl) dX11_common_1 (MWi.mono h (fun r1 S1 h => ?_))
  refine r_if_eq ok 19 dX11_common_4 (by decide) ⟨fun c => ?_, fun c => ?_⟩
  · have h := h.1 c
    refine r_iconst ok (-1) dX11_common_19 (by decide) ?_
    exact r_iret ok rfl dX11_common_20 h
  · have h := h.2 c
    refine r_aload_n ok 0 dX11_common_7 rfl ?_
    refine r_getR ok 0 2 rfl rfl fo_X11_32 dX11_common_8 ?_
    refine r_getR ok 18 3 rfl rfl fo_X11_167 dX11_common_11 ?_
    refine r_iload_n ok 1 dX11_common_14 rfl ?_
    refine r_iaload ok 21 rfl dX11_common_15 h.1 ?_
    have h := h.2
    refine r_goto ok 20 dX11_common_16 (by decide) ?_
    exact r_iret ok rfl dX11_common_20 h
set_option maxRecDepth 10000 in
theorem s_X11_ruled_0 {l : Launch} {x : Cx} {g : Geo} {K : Int64 → Mem → Prop} (ok : Ok x g shX m_X11_ruled) (v1 : Int32) (S : Mem) (h : MWi l g shX m_X11_isPart [.int v1] S (fun r1 S1 => ((¬ r1 = 0 → MWi l g shX m_X8_placesByRule [.ref (g.ad 18)] S1 (fun r2 S2 => MWi l g shX m_X8_placesInAll [.ref (g.ad 18)] S2 (fun r3 S3 => MWl l g shX m_X11_fractionPart [.int r2, .int r3, .int v1] S3 (fun r4 S4 => K r4 S4)))) ∧ (r1 = 0 → K (-1000000000000000002) S1)))) : PW l x g shX m_X11_ruled (Ql x g shX K) 0 [(0, .ref (g.ad 0)), (1, .int v1)] [] S := by
  refine r_iload_n ok 1 dX11_ruled_0 rfl ?_
  refine r_stati ok (rest := []) (As := [.int v1]) _ k_X11_ruled_152 rfl rfl (Nat.le_of_ble_eq_true rfl) dX11_ruled_1 (MWi.mono h (fun r1 S1 h => ?_))
  refine r_if_ne ok 11 dX11_ruled_4 (by decide) ⟨fun c => ?_, fun c => ?_⟩
  · have h := h.1 c
    refine r_aload_n ok 0 dX11_ruled_11 rfl ?_
    refine r_getR ok 0 2 rfl rfl fo_X11_32 dX11_ruled_12 ?_
    refine r_virti ok (rest := []) (As := []) 18 _ k_X11_ruled_170 rfl rfl rfl rfl (Nat.le_of_ble_eq_true rfl) dX11_ruled_15 (MWi.mono h (fun r2 S2 h => ?_))
    refine r_aload_n ok 0 dX11_ruled_18 rfl ?_
    refine r_getR ok 0 2 rfl rfl fo_X11_32 dX11_ruled_19 ?_
    refine r_virti ok (rest := [.int r2]) (As := []) 18 _ k_X11_ruled_173 rfl rfl rfl rfl (Nat.le_of_ble_eq_true rfl) dX11_ruled_22 (MWi.mono h (fun r3 S3 h => ?_))
    refine r_iload_n ok 1 dX11_ruled_25 rfl ?_
    refine r_statl ok (rest := []) (As := [.int r2, .int r3, .int v1]) _ k_X11_ruled_163 rfl rfl (Nat.le_of_ble_eq_true rfl) dX11_ruled_26 (MWl.mono h (fun r4 S4 h => ?_))
    exact r_lret ok rfl dX11_ruled_29 h
  · have h := h.2 c
    refine r_ldc2 ok (-1000000000000000002) dX11_ruled_7 (gt_in (List.mem_of_getElem? (i := 571) (by decide +kernel)) rfl) ?_
    exact r_lret ok rfl dX11_ruled_10 h
set_option maxRecDepth 10000 in
theorem s_X11_knows_0 {l : Launch} {x : Cx} {g : Geo} {K : Int32 → Mem → Prop} (ok : Ok x g shX m_X11_knows) (v1 : Int32) (v2 : Int32) (v3 : Int32) (S : Mem) (h : MWi l g shX m_X11_isChild [.int v1] S (fun r1 S1 => ((¬ r1 = 0 → ((v2 = 0 → ((¬ v2 = 0 → MWi l g shX m_X1_isWordSet [.ref (g.ad 4), .int v3] S1 (fun r2 S2 => ((¬ r2 = 0 → ((¬ v2 = 0 → (vp_in v1 4 ∧ (vp_in v1 4 ∧ MWv l g shX m_X11_childChanged [.ref (g.ad 0), .int v1] (st2 S2 12 (cl v1) v3) (fun S3 => K (S2 12 (cl v1)) S3)))) ∧ (v2 = 0 → (vp_in v1 4 ∧ (vp_in v1 4 ∧ MWv l g shX m_X11_childChanged [.ref (g.ad 0), .int v1] (st2 S2 11 (cl v1) v3) (fun S4 => K (S2 11 (cl v1)) S4)))))) ∧ (r2 = 0 → K (-2) S2)))) ∧ (v2 = 0 → MWi l g shX m_X11_isSignSet [.int v3] S1 (fun r5 S5 => ((¬ r5 = 0 → ((¬ v2 = 0 → (vp_in v1 4 ∧ (vp_in v1 4 ∧ MWv l g shX m_X11_childChanged [.ref (g.ad 0), .int v1] (st2 S5 12 (cl v1) v3) (fun S6 => K (S5 12 (cl v1)) S6)))) ∧ (v2 = 0 → (vp_in v1 4 ∧ (vp_in v1 4 ∧ MWv l g shX m_X11_childChanged [.ref (g.ad 0), .int v1] (st2 S5 11 (cl v1) v3) (fun S7 => K (S5 11 (cl v1)) S7)))))) ∧ (r5 = 0 → K (-2) S5)))))) ∧ (¬ v2 = 0 → ((v2 = (nI 1) → ((¬ v2 = 0 → MWi l g shX m_X1_isWordSet [.ref (g.ad 4), .int v3] S1 (fun r8 S8 => ((¬ r8 = 0 → ((¬ v2 = 0 → (vp_in v1 4 ∧ (vp_in v1 4 ∧ MWv l g shX m_X11_childChanged [.ref (g.ad 0), .int v1] (st2 S8 12 (cl v1) v3) (fun S9 => K (S8 12 (cl v1)) S9)))) ∧ (v2 = 0 → (vp_in v1 4 ∧ (vp_in v1 4 ∧ MWv l g shX m_X11_childChanged [.ref (g.ad 0), .int v1] (st2 S8 11 (cl v1) v3) (fun S10 => K (S8 11 (cl v1)) S10)))))) ∧ (r8 = 0 → K (-2) S8)))) ∧ (v2 = 0 → MWi l g shX m_X11_isSignSet [.int v3] S1 (fun r11 S11 => ((¬ r11 = 0 → ((¬ v2 = 0 → (vp_in v1 4 ∧ (vp_in v1 4 ∧ MWv l g shX m_X11_childChanged [.ref (g.ad 0), .int v1] (st2 S11 12 (cl v1) v3) (fun S12 => K (S11 12 (cl v1)) S12)))) ∧ (v2 = 0 → (vp_in v1 4 ∧ (vp_in v1 4 ∧ MWv l g shX m_X11_childChanged [.ref (g.ad 0), .int v1] (st2 S11 11 (cl v1) v3) (fun S13 => K (S11 11 (cl v1)) S13)))))) ∧ (r11 = 0 → K (-2) S11)))))) ∧ (¬ v2 = (nI 1) → K (-2) S1))))) ∧ (r1 = 0 → K (-1) S1)))) : PW l x g shX m_X11_knows (Qi x g shX K) 0 [(0, .ref (g.ad 0)), (1, .int v1), (2, .int v2), (3, .int v3)] [] S := by
  refine r_iload_n ok 1 dX11_knows_0 rfl ?_
  refine r_stati ok (rest := []) (As := [.int v1]) _ k_X11_knows_176 rfl rfl (Nat.le_of_ble_eq_true rfl) dX11_knows_1 (MWi.mono h (fun r1 S1 h => ?_))
  refine r_if_ne ok 9 dX11_knows_4 (by decide) ⟨fun c => ?_, fun c => ?_⟩
  · have h := h.1 c
    refine r_iload_n ok 2 dX11_knows_9 rfl ?_
    refine r_if_eq ok 21 dX11_knows_10 (by decide) ⟨fun c => ?_, fun c => ?_⟩
    · have h := h.1 c
      refine r_iload_n ok 2 dX11_knows_21 rfl ?_
      refine r_if_ne ok 35 dX11_knows_22 (by decide) ⟨fun c => ?_, fun c => ?_⟩
      · have h := h.1 c
        refine r_aload_n ok 0 dX11_knows_35 rfl ?_
        refine r_getR ok 0 1 rfl rfl fo_X11_19 dX11_knows_36 ?_
        refine r_getR ok 3 0 rfl rfl fo_X11_25 dX11_knows_39 ?_
        refine r_iload_n ok 3 dX11_knows_42 rfl ?_
        refine r_virti ok (rest := []) (As := [.int v3]) 4 _ k_X11_knows_182 rfl rfl rfl rfl (Nat.le_of_ble_eq_true rfl) dX11_knows_43 (MWi.mono h (fun r2 S2 h => ?_))
        refine r_if_ne ok 52 dX11_knows_46 (by decide) ⟨fun c => ?_, fun c => ?_⟩
        · have h := h.1 c
          refine r_iload_n ok 2 dX11_knows_52 rfl ?_
          refine r_if_ne ok 69 dX11_knows_53 (by decide) ⟨fun c => ?_, fun c => ?_⟩
          · have h := h.1 c
            refine r_aload_n ok 0 dX11_knows_69 rfl ?_
            refine r_getR ok 0 1 rfl rfl fo_X11_19 dX11_knows_70 ?_
            refine r_getR ok 3 1 rfl rfl fo_X11_38 dX11_knows_73 ?_
            refine r_getR ok 10 1 rfl rfl fo_X11_190 dX11_knows_76 ?_
            refine r_astore ok [(4, .ref (g.ad 12)), (0, .ref (g.ad 0)), (1, .int v1), (2, .int v2), (3, .int v3)] dX11_knows_79 (by decide) rfl ?_
            refine r_aload ok 0 dX11_knows_81 rfl ?_
            refine r_iload_n ok 2 dX11_knows_83 rfl ?_
            refine r_iaload ok 12 rfl dX11_knows_84 h.1 ?_
            have h := h.2
            refine r_istore ok [(5, .int (S2 12 (cl v1))), (4, .ref (g.ad 12)), (0, .ref (g.ad 0)), (1, .int v1), (2, .int v2), (3, .int v3)] dX11_knows_85 (by decide) rfl ?_
            refine r_aload ok 1 dX11_knows_87 rfl ?_
            refine r_iload_n ok 3 dX11_knows_89 rfl ?_
            refine r_iload_n ok 5 dX11_knows_90 rfl ?_
            refine r_iastore ok 12 rfl dX11_knows_91 h.1 ?_
            have h := h.2
            refine r_aload_n ok 2 dX11_knows_92 rfl ?_
            refine r_iload_n ok 3 dX11_knows_93 rfl ?_
            refine r_virtv ok (rest := []) (As := [.int v1]) 0 _ k_X11_knows_193 rfl rfl rfl rfl (Nat.le_of_ble_eq_true rfl) dX11_knows_94 (MWv.mono h (fun S3 h => ?_))
            refine r_iload ok 0 dX11_knows_97 rfl ?_
            exact r_iret ok rfl dX11_knows_99 h
          · have h := h.2 c
            refine r_aload_n ok 0 dX11_knows_56 rfl ?_
            refine r_getR ok 0 1 rfl rfl fo_X11_19 dX11_knows_57 ?_
            refine r_getR ok 3 1 rfl rfl fo_X11_38 dX11_knows_60 ?_
            refine r_getR ok 10 0 rfl rfl fo_X11_185 dX11_knows_63 ?_
            refine r_goto ok 79 dX11_knows_66 (by decide) ?_
            refine r_astore ok [(4, .ref (g.ad 11)), (0, .ref (g.ad 0)), (1, .int v1), (2, .int v2), (3, .int v3)] dX11_knows_79 (by decide) rfl ?_
            refine r_aload ok 0 dX11_knows_81 rfl ?_
            refine r_iload_n ok 2 dX11_knows_83 rfl ?_
            refine r_iaload ok 11 rfl dX11_knows_84 h.1 ?_
            have h := h.2
            refine r_istore ok [(5, .int (S2 11 (cl v1))), (4, .ref (g.ad 11)), (0, .ref (g.ad 0)), (1, .int v1), (2, .int v2), (3, .int v3)] dX11_knows_85 (by decide) rfl ?_
            refine r_aload ok 1 dX11_knows_87 rfl ?_
            refine r_iload_n ok 3 dX11_knows_89 rfl ?_
            refine r_iload_n ok 5 dX11_knows_90 rfl ?_
            refine r_iastore ok 11 rfl dX11_knows_91 h.1 ?_
            have h := h.2
            refine r_aload_n ok 2 dX11_knows_92 rfl ?_
            refine r_iload_n ok 3 dX11_knows_93 rfl ?_
            refine r_virtv ok (rest := []) (As := [.int v1]) 0 _ k_X11_knows_193 rfl rfl rfl rfl (Nat.le_of_ble_eq_true rfl) dX11_knows_94 (MWv.mono h (fun S4 h => ?_))
            refine r_iload ok 0 dX11_knows_97 rfl ?_
            exact r_iret ok rfl dX11_knows_99 h
        · have h := h.2 c
          refine r_bipush ok (-2) dX11_knows_49 (by decide) ?_
          exact r_iret ok rfl dX11_knows_51 h
      · have h := h.2 c
        refine r_iload_n ok 3 dX11_knows_25 rfl ?_
        refine r_stati ok (rest := []) (As := [.int v3]) _ k_X11_knows_179 rfl rfl (Nat.le_of_ble_eq_true rfl) dX11_knows_26 (MWi.mono h (fun r5 S5 h => ?_))
        refine r_if_ne ok 52 dX11_knows_29 (by decide) ⟨fun c => ?_, fun c => ?_⟩
        · have h := h.1 c
          refine r_iload_n ok 2 dX11_knows_52 rfl ?_
          refine r_if_ne ok 69 dX11_knows_53 (by decide) ⟨fun c => ?_, fun c => ?_⟩
          · have h := h.1 c
            refine r_aload_n ok 0 dX11_knows_69 rfl ?_
            refine r_getR ok 0 1 rfl rfl fo_X11_19 dX11_knows_70 ?_
            refine r_getR ok 3 1 rfl rfl fo_X11_38 dX11_knows_73 ?_
            refine r_getR ok 10 1 rfl rfl fo_X11_190 dX11_knows_76 ?_
            refine r_astore ok [(4, .ref (g.ad 12)), (0, .ref (g.ad 0)), (1, .int v1), (2, .int v2), (3, .int v3)] dX11_knows_79 (by decide) rfl ?_
            refine r_aload ok 0 dX11_knows_81 rfl ?_
            refine r_iload_n ok 2 dX11_knows_83 rfl ?_
            refine r_iaload ok 12 rfl dX11_knows_84 h.1 ?_
            have h := h.2
            refine r_istore ok [(5, .int (S5 12 (cl v1))), (4, .ref (g.ad 12)), (0, .ref (g.ad 0)), (1, .int v1), (2, .int v2), (3, .int v3)] dX11_knows_85 (by decide) rfl ?_
            refine r_aload ok 1 dX11_knows_87 rfl ?_
            refine r_iload_n ok 3 dX11_knows_89 rfl ?_
            refine r_iload_n ok 5 dX11_knows_90 rfl ?_
            refine r_iastore ok 12 rfl dX11_knows_91 h.1 ?_
            have h := h.2
            refine r_aload_n ok 2 dX11_knows_92 rfl ?_
            refine r_iload_n ok 3 dX11_knows_93 rfl ?_
            refine r_virtv ok (rest := []) (As := [.int v1]) 0 _ k_X11_knows_193 rfl rfl rfl rfl (Nat.le_of_ble_eq_true rfl) dX11_knows_94 (MWv.mono h (fun S6 h => ?_))
            refine r_iload ok 0 dX11_knows_97 rfl ?_
            exact r_iret ok rfl dX11_knows_99 h
          · have h := h.2 c
            refine r_aload_n ok 0 dX11_knows_56 rfl ?_
            refine r_getR ok 0 1 rfl rfl fo_X11_19 dX11_knows_57 ?_
            refine r_getR ok 3 1 rfl rfl fo_X11_38 dX11_knows_60 ?_
            refine r_getR ok 10 0 rfl rfl fo_X11_185 dX11_knows_63 ?_
            refine r_goto ok 79 dX11_knows_66 (by decide) ?_
            refine r_astore ok [(4, .ref (g.ad 11)), (0, .ref (g.ad 0)), (1, .int v1), (2, .int v2), (3, .int v3)] dX11_knows_79 (by decide) rfl ?_
            refine r_aload ok 0 dX11_knows_81 rfl ?_
            refine r_iload_n ok 2 dX11_knows_83 rfl ?_
            refine r_iaload ok 11 rfl dX11_knows_84 h.1 ?_
            have h := h.2
            refine r_istore ok [(5, .int (S5 11 (cl v1))), (4, .ref (g.ad 11)), (0, .ref (g.ad 0)), (1, .int v1), (2, .int v2), (3, .int v3)] dX11_knows_85 (by decide) rfl ?_
            refine r_aload ok 1 dX11_knows_87 rfl ?_
            refine r_iload_n ok 3 dX11_knows_89 rfl ?_
            refine r_iload_n ok 5 dX11_knows_90 rfl ?_
            refine r_iastore ok 11 rfl dX11_knows_91 h.1 ?_
            have h := h.2
            refine r_aload_n ok 2 dX11_knows_92 rfl ?_
            refine r_iload_n ok 3 dX11_knows_93 rfl ?_
            refine r_virtv ok (rest := []) (As := [.int v1]) 0 _ k_X11_knows_193 rfl rfl rfl rfl (Nat.le_of_ble_eq_true rfl) dX11_knows_94 (MWv.mono h (fun S7 h => ?_))
            refine r_iload ok 0 dX11_knows_97 rfl ?_
            exact r_iret ok rfl dX11_knows_99 h
        · have h := h.2 c
          refine r_goto ok 49 dX11_knows_32 (by decide) ?_
          refine r_bipush ok (-2) dX11_knows_49 (by decide) ?_
          exact r_iret ok rfl dX11_knows_51 h
    · have h := h.2 c
      refine r_iload_n ok 2 dX11_knows_13 rfl ?_
      refine r_iconst ok (nI 1) dX11_knows_14 (by decide) ?_
      refine r_icmp_eq ok 21 dX11_knows_15 (by decide) ⟨fun c => ?_, fun c => ?_⟩
      · have h := h.1 c
        refine r_iload_n ok 2 dX11_knows_21 rfl ?_
        refine r_if_ne ok 35 dX11_knows_22 (by decide) ⟨fun c => ?_, fun c => ?_⟩
        · have h := h.1 c
          refine r_aload_n ok 0 dX11_knows_35 rfl ?_
          refine r_getR ok 0 1 rfl rfl fo_X11_19 dX11_knows_36 ?_
          refine r_getR ok 3 0 rfl rfl fo_X11_25 dX11_knows_39 ?_
          refine r_iload_n ok 3 dX11_knows_42 rfl ?_
          refine r_virti ok (rest := []) (As := [.int v3]) 4 _ k_X11_knows_182 rfl rfl rfl rfl (Nat.le_of_ble_eq_true rfl) dX11_knows_43 (MWi.mono h (fun r8 S8 h => ?_))
          refine r_if_ne ok 52 dX11_knows_46 (by decide) ⟨fun c => ?_, fun c => ?_⟩
          · have h := h.1 c
            refine r_iload_n ok 2 dX11_knows_52 rfl ?_
            refine r_if_ne ok 69 dX11_knows_53 (by decide) ⟨fun c => ?_, fun c => ?_⟩
            · have h := h.1 c
              refine r_aload_n ok 0 dX11_knows_69 rfl ?_
              refine r_getR ok 0 1 rfl rfl fo_X11_19 dX11_knows_70 ?_
              refine r_getR ok 3 1 rfl rfl fo_X11_38 dX11_knows_73 ?_
              refine r_getR ok 10 1 rfl rfl fo_X11_190 dX11_knows_76 ?_
              refine r_astore ok [(4, .ref (g.ad 12)), (0, .ref (g.ad 0)), (1, .int v1), (2, .int v2), (3, .int v3)] dX11_knows_79 (by decide) rfl ?_
              refine r_aload ok 0 dX11_knows_81 rfl ?_
              refine r_iload_n ok 2 dX11_knows_83 rfl ?_
              refine r_iaload ok 12 rfl dX11_knows_84 h.1 ?_
              have h := h.2
              refine r_istore ok [(5, .int (S8 12 (cl v1))), (4, .ref (g.ad 12)), (0, .ref (g.ad 0)), (1, .int v1), (2, .int v2), (3, .int v3)] dX11_knows_85 (by decide) rfl ?_
              refine r_aload ok 1 dX11_knows_87 rfl ?_
              refine r_iload_n ok 3 dX11_knows_89 rfl ?_
              refine r_iload_n ok 5 dX11_knows_90 rfl ?_
              refine r_iastore ok 12 rfl dX11_knows_91 h.1 ?_
              have h := h.2
              refine r_aload_n ok 2 dX11_knows_92 rfl ?_
              refine r_iload_n ok 3 dX11_knows_93 rfl ?_
              refine r_virtv ok (rest := []) (As := [.int v1]) 0 _ k_X11_knows_193 rfl rfl rfl rfl (Nat.le_of_ble_eq_true rfl) dX11_knows_94 (MWv.mono h (fun S9 h => ?_))
              refine r_iload ok 0 dX11_knows_97 rfl ?_
              exact r_iret ok rfl dX11_knows_99 h
            · have h := h.2 c
              refine r_aload_n ok 0 dX11_knows_56 rfl ?_
              refine r_getR ok 0 1 rfl rfl fo_X11_19 dX11_knows_57 ?_
              refine r_getR ok 3 1 rfl rfl fo_X11_38 dX11_knows_60 ?_
              refine r_getR ok 10 0 rfl rfl fo_X11_185 dX11_knows_63 ?_
              refine r_goto ok 79 dX11_knows_66 (by decide) ?_
              refine r_astore ok [(4, .ref (g.ad 11)), (0, .ref (g.ad 0)), (1, .int v1), (2, .int v2), (3, .int v3)] dX11_knows_79 (by decide) rfl ?_
              refine r_aload ok 0 dX11_knows_81 rfl ?_
              refine r_iload_n ok 2 dX11_knows_83 rfl ?_
              refine r_iaload ok 11 rfl dX11_knows_84 h.1 ?_
              have h := h.2
              refine r_istore ok [(5, .int (S8 11 (cl v1))), (4, .ref (g.ad 11)), (0, .ref (g.ad 0)), (1, .int v1), (2, .int v2), (3, .int v3)] dX11_knows_85 (by decide) rfl ?_
              refine r_aload ok 1 dX11_knows_87 rfl ?_
              refine r_iload_n ok 3 dX11_knows_89 rfl ?_
              refine r_iload_n ok 5 dX11_knows_90 rfl ?_
              refine r_iastore ok 11 rfl dX11_knows_91 h.1 ?_
              have h := h.2
              refine r_aload_n ok 2 dX11_knows_92 rfl ?_
              refine r_iload_n ok 3 dX11_knows_93 rfl ?_
              refine r_virtv ok (rest := []) (As := [.int v1]) 0 _ k_X11_knows_193 rfl rfl rfl rfl (Nat.le_of_ble_eq_true rfl) dX11_knows_94 (MWv.mono h (fun S10 h => ?_))
              refine r_iload ok 0 dX11_knows_97 rfl ?_
              exact r_iret ok rfl dX11_knows_99 h
          · have h := h.2 c
            refine r_bipush ok (-2) dX11_knows_49 (by decide) ?_
            exact r_iret ok rfl dX11_knows_51 h
        · have h := h.2 c
          refine r_iload_n ok 3 dX11_knows_25 rfl ?_
          refine r_stati ok (rest := []) (As := [.int v3]) _ k_X11_knows_179 rfl rfl (Nat.le_of_ble_eq_true rfl) dX11_knows_26 (MWi.mono h (fun r11 S11 h => ?_))
          refine r_if_ne ok 52 dX11_knows_29 (by decide) ⟨fun c => ?_, fun c => ?_⟩
          · have h := h.1 c
            refine r_iload_n ok 2 dX11_knows_52 rfl ?_
            refine r_if_ne ok 69 dX11_knows_53 (by decide) ⟨fun c => ?_, fun c => ?_⟩
            · have h := h.1 c
              refine r_aload_n ok 0 dX11_knows_69 rfl ?_
              refine r_getR ok 0 1 rfl rfl fo_X11_19 dX11_knows_70 ?_
              refine r_getR ok 3 1 rfl rfl fo_X11_38 dX11_knows_73 ?_
              refine r_getR ok 10 1 rfl rfl fo_X11_190 dX11_knows_76 ?_
              refine r_astore ok [(4, .ref (g.ad 12)), (0, .ref (g.ad 0)), (1, .int v1), (2, .int v2), (3, .int v3)] dX11_knows_79 (by decide) rfl ?_
              refine r_aload ok 0 dX11_knows_81 rfl ?_
              refine r_iload_n ok 2 dX11_knows_83 rfl ?_
              refine r_iaload ok 12 rfl dX11_knows_84 h.1 ?_
              have h := h.2
              refine r_istore ok [(5, .int (S11 12 (cl v1))), (4, .ref (g.ad 12)), (0, .ref (g.ad 0)), (1, .int v1), (2, .int v2), (3, .int v3)] dX11_knows_85 (by decide) rfl ?_
              refine r_aload ok 1 dX11_knows_87 rfl ?_
              refine r_iload_n ok 3 dX11_knows_89 rfl ?_
              refine r_iload_n ok 5 dX11_knows_90 rfl ?_
              refine r_iastore ok 12 rfl dX11_knows_91 h.1 ?_
              have h := h.2
              refine r_aload_n ok 2 dX11_knows_92 rfl ?_
              refine r_iload_n ok 3 dX11_knows_93 rfl ?_
              refine r_virtv ok (rest := []) (As := [.int v1]) 0 _ k_X11_knows_193 rfl rfl rfl rfl (Nat.le_of_ble_eq_true rfl) dX11_knows_94 (MWv.mono h (fun S12 h => ?_))
              refine r_iload ok 0 dX11_knows_97 rfl ?_
              exact r_iret ok rfl dX11_knows_99 h
            · have h := h.2 c
              refine r_aload_n ok 0 dX11_knows_56 rfl ?_
              refine r_getR ok 0 1 rfl rfl fo_X11_19 dX11_knows_57 ?_
              refine r_getR ok 3 1 rfl rfl fo_X11_38 dX11_knows_60 ?_
              refine r_getR ok 10 0 rfl rfl fo_X11_185 dX11_knows_63 ?_
              refine r_goto ok 79 dX11_knows_66 (by decide) ?_
              refine r_astore ok [(4, .ref (g.ad 11)), (0, .ref (g.ad 0)), (1, .int v1), (2, .int v2), (3, .int v3)] dX11_knows_79 (by decide) rfl ?_
              refine r_aload ok 0 dX11_knows_81 rfl ?_
              refine r_iload_n ok 2 dX11_knows_83 rfl ?_
              refine r_iaload ok 11 rfl dX11_knows_84 h.1 ?_
              have h := h.2
              refine r_istore ok [(5, .int (S11 11 (cl v1))), (4, .ref (g.ad 11)), (0, .ref (g.ad 0)), (1, .int v1), (2, .int v2), (3, .int v3)] dX11_knows_85 (by decide) rfl ?_
              refine r_aload ok 1 dX11_knows_87 rfl ?_
              refine r_iload_n ok 3 dX11_knows_89 rfl ?_
              refine r_iload_n ok 5 dX11_knows_90 rfl ?_
              refine r_iastore ok 11 rfl dX11_knows_91 h.1 ?_
              have h := h.2
              refine r_aload_n ok 2 dX11_knows_92 rfl ?_
              refine r_iload_n ok 3 dX11_knows_93 rfl ?_
              refine r_virtv ok (rest := []) (As := [.int v1]) 0 _ k_X11_knows_193 rfl rfl rfl rfl (Nat.le_of_ble_eq_true rfl) dX11_knows_94 (MWv.mono h (fun S13 h => ?_))
              refine r_iload ok 0 dX11_knows_97 rfl ?_
              exact r_iret ok rfl dX11_knows_99 h
          · have h := h.2 c
            refine r_goto ok 49 dX11_knows_32 (by decide) ?_
            refine r_bipush ok (-2) dX11_knows_49 (by decide) ?_
            exact r_iret ok rfl dX11_knows_51 h
      · have h := h.2 c
        refine r_bipush ok (-2) dX11_knows_18 (by decide) ?_
        exact r_iret ok rfl dX11_knows_20 h
  · have h := h.2 c
    refine r_iconst ok (-1) dX11_knows_7 (by decide) ?_
    exact r_iret ok rfl dX11_knows_8 h
set_option maxRecDepth 10000 in
theorem s_X11_mix_0 {l : Launch} {x : Cx} {g : Geo} {K : Int32 → Mem → Prop} (ok : Ok x g shX m_X11_mix) (v1 : Int32) (v2 : Int32) (v3 : Int32) (S : Mem) (h : MWi l g shX m_X11_isChild [.int v1] S (fun r1 S1 => ((¬ r1 = 0 → ((¬ v2 = (-1) → PW l x g shX m_X11_mix (Qi x g shX K) 23 [(0, .ref (g.ad 0)), (1, .int v1), (2, .int v2), (3, .int v3)] [] S1) ∧ (v2 = (-1) → ((¬ v3 = (-1) → PW l x g shX m_X11_mix (Qi x g shX K) 23 [(0, .ref (g.ad 0)), (1, .int v1), (2, .int v2), (3, .int v3)] [] S1) ∧ (v3 = (-1) → PW l x g shX m_X11_mix (Qi x g shX K) 52 [(0, .ref (g.ad 0)), (1, .int v1), (2, .int v2), (3, .int v3)] [] S1))))) ∧ (r1 = 0 → K (-1) S1)))) : PW l x g shX m_X11_mix (Qi x g shX K) 0 [(0, .ref (g.ad 0)), (1, .int v1), (2, .int v2), (3, .int v3)] [] S := by
  refine r_iload_n ok 1 dX11_mix_0 rfl ?_
  refine r_stati ok (rest := []) (As := [.int v1]) _ k_X11_mix_176 rfl rfl (Nat.le_of_ble_eq_true rfl) dX11_mix_1 (MWi.mono h (fun r1 S1 h => ?_))
  refine r_if_ne ok 9 dX11_mix_4 (by decide) ⟨fun c => ?_, fun c => ?_⟩
  · have h := h.1 c
    refine r_iload_n ok 2 dX11_mix_9 rfl ?_
    refine r_iconst ok (-1) dX11_mix_10 (by decide) ?_
    refine r_icmp_ne ok 23 dX11_mix_11 (by decide) ⟨fun c => ?_, fun c => ?_⟩
    · have h := h.1 c
      exact r_sub [0, 1, 2, 3] _ rfl h
    · have h := h.2 c
      refine r_iload_n ok 3 dX11_mix_14 rfl ?_
      refine r_iconst ok (-1) dX11_mix_15 (by decide) ?_
      refine r_icmp_ne ok 23 dX11_mix_16 (by decide) ⟨fun c => ?_, fun c => ?_⟩
      · have h := h.1 c
        exact r_sub [0, 1, 2, 3] _ rfl h
      · have h := h.2 c
        refine r_iconst ok (nI 1) dX11_mix_19 (by decide) ?_
        refine r_goto ok 24 dX11_mix_20 (by decide) ?_
        refine r_istore ok [(4, .int (nI 1)), (0, .ref (g.ad 0)), (1, .int v1), (2, .int v2), (3, .int v3)] dX11_mix_24 (by decide) rfl ?_
        refine r_iload ok 0 dX11_mix_26 rfl ?_
        refine r_if_ne ok 52 dX11_mix_28 (by decide) ⟨fun _ => ?_, fun c => absurd c (by decide)⟩
        exact r_sub [1, 2, 3, 4] _ rfl h
  · have h := h.2 c
    refine r_iconst ok (-1) dX11_mix_7 (by decide) ?_
    exact r_iret ok rfl dX11_mix_8 h
set_option maxRecDepth 10000 in
theorem s_X11_mix_23 {l : Launch} {x : Cx} {g : Geo} {K : Int32 → Mem → Prop} (ok : Ok x g shX m_X11_mix) (v1 : Int32) (v2 : Int32) (v3 : Int32) (S : Mem) (h : MWi l g shX m_X11_isSign [.int v2] S (fun r1 S1 => ((r1 = 0 → K (-1) S1) ∧ (¬ r1 = 0 → MWi l g shX m_X11_isSign [.int v3] S1 (fun r2 S2 => ((r2 = 0 → K (-1) S2) ∧ (¬ r2 = 0 → ((¬ v2 = v3 → PW l x g shX m_X11_mix (Qi x g shX K) 52 [(0, .ref (g.ad 0)), (1, .int v1), (2, .int v2), (3, .int v3)] [] S2) ∧ (v2 = v3 → K (-1) S2))))))))) : PW l x g shX m_X11_mix (Qi x g shX K) 23 [(0, .ref (g.ad 0)), (1, .int v1), (2, .int v2), (3, .int v3)] [] S := by
  refine r_iconst ok (nI 0) dX11_mix_23 (by decide) ?_
  refine r_istore ok [(4, .int (nI 0)), (0, .ref (g.ad 0)), (1, .int v1), (2, .int v2), (3, .int v3)] dX11_mix_24 (by decide) rfl ?_
  refine r_iload ok 0 dX11_mix_26 rfl ?_
  refine r_if_ne ok 52 dX11_mix_28 (by decide) ⟨fun c => absurd c (by decide), fun _ => ?_⟩
  refine r_iload_n ok 3 dX11_mix_31 rfl ?_
  refine r_stati ok (rest := []) (As := [.int v2]) _ k_X11_mix_147 rfl rfl (Nat.le_of_ble_eq_true rfl) dX11_mix_32 (MWi.mono h (fun r1 S1 h => ?_))
  refine r_if_eq ok 50 dX11_mix_35 (by decide) ⟨fun c => ?_, fun c => ?_⟩
  · have h := h.1 c
    refine r_iconst ok (-1) dX11_mix_50 (by decide) ?_
    exact r_iret ok rfl dX11_mix_51 h
  · have h := h.2 c
    refine r_iload_n ok 4 dX11_mix_38 rfl ?_
    refine r_stati ok (rest := []) (As := [.int v3]) _ k_X11_mix_147 rfl rfl (Nat.le_of_ble_eq_true rfl) dX11_mix_39 (MWi.mono h (fun r2 S2 h => ?_))
    refine r_if_eq ok 50 dX11_mix_42 (by decide) ⟨fun c => ?_, fun c => ?_⟩
    · have h := h.1 c
      refine r_iconst ok (-1) dX11_mix_50 (by decide) ?_
      exact r_iret ok rfl dX11_mix_51 h
    · have h := h.2 c
      refine r_iload_n ok 3 dX11_mix_45 rfl ?_
      refine r_iload_n ok 4 dX11_mix_46 rfl ?_
      refine r_icmp_ne ok 52 dX11_mix_47 (by decide) ⟨fun c => ?_, fun c => ?_⟩
      · have h := h.1 c
        exact r_sub [1, 2, 3, 4] _ rfl h
      · have h := h.2 c
        refine r_iconst ok (-1) dX11_mix_50 (by decide) ?_
        exact r_iret ok rfl dX11_mix_51 h
set_option maxRecDepth 10000 in
theorem s_X11_mix_52 {l : Launch} {x : Cx} {g : Geo} {K : Int32 → Mem → Prop} (ok : Ok x g shX m_X11_mix) (v1 : Int32) (v2 : Int32) (v3 : Int32) (S : Mem) (h : MWi l g shX m_X2_mixedUp [.ref (g.ad 10), .int v1] S (fun r1 S1 => (vp_in v1 4 ∧ (vp_in v1 4 ∧ MWv l g shX m_X11_childChanged [.ref (g.ad 0), .int v1] (st2 (st2 S1 13 (cl v1) (jmin v2 v3)) 14 (cl v1) (jmax v2 v3)) (fun S2 => K r1 S2))))) : PW l x g shX m_X11_mix (Qi x g shX K) 52 [(0, .ref (g.ad 0)), (1, .int v1), (2, .int v2), (3, .int v3)] [] S := by
  refine r_aload_n ok 0 dX11_mix_52 rfl ?_
  refine r_getR ok 0 1 rfl rfl fo_X11_19 dX11_mix_53 ?_
  refine r_getR ok 3 1 rfl rfl fo_X11_38 dX11_mix_56 ?_
  refine r_iload_n ok 1 dX11_mix_59 rfl ?_
  refine r_virti ok (rest := []) (As := [.int v1]) 10 _ k_X11_mix_197 rfl rfl rfl rfl (Nat.le_of_ble_eq_true rfl) dX11_mix_60 (MWi.mono h (fun r1 S1 h => ?_))
  refine r_istore ok [(5, .int r1), (0, .ref (g.ad 0)), (1, .int v1), (2, .int v2), (3, .int v3)] dX11_mix_63 (by decide) rfl ?_
  refine r_aload_n ok 1 dX11_mix_65 rfl ?_
  refine r_getR ok 0 1 rfl rfl fo_X11_19 dX11_mix_66 ?_
  refine r_getR ok 3 1 rfl rfl fo_X11_38 dX11_mix_69 ?_
  refine r_getR ok 10 2 rfl rfl fo_X11_201 dX11_mix_72 ?_
  refine r_iload_n ok 2 dX11_mix_75 rfl ?_
  refine r_iload_n ok 3 dX11_mix_76 rfl ?_
  refine r_iload_n ok 4 dX11_mix_77 rfl ?_
  refine r_min ok (rest := [.int v1, .ref (g.ad 13)]) k_X11_mix_204 (Nat.le_of_ble_eq_true rfl) dX11_mix_78 ?_
  refine r_iastore ok 13 rfl dX11_mix_81 h.1 ?_
  have h := h.2
  refine r_aload_n ok 1 dX11_mix_82 rfl ?_
  refine r_getR ok 0 1 rfl rfl fo_X11_19 dX11_mix_83 ?_
  refine r_getR ok 3 1 rfl rfl fo_X11_38 dX11_mix_86 ?_
  refine r_getR ok 10 3 rfl rfl fo_X11_209 dX11_mix_89 ?_
  refine r_iload_n ok 2 dX11_mix_92 rfl ?_
  refine r_iload_n ok 3 dX11_mix_93 rfl ?_
  refine r_iload_n ok 4 dX11_mix_94 rfl ?_
  refine r_max ok (rest := [.int v1, .ref (g.ad 14)]) k_X11_mix_212 (Nat.le_of_ble_eq_true rfl) dX11_mix_95 ?_
  refine r_iastore ok 14 rfl dX11_mix_98 h.1 ?_
  have h := h.2
  refine r_aload_n ok 1 dX11_mix_99 rfl ?_
  refine r_iload_n ok 2 dX11_mix_100 rfl ?_
  refine r_virtv ok (rest := []) (As := [.int v1]) 0 _ k_X11_mix_193 rfl rfl rfl rfl (Nat.le_of_ble_eq_true rfl) dX11_mix_101 (MWv.mono h (fun S2 h => ?_))
  refine r_iload ok 0 dX11_mix_104 rfl ?_
  exact r_iret ok rfl dX11_mix_106 h
set_option maxRecDepth 10000 in
theorem s_X11_read_0 {l : Launch} {x : Cx} {g : Geo} {K : Int32 → Mem → Prop} (ok : Ok x g shX m_X11_read) (v1 : Int32) (v2 : Int32) (v3 : Int32) (S : Mem) (h : MWi l g shX m_X11_isChild [.int v1] S (fun r1 S1 => ((r1 = 0 → K (-1) S1) ∧ (¬ r1 = 0 → MWi l g shX m_X1_holds [.ref (g.ad 4), .int v2] S1 (fun r2 S2 => ((¬ r2 = 0 → ((v3 = 0 → ((¬ v3 = 0 → MWi l g shX m_X6_readAs [.ref (g.ad 25), .int v1, .int v2] S2 (fun r3 S3 => K r3 S3)) ∧ (v3 = 0 → MWi l g shX m_X6_wayOf [.ref (g.ad 25), .int v1, .int v2] S2 (fun r4 S4 => K r4 S4)))) ∧ (¬ v3 = 0 → ((v3 = (nI 1) → ((¬ v3 = 0 → MWi l g shX m_X6_readAs [.ref (g.ad 25), .int v1, .int v2] S2 (fun r5 S5 => K r5 S5)) ∧ (v3 = 0 → MWi l g shX m_X6_wayOf [.ref (g.ad 25), .int v1, .int v2] S2 (fun r6 S6 => K r6 S6)))) ∧ (¬ v3 = (nI 1) → K (-2) S2))))) ∧ (r2 = 0 → K (-1) S2))))))) : PW l x g shX m_X11_read (Qi x g shX K) 0 [(0, .ref (g.ad 0)), (1, .int v1), (2, .int v2), (3, .int v3)] [] S := by
  refine r_iload_n ok 1 dX11_read_0 rfl ?_
  refine r_stati ok (rest := []) (As := [.int v1]) _ k_X11_read_176 rfl rfl (Nat.le_of_ble_eq_true rfl) dX11_read_1 (MWi.mono h (fun r1 S1 h => ?_))
  refine r_if_eq ok 21 dX11_read_4 (by decide) ⟨fun c => ?_, fun c => ?_⟩
  · have h := h.1 c
    refine r_iconst ok (-1) dX11_read_21 (by decide) ?_
    exact r_iret ok rfl dX11_read_22 h
  · have h := h.2 c
    refine r_aload_n ok 0 dX11_read_7 rfl ?_
    refine r_getR ok 0 1 rfl rfl fo_X11_19 dX11_read_8 ?_
    refine r_getR ok 3 0 rfl rfl fo_X11_25 dX11_read_11 ?_
    refine r_iload_n ok 2 dX11_read_14 rfl ?_
    refine r_virti ok (rest := []) (As := [.int v2]) 4 _ k_X11_read_124 rfl rfl rfl rfl (Nat.le_of_ble_eq_true rfl) dX11_read_15 (MWi.mono h (fun r2 S2 h => ?_))
    refine r_if_ne ok 23 dX11_read_18 (by decide) ⟨fun c => ?_, fun c => ?_⟩
    · have h := h.1 c
      refine r_iload_n ok 3 dX11_read_23 rfl ?_
      refine r_if_eq ok 35 dX11_read_24 (by decide) ⟨fun c => ?_, fun c => ?_⟩
      · have h := h.1 c
        refine r_iload_n ok 3 dX11_read_35 rfl ?_
        refine r_if_ne ok 51 dX11_read_36 (by decide) ⟨fun c => ?_, fun c => ?_⟩
        · have h := h.1 c
          refine r_aload_n ok 0 dX11_read_51 rfl ?_
          refine r_getR ok 0 3 rfl rfl fo_X11_45 dX11_read_52 ?_
          refine r_iload_n ok 1 dX11_read_55 rfl ?_
          refine r_iload_n ok 2 dX11_read_56 rfl ?_
          refine r_virti ok (rest := []) (As := [.int v1, .int v2]) 25 _ k_X11_read_218 rfl rfl rfl rfl (Nat.le_of_ble_eq_true rfl) dX11_read_57 (MWi.mono h (fun r3 S3 h => ?_))
          exact r_iret ok rfl dX11_read_60 h
        · have h := h.2 c
          refine r_aload_n ok 0 dX11_read_39 rfl ?_
          refine r_getR ok 0 3 rfl rfl fo_X11_45 dX11_read_40 ?_
          refine r_iload_n ok 1 dX11_read_43 rfl ?_
          refine r_iload_n ok 2 dX11_read_44 rfl ?_
          refine r_virti ok (rest := []) (As := [.int v1, .int v2]) 25 _ k_X11_read_215 rfl rfl rfl rfl (Nat.le_of_ble_eq_true rfl) dX11_read_45 (MWi.mono h (fun r4 S4 h => ?_))
          refine r_goto ok 60 dX11_read_48 (by decide) ?_
          exact r_iret ok rfl dX11_read_60 h
      · have h := h.2 c
        refine r_iload_n ok 3 dX11_read_27 rfl ?_
        refine r_iconst ok (nI 1) dX11_read_28 (by decide) ?_
        refine r_icmp_eq ok 35 dX11_read_29 (by decide) ⟨fun c => ?_, fun c => ?_⟩
        · have h := h.1 c
          refine r_iload_n ok 3 dX11_read_35 rfl ?_
          refine r_if_ne ok 51 dX11_read_36 (by decide) ⟨fun c => ?_, fun c => ?_⟩
          · have h := h.1 c
            refine r_aload_n ok 0 dX11_read_51 rfl ?_
            refine r_getR ok 0 3 rfl rfl fo_X11_45 dX11_read_52 ?_
            refine r_iload_n ok 1 dX11_read_55 rfl ?_
            refine r_iload_n ok 2 dX11_read_56 rfl ?_
            refine r_virti ok (rest := []) (As := [.int v1, .int v2]) 25 _ k_X11_read_218 rfl rfl rfl rfl (Nat.le_of_ble_eq_true rfl) dX11_read_57 (MWi.mono h (fun r5 S5 h => ?_))
            exact r_iret ok rfl dX11_read_60 h
          · have h := h.2 c
            refine r_aload_n ok 0 dX11_read_39 rfl ?_
            refine r_getR ok 0 3 rfl rfl fo_X11_45 dX11_read_40 ?_
            refine r_iload_n ok 1 dX11_read_43 rfl ?_
            refine r_iload_n ok 2 dX11_read_44 rfl ?_
            refine r_virti ok (rest := []) (As := [.int v1, .int v2]) 25 _ k_X11_read_215 rfl rfl rfl rfl (Nat.le_of_ble_eq_true rfl) dX11_read_45 (MWi.mono h (fun r6 S6 h => ?_))
            refine r_goto ok 60 dX11_read_48 (by decide) ?_
            exact r_iret ok rfl dX11_read_60 h
        · have h := h.2 c
          refine r_bipush ok (-2) dX11_read_32 (by decide) ?_
          exact r_iret ok rfl dX11_read_34 h
    · have h := h.2 c
      refine r_iconst ok (-1) dX11_read_21 (by decide) ?_
      exact r_iret ok rfl dX11_read_22 h
set_option maxRecDepth 10000 in
theorem s_X11_share_0 {l : Launch} {x : Cx} {g : Geo} {K : Int32 → Mem → Prop} (ok : Ok x g shX m_X11_share) (v1 : Int32) (S : Mem) (h : MWi l g shX m_X11_isChild [.int v1] S (fun r1 S1 => ((r1 = 0 → K (-1) S1) ∧ (¬ r1 = 0 → MWi l g shX m_X6_readable [.ref (g.ad 25), .int v1] S1 (fun r2 S2 => MWi l g shX m_X1_timesOf [.ref (g.ad 4), .int r2] S2 (fun r3 S3 => K r3 S3)))))) : PW l x g shX m_X11_share (Qi x g shX K) 0 [(0, .ref (g.ad 0)), (1, .int v1)] [] S := by
  refine r_iload_n ok 1 dX11_share_0 rfl ?_
  refine r_stati ok (rest := []) (As := [.int v1]) _ k_X11_share_176 rfl rfl (Nat.le_of_ble_eq_true rfl) dX11_share_1 (MWi.mono h (fun r1 S1 h => ?_))
  refine r_if_eq ok 28 dX11_share_4 (by decide) ⟨fun c => ?_, fun c => ?_⟩
  · have h := h.1 c
    refine r_iconst ok (-1) dX11_share_28 (by decide) ?_
    exact r_iret ok rfl dX11_share_29 h
  · have h := h.2 c
    refine r_aload_n ok 0 dX11_share_7 rfl ?_
    refine r_getR ok 0 1 rfl rfl fo_X11_19 dX11_share_8 ?_
    refine r_getR ok 3 0 rfl rfl fo_X11_25 dX11_share_11 ?_
    refine r_aload_n ok 0 dX11_share_14 rfl ?_
    refine r_getR ok 0 3 rfl rfl fo_X11_45 dX11_share_15 ?_
    refine r_iload_n ok 1 dX11_share_18 rfl ?_
    refine r_virti ok (rest := [.ref (g.ad 4)]) (As := [.int v1]) 25 _ k_X11_share_221 rfl rfl rfl rfl (Nat.le_of_ble_eq_true rfl) dX11_share_19 (MWi.mono h (fun r2 S2 h => ?_))
    refine r_virti ok (rest := []) (As := [.int r2]) 4 _ k_X11_share_224 rfl rfl rfl rfl (Nat.le_of_ble_eq_true rfl) dX11_share_22 (MWi.mono h (fun r3 S3 h => ?_))
    refine r_goto ok 29 dX11_share_25 (by decide) ?_
    exact r_iret ok rfl dX11_share_29 h
set_option maxRecDepth 10000 in
theorem s_X11_gives_0 {l : Launch} {x : Cx} {g : Geo} {K : Int32 → Mem → Prop} (ok : Ok x g shX m_X11_gives) (v1 : Int32) (v2 : Int32) (S : Mem) (h : MWi l g shX m_X11_isSignSet [.int v1] S (fun r1 S1 => ((r1 = 0 → K (-2) S1) ∧ (¬ r1 = 0 → MWi l g shX m_X1_isWordSet [.ref (g.ad 4), .int v2] S1 (fun r2 S2 => ((¬ r2 = 0 → MWi l g shX m_X8_givenBy [.ref (g.ad 18), .int v1] S2 (fun r3 S3 => MWi l g shX m_X1_timesOf [.ref (g.ad 4), .int (r3 ||| v2)] S3 (fun r4 S4 => K r4 S4))) ∧ (r2 = 0 → K (-2) S2))))))) : PW l x g shX m_X11_gives (Qi x g shX K) 0 [(0, .ref (g.ad 0)), (1, .int v1), (2, .int v2)] [] S := by
  refine r_iload_n ok 1 dX11_gives_0 rfl ?_
  refine r_stati ok (rest := []) (As := [.int v1]) _ k_X11_gives_179 rfl rfl (Nat.le_of_ble_eq_true rfl) dX11_gives_1 (MWi.mono h (fun r1 S1 h => ?_))
  refine r_if_eq ok 21 dX11_gives_4 (by decide) ⟨fun c => ?_, fun c => ?_⟩
  · have h := h.1 c
    refine r_bipush ok (-2) dX11_gives_21 (by decide) ?_
    exact r_iret ok rfl dX11_gives_23 h
  · have h := h.2 c
    refine r_aload_n ok 0 dX11_gives_7 rfl ?_
    refine r_getR ok 0 1 rfl rfl fo_X11_19 dX11_gives_8 ?_
    refine r_getR ok 3 0 rfl rfl fo_X11_25 dX11_gives_11 ?_
    refine r_iload_n ok 2 dX11_gives_14 rfl ?_
    refine r_virti ok (rest := []) (As := [.int v2]) 4 _ k_X11_gives_182 rfl rfl rfl rfl (Nat.le_of_ble_eq_true rfl) dX11_gives_15 (MWi.mono h (fun r2 S2 h => ?_))
    refine r_if_ne ok 24 dX11_gives_18 (by decide) ⟨fun c => ?_, fun c => ?_⟩
    · have h := h.1 c
      refine r_aload_n ok 0 dX11_gives_24 rfl ?_
      refine r_getR ok 0 1 rfl rfl fo_X11_19 dX11_gives_25 ?_
      refine r_getR ok 3 0 rfl rfl fo_X11_25 dX11_gives_28 ?_
      refine r_aload_n ok 0 dX11_gives_31 rfl ?_
      refine r_getR ok 0 2 rfl rfl fo_X11_32 dX11_gives_32 ?_
      refine r_iload_n ok 1 dX11_gives_35 rfl ?_
      refine r_virti ok (rest := [.ref (g.ad 4)]) (As := [.int v1]) 18 _ k_X11_gives_227 rfl rfl rfl rfl (Nat.le_of_ble_eq_true rfl) dX11_gives_36 (MWi.mono h (fun r3 S3 h => ?_))
      refine r_iload_n ok 2 dX11_gives_39 rfl ?_
      refine r_ior ok dX11_gives_40 ?_
      refine r_virti ok (rest := []) (As := [.int (r3 ||| v2)]) 4 _ k_X11_gives_224 rfl rfl rfl rfl (Nat.le_of_ble_eq_true rfl) dX11_gives_41 (MWi.mono h (fun r4 S4 h => ?_))
      exact r_iret ok rfl dX11_gives_44 h
    · have h := h.2 c
      refine r_bipush ok (-2) dX11_gives_21 (by decide) ?_
      exact r_iret ok rfl dX11_gives_23 h
set_option maxRecDepth 10000 in
theorem s_X11_order_0 {l : Launch} {x : Cx} {g : Geo} {K : Int32 → Mem → Prop} (ok : Ok x g shX m_X11_order) (v1 : Int32) (S : Mem) (h : ((v1 < (-1) → K (-6) S) ∧ (¬ v1 < (-1) → ((v1 < (nI 10) → MWv l g shX m_X9_findOrder [.ref (g.ad 27)] S (fun S1 => ((¬ v1 = (-1) → (vp_in v1 10 ∧ K (S1 30 (cl v1)) S1)) ∧ (v1 = (-1) → K (S1 27 5) S1)))) ∧ (¬ v1 < (nI 10) → K (-6) S))))) : PW l x g shX m_X11_order (Qi x g shX K) 0 [(0, .ref (g.ad 0)), (1, .int v1)] [] S := by
  refine r_iload_n ok 1 dX11_order_0 rfl ?_
  refine r_iconst ok (-1) dX11_order_1 (by decide) ?_
  refine r_icmp_lt ok 11 dX11_order_2 (by decide) ⟨fun c => ?_, fun c => ?_⟩
  · have h := h.1 c
    refine r_bipush ok (-6) dX11_order_11 (by decide) ?_
    exact r_iret ok rfl dX11_order_13 h
  · have h := h.2 c
    refine r_iload_n ok 1 dX11_order_5 rfl ?_
    refine r_bipush ok (nI 10) dX11_order_6 (by decide) ?_
    refine r_icmp_lt ok 14 dX11_order_8 (by decide) ⟨fun c => ?_, fun c => ?_⟩
    · have h := h.1 c
      refine r_aload_n ok 0 dX11_order_14 rfl ?_
      refine r_getR ok 0 4 rfl rfl fo_X11_54 dX11_order_15 ?_
      refine r_virtv ok (rest := []) (As := []) 27 _ k_X11_order_230 rfl rfl rfl rfl (Nat.le_of_ble_eq_true rfl) dX11_order_18 (MWv.mono h (fun S1 h => ?_))
      refine r_iload_n ok 1 dX11_order_21 rfl ?_
      refine r_iconst ok (-1) dX11_order_22 (by decide) ?_
      refine r_icmp_ne ok 36 dX11_order_23 (by decide) ⟨fun c => ?_, fun c => ?_⟩
      · have h := h.1 c
        refine r_aload_n ok 0 dX11_order_36 rfl ?_
        refine r_getR ok 0 4 rfl rfl fo_X11_54 dX11_order_37 ?_
        refine r_getR ok 27 4 rfl rfl fo_X11_236 dX11_order_40 ?_
        refine r_iload_n ok 1 dX11_order_43 rfl ?_
        refine r_iaload ok 30 rfl dX11_order_44 h.1 ?_
        have h := h.2
        exact r_iret ok rfl dX11_order_45 h
      · have h := h.2 c
        refine r_aload_n ok 0 dX11_order_26 rfl ?_
        refine r_getR ok 0 4 rfl rfl fo_X11_54 dX11_order_27 ?_
        refine r_getI ok 27 5 rfl rfl fo_X11_233 dX11_order_30 ?_
        refine r_goto ok 45 dX11_order_33 (by decide) ?_
        exact r_iret ok rfl dX11_order_45 h
    · have h := h.2 c
      refine r_bipush ok (-6) dX11_order_11 (by decide) ?_
      exact r_iret ok rfl dX11_order_13 h
set_option maxRecDepth 10000 in
theorem s_X11_most_0 {l : Launch} {x : Cx} {g : Geo} {K : Int32 → Mem → Prop} (ok : Ok x g shX m_X11_most) (v1 : Int32) (v2 : Int32) (v3 : Int32) (S : Mem) (h : ((v1 < 0 → K (-2) S) ∧ (¬ v1 < 0 → (((nI 10) < v1 → K (-2) S) ∧ (¬ (nI 10) < v1 → ((v2 < 0 → K (-2) S) ∧ (¬ v2 < 0 → (((S 4 5) < v2 → K (-2) S) ∧ (¬ (S 4 5) < v2 → ((v3 < 0 → K (-2) S) ∧ (¬ v3 < 0 → ((v3 ≤ (nI 2) → MWi l g shX m_X9_bestSigns [.ref (g.ad 27), .int v1, .int v2] S (fun r1 S1 => ((¬ v3 = (nI 1) → MWi l g shX m_X9_bestWholes [.ref (g.ad 27), .int r1, .int v2] S1 (fun r2 S2 => ((¬ v3 = (nI 2) → MWi l g shX m_X8_givenBy [.ref (g.ad 18), .int r1] S2 (fun r3 S3 => MWi l g shX m_X1_timesOf [.ref (g.ad 4), .int (r3 ||| r2)] S3 (fun r4 S4 => K r4 S4))) ∧ (v3 = (nI 2) → K r2 S2)))) ∧ (v3 = (nI 1) → K r1 S1)))) ∧ (¬ v3 ≤ (nI 2) → K (-2) S))))))))))))) : PW l x g shX m_X11_most (Qi x g shX K) 0 [(0, .ref (g.ad 0)), (1, .int v1), (2, .int v2), (3, .int v3)] [] S := by
  refine r_iload_n ok 1 dX11_most_0 rfl ?_
  refine r_if_lt ok 37 dX11_most_1 (by decide) ⟨fun c => ?_, fun c => ?_⟩
  · have h := h.1 c
    refine r_bipush ok (-2) dX11_most_37 (by decide) ?_
    exact r_iret ok rfl dX11_most_39 h
  · have h := h.2 c
    refine r_iload_n ok 1 dX11_most_4 rfl ?_
    refine r_bipush ok (nI 10) dX11_most_5 (by decide) ?_
    refine r_icmp_gt ok 37 dX11_most_7 (by decide) ⟨fun c => ?_, fun c => ?_⟩
    · have h := h.1 c
      refine r_bipush ok (-2) dX11_most_37 (by decide) ?_
      exact r_iret ok rfl dX11_most_39 h
    · have h := h.2 c
      refine r_iload_n ok 2 dX11_most_10 rfl ?_
      refine r_if_lt ok 37 dX11_most_11 (by decide) ⟨fun c => ?_, fun c => ?_⟩
      · have h := h.1 c
        refine r_bipush ok (-2) dX11_most_37 (by decide) ?_
        exact r_iret ok rfl dX11_most_39 h
      · have h := h.2 c
        refine r_iload_n ok 2 dX11_most_14 rfl ?_
        refine r_aload_n ok 0 dX11_most_15 rfl ?_
        refine r_getR ok 0 1 rfl rfl fo_X11_19 dX11_most_16 ?_
        refine r_getR ok 3 0 rfl rfl fo_X11_25 dX11_most_19 ?_
        refine r_getI ok 4 5 rfl rfl fo_X11_116 dX11_most_22 ?_
        refine r_icmp_gt ok 37 dX11_most_25 (by decide) ⟨fun c => ?_, fun c => ?_⟩
        · have h := h.1 c
          refine r_bipush ok (-2) dX11_most_37 (by decide) ?_
          exact r_iret ok rfl dX11_most_39 h
        · have h := h.2 c
          refine r_iload_n ok 3 dX11_most_28 rfl ?_
          refine r_if_lt ok 37 dX11_most_29 (by decide) ⟨fun c => ?_, fun c => ?_⟩
          · have h := h.1 c
            refine r_bipush ok (-2) dX11_most_37 (by decide) ?_
            exact r_iret ok rfl dX11_most_39 h
          · have h := h.2 c
            refine r_iload_n ok 3 dX11_most_32 rfl ?_
            refine r_iconst ok (nI 2) dX11_most_33 (by decide) ?_
            refine r_icmp_le ok 40 dX11_most_34 (by decide) ⟨fun c => ?_, fun c => ?_⟩
            · have h := h.1 c
              refine r_aload_n ok 0 dX11_most_40 rfl ?_
              refine r_getR ok 0 4 rfl rfl fo_X11_54 dX11_most_41 ?_
              refine r_iload_n ok 1 dX11_most_44 rfl ?_
              refine r_iload_n ok 2 dX11_most_45 rfl ?_
              refine r_virti ok (rest := []) (As := [.int v1, .int v2]) 27 _ k_X11_most_239 rfl rfl rfl rfl (Nat.le_of_ble_eq_true rfl) dX11_most_46 (MWi.mono h (fun r1 S1 h => ?_))
              refine r_istore ok [(4, .int r1), (0, .ref (g.ad 0)), (1, .int v1), (2, .int v2), (3, .int v3)] dX11_most_49 (by decide) rfl ?_
              refine r_iload_n ok 4 dX11_most_51 rfl ?_
              refine r_iconst ok (nI 1) dX11_most_52 (by decide) ?_
              refine r_icmp_ne ok 59 dX11_most_53 (by decide) ⟨fun c => ?_, fun c => ?_⟩
              · have h := h.1 c
                refine r_aload_n ok 1 dX11_most_59 rfl ?_
                refine r_getR ok 0 4 rfl rfl fo_X11_54 dX11_most_60 ?_
                refine r_iload ok 0 dX11_most_63 rfl ?_
                refine r_iload_n ok 3 dX11_most_65 rfl ?_
                refine r_virti ok (rest := []) (As := [.int r1, .int v2]) 27 _ k_X11_most_242 rfl rfl rfl rfl (Nat.le_of_ble_eq_true rfl) dX11_most_66 (MWi.mono h (fun r2 S2 h => ?_))
                refine r_istore ok [(5, .int r2), (4, .int r1), (0, .ref (g.ad 0)), (1, .int v1), (2, .int v2), (3, .int v3)] dX11_most_69 (by decide) rfl ?_
                refine r_iload_n ok 5 dX11_most_71 rfl ?_
                refine r_iconst ok (nI 2) dX11_most_72 (by decide) ?_
                refine r_icmp_ne ok 81 dX11_most_73 (by decide) ⟨fun c => ?_, fun c => ?_⟩
                · have h := h.1 c
                  refine r_aload_n ok 2 dX11_most_81 rfl ?_
                  refine r_getR ok 0 1 rfl rfl fo_X11_19 dX11_most_82 ?_
                  refine r_getR ok 3 0 rfl rfl fo_X11_25 dX11_most_85 ?_
                  refine r_aload_n ok 2 dX11_most_88 rfl ?_
                  refine r_getR ok 0 2 rfl rfl fo_X11_32 dX11_most_89 ?_
                  refine r_iload ok 1 dX11_most_92 rfl ?_
                  refine r_virti ok (rest := [.ref (g.ad 4)]) (As := [.int r1]) 18 _ k_X11_most_227 rfl rfl rfl rfl (Nat.le_of_ble_eq_true rfl) dX11_most_94 (MWi.mono h (fun r3 S3 h => ?_))
                  refine r_iload ok 0 dX11_most_97 rfl ?_
                  refine r_ior ok dX11_most_99 ?_
                  refine r_virti ok (rest := []) (As := [.int (r3 ||| r2)]) 4 _ k_X11_most_224 rfl rfl rfl rfl (Nat.le_of_ble_eq_true rfl) dX11_most_100 (MWi.mono h (fun r4 S4 h => ?_))
                  exact r_iret ok rfl dX11_most_103 h
                · have h := h.2 c
                  refine r_iload ok 0 dX11_most_76 rfl ?_
                  refine r_goto ok 103 dX11_most_78 (by decide) ?_
                  exact r_iret ok rfl dX11_most_103 h
              · have h := h.2 c
                refine r_iload ok 0 dX11_most_56 rfl ?_
                exact r_iret ok rfl dX11_most_58 h
            · have h := h.2 c
              refine r_bipush ok (-2) dX11_most_37 (by decide) ?_
              exact r_iret ok rfl dX11_most_39 h
set_option maxRecDepth 10000 in
theorem s_X11_tale_0 {l : Launch} {x : Cx} {g : Geo} {K : Int32 → Mem → Prop} (ok : Ok x g shX m_X11_tale) (v1 : Int32) (v2 : Int32) (S : Mem) (h : MWi l g shX m_X11_isChild [.int v1] S (fun r1 S1 => ((¬ r1 = 0 → (((S1 31 5) = v1 → ((¬ v2 = (-1) → ((v2 < 0 → K (-6) S1) ∧ (¬ v2 < 0 → (((S1 31 4) ≤ v2 → K (-6) S1) ∧ (¬ (S1 31 4) ≤ v2 → (vp_in v2 12 ∧ K (S1 34 (cl v2)) S1)))))) ∧ (v2 = (-1) → K (S1 31 4) S1))) ∧ (¬ (S1 31 5) = v1 → MWi l g shX m_X6_readable [.ref (g.ad 25), .int v1] S1 (fun r2 S2 => MWv l g shX m_X10_find [.ref (g.ad 31), .int r2] S2 (fun S3 => ((¬ v2 = (-1) → ((v2 < 0 → K (-6) (st2 S3 31 5 v1)) ∧ (¬ v2 < 0 → ((((st2 S3 31 5 v1) 31 4) ≤ v2 → K (-6) (st2 S3 31 5 v1)) ∧ (¬ ((st2 S3 31 5 v1) 31 4) ≤ v2 → (vp_in v2 12 ∧ K ((st2 S3 31 5 v1) 34 (cl v2)) (st2 S3 31 5 v1))))))) ∧ (v2 = (-1) → K ((st2 S3 31 5 v1) 31 4) (st2 S3 31 5 v1)))))))) ∧ (r1 = 0 → K (-1) S1)))) : PW l x g shX m_X11_tale (Qi x g shX K) 0 [(0, .ref (g.ad 0)), (1, .int v1), (2, .int v2)] [] S := by
  refine r_iload_n ok 1 dX11_tale_0 rfl ?_
  refine r_stati ok (rest := []) (As := [.int v1]) _ k_X11_tale_176 rfl rfl (Nat.le_of_ble_eq_true rfl) dX11_tale_1 (MWi.mono h (fun r1 S1 h => ?_))
  refine r_if_ne ok 9 dX11_tale_4 (by decide) ⟨fun c => ?_, fun c => ?_⟩
  · have h := h.1 c
    refine r_aload_n ok 0 dX11_tale_9 rfl ?_
    refine r_getR ok 0 5 rfl rfl fo_X11_61 dX11_tale_10 ?_
    refine r_getI ok 31 5 rfl rfl fo_X11_245 dX11_tale_13 ?_
    refine r_iload_n ok 1 dX11_tale_16 rfl ?_
    refine r_icmp_eq ok 43 dX11_tale_17 (by decide) ⟨fun c => ?_, fun c => ?_⟩
    · have h := h.1 c
      refine r_iload_n ok 2 dX11_tale_43 rfl ?_
      refine r_iconst ok (-1) dX11_tale_44 (by decide) ?_
      refine r_icmp_ne ok 56 dX11_tale_45 (by decide) ⟨fun c => ?_, fun c => ?_⟩
      · have h := h.1 c
        refine r_iload_n ok 2 dX11_tale_56 rfl ?_
        refine r_if_lt ok 83 dX11_tale_57 (by decide) ⟨fun c => ?_, fun c => ?_⟩
        · have h := h.1 c
          refine r_bipush ok (-6) dX11_tale_83 (by decide) ?_
          exact r_iret ok rfl dX11_tale_85 h
        · have h := h.2 c
          refine r_iload_n ok 2 dX11_tale_60 rfl ?_
          refine r_aload_n ok 0 dX11_tale_61 rfl ?_
          refine r_getR ok 0 5 rfl rfl fo_X11_61 dX11_tale_62 ?_
          refine r_getI ok 31 4 rfl rfl fo_X11_251 dX11_tale_65 ?_
          refine r_icmp_ge ok 83 dX11_tale_68 (by decide) ⟨fun c => ?_, fun c => ?_⟩
          · have h := h.1 c
            refine r_bipush ok (-6) dX11_tale_83 (by decide) ?_
            exact r_iret ok rfl dX11_tale_85 h
          · have h := h.2 c
            refine r_aload_n ok 0 dX11_tale_71 rfl ?_
            refine r_getR ok 0 5 rfl rfl fo_X11_61 dX11_tale_72 ?_
            refine r_getR ok 31 3 rfl rfl fo_X11_252 dX11_tale_75 ?_
            refine r_iload_n ok 2 dX11_tale_78 rfl ?_
            refine r_iaload ok 34 rfl dX11_tale_79 h.1 ?_
            have h := h.2
            refine r_goto ok 85 dX11_tale_80 (by decide) ?_
            exact r_iret ok rfl dX11_tale_85 h
      · have h := h.2 c
        refine r_aload_n ok 0 dX11_tale_48 rfl ?_
        refine r_getR ok 0 5 rfl rfl fo_X11_61 dX11_tale_49 ?_
        refine r_getI ok 31 4 rfl rfl fo_X11_251 dX11_tale_52 ?_
        exact r_iret ok rfl dX11_tale_55 h
    · have h := h.2 c
      refine r_aload_n ok 0 dX11_tale_20 rfl ?_
      refine r_getR ok 0 5 rfl rfl fo_X11_61 dX11_tale_21 ?_
      refine r_aload_n ok 0 dX11_tale_24 rfl ?_
      refine r_getR ok 0 3 rfl rfl fo_X11_45 dX11_tale_25 ?_
      refine r_iload_n ok 1 dX11_tale_28 rfl ?_
      refine r_virti ok (rest := [.ref (g.ad 31)]) (As := [.int v1]) 25 _ k_X11_tale_221 rfl rfl rfl rfl (Nat.le_of_ble_eq_true rfl) dX11_tale_29 (MWi.mono h (fun r2 S2 h => ?_))
      refine r_virtv ok (rest := []) (As := [.int r2]) 31 _ k_X11_tale_248 rfl rfl rfl rfl (Nat.le_of_ble_eq_true rfl) dX11_tale_32 (MWv.mono h (fun S3 h => ?_))
      refine r_aload_n ok 0 dX11_tale_35 rfl ?_
      refine r_getR ok 0 5 rfl rfl fo_X11_61 dX11_tale_36 ?_
      refine r_iload_n ok 1 dX11_tale_39 rfl ?_
      refine r_put ok 31 5 rfl rfl po_X11_245 rfl rfl dX11_tale_40 ?_
      refine r_iload_n ok 2 dX11_tale_43 rfl ?_
      refine r_iconst ok (-1) dX11_tale_44 (by decide) ?_
      refine r_icmp_ne ok 56 dX11_tale_45 (by decide) ⟨fun c => ?_, fun c => ?_⟩
      · have h := h.1 c
        refine r_iload_n ok 2 dX11_tale_56 rfl ?_
        refine r_if_lt ok 83 dX11_tale_57 (by decide) ⟨fun c => ?_, fun c => ?_⟩
        · have h := h.1 c
          refine r_bipush ok (-6) dX11_tale_83 (by decide) ?_
          exact r_iret ok rfl dX11_tale_85 h
        · have h := h.2 c
          refine r_iload_n ok 2 dX11_tale_60 rfl ?_
          refine r_aload_n ok 0 dX11_tale_61 rfl ?_
          refine r_getR ok 0 5 rfl rfl fo_X11_61 dX11_tale_62 ?_
          refine r_getI ok 31 4 rfl rfl fo_X11_251 dX11_tale_65 ?_
          refine r_icmp_ge ok 83 dX11_tale_68 (by decide) ⟨fun c => ?_, fun c => ?_⟩
          · have h := h.1 c
            refine r_bipush ok (-6) dX11_tale_83 (by decide) ?_
            exact r_iret ok rfl dX11_tale_85 h
          · have h := h.2 c
            refine r_aload_n ok 0 dX11_tale_71 rfl ?_
            refine r_getR ok 0 5 rfl rfl fo_X11_61 dX11_tale_72 ?_
            refine r_getR ok 31 3 rfl rfl fo_X11_252 dX11_tale_75 ?_
            refine r_iload_n ok 2 dX11_tale_78 rfl ?_
            refine r_iaload ok 34 rfl dX11_tale_79 h.1 ?_
            have h := h.2
            refine r_goto ok 85 dX11_tale_80 (by decide) ?_
            exact r_iret ok rfl dX11_tale_85 h
      · have h := h.2 c
        refine r_aload_n ok 0 dX11_tale_48 rfl ?_
        refine r_getR ok 0 5 rfl rfl fo_X11_61 dX11_tale_49 ?_
        refine r_getI ok 31 4 rfl rfl fo_X11_251 dX11_tale_52 ?_
        exact r_iret ok rfl dX11_tale_55 h
  · have h := h.2 c
    refine r_iconst ok (-1) dX11_tale_7 (by decide) ?_
    exact r_iret ok rfl dX11_tale_8 h
set_option maxRecDepth 10000 in
theorem s_X11_answer_0 {l : Launch} {x : Cx} {g : Geo} {K : Int32 → Mem → Prop} (ok : Ok x g shX m_X11_answer) (v1 : Int32) (v2 : Int32) (S : Mem) (h : MWi l g shX m_X1_holds [.ref (g.ad 4), .int v1] S (fun r1 S1 => ((¬ r1 = 0 → (((S1 15 2) < (nI 20) → MWv l g shX m_X0_add [.ref (g.ad 15), .int v1, .int v2] S1 (fun S2 => K (S2 15 2) S2)) ∧ (¬ (S1 15 2) < (nI 20) → K (-4) S1))) ∧ (r1 = 0 → K (-1) S1)))) : PW l x g shX m_X11_answer (Qi x g shX K) 0 [(0, .ref (g.ad 0)), (1, .int v1), (2, .int v2)] [] S := by
  refine r_aload_n ok 0 dX11_answer_0 rfl ?_
  refine r_getR ok 0 1 rfl rfl fo_X11_19 dX11_answer_1 ?_
  refine r_getR ok 3 0 rfl rfl fo_X11_25 dX11_answer_4 ?_
  refine r_iload_n ok 1 dX11_answer_7 rfl ?_
  refine r_virti ok (rest := []) (As := [.int v1]) 4 _ k_X11_answer_124 rfl rfl rfl rfl (Nat.le_of_ble_eq_true rfl) dX11_answer_8 (MWi.mono h (fun r1 S1 h => ?_))
  refine r_if_ne ok 16 dX11_answer_11 (by decide) ⟨fun c => ?_, fun c => ?_⟩
  · have h := h.1 c
    refine r_aload_n ok 0 dX11_answer_16 rfl ?_
    refine r_getR ok 0 1 rfl rfl fo_X11_19 dX11_answer_17 ?_
    refine r_getR ok 3 2 rfl rfl fo_X11_67 dX11_answer_20 ?_
    refine r_getI ok 15 2 rfl rfl fo_X11_255 dX11_answer_23 ?_
    refine r_bipush ok (nI 20) dX11_answer_26 (by decide) ?_
    refine r_icmp_lt ok 34 dX11_answer_28 (by decide) ⟨fun c => ?_, fun c => ?_⟩
    · have h := h.1 c
      refine r_aload_n ok 0 dX11_answer_34 rfl ?_
      refine r_getR ok 0 1 rfl rfl fo_X11_19 dX11_answer_35 ?_
      refine r_getR ok 3 2 rfl rfl fo_X11_67 dX11_answer_38 ?_
      refine r_iload_n ok 1 dX11_answer_41 rfl ?_
      refine r_iload_n ok 2 dX11_answer_42 rfl ?_
      refine r_virtv ok (rest := []) (As := [.int v1, .int v2]) 15 _ k_X11_answer_258 rfl rfl rfl rfl (Nat.le_of_ble_eq_true rfl) dX11_answer_43 (MWv.mono h (fun S2 h => ?_))
      refine r_aload_n ok 0 dX11_answer_46 rfl ?_
      refine r_getR ok 0 1 rfl rfl fo_X11_19 dX11_answer_47 ?_
      refine r_getR ok 3 2 rfl rfl fo_X11_67 dX11_answer_50 ?_
      refine r_getI ok 15 2 rfl rfl fo_X11_255 dX11_answer_53 ?_
      exact r_iret ok rfl dX11_answer_56 h
    · have h := h.2 c
      refine r_bipush ok (-4) dX11_answer_31 (by decide) ?_
      exact r_iret ok rfl dX11_answer_33 h
  · have h := h.2 c
    refine r_iconst ok (-1) dX11_answer_14 (by decide) ?_
    exact r_iret ok rfl dX11_answer_15 h
set_option maxRecDepth 10000 in
theorem s_X11_clear_0 {l : Launch} {x : Cx} {g : Geo} {K : Int32 → Mem → Prop} (ok : Ok x g shX m_X11_clear) (S : Mem) (h : K (S 15 2) (st2 S 15 2 (nI 0))) : PW l x g shX m_X11_clear (Qi x g shX K) 0 [(0, .ref (g.ad 0))] [] S := by
  refine r_aload_n ok 0 dX11_clear_0 rfl ?_
  refine r_getR ok 0 1 rfl rfl fo_X11_19 dX11_clear_1 ?_
  refine r_getR ok 3 2 rfl rfl fo_X11_67 dX11_clear_4 ?_
  refine r_getI ok 15 2 rfl rfl fo_X11_255 dX11_clear_7 ?_
  refine r_istore_n ok [(1, .int (S 15 2)), (0, .ref (g.ad 0))] dX11_clear_10 (by decide) rfl ?_
  refine r_aload_n ok 1 dX11_clear_11 rfl ?_
  refine r_getR ok 0 1 rfl rfl fo_X11_19 dX11_clear_12 ?_
  refine r_getR ok 3 2 rfl rfl fo_X11_67 dX11_clear_15 ?_
  refine r_iconst ok (nI 0) dX11_clear_18 (by decide) ?_
  refine r_put ok 15 2 rfl rfl po_X11_255 rfl rfl dX11_clear_19 ?_
  refine r_iload_n ok 0 dX11_clear_22 rfl ?_
  exact r_iret ok rfl dX11_clear_23 h
set_option maxRecDepth 10000 in
theorem s_X11_may_0 {l : Launch} {x : Cx} {g : Geo} {K : Int32 → Mem → Prop} (ok : Ok x g shX m_X11_may) (S : Mem) (h : MWv l g shX m_X3_hear [.ref (g.ad 35)] S (fun S1 => MWi l g shX m_X3_countSets [.ref (g.ad 35), .int (nI 0)] S1 (fun r2 S2 => K r2 S2))) : PW l x g shX m_X11_may (Qi x g shX K) 0 [(0, .ref (g.ad 0))] [] S := by
  refine r_aload_n ok 0 dX11_may_0 rfl ?_
  refine r_getR ok 0 6 rfl rfl fo_X11_74 dX11_may_1 ?_
  refine r_virtv ok (rest := []) (As := []) 35 _ k_X11_may_261 rfl rfl rfl rfl (Nat.le_of_ble_eq_true rfl) dX11_may_4 (MWv.mono h (fun S1 h => ?_))
  refine r_aload_n ok 0 dX11_may_7 rfl ?_
  refine r_getR ok 0 6 rfl rfl fo_X11_74 dX11_may_8 ?_
  refine r_iconst ok (nI 0) dX11_may_11 (by decide) ?_
  refine r_virti ok (rest := []) (As := [.int (nI 0)]) 35 _ k_X11_may_264 rfl rfl rfl rfl (Nat.le_of_ble_eq_true rfl) dX11_may_12 (MWi.mono h (fun r2 S2 h => ?_))
  exact r_iret ok rfl dX11_may_15 h
set_option maxRecDepth 10000 in
theorem s_X11_lacks_0 {l : Launch} {x : Cx} {g : Geo} {K : Int64 → Mem → Prop} (ok : Ok x g shX m_X11_lacks) (v1 : Int32) (v2 : Int32) (S : Mem) (h : MWi l g shX m_X11_isSign [.int v1] S (fun r1 S1 => ((¬ r1 = 0 → MWi l g shX m_X11_isPart [.int v2] S1 (fun r2 S2 => ((¬ r2 = 0 → MWv l g shX m_X3_hear [.ref (g.ad 35)] S2 (fun S3 => MWi l g shX m_X3_countSets [.ref (g.ad 35), .int (nI 0)] S3 (fun r4 S4 => ((¬ r4 = 0 → MWi l g shX m_X3_countSets [.ref (g.ad 35), .int (jshl (nI 1) v1)] S4 (fun r5 S5 => MWl l g shX m_X11_fractionPart [.int r5, .int r4, .int v2] S5 (fun r6 S6 => K r6 S6))) ∧ (r4 = 0 → K (-1000000000000000005) S4))))) ∧ (r2 = 0 → K (-1000000000000000002) S2)))) ∧ (r1 = 0 → K (-1000000000000000001) S1)))) : PW l x g shX m_X11_lacks (Ql x g shX K) 0 [(0, .ref (g.ad 0)), (1, .int v1), (2, .int v2)] [] S := by
  refine r_iload_n ok 1 dX11_lacks_0 rfl ?_
  refine r_stati ok (rest := []) (As := [.int v1]) _ k_X11_lacks_147 rfl rfl (Nat.le_of_ble_eq_true rfl) dX11_lacks_1 (MWi.mono h (fun r1 S1 h => ?_))
  refine r_if_ne ok 11 dX11_lacks_4 (by decide) ⟨fun c => ?_, fun c => ?_⟩
  · have h := h.1 c
    refine r_iload_n ok 2 dX11_lacks_11 rfl ?_
    refine r_stati ok (rest := []) (As := [.int v2]) _ k_X11_lacks_152 rfl rfl (Nat.le_of_ble_eq_true rfl) dX11_lacks_12 (MWi.mono h (fun r2 S2 h => ?_))
    refine r_if_ne ok 22 dX11_lacks_15 (by decide) ⟨fun c => ?_, fun c => ?_⟩
    · have h := h.1 c
      refine r_aload_n ok 0 dX11_lacks_22 rfl ?_
      refine r_getR ok 0 6 rfl rfl fo_X11_74 dX11_lacks_23 ?_
      refine r_virtv ok (rest := []) (As := []) 35 _ k_X11_lacks_261 rfl rfl rfl rfl (Nat.le_of_ble_eq_true rfl) dX11_lacks_26 (MWv.mono h (fun S3 h => ?_))
      refine r_aload_n ok 0 dX11_lacks_29 rfl ?_
      refine r_getR ok 0 6 rfl rfl fo_X11_74 dX11_lacks_30 ?_
      refine r_iconst ok (nI 0) dX11_lacks_33 (by decide) ?_
      refine r_virti ok (rest := []) (As := [.int (nI 0)]) 35 _ k_X11_lacks_264 rfl rfl rfl rfl (Nat.le_of_ble_eq_true rfl) dX11_lacks_34 (MWi.mono h (fun r4 S4 h => ?_))
      refine r_istore_n ok [(3, .int r4), (0, .ref (g.ad 0)), (1, .int v1), (2, .int v2)] dX11_lacks_37 (by decide) rfl ?_
      refine r_iload_n ok 0 dX11_lacks_38 rfl ?_
      refine r_if_ne ok 46 dX11_lacks_39 (by decide) ⟨fun c => ?_, fun c => ?_⟩
      · have h := h.1 c
        refine r_aload_n ok 1 dX11_lacks_46 rfl ?_
        refine r_getR ok 0 6 rfl rfl fo_X11_74 dX11_lacks_47 ?_
        refine r_iconst ok (nI 1) dX11_lacks_50 (by decide) ?_
        refine r_iload_n ok 2 dX11_lacks_51 rfl ?_
        refine r_ishl ok dX11_lacks_52 ?_
        refine r_virti ok (rest := []) (As := [.int (jshl (nI 1) v1)]) 35 _ k_X11_lacks_264 rfl rfl rfl rfl (Nat.le_of_ble_eq_true rfl) dX11_lacks_53 (MWi.mono h (fun r5 S5 h => ?_))
        refine r_iload_n ok 0 dX11_lacks_56 rfl ?_
        refine r_iload_n ok 3 dX11_lacks_57 rfl ?_
        refine r_statl ok (rest := []) (As := [.int r5, .int r4, .int v2]) _ k_X11_lacks_163 rfl rfl (Nat.le_of_ble_eq_true rfl) dX11_lacks_58 (MWl.mono h (fun r6 S6 h => ?_))
        exact r_lret ok rfl dX11_lacks_61 h
      · have h := h.2 c
        refine r_ldc2 ok (-1000000000000000005) dX11_lacks_42 (gt_in (List.mem_of_getElem? (i := 807) (by decide +kernel)) rfl) ?_
        exact r_lret ok rfl dX11_lacks_45 h
    · have h := h.2 c
      refine r_ldc2 ok (-1000000000000000002) dX11_lacks_18 (gt_in (List.mem_of_getElem? (i := 571) (by decide +kernel)) rfl) ?_
      exact r_lret ok rfl dX11_lacks_21 h
  · have h := h.2 c
    refine r_ldc2 ok (-1000000000000000001) dX11_lacks_7 (gt_in (List.mem_of_getElem? (i := 567) (by decide +kernel)) rfl) ?_
    exact r_lret ok rfl dX11_lacks_10 h
set_option maxRecDepth 10000 in
theorem s_X11_tells_0 {l : Launch} {x : Cx} {g : Geo} {K : Int32 → Mem → Prop} (ok : Ok x g shX m_X11_tells) (S : Mem) (h : MWv l g shX m_X3_hear [.ref (g.ad 35)] S (fun S1 => MWi l g shX m_X3_bestQuestion [.ref (g.ad 35)] S1 (fun r2 S2 => K r2 S2))) : PW l x g shX m_X11_tells (Qi x g shX K) 0 [(0, .ref (g.ad 0))] [] S := by
  refine r_aload_n ok 0 dX11_tells_0 rfl ?_
  refine r_getR ok 0 6 rfl rfl fo_X11_74 dX11_tells_1 ?_
  refine r_virtv ok (rest := []) (As := []) 35 _ k_X11_tells_261 rfl rfl rfl rfl (Nat.le_of_ble_eq_true rfl) dX11_tells_4 (MWv.mono h (fun S1 h => ?_))
  refine r_aload_n ok 0 dX11_tells_7 rfl ?_
  refine r_getR ok 0 6 rfl rfl fo_X11_74 dX11_tells_8 ?_
  refine r_virti ok (rest := []) (As := []) 35 _ k_X11_tells_269 rfl rfl rfl rfl (Nat.le_of_ble_eq_true rfl) dX11_tells_11 (MWi.mono h (fun r2 S2 h => ?_))
  exact r_iret ok rfl dX11_tells_14 h
set_option maxRecDepth 10000 in
theorem s_X11_test_0 {l : Launch} {x : Cx} {g : Geo} {K : Int32 → Mem → Prop} (ok : Ok x g shX m_X11_test) (S : Mem) (h : MWi l g shX m_X3_leastTest [.ref (g.ad 35)] S (fun r1 S1 => K r1 S1)) : PW l x g shX m_X11_test (Qi x g shX K) 0 [(0, .ref (g.ad 0))] [] S := by
  refine r_aload_n ok 0 dX11_test_0 rfl ?_
  refine r_getR ok 0 6 rfl rfl fo_X11_74 dX11_test_1 ?_
  refine r_virti ok (rest := []) (As := []) 35 _ k_X11_test_272 rfl rfl rfl rfl (Nat.le_of_ble_eq_true rfl) dX11_test_4 (MWi.mono h (fun r1 S1 h => ?_))
  exact r_iret ok rfl dX11_test_7 h
set_option maxRecDepth 10000 in
theorem s_X11_respelt_0 {l : Launch} {x : Cx} {g : Geo} {K : Int32 → Mem → Prop} (ok : Ok x g shX m_X11_respelt) (v1 : Int32) (v2 : Int32) (S : Mem) (h : MWi l g shX m_X1_holds [.ref (g.ad 4), .int v1] S (fun r1 S1 => ((¬ r1 = 0 → ((v2 < 0 → K (-2) S1) ∧ (¬ v2 < 0 → ((v2 < (nI 5) → (vp_in v1 12 ∧ (((S1 5 (cl v1)) ≤ v2 → K (-6) S1) ∧ (¬ (S1 5 (cl v1)) ≤ v2 → MWi l g shX m_X8_newSign [.ref (g.ad 18), .int v1, .int v2] S1 (fun r2 S2 => K r2 S2))))) ∧ (¬ v2 < (nI 5) → K (-2) S1))))) ∧ (r1 = 0 → K (-1) S1)))) : PW l x g shX m_X11_respelt (Qi x g shX K) 0 [(0, .ref (g.ad 0)), (1, .int v1), (2, .int v2)] [] S := by
  refine r_aload_n ok 0 dX11_respelt_0 rfl ?_
  refine r_getR ok 0 1 rfl rfl fo_X11_19 dX11_respelt_1 ?_
  refine r_getR ok 3 0 rfl rfl fo_X11_25 dX11_respelt_4 ?_
  refine r_iload_n ok 1 dX11_respelt_7 rfl ?_
  refine r_virti ok (rest := []) (As := [.int v1]) 4 _ k_X11_respelt_124 rfl rfl rfl rfl (Nat.le_of_ble_eq_true rfl) dX11_respelt_8 (MWi.mono h (fun r1 S1 h => ?_))
  refine r_if_ne ok 16 dX11_respelt_11 (by decide) ⟨fun c => ?_, fun c => ?_⟩
  · have h := h.1 c
    refine r_iload_n ok 2 dX11_respelt_16 rfl ?_
    refine r_if_lt ok 25 dX11_respelt_17 (by decide) ⟨fun c => ?_, fun c => ?_⟩
    · have h := h.1 c
      refine r_bipush ok (-2) dX11_respelt_25 (by decide) ?_
      exact r_iret ok rfl dX11_respelt_27 h
    · have h := h.2 c
      refine r_iload_n ok 2 dX11_respelt_20 rfl ?_
      refine r_iconst ok (nI 5) dX11_respelt_21 (by decide) ?_
      refine r_icmp_lt ok 28 dX11_respelt_22 (by decide) ⟨fun c => ?_, fun c => ?_⟩
      · have h := h.1 c
        refine r_iload_n ok 2 dX11_respelt_28 rfl ?_
        refine r_aload_n ok 0 dX11_respelt_29 rfl ?_
        refine r_getR ok 0 1 rfl rfl fo_X11_19 dX11_respelt_30 ?_
        refine r_getR ok 3 0 rfl rfl fo_X11_25 dX11_respelt_33 ?_
        refine r_getR ok 4 0 rfl rfl fo_X11_135 dX11_respelt_36 ?_
        refine r_iload_n ok 1 dX11_respelt_39 rfl ?_
        refine r_iaload ok 5 rfl dX11_respelt_40 h.1 ?_
        have h := h.2
        refine r_icmp_ge ok 56 dX11_respelt_41 (by decide) ⟨fun c => ?_, fun c => ?_⟩
        · have h := h.1 c
          refine r_bipush ok (-6) dX11_respelt_56 (by decide) ?_
          exact r_iret ok rfl dX11_respelt_58 h
        · have h := h.2 c
          refine r_aload_n ok 0 dX11_respelt_44 rfl ?_
          refine r_getR ok 0 2 rfl rfl fo_X11_32 dX11_respelt_45 ?_
          refine r_iload_n ok 1 dX11_respelt_48 rfl ?_
          refine r_iload_n ok 2 dX11_respelt_49 rfl ?_
          refine r_virti ok (rest := []) (As := [.int v1, .int v2]) 18 _ k_X11_respelt_275 rfl rfl rfl rfl (Nat.le_of_ble_eq_true rfl) dX11_respelt_50 (MWi.mono h (fun r2 S2 h => ?_))
          refine r_goto ok 58 dX11_respelt_53 (by decide) ?_
          exact r_iret ok rfl dX11_respelt_58 h
      · have h := h.2 c
        refine r_bipush ok (-2) dX11_respelt_25 (by decide) ?_
        exact r_iret ok rfl dX11_respelt_27 h
  · have h := h.2 c
    refine r_iconst ok (-1) dX11_respelt_14 (by decide) ?_
    exact r_iret ok rfl dX11_respelt_15 h
set_option maxRecDepth 10000 in
theorem s_X11_price_0 {l : Launch} {x : Cx} {g : Geo} {K : Int32 → Mem → Prop} (ok : Ok x g shX m_X11_price) (v1 : Int32) (S : Mem) (h : ((v1 = nI 0 → MWi l g shX m_X8_changedPlaces [.ref (g.ad 18)] S (fun r1 S1 => K r1 S1)) ∧ (v1 = nI 1 → MWi l g shX m_X8_firstClash [.ref (g.ad 18)] S (fun r2 S2 => K r2 S2)) ∧ ((v1.toInt < 0 ∨ 1 < v1.toInt) → K (-2) S))) : PW l x g shX m_X11_price (Qi x g shX K) 0 [(0, .ref (g.ad 0)), (1, .int v1)] [] S := by
  refine r_iload_n ok 1 dX11_price_0 rfl ?_
  rcases sw1 v1 with e | e | e
  · have h := h.1 e
    rw [e]
    refine r_lookup ok 28 dX11_price_1 (by decide) rfl (by decide) ?_
    refine r_aload_n ok 0 dX11_price_28 rfl ?_
    refine r_getR ok 0 2 rfl rfl fo_X11_32 dX11_price_29 ?_
    refine r_virti ok (rest := []) (As := []) 18 _ k_X11_price_278 rfl rfl rfl rfl (Nat.le_of_ble_eq_true rfl) dX11_price_32 (MWi.mono h (fun r1 S1 h => ?_))
    exact r_iret ok rfl dX11_price_35 h
  · have h := h.2.1 e
    rw [e]
    refine r_lookup ok 36 dX11_price_1 (by decide) rfl (by decide) ?_
    refine r_aload_n ok 0 dX11_price_36 rfl ?_
    refine r_getR ok 0 2 rfl rfl fo_X11_32 dX11_price_37 ?_
    refine r_virti ok (rest := []) (As := []) 18 _ k_X11_price_281 rfl rfl rfl rfl (Nat.le_of_ble_eq_true rfl) dX11_price_40 (MWi.mono h (fun r2 S2 h => ?_))
    exact r_iret ok rfl dX11_price_43 h
  · have h := h.2.2 e
    refine r_lookup ok 44 dX11_price_1 (by decide) (lk_out2 e) (by decide) ?_
    refine r_bipush ok (-2) dX11_price_44 (by decide) ?_
    exact r_iret ok rfl dX11_price_46 h
set_option maxRecDepth 10000 in
theorem s_X11_lessons_0 {l : Launch} {x : Cx} {g : Geo} {K : Int32 → Mem → Prop} (ok : Ok x g shX m_X11_lessons) (v1 : Int32) (v2 : Int32) (S : Mem) (h : MWi l g shX m_X11_isChild [.int v1] S (fun r1 S1 => ((¬ r1 = 0 → ((v2 < 0 → K (-2) S1) ∧ (¬ v2 < 0 → ((v2 ≤ (nI 12) → MWv l g shX m_X4_findBest [.ref (g.ad 39), .int v1] S1 (fun S2 => MWi l g shX m_X4_bestShare [.ref (g.ad 39), .int v1, .int v2] S2 (fun r3 S3 => K r3 S3))) ∧ (¬ v2 ≤ (nI 12) → K (-2) S1))))) ∧ (r1 = 0 → K (-1) S1)))) : PW l x g shX m_X11_lessons (Qi x g shX K) 0 [(0, .ref (g.ad 0)), (1, .int v1), (2, .int v2)] [] S := by
  refine r_iload_n ok 1 dX11_lessons_0 rfl ?_
  refine r_stati ok (rest := []) (As := [.int v1]) _ k_X11_lessons_176 rfl rfl (Nat.le_of_ble_eq_true rfl) dX11_lessons_1 (MWi.mono h (fun r1 S1 h => ?_))
  refine r_if_ne ok 9 dX11_lessons_4 (by decide) ⟨fun c => ?_, fun c => ?_⟩
  · have h := h.1 c
    refine r_iload_n ok 2 dX11_lessons_9 rfl ?_
    refine r_if_lt ok 19 dX11_lessons_10 (by decide) ⟨fun c => ?_, fun c => ?_⟩
    · have h := h.1 c
      refine r_bipush ok (-2) dX11_lessons_19 (by decide) ?_
      exact r_iret ok rfl dX11_lessons_21 h
    · have h := h.2 c
      refine r_iload_n ok 2 dX11_lessons_13 rfl ?_
      refine r_bipush ok (nI 12) dX11_lessons_14 (by decide) ?_
      refine r_icmp_le ok 22 dX11_lessons_16 (by decide) ⟨fun c => ?_, fun c => ?_⟩
      · have h := h.1 c
        refine r_aload_n ok 0 dX11_lessons_22 rfl ?_
        refine r_getR ok 0 7 rfl rfl fo_X11_83 dX11_lessons_23 ?_
        refine r_iload_n ok 1 dX11_lessons_26 rfl ?_
        refine r_virtv ok (rest := []) (As := [.int v1]) 39 _ k_X11_lessons_284 rfl rfl rfl rfl (Nat.le_of_ble_eq_true rfl) dX11_lessons_27 (MWv.mono h (fun S2 h => ?_))
        refine r_aload_n ok 0 dX11_lessons_30 rfl ?_
        refine r_getR ok 0 7 rfl rfl fo_X11_83 dX11_lessons_31 ?_
        refine r_iload_n ok 1 dX11_lessons_34 rfl ?_
        refine r_iload_n ok 2 dX11_lessons_35 rfl ?_
        refine r_virti ok (rest := []) (As := [.int v1, .int v2]) 39 _ k_X11_lessons_287 rfl rfl rfl rfl (Nat.le_of_ble_eq_true rfl) dX11_lessons_36 (MWi.mono h (fun r3 S3 h => ?_))
        exact r_iret ok rfl dX11_lessons_39 h
      · have h := h.2 c
        refine r_bipush ok (-2) dX11_lessons_19 (by decide) ?_
        exact r_iret ok rfl dX11_lessons_21 h
  · have h := h.2 c
    refine r_iconst ok (-1) dX11_lessons_7 (by decide) ?_
    exact r_iret ok rfl dX11_lessons_8 h
set_option maxRecDepth 10000 in
theorem s_X11_shared_0 {l : Launch} {x : Cx} {g : Geo} {K : Int32 → Mem → Prop} (ok : Ok x g shX m_X11_shared) (v1 : Int32) (v2 : Int32) (S : Mem) (h : ((v2 = (-1) → ((v1 < 0 → K (-2) S) ∧ (¬ v1 < 0 → ((v1 ≤ (nI 12) → MWv l g shX m_X4_split [.ref (g.ad 39), .int v1] S (fun S1 => ((¬ v2 = (-1) → (vp_in v2 4 ∧ K (S1 43 (cl v2)) S1)) ∧ (v2 = (-1) → K (S1 39 7) S1)))) ∧ (¬ v1 ≤ (nI 12) → K (-2) S))))) ∧ (¬ v2 = (-1) → MWi l g shX m_X11_isChild [.int v2] S (fun r2 S2 => ((¬ r2 = 0 → ((v1 < 0 → K (-2) S2) ∧ (¬ v1 < 0 → ((v1 ≤ (nI 12) → MWv l g shX m_X4_split [.ref (g.ad 39), .int v1] S2 (fun S3 => ((¬ v2 = (-1) → (vp_in v2 4 ∧ K (S3 43 (cl v2)) S3)) ∧ (v2 = (-1) → K (S3 39 7) S3)))) ∧ (¬ v1 ≤ (nI 12) → K (-2) S2))))) ∧ (r2 = 0 → K (-1) S2)))))) : PW l x g shX m_X11_shared (Qi x g shX K) 0 [(0, .ref (g.ad 0)), (1, .int v1), (2, .int v2)] [] S := by
  refine r_iload_n ok 2 dX11_shared_0 rfl ?_
  refine r_iconst ok (-1) dX11_shared_1 (by decide) ?_
  refine r_icmp_eq ok 14 dX11_shared_2 (by decide) ⟨fun c => ?_, fun c => ?_⟩
  · have h := h.1 c
    refine r_iload_n ok 1 dX11_shared_14 rfl ?_
    refine r_if_lt ok 24 dX11_shared_15 (by decide) ⟨fun c => ?_, fun c => ?_⟩
    · have h := h.1 c
      refine r_bipush ok (-2) dX11_shared_24 (by decide) ?_
      exact r_iret ok rfl dX11_shared_26 h
    · have h := h.2 c
      refine r_iload_n ok 1 dX11_shared_18 rfl ?_
      refine r_bipush ok (nI 12) dX11_shared_19 (by decide) ?_
      refine r_icmp_le ok 27 dX11_shared_21 (by decide) ⟨fun c => ?_, fun c => ?_⟩
      · have h := h.1 c
        refine r_aload_n ok 0 dX11_shared_27 rfl ?_
        refine r_getR ok 0 7 rfl rfl fo_X11_83 dX11_shared_28 ?_
        refine r_iload_n ok 1 dX11_shared_31 rfl ?_
        refine r_virtv ok (rest := []) (As := [.int v1]) 39 _ k_X11_shared_290 rfl rfl rfl rfl (Nat.le_of_ble_eq_true rfl) dX11_shared_32 (MWv.mono h (fun S1 h => ?_))
        refine r_iload_n ok 2 dX11_shared_35 rfl ?_
        refine r_iconst ok (-1) dX11_shared_36 (by decide) ?_
        refine r_icmp_ne ok 50 dX11_shared_37 (by decide) ⟨fun c => ?_, fun c => ?_⟩
        · have h := h.1 c
          refine r_aload_n ok 0 dX11_shared_50 rfl ?_
          refine r_getR ok 0 7 rfl rfl fo_X11_83 dX11_shared_51 ?_
          refine r_getR ok 39 6 rfl rfl fo_X11_296 dX11_shared_54 ?_
          refine r_iload_n ok 2 dX11_shared_57 rfl ?_
          refine r_iaload ok 43 rfl dX11_shared_58 h.1 ?_
          have h := h.2
          exact r_iret ok rfl dX11_shared_59 h
        · have h := h.2 c
          refine r_aload_n ok 0 dX11_shared_40 rfl ?_
          refine r_getR ok 0 7 rfl rfl fo_X11_83 dX11_shared_41 ?_
          refine r_getI ok 39 7 rfl rfl fo_X11_293 dX11_shared_44 ?_
          refine r_goto ok 59 dX11_shared_47 (by decide) ?_
          exact r_iret ok rfl dX11_shared_59 h
      · have h := h.2 c
        refine r_bipush ok (-2) dX11_shared_24 (by decide) ?_
        exact r_iret ok rfl dX11_shared_26 h
  · have h := h.2 c
    refine r_iload_n ok 2 dX11_shared_5 rfl ?_
    refine r_stati ok (rest := []) (As := [.int v2]) _ k_X11_shared_176 rfl rfl (Nat.le_of_ble_eq_true rfl) dX11_shared_6 (MWi.mono h (fun r2 S2 h => ?_))
    refine r_if_ne ok 14 dX11_shared_9 (by decide) ⟨fun c => ?_, fun c => ?_⟩
    · have h := h.1 c
      refine r_iload_n ok 1 dX11_shared_14 rfl ?_
      refine r_if_lt ok 24 dX11_shared_15 (by decide) ⟨fun c => ?_, fun c => ?_⟩
      · have h := h.1 c
        refine r_bipush ok (-2) dX11_shared_24 (by decide) ?_
        exact r_iret ok rfl dX11_shared_26 h
      · have h := h.2 c
        refine r_iload_n ok 1 dX11_shared_18 rfl ?_
        refine r_bipush ok (nI 12) dX11_shared_19 (by decide) ?_
        refine r_icmp_le ok 27 dX11_shared_21 (by decide) ⟨fun c => ?_, fun c => ?_⟩
        · have h := h.1 c
          refine r_aload_n ok 0 dX11_shared_27 rfl ?_
          refine r_getR ok 0 7 rfl rfl fo_X11_83 dX11_shared_28 ?_
          refine r_iload_n ok 1 dX11_shared_31 rfl ?_
          refine r_virtv ok (rest := []) (As := [.int v1]) 39 _ k_X11_shared_290 rfl rfl rfl rfl (Nat.le_of_ble_eq_true rfl) dX11_shared_32 (MWv.mono h (fun S3 h => ?_))
          refine r_iload_n ok 2 dX11_shared_35 rfl ?_
          refine r_iconst ok (-1) dX11_shared_36 (by decide) ?_
          refine r_icmp_ne ok 50 dX11_shared_37 (by decide) ⟨fun c => ?_, fun c => ?_⟩
          · have h := h.1 c
            refine r_aload_n ok 0 dX11_shared_50 rfl ?_
            refine r_getR ok 0 7 rfl rfl fo_X11_83 dX11_shared_51 ?_
            refine r_getR ok 39 6 rfl rfl fo_X11_296 dX11_shared_54 ?_
            refine r_iload_n ok 2 dX11_shared_57 rfl ?_
            refine r_iaload ok 43 rfl dX11_shared_58 h.1 ?_
            have h := h.2
            exact r_iret ok rfl dX11_shared_59 h
          · have h := h.2 c
            refine r_aload_n ok 0 dX11_shared_40 rfl ?_
            refine r_getR ok 0 7 rfl rfl fo_X11_83 dX11_shared_41 ?_
            refine r_getI ok 39 7 rfl rfl fo_X11_293 dX11_shared_44 ?_
            refine r_goto ok 59 dX11_shared_47 (by decide) ?_
            exact r_iret ok rfl dX11_shared_59 h
        · have h := h.2 c
          refine r_bipush ok (-2) dX11_shared_24 (by decide) ?_
          exact r_iret ok rfl dX11_shared_26 h
    · have h := h.2 c
      refine r_iconst ok (-1) dX11_shared_12 (by decide) ?_
      exact r_iret ok rfl dX11_shared_13 h
set_option maxRecDepth 10000 in
theorem s_X11_itself_0 {l : Launch} {x : Cx} {g : Geo} {K : Int32 → Mem → Prop} (ok : Ok x g shX m_X11_itself) (v1 : Int32) (v2 : Int32) (v3 : Int32) (S : Mem) (h : MWi l g shX m_X11_isChild [.int v1] S (fun r1 S1 => ((¬ r1 = 0 → ((v2 < 0 → K (-2) S1) ∧ (¬ v2 < 0 → (((nI 1000) < v2 → K (-2) S1) ∧ (¬ (nI 1000) < v2 → ((v3 < 0 → K (-2) S1) ∧ (¬ v3 < 0 → ((v3 ≤ (nI 1) → MWi l g shX m_X6_readable [.ref (g.ad 25), .int v1] S1 (fun r2 S2 => MWi l g shX m_X6_readableAtLast [.ref (g.ad 25), .int r2, .int v2] S2 (fun r3 S3 => ((¬ v3 = 0 → MWi l g shX m_X1_timesOf [.ref (g.ad 4), .int r3] S3 (fun r4 S4 => K r4 S4)) ∧ (v3 = 0 → MWi l g shX m_J6_bitCount_0f7a4 [.int (r3 ^^^ r2)] S3 (fun r5 S5 => K r5 S5)))))) ∧ (¬ v3 ≤ (nI 1) → K (-2) S1))))))))) ∧ (r1 = 0 → K (-1) S1)))) : PW l x g shX m_X11_itself (Qi x g shX K) 0 [(0, .ref (g.ad 0)), (1, .int v1), (2, .int v2), (3, .int v3)] [] S := by
  refine r_iload_n ok 1 dX11_itself_0 rfl ?_
  refine r_stati ok (rest := []) (As := [.int v1]) _ k_X11_itself_176 rfl rfl (Nat.le_of_ble_eq_true rfl) dX11_itself_1 (MWi.mono h (fun r1 S1 h => ?_))
  refine r_if_ne ok 9 dX11_itself_4 (by decide) ⟨fun c => ?_, fun c => ?_⟩
  · have h := h.1 c
    refine r_iload_n ok 2 dX11_itself_9 rfl ?_
    refine r_if_lt ok 29 dX11_itself_10 (by decide) ⟨fun c => ?_, fun c => ?_⟩
    · have h := h.1 c
      refine r_bipush ok (-2) dX11_itself_29 (by decide) ?_
      exact r_iret ok rfl dX11_itself_31 h
    · have h := h.2 c
      refine r_iload_n ok 2 dX11_itself_13 rfl ?_
      refine r_sipush ok (nI 1000) dX11_itself_14 (by decide) ?_
      refine r_icmp_gt ok 29 dX11_itself_17 (by decide) ⟨fun c => ?_, fun c => ?_⟩
      · have h := h.1 c
        refine r_bipush ok (-2) dX11_itself_29 (by decide) ?_
        exact r_iret ok rfl dX11_itself_31 h
      · have h := h.2 c
        refine r_iload_n ok 3 dX11_itself_20 rfl ?_
        refine r_if_lt ok 29 dX11_itself_21 (by decide) ⟨fun c => ?_, fun c => ?_⟩
        · have h := h.1 c
          refine r_bipush ok (-2) dX11_itself_29 (by decide) ?_
          exact r_iret ok rfl dX11_itself_31 h
        · have h := h.2 c
          refine r_iload_n ok 3 dX11_itself_24 rfl ?_
          refine r_iconst ok (nI 1) dX11_itself_25 (by decide) ?_
          refine r_icmp_le ok 32 dX11_itself_26 (by decide) ⟨fun c => ?_, fun c => ?_⟩
          · have h := h.1 c
            refine r_aload_n ok 0 dX11_itself_32 rfl ?_
            refine r_getR ok 0 3 rfl rfl fo_X11_45 dX11_itself_33 ?_
            refine r_iload_n ok 1 dX11_itself_36 rfl ?_
            refine r_virti ok (rest := []) (As := [.int v1]) 25 _ k_X11_itself_221 rfl rfl rfl rfl (Nat.le_of_ble_eq_true rfl) dX11_itself_37 (MWi.mono h (fun r2 S2 h => ?_))
            refine r_istore ok [(4, .int r2), (0, .ref (g.ad 0)), (1, .int v1), (2, .int v2), (3, .int v3)] dX11_itself_40 (by decide) rfl ?_
            refine r_aload_n ok 1 dX11_itself_42 rfl ?_
            refine r_getR ok 0 3 rfl rfl fo_X11_45 dX11_itself_43 ?_
            refine r_iload ok 0 dX11_itself_46 rfl ?_
            refine r_iload_n ok 3 dX11_itself_48 rfl ?_
            refine r_virti ok (rest := []) (As := [.int r2, .int v2]) 25 _ k_X11_itself_299 rfl rfl rfl rfl (Nat.le_of_ble_eq_true rfl) dX11_itself_49 (MWi.mono h (fun r3 S3 h => ?_))
            refine r_istore ok [(5, .int r3), (4, .int r2), (0, .ref (g.ad 0)), (1, .int v1), (2, .int v2), (3, .int v3)] dX11_itself_52 (by decide) rfl ?_
            refine r_iload_n ok 5 dX11_itself_54 rfl ?_
            refine r_if_ne ok 69 dX11_itself_55 (by decide) ⟨fun c => ?_, fun c => ?_⟩
            · have h := h.1 c
              refine r_aload_n ok 2 dX11_itself_69 rfl ?_
              refine r_getR ok 0 1 rfl rfl fo_X11_19 dX11_itself_70 ?_
              refine r_getR ok 3 0 rfl rfl fo_X11_25 dX11_itself_73 ?_
              refine r_iload ok 0 dX11_itself_76 rfl ?_
              refine r_virti ok (rest := []) (As := [.int r3]) 4 _ k_X11_itself_224 rfl rfl rfl rfl (Nat.le_of_ble_eq_true rfl) dX11_itself_78 (MWi.mono h (fun r4 S4 h => ?_))
              exact r_iret ok rfl dX11_itself_81 h
            · have h := h.2 c
              refine r_iload ok 0 dX11_itself_58 rfl ?_
              refine r_iload ok 1 dX11_itself_60 rfl ?_
              refine r_ixor ok dX11_itself_62 ?_
              refine r_stati ok (rest := []) (As := [.int (r3 ^^^ r2)]) _ k_X11_itself_302 rfl rfl (Nat.le_of_ble_eq_true rfl) dX11_itself_63 (MWi.mono h (fun r5 S5 h => ?_))
              refine r_goto ok 81 dX11_itself_66 (by decide) ?_
              exact r_iret ok rfl dX11_itself_81 h
          · have h := h.2 c
            refine r_bipush ok (-2) dX11_itself_29 (by decide) ?_
            exact r_iret ok rfl dX11_itself_31 h
  · have h := h.2 c
    refine r_iconst ok (-1) dX11_itself_7 (by decide) ?_
    exact r_iret ok rfl dX11_itself_8 h
set_option maxRecDepth 10000 in
theorem s_X11_line_0 {l : Launch} {x : Cx} {g : Geo} {K : Int32 → Mem → Prop} (ok : Ok x g shX m_X11_line) (v1 : Int32) (S : Mem) (h : MWi l g shX m_X11_isChild [.int v1] S (fun r1 S1 => ((r1 = 0 → K (-1) S1) ∧ (¬ r1 = 0 → MWi l g shX m_X6_readable [.ref (g.ad 25), .int v1] S1 (fun r2 S2 => MWi l g shX m_X6_highestLine [.ref (g.ad 25), .int r2] S2 (fun r3 S3 => K r3 S3)))))) : PW l x g shX m_X11_line (Qi x g shX K) 0 [(0, .ref (g.ad 0)), (1, .int v1)] [] S := by
  refine r_iload_n ok 1 dX11_line_0 rfl ?_
  refine r_stati ok (rest := []) (As := [.int v1]) _ k_X11_line_176 rfl rfl (Nat.le_of_ble_eq_true rfl) dX11_line_1 (MWi.mono h (fun r1 S1 h => ?_))
  refine r_if_eq ok 25 dX11_line_4 (by decide) ⟨fun c => ?_, fun c => ?_⟩
  · have h := h.1 c
    refine r_iconst ok (-1) dX11_line_25 (by decide) ?_
    exact r_iret ok rfl dX11_line_26 h
  · have h := h.2 c
    refine r_aload_n ok 0 dX11_line_7 rfl ?_
    refine r_getR ok 0 3 rfl rfl fo_X11_45 dX11_line_8 ?_
    refine r_aload_n ok 0 dX11_line_11 rfl ?_
    refine r_getR ok 0 3 rfl rfl fo_X11_45 dX11_line_12 ?_
    refine r_iload_n ok 1 dX11_line_15 rfl ?_
    refine r_virti ok (rest := [.ref (g.ad 25)]) (As := [.int v1]) 25 _ k_X11_line_221 rfl rfl rfl rfl (Nat.le_of_ble_eq_true rfl) dX11_line_16 (MWi.mono h (fun r2 S2 h => ?_))
    refine r_virti ok (rest := []) (As := [.int r2]) 25 _ k_X11_line_307 rfl rfl rfl rfl (Nat.le_of_ble_eq_true rfl) dX11_line_19 (MWi.mono h (fun r3 S3 h => ?_))
    refine r_goto ok 26 dX11_line_22 (by decide) ?_
    exact r_iret ok rfl dX11_line_26 h
set_option maxRecDepth 10000 in
theorem s_X11_image_0 {l : Launch} {x : Cx} {g : Geo} {K : Int32 → Mem → Prop} (ok : Ok x g shX m_X11_image) (v1 : Int32) (S : Mem) (h : ((v1 < 0 → K (-2) S) ∧ (¬ v1 < 0 → ((v1 < (nI 2) → ((v1 = nI 0 ∨ v1 = nI 1) ∧ ((v1 = nI 0 → MWv l g shX m_X7_copyFrom [.ref (g.ad 46), .ref (g.ad 3)] S (fun S1 => (vp_in (nI 0) 2 ∧ K (nI 1) (st2 S1 45 (cl (nI 0)) (nI 1))))) ∧ (v1 = nI 1 → MWv l g shX m_X7_copyFrom [.ref (g.ad 61), .ref (g.ad 3)] S (fun S2 => (vp_in (nI 1) 2 ∧ K (nI 1) (st2 S2 45 (cl (nI 1)) (nI 1)))))))) ∧ (¬ v1 < (nI 2) → K (-2) S))))) : PW l x g shX m_X11_image (Qi x g shX K) 0 [(0, .ref (g.ad 0)), (1, .int v1)] [] S := by
  refine r_iload_n ok 1 dX11_image_0 rfl ?_
  refine r_if_lt ok 9 dX11_image_1 (by decide) ⟨fun c => ?_, fun c => ?_⟩
  · have h := h.1 c
    refine r_bipush ok (-2) dX11_image_9 (by decide) ?_
    exact r_iret ok rfl dX11_image_11 h
  · have h := h.2 c
    refine r_iload_n ok 1 dX11_image_4 rfl ?_
    refine r_iconst ok (nI 2) dX11_image_5 (by decide) ?_
    refine r_icmp_lt ok 12 dX11_image_6 (by decide) ⟨fun c => ?_, fun c => ?_⟩
    · have h := h.1 c
      refine r_aload_n ok 0 dX11_image_12 rfl ?_
      refine r_getR ok 0 8 rfl rfl fo_X11_87 dX11_image_13 ?_
      refine r_iload_n ok 1 dX11_image_16 rfl ?_
      rcases h.1 with e | e
      · have hz := h.2.1 e
        subst e
        have h := hz
        refine r_aaload ok 44 rfl dX11_image_17 (vp_in_nI (n := 0) (N := 2) (by decide) (by decide)) rfl ?_
        refine r_aload_n ok 0 dX11_image_18 rfl ?_
        refine r_getR ok 0 1 rfl rfl fo_X11_19 dX11_image_19 ?_
        refine r_virtv ok (rest := []) (As := [.ref (g.ad 3)]) 46 _ k_X11_image_310 rfl rfl rfl rfl (Nat.le_of_ble_eq_true rfl) dX11_image_22 (MWv.mono h (fun S1 h => ?_))
        refine r_aload_n ok 0 dX11_image_25 rfl ?_
        refine r_getR ok 0 9 rfl rfl fo_X11_91 dX11_image_26 ?_
        refine r_iload_n ok 1 dX11_image_29 rfl ?_
        refine r_iconst ok (nI 1) dX11_image_30 (by decide) ?_
        refine r_bastore ok 45 rfl dX11_image_31 h.1 rfl ?_
        have h := h.2
        refine r_iconst ok (nI 1) dX11_image_32 (by decide) ?_
        exact r_iret ok rfl dX11_image_33 h
      · have hz := h.2.2 e
        subst e
        have h := hz
        refine r_aaload ok 44 rfl dX11_image_17 (vp_in_nI (n := 1) (N := 2) (by decide) (by decide)) rfl ?_
        refine r_aload_n ok 0 dX11_image_18 rfl ?_
        refine r_getR ok 0 1 rfl rfl fo_X11_19 dX11_image_19 ?_
        refine r_virtv ok (rest := []) (As := [.ref (g.ad 3)]) 61 _ k_X11_image_310 rfl rfl rfl rfl (Nat.le_of_ble_eq_true rfl) dX11_image_22 (MWv.mono h (fun S2 h => ?_))
        refine r_aload_n ok 0 dX11_image_25 rfl ?_
        refine r_getR ok 0 9 rfl rfl fo_X11_91 dX11_image_26 ?_
        refine r_iload_n ok 1 dX11_image_29 rfl ?_
        refine r_iconst ok (nI 1) dX11_image_30 (by decide) ?_
        refine r_bastore ok 45 rfl dX11_image_31 h.1 rfl ?_
        have h := h.2
        refine r_iconst ok (nI 1) dX11_image_32 (by decide) ?_
        exact r_iret ok rfl dX11_image_33 h
    · have h := h.2 c
      refine r_bipush ok (-2) dX11_image_9 (by decide) ?_
      exact r_iret ok rfl dX11_image_11 h
set_option maxRecDepth 10000 in
theorem s_X11_restore_0 {l : Launch} {x : Cx} {g : Geo} {K : Int32 → Mem → Prop} (ok : Ok x g shX m_X11_restore) (v1 : Int32) (S : Mem) (h : ((v1 < 0 → K (-2) S) ∧ (¬ v1 < 0 → ((v1 < (nI 2) → (vp_in v1 2 ∧ ((¬ (S 45 (cl v1)) = 0 → ((v1 = nI 0 ∨ v1 = nI 1) ∧ ((v1 = nI 0 → MWv l g shX m_X7_copyFrom [.ref (g.ad 3), .ref (g.ad 46)] S (fun S1 => MWv l g shX m_X11_bookChanged [.ref (g.ad 0)] S1 (fun S2 => K (nI 1) S2))) ∧ (v1 = nI 1 → MWv l g shX m_X7_copyFrom [.ref (g.ad 3), .ref (g.ad 61)] S (fun S3 => MWv l g shX m_X11_bookChanged [.ref (g.ad 0)] S3 (fun S4 => K (nI 1) S4)))))) ∧ ((S 45 (cl v1)) = 0 → K (-3) S)))) ∧ (¬ v1 < (nI 2) → K (-2) S))))) : PW l x g shX m_X11_restore (Qi x g shX K) 0 [(0, .ref (g.ad 0)), (1, .int v1)] [] S := by
  refine r_iload_n ok 1 dX11_restore_0 rfl ?_
  refine r_if_lt ok 9 dX11_restore_1 (by decide) ⟨fun c => ?_, fun c => ?_⟩
  · have h := h.1 c
    refine r_bipush ok (-2) dX11_restore_9 (by decide) ?_
    exact r_iret ok rfl dX11_restore_11 h
  · have h := h.2 c
    refine r_iload_n ok 1 dX11_restore_4 rfl ?_
    refine r_iconst ok (nI 2) dX11_restore_5 (by decide) ?_
    refine r_icmp_lt ok 12 dX11_restore_6 (by decide) ⟨fun c => ?_, fun c => ?_⟩
    · have h := h.1 c
      refine r_aload_n ok 0 dX11_restore_12 rfl ?_
      refine r_getR ok 0 9 rfl rfl fo_X11_91 dX11_restore_13 ?_
      refine r_iload_n ok 1 dX11_restore_16 rfl ?_
      refine r_baload ok 45 rfl dX11_restore_17 h.1 ?_
      have h := h.2
      refine r_if_ne ok 24 dX11_restore_18 (by decide) ⟨fun c => ?_, fun c => ?_⟩
      · have h := h.1 c
        refine r_aload_n ok 0 dX11_restore_24 rfl ?_
        refine r_getR ok 0 1 rfl rfl fo_X11_19 dX11_restore_25 ?_
        refine r_aload_n ok 0 dX11_restore_28 rfl ?_
        refine r_getR ok 0 8 rfl rfl fo_X11_87 dX11_restore_29 ?_
        refine r_iload_n ok 1 dX11_restore_32 rfl ?_
        rcases h.1 with e | e
        · have hz := h.2.1 e
          subst e
          have h := hz
          refine r_aaload ok 44 rfl dX11_restore_33 (vp_in_nI (n := 0) (N := 2) (by decide) (by decide)) rfl ?_
          refine r_virtv ok (rest := []) (As := [.ref (g.ad 46)]) 3 _ k_X11_restore_310 rfl rfl rfl rfl (Nat.le_of_ble_eq_true rfl) dX11_restore_34 (MWv.mono h (fun S1 h => ?_))
          refine r_aload_n ok 0 dX11_restore_37 rfl ?_
          refine r_virtv ok (rest := []) (As := []) 0 _ k_X11_restore_121 rfl rfl rfl rfl (Nat.le_of_ble_eq_true rfl) dX11_restore_38 (MWv.mono h (fun S2 h => ?_))
          refine r_iconst ok (nI 1) dX11_restore_41 (by decide) ?_
          exact r_iret ok rfl dX11_restore_42 h
        · have hz := h.2.2 e
          subst e
          have h := hz
          refine r_aaload ok 44 rfl dX11_restore_33 (vp_in_nI (n := 1) (N := 2) (by decide) (by decide)) rfl ?_
          refine r_virtv ok (rest := []) (As := [.ref (g.ad 61)]) 3 _ k_X11_restore_310 rfl rfl rfl rfl (Nat.le_of_ble_eq_true rfl) dX11_restore_34 (MWv.mono h (fun S3 h => ?_))
          refine r_aload_n ok 0 dX11_restore_37 rfl ?_
          refine r_virtv ok (rest := []) (As := []) 0 _ k_X11_restore_121 rfl rfl rfl rfl (Nat.le_of_ble_eq_true rfl) dX11_restore_38 (MWv.mono h (fun S4 h => ?_))
          refine r_iconst ok (nI 1) dX11_restore_41 (by decide) ?_
          exact r_iret ok rfl dX11_restore_42 h
      · have h := h.2 c
        refine r_bipush ok (-3) dX11_restore_21 (by decide) ?_
        exact r_iret ok rfl dX11_restore_23 h
    · have h := h.2 c
      refine r_bipush ok (-2) dX11_restore_9 (by decide) ?_
      exact r_iret ok rfl dX11_restore_11 h
set_option maxRecDepth 10000 in
theorem s_X11_told_0 {l : Launch} {x : Cx} {g : Geo} {K : Int32 → Mem → Prop} (ok : Ok x g shX m_X11_told) (v1 : Int32) (S : Mem) (h : MWi l g shX m_X11_isChild [.int (v1 - (nI 10))] S (fun r1 S1 => ((r1 = 0 → MWi l g shX m_X11_isChild [.int (v1 - (nI 20))] S1 (fun r2 S2 => ((r2 = 0 → MWi l g shX m_X11_isChild [.int (v1 - (nI 30))] S2 (fun r3 S3 => ((r3 = 0 → ((v1 = nI 0 → K (S3 1 1) S3) ∧ (v1 = nI 1 → K (S3 4 5) S3) ∧ (v1 = nI 2 → K (S3 15 2) S3) ∧ (v1 = nI 3 → MWi l g shX m_X1_allWords [.ref (g.ad 4)] S3 (fun r4 S4 => MWi l g shX m_X1_timesOf [.ref (g.ad 4), .int r4] S4 (fun r5 S5 => K r5 S5))) ∧ ((v1.toInt < 0 ∨ 3 < v1.toInt) → K (-2) S3))) ∧ (¬ r3 = 0 → MWi l g shX m_X2_mixedUp [.ref (g.ad 10), .int (v1 - (nI 30))] S3 (fun r6 S6 => K r6 S6))))) ∧ (¬ r2 = 0 → (vp_in (v1 - (nI 20)) 4 ∧ K (S2 12 (cl (v1 - (nI 20)))) S2))))) ∧ (¬ r1 = 0 → (vp_in (v1 - (nI 10)) 4 ∧ K (S1 11 (cl (v1 - (nI 10)))) S1))))) : PW l x g shX m_X11_told (Qi x g shX K) 0 [(0, .ref (g.ad 0)), (1, .int v1)] [] S := by
  refine r_iload_n ok 1 dX11_told_0 rfl ?_
  refine r_bipush ok (nI 10) dX11_told_1 (by decide) ?_
  refine r_isub ok dX11_told_3 ?_
  refine r_stati ok (rest := []) (As := [.int (v1 - (nI 10))]) _ k_X11_told_176 rfl rfl (Nat.le_of_ble_eq_true rfl) dX11_told_4 (MWi.mono h (fun r1 S1 h => ?_))
  refine r_if_eq ok 26 dX11_told_7 (by decide) ⟨fun c => ?_, fun c => ?_⟩
  · have h := h.1 c
    refine r_iload_n ok 1 dX11_told_26 rfl ?_
    refine r_bipush ok (nI 20) dX11_told_27 (by decide) ?_
    refine r_isub ok dX11_told_29 ?_
    refine r_stati ok (rest := []) (As := [.int (v1 - (nI 20))]) _ k_X11_told_176 rfl rfl (Nat.le_of_ble_eq_true rfl) dX11_told_30 (MWi.mono h (fun r2 S2 h => ?_))
    refine r_if_eq ok 52 dX11_told_33 (by decide) ⟨fun c => ?_, fun c => ?_⟩
    · have h := h.1 c
      refine r_iload_n ok 1 dX11_told_52 rfl ?_
      refine r_bipush ok (nI 30) dX11_told_53 (by decide) ?_
      refine r_isub ok dX11_told_55 ?_
      refine r_stati ok (rest := []) (As := [.int (v1 - (nI 30))]) _ k_X11_told_176 rfl rfl (Nat.le_of_ble_eq_true rfl) dX11_told_56 (MWi.mono h (fun r3 S3 h => ?_))
      refine r_if_eq ok 77 dX11_told_59 (by decide) ⟨fun c => ?_, fun c => ?_⟩
      · have h := h.1 c
        refine r_iload_n ok 1 dX11_told_77 rfl ?_
        rcases sw3 v1 with e | e | e | e | e
        · have h := h.1 e
          rw [e]
          refine r_tableIn ok 108 dX11_told_78 (by decide) (by decide) rfl (by decide) ?_
          refine r_aload_n ok 0 dX11_told_108 rfl ?_
          refine r_getR ok 0 0 rfl rfl fo_X11_10 dX11_told_109 ?_
          refine r_getI ok 1 1 rfl rfl fo_X11_98 dX11_told_112 ?_
          exact r_iret ok rfl dX11_told_115 h
        · have h := h.2.1 e
          rw [e]
          refine r_tableIn ok 116 dX11_told_78 (by decide) (by decide) rfl (by decide) ?_
          refine r_aload_n ok 0 dX11_told_116 rfl ?_
          refine r_getR ok 0 1 rfl rfl fo_X11_19 dX11_told_117 ?_
          refine r_getR ok 3 0 rfl rfl fo_X11_25 dX11_told_120 ?_
          refine r_getI ok 4 5 rfl rfl fo_X11_116 dX11_told_123 ?_
          exact r_iret ok rfl dX11_told_126 h
        · have h := h.2.2.1 e
          rw [e]
          refine r_tableIn ok 127 dX11_told_78 (by decide) (by decide) rfl (by decide) ?_
          refine r_aload_n ok 0 dX11_told_127 rfl ?_
          refine r_getR ok 0 1 rfl rfl fo_X11_19 dX11_told_128 ?_
          refine r_getR ok 3 2 rfl rfl fo_X11_67 dX11_told_131 ?_
          refine r_getI ok 15 2 rfl rfl fo_X11_255 dX11_told_134 ?_
          exact r_iret ok rfl dX11_told_137 h
        · have h := h.2.2.2.1 e
          rw [e]
          refine r_tableIn ok 138 dX11_told_78 (by decide) (by decide) rfl (by decide) ?_
          refine r_aload_n ok 0 dX11_told_138 rfl ?_
          refine r_getR ok 0 1 rfl rfl fo_X11_19 dX11_told_139 ?_
          refine r_getR ok 3 0 rfl rfl fo_X11_25 dX11_told_142 ?_
          refine r_aload_n ok 0 dX11_told_145 rfl ?_
          refine r_getR ok 0 1 rfl rfl fo_X11_19 dX11_told_146 ?_
          refine r_getR ok 3 0 rfl rfl fo_X11_25 dX11_told_149 ?_
          refine r_virti ok (rest := [.ref (g.ad 4)]) (As := []) 4 _ k_X11_told_314 rfl rfl rfl rfl (Nat.le_of_ble_eq_true rfl) dX11_told_152 (MWi.mono h (fun r4 S4 h => ?_))
          refine r_virti ok (rest := []) (As := [.int r4]) 4 _ k_X11_told_224 rfl rfl rfl rfl (Nat.le_of_ble_eq_true rfl) dX11_told_155 (MWi.mono h (fun r5 S5 h => ?_))
          exact r_iret ok rfl dX11_told_158 h
        · have h := h.2.2.2.2 e
          refine r_tableOut ok 159 dX11_told_78 e (by decide) ?_
          refine r_bipush ok (-2) dX11_told_159 (by decide) ?_
          exact r_iret ok rfl dX11_told_161 h
      · have h := h.2 c
        refine r_aload_n ok 0 dX11_told_62 rfl ?_
        refine r_getR ok 0 1 rfl rfl fo_X11_19 dX11_told_63 ?_
        refine r_getR ok 3 1 rfl rfl fo_X11_38 dX11_told_66 ?_
        refine r_iload_n ok 1 dX11_told_69 rfl ?_
        refine r_bipush ok (nI 30) dX11_told_70 (by decide) ?_
        refine r_isub ok dX11_told_72 ?_
        refine r_virti ok (rest := []) (As := [.int (v1 - (nI 30))]) 10 _ k_X11_told_197 rfl rfl rfl rfl (Nat.le_of_ble_eq_true rfl) dX11_told_73 (MWi.mono h (fun r6 S6 h => ?_))
        exact r_iret ok rfl dX11_told_76 h
    · have h := h.2 c
      refine r_aload_n ok 0 dX11_told_36 rfl ?_
      refine r_getR ok 0 1 rfl rfl fo_X11_19 dX11_told_37 ?_
      refine r_getR ok 3 1 rfl rfl fo_X11_38 dX11_told_40 ?_
      refine r_getR ok 10 1 rfl rfl fo_X11_190 dX11_told_43 ?_
      refine r_iload_n ok 1 dX11_told_46 rfl ?_
      refine r_bipush ok (nI 20) dX11_told_47 (by decide) ?_
      refine r_isub ok dX11_told_49 ?_
      refine r_iaload ok 12 rfl dX11_told_50 h.1 ?_
      have h := h.2
      exact r_iret ok rfl dX11_told_51 h
  · have h := h.2 c
    refine r_aload_n ok 0 dX11_told_10 rfl ?_
    refine r_getR ok 0 1 rfl rfl fo_X11_19 dX11_told_11 ?_
    refine r_getR ok 3 1 rfl rfl fo_X11_38 dX11_told_14 ?_
    refine r_getR ok 10 0 rfl rfl fo_X11_185 dX11_told_17 ?_
    refine r_iload_n ok 1 dX11_told_20 rfl ?_
    refine r_bipush ok (nI 10) dX11_told_21 (by decide) ?_
    refine r_isub ok dX11_told_23 ?_
    refine r_iaload ok 11 rfl dX11_told_24 h.1 ?_
    have h := h.2
    exact r_iret ok rfl dX11_told_25 h
set_option maxRecDepth 10000 in
theorem s_X11_bookChanged_0 {l : Launch} {x : Cx} {g : Geo} {K : Mem → Prop} (ok : Ok x g shX m_X11_bookChanged) (S : Mem) (h : MWv l g shX m_X8_refresh [.ref (g.ad 18)] S (fun S1 => PW l x g shX m_X11_bookChanged (Qv x g shX K) 17 [(0, .ref (g.ad 0)), (1, .int (nI 0))] [] (st2 S1 27 6 (nI 0)))) : PW l x g shX m_X11_bookChanged (Qv x g shX K) 0 [(0, .ref (g.ad 0))] [] S := by
  refine r_aload_n ok 0 dX11_bookChanged_0 rfl ?_
  refine r_getR ok 0 2 rfl rfl fo_X11_32 dX11_bookChanged_1 ?_
  refine r_virtv ok (rest := []) (As := []) 18 _ k_X11_bookChanged_95 rfl rfl rfl rfl (Nat.le_of_ble_eq_true rfl) dX11_bookChanged_4 (MWv.mono h (fun S1 h => ?_))
  refine r_aload_n ok 0 dX11_bookChanged_7 rfl ?_
  refine r_getR ok 0 4 rfl rfl fo_X11_54 dX11_bookChanged_8 ?_
  refine r_iconst ok (nI 0) dX11_bookChanged_11 (by decide) ?_
  refine r_put ok 27 6 rfl rfl po_X11_317 rfl rfl dX11_bookChanged_12 ?_
  refine r_iconst ok (nI 0) dX11_bookChanged_15 (by decide) ?_
  refine r_istore_n ok [(1, .int (nI 0)), (0, .ref (g.ad 0))] dX11_bookChanged_16 (by decide) rfl ?_
  exact r_sub [1, 0] _ rfl h
set_option maxRecDepth 10000 in
theorem s_X11_bookChanged_17 {l : Launch} {x : Cx} {g : Geo} {K : Mem → Prop} (ok : Ok x g shX m_X11_bookChanged) (v1 : Int32) (S : Mem) (h : (((nI 4) ≤ v1 → K S) ∧ (¬ (nI 4) ≤ v1 → MWv l g shX m_X11_childChanged [.ref (g.ad 0), .int v1] S (fun S1 => PW l x g shX m_X11_bookChanged (Qv x g shX K) 17 [(0, .ref (g.ad 0)), (1, .int (v1 + (nI 1)))] [] S1)))) : PW l x g shX m_X11_bookChanged (Qv x g shX K) 17 [(0, .ref (g.ad 0)), (1, .int v1)] [] S := by
  refine r_iload_n ok 1 dX11_bookChanged_17 rfl ?_
  refine r_iconst ok (nI 4) dX11_bookChanged_18 (by decide) ?_
  refine r_icmp_ge ok 33 dX11_bookChanged_19 (by decide) ⟨fun c => ?_, fun c => ?_⟩
  · have h := h.1 c
    exact r_ret ok rfl dX11_bookChanged_33 h
  · have h := h.2 c
    refine r_aload_n ok 0 dX11_bookChanged_22 rfl ?_
    refine r_iload_n ok 1 dX11_bookChanged_23 rfl ?_
    refine r_virtv ok (rest := []) (As := [.int v1]) 0 _ k_X11_bookChanged_193 rfl rfl rfl rfl (Nat.le_of_ble_eq_true rfl) dX11_bookChanged_24 (MWv.mono h (fun S1 h => ?_))
    refine r_iinc ok 1 (v1 + (nI 1)) [(1, .int (v1 + (nI 1))), (0, .ref (g.ad 0))] dX11_bookChanged_27 rfl rfl (by decide) rfl ?_
    refine r_goto ok 17 dX11_bookChanged_30 (by decide) ?_
    exact r_sub [1, 0] _ rfl h
set_option maxRecDepth 10000 in
theorem s_X11_childChanged_0 {l : Launch} {x : Cx} {g : Geo} {K : Mem → Prop} (ok : Ok x g shX m_X11_childChanged) (v1 : Int32) (S : Mem) (h : ((¬ (S 31 5) = v1 → MWv l g shX m_X4_forget [.ref (g.ad 39), .int v1] S (fun S1 => K S1)) ∧ ((S 31 5) = v1 → MWv l g shX m_X4_forget [.ref (g.ad 39), .int v1] (st2 S 31 5 (-6)) (fun S2 => K S2)))) : PW l x g shX m_X11_childChanged (Qv x g shX K) 0 [(0, .ref (g.ad 0)), (1, .int v1)] [] S := by
  refine r_aload_n ok 0 dX11_childChanged_0 rfl ?_
  refine r_getR ok 0 5 rfl rfl fo_X11_61 dX11_childChanged_1 ?_
  refine r_getI ok 31 5 rfl rfl fo_X11_245 dX11_childChanged_4 ?_
  refine r_iload_n ok 1 dX11_childChanged_7 rfl ?_
  refine r_icmp_ne ok 20 dX11_childChanged_8 (by decide) ⟨fun c => ?_, fun c => ?_⟩
  · have h := h.1 c
    refine r_aload_n ok 0 dX11_childChanged_20 rfl ?_
    refine r_getR ok 0 7 rfl rfl fo_X11_83 dX11_childChanged_21 ?_
    refine r_iload_n ok 1 dX11_childChanged_24 rfl ?_
    refine r_virtv ok (rest := []) (As := [.int v1]) 39 _ k_X11_childChanged_321 rfl rfl rfl rfl (Nat.le_of_ble_eq_true rfl) dX11_childChanged_25 (MWv.mono h (fun S1 h => ?_))
    exact r_ret ok rfl dX11_childChanged_28 h
  · have h := h.2 c
    refine r_aload_n ok 0 dX11_childChanged_11 rfl ?_
    refine r_getR ok 0 5 rfl rfl fo_X11_61 dX11_childChanged_12 ?_
    refine r_bipush ok (-6) dX11_childChanged_15 (by decide) ?_
    refine r_put ok 31 5 rfl rfl po_X11_245 rfl rfl dX11_childChanged_17 ?_
    refine r_aload_n ok 0 dX11_childChanged_20 rfl ?_
    refine r_getR ok 0 7 rfl rfl fo_X11_83 dX11_childChanged_21 ?_
    refine r_iload_n ok 1 dX11_childChanged_24 rfl ?_
    refine r_virtv ok (rest := []) (As := [.int v1]) 39 _ k_X11_childChanged_321 rfl rfl rfl rfl (Nat.le_of_ble_eq_true rfl) dX11_childChanged_25 (MWv.mono h (fun S2 h => ?_))
    exact r_ret ok rfl dX11_childChanged_28 h
set_option maxRecDepth 10000 in
theorem s_X11_isSign_0 {l : Launch} {x : Cx} {g : Geo} {K : Int32 → Mem → Prop} (ok : Ok x g shX m_X11_isSign) (v0 : Int32) (S : Mem) (h : ((v0 < 0 → K (nI 0) S) ∧ (¬ v0 < 0 → (((nI 10) ≤ v0 → K (nI 0) S) ∧ (¬ (nI 10) ≤ v0 → K (nI 1) S))))) : PW l x g shX m_X11_isSign (Qi x g shX K) 0 [(0, .int v0)] [] S := by
  refine r_iload_n ok 0 dX11_isSign_0 rfl ?_
  refine r_if_lt ok 14 dX11_isSign_1 (by decide) ⟨fun c => ?_, fun c => ?_⟩
  · have h := h.1 c
    refine r_iconst ok (nI 0) dX11_isSign_14 (by decide) ?_
    exact r_zret ok rfl dX11_isSign_15 ⟨rfl, h⟩
  · have h := h.2 c
    refine r_iload_n ok 0 dX11_isSign_4 rfl ?_
    refine r_bipush ok (nI 10) dX11_isSign_5 (by decide) ?_
    refine r_icmp_ge ok 14 dX11_isSign_7 (by decide) ⟨fun c => ?_, fun c => ?_⟩
    · have h := h.1 c
      refine r_iconst ok (nI 0) dX11_isSign_14 (by decide) ?_
      exact r_zret ok rfl dX11_isSign_15 ⟨rfl, h⟩
    · have h := h.2 c
      refine r_iconst ok (nI 1) dX11_isSign_10 (by decide) ?_
      refine r_goto ok 15 dX11_isSign_11 (by decide) ?_
      exact r_zret ok rfl dX11_isSign_15 ⟨rfl, h⟩
set_option maxRecDepth 10000 in
theorem s_X11_isChild_0 {l : Launch} {x : Cx} {g : Geo} {K : Int32 → Mem → Prop} (ok : Ok x g shX m_X11_isChild) (v0 : Int32) (S : Mem) (h : ((v0 < 0 → K (nI 0) S) ∧ (¬ v0 < 0 → (((nI 4) ≤ v0 → K (nI 0) S) ∧ (¬ (nI 4) ≤ v0 → K (nI 1) S))))) : PW l x g shX m_X11_isChild (Qi x g shX K) 0 [(0, .int v0)] [] S := by
  refine r_iload_n ok 0 dX11_isChild_0 rfl ?_
  refine r_if_lt ok 13 dX11_isChild_1 (by decide) ⟨fun c => ?_, fun c => ?_⟩
  · have h := h.1 c
    refine r_iconst ok (nI 0) dX11_isChild_13 (by decide) ?_
    exact r_zret ok rfl dX11_isChild_14 ⟨rfl, h⟩
  · have h := h.2 c
    refine r_iload_n ok 0 dX11_isChild_4 rfl ?_
    refine r_iconst ok (nI 4) dX11_isChild_5 (by decide) ?_
    refine r_icmp_ge ok 13 dX11_isChild_6 (by decide) ⟨fun c => ?_, fun c => ?_⟩
    · have h := h.1 c
      refine r_iconst ok (nI 0) dX11_isChild_13 (by decide) ?_
      exact r_zret ok rfl dX11_isChild_14 ⟨rfl, h⟩
    · have h := h.2 c
      refine r_iconst ok (nI 1) dX11_isChild_9 (by decide) ?_
      refine r_goto ok 14 dX11_isChild_10 (by decide) ?_
      exact r_zret ok rfl dX11_isChild_14 ⟨rfl, h⟩
set_option maxRecDepth 10000 in
theorem s_X11_isSignSet_0 {l : Launch} {x : Cx} {g : Geo} {K : Int32 → Mem → Prop} (ok : Ok x g shX m_X11_isSignSet) (v0 : Int32) (S : Mem) (h : ((v0 < 0 → K (nI 0) S) ∧ (¬ v0 < 0 → (((nI 1024) ≤ v0 → K (nI 0) S) ∧ (¬ (nI 1024) ≤ v0 → K (nI 1) S))))) : PW l x g shX m_X11_isSignSet (Qi x g shX K) 0 [(0, .int v0)] [] S := by
  refine r_iload_n ok 0 dX11_isSignSet_0 rfl ?_
  refine r_if_lt ok 15 dX11_isSignSet_1 (by decide) ⟨fun c => ?_, fun c => ?_⟩
  · have h := h.1 c
    refine r_iconst ok (nI 0) dX11_isSignSet_15 (by decide) ?_
    exact r_zret ok rfl dX11_isSignSet_16 ⟨rfl, h⟩
  · have h := h.2 c
    refine r_iload_n ok 0 dX11_isSignSet_4 rfl ?_
    refine r_sipush ok (nI 1024) dX11_isSignSet_5 (by decide) ?_
    refine r_icmp_ge ok 15 dX11_isSignSet_8 (by decide) ⟨fun c => ?_, fun c => ?_⟩
    · have h := h.1 c
      refine r_iconst ok (nI 0) dX11_isSignSet_15 (by decide) ?_
      exact r_zret ok rfl dX11_isSignSet_16 ⟨rfl, h⟩
    · have h := h.2 c
      refine r_iconst ok (nI 1) dX11_isSignSet_11 (by decide) ?_
      refine r_goto ok 16 dX11_isSignSet_12 (by decide) ?_
      exact r_zret ok rfl dX11_isSignSet_16 ⟨rfl, h⟩
set_option maxRecDepth 10000 in
theorem s_X11_isPart_0 {l : Launch} {x : Cx} {g : Geo} {K : Int32 → Mem → Prop} (ok : Ok x g shX m_X11_isPart) (v0 : Int32) (S : Mem) (h : ((v0 = 0 → K (nI 1) S) ∧ (¬ v0 = 0 → ((¬ v0 = (nI 1) → K (nI 0) S) ∧ (v0 = (nI 1) → K (nI 1) S))))) : PW l x g shX m_X11_isPart (Qi x g shX K) 0 [(0, .int v0)] [] S := by
  refine r_iload_n ok 0 dX11_isPart_0 rfl ?_
  refine r_if_eq ok 9 dX11_isPart_1 (by decide) ⟨fun c => ?_, fun c => ?_⟩
  · have h := h.1 c
    refine r_iconst ok (nI 1) dX11_isPart_9 (by decide) ?_
    refine r_goto ok 14 dX11_isPart_10 (by decide) ?_
    exact r_zret ok rfl dX11_isPart_14 ⟨rfl, h⟩
  · have h := h.2 c
    refine r_iload_n ok 0 dX11_isPart_4 rfl ?_
    refine r_iconst ok (nI 1) dX11_isPart_5 (by decide) ?_
    refine r_icmp_ne ok 13 dX11_isPart_6 (by decide) ⟨fun c => ?_, fun c => ?_⟩
    · have h := h.1 c
      refine r_iconst ok (nI 0) dX11_isPart_13 (by decide) ?_
      exact r_zret ok rfl dX11_isPart_14 ⟨rfl, h⟩
    · have h := h.2 c
      refine r_iconst ok (nI 1) dX11_isPart_9 (by decide) ?_
      refine r_goto ok 14 dX11_isPart_10 (by decide) ?_
      exact r_zret ok rfl dX11_isPart_14 ⟨rfl, h⟩
set_option maxRecDepth 10000 in
theorem s_X11_hasBit_0 {l : Launch} {x : Cx} {g : Geo} {K : Int32 → Mem → Prop} (ok : Ok x g shX m_X11_hasBit) (v0 : Int32) (v1 : Int32) (S : Mem) (h : ((((jshr v0 v1) &&& (nI 1)) = 0 → K (nI 0) S) ∧ (¬ ((jshr v0 v1) &&& (nI 1)) = 0 → K (nI 1) S))) : PW l x g shX m_X11_hasBit (Qi x g shX K) 0 [(0, .int v0), (1, .int v1)] [] S := by
  refine r_iload_n ok 0 dX11_hasBit_0 rfl ?_
  refine r_iload_n ok 1 dX11_hasBit_1 rfl ?_
  refine r_ishr ok dX11_hasBit_2 ?_
  refine r_iconst ok (nI 1) dX11_hasBit_3 (by decide) ?_
  refine r_iand ok dX11_hasBit_4 ?_
  refine r_if_eq ok 12 dX11_hasBit_5 (by decide) ⟨fun c => ?_, fun c => ?_⟩
  · have h := h.1 c
    refine r_iconst ok (nI 0) dX11_hasBit_12 (by decide) ?_
    exact r_zret ok rfl dX11_hasBit_13 ⟨rfl, h⟩
  · have h := h.2 c
    refine r_iconst ok (nI 1) dX11_hasBit_8 (by decide) ?_
    refine r_goto ok 13 dX11_hasBit_9 (by decide) ?_
    exact r_zret ok rfl dX11_hasBit_13 ⟨rfl, h⟩
set_option maxRecDepth 10000 in
theorem s_X11_fractionPart_0 {l : Launch} {x : Cx} {g : Geo} {K : Int64 → Mem → Prop} (ok : Ok x g shX m_X11_fractionPart) (v0 : Int32) (v1 : Int32) (v2 : Int32) (S : Mem) (h : ((v0 ≤ 0 → ((¬ v2 = 0 → K (lN 1) S) ∧ (v2 = 0 → K (lN 0) S))) ∧ (¬ v0 ≤ 0 → ((0 < v1 → MWi l g shX m_X11_greatestDivisor [.int v0, .int v1] S (fun r1 S1 => ((¬ v2 = 0 → ((r1 ≤ (nI 1) → K v1.toInt64 S1) ∧ (¬ r1 ≤ (nI 1) → (¬ r1 = 0 ∧ K (v1 / r1).toInt64 S1)))) ∧ (v2 = 0 → ((r1 ≤ (nI 1) → K v0.toInt64 S1) ∧ (¬ r1 ≤ (nI 1) → (¬ r1 = 0 ∧ K (v0 / r1).toInt64 S1))))))) ∧ (¬ 0 < v1 → ((¬ v2 = 0 → K (lN 1) S) ∧ (v2 = 0 → K (lN 0) S))))))) : PW l x g shX m_X11_fractionPart (Ql x g shX K) 0 [(0, .int v0), (1, .int v1), (2, .int v2)] [] S := by
  refine r_iload_n ok 0 dX11_fractionPart_0 rfl ?_
  refine r_if_le ok 8 dX11_fractionPart_1 (by decide) ⟨fun c => ?_, fun c => ?_⟩
  · have h := h.1 c
    refine r_iload_n ok 2 dX11_fractionPart_8 rfl ?_
    refine r_if_ne ok 16 dX11_fractionPart_9 (by decide) ⟨fun c => ?_, fun c => ?_⟩
    · have h := h.1 c
      refine r_lconst ok (lN 1) dX11_fractionPart_16 (by decide) ?_
      exact r_lret ok rfl dX11_fractionPart_17 h
    · have h := h.2 c
      refine r_lconst ok (lN 0) dX11_fractionPart_12 (by decide) ?_
      refine r_goto ok 17 dX11_fractionPart_13 (by decide) ?_
      exact r_lret ok rfl dX11_fractionPart_17 h
  · have h := h.2 c
    refine r_iload_n ok 1 dX11_fractionPart_4 rfl ?_
    refine r_if_gt ok 18 dX11_fractionPart_5 (by decide) ⟨fun c => ?_, fun c => ?_⟩
    · have h := h.1 c
      refine r_iload_n ok 0 dX11_fractionPart_18 rfl ?_
      refine r_iload_n ok 1 dX11_fractionPart_19 rfl ?_
      refine r_stati ok (rest := []) (As := [.int v0, .int v1]) _ k_X11_fractionPart_324 rfl rfl (Nat.le_of_ble_eq_true rfl) dX11_fractionPart_20 (MWi.mono h (fun r1 S1 h => ?_))
      refine r_istore_n ok [(3, .int r1), (0, .int v0), (1, .int v1), (2, .int v2)] dX11_fractionPart_23 (by decide) rfl ?_
      refine r_iload_n ok 3 dX11_fractionPart_24 rfl ?_
      refine r_if_ne ok 32 dX11_fractionPart_25 (by decide) ⟨fun c => ?_, fun c => ?_⟩
      · have h := h.1 c
        refine r_iload_n ok 2 dX11_fractionPart_32 rfl ?_
        refine r_istore ok [(4, .int v1), (3, .int r1), (0, .int v0), (1, .int v1), (2, .int v2)] dX11_fractionPart_33 (by decide) rfl ?_
        refine r_iload_n ok 1 dX11_fractionPart_35 rfl ?_
        refine r_iconst ok (nI 1) dX11_fractionPart_36 (by decide) ?_
        refine r_icmp_le ok 48 dX11_fractionPart_37 (by decide) ⟨fun c => ?_, fun c => ?_⟩
        · have h := h.1 c
          refine r_iload ok 0 dX11_fractionPart_48 rfl ?_
          refine r_i2l ok dX11_fractionPart_50 ?_
          exact r_lret ok rfl dX11_fractionPart_51 h
        · have h := h.2 c
          refine r_iload ok 0 dX11_fractionPart_40 rfl ?_
          refine r_iload_n ok 1 dX11_fractionPart_42 rfl ?_
          refine r_idiv ok dX11_fractionPart_43 h.1 ?_
          have h := h.2
          refine r_i2l ok dX11_fractionPart_44 ?_
          refine r_goto ok 51 dX11_fractionPart_45 (by decide) ?_
          exact r_lret ok rfl dX11_fractionPart_51 h
      · have h := h.2 c
        refine r_iload_n ok 1 dX11_fractionPart_28 rfl ?_
        refine r_goto ok 33 dX11_fractionPart_29 (by decide) ?_
        refine r_istore ok [(4, .int v0), (3, .int r1), (0, .int v0), (1, .int v1), (2, .int v2)] dX11_fractionPart_33 (by decide) rfl ?_
        refine r_iload_n ok 1 dX11_fractionPart_35 rfl ?_
        refine r_iconst ok (nI 1) dX11_fractionPart_36 (by decide) ?_
        refine r_icmp_le ok 48 dX11_fractionPart_37 (by decide) ⟨fun c => ?_, fun c => ?_⟩
        · have h := h.1 c
          refine r_iload ok 0 dX11_fractionPart_48 rfl ?_
          refine r_i2l ok dX11_fractionPart_50 ?_
          exact r_lret ok rfl dX11_fractionPart_51 h
        · have h := h.2 c
          refine r_iload ok 0 dX11_fractionPart_40 rfl ?_
          refine r_iload_n ok 1 dX11_fractionPart_42 rfl ?_
          refine r_idiv ok dX11_fractionPart_43 h.1 ?_
          have h := h.2
          refine r_i2l ok dX11_fractionPart_44 ?_
          refine r_goto ok 51 dX11_fractionPart_45 (by decide) ?_
          exact r_lret ok rfl dX11_fractionPart_51 h
    · have h := h.2 c
      refine r_iload_n ok 2 dX11_fractionPart_8 rfl ?_
      refine r_if_ne ok 16 dX11_fractionPart_9 (by decide) ⟨fun c => ?_, fun c => ?_⟩
      · have h := h.1 c
        refine r_lconst ok (lN 1) dX11_fractionPart_16 (by decide) ?_
        exact r_lret ok rfl dX11_fractionPart_17 h
      · have h := h.2 c
        refine r_lconst ok (lN 0) dX11_fractionPart_12 (by decide) ?_
        refine r_goto ok 17 dX11_fractionPart_13 (by decide) ?_
        exact r_lret ok rfl dX11_fractionPart_17 h
set_option maxRecDepth 10000 in
theorem s_X11_greatestDivisor_0 {l : Launch} {x : Cx} {g : Geo} {K : Int32 → Mem → Prop} (ok : Ok x g shX m_X11_greatestDivisor) (v0 : Int32) (v1 : Int32) (S : Mem) (h : PW l x g shX m_X11_greatestDivisor (Qi x g shX K) 7 [(2, .int v0), (3, .int v1), (4, .int (nI 0))] [] S) : PW l x g shX m_X11_greatestDivisor (Qi x g shX K) 0 [(0, .int v0), (1, .int v1)] [] S := by
  refine r_iload_n ok 0 dX11_greatestDivisor_0 rfl ?_
  refine r_istore_n ok [(2, .int v0), (0, .int v0), (1, .int v1)] dX11_greatestDivisor_1 (by decide) rfl ?_
  refine r_iload_n ok 2 dX11_greatestDivisor_2 rfl ?_
  refine r_istore_n ok [(3, .int v1), (2, .int v0), (0, .int v0), (1, .int v1)] dX11_greatestDivisor_3 (by decide) rfl ?_
  refine r_iconst ok (nI 0) dX11_greatestDivisor_4 (by decide) ?_
  refine r_istore ok [(4, .int (nI 0)), (3, .int v1), (2, .int v0), (0, .int v0), (1, .int v1)] dX11_greatestDivisor_5 (by decide) rfl ?_
  exact r_sub [2, 1, 0] _ rfl h
set_option maxRecDepth 10000 in
theorem s_X11_greatestDivisor_7 {l : Launch} {x : Cx} {g : Geo} {K : Int32 → Mem → Prop} (ok : Ok x g shX m_X11_greatestDivisor) (v2 : Int32) (v3 : Int32) (v4 : Int32) (S : Mem) (h : (((nI 64) ≤ v4 → K v2 S) ∧ (¬ (nI 64) ≤ v4 → ((v3 = 0 → K v2 S) ∧ (¬ v3 = 0 → (¬ v3 = 0 ∧ PW l x g shX m_X11_greatestDivisor (Qi x g shX K) 7 [(2, .int v3), (3, .int (jrem v2 v3)), (4, .int (v4 + (nI 1)))] [] S)))))) : PW l x g shX m_X11_greatestDivisor (Qi x g shX K) 7 [(2, .int v2), (3, .int v3), (4, .int v4)] [] S := by
  refine r_iload ok 2 dX11_greatestDivisor_7 rfl ?_
  refine r_bipush ok (nI 64) dX11_greatestDivisor_9 (by decide) ?_
  refine r_icmp_ge ok 34 dX11_greatestDivisor_11 (by decide) ⟨fun c => ?_, fun c => ?_⟩
  · have h := h.1 c
    refine r_iload_n ok 0 dX11_greatestDivisor_34 rfl ?_
    exact r_iret ok rfl dX11_greatestDivisor_35 h
  · have h := h.2 c
    refine r_iload_n ok 1 dX11_greatestDivisor_14 rfl ?_
    refine r_if_eq ok 34 dX11_greatestDivisor_15 (by decide) ⟨fun c => ?_, fun c => ?_⟩
    · have h := h.1 c
      refine r_iload_n ok 0 dX11_greatestDivisor_34 rfl ?_
      exact r_iret ok rfl dX11_greatestDivisor_35 h
    · have h := h.2 c
      refine r_iload_n ok 0 dX11_greatestDivisor_18 rfl ?_
      refine r_iload_n ok 1 dX11_greatestDivisor_19 rfl ?_
      refine r_irem ok dX11_greatestDivisor_20 h.1 ?_
      have h := h.2
      refine r_istore ok [(5, .int (jrem v2 v3)), (2, .int v2), (3, .int v3), (4, .int v4)] dX11_greatestDivisor_21 (by decide) rfl ?_
      refine r_iload_n ok 2 dX11_greatestDivisor_23 rfl ?_
      refine r_istore_n ok [(2, .int v3), (5, .int (jrem v2 v3)), (3, .int v3), (4, .int v4)] dX11_greatestDivisor_24 (by decide) rfl ?_
      refine r_iload ok 1 dX11_greatestDivisor_25 rfl ?_
      refine r_istore_n ok [(3, .int (jrem v2 v3)), (2, .int v3), (5, .int (jrem v2 v3)), (4, .int v4)] dX11_greatestDivisor_27 (by decide) rfl ?_
      refine r_iinc ok 3 (v4 + (nI 1)) [(4, .int (v4 + (nI 1))), (3, .int (jrem v2 v3)), (2, .int v3), (5, .int (jrem v2 v3))] dX11_greatestDivisor_28 rfl rfl (by decide) rfl ?_
      refine r_goto ok 7 dX11_greatestDivisor_31 (by decide) ?_
      exact r_sub [2, 1, 0] _ rfl h
set_option maxRecDepth 10000 in
theorem s_X11_addUpSubsets_0 {l : Launch} {x : Cx} {g : Geo} {K : Mem → Prop} (ok : Ok x g shX m_X11_addUpSubsets) (ka na : Nat) (hka : shX[ka]? = some (.inl (0, na))) (S : Mem) (h : PW l x g shX m_X11_addUpSubsets (Qv x g shX K) 2 [(0, .ref (g.ad ka)), (1, .int (nI 0))] [] S) : PW l x g shX m_X11_addUpSubsets (Qv x g shX K) 0 [(0, .ref (g.ad ka))] [] S := by
  refine r_iconst ok (nI 0) dX11_addUpSubsets_0 (by decide) ?_
  refine r_istore_n ok [(1, .int (nI 0)), (0, .ref (g.ad ka))] dX11_addUpSubsets_1 (by decide) rfl ?_
  exact r_sub [1, 0] _ rfl h
set_option maxRecDepth 10000 in
theorem s_X11_addUpSubsets_2 {l : Launch} {x : Cx} {g : Geo} {K : Mem → Prop} (ok : Ok x g shX m_X11_addUpSubsets) (ka na : Nat) (hka : shX[ka]? = some (.inl (0, na))) (v1 : Int32) (S : Mem) (h : (((nI 10) ≤ v1 → K S) ∧ (¬ (nI 10) ≤ v1 → PW l x g shX m_X11_addUpSubsets (Qv x g shX K) 14 [(0, .ref (g.ad ka)), (1, .int v1), (2, .int (jshl (nI 1) v1)), (3, .int (nI 0))] [] S))) : PW l x g shX m_X11_addUpSubsets (Qv x g shX K) 2 [(0, .ref (g.ad ka)), (1, .int v1)] [] S := by
  refine r_iload_n ok 1 dX11_addUpSubsets_2 rfl ?_
  refine r_bipush ok (nI 10) dX11_addUpSubsets_3 (by decide) ?_
  refine r_icmp_ge ok 56 dX11_addUpSubsets_5 (by decide) ⟨fun c => ?_, fun c => ?_⟩
  · have h := h.1 c
    exact r_ret ok rfl dX11_addUpSubsets_56 h
  · have h := h.2 c
    refine r_iconst ok (nI 1) dX11_addUpSubsets_8 (by decide) ?_
    refine r_iload_n ok 1 dX11_addUpSubsets_9 rfl ?_
    refine r_ishl ok dX11_addUpSubsets_10 ?_
    refine r_istore_n ok [(2, .int (jshl (nI 1) v1)), (0, .ref (g.ad ka)), (1, .int v1)] dX11_addUpSubsets_11 (by decide) rfl ?_
    refine r_iconst ok (nI 0) dX11_addUpSubsets_12 (by decide) ?_
    refine r_istore_n ok [(3, .int (nI 0)), (2, .int (jshl (nI 1) v1)), (0, .ref (g.ad ka)), (1, .int v1)] dX11_addUpSubsets_13 (by decide) rfl ?_
    exact r_sub [2, 3, 1, 0] _ rfl h
set_option maxRecDepth 10000 in
theorem s_X11_addUpSubsets_14 {l : Launch} {x : Cx} {g : Geo} {K : Mem → Prop} (ok : Ok x g shX m_X11_addUpSubsets) (ka na : Nat) (hka : shX[ka]? = some (.inl (0, na))) (v1 : Int32) (v2 : Int32) (v3 : Int32) (S : Mem) (h : (((nI 1024) ≤ v3 → PW l x g shX m_X11_addUpSubsets (Qv x g shX K) 2 [(0, .ref (g.ad ka)), (1, .int (v1 + (nI 1)))] [] S) ∧ (¬ (nI 1024) ≤ v3 → (((nI na) ≤ v3 → PW l x g shX m_X11_addUpSubsets (Qv x g shX K) 2 [(0, .ref (g.ad ka)), (1, .int (v1 + (nI 1)))] [] S) ∧ (¬ (nI na) ≤ v3 → (((v3 &&& v2) = 0 → PW l x g shX m_X11_addUpSubsets (Qv x g shX K) 14 [(0, .ref (g.ad ka)), (1, .int v1), (2, .int v2), (3, .int (v3 + (nI 1)))] [] S) ∧ (¬ (v3 &&& v2) = 0 → (vp_in v3 na ∧ (vp_in (v3 ^^^ v2) na ∧ (vp_in v3 na ∧ PW l x g shX m_X11_addUpSubsets (Qv x g shX K) 14 [(0, .ref (g.ad ka)), (1, .int v1), (2, .int v2), (3, .int (v3 + (nI 1)))] [] (st2 S ka (cl v3) ((S ka (cl v3)) + (S ka (cl (v3 ^^^ v2))))))))))))))) : PW l x g shX m_X11_addUpSubsets (Qv x g shX K) 14 [(0, .ref (g.ad ka)), (1, .int v1), (2, .int v2), (3, .int v3)] [] S := by
  refine r_iload_n ok 3 dX11_addUpSubsets_14 rfl ?_
  refine r_sipush ok (nI 1024) dX11_addUpSubsets_15 (by decide) ?_
  refine r_icmp_ge ok 50 dX11_addUpSubsets_18 (by decide) ⟨fun c => ?_, fun c => ?_⟩
  · have h := h.1 c
    refine r_iinc ok 1 (v1 + (nI 1)) [(1, .int (v1 + (nI 1))), (0, .ref (g.ad ka)), (2, .int v2), (3, .int v3)] dX11_addUpSubsets_50 rfl rfl (by decide) rfl ?_
    refine r_goto ok 2 dX11_addUpSubsets_53 (by decide) ?_
    exact r_sub [1, 0] _ rfl h
  · have h := h.2 c
    refine r_iload_n ok 3 dX11_addUpSubsets_21 rfl ?_
    refine r_aload_n ok 0 dX11_addUpSubsets_22 rfl ?_
    refine r_alen ok (v := 0) ka hka (by decide) dX11_addUpSubsets_23 ?_
    refine r_icmp_ge ok 50 dX11_addUpSubsets_24 (by decide) ⟨fun c => ?_, fun c => ?_⟩
    · have h := h.1 c
      refine r_iinc ok 1 (v1 + (nI 1)) [(1, .int (v1 + (nI 1))), (0, .ref (g.ad ka)), (2, .int v2), (3, .int v3)] dX11_addUpSubsets_50 rfl rfl (by decide) rfl ?_
      refine r_goto ok 2 dX11_addUpSubsets_53 (by decide) ?_
      exact r_sub [1, 0] _ rfl h
    · have h := h.2 c
      refine r_iload_n ok 3 dX11_addUpSubsets_27 rfl ?_
      refine r_iload_n ok 2 dX11_addUpSubsets_28 rfl ?_
      refine r_iand ok dX11_addUpSubsets_29 ?_
      refine r_if_eq ok 44 dX11_addUpSubsets_30 (by decide) ⟨fun c => ?_, fun c => ?_⟩
      · have h := h.1 c
        refine r_iinc ok 3 (v3 + (nI 1)) [(3, .int (v3 + (nI 1))), (0, .ref (g.ad ka)), (1, .int v1), (2, .int v2)] dX11_addUpSubsets_44 rfl rfl (by decide) rfl ?_
        refine r_goto ok 14 dX11_addUpSubsets_47 (by decide) ?_
        exact r_sub [1, 2, 3, 0] _ rfl h
      · have h := h.2 c
        refine r_aload_n ok 0 dX11_addUpSubsets_33 rfl ?_
        refine r_iload_n ok 3 dX11_addUpSubsets_34 rfl ?_
        refine r_dup2 ok dX11_addUpSubsets_35 rfl rfl ?_
        refine r_iaload ok ka hka dX11_addUpSubsets_36 h.1 ?_
        have h := h.2
        refine r_aload_n ok 0 dX11_addUpSubsets_37 rfl ?_
        refine r_iload_n ok 3 dX11_addUpSubsets_38 rfl ?_
        refine r_iload_n ok 2 dX11_addUpSubsets_39 rfl ?_
        refine r_ixor ok dX11_addUpSubsets_40 ?_
        refine r_iaload ok ka hka dX11_addUpSubsets_41 h.1 ?_
        have h := h.2
        refine r_iadd ok dX11_addUpSubsets_42 ?_
        refine r_iastore ok ka hka dX11_addUpSubsets_43 h.1 ?_
        have h := h.2
        refine r_iinc ok 3 (v3 + (nI 1)) [(3, .int (v3 + (nI 1))), (0, .ref (g.ad ka)), (1, .int v1), (2, .int v2)] dX11_addUpSubsets_44 rfl rfl (by decide) rfl ?_
        refine r_goto ok 14 dX11_addUpSubsets_47 (by decide) ?_
        exact r_sub [1, 2, 3, 0] _ rfl h
