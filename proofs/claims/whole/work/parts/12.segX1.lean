/-! segments, written by program: 12.segX1.lean.txt -/
set_option maxRecDepth 10000 in
theorem s_X6_wayOf_0 {l : Launch} {x : Cx} {g : Geo} {K : Int32 → Mem → Prop} (ok : Ok x g shX m_X6_wayOf) (v1 : Int32) (v2 : Int32) (S : Mem) (h : (vp_in v1 4 ∧ (vp_in v1 4 ∧ MWi l g shX m_X11_hasBit [.int (S 12 (cl v1)), .int v2] S (fun r1 S1 => ((r1 = 0 → (vp_in v2 12 ∧ ((¬ ((S1 7 (cl v2)) &&& ((S 11 (cl v1)) ^^^ (-1))) = 0 → MWi l g shX m_X1_firstSign [.ref (g.ad 4), .int v2] S1 (fun r2 S2 => MWi l g shX m_X11_hasBit [.int (S 11 (cl v1)), .int r2] S2 (fun r3 S3 => ((r3 = 0 → K (nI 3) S3) ∧ (¬ r3 = 0 → K (nI 2) S3))))) ∧ (((S1 7 (cl v2)) &&& ((S 11 (cl v1)) ^^^ (-1))) = 0 → K (nI 1) S1)))) ∧ (¬ r1 = 0 → K (nI 0) S1)))))) : PW l x g shX m_X6_wayOf (Qi x g shX K) 0 [(0, .ref (g.ad 25)), (1, .int v1), (2, .int v2)] [] S := by
  refine r_aload_n ok 0 dX6_wayOf_0 rfl ?_
  refine r_getR ok 25 2 rfl rfl fo_X6_19 dX6_wayOf_1 ?_
  refine r_getR ok 10 0 rfl rfl fo_X6_27 dX6_wayOf_4 ?_
  refine r_iload_n ok 1 dX6_wayOf_7 rfl ?_
  refine r_iaload ok 11 rfl dX6_wayOf_8 h.1 ?_
  have h := h.2
  refine r_istore_n ok [(3, .int (S 11 (cl v1))), (0, .ref (g.ad 25)), (1, .int v1), (2, .int v2)] dX6_wayOf_9 (by decide) rfl ?_
  refine r_aload_n ok 1 dX6_wayOf_10 rfl ?_
  refine r_getR ok 25 2 rfl rfl fo_X6_19 dX6_wayOf_11 ?_
  refine r_getR ok 10 1 rfl rfl fo_X6_32 dX6_wayOf_14 ?_
  refine r_iload_n ok 2 dX6_wayOf_17 rfl ?_
  refine r_iaload ok 12 rfl dX6_wayOf_18 h.1 ?_
  have h := h.2
  refine r_iload_n ok 3 dX6_wayOf_19 rfl ?_
  refine r_nesti ok (rest := []) (As := [.int (S 12 (cl v1)), .int v2]) _ k_X6_wayOf_35 rfl rfl (Nat.le_of_ble_eq_true rfl) dX6_wayOf_20 (MWi.mono h (fun r1 S1 h => ?_))
  refine r_if_eq ok 28 dX6_wayOf_23 (by decide) ⟨fun c => ?_, fun c => ?_⟩
  · have h := h.1 c
    refine r_aload_n ok 1 dX6_wayOf_28 rfl ?_
    refine r_getR ok 25 0 rfl rfl fo_X6_9 dX6_wayOf_29 ?_
    refine r_getR ok 4 2 rfl rfl fo_X6_39 dX6_wayOf_32 ?_
    refine r_iload_n ok 3 dX6_wayOf_35 rfl ?_
    refine r_iaload ok 7 rfl dX6_wayOf_36 h.1 ?_
    have h := h.2
    refine r_iload_n ok 0 dX6_wayOf_37 rfl ?_
    refine r_iconst ok (-1) dX6_wayOf_38 (by decide) ?_
    refine r_ixor ok dX6_wayOf_39 ?_
    refine r_iand ok dX6_wayOf_40 ?_
    refine r_if_ne ok 46 dX6_wayOf_41 (by decide) ⟨fun c => ?_, fun c => ?_⟩
    · have h := h.1 c
      refine r_iload_n ok 0 dX6_wayOf_46 rfl ?_
      refine r_aload_n ok 1 dX6_wayOf_47 rfl ?_
      refine r_getR ok 25 0 rfl rfl fo_X6_9 dX6_wayOf_48 ?_
      refine r_iload_n ok 3 dX6_wayOf_51 rfl ?_
      refine r_virti ok (rest := [.int (S 11 (cl v1))]) (As := [.int v2]) 4 _ k_X6_wayOf_44 rfl rfl rfl rfl (Nat.le_of_ble_eq_true rfl) dX6_wayOf_52 (MWi.mono h (fun r2 S2 h => ?_))
      refine r_nesti ok (rest := []) (As := [.int (S 11 (cl v1)), .int r2]) _ k_X6_wayOf_35 rfl rfl (Nat.le_of_ble_eq_true rfl) dX6_wayOf_55 (MWi.mono h (fun r3 S3 h => ?_))
      refine r_if_eq ok 65 dX6_wayOf_58 (by decide) ⟨fun c => ?_, fun c => ?_⟩
      · have h := h.1 c
        refine r_iconst ok (nI 3) dX6_wayOf_65 (by decide) ?_
        exact r_iret ok rfl dX6_wayOf_66 h
      · have h := h.2 c
        refine r_iconst ok (nI 2) dX6_wayOf_61 (by decide) ?_
        refine r_goto ok 66 dX6_wayOf_62 (by decide) ?_
        exact r_iret ok rfl dX6_wayOf_66 h
    · have h := h.2 c
      refine r_iconst ok (nI 1) dX6_wayOf_44 (by decide) ?_
      exact r_iret ok rfl dX6_wayOf_45 h
  · have h := h.2 c
    refine r_iconst ok (nI 0) dX6_wayOf_26 (by decide) ?_
    exact r_iret ok rfl dX6_wayOf_27 h
set_option maxRecDepth 10000 in
theorem s_X6_readAs_0 {l : Launch} {x : Cx} {g : Geo} {K : Int32 → Mem → Prop} (ok : Ok x g shX m_X6_readAs) (v1 : Int32) (v2 : Int32) (S : Mem) (h : MWi l g shX m_X6_wayOf [.ref (g.ad 25), .int v1, .int v2] S (fun r1 S1 => ((r1 = nI 0 → K v2 S1) ∧ (r1 = nI 1 → MWi l g shX m_X6_soundedAs [.ref (g.ad 25), .int v1, .int v2] S1 (fun r2 S2 => K r2 S2)) ∧ (r1 = nI 2 → MWi l g shX m_X6_guessedAs [.ref (g.ad 25), .int v2] S1 (fun r3 S3 => K r3 S3)) ∧ ((r1.toInt < 0 ∨ 2 < r1.toInt) → K (-6) S1)))) : PW l x g shX m_X6_readAs (Qi x g shX K) 0 [(0, .ref (g.ad 25)), (1, .int v1), (2, .int v2)] [] S := by
  refine r_aload_n ok 0 dX6_readAs_0 rfl ?_
  refine r_iload_n ok 1 dX6_readAs_1 rfl ?_
  refine r_iload_n ok 2 dX6_readAs_2 rfl ?_
  refine r_virti ok (rest := []) (As := [.int v1, .int v2]) 25 _ k_X6_readAs_48 rfl rfl rfl rfl (Nat.le_of_ble_eq_true rfl) dX6_readAs_3 (MWi.mono h (fun r1 S1 h => ?_))
  rcases sw2 r1 with e | e | e | e
  · have h := h.1 e
    rw [e]
    refine r_tableIn ok 32 dX6_readAs_6 (by decide) (by decide) rfl (by decide) ?_
    refine r_iload_n ok 2 dX6_readAs_32 rfl ?_
    exact r_iret ok rfl dX6_readAs_33 h
  · have h := h.2.1 e
    rw [e]
    refine r_tableIn ok 34 dX6_readAs_6 (by decide) (by decide) rfl (by decide) ?_
    refine r_aload_n ok 0 dX6_readAs_34 rfl ?_
    refine r_iload_n ok 1 dX6_readAs_35 rfl ?_
    refine r_iload_n ok 2 dX6_readAs_36 rfl ?_
    refine r_virti ok (rest := []) (As := [.int v1, .int v2]) 25 _ k_X6_readAs_52 rfl rfl rfl rfl (Nat.le_of_ble_eq_true rfl) dX6_readAs_37 (MWi.mono h (fun r2 S2 h => ?_))
    exact r_iret ok rfl dX6_readAs_40 h
  · have h := h.2.2.1 e
    rw [e]
    refine r_tableIn ok 41 dX6_readAs_6 (by decide) (by decide) rfl (by decide) ?_
    refine r_aload_n ok 0 dX6_readAs_41 rfl ?_
    refine r_iload_n ok 2 dX6_readAs_42 rfl ?_
    refine r_virti ok (rest := []) (As := [.int v2]) 25 _ k_X6_readAs_55 rfl rfl rfl rfl (Nat.le_of_ble_eq_true rfl) dX6_readAs_43 (MWi.mono h (fun r3 S3 h => ?_))
    exact r_iret ok rfl dX6_readAs_46 h
  · have h := h.2.2.2 e
    refine r_tableOut ok 47 dX6_readAs_6 e (by decide) ?_
    refine r_bipush ok (-6) dX6_readAs_47 (by decide) ?_
    exact r_iret ok rfl dX6_readAs_49 h
set_option maxRecDepth 10000 in
theorem s_X6_guessedAs_0 {l : Launch} {x : Cx} {g : Geo} {K : Int32 → Mem → Prop} (ok : Ok x g shX m_X6_guessedAs) (v1 : Int32) (S : Mem) (h : MWi l g shX m_X1_firstSign [.ref (g.ad 4), .int v1] S (fun r1 S1 => (vp_in r1 10 ∧ K (S1 24 (cl r1)) S1))) : PW l x g shX m_X6_guessedAs (Qi x g shX K) 0 [(0, .ref (g.ad 25)), (1, .int v1)] [] S := by
  refine r_aload_n ok 0 dX6_guessedAs_0 rfl ?_
  refine r_getR ok 25 1 rfl rfl fo_X6_15 dX6_guessedAs_1 ?_
  refine r_getR ok 18 6 rfl rfl fo_X6_58 dX6_guessedAs_4 ?_
  refine r_aload_n ok 0 dX6_guessedAs_7 rfl ?_
  refine r_getR ok 25 0 rfl rfl fo_X6_9 dX6_guessedAs_8 ?_
  refine r_iload_n ok 1 dX6_guessedAs_11 rfl ?_
  refine r_virti ok (rest := [.ref (g.ad 24)]) (As := [.int v1]) 4 _ k_X6_guessedAs_44 rfl rfl rfl rfl (Nat.le_of_ble_eq_true rfl) dX6_guessedAs_12 (MWi.mono h (fun r1 S1 h => ?_))
  refine r_iaload ok 24 rfl dX6_guessedAs_15 h.1 ?_
  have h := h.2
  exact r_iret ok rfl dX6_guessedAs_16 h
set_option maxRecDepth 10000 in
theorem s_X6_soundedAs_0 {l : Launch} {x : Cx} {g : Geo} {K : Int32 → Mem → Prop} (ok : Ok x g shX m_X6_soundedAs) (v1 : Int32) (v2 : Int32) (S : Mem) (h : (vp_in v2 12 ∧ PW l x g shX m_X6_soundedAs (Qi x g shX K) 13 [(0, .ref (g.ad 25)), (1, .int v1), (2, .int v2), (3, .int (S 5 (cl v2))), (4, .int (nI 0))] [] S)) : PW l x g shX m_X6_soundedAs (Qi x g shX K) 0 [(0, .ref (g.ad 25)), (1, .int v1), (2, .int v2)] [] S := by
  refine r_aload_n ok 0 dX6_soundedAs_0 rfl ?_
  refine r_getR ok 25 0 rfl rfl fo_X6_9 dX6_soundedAs_1 ?_
  refine r_getR ok 4 0 rfl rfl fo_X6_63 dX6_soundedAs_4 ?_
  refine r_iload_n ok 2 dX6_soundedAs_7 rfl ?_
  refine r_iaload ok 5 rfl dX6_soundedAs_8 h.1 ?_
  have h := h.2
  refine r_istore_n ok [(3, .int (S 5 (cl v2))), (0, .ref (g.ad 25)), (1, .int v1), (2, .int v2)] dX6_soundedAs_9 (by decide) rfl ?_
  refine r_iconst ok (nI 0) dX6_soundedAs_10 (by decide) ?_
  refine r_istore ok [(4, .int (nI 0)), (3, .int (S 5 (cl v2))), (0, .ref (g.ad 25)), (1, .int v1), (2, .int v2)] dX6_soundedAs_11 (by decide) rfl ?_
  exact r_sub [2, 3, 4, 1, 0] _ rfl h
set_option maxRecDepth 10000 in
theorem s_X6_soundedAs_13 {l : Launch} {x : Cx} {g : Geo} {K : Int32 → Mem → Prop} (ok : Ok x g shX m_X6_soundedAs) (v1 : Int32) (v2 : Int32) (v3 : Int32) (v4 : Int32) (S : Mem) (h : ((v3 ≤ v4 → MWi l g shX m_X6_hasSoundRow [.ref (g.ad 25), .int v2, .int v3] S (fun r1 S1 => ((r1 = 0 → PW l x g shX m_X6_soundedAs (Qi x g shX K) 91 [(0, .ref (g.ad 25)), (3, .int v3), (4, .int (nI 0))] [] S1) ∧ (¬ r1 = 0 → K v2 S1)))) ∧ (¬ v3 ≤ v4 → MWi l g shX m_X1_signAt [.ref (g.ad 4), .int v2, .int v4] S (fun r2 S2 => MWi l g shX m_X2_takenFor [.ref (g.ad 10), .int v1, .int r2] S2 (fun r3 S3 => (vp_in r3 10 ∧ (vp_in v4 5 ∧ (vp_in v4 5 ∧ ((¬ ((st2 S3 26 (cl v4) (S3 21 (cl r3))) 26 (cl v4)) = (-6) → PW l x g shX m_X6_soundedAs (Qi x g shX K) 13 [(0, .ref (g.ad 25)), (1, .int v1), (2, .int v2), (3, .int v3), (4, .int (v4 + (nI 1)))] [] (st2 S3 26 (cl v4) (S3 21 (cl r3)))) ∧ (((st2 S3 26 (cl v4) (S3 21 (cl r3))) 26 (cl v4)) = (-6) → K (-6) (st2 S3 26 (cl v4) (S3 21 (cl r3))))))))))))) : PW l x g shX m_X6_soundedAs (Qi x g shX K) 13 [(0, .ref (g.ad 25)), (1, .int v1), (2, .int v2), (3, .int v3), (4, .int v4)] [] S := by
  refine r_iload ok 4 dX6_soundedAs_13 rfl ?_
  refine r_iload_n ok 3 dX6_soundedAs_15 rfl ?_
  refine r_icmp_ge ok 77 dX6_soundedAs_16 (by decide) ⟨fun c => ?_, fun c => ?_⟩
  · have h := h.1 c
    refine r_aload_n ok 0 dX6_soundedAs_77 rfl ?_
    refine r_iload_n ok 2 dX6_soundedAs_78 rfl ?_
    refine r_iload_n ok 3 dX6_soundedAs_79 rfl ?_
    refine r_virti ok (rest := []) (As := [.int v2, .int v3]) 25 _ k_X6_soundedAs_75 rfl rfl rfl rfl (Nat.le_of_ble_eq_true rfl) dX6_soundedAs_80 (MWi.mono h (fun r1 S1 h => ?_))
    refine r_if_eq ok 88 dX6_soundedAs_83 (by decide) ⟨fun c => ?_, fun c => ?_⟩
    · have h := h.1 c
      refine r_iconst ok (nI 0) dX6_soundedAs_88 (by decide) ?_
      refine r_istore ok [(4, .int (nI 0)), (0, .ref (g.ad 25)), (1, .int v1), (2, .int v2), (3, .int v3)] dX6_soundedAs_89 (by decide) rfl ?_
      exact r_sub [1, 4, 0] _ rfl h
    · have h := h.2 c
      refine r_iload_n ok 2 dX6_soundedAs_86 rfl ?_
      exact r_iret ok rfl dX6_soundedAs_87 h
  · have h := h.2 c
    refine r_aload_n ok 0 dX6_soundedAs_19 rfl ?_
    refine r_getR ok 25 2 rfl rfl fo_X6_19 dX6_soundedAs_20 ?_
    refine r_iload_n ok 1 dX6_soundedAs_23 rfl ?_
    refine r_aload_n ok 0 dX6_soundedAs_24 rfl ?_
    refine r_getR ok 25 0 rfl rfl fo_X6_9 dX6_soundedAs_25 ?_
    refine r_iload_n ok 2 dX6_soundedAs_28 rfl ?_
    refine r_iload ok 4 dX6_soundedAs_29 rfl ?_
    refine r_virti ok (rest := [.int v1, .ref (g.ad 10)]) (As := [.int v2, .int v4]) 4 _ k_X6_soundedAs_66 rfl rfl rfl rfl (Nat.le_of_ble_eq_true rfl) dX6_soundedAs_31 (MWi.mono h (fun r2 S2 h => ?_))
    refine r_virti ok (rest := []) (As := [.int v1, .int r2]) 10 _ k_X6_soundedAs_69 rfl rfl rfl rfl (Nat.le_of_ble_eq_true rfl) dX6_soundedAs_34 (MWi.mono h (fun r3 S3 h => ?_))
    refine r_istore ok [(5, .int r3), (0, .ref (g.ad 25)), (1, .int v1), (2, .int v2), (3, .int v3), (4, .int v4)] dX6_soundedAs_37 (by decide) rfl ?_
    refine r_aload_n ok 1 dX6_soundedAs_39 rfl ?_
    refine r_getR ok 25 3 rfl rfl fo_X6_23 dX6_soundedAs_40 ?_
    refine r_iload ok 5 dX6_soundedAs_43 rfl ?_
    refine r_aload_n ok 1 dX6_soundedAs_45 rfl ?_
    refine r_getR ok 25 1 rfl rfl fo_X6_15 dX6_soundedAs_46 ?_
    refine r_getR ok 18 3 rfl rfl fo_X6_72 dX6_soundedAs_49 ?_
    refine r_iload ok 0 dX6_soundedAs_52 rfl ?_
    refine r_iaload ok 21 rfl dX6_soundedAs_54 h.1 ?_
    have h := h.2
    refine r_iastore ok 26 rfl dX6_soundedAs_55 h.1 ?_
    have h := h.2
    refine r_aload_n ok 1 dX6_soundedAs_56 rfl ?_
    refine r_getR ok 25 3 rfl rfl fo_X6_23 dX6_soundedAs_57 ?_
    refine r_iload ok 5 dX6_soundedAs_60 rfl ?_
    refine r_iaload ok 26 rfl dX6_soundedAs_62 h.1 ?_
    have h := h.2
    refine r_bipush ok (-6) dX6_soundedAs_63 (by decide) ?_
    refine r_icmp_ne ok 71 dX6_soundedAs_65 (by decide) ⟨fun c => ?_, fun c => ?_⟩
    · have h := h.1 c
      refine r_iinc ok 5 (v4 + (nI 1)) [(4, .int (v4 + (nI 1))), (5, .int r3), (0, .ref (g.ad 25)), (1, .int v1), (2, .int v2), (3, .int v3)] dX6_soundedAs_71 rfl rfl (by decide) rfl ?_
      refine r_goto ok 13 dX6_soundedAs_74 (by decide) ?_
      exact r_sub [2, 3, 4, 5, 0] _ rfl h
    · have h := h.2 c
      refine r_bipush ok (-6) dX6_soundedAs_68 (by decide) ?_
      exact r_iret ok rfl dX6_soundedAs_70 h
set_option maxRecDepth 10000 in
theorem s_X6_soundedAs_91 {l : Launch} {x : Cx} {g : Geo} {K : Int32 → Mem → Prop} (ok : Ok x g shX m_X6_soundedAs) (v3 : Int32) (v4 : Int32) (S : Mem) (h : (((S 4 5) ≤ v4 → K (-6) S) ∧ (¬ (S 4 5) ≤ v4 → MWi l g shX m_X6_hasSoundRow [.ref (g.ad 25), .int v4, .int v3] S (fun r1 S1 => ((r1 = 0 → PW l x g shX m_X6_soundedAs (Qi x g shX K) 91 [(0, .ref (g.ad 25)), (3, .int v3), (4, .int (v4 + (nI 1)))] [] S1) ∧ (¬ r1 = 0 → K v4 S1)))))) : PW l x g shX m_X6_soundedAs (Qi x g shX K) 91 [(0, .ref (g.ad 25)), (3, .int v3), (4, .int v4)] [] S := by
  refine r_iload ok 2 dX6_soundedAs_91 rfl ?_
  refine r_aload_n ok 0 dX6_soundedAs_93 rfl ?_
  refine r_getR ok 25 0 rfl rfl fo_X6_9 dX6_soundedAs_94 ?_
  refine r_getI ok 4 5 rfl rfl fo_X6_78 dX6_soundedAs_97 ?_
  refine r_icmp_ge ok 122 dX6_soundedAs_100 (by decide) ⟨fun c => ?_, fun c => ?_⟩
  · have h := h.1 c
    refine r_bipush ok (-6) dX6_soundedAs_122 (by decide) ?_
    exact r_iret ok rfl dX6_soundedAs_124 h
  · have h := h.2 c
    refine r_aload_n ok 0 dX6_soundedAs_103 rfl ?_
    refine r_iload ok 2 dX6_soundedAs_104 rfl ?_
    refine r_iload_n ok 1 dX6_soundedAs_106 rfl ?_
    refine r_virti ok (rest := []) (As := [.int v4, .int v3]) 25 _ k_X6_soundedAs_75 rfl rfl rfl rfl (Nat.le_of_ble_eq_true rfl) dX6_soundedAs_107 (MWi.mono h (fun r1 S1 h => ?_))
    refine r_if_eq ok 116 dX6_soundedAs_110 (by decide) ⟨fun c => ?_, fun c => ?_⟩
    · have h := h.1 c
      refine r_iinc ok 2 (v4 + (nI 1)) [(4, .int (v4 + (nI 1))), (0, .ref (g.ad 25)), (3, .int v3)] dX6_soundedAs_116 rfl rfl (by decide) rfl ?_
      refine r_goto ok 91 dX6_soundedAs_119 (by decide) ?_
      exact r_sub [1, 2, 0] _ rfl h
    · have h := h.2 c
      refine r_iload ok 2 dX6_soundedAs_113 rfl ?_
      exact r_iret ok rfl dX6_soundedAs_115 h
set_option maxRecDepth 10000 in
theorem s_X6_hasSoundRow_0 {l : Launch} {x : Cx} {g : Geo} {K : Int32 → Mem → Prop} (ok : Ok x g shX m_X6_hasSoundRow) (v1 : Int32) (v2 : Int32) (S : Mem) (h : (vp_in v1 12 ∧ (((S 5 (cl v1)) = v2 → PW l x g shX m_X6_hasSoundRow (Qi x g shX K) 17 [(0, .ref (g.ad 25)), (1, .int v1), (2, .int v2), (3, .int (nI 0))] [] S) ∧ (¬ (S 5 (cl v1)) = v2 → K (nI 0) S)))) : PW l x g shX m_X6_hasSoundRow (Qi x g shX K) 0 [(0, .ref (g.ad 25)), (1, .int v1), (2, .int v2)] [] S := by
  refine r_aload_n ok 0 dX6_hasSoundRow_0 rfl ?_
  refine r_getR ok 25 0 rfl rfl fo_X6_9 dX6_hasSoundRow_1 ?_
  refine r_getR ok 4 0 rfl rfl fo_X6_63 dX6_hasSoundRow_4 ?_
  refine r_iload_n ok 1 dX6_hasSoundRow_7 rfl ?_
  refine r_iaload ok 5 rfl dX6_hasSoundRow_8 h.1 ?_
  have h := h.2
  refine r_iload_n ok 2 dX6_hasSoundRow_9 rfl ?_
  refine r_icmp_eq ok 15 dX6_hasSoundRow_10 (by decide) ⟨fun c => ?_, fun c => ?_⟩
  · have h := h.1 c
    refine r_iconst ok (nI 0) dX6_hasSoundRow_15 (by decide) ?_
    refine r_istore_n ok [(3, .int (nI 0)), (0, .ref (g.ad 25)), (1, .int v1), (2, .int v2)] dX6_hasSoundRow_16 (by decide) rfl ?_
    exact r_sub [1, 2, 3, 0] _ rfl h
  · have h := h.2 c
    refine r_iconst ok (nI 0) dX6_hasSoundRow_13 (by decide) ?_
    exact r_zret ok rfl dX6_hasSoundRow_14 ⟨rfl, h⟩
set_option maxRecDepth 10000 in
theorem s_X6_hasSoundRow_17 {l : Launch} {x : Cx} {g : Geo} {K : Int32 → Mem → Prop} (ok : Ok x g shX m_X6_hasSoundRow) (v1 : Int32) (v2 : Int32) (v3 : Int32) (S : Mem) (h : ((v2 ≤ v3 → K (nI 1) S) ∧ (¬ v2 ≤ v3 → MWi l g shX m_X1_soundAt [.ref (g.ad 4), .int v1, .int v3] S (fun r1 S1 => (vp_in v3 5 ∧ ((r1 = (S1 26 (cl v3)) → PW l x g shX m_X6_hasSoundRow (Qi x g shX K) 17 [(0, .ref (g.ad 25)), (1, .int v1), (2, .int v2), (3, .int (v3 + (nI 1)))] [] S1) ∧ (¬ r1 = (S1 26 (cl v3)) → K (nI 0) S1))))))) : PW l x g shX m_X6_hasSoundRow (Qi x g shX K) 17 [(0, .ref (g.ad 25)), (1, .int v1), (2, .int v2), (3, .int v3)] [] S := by
  refine r_iload_n ok 3 dX6_hasSoundRow_17 rfl ?_
  refine r_iload_n ok 2 dX6_hasSoundRow_18 rfl ?_
  refine r_icmp_ge ok 48 dX6_hasSoundRow_19 (by decide) ⟨fun c => ?_, fun c => ?_⟩
  · have h := h.1 c
    refine r_iconst ok (nI 1) dX6_hasSoundRow_48 (by decide) ?_
    exact r_zret ok rfl dX6_hasSoundRow_49 ⟨rfl, h⟩
  · have h := h.2 c
    refine r_aload_n ok 0 dX6_hasSoundRow_22 rfl ?_
    refine r_getR ok 25 0 rfl rfl fo_X6_9 dX6_hasSoundRow_23 ?_
    refine r_iload_n ok 1 dX6_hasSoundRow_26 rfl ?_
    refine r_iload_n ok 3 dX6_hasSoundRow_27 rfl ?_
    refine r_virti ok (rest := []) (As := [.int v1, .int v3]) 4 _ k_X6_hasSoundRow_82 rfl rfl rfl rfl (Nat.le_of_ble_eq_true rfl) dX6_hasSoundRow_28 (MWi.mono h (fun r1 S1 h => ?_))
    refine r_aload_n ok 0 dX6_hasSoundRow_31 rfl ?_
    refine r_getR ok 25 3 rfl rfl fo_X6_23 dX6_hasSoundRow_32 ?_
    refine r_iload_n ok 3 dX6_hasSoundRow_35 rfl ?_
    refine r_iaload ok 26 rfl dX6_hasSoundRow_36 h.1 ?_
    have h := h.2
    refine r_icmp_eq ok 42 dX6_hasSoundRow_37 (by decide) ⟨fun c => ?_, fun c => ?_⟩
    · have h := h.1 c
      refine r_iinc ok 3 (v3 + (nI 1)) [(3, .int (v3 + (nI 1))), (0, .ref (g.ad 25)), (1, .int v1), (2, .int v2)] dX6_hasSoundRow_42 rfl rfl (by decide) rfl ?_
      refine r_goto ok 17 dX6_hasSoundRow_45 (by decide) ?_
      exact r_sub [1, 2, 3, 0] _ rfl h
    · have h := h.2 c
      refine r_iconst ok (nI 0) dX6_hasSoundRow_40 (by decide) ?_
      exact r_zret ok rfl dX6_hasSoundRow_41 ⟨rfl, h⟩
set_option maxRecDepth 10000 in
theorem s_X6_readable_0 {l : Launch} {x : Cx} {g : Geo} {K : Int32 → Mem → Prop} (ok : Ok x g shX m_X6_readable) (v1 : Int32) (S : Mem) (h : PW l x g shX m_X6_readable (Qi x g shX K) 4 [(0, .ref (g.ad 25)), (1, .int v1), (2, .int (nI 0)), (3, .int (nI 0))] [] S) : PW l x g shX m_X6_readable (Qi x g shX K) 0 [(0, .ref (g.ad 25)), (1, .int v1)] [] S := by
  refine r_iconst ok (nI 0) dX6_readable_0 (by decide) ?_
  refine r_istore_n ok [(2, .int (nI 0)), (0, .ref (g.ad 25)), (1, .int v1)] dX6_readable_1 (by decide) rfl ?_
  refine r_iconst ok (nI 0) dX6_readable_2 (by decide) ?_
  refine r_istore_n ok [(3, .int (nI 0)), (2, .int (nI 0)), (0, .ref (g.ad 25)), (1, .int v1)] dX6_readable_3 (by decide) rfl ?_
  exact r_sub [2, 3, 1, 0] _ rfl h
set_option maxRecDepth 10000 in
theorem s_X6_readable_4 {l : Launch} {x : Cx} {g : Geo} {K : Int32 → Mem → Prop} (ok : Ok x g shX m_X6_readable) (v1 : Int32) (v2 : Int32) (v3 : Int32) (S : Mem) (h : (((S 4 5) ≤ v3 → K v2 S) ∧ (¬ (S 4 5) ≤ v3 → MWi l g shX m_X6_readAs [.ref (g.ad 25), .int v1, .int v3] S (fun r1 S1 => ((¬ r1 = v3 → PW l x g shX m_X6_readable (Qi x g shX K) 4 [(0, .ref (g.ad 25)), (1, .int v1), (2, .int v2), (3, .int (v3 + (nI 1)))] [] S1) ∧ (r1 = v3 → PW l x g shX m_X6_readable (Qi x g shX K) 4 [(0, .ref (g.ad 25)), (1, .int v1), (2, .int (v2 ||| (jshl (nI 1) v3))), (3, .int (v3 + (nI 1)))] [] S1)))))) : PW l x g shX m_X6_readable (Qi x g shX K) 4 [(0, .ref (g.ad 25)), (1, .int v1), (2, .int v2), (3, .int v3)] [] S := by
  refine r_iload_n ok 3 dX6_readable_4 rfl ?_
  refine r_aload_n ok 0 dX6_readable_5 rfl ?_
  refine r_getR ok 25 0 rfl rfl fo_X6_9 dX6_readable_6 ?_
  refine r_getI ok 4 5 rfl rfl fo_X6_78 dX6_readable_9 ?_
  refine r_icmp_ge ok 37 dX6_readable_12 (by decide) ⟨fun c => ?_, fun c => ?_⟩
  · have h := h.1 c
    refine r_iload_n ok 2 dX6_readable_37 rfl ?_
    exact r_iret ok rfl dX6_readable_38 h
  · have h := h.2 c
    refine r_aload_n ok 0 dX6_readable_15 rfl ?_
    refine r_iload_n ok 1 dX6_readable_16 rfl ?_
    refine r_iload_n ok 3 dX6_readable_17 rfl ?_
    refine r_virti ok (rest := []) (As := [.int v1, .int v3]) 25 _ k_X6_readable_85 rfl rfl rfl rfl (Nat.le_of_ble_eq_true rfl) dX6_readable_18 (MWi.mono h (fun r1 S1 h => ?_))
    refine r_iload_n ok 3 dX6_readable_21 rfl ?_
    refine r_icmp_ne ok 31 dX6_readable_22 (by decide) ⟨fun c => ?_, fun c => ?_⟩
    · have h := h.1 c
      refine r_iinc ok 3 (v3 + (nI 1)) [(3, .int (v3 + (nI 1))), (0, .ref (g.ad 25)), (1, .int v1), (2, .int v2)] dX6_readable_31 rfl rfl (by decide) rfl ?_
      refine r_goto ok 4 dX6_readable_34 (by decide) ?_
      exact r_sub [1, 2, 3, 0] _ rfl h
    · have h := h.2 c
      refine r_iload_n ok 2 dX6_readable_25 rfl ?_
      refine r_iconst ok (nI 1) dX6_readable_26 (by decide) ?_
      refine r_iload_n ok 3 dX6_readable_27 rfl ?_
      refine r_ishl ok dX6_readable_28 ?_
      refine r_ior ok dX6_readable_29 ?_
      refine r_istore_n ok [(2, .int (v2 ||| (jshl (nI 1) v3))), (0, .ref (g.ad 25)), (1, .int v1), (3, .int v3)] dX6_readable_30 (by decide) rfl ?_
      refine r_iinc ok 3 (v3 + (nI 1)) [(3, .int (v3 + (nI 1))), (2, .int (v2 ||| (jshl (nI 1) v3))), (0, .ref (g.ad 25)), (1, .int v1)] dX6_readable_31 rfl rfl (by decide) rfl ?_
      refine r_goto ok 4 dX6_readable_34 (by decide) ?_
      exact r_sub [2, 3, 1, 0] _ rfl h
set_option maxRecDepth 10000 in
theorem s_X6_readableAtLast_0 {l : Launch} {x : Cx} {g : Geo} {K : Int32 → Mem → Prop} (ok : Ok x g shX m_X6_readableAtLast) (v1 : Int32) (v2 : Int32) (S : Mem) (h : MWi l g shX m_X1_allWords [.ref (g.ad 4)] S (fun r1 S1 => MWi l g shX m_X1_timesOf [.ref (g.ad 4), .int r1] S1 (fun r2 S2 => PW l x g shX m_X6_readableAtLast (Qi x g shX K) 21 [(0, .ref (g.ad 25)), (2, .int v2), (3, .int r2), (4, .int v1), (5, .int (nI 0))] [] S2))) : PW l x g shX m_X6_readableAtLast (Qi x g shX K) 0 [(0, .ref (g.ad 25)), (1, .int v1), (2, .int v2)] [] S := by
  refine r_aload_n ok 0 dX6_readableAtLast_0 rfl ?_
  refine r_getR ok 25 0 rfl rfl fo_X6_9 dX6_readableAtLast_1 ?_
  refine r_aload_n ok 0 dX6_readableAtLast_4 rfl ?_
  refine r_getR ok 25 0 rfl rfl fo_X6_9 dX6_readableAtLast_5 ?_
  refine r_virti ok (rest := [.ref (g.ad 4)]) (As := []) 4 _ k_X6_readableAtLast_88 rfl rfl rfl rfl (Nat.le_of_ble_eq_true rfl) dX6_readableAtLast_8 (MWi.mono h (fun r1 S1 h => ?_))
  refine r_virti ok (rest := []) (As := [.int r1]) 4 _ k_X6_readableAtLast_92 rfl rfl rfl rfl (Nat.le_of_ble_eq_true rfl) dX6_readableAtLast_11 (MWi.mono h (fun r2 S2 h => ?_))
  refine r_istore_n ok [(3, .int r2), (0, .ref (g.ad 25)), (1, .int v1), (2, .int v2)] dX6_readableAtLast_14 (by decide) rfl ?_
  refine r_iload_n ok 2 dX6_readableAtLast_15 rfl ?_
  refine r_istore ok [(4, .int v1), (3, .int r2), (0, .ref (g.ad 25)), (1, .int v1), (2, .int v2)] dX6_readableAtLast_16 (by decide) rfl ?_
  refine r_iconst ok (nI 0) dX6_readableAtLast_18 (by decide) ?_
  refine r_istore ok [(5, .int (nI 0)), (4, .int v1), (3, .int r2), (0, .ref (g.ad 25)), (1, .int v1), (2, .int v2)] dX6_readableAtLast_19 (by decide) rfl ?_
  exact r_sub [3, 5, 2, 1, 0] _ rfl h
set_option maxRecDepth 10000 in
theorem s_X6_readableAtLast_21 {l : Launch} {x : Cx} {g : Geo} {K : Int32 → Mem → Prop} (ok : Ok x g shX m_X6_readableAtLast) (v2 : Int32) (v3 : Int32) (v4 : Int32) (v5 : Int32) (S : Mem) (h : (((S 4 5) ≤ v5 → K v4 S) ∧ (¬ (S 4 5) ≤ v5 → (vp_in v5 12 ∧ MWi l g shX m_X11_hasBit [.int v4, .int (S 23 (cl v5))] S (fun r1 S1 => ((r1 = 0 → MWi l g shX m_X1_timesOf [.ref (g.ad 4), .int v4] S1 (fun r2 S2 => (((v2 * v3) ≤ (r2 * (nI 1000)) → PW l x g shX m_X6_readableAtLast (Qi x g shX K) 21 [(0, .ref (g.ad 25)), (2, .int v2), (3, .int v3), (4, .int (v4 ||| (jshl (nI 1) (S 23 (cl v5))))), (5, .int (v5 + (nI 1)))] [] S2) ∧ (¬ (v2 * v3) ≤ (r2 * (nI 1000)) → K v4 S2)))) ∧ (¬ r1 = 0 → PW l x g shX m_X6_readableAtLast (Qi x g shX K) 21 [(0, .ref (g.ad 25)), (2, .int v2), (3, .int v3), (4, .int v4), (5, .int (v5 + (nI 1)))] [] S1))))))) : PW l x g shX m_X6_readableAtLast (Qi x g shX K) 21 [(0, .ref (g.ad 25)), (2, .int v2), (3, .int v3), (4, .int v4), (5, .int v5)] [] S := by
  refine r_iload ok 4 dX6_readableAtLast_21 rfl ?_
  refine r_aload_n ok 0 dX6_readableAtLast_23 rfl ?_
  refine r_getR ok 25 0 rfl rfl fo_X6_9 dX6_readableAtLast_24 ?_
  refine r_getI ok 4 5 rfl rfl fo_X6_78 dX6_readableAtLast_27 ?_
  refine r_icmp_ge ok 95 dX6_readableAtLast_30 (by decide) ⟨fun c => ?_, fun c => ?_⟩
  · have h := h.1 c
    refine r_iload ok 3 dX6_readableAtLast_95 rfl ?_
    exact r_iret ok rfl dX6_readableAtLast_97 h
  · have h := h.2 c
    refine r_aload_n ok 0 dX6_readableAtLast_33 rfl ?_
    refine r_getR ok 25 1 rfl rfl fo_X6_15 dX6_readableAtLast_34 ?_
    refine r_getR ok 18 5 rfl rfl fo_X6_95 dX6_readableAtLast_37 ?_
    refine r_iload ok 4 dX6_readableAtLast_40 rfl ?_
    refine r_iaload ok 23 rfl dX6_readableAtLast_42 h.1 ?_
    have h := h.2
    refine r_istore ok [(6, .int (S 23 (cl v5))), (0, .ref (g.ad 25)), (2, .int v2), (3, .int v3), (4, .int v4), (5, .int v5)] dX6_readableAtLast_43 (by decide) rfl ?_
    refine r_iload ok 4 dX6_readableAtLast_45 rfl ?_
    refine r_iload ok 0 dX6_readableAtLast_47 rfl ?_
    refine r_nesti ok (rest := []) (As := [.int v4, .int (S 23 (cl v5))]) _ k_X6_readableAtLast_35 rfl rfl (Nat.le_of_ble_eq_true rfl) dX6_readableAtLast_49 (MWi.mono h (fun r1 S1 h => ?_))
    refine r_if_eq ok 58 dX6_readableAtLast_52 (by decide) ⟨fun c => ?_, fun c => ?_⟩
    · have h := h.1 c
      refine r_aload_n ok 1 dX6_readableAtLast_58 rfl ?_
      refine r_getR ok 25 0 rfl rfl fo_X6_9 dX6_readableAtLast_59 ?_
      refine r_iload ok 4 dX6_readableAtLast_62 rfl ?_
      refine r_virti ok (rest := []) (As := [.int v4]) 4 _ k_X6_readableAtLast_92 rfl rfl rfl rfl (Nat.le_of_ble_eq_true rfl) dX6_readableAtLast_64 (MWi.mono h (fun r2 S2 h => ?_))
      refine r_sipush ok (nI 1000) dX6_readableAtLast_67 (by decide) ?_
      refine r_imul ok dX6_readableAtLast_70 ?_
      refine r_iload_n ok 2 dX6_readableAtLast_71 rfl ?_
      refine r_iload_n ok 3 dX6_readableAtLast_72 rfl ?_
      refine r_imul ok dX6_readableAtLast_73 ?_
      refine r_icmp_ge ok 80 dX6_readableAtLast_74 (by decide) ⟨fun c => ?_, fun c => ?_⟩
      · have h := h.1 c
        refine r_iload ok 4 dX6_readableAtLast_80 rfl ?_
        refine r_iconst ok (nI 1) dX6_readableAtLast_82 (by decide) ?_
        refine r_iload ok 0 dX6_readableAtLast_83 rfl ?_
        refine r_ishl ok dX6_readableAtLast_85 ?_
        refine r_ior ok dX6_readableAtLast_86 ?_
        refine r_istore ok [(4, .int (v4 ||| (jshl (nI 1) (S 23 (cl v5))))), (6, .int (S 23 (cl v5))), (0, .ref (g.ad 25)), (2, .int v2), (3, .int v3), (5, .int v5)] dX6_readableAtLast_87 (by decide) rfl ?_
        refine r_iinc ok 5 (v5 + (nI 1)) [(5, .int (v5 + (nI 1))), (4, .int (v4 ||| (jshl (nI 1) (S 23 (cl v5))))), (6, .int (S 23 (cl v5))), (0, .ref (g.ad 25)), (2, .int v2), (3, .int v3)] dX6_readableAtLast_89 rfl rfl (by decide) rfl ?_
        refine r_goto ok 21 dX6_readableAtLast_92 (by decide) ?_
        exact r_sub [3, 4, 5, 1, 0] _ rfl h
      · have h := h.2 c
        refine r_goto ok 95 dX6_readableAtLast_77 (by decide) ?_
        refine r_iload ok 4 dX6_readableAtLast_95 rfl ?_
        exact r_iret ok rfl dX6_readableAtLast_97 h
    · have h := h.2 c
      refine r_goto ok 89 dX6_readableAtLast_55 (by decide) ?_
      refine r_iinc ok 5 (v5 + (nI 1)) [(5, .int (v5 + (nI 1))), (6, .int (S 23 (cl v5))), (0, .ref (g.ad 25)), (2, .int v2), (3, .int v3), (4, .int v4)] dX6_readableAtLast_89 rfl rfl (by decide) rfl ?_
      refine r_goto ok 21 dX6_readableAtLast_92 (by decide) ?_
      exact r_sub [2, 3, 4, 5, 0] _ rfl h
set_option maxRecDepth 10000 in
theorem s_X6_highestLine_0 {l : Launch} {x : Cx} {g : Geo} {K : Int32 → Mem → Prop} (ok : Ok x g shX m_X6_highestLine) (v1 : Int32) (S : Mem) (h : MWi l g shX m_X1_allWords [.ref (g.ad 4)] S (fun r1 S1 => MWi l g shX m_X1_timesOf [.ref (g.ad 4), .int r1] S1 (fun r2 S2 => MWi l g shX m_X1_allWords [.ref (g.ad 4)] S2 (fun r3 S3 => ((v1 = r3 → K (nI 1000) S3) ∧ (¬ v1 = r3 → ((0 < r2 → MWi l g shX m_X1_timesOf [.ref (g.ad 4), .int v1] S3 (fun r4 S4 => (¬ r2 = 0 ∧ K ((r4 * (nI 1000)) / r2) S4))) ∧ (¬ 0 < r2 → K (nI 1000) S3)))))))) : PW l x g shX m_X6_highestLine (Qi x g shX K) 0 [(0, .ref (g.ad 25)), (1, .int v1)] [] S := by
  refine r_aload_n ok 0 dX6_highestLine_0 rfl ?_
  refine r_getR ok 25 0 rfl rfl fo_X6_9 dX6_highestLine_1 ?_
  refine r_aload_n ok 0 dX6_highestLine_4 rfl ?_
  refine r_getR ok 25 0 rfl rfl fo_X6_9 dX6_highestLine_5 ?_
  refine r_virti ok (rest := [.ref (g.ad 4)]) (As := []) 4 _ k_X6_highestLine_88 rfl rfl rfl rfl (Nat.le_of_ble_eq_true rfl) dX6_highestLine_8 (MWi.mono h (fun r1 S1 h => ?_))
  refine r_virti ok (rest := []) (As := [.int r1]) 4 _ k_X6_highestLine_92 rfl rfl rfl rfl (Nat.le_of_ble_eq_true rfl) dX6_highestLine_11 (MWi.mono h (fun r2 S2 h => ?_))
  refine r_istore_n ok [(2, .int r2), (0, .ref (g.ad 25)), (1, .int v1)] dX6_highestLine_14 (by decide) rfl ?_
  refine r_iload_n ok 2 dX6_highestLine_15 rfl ?_
  refine r_aload_n ok 1 dX6_highestLine_16 rfl ?_
  refine r_getR ok 25 0 rfl rfl fo_X6_9 dX6_highestLine_17 ?_
  refine r_virti ok (rest := [.int v1]) (As := []) 4 _ k_X6_highestLine_88 rfl rfl rfl rfl (Nat.le_of_ble_eq_true rfl) dX6_highestLine_20 (MWi.mono h (fun r3 S3 h => ?_))
  refine r_icmp_eq ok 30 dX6_highestLine_23 (by decide) ⟨fun c => ?_, fun c => ?_⟩
  · have h := h.1 c
    refine r_sipush ok (nI 1000) dX6_highestLine_30 (by decide) ?_
    exact r_iret ok rfl dX6_highestLine_33 h
  · have h := h.2 c
    refine r_iload_n ok 0 dX6_highestLine_26 rfl ?_
    refine r_if_gt ok 34 dX6_highestLine_27 (by decide) ⟨fun c => ?_, fun c => ?_⟩
    · have h := h.1 c
      refine r_aload_n ok 1 dX6_highestLine_34 rfl ?_
      refine r_getR ok 25 0 rfl rfl fo_X6_9 dX6_highestLine_35 ?_
      refine r_iload_n ok 2 dX6_highestLine_38 rfl ?_
      refine r_virti ok (rest := []) (As := [.int v1]) 4 _ k_X6_highestLine_92 rfl rfl rfl rfl (Nat.le_of_ble_eq_true rfl) dX6_highestLine_39 (MWi.mono h (fun r4 S4 h => ?_))
      refine r_sipush ok (nI 1000) dX6_highestLine_42 (by decide) ?_
      refine r_imul ok dX6_highestLine_45 ?_
      refine r_iload_n ok 0 dX6_highestLine_46 rfl ?_
      refine r_idiv ok dX6_highestLine_47 h.1 ?_
      have h := h.2
      exact r_iret ok rfl dX6_highestLine_48 h
    · have h := h.2 c
      refine r_sipush ok (nI 1000) dX6_highestLine_30 (by decide) ?_
      exact r_iret ok rfl dX6_highestLine_33 h
set_option maxRecDepth 10000 in
theorem s_X8_refresh_0 {l : Launch} {x : Cx} {g : Geo} {K : Mem → Prop} (ok : Ok x g shX m_X8_refresh) (S : Mem) (h : MWv l g shX m_X8_countPlaces [.ref (g.ad 18)] S (fun S1 => PW l x g shX m_X8_refresh (Qv x g shX K) 6 [(0, .ref (g.ad 18)), (1, .int (nI 0))] [] S1)) : PW l x g shX m_X8_refresh (Qv x g shX K) 0 [(0, .ref (g.ad 18))] [] S := by
  refine r_aload_n ok 0 dX8_refresh_0 rfl ?_
  refine r_virtv ok (rest := []) (As := []) 18 _ k_X8_refresh_34 rfl rfl rfl rfl (Nat.le_of_ble_eq_true rfl) dX8_refresh_1 (MWv.mono h (fun S1 h => ?_))
  refine r_iconst ok (nI 0) dX8_refresh_4 (by decide) ?_
  refine r_istore_n ok [(1, .int (nI 0)), (0, .ref (g.ad 18))] dX8_refresh_5 (by decide) rfl ?_
  exact r_sub [1, 0] _ rfl h
set_option maxRecDepth 10000 in
theorem s_X8_refresh_6 {l : Launch} {x : Cx} {g : Geo} {K : Mem → Prop} (ok : Ok x g shX m_X8_refresh) (v1 : Int32) (S : Mem) (h : (((nI 10) ≤ v1 → MWv l g shX m_X8_findRegular [.ref (g.ad 18)] S (fun S1 => MWv l g shX m_X8_sortByTimes [.ref (g.ad 18)] S1 (fun S2 => MWv l g shX m_X8_findGuesses [.ref (g.ad 18)] S2 (fun S3 => K S3)))) ∧ (¬ (nI 10) ≤ v1 → MWi l g shX m_X8_greatestAt [.ref (g.ad 18), .int (v1 * (nI 10)), .int (nI 1)] S (fun r4 S4 => (vp_in v1 10 ∧ MWi l g shX m_X8_greatestAt [.ref (g.ad 18), .int v1, .int (nI 10)] (st2 S4 21 (cl v1) r4) (fun r5 S5 => (vp_in v1 10 ∧ PW l x g shX m_X8_refresh (Qv x g shX K) 6 [(0, .ref (g.ad 18)), (1, .int (v1 + (nI 1)))] [] (st2 S5 22 (cl v1) r5)))))))) : PW l x g shX m_X8_refresh (Qv x g shX K) 6 [(0, .ref (g.ad 18)), (1, .int v1)] [] S := by
  refine r_iload_n ok 1 dX8_refresh_6 rfl ?_
  refine r_bipush ok (nI 10) dX8_refresh_7 (by decide) ?_
  refine r_icmp_ge ok 46 dX8_refresh_9 (by decide) ⟨fun c => ?_, fun c => ?_⟩
  · have h := h.1 c
    refine r_aload_n ok 0 dX8_refresh_46 rfl ?_
    refine r_virtv ok (rest := []) (As := []) 18 _ k_X8_refresh_41 rfl rfl rfl rfl (Nat.le_of_ble_eq_true rfl) dX8_refresh_47 (MWv.mono h (fun S1 h => ?_))
    refine r_aload_n ok 0 dX8_refresh_50 rfl ?_
    refine r_virtv ok (rest := []) (As := []) 18 _ k_X8_refresh_44 rfl rfl rfl rfl (Nat.le_of_ble_eq_true rfl) dX8_refresh_51 (MWv.mono h (fun S2 h => ?_))
    refine r_aload_n ok 0 dX8_refresh_54 rfl ?_
    refine r_virtv ok (rest := []) (As := []) 18 _ k_X8_refresh_47 rfl rfl rfl rfl (Nat.le_of_ble_eq_true rfl) dX8_refresh_55 (MWv.mono h (fun S3 h => ?_))
    exact r_ret ok rfl dX8_refresh_58 h
  · have h := h.2 c
    refine r_aload_n ok 0 dX8_refresh_12 rfl ?_
    refine r_getR ok 18 3 rfl rfl fo_X8_22 dX8_refresh_13 ?_
    refine r_iload_n ok 1 dX8_refresh_16 rfl ?_
    refine r_aload_n ok 0 dX8_refresh_17 rfl ?_
    refine r_iload_n ok 1 dX8_refresh_18 rfl ?_
    refine r_bipush ok (nI 10) dX8_refresh_19 (by decide) ?_
    refine r_imul ok dX8_refresh_21 ?_
    refine r_iconst ok (nI 1) dX8_refresh_22 (by decide) ?_
    refine r_virti ok (rest := [.int v1, .ref (g.ad 21)]) (As := [.int (v1 * (nI 10)), .int (nI 1)]) 18 _ k_X8_refresh_37 rfl rfl rfl rfl (Nat.le_of_ble_eq_true rfl) dX8_refresh_23 (MWi.mono h (fun r4 S4 h => ?_))
    refine r_iastore ok 21 rfl dX8_refresh_26 h.1 ?_
    have h := h.2
    refine r_aload_n ok 0 dX8_refresh_27 rfl ?_
    refine r_getR ok 18 4 rfl rfl fo_X8_25 dX8_refresh_28 ?_
    refine r_iload_n ok 1 dX8_refresh_31 rfl ?_
    refine r_aload_n ok 0 dX8_refresh_32 rfl ?_
    refine r_iload_n ok 1 dX8_refresh_33 rfl ?_
    refine r_bipush ok (nI 10) dX8_refresh_34 (by decide) ?_
    refine r_virti ok (rest := [.int v1, .ref (g.ad 22)]) (As := [.int v1, .int (nI 10)]) 18 _ k_X8_refresh_37 rfl rfl rfl rfl (Nat.le_of_ble_eq_true rfl) dX8_refresh_36 (MWi.mono h (fun r5 S5 h => ?_))
    refine r_iastore ok 22 rfl dX8_refresh_39 h.1 ?_
    have h := h.2
    refine r_iinc ok 1 (v1 + (nI 1)) [(1, .int (v1 + (nI 1))), (0, .ref (g.ad 18))] dX8_refresh_40 rfl rfl (by decide) rfl ?_
    refine r_goto ok 6 dX8_refresh_43 (by decide) ?_
    exact r_sub [1, 0] _ rfl h
set_option maxRecDepth 10000 in
theorem s_X8_countPlaces_0 {l : Launch} {x : Cx} {g : Geo} {K : Mem → Prop} (ok : Ok x g shX m_X8_countPlaces) (S : Mem) (h : MWv l g shX m_J7_fill_53178 [.ref (g.ad 19), .int (nI 0)] S (fun S1 => MWv l g shX m_J7_fill_53178 [.ref (g.ad 20), .int (nI 0)] S1 (fun S2 => PW l x g shX m_X8_countPlaces (Qv x g shX K) 18 [(0, .ref (g.ad 18)), (1, .int (nI 0))] [] S2))) : PW l x g shX m_X8_countPlaces (Qv x g shX K) 0 [(0, .ref (g.ad 18))] [] S := by
  refine r_aload_n ok 0 dX8_countPlaces_0 rfl ?_
  refine r_getR ok 18 1 rfl rfl fo_X8_15 dX8_countPlaces_1 ?_
  refine r_iconst ok (nI 0) dX8_countPlaces_4 (by decide) ?_
  refine r_statv ok (rest := []) (As := [.ref (g.ad 19), .int (nI 0)]) _ k_X8_countPlaces_50 rfl rfl (Nat.le_of_ble_eq_true rfl) dX8_countPlaces_5 (MWv.mono h (fun S1 h => ?_))
  refine r_aload_n ok 0 dX8_countPlaces_8 rfl ?_
  refine r_getR ok 18 2 rfl rfl fo_X8_19 dX8_countPlaces_9 ?_
  refine r_iconst ok (nI 0) dX8_countPlaces_12 (by decide) ?_
  refine r_statv ok (rest := []) (As := [.ref (g.ad 20), .int (nI 0)]) _ k_X8_countPlaces_50 rfl rfl (Nat.le_of_ble_eq_true rfl) dX8_countPlaces_13 (MWv.mono h (fun S2 h => ?_))
  refine r_iconst ok (nI 0) dX8_countPlaces_16 (by decide) ?_
  refine r_istore_n ok [(1, .int (nI 0)), (0, .ref (g.ad 18))] dX8_countPlaces_17 (by decide) rfl ?_
  exact r_sub [1, 0] _ rfl h
set_option maxRecDepth 10000 in
theorem s_X8_countPlaces_18 {l : Launch} {x : Cx} {g : Geo} {K : Mem → Prop} (ok : Ok x g shX m_X8_countPlaces) (v1 : Int32) (S : Mem) (h : (((S 4 5) ≤ v1 → K S) ∧ (¬ (S 4 5) ≤ v1 → PW l x g shX m_X8_countPlaces (Qv x g shX K) 31 [(0, .ref (g.ad 18)), (1, .int v1), (2, .int (nI 0))] [] S))) : PW l x g shX m_X8_countPlaces (Qv x g shX K) 18 [(0, .ref (g.ad 18)), (1, .int v1)] [] S := by
  refine r_iload_n ok 1 dX8_countPlaces_18 rfl ?_
  refine r_aload_n ok 0 dX8_countPlaces_19 rfl ?_
  refine r_getR ok 18 0 rfl rfl fo_X8_9 dX8_countPlaces_20 ?_
  refine r_getI ok 4 5 rfl rfl fo_X8_56 dX8_countPlaces_23 ?_
  refine r_icmp_ge ok 115 dX8_countPlaces_26 (by decide) ⟨fun c => ?_, fun c => ?_⟩
  · have h := h.1 c
    exact r_ret ok rfl dX8_countPlaces_115 h
  · have h := h.2 c
    refine r_iconst ok (nI 0) dX8_countPlaces_29 (by decide) ?_
    refine r_istore_n ok [(2, .int (nI 0)), (0, .ref (g.ad 18)), (1, .int v1)] dX8_countPlaces_30 (by decide) rfl ?_
    exact r_sub [1, 2, 0] _ rfl h
set_option maxRecDepth 10000 in
theorem s_X8_countPlaces_31 {l : Launch} {x : Cx} {g : Geo} {K : Mem → Prop} (ok : Ok x g shX m_X8_countPlaces) (v1 : Int32) (v2 : Int32) (S : Mem) (h : (vp_in v1 12 ∧ (((S 5 (cl v1)) ≤ v2 → PW l x g shX m_X8_countPlaces (Qv x g shX K) 18 [(0, .ref (g.ad 18)), (1, .int (v1 + (nI 1)))] [] S) ∧ (¬ (S 5 (cl v1)) ≤ v2 → MWi l g shX m_X1_signAt [.ref (g.ad 4), .int v1, .int v2] S (fun r1 S1 => MWi l g shX m_X1_soundAt [.ref (g.ad 4), .int v1, .int v2] S1 (fun r2 S2 => (vp_in ((r1 * (nI 10)) + r2) 100 ∧ (vp_in v1 12 ∧ (vp_in ((r1 * (nI 10)) + r2) 100 ∧ (vp_in r1 10 ∧ (vp_in v1 12 ∧ (vp_in r1 10 ∧ PW l x g shX m_X8_countPlaces (Qv x g shX K) 31 [(0, .ref (g.ad 18)), (1, .int v1), (2, .int (v2 + (nI 1)))] [] (st2 (st2 S2 19 (cl ((r1 * (nI 10)) + r2)) ((S2 19 (cl ((r1 * (nI 10)) + r2))) + (S2 6 (cl v1)))) 20 (cl r1) (((st2 S2 19 (cl ((r1 * (nI 10)) + r2)) ((S2 19 (cl ((r1 * (nI 10)) + r2))) + (S2 6 (cl v1)))) 20 (cl r1)) + ((st2 S2 19 (cl ((r1 * (nI 10)) + r2)) ((S2 19 (cl ((r1 * (nI 10)) + r2))) + (S2 6 (cl v1)))) 6 (cl v1)))))))))))))))) : PW l x g shX m_X8_countPlaces (Qv x g shX K) 31 [(0, .ref (g.ad 18)), (1, .int v1), (2, .int v2)] [] S := by
  refine r_iload_n ok 2 dX8_countPlaces_31 rfl ?_
  refine r_aload_n ok 0 dX8_countPlaces_32 rfl ?_
  refine r_getR ok 18 0 rfl rfl fo_X8_9 dX8_countPlaces_33 ?_
  refine r_getR ok 4 0 rfl rfl fo_X8_62 dX8_countPlaces_36 ?_
  refine r_iload_n ok 1 dX8_countPlaces_39 rfl ?_
  refine r_iaload ok 5 rfl dX8_countPlaces_40 h.1 ?_
  have h := h.2
  refine r_icmp_ge ok 109 dX8_countPlaces_41 (by decide) ⟨fun c => ?_, fun c => ?_⟩
  · have h := h.1 c
    refine r_iinc ok 1 (v1 + (nI 1)) [(1, .int (v1 + (nI 1))), (0, .ref (g.ad 18)), (2, .int v2)] dX8_countPlaces_109 rfl rfl (by decide) rfl ?_
    refine r_goto ok 18 dX8_countPlaces_112 (by decide) ?_
    exact r_sub [1, 0] _ rfl h
  · have h := h.2 c
    refine r_aload_n ok 0 dX8_countPlaces_44 rfl ?_
    refine r_getR ok 18 0 rfl rfl fo_X8_9 dX8_countPlaces_45 ?_
    refine r_iload_n ok 1 dX8_countPlaces_48 rfl ?_
    refine r_iload_n ok 2 dX8_countPlaces_49 rfl ?_
    refine r_virti ok (rest := []) (As := [.int v1, .int v2]) 4 _ k_X8_countPlaces_65 rfl rfl rfl rfl (Nat.le_of_ble_eq_true rfl) dX8_countPlaces_50 (MWi.mono h (fun r1 S1 h => ?_))
    refine r_istore_n ok [(3, .int r1), (0, .ref (g.ad 18)), (1, .int v1), (2, .int v2)] dX8_countPlaces_53 (by decide) rfl ?_
    refine r_aload_n ok 1 dX8_countPlaces_54 rfl ?_
    refine r_getR ok 18 1 rfl rfl fo_X8_15 dX8_countPlaces_55 ?_
    refine r_iload_n ok 0 dX8_countPlaces_58 rfl ?_
    refine r_bipush ok (nI 10) dX8_countPlaces_59 (by decide) ?_
    refine r_imul ok dX8_countPlaces_61 ?_
    refine r_aload_n ok 1 dX8_countPlaces_62 rfl ?_
    refine r_getR ok 18 0 rfl rfl fo_X8_9 dX8_countPlaces_63 ?_
    refine r_iload_n ok 2 dX8_countPlaces_66 rfl ?_
    refine r_iload_n ok 3 dX8_countPlaces_67 rfl ?_
    refine r_virti ok (rest := [.int (r1 * (nI 10)), .ref (g.ad 19)]) (As := [.int v1, .int v2]) 4 _ k_X8_countPlaces_68 rfl rfl rfl rfl (Nat.le_of_ble_eq_true rfl) dX8_countPlaces_68 (MWi.mono h (fun r2 S2 h => ?_))
    refine r_iadd ok dX8_countPlaces_71 ?_
    refine r_dup2 ok dX8_countPlaces_72 rfl rfl ?_
    refine r_iaload ok 19 rfl dX8_countPlaces_73 h.1 ?_
    have h := h.2
    refine r_aload_n ok 1 dX8_countPlaces_74 rfl ?_
    refine r_getR ok 18 0 rfl rfl fo_X8_9 dX8_countPlaces_75 ?_
    refine r_getR ok 4 1 rfl rfl fo_X8_71 dX8_countPlaces_78 ?_
    refine r_iload_n ok 2 dX8_countPlaces_81 rfl ?_
    refine r_iaload ok 6 rfl dX8_countPlaces_82 h.1 ?_
    have h := h.2
    refine r_iadd ok dX8_countPlaces_83 ?_
    refine r_iastore ok 19 rfl dX8_countPlaces_84 h.1 ?_
    have h := h.2
    refine r_aload_n ok 1 dX8_countPlaces_85 rfl ?_
    refine r_getR ok 18 2 rfl rfl fo_X8_19 dX8_countPlaces_86 ?_
    refine r_iload_n ok 0 dX8_countPlaces_89 rfl ?_
    refine r_dup2 ok dX8_countPlaces_90 rfl rfl ?_
    refine r_iaload ok 20 rfl dX8_countPlaces_91 h.1 ?_
    have h := h.2
    refine r_aload_n ok 1 dX8_countPlaces_92 rfl ?_
    refine r_getR ok 18 0 rfl rfl fo_X8_9 dX8_countPlaces_93 ?_
    refine r_getR ok 4 1 rfl rfl fo_X8_71 dX8_countPlaces_96 ?_
    refine r_iload_n ok 2 dX8_countPlaces_99 rfl ?_
    refine r_iaload ok 6 rfl dX8_countPlaces_100 h.1 ?_
    have h := h.2
    refine r_iadd ok dX8_countPlaces_101 ?_
    refine r_iastore ok 20 rfl dX8_countPlaces_102 h.1 ?_
    have h := h.2
    refine r_iinc ok 3 (v2 + (nI 1)) [(2, .int (v2 + (nI 1))), (3, .int r1), (0, .ref (g.ad 18)), (1, .int v1)] dX8_countPlaces_103 rfl rfl (by decide) rfl ?_
    refine r_goto ok 31 dX8_countPlaces_106 (by decide) ?_
    exact r_sub [2, 3, 0] _ rfl h
set_option maxRecDepth 10000 in
theorem s_X8_greatestAt_0 {l : Launch} {x : Cx} {g : Geo} {K : Int32 → Mem → Prop} (ok : Ok x g shX m_X8_greatestAt) (v1 : Int32) (v2 : Int32) (S : Mem) (h : PW l x g shX m_X8_greatestAt (Qi x g shX K) 9 [(0, .ref (g.ad 18)), (1, .int v1), (2, .int v2), (3, .int (nI 0)), (4, .int (-6)), (5, .int (nI 0))] [] S) : PW l x g shX m_X8_greatestAt (Qi x g shX K) 0 [(0, .ref (g.ad 18)), (1, .int v1), (2, .int v2)] [] S := by
  refine r_iconst ok (nI 0) dX8_greatestAt_0 (by decide) ?_
  refine r_istore_n ok [(3, .int (nI 0)), (0, .ref (g.ad 18)), (1, .int v1), (2, .int v2)] dX8_greatestAt_1 (by decide) rfl ?_
  refine r_bipush ok (-6) dX8_greatestAt_2 (by decide) ?_
  refine r_istore ok [(4, .int (-6)), (3, .int (nI 0)), (0, .ref (g.ad 18)), (1, .int v1), (2, .int v2)] dX8_greatestAt_4 (by decide) rfl ?_
  refine r_iconst ok (nI 0) dX8_greatestAt_6 (by decide) ?_
  refine r_istore ok [(5, .int (nI 0)), (4, .int (-6)), (3, .int (nI 0)), (0, .ref (g.ad 18)), (1, .int v1), (2, .int v2)] dX8_greatestAt_7 (by decide) rfl ?_
  exact r_sub [3, 4, 5, 2, 1, 0] _ rfl h
set_option maxRecDepth 10000 in
theorem s_X8_greatestAt_9 {l : Launch} {x : Cx} {g : Geo} {K : Int32 → Mem → Prop} (ok : Ok x g shX m_X8_greatestAt) (v1 : Int32) (v2 : Int32) (v3 : Int32) (v4 : Int32) (v5 : Int32) (S : Mem) (h : (((nI 10) ≤ v5 → K v4 S) ∧ (¬ (nI 10) ≤ v5 → (vp_in (v1 + (v5 * v2)) 100 ∧ (((S 19 (cl (v1 + (v5 * v2)))) ≤ v3 → PW l x g shX m_X8_greatestAt (Qi x g shX K) 9 [(0, .ref (g.ad 18)), (1, .int v1), (2, .int v2), (3, .int v3), (4, .int v4), (5, .int (v5 + (nI 1)))] [] S) ∧ (¬ (S 19 (cl (v1 + (v5 * v2)))) ≤ v3 → PW l x g shX m_X8_greatestAt (Qi x g shX K) 9 [(0, .ref (g.ad 18)), (1, .int v1), (2, .int v2), (3, .int (S 19 (cl (v1 + (v5 * v2))))), (4, .int v5), (5, .int (v5 + (nI 1)))] [] S)))))) : PW l x g shX m_X8_greatestAt (Qi x g shX K) 9 [(0, .ref (g.ad 18)), (1, .int v1), (2, .int v2), (3, .int v3), (4, .int v4), (5, .int v5)] [] S := by
  refine r_iload ok 5 dX8_greatestAt_9 rfl ?_
  refine r_bipush ok (nI 10) dX8_greatestAt_11 (by decide) ?_
  refine r_icmp_ge ok 48 dX8_greatestAt_13 (by decide) ⟨fun c => ?_, fun c => ?_⟩
  · have h := h.1 c
    refine r_iload ok 4 dX8_greatestAt_48 rfl ?_
    exact r_iret ok rfl dX8_greatestAt_50 h
  · have h := h.2 c
    refine r_aload_n ok 0 dX8_greatestAt_16 rfl ?_
    refine r_getR ok 18 1 rfl rfl fo_X8_15 dX8_greatestAt_17 ?_
    refine r_iload_n ok 1 dX8_greatestAt_20 rfl ?_
    refine r_iload ok 5 dX8_greatestAt_21 rfl ?_
    refine r_iload_n ok 2 dX8_greatestAt_23 rfl ?_
    refine r_imul ok dX8_greatestAt_24 ?_
    refine r_iadd ok dX8_greatestAt_25 ?_
    refine r_iaload ok 19 rfl dX8_greatestAt_26 h.1 ?_
    have h := h.2
    refine r_istore ok [(6, .int (S 19 (cl (v1 + (v5 * v2))))), (0, .ref (g.ad 18)), (1, .int v1), (2, .int v2), (3, .int v3), (4, .int v4), (5, .int v5)] dX8_greatestAt_27 (by decide) rfl ?_
    refine r_iload ok 0 dX8_greatestAt_29 rfl ?_
    refine r_iload_n ok 4 dX8_greatestAt_31 rfl ?_
    refine r_icmp_le ok 42 dX8_greatestAt_32 (by decide) ⟨fun c => ?_, fun c => ?_⟩
    · have h := h.1 c
      refine r_iinc ok 6 (v5 + (nI 1)) [(5, .int (v5 + (nI 1))), (6, .int (S 19 (cl (v1 + (v5 * v2))))), (0, .ref (g.ad 18)), (1, .int v1), (2, .int v2), (3, .int v3), (4, .int v4)] dX8_greatestAt_42 rfl rfl (by decide) rfl ?_
      refine r_goto ok 9 dX8_greatestAt_45 (by decide) ?_
      exact r_sub [2, 3, 4, 5, 6, 0] _ rfl h
    · have h := h.2 c
      refine r_iload ok 0 dX8_greatestAt_35 rfl ?_
      refine r_istore_n ok [(3, .int (S 19 (cl (v1 + (v5 * v2))))), (6, .int (S 19 (cl (v1 + (v5 * v2))))), (0, .ref (g.ad 18)), (1, .int v1), (2, .int v2), (4, .int v4), (5, .int v5)] dX8_greatestAt_37 (by decide) rfl ?_
      refine r_iload ok 6 dX8_greatestAt_38 rfl ?_
      refine r_istore ok [(4, .int v5), (3, .int (S 19 (cl (v1 + (v5 * v2))))), (6, .int (S 19 (cl (v1 + (v5 * v2))))), (0, .ref (g.ad 18)), (1, .int v1), (2, .int v2), (5, .int v5)] dX8_greatestAt_40 (by decide) rfl ?_
      refine r_iinc ok 6 (v5 + (nI 1)) [(5, .int (v5 + (nI 1))), (4, .int v5), (3, .int (S 19 (cl (v1 + (v5 * v2))))), (6, .int (S 19 (cl (v1 + (v5 * v2))))), (0, .ref (g.ad 18)), (1, .int v1), (2, .int v2)] dX8_greatestAt_42 rfl rfl (by decide) rfl ?_
      refine r_goto ok 9 dX8_greatestAt_45 (by decide) ?_
      exact r_sub [4, 5, 6, 2, 1, 0] _ rfl h
set_option maxRecDepth 10000 in
theorem s_X8_findRegular_0 {l : Launch} {x : Cx} {g : Geo} {K : Mem → Prop} (ok : Ok x g shX m_X8_findRegular) (S : Mem) (h : PW l x g shX m_X8_findRegular (Qv x g shX K) 7 [(0, .ref (g.ad 18)), (1, .int (nI 0))] [] (st2 S 18 7 (nI 0))) : PW l x g shX m_X8_findRegular (Qv x g shX K) 0 [(0, .ref (g.ad 18))] [] S := by
  refine r_aload_n ok 0 dX8_findRegular_0 rfl ?_
  refine r_iconst ok (nI 0) dX8_findRegular_1 (by decide) ?_
  refine r_put ok 18 7 rfl rfl po_X8_74 rfl rfl dX8_findRegular_2 ?_
  refine r_iconst ok (nI 0) dX8_findRegular_5 (by decide) ?_
  refine r_istore_n ok [(1, .int (nI 0)), (0, .ref (g.ad 18))] dX8_findRegular_6 (by decide) rfl ?_
  exact r_sub [1, 0] _ rfl h
set_option maxRecDepth 10000 in
theorem s_X8_findRegular_7 {l : Launch} {x : Cx} {g : Geo} {K : Mem → Prop} (ok : Ok x g shX m_X8_findRegular) (v1 : Int32) (S : Mem) (h : (((S 4 5) ≤ v1 → K S) ∧ (¬ (S 4 5) ≤ v1 → MWi l g shX m_X8_goesByRule [.ref (g.ad 18), .int v1] S (fun r1 S1 => ((r1 = 0 → PW l x g shX m_X8_findRegular (Qv x g shX K) 7 [(0, .ref (g.ad 18)), (1, .int (v1 + (nI 1)))] [] S1) ∧ (¬ r1 = 0 → PW l x g shX m_X8_findRegular (Qv x g shX K) 7 [(0, .ref (g.ad 18)), (1, .int (v1 + (nI 1)))] [] (st2 S1 18 7 ((S1 18 7) ||| (jshl (nI 1) v1))))))))) : PW l x g shX m_X8_findRegular (Qv x g shX K) 7 [(0, .ref (g.ad 18)), (1, .int v1)] [] S := by
  refine r_iload_n ok 1 dX8_findRegular_7 rfl ?_
  refine r_aload_n ok 0 dX8_findRegular_8 rfl ?_
  refine r_getR ok 18 0 rfl rfl fo_X8_9 dX8_findRegular_9 ?_
  refine r_getI ok 4 5 rfl rfl fo_X8_56 dX8_findRegular_12 ?_
  refine r_icmp_ge ok 44 dX8_findRegular_15 (by decide) ⟨fun c => ?_, fun c => ?_⟩
  · have h := h.1 c
    exact r_ret ok rfl dX8_findRegular_44 h
  · have h := h.2 c
    refine r_aload_n ok 0 dX8_findRegular_18 rfl ?_
    refine r_iload_n ok 1 dX8_findRegular_19 rfl ?_
    refine r_virti ok (rest := []) (As := [.int v1]) 18 _ k_X8_findRegular_77 rfl rfl rfl rfl (Nat.le_of_ble_eq_true rfl) dX8_findRegular_20 (MWi.mono h (fun r1 S1 h => ?_))
    refine r_if_eq ok 38 dX8_findRegular_23 (by decide) ⟨fun c => ?_, fun c => ?_⟩
    · have h := h.1 c
      refine r_iinc ok 1 (v1 + (nI 1)) [(1, .int (v1 + (nI 1))), (0, .ref (g.ad 18))] dX8_findRegular_38 rfl rfl (by decide) rfl ?_
      refine r_goto ok 7 dX8_findRegular_41 (by decide) ?_
      exact r_sub [1, 0] _ rfl h
    · have h := h.2 c
      refine r_aload_n ok 0 dX8_findRegular_26 rfl ?_
      refine r_dup ok dX8_findRegular_27 rfl ?_
      refine r_getI ok 18 7 rfl rfl fo_X8_74 dX8_findRegular_28 ?_
      refine r_iconst ok (nI 1) dX8_findRegular_31 (by decide) ?_
      refine r_iload_n ok 1 dX8_findRegular_32 rfl ?_
      refine r_ishl ok dX8_findRegular_33 ?_
      refine r_ior ok dX8_findRegular_34 ?_
      refine r_put ok 18 7 rfl rfl po_X8_74 rfl rfl dX8_findRegular_35 ?_
      refine r_iinc ok 1 (v1 + (nI 1)) [(1, .int (v1 + (nI 1))), (0, .ref (g.ad 18))] dX8_findRegular_38 rfl rfl (by decide) rfl ?_
      refine r_goto ok 7 dX8_findRegular_41 (by decide) ?_
      exact r_sub [1, 0] _ rfl h
set_option maxRecDepth 10000 in
theorem s_X8_goesByRule_0 {l : Launch} {x : Cx} {g : Geo} {K : Int32 → Mem → Prop} (ok : Ok x g shX m_X8_goesByRule) (v1 : Int32) (S : Mem) (h : PW l x g shX m_X8_goesByRule (Qi x g shX K) 2 [(0, .ref (g.ad 18)), (1, .int v1), (2, .int (nI 0))] [] S) : PW l x g shX m_X8_goesByRule (Qi x g shX K) 0 [(0, .ref (g.ad 18)), (1, .int v1)] [] S := by
  refine r_iconst ok (nI 0) dX8_goesByRule_0 (by decide) ?_
  refine r_istore_n ok [(2, .int (nI 0)), (0, .ref (g.ad 18)), (1, .int v1)] dX8_goesByRule_1 (by decide) rfl ?_
  exact r_sub [1, 2, 0] _ rfl h
set_option maxRecDepth 10000 in
theorem s_X8_goesByRule_2 {l : Launch} {x : Cx} {g : Geo} {K : Int32 → Mem → Prop} (ok : Ok x g shX m_X8_goesByRule) (v1 : Int32) (v2 : Int32) (S : Mem) (h : (vp_in v1 12 ∧ (((S 5 (cl v1)) ≤ v2 → K (nI 1) S) ∧ (¬ (S 5 (cl v1)) ≤ v2 → MWi l g shX m_X1_signAt [.ref (g.ad 4), .int v1, .int v2] S (fun r1 S1 => (vp_in r1 10 ∧ MWi l g shX m_X1_soundAt [.ref (g.ad 4), .int v1, .int v2] S1 (fun r2 S2 => (((S1 21 (cl r1)) = r2 → PW l x g shX m_X8_goesByRule (Qi x g shX K) 2 [(0, .ref (g.ad 18)), (1, .int v1), (2, .int (v2 + (nI 1)))] [] S2) ∧ (¬ (S1 21 (cl r1)) = r2 → K (nI 0) S2))))))))) : PW l x g shX m_X8_goesByRule (Qi x g shX K) 2 [(0, .ref (g.ad 18)), (1, .int v1), (2, .int v2)] [] S := by
  refine r_iload_n ok 2 dX8_goesByRule_2 rfl ?_
  refine r_aload_n ok 0 dX8_goesByRule_3 rfl ?_
  refine r_getR ok 18 0 rfl rfl fo_X8_9 dX8_goesByRule_4 ?_
  refine r_getR ok 4 0 rfl rfl fo_X8_62 dX8_goesByRule_7 ?_
  refine r_iload_n ok 1 dX8_goesByRule_10 rfl ?_
  refine r_iaload ok 5 rfl dX8_goesByRule_11 h.1 ?_
  have h := h.2
  refine r_icmp_ge ok 49 dX8_goesByRule_12 (by decide) ⟨fun c => ?_, fun c => ?_⟩
  · have h := h.1 c
    refine r_iconst ok (nI 1) dX8_goesByRule_49 (by decide) ?_
    exact r_zret ok rfl dX8_goesByRule_50 ⟨rfl, h⟩
  · have h := h.2 c
    refine r_aload_n ok 0 dX8_goesByRule_15 rfl ?_
    refine r_getR ok 18 3 rfl rfl fo_X8_22 dX8_goesByRule_16 ?_
    refine r_aload_n ok 0 dX8_goesByRule_19 rfl ?_
    refine r_getR ok 18 0 rfl rfl fo_X8_9 dX8_goesByRule_20 ?_
    refine r_iload_n ok 1 dX8_goesByRule_23 rfl ?_
    refine r_iload_n ok 2 dX8_goesByRule_24 rfl ?_
    refine r_virti ok (rest := [.ref (g.ad 21)]) (As := [.int v1, .int v2]) 4 _ k_X8_goesByRule_65 rfl rfl rfl rfl (Nat.le_of_ble_eq_true rfl) dX8_goesByRule_25 (MWi.mono h (fun r1 S1 h => ?_))
    refine r_iaload ok 21 rfl dX8_goesByRule_28 h.1 ?_
    have h := h.2
    refine r_aload_n ok 0 dX8_goesByRule_29 rfl ?_
    refine r_getR ok 18 0 rfl rfl fo_X8_9 dX8_goesByRule_30 ?_
    refine r_iload_n ok 1 dX8_goesByRule_33 rfl ?_
    refine r_iload_n ok 2 dX8_goesByRule_34 rfl ?_
    refine r_virti ok (rest := [.int (S1 21 (cl r1))]) (As := [.int v1, .int v2]) 4 _ k_X8_goesByRule_68 rfl rfl rfl rfl (Nat.le_of_ble_eq_true rfl) dX8_goesByRule_35 (MWi.mono h (fun r2 S2 h => ?_))
    refine r_icmp_eq ok 43 dX8_goesByRule_38 (by decide) ⟨fun c => ?_, fun c => ?_⟩
    · have h := h.1 c
      refine r_iinc ok 2 (v2 + (nI 1)) [(2, .int (v2 + (nI 1))), (0, .ref (g.ad 18)), (1, .int v1)] dX8_goesByRule_43 rfl rfl (by decide) rfl ?_
      refine r_goto ok 2 dX8_goesByRule_46 (by decide) ?_
      exact r_sub [1, 2, 0] _ rfl h
    · have h := h.2 c
      refine r_iconst ok (nI 0) dX8_goesByRule_41 (by decide) ?_
      exact r_zret ok rfl dX8_goesByRule_42 ⟨rfl, h⟩
set_option maxRecDepth 10000 in
theorem s_X8_sortByTimes_0 {l : Launch} {x : Cx} {g : Geo} {K : Mem → Prop} (ok : Ok x g shX m_X8_sortByTimes) (S : Mem) (h : PW l x g shX m_X8_sortByTimes (Qv x g shX K) 2 [(0, .ref (g.ad 18)), (1, .int (nI 0))] [] S) : PW l x g shX m_X8_sortByTimes (Qv x g shX K) 0 [(0, .ref (g.ad 18))] [] S := by
  refine r_iconst ok (nI 0) dX8_sortByTimes_0 (by decide) ?_
  refine r_istore_n ok [(1, .int (nI 0)), (0, .ref (g.ad 18))] dX8_sortByTimes_1 (by decide) rfl ?_
  exact r_sub [1, 0] _ rfl h
set_option maxRecDepth 10000 in
theorem s_X8_sortByTimes_2 {l : Launch} {x : Cx} {g : Geo} {K : Mem → Prop} (ok : Ok x g shX m_X8_sortByTimes) (v1 : Int32) (S : Mem) (h : (((S 4 5) ≤ v1 → K S) ∧ (¬ (S 4 5) ≤ v1 → PW l x g shX m_X8_sortByTimes (Qv x g shX K) 15 [(0, .ref (g.ad 18)), (1, .int v1), (2, .int v1)] [] S))) : PW l x g shX m_X8_sortByTimes (Qv x g shX K) 2 [(0, .ref (g.ad 18)), (1, .int v1)] [] S := by
  refine r_iload_n ok 1 dX8_sortByTimes_2 rfl ?_
  refine r_aload_n ok 0 dX8_sortByTimes_3 rfl ?_
  refine r_getR ok 18 0 rfl rfl fo_X8_9 dX8_sortByTimes_4 ?_
  refine r_getI ok 4 5 rfl rfl fo_X8_56 dX8_sortByTimes_7 ?_
  refine r_icmp_ge ok 80 dX8_sortByTimes_10 (by decide) ⟨fun c => ?_, fun c => ?_⟩
  · have h := h.1 c
    exact r_ret ok rfl dX8_sortByTimes_80 h
  · have h := h.2 c
    refine r_iload_n ok 1 dX8_sortByTimes_13 rfl ?_
    refine r_istore_n ok [(2, .int v1), (0, .ref (g.ad 18)), (1, .int v1)] dX8_sortByTimes_14 (by decide) rfl ?_
    exact r_sub [1, 2, 0] _ rfl h
set_option maxRecDepth 10000 in
theorem s_X8_sortByTimes_15 {l : Launch} {x : Cx} {g : Geo} {K : Mem → Prop} (ok : Ok x g shX m_X8_sortByTimes) (v1 : Int32) (v2 : Int32) (S : Mem) (h : ((v2 ≤ 0 → (vp_in v2 12 ∧ PW l x g shX m_X8_sortByTimes (Qv x g shX K) 2 [(0, .ref (g.ad 18)), (1, .int (v1 + (nI 1)))] [] (st2 S 23 (cl v2) v1))) ∧ (¬ v2 ≤ 0 → (vp_in (v2 - (nI 1)) 12 ∧ (vp_in (S 23 (cl (v2 - (nI 1)))) 12 ∧ (vp_in v1 12 ∧ (((S 6 (cl v1)) ≤ (S 6 (cl (S 23 (cl (v2 - (nI 1)))))) → (vp_in v2 12 ∧ PW l x g shX m_X8_sortByTimes (Qv x g shX K) 2 [(0, .ref (g.ad 18)), (1, .int (v1 + (nI 1)))] [] (st2 S 23 (cl v2) v1))) ∧ (¬ (S 6 (cl v1)) ≤ (S 6 (cl (S 23 (cl (v2 - (nI 1)))))) → (vp_in (v2 - (nI 1)) 12 ∧ (vp_in v2 12 ∧ PW l x g shX m_X8_sortByTimes (Qv x g shX K) 15 [(0, .ref (g.ad 18)), (1, .int v1), (2, .int (v2 + (-1)))] [] (st2 S 23 (cl v2) (S 23 (cl (v2 - (nI 1))))))))))))))) : PW l x g shX m_X8_sortByTimes (Qv x g shX K) 15 [(0, .ref (g.ad 18)), (1, .int v1), (2, .int v2)] [] S := by
  refine r_iload_n ok 2 dX8_sortByTimes_15 rfl ?_
  refine r_if_le ok 67 dX8_sortByTimes_16 (by decide) ⟨fun c => ?_, fun c => ?_⟩
  · have h := h.1 c
    refine r_aload_n ok 0 dX8_sortByTimes_67 rfl ?_
    refine r_getR ok 18 5 rfl rfl fo_X8_28 dX8_sortByTimes_68 ?_
    refine r_iload_n ok 2 dX8_sortByTimes_71 rfl ?_
    refine r_iload_n ok 1 dX8_sortByTimes_72 rfl ?_
    refine r_iastore ok 23 rfl dX8_sortByTimes_73 h.1 ?_
    have h := h.2
    refine r_iinc ok 1 (v1 + (nI 1)) [(1, .int (v1 + (nI 1))), (0, .ref (g.ad 18)), (2, .int v2)] dX8_sortByTimes_74 rfl rfl (by decide) rfl ?_
    refine r_goto ok 2 dX8_sortByTimes_77 (by decide) ?_
    exact r_sub [1, 0] _ rfl h
  · have h := h.2 c
    refine r_aload_n ok 0 dX8_sortByTimes_19 rfl ?_
    refine r_getR ok 18 0 rfl rfl fo_X8_9 dX8_sortByTimes_20 ?_
    refine r_getR ok 4 1 rfl rfl fo_X8_71 dX8_sortByTimes_23 ?_
    refine r_aload_n ok 0 dX8_sortByTimes_26 rfl ?_
    refine r_getR ok 18 5 rfl rfl fo_X8_28 dX8_sortByTimes_27 ?_
    refine r_iload_n ok 2 dX8_sortByTimes_30 rfl ?_
    refine r_iconst ok (nI 1) dX8_sortByTimes_31 (by decide) ?_
    refine r_isub ok dX8_sortByTimes_32 ?_
    refine r_iaload ok 23 rfl dX8_sortByTimes_33 h.1 ?_
    have h := h.2
    refine r_iaload ok 6 rfl dX8_sortByTimes_34 h.1 ?_
    have h := h.2
    refine r_aload_n ok 0 dX8_sortByTimes_35 rfl ?_
    refine r_getR ok 18 0 rfl rfl fo_X8_9 dX8_sortByTimes_36 ?_
    refine r_getR ok 4 1 rfl rfl fo_X8_71 dX8_sortByTimes_39 ?_
    refine r_iload_n ok 1 dX8_sortByTimes_42 rfl ?_
    refine r_iaload ok 6 rfl dX8_sortByTimes_43 h.1 ?_
    have h := h.2
    refine r_icmp_ge ok 67 dX8_sortByTimes_44 (by decide) ⟨fun c => ?_, fun c => ?_⟩
    · have h := h.1 c
      refine r_aload_n ok 0 dX8_sortByTimes_67 rfl ?_
      refine r_getR ok 18 5 rfl rfl fo_X8_28 dX8_sortByTimes_68 ?_
      refine r_iload_n ok 2 dX8_sortByTimes_71 rfl ?_
      refine r_iload_n ok 1 dX8_sortByTimes_72 rfl ?_
      refine r_iastore ok 23 rfl dX8_sortByTimes_73 h.1 ?_
      have h := h.2
      refine r_iinc ok 1 (v1 + (nI 1)) [(1, .int (v1 + (nI 1))), (0, .ref (g.ad 18)), (2, .int v2)] dX8_sortByTimes_74 rfl rfl (by decide) rfl ?_
      refine r_goto ok 2 dX8_sortByTimes_77 (by decide) ?_
      exact r_sub [1, 0] _ rfl h
    · have h := h.2 c
      refine r_aload_n ok 0 dX8_sortByTimes_47 rfl ?_
      refine r_getR ok 18 5 rfl rfl fo_X8_28 dX8_sortByTimes_48 ?_
      refine r_iload_n ok 2 dX8_sortByTimes_51 rfl ?_
      refine r_aload_n ok 0 dX8_sortByTimes_52 rfl ?_
      refine r_getR ok 18 5 rfl rfl fo_X8_28 dX8_sortByTimes_53 ?_
      refine r_iload_n ok 2 dX8_sortByTimes_56 rfl ?_
      refine r_iconst ok (nI 1) dX8_sortByTimes_57 (by decide) ?_
      refine r_isub ok dX8_sortByTimes_58 ?_
      refine r_iaload ok 23 rfl dX8_sortByTimes_59 h.1 ?_
      have h := h.2
      refine r_iastore ok 23 rfl dX8_sortByTimes_60 h.1 ?_
      have h := h.2
      refine r_iinc ok 2 (v2 + (-1)) [(2, .int (v2 + (-1))), (0, .ref (g.ad 18)), (1, .int v1)] dX8_sortByTimes_61 rfl rfl (by decide) rfl ?_
      refine r_goto ok 15 dX8_sortByTimes_64 (by decide) ?_
      exact r_sub [1, 2, 0] _ rfl h
set_option maxRecDepth 10000 in
theorem s_X8_findGuesses_0 {l : Launch} {x : Cx} {g : Geo} {K : Mem → Prop} (ok : Ok x g shX m_X8_findGuesses) (S : Mem) (h : MWv l g shX m_J7_fill_53178 [.ref (g.ad 24), .int (-6)] S (fun S1 => PW l x g shX m_X8_findGuesses (Qv x g shX K) 11 [(0, .ref (g.ad 18)), (1, .int (nI 0))] [] S1)) : PW l x g shX m_X8_findGuesses (Qv x g shX K) 0 [(0, .ref (g.ad 18))] [] S := by
  refine r_aload_n ok 0 dX8_findGuesses_0 rfl ?_
  refine r_getR ok 18 6 rfl rfl fo_X8_31 dX8_findGuesses_1 ?_
  refine r_bipush ok (-6) dX8_findGuesses_4 (by decide) ?_
  refine r_statv ok (rest := []) (As := [.ref (g.ad 24), .int (-6)]) _ k_X8_findGuesses_50 rfl rfl (Nat.le_of_ble_eq_true rfl) dX8_findGuesses_6 (MWv.mono h (fun S1 h => ?_))
  refine r_iconst ok (nI 0) dX8_findGuesses_9 (by decide) ?_
  refine r_istore_n ok [(1, .int (nI 0)), (0, .ref (g.ad 18))] dX8_findGuesses_10 (by decide) rfl ?_
  exact r_sub [1, 0] _ rfl h
set_option maxRecDepth 10000 in
theorem s_X8_findGuesses_11 {l : Launch} {x : Cx} {g : Geo} {K : Mem → Prop} (ok : Ok x g shX m_X8_findGuesses) (v1 : Int32) (S : Mem) (h : (((S 4 5) ≤ v1 → K S) ∧ (¬ (S 4 5) ≤ v1 → (vp_in v1 12 ∧ MWi l g shX m_X1_firstSign [.ref (g.ad 4), .int (S 23 (cl v1))] S (fun r1 S1 => (vp_in r1 10 ∧ ((¬ (S1 24 (cl r1)) = (-6) → PW l x g shX m_X8_findGuesses (Qv x g shX K) 11 [(0, .ref (g.ad 18)), (1, .int (v1 + (nI 1)))] [] S1) ∧ ((S1 24 (cl r1)) = (-6) → (vp_in v1 12 ∧ (vp_in r1 10 ∧ PW l x g shX m_X8_findGuesses (Qv x g shX K) 11 [(0, .ref (g.ad 18)), (1, .int (v1 + (nI 1)))] [] (st2 S1 24 (cl r1) (S1 23 (cl v1))))))))))))) : PW l x g shX m_X8_findGuesses (Qv x g shX K) 11 [(0, .ref (g.ad 18)), (1, .int v1)] [] S := by
  refine r_iload_n ok 1 dX8_findGuesses_11 rfl ?_
  refine r_aload_n ok 0 dX8_findGuesses_12 rfl ?_
  refine r_getR ok 18 0 rfl rfl fo_X8_9 dX8_findGuesses_13 ?_
  refine r_getI ok 4 5 rfl rfl fo_X8_56 dX8_findGuesses_16 ?_
  refine r_icmp_ge ok 65 dX8_findGuesses_19 (by decide) ⟨fun c => ?_, fun c => ?_⟩
  · have h := h.1 c
    exact r_ret ok rfl dX8_findGuesses_65 h
  · have h := h.2 c
    refine r_aload_n ok 0 dX8_findGuesses_22 rfl ?_
    refine r_getR ok 18 0 rfl rfl fo_X8_9 dX8_findGuesses_23 ?_
    refine r_aload_n ok 0 dX8_findGuesses_26 rfl ?_
    refine r_getR ok 18 5 rfl rfl fo_X8_28 dX8_findGuesses_27 ?_
    refine r_iload_n ok 1 dX8_findGuesses_30 rfl ?_
    refine r_iaload ok 23 rfl dX8_findGuesses_31 h.1 ?_
    have h := h.2
    refine r_virti ok (rest := []) (As := [.int (S 23 (cl v1))]) 4 _ k_X8_findGuesses_81 rfl rfl rfl rfl (Nat.le_of_ble_eq_true rfl) dX8_findGuesses_32 (MWi.mono h (fun r1 S1 h => ?_))
    refine r_istore_n ok [(2, .int r1), (0, .ref (g.ad 18)), (1, .int v1)] dX8_findGuesses_35 (by decide) rfl ?_
    refine r_aload_n ok 1 dX8_findGuesses_36 rfl ?_
    refine r_getR ok 18 6 rfl rfl fo_X8_31 dX8_findGuesses_37 ?_
    refine r_iload_n ok 0 dX8_findGuesses_40 rfl ?_
    refine r_iaload ok 24 rfl dX8_findGuesses_41 h.1 ?_
    have h := h.2
    refine r_bipush ok (-6) dX8_findGuesses_42 (by decide) ?_
    refine r_icmp_ne ok 59 dX8_findGuesses_44 (by decide) ⟨fun c => ?_, fun c => ?_⟩
    · have h := h.1 c
      refine r_iinc ok 2 (v1 + (nI 1)) [(1, .int (v1 + (nI 1))), (2, .int r1), (0, .ref (g.ad 18))] dX8_findGuesses_59 rfl rfl (by decide) rfl ?_
      refine r_goto ok 11 dX8_findGuesses_62 (by decide) ?_
      exact r_sub [2, 0] _ rfl h
    · have h := h.2 c
      refine r_aload_n ok 1 dX8_findGuesses_47 rfl ?_
      refine r_getR ok 18 6 rfl rfl fo_X8_31 dX8_findGuesses_48 ?_
      refine r_iload_n ok 0 dX8_findGuesses_51 rfl ?_
      refine r_aload_n ok 1 dX8_findGuesses_52 rfl ?_
      refine r_getR ok 18 5 rfl rfl fo_X8_28 dX8_findGuesses_53 ?_
      refine r_iload_n ok 2 dX8_findGuesses_56 rfl ?_
      refine r_iaload ok 23 rfl dX8_findGuesses_57 h.1 ?_
      have h := h.2
      refine r_iastore ok 24 rfl dX8_findGuesses_58 h.1 ?_
      have h := h.2
      refine r_iinc ok 2 (v1 + (nI 1)) [(1, .int (v1 + (nI 1))), (2, .int r1), (0, .ref (g.ad 18))] dX8_findGuesses_59 rfl rfl (by decide) rfl ?_
      refine r_goto ok 11 dX8_findGuesses_62 (by decide) ?_
      exact r_sub [2, 0] _ rfl h
set_option maxRecDepth 10000 in
theorem s_X8_isRegular_0 {l : Launch} {x : Cx} {g : Geo} {K : Int32 → Mem → Prop} (ok : Ok x g shX m_X8_isRegular) (v1 : Int32) (S : Mem) (h : MWi l g shX m_X11_hasBit [.int (S 18 7), .int v1] S (fun r1 S1 => (narrow .boolean (.int r1) = .int r1 ∧ K r1 S1))) : PW l x g shX m_X8_isRegular (Qi x g shX K) 0 [(0, .ref (g.ad 18)), (1, .int v1)] [] S := by
  refine r_aload_n ok 0 dX8_isRegular_0 rfl ?_
  refine r_getI ok 18 7 rfl rfl fo_X8_74 dX8_isRegular_1 ?_
  refine r_iload_n ok 1 dX8_isRegular_4 rfl ?_
  refine r_nesti ok (rest := []) (As := [.int (S 18 7), .int v1]) _ k_X8_isRegular_85 rfl rfl (Nat.le_of_ble_eq_true rfl) dX8_isRegular_5 (MWi.mono h (fun r1 S1 h => ?_))
  exact r_zret ok rfl dX8_isRegular_8 h
set_option maxRecDepth 10000 in
theorem s_X8_placesByRule_0 {l : Launch} {x : Cx} {g : Geo} {K : Int32 → Mem → Prop} (ok : Ok x g shX m_X8_placesByRule) (S : Mem) (h : PW l x g shX m_X8_placesByRule (Qi x g shX K) 4 [(0, .ref (g.ad 18)), (1, .int (nI 0)), (2, .int (nI 0))] [] S) : PW l x g shX m_X8_placesByRule (Qi x g shX K) 0 [(0, .ref (g.ad 18))] [] S := by
  refine r_iconst ok (nI 0) dX8_placesByRule_0 (by decide) ?_
  refine r_istore_n ok [(1, .int (nI 0)), (0, .ref (g.ad 18))] dX8_placesByRule_1 (by decide) rfl ?_
  refine r_iconst ok (nI 0) dX8_placesByRule_2 (by decide) ?_
  refine r_istore_n ok [(2, .int (nI 0)), (1, .int (nI 0)), (0, .ref (g.ad 18))] dX8_placesByRule_3 (by decide) rfl ?_
  exact r_sub [2, 1, 0] _ rfl h
set_option maxRecDepth 10000 in
theorem s_X8_placesByRule_4 {l : Launch} {x : Cx} {g : Geo} {K : Int32 → Mem → Prop} (ok : Ok x g shX m_X8_placesByRule) (v1 : Int32) (v2 : Int32) (S : Mem) (h : (((nI 10) ≤ v2 → K v1 S) ∧ (¬ (nI 10) ≤ v2 → (vp_in v2 10 ∧ (((S 21 (cl v2)) = (-6) → PW l x g shX m_X8_placesByRule (Qi x g shX K) 4 [(0, .ref (g.ad 18)), (1, .int v1), (2, .int (v2 + (nI 1)))] [] S) ∧ (¬ (S 21 (cl v2)) = (-6) → (vp_in v2 10 ∧ (vp_in ((v2 * (nI 10)) + (S 21 (cl v2))) 100 ∧ PW l x g shX m_X8_placesByRule (Qi x g shX K) 4 [(0, .ref (g.ad 18)), (1, .int (v1 + (S 19 (cl ((v2 * (nI 10)) + (S 21 (cl v2))))))), (2, .int (v2 + (nI 1)))] [] S)))))))) : PW l x g shX m_X8_placesByRule (Qi x g shX K) 4 [(0, .ref (g.ad 18)), (1, .int v1), (2, .int v2)] [] S := by
  refine r_iload_n ok 2 dX8_placesByRule_4 rfl ?_
  refine r_bipush ok (nI 10) dX8_placesByRule_5 (by decide) ?_
  refine r_icmp_ge ok 46 dX8_placesByRule_7 (by decide) ⟨fun c => ?_, fun c => ?_⟩
  · have h := h.1 c
    refine r_iload_n ok 1 dX8_placesByRule_46 rfl ?_
    exact r_iret ok rfl dX8_placesByRule_47 h
  · have h := h.2 c
    refine r_aload_n ok 0 dX8_placesByRule_10 rfl ?_
    refine r_getR ok 18 3 rfl rfl fo_X8_22 dX8_placesByRule_11 ?_
    refine r_iload_n ok 2 dX8_placesByRule_14 rfl ?_
    refine r_iaload ok 21 rfl dX8_placesByRule_15 h.1 ?_
    have h := h.2
    refine r_bipush ok (-6) dX8_placesByRule_16 (by decide) ?_
    refine r_icmp_eq ok 40 dX8_placesByRule_18 (by decide) ⟨fun c => ?_, fun c => ?_⟩
    · have h := h.1 c
      refine r_iinc ok 2 (v2 + (nI 1)) [(2, .int (v2 + (nI 1))), (0, .ref (g.ad 18)), (1, .int v1)] dX8_placesByRule_40 rfl rfl (by decide) rfl ?_
      refine r_goto ok 4 dX8_placesByRule_43 (by decide) ?_
      exact r_sub [1, 2, 0] _ rfl h
    · have h := h.2 c
      refine r_iload_n ok 1 dX8_placesByRule_21 rfl ?_
      refine r_aload_n ok 0 dX8_placesByRule_22 rfl ?_
      refine r_getR ok 18 1 rfl rfl fo_X8_15 dX8_placesByRule_23 ?_
      refine r_iload_n ok 2 dX8_placesByRule_26 rfl ?_
      refine r_bipush ok (nI 10) dX8_placesByRule_27 (by decide) ?_
      refine r_imul ok dX8_placesByRule_29 ?_
      refine r_aload_n ok 0 dX8_placesByRule_30 rfl ?_
      refine r_getR ok 18 3 rfl rfl fo_X8_22 dX8_placesByRule_31 ?_
      refine r_iload_n ok 2 dX8_placesByRule_34 rfl ?_
      refine r_iaload ok 21 rfl dX8_placesByRule_35 h.1 ?_
      have h := h.2
      refine r_iadd ok dX8_placesByRule_36 ?_
      refine r_iaload ok 19 rfl dX8_placesByRule_37 h.1 ?_
      have h := h.2
      refine r_iadd ok dX8_placesByRule_38 ?_
      refine r_istore_n ok [(1, .int (v1 + (S 19 (cl ((v2 * (nI 10)) + (S 21 (cl v2))))))), (0, .ref (g.ad 18)), (2, .int v2)] dX8_placesByRule_39 (by decide) rfl ?_
      refine r_iinc ok 2 (v2 + (nI 1)) [(2, .int (v2 + (nI 1))), (1, .int (v1 + (S 19 (cl ((v2 * (nI 10)) + (S 21 (cl v2))))))), (0, .ref (g.ad 18))] dX8_placesByRule_40 rfl rfl (by decide) rfl ?_
      refine r_goto ok 4 dX8_placesByRule_43 (by decide) ?_
      exact r_sub [2, 1, 0] _ rfl h
set_option maxRecDepth 10000 in
theorem s_X8_placesInAll_0 {l : Launch} {x : Cx} {g : Geo} {K : Int32 → Mem → Prop} (ok : Ok x g shX m_X8_placesInAll) (S : Mem) (h : PW l x g shX m_X8_placesInAll (Qi x g shX K) 4 [(0, .ref (g.ad 18)), (1, .int (nI 0)), (2, .int (nI 0))] [] S) : PW l x g shX m_X8_placesInAll (Qi x g shX K) 0 [(0, .ref (g.ad 18))] [] S := by
  refine r_iconst ok (nI 0) dX8_placesInAll_0 (by decide) ?_
  refine r_istore_n ok [(1, .int (nI 0)), (0, .ref (g.ad 18))] dX8_placesInAll_1 (by decide) rfl ?_
  refine r_iconst ok (nI 0) dX8_placesInAll_2 (by decide) ?_
  refine r_istore_n ok [(2, .int (nI 0)), (1, .int (nI 0)), (0, .ref (g.ad 18))] dX8_placesInAll_3 (by decide) rfl ?_
  exact r_sub [2, 1, 0] _ rfl h
set_option maxRecDepth 10000 in
theorem s_X8_placesInAll_4 {l : Launch} {x : Cx} {g : Geo} {K : Int32 → Mem → Prop} (ok : Ok x g shX m_X8_placesInAll) (v1 : Int32) (v2 : Int32) (S : Mem) (h : (((nI 10) ≤ v2 → K v1 S) ∧ (¬ (nI 10) ≤ v2 → (vp_in v2 10 ∧ PW l x g shX m_X8_placesInAll (Qi x g shX K) 4 [(0, .ref (g.ad 18)), (1, .int (v1 + (S 20 (cl v2)))), (2, .int (v2 + (nI 1)))] [] S)))) : PW l x g shX m_X8_placesInAll (Qi x g shX K) 4 [(0, .ref (g.ad 18)), (1, .int v1), (2, .int v2)] [] S := by
  refine r_iload_n ok 2 dX8_placesInAll_4 rfl ?_
  refine r_bipush ok (nI 10) dX8_placesInAll_5 (by decide) ?_
  refine r_icmp_ge ok 25 dX8_placesInAll_7 (by decide) ⟨fun c => ?_, fun c => ?_⟩
  · have h := h.1 c
    refine r_iload_n ok 1 dX8_placesInAll_25 rfl ?_
    exact r_iret ok rfl dX8_placesInAll_26 h
  · have h := h.2 c
    refine r_iload_n ok 1 dX8_placesInAll_10 rfl ?_
    refine r_aload_n ok 0 dX8_placesInAll_11 rfl ?_
    refine r_getR ok 18 2 rfl rfl fo_X8_19 dX8_placesInAll_12 ?_
    refine r_iload_n ok 2 dX8_placesInAll_15 rfl ?_
    refine r_iaload ok 20 rfl dX8_placesInAll_16 h.1 ?_
    have h := h.2
    refine r_iadd ok dX8_placesInAll_17 ?_
    refine r_istore_n ok [(1, .int (v1 + (S 20 (cl v2)))), (0, .ref (g.ad 18)), (2, .int v2)] dX8_placesInAll_18 (by decide) rfl ?_
    refine r_iinc ok 2 (v2 + (nI 1)) [(2, .int (v2 + (nI 1))), (1, .int (v1 + (S 20 (cl v2)))), (0, .ref (g.ad 18))] dX8_placesInAll_19 rfl rfl (by decide) rfl ?_
    refine r_goto ok 4 dX8_placesInAll_22 (by decide) ?_
    exact r_sub [2, 1, 0] _ rfl h
set_option maxRecDepth 10000 in
theorem s_X8_isGiven_0 {l : Launch} {x : Cx} {g : Geo} {K : Int32 → Mem → Prop} (ok : Ok x g shX m_X8_isGiven) (v1 : Int32) (v2 : Int32) (S : Mem) (h : MWi l g shX m_X8_isRegular [.ref (g.ad 18), .int v1] S (fun r1 S1 => ((r1 = 0 → K (nI 0) S1) ∧ (¬ r1 = 0 → (vp_in v1 12 ∧ ((¬ ((S1 7 (cl v1)) &&& (v2 ^^^ (-1))) = 0 → K (nI 0) S1) ∧ (((S1 7 (cl v1)) &&& (v2 ^^^ (-1))) = 0 → K (nI 1) S1))))))) : PW l x g shX m_X8_isGiven (Qi x g shX K) 0 [(0, .ref (g.ad 18)), (1, .int v1), (2, .int v2)] [] S := by
  refine r_aload_n ok 0 dX8_isGiven_0 rfl ?_
  refine r_iload_n ok 1 dX8_isGiven_1 rfl ?_
  refine r_virti ok (rest := []) (As := [.int v1]) 18 _ k_X8_isGiven_89 rfl rfl rfl rfl (Nat.le_of_ble_eq_true rfl) dX8_isGiven_2 (MWi.mono h (fun r1 S1 h => ?_))
  refine r_if_eq ok 28 dX8_isGiven_5 (by decide) ⟨fun c => ?_, fun c => ?_⟩
  · have h := h.1 c
    refine r_iconst ok (nI 0) dX8_isGiven_28 (by decide) ?_
    exact r_zret ok rfl dX8_isGiven_29 ⟨rfl, h⟩
  · have h := h.2 c
    refine r_aload_n ok 0 dX8_isGiven_8 rfl ?_
    refine r_getR ok 18 0 rfl rfl fo_X8_9 dX8_isGiven_9 ?_
    refine r_getR ok 4 2 rfl rfl fo_X8_92 dX8_isGiven_12 ?_
    refine r_iload_n ok 1 dX8_isGiven_15 rfl ?_
    refine r_iaload ok 7 rfl dX8_isGiven_16 h.1 ?_
    have h := h.2
    refine r_iload_n ok 2 dX8_isGiven_17 rfl ?_
    refine r_iconst ok (-1) dX8_isGiven_18 (by decide) ?_
    refine r_ixor ok dX8_isGiven_19 ?_
    refine r_iand ok dX8_isGiven_20 ?_
    refine r_if_ne ok 28 dX8_isGiven_21 (by decide) ⟨fun c => ?_, fun c => ?_⟩
    · have h := h.1 c
      refine r_iconst ok (nI 0) dX8_isGiven_28 (by decide) ?_
      exact r_zret ok rfl dX8_isGiven_29 ⟨rfl, h⟩
    · have h := h.2 c
      refine r_iconst ok (nI 1) dX8_isGiven_24 (by decide) ?_
      refine r_goto ok 29 dX8_isGiven_25 (by decide) ?_
      exact r_zret ok rfl dX8_isGiven_29 ⟨rfl, h⟩
set_option maxRecDepth 10000 in
theorem s_X8_givenBy_0 {l : Launch} {x : Cx} {g : Geo} {K : Int32 → Mem → Prop} (ok : Ok x g shX m_X8_givenBy) (v1 : Int32) (S : Mem) (h : PW l x g shX m_X8_givenBy (Qi x g shX K) 4 [(0, .ref (g.ad 18)), (1, .int v1), (2, .int (nI 0)), (3, .int (nI 0))] [] S) : PW l x g shX m_X8_givenBy (Qi x g shX K) 0 [(0, .ref (g.ad 18)), (1, .int v1)] [] S := by
  refine r_iconst ok (nI 0) dX8_givenBy_0 (by decide) ?_
  refine r_istore_n ok [(2, .int (nI 0)), (0, .ref (g.ad 18)), (1, .int v1)] dX8_givenBy_1 (by decide) rfl ?_
  refine r_iconst ok (nI 0) dX8_givenBy_2 (by decide) ?_
  refine r_istore_n ok [(3, .int (nI 0)), (2, .int (nI 0)), (0, .ref (g.ad 18)), (1, .int v1)] dX8_givenBy_3 (by decide) rfl ?_
  exact r_sub [2, 3, 1, 0] _ rfl h
set_option maxRecDepth 10000 in
theorem s_X8_givenBy_4 {l : Launch} {x : Cx} {g : Geo} {K : Int32 → Mem → Prop} (ok : Ok x g shX m_X8_givenBy) (v1 : Int32) (v2 : Int32) (v3 : Int32) (S : Mem) (h : (((S 4 5) ≤ v3 → K v2 S) ∧ (¬ (S 4 5) ≤ v3 → MWi l g shX m_X8_isGiven [.ref (g.ad 18), .int v3, .int v1] S (fun r1 S1 => ((r1 = 0 → PW l x g shX m_X8_givenBy (Qi x g shX K) 4 [(0, .ref (g.ad 18)), (1, .int v1), (2, .int v2), (3, .int (v3 + (nI 1)))] [] S1) ∧ (¬ r1 = 0 → PW l x g shX m_X8_givenBy (Qi x g shX K) 4 [(0, .ref (g.ad 18)), (1, .int v1), (2, .int (v2 ||| (jshl (nI 1) v3))), (3, .int (v3 + (nI 1)))] [] S1)))))) : PW l x g shX m_X8_givenBy (Qi x g shX K) 4 [(0, .ref (g.ad 18)), (1, .int v1), (2, .int v2), (3, .int v3)] [] S := by
  refine r_iload_n ok 3 dX8_givenBy_4 rfl ?_
  refine r_aload_n ok 0 dX8_givenBy_5 rfl ?_
  refine r_getR ok 18 0 rfl rfl fo_X8_9 dX8_givenBy_6 ?_
  refine r_getI ok 4 5 rfl rfl fo_X8_56 dX8_givenBy_9 ?_
  refine r_icmp_ge ok 36 dX8_givenBy_12 (by decide) ⟨fun c => ?_, fun c => ?_⟩
  · have h := h.1 c
    refine r_iload_n ok 2 dX8_givenBy_36 rfl ?_
    exact r_iret ok rfl dX8_givenBy_37 h
  · have h := h.2 c
    refine r_aload_n ok 0 dX8_givenBy_15 rfl ?_
    refine r_iload_n ok 3 dX8_givenBy_16 rfl ?_
    refine r_iload_n ok 1 dX8_givenBy_17 rfl ?_
    refine r_virti ok (rest := []) (As := [.int v3, .int v1]) 18 _ k_X8_givenBy_95 rfl rfl rfl rfl (Nat.le_of_ble_eq_true rfl) dX8_givenBy_18 (MWi.mono h (fun r1 S1 h => ?_))
    refine r_if_eq ok 30 dX8_givenBy_21 (by decide) ⟨fun c => ?_, fun c => ?_⟩
    · have h := h.1 c
      refine r_iinc ok 3 (v3 + (nI 1)) [(3, .int (v3 + (nI 1))), (0, .ref (g.ad 18)), (1, .int v1), (2, .int v2)] dX8_givenBy_30 rfl rfl (by decide) rfl ?_
      refine r_goto ok 4 dX8_givenBy_33 (by decide) ?_
      exact r_sub [1, 2, 3, 0] _ rfl h
    · have h := h.2 c
      refine r_iload_n ok 2 dX8_givenBy_24 rfl ?_
      refine r_iconst ok (nI 1) dX8_givenBy_25 (by decide) ?_
      refine r_iload_n ok 3 dX8_givenBy_26 rfl ?_
      refine r_ishl ok dX8_givenBy_27 ?_
      refine r_ior ok dX8_givenBy_28 ?_
      refine r_istore_n ok [(2, .int (v2 ||| (jshl (nI 1) v3))), (0, .ref (g.ad 18)), (1, .int v1), (3, .int v3)] dX8_givenBy_29 (by decide) rfl ?_
      refine r_iinc ok 3 (v3 + (nI 1)) [(3, .int (v3 + (nI 1))), (2, .int (v2 ||| (jshl (nI 1) v3))), (0, .ref (g.ad 18)), (1, .int v1)] dX8_givenBy_30 rfl rfl (by decide) rfl ?_
      refine r_goto ok 4 dX8_givenBy_33 (by decide) ?_
      exact r_sub [2, 3, 1, 0] _ rfl h
set_option maxRecDepth 10000 in
theorem s_X8_newSign_0 {l : Launch} {x : Cx} {g : Geo} {K : Int32 → Mem → Prop} (ok : Ok x g shX m_X8_newSign) (v1 : Int32) (v2 : Int32) (S : Mem) (h : MWi l g shX m_X1_soundAt [.ref (g.ad 4), .int v1, .int v2] S (fun r1 S1 => (vp_in r1 10 ∧ K (S1 22 (cl r1)) S1))) : PW l x g shX m_X8_newSign (Qi x g shX K) 0 [(0, .ref (g.ad 18)), (1, .int v1), (2, .int v2)] [] S := by
  refine r_aload_n ok 0 dX8_newSign_0 rfl ?_
  refine r_getR ok 18 4 rfl rfl fo_X8_25 dX8_newSign_1 ?_
  refine r_aload_n ok 0 dX8_newSign_4 rfl ?_
  refine r_getR ok 18 0 rfl rfl fo_X8_9 dX8_newSign_5 ?_
  refine r_iload_n ok 1 dX8_newSign_8 rfl ?_
  refine r_iload_n ok 2 dX8_newSign_9 rfl ?_
  refine r_virti ok (rest := [.ref (g.ad 22)]) (As := [.int v1, .int v2]) 4 _ k_X8_newSign_68 rfl rfl rfl rfl (Nat.le_of_ble_eq_true rfl) dX8_newSign_10 (MWi.mono h (fun r1 S1 h => ?_))
  refine r_iaload ok 22 rfl dX8_newSign_13 h.1 ?_
  have h := h.2
  exact r_iret ok rfl dX8_newSign_14 h
set_option maxRecDepth 10000 in
theorem s_X8_changedPlaces_0 {l : Launch} {x : Cx} {g : Geo} {K : Int32 → Mem → Prop} (ok : Ok x g shX m_X8_changedPlaces) (S : Mem) (h : PW l x g shX m_X8_changedPlaces (Qi x g shX K) 4 [(0, .ref (g.ad 18)), (1, .int (nI 0)), (2, .int (nI 0))] [] S) : PW l x g shX m_X8_changedPlaces (Qi x g shX K) 0 [(0, .ref (g.ad 18))] [] S := by
  refine r_iconst ok (nI 0) dX8_changedPlaces_0 (by decide) ?_
  refine r_istore_n ok [(1, .int (nI 0)), (0, .ref (g.ad 18))] dX8_changedPlaces_1 (by decide) rfl ?_
  refine r_iconst ok (nI 0) dX8_changedPlaces_2 (by decide) ?_
  refine r_istore_n ok [(2, .int (nI 0)), (1, .int (nI 0)), (0, .ref (g.ad 18))] dX8_changedPlaces_3 (by decide) rfl ?_
  exact r_sub [2, 1, 0] _ rfl h
set_option maxRecDepth 10000 in
theorem s_X8_changedPlaces_4 {l : Launch} {x : Cx} {g : Geo} {K : Int32 → Mem → Prop} (ok : Ok x g shX m_X8_changedPlaces) (v1 : Int32) (v2 : Int32) (S : Mem) (h : (((S 4 5) ≤ v2 → K v1 S) ∧ (¬ (S 4 5) ≤ v2 → PW l x g shX m_X8_changedPlaces (Qi x g shX K) 17 [(0, .ref (g.ad 18)), (1, .int v1), (2, .int v2), (3, .int (nI 0))] [] S))) : PW l x g shX m_X8_changedPlaces (Qi x g shX K) 4 [(0, .ref (g.ad 18)), (1, .int v1), (2, .int v2)] [] S := by
  refine r_iload_n ok 2 dX8_changedPlaces_4 rfl ?_
  refine r_aload_n ok 0 dX8_changedPlaces_5 rfl ?_
  refine r_getR ok 18 0 rfl rfl fo_X8_9 dX8_changedPlaces_6 ?_
  refine r_getI ok 4 5 rfl rfl fo_X8_56 dX8_changedPlaces_9 ?_
  refine r_icmp_ge ok 72 dX8_changedPlaces_12 (by decide) ⟨fun c => ?_, fun c => ?_⟩
  · have h := h.1 c
    refine r_iload_n ok 1 dX8_changedPlaces_72 rfl ?_
    exact r_iret ok rfl dX8_changedPlaces_73 h
  · have h := h.2 c
    refine r_iconst ok (nI 0) dX8_changedPlaces_15 (by decide) ?_
    refine r_istore_n ok [(3, .int (nI 0)), (0, .ref (g.ad 18)), (1, .int v1), (2, .int v2)] dX8_changedPlaces_16 (by decide) rfl ?_
    exact r_sub [1, 2, 3, 0] _ rfl h
set_option maxRecDepth 10000 in
theorem s_X8_changedPlaces_17 {l : Launch} {x : Cx} {g : Geo} {K : Int32 → Mem → Prop} (ok : Ok x g shX m_X8_changedPlaces) (v1 : Int32) (v2 : Int32) (v3 : Int32) (S : Mem) (h : (vp_in v2 12 ∧ (((S 5 (cl v2)) ≤ v3 → PW l x g shX m_X8_changedPlaces (Qi x g shX K) 4 [(0, .ref (g.ad 18)), (1, .int v1), (2, .int (v2 + (nI 1)))] [] S) ∧ (¬ (S 5 (cl v2)) ≤ v3 → MWi l g shX m_X8_newSign [.ref (g.ad 18), .int v2, .int v3] S (fun r1 S1 => MWi l g shX m_X1_signAt [.ref (g.ad 4), .int v2, .int v3] S1 (fun r2 S2 => ((r1 = r2 → PW l x g shX m_X8_changedPlaces (Qi x g shX K) 17 [(0, .ref (g.ad 18)), (1, .int v1), (2, .int v2), (3, .int (v3 + (nI 1)))] [] S2) ∧ (¬ r1 = r2 → (vp_in v2 12 ∧ PW l x g shX m_X8_changedPlaces (Qi x g shX K) 17 [(0, .ref (g.ad 18)), (1, .int (v1 + (S2 6 (cl v2)))), (2, .int v2), (3, .int (v3 + (nI 1)))] [] S2))))))))) : PW l x g shX m_X8_changedPlaces (Qi x g shX K) 17 [(0, .ref (g.ad 18)), (1, .int v1), (2, .int v2), (3, .int v3)] [] S := by
  refine r_iload_n ok 3 dX8_changedPlaces_17 rfl ?_
  refine r_aload_n ok 0 dX8_changedPlaces_18 rfl ?_
  refine r_getR ok 18 0 rfl rfl fo_X8_9 dX8_changedPlaces_19 ?_
  refine r_getR ok 4 0 rfl rfl fo_X8_62 dX8_changedPlaces_22 ?_
  refine r_iload_n ok 2 dX8_changedPlaces_25 rfl ?_
  refine r_iaload ok 5 rfl dX8_changedPlaces_26 h.1 ?_
  have h := h.2
  refine r_icmp_ge ok 66 dX8_changedPlaces_27 (by decide) ⟨fun c => ?_, fun c => ?_⟩
  · have h := h.1 c
    refine r_iinc ok 2 (v2 + (nI 1)) [(2, .int (v2 + (nI 1))), (0, .ref (g.ad 18)), (1, .int v1), (3, .int v3)] dX8_changedPlaces_66 rfl rfl (by decide) rfl ?_
    refine r_goto ok 4 dX8_changedPlaces_69 (by decide) ?_
    exact r_sub [1, 2, 0] _ rfl h
  · have h := h.2 c
    refine r_aload_n ok 0 dX8_changedPlaces_30 rfl ?_
    refine r_iload_n ok 2 dX8_changedPlaces_31 rfl ?_
    refine r_iload_n ok 3 dX8_changedPlaces_32 rfl ?_
    refine r_virti ok (rest := []) (As := [.int v2, .int v3]) 18 _ k_X8_changedPlaces_98 rfl rfl rfl rfl (Nat.le_of_ble_eq_true rfl) dX8_changedPlaces_33 (MWi.mono h (fun r1 S1 h => ?_))
    refine r_aload_n ok 0 dX8_changedPlaces_36 rfl ?_
    refine r_getR ok 18 0 rfl rfl fo_X8_9 dX8_changedPlaces_37 ?_
    refine r_iload_n ok 2 dX8_changedPlaces_40 rfl ?_
    refine r_iload_n ok 3 dX8_changedPlaces_41 rfl ?_
    refine r_virti ok (rest := [.int r1]) (As := [.int v2, .int v3]) 4 _ k_X8_changedPlaces_65 rfl rfl rfl rfl (Nat.le_of_ble_eq_true rfl) dX8_changedPlaces_42 (MWi.mono h (fun r2 S2 h => ?_))
    refine r_icmp_eq ok 60 dX8_changedPlaces_45 (by decide) ⟨fun c => ?_, fun c => ?_⟩
    · have h := h.1 c
      refine r_iinc ok 3 (v3 + (nI 1)) [(3, .int (v3 + (nI 1))), (0, .ref (g.ad 18)), (1, .int v1), (2, .int v2)] dX8_changedPlaces_60 rfl rfl (by decide) rfl ?_
      refine r_goto ok 17 dX8_changedPlaces_63 (by decide) ?_
      exact r_sub [1, 2, 3, 0] _ rfl h
    · have h := h.2 c
      refine r_iload_n ok 1 dX8_changedPlaces_48 rfl ?_
      refine r_aload_n ok 0 dX8_changedPlaces_49 rfl ?_
      refine r_getR ok 18 0 rfl rfl fo_X8_9 dX8_changedPlaces_50 ?_
      refine r_getR ok 4 1 rfl rfl fo_X8_71 dX8_changedPlaces_53 ?_
      refine r_iload_n ok 2 dX8_changedPlaces_56 rfl ?_
      refine r_iaload ok 6 rfl dX8_changedPlaces_57 h.1 ?_
      have h := h.2
      refine r_iadd ok dX8_changedPlaces_58 ?_
      refine r_istore_n ok [(1, .int (v1 + (S2 6 (cl v2)))), (0, .ref (g.ad 18)), (2, .int v2), (3, .int v3)] dX8_changedPlaces_59 (by decide) rfl ?_
      refine r_iinc ok 3 (v3 + (nI 1)) [(3, .int (v3 + (nI 1))), (1, .int (v1 + (S2 6 (cl v2)))), (0, .ref (g.ad 18)), (2, .int v2)] dX8_changedPlaces_60 rfl rfl (by decide) rfl ?_
      refine r_goto ok 17 dX8_changedPlaces_63 (by decide) ?_
      exact r_sub [2, 1, 3, 0] _ rfl h
set_option maxRecDepth 10000 in
theorem s_X8_firstClash_0 {l : Launch} {x : Cx} {g : Geo} {K : Int32 → Mem → Prop} (ok : Ok x g shX m_X8_firstClash) (S : Mem) (h : PW l x g shX m_X8_firstClash (Qi x g shX K) 2 [(0, .ref (g.ad 18)), (1, .int (nI 0))] [] S) : PW l x g shX m_X8_firstClash (Qi x g shX K) 0 [(0, .ref (g.ad 18))] [] S := by
  refine r_iconst ok (nI 0) dX8_firstClash_0 (by decide) ?_
  refine r_istore_n ok [(1, .int (nI 0)), (0, .ref (g.ad 18))] dX8_firstClash_1 (by decide) rfl ?_
  exact r_sub [1, 0] _ rfl h
set_option maxRecDepth 10000 in
theorem s_X8_firstClash_2 {l : Launch} {x : Cx} {g : Geo} {K : Int32 → Mem → Prop} (ok : Ok x g shX m_X8_firstClash) (v1 : Int32) (S : Mem) (h : (((S 4 5) ≤ v1 → K (-6) S) ∧ (¬ (S 4 5) ≤ v1 → PW l x g shX m_X8_firstClash (Qi x g shX K) 17 [(0, .ref (g.ad 18)), (1, .int v1), (2, .int (v1 + (nI 1)))] [] S))) : PW l x g shX m_X8_firstClash (Qi x g shX K) 2 [(0, .ref (g.ad 18)), (1, .int v1)] [] S := by
  refine r_iload_n ok 1 dX8_firstClash_2 rfl ?_
  refine r_aload_n ok 0 dX8_firstClash_3 rfl ?_
  refine r_getR ok 18 0 rfl rfl fo_X8_9 dX8_firstClash_4 ?_
  refine r_getI ok 4 5 rfl rfl fo_X8_56 dX8_firstClash_7 ?_
  refine r_icmp_ge ok 56 dX8_firstClash_10 (by decide) ⟨fun c => ?_, fun c => ?_⟩
  · have h := h.1 c
    refine r_bipush ok (-6) dX8_firstClash_56 (by decide) ?_
    exact r_iret ok rfl dX8_firstClash_58 h
  · have h := h.2 c
    refine r_iload_n ok 1 dX8_firstClash_13 rfl ?_
    refine r_iconst ok (nI 1) dX8_firstClash_14 (by decide) ?_
    refine r_iadd ok dX8_firstClash_15 ?_
    refine r_istore_n ok [(2, .int (v1 + (nI 1))), (0, .ref (g.ad 18)), (1, .int v1)] dX8_firstClash_16 (by decide) rfl ?_
    exact r_sub [1, 2, 0] _ rfl h
set_option maxRecDepth 10000 in
theorem s_X8_firstClash_17 {l : Launch} {x : Cx} {g : Geo} {K : Int32 → Mem → Prop} (ok : Ok x g shX m_X8_firstClash) (v1 : Int32) (v2 : Int32) (S : Mem) (h : (((S 4 5) ≤ v2 → PW l x g shX m_X8_firstClash (Qi x g shX K) 2 [(0, .ref (g.ad 18)), (1, .int (v1 + (nI 1)))] [] S) ∧ (¬ (S 4 5) ≤ v2 → MWi l g shX m_X8_areRespeltAlike [.ref (g.ad 18), .int v1, .int v2] S (fun r1 S1 => ((r1 = 0 → PW l x g shX m_X8_firstClash (Qi x g shX K) 17 [(0, .ref (g.ad 18)), (1, .int v1), (2, .int (v2 + (nI 1)))] [] S1) ∧ (¬ r1 = 0 → K (((nI 100) * v1) + v2) S1)))))) : PW l x g shX m_X8_firstClash (Qi x g shX K) 17 [(0, .ref (g.ad 18)), (1, .int v1), (2, .int v2)] [] S := by
  refine r_iload_n ok 2 dX8_firstClash_17 rfl ?_
  refine r_aload_n ok 0 dX8_firstClash_18 rfl ?_
  refine r_getR ok 18 0 rfl rfl fo_X8_9 dX8_firstClash_19 ?_
  refine r_getI ok 4 5 rfl rfl fo_X8_56 dX8_firstClash_22 ?_
  refine r_icmp_ge ok 50 dX8_firstClash_25 (by decide) ⟨fun c => ?_, fun c => ?_⟩
  · have h := h.1 c
    refine r_iinc ok 1 (v1 + (nI 1)) [(1, .int (v1 + (nI 1))), (0, .ref (g.ad 18)), (2, .int v2)] dX8_firstClash_50 rfl rfl (by decide) rfl ?_
    refine r_goto ok 2 dX8_firstClash_53 (by decide) ?_
    exact r_sub [1, 0] _ rfl h
  · have h := h.2 c
    refine r_aload_n ok 0 dX8_firstClash_28 rfl ?_
    refine r_iload_n ok 1 dX8_firstClash_29 rfl ?_
    refine r_iload_n ok 2 dX8_firstClash_30 rfl ?_
    refine r_virti ok (rest := []) (As := [.int v1, .int v2]) 18 _ k_X8_firstClash_101 rfl rfl rfl rfl (Nat.le_of_ble_eq_true rfl) dX8_firstClash_31 (MWi.mono h (fun r1 S1 h => ?_))
    refine r_if_eq ok 44 dX8_firstClash_34 (by decide) ⟨fun c => ?_, fun c => ?_⟩
    · have h := h.1 c
      refine r_iinc ok 2 (v2 + (nI 1)) [(2, .int (v2 + (nI 1))), (0, .ref (g.ad 18)), (1, .int v1)] dX8_firstClash_44 rfl rfl (by decide) rfl ?_
      refine r_goto ok 17 dX8_firstClash_47 (by decide) ?_
      exact r_sub [1, 2, 0] _ rfl h
    · have h := h.2 c
      refine r_bipush ok (nI 100) dX8_firstClash_37 (by decide) ?_
      refine r_iload_n ok 1 dX8_firstClash_39 rfl ?_
      refine r_imul ok dX8_firstClash_40 ?_
      refine r_iload_n ok 2 dX8_firstClash_41 rfl ?_
      refine r_iadd ok dX8_firstClash_42 ?_
      exact r_iret ok rfl dX8_firstClash_43 h
set_option maxRecDepth 10000 in
theorem s_X8_areRespeltAlike_0 {l : Launch} {x : Cx} {g : Geo} {K : Int32 → Mem → Prop} (ok : Ok x g shX m_X8_areRespeltAlike) (v1 : Int32) (v2 : Int32) (S : Mem) (h : (vp_in v1 12 ∧ (vp_in v2 12 ∧ (((S 5 (cl v1)) = (S 5 (cl v2)) → PW l x g shX m_X8_areRespeltAlike (Qi x g shX K) 25 [(0, .ref (g.ad 18)), (1, .int v1), (2, .int v2), (3, .int (nI 0))] [] S) ∧ (¬ (S 5 (cl v1)) = (S 5 (cl v2)) → K (nI 0) S))))) : PW l x g shX m_X8_areRespeltAlike (Qi x g shX K) 0 [(0, .ref (g.ad 18)), (1, .int v1), (2, .int v2)] [] S := by
  refine r_aload_n ok 0 dX8_areRespeltAlike_0 rfl ?_
  refine r_getR ok 18 0 rfl rfl fo_X8_9 dX8_areRespeltAlike_1 ?_
  refine r_getR ok 4 0 rfl rfl fo_X8_62 dX8_areRespeltAlike_4 ?_
  refine r_iload_n ok 1 dX8_areRespeltAlike_7 rfl ?_
  refine r_iaload ok 5 rfl dX8_areRespeltAlike_8 h.1 ?_
  have h := h.2
  refine r_aload_n ok 0 dX8_areRespeltAlike_9 rfl ?_
  refine r_getR ok 18 0 rfl rfl fo_X8_9 dX8_areRespeltAlike_10 ?_
  refine r_getR ok 4 0 rfl rfl fo_X8_62 dX8_areRespeltAlike_13 ?_
  refine r_iload_n ok 2 dX8_areRespeltAlike_16 rfl ?_
  refine r_iaload ok 5 rfl dX8_areRespeltAlike_17 h.1 ?_
  have h := h.2
  refine r_icmp_eq ok 23 dX8_areRespeltAlike_18 (by decide) ⟨fun c => ?_, fun c => ?_⟩
  · have h := h.1 c
    refine r_iconst ok (nI 0) dX8_areRespeltAlike_23 (by decide) ?_
    refine r_istore_n ok [(3, .int (nI 0)), (0, .ref (g.ad 18)), (1, .int v1), (2, .int v2)] dX8_areRespeltAlike_24 (by decide) rfl ?_
    exact r_sub [1, 2, 3, 0] _ rfl h
  · have h := h.2 c
    refine r_iconst ok (nI 0) dX8_areRespeltAlike_21 (by decide) ?_
    exact r_zret ok rfl dX8_areRespeltAlike_22 ⟨rfl, h⟩
set_option maxRecDepth 10000 in
theorem s_X8_areRespeltAlike_25 {l : Launch} {x : Cx} {g : Geo} {K : Int32 → Mem → Prop} (ok : Ok x g shX m_X8_areRespeltAlike) (v1 : Int32) (v2 : Int32) (v3 : Int32) (S : Mem) (h : (vp_in v1 12 ∧ (((S 5 (cl v1)) ≤ v3 → K (nI 1) S) ∧ (¬ (S 5 (cl v1)) ≤ v3 → MWi l g shX m_X8_newSign [.ref (g.ad 18), .int v1, .int v3] S (fun r1 S1 => MWi l g shX m_X8_newSign [.ref (g.ad 18), .int v2, .int v3] S1 (fun r2 S2 => ((r1 = r2 → PW l x g shX m_X8_areRespeltAlike (Qi x g shX K) 25 [(0, .ref (g.ad 18)), (1, .int v1), (2, .int v2), (3, .int (v3 + (nI 1)))] [] S2) ∧ (¬ r1 = r2 → K (nI 0) S2)))))))) : PW l x g shX m_X8_areRespeltAlike (Qi x g shX K) 25 [(0, .ref (g.ad 18)), (1, .int v1), (2, .int v2), (3, .int v3)] [] S := by
  refine r_iload_n ok 3 dX8_areRespeltAlike_25 rfl ?_
  refine r_aload_n ok 0 dX8_areRespeltAlike_26 rfl ?_
  refine r_getR ok 18 0 rfl rfl fo_X8_9 dX8_areRespeltAlike_27 ?_
  refine r_getR ok 4 0 rfl rfl fo_X8_62 dX8_areRespeltAlike_30 ?_
  refine r_iload_n ok 1 dX8_areRespeltAlike_33 rfl ?_
  refine r_iaload ok 5 rfl dX8_areRespeltAlike_34 h.1 ?_
  have h := h.2
  refine r_icmp_ge ok 61 dX8_areRespeltAlike_35 (by decide) ⟨fun c => ?_, fun c => ?_⟩
  · have h := h.1 c
    refine r_iconst ok (nI 1) dX8_areRespeltAlike_61 (by decide) ?_
    exact r_zret ok rfl dX8_areRespeltAlike_62 ⟨rfl, h⟩
  · have h := h.2 c
    refine r_aload_n ok 0 dX8_areRespeltAlike_38 rfl ?_
    refine r_iload_n ok 1 dX8_areRespeltAlike_39 rfl ?_
    refine r_iload_n ok 3 dX8_areRespeltAlike_40 rfl ?_
    refine r_virti ok (rest := []) (As := [.int v1, .int v3]) 18 _ k_X8_areRespeltAlike_98 rfl rfl rfl rfl (Nat.le_of_ble_eq_true rfl) dX8_areRespeltAlike_41 (MWi.mono h (fun r1 S1 h => ?_))
    refine r_aload_n ok 0 dX8_areRespeltAlike_44 rfl ?_
    refine r_iload_n ok 2 dX8_areRespeltAlike_45 rfl ?_
    refine r_iload_n ok 3 dX8_areRespeltAlike_46 rfl ?_
    refine r_virti ok (rest := [.int r1]) (As := [.int v2, .int v3]) 18 _ k_X8_areRespeltAlike_98 rfl rfl rfl rfl (Nat.le_of_ble_eq_true rfl) dX8_areRespeltAlike_47 (MWi.mono h (fun r2 S2 h => ?_))
    refine r_icmp_eq ok 55 dX8_areRespeltAlike_50 (by decide) ⟨fun c => ?_, fun c => ?_⟩
    · have h := h.1 c
      refine r_iinc ok 3 (v3 + (nI 1)) [(3, .int (v3 + (nI 1))), (0, .ref (g.ad 18)), (1, .int v1), (2, .int v2)] dX8_areRespeltAlike_55 rfl rfl (by decide) rfl ?_
      refine r_goto ok 25 dX8_areRespeltAlike_58 (by decide) ?_
      exact r_sub [1, 2, 3, 0] _ rfl h
    · have h := h.2 c
      refine r_iconst ok (nI 0) dX8_areRespeltAlike_53 (by decide) ?_
      exact r_zret ok rfl dX8_areRespeltAlike_54 ⟨rfl, h⟩
