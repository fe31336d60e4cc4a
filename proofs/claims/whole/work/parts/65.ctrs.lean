/-! PART 65: constructors: facts, and the contracts of all but the outermost (written by program) -/
abbrev m_X0_init : Md := (yX0_init, cX0_init, 1, none, 1, 12)
abbrev m_X1_init : Md := (yX1_init, cX1_init, 1, none, 1, 12)
abbrev m_X2_init : Md := (yX2_init, cX2_init, 1, none, 1, 23)
abbrev m_X5_init : Md := (yX5_init, cX5_init, 1, none, 1, 12)
abbrev m_X7_init : Md := (yX7_init, cX7_init, 1, none, 2, 43)
abbrev m_X8_init : Md := (yX8_init, cX8_init, 2, none, 1, 12)
abbrev m_X6_init : Md := (yX6_init, cX6_init, 4, none, 1, 12)
abbrev m_X9_init : Md := (yX9_init, cX9_init, 3, none, 1, 12)
abbrev m_X10_init : Md := (yX10_init, cX10_init, 2, none, 1, 12)
abbrev m_X3_init : Md := (yX3_init, cX3_init, 4, none, 1, 12)
abbrev m_X4_init : Md := (yX4_init, cX4_init, 4, none, 1, 12)
abbrev m_X11_init : Md := (yX11_init, cX11_init, 2, none, 4, 86)
abbrev m_X12_init : Md := (yX12_init, cX12_init, 2, none, 1, 12)
theorem ob_i : Cond.instanceMethod objectInit ∈ gtbl := (gt_in (List.mem_of_getElem? (i := 83) (by decide +kernel)) rfl)
theorem ob_c : Cond.code objectInit ⟨#[0xb1]⟩ 1 none ∈ gtbl := (gt_in (List.mem_of_getElem? (i := 84) (by decide +kernel)) rfl)
theorem ar_i : Cond.arrayClass .int ∈ gtbl := (gt_in (List.mem_of_getElem? (i := 100) (by decide +kernel)) rfl)
theorem ar_b : Cond.arrayClass .boolean ∈ gtbl := (gt_in (List.mem_of_getElem? (i := 203) (by decide +kernel)) rfl)
theorem oi_X0 : Cond.methodLink RX0 3 objectInit ∈ gtbl := (gt_in (List.mem_of_getElem? (i := 188) (by decide +kernel)) rfl)
theorem fq_X0_9 : FldOk RX0 9 0 0 RX0 TX0 3 := ⟨rfl, inGX0, by decide, (gt_in (List.mem_of_getElem? (i := 189) (by decide +kernel)) rfl)⟩
theorem fp_X0_9 : PutF RX0 9 0 0 RX0 TX0 3 tyX0 := ⟨fq_X0_9, tyX0_ok, nmX0, rfl, rfl⟩
theorem fq_X0_15 : FldOk RX0 15 0 1 RX0 TX0 3 := ⟨rfl, inGX0, by decide, (gt_in (List.mem_of_getElem? (i := 191) (by decide +kernel)) rfl)⟩
theorem fp_X0_15 : PutF RX0 15 0 1 RX0 TX0 3 tyX0 := ⟨fq_X0_15, tyX0_ok, nmX0, rfl, rfl⟩
theorem oi_X1 : Cond.methodLink RX1 3 objectInit ∈ gtbl := (gt_in (List.mem_of_getElem? (i := 112) (by decide +kernel)) rfl)
theorem fq_X1_9 : FldOk RX1 9 1 0 RX1 TX1 6 := ⟨rfl, inGX1, by decide, (gt_in (List.mem_of_getElem? (i := 113) (by decide +kernel)) rfl)⟩
theorem fp_X1_9 : PutF RX1 9 1 0 RX1 TX1 6 tyX1 := ⟨fq_X1_9, tyX1_ok, nmX1, rfl, rfl⟩
theorem fq_X1_15 : FldOk RX1 15 1 1 RX1 TX1 6 := ⟨rfl, inGX1, by decide, (gt_in (List.mem_of_getElem? (i := 118) (by decide +kernel)) rfl)⟩
theorem fp_X1_15 : PutF RX1 15 1 1 RX1 TX1 6 tyX1 := ⟨fq_X1_15, tyX1_ok, nmX1, rfl, rfl⟩
theorem fq_X1_18 : FldOk RX1 18 1 2 RX1 TX1 6 := ⟨rfl, inGX1, by decide, (gt_in (List.mem_of_getElem? (i := 123) (by decide +kernel)) rfl)⟩
theorem fp_X1_18 : PutF RX1 18 1 2 RX1 TX1 6 tyX1 := ⟨fq_X1_18, tyX1_ok, nmX1, rfl, rfl⟩
theorem fq_X1_21 : FldOk RX1 21 1 3 RX1 TX1 6 := ⟨rfl, inGX1, by decide, (gt_in (List.mem_of_getElem? (i := 130) (by decide +kernel)) rfl)⟩
theorem fp_X1_21 : PutF RX1 21 1 3 RX1 TX1 6 tyX1 := ⟨fq_X1_21, tyX1_ok, nmX1, rfl, rfl⟩
theorem fq_X1_24 : FldOk RX1 24 1 4 RX1 TX1 6 := ⟨rfl, inGX1, by decide, (gt_in (List.mem_of_getElem? (i := 131) (by decide +kernel)) rfl)⟩
theorem fp_X1_24 : PutF RX1 24 1 4 RX1 TX1 6 tyX1 := ⟨fq_X1_24, tyX1_ok, nmX1, rfl, rfl⟩
theorem oi_X2 : Cond.methodLink RX2 3 objectInit ∈ gtbl := (gt_in (List.mem_of_getElem? (i := 158) (by decide +kernel)) rfl)
theorem fq_X2_9 : FldOk RX2 9 2 0 RX2 TX2 4 := ⟨rfl, inGX2, by decide, (gt_in (List.mem_of_getElem? (i := 162) (by decide +kernel)) rfl)⟩
theorem fp_X2_9 : PutF RX2 9 2 0 RX2 TX2 4 tyX2 := ⟨fq_X2_9, tyX2_ok, nmX2, rfl, rfl⟩
theorem fq_X2_15 : FldOk RX2 15 2 1 RX2 TX2 4 := ⟨rfl, inGX2, by decide, (gt_in (List.mem_of_getElem? (i := 166) (by decide +kernel)) rfl)⟩
theorem fp_X2_15 : PutF RX2 15 2 1 RX2 TX2 4 tyX2 := ⟨fq_X2_15, tyX2_ok, nmX2, rfl, rfl⟩
theorem fq_X2_18 : FldOk RX2 18 2 2 RX2 TX2 4 := ⟨rfl, inGX2, by decide, (gt_in (List.mem_of_getElem? (i := 170) (by decide +kernel)) rfl)⟩
theorem fp_X2_18 : PutF RX2 18 2 2 RX2 TX2 4 tyX2 := ⟨fq_X2_18, tyX2_ok, nmX2, rfl, rfl⟩
theorem fq_X2_21 : FldOk RX2 21 2 3 RX2 TX2 4 := ⟨rfl, inGX2, by decide, (gt_in (List.mem_of_getElem? (i := 172) (by decide +kernel)) rfl)⟩
theorem fp_X2_21 : PutF RX2 21 2 3 RX2 TX2 4 tyX2 := ⟨fq_X2_21, tyX2_ok, nmX2, rfl, rfl⟩
theorem ks_X2_24 : ∀ w ∈ ([.methodLink RX2 24 m_J7_fill_53178.1, .static m_J7_fill_53178.1, .initialized m_J7_fill_53178.1.cls, .code m_J7_fill_53178.1 m_J7_fill_53178.2.1 m_J7_fill_53178.2.2.1 m_J7_fill_53178.2.2.2.1] : List Cond), w ∈ gtbl := al4 (gt_in (List.mem_of_getElem? (i := 159) (by decide +kernel)) rfl) (gt_in (List.mem_of_getElem? (i := 160) (by decide +kernel)) rfl) (gt_in (List.mem_of_getElem? (i := 65) (by decide +kernel)) rfl) (gt_in (List.mem_of_getElem? (i := 161) (by decide +kernel)) rfl)
theorem oi_X5 : Cond.methodLink RX5 3 objectInit ∈ gtbl := (gt_in (List.mem_of_getElem? (i := 90) (by decide +kernel)) rfl)
theorem fq_X5_9 : FldOk RX5 9 5 0 RX5 TX5 2 := ⟨rfl, inGX5, by decide, (gt_in (List.mem_of_getElem? (i := 91) (by decide +kernel)) rfl)⟩
theorem fp_X5_9 : PutF RX5 9 5 0 RX5 TX5 2 tyX5 := ⟨fq_X5_9, tyX5_ok, nmX5, rfl, rfl⟩
theorem oi_X7 : Cond.methodLink RX7 1 objectInit ∈ gtbl := (gt_in (List.mem_of_getElem? (i := 106) (by decide +kernel)) rfl)
theorem nk_X7_7 : NewOk RX7 7 1 RX1 TX1 6 tyX1 := ⟨rfl, inGX1, tyX1_ok, (gt_in (List.mem_of_getElem? (i := 107) (by decide +kernel)) rfl), (gt_in (List.mem_of_getElem? (i := 108) (by decide +kernel)) rfl), (gt_in (List.mem_of_getElem? (i := 63) (by decide +kernel)) rfl)⟩
theorem ki_X7_9 : CalI m_X7_init m_X1_init 9 0 := ⟨al4 (gt_in (List.mem_of_getElem? (i := 109) (by decide +kernel)) rfl) (gt_in (List.mem_of_getElem? (i := 110) (by decide +kernel)) rfl) (gt_in (List.mem_of_getElem? (i := 63) (by decide +kernel)) rfl) (gt_in (List.mem_of_getElem? (i := 111) (by decide +kernel)) rfl), ⟨by decide, by decide, by decide +kernel⟩, rfl, rfl⟩
theorem fq_X7_10 : FldOk RX7 10 7 0 RX7 TX7 3 := ⟨rfl, inGX7, by decide, (gt_in (List.mem_of_getElem? (i := 204) (by decide +kernel)) rfl)⟩
theorem fp_X7_10 : PutF RX7 10 7 0 RX7 TX7 3 tyX7 := ⟨fq_X7_10, tyX7_ok, nmX7, rfl, rfl⟩
theorem nk_X7_16 : NewOk RX7 16 2 RX2 TX2 4 tyX2 := ⟨rfl, inGX2, tyX2_ok, (gt_in (List.mem_of_getElem? (i := 153) (by decide +kernel)) rfl), (gt_in (List.mem_of_getElem? (i := 154) (by decide +kernel)) rfl), (gt_in (List.mem_of_getElem? (i := 64) (by decide +kernel)) rfl)⟩
theorem ki_X7_18 : CalI m_X7_init m_X2_init 18 0 := ⟨al4 (gt_in (List.mem_of_getElem? (i := 155) (by decide +kernel)) rfl) (gt_in (List.mem_of_getElem? (i := 156) (by decide +kernel)) rfl) (gt_in (List.mem_of_getElem? (i := 64) (by decide +kernel)) rfl) (gt_in (List.mem_of_getElem? (i := 157) (by decide +kernel)) rfl), ⟨by decide, by decide, by decide +kernel⟩, rfl, rfl⟩
theorem fq_X7_19 : FldOk RX7 19 7 1 RX7 TX7 3 := ⟨rfl, inGX7, by decide, (gt_in (List.mem_of_getElem? (i := 206) (by decide +kernel)) rfl)⟩
theorem fp_X7_19 : PutF RX7 19 7 1 RX7 TX7 3 tyX7 := ⟨fq_X7_19, tyX7_ok, nmX7, rfl, rfl⟩
theorem nk_X7_23 : NewOk RX7 23 0 RX0 TX0 3 tyX0 := ⟨rfl, inGX0, tyX0_ok, (gt_in (List.mem_of_getElem? (i := 183) (by decide +kernel)) rfl), (gt_in (List.mem_of_getElem? (i := 184) (by decide +kernel)) rfl), (gt_in (List.mem_of_getElem? (i := 66) (by decide +kernel)) rfl)⟩
theorem ki_X7_25 : CalI m_X7_init m_X0_init 25 0 := ⟨al4 (gt_in (List.mem_of_getElem? (i := 185) (by decide +kernel)) rfl) (gt_in (List.mem_of_getElem? (i := 186) (by decide +kernel)) rfl) (gt_in (List.mem_of_getElem? (i := 66) (by decide +kernel)) rfl) (gt_in (List.mem_of_getElem? (i := 187) (by decide +kernel)) rfl), ⟨by decide, by decide, by decide +kernel⟩, rfl, rfl⟩
theorem fq_X7_26 : FldOk RX7 26 7 2 RX7 TX7 3 := ⟨rfl, inGX7, by decide, (gt_in (List.mem_of_getElem? (i := 208) (by decide +kernel)) rfl)⟩
theorem fp_X7_26 : PutF RX7 26 7 2 RX7 TX7 3 tyX7 := ⟨fq_X7_26, tyX7_ok, nmX7, rfl, rfl⟩
theorem oi_X8 : Cond.methodLink RX8 3 objectInit ∈ gtbl := (gt_in (List.mem_of_getElem? (i := 222) (by decide +kernel)) rfl)
theorem fq_X8_9 : FldOk RX8 9 8 0 RX8 TX8 8 := ⟨rfl, inGX8, by decide, (gt_in (List.mem_of_getElem? (i := 223) (by decide +kernel)) rfl)⟩
theorem fp_X8_9 : PutF RX8 9 8 0 RX8 TX8 8 tyX8 := ⟨fq_X8_9, tyX8_ok, nmX8, rfl, rfl⟩
theorem fq_X8_15 : FldOk RX8 15 8 1 RX8 TX8 8 := ⟨rfl, inGX8, by decide, (gt_in (List.mem_of_getElem? (i := 224) (by decide +kernel)) rfl)⟩
theorem fp_X8_15 : PutF RX8 15 8 1 RX8 TX8 8 tyX8 := ⟨fq_X8_15, tyX8_ok, nmX8, rfl, rfl⟩
theorem fq_X8_19 : FldOk RX8 19 8 2 RX8 TX8 8 := ⟨rfl, inGX8, by decide, (gt_in (List.mem_of_getElem? (i := 226) (by decide +kernel)) rfl)⟩
theorem fp_X8_19 : PutF RX8 19 8 2 RX8 TX8 8 tyX8 := ⟨fq_X8_19, tyX8_ok, nmX8, rfl, rfl⟩
theorem fq_X8_22 : FldOk RX8 22 8 3 RX8 TX8 8 := ⟨rfl, inGX8, by decide, (gt_in (List.mem_of_getElem? (i := 228) (by decide +kernel)) rfl)⟩
theorem fp_X8_22 : PutF RX8 22 8 3 RX8 TX8 8 tyX8 := ⟨fq_X8_22, tyX8_ok, nmX8, rfl, rfl⟩
theorem fq_X8_25 : FldOk RX8 25 8 4 RX8 TX8 8 := ⟨rfl, inGX8, by decide, (gt_in (List.mem_of_getElem? (i := 231) (by decide +kernel)) rfl)⟩
theorem fp_X8_25 : PutF RX8 25 8 4 RX8 TX8 8 tyX8 := ⟨fq_X8_25, tyX8_ok, nmX8, rfl, rfl⟩
theorem fq_X8_28 : FldOk RX8 28 8 5 RX8 TX8 8 := ⟨rfl, inGX8, by decide, (gt_in (List.mem_of_getElem? (i := 232) (by decide +kernel)) rfl)⟩
theorem fp_X8_28 : PutF RX8 28 8 5 RX8 TX8 8 tyX8 := ⟨fq_X8_28, tyX8_ok, nmX8, rfl, rfl⟩
theorem fq_X8_31 : FldOk RX8 31 8 6 RX8 TX8 8 := ⟨rfl, inGX8, by decide, (gt_in (List.mem_of_getElem? (i := 235) (by decide +kernel)) rfl)⟩
theorem fp_X8_31 : PutF RX8 31 8 6 RX8 TX8 8 tyX8 := ⟨fq_X8_31, tyX8_ok, nmX8, rfl, rfl⟩
theorem oi_X6 : Cond.methodLink RX6 3 objectInit ∈ gtbl := (gt_in (List.mem_of_getElem? (i := 261) (by decide +kernel)) rfl)
theorem fq_X6_9 : FldOk RX6 9 6 0 RX6 TX6 4 := ⟨rfl, inGX6, by decide, (gt_in (List.mem_of_getElem? (i := 262) (by decide +kernel)) rfl)⟩
theorem fp_X6_9 : PutF RX6 9 6 0 RX6 TX6 4 tyX6 := ⟨fq_X6_9, tyX6_ok, nmX6, rfl, rfl⟩
theorem fq_X6_15 : FldOk RX6 15 6 1 RX6 TX6 4 := ⟨rfl, inGX6, by decide, (gt_in (List.mem_of_getElem? (i := 263) (by decide +kernel)) rfl)⟩
theorem fp_X6_15 : PutF RX6 15 6 1 RX6 TX6 4 tyX6 := ⟨fq_X6_15, tyX6_ok, nmX6, rfl, rfl⟩
theorem fq_X6_19 : FldOk RX6 19 6 2 RX6 TX6 4 := ⟨rfl, inGX6, by decide, (gt_in (List.mem_of_getElem? (i := 264) (by decide +kernel)) rfl)⟩
theorem fp_X6_19 : PutF RX6 19 6 2 RX6 TX6 4 tyX6 := ⟨fq_X6_19, tyX6_ok, nmX6, rfl, rfl⟩
theorem fq_X6_23 : FldOk RX6 23 6 3 RX6 TX6 4 := ⟨rfl, inGX6, by decide, (gt_in (List.mem_of_getElem? (i := 265) (by decide +kernel)) rfl)⟩
theorem fp_X6_23 : PutF RX6 23 6 3 RX6 TX6 4 tyX6 := ⟨fq_X6_23, tyX6_ok, nmX6, rfl, rfl⟩
theorem oi_X9 : Cond.methodLink RX9 3 objectInit ∈ gtbl := (gt_in (List.mem_of_getElem? (i := 280) (by decide +kernel)) rfl)
theorem fq_X9_9 : FldOk RX9 9 9 0 RX9 TX9 7 := ⟨rfl, inGX9, by decide, (gt_in (List.mem_of_getElem? (i := 281) (by decide +kernel)) rfl)⟩
theorem fp_X9_9 : PutF RX9 9 9 0 RX9 TX9 7 tyX9 := ⟨fq_X9_9, tyX9_ok, nmX9, rfl, rfl⟩
theorem fq_X9_15 : FldOk RX9 15 9 1 RX9 TX9 7 := ⟨rfl, inGX9, by decide, (gt_in (List.mem_of_getElem? (i := 282) (by decide +kernel)) rfl)⟩
theorem fp_X9_15 : PutF RX9 15 9 1 RX9 TX9 7 tyX9 := ⟨fq_X9_15, tyX9_ok, nmX9, rfl, rfl⟩
theorem fq_X9_19 : FldOk RX9 19 9 2 RX9 TX9 7 := ⟨rfl, inGX9, by decide, (gt_in (List.mem_of_getElem? (i := 283) (by decide +kernel)) rfl)⟩
theorem fp_X9_19 : PutF RX9 19 9 2 RX9 TX9 7 tyX9 := ⟨fq_X9_19, tyX9_ok, nmX9, rfl, rfl⟩
theorem fq_X9_23 : FldOk RX9 23 9 3 RX9 TX9 7 := ⟨rfl, inGX9, by decide, (gt_in (List.mem_of_getElem? (i := 284) (by decide +kernel)) rfl)⟩
theorem fp_X9_23 : PutF RX9 23 9 3 RX9 TX9 7 tyX9 := ⟨fq_X9_23, tyX9_ok, nmX9, rfl, rfl⟩
theorem fq_X9_26 : FldOk RX9 26 9 4 RX9 TX9 7 := ⟨rfl, inGX9, by decide, (gt_in (List.mem_of_getElem? (i := 285) (by decide +kernel)) rfl)⟩
theorem fp_X9_26 : PutF RX9 26 9 4 RX9 TX9 7 tyX9 := ⟨fq_X9_26, tyX9_ok, nmX9, rfl, rfl⟩
theorem oi_X10 : Cond.methodLink RX10 3 objectInit ∈ gtbl := (gt_in (List.mem_of_getElem? (i := 311) (by decide +kernel)) rfl)
theorem fq_X10_9 : FldOk RX10 9 10 0 RX10 TX10 6 := ⟨rfl, inGX10, by decide, (gt_in (List.mem_of_getElem? (i := 312) (by decide +kernel)) rfl)⟩
theorem fp_X10_9 : PutF RX10 9 10 0 RX10 TX10 6 tyX10 := ⟨fq_X10_9, tyX10_ok, nmX10, rfl, rfl⟩
theorem fq_X10_15 : FldOk RX10 15 10 1 RX10 TX10 6 := ⟨rfl, inGX10, by decide, (gt_in (List.mem_of_getElem? (i := 313) (by decide +kernel)) rfl)⟩
theorem fp_X10_15 : PutF RX10 15 10 1 RX10 TX10 6 tyX10 := ⟨fq_X10_15, tyX10_ok, nmX10, rfl, rfl⟩
theorem fq_X10_19 : FldOk RX10 19 10 2 RX10 TX10 6 := ⟨rfl, inGX10, by decide, (gt_in (List.mem_of_getElem? (i := 314) (by decide +kernel)) rfl)⟩
theorem fp_X10_19 : PutF RX10 19 10 2 RX10 TX10 6 tyX10 := ⟨fq_X10_19, tyX10_ok, nmX10, rfl, rfl⟩
theorem fq_X10_22 : FldOk RX10 22 10 3 RX10 TX10 6 := ⟨rfl, inGX10, by decide, (gt_in (List.mem_of_getElem? (i := 315) (by decide +kernel)) rfl)⟩
theorem fp_X10_22 : PutF RX10 22 10 3 RX10 TX10 6 tyX10 := ⟨fq_X10_22, tyX10_ok, nmX10, rfl, rfl⟩
theorem fq_X10_25 : FldOk RX10 25 10 5 RX10 TX10 6 := ⟨rfl, inGX10, by decide, (gt_in (List.mem_of_getElem? (i := 319) (by decide +kernel)) rfl)⟩
theorem fp_X10_25 : PutOk RX10 25 10 5 RX10 TX10 6 tyX10 := ⟨fq_X10_25, tyX10_ok, nmX10, rfl⟩
theorem oi_X3 : Cond.methodLink RX3 3 objectInit ∈ gtbl := (gt_in (List.mem_of_getElem? (i := 339) (by decide +kernel)) rfl)
theorem fq_X3_9 : FldOk RX3 9 3 0 RX3 TX3 9 := ⟨rfl, inGX3, by decide, (gt_in (List.mem_of_getElem? (i := 340) (by decide +kernel)) rfl)⟩
theorem fp_X3_9 : PutF RX3 9 3 0 RX3 TX3 9 tyX3 := ⟨fq_X3_9, tyX3_ok, nmX3, rfl, rfl⟩
theorem fq_X3_15 : FldOk RX3 15 3 1 RX3 TX3 9 := ⟨rfl, inGX3, by decide, (gt_in (List.mem_of_getElem? (i := 341) (by decide +kernel)) rfl)⟩
theorem fp_X3_15 : PutF RX3 15 3 1 RX3 TX3 9 tyX3 := ⟨fq_X3_15, tyX3_ok, nmX3, rfl, rfl⟩
theorem fq_X3_19 : FldOk RX3 19 3 2 RX3 TX3 9 := ⟨rfl, inGX3, by decide, (gt_in (List.mem_of_getElem? (i := 342) (by decide +kernel)) rfl)⟩
theorem fp_X3_19 : PutF RX3 19 3 2 RX3 TX3 9 tyX3 := ⟨fq_X3_19, tyX3_ok, nmX3, rfl, rfl⟩
theorem fq_X3_23 : FldOk RX3 23 3 3 RX3 TX3 9 := ⟨rfl, inGX3, by decide, (gt_in (List.mem_of_getElem? (i := 343) (by decide +kernel)) rfl)⟩
theorem fp_X3_23 : PutF RX3 23 3 3 RX3 TX3 9 tyX3 := ⟨fq_X3_23, tyX3_ok, nmX3, rfl, rfl⟩
theorem fq_X3_27 : FldOk RX3 27 3 7 RX3 TX3 9 := ⟨rfl, inGX3, by decide, (gt_in (List.mem_of_getElem? (i := 347) (by decide +kernel)) rfl)⟩
theorem fp_X3_27 : PutF RX3 27 3 7 RX3 TX3 9 tyX3 := ⟨fq_X3_27, tyX3_ok, nmX3, rfl, rfl⟩
theorem fq_X3_30 : FldOk RX3 30 3 8 RX3 TX3 9 := ⟨rfl, inGX3, by decide, (gt_in (List.mem_of_getElem? (i := 348) (by decide +kernel)) rfl)⟩
theorem fp_X3_30 : PutF RX3 30 3 8 RX3 TX3 9 tyX3 := ⟨fq_X3_30, tyX3_ok, nmX3, rfl, rfl⟩
theorem oi_X4 : Cond.methodLink RX4 3 objectInit ∈ gtbl := (gt_in (List.mem_of_getElem? (i := 373) (by decide +kernel)) rfl)
theorem fq_X4_9 : FldOk RX4 9 4 0 RX4 TX4 8 := ⟨rfl, inGX4, by decide, (gt_in (List.mem_of_getElem? (i := 374) (by decide +kernel)) rfl)⟩
theorem fp_X4_9 : PutF RX4 9 4 0 RX4 TX4 8 tyX4 := ⟨fq_X4_9, tyX4_ok, nmX4, rfl, rfl⟩
theorem fq_X4_15 : FldOk RX4 15 4 1 RX4 TX4 8 := ⟨rfl, inGX4, by decide, (gt_in (List.mem_of_getElem? (i := 375) (by decide +kernel)) rfl)⟩
theorem fp_X4_15 : PutF RX4 15 4 1 RX4 TX4 8 tyX4 := ⟨fq_X4_15, tyX4_ok, nmX4, rfl, rfl⟩
theorem fq_X4_19 : FldOk RX4 19 4 2 RX4 TX4 8 := ⟨rfl, inGX4, by decide, (gt_in (List.mem_of_getElem? (i := 376) (by decide +kernel)) rfl)⟩
theorem fp_X4_19 : PutF RX4 19 4 2 RX4 TX4 8 tyX4 := ⟨fq_X4_19, tyX4_ok, nmX4, rfl, rfl⟩
theorem fq_X4_23 : FldOk RX4 23 4 3 RX4 TX4 8 := ⟨rfl, inGX4, by decide, (gt_in (List.mem_of_getElem? (i := 377) (by decide +kernel)) rfl)⟩
theorem fp_X4_23 : PutF RX4 23 4 3 RX4 TX4 8 tyX4 := ⟨fq_X4_23, tyX4_ok, nmX4, rfl, rfl⟩
theorem fq_X4_27 : FldOk RX4 27 4 4 RX4 TX4 8 := ⟨rfl, inGX4, by decide, (gt_in (List.mem_of_getElem? (i := 378) (by decide +kernel)) rfl)⟩
theorem fp_X4_27 : PutF RX4 27 4 4 RX4 TX4 8 tyX4 := ⟨fq_X4_27, tyX4_ok, nmX4, rfl, rfl⟩
theorem fq_X4_30 : FldOk RX4 30 4 5 RX4 TX4 8 := ⟨rfl, inGX4, by decide, (gt_in (List.mem_of_getElem? (i := 379) (by decide +kernel)) rfl)⟩
theorem fp_X4_30 : PutF RX4 30 4 5 RX4 TX4 8 tyX4 := ⟨fq_X4_30, tyX4_ok, nmX4, rfl, rfl⟩
theorem fq_X4_34 : FldOk RX4 34 4 6 RX4 TX4 8 := ⟨rfl, inGX4, by decide, (gt_in (List.mem_of_getElem? (i := 380) (by decide +kernel)) rfl)⟩
theorem fp_X4_34 : PutF RX4 34 4 6 RX4 TX4 8 tyX4 := ⟨fq_X4_34, tyX4_ok, nmX4, rfl, rfl⟩
theorem oi_X11 : Cond.methodLink RX11 1 objectInit ∈ gtbl := (gt_in (List.mem_of_getElem? (i := 82) (by decide +kernel)) rfl)
theorem nk_X11_7 : NewOk RX11 7 5 RX5 TX5 2 tyX5 := ⟨rfl, inGX5, tyX5_ok, (gt_in (List.mem_of_getElem? (i := 85) (by decide +kernel)) rfl), (gt_in (List.mem_of_getElem? (i := 86) (by decide +kernel)) rfl), (gt_in (List.mem_of_getElem? (i := 61) (by decide +kernel)) rfl)⟩
theorem ki_X11_9 : CalI m_X11_init m_X5_init 9 0 := ⟨al4 (gt_in (List.mem_of_getElem? (i := 87) (by decide +kernel)) rfl) (gt_in (List.mem_of_getElem? (i := 88) (by decide +kernel)) rfl) (gt_in (List.mem_of_getElem? (i := 61) (by decide +kernel)) rfl) (gt_in (List.mem_of_getElem? (i := 89) (by decide +kernel)) rfl), ⟨by decide, by decide, by decide +kernel⟩, rfl, rfl⟩
theorem fq_X11_10 : FldOk RX11 10 11 0 RX11 TX11 10 := ⟨rfl, inGX11, by decide, (gt_in (List.mem_of_getElem? (i := 444) (by decide +kernel)) rfl)⟩
theorem fp_X11_10 : PutF RX11 10 11 0 RX11 TX11 10 tyX11 := ⟨fq_X11_10, tyX11_ok, nmX11, rfl, rfl⟩
theorem nk_X11_16 : NewOk RX11 16 7 RX7 TX7 3 tyX7 := ⟨rfl, inGX7, tyX7_ok, (gt_in (List.mem_of_getElem? (i := 101) (by decide +kernel)) rfl), (gt_in (List.mem_of_getElem? (i := 102) (by decide +kernel)) rfl), (gt_in (List.mem_of_getElem? (i := 62) (by decide +kernel)) rfl)⟩
theorem ki_X11_18 : CalI m_X11_init m_X7_init 18 0 := ⟨al4 (gt_in (List.mem_of_getElem? (i := 103) (by decide +kernel)) rfl) (gt_in (List.mem_of_getElem? (i := 104) (by decide +kernel)) rfl) (gt_in (List.mem_of_getElem? (i := 62) (by decide +kernel)) rfl) (gt_in (List.mem_of_getElem? (i := 105) (by decide +kernel)) rfl), ⟨by decide, by decide, by decide +kernel⟩, rfl, rfl⟩
theorem fq_X11_19 : FldOk RX11 19 11 1 RX11 TX11 10 := ⟨rfl, inGX11, by decide, (gt_in (List.mem_of_getElem? (i := 445) (by decide +kernel)) rfl)⟩
theorem fp_X11_19 : PutF RX11 19 11 1 RX11 TX11 10 tyX11 := ⟨fq_X11_19, tyX11_ok, nmX11, rfl, rfl⟩
theorem nk_X11_23 : NewOk RX11 23 8 RX8 TX8 8 tyX8 := ⟨rfl, inGX8, tyX8_ok, (gt_in (List.mem_of_getElem? (i := 217) (by decide +kernel)) rfl), (gt_in (List.mem_of_getElem? (i := 218) (by decide +kernel)) rfl), (gt_in (List.mem_of_getElem? (i := 67) (by decide +kernel)) rfl)⟩
theorem fq_X11_25 : FldOk RX11 25 7 0 RX7 TX7 3 := ⟨rfl, inGX7, by decide, (gt_in (List.mem_of_getElem? (i := 205) (by decide +kernel)) rfl)⟩
theorem ki_X11_29 : CalI m_X11_init m_X8_init 29 1 := ⟨al4 (gt_in (List.mem_of_getElem? (i := 219) (by decide +kernel)) rfl) (gt_in (List.mem_of_getElem? (i := 220) (by decide +kernel)) rfl) (gt_in (List.mem_of_getElem? (i := 67) (by decide +kernel)) rfl) (gt_in (List.mem_of_getElem? (i := 221) (by decide +kernel)) rfl), ⟨by decide, by decide, by decide +kernel⟩, rfl, rfl⟩
theorem fq_X11_32 : FldOk RX11 32 11 2 RX11 TX11 10 := ⟨rfl, inGX11, by decide, (gt_in (List.mem_of_getElem? (i := 446) (by decide +kernel)) rfl)⟩
theorem fp_X11_32 : PutF RX11 32 11 2 RX11 TX11 10 tyX11 := ⟨fq_X11_32, tyX11_ok, nmX11, rfl, rfl⟩
theorem nk_X11_36 : NewOk RX11 36 6 RX6 TX6 4 tyX6 := ⟨rfl, inGX6, tyX6_ok, (gt_in (List.mem_of_getElem? (i := 256) (by decide +kernel)) rfl), (gt_in (List.mem_of_getElem? (i := 257) (by decide +kernel)) rfl), (gt_in (List.mem_of_getElem? (i := 68) (by decide +kernel)) rfl)⟩
theorem fq_X11_38 : FldOk RX11 38 7 1 RX7 TX7 3 := ⟨rfl, inGX7, by decide, (gt_in (List.mem_of_getElem? (i := 207) (by decide +kernel)) rfl)⟩
theorem ki_X11_42 : CalI m_X11_init m_X6_init 42 3 := ⟨al4 (gt_in (List.mem_of_getElem? (i := 258) (by decide +kernel)) rfl) (gt_in (List.mem_of_getElem? (i := 259) (by decide +kernel)) rfl) (gt_in (List.mem_of_getElem? (i := 68) (by decide +kernel)) rfl) (gt_in (List.mem_of_getElem? (i := 260) (by decide +kernel)) rfl), ⟨by decide, by decide, by decide +kernel⟩, rfl, rfl⟩
theorem fq_X11_45 : FldOk RX11 45 11 3 RX11 TX11 10 := ⟨rfl, inGX11, by decide, (gt_in (List.mem_of_getElem? (i := 447) (by decide +kernel)) rfl)⟩
theorem fp_X11_45 : PutF RX11 45 11 3 RX11 TX11 10 tyX11 := ⟨fq_X11_45, tyX11_ok, nmX11, rfl, rfl⟩
theorem nk_X11_49 : NewOk RX11 49 9 RX9 TX9 7 tyX9 := ⟨rfl, inGX9, tyX9_ok, (gt_in (List.mem_of_getElem? (i := 275) (by decide +kernel)) rfl), (gt_in (List.mem_of_getElem? (i := 276) (by decide +kernel)) rfl), (gt_in (List.mem_of_getElem? (i := 69) (by decide +kernel)) rfl)⟩
theorem ki_X11_51 : CalI m_X11_init m_X9_init 51 2 := ⟨al4 (gt_in (List.mem_of_getElem? (i := 277) (by decide +kernel)) rfl) (gt_in (List.mem_of_getElem? (i := 278) (by decide +kernel)) rfl) (gt_in (List.mem_of_getElem? (i := 69) (by decide +kernel)) rfl) (gt_in (List.mem_of_getElem? (i := 279) (by decide +kernel)) rfl), ⟨by decide, by decide, by decide +kernel⟩, rfl, rfl⟩
theorem fq_X11_54 : FldOk RX11 54 11 4 RX11 TX11 10 := ⟨rfl, inGX11, by decide, (gt_in (List.mem_of_getElem? (i := 448) (by decide +kernel)) rfl)⟩
theorem fp_X11_54 : PutF RX11 54 11 4 RX11 TX11 10 tyX11 := ⟨fq_X11_54, tyX11_ok, nmX11, rfl, rfl⟩
theorem nk_X11_58 : NewOk RX11 58 10 RX10 TX10 6 tyX10 := ⟨rfl, inGX10, tyX10_ok, (gt_in (List.mem_of_getElem? (i := 306) (by decide +kernel)) rfl), (gt_in (List.mem_of_getElem? (i := 307) (by decide +kernel)) rfl), (gt_in (List.mem_of_getElem? (i := 70) (by decide +kernel)) rfl)⟩
theorem ki_X11_60 : CalI m_X11_init m_X10_init 60 1 := ⟨al4 (gt_in (List.mem_of_getElem? (i := 308) (by decide +kernel)) rfl) (gt_in (List.mem_of_getElem? (i := 309) (by decide +kernel)) rfl) (gt_in (List.mem_of_getElem? (i := 70) (by decide +kernel)) rfl) (gt_in (List.mem_of_getElem? (i := 310) (by decide +kernel)) rfl), ⟨by decide, by decide, by decide +kernel⟩, rfl, rfl⟩
theorem fq_X11_61 : FldOk RX11 61 11 5 RX11 TX11 10 := ⟨rfl, inGX11, by decide, (gt_in (List.mem_of_getElem? (i := 449) (by decide +kernel)) rfl)⟩
theorem fp_X11_61 : PutF RX11 61 11 5 RX11 TX11 10 tyX11 := ⟨fq_X11_61, tyX11_ok, nmX11, rfl, rfl⟩
theorem nk_X11_65 : NewOk RX11 65 3 RX3 TX3 9 tyX3 := ⟨rfl, inGX3, tyX3_ok, (gt_in (List.mem_of_getElem? (i := 334) (by decide +kernel)) rfl), (gt_in (List.mem_of_getElem? (i := 335) (by decide +kernel)) rfl), (gt_in (List.mem_of_getElem? (i := 71) (by decide +kernel)) rfl)⟩
theorem fq_X11_67 : FldOk RX11 67 7 2 RX7 TX7 3 := ⟨rfl, inGX7, by decide, (gt_in (List.mem_of_getElem? (i := 209) (by decide +kernel)) rfl)⟩
theorem ki_X11_71 : CalI m_X11_init m_X3_init 71 3 := ⟨al4 (gt_in (List.mem_of_getElem? (i := 336) (by decide +kernel)) rfl) (gt_in (List.mem_of_getElem? (i := 337) (by decide +kernel)) rfl) (gt_in (List.mem_of_getElem? (i := 71) (by decide +kernel)) rfl) (gt_in (List.mem_of_getElem? (i := 338) (by decide +kernel)) rfl), ⟨by decide, by decide, by decide +kernel⟩, rfl, rfl⟩
theorem fq_X11_74 : FldOk RX11 74 11 6 RX11 TX11 10 := ⟨rfl, inGX11, by decide, (gt_in (List.mem_of_getElem? (i := 450) (by decide +kernel)) rfl)⟩
theorem fp_X11_74 : PutF RX11 74 11 6 RX11 TX11 10 tyX11 := ⟨fq_X11_74, tyX11_ok, nmX11, rfl, rfl⟩
theorem nk_X11_78 : NewOk RX11 78 4 RX4 TX4 8 tyX4 := ⟨rfl, inGX4, tyX4_ok, (gt_in (List.mem_of_getElem? (i := 368) (by decide +kernel)) rfl), (gt_in (List.mem_of_getElem? (i := 369) (by decide +kernel)) rfl), (gt_in (List.mem_of_getElem? (i := 72) (by decide +kernel)) rfl)⟩
theorem ki_X11_80 : CalI m_X11_init m_X4_init 80 3 := ⟨al4 (gt_in (List.mem_of_getElem? (i := 370) (by decide +kernel)) rfl) (gt_in (List.mem_of_getElem? (i := 371) (by decide +kernel)) rfl) (gt_in (List.mem_of_getElem? (i := 72) (by decide +kernel)) rfl) (gt_in (List.mem_of_getElem? (i := 372) (by decide +kernel)) rfl), ⟨by decide, by decide, by decide +kernel⟩, rfl, rfl⟩
theorem fq_X11_83 : FldOk RX11 83 11 7 RX11 TX11 10 := ⟨rfl, inGX11, by decide, (gt_in (List.mem_of_getElem? (i := 451) (by decide +kernel)) rfl)⟩
theorem fp_X11_83 : PutF RX11 83 11 7 RX11 TX11 10 tyX11 := ⟨fq_X11_83, tyX11_ok, nmX11, rfl, rfl⟩
theorem nq_X11_16 : Cond.classLink RX11 16 "WordsFirst$Room" ∈ gtbl := (gt_in (List.mem_of_getElem? (i := 101) (by decide +kernel)) rfl)
theorem fq_X11_87 : FldOk RX11 87 11 8 RX11 TX11 10 := ⟨rfl, inGX11, by decide, (gt_in (List.mem_of_getElem? (i := 452) (by decide +kernel)) rfl)⟩
theorem fp_X11_87 : PutF RX11 87 11 8 RX11 TX11 10 tyX11 := ⟨fq_X11_87, tyX11_ok, nmX11, rfl, rfl⟩
theorem fq_X11_91 : FldOk RX11 91 11 9 RX11 TX11 10 := ⟨rfl, inGX11, by decide, (gt_in (List.mem_of_getElem? (i := 453) (by decide +kernel)) rfl)⟩
theorem fp_X11_91 : PutF RX11 91 11 9 RX11 TX11 10 tyX11 := ⟨fq_X11_91, tyX11_ok, nmX11, rfl, rfl⟩
theorem kv_X11_95 : ∀ w ∈ ([.methodLink RX11 95 m_X8_refresh.1, .instanceMethod m_X8_refresh.1, .selects m_X8_refresh.1.cls m_X8_refresh.1 m_X8_refresh.1, .initialized m_X8_refresh.1.cls, .code m_X8_refresh.1 m_X8_refresh.2.1 m_X8_refresh.2.2.1 m_X8_refresh.2.2.2.1] : List Cond), w ∈ gtbl := al5 (gt_in (List.mem_of_getElem? (i := 402) (by decide +kernel)) rfl) (gt_in (List.mem_of_getElem? (i := 403) (by decide +kernel)) rfl) (gt_in (List.mem_of_getElem? (i := 404) (by decide +kernel)) rfl) (gt_in (List.mem_of_getElem? (i := 67) (by decide +kernel)) rfl) (gt_in (List.mem_of_getElem? (i := 405) (by decide +kernel)) rfl)
theorem oi_X12 : Cond.methodLink RX12 1 objectInit ∈ gtbl := (gt_in (List.mem_of_getElem? (i := 960) (by decide +kernel)) rfl)
theorem fq_X12_7 : FldOk RX12 7 12 0 RX12 TX12 31 := ⟨rfl, inGX12, by decide, (gt_in (List.mem_of_getElem? (i := 962) (by decide +kernel)) rfl)⟩
theorem fp_X12_7 : PutF RX12 7 12 0 RX12 TX12 31 tyX12 := ⟨fq_X12_7, tyX12_ok, nmX12, rfl, rfl⟩
theorem fq_X12_13 : FldOk RX12 13 12 1 RX12 TX12 31 := ⟨rfl, inGX12, by decide, (gt_in (List.mem_of_getElem? (i := 963) (by decide +kernel)) rfl)⟩
theorem fp_X12_13 : PutF RX12 13 12 1 RX12 TX12 31 tyX12 := ⟨fq_X12_13, tyX12_ok, nmX12, rfl, rfl⟩
theorem fq_X12_16 : FldOk RX12 16 12 2 RX12 TX12 31 := ⟨rfl, inGX12, by decide, (gt_in (List.mem_of_getElem? (i := 964) (by decide +kernel)) rfl)⟩
theorem fp_X12_16 : PutF RX12 16 12 2 RX12 TX12 31 tyX12 := ⟨fq_X12_16, tyX12_ok, nmX12, rfl, rfl⟩
theorem fq_X12_19 : FldOk RX12 19 12 3 RX12 TX12 31 := ⟨rfl, inGX12, by decide, (gt_in (List.mem_of_getElem? (i := 965) (by decide +kernel)) rfl)⟩
theorem fp_X12_19 : PutF RX12 19 12 3 RX12 TX12 31 tyX12 := ⟨fq_X12_19, tyX12_ok, nmX12, rfl, rfl⟩
theorem fq_X12_22 : FldOk RX12 22 12 5 RX12 TX12 31 := ⟨rfl, inGX12, by decide, (gt_in (List.mem_of_getElem? (i := 967) (by decide +kernel)) rfl)⟩
theorem fp_X12_22 : PutF RX12 22 12 5 RX12 TX12 31 tyX12 := ⟨fq_X12_22, tyX12_ok, nmX12, rfl, rfl⟩
theorem fq_X12_25 : FldOk RX12 25 12 8 RX12 TX12 31 := ⟨rfl, inGX12, by decide, (gt_in (List.mem_of_getElem? (i := 970) (by decide +kernel)) rfl)⟩
theorem fp_X12_25 : PutF RX12 25 12 8 RX12 TX12 31 tyX12 := ⟨fq_X12_25, tyX12_ok, nmX12, rfl, rfl⟩
theorem fq_X12_28 : FldOk RX12 28 12 9 RX12 TX12 31 := ⟨rfl, inGX12, by decide, (gt_in (List.mem_of_getElem? (i := 971) (by decide +kernel)) rfl)⟩
theorem fp_X12_28 : PutF RX12 28 12 9 RX12 TX12 31 tyX12 := ⟨fq_X12_28, tyX12_ok, nmX12, rfl, rfl⟩
theorem fq_X12_31 : FldOk RX12 31 12 10 RX12 TX12 31 := ⟨rfl, inGX12, by decide, (gt_in (List.mem_of_getElem? (i := 972) (by decide +kernel)) rfl)⟩
theorem fp_X12_31 : PutF RX12 31 12 10 RX12 TX12 31 tyX12 := ⟨fq_X12_31, tyX12_ok, nmX12, rfl, rfl⟩
theorem fq_X12_34 : FldOk RX12 34 12 11 RX12 TX12 31 := ⟨rfl, inGX12, by decide, (gt_in (List.mem_of_getElem? (i := 973) (by decide +kernel)) rfl)⟩
theorem fp_X12_34 : PutF RX12 34 12 11 RX12 TX12 31 tyX12 := ⟨fq_X12_34, tyX12_ok, nmX12, rfl, rfl⟩
theorem fq_X12_37 : FldOk RX12 37 12 12 RX12 TX12 31 := ⟨rfl, inGX12, by decide, (gt_in (List.mem_of_getElem? (i := 974) (by decide +kernel)) rfl)⟩
theorem fp_X12_37 : PutF RX12 37 12 12 RX12 TX12 31 tyX12 := ⟨fq_X12_37, tyX12_ok, nmX12, rfl, rfl⟩
theorem fq_X12_40 : FldOk RX12 40 12 13 RX12 TX12 31 := ⟨rfl, inGX12, by decide, (gt_in (List.mem_of_getElem? (i := 975) (by decide +kernel)) rfl)⟩
theorem fp_X12_40 : PutF RX12 40 12 13 RX12 TX12 31 tyX12 := ⟨fq_X12_40, tyX12_ok, nmX12, rfl, rfl⟩
theorem fq_X12_43 : FldOk RX12 43 12 16 RX12 TX12 31 := ⟨rfl, inGX12, by decide, (gt_in (List.mem_of_getElem? (i := 978) (by decide +kernel)) rfl)⟩
theorem fp_X12_43 : PutF RX12 43 12 16 RX12 TX12 31 tyX12 := ⟨fq_X12_43, tyX12_ok, nmX12, rfl, rfl⟩
theorem fq_X12_46 : FldOk RX12 46 12 17 RX12 TX12 31 := ⟨rfl, inGX12, by decide, (gt_in (List.mem_of_getElem? (i := 979) (by decide +kernel)) rfl)⟩
theorem fp_X12_46 : PutF RX12 46 12 17 RX12 TX12 31 tyX12 := ⟨fq_X12_46, tyX12_ok, nmX12, rfl, rfl⟩
theorem lc_X12_49 : Cond.constant RX12 49 (nI 49152) ∈ gtbl := (gt_in (List.mem_of_getElem? (i := 961) (by decide +kernel)) rfl)
theorem fq_X12_50 : FldOk RX12 50 12 18 RX12 TX12 31 := ⟨rfl, inGX12, by decide, (gt_in (List.mem_of_getElem? (i := 980) (by decide +kernel)) rfl)⟩
theorem fp_X12_50 : PutF RX12 50 12 18 RX12 TX12 31 tyX12 := ⟨fq_X12_50, tyX12_ok, nmX12, rfl, rfl⟩
theorem fq_X12_53 : FldOk RX12 53 12 19 RX12 TX12 31 := ⟨rfl, inGX12, by decide, (gt_in (List.mem_of_getElem? (i := 981) (by decide +kernel)) rfl)⟩
theorem fp_X12_53 : PutF RX12 53 12 19 RX12 TX12 31 tyX12 := ⟨fq_X12_53, tyX12_ok, nmX12, rfl, rfl⟩
theorem fq_X12_57 : FldOk RX12 57 12 20 RX12 TX12 31 := ⟨rfl, inGX12, by decide, (gt_in (List.mem_of_getElem? (i := 982) (by decide +kernel)) rfl)⟩
theorem fp_X12_57 : PutF RX12 57 12 20 RX12 TX12 31 tyX12 := ⟨fq_X12_57, tyX12_ok, nmX12, rfl, rfl⟩
theorem fq_X12_60 : FldOk RX12 60 12 21 RX12 TX12 31 := ⟨rfl, inGX12, by decide, (gt_in (List.mem_of_getElem? (i := 983) (by decide +kernel)) rfl)⟩
theorem fp_X12_60 : PutF RX12 60 12 21 RX12 TX12 31 tyX12 := ⟨fq_X12_60, tyX12_ok, nmX12, rfl, rfl⟩
theorem fq_X12_63 : FldOk RX12 63 12 23 RX12 TX12 31 := ⟨rfl, inGX12, by decide, (gt_in (List.mem_of_getElem? (i := 985) (by decide +kernel)) rfl)⟩
theorem fp_X12_63 : PutF RX12 63 12 23 RX12 TX12 31 tyX12 := ⟨fq_X12_63, tyX12_ok, nmX12, rfl, rfl⟩
theorem fq_X12_66 : FldOk RX12 66 12 24 RX12 TX12 31 := ⟨rfl, inGX12, by decide, (gt_in (List.mem_of_getElem? (i := 986) (by decide +kernel)) rfl)⟩
theorem fp_X12_66 : PutF RX12 66 12 24 RX12 TX12 31 tyX12 := ⟨fq_X12_66, tyX12_ok, nmX12, rfl, rfl⟩
theorem fq_X12_69 : FldOk RX12 69 12 25 RX12 TX12 31 := ⟨rfl, inGX12, by decide, (gt_in (List.mem_of_getElem? (i := 987) (by decide +kernel)) rfl)⟩
theorem fp_X12_69 : PutF RX12 69 12 25 RX12 TX12 31 tyX12 := ⟨fq_X12_69, tyX12_ok, nmX12, rfl, rfl⟩
theorem fq_X12_72 : FldOk RX12 72 12 27 RX12 TX12 31 := ⟨rfl, inGX12, by decide, (gt_in (List.mem_of_getElem? (i := 989) (by decide +kernel)) rfl)⟩
theorem fp_X12_72 : PutF RX12 72 12 27 RX12 TX12 31 tyX12 := ⟨fq_X12_72, tyX12_ok, nmX12, rfl, rfl⟩
theorem fq_X12_75 : FldOk RX12 75 12 28 RX12 TX12 31 := ⟨rfl, inGX12, by decide, (gt_in (List.mem_of_getElem? (i := 990) (by decide +kernel)) rfl)⟩
theorem fp_X12_75 : PutF RX12 75 12 28 RX12 TX12 31 tyX12 := ⟨fq_X12_75, tyX12_ok, nmX12, rfl, rfl⟩
theorem fg_0 {l : Launch} {x : Cx} {g : Geo} {sh : List Shp} {K : Mem → Prop} (ok : Ok x g sh m_J7_fill_53178) (ka na : Nat) (hka : sh[ka]? = some (.inl (0, na))) (v1 : Int32) (S : Mem) (h : PW l x g sh m_J7_fill_53178 (Qv x g sh K) 5 [(0, .ref (g.ad ka)), (1, .int v1), (2, .int (nI 0)), (3, .int (nI na))] [] S) : PW l x g sh m_J7_fill_53178 (Qv x g sh K) 0 [(0, .ref (g.ad ka)), (1, .int v1)] [] S := by
  refine r_iconst ok (nI 0) dJ7_fill_53178_0 (by decide) ?_
  refine r_istore_n ok [(2, .int (nI 0)), (0, .ref (g.ad ka)), (1, .int v1)] dJ7_fill_53178_1 (by decide) rfl ?_
  refine r_aload_n ok 1 dJ7_fill_53178_2 rfl ?_
  refine r_alen ok (v := 0) ka hka (by decide) dJ7_fill_53178_3 ?_
  refine r_istore_n ok [(3, .int (nI na)), (2, .int (nI 0)), (0, .ref (g.ad ka)), (1, .int v1)] dJ7_fill_53178_4 (by decide) rfl ?_
  exact r_sub [2, 3, 1, 0] _ rfl h
set_option maxRecDepth 10000 in
theorem fg_5 {l : Launch} {x : Cx} {g : Geo} {sh : List Shp} {K : Mem → Prop} (ok : Ok x g sh m_J7_fill_53178) (ka na : Nat) (hka : sh[ka]? = some (.inl (0, na))) (v1 : Int32) (v2 : Int32) (v3 : Int32) (S : Mem) (h : ((v3 ≤ v2 → K S) ∧ (¬ v3 ≤ v2 → (vp_in v2 na ∧ PW l x g sh m_J7_fill_53178 (Qv x g sh K) 5 [(0, .ref (g.ad ka)), (1, .int v1), (2, .int (v2 + (nI 1))), (3, .int v3)] [] (st2 S ka (cl v2) v1))))) : PW l x g sh m_J7_fill_53178 (Qv x g sh K) 5 [(0, .ref (g.ad ka)), (1, .int v1), (2, .int v2), (3, .int v3)] [] S := by
  refine r_iload_n ok 2 dJ7_fill_53178_5 rfl ?_
  refine r_iload_n ok 3 dJ7_fill_53178_6 rfl ?_
  refine r_icmp_ge ok 20 dJ7_fill_53178_7 (by decide) ⟨fun c => ?_, fun c => ?_⟩
  · have h := h.1 c
    exact r_ret ok rfl dJ7_fill_53178_20 h
  · have h := h.2 c
    refine r_aload_n ok 0 dJ7_fill_53178_10 rfl ?_
    refine r_iload_n ok 2 dJ7_fill_53178_11 rfl ?_
    refine r_iload_n ok 1 dJ7_fill_53178_12 rfl ?_
    refine r_iastore ok ka hka dJ7_fill_53178_13 h.1 ?_
    have h := h.2
    refine r_iinc ok 2 (v2 + (nI 1)) [(2, .int (v2 + (nI 1))), (0, .ref (g.ad ka)), (1, .int v1), (3, .int v3)] dJ7_fill_53178_14 rfl rfl (by decide) rfl ?_
    refine r_goto ok 5 dJ7_fill_53178_17 (by decide) ?_
    exact r_sub [1, 2, 0, 3] _ rfl h
theorem c_fillG {l : Launch} {g : Geo} {sh : List Shp} {S : Mem} {k n : Nat} {v : Int32} {K : Mem → Prop} (hs : sh[k]? = some (.inl (0, n))) (hn : n < 2 ^ 31) (hk : ∀ f, (∀ j, j < n → f j = v) → K (stf S k f)) : MWv l g sh m_J7_fill_53178 [.ref (g.ad k), .int v] S K := by
  refine MWv.intro _ rfl (Nat.le_of_ble_eq_true rfl) rfl (fun x ok => fg_0 ok k n hs _ S ?_)
  refine lpU (fun i => ∀ S2 : Mem, (∀ a, a ≠ k → S2 a = S a) → (∀ j, j < i → S2 k j = v) → PW l x g sh m_J7_fill_53178 (Qv x g sh K) 5 [(0, .ref (g.ad k)), (1, .int v), (2, .int (nI i)), (3, .int (nI n))] [] S2) n ?_ (fun i hi ih => ?_) 0 (Nat.zero_le _) S (fun _ _ => rfl) (fun j hj => by omega)
  · intro S2 g1 g2
    refine fg_5 ok k n hs _ _ _ S2 ⟨fun _ => ?_, fun c => absurd (nI_le (Nat.le_refl n) hn) c⟩
    have := hk (S2 k) g2
    have e : stf S k (S2 k) = S2 := by
      funext a
      by_cases ha : a = k
      · subst ha; rw [stf_same]
      · rw [stf_off ha, g1 a ha]
    rw [e] at this; exact this
  · intro S2 g1 g2
    refine fg_5 ok k n hs _ _ _ S2 ⟨fun c => absurd c (nI_ge hi hn), fun _ => ⟨inI hi hn, ?_⟩⟩
    rw [cl, nI_clamp (by omega), nI_add]
    refine ih _ (fun a ha => by rw [st2_off ha]; exact g1 a ha) (fun j hj => ?_)
    rw [st2_get]
    split
    · rfl
    · exact g2 j (by omega)
set_option maxRecDepth 100000 in
set_option maxHeartbeats 4000000 in
theorem ci_X0 {l : Launch} {g : Geo} {K : va_W → Prop} {h0 : Nat} (hk : ∀ q1 q2 : Nat, K [(h0, .inr (0, [.ref q1, .ref q2, .int 0])), (q1, .inl (g.2.2 0, 20, .inl (fun _ => 0))), (q2, .inl (g.2.2 1, 20, .inl (fun _ => 0)))]) : MCt l g m_X0_init 2 40 [.ref h0] [(h0, .inr (0, [.null, .null, .int 0]))] K := by
  refine MCt.intro _ rfl rfl (Nat.le_of_ble_eq_true rfl) rfl (fun x A ok => ?_)
  refine cr_aload ok 0 dX0_init_0 rfl ?_
  refine cr_obj ok dX0_init_1 oi_X0 ob_i ob_c (Nat.le_of_ble_eq_true rfl) (Nat.le_of_ble_eq_true rfl) ?_
  refine cr_aload ok 0 dX0_init_4 rfl ?_
  refine cr_bipush ok (nI 20) dX0_init_5 (by decide) ?_
  refine cr_newa ok 0 20 dX0_init_7 rfl rfl ar_i (fun _ => rfl) (by decide) (Nat.le_of_ble_eq_true rfl) (Nat.le_of_ble_eq_true rfl) (Nat.le_of_ble_eq_true rfl) (fun q1 => ?_)
  refine cr_eq (ws2 := [(h0, .inr (0, [.null, .null, .int 0])), (q1, .inl (g.2.2 0, 20, .inl (fun _ => 0)))]) (k2 := 1) (m2 := 20) rfl rfl rfl ?_
  refine cr_putF ok 0 dX0_init_9 fp_X0_9 rfl rfl (Nat.le_of_ble_eq_true rfl) ?_
  refine cr_eq (ws2 := [(h0, .inr (0, [.ref q1, .null, .int 0])), (q1, .inl (g.2.2 0, 20, .inl (fun _ => 0)))]) (k2 := 1) (m2 := 20) rfl rfl rfl ?_
  refine cr_aload ok 0 dX0_init_12 rfl ?_
  refine cr_bipush ok (nI 20) dX0_init_13 (by decide) ?_
  refine cr_newa ok 1 20 dX0_init_15 rfl rfl ar_b (fun _ => rfl) (by decide) (Nat.le_of_ble_eq_true rfl) (Nat.le_of_ble_eq_true rfl) (Nat.le_of_ble_eq_true rfl) (fun q2 => ?_)
  refine cr_eq (ws2 := [(h0, .inr (0, [.ref q1, .null, .int 0])), (q1, .inl (g.2.2 0, 20, .inl (fun _ => 0))), (q2, .inl (g.2.2 1, 20, .inl (fun _ => 0)))]) (k2 := 2) (m2 := 40) rfl rfl rfl ?_
  refine cr_putF ok 1 dX0_init_17 fp_X0_15 rfl rfl (Nat.le_of_ble_eq_true rfl) ?_
  refine cr_eq (ws2 := [(h0, .inr (0, [.ref q1, .ref q2, .int 0])), (q1, .inl (g.2.2 0, 20, .inl (fun _ => 0))), (q2, .inl (g.2.2 1, 20, .inl (fun _ => 0)))]) (k2 := 2) (m2 := 40) rfl rfl rfl ?_
  exact cr_ret ok dX0_init_20 rfl (hk q1 q2)
set_option maxRecDepth 100000 in
set_option maxHeartbeats 4000000 in
theorem ci_X1 {l : Launch} {g : Geo} {K : va_W → Prop} {h0 : Nat} (hk : ∀ q1 q2 q3 q4 q5 : Nat, K [(h0, .inr (1, [.ref q1, .ref q2, .ref q3, .ref q4, .ref q5, .int 0])), (q1, .inl (g.2.2 0, 12, .inl (fun _ => 0))), (q2, .inl (g.2.2 0, 12, .inl (fun _ => 0))), (q3, .inl (g.2.2 0, 12, .inl (fun _ => 0))), (q4, .inl (g.2.2 0, 60, .inl (fun _ => 0))), (q5, .inl (g.2.2 0, 60, .inl (fun _ => 0)))]) : MCt l g m_X1_init 5 156 [.ref h0] [(h0, .inr (1, [.null, .null, .null, .null, .null, .int 0]))] K := by
  refine MCt.intro _ rfl rfl (Nat.le_of_ble_eq_true rfl) rfl (fun x A ok => ?_)
  refine cr_aload ok 0 dX1_init_0 rfl ?_
  refine cr_obj ok dX1_init_1 oi_X1 ob_i ob_c (Nat.le_of_ble_eq_true rfl) (Nat.le_of_ble_eq_true rfl) ?_
  refine cr_aload ok 0 dX1_init_4 rfl ?_
  refine cr_bipush ok (nI 12) dX1_init_5 (by decide) ?_
  refine cr_newa ok 0 12 dX1_init_7 rfl rfl ar_i (fun _ => rfl) (by decide) (Nat.le_of_ble_eq_true rfl) (Nat.le_of_ble_eq_true rfl) (Nat.le_of_ble_eq_true rfl) (fun q1 => ?_)
  refine cr_eq (ws2 := [(h0, .inr (1, [.null, .null, .null, .null, .null, .int 0])), (q1, .inl (g.2.2 0, 12, .inl (fun _ => 0)))]) (k2 := 1) (m2 := 12) rfl rfl rfl ?_
  refine cr_putF ok 0 dX1_init_9 fp_X1_9 rfl rfl (Nat.le_of_ble_eq_true rfl) ?_
  refine cr_eq (ws2 := [(h0, .inr (1, [.ref q1, .null, .null, .null, .null, .int 0])), (q1, .inl (g.2.2 0, 12, .inl (fun _ => 0)))]) (k2 := 1) (m2 := 12) rfl rfl rfl ?_
  refine cr_aload ok 0 dX1_init_12 rfl ?_
  refine cr_bipush ok (nI 12) dX1_init_13 (by decide) ?_
  refine cr_newa ok 0 12 dX1_init_15 rfl rfl ar_i (fun _ => rfl) (by decide) (Nat.le_of_ble_eq_true rfl) (Nat.le_of_ble_eq_true rfl) (Nat.le_of_ble_eq_true rfl) (fun q2 => ?_)
  refine cr_eq (ws2 := [(h0, .inr (1, [.ref q1, .null, .null, .null, .null, .int 0])), (q1, .inl (g.2.2 0, 12, .inl (fun _ => 0))), (q2, .inl (g.2.2 0, 12, .inl (fun _ => 0)))]) (k2 := 2) (m2 := 24) rfl rfl rfl ?_
  refine cr_putF ok 1 dX1_init_17 fp_X1_15 rfl rfl (Nat.le_of_ble_eq_true rfl) ?_
  refine cr_eq (ws2 := [(h0, .inr (1, [.ref q1, .ref q2, .null, .null, .null, .int 0])), (q1, .inl (g.2.2 0, 12, .inl (fun _ => 0))), (q2, .inl (g.2.2 0, 12, .inl (fun _ => 0)))]) (k2 := 2) (m2 := 24) rfl rfl rfl ?_
  refine cr_aload ok 0 dX1_init_20 rfl ?_
  refine cr_bipush ok (nI 12) dX1_init_21 (by decide) ?_
  refine cr_newa ok 0 12 dX1_init_23 rfl rfl ar_i (fun _ => rfl) (by decide) (Nat.le_of_ble_eq_true rfl) (Nat.le_of_ble_eq_true rfl) (Nat.le_of_ble_eq_true rfl) (fun q3 => ?_)
  refine cr_eq (ws2 := [(h0, .inr (1, [.ref q1, .ref q2, .null, .null, .null, .int 0])), (q1, .inl (g.2.2 0, 12, .inl (fun _ => 0))), (q2, .inl (g.2.2 0, 12, .inl (fun _ => 0))), (q3, .inl (g.2.2 0, 12, .inl (fun _ => 0)))]) (k2 := 3) (m2 := 36) rfl rfl rfl ?_
  refine cr_putF ok 2 dX1_init_25 fp_X1_18 rfl rfl (Nat.le_of_ble_eq_true rfl) ?_
  refine cr_eq (ws2 := [(h0, .inr (1, [.ref q1, .ref q2, .ref q3, .null, .null, .int 0])), (q1, .inl (g.2.2 0, 12, .inl (fun _ => 0))), (q2, .inl (g.2.2 0, 12, .inl (fun _ => 0))), (q3, .inl (g.2.2 0, 12, .inl (fun _ => 0)))]) (k2 := 3) (m2 := 36) rfl rfl rfl ?_
  refine cr_aload ok 0 dX1_init_28 rfl ?_
  refine cr_bipush ok (nI 60) dX1_init_29 (by decide) ?_
  refine cr_newa ok 0 60 dX1_init_31 rfl rfl ar_i (fun _ => rfl) (by decide) (Nat.le_of_ble_eq_true rfl) (Nat.le_of_ble_eq_true rfl) (Nat.le_of_ble_eq_true rfl) (fun q4 => ?_)
  refine cr_eq (ws2 := [(h0, .inr (1, [.ref q1, .ref q2, .ref q3, .null, .null, .int 0])), (q1, .inl (g.2.2 0, 12, .inl (fun _ => 0))), (q2, .inl (g.2.2 0, 12, .inl (fun _ => 0))), (q3, .inl (g.2.2 0, 12, .inl (fun _ => 0))), (q4, .inl (g.2.2 0, 60, .inl (fun _ => 0)))]) (k2 := 4) (m2 := 96) rfl rfl rfl ?_
  refine cr_putF ok 3 dX1_init_33 fp_X1_21 rfl rfl (Nat.le_of_ble_eq_true rfl) ?_
  refine cr_eq (ws2 := [(h0, .inr (1, [.ref q1, .ref q2, .ref q3, .ref q4, .null, .int 0])), (q1, .inl (g.2.2 0, 12, .inl (fun _ => 0))), (q2, .inl (g.2.2 0, 12, .inl (fun _ => 0))), (q3, .inl (g.2.2 0, 12, .inl (fun _ => 0))), (q4, .inl (g.2.2 0, 60, .inl (fun _ => 0)))]) (k2 := 4) (m2 := 96) rfl rfl rfl ?_
  refine cr_aload ok 0 dX1_init_36 rfl ?_
  refine cr_bipush ok (nI 60) dX1_init_37 (by decide) ?_
  refine cr_newa ok 0 60 dX1_init_39 rfl rfl ar_i (fun _ => rfl) (by decide) (Nat.le_of_ble_eq_true rfl) (Nat.le_of_ble_eq_true rfl) (Nat.le_of_ble_eq_true rfl) (fun q5 => ?_)
  refine cr_eq (ws2 := [(h0, .inr (1, [.ref q1, .ref q2, .ref q3, .ref q4, .null, .int 0])), (q1, .inl (g.2.2 0, 12, .inl (fun _ => 0))), (q2, .inl (g.2.2 0, 12, .inl (fun _ => 0))), (q3, .inl (g.2.2 0, 12, .inl (fun _ => 0))), (q4, .inl (g.2.2 0, 60, .inl (fun _ => 0))), (q5, .inl (g.2.2 0, 60, .inl (fun _ => 0)))]) (k2 := 5) (m2 := 156) rfl rfl rfl ?_
  refine cr_putF ok 4 dX1_init_41 fp_X1_24 rfl rfl (Nat.le_of_ble_eq_true rfl) ?_
  refine cr_eq (ws2 := [(h0, .inr (1, [.ref q1, .ref q2, .ref q3, .ref q4, .ref q5, .int 0])), (q1, .inl (g.2.2 0, 12, .inl (fun _ => 0))), (q2, .inl (g.2.2 0, 12, .inl (fun _ => 0))), (q3, .inl (g.2.2 0, 12, .inl (fun _ => 0))), (q4, .inl (g.2.2 0, 60, .inl (fun _ => 0))), (q5, .inl (g.2.2 0, 60, .inl (fun _ => 0)))]) (k2 := 5) (m2 := 156) rfl rfl rfl ?_
  exact cr_ret ok dX1_init_44 rfl (hk q1 q2 q3 q4 q5)
set_option maxRecDepth 100000 in
set_option maxHeartbeats 4000000 in
theorem ci_X2 {l : Launch} {g : Geo} {K : va_W → Prop} {h0 : Nat} (hk : ∀ q1 q2 q3 q4 : Nat, ∀ f1 f2 : Nat → Int32, (∀ j, j < 4 → f1 j = (-1)) → (∀ j, j < 4 → f2 j = (-1)) → K [(h0, .inr (2, [.ref q1, .ref q2, .ref q3, .ref q4])), (q1, .inl (g.2.2 0, 4, .inl (fun _ => 0))), (q2, .inl (g.2.2 0, 4, .inl (fun _ => 0))), (q3, .inl (g.2.2 0, 4, .inl f1)), (q4, .inl (g.2.2 0, 4, .inl f2))]) : MCt l g m_X2_init 4 16 [.ref h0] [(h0, .inr (2, [.null, .null, .null, .null]))] K := by
  refine MCt.intro _ rfl rfl (Nat.le_of_ble_eq_true rfl) rfl (fun x A ok => ?_)
  refine cr_aload ok 0 dX2_init_0 rfl ?_
  refine cr_obj ok dX2_init_1 oi_X2 ob_i ob_c (Nat.le_of_ble_eq_true rfl) (Nat.le_of_ble_eq_true rfl) ?_
  refine cr_aload ok 0 dX2_init_4 rfl ?_
  refine cr_iconst ok (nI 4) dX2_init_5 (by decide) ?_
  refine cr_newa ok 0 4 dX2_init_6 rfl rfl ar_i (fun _ => rfl) (by decide) (Nat.le_of_ble_eq_true rfl) (Nat.le_of_ble_eq_true rfl) (Nat.le_of_ble_eq_true rfl) (fun q1 => ?_)
  refine cr_eq (ws2 := [(h0, .inr (2, [.null, .null, .null, .null])), (q1, .inl (g.2.2 0, 4, .inl (fun _ => 0)))]) (k2 := 1) (m2 := 4) rfl rfl rfl ?_
  refine cr_putF ok 0 dX2_init_8 fp_X2_9 rfl rfl (Nat.le_of_ble_eq_true rfl) ?_
  refine cr_eq (ws2 := [(h0, .inr (2, [.ref q1, .null, .null, .null])), (q1, .inl (g.2.2 0, 4, .inl (fun _ => 0)))]) (k2 := 1) (m2 := 4) rfl rfl rfl ?_
  refine cr_aload ok 0 dX2_init_11 rfl ?_
  refine cr_iconst ok (nI 4) dX2_init_12 (by decide) ?_
  refine cr_newa ok 0 4 dX2_init_13 rfl rfl ar_i (fun _ => rfl) (by decide) (Nat.le_of_ble_eq_true rfl) (Nat.le_of_ble_eq_true rfl) (Nat.le_of_ble_eq_true rfl) (fun q2 => ?_)
  refine cr_eq (ws2 := [(h0, .inr (2, [.ref q1, .null, .null, .null])), (q1, .inl (g.2.2 0, 4, .inl (fun _ => 0))), (q2, .inl (g.2.2 0, 4, .inl (fun _ => 0)))]) (k2 := 2) (m2 := 8) rfl rfl rfl ?_
  refine cr_putF ok 1 dX2_init_15 fp_X2_15 rfl rfl (Nat.le_of_ble_eq_true rfl) ?_
  refine cr_eq (ws2 := [(h0, .inr (2, [.ref q1, .ref q2, .null, .null])), (q1, .inl (g.2.2 0, 4, .inl (fun _ => 0))), (q2, .inl (g.2.2 0, 4, .inl (fun _ => 0)))]) (k2 := 2) (m2 := 8) rfl rfl rfl ?_
  refine cr_aload ok 0 dX2_init_18 rfl ?_
  refine cr_iconst ok (nI 4) dX2_init_19 (by decide) ?_
  refine cr_newa ok 0 4 dX2_init_20 rfl rfl ar_i (fun _ => rfl) (by decide) (Nat.le_of_ble_eq_true rfl) (Nat.le_of_ble_eq_true rfl) (Nat.le_of_ble_eq_true rfl) (fun q3 => ?_)
  refine cr_eq (ws2 := [(h0, .inr (2, [.ref q1, .ref q2, .null, .null])), (q1, .inl (g.2.2 0, 4, .inl (fun _ => 0))), (q2, .inl (g.2.2 0, 4, .inl (fun _ => 0))), (q3, .inl (g.2.2 0, 4, .inl (fun _ => 0)))]) (k2 := 3) (m2 := 12) rfl rfl rfl ?_
  refine cr_putF ok 2 dX2_init_22 fp_X2_18 rfl rfl (Nat.le_of_ble_eq_true rfl) ?_
  refine cr_eq (ws2 := [(h0, .inr (2, [.ref q1, .ref q2, .ref q3, .null])), (q1, .inl (g.2.2 0, 4, .inl (fun _ => 0))), (q2, .inl (g.2.2 0, 4, .inl (fun _ => 0))), (q3, .inl (g.2.2 0, 4, .inl (fun _ => 0)))]) (k2 := 3) (m2 := 12) rfl rfl rfl ?_
  refine cr_aload ok 0 dX2_init_25 rfl ?_
  refine cr_iconst ok (nI 4) dX2_init_26 (by decide) ?_
  refine cr_newa ok 0 4 dX2_init_27 rfl rfl ar_i (fun _ => rfl) (by decide) (Nat.le_of_ble_eq_true rfl) (Nat.le_of_ble_eq_true rfl) (Nat.le_of_ble_eq_true rfl) (fun q4 => ?_)
  refine cr_eq (ws2 := [(h0, .inr (2, [.ref q1, .ref q2, .ref q3, .null])), (q1, .inl (g.2.2 0, 4, .inl (fun _ => 0))), (q2, .inl (g.2.2 0, 4, .inl (fun _ => 0))), (q3, .inl (g.2.2 0, 4, .inl (fun _ => 0))), (q4, .inl (g.2.2 0, 4, .inl (fun _ => 0)))]) (k2 := 4) (m2 := 16) rfl rfl rfl ?_
  refine cr_putF ok 3 dX2_init_29 fp_X2_21 rfl rfl (Nat.le_of_ble_eq_true rfl) ?_
  refine cr_eq (ws2 := [(h0, .inr (2, [.ref q1, .ref q2, .ref q3, .ref q4])), (q1, .inl (g.2.2 0, 4, .inl (fun _ => 0))), (q2, .inl (g.2.2 0, 4, .inl (fun _ => 0))), (q3, .inl (g.2.2 0, 4, .inl (fun _ => 0))), (q4, .inl (g.2.2 0, 4, .inl (fun _ => 0)))]) (k2 := 4) (m2 := 16) rfl rfl rfl ?_
  refine cr_aload ok 0 dX2_init_32 rfl ?_
  refine cr_get ok 0 2 dX2_init_33 fq_X2_18 rfl rfl ?_
  refine cr_iconst ok ((-1)) dX2_init_36 (by decide) ?_
  refine cr_statv ok (n := 2) (As := [.ref q3, .int (-1)]) (g2 := (g.1, fun _ => q3, g.2.2)) (sh := [.inl (0, 4)]) (S := fun _ _ => 0) (wr := [(h0, .inr (2, [.ref q1, .ref q2, .ref q3, .ref q4])), (q1, .inl (g.2.2 0, 4, .inl (fun _ => 0))), (q2, .inl (g.2.2 0, 4, .inl (fun _ => 0))), (q4, .inl (g.2.2 0, 4, .inl (fun _ => 0)))]) [3] [0, 1, 2, 4] _ dX2_init_37 ⟨rfl, rfl⟩ ks_X2_24 ⟨by decide, by decide, by decide +kernel⟩ rfl rfl (Nat.le_of_ble_eq_true rfl) ⟨Nat.le_of_ble_eq_true rfl, Nat.le_of_ble_eq_true rfl⟩ ⟨Nat.le_of_ble_eq_true rfl, Nat.le_of_ble_eq_true rfl⟩ rfl rfl rfl rfl (by decide) ?_
  refine c_fillG (k := 0) rfl (by decide) (fun f1 e1 => ?_)
  refine cr_eq (ws2 := [(h0, .inr (2, [.ref q1, .ref q2, .ref q3, .ref q4])), (q1, .inl (g.2.2 0, 4, .inl (fun _ => 0))), (q2, .inl (g.2.2 0, 4, .inl (fun _ => 0))), (q4, .inl (g.2.2 0, 4, .inl (fun _ => 0))), (q3, .inl (g.2.2 0, 4, .inl f1))]) (k2 := 4) (m2 := 16) rfl rfl rfl ?_
  refine cr_aload ok 0 dX2_init_40 rfl ?_
  refine cr_get ok 0 3 dX2_init_41 fq_X2_21 rfl rfl ?_
  refine cr_iconst ok ((-1)) dX2_init_44 (by decide) ?_
  refine cr_statv ok (n := 2) (As := [.ref q4, .int (-1)]) (g2 := (g.1, fun _ => q4, g.2.2)) (sh := [.inl (0, 4)]) (S := fun _ _ => 0) (wr := [(h0, .inr (2, [.ref q1, .ref q2, .ref q3, .ref q4])), (q1, .inl (g.2.2 0, 4, .inl (fun _ => 0))), (q2, .inl (g.2.2 0, 4, .inl (fun _ => 0))), (q3, .inl (g.2.2 0, 4, .inl f1))]) [3] [0, 1, 2, 4] _ dX2_init_45 ⟨rfl, rfl⟩ ks_X2_24 ⟨by decide, by decide, by decide +kernel⟩ rfl rfl (Nat.le_of_ble_eq_true rfl) ⟨Nat.le_of_ble_eq_true rfl, Nat.le_of_ble_eq_true rfl⟩ ⟨Nat.le_of_ble_eq_true rfl, Nat.le_of_ble_eq_true rfl⟩ rfl rfl rfl rfl (by decide) ?_
  refine c_fillG (k := 0) rfl (by decide) (fun f2 e2 => ?_)
  refine cr_eq (ws2 := [(h0, .inr (2, [.ref q1, .ref q2, .ref q3, .ref q4])), (q1, .inl (g.2.2 0, 4, .inl (fun _ => 0))), (q2, .inl (g.2.2 0, 4, .inl (fun _ => 0))), (q3, .inl (g.2.2 0, 4, .inl f1)), (q4, .inl (g.2.2 0, 4, .inl f2))]) (k2 := 4) (m2 := 16) rfl rfl rfl ?_
  exact cr_ret ok dX2_init_48 rfl (hk q1 q2 q3 q4 f1 f2 e1 e2)
set_option maxRecDepth 100000 in
set_option maxHeartbeats 4000000 in
theorem ci_X5 {l : Launch} {g : Geo} {K : va_W → Prop} {h0 : Nat} (hk : ∀ q1 : Nat, K [(h0, .inr (5, [.ref q1, .int 0])), (q1, .inl (g.2.2 0, 14, .inl (fun _ => 0)))]) : MCt l g m_X5_init 1 14 [.ref h0] [(h0, .inr (5, [.null, .int 0]))] K := by
  refine MCt.intro _ rfl rfl (Nat.le_of_ble_eq_true rfl) rfl (fun x A ok => ?_)
  refine cr_aload ok 0 dX5_init_0 rfl ?_
  refine cr_obj ok dX5_init_1 oi_X5 ob_i ob_c (Nat.le_of_ble_eq_true rfl) (Nat.le_of_ble_eq_true rfl) ?_
  refine cr_aload ok 0 dX5_init_4 rfl ?_
  refine cr_bipush ok (nI 14) dX5_init_5 (by decide) ?_
  refine cr_newa ok 0 14 dX5_init_7 rfl rfl ar_i (fun _ => rfl) (by decide) (Nat.le_of_ble_eq_true rfl) (Nat.le_of_ble_eq_true rfl) (Nat.le_of_ble_eq_true rfl) (fun q1 => ?_)
  refine cr_eq (ws2 := [(h0, .inr (5, [.null, .int 0])), (q1, .inl (g.2.2 0, 14, .inl (fun _ => 0)))]) (k2 := 1) (m2 := 14) rfl rfl rfl ?_
  refine cr_putF ok 0 dX5_init_9 fp_X5_9 rfl rfl (Nat.le_of_ble_eq_true rfl) ?_
  refine cr_eq (ws2 := [(h0, .inr (5, [.ref q1, .int 0])), (q1, .inl (g.2.2 0, 14, .inl (fun _ => 0)))]) (k2 := 1) (m2 := 14) rfl rfl rfl ?_
  exact cr_ret ok dX5_init_12 rfl (hk q1)
set_option maxRecDepth 100000 in
set_option maxHeartbeats 4000000 in
theorem ci_X7 {l : Launch} {g : Geo} {K : va_W → Prop} {h0 : Nat} (hk : ∀ q1 q2 q3 q4 q5 q6 q7 q8 q9 q10 q11 q12 q13 q14 : Nat, ∀ f1 f2 : Nat → Int32, (∀ j, j < 4 → f1 j = (-1)) → (∀ j, j < 4 → f2 j = (-1)) → K [(h0, .inr (7, [.ref q1, .ref q7, .ref q12])), (q1, .inr (1, [.ref q2, .ref q3, .ref q4, .ref q5, .ref q6, .int 0])), (q2, .inl (g.2.2 0, 12, .inl (fun _ => 0))), (q3, .inl (g.2.2 0, 12, .inl (fun _ => 0))), (q4, .inl (g.2.2 0, 12, .inl (fun _ => 0))), (q5, .inl (g.2.2 0, 60, .inl (fun _ => 0))), (q6, .inl (g.2.2 0, 60, .inl (fun _ => 0))), (q7, .inr (2, [.ref q8, .ref q9, .ref q10, .ref q11])), (q8, .inl (g.2.2 0, 4, .inl (fun _ => 0))), (q9, .inl (g.2.2 0, 4, .inl (fun _ => 0))), (q10, .inl (g.2.2 0, 4, .inl f1)), (q11, .inl (g.2.2 0, 4, .inl f2)), (q12, .inr (0, [.ref q13, .ref q14, .int 0])), (q13, .inl (g.2.2 0, 20, .inl (fun _ => 0))), (q14, .inl (g.2.2 1, 20, .inl (fun _ => 0)))]) : MCt l g m_X7_init 14 225 [.ref h0] [(h0, .inr (7, [.null, .null, .null]))] K := by
  refine MCt.intro _ rfl rfl (Nat.le_of_ble_eq_true rfl) rfl (fun x A ok => ?_)
  refine cr_aload ok 0 dX7_init_0 rfl ?_
  refine cr_obj ok dX7_init_1 oi_X7 ob_i ob_c (Nat.le_of_ble_eq_true rfl) (Nat.le_of_ble_eq_true rfl) ?_
  refine cr_aload ok 0 dX7_init_4 rfl ?_
  refine cr_new ok [.null, .null, .null, .null, .null, .int 0] dX7_init_5 nk_X7_7 (fun j hj => by rcases (show j = 0 ∨ j = 1 ∨ j = 2 ∨ j = 3 ∨ j = 4 ∨ j = 5 by omega) with rfl | rfl | rfl | rfl | rfl | rfl <;> rfl) (Nat.le_of_ble_eq_true rfl) (Nat.le_of_ble_eq_true rfl) (fun q1 => ?_)
  refine cr_dup ok dX7_init_8 rfl ?_
  refine cr_init ok (As := []) (ws := [(h0, .inr (7, [.null, .null, .null]))]) 5 156 _ dX7_init_9 ki_X7_9 rfl rfl (Nat.le_of_ble_eq_true rfl) ⟨Nat.le_of_ble_eq_true rfl, Nat.le_of_ble_eq_true rfl⟩ ⟨Nat.le_of_ble_eq_true rfl, Nat.le_of_ble_eq_true rfl⟩ ?_
  refine ci_X1 (fun q2 q3 q4 q5 q6 => ?_)
  refine cr_eq (ws2 := [(h0, .inr (7, [.null, .null, .null])), (q1, .inr (1, [.ref q2, .ref q3, .ref q4, .ref q5, .ref q6, .int 0])), (q2, .inl (g.2.2 0, 12, .inl (fun _ => 0))), (q3, .inl (g.2.2 0, 12, .inl (fun _ => 0))), (q4, .inl (g.2.2 0, 12, .inl (fun _ => 0))), (q5, .inl (g.2.2 0, 60, .inl (fun _ => 0))), (q6, .inl (g.2.2 0, 60, .inl (fun _ => 0)))]) (k2 := 6) (m2 := 162) rfl rfl rfl ?_
  refine cr_putF ok 0 dX7_init_12 fp_X7_10 rfl rfl (Nat.le_of_ble_eq_true rfl) ?_
  refine cr_eq (ws2 := [(h0, .inr (7, [.ref q1, .null, .null])), (q1, .inr (1, [.ref q2, .ref q3, .ref q4, .ref q5, .ref q6, .int 0])), (q2, .inl (g.2.2 0, 12, .inl (fun _ => 0))), (q3, .inl (g.2.2 0, 12, .inl (fun _ => 0))), (q4, .inl (g.2.2 0, 12, .inl (fun _ => 0))), (q5, .inl (g.2.2 0, 60, .inl (fun _ => 0))), (q6, .inl (g.2.2 0, 60, .inl (fun _ => 0)))]) (k2 := 6) (m2 := 162) rfl rfl rfl ?_
  refine cr_aload ok 0 dX7_init_15 rfl ?_
  refine cr_new ok [.null, .null, .null, .null] dX7_init_16 nk_X7_16 (fun j hj => by rcases (show j = 0 ∨ j = 1 ∨ j = 2 ∨ j = 3 by omega) with rfl | rfl | rfl | rfl <;> rfl) (Nat.le_of_ble_eq_true rfl) (Nat.le_of_ble_eq_true rfl) (fun q7 => ?_)
  refine cr_dup ok dX7_init_19 rfl ?_
  refine cr_init ok (As := []) (ws := [(h0, .inr (7, [.ref q1, .null, .null])), (q1, .inr (1, [.ref q2, .ref q3, .ref q4, .ref q5, .ref q6, .int 0])), (q2, .inl (g.2.2 0, 12, .inl (fun _ => 0))), (q3, .inl (g.2.2 0, 12, .inl (fun _ => 0))), (q4, .inl (g.2.2 0, 12, .inl (fun _ => 0))), (q5, .inl (g.2.2 0, 60, .inl (fun _ => 0))), (q6, .inl (g.2.2 0, 60, .inl (fun _ => 0)))]) 4 16 _ dX7_init_20 ki_X7_18 rfl rfl (Nat.le_of_ble_eq_true rfl) ⟨Nat.le_of_ble_eq_true rfl, Nat.le_of_ble_eq_true rfl⟩ ⟨Nat.le_of_ble_eq_true rfl, Nat.le_of_ble_eq_true rfl⟩ ?_
  refine ci_X2 (fun q8 q9 q10 q11 f1 f2 e1 e2 => ?_)
  refine cr_eq (ws2 := [(h0, .inr (7, [.ref q1, .null, .null])), (q1, .inr (1, [.ref q2, .ref q3, .ref q4, .ref q5, .ref q6, .int 0])), (q2, .inl (g.2.2 0, 12, .inl (fun _ => 0))), (q3, .inl (g.2.2 0, 12, .inl (fun _ => 0))), (q4, .inl (g.2.2 0, 12, .inl (fun _ => 0))), (q5, .inl (g.2.2 0, 60, .inl (fun _ => 0))), (q6, .inl (g.2.2 0, 60, .inl (fun _ => 0))), (q7, .inr (2, [.ref q8, .ref q9, .ref q10, .ref q11])), (q8, .inl (g.2.2 0, 4, .inl (fun _ => 0))), (q9, .inl (g.2.2 0, 4, .inl (fun _ => 0))), (q10, .inl (g.2.2 0, 4, .inl f1)), (q11, .inl (g.2.2 0, 4, .inl f2))]) (k2 := 11) (m2 := 182) rfl rfl rfl ?_
  refine cr_putF ok 1 dX7_init_23 fp_X7_19 rfl rfl (Nat.le_of_ble_eq_true rfl) ?_
  refine cr_eq (ws2 := [(h0, .inr (7, [.ref q1, .ref q7, .null])), (q1, .inr (1, [.ref q2, .ref q3, .ref q4, .ref q5, .ref q6, .int 0])), (q2, .inl (g.2.2 0, 12, .inl (fun _ => 0))), (q3, .inl (g.2.2 0, 12, .inl (fun _ => 0))), (q4, .inl (g.2.2 0, 12, .inl (fun _ => 0))), (q5, .inl (g.2.2 0, 60, .inl (fun _ => 0))), (q6, .inl (g.2.2 0, 60, .inl (fun _ => 0))), (q7, .inr (2, [.ref q8, .ref q9, .ref q10, .ref q11])), (q8, .inl (g.2.2 0, 4, .inl (fun _ => 0))), (q9, .inl (g.2.2 0, 4, .inl (fun _ => 0))), (q10, .inl (g.2.2 0, 4, .inl f1)), (q11, .inl (g.2.2 0, 4, .inl f2))]) (k2 := 11) (m2 := 182) rfl rfl rfl ?_
  refine cr_aload ok 0 dX7_init_26 rfl ?_
  refine cr_new ok [.null, .null, .int 0] dX7_init_27 nk_X7_23 (fun j hj => by rcases (show j = 0 ∨ j = 1 ∨ j = 2 by omega) with rfl | rfl | rfl <;> rfl) (Nat.le_of_ble_eq_true rfl) (Nat.le_of_ble_eq_true rfl) (fun q12 => ?_)
  refine cr_dup ok dX7_init_30 rfl ?_
  refine cr_init ok (As := []) (ws := [(h0, .inr (7, [.ref q1, .ref q7, .null])), (q1, .inr (1, [.ref q2, .ref q3, .ref q4, .ref q5, .ref q6, .int 0])), (q2, .inl (g.2.2 0, 12, .inl (fun _ => 0))), (q3, .inl (g.2.2 0, 12, .inl (fun _ => 0))), (q4, .inl (g.2.2 0, 12, .inl (fun _ => 0))), (q5, .inl (g.2.2 0, 60, .inl (fun _ => 0))), (q6, .inl (g.2.2 0, 60, .inl (fun _ => 0))), (q7, .inr (2, [.ref q8, .ref q9, .ref q10, .ref q11])), (q8, .inl (g.2.2 0, 4, .inl (fun _ => 0))), (q9, .inl (g.2.2 0, 4, .inl (fun _ => 0))), (q10, .inl (g.2.2 0, 4, .inl f1)), (q11, .inl (g.2.2 0, 4, .inl f2))]) 2 40 _ dX7_init_31 ki_X7_25 rfl rfl (Nat.le_of_ble_eq_true rfl) ⟨Nat.le_of_ble_eq_true rfl, Nat.le_of_ble_eq_true rfl⟩ ⟨Nat.le_of_ble_eq_true rfl, Nat.le_of_ble_eq_true rfl⟩ ?_
  refine ci_X0 (fun q13 q14 => ?_)
  refine cr_eq (ws2 := [(h0, .inr (7, [.ref q1, .ref q7, .null])), (q1, .inr (1, [.ref q2, .ref q3, .ref q4, .ref q5, .ref q6, .int 0])), (q2, .inl (g.2.2 0, 12, .inl (fun _ => 0))), (q3, .inl (g.2.2 0, 12, .inl (fun _ => 0))), (q4, .inl (g.2.2 0, 12, .inl (fun _ => 0))), (q5, .inl (g.2.2 0, 60, .inl (fun _ => 0))), (q6, .inl (g.2.2 0, 60, .inl (fun _ => 0))), (q7, .inr (2, [.ref q8, .ref q9, .ref q10, .ref q11])), (q8, .inl (g.2.2 0, 4, .inl (fun _ => 0))), (q9, .inl (g.2.2 0, 4, .inl (fun _ => 0))), (q10, .inl (g.2.2 0, 4, .inl f1)), (q11, .inl (g.2.2 0, 4, .inl f2)), (q12, .inr (0, [.ref q13, .ref q14, .int 0])), (q13, .inl (g.2.2 0, 20, .inl (fun _ => 0))), (q14, .inl (g.2.2 1, 20, .inl (fun _ => 0)))]) (k2 := 14) (m2 := 225) rfl rfl rfl ?_
  refine cr_putF ok 2 dX7_init_34 fp_X7_26 rfl rfl (Nat.le_of_ble_eq_true rfl) ?_
  refine cr_eq (ws2 := [(h0, .inr (7, [.ref q1, .ref q7, .ref q12])), (q1, .inr (1, [.ref q2, .ref q3, .ref q4, .ref q5, .ref q6, .int 0])), (q2, .inl (g.2.2 0, 12, .inl (fun _ => 0))), (q3, .inl (g.2.2 0, 12, .inl (fun _ => 0))), (q4, .inl (g.2.2 0, 12, .inl (fun _ => 0))), (q5, .inl (g.2.2 0, 60, .inl (fun _ => 0))), (q6, .inl (g.2.2 0, 60, .inl (fun _ => 0))), (q7, .inr (2, [.ref q8, .ref q9, .ref q10, .ref q11])), (q8, .inl (g.2.2 0, 4, .inl (fun _ => 0))), (q9, .inl (g.2.2 0, 4, .inl (fun _ => 0))), (q10, .inl (g.2.2 0, 4, .inl f1)), (q11, .inl (g.2.2 0, 4, .inl f2)), (q12, .inr (0, [.ref q13, .ref q14, .int 0])), (q13, .inl (g.2.2 0, 20, .inl (fun _ => 0))), (q14, .inl (g.2.2 1, 20, .inl (fun _ => 0)))]) (k2 := 14) (m2 := 225) rfl rfl rfl ?_
  exact cr_ret ok dX7_init_37 rfl (hk q1 q2 q3 q4 q5 q6 q7 q8 q9 q10 q11 q12 q13 q14 f1 f2 e1 e2)
set_option maxRecDepth 100000 in
set_option maxHeartbeats 4000000 in
theorem ci_X8 {l : Launch} {g : Geo} {K : va_W → Prop} {h0 : Nat} {a1 : Nat} (hk : ∀ q1 q2 q3 q4 q5 q6 : Nat, K [(h0, .inr (8, [.ref a1, .ref q1, .ref q2, .ref q3, .ref q4, .ref q5, .ref q6, .int 0])), (q1, .inl (g.2.2 0, 100, .inl (fun _ => 0))), (q2, .inl (g.2.2 0, 10, .inl (fun _ => 0))), (q3, .inl (g.2.2 0, 10, .inl (fun _ => 0))), (q4, .inl (g.2.2 0, 10, .inl (fun _ => 0))), (q5, .inl (g.2.2 0, 12, .inl (fun _ => 0))), (q6, .inl (g.2.2 0, 10, .inl (fun _ => 0)))]) : MCt l g m_X8_init 6 152 [.ref h0, .ref a1] [(h0, .inr (8, [.null, .null, .null, .null, .null, .null, .null, .int 0]))] K := by
  refine MCt.intro _ rfl rfl (Nat.le_of_ble_eq_true rfl) rfl (fun x A ok => ?_)
  refine cr_aload ok 0 dX8_init_0 rfl ?_
  refine cr_obj ok dX8_init_1 oi_X8 ob_i ob_c (Nat.le_of_ble_eq_true rfl) (Nat.le_of_ble_eq_true rfl) ?_
  refine cr_aload ok 0 dX8_init_4 rfl ?_
  refine cr_aload ok 1 dX8_init_5 rfl ?_
  refine cr_putF ok 0 dX8_init_6 fp_X8_9 rfl rfl (Nat.le_of_ble_eq_true rfl) ?_
  refine cr_eq (ws2 := [(h0, .inr (8, [.ref a1, .null, .null, .null, .null, .null, .null, .int 0]))]) (k2 := 0) (m2 := 0) rfl rfl rfl ?_
  refine cr_aload ok 0 dX8_init_9 rfl ?_
  refine cr_bipush ok (nI 100) dX8_init_10 (by decide) ?_
  refine cr_newa ok 0 100 dX8_init_12 rfl rfl ar_i (fun _ => rfl) (by decide) (Nat.le_of_ble_eq_true rfl) (Nat.le_of_ble_eq_true rfl) (Nat.le_of_ble_eq_true rfl) (fun q1 => ?_)
  refine cr_eq (ws2 := [(h0, .inr (8, [.ref a1, .null, .null, .null, .null, .null, .null, .int 0])), (q1, .inl (g.2.2 0, 100, .inl (fun _ => 0)))]) (k2 := 1) (m2 := 100) rfl rfl rfl ?_
  refine cr_putF ok 1 dX8_init_14 fp_X8_15 rfl rfl (Nat.le_of_ble_eq_true rfl) ?_
  refine cr_eq (ws2 := [(h0, .inr (8, [.ref a1, .ref q1, .null, .null, .null, .null, .null, .int 0])), (q1, .inl (g.2.2 0, 100, .inl (fun _ => 0)))]) (k2 := 1) (m2 := 100) rfl rfl rfl ?_
  refine cr_aload ok 0 dX8_init_17 rfl ?_
  refine cr_bipush ok (nI 10) dX8_init_18 (by decide) ?_
  refine cr_newa ok 0 10 dX8_init_20 rfl rfl ar_i (fun _ => rfl) (by decide) (Nat.le_of_ble_eq_true rfl) (Nat.le_of_ble_eq_true rfl) (Nat.le_of_ble_eq_true rfl) (fun q2 => ?_)
  refine cr_eq (ws2 := [(h0, .inr (8, [.ref a1, .ref q1, .null, .null, .null, .null, .null, .int 0])), (q1, .inl (g.2.2 0, 100, .inl (fun _ => 0))), (q2, .inl (g.2.2 0, 10, .inl (fun _ => 0)))]) (k2 := 2) (m2 := 110) rfl rfl rfl ?_
  refine cr_putF ok 2 dX8_init_22 fp_X8_19 rfl rfl (Nat.le_of_ble_eq_true rfl) ?_
  refine cr_eq (ws2 := [(h0, .inr (8, [.ref a1, .ref q1, .ref q2, .null, .null, .null, .null, .int 0])), (q1, .inl (g.2.2 0, 100, .inl (fun _ => 0))), (q2, .inl (g.2.2 0, 10, .inl (fun _ => 0)))]) (k2 := 2) (m2 := 110) rfl rfl rfl ?_
  refine cr_aload ok 0 dX8_init_25 rfl ?_
  refine cr_bipush ok (nI 10) dX8_init_26 (by decide) ?_
  refine cr_newa ok 0 10 dX8_init_28 rfl rfl ar_i (fun _ => rfl) (by decide) (Nat.le_of_ble_eq_true rfl) (Nat.le_of_ble_eq_true rfl) (Nat.le_of_ble_eq_true rfl) (fun q3 => ?_)
  refine cr_eq (ws2 := [(h0, .inr (8, [.ref a1, .ref q1, .ref q2, .null, .null, .null, .null, .int 0])), (q1, .inl (g.2.2 0, 100, .inl (fun _ => 0))), (q2, .inl (g.2.2 0, 10, .inl (fun _ => 0))), (q3, .inl (g.2.2 0, 10, .inl (fun _ => 0)))]) (k2 := 3) (m2 := 120) rfl rfl rfl ?_
  refine cr_putF ok 3 dX8_init_30 fp_X8_22 rfl rfl (Nat.le_of_ble_eq_true rfl) ?_
  refine cr_eq (ws2 := [(h0, .inr (8, [.ref a1, .ref q1, .ref q2, .ref q3, .null, .null, .null, .int 0])), (q1, .inl (g.2.2 0, 100, .inl (fun _ => 0))), (q2, .inl (g.2.2 0, 10, .inl (fun _ => 0))), (q3, .inl (g.2.2 0, 10, .inl (fun _ => 0)))]) (k2 := 3) (m2 := 120) rfl rfl rfl ?_
  refine cr_aload ok 0 dX8_init_33 rfl ?_
  refine cr_bipush ok (nI 10) dX8_init_34 (by decide) ?_
  refine cr_newa ok 0 10 dX8_init_36 rfl rfl ar_i (fun _ => rfl) (by decide) (Nat.le_of_ble_eq_true rfl) (Nat.le_of_ble_eq_true rfl) (Nat.le_of_ble_eq_true rfl) (fun q4 => ?_)
  refine cr_eq (ws2 := [(h0, .inr (8, [.ref a1, .ref q1, .ref q2, .ref q3, .null, .null, .null, .int 0])), (q1, .inl (g.2.2 0, 100, .inl (fun _ => 0))), (q2, .inl (g.2.2 0, 10, .inl (fun _ => 0))), (q3, .inl (g.2.2 0, 10, .inl (fun _ => 0))), (q4, .inl (g.2.2 0, 10, .inl (fun _ => 0)))]) (k2 := 4) (m2 := 130) rfl rfl rfl ?_
  refine cr_putF ok 4 dX8_init_38 fp_X8_25 rfl rfl (Nat.le_of_ble_eq_true rfl) ?_
  refine cr_eq (ws2 := [(h0, .inr (8, [.ref a1, .ref q1, .ref q2, .ref q3, .ref q4, .null, .null, .int 0])), (q1, .inl (g.2.2 0, 100, .inl (fun _ => 0))), (q2, .inl (g.2.2 0, 10, .inl (fun _ => 0))), (q3, .inl (g.2.2 0, 10, .inl (fun _ => 0))), (q4, .inl (g.2.2 0, 10, .inl (fun _ => 0)))]) (k2 := 4) (m2 := 130) rfl rfl rfl ?_
  refine cr_aload ok 0 dX8_init_41 rfl ?_
  refine cr_bipush ok (nI 12) dX8_init_42 (by decide) ?_
  refine cr_newa ok 0 12 dX8_init_44 rfl rfl ar_i (fun _ => rfl) (by decide) (Nat.le_of_ble_eq_true rfl) (Nat.le_of_ble_eq_true rfl) (Nat.le_of_ble_eq_true rfl) (fun q5 => ?_)
  refine cr_eq (ws2 := [(h0, .inr (8, [.ref a1, .ref q1, .ref q2, .ref q3, .ref q4, .null, .null, .int 0])), (q1, .inl (g.2.2 0, 100, .inl (fun _ => 0))), (q2, .inl (g.2.2 0, 10, .inl (fun _ => 0))), (q3, .inl (g.2.2 0, 10, .inl (fun _ => 0))), (q4, .inl (g.2.2 0, 10, .inl (fun _ => 0))), (q5, .inl (g.2.2 0, 12, .inl (fun _ => 0)))]) (k2 := 5) (m2 := 142) rfl rfl rfl ?_
  refine cr_putF ok 5 dX8_init_46 fp_X8_28 rfl rfl (Nat.le_of_ble_eq_true rfl) ?_
  refine cr_eq (ws2 := [(h0, .inr (8, [.ref a1, .ref q1, .ref q2, .ref q3, .ref q4, .ref q5, .null, .int 0])), (q1, .inl (g.2.2 0, 100, .inl (fun _ => 0))), (q2, .inl (g.2.2 0, 10, .inl (fun _ => 0))), (q3, .inl (g.2.2 0, 10, .inl (fun _ => 0))), (q4, .inl (g.2.2 0, 10, .inl (fun _ => 0))), (q5, .inl (g.2.2 0, 12, .inl (fun _ => 0)))]) (k2 := 5) (m2 := 142) rfl rfl rfl ?_
  refine cr_aload ok 0 dX8_init_49 rfl ?_
  refine cr_bipush ok (nI 10) dX8_init_50 (by decide) ?_
  refine cr_newa ok 0 10 dX8_init_52 rfl rfl ar_i (fun _ => rfl) (by decide) (Nat.le_of_ble_eq_true rfl) (Nat.le_of_ble_eq_true rfl) (Nat.le_of_ble_eq_true rfl) (fun q6 => ?_)
  refine cr_eq (ws2 := [(h0, .inr (8, [.ref a1, .ref q1, .ref q2, .ref q3, .ref q4, .ref q5, .null, .int 0])), (q1, .inl (g.2.2 0, 100, .inl (fun _ => 0))), (q2, .inl (g.2.2 0, 10, .inl (fun _ => 0))), (q3, .inl (g.2.2 0, 10, .inl (fun _ => 0))), (q4, .inl (g.2.2 0, 10, .inl (fun _ => 0))), (q5, .inl (g.2.2 0, 12, .inl (fun _ => 0))), (q6, .inl (g.2.2 0, 10, .inl (fun _ => 0)))]) (k2 := 6) (m2 := 152) rfl rfl rfl ?_
  refine cr_putF ok 6 dX8_init_54 fp_X8_31 rfl rfl (Nat.le_of_ble_eq_true rfl) ?_
  refine cr_eq (ws2 := [(h0, .inr (8, [.ref a1, .ref q1, .ref q2, .ref q3, .ref q4, .ref q5, .ref q6, .int 0])), (q1, .inl (g.2.2 0, 100, .inl (fun _ => 0))), (q2, .inl (g.2.2 0, 10, .inl (fun _ => 0))), (q3, .inl (g.2.2 0, 10, .inl (fun _ => 0))), (q4, .inl (g.2.2 0, 10, .inl (fun _ => 0))), (q5, .inl (g.2.2 0, 12, .inl (fun _ => 0))), (q6, .inl (g.2.2 0, 10, .inl (fun _ => 0)))]) (k2 := 6) (m2 := 152) rfl rfl rfl ?_
  exact cr_ret ok dX8_init_57 rfl (hk q1 q2 q3 q4 q5 q6)
set_option maxRecDepth 100000 in
set_option maxHeartbeats 4000000 in
theorem ci_X6 {l : Launch} {g : Geo} {K : va_W → Prop} {h0 : Nat} {a1 : Nat} {a2 : Nat} {a3 : Nat} (hk : ∀ q1 : Nat, K [(h0, .inr (6, [.ref a1, .ref a2, .ref a3, .ref q1])), (q1, .inl (g.2.2 0, 5, .inl (fun _ => 0)))]) : MCt l g m_X6_init 1 5 [.ref h0, .ref a1, .ref a2, .ref a3] [(h0, .inr (6, [.null, .null, .null, .null]))] K := by
  refine MCt.intro _ rfl rfl (Nat.le_of_ble_eq_true rfl) rfl (fun x A ok => ?_)
  refine cr_aload ok 0 dX6_init_0 rfl ?_
  refine cr_obj ok dX6_init_1 oi_X6 ob_i ob_c (Nat.le_of_ble_eq_true rfl) (Nat.le_of_ble_eq_true rfl) ?_
  refine cr_aload ok 0 dX6_init_4 rfl ?_
  refine cr_aload ok 1 dX6_init_5 rfl ?_
  refine cr_putF ok 0 dX6_init_6 fp_X6_9 rfl rfl (Nat.le_of_ble_eq_true rfl) ?_
  refine cr_eq (ws2 := [(h0, .inr (6, [.ref a1, .null, .null, .null]))]) (k2 := 0) (m2 := 0) rfl rfl rfl ?_
  refine cr_aload ok 0 dX6_init_9 rfl ?_
  refine cr_aload ok 2 dX6_init_10 rfl ?_
  refine cr_putF ok 1 dX6_init_11 fp_X6_15 rfl rfl (Nat.le_of_ble_eq_true rfl) ?_
  refine cr_eq (ws2 := [(h0, .inr (6, [.ref a1, .ref a2, .null, .null]))]) (k2 := 0) (m2 := 0) rfl rfl rfl ?_
  refine cr_aload ok 0 dX6_init_14 rfl ?_
  refine cr_aload ok 3 dX6_init_15 rfl ?_
  refine cr_putF ok 2 dX6_init_16 fp_X6_19 rfl rfl (Nat.le_of_ble_eq_true rfl) ?_
  refine cr_eq (ws2 := [(h0, .inr (6, [.ref a1, .ref a2, .ref a3, .null]))]) (k2 := 0) (m2 := 0) rfl rfl rfl ?_
  refine cr_aload ok 0 dX6_init_19 rfl ?_
  refine cr_iconst ok (nI 5) dX6_init_20 (by decide) ?_
  refine cr_newa ok 0 5 dX6_init_21 rfl rfl ar_i (fun _ => rfl) (by decide) (Nat.le_of_ble_eq_true rfl) (Nat.le_of_ble_eq_true rfl) (Nat.le_of_ble_eq_true rfl) (fun q1 => ?_)
  refine cr_eq (ws2 := [(h0, .inr (6, [.ref a1, .ref a2, .ref a3, .null])), (q1, .inl (g.2.2 0, 5, .inl (fun _ => 0)))]) (k2 := 1) (m2 := 5) rfl rfl rfl ?_
  refine cr_putF ok 3 dX6_init_23 fp_X6_23 rfl rfl (Nat.le_of_ble_eq_true rfl) ?_
  refine cr_eq (ws2 := [(h0, .inr (6, [.ref a1, .ref a2, .ref a3, .ref q1])), (q1, .inl (g.2.2 0, 5, .inl (fun _ => 0)))]) (k2 := 1) (m2 := 5) rfl rfl rfl ?_
  exact cr_ret ok dX6_init_26 rfl (hk q1)
set_option maxRecDepth 100000 in
set_option maxHeartbeats 4000000 in
theorem ci_X9 {l : Launch} {g : Geo} {K : va_W → Prop} {h0 : Nat} {a1 : Nat} {a2 : Nat} (hk : ∀ q1 q2 q3 : Nat, K [(h0, .inr (9, [.ref a1, .ref a2, .ref q1, .ref q2, .ref q3, .int 0, .int 0])), (q1, .inl (g.2.2 0, 1024, .inl (fun _ => 0))), (q2, .inl (g.2.2 0, 1024, .inl (fun _ => 0))), (q3, .inl (g.2.2 0, 10, .inl (fun _ => 0)))]) : MCt l g m_X9_init 3 2058 [.ref h0, .ref a1, .ref a2] [(h0, .inr (9, [.null, .null, .null, .null, .null, .int 0, .int 0]))] K := by
  refine MCt.intro _ rfl rfl (Nat.le_of_ble_eq_true rfl) rfl (fun x A ok => ?_)
  refine cr_aload ok 0 dX9_init_0 rfl ?_
  refine cr_obj ok dX9_init_1 oi_X9 ob_i ob_c (Nat.le_of_ble_eq_true rfl) (Nat.le_of_ble_eq_true rfl) ?_
  refine cr_aload ok 0 dX9_init_4 rfl ?_
  refine cr_aload ok 1 dX9_init_5 rfl ?_
  refine cr_putF ok 0 dX9_init_6 fp_X9_9 rfl rfl (Nat.le_of_ble_eq_true rfl) ?_
  refine cr_eq (ws2 := [(h0, .inr (9, [.ref a1, .null, .null, .null, .null, .int 0, .int 0]))]) (k2 := 0) (m2 := 0) rfl rfl rfl ?_
  refine cr_aload ok 0 dX9_init_9 rfl ?_
  refine cr_aload ok 2 dX9_init_10 rfl ?_
  refine cr_putF ok 1 dX9_init_11 fp_X9_15 rfl rfl (Nat.le_of_ble_eq_true rfl) ?_
  refine cr_eq (ws2 := [(h0, .inr (9, [.ref a1, .ref a2, .null, .null, .null, .int 0, .int 0]))]) (k2 := 0) (m2 := 0) rfl rfl rfl ?_
  refine cr_aload ok 0 dX9_init_14 rfl ?_
  refine cr_sipush ok (nI 1024) dX9_init_15 (by decide) ?_
  refine cr_newa ok 0 1024 dX9_init_18 rfl rfl ar_i (fun _ => rfl) (by decide) (Nat.le_of_ble_eq_true rfl) (Nat.le_of_ble_eq_true rfl) (Nat.le_of_ble_eq_true rfl) (fun q1 => ?_)
  refine cr_eq (ws2 := [(h0, .inr (9, [.ref a1, .ref a2, .null, .null, .null, .int 0, .int 0])), (q1, .inl (g.2.2 0, 1024, .inl (fun _ => 0)))]) (k2 := 1) (m2 := 1024) rfl rfl rfl ?_
  refine cr_putF ok 2 dX9_init_20 fp_X9_19 rfl rfl (Nat.le_of_ble_eq_true rfl) ?_
  refine cr_eq (ws2 := [(h0, .inr (9, [.ref a1, .ref a2, .ref q1, .null, .null, .int 0, .int 0])), (q1, .inl (g.2.2 0, 1024, .inl (fun _ => 0)))]) (k2 := 1) (m2 := 1024) rfl rfl rfl ?_
  refine cr_aload ok 0 dX9_init_23 rfl ?_
  refine cr_sipush ok (nI 1024) dX9_init_24 (by decide) ?_
  refine cr_newa ok 0 1024 dX9_init_27 rfl rfl ar_i (fun _ => rfl) (by decide) (Nat.le_of_ble_eq_true rfl) (Nat.le_of_ble_eq_true rfl) (Nat.le_of_ble_eq_true rfl) (fun q2 => ?_)
  refine cr_eq (ws2 := [(h0, .inr (9, [.ref a1, .ref a2, .ref q1, .null, .null, .int 0, .int 0])), (q1, .inl (g.2.2 0, 1024, .inl (fun _ => 0))), (q2, .inl (g.2.2 0, 1024, .inl (fun _ => 0)))]) (k2 := 2) (m2 := 2048) rfl rfl rfl ?_
  refine cr_putF ok 3 dX9_init_29 fp_X9_23 rfl rfl (Nat.le_of_ble_eq_true rfl) ?_
  refine cr_eq (ws2 := [(h0, .inr (9, [.ref a1, .ref a2, .ref q1, .ref q2, .null, .int 0, .int 0])), (q1, .inl (g.2.2 0, 1024, .inl (fun _ => 0))), (q2, .inl (g.2.2 0, 1024, .inl (fun _ => 0)))]) (k2 := 2) (m2 := 2048) rfl rfl rfl ?_
  refine cr_aload ok 0 dX9_init_32 rfl ?_
  refine cr_bipush ok (nI 10) dX9_init_33 (by decide) ?_
  refine cr_newa ok 0 10 dX9_init_35 rfl rfl ar_i (fun _ => rfl) (by decide) (Nat.le_of_ble_eq_true rfl) (Nat.le_of_ble_eq_true rfl) (Nat.le_of_ble_eq_true rfl) (fun q3 => ?_)
  refine cr_eq (ws2 := [(h0, .inr (9, [.ref a1, .ref a2, .ref q1, .ref q2, .null, .int 0, .int 0])), (q1, .inl (g.2.2 0, 1024, .inl (fun _ => 0))), (q2, .inl (g.2.2 0, 1024, .inl (fun _ => 0))), (q3, .inl (g.2.2 0, 10, .inl (fun _ => 0)))]) (k2 := 3) (m2 := 2058) rfl rfl rfl ?_
  refine cr_putF ok 4 dX9_init_37 fp_X9_26 rfl rfl (Nat.le_of_ble_eq_true rfl) ?_
  refine cr_eq (ws2 := [(h0, .inr (9, [.ref a1, .ref a2, .ref q1, .ref q2, .ref q3, .int 0, .int 0])), (q1, .inl (g.2.2 0, 1024, .inl (fun _ => 0))), (q2, .inl (g.2.2 0, 1024, .inl (fun _ => 0))), (q3, .inl (g.2.2 0, 10, .inl (fun _ => 0)))]) (k2 := 3) (m2 := 2058) rfl rfl rfl ?_
  exact cr_ret ok dX9_init_40 rfl (hk q1 q2 q3)
set_option maxRecDepth 100000 in
set_option maxHeartbeats 4000000 in
theorem ci_X10 {l : Launch} {g : Geo} {K : va_W → Prop} {h0 : Nat} {a1 : Nat} (hk : ∀ q1 q2 q3 : Nat, K [(h0, .inr (10, [.ref a1, .ref q1, .ref q2, .ref q3, .int 0, .int (-6)])), (q1, .inl (g.2.2 0, 4096, .inl (fun _ => 0))), (q2, .inl (g.2.2 0, 12, .inl (fun _ => 0))), (q3, .inl (g.2.2 0, 12, .inl (fun _ => 0)))]) : MCt l g m_X10_init 3 4120 [.ref h0, .ref a1] [(h0, .inr (10, [.null, .null, .null, .null, .int 0, .int 0]))] K := by
  refine MCt.intro _ rfl rfl (Nat.le_of_ble_eq_true rfl) rfl (fun x A ok => ?_)
  refine cr_aload ok 0 dX10_init_0 rfl ?_
  refine cr_obj ok dX10_init_1 oi_X10 ob_i ob_c (Nat.le_of_ble_eq_true rfl) (Nat.le_of_ble_eq_true rfl) ?_
  refine cr_aload ok 0 dX10_init_4 rfl ?_
  refine cr_aload ok 1 dX10_init_5 rfl ?_
  refine cr_putF ok 0 dX10_init_6 fp_X10_9 rfl rfl (Nat.le_of_ble_eq_true rfl) ?_
  refine cr_eq (ws2 := [(h0, .inr (10, [.ref a1, .null, .null, .null, .int 0, .int 0]))]) (k2 := 0) (m2 := 0) rfl rfl rfl ?_
  refine cr_aload ok 0 dX10_init_9 rfl ?_
  refine cr_sipush ok (nI 4096) dX10_init_10 (by decide) ?_
  refine cr_newa ok 0 4096 dX10_init_13 rfl rfl ar_i (fun _ => rfl) (by decide) (Nat.le_of_ble_eq_true rfl) (Nat.le_of_ble_eq_true rfl) (Nat.le_of_ble_eq_true rfl) (fun q1 => ?_)
  refine cr_eq (ws2 := [(h0, .inr (10, [.ref a1, .null, .null, .null, .int 0, .int 0])), (q1, .inl (g.2.2 0, 4096, .inl (fun _ => 0)))]) (k2 := 1) (m2 := 4096) rfl rfl rfl ?_
  refine cr_putF ok 1 dX10_init_15 fp_X10_15 rfl rfl (Nat.le_of_ble_eq_true rfl) ?_
  refine cr_eq (ws2 := [(h0, .inr (10, [.ref a1, .ref q1, .null, .null, .int 0, .int 0])), (q1, .inl (g.2.2 0, 4096, .inl (fun _ => 0)))]) (k2 := 1) (m2 := 4096) rfl rfl rfl ?_
  refine cr_aload ok 0 dX10_init_18 rfl ?_
  refine cr_bipush ok (nI 12) dX10_init_19 (by decide) ?_
  refine cr_newa ok 0 12 dX10_init_21 rfl rfl ar_i (fun _ => rfl) (by decide) (Nat.le_of_ble_eq_true rfl) (Nat.le_of_ble_eq_true rfl) (Nat.le_of_ble_eq_true rfl) (fun q2 => ?_)
  refine cr_eq (ws2 := [(h0, .inr (10, [.ref a1, .ref q1, .null, .null, .int 0, .int 0])), (q1, .inl (g.2.2 0, 4096, .inl (fun _ => 0))), (q2, .inl (g.2.2 0, 12, .inl (fun _ => 0)))]) (k2 := 2) (m2 := 4108) rfl rfl rfl ?_
  refine cr_putF ok 2 dX10_init_23 fp_X10_19 rfl rfl (Nat.le_of_ble_eq_true rfl) ?_
  refine cr_eq (ws2 := [(h0, .inr (10, [.ref a1, .ref q1, .ref q2, .null, .int 0, .int 0])), (q1, .inl (g.2.2 0, 4096, .inl (fun _ => 0))), (q2, .inl (g.2.2 0, 12, .inl (fun _ => 0)))]) (k2 := 2) (m2 := 4108) rfl rfl rfl ?_
  refine cr_aload ok 0 dX10_init_26 rfl ?_
  refine cr_bipush ok (nI 12) dX10_init_27 (by decide) ?_
  refine cr_newa ok 0 12 dX10_init_29 rfl rfl ar_i (fun _ => rfl) (by decide) (Nat.le_of_ble_eq_true rfl) (Nat.le_of_ble_eq_true rfl) (Nat.le_of_ble_eq_true rfl) (fun q3 => ?_)
  refine cr_eq (ws2 := [(h0, .inr (10, [.ref a1, .ref q1, .ref q2, .null, .int 0, .int 0])), (q1, .inl (g.2.2 0, 4096, .inl (fun _ => 0))), (q2, .inl (g.2.2 0, 12, .inl (fun _ => 0))), (q3, .inl (g.2.2 0, 12, .inl (fun _ => 0)))]) (k2 := 3) (m2 := 4120) rfl rfl rfl ?_
  refine cr_putF ok 3 dX10_init_31 fp_X10_22 rfl rfl (Nat.le_of_ble_eq_true rfl) ?_
  refine cr_eq (ws2 := [(h0, .inr (10, [.ref a1, .ref q1, .ref q2, .ref q3, .int 0, .int 0])), (q1, .inl (g.2.2 0, 4096, .inl (fun _ => 0))), (q2, .inl (g.2.2 0, 12, .inl (fun _ => 0))), (q3, .inl (g.2.2 0, 12, .inl (fun _ => 0)))]) (k2 := 3) (m2 := 4120) rfl rfl rfl ?_
  refine cr_aload ok 0 dX10_init_34 rfl ?_
  refine cr_bipush ok ((-6)) dX10_init_35 (by decide) ?_
  refine cr_put ok 5 dX10_init_37 fp_X10_25 rfl rfl (Nat.le_of_ble_eq_true rfl) ?_
  refine cr_eq (ws2 := [(h0, .inr (10, [.ref a1, .ref q1, .ref q2, .ref q3, .int 0, .int (-6)])), (q1, .inl (g.2.2 0, 4096, .inl (fun _ => 0))), (q2, .inl (g.2.2 0, 12, .inl (fun _ => 0))), (q3, .inl (g.2.2 0, 12, .inl (fun _ => 0)))]) (k2 := 3) (m2 := 4120) rfl rfl rfl ?_
  exact cr_ret ok dX10_init_40 rfl (hk q1 q2 q3)
set_option maxRecDepth 100000 in
set_option maxHeartbeats 4000000 in
theorem ci_X3 {l : Launch} {g : Geo} {K : va_W → Prop} {h0 : Nat} {a1 : Nat} {a2 : Nat} {a3 : Nat} (hk : ∀ q1 q2 q3 : Nat, K [(h0, .inr (3, [.ref a1, .ref a2, .ref a3, .ref q1, .int 0, .int 0, .int 0, .ref q2, .ref q3])), (q1, .inl (g.2.2 0, 20, .inl (fun _ => 0))), (q2, .inl (g.2.2 0, 12, .inl (fun _ => 0))), (q3, .inl (g.2.2 0, 10, .inl (fun _ => 0)))]) : MCt l g m_X3_init 3 42 [.ref h0, .ref a1, .ref a2, .ref a3] [(h0, .inr (3, [.null, .null, .null, .null, .int 0, .int 0, .int 0, .null, .null]))] K := by
  refine MCt.intro _ rfl rfl (Nat.le_of_ble_eq_true rfl) rfl (fun x A ok => ?_)
  refine cr_aload ok 0 dX3_init_0 rfl ?_
  refine cr_obj ok dX3_init_1 oi_X3 ob_i ob_c (Nat.le_of_ble_eq_true rfl) (Nat.le_of_ble_eq_true rfl) ?_
  refine cr_aload ok 0 dX3_init_4 rfl ?_
  refine cr_aload ok 1 dX3_init_5 rfl ?_
  refine cr_putF ok 0 dX3_init_6 fp_X3_9 rfl rfl (Nat.le_of_ble_eq_true rfl) ?_
  refine cr_eq (ws2 := [(h0, .inr (3, [.ref a1, .null, .null, .null, .int 0, .int 0, .int 0, .null, .null]))]) (k2 := 0) (m2 := 0) rfl rfl rfl ?_
  refine cr_aload ok 0 dX3_init_9 rfl ?_
  refine cr_aload ok 2 dX3_init_10 rfl ?_
  refine cr_putF ok 1 dX3_init_11 fp_X3_15 rfl rfl (Nat.le_of_ble_eq_true rfl) ?_
  refine cr_eq (ws2 := [(h0, .inr (3, [.ref a1, .ref a2, .null, .null, .int 0, .int 0, .int 0, .null, .null]))]) (k2 := 0) (m2 := 0) rfl rfl rfl ?_
  refine cr_aload ok 0 dX3_init_14 rfl ?_
  refine cr_aload ok 3 dX3_init_15 rfl ?_
  refine cr_putF ok 2 dX3_init_16 fp_X3_19 rfl rfl (Nat.le_of_ble_eq_true rfl) ?_
  refine cr_eq (ws2 := [(h0, .inr (3, [.ref a1, .ref a2, .ref a3, .null, .int 0, .int 0, .int 0, .null, .null]))]) (k2 := 0) (m2 := 0) rfl rfl rfl ?_
  refine cr_aload ok 0 dX3_init_19 rfl ?_
  refine cr_bipush ok (nI 20) dX3_init_20 (by decide) ?_
  refine cr_newa ok 0 20 dX3_init_22 rfl rfl ar_i (fun _ => rfl) (by decide) (Nat.le_of_ble_eq_true rfl) (Nat.le_of_ble_eq_true rfl) (Nat.le_of_ble_eq_true rfl) (fun q1 => ?_)
  refine cr_eq (ws2 := [(h0, .inr (3, [.ref a1, .ref a2, .ref a3, .null, .int 0, .int 0, .int 0, .null, .null])), (q1, .inl (g.2.2 0, 20, .inl (fun _ => 0)))]) (k2 := 1) (m2 := 20) rfl rfl rfl ?_
  refine cr_putF ok 3 dX3_init_24 fp_X3_23 rfl rfl (Nat.le_of_ble_eq_true rfl) ?_
  refine cr_eq (ws2 := [(h0, .inr (3, [.ref a1, .ref a2, .ref a3, .ref q1, .int 0, .int 0, .int 0, .null, .null])), (q1, .inl (g.2.2 0, 20, .inl (fun _ => 0)))]) (k2 := 1) (m2 := 20) rfl rfl rfl ?_
  refine cr_aload ok 0 dX3_init_27 rfl ?_
  refine cr_bipush ok (nI 12) dX3_init_28 (by decide) ?_
  refine cr_newa ok 0 12 dX3_init_30 rfl rfl ar_i (fun _ => rfl) (by decide) (Nat.le_of_ble_eq_true rfl) (Nat.le_of_ble_eq_true rfl) (Nat.le_of_ble_eq_true rfl) (fun q2 => ?_)
  refine cr_eq (ws2 := [(h0, .inr (3, [.ref a1, .ref a2, .ref a3, .ref q1, .int 0, .int 0, .int 0, .null, .null])), (q1, .inl (g.2.2 0, 20, .inl (fun _ => 0))), (q2, .inl (g.2.2 0, 12, .inl (fun _ => 0)))]) (k2 := 2) (m2 := 32) rfl rfl rfl ?_
  refine cr_putF ok 7 dX3_init_32 fp_X3_27 rfl rfl (Nat.le_of_ble_eq_true rfl) ?_
  refine cr_eq (ws2 := [(h0, .inr (3, [.ref a1, .ref a2, .ref a3, .ref q1, .int 0, .int 0, .int 0, .ref q2, .null])), (q1, .inl (g.2.2 0, 20, .inl (fun _ => 0))), (q2, .inl (g.2.2 0, 12, .inl (fun _ => 0)))]) (k2 := 2) (m2 := 32) rfl rfl rfl ?_
  refine cr_aload ok 0 dX3_init_35 rfl ?_
  refine cr_bipush ok (nI 10) dX3_init_36 (by decide) ?_
  refine cr_newa ok 0 10 dX3_init_38 rfl rfl ar_i (fun _ => rfl) (by decide) (Nat.le_of_ble_eq_true rfl) (Nat.le_of_ble_eq_true rfl) (Nat.le_of_ble_eq_true rfl) (fun q3 => ?_)
  refine cr_eq (ws2 := [(h0, .inr (3, [.ref a1, .ref a2, .ref a3, .ref q1, .int 0, .int 0, .int 0, .ref q2, .null])), (q1, .inl (g.2.2 0, 20, .inl (fun _ => 0))), (q2, .inl (g.2.2 0, 12, .inl (fun _ => 0))), (q3, .inl (g.2.2 0, 10, .inl (fun _ => 0)))]) (k2 := 3) (m2 := 42) rfl rfl rfl ?_
  refine cr_putF ok 8 dX3_init_40 fp_X3_30 rfl rfl (Nat.le_of_ble_eq_true rfl) ?_
  refine cr_eq (ws2 := [(h0, .inr (3, [.ref a1, .ref a2, .ref a3, .ref q1, .int 0, .int 0, .int 0, .ref q2, .ref q3])), (q1, .inl (g.2.2 0, 20, .inl (fun _ => 0))), (q2, .inl (g.2.2 0, 12, .inl (fun _ => 0))), (q3, .inl (g.2.2 0, 10, .inl (fun _ => 0)))]) (k2 := 3) (m2 := 42) rfl rfl rfl ?_
  exact cr_ret ok dX3_init_43 rfl (hk q1 q2 q3)
set_option maxRecDepth 100000 in
set_option maxHeartbeats 4000000 in
theorem ci_X4 {l : Launch} {g : Geo} {K : va_W → Prop} {h0 : Nat} {a1 : Nat} {a2 : Nat} {a3 : Nat} (hk : ∀ q1 q2 q3 q4 : Nat, K [(h0, .inr (4, [.ref a1, .ref a2, .ref a3, .ref q1, .ref q2, .ref q3, .ref q4, .int 0])), (q1, .inl (g.2.2 0, 1024, .inl (fun _ => 0))), (q2, .inl (g.2.2 0, 52, .inl (fun _ => 0))), (q3, .inl (g.2.2 1, 4, .inl (fun _ => 0))), (q4, .inl (g.2.2 0, 4, .inl (fun _ => 0)))]) : MCt l g m_X4_init 4 1084 [.ref h0, .ref a1, .ref a2, .ref a3] [(h0, .inr (4, [.null, .null, .null, .null, .null, .null, .null, .int 0]))] K := by
  refine MCt.intro _ rfl rfl (Nat.le_of_ble_eq_true rfl) rfl (fun x A ok => ?_)
  refine cr_aload ok 0 dX4_init_0 rfl ?_
  refine cr_obj ok dX4_init_1 oi_X4 ob_i ob_c (Nat.le_of_ble_eq_true rfl) (Nat.le_of_ble_eq_true rfl) ?_
  refine cr_aload ok 0 dX4_init_4 rfl ?_
  refine cr_aload ok 1 dX4_init_5 rfl ?_
  refine cr_putF ok 0 dX4_init_6 fp_X4_9 rfl rfl (Nat.le_of_ble_eq_true rfl) ?_
  refine cr_eq (ws2 := [(h0, .inr (4, [.ref a1, .null, .null, .null, .null, .null, .null, .int 0]))]) (k2 := 0) (m2 := 0) rfl rfl rfl ?_
  refine cr_aload ok 0 dX4_init_9 rfl ?_
  refine cr_aload ok 2 dX4_init_10 rfl ?_
  refine cr_putF ok 1 dX4_init_11 fp_X4_15 rfl rfl (Nat.le_of_ble_eq_true rfl) ?_
  refine cr_eq (ws2 := [(h0, .inr (4, [.ref a1, .ref a2, .null, .null, .null, .null, .null, .int 0]))]) (k2 := 0) (m2 := 0) rfl rfl rfl ?_
  refine cr_aload ok 0 dX4_init_14 rfl ?_
  refine cr_aload ok 3 dX4_init_15 rfl ?_
  refine cr_putF ok 2 dX4_init_16 fp_X4_19 rfl rfl (Nat.le_of_ble_eq_true rfl) ?_
  refine cr_eq (ws2 := [(h0, .inr (4, [.ref a1, .ref a2, .ref a3, .null, .null, .null, .null, .int 0]))]) (k2 := 0) (m2 := 0) rfl rfl rfl ?_
  refine cr_aload ok 0 dX4_init_19 rfl ?_
  refine cr_sipush ok (nI 1024) dX4_init_20 (by decide) ?_
  refine cr_newa ok 0 1024 dX4_init_23 rfl rfl ar_i (fun _ => rfl) (by decide) (Nat.le_of_ble_eq_true rfl) (Nat.le_of_ble_eq_true rfl) (Nat.le_of_ble_eq_true rfl) (fun q1 => ?_)
  refine cr_eq (ws2 := [(h0, .inr (4, [.ref a1, .ref a2, .ref a3, .null, .null, .null, .null, .int 0])), (q1, .inl (g.2.2 0, 1024, .inl (fun _ => 0)))]) (k2 := 1) (m2 := 1024) rfl rfl rfl ?_
  refine cr_putF ok 3 dX4_init_25 fp_X4_23 rfl rfl (Nat.le_of_ble_eq_true rfl) ?_
  refine cr_eq (ws2 := [(h0, .inr (4, [.ref a1, .ref a2, .ref a3, .ref q1, .null, .null, .null, .int 0])), (q1, .inl (g.2.2 0, 1024, .inl (fun _ => 0)))]) (k2 := 1) (m2 := 1024) rfl rfl rfl ?_
  refine cr_aload ok 0 dX4_init_28 rfl ?_
  refine cr_bipush ok (nI 52) dX4_init_29 (by decide) ?_
  refine cr_newa ok 0 52 dX4_init_31 rfl rfl ar_i (fun _ => rfl) (by decide) (Nat.le_of_ble_eq_true rfl) (Nat.le_of_ble_eq_true rfl) (Nat.le_of_ble_eq_true rfl) (fun q2 => ?_)
  refine cr_eq (ws2 := [(h0, .inr (4, [.ref a1, .ref a2, .ref a3, .ref q1, .null, .null, .null, .int 0])), (q1, .inl (g.2.2 0, 1024, .inl (fun _ => 0))), (q2, .inl (g.2.2 0, 52, .inl (fun _ => 0)))]) (k2 := 2) (m2 := 1076) rfl rfl rfl ?_
  refine cr_putF ok 4 dX4_init_33 fp_X4_27 rfl rfl (Nat.le_of_ble_eq_true rfl) ?_
  refine cr_eq (ws2 := [(h0, .inr (4, [.ref a1, .ref a2, .ref a3, .ref q1, .ref q2, .null, .null, .int 0])), (q1, .inl (g.2.2 0, 1024, .inl (fun _ => 0))), (q2, .inl (g.2.2 0, 52, .inl (fun _ => 0)))]) (k2 := 2) (m2 := 1076) rfl rfl rfl ?_
  refine cr_aload ok 0 dX4_init_36 rfl ?_
  refine cr_iconst ok (nI 4) dX4_init_37 (by decide) ?_
  refine cr_newa ok 1 4 dX4_init_38 rfl rfl ar_b (fun _ => rfl) (by decide) (Nat.le_of_ble_eq_true rfl) (Nat.le_of_ble_eq_true rfl) (Nat.le_of_ble_eq_true rfl) (fun q3 => ?_)
  refine cr_eq (ws2 := [(h0, .inr (4, [.ref a1, .ref a2, .ref a3, .ref q1, .ref q2, .null, .null, .int 0])), (q1, .inl (g.2.2 0, 1024, .inl (fun _ => 0))), (q2, .inl (g.2.2 0, 52, .inl (fun _ => 0))), (q3, .inl (g.2.2 1, 4, .inl (fun _ => 0)))]) (k2 := 3) (m2 := 1080) rfl rfl rfl ?_
  refine cr_putF ok 5 dX4_init_40 fp_X4_30 rfl rfl (Nat.le_of_ble_eq_true rfl) ?_
  refine cr_eq (ws2 := [(h0, .inr (4, [.ref a1, .ref a2, .ref a3, .ref q1, .ref q2, .ref q3, .null, .int 0])), (q1, .inl (g.2.2 0, 1024, .inl (fun _ => 0))), (q2, .inl (g.2.2 0, 52, .inl (fun _ => 0))), (q3, .inl (g.2.2 1, 4, .inl (fun _ => 0)))]) (k2 := 3) (m2 := 1080) rfl rfl rfl ?_
  refine cr_aload ok 0 dX4_init_43 rfl ?_
  refine cr_iconst ok (nI 4) dX4_init_44 (by decide) ?_
  refine cr_newa ok 0 4 dX4_init_45 rfl rfl ar_i (fun _ => rfl) (by decide) (Nat.le_of_ble_eq_true rfl) (Nat.le_of_ble_eq_true rfl) (Nat.le_of_ble_eq_true rfl) (fun q4 => ?_)
  refine cr_eq (ws2 := [(h0, .inr (4, [.ref a1, .ref a2, .ref a3, .ref q1, .ref q2, .ref q3, .null, .int 0])), (q1, .inl (g.2.2 0, 1024, .inl (fun _ => 0))), (q2, .inl (g.2.2 0, 52, .inl (fun _ => 0))), (q3, .inl (g.2.2 1, 4, .inl (fun _ => 0))), (q4, .inl (g.2.2 0, 4, .inl (fun _ => 0)))]) (k2 := 4) (m2 := 1084) rfl rfl rfl ?_
  refine cr_putF ok 6 dX4_init_47 fp_X4_34 rfl rfl (Nat.le_of_ble_eq_true rfl) ?_
  refine cr_eq (ws2 := [(h0, .inr (4, [.ref a1, .ref a2, .ref a3, .ref q1, .ref q2, .ref q3, .ref q4, .int 0])), (q1, .inl (g.2.2 0, 1024, .inl (fun _ => 0))), (q2, .inl (g.2.2 0, 52, .inl (fun _ => 0))), (q3, .inl (g.2.2 1, 4, .inl (fun _ => 0))), (q4, .inl (g.2.2 0, 4, .inl (fun _ => 0)))]) (k2 := 4) (m2 := 1084) rfl rfl rfl ?_
  exact cr_ret ok dX4_init_50 rfl (hk q1 q2 q3 q4)
