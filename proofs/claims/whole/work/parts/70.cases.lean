/-! PART 70: the law: its 32 cases (written by program) -/
abbrev Lc (b : Nat) (gX gM : Geo) (i : Nat) : List (Nat × Value) := [(0, .ref b), (1, .ref (gX.ad 0)), (2, .ref (gM.ad 0)), (3, .int (nI i))]
theorem kL_13 : CalV m_L m_X11_say 13 1 := ⟨al5 (gt_in (List.mem_of_getElem? (i := 475) (by decide +kernel)) rfl) (gt_in (List.mem_of_getElem? (i := 476) (by decide +kernel)) rfl) (gt_in (List.mem_of_getElem? (i := 477) (by decide +kernel)) rfl) (gt_in (List.mem_of_getElem? (i := 60) (by decide +kernel)) rfl) (gt_in (List.mem_of_getElem? (i := 478) (by decide +kernel)) rfl), ⟨by decide, by decide, by decide +kernel⟩, by decide, by decide⟩
theorem kL_17 : CalV m_L m_X12_say 17 1 := ⟨al5 (gt_in (List.mem_of_getElem? (i := 1056) (by decide +kernel)) rfl) (gt_in (List.mem_of_getElem? (i := 1057) (by decide +kernel)) rfl) (gt_in (List.mem_of_getElem? (i := 1058) (by decide +kernel)) rfl) (gt_in (List.mem_of_getElem? (i := 73) (by decide +kernel)) rfl) (gt_in (List.mem_of_getElem? (i := 1059) (by decide +kernel)) rfl), ⟨by decide, by decide, by decide +kernel⟩, by decide, by decide⟩
theorem kL_18 : CalV m_L m_X11_wipe 18 0 := ⟨al5 (gt_in (List.mem_of_getElem? (i := 479) (by decide +kernel)) rfl) (gt_in (List.mem_of_getElem? (i := 480) (by decide +kernel)) rfl) (gt_in (List.mem_of_getElem? (i := 481) (by decide +kernel)) rfl) (gt_in (List.mem_of_getElem? (i := 60) (by decide +kernel)) rfl) (gt_in (List.mem_of_getElem? (i := 482) (by decide +kernel)) rfl), ⟨by decide, by decide, by decide +kernel⟩, by decide, by decide⟩
theorem kL_22 : CalV m_L m_X12_wipe 22 0 := ⟨al5 (gt_in (List.mem_of_getElem? (i := 1065) (by decide +kernel)) rfl) (gt_in (List.mem_of_getElem? (i := 1066) (by decide +kernel)) rfl) (gt_in (List.mem_of_getElem? (i := 1067) (by decide +kernel)) rfl) (gt_in (List.mem_of_getElem? (i := 73) (by decide +kernel)) rfl) (gt_in (List.mem_of_getElem? (i := 1068) (by decide +kernel)) rfl), ⟨by decide, by decide, by decide +kernel⟩, by decide, by decide⟩
theorem kL_23 : CalV m_L m_X11_fault 23 0 := ⟨al5 (gt_in (List.mem_of_getElem? (i := 483) (by decide +kernel)) rfl) (gt_in (List.mem_of_getElem? (i := 484) (by decide +kernel)) rfl) (gt_in (List.mem_of_getElem? (i := 485) (by decide +kernel)) rfl) (gt_in (List.mem_of_getElem? (i := 60) (by decide +kernel)) rfl) (gt_in (List.mem_of_getElem? (i := 486) (by decide +kernel)) rfl), ⟨by decide, by decide, by decide +kernel⟩, by decide, by decide⟩
theorem kL_26 : CalV m_L m_X12_fault 26 0 := ⟨al5 (gt_in (List.mem_of_getElem? (i := 1069) (by decide +kernel)) rfl) (gt_in (List.mem_of_getElem? (i := 1070) (by decide +kernel)) rfl) (gt_in (List.mem_of_getElem? (i := 1071) (by decide +kernel)) rfl) (gt_in (List.mem_of_getElem? (i := 73) (by decide +kernel)) rfl) (gt_in (List.mem_of_getElem? (i := 1072) (by decide +kernel)) rfl), ⟨by decide, by decide, by decide +kernel⟩, by decide, by decide⟩
theorem kL_27 : CalV m_L m_X11_word 27 1 := ⟨al5 (gt_in (List.mem_of_getElem? (i := 491) (by decide +kernel)) rfl) (gt_in (List.mem_of_getElem? (i := 492) (by decide +kernel)) rfl) (gt_in (List.mem_of_getElem? (i := 493) (by decide +kernel)) rfl) (gt_in (List.mem_of_getElem? (i := 60) (by decide +kernel)) rfl) (gt_in (List.mem_of_getElem? (i := 494) (by decide +kernel)) rfl), ⟨by decide, by decide, by decide +kernel⟩, by decide, by decide⟩
theorem kL_30 : CalV m_L m_X12_word 30 1 := ⟨al5 (gt_in (List.mem_of_getElem? (i := 1077) (by decide +kernel)) rfl) (gt_in (List.mem_of_getElem? (i := 1078) (by decide +kernel)) rfl) (gt_in (List.mem_of_getElem? (i := 1079) (by decide +kernel)) rfl) (gt_in (List.mem_of_getElem? (i := 73) (by decide +kernel)) rfl) (gt_in (List.mem_of_getElem? (i := 1080) (by decide +kernel)) rfl), ⟨by decide, by decide, by decide +kernel⟩, by decide, by decide⟩
theorem kL_31 : CalV m_L m_X11_about 31 2 := ⟨al5 (gt_in (List.mem_of_getElem? (i := 532) (by decide +kernel)) rfl) (gt_in (List.mem_of_getElem? (i := 533) (by decide +kernel)) rfl) (gt_in (List.mem_of_getElem? (i := 534) (by decide +kernel)) rfl) (gt_in (List.mem_of_getElem? (i := 60) (by decide +kernel)) rfl) (gt_in (List.mem_of_getElem? (i := 535) (by decide +kernel)) rfl), ⟨by decide, by decide, by decide +kernel⟩, by decide, by decide⟩
theorem kL_35 : CalV m_L m_X12_about 35 2 := ⟨al5 (gt_in (List.mem_of_getElem? (i := 1090) (by decide +kernel)) rfl) (gt_in (List.mem_of_getElem? (i := 1091) (by decide +kernel)) rfl) (gt_in (List.mem_of_getElem? (i := 1092) (by decide +kernel)) rfl) (gt_in (List.mem_of_getElem? (i := 73) (by decide +kernel)) rfl) (gt_in (List.mem_of_getElem? (i := 1093) (by decide +kernel)) rfl), ⟨by decide, by decide, by decide +kernel⟩, by decide, by decide⟩
theorem kL_36 : CalV m_L m_X11_often 36 2 := ⟨al5 (gt_in (List.mem_of_getElem? (i := 556) (by decide +kernel)) rfl) (gt_in (List.mem_of_getElem? (i := 557) (by decide +kernel)) rfl) (gt_in (List.mem_of_getElem? (i := 558) (by decide +kernel)) rfl) (gt_in (List.mem_of_getElem? (i := 60) (by decide +kernel)) rfl) (gt_in (List.mem_of_getElem? (i := 559) (by decide +kernel)) rfl), ⟨by decide, by decide, by decide +kernel⟩, by decide, by decide⟩
theorem kL_39 : CalV m_L m_X12_often 39 2 := ⟨al5 (gt_in (List.mem_of_getElem? (i := 1114) (by decide +kernel)) rfl) (gt_in (List.mem_of_getElem? (i := 1115) (by decide +kernel)) rfl) (gt_in (List.mem_of_getElem? (i := 1116) (by decide +kernel)) rfl) (gt_in (List.mem_of_getElem? (i := 73) (by decide +kernel)) rfl) (gt_in (List.mem_of_getElem? (i := 1117) (by decide +kernel)) rfl), ⟨by decide, by decide, by decide +kernel⟩, by decide, by decide⟩
theorem kL_40 : CalV m_L m_X11_has 40 3 := ⟨al5 (gt_in (List.mem_of_getElem? (i := 560) (by decide +kernel)) rfl) (gt_in (List.mem_of_getElem? (i := 561) (by decide +kernel)) rfl) (gt_in (List.mem_of_getElem? (i := 562) (by decide +kernel)) rfl) (gt_in (List.mem_of_getElem? (i := 60) (by decide +kernel)) rfl) (gt_in (List.mem_of_getElem? (i := 563) (by decide +kernel)) rfl), ⟨by decide, by decide, by decide +kernel⟩, by decide, by decide⟩
theorem kL_44 : CalV m_L m_X12_has 44 3 := ⟨al5 (gt_in (List.mem_of_getElem? (i := 1118) (by decide +kernel)) rfl) (gt_in (List.mem_of_getElem? (i := 1119) (by decide +kernel)) rfl) (gt_in (List.mem_of_getElem? (i := 1120) (by decide +kernel)) rfl) (gt_in (List.mem_of_getElem? (i := 73) (by decide +kernel)) rfl) (gt_in (List.mem_of_getElem? (i := 1121) (by decide +kernel)) rfl), ⟨by decide, by decide, by decide +kernel⟩, by decide, by decide⟩
theorem kL_45 : CalV m_L m_X11_common 45 1 := ⟨al5 (gt_in (List.mem_of_getElem? (i := 578) (by decide +kernel)) rfl) (gt_in (List.mem_of_getElem? (i := 579) (by decide +kernel)) rfl) (gt_in (List.mem_of_getElem? (i := 580) (by decide +kernel)) rfl) (gt_in (List.mem_of_getElem? (i := 60) (by decide +kernel)) rfl) (gt_in (List.mem_of_getElem? (i := 581) (by decide +kernel)) rfl), ⟨by decide, by decide, by decide +kernel⟩, by decide, by decide⟩
theorem kL_48 : CalV m_L m_X12_common 48 1 := ⟨al5 (gt_in (List.mem_of_getElem? (i := 1138) (by decide +kernel)) rfl) (gt_in (List.mem_of_getElem? (i := 1139) (by decide +kernel)) rfl) (gt_in (List.mem_of_getElem? (i := 1140) (by decide +kernel)) rfl) (gt_in (List.mem_of_getElem? (i := 73) (by decide +kernel)) rfl) (gt_in (List.mem_of_getElem? (i := 1141) (by decide +kernel)) rfl), ⟨by decide, by decide, by decide +kernel⟩, by decide, by decide⟩
theorem kL_49 : CalV m_L m_X11_ruled 49 1 := ⟨al5 (gt_in (List.mem_of_getElem? (i := 582) (by decide +kernel)) rfl) (gt_in (List.mem_of_getElem? (i := 583) (by decide +kernel)) rfl) (gt_in (List.mem_of_getElem? (i := 584) (by decide +kernel)) rfl) (gt_in (List.mem_of_getElem? (i := 60) (by decide +kernel)) rfl) (gt_in (List.mem_of_getElem? (i := 585) (by decide +kernel)) rfl), ⟨by decide, by decide, by decide +kernel⟩, by decide, by decide⟩
theorem kL_53 : CalV m_L m_X12_ruled 53 1 := ⟨al5 (gt_in (List.mem_of_getElem? (i := 1142) (by decide +kernel)) rfl) (gt_in (List.mem_of_getElem? (i := 1143) (by decide +kernel)) rfl) (gt_in (List.mem_of_getElem? (i := 1144) (by decide +kernel)) rfl) (gt_in (List.mem_of_getElem? (i := 73) (by decide +kernel)) rfl) (gt_in (List.mem_of_getElem? (i := 1145) (by decide +kernel)) rfl), ⟨by decide, by decide, by decide +kernel⟩, by decide, by decide⟩
theorem kL_54 : CalV m_L m_X11_knows 54 3 := ⟨al5 (gt_in (List.mem_of_getElem? (i := 594) (by decide +kernel)) rfl) (gt_in (List.mem_of_getElem? (i := 595) (by decide +kernel)) rfl) (gt_in (List.mem_of_getElem? (i := 596) (by decide +kernel)) rfl) (gt_in (List.mem_of_getElem? (i := 60) (by decide +kernel)) rfl) (gt_in (List.mem_of_getElem? (i := 597) (by decide +kernel)) rfl), ⟨by decide, by decide, by decide +kernel⟩, by decide, by decide⟩
theorem kL_58 : CalV m_L m_X12_knows 58 3 := ⟨al5 (gt_in (List.mem_of_getElem? (i := 1146) (by decide +kernel)) rfl) (gt_in (List.mem_of_getElem? (i := 1147) (by decide +kernel)) rfl) (gt_in (List.mem_of_getElem? (i := 1148) (by decide +kernel)) rfl) (gt_in (List.mem_of_getElem? (i := 73) (by decide +kernel)) rfl) (gt_in (List.mem_of_getElem? (i := 1149) (by decide +kernel)) rfl), ⟨by decide, by decide, by decide +kernel⟩, by decide, by decide⟩
theorem kL_59 : CalV m_L m_X11_mix 59 3 := ⟨al5 (gt_in (List.mem_of_getElem? (i := 612) (by decide +kernel)) rfl) (gt_in (List.mem_of_getElem? (i := 613) (by decide +kernel)) rfl) (gt_in (List.mem_of_getElem? (i := 614) (by decide +kernel)) rfl) (gt_in (List.mem_of_getElem? (i := 60) (by decide +kernel)) rfl) (gt_in (List.mem_of_getElem? (i := 615) (by decide +kernel)) rfl), ⟨by decide, by decide, by decide +kernel⟩, by decide, by decide⟩
theorem kL_62 : CalV m_L m_X12_mix 62 3 := ⟨al5 (gt_in (List.mem_of_getElem? (i := 1155) (by decide +kernel)) rfl) (gt_in (List.mem_of_getElem? (i := 1156) (by decide +kernel)) rfl) (gt_in (List.mem_of_getElem? (i := 1157) (by decide +kernel)) rfl) (gt_in (List.mem_of_getElem? (i := 73) (by decide +kernel)) rfl) (gt_in (List.mem_of_getElem? (i := 1158) (by decide +kernel)) rfl), ⟨by decide, by decide, by decide +kernel⟩, by decide, by decide⟩
theorem kL_63 : CalV m_L m_X11_read 63 3 := ⟨al5 (gt_in (List.mem_of_getElem? (i := 626) (by decide +kernel)) rfl) (gt_in (List.mem_of_getElem? (i := 627) (by decide +kernel)) rfl) (gt_in (List.mem_of_getElem? (i := 628) (by decide +kernel)) rfl) (gt_in (List.mem_of_getElem? (i := 60) (by decide +kernel)) rfl) (gt_in (List.mem_of_getElem? (i := 629) (by decide +kernel)) rfl), ⟨by decide, by decide, by decide +kernel⟩, by decide, by decide⟩
theorem kL_66 : CalV m_L m_X12_read 66 3 := ⟨al5 (gt_in (List.mem_of_getElem? (i := 1159) (by decide +kernel)) rfl) (gt_in (List.mem_of_getElem? (i := 1160) (by decide +kernel)) rfl) (gt_in (List.mem_of_getElem? (i := 1161) (by decide +kernel)) rfl) (gt_in (List.mem_of_getElem? (i := 73) (by decide +kernel)) rfl) (gt_in (List.mem_of_getElem? (i := 1162) (by decide +kernel)) rfl), ⟨by decide, by decide, by decide +kernel⟩, by decide, by decide⟩
theorem kL_67 : CalV m_L m_X11_share 67 1 := ⟨al5 (gt_in (List.mem_of_getElem? (i := 659) (by decide +kernel)) rfl) (gt_in (List.mem_of_getElem? (i := 660) (by decide +kernel)) rfl) (gt_in (List.mem_of_getElem? (i := 661) (by decide +kernel)) rfl) (gt_in (List.mem_of_getElem? (i := 60) (by decide +kernel)) rfl) (gt_in (List.mem_of_getElem? (i := 662) (by decide +kernel)) rfl), ⟨by decide, by decide, by decide +kernel⟩, by decide, by decide⟩
theorem kL_70 : CalV m_L m_X12_share 70 1 := ⟨al5 (gt_in (List.mem_of_getElem? (i := 1183) (by decide +kernel)) rfl) (gt_in (List.mem_of_getElem? (i := 1184) (by decide +kernel)) rfl) (gt_in (List.mem_of_getElem? (i := 1185) (by decide +kernel)) rfl) (gt_in (List.mem_of_getElem? (i := 73) (by decide +kernel)) rfl) (gt_in (List.mem_of_getElem? (i := 1186) (by decide +kernel)) rfl), ⟨by decide, by decide, by decide +kernel⟩, by decide, by decide⟩
theorem kL_71 : CalV m_L m_X11_gives 71 2 := ⟨al5 (gt_in (List.mem_of_getElem? (i := 673) (by decide +kernel)) rfl) (gt_in (List.mem_of_getElem? (i := 674) (by decide +kernel)) rfl) (gt_in (List.mem_of_getElem? (i := 675) (by decide +kernel)) rfl) (gt_in (List.mem_of_getElem? (i := 60) (by decide +kernel)) rfl) (gt_in (List.mem_of_getElem? (i := 676) (by decide +kernel)) rfl), ⟨by decide, by decide, by decide +kernel⟩, by decide, by decide⟩
theorem kL_74 : CalV m_L m_X12_gives 74 2 := ⟨al5 (gt_in (List.mem_of_getElem? (i := 1195) (by decide +kernel)) rfl) (gt_in (List.mem_of_getElem? (i := 1196) (by decide +kernel)) rfl) (gt_in (List.mem_of_getElem? (i := 1197) (by decide +kernel)) rfl) (gt_in (List.mem_of_getElem? (i := 73) (by decide +kernel)) rfl) (gt_in (List.mem_of_getElem? (i := 1198) (by decide +kernel)) rfl), ⟨by decide, by decide, by decide +kernel⟩, by decide, by decide⟩
theorem kL_75 : CalV m_L m_X11_order 75 1 := ⟨al5 (gt_in (List.mem_of_getElem? (i := 686) (by decide +kernel)) rfl) (gt_in (List.mem_of_getElem? (i := 687) (by decide +kernel)) rfl) (gt_in (List.mem_of_getElem? (i := 688) (by decide +kernel)) rfl) (gt_in (List.mem_of_getElem? (i := 60) (by decide +kernel)) rfl) (gt_in (List.mem_of_getElem? (i := 689) (by decide +kernel)) rfl), ⟨by decide, by decide, by decide +kernel⟩, by decide, by decide⟩
theorem kL_78 : CalV m_L m_X12_order 78 1 := ⟨al5 (gt_in (List.mem_of_getElem? (i := 1207) (by decide +kernel)) rfl) (gt_in (List.mem_of_getElem? (i := 1208) (by decide +kernel)) rfl) (gt_in (List.mem_of_getElem? (i := 1209) (by decide +kernel)) rfl) (gt_in (List.mem_of_getElem? (i := 73) (by decide +kernel)) rfl) (gt_in (List.mem_of_getElem? (i := 1210) (by decide +kernel)) rfl), ⟨by decide, by decide, by decide +kernel⟩, by decide, by decide⟩
theorem kL_79 : CalV m_L m_X11_most 79 3 := ⟨al5 (gt_in (List.mem_of_getElem? (i := 716) (by decide +kernel)) rfl) (gt_in (List.mem_of_getElem? (i := 717) (by decide +kernel)) rfl) (gt_in (List.mem_of_getElem? (i := 718) (by decide +kernel)) rfl) (gt_in (List.mem_of_getElem? (i := 60) (by decide +kernel)) rfl) (gt_in (List.mem_of_getElem? (i := 719) (by decide +kernel)) rfl), ⟨by decide, by decide, by decide +kernel⟩, by decide, by decide⟩
theorem kL_82 : CalV m_L m_X12_most 82 3 := ⟨al5 (gt_in (List.mem_of_getElem? (i := 1216) (by decide +kernel)) rfl) (gt_in (List.mem_of_getElem? (i := 1217) (by decide +kernel)) rfl) (gt_in (List.mem_of_getElem? (i := 1218) (by decide +kernel)) rfl) (gt_in (List.mem_of_getElem? (i := 73) (by decide +kernel)) rfl) (gt_in (List.mem_of_getElem? (i := 1219) (by decide +kernel)) rfl), ⟨by decide, by decide, by decide +kernel⟩, by decide, by decide⟩
theorem kL_83 : CalV m_L m_X11_tale 83 2 := ⟨al5 (gt_in (List.mem_of_getElem? (i := 739) (by decide +kernel)) rfl) (gt_in (List.mem_of_getElem? (i := 740) (by decide +kernel)) rfl) (gt_in (List.mem_of_getElem? (i := 741) (by decide +kernel)) rfl) (gt_in (List.mem_of_getElem? (i := 60) (by decide +kernel)) rfl) (gt_in (List.mem_of_getElem? (i := 742) (by decide +kernel)) rfl), ⟨by decide, by decide, by decide +kernel⟩, by decide, by decide⟩
theorem kL_86 : CalV m_L m_X12_tale 86 2 := ⟨al5 (gt_in (List.mem_of_getElem? (i := 1228) (by decide +kernel)) rfl) (gt_in (List.mem_of_getElem? (i := 1229) (by decide +kernel)) rfl) (gt_in (List.mem_of_getElem? (i := 1230) (by decide +kernel)) rfl) (gt_in (List.mem_of_getElem? (i := 73) (by decide +kernel)) rfl) (gt_in (List.mem_of_getElem? (i := 1231) (by decide +kernel)) rfl), ⟨by decide, by decide, by decide +kernel⟩, by decide, by decide⟩
theorem kL_87 : CalV m_L m_X11_answer 87 2 := ⟨al5 (gt_in (List.mem_of_getElem? (i := 774) (by decide +kernel)) rfl) (gt_in (List.mem_of_getElem? (i := 775) (by decide +kernel)) rfl) (gt_in (List.mem_of_getElem? (i := 776) (by decide +kernel)) rfl) (gt_in (List.mem_of_getElem? (i := 60) (by decide +kernel)) rfl) (gt_in (List.mem_of_getElem? (i := 777) (by decide +kernel)) rfl), ⟨by decide, by decide, by decide +kernel⟩, by decide, by decide⟩
theorem kL_91 : CalV m_L m_X12_answer 91 2 := ⟨al5 (gt_in (List.mem_of_getElem? (i := 1244) (by decide +kernel)) rfl) (gt_in (List.mem_of_getElem? (i := 1245) (by decide +kernel)) rfl) (gt_in (List.mem_of_getElem? (i := 1246) (by decide +kernel)) rfl) (gt_in (List.mem_of_getElem? (i := 73) (by decide +kernel)) rfl) (gt_in (List.mem_of_getElem? (i := 1247) (by decide +kernel)) rfl), ⟨by decide, by decide, by decide +kernel⟩, by decide, by decide⟩
theorem kL_92 : CalV m_L m_X11_clear 92 0 := ⟨al5 (gt_in (List.mem_of_getElem? (i := 782) (by decide +kernel)) rfl) (gt_in (List.mem_of_getElem? (i := 783) (by decide +kernel)) rfl) (gt_in (List.mem_of_getElem? (i := 784) (by decide +kernel)) rfl) (gt_in (List.mem_of_getElem? (i := 60) (by decide +kernel)) rfl) (gt_in (List.mem_of_getElem? (i := 785) (by decide +kernel)) rfl), ⟨by decide, by decide, by decide +kernel⟩, by decide, by decide⟩
theorem kL_95 : CalV m_L m_X12_clear 95 0 := ⟨al5 (gt_in (List.mem_of_getElem? (i := 1248) (by decide +kernel)) rfl) (gt_in (List.mem_of_getElem? (i := 1249) (by decide +kernel)) rfl) (gt_in (List.mem_of_getElem? (i := 1250) (by decide +kernel)) rfl) (gt_in (List.mem_of_getElem? (i := 73) (by decide +kernel)) rfl) (gt_in (List.mem_of_getElem? (i := 1251) (by decide +kernel)) rfl), ⟨by decide, by decide, by decide +kernel⟩, by decide, by decide⟩
theorem kL_96 : CalV m_L m_X11_may 96 0 := ⟨al5 (gt_in (List.mem_of_getElem? (i := 786) (by decide +kernel)) rfl) (gt_in (List.mem_of_getElem? (i := 787) (by decide +kernel)) rfl) (gt_in (List.mem_of_getElem? (i := 788) (by decide +kernel)) rfl) (gt_in (List.mem_of_getElem? (i := 60) (by decide +kernel)) rfl) (gt_in (List.mem_of_getElem? (i := 789) (by decide +kernel)) rfl), ⟨by decide, by decide, by decide +kernel⟩, by decide, by decide⟩
theorem kL_99 : CalV m_L m_X12_may 99 0 := ⟨al5 (gt_in (List.mem_of_getElem? (i := 1252) (by decide +kernel)) rfl) (gt_in (List.mem_of_getElem? (i := 1253) (by decide +kernel)) rfl) (gt_in (List.mem_of_getElem? (i := 1254) (by decide +kernel)) rfl) (gt_in (List.mem_of_getElem? (i := 73) (by decide +kernel)) rfl) (gt_in (List.mem_of_getElem? (i := 1255) (by decide +kernel)) rfl), ⟨by decide, by decide, by decide +kernel⟩, by decide, by decide⟩
theorem kL_100 : CalV m_L m_X11_lacks 100 2 := ⟨al5 (gt_in (List.mem_of_getElem? (i := 803) (by decide +kernel)) rfl) (gt_in (List.mem_of_getElem? (i := 804) (by decide +kernel)) rfl) (gt_in (List.mem_of_getElem? (i := 805) (by decide +kernel)) rfl) (gt_in (List.mem_of_getElem? (i := 60) (by decide +kernel)) rfl) (gt_in (List.mem_of_getElem? (i := 806) (by decide +kernel)) rfl), ⟨by decide, by decide, by decide +kernel⟩, by decide, by decide⟩
theorem kL_104 : CalV m_L m_X12_lacks 104 2 := ⟨al5 (gt_in (List.mem_of_getElem? (i := 1268) (by decide +kernel)) rfl) (gt_in (List.mem_of_getElem? (i := 1269) (by decide +kernel)) rfl) (gt_in (List.mem_of_getElem? (i := 1270) (by decide +kernel)) rfl) (gt_in (List.mem_of_getElem? (i := 73) (by decide +kernel)) rfl) (gt_in (List.mem_of_getElem? (i := 1271) (by decide +kernel)) rfl), ⟨by decide, by decide, by decide +kernel⟩, by decide, by decide⟩
theorem kL_105 : CalV m_L m_X11_tells 105 0 := ⟨al5 (gt_in (List.mem_of_getElem? (i := 808) (by decide +kernel)) rfl) (gt_in (List.mem_of_getElem? (i := 809) (by decide +kernel)) rfl) (gt_in (List.mem_of_getElem? (i := 810) (by decide +kernel)) rfl) (gt_in (List.mem_of_getElem? (i := 60) (by decide +kernel)) rfl) (gt_in (List.mem_of_getElem? (i := 811) (by decide +kernel)) rfl), ⟨by decide, by decide, by decide +kernel⟩, by decide, by decide⟩
theorem kL_108 : CalV m_L m_X12_tells 108 0 := ⟨al5 (gt_in (List.mem_of_getElem? (i := 1273) (by decide +kernel)) rfl) (gt_in (List.mem_of_getElem? (i := 1274) (by decide +kernel)) rfl) (gt_in (List.mem_of_getElem? (i := 1275) (by decide +kernel)) rfl) (gt_in (List.mem_of_getElem? (i := 73) (by decide +kernel)) rfl) (gt_in (List.mem_of_getElem? (i := 1276) (by decide +kernel)) rfl), ⟨by decide, by decide, by decide +kernel⟩, by decide, by decide⟩
theorem kL_109 : CalV m_L m_X11_test 109 0 := ⟨al5 (gt_in (List.mem_of_getElem? (i := 822) (by decide +kernel)) rfl) (gt_in (List.mem_of_getElem? (i := 823) (by decide +kernel)) rfl) (gt_in (List.mem_of_getElem? (i := 824) (by decide +kernel)) rfl) (gt_in (List.mem_of_getElem? (i := 60) (by decide +kernel)) rfl) (gt_in (List.mem_of_getElem? (i := 825) (by decide +kernel)) rfl), ⟨by decide, by decide, by decide +kernel⟩, by decide, by decide⟩
theorem kL_112 : CalV m_L m_X12_test 112 0 := ⟨al5 (gt_in (List.mem_of_getElem? (i := 1277) (by decide +kernel)) rfl) (gt_in (List.mem_of_getElem? (i := 1278) (by decide +kernel)) rfl) (gt_in (List.mem_of_getElem? (i := 1279) (by decide +kernel)) rfl) (gt_in (List.mem_of_getElem? (i := 73) (by decide +kernel)) rfl) (gt_in (List.mem_of_getElem? (i := 1280) (by decide +kernel)) rfl), ⟨by decide, by decide, by decide +kernel⟩, by decide, by decide⟩
theorem kL_113 : CalV m_L m_X11_respelt 113 2 := ⟨al5 (gt_in (List.mem_of_getElem? (i := 840) (by decide +kernel)) rfl) (gt_in (List.mem_of_getElem? (i := 841) (by decide +kernel)) rfl) (gt_in (List.mem_of_getElem? (i := 842) (by decide +kernel)) rfl) (gt_in (List.mem_of_getElem? (i := 60) (by decide +kernel)) rfl) (gt_in (List.mem_of_getElem? (i := 843) (by decide +kernel)) rfl), ⟨by decide, by decide, by decide +kernel⟩, by decide, by decide⟩
theorem kL_116 : CalV m_L m_X12_respelt 116 2 := ⟨al5 (gt_in (List.mem_of_getElem? (i := 1285) (by decide +kernel)) rfl) (gt_in (List.mem_of_getElem? (i := 1286) (by decide +kernel)) rfl) (gt_in (List.mem_of_getElem? (i := 1287) (by decide +kernel)) rfl) (gt_in (List.mem_of_getElem? (i := 73) (by decide +kernel)) rfl) (gt_in (List.mem_of_getElem? (i := 1288) (by decide +kernel)) rfl), ⟨by decide, by decide, by decide +kernel⟩, by decide, by decide⟩
theorem kL_117 : CalV m_L m_X11_price 117 1 := ⟨al5 (gt_in (List.mem_of_getElem? (i := 848) (by decide +kernel)) rfl) (gt_in (List.mem_of_getElem? (i := 849) (by decide +kernel)) rfl) (gt_in (List.mem_of_getElem? (i := 850) (by decide +kernel)) rfl) (gt_in (List.mem_of_getElem? (i := 60) (by decide +kernel)) rfl) (gt_in (List.mem_of_getElem? (i := 851) (by decide +kernel)) rfl), ⟨by decide, by decide, by decide +kernel⟩, by decide, by decide⟩
theorem kL_120 : CalV m_L m_X12_price 120 1 := ⟨al5 (gt_in (List.mem_of_getElem? (i := 1298) (by decide +kernel)) rfl) (gt_in (List.mem_of_getElem? (i := 1299) (by decide +kernel)) rfl) (gt_in (List.mem_of_getElem? (i := 1300) (by decide +kernel)) rfl) (gt_in (List.mem_of_getElem? (i := 73) (by decide +kernel)) rfl) (gt_in (List.mem_of_getElem? (i := 1301) (by decide +kernel)) rfl), ⟨by decide, by decide, by decide +kernel⟩, by decide, by decide⟩
theorem kL_121 : CalV m_L m_X11_lessons 121 2 := ⟨al5 (gt_in (List.mem_of_getElem? (i := 865) (by decide +kernel)) rfl) (gt_in (List.mem_of_getElem? (i := 866) (by decide +kernel)) rfl) (gt_in (List.mem_of_getElem? (i := 867) (by decide +kernel)) rfl) (gt_in (List.mem_of_getElem? (i := 60) (by decide +kernel)) rfl) (gt_in (List.mem_of_getElem? (i := 868) (by decide +kernel)) rfl), ⟨by decide, by decide, by decide +kernel⟩, by decide, by decide⟩
theorem kL_124 : CalV m_L m_X12_lessons 124 2 := ⟨al5 (gt_in (List.mem_of_getElem? (i := 1306) (by decide +kernel)) rfl) (gt_in (List.mem_of_getElem? (i := 1307) (by decide +kernel)) rfl) (gt_in (List.mem_of_getElem? (i := 1308) (by decide +kernel)) rfl) (gt_in (List.mem_of_getElem? (i := 73) (by decide +kernel)) rfl) (gt_in (List.mem_of_getElem? (i := 1309) (by decide +kernel)) rfl), ⟨by decide, by decide, by decide +kernel⟩, by decide, by decide⟩
theorem kL_125 : CalV m_L m_X11_shared 125 2 := ⟨al5 (gt_in (List.mem_of_getElem? (i := 889) (by decide +kernel)) rfl) (gt_in (List.mem_of_getElem? (i := 890) (by decide +kernel)) rfl) (gt_in (List.mem_of_getElem? (i := 891) (by decide +kernel)) rfl) (gt_in (List.mem_of_getElem? (i := 60) (by decide +kernel)) rfl) (gt_in (List.mem_of_getElem? (i := 892) (by decide +kernel)) rfl), ⟨by decide, by decide, by decide +kernel⟩, by decide, by decide⟩
theorem kL_128 : CalV m_L m_X12_shared 128 2 := ⟨al5 (gt_in (List.mem_of_getElem? (i := 1315) (by decide +kernel)) rfl) (gt_in (List.mem_of_getElem? (i := 1316) (by decide +kernel)) rfl) (gt_in (List.mem_of_getElem? (i := 1317) (by decide +kernel)) rfl) (gt_in (List.mem_of_getElem? (i := 73) (by decide +kernel)) rfl) (gt_in (List.mem_of_getElem? (i := 1318) (by decide +kernel)) rfl), ⟨by decide, by decide, by decide +kernel⟩, by decide, by decide⟩
theorem kL_129 : CalV m_L m_X11_itself 129 3 := ⟨al5 (gt_in (List.mem_of_getElem? (i := 903) (by decide +kernel)) rfl) (gt_in (List.mem_of_getElem? (i := 904) (by decide +kernel)) rfl) (gt_in (List.mem_of_getElem? (i := 905) (by decide +kernel)) rfl) (gt_in (List.mem_of_getElem? (i := 60) (by decide +kernel)) rfl) (gt_in (List.mem_of_getElem? (i := 906) (by decide +kernel)) rfl), ⟨by decide, by decide, by decide +kernel⟩, by decide, by decide⟩
theorem kL_132 : CalV m_L m_X12_itself 132 3 := ⟨al5 (gt_in (List.mem_of_getElem? (i := 1323) (by decide +kernel)) rfl) (gt_in (List.mem_of_getElem? (i := 1324) (by decide +kernel)) rfl) (gt_in (List.mem_of_getElem? (i := 1325) (by decide +kernel)) rfl) (gt_in (List.mem_of_getElem? (i := 73) (by decide +kernel)) rfl) (gt_in (List.mem_of_getElem? (i := 1326) (by decide +kernel)) rfl), ⟨by decide, by decide, by decide +kernel⟩, by decide, by decide⟩
theorem kL_133 : CalV m_L m_X11_line 133 1 := ⟨al5 (gt_in (List.mem_of_getElem? (i := 914) (by decide +kernel)) rfl) (gt_in (List.mem_of_getElem? (i := 915) (by decide +kernel)) rfl) (gt_in (List.mem_of_getElem? (i := 916) (by decide +kernel)) rfl) (gt_in (List.mem_of_getElem? (i := 60) (by decide +kernel)) rfl) (gt_in (List.mem_of_getElem? (i := 917) (by decide +kernel)) rfl), ⟨by decide, by decide, by decide +kernel⟩, by decide, by decide⟩
theorem kL_136 : CalV m_L m_X12_line 136 1 := ⟨al5 (gt_in (List.mem_of_getElem? (i := 1336) (by decide +kernel)) rfl) (gt_in (List.mem_of_getElem? (i := 1337) (by decide +kernel)) rfl) (gt_in (List.mem_of_getElem? (i := 1338) (by decide +kernel)) rfl) (gt_in (List.mem_of_getElem? (i := 73) (by decide +kernel)) rfl) (gt_in (List.mem_of_getElem? (i := 1339) (by decide +kernel)) rfl), ⟨by decide, by decide, by decide +kernel⟩, by decide, by decide⟩
theorem kL_137 : CalV m_L m_X11_image 137 1 := ⟨al5 (gt_in (List.mem_of_getElem? (i := 922) (by decide +kernel)) rfl) (gt_in (List.mem_of_getElem? (i := 923) (by decide +kernel)) rfl) (gt_in (List.mem_of_getElem? (i := 924) (by decide +kernel)) rfl) (gt_in (List.mem_of_getElem? (i := 60) (by decide +kernel)) rfl) (gt_in (List.mem_of_getElem? (i := 925) (by decide +kernel)) rfl), ⟨by decide, by decide, by decide +kernel⟩, by decide, by decide⟩
theorem kL_140 : CalV m_L m_X12_image 140 1 := ⟨al5 (gt_in (List.mem_of_getElem? (i := 1340) (by decide +kernel)) rfl) (gt_in (List.mem_of_getElem? (i := 1341) (by decide +kernel)) rfl) (gt_in (List.mem_of_getElem? (i := 1342) (by decide +kernel)) rfl) (gt_in (List.mem_of_getElem? (i := 73) (by decide +kernel)) rfl) (gt_in (List.mem_of_getElem? (i := 1343) (by decide +kernel)) rfl), ⟨by decide, by decide, by decide +kernel⟩, by decide, by decide⟩
theorem kL_141 : CalV m_L m_X11_restore 141 1 := ⟨al5 (gt_in (List.mem_of_getElem? (i := 946) (by decide +kernel)) rfl) (gt_in (List.mem_of_getElem? (i := 947) (by decide +kernel)) rfl) (gt_in (List.mem_of_getElem? (i := 948) (by decide +kernel)) rfl) (gt_in (List.mem_of_getElem? (i := 60) (by decide +kernel)) rfl) (gt_in (List.mem_of_getElem? (i := 949) (by decide +kernel)) rfl), ⟨by decide, by decide, by decide +kernel⟩, by decide, by decide⟩
theorem kL_144 : CalV m_L m_X12_restore 144 1 := ⟨al5 (gt_in (List.mem_of_getElem? (i := 1352) (by decide +kernel)) rfl) (gt_in (List.mem_of_getElem? (i := 1353) (by decide +kernel)) rfl) (gt_in (List.mem_of_getElem? (i := 1354) (by decide +kernel)) rfl) (gt_in (List.mem_of_getElem? (i := 73) (by decide +kernel)) rfl) (gt_in (List.mem_of_getElem? (i := 1355) (by decide +kernel)) rfl), ⟨by decide, by decide, by decide +kernel⟩, by decide, by decide⟩
theorem kL_145 : CalV m_L m_X11_told 145 1 := ⟨al5 (gt_in (List.mem_of_getElem? (i := 950) (by decide +kernel)) rfl) (gt_in (List.mem_of_getElem? (i := 951) (by decide +kernel)) rfl) (gt_in (List.mem_of_getElem? (i := 952) (by decide +kernel)) rfl) (gt_in (List.mem_of_getElem? (i := 60) (by decide +kernel)) rfl) (gt_in (List.mem_of_getElem? (i := 953) (by decide +kernel)) rfl), ⟨by decide, by decide, by decide +kernel⟩, by decide, by decide⟩
theorem kL_148 : CalV m_L m_X12_told 148 1 := ⟨al5 (gt_in (List.mem_of_getElem? (i := 1356) (by decide +kernel)) rfl) (gt_in (List.mem_of_getElem? (i := 1357) (by decide +kernel)) rfl) (gt_in (List.mem_of_getElem? (i := 1358) (by decide +kernel)) rfl) (gt_in (List.mem_of_getElem? (i := 73) (by decide +kernel)) rfl) (gt_in (List.mem_of_getElem? (i := 1359) (by decide +kernel)) rfl), ⟨by decide, by decide, by decide +kernel⟩, by decide, by decide⟩
section CASES
variable {l : Launch} {x : Cx} {gX gM : Geo} {b N : Nat} {xs : Nat → Int32} {Q : State → Prop} {i : Nat} {s : Sg} {SX SM : Mem}
theorem lc_0 (ok : OkL x gX gM b N xs) (hi : i + 3 < N) (hs : SgOk s) (hX : XRep SX s) (hM : MRep SM s) (E : ∀ s2 SX2 SM2, SgOk s2 → XRep SX2 s2 → MRep SM2 s2 → LW l x gX gM Q 1081 (Lc b gX gM i) [] SX2 SM2) : LW l x gX gM Q 176 (Lc b gX gM i) [] SX SM := by
  refine lr_aload ok 1 dL_law_176 rfl ?_
  refine lr_scr ok (i := i) (j := 1) (by omega) rfl rfl dL_law_177 dL_law_178 dL_law_179 (by decide) dL_law_180 dL_law_181 ?_
  refine lr_xi ok (As := [.int (xs (i + 1))]) _ dL_law_182 kL_13 rfl rfl rfl (Nat.le_of_ble_eq_true rfl) ?_
  refine px_say hs hX (fun SX2 hX2 => ?_)
  refine lr_aload ok 2 dL_law_185 rfl ?_
  refine lr_scr ok (i := i) (j := 1) (by omega) rfl rfl dL_law_186 dL_law_187 dL_law_188 (by decide) dL_law_189 dL_law_190 ?_
  refine lr_mi ok (As := [.int (xs (i + 1))]) _ dL_law_191 kL_17 rfl rfl rfl (Nat.le_of_ble_eq_true rfl) ?_
  refine pm_say hs hM (fun SM2 hM2 => ?_)
  refine lr_eqI ok 1081 dL_law_194 (by decide) ?_
  exact E _ SX2 SM2 (ok_say (v := xs (i + 1)) hs) hX2 hM2
theorem lc_1 (ok : OkL x gX gM b N xs) (hi : i + 3 < N) (hs : SgOk s) (hX : XRep SX s) (hM : MRep SM s) (E : ∀ s2 SX2 SM2, SgOk s2 → XRep SX2 s2 → MRep SM2 s2 → LW l x gX gM Q 1081 (Lc b gX gM i) [] SX2 SM2) : LW l x gX gM Q 199 (Lc b gX gM i) [] SX SM := by
  refine lr_aload ok 1 dL_law_199 rfl ?_
  refine lr_xi ok (As := []) _ dL_law_200 kL_18 rfl rfl rfl (Nat.le_of_ble_eq_true rfl) ?_
  refine px_wipe hs hX (fun SX2 hX2 => ?_)
  refine lr_aload ok 2 dL_law_203 rfl ?_
  refine lr_mi ok (As := []) _ dL_law_204 kL_22 rfl rfl rfl (Nat.le_of_ble_eq_true rfl) ?_
  refine pm_wipe hs hM (fun SM2 hM2 => ?_)
  refine lr_eqI ok 1081 dL_law_207 (by decide) ?_
  exact E _ SX2 SM2 (ok_wipe  hs) hX2 hM2
theorem lc_2 (ok : OkL x gX gM b N xs) (hi : i + 3 < N) (hs : SgOk s) (hX : XRep SX s) (hM : MRep SM s) (E : ∀ s2 SX2 SM2, SgOk s2 → XRep SX2 s2 → MRep SM2 s2 → LW l x gX gM Q 1081 (Lc b gX gM i) [] SX2 SM2) : LW l x gX gM Q 212 (Lc b gX gM i) [] SX SM := by
  refine lr_aload ok 1 dL_law_212 rfl ?_
  refine lr_xi ok (As := []) _ dL_law_213 kL_23 rfl rfl rfl (Nat.le_of_ble_eq_true rfl) ?_
  refine px_fault hs hX (fun SX2 hX2 => ?_)
  refine lr_aload ok 2 dL_law_216 rfl ?_
  refine lr_mi ok (As := []) _ dL_law_217 kL_26 rfl rfl rfl (Nat.le_of_ble_eq_true rfl) ?_
  refine pm_fault hs hM (fun SM2 hM2 => ?_)
  refine lr_eqI ok 1081 dL_law_220 (by decide) ?_
  exact E _ SX2 SM2 hs hX2 hM2
theorem lc_3 (ok : OkL x gX gM b N xs) (hi : i + 3 < N) (hs : SgOk s) (hX : XRep SX s) (hM : MRep SM s) (E : ∀ s2 SX2 SM2, SgOk s2 → XRep SX2 s2 → MRep SM2 s2 → LW l x gX gM Q 1081 (Lc b gX gM i) [] SX2 SM2) : LW l x gX gM Q 225 (Lc b gX gM i) [] SX SM := by
  refine lr_aload ok 1 dL_law_225 rfl ?_
  refine lr_scr ok (i := i) (j := 1) (by omega) rfl rfl dL_law_226 dL_law_227 dL_law_228 (by decide) dL_law_229 dL_law_230 ?_
  refine lr_xi ok (As := [.int (xs (i + 1))]) _ dL_law_231 kL_27 rfl rfl rfl (Nat.le_of_ble_eq_true rfl) ?_
  refine px_word hs hX (fun SX2 hX2 => ?_)
  refine lr_aload ok 2 dL_law_234 rfl ?_
  refine lr_scr ok (i := i) (j := 1) (by omega) rfl rfl dL_law_235 dL_law_236 dL_law_237 (by decide) dL_law_238 dL_law_239 ?_
  refine lr_mi ok (As := [.int (xs (i + 1))]) _ dL_law_240 kL_30 rfl rfl rfl (Nat.le_of_ble_eq_true rfl) ?_
  refine pm_word hs hM (fun SM2 hM2 => ?_)
  refine lr_eqI ok 1081 dL_law_243 (by decide) ?_
  exact E _ SX2 SM2 (ok_word (v := xs (i + 1)) hs) hX2 hM2
theorem lc_4 (ok : OkL x gX gM b N xs) (hi : i + 3 < N) (hs : SgOk s) (hX : XRep SX s) (hM : MRep SM s) (E : ∀ s2 SX2 SM2, SgOk s2 → XRep SX2 s2 → MRep SM2 s2 → LW l x gX gM Q 1081 (Lc b gX gM i) [] SX2 SM2) : LW l x gX gM Q 248 (Lc b gX gM i) [] SX SM := by
  refine lr_aload ok 1 dL_law_248 rfl ?_
  refine lr_scr ok (i := i) (j := 1) (by omega) rfl rfl dL_law_249 dL_law_250 dL_law_251 (by decide) dL_law_252 dL_law_253 ?_
  refine lr_scr ok (i := i) (j := 2) (by omega) rfl rfl dL_law_254 dL_law_255 dL_law_256 (by decide) dL_law_257 dL_law_258 ?_
  refine lr_xi ok (As := [.int (xs (i + 1)), .int (xs (i + 2))]) _ dL_law_259 kL_31 rfl rfl rfl (Nat.le_of_ble_eq_true rfl) ?_
  refine px_about hs hX (fun SX2 hX2 => ?_)
  refine lr_aload ok 2 dL_law_262 rfl ?_
  refine lr_scr ok (i := i) (j := 1) (by omega) rfl rfl dL_law_263 dL_law_264 dL_law_265 (by decide) dL_law_266 dL_law_267 ?_
  refine lr_scr ok (i := i) (j := 2) (by omega) rfl rfl dL_law_268 dL_law_269 dL_law_270 (by decide) dL_law_271 dL_law_272 ?_
  refine lr_mi ok (As := [.int (xs (i + 1)), .int (xs (i + 2))]) _ dL_law_273 kL_35 rfl rfl rfl (Nat.le_of_ble_eq_true rfl) ?_
  refine pm_about hs hM (fun SM2 hM2 => ?_)
  refine lr_eqI ok 1081 dL_law_276 (by decide) ?_
  exact E _ SX2 SM2 hs hX2 hM2
theorem lc_5 (ok : OkL x gX gM b N xs) (hi : i + 3 < N) (hs : SgOk s) (hX : XRep SX s) (hM : MRep SM s) (E : ∀ s2 SX2 SM2, SgOk s2 → XRep SX2 s2 → MRep SM2 s2 → LW l x gX gM Q 1081 (Lc b gX gM i) [] SX2 SM2) : LW l x gX gM Q 281 (Lc b gX gM i) [] SX SM := by
  refine lr_aload ok 1 dL_law_281 rfl ?_
  refine lr_scr ok (i := i) (j := 1) (by omega) rfl rfl dL_law_282 dL_law_283 dL_law_284 (by decide) dL_law_285 dL_law_286 ?_
  refine lr_scr ok (i := i) (j := 2) (by omega) rfl rfl dL_law_287 dL_law_288 dL_law_289 (by decide) dL_law_290 dL_law_291 ?_
  refine lr_xi ok (As := [.int (xs (i + 1)), .int (xs (i + 2))]) _ dL_law_292 kL_36 rfl rfl rfl (Nat.le_of_ble_eq_true rfl) ?_
  refine px_often hs hX (fun SX2 hX2 => ?_)
  refine lr_aload ok 2 dL_law_295 rfl ?_
  refine lr_scr ok (i := i) (j := 1) (by omega) rfl rfl dL_law_296 dL_law_297 dL_law_298 (by decide) dL_law_299 dL_law_300 ?_
  refine lr_scr ok (i := i) (j := 2) (by omega) rfl rfl dL_law_301 dL_law_302 dL_law_303 (by decide) dL_law_304 dL_law_305 ?_
  refine lr_mi ok (As := [.int (xs (i + 1)), .int (xs (i + 2))]) _ dL_law_306 kL_39 rfl rfl rfl (Nat.le_of_ble_eq_true rfl) ?_
  refine pm_often hs hM (fun SM2 hM2 => ?_)
  refine lr_eqI ok 1081 dL_law_309 (by decide) ?_
  exact E _ SX2 SM2 (ok_often (v1 := xs (i + 1)) (v2 := xs (i + 2)) hs) hX2 hM2
theorem lc_6 (ok : OkL x gX gM b N xs) (hi : i + 3 < N) (hs : SgOk s) (hX : XRep SX s) (hM : MRep SM s) (E : ∀ s2 SX2 SM2, SgOk s2 → XRep SX2 s2 → MRep SM2 s2 → LW l x gX gM Q 1081 (Lc b gX gM i) [] SX2 SM2) : LW l x gX gM Q 314 (Lc b gX gM i) [] SX SM := by
  refine lr_aload ok 1 dL_law_314 rfl ?_
  refine lr_scr ok (i := i) (j := 1) (by omega) rfl rfl dL_law_315 dL_law_316 dL_law_317 (by decide) dL_law_318 dL_law_319 ?_
  refine lr_scr ok (i := i) (j := 2) (by omega) rfl rfl dL_law_320 dL_law_321 dL_law_322 (by decide) dL_law_323 dL_law_324 ?_
  refine lr_scr ok (i := i) (j := 3) (by omega) rfl rfl dL_law_325 dL_law_326 dL_law_327 (by decide) dL_law_328 dL_law_329 ?_
  refine lr_xl ok (As := [.int (xs (i + 1)), .int (xs (i + 2)), .int (xs (i + 3))]) _ dL_law_330 kL_40 rfl rfl rfl (Nat.le_of_ble_eq_true rfl) ?_
  refine px_has hs hX (fun SX2 hX2 => ?_)
  refine lr_aload ok 2 dL_law_333 rfl ?_
  refine lr_scr ok (i := i) (j := 1) (by omega) rfl rfl dL_law_334 dL_law_335 dL_law_336 (by decide) dL_law_337 dL_law_338 ?_
  refine lr_scr ok (i := i) (j := 2) (by omega) rfl rfl dL_law_339 dL_law_340 dL_law_341 (by decide) dL_law_342 dL_law_343 ?_
  refine lr_scr ok (i := i) (j := 3) (by omega) rfl rfl dL_law_344 dL_law_345 dL_law_346 (by decide) dL_law_347 dL_law_348 ?_
  refine lr_ml ok (As := [.int (xs (i + 1)), .int (xs (i + 2)), .int (xs (i + 3))]) _ dL_law_349 kL_44 rfl rfl rfl (Nat.le_of_ble_eq_true rfl) ?_
  refine pm_has hs hM (fun SM2 hM2 => ?_)
  refine lr_eqL ok 1081 dL_law_352 dL_law_353 (by decide) ?_
  exact E _ SX2 SM2 hs hX2 hM2
theorem lc_7 (ok : OkL x gX gM b N xs) (hi : i + 3 < N) (hs : SgOk s) (hX : XRep SX s) (hM : MRep SM s) (E : ∀ s2 SX2 SM2, SgOk s2 → XRep SX2 s2 → MRep SM2 s2 → LW l x gX gM Q 1081 (Lc b gX gM i) [] SX2 SM2) : LW l x gX gM Q 358 (Lc b gX gM i) [] SX SM := by
  refine lr_aload ok 1 dL_law_358 rfl ?_
  refine lr_scr ok (i := i) (j := 1) (by omega) rfl rfl dL_law_359 dL_law_360 dL_law_361 (by decide) dL_law_362 dL_law_363 ?_
  refine lr_xi ok (As := [.int (xs (i + 1))]) _ dL_law_364 kL_45 rfl rfl rfl (Nat.le_of_ble_eq_true rfl) ?_
  refine px_common hs hX (fun SX2 hX2 => ?_)
  refine lr_aload ok 2 dL_law_367 rfl ?_
  refine lr_scr ok (i := i) (j := 1) (by omega) rfl rfl dL_law_368 dL_law_369 dL_law_370 (by decide) dL_law_371 dL_law_372 ?_
  refine lr_mi ok (As := [.int (xs (i + 1))]) _ dL_law_373 kL_48 rfl rfl rfl (Nat.le_of_ble_eq_true rfl) ?_
  refine pm_common hs hM (fun SM2 hM2 => ?_)
  refine lr_eqI ok 1081 dL_law_376 (by decide) ?_
  exact E _ SX2 SM2 hs hX2 hM2
theorem lc_8 (ok : OkL x gX gM b N xs) (hi : i + 3 < N) (hs : SgOk s) (hX : XRep SX s) (hM : MRep SM s) (E : ∀ s2 SX2 SM2, SgOk s2 → XRep SX2 s2 → MRep SM2 s2 → LW l x gX gM Q 1081 (Lc b gX gM i) [] SX2 SM2) : LW l x gX gM Q 381 (Lc b gX gM i) [] SX SM := by
  refine lr_aload ok 1 dL_law_381 rfl ?_
  refine lr_scr ok (i := i) (j := 1) (by omega) rfl rfl dL_law_382 dL_law_383 dL_law_384 (by decide) dL_law_385 dL_law_386 ?_
  refine lr_xl ok (As := [.int (xs (i + 1))]) _ dL_law_387 kL_49 rfl rfl rfl (Nat.le_of_ble_eq_true rfl) ?_
  refine px_ruled hs hX (fun SX2 hX2 => ?_)
  refine lr_aload ok 2 dL_law_390 rfl ?_
  refine lr_scr ok (i := i) (j := 1) (by omega) rfl rfl dL_law_391 dL_law_392 dL_law_393 (by decide) dL_law_394 dL_law_395 ?_
  refine lr_ml ok (As := [.int (xs (i + 1))]) _ dL_law_396 kL_53 rfl rfl rfl (Nat.le_of_ble_eq_true rfl) ?_
  refine pm_ruled hs hM (fun SM2 hM2 => ?_)
  refine lr_eqL ok 1081 dL_law_399 dL_law_400 (by decide) ?_
  exact E _ SX2 SM2 hs hX2 hM2
theorem lc_9 (ok : OkL x gX gM b N xs) (hi : i + 3 < N) (hs : SgOk s) (hX : XRep SX s) (hM : MRep SM s) (E : ∀ s2 SX2 SM2, SgOk s2 → XRep SX2 s2 → MRep SM2 s2 → LW l x gX gM Q 1081 (Lc b gX gM i) [] SX2 SM2) : LW l x gX gM Q 405 (Lc b gX gM i) [] SX SM := by
  refine lr_aload ok 1 dL_law_405 rfl ?_
  refine lr_scr ok (i := i) (j := 1) (by omega) rfl rfl dL_law_406 dL_law_407 dL_law_408 (by decide) dL_law_409 dL_law_410 ?_
  refine lr_scr ok (i := i) (j := 2) (by omega) rfl rfl dL_law_411 dL_law_412 dL_law_413 (by decide) dL_law_414 dL_law_415 ?_
  refine lr_scr ok (i := i) (j := 3) (by omega) rfl rfl dL_law_416 dL_law_417 dL_law_418 (by decide) dL_law_419 dL_law_420 ?_
  refine lr_xi ok (As := [.int (xs (i + 1)), .int (xs (i + 2)), .int (xs (i + 3))]) _ dL_law_421 kL_54 rfl rfl rfl (Nat.le_of_ble_eq_true rfl) ?_
  refine px_knows hs hX (fun SX2 hX2 => ?_)
  refine lr_aload ok 2 dL_law_424 rfl ?_
  refine lr_scr ok (i := i) (j := 1) (by omega) rfl rfl dL_law_425 dL_law_426 dL_law_427 (by decide) dL_law_428 dL_law_429 ?_
  refine lr_scr ok (i := i) (j := 2) (by omega) rfl rfl dL_law_430 dL_law_431 dL_law_432 (by decide) dL_law_433 dL_law_434 ?_
  refine lr_scr ok (i := i) (j := 3) (by omega) rfl rfl dL_law_435 dL_law_436 dL_law_437 (by decide) dL_law_438 dL_law_439 ?_
  refine lr_mi ok (As := [.int (xs (i + 1)), .int (xs (i + 2)), .int (xs (i + 3))]) _ dL_law_440 kL_58 rfl rfl rfl (Nat.le_of_ble_eq_true rfl) ?_
  refine pm_knows hs hM (fun SM2 hM2 => ?_)
  refine lr_eqI ok 1081 dL_law_443 (by decide) ?_
  exact E _ SX2 SM2 (ok_knows (v1 := xs (i + 1)) (v2 := xs (i + 2)) (v3 := xs (i + 3)) hs) hX2 hM2
theorem lc_10 (ok : OkL x gX gM b N xs) (hi : i + 3 < N) (hs : SgOk s) (hX : XRep SX s) (hM : MRep SM s) (E : ∀ s2 SX2 SM2, SgOk s2 → XRep SX2 s2 → MRep SM2 s2 → LW l x gX gM Q 1081 (Lc b gX gM i) [] SX2 SM2) : LW l x gX gM Q 448 (Lc b gX gM i) [] SX SM := by
  refine lr_aload ok 1 dL_law_448 rfl ?_
  refine lr_scr ok (i := i) (j := 1) (by omega) rfl rfl dL_law_449 dL_law_450 dL_law_451 (by decide) dL_law_452 dL_law_453 ?_
  refine lr_scr ok (i := i) (j := 2) (by omega) rfl rfl dL_law_454 dL_law_455 dL_law_456 (by decide) dL_law_457 dL_law_458 ?_
  refine lr_scr ok (i := i) (j := 3) (by omega) rfl rfl dL_law_459 dL_law_460 dL_law_461 (by decide) dL_law_462 dL_law_463 ?_
  refine lr_xi ok (As := [.int (xs (i + 1)), .int (xs (i + 2)), .int (xs (i + 3))]) _ dL_law_464 kL_59 rfl rfl rfl (Nat.le_of_ble_eq_true rfl) ?_
  refine px_mix hs hX (fun SX2 hX2 => ?_)
  refine lr_aload ok 2 dL_law_467 rfl ?_
  refine lr_scr ok (i := i) (j := 1) (by omega) rfl rfl dL_law_468 dL_law_469 dL_law_470 (by decide) dL_law_471 dL_law_472 ?_
  refine lr_scr ok (i := i) (j := 2) (by omega) rfl rfl dL_law_473 dL_law_474 dL_law_475 (by decide) dL_law_476 dL_law_477 ?_
  refine lr_scr ok (i := i) (j := 3) (by omega) rfl rfl dL_law_478 dL_law_479 dL_law_480 (by decide) dL_law_481 dL_law_482 ?_
  refine lr_mi ok (As := [.int (xs (i + 1)), .int (xs (i + 2)), .int (xs (i + 3))]) _ dL_law_483 kL_62 rfl rfl rfl (Nat.le_of_ble_eq_true rfl) ?_
  refine pm_mix hs hM (fun SM2 hM2 => ?_)
  refine lr_eqI ok 1081 dL_law_486 (by decide) ?_
  exact E _ SX2 SM2 (ok_mix (v1 := xs (i + 1)) (v2 := xs (i + 2)) (v3 := xs (i + 3)) hs) hX2 hM2
theorem lc_11 (ok : OkL x gX gM b N xs) (hi : i + 3 < N) (hs : SgOk s) (hX : XRep SX s) (hM : MRep SM s) (E : ∀ s2 SX2 SM2, SgOk s2 → XRep SX2 s2 → MRep SM2 s2 → LW l x gX gM Q 1081 (Lc b gX gM i) [] SX2 SM2) : LW l x gX gM Q 491 (Lc b gX gM i) [] SX SM := by
  refine lr_aload ok 1 dL_law_491 rfl ?_
  refine lr_scr ok (i := i) (j := 1) (by omega) rfl rfl dL_law_492 dL_law_493 dL_law_494 (by decide) dL_law_495 dL_law_496 ?_
  refine lr_scr ok (i := i) (j := 2) (by omega) rfl rfl dL_law_497 dL_law_498 dL_law_499 (by decide) dL_law_500 dL_law_501 ?_
  refine lr_scr ok (i := i) (j := 3) (by omega) rfl rfl dL_law_502 dL_law_503 dL_law_504 (by decide) dL_law_505 dL_law_506 ?_
  refine lr_xi ok (As := [.int (xs (i + 1)), .int (xs (i + 2)), .int (xs (i + 3))]) _ dL_law_507 kL_63 rfl rfl rfl (Nat.le_of_ble_eq_true rfl) ?_
  refine px_read hs hX (fun SX2 hX2 => ?_)
  refine lr_aload ok 2 dL_law_510 rfl ?_
  refine lr_scr ok (i := i) (j := 1) (by omega) rfl rfl dL_law_511 dL_law_512 dL_law_513 (by decide) dL_law_514 dL_law_515 ?_
  refine lr_scr ok (i := i) (j := 2) (by omega) rfl rfl dL_law_516 dL_law_517 dL_law_518 (by decide) dL_law_519 dL_law_520 ?_
  refine lr_scr ok (i := i) (j := 3) (by omega) rfl rfl dL_law_521 dL_law_522 dL_law_523 (by decide) dL_law_524 dL_law_525 ?_
  refine lr_mi ok (As := [.int (xs (i + 1)), .int (xs (i + 2)), .int (xs (i + 3))]) _ dL_law_526 kL_66 rfl rfl rfl (Nat.le_of_ble_eq_true rfl) ?_
  refine pm_read hs hM (fun SM2 hM2 => ?_)
  refine lr_eqI ok 1081 dL_law_529 (by decide) ?_
  exact E _ SX2 SM2 hs hX2 hM2
theorem lc_12 (ok : OkL x gX gM b N xs) (hi : i + 3 < N) (hs : SgOk s) (hX : XRep SX s) (hM : MRep SM s) (E : ∀ s2 SX2 SM2, SgOk s2 → XRep SX2 s2 → MRep SM2 s2 → LW l x gX gM Q 1081 (Lc b gX gM i) [] SX2 SM2) : LW l x gX gM Q 534 (Lc b gX gM i) [] SX SM := by
  refine lr_aload ok 1 dL_law_534 rfl ?_
  refine lr_scr ok (i := i) (j := 1) (by omega) rfl rfl dL_law_535 dL_law_536 dL_law_537 (by decide) dL_law_538 dL_law_539 ?_
  refine lr_xi ok (As := [.int (xs (i + 1))]) _ dL_law_540 kL_67 rfl rfl rfl (Nat.le_of_ble_eq_true rfl) ?_
  refine px_share hs hX (fun SX2 hX2 => ?_)
  refine lr_aload ok 2 dL_law_543 rfl ?_
  refine lr_scr ok (i := i) (j := 1) (by omega) rfl rfl dL_law_544 dL_law_545 dL_law_546 (by decide) dL_law_547 dL_law_548 ?_
  refine lr_mi ok (As := [.int (xs (i + 1))]) _ dL_law_549 kL_70 rfl rfl rfl (Nat.le_of_ble_eq_true rfl) ?_
  refine pm_share hs hM (fun SM2 hM2 => ?_)
  refine lr_eqI ok 1081 dL_law_552 (by decide) ?_
  exact E _ SX2 SM2 hs hX2 hM2
theorem lc_13 (ok : OkL x gX gM b N xs) (hi : i + 3 < N) (hs : SgOk s) (hX : XRep SX s) (hM : MRep SM s) (E : ∀ s2 SX2 SM2, SgOk s2 → XRep SX2 s2 → MRep SM2 s2 → LW l x gX gM Q 1081 (Lc b gX gM i) [] SX2 SM2) : LW l x gX gM Q 557 (Lc b gX gM i) [] SX SM := by
  refine lr_aload ok 1 dL_law_557 rfl ?_
  refine lr_scr ok (i := i) (j := 1) (by omega) rfl rfl dL_law_558 dL_law_559 dL_law_560 (by decide) dL_law_561 dL_law_562 ?_
  refine lr_scr ok (i := i) (j := 2) (by omega) rfl rfl dL_law_563 dL_law_564 dL_law_565 (by decide) dL_law_566 dL_law_567 ?_
  refine lr_xi ok (As := [.int (xs (i + 1)), .int (xs (i + 2))]) _ dL_law_568 kL_71 rfl rfl rfl (Nat.le_of_ble_eq_true rfl) ?_
  refine px_gives hs hX (fun SX2 hX2 => ?_)
  refine lr_aload ok 2 dL_law_571 rfl ?_
  refine lr_scr ok (i := i) (j := 1) (by omega) rfl rfl dL_law_572 dL_law_573 dL_law_574 (by decide) dL_law_575 dL_law_576 ?_
  refine lr_scr ok (i := i) (j := 2) (by omega) rfl rfl dL_law_577 dL_law_578 dL_law_579 (by decide) dL_law_580 dL_law_581 ?_
  refine lr_mi ok (As := [.int (xs (i + 1)), .int (xs (i + 2))]) _ dL_law_582 kL_74 rfl rfl rfl (Nat.le_of_ble_eq_true rfl) ?_
  refine pm_gives hs hM (fun SM2 hM2 => ?_)
  refine lr_eqI ok 1081 dL_law_585 (by decide) ?_
  exact E _ SX2 SM2 hs hX2 hM2
theorem lc_14 (ok : OkL x gX gM b N xs) (hi : i + 3 < N) (hs : SgOk s) (hX : XRep SX s) (hM : MRep SM s) (E : ∀ s2 SX2 SM2, SgOk s2 → XRep SX2 s2 → MRep SM2 s2 → LW l x gX gM Q 1081 (Lc b gX gM i) [] SX2 SM2) : LW l x gX gM Q 590 (Lc b gX gM i) [] SX SM := by
  refine lr_aload ok 1 dL_law_590 rfl ?_
  refine lr_scr ok (i := i) (j := 1) (by omega) rfl rfl dL_law_591 dL_law_592 dL_law_593 (by decide) dL_law_594 dL_law_595 ?_
  refine lr_xi ok (As := [.int (xs (i + 1))]) _ dL_law_596 kL_75 rfl rfl rfl (Nat.le_of_ble_eq_true rfl) ?_
  refine px_order hs hX (fun SX2 hX2 => ?_)
  refine lr_aload ok 2 dL_law_599 rfl ?_
  refine lr_scr ok (i := i) (j := 1) (by omega) rfl rfl dL_law_600 dL_law_601 dL_law_602 (by decide) dL_law_603 dL_law_604 ?_
  refine lr_mi ok (As := [.int (xs (i + 1))]) _ dL_law_605 kL_78 rfl rfl rfl (Nat.le_of_ble_eq_true rfl) ?_
  refine pm_order hs hM (fun SM2 hM2 => ?_)
  refine lr_eqI ok 1081 dL_law_608 (by decide) ?_
  exact E _ SX2 SM2 hs hX2 hM2
theorem lc_15 (ok : OkL x gX gM b N xs) (hi : i + 3 < N) (hs : SgOk s) (hX : XRep SX s) (hM : MRep SM s) (E : ∀ s2 SX2 SM2, SgOk s2 → XRep SX2 s2 → MRep SM2 s2 → LW l x gX gM Q 1081 (Lc b gX gM i) [] SX2 SM2) : LW l x gX gM Q 613 (Lc b gX gM i) [] SX SM := by
  refine lr_aload ok 1 dL_law_613 rfl ?_
  refine lr_scr ok (i := i) (j := 1) (by omega) rfl rfl dL_law_614 dL_law_615 dL_law_616 (by decide) dL_law_617 dL_law_618 ?_
  refine lr_scr ok (i := i) (j := 2) (by omega) rfl rfl dL_law_619 dL_law_620 dL_law_621 (by decide) dL_law_622 dL_law_623 ?_
  refine lr_scr ok (i := i) (j := 3) (by omega) rfl rfl dL_law_624 dL_law_625 dL_law_626 (by decide) dL_law_627 dL_law_628 ?_
  refine lr_xi ok (As := [.int (xs (i + 1)), .int (xs (i + 2)), .int (xs (i + 3))]) _ dL_law_629 kL_79 rfl rfl rfl (Nat.le_of_ble_eq_true rfl) ?_
  refine px_most hs hX (fun SX2 hX2 => ?_)
  refine lr_aload ok 2 dL_law_632 rfl ?_
  refine lr_scr ok (i := i) (j := 1) (by omega) rfl rfl dL_law_633 dL_law_634 dL_law_635 (by decide) dL_law_636 dL_law_637 ?_
  refine lr_scr ok (i := i) (j := 2) (by omega) rfl rfl dL_law_638 dL_law_639 dL_law_640 (by decide) dL_law_641 dL_law_642 ?_
  refine lr_scr ok (i := i) (j := 3) (by omega) rfl rfl dL_law_643 dL_law_644 dL_law_645 (by decide) dL_law_646 dL_law_647 ?_
  refine lr_mi ok (As := [.int (xs (i + 1)), .int (xs (i + 2)), .int (xs (i + 3))]) _ dL_law_648 kL_82 rfl rfl rfl (Nat.le_of_ble_eq_true rfl) ?_
  refine pm_most hs hM (fun SM2 hM2 => ?_)
  refine lr_eqI ok 1081 dL_law_651 (by decide) ?_
  exact E _ SX2 SM2 hs hX2 hM2
theorem lc_16 (ok : OkL x gX gM b N xs) (hi : i + 3 < N) (hs : SgOk s) (hX : XRep SX s) (hM : MRep SM s) (E : ∀ s2 SX2 SM2, SgOk s2 → XRep SX2 s2 → MRep SM2 s2 → LW l x gX gM Q 1081 (Lc b gX gM i) [] SX2 SM2) : LW l x gX gM Q 656 (Lc b gX gM i) [] SX SM := by
  refine lr_aload ok 1 dL_law_656 rfl ?_
  refine lr_scr ok (i := i) (j := 1) (by omega) rfl rfl dL_law_657 dL_law_658 dL_law_659 (by decide) dL_law_660 dL_law_661 ?_
  refine lr_scr ok (i := i) (j := 2) (by omega) rfl rfl dL_law_662 dL_law_663 dL_law_664 (by decide) dL_law_665 dL_law_666 ?_
  refine lr_xi ok (As := [.int (xs (i + 1)), .int (xs (i + 2))]) _ dL_law_667 kL_83 rfl rfl rfl (Nat.le_of_ble_eq_true rfl) ?_
  refine px_tale hs hX (fun SX2 hX2 => ?_)
  refine lr_aload ok 2 dL_law_670 rfl ?_
  refine lr_scr ok (i := i) (j := 1) (by omega) rfl rfl dL_law_671 dL_law_672 dL_law_673 (by decide) dL_law_674 dL_law_675 ?_
  refine lr_scr ok (i := i) (j := 2) (by omega) rfl rfl dL_law_676 dL_law_677 dL_law_678 (by decide) dL_law_679 dL_law_680 ?_
  refine lr_mi ok (As := [.int (xs (i + 1)), .int (xs (i + 2))]) _ dL_law_681 kL_86 rfl rfl rfl (Nat.le_of_ble_eq_true rfl) ?_
  refine pm_tale hs hM (fun SM2 hM2 => ?_)
  refine lr_eqI ok 1081 dL_law_684 (by decide) ?_
  exact E _ SX2 SM2 hs hX2 hM2
theorem lc_17 (ok : OkL x gX gM b N xs) (hi : i + 3 < N) (hs : SgOk s) (hX : XRep SX s) (hM : MRep SM s) (E : ∀ s2 SX2 SM2, SgOk s2 → XRep SX2 s2 → MRep SM2 s2 → LW l x gX gM Q 1081 (Lc b gX gM i) [] SX2 SM2) : LW l x gX gM Q 689 (Lc b gX gM i) [] SX SM := by
  by_cases hz : xs (i + 2) = 0
  · refine lr_aload ok 1 dL_law_689 rfl ?_
    refine lr_scr ok (i := i) (j := 1) (by omega) rfl rfl dL_law_690 dL_law_691 dL_law_692 (by decide) dL_law_693 dL_law_694 ?_
    refine lr_scr ok (i := i) (j := 2) (by omega) rfl rfl dL_law_695 dL_law_696 dL_law_697 (by decide) dL_law_698 dL_law_699 ?_
    refine lr_if0 ok 707 dL_law_700 (by decide) ⟨fun _ => ?_, fun z => absurd hz z⟩
    refine lr_iconst ok (nI 0) dL_law_707 (by decide) ?_
    refine lr_xi ok (As := [.int (xs (i + 1)), .int (nI 0)]) _ dL_law_708 kL_87 rfl rfl rfl (Nat.le_of_ble_eq_true rfl) ?_
    refine px_answer (r := false) hs hX (fun SX2 hX2 => ?_)
    refine lr_aload ok 2 dL_law_711 rfl ?_
    refine lr_scr ok (i := i) (j := 1) (by omega) rfl rfl dL_law_712 dL_law_713 dL_law_714 (by decide) dL_law_715 dL_law_716 ?_
    refine lr_scr ok (i := i) (j := 2) (by omega) rfl rfl dL_law_717 dL_law_718 dL_law_719 (by decide) dL_law_720 dL_law_721 ?_
    refine lr_if0 ok 729 dL_law_722 (by decide) ⟨fun _ => ?_, fun z => absurd hz z⟩
    refine lr_iconst ok (nI 0) dL_law_729 (by decide) ?_
    refine lr_mi ok (As := [.int (xs (i + 1)), .int (nI 0)]) _ dL_law_730 kL_91 rfl rfl rfl (Nat.le_of_ble_eq_true rfl) ?_
    refine pm_answer (r := false) hs hM (fun SM2 hM2 => ?_)
    refine lr_eqI ok 1081 dL_law_733 (by decide) ?_
    exact E _ SX2 SM2 (ok_answer (v1 := xs (i + 1)) (r := false) hs) hX2 hM2
  · refine lr_aload ok 1 dL_law_689 rfl ?_
    refine lr_scr ok (i := i) (j := 1) (by omega) rfl rfl dL_law_690 dL_law_691 dL_law_692 (by decide) dL_law_693 dL_law_694 ?_
    refine lr_scr ok (i := i) (j := 2) (by omega) rfl rfl dL_law_695 dL_law_696 dL_law_697 (by decide) dL_law_698 dL_law_699 ?_
    refine lr_if0 ok 707 dL_law_700 (by decide) ⟨fun z => absurd z hz, fun _ => ?_⟩
    refine lr_iconst ok (nI 1) dL_law_703 (by decide) ?_
    refine lr_goto ok 708 dL_law_704 (by decide) ?_
    refine lr_xi ok (As := [.int (xs (i + 1)), .int (nI 1)]) _ dL_law_708 kL_87 rfl rfl rfl (Nat.le_of_ble_eq_true rfl) ?_
    refine px_answer (r := true) hs hX (fun SX2 hX2 => ?_)
    refine lr_aload ok 2 dL_law_711 rfl ?_
    refine lr_scr ok (i := i) (j := 1) (by omega) rfl rfl dL_law_712 dL_law_713 dL_law_714 (by decide) dL_law_715 dL_law_716 ?_
    refine lr_scr ok (i := i) (j := 2) (by omega) rfl rfl dL_law_717 dL_law_718 dL_law_719 (by decide) dL_law_720 dL_law_721 ?_
    refine lr_if0 ok 729 dL_law_722 (by decide) ⟨fun z => absurd z hz, fun _ => ?_⟩
    refine lr_iconst ok (nI 1) dL_law_725 (by decide) ?_
    refine lr_goto ok 730 dL_law_726 (by decide) ?_
    refine lr_mi ok (As := [.int (xs (i + 1)), .int (nI 1)]) _ dL_law_730 kL_91 rfl rfl rfl (Nat.le_of_ble_eq_true rfl) ?_
    refine pm_answer (r := true) hs hM (fun SM2 hM2 => ?_)
    refine lr_eqI ok 1081 dL_law_733 (by decide) ?_
    exact E _ SX2 SM2 (ok_answer (v1 := xs (i + 1)) (r := true) hs) hX2 hM2
theorem lc_18 (ok : OkL x gX gM b N xs) (hi : i + 3 < N) (hs : SgOk s) (hX : XRep SX s) (hM : MRep SM s) (E : ∀ s2 SX2 SM2, SgOk s2 → XRep SX2 s2 → MRep SM2 s2 → LW l x gX gM Q 1081 (Lc b gX gM i) [] SX2 SM2) : LW l x gX gM Q 738 (Lc b gX gM i) [] SX SM := by
  refine lr_aload ok 1 dL_law_738 rfl ?_
  refine lr_xi ok (As := []) _ dL_law_739 kL_92 rfl rfl rfl (Nat.le_of_ble_eq_true rfl) ?_
  refine px_clear hs hX (fun SX2 hX2 => ?_)
  refine lr_aload ok 2 dL_law_742 rfl ?_
  refine lr_mi ok (As := []) _ dL_law_743 kL_95 rfl rfl rfl (Nat.le_of_ble_eq_true rfl) ?_
  refine pm_clear hs hM (fun SM2 hM2 => ?_)
  refine lr_eqI ok 1081 dL_law_746 (by decide) ?_
  exact E _ SX2 SM2 (ok_clear  hs) hX2 hM2
theorem lc_19 (ok : OkL x gX gM b N xs) (hi : i + 3 < N) (hs : SgOk s) (hX : XRep SX s) (hM : MRep SM s) (E : ∀ s2 SX2 SM2, SgOk s2 → XRep SX2 s2 → MRep SM2 s2 → LW l x gX gM Q 1081 (Lc b gX gM i) [] SX2 SM2) : LW l x gX gM Q 751 (Lc b gX gM i) [] SX SM := by
  refine lr_aload ok 1 dL_law_751 rfl ?_
  refine lr_xi ok (As := []) _ dL_law_752 kL_96 rfl rfl rfl (Nat.le_of_ble_eq_true rfl) ?_
  refine px_may hs hX (fun SX2 hX2 => ?_)
  refine lr_aload ok 2 dL_law_755 rfl ?_
  refine lr_mi ok (As := []) _ dL_law_756 kL_99 rfl rfl rfl (Nat.le_of_ble_eq_true rfl) ?_
  refine pm_may hs hM (fun SM2 hM2 => ?_)
  refine lr_eqI ok 1081 dL_law_759 (by decide) ?_
  exact E _ SX2 SM2 hs hX2 hM2
theorem lc_20 (ok : OkL x gX gM b N xs) (hi : i + 3 < N) (hs : SgOk s) (hX : XRep SX s) (hM : MRep SM s) (E : ∀ s2 SX2 SM2, SgOk s2 → XRep SX2 s2 → MRep SM2 s2 → LW l x gX gM Q 1081 (Lc b gX gM i) [] SX2 SM2) : LW l x gX gM Q 764 (Lc b gX gM i) [] SX SM := by
  refine lr_aload ok 1 dL_law_764 rfl ?_
  refine lr_scr ok (i := i) (j := 1) (by omega) rfl rfl dL_law_765 dL_law_766 dL_law_767 (by decide) dL_law_768 dL_law_769 ?_
  refine lr_scr ok (i := i) (j := 2) (by omega) rfl rfl dL_law_770 dL_law_771 dL_law_772 (by decide) dL_law_773 dL_law_774 ?_
  refine lr_xl ok (As := [.int (xs (i + 1)), .int (xs (i + 2))]) _ dL_law_775 kL_100 rfl rfl rfl (Nat.le_of_ble_eq_true rfl) ?_
  refine px_lacks hs hX (fun SX2 hX2 => ?_)
  refine lr_aload ok 2 dL_law_778 rfl ?_
  refine lr_scr ok (i := i) (j := 1) (by omega) rfl rfl dL_law_779 dL_law_780 dL_law_781 (by decide) dL_law_782 dL_law_783 ?_
  refine lr_scr ok (i := i) (j := 2) (by omega) rfl rfl dL_law_784 dL_law_785 dL_law_786 (by decide) dL_law_787 dL_law_788 ?_
  refine lr_ml ok (As := [.int (xs (i + 1)), .int (xs (i + 2))]) _ dL_law_789 kL_104 rfl rfl rfl (Nat.le_of_ble_eq_true rfl) ?_
  refine pm_lacks hs hM (fun SM2 hM2 => ?_)
  refine lr_eqL ok 1081 dL_law_792 dL_law_793 (by decide) ?_
  exact E _ SX2 SM2 hs hX2 hM2
theorem lc_21 (ok : OkL x gX gM b N xs) (hi : i + 3 < N) (hs : SgOk s) (hX : XRep SX s) (hM : MRep SM s) (E : ∀ s2 SX2 SM2, SgOk s2 → XRep SX2 s2 → MRep SM2 s2 → LW l x gX gM Q 1081 (Lc b gX gM i) [] SX2 SM2) : LW l x gX gM Q 798 (Lc b gX gM i) [] SX SM := by
  refine lr_aload ok 1 dL_law_798 rfl ?_
  refine lr_xi ok (As := []) _ dL_law_799 kL_105 rfl rfl rfl (Nat.le_of_ble_eq_true rfl) ?_
  refine px_tells hs hX (fun SX2 hX2 => ?_)
  refine lr_aload ok 2 dL_law_802 rfl ?_
  refine lr_mi ok (As := []) _ dL_law_803 kL_108 rfl rfl rfl (Nat.le_of_ble_eq_true rfl) ?_
  refine pm_tells hs hM (fun SM2 hM2 => ?_)
  refine lr_eqI ok 1081 dL_law_806 (by decide) ?_
  exact E _ SX2 SM2 hs hX2 hM2
theorem lc_22 (ok : OkL x gX gM b N xs) (hi : i + 3 < N) (hs : SgOk s) (hX : XRep SX s) (hM : MRep SM s) (E : ∀ s2 SX2 SM2, SgOk s2 → XRep SX2 s2 → MRep SM2 s2 → LW l x gX gM Q 1081 (Lc b gX gM i) [] SX2 SM2) : LW l x gX gM Q 811 (Lc b gX gM i) [] SX SM := by
  refine lr_aload ok 1 dL_law_811 rfl ?_
  refine lr_xi ok (As := []) _ dL_law_812 kL_109 rfl rfl rfl (Nat.le_of_ble_eq_true rfl) ?_
  refine px_test hs hX (fun SX2 hX2 => ?_)
  refine lr_aload ok 2 dL_law_815 rfl ?_
  refine lr_mi ok (As := []) _ dL_law_816 kL_112 rfl rfl rfl (Nat.le_of_ble_eq_true rfl) ?_
  refine pm_test hs hM (fun SM2 hM2 => ?_)
  refine lr_eqI ok 1081 dL_law_819 (by decide) ?_
  exact E _ SX2 SM2 hs hX2 hM2
theorem lc_23 (ok : OkL x gX gM b N xs) (hi : i + 3 < N) (hs : SgOk s) (hX : XRep SX s) (hM : MRep SM s) (E : ∀ s2 SX2 SM2, SgOk s2 → XRep SX2 s2 → MRep SM2 s2 → LW l x gX gM Q 1081 (Lc b gX gM i) [] SX2 SM2) : LW l x gX gM Q 824 (Lc b gX gM i) [] SX SM := by
  refine lr_aload ok 1 dL_law_824 rfl ?_
  refine lr_scr ok (i := i) (j := 1) (by omega) rfl rfl dL_law_825 dL_law_826 dL_law_827 (by decide) dL_law_828 dL_law_829 ?_
  refine lr_scr ok (i := i) (j := 2) (by omega) rfl rfl dL_law_830 dL_law_831 dL_law_832 (by decide) dL_law_833 dL_law_834 ?_
  refine lr_xi ok (As := [.int (xs (i + 1)), .int (xs (i + 2))]) _ dL_law_835 kL_113 rfl rfl rfl (Nat.le_of_ble_eq_true rfl) ?_
  refine px_respelt hs hX (fun SX2 hX2 => ?_)
  refine lr_aload ok 2 dL_law_838 rfl ?_
  refine lr_scr ok (i := i) (j := 1) (by omega) rfl rfl dL_law_839 dL_law_840 dL_law_841 (by decide) dL_law_842 dL_law_843 ?_
  refine lr_scr ok (i := i) (j := 2) (by omega) rfl rfl dL_law_844 dL_law_845 dL_law_846 (by decide) dL_law_847 dL_law_848 ?_
  refine lr_mi ok (As := [.int (xs (i + 1)), .int (xs (i + 2))]) _ dL_law_849 kL_116 rfl rfl rfl (Nat.le_of_ble_eq_true rfl) ?_
  refine pm_respelt hs hM (fun SM2 hM2 => ?_)
  refine lr_eqI ok 1081 dL_law_852 (by decide) ?_
  exact E _ SX2 SM2 hs hX2 hM2
theorem lc_24 (ok : OkL x gX gM b N xs) (hi : i + 3 < N) (hs : SgOk s) (hX : XRep SX s) (hM : MRep SM s) (E : ∀ s2 SX2 SM2, SgOk s2 → XRep SX2 s2 → MRep SM2 s2 → LW l x gX gM Q 1081 (Lc b gX gM i) [] SX2 SM2) : LW l x gX gM Q 857 (Lc b gX gM i) [] SX SM := by
  refine lr_aload ok 1 dL_law_857 rfl ?_
  refine lr_scr ok (i := i) (j := 1) (by omega) rfl rfl dL_law_858 dL_law_859 dL_law_860 (by decide) dL_law_861 dL_law_862 ?_
  refine lr_xi ok (As := [.int (xs (i + 1))]) _ dL_law_863 kL_117 rfl rfl rfl (Nat.le_of_ble_eq_true rfl) ?_
  refine px_price hs hX (fun SX2 hX2 => ?_)
  refine lr_aload ok 2 dL_law_866 rfl ?_
  refine lr_scr ok (i := i) (j := 1) (by omega) rfl rfl dL_law_867 dL_law_868 dL_law_869 (by decide) dL_law_870 dL_law_871 ?_
  refine lr_mi ok (As := [.int (xs (i + 1))]) _ dL_law_872 kL_120 rfl rfl rfl (Nat.le_of_ble_eq_true rfl) ?_
  refine pm_price hs hM (fun SM2 hM2 => ?_)
  refine lr_eqI ok 1081 dL_law_875 (by decide) ?_
  exact E _ SX2 SM2 hs hX2 hM2
theorem lc_25 (ok : OkL x gX gM b N xs) (hi : i + 3 < N) (hs : SgOk s) (hX : XRep SX s) (hM : MRep SM s) (E : ∀ s2 SX2 SM2, SgOk s2 → XRep SX2 s2 → MRep SM2 s2 → LW l x gX gM Q 1081 (Lc b gX gM i) [] SX2 SM2) : LW l x gX gM Q 880 (Lc b gX gM i) [] SX SM := by
  refine lr_aload ok 1 dL_law_880 rfl ?_
  refine lr_scr ok (i := i) (j := 1) (by omega) rfl rfl dL_law_881 dL_law_882 dL_law_883 (by decide) dL_law_884 dL_law_885 ?_
  refine lr_scr ok (i := i) (j := 2) (by omega) rfl rfl dL_law_886 dL_law_887 dL_law_888 (by decide) dL_law_889 dL_law_890 ?_
  refine lr_xi ok (As := [.int (xs (i + 1)), .int (xs (i + 2))]) _ dL_law_891 kL_121 rfl rfl rfl (Nat.le_of_ble_eq_true rfl) ?_
  refine px_lessons hs hX (fun SX2 hX2 => ?_)
  refine lr_aload ok 2 dL_law_894 rfl ?_
  refine lr_scr ok (i := i) (j := 1) (by omega) rfl rfl dL_law_895 dL_law_896 dL_law_897 (by decide) dL_law_898 dL_law_899 ?_
  refine lr_scr ok (i := i) (j := 2) (by omega) rfl rfl dL_law_900 dL_law_901 dL_law_902 (by decide) dL_law_903 dL_law_904 ?_
  refine lr_mi ok (As := [.int (xs (i + 1)), .int (xs (i + 2))]) _ dL_law_905 kL_124 rfl rfl rfl (Nat.le_of_ble_eq_true rfl) ?_
  refine pm_lessons hs hM (fun SM2 hM2 => ?_)
  refine lr_eqI ok 1081 dL_law_908 (by decide) ?_
  exact E _ SX2 SM2 hs hX2 hM2
theorem lc_26 (ok : OkL x gX gM b N xs) (hi : i + 3 < N) (hs : SgOk s) (hX : XRep SX s) (hM : MRep SM s) (E : ∀ s2 SX2 SM2, SgOk s2 → XRep SX2 s2 → MRep SM2 s2 → LW l x gX gM Q 1081 (Lc b gX gM i) [] SX2 SM2) : LW l x gX gM Q 913 (Lc b gX gM i) [] SX SM := by
  refine lr_aload ok 1 dL_law_913 rfl ?_
  refine lr_scr ok (i := i) (j := 1) (by omega) rfl rfl dL_law_914 dL_law_915 dL_law_916 (by decide) dL_law_917 dL_law_918 ?_
  refine lr_scr ok (i := i) (j := 2) (by omega) rfl rfl dL_law_919 dL_law_920 dL_law_921 (by decide) dL_law_922 dL_law_923 ?_
  refine lr_xi ok (As := [.int (xs (i + 1)), .int (xs (i + 2))]) _ dL_law_924 kL_125 rfl rfl rfl (Nat.le_of_ble_eq_true rfl) ?_
  refine px_shared hs hX (fun SX2 hX2 => ?_)
  refine lr_aload ok 2 dL_law_927 rfl ?_
  refine lr_scr ok (i := i) (j := 1) (by omega) rfl rfl dL_law_928 dL_law_929 dL_law_930 (by decide) dL_law_931 dL_law_932 ?_
  refine lr_scr ok (i := i) (j := 2) (by omega) rfl rfl dL_law_933 dL_law_934 dL_law_935 (by decide) dL_law_936 dL_law_937 ?_
  refine lr_mi ok (As := [.int (xs (i + 1)), .int (xs (i + 2))]) _ dL_law_938 kL_128 rfl rfl rfl (Nat.le_of_ble_eq_true rfl) ?_
  refine pm_shared hs hM (fun SM2 hM2 => ?_)
  refine lr_eqI ok 1081 dL_law_941 (by decide) ?_
  exact E _ SX2 SM2 hs hX2 hM2
theorem lc_27 (ok : OkL x gX gM b N xs) (hi : i + 3 < N) (hs : SgOk s) (hX : XRep SX s) (hM : MRep SM s) (E : ∀ s2 SX2 SM2, SgOk s2 → XRep SX2 s2 → MRep SM2 s2 → LW l x gX gM Q 1081 (Lc b gX gM i) [] SX2 SM2) : LW l x gX gM Q 946 (Lc b gX gM i) [] SX SM := by
  refine lr_aload ok 1 dL_law_946 rfl ?_
  refine lr_scr ok (i := i) (j := 1) (by omega) rfl rfl dL_law_947 dL_law_948 dL_law_949 (by decide) dL_law_950 dL_law_951 ?_
  refine lr_scr ok (i := i) (j := 2) (by omega) rfl rfl dL_law_952 dL_law_953 dL_law_954 (by decide) dL_law_955 dL_law_956 ?_
  refine lr_scr ok (i := i) (j := 3) (by omega) rfl rfl dL_law_957 dL_law_958 dL_law_959 (by decide) dL_law_960 dL_law_961 ?_
  refine lr_xi ok (As := [.int (xs (i + 1)), .int (xs (i + 2)), .int (xs (i + 3))]) _ dL_law_962 kL_129 rfl rfl rfl (Nat.le_of_ble_eq_true rfl) ?_
  refine px_itself hs hX (fun SX2 hX2 => ?_)
  refine lr_aload ok 2 dL_law_965 rfl ?_
  refine lr_scr ok (i := i) (j := 1) (by omega) rfl rfl dL_law_966 dL_law_967 dL_law_968 (by decide) dL_law_969 dL_law_970 ?_
  refine lr_scr ok (i := i) (j := 2) (by omega) rfl rfl dL_law_971 dL_law_972 dL_law_973 (by decide) dL_law_974 dL_law_975 ?_
  refine lr_scr ok (i := i) (j := 3) (by omega) rfl rfl dL_law_976 dL_law_977 dL_law_978 (by decide) dL_law_979 dL_law_980 ?_
  refine lr_mi ok (As := [.int (xs (i + 1)), .int (xs (i + 2)), .int (xs (i + 3))]) _ dL_law_981 kL_132 rfl rfl rfl (Nat.le_of_ble_eq_true rfl) ?_
  refine pm_itself hs hM (fun SM2 hM2 => ?_)
  refine lr_eqI ok 1081 dL_law_984 (by decide) ?_
  exact E _ SX2 SM2 hs hX2 hM2
theorem lc_28 (ok : OkL x gX gM b N xs) (hi : i + 3 < N) (hs : SgOk s) (hX : XRep SX s) (hM : MRep SM s) (E : ∀ s2 SX2 SM2, SgOk s2 → XRep SX2 s2 → MRep SM2 s2 → LW l x gX gM Q 1081 (Lc b gX gM i) [] SX2 SM2) : LW l x gX gM Q 989 (Lc b gX gM i) [] SX SM := by
  refine lr_aload ok 1 dL_law_989 rfl ?_
  refine lr_scr ok (i := i) (j := 1) (by omega) rfl rfl dL_law_990 dL_law_991 dL_law_992 (by decide) dL_law_993 dL_law_994 ?_
  refine lr_xi ok (As := [.int (xs (i + 1))]) _ dL_law_995 kL_133 rfl rfl rfl (Nat.le_of_ble_eq_true rfl) ?_
  refine px_line hs hX (fun SX2 hX2 => ?_)
  refine lr_aload ok 2 dL_law_998 rfl ?_
  refine lr_scr ok (i := i) (j := 1) (by omega) rfl rfl dL_law_999 dL_law_1000 dL_law_1001 (by decide) dL_law_1002 dL_law_1003 ?_
  refine lr_mi ok (As := [.int (xs (i + 1))]) _ dL_law_1004 kL_136 rfl rfl rfl (Nat.le_of_ble_eq_true rfl) ?_
  refine pm_line hs hM (fun SM2 hM2 => ?_)
  refine lr_eqI ok 1081 dL_law_1007 (by decide) ?_
  exact E _ SX2 SM2 hs hX2 hM2
theorem lc_29 (ok : OkL x gX gM b N xs) (hi : i + 3 < N) (hs : SgOk s) (hX : XRep SX s) (hM : MRep SM s) (E : ∀ s2 SX2 SM2, SgOk s2 → XRep SX2 s2 → MRep SM2 s2 → LW l x gX gM Q 1081 (Lc b gX gM i) [] SX2 SM2) : LW l x gX gM Q 1012 (Lc b gX gM i) [] SX SM := by
  refine lr_aload ok 1 dL_law_1012 rfl ?_
  refine lr_scr ok (i := i) (j := 1) (by omega) rfl rfl dL_law_1013 dL_law_1014 dL_law_1015 (by decide) dL_law_1016 dL_law_1017 ?_
  refine lr_xi ok (As := [.int (xs (i + 1))]) _ dL_law_1018 kL_137 rfl rfl rfl (Nat.le_of_ble_eq_true rfl) ?_
  refine px_image hs hX (fun SX2 hX2 => ?_)
  refine lr_aload ok 2 dL_law_1021 rfl ?_
  refine lr_scr ok (i := i) (j := 1) (by omega) rfl rfl dL_law_1022 dL_law_1023 dL_law_1024 (by decide) dL_law_1025 dL_law_1026 ?_
  refine lr_mi ok (As := [.int (xs (i + 1))]) _ dL_law_1027 kL_140 rfl rfl rfl (Nat.le_of_ble_eq_true rfl) ?_
  refine pm_image hs hM (fun SM2 hM2 => ?_)
  refine lr_eqI ok 1081 dL_law_1030 (by decide) ?_
  exact E _ SX2 SM2 (ok_image (v := xs (i + 1)) hs) hX2 hM2
theorem lc_30 (ok : OkL x gX gM b N xs) (hi : i + 3 < N) (hs : SgOk s) (hX : XRep SX s) (hM : MRep SM s) (E : ∀ s2 SX2 SM2, SgOk s2 → XRep SX2 s2 → MRep SM2 s2 → LW l x gX gM Q 1081 (Lc b gX gM i) [] SX2 SM2) : LW l x gX gM Q 1035 (Lc b gX gM i) [] SX SM := by
  refine lr_aload ok 1 dL_law_1035 rfl ?_
  refine lr_scr ok (i := i) (j := 1) (by omega) rfl rfl dL_law_1036 dL_law_1037 dL_law_1038 (by decide) dL_law_1039 dL_law_1040 ?_
  refine lr_xi ok (As := [.int (xs (i + 1))]) _ dL_law_1041 kL_141 rfl rfl rfl (Nat.le_of_ble_eq_true rfl) ?_
  refine px_restore hs hX (fun SX2 hX2 => ?_)
  refine lr_aload ok 2 dL_law_1044 rfl ?_
  refine lr_scr ok (i := i) (j := 1) (by omega) rfl rfl dL_law_1045 dL_law_1046 dL_law_1047 (by decide) dL_law_1048 dL_law_1049 ?_
  refine lr_mi ok (As := [.int (xs (i + 1))]) _ dL_law_1050 kL_144 rfl rfl rfl (Nat.le_of_ble_eq_true rfl) ?_
  refine pm_restore hs hM (fun SM2 hM2 => ?_)
  refine lr_eqI ok 1081 dL_law_1053 (by decide) ?_
  exact E _ SX2 SM2 (ok_restore (v := xs (i + 1)) hs) hX2 hM2
theorem lc_31 (ok : OkL x gX gM b N xs) (hi : i + 3 < N) (hs : SgOk s) (hX : XRep SX s) (hM : MRep SM s) (E : ∀ s2 SX2 SM2, SgOk s2 → XRep SX2 s2 → MRep SM2 s2 → LW l x gX gM Q 1081 (Lc b gX gM i) [] SX2 SM2) : LW l x gX gM Q 1058 (Lc b gX gM i) [] SX SM := by
  refine lr_aload ok 1 dL_law_1058 rfl ?_
  refine lr_scr ok (i := i) (j := 1) (by omega) rfl rfl dL_law_1059 dL_law_1060 dL_law_1061 (by decide) dL_law_1062 dL_law_1063 ?_
  refine lr_xi ok (As := [.int (xs (i + 1))]) _ dL_law_1064 kL_145 rfl rfl rfl (Nat.le_of_ble_eq_true rfl) ?_
  refine px_told hs hX (fun SX2 hX2 => ?_)
  refine lr_aload ok 2 dL_law_1067 rfl ?_
  refine lr_scr ok (i := i) (j := 1) (by omega) rfl rfl dL_law_1068 dL_law_1069 dL_law_1070 (by decide) dL_law_1071 dL_law_1072 ?_
  refine lr_mi ok (As := [.int (xs (i + 1))]) _ dL_law_1073 kL_148 rfl rfl rfl (Nat.le_of_ble_eq_true rfl) ?_
  refine pm_told hs hM (fun SM2 hM2 => ?_)
  refine lr_eqI ok 1081 dL_law_1076 (by decide) ?_
  exact E _ SX2 SM2 hs hX2 hM2
end CASES
