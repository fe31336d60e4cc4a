theorem dX12_findOrder_25 : decode cX12_findOrder 25 = .ok (.getfield 46, 3) := by decide +kernel
theorem dX12_findOrder_28 : decode cX12_findOrder 28 = .ok (.iload_n 1, 1) := by decide +kernel
theorem dX12_findOrder_29 : decode cX12_findOrder 29 = .ok (.iconst 0, 1) := by decide +kernel
theorem dX12_findOrder_30 : decode cX12_findOrder 30 = .ok (.iastore, 1) := by decide +kernel
theorem dX12_findOrder_31 : decode cX12_findOrder 31 = .ok (.iconst 0, 1) := by decide +kernel
theorem dX12_findOrder_32 : decode cX12_findOrder 32 = .ok (.istore_n 2, 1) := by decide +kernel
theorem dX12_findOrder_33 : decode cX12_findOrder 33 = .ok (.iload_n 2, 1) := by decide +kernel
theorem dX12_findOrder_34 : decode cX12_findOrder 34 = .ok (.bipush 10, 2) := by decide +kernel
theorem dX12_findOrder_36 : decode cX12_findOrder 36 = .ok (.if_icmp .ge 63, 3) := by decide +kernel
theorem dX12_findOrder_39 : decode cX12_findOrder 39 = .ok (.iload_n 1, 1) := by decide +kernel
theorem dX12_findOrder_40 : decode cX12_findOrder 40 = .ok (.iconst 1, 1) := by decide +kernel
theorem dX12_findOrder_41 : decode cX12_findOrder 41 = .ok (.iload_n 2, 1) := by decide +kernel
theorem dX12_findOrder_42 : decode cX12_findOrder 42 = .ok (.ishl, 1) := by decide +kernel
theorem dX12_findOrder_43 : decode cX12_findOrder 43 = .ok (.ior, 1) := by decide +kernel
theorem dX12_findOrder_44 : decode cX12_findOrder 44 = .ok (.istore_n 3, 1) := by decide +kernel
theorem dX12_findOrder_45 : decode cX12_findOrder 45 = .ok (.aload_n 0, 1) := by decide +kernel
theorem dX12_findOrder_46 : decode cX12_findOrder 46 = .ok (.getfield 43, 3) := by decide +kernel
theorem dX12_findOrder_49 : decode cX12_findOrder 49 = .ok (.iload_n 3, 1) := by decide +kernel
theorem dX12_findOrder_50 : decode cX12_findOrder 50 = .ok (.iaload, 1) := by decide +kernel
theorem dX12_findOrder_51 : decode cX12_findOrder 51 = .ok (.aload_n 0, 1) := by decide +kernel
theorem dX12_findOrder_52 : decode cX12_findOrder 52 = .ok (.getfield 46, 3) := by decide +kernel
theorem dX12_findOrder_55 : decode cX12_findOrder 55 = .ok (.iload_n 3, 1) := by decide +kernel
theorem dX12_findOrder_56 : decode cX12_findOrder 56 = .ok (.iaload, 1) := by decide +kernel
theorem dX12_findOrder_57 : decode cX12_findOrder 57 = .ok (.iadd, 1) := by decide +kernel
theorem dX12_findOrder_58 : decode cX12_findOrder 58 = .ok (.istore 4, 2) := by decide +kernel
theorem dX12_findOrder_60 : decode cX12_findOrder 60 = .ok (.aload_n 0, 1) := by decide +kernel
theorem dX12_findOrder_61 : decode cX12_findOrder 61 = .ok (.getfield 46, 3) := by decide +kernel
theorem dX12_findOrder_64 : decode cX12_findOrder 64 = .ok (.iload_n 1, 1) := by decide +kernel
theorem dX12_findOrder_65 : decode cX12_findOrder 65 = .ok (.iload_n 3, 1) := by decide +kernel
theorem dX12_findOrder_66 : decode cX12_findOrder 66 = .ok (.iload_n 1, 1) := by decide +kernel
theorem dX12_findOrder_67 : decode cX12_findOrder 67 = .ok (.if_icmp .eq 19, 3) := by decide +kernel
theorem dX12_findOrder_70 : decode cX12_findOrder 70 = .ok (.iload 4, 2) := by decide +kernel
theorem dX12_findOrder_72 : decode cX12_findOrder 72 = .ok (.aload_n 0, 1) := by decide +kernel
theorem dX12_findOrder_73 : decode cX12_findOrder 73 = .ok (.getfield 46, 3) := by decide +kernel
theorem dX12_findOrder_76 : decode cX12_findOrder 76 = .ok (.iload_n 1, 1) := by decide +kernel
theorem dX12_findOrder_77 : decode cX12_findOrder 77 = .ok (.iaload, 1) := by decide +kernel
theorem dX12_findOrder_78 : decode cX12_findOrder 78 = .ok (.if_icmp .le 8, 3) := by decide +kernel
theorem dX12_findOrder_81 : decode cX12_findOrder 81 = .ok (.iload 4, 2) := by decide +kernel
theorem dX12_findOrder_83 : decode cX12_findOrder 83 = .ok (.goto 9, 3) := by decide +kernel
theorem dX12_findOrder_86 : decode cX12_findOrder 86 = .ok (.aload_n 0, 1) := by decide +kernel
theorem dX12_findOrder_87 : decode cX12_findOrder 87 = .ok (.getfield 46, 3) := by decide +kernel
theorem dX12_findOrder_90 : decode cX12_findOrder 90 = .ok (.iload_n 1, 1) := by decide +kernel
theorem dX12_findOrder_91 : decode cX12_findOrder 91 = .ok (.iaload, 1) := by decide +kernel
theorem dX12_findOrder_92 : decode cX12_findOrder 92 = .ok (.iastore, 1) := by decide +kernel
theorem dX12_findOrder_93 : decode cX12_findOrder 93 = .ok (.iinc 2 1, 3) := by decide +kernel
theorem dX12_findOrder_96 : decode cX12_findOrder 96 = .ok (.goto (-63), 3) := by decide +kernel
theorem dX12_findOrder_99 : decode cX12_findOrder 99 = .ok (.iinc 1 (-1), 3) := by decide +kernel
theorem dX12_findOrder_102 : decode cX12_findOrder 102 = .ok (.goto (-94), 3) := by decide +kernel
theorem dX12_findOrder_105 : decode cX12_findOrder 105 = .ok (.return_, 1) := by decide +kernel
theorem dX12_order_0 : decode cX12_order 0 = .ok (.iload_n 1, 1) := by decide +kernel
theorem dX12_order_1 : decode cX12_order 1 = .ok (.i2l, 1) := by decide +kernel
theorem dX12_order_2 : decode cX12_order 2 = .ok (.ldc2_w 204, 3) := by decide +kernel
theorem dX12_order_5 : decode cX12_order 5 = .ok (.ldc2_w 78, 3) := by decide +kernel
theorem dX12_order_8 : decode cX12_order 8 = .ok (.invokestatic 80, 3) := by decide +kernel
theorem dX12_order_11 : decode cX12_order 11 = .ok (.ifCond .ne 6, 3) := by decide +kernel
theorem dX12_order_14 : decode cX12_order 14 = .ok (.bipush (-6), 2) := by decide +kernel
theorem dX12_order_16 : decode cX12_order 16 = .ok (.ireturn, 1) := by decide +kernel
theorem dX12_order_17 : decode cX12_order 17 = .ok (.aload_n 0, 1) := by decide +kernel
theorem dX12_order_18 : decode cX12_order 18 = .ok (.invokevirtual 206, 3) := by decide +kernel
theorem dX12_order_21 : decode cX12_order 21 = .ok (.iload_n 1, 1) := by decide +kernel
theorem dX12_order_22 : decode cX12_order 22 = .ok (.iconst (-1), 1) := by decide +kernel
theorem dX12_order_23 : decode cX12_order 23 = .ok (.if_icmp .ne 10, 3) := by decide +kernel
theorem dX12_order_26 : decode cX12_order 26 = .ok (.aload_n 0, 1) := by decide +kernel
theorem dX12_order_27 : decode cX12_order 27 = .ok (.getfield 46, 3) := by decide +kernel
theorem dX12_order_30 : decode cX12_order 30 = .ok (.iconst 0, 1) := by decide +kernel
theorem dX12_order_31 : decode cX12_order 31 = .ok (.iaload, 1) := by decide +kernel
theorem dX12_order_32 : decode cX12_order 32 = .ok (.ireturn, 1) := by decide +kernel
theorem dX12_order_33 : decode cX12_order 33 = .ok (.iconst 0, 1) := by decide +kernel
theorem dX12_order_34 : decode cX12_order 34 = .ok (.istore_n 2, 1) := by decide +kernel
theorem dX12_order_35 : decode cX12_order 35 = .ok (.iconst 0, 1) := by decide +kernel
theorem dX12_order_36 : decode cX12_order 36 = .ok (.istore_n 3, 1) := by decide +kernel
theorem dX12_order_37 : decode cX12_order 37 = .ok (.iconst 0, 1) := by decide +kernel
theorem dX12_order_38 : decode cX12_order 38 = .ok (.istore 4, 2) := by decide +kernel
theorem dX12_order_40 : decode cX12_order 40 = .ok (.iload 4, 2) := by decide +kernel
theorem dX12_order_42 : decode cX12_order 42 = .ok (.iload_n 1, 1) := by decide +kernel
theorem dX12_order_43 : decode cX12_order 43 = .ok (.if_icmp .gt 62, 3) := by decide +kernel
theorem dX12_order_46 : decode cX12_order 46 = .ok (.iconst 0, 1) := by decide +kernel
theorem dX12_order_47 : decode cX12_order 47 = .ok (.istore_n 3, 1) := by decide +kernel
theorem dX12_order_48 : decode cX12_order 48 = .ok (.iload_n 2, 1) := by decide +kernel
theorem dX12_order_49 : decode cX12_order 49 = .ok (.iload_n 3, 1) := by decide +kernel
theorem dX12_order_50 : decode cX12_order 50 = .ok (.ishr, 1) := by decide +kernel
theorem dX12_order_51 : decode cX12_order 51 = .ok (.iconst 1, 1) := by decide +kernel
theorem dX12_order_52 : decode cX12_order 52 = .ok (.iand, 1) := by decide +kernel
theorem dX12_order_53 : decode cX12_order 53 = .ok (.iconst 1, 1) := by decide +kernel
theorem dX12_order_54 : decode cX12_order 54 = .ok (.if_icmp .eq 33, 3) := by decide +kernel
theorem dX12_order_57 : decode cX12_order 57 = .ok (.aload_n 0, 1) := by decide +kernel
theorem dX12_order_58 : decode cX12_order 58 = .ok (.getfield 43, 3) := by decide +kernel
theorem dX12_order_61 : decode cX12_order 61 = .ok (.iload_n 2, 1) := by decide +kernel
theorem dX12_order_62 : decode cX12_order 62 = .ok (.iconst 1, 1) := by decide +kernel
theorem dX12_order_63 : decode cX12_order 63 = .ok (.iload_n 3, 1) := by decide +kernel
theorem dX12_order_64 : decode cX12_order 64 = .ok (.ishl, 1) := by decide +kernel
theorem dX12_order_65 : decode cX12_order 65 = .ok (.ior, 1) := by decide +kernel
theorem dX12_order_66 : decode cX12_order 66 = .ok (.iaload, 1) := by decide +kernel
theorem dX12_order_67 : decode cX12_order 67 = .ok (.aload_n 0, 1) := by decide +kernel
theorem dX12_order_68 : decode cX12_order 68 = .ok (.getfield 46, 3) := by decide +kernel
theorem dX12_order_71 : decode cX12_order 71 = .ok (.iload_n 2, 1) := by decide +kernel
theorem dX12_order_72 : decode cX12_order 72 = .ok (.iconst 1, 1) := by decide +kernel
theorem dX12_order_73 : decode cX12_order 73 = .ok (.iload_n 3, 1) := by decide +kernel
theorem dX12_order_74 : decode cX12_order 74 = .ok (.ishl, 1) := by decide +kernel
theorem dX12_order_75 : decode cX12_order 75 = .ok (.ior, 1) := by decide +kernel
theorem dX12_order_76 : decode cX12_order 76 = .ok (.iaload, 1) := by decide +kernel
theorem dX12_order_77 : decode cX12_order 77 = .ok (.iadd, 1) := by decide +kernel
theorem dX12_order_78 : decode cX12_order 78 = .ok (.aload_n 0, 1) := by decide +kernel
theorem dX12_order_79 : decode cX12_order 79 = .ok (.getfield 46, 3) := by decide +kernel
theorem dX12_order_82 : decode cX12_order 82 = .ok (.iload_n 2, 1) := by decide +kernel
theorem dX12_order_83 : decode cX12_order 83 = .ok (.iaload, 1) := by decide +kernel
theorem dX12_order_84 : decode cX12_order 84 = .ok (.if_icmp .eq 9, 3) := by decide +kernel
theorem dX12_order_87 : decode cX12_order 87 = .ok (.iinc 3 1, 3) := by decide +kernel
theorem dX12_order_90 : decode cX12_order 90 = .ok (.goto (-42), 3) := by decide +kernel
theorem dX12_order_93 : decode cX12_order 93 = .ok (.iload_n 2, 1) := by decide +kernel
theorem dX12_order_94 : decode cX12_order 94 = .ok (.iconst 1, 1) := by decide +kernel
theorem dX12_order_95 : decode cX12_order 95 = .ok (.iload_n 3, 1) := by decide +kernel
theorem dX12_order_96 : decode cX12_order 96 = .ok (.ishl, 1) := by decide +kernel
theorem dX12_order_97 : decode cX12_order 97 = .ok (.ior, 1) := by decide +kernel
theorem dX12_order_98 : decode cX12_order 98 = .ok (.istore_n 2, 1) := by decide +kernel
theorem dX12_order_99 : decode cX12_order 99 = .ok (.iinc 4 1, 3) := by decide +kernel
theorem dX12_order_102 : decode cX12_order 102 = .ok (.goto (-62), 3) := by decide +kernel
theorem dX12_order_105 : decode cX12_order 105 = .ok (.iload_n 3, 1) := by decide +kernel
theorem dX12_order_106 : decode cX12_order 106 = .ok (.ireturn, 1) := by decide +kernel
theorem dX12_wholesFor_0 : decode cX12_wholesFor 0 = .ok (.iconst 0, 1) := by decide +kernel
theorem dX12_wholesFor_1 : decode cX12_wholesFor 1 = .ok (.istore_n 3, 1) := by decide +kernel
theorem dX12_wholesFor_2 : decode cX12_wholesFor 2 = .ok (.iconst 0, 1) := by decide +kernel
theorem dX12_wholesFor_3 : decode cX12_wholesFor 3 = .ok (.istore 4, 2) := by decide +kernel
theorem dX12_wholesFor_5 : decode cX12_wholesFor 5 = .ok (.iload 4, 2) := by decide +kernel
theorem dX12_wholesFor_7 : decode cX12_wholesFor 7 = .ok (.iload_n 2, 1) := by decide +kernel
theorem dX12_wholesFor_8 : decode cX12_wholesFor 8 = .ok (.if_icmp .ge 109, 3) := by decide +kernel
theorem dX12_wholesFor_11 : decode cX12_wholesFor 11 = .ok (.bipush (-6), 2) := by decide +kernel
theorem dX12_wholesFor_13 : decode cX12_wholesFor 13 = .ok (.istore 5, 2) := by decide +kernel
theorem dX12_wholesFor_15 : decode cX12_wholesFor 15 = .ok (.iconst 0, 1) := by decide +kernel
theorem dX12_wholesFor_16 : decode cX12_wholesFor 16 = .ok (.istore 6, 2) := by decide +kernel
theorem dX12_wholesFor_18 : decode cX12_wholesFor 18 = .ok (.iload 6, 2) := by decide +kernel
theorem dX12_wholesFor_20 : decode cX12_wholesFor 20 = .ok (.aload_n 0, 1) := by decide +kernel
theorem dX12_wholesFor_21 : decode cX12_wholesFor 21 = .ok (.getfield 105, 3) := by decide +kernel
theorem dX12_wholesFor_24 : decode cX12_wholesFor 24 = .ok (.if_icmp .ge 71, 3) := by decide +kernel
theorem dX12_wholesFor_27 : decode cX12_wholesFor 27 = .ok (.iload_n 3, 1) := by decide +kernel
theorem dX12_wholesFor_28 : decode cX12_wholesFor 28 = .ok (.iload 6, 2) := by decide +kernel
theorem dX12_wholesFor_30 : decode cX12_wholesFor 30 = .ok (.ishr, 1) := by decide +kernel
theorem dX12_wholesFor_31 : decode cX12_wholesFor 31 = .ok (.iconst 1, 1) := by decide +kernel
theorem dX12_wholesFor_32 : decode cX12_wholesFor 32 = .ok (.iand, 1) := by decide +kernel
theorem dX12_wholesFor_33 : decode cX12_wholesFor 33 = .ok (.ifCond .ne 17, 3) := by decide +kernel
theorem dX12_wholesFor_36 : decode cX12_wholesFor 36 = .ok (.aload_n 0, 1) := by decide +kernel
theorem dX12_wholesFor_37 : decode cX12_wholesFor 37 = .ok (.iload 6, 2) := by decide +kernel
theorem dX12_wholesFor_39 : decode cX12_wholesFor 39 = .ok (.iload_n 1, 1) := by decide +kernel
theorem dX12_wholesFor_40 : decode cX12_wholesFor 40 = .ok (.invokevirtual 197, 3) := by decide +kernel
theorem dX12_wholesFor_43 : decode cX12_wholesFor 43 = .ok (.ifCond .ne 7, 3) := by decide +kernel
theorem dX12_wholesFor_46 : decode cX12_wholesFor 46 = .ok (.iconst 1, 1) := by decide +kernel
theorem dX12_wholesFor_47 : decode cX12_wholesFor 47 = .ok (.goto 4, 3) := by decide +kernel
theorem dX12_wholesFor_50 : decode cX12_wholesFor 50 = .ok (.iconst 0, 1) := by decide +kernel
theorem dX12_wholesFor_51 : decode cX12_wholesFor 51 = .ok (.istore 7, 2) := by decide +kernel
theorem dX12_wholesFor_53 : decode cX12_wholesFor 53 = .ok (.iload 7, 2) := by decide +kernel
theorem dX12_wholesFor_55 : decode cX12_wholesFor 55 = .ok (.ifCond .eq 30, 3) := by decide +kernel
theorem dX12_wholesFor_58 : decode cX12_wholesFor 58 = .ok (.iload 5, 2) := by decide +kernel
theorem dX12_wholesFor_60 : decode cX12_wholesFor 60 = .ok (.ifCond .lt 20, 3) := by decide +kernel
theorem dX12_wholesFor_63 : decode cX12_wholesFor 63 = .ok (.aload_n 0, 1) := by decide +kernel
theorem dX12_wholesFor_64 : decode cX12_wholesFor 64 = .ok (.getfield 19, 3) := by decide +kernel
theorem dX12_wholesFor_67 : decode cX12_wholesFor 67 = .ok (.iload 6, 2) := by decide +kernel
theorem dX12_wholesFor_69 : decode cX12_wholesFor 69 = .ok (.iaload, 1) := by decide +kernel
theorem dX12_wholesFor_70 : decode cX12_wholesFor 70 = .ok (.aload_n 0, 1) := by decide +kernel
theorem dX12_wholesFor_71 : decode cX12_wholesFor 71 = .ok (.getfield 19, 3) := by decide +kernel
theorem dX12_wholesFor_74 : decode cX12_wholesFor 74 = .ok (.iload 5, 2) := by decide +kernel
theorem dX12_wholesFor_76 : decode cX12_wholesFor 76 = .ok (.iaload, 1) := by decide +kernel
theorem dX12_wholesFor_77 : decode cX12_wholesFor 77 = .ok (.if_icmp .le 8, 3) := by decide +kernel
theorem dX12_wholesFor_80 : decode cX12_wholesFor 80 = .ok (.iload 6, 2) := by decide +kernel
theorem dX12_wholesFor_82 : decode cX12_wholesFor 82 = .ok (.goto 5, 3) := by decide +kernel
theorem dX12_wholesFor_85 : decode cX12_wholesFor 85 = .ok (.iload 5, 2) := by decide +kernel
theorem dX12_wholesFor_87 : decode cX12_wholesFor 87 = .ok (.istore 5, 2) := by decide +kernel
theorem dX12_wholesFor_89 : decode cX12_wholesFor 89 = .ok (.iinc 6 1, 3) := by decide +kernel
theorem dX12_wholesFor_92 : decode cX12_wholesFor 92 = .ok (.goto (-74), 3) := by decide +kernel
theorem dX12_wholesFor_95 : decode cX12_wholesFor 95 = .ok (.iload_n 3, 1) := by decide +kernel
theorem dX12_wholesFor_96 : decode cX12_wholesFor 96 = .ok (.iload 5, 2) := by decide +kernel
theorem dX12_wholesFor_98 : decode cX12_wholesFor 98 = .ok (.ifCond .ge 7, 3) := by decide +kernel
theorem dX12_wholesFor_101 : decode cX12_wholesFor 101 = .ok (.iconst 0, 1) := by decide +kernel
theorem dX12_wholesFor_102 : decode cX12_wholesFor 102 = .ok (.goto 7, 3) := by decide +kernel
theorem dX12_wholesFor_105 : decode cX12_wholesFor 105 = .ok (.iconst 1, 1) := by decide +kernel
theorem dX12_wholesFor_106 : decode cX12_wholesFor 106 = .ok (.iload 5, 2) := by decide +kernel
theorem dX12_wholesFor_108 : decode cX12_wholesFor 108 = .ok (.ishl, 1) := by decide +kernel
theorem dX12_wholesFor_109 : decode cX12_wholesFor 109 = .ok (.ior, 1) := by decide +kernel
theorem dX12_wholesFor_110 : decode cX12_wholesFor 110 = .ok (.istore_n 3, 1) := by decide +kernel
theorem dX12_wholesFor_111 : decode cX12_wholesFor 111 = .ok (.iinc 4 1, 3) := by decide +kernel
theorem dX12_wholesFor_114 : decode cX12_wholesFor 114 = .ok (.goto (-109), 3) := by decide +kernel
theorem dX12_wholesFor_117 : decode cX12_wholesFor 117 = .ok (.iload_n 3, 1) := by decide +kernel
theorem dX12_wholesFor_118 : decode cX12_wholesFor 118 = .ok (.ireturn, 1) := by decide +kernel
theorem dX12_most_0 : decode cX12_most 0 = .ok (.iload_n 1, 1) := by decide +kernel
theorem dX12_most_1 : decode cX12_most 1 = .ok (.i2l, 1) := by decide +kernel
theorem dX12_most_2 : decode cX12_most 2 = .ok (.lconst 0, 1) := by decide +kernel
theorem dX12_most_3 : decode cX12_most 3 = .ok (.ldc2_w 125, 3) := by decide +kernel
theorem dX12_most_6 : decode cX12_most 6 = .ok (.invokestatic 80, 3) := by decide +kernel
theorem dX12_most_9 : decode cX12_most 9 = .ok (.ifCond .eq 29, 3) := by decide +kernel
theorem dX12_most_12 : decode cX12_most 12 = .ok (.iload_n 2, 1) := by decide +kernel
theorem dX12_most_13 : decode cX12_most 13 = .ok (.i2l, 1) := by decide +kernel
theorem dX12_most_14 : decode cX12_most 14 = .ok (.lconst 0, 1) := by decide +kernel
theorem dX12_most_15 : decode cX12_most 15 = .ok (.aload_n 0, 1) := by decide +kernel
theorem dX12_most_16 : decode cX12_most 16 = .ok (.getfield 105, 3) := by decide +kernel
theorem dX12_most_19 : decode cX12_most 19 = .ok (.i2l, 1) := by decide +kernel
theorem dX12_most_20 : decode cX12_most 20 = .ok (.invokestatic 80, 3) := by decide +kernel
theorem dX12_most_23 : decode cX12_most 23 = .ok (.ifCond .eq 15, 3) := by decide +kernel
theorem dX12_most_26 : decode cX12_most 26 = .ok (.iload_n 3, 1) := by decide +kernel
theorem dX12_most_27 : decode cX12_most 27 = .ok (.i2l, 1) := by decide +kernel
theorem dX12_most_28 : decode cX12_most 28 = .ok (.lconst 0, 1) := by decide +kernel
theorem dX12_most_29 : decode cX12_most 29 = .ok (.ldc2_w 209, 3) := by decide +kernel
theorem dX12_most_32 : decode cX12_most 32 = .ok (.invokestatic 80, 3) := by decide +kernel
theorem dX12_most_35 : decode cX12_most 35 = .ok (.ifCond .ne 6, 3) := by decide +kernel
theorem dX12_most_38 : decode cX12_most 38 = .ok (.bipush (-2), 2) := by decide +kernel
theorem dX12_most_40 : decode cX12_most 40 = .ok (.ireturn, 1) := by decide +kernel
theorem dX12_most_41 : decode cX12_most 41 = .ok (.aload_n 0, 1) := by decide +kernel
theorem dX12_most_42 : decode cX12_most 42 = .ok (.invokevirtual 137, 3) := by decide +kernel
theorem dX12_most_45 : decode cX12_most 45 = .ok (.bipush (-6), 2) := by decide +kernel
theorem dX12_most_47 : decode cX12_most 47 = .ok (.istore 4, 2) := by decide +kernel
theorem dX12_most_49 : decode cX12_most 49 = .ok (.iconst 0, 1) := by decide +kernel
theorem dX12_most_50 : decode cX12_most 50 = .ok (.istore 5, 2) := by decide +kernel
theorem dX12_most_52 : decode cX12_most 52 = .ok (.iconst 0, 1) := by decide +kernel
theorem dX12_most_53 : decode cX12_most 53 = .ok (.istore 6, 2) := by decide +kernel
theorem dX12_most_55 : decode cX12_most 55 = .ok (.iconst 0, 1) := by decide +kernel
theorem dX12_most_56 : decode cX12_most 56 = .ok (.istore 7, 2) := by decide +kernel
theorem dX12_most_58 : decode cX12_most 58 = .ok (.iload 7, 2) := by decide +kernel
theorem dX12_most_60 : decode cX12_most 60 = .ok (.sipush 1024, 3) := by decide +kernel
theorem dX12_most_63 : decode cX12_most 63 = .ok (.if_icmp .ge 56, 3) := by decide +kernel
theorem dX12_most_66 : decode cX12_most 66 = .ok (.iload 7, 2) := by decide +kernel
theorem dX12_most_68 : decode cX12_most 68 = .ok (.invokestatic 211, 3) := by decide +kernel
theorem dX12_most_71 : decode cX12_most 71 = .ok (.iload_n 1, 1) := by decide +kernel
theorem dX12_most_72 : decode cX12_most 72 = .ok (.if_icmp .ne 41, 3) := by decide +kernel
theorem dX12_most_75 : decode cX12_most 75 = .ok (.aload_n 0, 1) := by decide +kernel
theorem dX12_most_76 : decode cX12_most 76 = .ok (.iload 7, 2) := by decide +kernel
theorem dX12_most_78 : decode cX12_most 78 = .ok (.iload_n 2, 1) := by decide +kernel
theorem dX12_most_79 : decode cX12_most 79 = .ok (.invokevirtual 214, 3) := by decide +kernel
theorem dX12_most_82 : decode cX12_most 82 = .ok (.istore 8, 2) := by decide +kernel
theorem dX12_most_84 : decode cX12_most 84 = .ok (.aload_n 0, 1) := by decide +kernel
theorem dX12_most_85 : decode cX12_most 85 = .ok (.iload 7, 2) := by decide +kernel
theorem dX12_most_87 : decode cX12_most 87 = .ok (.iload 8, 2) := by decide +kernel
theorem dX12_most_89 : decode cX12_most 89 = .ok (.invokevirtual 201, 3) := by decide +kernel
theorem dX12_most_92 : decode cX12_most 92 = .ok (.istore 9, 2) := by decide +kernel
theorem dX12_most_94 : decode cX12_most 94 = .ok (.iload 9, 2) := by decide +kernel
theorem dX12_most_96 : decode cX12_most 96 = .ok (.iload 4, 2) := by decide +kernel
theorem dX12_most_98 : decode cX12_most 98 = .ok (.if_icmp .le 15, 3) := by decide +kernel
theorem dX12_most_101 : decode cX12_most 101 = .ok (.iload 9, 2) := by decide +kernel
theorem dX12_most_103 : decode cX12_most 103 = .ok (.istore 4, 2) := by decide +kernel
theorem dX12_most_105 : decode cX12_most 105 = .ok (.iload 7, 2) := by decide +kernel
theorem dX12_most_107 : decode cX12_most 107 = .ok (.istore 5, 2) := by decide +kernel
theorem dX12_most_109 : decode cX12_most 109 = .ok (.iload 8, 2) := by decide +kernel
theorem dX12_most_111 : decode cX12_most 111 = .ok (.istore 6, 2) := by decide +kernel
theorem dX12_most_113 : decode cX12_most 113 = .ok (.iinc 7 1, 3) := by decide +kernel
theorem dX12_most_116 : decode cX12_most 116 = .ok (.goto (-58), 3) := by decide +kernel
theorem dX12_most_119 : decode cX12_most 119 = .ok (.iload_n 3, 1) := by decide +kernel
theorem dX12_most_120 : decode cX12_most 120 = .ok (.ifCond .ne 8, 3) := by decide +kernel
theorem dX12_most_123 : decode cX12_most 123 = .ok (.iload 4, 2) := by decide +kernel
theorem dX12_most_125 : decode cX12_most 125 = .ok (.goto 15, 3) := by decide +kernel
theorem dX12_most_128 : decode cX12_most 128 = .ok (.iload_n 3, 1) := by decide +kernel
theorem dX12_most_129 : decode cX12_most 129 = .ok (.iconst 1, 1) := by decide +kernel
theorem dX12_most_130 : decode cX12_most 130 = .ok (.if_icmp .ne 8, 3) := by decide +kernel
theorem dX12_most_133 : decode cX12_most 133 = .ok (.iload 5, 2) := by decide +kernel
theorem dX12_most_135 : decode cX12_most 135 = .ok (.goto 5, 3) := by decide +kernel
theorem dX12_most_138 : decode cX12_most 138 = .ok (.iload 6, 2) := by decide +kernel
theorem dX12_most_140 : decode cX12_most 140 = .ok (.ireturn, 1) := by decide +kernel
theorem dX12_follows_0 : decode cX12_follows 0 = .ok (.aload_n 0, 1) := by decide +kernel
theorem dX12_follows_1 : decode cX12_follows 1 = .ok (.getfield 53, 3) := by decide +kernel
theorem dX12_follows_4 : decode cX12_follows 4 = .ok (.iload_n 2, 1) := by decide +kernel
theorem dX12_follows_5 : decode cX12_follows 5 = .ok (.baload, 1) := by decide +kernel
theorem dX12_follows_6 : decode cX12_follows 6 = .ok (.ifCond .eq 35, 3) := by decide +kernel
theorem dX12_follows_9 : decode cX12_follows 9 = .ok (.aload_n 0, 1) := by decide +kernel
theorem dX12_follows_10 : decode cX12_follows 10 = .ok (.getfield 7, 3) := by decide +kernel
theorem dX12_follows_13 : decode cX12_follows 13 = .ok (.iconst 5, 1) := by decide +kernel
theorem dX12_follows_14 : decode cX12_follows 14 = .ok (.iload_n 1, 1) := by decide +kernel
theorem dX12_follows_15 : decode cX12_follows 15 = .ok (.imul, 1) := by decide +kernel
theorem dX12_follows_16 : decode cX12_follows 16 = .ok (.aload_n 0, 1) := by decide +kernel
theorem dX12_follows_17 : decode cX12_follows 17 = .ok (.getfield 16, 3) := by decide +kernel
theorem dX12_follows_20 : decode cX12_follows 20 = .ok (.iload_n 1, 1) := by decide +kernel
theorem dX12_follows_21 : decode cX12_follows 21 = .ok (.iaload, 1) := by decide +kernel
theorem dX12_follows_22 : decode cX12_follows 22 = .ok (.iadd, 1) := by decide +kernel
theorem dX12_follows_23 : decode cX12_follows 23 = .ok (.iconst 1, 1) := by decide +kernel
theorem dX12_follows_24 : decode cX12_follows 24 = .ok (.isub, 1) := by decide +kernel
theorem dX12_follows_25 : decode cX12_follows 25 = .ok (.iaload, 1) := by decide +kernel
theorem dX12_follows_26 : decode cX12_follows 26 = .ok (.aload_n 0, 1) := by decide +kernel
theorem dX12_follows_27 : decode cX12_follows 27 = .ok (.getfield 7, 3) := by decide +kernel
theorem dX12_follows_30 : decode cX12_follows 30 = .ok (.iconst 5, 1) := by decide +kernel
theorem dX12_follows_31 : decode cX12_follows 31 = .ok (.iload_n 2, 1) := by decide +kernel
theorem dX12_follows_32 : decode cX12_follows 32 = .ok (.imul, 1) := by decide +kernel
theorem dX12_follows_33 : decode cX12_follows 33 = .ok (.iaload, 1) := by decide +kernel
theorem dX12_follows_34 : decode cX12_follows 34 = .ok (.if_icmp .ne 7, 3) := by decide +kernel
theorem dX12_follows_37 : decode cX12_follows 37 = .ok (.iconst 1, 1) := by decide +kernel
theorem dX12_follows_38 : decode cX12_follows 38 = .ok (.goto 4, 3) := by decide +kernel
theorem dX12_follows_41 : decode cX12_follows 41 = .ok (.iconst 0, 1) := by decide +kernel
theorem dX12_follows_42 : decode cX12_follows 42 = .ok (.ireturn, 1) := by decide +kernel
theorem dX12_findTales_0 : decode cX12_findTales 0 = .ok (.aload_n 0, 1) := by decide +kernel
theorem dX12_findTales_1 : decode cX12_findTales 1 = .ok (.invokevirtual 137, 3) := by decide +kernel
theorem dX12_findTales_4 : decode cX12_findTales 4 = .ok (.iconst 0, 1) := by decide +kernel
theorem dX12_findTales_5 : decode cX12_findTales 5 = .ok (.istore_n 2, 1) := by decide +kernel
theorem dX12_findTales_6 : decode cX12_findTales 6 = .ok (.iload_n 2, 1) := by decide +kernel
theorem dX12_findTales_7 : decode cX12_findTales 7 = .ok (.aload_n 0, 1) := by decide +kernel
theorem dX12_findTales_8 : decode cX12_findTales 8 = .ok (.getfield 105, 3) := by decide +kernel
theorem dX12_findTales_11 : decode cX12_findTales 11 = .ok (.if_icmp .ge 33, 3) := by decide +kernel
theorem dX12_findTales_14 : decode cX12_findTales 14 = .ok (.aload_n 0, 1) := by decide +kernel
theorem dX12_findTales_15 : decode cX12_findTales 15 = .ok (.getfield 53, 3) := by decide +kernel
theorem dX12_findTales_18 : decode cX12_findTales 18 = .ok (.iload_n 2, 1) := by decide +kernel
theorem dX12_findTales_19 : decode cX12_findTales 19 = .ok (.aload_n 0, 1) := by decide +kernel
theorem dX12_findTales_20 : decode cX12_findTales 20 = .ok (.iload_n 1, 1) := by decide +kernel
theorem dX12_findTales_21 : decode cX12_findTales 21 = .ok (.aload_n 0, 1) := by decide +kernel
theorem dX12_findTales_22 : decode cX12_findTales 22 = .ok (.getfield 34, 3) := by decide +kernel
theorem dX12_findTales_25 : decode cX12_findTales 25 = .ok (.iload_n 1, 1) := by decide +kernel
theorem dX12_findTales_26 : decode cX12_findTales 26 = .ok (.iaload, 1) := by decide +kernel
theorem dX12_findTales_27 : decode cX12_findTales 27 = .ok (.aload_n 0, 1) := by decide +kernel
theorem dX12_findTales_28 : decode cX12_findTales 28 = .ok (.getfield 37, 3) := by decide +kernel
theorem dX12_findTales_31 : decode cX12_findTales 31 = .ok (.iload_n 1, 1) := by decide +kernel
theorem dX12_findTales_32 : decode cX12_findTales 32 = .ok (.iaload, 1) := by decide +kernel
theorem dX12_findTales_33 : decode cX12_findTales 33 = .ok (.iload_n 2, 1) := by decide +kernel
theorem dX12_findTales_34 : decode cX12_findTales 34 = .ok (.invokevirtual 189, 3) := by decide +kernel
theorem dX12_findTales_37 : decode cX12_findTales 37 = .ok (.bastore, 1) := by decide +kernel
theorem dX12_findTales_38 : decode cX12_findTales 38 = .ok (.iinc 2 1, 3) := by decide +kernel
theorem dX12_findTales_41 : decode cX12_findTales 41 = .ok (.goto (-35), 3) := by decide +kernel
theorem dX12_findTales_44 : decode cX12_findTales 44 = .ok (.iconst 1, 1) := by decide +kernel
theorem dX12_findTales_45 : decode cX12_findTales 45 = .ok (.aload_n 0, 1) := by decide +kernel
theorem dX12_findTales_46 : decode cX12_findTales 46 = .ok (.getfield 105, 3) := by decide +kernel
theorem dX12_findTales_49 : decode cX12_findTales 49 = .ok (.ishl, 1) := by decide +kernel
theorem dX12_findTales_50 : decode cX12_findTales 50 = .ok (.iconst 1, 1) := by decide +kernel
theorem dX12_findTales_51 : decode cX12_findTales 51 = .ok (.isub, 1) := by decide +kernel
theorem dX12_findTales_52 : decode cX12_findTales 52 = .ok (.istore_n 2, 1) := by decide +kernel
theorem dX12_findTales_53 : decode cX12_findTales 53 = .ok (.iload_n 2, 1) := by decide +kernel
theorem dX12_findTales_54 : decode cX12_findTales 54 = .ok (.ifCond .le 149, 3) := by decide +kernel
theorem dX12_findTales_57 : decode cX12_findTales 57 = .ok (.iconst 0, 1) := by decide +kernel
theorem dX12_findTales_58 : decode cX12_findTales 58 = .ok (.istore_n 3, 1) := by decide +kernel
theorem dX12_findTales_59 : decode cX12_findTales 59 = .ok (.iload_n 3, 1) := by decide +kernel
theorem dX12_findTales_60 : decode cX12_findTales 60 = .ok (.aload_n 0, 1) := by decide +kernel
theorem dX12_findTales_61 : decode cX12_findTales 61 = .ok (.getfield 105, 3) := by decide +kernel
theorem dX12_findTales_64 : decode cX12_findTales 64 = .ok (.if_icmp .ge 133, 3) := by decide +kernel
theorem dX12_findTales_67 : decode cX12_findTales 67 = .ok (.iload_n 2, 1) := by decide +kernel
theorem dX12_findTales_68 : decode cX12_findTales 68 = .ok (.iload_n 3, 1) := by decide +kernel
theorem dX12_findTales_69 : decode cX12_findTales 69 = .ok (.ishr, 1) := by decide +kernel
theorem dX12_findTales_70 : decode cX12_findTales 70 = .ok (.iconst 1, 1) := by decide +kernel
theorem dX12_findTales_71 : decode cX12_findTales 71 = .ok (.iand, 1) := by decide +kernel
theorem dX12_findTales_72 : decode cX12_findTales 72 = .ok (.iconst 1, 1) := by decide +kernel
theorem dX12_findTales_73 : decode cX12_findTales 73 = .ok (.if_icmp .ne 118, 3) := by decide +kernel
theorem dX12_findTales_76 : decode cX12_findTales 76 = .ok (.iconst 0, 1) := by decide +kernel
theorem dX12_findTales_77 : decode cX12_findTales 77 = .ok (.istore 4, 2) := by decide +kernel
theorem dX12_findTales_79 : decode cX12_findTales 79 = .ok (.iconst 0, 1) := by decide +kernel
theorem dX12_findTales_80 : decode cX12_findTales 80 = .ok (.istore 5, 2) := by decide +kernel
theorem dX12_findTales_82 : decode cX12_findTales 82 = .ok (.iload 5, 2) := by decide +kernel
theorem dX12_findTales_84 : decode cX12_findTales 84 = .ok (.aload_n 0, 1) := by decide +kernel
theorem dX12_findTales_85 : decode cX12_findTales 85 = .ok (.getfield 105, 3) := by decide +kernel
theorem dX12_findTales_88 : decode cX12_findTales 88 = .ok (.if_icmp .ge 90, 3) := by decide +kernel
theorem dX12_findTales_91 : decode cX12_findTales 91 = .ok (.iload_n 2, 1) := by decide +kernel
theorem dX12_findTales_92 : decode cX12_findTales 92 = .ok (.iload 5, 2) := by decide +kernel
theorem dX12_findTales_94 : decode cX12_findTales 94 = .ok (.ishr, 1) := by decide +kernel
theorem dX12_findTales_95 : decode cX12_findTales 95 = .ok (.iconst 1, 1) := by decide +kernel
theorem dX12_findTales_96 : decode cX12_findTales 96 = .ok (.iand, 1) := by decide +kernel
theorem dX12_findTales_97 : decode cX12_findTales 97 = .ok (.ifCond .ne 17, 3) := by decide +kernel
theorem dX12_findTales_100 : decode cX12_findTales 100 = .ok (.aload_n 0, 1) := by decide +kernel
theorem dX12_findTales_101 : decode cX12_findTales 101 = .ok (.iload_n 3, 1) := by decide +kernel
theorem dX12_findTales_102 : decode cX12_findTales 102 = .ok (.iload 5, 2) := by decide +kernel
theorem dX12_findTales_104 : decode cX12_findTales 104 = .ok (.invokevirtual 217, 3) := by decide +kernel
theorem dX12_findTales_107 : decode cX12_findTales 107 = .ok (.ifCond .eq 7, 3) := by decide +kernel
theorem dX12_findTales_110 : decode cX12_findTales 110 = .ok (.iconst 1, 1) := by decide +kernel
theorem dX12_findTales_111 : decode cX12_findTales 111 = .ok (.goto 4, 3) := by decide +kernel
theorem dX12_findTales_114 : decode cX12_findTales 114 = .ok (.iconst 0, 1) := by decide +kernel
theorem dX12_findTales_115 : decode cX12_findTales 115 = .ok (.istore 6, 2) := by decide +kernel
theorem dX12_findTales_117 : decode cX12_findTales 117 = .ok (.iload 6, 2) := by decide +kernel
theorem dX12_findTales_119 : decode cX12_findTales 119 = .ok (.ifCond .eq 49, 3) := by decide +kernel
theorem dX12_findTales_122 : decode cX12_findTales 122 = .ok (.iconst 1, 1) := by decide +kernel
theorem dX12_findTales_123 : decode cX12_findTales 123 = .ok (.aload_n 0, 1) := by decide +kernel
theorem dX12_findTales_124 : decode cX12_findTales 124 = .ok (.getfield 50, 3) := by decide +kernel
theorem dX12_findTales_127 : decode cX12_findTales 127 = .ok (.bipush 12, 2) := by decide +kernel
theorem dX12_findTales_129 : decode cX12_findTales 129 = .ok (.iload_n 2, 1) := by decide +kernel
theorem dX12_findTales_130 : decode cX12_findTales 130 = .ok (.iconst 1, 1) := by decide +kernel
theorem dX12_findTales_131 : decode cX12_findTales 131 = .ok (.iload 5, 2) := by decide +kernel
theorem dX12_findTales_133 : decode cX12_findTales 133 = .ok (.ishl, 1) := by decide +kernel
theorem dX12_findTales_134 : decode cX12_findTales 134 = .ok (.ior, 1) := by decide +kernel
theorem dX12_findTales_135 : decode cX12_findTales 135 = .ok (.imul, 1) := by decide +kernel
theorem dX12_findTales_136 : decode cX12_findTales 136 = .ok (.iload 5, 2) := by decide +kernel
theorem dX12_findTales_138 : decode cX12_findTales 138 = .ok (.iadd, 1) := by decide +kernel
theorem dX12_findTales_139 : decode cX12_findTales 139 = .ok (.iaload, 1) := by decide +kernel
theorem dX12_findTales_140 : decode cX12_findTales 140 = .ok (.iadd, 1) := by decide +kernel
theorem dX12_findTales_141 : decode cX12_findTales 141 = .ok (.iload 4, 2) := by decide +kernel
theorem dX12_findTales_143 : decode cX12_findTales 143 = .ok (.if_icmp .le 25, 3) := by decide +kernel
theorem dX12_findTales_146 : decode cX12_findTales 146 = .ok (.iconst 1, 1) := by decide +kernel
theorem dX12_findTales_147 : decode cX12_findTales 147 = .ok (.aload_n 0, 1) := by decide +kernel
theorem dX12_findTales_148 : decode cX12_findTales 148 = .ok (.getfield 50, 3) := by decide +kernel
theorem dX12_findTales_151 : decode cX12_findTales 151 = .ok (.bipush 12, 2) := by decide +kernel
theorem dX12_findTales_153 : decode cX12_findTales 153 = .ok (.iload_n 2, 1) := by decide +kernel
theorem dX12_findTales_154 : decode cX12_findTales 154 = .ok (.iconst 1, 1) := by decide +kernel
theorem dX12_findTales_155 : decode cX12_findTales 155 = .ok (.iload 5, 2) := by decide +kernel
theorem dX12_findTales_157 : decode cX12_findTales 157 = .ok (.ishl, 1) := by decide +kernel
theorem dX12_findTales_158 : decode cX12_findTales 158 = .ok (.ior, 1) := by decide +kernel
theorem dX12_findTales_159 : decode cX12_findTales 159 = .ok (.imul, 1) := by decide +kernel
theorem dX12_findTales_160 : decode cX12_findTales 160 = .ok (.iload 5, 2) := by decide +kernel
theorem dX12_findTales_162 : decode cX12_findTales 162 = .ok (.iadd, 1) := by decide +kernel
theorem dX12_findTales_163 : decode cX12_findTales 163 = .ok (.iaload, 1) := by decide +kernel
theorem dX12_findTales_164 : decode cX12_findTales 164 = .ok (.iadd, 1) := by decide +kernel
theorem dX12_findTales_165 : decode cX12_findTales 165 = .ok (.goto 5, 3) := by decide +kernel
theorem dX12_findTales_168 : decode cX12_findTales 168 = .ok (.iload 4, 2) := by decide +kernel
theorem dX12_findTales_170 : decode cX12_findTales 170 = .ok (.istore 4, 2) := by decide +kernel
theorem dX12_findTales_172 : decode cX12_findTales 172 = .ok (.iinc 5 1, 3) := by decide +kernel
theorem dX12_findTales_175 : decode cX12_findTales 175 = .ok (.goto (-93), 3) := by decide +kernel
theorem dX12_findTales_178 : decode cX12_findTales 178 = .ok (.aload_n 0, 1) := by decide +kernel
theorem dX12_findTales_179 : decode cX12_findTales 179 = .ok (.getfield 50, 3) := by decide +kernel
theorem dX12_findTales_182 : decode cX12_findTales 182 = .ok (.bipush 12, 2) := by decide +kernel
theorem dX12_findTales_184 : decode cX12_findTales 184 = .ok (.iload_n 2, 1) := by decide +kernel
theorem dX12_findTales_185 : decode cX12_findTales 185 = .ok (.imul, 1) := by decide +kernel
theorem dX12_findTales_186 : decode cX12_findTales 186 = .ok (.iload_n 3, 1) := by decide +kernel
theorem dX12_findTales_187 : decode cX12_findTales 187 = .ok (.iadd, 1) := by decide +kernel
theorem dX12_findTales_188 : decode cX12_findTales 188 = .ok (.iload 4, 2) := by decide +kernel
theorem dX12_findTales_190 : decode cX12_findTales 190 = .ok (.iastore, 1) := by decide +kernel
theorem dX12_findTales_191 : decode cX12_findTales 191 = .ok (.iinc 3 1, 3) := by decide +kernel
theorem dX12_findTales_194 : decode cX12_findTales 194 = .ok (.goto (-135), 3) := by decide +kernel
theorem dX12_findTales_197 : decode cX12_findTales 197 = .ok (.iinc 2 (-1), 3) := by decide +kernel
theorem dX12_findTales_200 : decode cX12_findTales 200 = .ok (.goto (-147), 3) := by decide +kernel
theorem dX12_findTales_203 : decode cX12_findTales 203 = .ok (.return_, 1) := by decide +kernel
theorem dX12_tale_0 : decode cX12_tale 0 = .ok (.iload_n 1, 1) := by decide +kernel
theorem dX12_tale_1 : decode cX12_tale 1 = .ok (.invokestatic 160, 3) := by decide +kernel
theorem dX12_tale_4 : decode cX12_tale 4 = .ok (.ifCond .ne 5, 3) := by decide +kernel
theorem dX12_tale_7 : decode cX12_tale 7 = .ok (.iconst (-1), 1) := by decide +kernel
theorem dX12_tale_8 : decode cX12_tale 8 = .ok (.ireturn, 1) := by decide +kernel
theorem dX12_tale_9 : decode cX12_tale 9 = .ok (.aload_n 0, 1) := by decide +kernel
theorem dX12_tale_10 : decode cX12_tale 10 = .ok (.iload_n 1, 1) := by decide +kernel
theorem dX12_tale_11 : decode cX12_tale 11 = .ok (.invokevirtual 220, 3) := by decide +kernel
theorem dX12_tale_14 : decode cX12_tale 14 = .ok (.iconst 0, 1) := by decide +kernel
theorem dX12_tale_15 : decode cX12_tale 15 = .ok (.istore_n 3, 1) := by decide +kernel
theorem dX12_tale_16 : decode cX12_tale 16 = .ok (.iconst 0, 1) := by decide +kernel
theorem dX12_tale_17 : decode cX12_tale 17 = .ok (.istore 4, 2) := by decide +kernel
theorem dX12_tale_19 : decode cX12_tale 19 = .ok (.iload 4, 2) := by decide +kernel
theorem dX12_tale_21 : decode cX12_tale 21 = .ok (.aload_n 0, 1) := by decide +kernel
theorem dX12_tale_22 : decode cX12_tale 22 = .ok (.getfield 105, 3) := by decide +kernel
theorem dX12_tale_25 : decode cX12_tale 25 = .ok (.if_icmp .ge 55, 3) := by decide +kernel
theorem dX12_tale_28 : decode cX12_tale 28 = .ok (.aload_n 0, 1) := by decide +kernel
theorem dX12_tale_29 : decode cX12_tale 29 = .ok (.getfield 53, 3) := by decide +kernel
theorem dX12_tale_32 : decode cX12_tale 32 = .ok (.iload 4, 2) := by decide +kernel
theorem dX12_tale_34 : decode cX12_tale 34 = .ok (.baload, 1) := by decide +kernel
theorem dX12_tale_35 : decode cX12_tale 35 = .ok (.ifCond .eq 23, 3) := by decide +kernel
theorem dX12_tale_38 : decode cX12_tale 38 = .ok (.iconst 1, 1) := by decide +kernel
theorem dX12_tale_39 : decode cX12_tale 39 = .ok (.aload_n 0, 1) := by decide +kernel
theorem dX12_tale_40 : decode cX12_tale 40 = .ok (.getfield 50, 3) := by decide +kernel
theorem dX12_tale_43 : decode cX12_tale 43 = .ok (.bipush 12, 2) := by decide +kernel
theorem dX12_tale_45 : decode cX12_tale 45 = .ok (.iconst 1, 1) := by decide +kernel
theorem dX12_tale_46 : decode cX12_tale 46 = .ok (.iload 4, 2) := by decide +kernel
theorem dX12_tale_48 : decode cX12_tale 48 = .ok (.ishl, 1) := by decide +kernel
theorem dX12_tale_49 : decode cX12_tale 49 = .ok (.imul, 1) := by decide +kernel
theorem dX12_tale_50 : decode cX12_tale 50 = .ok (.iload 4, 2) := by decide +kernel
theorem dX12_tale_52 : decode cX12_tale 52 = .ok (.iadd, 1) := by decide +kernel
theorem dX12_tale_53 : decode cX12_tale 53 = .ok (.iaload, 1) := by decide +kernel
theorem dX12_tale_54 : decode cX12_tale 54 = .ok (.iadd, 1) := by decide +kernel
theorem dX12_tale_55 : decode cX12_tale 55 = .ok (.goto 4, 3) := by decide +kernel
theorem dX12_tale_58 : decode cX12_tale 58 = .ok (.iconst 0, 1) := by decide +kernel
theorem dX12_tale_59 : decode cX12_tale 59 = .ok (.istore 5, 2) := by decide +kernel
theorem dX12_tale_61 : decode cX12_tale 61 = .ok (.iload 5, 2) := by decide +kernel
theorem dX12_tale_63 : decode cX12_tale 63 = .ok (.iload_n 3, 1) := by decide +kernel
theorem dX12_tale_64 : decode cX12_tale 64 = .ok (.if_icmp .le 8, 3) := by decide +kernel
theorem dX12_tale_67 : decode cX12_tale 67 = .ok (.iload 5, 2) := by decide +kernel
theorem dX12_tale_69 : decode cX12_tale 69 = .ok (.goto 4, 3) := by decide +kernel
theorem dX12_tale_72 : decode cX12_tale 72 = .ok (.iload_n 3, 1) := by decide +kernel
theorem dX12_tale_73 : decode cX12_tale 73 = .ok (.istore_n 3, 1) := by decide +kernel
theorem dX12_tale_74 : decode cX12_tale 74 = .ok (.iinc 4 1, 3) := by decide +kernel
theorem dX12_tale_77 : decode cX12_tale 77 = .ok (.goto (-58), 3) := by decide +kernel
theorem dX12_tale_80 : decode cX12_tale 80 = .ok (.iload_n 2, 1) := by decide +kernel
theorem dX12_tale_81 : decode cX12_tale 81 = .ok (.iconst (-1), 1) := by decide +kernel
theorem dX12_tale_82 : decode cX12_tale 82 = .ok (.if_icmp .ne 5, 3) := by decide +kernel
theorem dX12_tale_85 : decode cX12_tale 85 = .ok (.iload_n 3, 1) := by decide +kernel
theorem dX12_tale_86 : decode cX12_tale 86 = .ok (.ireturn, 1) := by decide +kernel
theorem dX12_tale_87 : decode cX12_tale 87 = .ok (.iload_n 2, 1) := by decide +kernel
theorem dX12_tale_88 : decode cX12_tale 88 = .ok (.i2l, 1) := by decide +kernel
theorem dX12_tale_89 : decode cX12_tale 89 = .ok (.lconst 0, 1) := by decide +kernel
theorem dX12_tale_90 : decode cX12_tale 90 = .ok (.iload_n 3, 1) := by decide +kernel
theorem dX12_tale_91 : decode cX12_tale 91 = .ok (.iconst 1, 1) := by decide +kernel
theorem dX12_tale_92 : decode cX12_tale 92 = .ok (.isub, 1) := by decide +kernel
theorem dX12_tale_93 : decode cX12_tale 93 = .ok (.i2l, 1) := by decide +kernel
theorem dX12_tale_94 : decode cX12_tale 94 = .ok (.invokestatic 80, 3) := by decide +kernel
theorem dX12_tale_97 : decode cX12_tale 97 = .ok (.ifCond .ne 6, 3) := by decide +kernel
theorem dX12_tale_100 : decode cX12_tale 100 = .ok (.bipush (-6), 2) := by decide +kernel
theorem dX12_tale_102 : decode cX12_tale 102 = .ok (.ireturn, 1) := by decide +kernel
theorem dX12_tale_103 : decode cX12_tale 103 = .ok (.iconst 0, 1) := by decide +kernel
theorem dX12_tale_104 : decode cX12_tale 104 = .ok (.istore 4, 2) := by decide +kernel
theorem dX12_tale_106 : decode cX12_tale 106 = .ok (.bipush (-6), 2) := by decide +kernel
theorem dX12_tale_108 : decode cX12_tale 108 = .ok (.istore 5, 2) := by decide +kernel
theorem dX12_tale_110 : decode cX12_tale 110 = .ok (.iconst 0, 1) := by decide +kernel
theorem dX12_tale_111 : decode cX12_tale 111 = .ok (.istore 6, 2) := by decide +kernel
theorem dX12_tale_113 : decode cX12_tale 113 = .ok (.iload 6, 2) := by decide +kernel
theorem dX12_tale_115 : decode cX12_tale 115 = .ok (.iload_n 2, 1) := by decide +kernel
theorem dX12_tale_116 : decode cX12_tale 116 = .ok (.if_icmp .gt 48, 3) := by decide +kernel
theorem dX12_tale_119 : decode cX12_tale 119 = .ok (.iconst 0, 1) := by decide +kernel
theorem dX12_tale_120 : decode cX12_tale 120 = .ok (.istore 7, 2) := by decide +kernel
theorem dX12_tale_122 : decode cX12_tale 122 = .ok (.aload_n 0, 1) := by decide +kernel
theorem dX12_tale_123 : decode cX12_tale 123 = .ok (.iload 4, 2) := by decide +kernel
theorem dX12_tale_125 : decode cX12_tale 125 = .ok (.iload 5, 2) := by decide +kernel
theorem dX12_tale_127 : decode cX12_tale 127 = .ok (.iload 7, 2) := by decide +kernel
theorem dX12_tale_129 : decode cX12_tale 129 = .ok (.iload_n 3, 1) := by decide +kernel
theorem dX12_tale_130 : decode cX12_tale 130 = .ok (.iload 6, 2) := by decide +kernel
theorem dX12_tale_132 : decode cX12_tale 132 = .ok (.isub, 1) := by decide +kernel
theorem dX12_tale_133 : decode cX12_tale 133 = .ok (.invokevirtual 224, 3) := by decide +kernel
theorem dX12_tale_136 : decode cX12_tale 136 = .ok (.ifCond .ne 9, 3) := by decide +kernel
theorem dX12_tale_139 : decode cX12_tale 139 = .ok (.iinc 7 1, 3) := by decide +kernel
theorem dX12_tale_142 : decode cX12_tale 142 = .ok (.goto (-20), 3) := by decide +kernel
theorem dX12_tale_145 : decode cX12_tale 145 = .ok (.iload 4, 2) := by decide +kernel
theorem dX12_tale_147 : decode cX12_tale 147 = .ok (.iconst 1, 1) := by decide +kernel
theorem dX12_tale_148 : decode cX12_tale 148 = .ok (.iload 7, 2) := by decide +kernel
theorem dX12_tale_150 : decode cX12_tale 150 = .ok (.ishl, 1) := by decide +kernel
theorem dX12_tale_151 : decode cX12_tale 151 = .ok (.ior, 1) := by decide +kernel
theorem dX12_tale_152 : decode cX12_tale 152 = .ok (.istore 4, 2) := by decide +kernel
theorem dX12_tale_154 : decode cX12_tale 154 = .ok (.iload 7, 2) := by decide +kernel
theorem dX12_tale_156 : decode cX12_tale 156 = .ok (.istore 5, 2) := by decide +kernel
theorem dX12_tale_158 : decode cX12_tale 158 = .ok (.iinc 6 1, 3) := by decide +kernel
theorem dX12_tale_161 : decode cX12_tale 161 = .ok (.goto (-48), 3) := by decide +kernel
theorem dX12_tale_164 : decode cX12_tale 164 = .ok (.iload 5, 2) := by decide +kernel
theorem dX12_tale_166 : decode cX12_tale 166 = .ok (.ireturn, 1) := by decide +kernel
theorem dX12_comes_0 : decode cX12_comes 0 = .ok (.iload_n 1, 1) := by decide +kernel
theorem dX12_comes_1 : decode cX12_comes 1 = .ok (.iload_n 3, 1) := by decide +kernel
theorem dX12_comes_2 : decode cX12_comes 2 = .ok (.ishr, 1) := by decide +kernel
theorem dX12_comes_3 : decode cX12_comes 3 = .ok (.iconst 1, 1) := by decide +kernel
theorem dX12_comes_4 : decode cX12_comes 4 = .ok (.iand, 1) := by decide +kernel
theorem dX12_comes_5 : decode cX12_comes 5 = .ok (.ifCond .ne 32, 3) := by decide +kernel
theorem dX12_comes_8 : decode cX12_comes 8 = .ok (.iload_n 2, 1) := by decide +kernel
theorem dX12_comes_9 : decode cX12_comes 9 = .ok (.ifCond .ge 15, 3) := by decide +kernel
theorem dX12_comes_12 : decode cX12_comes 12 = .ok (.aload_n 0, 1) := by decide +kernel
theorem dX12_comes_13 : decode cX12_comes 13 = .ok (.getfield 53, 3) := by decide +kernel
theorem dX12_comes_16 : decode cX12_comes 16 = .ok (.iload_n 3, 1) := by decide +kernel
theorem dX12_comes_17 : decode cX12_comes 17 = .ok (.baload, 1) := by decide +kernel
theorem dX12_comes_18 : decode cX12_comes 18 = .ok (.ifCond .eq 19, 3) := by decide +kernel
theorem dX12_comes_21 : decode cX12_comes 21 = .ok (.goto 12, 3) := by decide +kernel
theorem dX12_comes_24 : decode cX12_comes 24 = .ok (.aload_n 0, 1) := by decide +kernel
theorem dX12_comes_25 : decode cX12_comes 25 = .ok (.iload_n 2, 1) := by decide +kernel
theorem dX12_comes_26 : decode cX12_comes 26 = .ok (.iload_n 3, 1) := by decide +kernel
theorem dX12_comes_27 : decode cX12_comes 27 = .ok (.invokevirtual 217, 3) := by decide +kernel
theorem dX12_comes_30 : decode cX12_comes 30 = .ok (.ifCond .eq 7, 3) := by decide +kernel
theorem dX12_comes_33 : decode cX12_comes 33 = .ok (.iconst 1, 1) := by decide +kernel
theorem dX12_comes_34 : decode cX12_comes 34 = .ok (.goto 4, 3) := by decide +kernel
theorem dX12_comes_37 : decode cX12_comes 37 = .ok (.iconst 0, 1) := by decide +kernel
theorem dX12_comes_38 : decode cX12_comes 38 = .ok (.istore 5, 2) := by decide +kernel
theorem dX12_comes_40 : decode cX12_comes 40 = .ok (.iload 5, 2) := by decide +kernel
theorem dX12_comes_42 : decode cX12_comes 42 = .ok (.ifCond .eq 29, 3) := by decide +kernel
theorem dX12_comes_45 : decode cX12_comes 45 = .ok (.iconst 1, 1) := by decide +kernel
theorem dX12_comes_46 : decode cX12_comes 46 = .ok (.aload_n 0, 1) := by decide +kernel
theorem dX12_comes_47 : decode cX12_comes 47 = .ok (.getfield 50, 3) := by decide +kernel
theorem dX12_comes_50 : decode cX12_comes 50 = .ok (.bipush 12, 2) := by decide +kernel
theorem dX12_comes_52 : decode cX12_comes 52 = .ok (.iload_n 1, 1) := by decide +kernel
theorem dX12_comes_53 : decode cX12_comes 53 = .ok (.iconst 1, 1) := by decide +kernel
theorem dX12_comes_54 : decode cX12_comes 54 = .ok (.iload_n 3, 1) := by decide +kernel
theorem dX12_comes_55 : decode cX12_comes 55 = .ok (.ishl, 1) := by decide +kernel
theorem dX12_comes_56 : decode cX12_comes 56 = .ok (.ior, 1) := by decide +kernel
theorem dX12_comes_57 : decode cX12_comes 57 = .ok (.imul, 1) := by decide +kernel
theorem dX12_comes_58 : decode cX12_comes 58 = .ok (.iload_n 3, 1) := by decide +kernel
theorem dX12_comes_59 : decode cX12_comes 59 = .ok (.iadd, 1) := by decide +kernel
theorem dX12_comes_60 : decode cX12_comes 60 = .ok (.iaload, 1) := by decide +kernel
theorem dX12_comes_61 : decode cX12_comes 61 = .ok (.iadd, 1) := by decide +kernel
theorem dX12_comes_62 : decode cX12_comes 62 = .ok (.iload 4, 2) := by decide +kernel
theorem dX12_comes_64 : decode cX12_comes 64 = .ok (.if_icmp .ne 7, 3) := by decide +kernel
theorem dX12_comes_67 : decode cX12_comes 67 = .ok (.iconst 1, 1) := by decide +kernel
theorem dX12_comes_68 : decode cX12_comes 68 = .ok (.goto 4, 3) := by decide +kernel
theorem dX12_comes_71 : decode cX12_comes 71 = .ok (.iconst 0, 1) := by decide +kernel
theorem dX12_comes_72 : decode cX12_comes 72 = .ok (.ireturn, 1) := by decide +kernel
theorem dX12_answer_0 : decode cX12_answer 0 = .ok (.aload_n 0, 1) := by decide +kernel
theorem dX12_answer_1 : decode cX12_answer 1 = .ok (.iload_n 1, 1) := by decide +kernel
theorem dX12_answer_2 : decode cX12_answer 2 = .ok (.invokevirtual 122, 3) := by decide +kernel
theorem dX12_answer_5 : decode cX12_answer 5 = .ok (.ifCond .ne 5, 3) := by decide +kernel
theorem dX12_answer_8 : decode cX12_answer 8 = .ok (.iconst (-1), 1) := by decide +kernel
theorem dX12_answer_9 : decode cX12_answer 9 = .ok (.ireturn, 1) := by decide +kernel
theorem dX12_answer_10 : decode cX12_answer 10 = .ok (.aload_n 0, 1) := by decide +kernel
theorem dX12_answer_11 : decode cX12_answer 11 = .ok (.getfield 227, 3) := by decide +kernel
theorem dX12_answer_14 : decode cX12_answer 14 = .ok (.bipush 20, 2) := by decide +kernel
theorem dX12_answer_16 : decode cX12_answer 16 = .ok (.if_icmp .ne 6, 3) := by decide +kernel
theorem dX12_answer_19 : decode cX12_answer 19 = .ok (.bipush (-4), 2) := by decide +kernel
theorem dX12_answer_21 : decode cX12_answer 21 = .ok (.ireturn, 1) := by decide +kernel
theorem dX12_answer_22 : decode cX12_answer 22 = .ok (.aload_n 0, 1) := by decide +kernel
theorem dX12_answer_23 : decode cX12_answer 23 = .ok (.getfield 57, 3) := by decide +kernel
theorem dX12_answer_26 : decode cX12_answer 26 = .ok (.aload_n 0, 1) := by decide +kernel
theorem dX12_answer_27 : decode cX12_answer 27 = .ok (.getfield 227, 3) := by decide +kernel
theorem dX12_answer_30 : decode cX12_answer 30 = .ok (.iload_n 1, 1) := by decide +kernel
theorem dX12_answer_31 : decode cX12_answer 31 = .ok (.iastore, 1) := by decide +kernel
theorem dX12_answer_32 : decode cX12_answer 32 = .ok (.aload_n 0, 1) := by decide +kernel
theorem dX12_answer_33 : decode cX12_answer 33 = .ok (.getfield 60, 3) := by decide +kernel
theorem dX12_answer_36 : decode cX12_answer 36 = .ok (.aload_n 0, 1) := by decide +kernel
theorem dX12_answer_37 : decode cX12_answer 37 = .ok (.getfield 227, 3) := by decide +kernel
theorem dX12_answer_40 : decode cX12_answer 40 = .ok (.iload_n 2, 1) := by decide +kernel
theorem dX12_answer_41 : decode cX12_answer 41 = .ok (.ifCond .eq 7, 3) := by decide +kernel
theorem dX12_answer_44 : decode cX12_answer 44 = .ok (.iconst 1, 1) := by decide +kernel
theorem dX12_answer_45 : decode cX12_answer 45 = .ok (.goto 4, 3) := by decide +kernel
theorem dX12_answer_48 : decode cX12_answer 48 = .ok (.iconst 0, 1) := by decide +kernel
theorem dX12_answer_49 : decode cX12_answer 49 = .ok (.iastore, 1) := by decide +kernel
theorem dX12_answer_50 : decode cX12_answer 50 = .ok (.aload_n 0, 1) := by decide +kernel
theorem dX12_answer_51 : decode cX12_answer 51 = .ok (.dup, 1) := by decide +kernel
theorem dX12_answer_52 : decode cX12_answer 52 = .ok (.getfield 227, 3) := by decide +kernel
theorem dX12_answer_55 : decode cX12_answer 55 = .ok (.iconst 1, 1) := by decide +kernel
theorem dX12_answer_56 : decode cX12_answer 56 = .ok (.iadd, 1) := by decide +kernel
theorem dX12_answer_57 : decode cX12_answer 57 = .ok (.putfield 227, 3) := by decide +kernel
theorem dX12_answer_60 : decode cX12_answer 60 = .ok (.aload_n 0, 1) := by decide +kernel
theorem dX12_answer_61 : decode cX12_answer 61 = .ok (.getfield 227, 3) := by decide +kernel
theorem dX12_answer_64 : decode cX12_answer 64 = .ok (.ireturn, 1) := by decide +kernel
theorem dX12_clear_0 : decode cX12_clear 0 = .ok (.aload_n 0, 1) := by decide +kernel
theorem dX12_clear_1 : decode cX12_clear 1 = .ok (.getfield 227, 3) := by decide +kernel
theorem dX12_clear_4 : decode cX12_clear 4 = .ok (.istore_n 1, 1) := by decide +kernel
theorem dX12_clear_5 : decode cX12_clear 5 = .ok (.aload_n 0, 1) := by decide +kernel
theorem dX12_clear_6 : decode cX12_clear 6 = .ok (.iconst 0, 1) := by decide +kernel
theorem dX12_clear_7 : decode cX12_clear 7 = .ok (.putfield 227, 3) := by decide +kernel
theorem dX12_clear_10 : decode cX12_clear 10 = .ok (.iload_n 1, 1) := by decide +kernel
theorem dX12_clear_11 : decode cX12_clear 11 = .ok (.ireturn, 1) := by decide +kernel
theorem dX12_readsRight_0 : decode cX12_readsRight 0 = .ok (.aload_n 0, 1) := by decide +kernel
theorem dX12_readsRight_1 : decode cX12_readsRight 1 = .ok (.iload_n 1, 1) := by decide +kernel
theorem dX12_readsRight_2 : decode cX12_readsRight 2 = .ok (.invokevirtual 140, 3) := by decide +kernel
theorem dX12_readsRight_5 : decode cX12_readsRight 5 = .ok (.ifCond .eq 17, 3) := by decide +kernel
theorem dX12_readsRight_8 : decode cX12_readsRight 8 = .ok (.aload_n 0, 1) := by decide +kernel
theorem dX12_readsRight_9 : decode cX12_readsRight 9 = .ok (.iload_n 1, 1) := by decide +kernel
theorem dX12_readsRight_10 : decode cX12_readsRight 10 = .ok (.invokevirtual 133, 3) := by decide +kernel
theorem dX12_readsRight_13 : decode cX12_readsRight 13 = .ok (.iload_n 2, 1) := by decide +kernel
theorem dX12_readsRight_14 : decode cX12_readsRight 14 = .ok (.iand, 1) := by decide +kernel
theorem dX12_readsRight_15 : decode cX12_readsRight 15 = .ok (.ifCond .ne 7, 3) := by decide +kernel
theorem dX12_readsRight_18 : decode cX12_readsRight 18 = .ok (.iconst 1, 1) := by decide +kernel
theorem dX12_readsRight_19 : decode cX12_readsRight 19 = .ok (.goto 4, 3) := by decide +kernel
theorem dX12_readsRight_22 : decode cX12_readsRight 22 = .ok (.iconst 0, 1) := by decide +kernel
theorem dX12_readsRight_23 : decode cX12_readsRight 23 = .ok (.ireturn, 1) := by decide +kernel
theorem dX12_mayLack_0 : decode cX12_mayLack 0 = .ok (.iconst 1, 1) := by decide +kernel
theorem dX12_mayLack_1 : decode cX12_mayLack 1 = .ok (.istore_n 2, 1) := by decide +kernel
theorem dX12_mayLack_2 : decode cX12_mayLack 2 = .ok (.iconst 0, 1) := by decide +kernel
theorem dX12_mayLack_3 : decode cX12_mayLack 3 = .ok (.istore_n 3, 1) := by decide +kernel
theorem dX12_mayLack_4 : decode cX12_mayLack 4 = .ok (.iload_n 3, 1) := by decide +kernel
theorem dX12_mayLack_5 : decode cX12_mayLack 5 = .ok (.aload_n 0, 1) := by decide +kernel
theorem dX12_mayLack_6 : decode cX12_mayLack 6 = .ok (.getfield 227, 3) := by decide +kernel
theorem dX12_mayLack_9 : decode cX12_mayLack 9 = .ok (.if_icmp .ge 48, 3) := by decide +kernel
theorem dX12_mayLack_12 : decode cX12_mayLack 12 = .ok (.iload_n 2, 1) := by decide +kernel
theorem dX12_mayLack_13 : decode cX12_mayLack 13 = .ok (.ifCond .eq 44, 3) := by decide +kernel
theorem dX12_mayLack_16 : decode cX12_mayLack 16 = .ok (.aload_n 0, 1) := by decide +kernel
theorem dX12_mayLack_17 : decode cX12_mayLack 17 = .ok (.aload_n 0, 1) := by decide +kernel
theorem dX12_mayLack_18 : decode cX12_mayLack 18 = .ok (.getfield 57, 3) := by decide +kernel
theorem dX12_mayLack_21 : decode cX12_mayLack 21 = .ok (.iload_n 3, 1) := by decide +kernel
theorem dX12_mayLack_22 : decode cX12_mayLack 22 = .ok (.iaload, 1) := by decide +kernel
theorem dX12_mayLack_23 : decode cX12_mayLack 23 = .ok (.iload_n 1, 1) := by decide +kernel
theorem dX12_mayLack_24 : decode cX12_mayLack 24 = .ok (.invokevirtual 230, 3) := by decide +kernel
theorem dX12_mayLack_27 : decode cX12_mayLack 27 = .ok (.aload_n 0, 1) := by decide +kernel
theorem dX12_mayLack_28 : decode cX12_mayLack 28 = .ok (.getfield 60, 3) := by decide +kernel
theorem dX12_mayLack_31 : decode cX12_mayLack 31 = .ok (.iload_n 3, 1) := by decide +kernel
theorem dX12_mayLack_32 : decode cX12_mayLack 32 = .ok (.iaload, 1) := by decide +kernel
theorem dX12_mayLack_33 : decode cX12_mayLack 33 = .ok (.iconst 1, 1) := by decide +kernel
theorem dX12_mayLack_34 : decode cX12_mayLack 34 = .ok (.if_icmp .ne 7, 3) := by decide +kernel
theorem dX12_mayLack_37 : decode cX12_mayLack 37 = .ok (.iconst 1, 1) := by decide +kernel
theorem dX12_mayLack_38 : decode cX12_mayLack 38 = .ok (.goto 4, 3) := by decide +kernel
theorem dX12_mayLack_41 : decode cX12_mayLack 41 = .ok (.iconst 0, 1) := by decide +kernel
theorem dX12_mayLack_42 : decode cX12_mayLack 42 = .ok (.if_icmp .ne 7, 3) := by decide +kernel
theorem dX12_mayLack_45 : decode cX12_mayLack 45 = .ok (.iconst 1, 1) := by decide +kernel
theorem dX12_mayLack_46 : decode cX12_mayLack 46 = .ok (.goto 4, 3) := by decide +kernel
theorem dX12_mayLack_49 : decode cX12_mayLack 49 = .ok (.iconst 0, 1) := by decide +kernel
theorem dX12_mayLack_50 : decode cX12_mayLack 50 = .ok (.istore_n 2, 1) := by decide +kernel
theorem dX12_mayLack_51 : decode cX12_mayLack 51 = .ok (.iinc 3 1, 3) := by decide +kernel
theorem dX12_mayLack_54 : decode cX12_mayLack 54 = .ok (.goto (-50), 3) := by decide +kernel
theorem dX12_mayLack_57 : decode cX12_mayLack 57 = .ok (.iload_n 2, 1) := by decide +kernel
theorem dX12_mayLack_58 : decode cX12_mayLack 58 = .ok (.ireturn, 1) := by decide +kernel
theorem dX12_mayWith_0 : decode cX12_mayWith 0 = .ok (.iconst 0, 1) := by decide +kernel
theorem dX12_mayWith_1 : decode cX12_mayWith 1 = .ok (.istore_n 2, 1) := by decide +kernel
theorem dX12_mayWith_2 : decode cX12_mayWith 2 = .ok (.iconst 0, 1) := by decide +kernel
theorem dX12_mayWith_3 : decode cX12_mayWith 3 = .ok (.istore_n 3, 1) := by decide +kernel
theorem dX12_mayWith_4 : decode cX12_mayWith 4 = .ok (.iload_n 3, 1) := by decide +kernel
theorem dX12_mayWith_5 : decode cX12_mayWith 5 = .ok (.sipush 1024, 3) := by decide +kernel
theorem dX12_mayWith_8 : decode cX12_mayWith 8 = .ok (.if_icmp .ge 33, 3) := by decide +kernel
theorem dX12_mayWith_11 : decode cX12_mayWith 11 = .ok (.iload_n 2, 1) := by decide +kernel
theorem dX12_mayWith_12 : decode cX12_mayWith 12 = .ok (.iload_n 1, 1) := by decide +kernel
theorem dX12_mayWith_13 : decode cX12_mayWith 13 = .ok (.iload_n 3, 1) := by decide +kernel
theorem dX12_mayWith_14 : decode cX12_mayWith 14 = .ok (.iconst (-1), 1) := by decide +kernel
theorem dX12_mayWith_15 : decode cX12_mayWith 15 = .ok (.ixor, 1) := by decide +kernel
theorem dX12_mayWith_16 : decode cX12_mayWith 16 = .ok (.iand, 1) := by decide +kernel
theorem dX12_mayWith_17 : decode cX12_mayWith 17 = .ok (.ifCond .ne 15, 3) := by decide +kernel
theorem dX12_mayWith_20 : decode cX12_mayWith 20 = .ok (.aload_n 0, 1) := by decide +kernel
theorem dX12_mayWith_21 : decode cX12_mayWith 21 = .ok (.iload_n 3, 1) := by decide +kernel
theorem dX12_mayWith_22 : decode cX12_mayWith 22 = .ok (.invokevirtual 233, 3) := by decide +kernel
theorem dX12_mayWith_25 : decode cX12_mayWith 25 = .ok (.ifCond .eq 7, 3) := by decide +kernel
theorem dX12_mayWith_28 : decode cX12_mayWith 28 = .ok (.iconst 1, 1) := by decide +kernel
theorem dX12_mayWith_29 : decode cX12_mayWith 29 = .ok (.goto 4, 3) := by decide +kernel
theorem dX12_mayWith_32 : decode cX12_mayWith 32 = .ok (.iconst 0, 1) := by decide +kernel
theorem dX12_mayWith_33 : decode cX12_mayWith 33 = .ok (.iadd, 1) := by decide +kernel
theorem dX12_mayWith_34 : decode cX12_mayWith 34 = .ok (.istore_n 2, 1) := by decide +kernel
theorem dX12_mayWith_35 : decode cX12_mayWith 35 = .ok (.iinc 3 1, 3) := by decide +kernel
theorem dX12_mayWith_38 : decode cX12_mayWith 38 = .ok (.goto (-34), 3) := by decide +kernel
theorem dX12_mayWith_41 : decode cX12_mayWith 41 = .ok (.iload_n 2, 1) := by decide +kernel
theorem dX12_mayWith_42 : decode cX12_mayWith 42 = .ok (.ireturn, 1) := by decide +kernel
theorem dX12_may_0 : decode cX12_may 0 = .ok (.aload_n 0, 1) := by decide +kernel
theorem dX12_may_1 : decode cX12_may 1 = .ok (.invokevirtual 137, 3) := by decide +kernel
theorem dX12_may_4 : decode cX12_may 4 = .ok (.aload_n 0, 1) := by decide +kernel
theorem dX12_may_5 : decode cX12_may 5 = .ok (.iconst 0, 1) := by decide +kernel
theorem dX12_may_6 : decode cX12_may 6 = .ok (.invokevirtual 236, 3) := by decide +kernel
theorem dX12_may_9 : decode cX12_may 9 = .ok (.ireturn, 1) := by decide +kernel
theorem dX12_lacks_0 : decode cX12_lacks 0 = .ok (.iload_n 1, 1) := by decide +kernel
theorem dX12_lacks_1 : decode cX12_lacks 1 = .ok (.invokestatic 143, 3) := by decide +kernel
theorem dX12_lacks_4 : decode cX12_lacks 4 = .ok (.ifCond .ne 7, 3) := by decide +kernel
theorem dX12_lacks_7 : decode cX12_lacks 7 = .ok (.ldc2_w 146, 3) := by decide +kernel
theorem dX12_lacks_10 : decode cX12_lacks 10 = .ok (.lreturn, 1) := by decide +kernel
theorem dX12_lacks_11 : decode cX12_lacks 11 = .ok (.iload_n 2, 1) := by decide +kernel
theorem dX12_lacks_12 : decode cX12_lacks 12 = .ok (.invokestatic 148, 3) := by decide +kernel
theorem dX12_lacks_15 : decode cX12_lacks 15 = .ok (.ifCond .ne 7, 3) := by decide +kernel
theorem dX12_lacks_18 : decode cX12_lacks 18 = .ok (.ldc2_w 151, 3) := by decide +kernel
theorem dX12_lacks_21 : decode cX12_lacks 21 = .ok (.lreturn, 1) := by decide +kernel
theorem dX12_lacks_22 : decode cX12_lacks 22 = .ok (.aload_n 0, 1) := by decide +kernel
theorem dX12_lacks_23 : decode cX12_lacks 23 = .ok (.invokevirtual 137, 3) := by decide +kernel
theorem dX12_lacks_26 : decode cX12_lacks 26 = .ok (.aload_n 0, 1) := by decide +kernel
theorem dX12_lacks_27 : decode cX12_lacks 27 = .ok (.iconst 0, 1) := by decide +kernel
theorem dX12_lacks_28 : decode cX12_lacks 28 = .ok (.invokevirtual 236, 3) := by decide +kernel
theorem dX12_lacks_31 : decode cX12_lacks 31 = .ok (.istore_n 3, 1) := by decide +kernel
theorem dX12_lacks_32 : decode cX12_lacks 32 = .ok (.iload_n 3, 1) := by decide +kernel
theorem dX12_lacks_33 : decode cX12_lacks 33 = .ok (.ifCond .ne 9, 3) := by decide +kernel
theorem dX12_lacks_36 : decode cX12_lacks 36 = .ok (.ldc2_w 239, 3) := by decide +kernel
theorem dX12_lacks_39 : decode cX12_lacks 39 = .ok (.goto 17, 3) := by decide +kernel
theorem dX12_lacks_42 : decode cX12_lacks 42 = .ok (.aload_n 0, 1) := by decide +kernel
theorem dX12_lacks_43 : decode cX12_lacks 43 = .ok (.iconst 1, 1) := by decide +kernel
theorem dX12_lacks_44 : decode cX12_lacks 44 = .ok (.iload_n 1, 1) := by decide +kernel
theorem dX12_lacks_45 : decode cX12_lacks 45 = .ok (.ishl, 1) := by decide +kernel
theorem dX12_lacks_46 : decode cX12_lacks 46 = .ok (.invokevirtual 236, 3) := by decide +kernel
theorem dX12_lacks_49 : decode cX12_lacks 49 = .ok (.i2l, 1) := by decide +kernel
theorem dX12_lacks_50 : decode cX12_lacks 50 = .ok (.iload_n 3, 1) := by decide +kernel
theorem dX12_lacks_51 : decode cX12_lacks 51 = .ok (.i2l, 1) := by decide +kernel
theorem dX12_lacks_52 : decode cX12_lacks 52 = .ok (.iload_n 2, 1) := by decide +kernel
theorem dX12_lacks_53 : decode cX12_lacks 53 = .ok (.invokestatic 156, 3) := by decide +kernel
theorem dX12_lacks_56 : decode cX12_lacks 56 = .ok (.lreturn, 1) := by decide +kernel
theorem dX12_tells_0 : decode cX12_tells 0 = .ok (.aload_n 0, 1) := by decide +kernel
theorem dX12_tells_1 : decode cX12_tells 1 = .ok (.invokevirtual 137, 3) := by decide +kernel
theorem dX12_tells_4 : decode cX12_tells 4 = .ok (.bipush (-6), 2) := by decide +kernel
theorem dX12_tells_6 : decode cX12_tells 6 = .ok (.istore_n 1, 1) := by decide +kernel
theorem dX12_tells_7 : decode cX12_tells 7 = .ok (.iconst 0, 1) := by decide +kernel
theorem dX12_tells_8 : decode cX12_tells 8 = .ok (.istore_n 2, 1) := by decide +kernel
theorem dX12_tells_9 : decode cX12_tells 9 = .ok (.aload_n 0, 1) := by decide +kernel
theorem dX12_tells_10 : decode cX12_tells 10 = .ok (.iconst 0, 1) := by decide +kernel
theorem dX12_tells_11 : decode cX12_tells 11 = .ok (.invokevirtual 236, 3) := by decide +kernel
theorem dX12_tells_14 : decode cX12_tells 14 = .ok (.istore_n 3, 1) := by decide +kernel
theorem dX12_tells_15 : decode cX12_tells 15 = .ok (.iconst 0, 1) := by decide +kernel
theorem dX12_tells_16 : decode cX12_tells 16 = .ok (.istore 4, 2) := by decide +kernel
theorem dX12_tells_18 : decode cX12_tells 18 = .ok (.iload 4, 2) := by decide +kernel
theorem dX12_tells_20 : decode cX12_tells 20 = .ok (.aload_n 0, 1) := by decide +kernel
theorem dX12_tells_21 : decode cX12_tells 21 = .ok (.getfield 105, 3) := by decide +kernel
theorem dX12_tells_24 : decode cX12_tells 24 = .ok (.if_icmp .ge 95, 3) := by decide +kernel
theorem dX12_tells_27 : decode cX12_tells 27 = .ok (.iconst 0, 1) := by decide +kernel
theorem dX12_tells_28 : decode cX12_tells 28 = .ok (.istore 5, 2) := by decide +kernel
theorem dX12_tells_30 : decode cX12_tells 30 = .ok (.iconst 0, 1) := by decide +kernel
theorem dX12_tells_31 : decode cX12_tells 31 = .ok (.istore 6, 2) := by decide +kernel
theorem dX12_tells_33 : decode cX12_tells 33 = .ok (.iload 6, 2) := by decide +kernel
theorem dX12_tells_35 : decode cX12_tells 35 = .ok (.sipush 1024, 3) := by decide +kernel
theorem dX12_tells_38 : decode cX12_tells 38 = .ok (.if_icmp .ge 39, 3) := by decide +kernel
theorem dX12_tells_41 : decode cX12_tells 41 = .ok (.iload 5, 2) := by decide +kernel
theorem dX12_tells_43 : decode cX12_tells 43 = .ok (.aload_n 0, 1) := by decide +kernel
theorem dX12_tells_44 : decode cX12_tells 44 = .ok (.iload 4, 2) := by decide +kernel
theorem dX12_tells_46 : decode cX12_tells 46 = .ok (.iload 6, 2) := by decide +kernel
theorem dX12_tells_48 : decode cX12_tells 48 = .ok (.invokevirtual 230, 3) := by decide +kernel
theorem dX12_tells_51 : decode cX12_tells 51 = .ok (.ifCond .eq 16, 3) := by decide +kernel
theorem dX12_tells_54 : decode cX12_tells 54 = .ok (.aload_n 0, 1) := by decide +kernel
theorem dX12_tells_55 : decode cX12_tells 55 = .ok (.iload 6, 2) := by decide +kernel
theorem dX12_tells_57 : decode cX12_tells 57 = .ok (.invokevirtual 233, 3) := by decide +kernel
theorem dX12_tells_60 : decode cX12_tells 60 = .ok (.ifCond .eq 7, 3) := by decide +kernel
theorem dX12_tells_63 : decode cX12_tells 63 = .ok (.iconst 1, 1) := by decide +kernel
theorem dX12_tells_64 : decode cX12_tells 64 = .ok (.goto 4, 3) := by decide +kernel
theorem dX12_tells_67 : decode cX12_tells 67 = .ok (.iconst 0, 1) := by decide +kernel
theorem dX12_tells_68 : decode cX12_tells 68 = .ok (.iadd, 1) := by decide +kernel
theorem dX12_tells_69 : decode cX12_tells 69 = .ok (.istore 5, 2) := by decide +kernel
theorem dX12_tells_71 : decode cX12_tells 71 = .ok (.iinc 6 1, 3) := by decide +kernel
theorem dX12_tells_74 : decode cX12_tells 74 = .ok (.goto (-41), 3) := by decide +kernel
theorem dX12_tells_77 : decode cX12_tells 77 = .ok (.iload 5, 2) := by decide +kernel
theorem dX12_tells_79 : decode cX12_tells 79 = .ok (.iload_n 3, 1) := by decide +kernel
theorem dX12_tells_80 : decode cX12_tells 80 = .ok (.iload 5, 2) := by decide +kernel
theorem dX12_tells_82 : decode cX12_tells 82 = .ok (.isub, 1) := by decide +kernel
theorem dX12_tells_83 : decode cX12_tells 83 = .ok (.if_icmp .ge 8, 3) := by decide +kernel
theorem dX12_tells_86 : decode cX12_tells 86 = .ok (.iload 5, 2) := by decide +kernel
theorem dX12_tells_88 : decode cX12_tells 88 = .ok (.goto 7, 3) := by decide +kernel
theorem dX12_tells_91 : decode cX12_tells 91 = .ok (.iload_n 3, 1) := by decide +kernel
theorem dX12_tells_92 : decode cX12_tells 92 = .ok (.iload 5, 2) := by decide +kernel
theorem dX12_tells_94 : decode cX12_tells 94 = .ok (.isub, 1) := by decide +kernel
theorem dX12_tells_95 : decode cX12_tells 95 = .ok (.istore 6, 2) := by decide +kernel
theorem dX12_tells_97 : decode cX12_tells 97 = .ok (.iload_n 1, 1) := by decide +kernel
theorem dX12_tells_98 : decode cX12_tells 98 = .ok (.ifCond .lt 9, 3) := by decide +kernel
theorem dX12_tells_101 : decode cX12_tells 101 = .ok (.iload 6, 2) := by decide +kernel
theorem dX12_tells_103 : decode cX12_tells 103 = .ok (.iload_n 2, 1) := by decide +kernel
theorem dX12_tells_104 : decode cX12_tells 104 = .ok (.if_icmp .le 9, 3) := by decide +kernel
theorem dX12_tells_107 : decode cX12_tells 107 = .ok (.iload 4, 2) := by decide +kernel
theorem dX12_tells_109 : decode cX12_tells 109 = .ok (.istore_n 1, 1) := by decide +kernel
theorem dX12_tells_110 : decode cX12_tells 110 = .ok (.iload 6, 2) := by decide +kernel
theorem dX12_tells_112 : decode cX12_tells 112 = .ok (.istore_n 2, 1) := by decide +kernel
theorem dX12_tells_113 : decode cX12_tells 113 = .ok (.iinc 4 1, 3) := by decide +kernel
theorem dX12_tells_116 : decode cX12_tells 116 = .ok (.goto (-98), 3) := by decide +kernel
theorem dX12_tells_119 : decode cX12_tells 119 = .ok (.iload_n 1, 1) := by decide +kernel
theorem dX12_tells_120 : decode cX12_tells 120 = .ok (.ireturn, 1) := by decide +kernel
theorem dX12_tellsAll_0 : decode cX12_tellsAll 0 = .ok (.iconst 1, 1) := by decide +kernel
theorem dX12_tellsAll_1 : decode cX12_tellsAll 1 = .ok (.istore_n 3, 1) := by decide +kernel
theorem dX12_tellsAll_2 : decode cX12_tellsAll 2 = .ok (.iconst 0, 1) := by decide +kernel
theorem dX12_tellsAll_3 : decode cX12_tellsAll 3 = .ok (.istore 4, 2) := by decide +kernel
theorem dX12_tellsAll_5 : decode cX12_tellsAll 5 = .ok (.iload 4, 2) := by decide +kernel
theorem dX12_tellsAll_7 : decode cX12_tellsAll 7 = .ok (.bipush 10, 2) := by decide +kernel
theorem dX12_tellsAll_9 : decode cX12_tellsAll 9 = .ok (.if_icmp .gt 70, 3) := by decide +kernel
theorem dX12_tellsAll_12 : decode cX12_tellsAll 12 = .ok (.iload_n 3, 1) := by decide +kernel
theorem dX12_tellsAll_13 : decode cX12_tellsAll 13 = .ok (.ifCond .eq 66, 3) := by decide +kernel
theorem dX12_tellsAll_16 : decode cX12_tellsAll 16 = .ok (.iconst 0, 1) := by decide +kernel
theorem dX12_tellsAll_17 : decode cX12_tellsAll 17 = .ok (.istore 5, 2) := by decide +kernel
theorem dX12_tellsAll_19 : decode cX12_tellsAll 19 = .ok (.iload 5, 2) := by decide +kernel
theorem dX12_tellsAll_21 : decode cX12_tellsAll 21 = .ok (.iload 4, 2) := by decide +kernel
theorem dX12_tellsAll_23 : decode cX12_tellsAll 23 = .ok (.if_icmp .ge 50, 3) := by decide +kernel
theorem dX12_tellsAll_26 : decode cX12_tellsAll 26 = .ok (.iload_n 3, 1) := by decide +kernel
theorem dX12_tellsAll_27 : decode cX12_tellsAll 27 = .ok (.ifCond .eq 46, 3) := by decide +kernel
theorem dX12_tellsAll_30 : decode cX12_tellsAll 30 = .ok (.aload_n 0, 1) := by decide +kernel
theorem dX12_tellsAll_31 : decode cX12_tellsAll 31 = .ok (.getfield 63, 3) := by decide +kernel
theorem dX12_tellsAll_34 : decode cX12_tellsAll 34 = .ok (.iload 4, 2) := by decide +kernel
theorem dX12_tellsAll_36 : decode cX12_tellsAll 36 = .ok (.iaload, 1) := by decide +kernel
theorem dX12_tellsAll_37 : decode cX12_tellsAll 37 = .ok (.aload_n 0, 1) := by decide +kernel
theorem dX12_tellsAll_38 : decode cX12_tellsAll 38 = .ok (.getfield 63, 3) := by decide +kernel
theorem dX12_tellsAll_41 : decode cX12_tellsAll 41 = .ok (.iload 5, 2) := by decide +kernel
theorem dX12_tellsAll_43 : decode cX12_tellsAll 43 = .ok (.iaload, 1) := by decide +kernel
theorem dX12_tellsAll_44 : decode cX12_tellsAll 44 = .ok (.ixor, 1) := by decide +kernel
theorem dX12_tellsAll_45 : decode cX12_tellsAll 45 = .ok (.istore 6, 2) := by decide +kernel
theorem dX12_tellsAll_47 : decode cX12_tellsAll 47 = .ok (.iload 6, 2) := by decide +kernel
theorem dX12_tellsAll_49 : decode cX12_tellsAll 49 = .ok (.iload_n 2, 1) := by decide +kernel
theorem dX12_tellsAll_50 : decode cX12_tellsAll 50 = .ok (.iand, 1) := by decide +kernel
theorem dX12_tellsAll_51 : decode cX12_tellsAll 51 = .ok (.ifCond .eq 10, 3) := by decide +kernel
theorem dX12_tellsAll_54 : decode cX12_tellsAll 54 = .ok (.iload 6, 2) := by decide +kernel
theorem dX12_tellsAll_56 : decode cX12_tellsAll 56 = .ok (.iload_n 1, 1) := by decide +kernel
theorem dX12_tellsAll_57 : decode cX12_tellsAll 57 = .ok (.iand, 1) := by decide +kernel
theorem dX12_tellsAll_58 : decode cX12_tellsAll 58 = .ok (.ifCond .eq 7, 3) := by decide +kernel
theorem dX12_tellsAll_61 : decode cX12_tellsAll 61 = .ok (.iconst 1, 1) := by decide +kernel
theorem dX12_tellsAll_62 : decode cX12_tellsAll 62 = .ok (.goto 4, 3) := by decide +kernel
theorem dX12_tellsAll_65 : decode cX12_tellsAll 65 = .ok (.iconst 0, 1) := by decide +kernel
theorem dX12_tellsAll_66 : decode cX12_tellsAll 66 = .ok (.istore_n 3, 1) := by decide +kernel
theorem dX12_tellsAll_67 : decode cX12_tellsAll 67 = .ok (.iinc 5 1, 3) := by decide +kernel
theorem dX12_tellsAll_70 : decode cX12_tellsAll 70 = .ok (.goto (-51), 3) := by decide +kernel
theorem dX12_tellsAll_73 : decode cX12_tellsAll 73 = .ok (.iinc 4 1, 3) := by decide +kernel
theorem dX12_tellsAll_76 : decode cX12_tellsAll 76 = .ok (.goto (-71), 3) := by decide +kernel
theorem dX12_tellsAll_79 : decode cX12_tellsAll 79 = .ok (.iload_n 3, 1) := by decide +kernel
theorem dX12_tellsAll_80 : decode cX12_tellsAll 80 = .ok (.ireturn, 1) := by decide +kernel
theorem dX12_test_0 : decode cX12_test 0 = .ok (.aload_n 0, 1) := by decide +kernel
theorem dX12_test_1 : decode cX12_test 1 = .ok (.invokevirtual 137, 3) := by decide +kernel
theorem dX12_test_4 : decode cX12_test 4 = .ok (.iconst 0, 1) := by decide +kernel
theorem dX12_test_5 : decode cX12_test 5 = .ok (.istore_n 1, 1) := by decide +kernel
theorem dX12_test_6 : decode cX12_test 6 = .ok (.iconst 0, 1) := by decide +kernel
theorem dX12_test_7 : decode cX12_test 7 = .ok (.istore_n 2, 1) := by decide +kernel
theorem dX12_test_8 : decode cX12_test 8 = .ok (.iload_n 2, 1) := by decide +kernel
theorem dX12_test_9 : decode cX12_test 9 = .ok (.bipush 10, 2) := by decide +kernel
theorem dX12_test_11 : decode cX12_test 11 = .ok (.if_icmp .gt 16, 3) := by decide +kernel
theorem dX12_test_14 : decode cX12_test 14 = .ok (.aload_n 0, 1) := by decide +kernel
theorem dX12_test_15 : decode cX12_test 15 = .ok (.getfield 63, 3) := by decide +kernel
theorem dX12_test_18 : decode cX12_test 18 = .ok (.iload_n 2, 1) := by decide +kernel
theorem dX12_test_19 : decode cX12_test 19 = .ok (.iconst 0, 1) := by decide +kernel
theorem dX12_test_20 : decode cX12_test 20 = .ok (.iastore, 1) := by decide +kernel
theorem dX12_test_21 : decode cX12_test 21 = .ok (.iinc 2 1, 3) := by decide +kernel
theorem dX12_test_24 : decode cX12_test 24 = .ok (.goto (-16), 3) := by decide +kernel
theorem dX12_test_27 : decode cX12_test 27 = .ok (.iconst 0, 1) := by decide +kernel
theorem dX12_test_28 : decode cX12_test 28 = .ok (.istore_n 2, 1) := by decide +kernel
theorem dX12_test_29 : decode cX12_test 29 = .ok (.iload_n 2, 1) := by decide +kernel
theorem dX12_test_30 : decode cX12_test 30 = .ok (.aload_n 0, 1) := by decide +kernel
theorem dX12_test_31 : decode cX12_test 31 = .ok (.getfield 105, 3) := by decide +kernel
theorem dX12_test_34 : decode cX12_test 34 = .ok (.if_icmp .ge 57, 3) := by decide +kernel
theorem dX12_test_37 : decode cX12_test 37 = .ok (.aload_n 0, 1) := by decide +kernel
theorem dX12_test_38 : decode cX12_test 38 = .ok (.iload_n 2, 1) := by decide +kernel
theorem dX12_test_39 : decode cX12_test 39 = .ok (.invokevirtual 140, 3) := by decide +kernel
theorem dX12_test_42 : decode cX12_test 42 = .ok (.ifCond .eq 43, 3) := by decide +kernel
theorem dX12_test_45 : decode cX12_test 45 = .ok (.iload_n 1, 1) := by decide +kernel
theorem dX12_test_46 : decode cX12_test 46 = .ok (.iconst 1, 1) := by decide +kernel
theorem dX12_test_47 : decode cX12_test 47 = .ok (.iload_n 2, 1) := by decide +kernel
theorem dX12_test_48 : decode cX12_test 48 = .ok (.ishl, 1) := by decide +kernel
theorem dX12_test_49 : decode cX12_test 49 = .ok (.ior, 1) := by decide +kernel
theorem dX12_test_50 : decode cX12_test 50 = .ok (.istore_n 1, 1) := by decide +kernel
theorem dX12_test_51 : decode cX12_test 51 = .ok (.iconst 0, 1) := by decide +kernel
theorem dX12_test_52 : decode cX12_test 52 = .ok (.istore_n 3, 1) := by decide +kernel
theorem dX12_test_53 : decode cX12_test 53 = .ok (.iload_n 3, 1) := by decide +kernel
theorem dX12_test_54 : decode cX12_test 54 = .ok (.bipush 10, 2) := by decide +kernel
theorem dX12_test_56 : decode cX12_test 56 = .ok (.if_icmp .ge 29, 3) := by decide +kernel
theorem dX12_test_59 : decode cX12_test 59 = .ok (.aload_n 0, 1) := by decide +kernel
theorem dX12_test_60 : decode cX12_test 60 = .ok (.getfield 63, 3) := by decide +kernel
theorem dX12_test_63 : decode cX12_test 63 = .ok (.iload_n 3, 1) := by decide +kernel
theorem dX12_test_64 : decode cX12_test 64 = .ok (.dup2, 1) := by decide +kernel
theorem dX12_test_65 : decode cX12_test 65 = .ok (.iaload, 1) := by decide +kernel
theorem dX12_test_66 : decode cX12_test 66 = .ok (.aload_n 0, 1) := by decide +kernel
theorem dX12_test_67 : decode cX12_test 67 = .ok (.iload_n 2, 1) := by decide +kernel
theorem dX12_test_68 : decode cX12_test 68 = .ok (.invokevirtual 133, 3) := by decide +kernel
theorem dX12_test_71 : decode cX12_test 71 = .ok (.iload_n 3, 1) := by decide +kernel
theorem dX12_test_72 : decode cX12_test 72 = .ok (.ishr, 1) := by decide +kernel
theorem dX12_test_73 : decode cX12_test 73 = .ok (.iconst 1, 1) := by decide +kernel
theorem dX12_test_74 : decode cX12_test 74 = .ok (.iand, 1) := by decide +kernel
theorem dX12_test_75 : decode cX12_test 75 = .ok (.iload_n 2, 1) := by decide +kernel
theorem dX12_test_76 : decode cX12_test 76 = .ok (.ishl, 1) := by decide +kernel
theorem dX12_test_77 : decode cX12_test 77 = .ok (.ior, 1) := by decide +kernel
theorem dX12_test_78 : decode cX12_test 78 = .ok (.iastore, 1) := by decide +kernel
theorem dX12_test_79 : decode cX12_test 79 = .ok (.iinc 3 1, 3) := by decide +kernel
theorem dX12_test_82 : decode cX12_test 82 = .ok (.goto (-29), 3) := by decide +kernel
theorem dX12_test_85 : decode cX12_test 85 = .ok (.iinc 2 1, 3) := by decide +kernel
theorem dX12_test_88 : decode cX12_test 88 = .ok (.goto (-59), 3) := by decide +kernel
theorem dX12_test_91 : decode cX12_test 91 = .ok (.bipush (-6), 2) := by decide +kernel
theorem dX12_test_93 : decode cX12_test 93 = .ok (.istore_n 2, 1) := by decide +kernel
theorem dX12_test_94 : decode cX12_test 94 = .ok (.iconst 0, 1) := by decide +kernel
theorem dX12_test_95 : decode cX12_test 95 = .ok (.istore_n 3, 1) := by decide +kernel
theorem dX12_test_96 : decode cX12_test 96 = .ok (.iload_n 3, 1) := by decide +kernel
theorem dX12_test_97 : decode cX12_test 97 = .ok (.iload_n 1, 1) := by decide +kernel
theorem dX12_test_98 : decode cX12_test 98 = .ok (.if_icmp .gt 59, 3) := by decide +kernel
theorem dX12_test_101 : decode cX12_test 101 = .ok (.iload_n 3, 1) := by decide +kernel
theorem dX12_test_102 : decode cX12_test 102 = .ok (.iload_n 1, 1) := by decide +kernel
theorem dX12_test_103 : decode cX12_test 103 = .ok (.iconst (-1), 1) := by decide +kernel
theorem dX12_test_104 : decode cX12_test 104 = .ok (.ixor, 1) := by decide +kernel
theorem dX12_test_105 : decode cX12_test 105 = .ok (.iand, 1) := by decide +kernel
theorem dX12_test_106 : decode cX12_test 106 = .ok (.ifCond .ne 22, 3) := by decide +kernel
theorem dX12_test_109 : decode cX12_test 109 = .ok (.iload_n 2, 1) := by decide +kernel
theorem dX12_test_110 : decode cX12_test 110 = .ok (.ifCond .lt 14, 3) := by decide +kernel
theorem dX12_test_113 : decode cX12_test 113 = .ok (.iload_n 3, 1) := by decide +kernel
theorem dX12_test_114 : decode cX12_test 114 = .ok (.invokestatic 211, 3) := by decide +kernel
theorem dX12_test_117 : decode cX12_test 117 = .ok (.iload_n 2, 1) := by decide +kernel
theorem dX12_test_118 : decode cX12_test 118 = .ok (.invokestatic 211, 3) := by decide +kernel
theorem dX12_test_121 : decode cX12_test 121 = .ok (.if_icmp .ge 7, 3) := by decide +kernel
theorem dX12_test_124 : decode cX12_test 124 = .ok (.iconst 1, 1) := by decide +kernel
theorem dX12_test_125 : decode cX12_test 125 = .ok (.goto 4, 3) := by decide +kernel
theorem dX12_test_128 : decode cX12_test 128 = .ok (.iconst 0, 1) := by decide +kernel
theorem dX12_test_129 : decode cX12_test 129 = .ok (.istore 4, 2) := by decide +kernel
theorem dX12_test_131 : decode cX12_test 131 = .ok (.iload 4, 2) := by decide +kernel
theorem dX12_test_133 : decode cX12_test 133 = .ok (.ifCond .eq 16, 3) := by decide +kernel
theorem dX12_test_136 : decode cX12_test 136 = .ok (.aload_n 0, 1) := by decide +kernel
theorem dX12_test_137 : decode cX12_test 137 = .ok (.iload_n 3, 1) := by decide +kernel
theorem dX12_test_138 : decode cX12_test 138 = .ok (.iload_n 1, 1) := by decide +kernel
theorem dX12_test_139 : decode cX12_test 139 = .ok (.invokevirtual 241, 3) := by decide +kernel
theorem dX12_test_142 : decode cX12_test 142 = .ok (.ifCond .eq 7, 3) := by decide +kernel
theorem dX12_test_145 : decode cX12_test 145 = .ok (.iload_n 3, 1) := by decide +kernel
theorem dX12_test_146 : decode cX12_test 146 = .ok (.goto 4, 3) := by decide +kernel
theorem dX12_test_149 : decode cX12_test 149 = .ok (.iload_n 2, 1) := by decide +kernel
theorem dX12_test_150 : decode cX12_test 150 = .ok (.istore_n 2, 1) := by decide +kernel
theorem dX12_test_151 : decode cX12_test 151 = .ok (.iinc 3 1, 3) := by decide +kernel
theorem dX12_test_154 : decode cX12_test 154 = .ok (.goto (-58), 3) := by decide +kernel
theorem dX12_test_157 : decode cX12_test 157 = .ok (.iload_n 2, 1) := by decide +kernel
theorem dX12_test_158 : decode cX12_test 158 = .ok (.ireturn, 1) := by decide +kernel
theorem dX12_signFor_0 : decode cX12_signFor 0 = .ok (.iconst 0, 1) := by decide +kernel
theorem dX12_signFor_1 : decode cX12_signFor 1 = .ok (.istore_n 2, 1) := by decide +kernel
theorem dX12_signFor_2 : decode cX12_signFor 2 = .ok (.iconst 1, 1) := by decide +kernel
theorem dX12_signFor_3 : decode cX12_signFor 3 = .ok (.istore_n 3, 1) := by decide +kernel
theorem dX12_signFor_4 : decode cX12_signFor 4 = .ok (.iload_n 3, 1) := by decide +kernel
theorem dX12_signFor_5 : decode cX12_signFor 5 = .ok (.bipush 10, 2) := by decide +kernel
theorem dX12_signFor_7 : decode cX12_signFor 7 = .ok (.if_icmp .ge 40, 3) := by decide +kernel
theorem dX12_signFor_10 : decode cX12_signFor 10 = .ok (.aload_n 0, 1) := by decide +kernel
theorem dX12_signFor_11 : decode cX12_signFor 11 = .ok (.getfield 25, 3) := by decide +kernel
theorem dX12_signFor_14 : decode cX12_signFor 14 = .ok (.bipush 10, 2) := by decide +kernel
theorem dX12_signFor_16 : decode cX12_signFor 16 = .ok (.iload_n 3, 1) := by decide +kernel
theorem dX12_signFor_17 : decode cX12_signFor 17 = .ok (.imul, 1) := by decide +kernel
theorem dX12_signFor_18 : decode cX12_signFor 18 = .ok (.iload_n 1, 1) := by decide +kernel
theorem dX12_signFor_19 : decode cX12_signFor 19 = .ok (.iadd, 1) := by decide +kernel
theorem dX12_signFor_20 : decode cX12_signFor 20 = .ok (.iaload, 1) := by decide +kernel
theorem dX12_signFor_21 : decode cX12_signFor 21 = .ok (.aload_n 0, 1) := by decide +kernel
theorem dX12_signFor_22 : decode cX12_signFor 22 = .ok (.getfield 25, 3) := by decide +kernel
theorem dX12_signFor_25 : decode cX12_signFor 25 = .ok (.bipush 10, 2) := by decide +kernel
theorem dX12_signFor_27 : decode cX12_signFor 27 = .ok (.iload_n 2, 1) := by decide +kernel
theorem dX12_signFor_28 : decode cX12_signFor 28 = .ok (.imul, 1) := by decide +kernel
theorem dX12_signFor_29 : decode cX12_signFor 29 = .ok (.iload_n 1, 1) := by decide +kernel
theorem dX12_signFor_30 : decode cX12_signFor 30 = .ok (.iadd, 1) := by decide +kernel
theorem dX12_signFor_31 : decode cX12_signFor 31 = .ok (.iaload, 1) := by decide +kernel
theorem dX12_signFor_32 : decode cX12_signFor 32 = .ok (.if_icmp .le 7, 3) := by decide +kernel
theorem dX12_signFor_35 : decode cX12_signFor 35 = .ok (.iload_n 3, 1) := by decide +kernel
theorem dX12_signFor_36 : decode cX12_signFor 36 = .ok (.goto 4, 3) := by decide +kernel
theorem dX12_signFor_39 : decode cX12_signFor 39 = .ok (.iload_n 2, 1) := by decide +kernel
theorem dX12_signFor_40 : decode cX12_signFor 40 = .ok (.istore_n 2, 1) := by decide +kernel
theorem dX12_signFor_41 : decode cX12_signFor 41 = .ok (.iinc 3 1, 3) := by decide +kernel
theorem dX12_signFor_44 : decode cX12_signFor 44 = .ok (.goto (-40), 3) := by decide +kernel
theorem dX12_signFor_47 : decode cX12_signFor 47 = .ok (.iload_n 2, 1) := by decide +kernel
theorem dX12_signFor_48 : decode cX12_signFor 48 = .ok (.ireturn, 1) := by decide +kernel
theorem dX12_respeltAt_0 : decode cX12_respeltAt 0 = .ok (.aload_n 0, 1) := by decide +kernel
theorem dX12_respeltAt_1 : decode cX12_respeltAt 1 = .ok (.aload_n 0, 1) := by decide +kernel
theorem dX12_respeltAt_2 : decode cX12_respeltAt 2 = .ok (.getfield 13, 3) := by decide +kernel
theorem dX12_respeltAt_5 : decode cX12_respeltAt 5 = .ok (.iconst 5, 1) := by decide +kernel
theorem dX12_respeltAt_6 : decode cX12_respeltAt 6 = .ok (.iload_n 1, 1) := by decide +kernel
theorem dX12_respeltAt_7 : decode cX12_respeltAt 7 = .ok (.imul, 1) := by decide +kernel
theorem dX12_respeltAt_8 : decode cX12_respeltAt 8 = .ok (.iload_n 2, 1) := by decide +kernel
theorem dX12_respeltAt_9 : decode cX12_respeltAt 9 = .ok (.iadd, 1) := by decide +kernel
theorem dX12_respeltAt_10 : decode cX12_respeltAt 10 = .ok (.iaload, 1) := by decide +kernel
theorem dX12_respeltAt_11 : decode cX12_respeltAt 11 = .ok (.invokevirtual 244, 3) := by decide +kernel
theorem dX12_respeltAt_14 : decode cX12_respeltAt 14 = .ok (.ireturn, 1) := by decide +kernel
theorem dX12_respelt_0 : decode cX12_respelt 0 = .ok (.aload_n 0, 1) := by decide +kernel
theorem dX12_respelt_1 : decode cX12_respelt 1 = .ok (.iload_n 1, 1) := by decide +kernel
theorem dX12_respelt_2 : decode cX12_respelt 2 = .ok (.invokevirtual 122, 3) := by decide +kernel
theorem dX12_respelt_5 : decode cX12_respelt 5 = .ok (.ifCond .ne 5, 3) := by decide +kernel
theorem dX12_respelt_8 : decode cX12_respelt 8 = .ok (.iconst (-1), 1) := by decide +kernel
theorem dX12_respelt_9 : decode cX12_respelt 9 = .ok (.ireturn, 1) := by decide +kernel
theorem dX12_respelt_10 : decode cX12_respelt 10 = .ok (.iload_n 2, 1) := by decide +kernel
theorem dX12_respelt_11 : decode cX12_respelt 11 = .ok (.i2l, 1) := by decide +kernel
theorem dX12_respelt_12 : decode cX12_respelt 12 = .ok (.lconst 0, 1) := by decide +kernel
theorem dX12_respelt_13 : decode cX12_respelt 13 = .ok (.ldc2_w 247, 3) := by decide +kernel
theorem dX12_respelt_16 : decode cX12_respelt 16 = .ok (.invokestatic 80, 3) := by decide +kernel
theorem dX12_respelt_19 : decode cX12_respelt 19 = .ok (.ifCond .ne 6, 3) := by decide +kernel
theorem dX12_respelt_22 : decode cX12_respelt 22 = .ok (.bipush (-2), 2) := by decide +kernel
theorem dX12_respelt_24 : decode cX12_respelt 24 = .ok (.ireturn, 1) := by decide +kernel
theorem dX12_respelt_25 : decode cX12_respelt 25 = .ok (.aload_n 0, 1) := by decide +kernel
theorem dX12_respelt_26 : decode cX12_respelt 26 = .ok (.invokevirtual 137, 3) := by decide +kernel
theorem dX12_respelt_29 : decode cX12_respelt 29 = .ok (.iload_n 2, 1) := by decide +kernel
theorem dX12_respelt_30 : decode cX12_respelt 30 = .ok (.aload_n 0, 1) := by decide +kernel
theorem dX12_respelt_31 : decode cX12_respelt 31 = .ok (.getfield 16, 3) := by decide +kernel
theorem dX12_respelt_34 : decode cX12_respelt 34 = .ok (.iload_n 1, 1) := by decide +kernel
theorem dX12_respelt_35 : decode cX12_respelt 35 = .ok (.iaload, 1) := by decide +kernel
theorem dX12_respelt_36 : decode cX12_respelt 36 = .ok (.if_icmp .ge 12, 3) := by decide +kernel
theorem dX12_respelt_39 : decode cX12_respelt 39 = .ok (.aload_n 0, 1) := by decide +kernel
theorem dX12_respelt_40 : decode cX12_respelt 40 = .ok (.iload_n 1, 1) := by decide +kernel
theorem dX12_respelt_41 : decode cX12_respelt 41 = .ok (.iload_n 2, 1) := by decide +kernel
theorem dX12_respelt_42 : decode cX12_respelt 42 = .ok (.invokevirtual 249, 3) := by decide +kernel
theorem dX12_respelt_45 : decode cX12_respelt 45 = .ok (.goto 5, 3) := by decide +kernel
theorem dX12_respelt_48 : decode cX12_respelt 48 = .ok (.bipush (-6), 2) := by decide +kernel
theorem dX12_respelt_50 : decode cX12_respelt 50 = .ok (.ireturn, 1) := by decide +kernel
theorem dX12_clash_0 : decode cX12_clash 0 = .ok (.aload_n 0, 1) := by decide +kernel
theorem dX12_clash_1 : decode cX12_clash 1 = .ok (.getfield 16, 3) := by decide +kernel
theorem dX12_clash_4 : decode cX12_clash 4 = .ok (.iload_n 1, 1) := by decide +kernel
theorem dX12_clash_5 : decode cX12_clash 5 = .ok (.iaload, 1) := by decide +kernel
theorem dX12_clash_6 : decode cX12_clash 6 = .ok (.aload_n 0, 1) := by decide +kernel
theorem dX12_clash_7 : decode cX12_clash 7 = .ok (.getfield 16, 3) := by decide +kernel
theorem dX12_clash_10 : decode cX12_clash 10 = .ok (.iload_n 2, 1) := by decide +kernel
theorem dX12_clash_11 : decode cX12_clash 11 = .ok (.iaload, 1) := by decide +kernel
theorem dX12_clash_12 : decode cX12_clash 12 = .ok (.if_icmp .ne 7, 3) := by decide +kernel
theorem dX12_clash_15 : decode cX12_clash 15 = .ok (.iconst 1, 1) := by decide +kernel
theorem dX12_clash_16 : decode cX12_clash 16 = .ok (.goto 4, 3) := by decide +kernel
theorem dX12_clash_19 : decode cX12_clash 19 = .ok (.iconst 0, 1) := by decide +kernel
theorem dX12_clash_20 : decode cX12_clash 20 = .ok (.istore_n 3, 1) := by decide +kernel
theorem dX12_clash_21 : decode cX12_clash 21 = .ok (.iconst 0, 1) := by decide +kernel
theorem dX12_clash_22 : decode cX12_clash 22 = .ok (.istore 4, 2) := by decide +kernel
theorem dX12_clash_24 : decode cX12_clash 24 = .ok (.iload 4, 2) := by decide +kernel
theorem dX12_clash_26 : decode cX12_clash 26 = .ok (.aload_n 0, 1) := by decide +kernel
theorem dX12_clash_27 : decode cX12_clash 27 = .ok (.getfield 16, 3) := by decide +kernel
theorem dX12_clash_30 : decode cX12_clash 30 = .ok (.iload_n 1, 1) := by decide +kernel
theorem dX12_clash_31 : decode cX12_clash 31 = .ok (.iaload, 1) := by decide +kernel
theorem dX12_clash_32 : decode cX12_clash 32 = .ok (.if_icmp .ge 36, 3) := by decide +kernel
theorem dX12_clash_35 : decode cX12_clash 35 = .ok (.iload_n 3, 1) := by decide +kernel
theorem dX12_clash_36 : decode cX12_clash 36 = .ok (.ifCond .eq 32, 3) := by decide +kernel
theorem dX12_clash_39 : decode cX12_clash 39 = .ok (.aload_n 0, 1) := by decide +kernel
theorem dX12_clash_40 : decode cX12_clash 40 = .ok (.iload_n 1, 1) := by decide +kernel
theorem dX12_clash_41 : decode cX12_clash 41 = .ok (.iload 4, 2) := by decide +kernel
theorem dX12_clash_43 : decode cX12_clash 43 = .ok (.invokevirtual 249, 3) := by decide +kernel
theorem dX12_clash_46 : decode cX12_clash 46 = .ok (.aload_n 0, 1) := by decide +kernel
theorem dX12_clash_47 : decode cX12_clash 47 = .ok (.iload_n 2, 1) := by decide +kernel
theorem dX12_clash_48 : decode cX12_clash 48 = .ok (.iload 4, 2) := by decide +kernel
theorem dX12_clash_50 : decode cX12_clash 50 = .ok (.invokevirtual 249, 3) := by decide +kernel
theorem dX12_clash_53 : decode cX12_clash 53 = .ok (.if_icmp .ne 7, 3) := by decide +kernel
theorem dX12_clash_56 : decode cX12_clash 56 = .ok (.iconst 1, 1) := by decide +kernel
theorem dX12_clash_57 : decode cX12_clash 57 = .ok (.goto 4, 3) := by decide +kernel
theorem dX12_clash_60 : decode cX12_clash 60 = .ok (.iconst 0, 1) := by decide +kernel
theorem dX12_clash_61 : decode cX12_clash 61 = .ok (.istore_n 3, 1) := by decide +kernel
theorem dX12_clash_62 : decode cX12_clash 62 = .ok (.iinc 4 1, 3) := by decide +kernel
theorem dX12_clash_65 : decode cX12_clash 65 = .ok (.goto (-41), 3) := by decide +kernel
theorem dX12_clash_68 : decode cX12_clash 68 = .ok (.iload_n 3, 1) := by decide +kernel
theorem dX12_clash_69 : decode cX12_clash 69 = .ok (.ireturn, 1) := by decide +kernel
theorem dX12_price_0 : decode cX12_price 0 = .ok (.iload_n 1, 1) := by decide +kernel
theorem dX12_price_1 : decode cX12_price 1 = .ok (.invokestatic 148, 3) := by decide +kernel
theorem dX12_price_4 : decode cX12_price 4 = .ok (.ifCond .ne 6, 3) := by decide +kernel
theorem dX12_price_7 : decode cX12_price 7 = .ok (.bipush (-2), 2) := by decide +kernel
theorem dX12_price_9 : decode cX12_price 9 = .ok (.ireturn, 1) := by decide +kernel
theorem dX12_price_10 : decode cX12_price 10 = .ok (.aload_n 0, 1) := by decide +kernel
theorem dX12_price_11 : decode cX12_price 11 = .ok (.invokevirtual 137, 3) := by decide +kernel
theorem dX12_price_14 : decode cX12_price 14 = .ok (.iconst 0, 1) := by decide +kernel
theorem dX12_price_15 : decode cX12_price 15 = .ok (.istore_n 2, 1) := by decide +kernel
theorem dX12_price_16 : decode cX12_price 16 = .ok (.iconst 0, 1) := by decide +kernel
theorem dX12_price_17 : decode cX12_price 17 = .ok (.istore_n 3, 1) := by decide +kernel
theorem dX12_price_18 : decode cX12_price 18 = .ok (.iload_n 3, 1) := by decide +kernel
theorem dX12_price_19 : decode cX12_price 19 = .ok (.aload_n 0, 1) := by decide +kernel
theorem dX12_price_20 : decode cX12_price 20 = .ok (.getfield 105, 3) := by decide +kernel
theorem dX12_price_23 : decode cX12_price 23 = .ok (.if_icmp .ge 106, 3) := by decide +kernel
theorem dX12_price_26 : decode cX12_price 26 = .ok (.iconst 0, 1) := by decide +kernel
theorem dX12_price_27 : decode cX12_price 27 = .ok (.istore 4, 2) := by decide +kernel
theorem dX12_price_29 : decode cX12_price 29 = .ok (.iload 4, 2) := by decide +kernel
theorem dX12_price_31 : decode cX12_price 31 = .ok (.aload_n 0, 1) := by decide +kernel
theorem dX12_price_32 : decode cX12_price 32 = .ok (.getfield 16, 3) := by decide +kernel
theorem dX12_price_35 : decode cX12_price 35 = .ok (.iload_n 3, 1) := by decide +kernel
theorem dX12_price_36 : decode cX12_price 36 = .ok (.iaload, 1) := by decide +kernel
theorem dX12_price_37 : decode cX12_price 37 = .ok (.if_icmp .ge 43, 3) := by decide +kernel
theorem dX12_price_40 : decode cX12_price 40 = .ok (.iload_n 2, 1) := by decide +kernel
theorem dX12_price_41 : decode cX12_price 41 = .ok (.aload_n 0, 1) := by decide +kernel
theorem dX12_price_42 : decode cX12_price 42 = .ok (.iload_n 3, 1) := by decide +kernel
theorem dX12_price_43 : decode cX12_price 43 = .ok (.iload 4, 2) := by decide +kernel
theorem dX12_price_45 : decode cX12_price 45 = .ok (.invokevirtual 249, 3) := by decide +kernel
theorem dX12_price_48 : decode cX12_price 48 = .ok (.aload_n 0, 1) := by decide +kernel
theorem dX12_price_49 : decode cX12_price 49 = .ok (.getfield 7, 3) := by decide +kernel
theorem dX12_price_52 : decode cX12_price 52 = .ok (.iconst 5, 1) := by decide +kernel
theorem dX12_price_53 : decode cX12_price 53 = .ok (.iload_n 3, 1) := by decide +kernel
theorem dX12_price_54 : decode cX12_price 54 = .ok (.imul, 1) := by decide +kernel
theorem dX12_price_55 : decode cX12_price 55 = .ok (.iload 4, 2) := by decide +kernel
theorem dX12_price_57 : decode cX12_price 57 = .ok (.iadd, 1) := by decide +kernel
theorem dX12_price_58 : decode cX12_price 58 = .ok (.iaload, 1) := by decide +kernel
theorem dX12_price_59 : decode cX12_price 59 = .ok (.if_icmp .eq 12, 3) := by decide +kernel
theorem dX12_price_62 : decode cX12_price 62 = .ok (.aload_n 0, 1) := by decide +kernel
theorem dX12_price_63 : decode cX12_price 63 = .ok (.getfield 19, 3) := by decide +kernel
theorem dX12_price_66 : decode cX12_price 66 = .ok (.iload_n 3, 1) := by decide +kernel
theorem dX12_price_67 : decode cX12_price 67 = .ok (.iaload, 1) := by decide +kernel
theorem dX12_price_68 : decode cX12_price 68 = .ok (.goto 4, 3) := by decide +kernel
theorem dX12_price_71 : decode cX12_price 71 = .ok (.iconst 0, 1) := by decide +kernel
theorem dX12_price_72 : decode cX12_price 72 = .ok (.iadd, 1) := by decide +kernel
theorem dX12_price_73 : decode cX12_price 73 = .ok (.istore_n 2, 1) := by decide +kernel
theorem dX12_price_74 : decode cX12_price 74 = .ok (.iinc 4 1, 3) := by decide +kernel
theorem dX12_price_77 : decode cX12_price 77 = .ok (.goto (-48), 3) := by decide +kernel
theorem dX12_price_80 : decode cX12_price 80 = .ok (.iload_n 3, 1) := by decide +kernel
theorem dX12_price_81 : decode cX12_price 81 = .ok (.iconst 1, 1) := by decide +kernel
theorem dX12_price_82 : decode cX12_price 82 = .ok (.iadd, 1) := by decide +kernel
theorem dX12_price_83 : decode cX12_price 83 = .ok (.istore 4, 2) := by decide +kernel
theorem dX12_price_85 : decode cX12_price 85 = .ok (.iload 4, 2) := by decide +kernel
theorem dX12_price_87 : decode cX12_price 87 = .ok (.aload_n 0, 1) := by decide +kernel
theorem dX12_price_88 : decode cX12_price 88 = .ok (.getfield 105, 3) := by decide +kernel
theorem dX12_price_91 : decode cX12_price 91 = .ok (.if_icmp .ge 32, 3) := by decide +kernel
theorem dX12_price_94 : decode cX12_price 94 = .ok (.iload_n 1, 1) := by decide +kernel
theorem dX12_price_95 : decode cX12_price 95 = .ok (.iconst 1, 1) := by decide +kernel
theorem dX12_price_96 : decode cX12_price 96 = .ok (.if_icmp .ne 27, 3) := by decide +kernel
theorem dX12_price_99 : decode cX12_price 99 = .ok (.aload_n 0, 1) := by decide +kernel
theorem dX12_price_100 : decode cX12_price 100 = .ok (.iload_n 3, 1) := by decide +kernel
theorem dX12_price_101 : decode cX12_price 101 = .ok (.iload 4, 2) := by decide +kernel
theorem dX12_price_103 : decode cX12_price 103 = .ok (.invokevirtual 252, 3) := by decide +kernel
theorem dX12_price_106 : decode cX12_price 106 = .ok (.ifCond .eq 11, 3) := by decide +kernel
theorem dX12_price_109 : decode cX12_price 109 = .ok (.bipush 100, 2) := by decide +kernel
theorem dX12_price_111 : decode cX12_price 111 = .ok (.iload_n 3, 1) := by decide +kernel
theorem dX12_price_112 : decode cX12_price 112 = .ok (.imul, 1) := by decide +kernel
theorem dX12_price_113 : decode cX12_price 113 = .ok (.iload 4, 2) := by decide +kernel
theorem dX12_price_115 : decode cX12_price 115 = .ok (.iadd, 1) := by decide +kernel
theorem dX12_price_116 : decode cX12_price 116 = .ok (.ireturn, 1) := by decide +kernel
theorem dX12_price_117 : decode cX12_price 117 = .ok (.iinc 4 1, 3) := by decide +kernel
theorem dX12_price_120 : decode cX12_price 120 = .ok (.goto (-35), 3) := by decide +kernel
theorem dX12_price_123 : decode cX12_price 123 = .ok (.iinc 3 1, 3) := by decide +kernel
theorem dX12_price_126 : decode cX12_price 126 = .ok (.goto (-108), 3) := by decide +kernel
theorem dX12_price_129 : decode cX12_price 129 = .ok (.iload_n 1, 1) := by decide +kernel
theorem dX12_price_130 : decode cX12_price 130 = .ok (.ifCond .ne 7, 3) := by decide +kernel
theorem dX12_price_133 : decode cX12_price 133 = .ok (.iload_n 2, 1) := by decide +kernel
theorem dX12_price_134 : decode cX12_price 134 = .ok (.goto 5, 3) := by decide +kernel
theorem dX12_price_137 : decode cX12_price 137 = .ok (.bipush (-6), 2) := by decide +kernel
theorem dX12_price_139 : decode cX12_price 139 = .ok (.ireturn, 1) := by decide +kernel
theorem dX12_findLessons_0 : decode cX12_findLessons 0 = .ok (.aload_n 0, 1) := by decide +kernel
theorem dX12_findLessons_1 : decode cX12_findLessons 1 = .ok (.getfield 34, 3) := by decide +kernel
theorem dX12_findLessons_4 : decode cX12_findLessons 4 = .ok (.iload_n 1, 1) := by decide +kernel
theorem dX12_findLessons_5 : decode cX12_findLessons 5 = .ok (.iaload, 1) := by decide +kernel
theorem dX12_findLessons_6 : decode cX12_findLessons 6 = .ok (.istore_n 2, 1) := by decide +kernel
theorem dX12_findLessons_7 : decode cX12_findLessons 7 = .ok (.iconst 0, 1) := by decide +kernel
theorem dX12_findLessons_8 : decode cX12_findLessons 8 = .ok (.istore_n 3, 1) := by decide +kernel
theorem dX12_findLessons_9 : decode cX12_findLessons 9 = .ok (.iload_n 3, 1) := by decide +kernel
theorem dX12_findLessons_10 : decode cX12_findLessons 10 = .ok (.bipush 12, 2) := by decide +kernel
theorem dX12_findLessons_12 : decode cX12_findLessons 12 = .ok (.if_icmp .gt 21, 3) := by decide +kernel
theorem dX12_findLessons_15 : decode cX12_findLessons 15 = .ok (.aload_n 0, 1) := by decide +kernel
theorem dX12_findLessons_16 : decode cX12_findLessons 16 = .ok (.getfield 66, 3) := by decide +kernel
theorem dX12_findLessons_19 : decode cX12_findLessons 19 = .ok (.bipush 13, 2) := by decide +kernel
theorem dX12_findLessons_21 : decode cX12_findLessons 21 = .ok (.iload_n 1, 1) := by decide +kernel
theorem dX12_findLessons_22 : decode cX12_findLessons 22 = .ok (.imul, 1) := by decide +kernel
theorem dX12_findLessons_23 : decode cX12_findLessons 23 = .ok (.iload_n 3, 1) := by decide +kernel
theorem dX12_findLessons_24 : decode cX12_findLessons 24 = .ok (.iadd, 1) := by decide +kernel
theorem dX12_findLessons_25 : decode cX12_findLessons 25 = .ok (.iconst 0, 1) := by decide +kernel
theorem dX12_findLessons_26 : decode cX12_findLessons 26 = .ok (.iastore, 1) := by decide +kernel
theorem dX12_findLessons_27 : decode cX12_findLessons 27 = .ok (.iinc 3 1, 3) := by decide +kernel
theorem dX12_findLessons_30 : decode cX12_findLessons 30 = .ok (.goto (-21), 3) := by decide +kernel
theorem dX12_findLessons_33 : decode cX12_findLessons 33 = .ok (.bipush 10, 2) := by decide +kernel
theorem dX12_findLessons_35 : decode cX12_findLessons 35 = .ok (.iload_n 2, 1) := by decide +kernel
theorem dX12_findLessons_36 : decode cX12_findLessons 36 = .ok (.invokestatic 211, 3) := by decide +kernel
theorem dX12_findLessons_39 : decode cX12_findLessons 39 = .ok (.isub, 1) := by decide +kernel
theorem dX12_findLessons_40 : decode cX12_findLessons 40 = .ok (.istore_n 3, 1) := by decide +kernel
theorem dX12_findLessons_41 : decode cX12_findLessons 41 = .ok (.iconst 0, 1) := by decide +kernel
theorem dX12_findLessons_42 : decode cX12_findLessons 42 = .ok (.istore 4, 2) := by decide +kernel
theorem dX12_findLessons_44 : decode cX12_findLessons 44 = .ok (.iload 4, 2) := by decide +kernel
theorem dX12_findLessons_46 : decode cX12_findLessons 46 = .ok (.sipush 1024, 3) := by decide +kernel
theorem dX12_findLessons_49 : decode cX12_findLessons 49 = .ok (.if_icmp .ge 114, 3) := by decide +kernel
theorem dX12_findLessons_52 : decode cX12_findLessons 52 = .ok (.iload 4, 2) := by decide +kernel
theorem dX12_findLessons_54 : decode cX12_findLessons 54 = .ok (.iload_n 2, 1) := by decide +kernel
theorem dX12_findLessons_55 : decode cX12_findLessons 55 = .ok (.iand, 1) := by decide +kernel
theorem dX12_findLessons_56 : decode cX12_findLessons 56 = .ok (.ifCond .ne 101, 3) := by decide +kernel
theorem dX12_findLessons_59 : decode cX12_findLessons 59 = .ok (.aload_n 0, 1) := by decide +kernel
theorem dX12_findLessons_60 : decode cX12_findLessons 60 = .ok (.iload_n 1, 1) := by decide +kernel
theorem dX12_findLessons_61 : decode cX12_findLessons 61 = .ok (.iload_n 2, 1) := by decide +kernel
theorem dX12_findLessons_62 : decode cX12_findLessons 62 = .ok (.iload 4, 2) := by decide +kernel
theorem dX12_findLessons_64 : decode cX12_findLessons 64 = .ok (.ior, 1) := by decide +kernel
theorem dX12_findLessons_65 : decode cX12_findLessons 65 = .ok (.aload_n 0, 1) := by decide +kernel
theorem dX12_findLessons_66 : decode cX12_findLessons 66 = .ok (.getfield 37, 3) := by decide +kernel
theorem dX12_findLessons_69 : decode cX12_findLessons 69 = .ok (.iload_n 1, 1) := by decide +kernel
theorem dX12_findLessons_70 : decode cX12_findLessons 70 = .ok (.iaload, 1) := by decide +kernel
theorem dX12_findLessons_71 : decode cX12_findLessons 71 = .ok (.invokevirtual 193, 3) := by decide +kernel
theorem dX12_findLessons_74 : decode cX12_findLessons 74 = .ok (.istore 5, 2) := by decide +kernel
theorem dX12_findLessons_76 : decode cX12_findLessons 76 = .ok (.iload 4, 2) := by decide +kernel
theorem dX12_findLessons_78 : decode cX12_findLessons 78 = .ok (.invokestatic 211, 3) := by decide +kernel
theorem dX12_findLessons_81 : decode cX12_findLessons 81 = .ok (.istore 6, 2) := by decide +kernel
theorem dX12_findLessons_83 : decode cX12_findLessons 83 = .ok (.iload 6, 2) := by decide +kernel
theorem dX12_findLessons_85 : decode cX12_findLessons 85 = .ok (.istore 7, 2) := by decide +kernel
theorem dX12_findLessons_87 : decode cX12_findLessons 87 = .ok (.iload 7, 2) := by decide +kernel
theorem dX12_findLessons_89 : decode cX12_findLessons 89 = .ok (.iload 6, 2) := by decide +kernel
theorem dX12_findLessons_91 : decode cX12_findLessons 91 = .ok (.iload_n 3, 1) := by decide +kernel
theorem dX12_findLessons_92 : decode cX12_findLessons 92 = .ok (.if_icmp .ne 8, 3) := by decide +kernel
theorem dX12_findLessons_95 : decode cX12_findLessons 95 = .ok (.bipush 12, 2) := by decide +kernel
theorem dX12_findLessons_97 : decode cX12_findLessons 97 = .ok (.goto 5, 3) := by decide +kernel
theorem dX12_findLessons_100 : decode cX12_findLessons 100 = .ok (.iload 6, 2) := by decide +kernel
theorem dX12_findLessons_102 : decode cX12_findLessons 102 = .ok (.if_icmp .gt 55, 3) := by decide +kernel
theorem dX12_findLessons_105 : decode cX12_findLessons 105 = .ok (.aload_n 0, 1) := by decide +kernel
theorem dX12_findLessons_106 : decode cX12_findLessons 106 = .ok (.getfield 66, 3) := by decide +kernel
theorem dX12_findLessons_109 : decode cX12_findLessons 109 = .ok (.bipush 13, 2) := by decide +kernel
theorem dX12_findLessons_111 : decode cX12_findLessons 111 = .ok (.iload_n 1, 1) := by decide +kernel
theorem dX12_findLessons_112 : decode cX12_findLessons 112 = .ok (.imul, 1) := by decide +kernel
theorem dX12_findLessons_113 : decode cX12_findLessons 113 = .ok (.iload 7, 2) := by decide +kernel
theorem dX12_findLessons_115 : decode cX12_findLessons 115 = .ok (.iadd, 1) := by decide +kernel
theorem dX12_findLessons_116 : decode cX12_findLessons 116 = .ok (.iload 5, 2) := by decide +kernel
theorem dX12_findLessons_118 : decode cX12_findLessons 118 = .ok (.aload_n 0, 1) := by decide +kernel
theorem dX12_findLessons_119 : decode cX12_findLessons 119 = .ok (.getfield 66, 3) := by decide +kernel
theorem dX12_findLessons_122 : decode cX12_findLessons 122 = .ok (.bipush 13, 2) := by decide +kernel
theorem dX12_findLessons_124 : decode cX12_findLessons 124 = .ok (.iload_n 1, 1) := by decide +kernel
theorem dX12_findLessons_125 : decode cX12_findLessons 125 = .ok (.imul, 1) := by decide +kernel
theorem dX12_findLessons_126 : decode cX12_findLessons 126 = .ok (.iload 7, 2) := by decide +kernel
theorem dX12_findLessons_128 : decode cX12_findLessons 128 = .ok (.iadd, 1) := by decide +kernel
theorem dX12_findLessons_129 : decode cX12_findLessons 129 = .ok (.iaload, 1) := by decide +kernel
theorem dX12_findLessons_130 : decode cX12_findLessons 130 = .ok (.if_icmp .le 8, 3) := by decide +kernel
theorem dX12_findLessons_133 : decode cX12_findLessons 133 = .ok (.iload 5, 2) := by decide +kernel
theorem dX12_findLessons_135 : decode cX12_findLessons 135 = .ok (.goto 15, 3) := by decide +kernel
theorem dX12_findLessons_138 : decode cX12_findLessons 138 = .ok (.aload_n 0, 1) := by decide +kernel
theorem dX12_findLessons_139 : decode cX12_findLessons 139 = .ok (.getfield 66, 3) := by decide +kernel
theorem dX12_findLessons_142 : decode cX12_findLessons 142 = .ok (.bipush 13, 2) := by decide +kernel
theorem dX12_findLessons_144 : decode cX12_findLessons 144 = .ok (.iload_n 1, 1) := by decide +kernel
theorem dX12_findLessons_145 : decode cX12_findLessons 145 = .ok (.imul, 1) := by decide +kernel
theorem dX12_findLessons_146 : decode cX12_findLessons 146 = .ok (.iload 7, 2) := by decide +kernel
theorem dX12_findLessons_148 : decode cX12_findLessons 148 = .ok (.iadd, 1) := by decide +kernel
theorem dX12_findLessons_149 : decode cX12_findLessons 149 = .ok (.iaload, 1) := by decide +kernel
theorem dX12_findLessons_150 : decode cX12_findLessons 150 = .ok (.iastore, 1) := by decide +kernel
theorem dX12_findLessons_151 : decode cX12_findLessons 151 = .ok (.iinc 7 1, 3) := by decide +kernel
theorem dX12_findLessons_154 : decode cX12_findLessons 154 = .ok (.goto (-67), 3) := by decide +kernel
theorem dX12_findLessons_157 : decode cX12_findLessons 157 = .ok (.iinc 4 1, 3) := by decide +kernel
theorem dX12_findLessons_160 : decode cX12_findLessons 160 = .ok (.goto (-116), 3) := by decide +kernel
theorem dX12_findLessons_163 : decode cX12_findLessons 163 = .ok (.return_, 1) := by decide +kernel
theorem dX12_lessons_0 : decode cX12_lessons 0 = .ok (.iload_n 1, 1) := by decide +kernel
theorem dX12_lessons_1 : decode cX12_lessons 1 = .ok (.invokestatic 160, 3) := by decide +kernel
theorem dX12_lessons_4 : decode cX12_lessons 4 = .ok (.ifCond .ne 5, 3) := by decide +kernel
theorem dX12_lessons_7 : decode cX12_lessons 7 = .ok (.iconst (-1), 1) := by decide +kernel
theorem dX12_lessons_8 : decode cX12_lessons 8 = .ok (.ireturn, 1) := by decide +kernel
theorem dX12_lessons_9 : decode cX12_lessons 9 = .ok (.iload_n 2, 1) := by decide +kernel
theorem dX12_lessons_10 : decode cX12_lessons 10 = .ok (.i2l, 1) := by decide +kernel
theorem dX12_lessons_11 : decode cX12_lessons 11 = .ok (.lconst 0, 1) := by decide +kernel
theorem dX12_lessons_12 : decode cX12_lessons 12 = .ok (.ldc2_w 255, 3) := by decide +kernel
theorem dX12_lessons_15 : decode cX12_lessons 15 = .ok (.invokestatic 80, 3) := by decide +kernel
theorem dX12_lessons_18 : decode cX12_lessons 18 = .ok (.ifCond .ne 6, 3) := by decide +kernel
theorem dX12_lessons_21 : decode cX12_lessons 21 = .ok (.bipush (-2), 2) := by decide +kernel
theorem dX12_lessons_23 : decode cX12_lessons 23 = .ok (.ireturn, 1) := by decide +kernel
theorem dX12_lessons_24 : decode cX12_lessons 24 = .ok (.aload_n 0, 1) := by decide +kernel
theorem dX12_lessons_25 : decode cX12_lessons 25 = .ok (.invokevirtual 137, 3) := by decide +kernel
theorem dX12_lessons_28 : decode cX12_lessons 28 = .ok (.aload_n 0, 1) := by decide +kernel
theorem dX12_lessons_29 : decode cX12_lessons 29 = .ok (.iload_n 1, 1) := by decide +kernel
theorem dX12_lessons_30 : decode cX12_lessons 30 = .ok (.invokevirtual 257, 3) := by decide +kernel
theorem dX12_lessons_33 : decode cX12_lessons 33 = .ok (.aload_n 0, 1) := by decide +kernel
theorem dX12_lessons_34 : decode cX12_lessons 34 = .ok (.getfield 66, 3) := by decide +kernel
theorem dX12_lessons_37 : decode cX12_lessons 37 = .ok (.bipush 13, 2) := by decide +kernel
theorem dX12_lessons_39 : decode cX12_lessons 39 = .ok (.iload_n 1, 1) := by decide +kernel
theorem dX12_lessons_40 : decode cX12_lessons 40 = .ok (.imul, 1) := by decide +kernel
theorem dX12_lessons_41 : decode cX12_lessons 41 = .ok (.iload_n 2, 1) := by decide +kernel
theorem dX12_lessons_42 : decode cX12_lessons 42 = .ok (.iadd, 1) := by decide +kernel
theorem dX12_lessons_43 : decode cX12_lessons 43 = .ok (.iaload, 1) := by decide +kernel
theorem dX12_lessons_44 : decode cX12_lessons 44 = .ok (.ireturn, 1) := by decide +kernel
theorem dX12_findShared_0 : decode cX12_findShared 0 = .ok (.aload_n 0, 1) := by decide +kernel
theorem dX12_findShared_1 : decode cX12_findShared 1 = .ok (.invokevirtual 137, 3) := by decide +kernel
theorem dX12_findShared_4 : decode cX12_findShared 4 = .ok (.iconst 0, 1) := by decide +kernel
theorem dX12_findShared_5 : decode cX12_findShared 5 = .ok (.istore_n 2, 1) := by decide +kernel
theorem dX12_findShared_6 : decode cX12_findShared 6 = .ok (.iload_n 2, 1) := by decide +kernel
theorem dX12_findShared_7 : decode cX12_findShared 7 = .ok (.iconst 4, 1) := by decide +kernel
theorem dX12_findShared_8 : decode cX12_findShared 8 = .ok (.if_icmp .ge 14, 3) := by decide +kernel
theorem dX12_findShared_11 : decode cX12_findShared 11 = .ok (.aload_n 0, 1) := by decide +kernel
theorem dX12_findShared_12 : decode cX12_findShared 12 = .ok (.iload_n 2, 1) := by decide +kernel
theorem dX12_findShared_13 : decode cX12_findShared 13 = .ok (.invokevirtual 257, 3) := by decide +kernel
theorem dX12_findShared_16 : decode cX12_findShared 16 = .ok (.iinc 2 1, 3) := by decide +kernel
theorem dX12_findShared_19 : decode cX12_findShared 19 = .ok (.goto (-13), 3) := by decide +kernel
theorem dX12_findShared_22 : decode cX12_findShared 22 = .ok (.bipush (-6), 2) := by decide +kernel
theorem dX12_findShared_24 : decode cX12_findShared 24 = .ok (.istore_n 2, 1) := by decide +kernel
theorem dX12_findShared_25 : decode cX12_findShared 25 = .ok (.iconst 0, 1) := by decide +kernel
theorem dX12_findShared_26 : decode cX12_findShared 26 = .ok (.istore_n 3, 1) := by decide +kernel
theorem dX12_findShared_27 : decode cX12_findShared 27 = .ok (.iload_n 3, 1) := by decide +kernel
theorem dX12_findShared_28 : decode cX12_findShared 28 = .ok (.iload_n 1, 1) := by decide +kernel
theorem dX12_findShared_29 : decode cX12_findShared 29 = .ok (.if_icmp .gt 138, 3) := by decide +kernel
theorem dX12_findShared_32 : decode cX12_findShared 32 = .ok (.iconst 0, 1) := by decide +kernel
theorem dX12_findShared_33 : decode cX12_findShared 33 = .ok (.istore 4, 2) := by decide +kernel
theorem dX12_findShared_35 : decode cX12_findShared 35 = .ok (.iload_n 3, 1) := by decide +kernel
theorem dX12_findShared_36 : decode cX12_findShared 36 = .ok (.iload 4, 2) := by decide +kernel
theorem dX12_findShared_38 : decode cX12_findShared 38 = .ok (.iadd, 1) := by decide +kernel
theorem dX12_findShared_39 : decode cX12_findShared 39 = .ok (.iload_n 1, 1) := by decide +kernel
theorem dX12_findShared_40 : decode cX12_findShared 40 = .ok (.if_icmp .gt 121, 3) := by decide +kernel
theorem dX12_findShared_43 : decode cX12_findShared 43 = .ok (.iconst 0, 1) := by decide +kernel
theorem dX12_findShared_44 : decode cX12_findShared 44 = .ok (.istore 5, 2) := by decide +kernel
theorem dX12_findShared_46 : decode cX12_findShared 46 = .ok (.iload_n 3, 1) := by decide +kernel
theorem dX12_findShared_47 : decode cX12_findShared 47 = .ok (.iload 4, 2) := by decide +kernel
theorem dX12_findShared_49 : decode cX12_findShared 49 = .ok (.iadd, 1) := by decide +kernel
theorem dX12_findShared_50 : decode cX12_findShared 50 = .ok (.iload 5, 2) := by decide +kernel
theorem dX12_findShared_52 : decode cX12_findShared 52 = .ok (.iadd, 1) := by decide +kernel
theorem dX12_findShared_53 : decode cX12_findShared 53 = .ok (.iload_n 1, 1) := by decide +kernel
theorem dX12_findShared_54 : decode cX12_findShared 54 = .ok (.if_icmp .gt 101, 3) := by decide +kernel
theorem dX12_findShared_57 : decode cX12_findShared 57 = .ok (.iload_n 1, 1) := by decide +kernel
theorem dX12_findShared_58 : decode cX12_findShared 58 = .ok (.iload_n 3, 1) := by decide +kernel
theorem dX12_findShared_59 : decode cX12_findShared 59 = .ok (.isub, 1) := by decide +kernel
theorem dX12_findShared_60 : decode cX12_findShared 60 = .ok (.iload 4, 2) := by decide +kernel
theorem dX12_findShared_62 : decode cX12_findShared 62 = .ok (.isub, 1) := by decide +kernel
theorem dX12_findShared_63 : decode cX12_findShared 63 = .ok (.iload 5, 2) := by decide +kernel
theorem dX12_findShared_65 : decode cX12_findShared 65 = .ok (.isub, 1) := by decide +kernel
theorem dX12_findShared_66 : decode cX12_findShared 66 = .ok (.istore 6, 2) := by decide +kernel
theorem dX12_findShared_68 : decode cX12_findShared 68 = .ok (.aload_n 0, 1) := by decide +kernel
theorem dX12_findShared_69 : decode cX12_findShared 69 = .ok (.getfield 66, 3) := by decide +kernel
theorem dX12_findShared_72 : decode cX12_findShared 72 = .ok (.iload_n 3, 1) := by decide +kernel
theorem dX12_findShared_73 : decode cX12_findShared 73 = .ok (.iaload, 1) := by decide +kernel
theorem dX12_findShared_74 : decode cX12_findShared 74 = .ok (.aload_n 0, 1) := by decide +kernel
theorem dX12_findShared_75 : decode cX12_findShared 75 = .ok (.getfield 66, 3) := by decide +kernel
theorem dX12_findShared_78 : decode cX12_findShared 78 = .ok (.bipush 13, 2) := by decide +kernel
theorem dX12_findShared_80 : decode cX12_findShared 80 = .ok (.iload 4, 2) := by decide +kernel
theorem dX12_findShared_82 : decode cX12_findShared 82 = .ok (.iadd, 1) := by decide +kernel
theorem dX12_findShared_83 : decode cX12_findShared 83 = .ok (.iaload, 1) := by decide +kernel
theorem dX12_findShared_84 : decode cX12_findShared 84 = .ok (.iadd, 1) := by decide +kernel
theorem dX12_findShared_85 : decode cX12_findShared 85 = .ok (.aload_n 0, 1) := by decide +kernel
theorem dX12_findShared_86 : decode cX12_findShared 86 = .ok (.getfield 66, 3) := by decide +kernel
theorem dX12_findShared_89 : decode cX12_findShared 89 = .ok (.bipush 26, 2) := by decide +kernel
theorem dX12_findShared_91 : decode cX12_findShared 91 = .ok (.iload 5, 2) := by decide +kernel
theorem dX12_findShared_93 : decode cX12_findShared 93 = .ok (.iadd, 1) := by decide +kernel
theorem dX12_findShared_94 : decode cX12_findShared 94 = .ok (.iaload, 1) := by decide +kernel
theorem dX12_findShared_95 : decode cX12_findShared 95 = .ok (.iadd, 1) := by decide +kernel
theorem dX12_findShared_96 : decode cX12_findShared 96 = .ok (.aload_n 0, 1) := by decide +kernel
theorem dX12_findShared_97 : decode cX12_findShared 97 = .ok (.getfield 66, 3) := by decide +kernel
theorem dX12_findShared_100 : decode cX12_findShared 100 = .ok (.bipush 39, 2) := by decide +kernel
theorem dX12_findShared_102 : decode cX12_findShared 102 = .ok (.iload 6, 2) := by decide +kernel
theorem dX12_findShared_104 : decode cX12_findShared 104 = .ok (.iadd, 1) := by decide +kernel
theorem dX12_findShared_105 : decode cX12_findShared 105 = .ok (.iaload, 1) := by decide +kernel
theorem dX12_findShared_106 : decode cX12_findShared 106 = .ok (.iadd, 1) := by decide +kernel
theorem dX12_findShared_107 : decode cX12_findShared 107 = .ok (.istore 7, 2) := by decide +kernel
theorem dX12_findShared_109 : decode cX12_findShared 109 = .ok (.iload 7, 2) := by decide +kernel
theorem dX12_findShared_111 : decode cX12_findShared 111 = .ok (.iload_n 2, 1) := by decide +kernel
theorem dX12_findShared_112 : decode cX12_findShared 112 = .ok (.if_icmp .le 37, 3) := by decide +kernel
theorem dX12_findShared_115 : decode cX12_findShared 115 = .ok (.iload 7, 2) := by decide +kernel
theorem dX12_findShared_117 : decode cX12_findShared 117 = .ok (.istore_n 2, 1) := by decide +kernel
theorem dX12_findShared_118 : decode cX12_findShared 118 = .ok (.aload_n 0, 1) := by decide +kernel
theorem dX12_findShared_119 : decode cX12_findShared 119 = .ok (.getfield 69, 3) := by decide +kernel
theorem dX12_findShared_122 : decode cX12_findShared 122 = .ok (.iconst 0, 1) := by decide +kernel
theorem dX12_findShared_123 : decode cX12_findShared 123 = .ok (.iload_n 3, 1) := by decide +kernel
theorem dX12_findShared_124 : decode cX12_findShared 124 = .ok (.iastore, 1) := by decide +kernel
theorem dX12_findShared_125 : decode cX12_findShared 125 = .ok (.aload_n 0, 1) := by decide +kernel
theorem dX12_findShared_126 : decode cX12_findShared 126 = .ok (.getfield 69, 3) := by decide +kernel
theorem dX12_findShared_129 : decode cX12_findShared 129 = .ok (.iconst 1, 1) := by decide +kernel
theorem dX12_findShared_130 : decode cX12_findShared 130 = .ok (.iload 4, 2) := by decide +kernel
theorem dX12_findShared_132 : decode cX12_findShared 132 = .ok (.iastore, 1) := by decide +kernel
theorem dX12_findShared_133 : decode cX12_findShared 133 = .ok (.aload_n 0, 1) := by decide +kernel
theorem dX12_findShared_134 : decode cX12_findShared 134 = .ok (.getfield 69, 3) := by decide +kernel
theorem dX12_findShared_137 : decode cX12_findShared 137 = .ok (.iconst 2, 1) := by decide +kernel
theorem dX12_findShared_138 : decode cX12_findShared 138 = .ok (.iload 5, 2) := by decide +kernel
theorem dX12_findShared_140 : decode cX12_findShared 140 = .ok (.iastore, 1) := by decide +kernel
theorem dX12_findShared_141 : decode cX12_findShared 141 = .ok (.aload_n 0, 1) := by decide +kernel
theorem dX12_findShared_142 : decode cX12_findShared 142 = .ok (.getfield 69, 3) := by decide +kernel
theorem dX12_findShared_145 : decode cX12_findShared 145 = .ok (.iconst 3, 1) := by decide +kernel
theorem dX12_findShared_146 : decode cX12_findShared 146 = .ok (.iload 6, 2) := by decide +kernel
theorem dX12_findShared_148 : decode cX12_findShared 148 = .ok (.iastore, 1) := by decide +kernel
theorem dX12_findShared_149 : decode cX12_findShared 149 = .ok (.iinc 5 1, 3) := by decide +kernel
theorem dX12_findShared_152 : decode cX12_findShared 152 = .ok (.goto (-106), 3) := by decide +kernel
theorem dX12_findShared_155 : decode cX12_findShared 155 = .ok (.iinc 4 1, 3) := by decide +kernel
theorem dX12_findShared_158 : decode cX12_findShared 158 = .ok (.goto (-123), 3) := by decide +kernel
theorem dX12_findShared_161 : decode cX12_findShared 161 = .ok (.iinc 3 1, 3) := by decide +kernel
theorem dX12_findShared_164 : decode cX12_findShared 164 = .ok (.goto (-137), 3) := by decide +kernel
theorem dX12_findShared_167 : decode cX12_findShared 167 = .ok (.iload_n 2, 1) := by decide +kernel
theorem dX12_findShared_168 : decode cX12_findShared 168 = .ok (.ireturn, 1) := by decide +kernel
theorem dX12_shared_0 : decode cX12_shared 0 = .ok (.iload_n 2, 1) := by decide +kernel
theorem dX12_shared_1 : decode cX12_shared 1 = .ok (.iconst (-1), 1) := by decide +kernel
theorem dX12_shared_2 : decode cX12_shared 2 = .ok (.if_icmp .eq 12, 3) := by decide +kernel
theorem dX12_shared_5 : decode cX12_shared 5 = .ok (.iload_n 2, 1) := by decide +kernel
theorem dX12_shared_6 : decode cX12_shared 6 = .ok (.invokestatic 160, 3) := by decide +kernel
theorem dX12_shared_9 : decode cX12_shared 9 = .ok (.ifCond .ne 5, 3) := by decide +kernel
theorem dX12_shared_12 : decode cX12_shared 12 = .ok (.iconst (-1), 1) := by decide +kernel
theorem dX12_shared_13 : decode cX12_shared 13 = .ok (.ireturn, 1) := by decide +kernel
theorem dX12_shared_14 : decode cX12_shared 14 = .ok (.iload_n 1, 1) := by decide +kernel
theorem dX12_shared_15 : decode cX12_shared 15 = .ok (.i2l, 1) := by decide +kernel
theorem dX12_shared_16 : decode cX12_shared 16 = .ok (.lconst 0, 1) := by decide +kernel
theorem dX12_shared_17 : decode cX12_shared 17 = .ok (.ldc2_w 255, 3) := by decide +kernel
theorem dX12_shared_20 : decode cX12_shared 20 = .ok (.invokestatic 80, 3) := by decide +kernel
theorem dX12_shared_23 : decode cX12_shared 23 = .ok (.ifCond .ne 6, 3) := by decide +kernel
theorem dX12_shared_26 : decode cX12_shared 26 = .ok (.bipush (-2), 2) := by decide +kernel
theorem dX12_shared_28 : decode cX12_shared 28 = .ok (.ireturn, 1) := by decide +kernel
theorem dX12_shared_29 : decode cX12_shared 29 = .ok (.aload_n 0, 1) := by decide +kernel
theorem dX12_shared_30 : decode cX12_shared 30 = .ok (.iload_n 1, 1) := by decide +kernel
theorem dX12_shared_31 : decode cX12_shared 31 = .ok (.invokevirtual 260, 3) := by decide +kernel
theorem dX12_shared_34 : decode cX12_shared 34 = .ok (.istore_n 3, 1) := by decide +kernel
theorem dX12_shared_35 : decode cX12_shared 35 = .ok (.iload_n 2, 1) := by decide +kernel
theorem dX12_shared_36 : decode cX12_shared 36 = .ok (.iconst (-1), 1) := by decide +kernel
theorem dX12_shared_37 : decode cX12_shared 37 = .ok (.if_icmp .ne 7, 3) := by decide +kernel
theorem dX12_shared_40 : decode cX12_shared 40 = .ok (.iload_n 3, 1) := by decide +kernel
theorem dX12_shared_41 : decode cX12_shared 41 = .ok (.goto 9, 3) := by decide +kernel
theorem dX12_shared_44 : decode cX12_shared 44 = .ok (.aload_n 0, 1) := by decide +kernel
theorem dX12_shared_45 : decode cX12_shared 45 = .ok (.getfield 69, 3) := by decide +kernel
theorem dX12_shared_48 : decode cX12_shared 48 = .ok (.iload_n 2, 1) := by decide +kernel
theorem dX12_shared_49 : decode cX12_shared 49 = .ok (.iaload, 1) := by decide +kernel
theorem dX12_shared_50 : decode cX12_shared 50 = .ok (.ireturn, 1) := by decide +kernel
theorem dX12_allOften_0 : decode cX12_allOften 0 = .ok (.iconst 0, 1) := by decide +kernel
theorem dX12_allOften_1 : decode cX12_allOften 1 = .ok (.istore_n 1, 1) := by decide +kernel
theorem dX12_allOften_2 : decode cX12_allOften 2 = .ok (.iconst 0, 1) := by decide +kernel
theorem dX12_allOften_3 : decode cX12_allOften 3 = .ok (.istore_n 2, 1) := by decide +kernel
theorem dX12_allOften_4 : decode cX12_allOften 4 = .ok (.iload_n 2, 1) := by decide +kernel
theorem dX12_allOften_5 : decode cX12_allOften 5 = .ok (.aload_n 0, 1) := by decide +kernel
theorem dX12_allOften_6 : decode cX12_allOften 6 = .ok (.getfield 105, 3) := by decide +kernel
theorem dX12_allOften_9 : decode cX12_allOften 9 = .ok (.if_icmp .ge 18, 3) := by decide +kernel
theorem dX12_allOften_12 : decode cX12_allOften 12 = .ok (.iload_n 1, 1) := by decide +kernel
theorem dX12_allOften_13 : decode cX12_allOften 13 = .ok (.aload_n 0, 1) := by decide +kernel
theorem dX12_allOften_14 : decode cX12_allOften 14 = .ok (.getfield 19, 3) := by decide +kernel
theorem dX12_allOften_17 : decode cX12_allOften 17 = .ok (.iload_n 2, 1) := by decide +kernel
theorem dX12_allOften_18 : decode cX12_allOften 18 = .ok (.iaload, 1) := by decide +kernel
theorem dX12_allOften_19 : decode cX12_allOften 19 = .ok (.iadd, 1) := by decide +kernel
theorem dX12_allOften_20 : decode cX12_allOften 20 = .ok (.istore_n 1, 1) := by decide +kernel
theorem dX12_allOften_21 : decode cX12_allOften 21 = .ok (.iinc 2 1, 3) := by decide +kernel
theorem dX12_allOften_24 : decode cX12_allOften 24 = .ok (.goto (-20), 3) := by decide +kernel
theorem dX12_allOften_27 : decode cX12_allOften 27 = .ok (.iload_n 1, 1) := by decide +kernel
theorem dX12_allOften_28 : decode cX12_allOften 28 = .ok (.ireturn, 1) := by decide +kernel
theorem dX12_byItself_0 : decode cX12_byItself 0 = .ok (.aload_n 0, 1) := by decide +kernel
theorem dX12_byItself_1 : decode cX12_byItself 1 = .ok (.getfield 37, 3) := by decide +kernel
theorem dX12_byItself_4 : decode cX12_byItself 4 = .ok (.iload_n 1, 1) := by decide +kernel
theorem dX12_byItself_5 : decode cX12_byItself 5 = .ok (.iaload, 1) := by decide +kernel
theorem dX12_byItself_6 : decode cX12_byItself 6 = .ok (.istore_n 3, 1) := by decide +kernel
theorem dX12_byItself_7 : decode cX12_byItself 7 = .ok (.aload_n 0, 1) := by decide +kernel
theorem dX12_byItself_8 : decode cX12_byItself 8 = .ok (.getfield 34, 3) := by decide +kernel
theorem dX12_byItself_11 : decode cX12_byItself 11 = .ok (.iload_n 1, 1) := by decide +kernel
theorem dX12_byItself_12 : decode cX12_byItself 12 = .ok (.iaload, 1) := by decide +kernel
theorem dX12_byItself_13 : decode cX12_byItself 13 = .ok (.istore 4, 2) := by decide +kernel
theorem dX12_byItself_15 : decode cX12_byItself 15 = .ok (.aload_n 0, 1) := by decide +kernel
theorem dX12_byItself_16 : decode cX12_byItself 16 = .ok (.invokevirtual 263, 3) := by decide +kernel
theorem dX12_byItself_19 : decode cX12_byItself 19 = .ok (.istore 5, 2) := by decide +kernel
theorem dX12_byItself_21 : decode cX12_byItself 21 = .ok (.aload_n 0, 1) := by decide +kernel
theorem dX12_byItself_22 : decode cX12_byItself 22 = .ok (.iconst 0, 1) := by decide +kernel
theorem dX12_byItself_23 : decode cX12_byItself 23 = .ok (.putfield 266, 3) := by decide +kernel
theorem dX12_byItself_26 : decode cX12_byItself 26 = .ok (.aload_n 0, 1) := by decide +kernel
theorem dX12_byItself_27 : decode cX12_byItself 27 = .ok (.iload_n 1, 1) := by decide +kernel
theorem dX12_byItself_28 : decode cX12_byItself 28 = .ok (.iload 4, 2) := by decide +kernel
theorem dX12_byItself_30 : decode cX12_byItself 30 = .ok (.iload_n 3, 1) := by decide +kernel
theorem dX12_byItself_31 : decode cX12_byItself 31 = .ok (.invokevirtual 193, 3) := by decide +kernel
theorem dX12_byItself_34 : decode cX12_byItself 34 = .ok (.istore 6, 2) := by decide +kernel
theorem dX12_byItself_36 : decode cX12_byItself 36 = .ok (.iload 6, 2) := by decide +kernel
theorem dX12_byItself_38 : decode cX12_byItself 38 = .ok (.iload 5, 2) := by decide +kernel
theorem dX12_byItself_40 : decode cX12_byItself 40 = .ok (.if_icmp .ge 112, 3) := by decide +kernel
theorem dX12_byItself_43 : decode cX12_byItself 43 = .ok (.sipush 1000, 3) := by decide +kernel
theorem dX12_byItself_46 : decode cX12_byItself 46 = .ok (.iload 6, 2) := by decide +kernel
theorem dX12_byItself_48 : decode cX12_byItself 48 = .ok (.imul, 1) := by decide +kernel
theorem dX12_byItself_49 : decode cX12_byItself 49 = .ok (.iload_n 2, 1) := by decide +kernel
theorem dX12_byItself_50 : decode cX12_byItself 50 = .ok (.iload 5, 2) := by decide +kernel
theorem dX12_byItself_52 : decode cX12_byItself 52 = .ok (.imul, 1) := by decide +kernel
theorem dX12_byItself_53 : decode cX12_byItself 53 = .ok (.if_icmp .lt 99, 3) := by decide +kernel
theorem dX12_byItself_56 : decode cX12_byItself 56 = .ok (.bipush (-6), 2) := by decide +kernel
theorem dX12_byItself_58 : decode cX12_byItself 58 = .ok (.istore 7, 2) := by decide +kernel
theorem dX12_byItself_60 : decode cX12_byItself 60 = .ok (.iconst 0, 1) := by decide +kernel
theorem dX12_byItself_61 : decode cX12_byItself 61 = .ok (.istore 8, 2) := by decide +kernel
theorem dX12_byItself_63 : decode cX12_byItself 63 = .ok (.iload 8, 2) := by decide +kernel
theorem dX12_byItself_65 : decode cX12_byItself 65 = .ok (.aload_n 0, 1) := by decide +kernel
theorem dX12_byItself_66 : decode cX12_byItself 66 = .ok (.getfield 105, 3) := by decide +kernel
theorem dX12_byItself_69 : decode cX12_byItself 69 = .ok (.if_icmp .ge 53, 3) := by decide +kernel
theorem dX12_byItself_72 : decode cX12_byItself 72 = .ok (.aload_n 0, 1) := by decide +kernel
theorem dX12_byItself_73 : decode cX12_byItself 73 = .ok (.iload_n 1, 1) := by decide +kernel
theorem dX12_byItself_74 : decode cX12_byItself 74 = .ok (.iload 4, 2) := by decide +kernel
theorem dX12_byItself_76 : decode cX12_byItself 76 = .ok (.iload_n 3, 1) := by decide +kernel
theorem dX12_byItself_77 : decode cX12_byItself 77 = .ok (.iload 8, 2) := by decide +kernel
theorem dX12_byItself_79 : decode cX12_byItself 79 = .ok (.invokevirtual 189, 3) := by decide +kernel
theorem dX12_byItself_82 : decode cX12_byItself 82 = .ok (.ifCond .ne 30, 3) := by decide +kernel
theorem dX12_byItself_85 : decode cX12_byItself 85 = .ok (.iload 7, 2) := by decide +kernel
theorem dX12_byItself_87 : decode cX12_byItself 87 = .ok (.ifCond .lt 20, 3) := by decide +kernel
theorem dX12_byItself_90 : decode cX12_byItself 90 = .ok (.aload_n 0, 1) := by decide +kernel
theorem dX12_byItself_91 : decode cX12_byItself 91 = .ok (.getfield 19, 3) := by decide +kernel
theorem dX12_byItself_94 : decode cX12_byItself 94 = .ok (.iload 8, 2) := by decide +kernel
theorem dX12_byItself_96 : decode cX12_byItself 96 = .ok (.iaload, 1) := by decide +kernel
theorem dX12_byItself_97 : decode cX12_byItself 97 = .ok (.aload_n 0, 1) := by decide +kernel
theorem dX12_byItself_98 : decode cX12_byItself 98 = .ok (.getfield 19, 3) := by decide +kernel
theorem dX12_byItself_101 : decode cX12_byItself 101 = .ok (.iload 7, 2) := by decide +kernel
theorem dX12_byItself_103 : decode cX12_byItself 103 = .ok (.iaload, 1) := by decide +kernel
theorem dX12_byItself_104 : decode cX12_byItself 104 = .ok (.if_icmp .le 8, 3) := by decide +kernel
theorem dX12_byItself_107 : decode cX12_byItself 107 = .ok (.iload 8, 2) := by decide +kernel
theorem dX12_byItself_109 : decode cX12_byItself 109 = .ok (.goto 5, 3) := by decide +kernel
theorem dX12_byItself_112 : decode cX12_byItself 112 = .ok (.iload 7, 2) := by decide +kernel
theorem dX12_byItself_114 : decode cX12_byItself 114 = .ok (.istore 7, 2) := by decide +kernel
theorem dX12_byItself_116 : decode cX12_byItself 116 = .ok (.iinc 8 1, 3) := by decide +kernel
theorem dX12_byItself_119 : decode cX12_byItself 119 = .ok (.goto (-56), 3) := by decide +kernel
theorem dX12_byItself_122 : decode cX12_byItself 122 = .ok (.iload_n 3, 1) := by decide +kernel
theorem dX12_byItself_123 : decode cX12_byItself 123 = .ok (.iconst 1, 1) := by decide +kernel
theorem dX12_byItself_124 : decode cX12_byItself 124 = .ok (.iload 7, 2) := by decide +kernel
theorem dX12_byItself_126 : decode cX12_byItself 126 = .ok (.ishl, 1) := by decide +kernel
theorem dX12_byItself_127 : decode cX12_byItself 127 = .ok (.ior, 1) := by decide +kernel
theorem dX12_byItself_128 : decode cX12_byItself 128 = .ok (.istore_n 3, 1) := by decide +kernel
theorem dX12_byItself_129 : decode cX12_byItself 129 = .ok (.aload_n 0, 1) := by decide +kernel
theorem dX12_byItself_130 : decode cX12_byItself 130 = .ok (.dup, 1) := by decide +kernel
theorem dX12_byItself_131 : decode cX12_byItself 131 = .ok (.getfield 266, 3) := by decide +kernel
theorem dX12_byItself_134 : decode cX12_byItself 134 = .ok (.iconst 1, 1) := by decide +kernel
theorem dX12_byItself_135 : decode cX12_byItself 135 = .ok (.iadd, 1) := by decide +kernel
theorem dX12_byItself_136 : decode cX12_byItself 136 = .ok (.putfield 266, 3) := by decide +kernel
theorem dX12_byItself_139 : decode cX12_byItself 139 = .ok (.aload_n 0, 1) := by decide +kernel
theorem dX12_byItself_140 : decode cX12_byItself 140 = .ok (.iload_n 1, 1) := by decide +kernel
theorem dX12_byItself_141 : decode cX12_byItself 141 = .ok (.iload 4, 2) := by decide +kernel
theorem dX12_byItself_143 : decode cX12_byItself 143 = .ok (.iload_n 3, 1) := by decide +kernel
theorem dX12_byItself_144 : decode cX12_byItself 144 = .ok (.invokevirtual 193, 3) := by decide +kernel
theorem dX12_byItself_147 : decode cX12_byItself 147 = .ok (.istore 6, 2) := by decide +kernel
theorem dX12_byItself_149 : decode cX12_byItself 149 = .ok (.goto (-113), 3) := by decide +kernel
theorem dX12_byItself_152 : decode cX12_byItself 152 = .ok (.iload 6, 2) := by decide +kernel
theorem dX12_byItself_154 : decode cX12_byItself 154 = .ok (.ireturn, 1) := by decide +kernel
theorem dX12_itself_0 : decode cX12_itself 0 = .ok (.iload_n 1, 1) := by decide +kernel
theorem dX12_itself_1 : decode cX12_itself 1 = .ok (.invokestatic 160, 3) := by decide +kernel
theorem dX12_itself_4 : decode cX12_itself 4 = .ok (.ifCond .ne 5, 3) := by decide +kernel
theorem dX12_itself_7 : decode cX12_itself 7 = .ok (.iconst (-1), 1) := by decide +kernel
theorem dX12_itself_8 : decode cX12_itself 8 = .ok (.ireturn, 1) := by decide +kernel
theorem dX12_itself_9 : decode cX12_itself 9 = .ok (.iload_n 2, 1) := by decide +kernel
theorem dX12_itself_10 : decode cX12_itself 10 = .ok (.i2l, 1) := by decide +kernel
theorem dX12_itself_11 : decode cX12_itself 11 = .ok (.lconst 0, 1) := by decide +kernel
theorem dX12_itself_12 : decode cX12_itself 12 = .ok (.ldc2_w 269, 3) := by decide +kernel
theorem dX12_itself_15 : decode cX12_itself 15 = .ok (.invokestatic 80, 3) := by decide +kernel
theorem dX12_itself_18 : decode cX12_itself 18 = .ok (.ifCond .eq 10, 3) := by decide +kernel
theorem dX12_itself_21 : decode cX12_itself 21 = .ok (.iload_n 3, 1) := by decide +kernel
theorem dX12_itself_22 : decode cX12_itself 22 = .ok (.invokestatic 148, 3) := by decide +kernel
theorem dX12_itself_25 : decode cX12_itself 25 = .ok (.ifCond .ne 6, 3) := by decide +kernel
theorem dX12_itself_28 : decode cX12_itself 28 = .ok (.bipush (-2), 2) := by decide +kernel
theorem dX12_itself_30 : decode cX12_itself 30 = .ok (.ireturn, 1) := by decide +kernel
theorem dX12_itself_31 : decode cX12_itself 31 = .ok (.aload_n 0, 1) := by decide +kernel
theorem dX12_itself_32 : decode cX12_itself 32 = .ok (.invokevirtual 137, 3) := by decide +kernel
theorem dX12_itself_35 : decode cX12_itself 35 = .ok (.aload_n 0, 1) := by decide +kernel
theorem dX12_itself_36 : decode cX12_itself 36 = .ok (.iload_n 1, 1) := by decide +kernel
theorem dX12_itself_37 : decode cX12_itself 37 = .ok (.iload_n 2, 1) := by decide +kernel
theorem dX12_itself_38 : decode cX12_itself 38 = .ok (.invokevirtual 271, 3) := by decide +kernel
theorem dX12_itself_41 : decode cX12_itself 41 = .ok (.istore 4, 2) := by decide +kernel
theorem dX12_itself_43 : decode cX12_itself 43 = .ok (.iload_n 3, 1) := by decide +kernel
theorem dX12_itself_44 : decode cX12_itself 44 = .ok (.ifCond .ne 10, 3) := by decide +kernel
theorem dX12_itself_47 : decode cX12_itself 47 = .ok (.aload_n 0, 1) := by decide +kernel
theorem dX12_itself_48 : decode cX12_itself 48 = .ok (.getfield 266, 3) := by decide +kernel
theorem dX12_itself_51 : decode cX12_itself 51 = .ok (.goto 5, 3) := by decide +kernel
theorem dX12_itself_54 : decode cX12_itself 54 = .ok (.iload 4, 2) := by decide +kernel
theorem dX12_itself_56 : decode cX12_itself 56 = .ok (.ireturn, 1) := by decide +kernel
theorem dX12_line_0 : decode cX12_line 0 = .ok (.iload_n 1, 1) := by decide +kernel
theorem dX12_line_1 : decode cX12_line 1 = .ok (.invokestatic 160, 3) := by decide +kernel
theorem dX12_line_4 : decode cX12_line 4 = .ok (.ifCond .ne 5, 3) := by decide +kernel
theorem dX12_line_7 : decode cX12_line 7 = .ok (.iconst (-1), 1) := by decide +kernel
theorem dX12_line_8 : decode cX12_line 8 = .ok (.ireturn, 1) := by decide +kernel
theorem dX12_line_9 : decode cX12_line 9 = .ok (.aload_n 0, 1) := by decide +kernel
theorem dX12_line_10 : decode cX12_line 10 = .ok (.invokevirtual 137, 3) := by decide +kernel
theorem dX12_line_13 : decode cX12_line 13 = .ok (.sipush 1000, 3) := by decide +kernel
theorem dX12_line_16 : decode cX12_line 16 = .ok (.istore_n 2, 1) := by decide +kernel
theorem dX12_line_17 : decode cX12_line 17 = .ok (.aload_n 0, 1) := by decide +kernel
theorem dX12_line_18 : decode cX12_line 18 = .ok (.iload_n 1, 1) := by decide +kernel
theorem dX12_line_19 : decode cX12_line 19 = .ok (.iload_n 2, 1) := by decide +kernel
theorem dX12_line_20 : decode cX12_line 20 = .ok (.invokevirtual 271, 3) := by decide +kernel
theorem dX12_line_23 : decode cX12_line 23 = .ok (.aload_n 0, 1) := by decide +kernel
theorem dX12_line_24 : decode cX12_line 24 = .ok (.invokevirtual 263, 3) := by decide +kernel
theorem dX12_line_27 : decode cX12_line 27 = .ok (.if_icmp .ge 9, 3) := by decide +kernel
theorem dX12_line_30 : decode cX12_line 30 = .ok (.iinc 2 (-1), 3) := by decide +kernel
theorem dX12_line_33 : decode cX12_line 33 = .ok (.goto (-16), 3) := by decide +kernel
theorem dX12_line_36 : decode cX12_line 36 = .ok (.iload_n 2, 1) := by decide +kernel
theorem dX12_line_37 : decode cX12_line 37 = .ok (.ireturn, 1) := by decide +kernel
theorem dX12_pass_0 : decode cX12_pass 0 = .ok (.aload_n 0, 1) := by decide +kernel
theorem dX12_pass_1 : decode cX12_pass 1 = .ok (.getfield 274, 3) := by decide +kernel
theorem dX12_pass_4 : decode cX12_pass 4 = .ok (.ifCond .eq 7, 3) := by decide +kernel
theorem dX12_pass_7 : decode cX12_pass 7 = .ok (.iload_n 1, 1) := by decide +kernel
theorem dX12_pass_8 : decode cX12_pass 8 = .ok (.goto 12, 3) := by decide +kernel
theorem dX12_pass_11 : decode cX12_pass 11 = .ok (.aload_n 0, 1) := by decide +kernel
theorem dX12_pass_12 : decode cX12_pass 12 = .ok (.getfield 72, 3) := by decide +kernel
theorem dX12_pass_15 : decode cX12_pass 15 = .ok (.aload_n 0, 1) := by decide +kernel
theorem dX12_pass_16 : decode cX12_pass 16 = .ok (.getfield 278, 3) := by decide +kernel
theorem dX12_pass_19 : decode cX12_pass 19 = .ok (.iaload, 1) := by decide +kernel
theorem dX12_pass_20 : decode cX12_pass 20 = .ok (.istore_n 2, 1) := by decide +kernel
theorem dX12_pass_21 : decode cX12_pass 21 = .ok (.aload_n 0, 1) := by decide +kernel
theorem dX12_pass_22 : decode cX12_pass 22 = .ok (.getfield 72, 3) := by decide +kernel
theorem dX12_pass_25 : decode cX12_pass 25 = .ok (.aload_n 0, 1) := by decide +kernel
theorem dX12_pass_26 : decode cX12_pass 26 = .ok (.getfield 278, 3) := by decide +kernel
theorem dX12_pass_29 : decode cX12_pass 29 = .ok (.iload_n 2, 1) := by decide +kernel
theorem dX12_pass_30 : decode cX12_pass 30 = .ok (.iastore, 1) := by decide +kernel
theorem dX12_pass_31 : decode cX12_pass 31 = .ok (.aload_n 0, 1) := by decide +kernel
theorem dX12_pass_32 : decode cX12_pass 32 = .ok (.dup, 1) := by decide +kernel
theorem dX12_pass_33 : decode cX12_pass 33 = .ok (.getfield 278, 3) := by decide +kernel
theorem dX12_pass_36 : decode cX12_pass 36 = .ok (.iconst 1, 1) := by decide +kernel
theorem dX12_pass_37 : decode cX12_pass 37 = .ok (.iadd, 1) := by decide +kernel
theorem dX12_pass_38 : decode cX12_pass 38 = .ok (.putfield 278, 3) := by decide +kernel
theorem dX12_pass_41 : decode cX12_pass 41 = .ok (.iload_n 2, 1) := by decide +kernel
theorem dX12_pass_42 : decode cX12_pass 42 = .ok (.ireturn, 1) := by decide +kernel
theorem dX12_passAll_0 : decode cX12_passAll 0 = .ok (.aload_n 0, 1) := by decide +kernel
theorem dX12_passAll_1 : decode cX12_passAll 1 = .ok (.aload_n 0, 1) := by decide +kernel
theorem dX12_passAll_2 : decode cX12_passAll 2 = .ok (.aload_n 0, 1) := by decide +kernel
theorem dX12_passAll_3 : decode cX12_passAll 3 = .ok (.getfield 105, 3) := by decide +kernel
theorem dX12_passAll_6 : decode cX12_passAll 6 = .ok (.invokevirtual 281, 3) := by decide +kernel
theorem dX12_passAll_9 : decode cX12_passAll 9 = .ok (.putfield 105, 3) := by decide +kernel
theorem dX12_passAll_12 : decode cX12_passAll 12 = .ok (.aload_n 0, 1) := by decide +kernel
theorem dX12_passAll_13 : decode cX12_passAll 13 = .ok (.aload_n 0, 1) := by decide +kernel
theorem dX12_passAll_14 : decode cX12_passAll 14 = .ok (.aload_n 0, 1) := by decide +kernel
theorem dX12_passAll_15 : decode cX12_passAll 15 = .ok (.getfield 227, 3) := by decide +kernel
theorem dX12_passAll_18 : decode cX12_passAll 18 = .ok (.invokevirtual 281, 3) := by decide +kernel
theorem dX12_passAll_21 : decode cX12_passAll 21 = .ok (.putfield 227, 3) := by decide +kernel
theorem dX12_passAll_24 : decode cX12_passAll 24 = .ok (.iconst 0, 1) := by decide +kernel
theorem dX12_passAll_25 : decode cX12_passAll 25 = .ok (.istore_n 1, 1) := by decide +kernel
theorem dX12_passAll_26 : decode cX12_passAll 26 = .ok (.iload_n 1, 1) := by decide +kernel
theorem dX12_passAll_27 : decode cX12_passAll 27 = .ok (.bipush 60, 2) := by decide +kernel
theorem dX12_passAll_29 : decode cX12_passAll 29 = .ok (.if_icmp .ge 41, 3) := by decide +kernel
theorem dX12_passAll_32 : decode cX12_passAll 32 = .ok (.aload_n 0, 1) := by decide +kernel
theorem dX12_passAll_33 : decode cX12_passAll 33 = .ok (.getfield 7, 3) := by decide +kernel
theorem dX12_passAll_36 : decode cX12_passAll 36 = .ok (.iload_n 1, 1) := by decide +kernel
theorem dX12_passAll_37 : decode cX12_passAll 37 = .ok (.aload_n 0, 1) := by decide +kernel
theorem dX12_passAll_38 : decode cX12_passAll 38 = .ok (.aload_n 0, 1) := by decide +kernel
theorem dX12_passAll_39 : decode cX12_passAll 39 = .ok (.getfield 7, 3) := by decide +kernel
theorem dX12_passAll_42 : decode cX12_passAll 42 = .ok (.iload_n 1, 1) := by decide +kernel
theorem dX12_passAll_43 : decode cX12_passAll 43 = .ok (.iaload, 1) := by decide +kernel
theorem dX12_passAll_44 : decode cX12_passAll 44 = .ok (.invokevirtual 281, 3) := by decide +kernel
theorem dX12_passAll_47 : decode cX12_passAll 47 = .ok (.iastore, 1) := by decide +kernel
theorem dX12_passAll_48 : decode cX12_passAll 48 = .ok (.aload_n 0, 1) := by decide +kernel
theorem dX12_passAll_49 : decode cX12_passAll 49 = .ok (.getfield 13, 3) := by decide +kernel
theorem dX12_passAll_52 : decode cX12_passAll 52 = .ok (.iload_n 1, 1) := by decide +kernel
theorem dX12_passAll_53 : decode cX12_passAll 53 = .ok (.aload_n 0, 1) := by decide +kernel
theorem dX12_passAll_54 : decode cX12_passAll 54 = .ok (.aload_n 0, 1) := by decide +kernel
theorem dX12_passAll_55 : decode cX12_passAll 55 = .ok (.getfield 13, 3) := by decide +kernel
theorem dX12_passAll_58 : decode cX12_passAll 58 = .ok (.iload_n 1, 1) := by decide +kernel
theorem dX12_passAll_59 : decode cX12_passAll 59 = .ok (.iaload, 1) := by decide +kernel
theorem dX12_passAll_60 : decode cX12_passAll 60 = .ok (.invokevirtual 281, 3) := by decide +kernel
theorem dX12_passAll_63 : decode cX12_passAll 63 = .ok (.iastore, 1) := by decide +kernel
theorem dX12_passAll_64 : decode cX12_passAll 64 = .ok (.iinc 1 1, 3) := by decide +kernel
theorem dX12_passAll_67 : decode cX12_passAll 67 = .ok (.goto (-41), 3) := by decide +kernel
theorem dX12_passAll_70 : decode cX12_passAll 70 = .ok (.iconst 0, 1) := by decide +kernel
theorem dX12_passAll_71 : decode cX12_passAll 71 = .ok (.istore_n 1, 1) := by decide +kernel
theorem dX12_passAll_72 : decode cX12_passAll 72 = .ok (.iload_n 1, 1) := by decide +kernel
theorem dX12_passAll_73 : decode cX12_passAll 73 = .ok (.bipush 12, 2) := by decide +kernel
theorem dX12_passAll_75 : decode cX12_passAll 75 = .ok (.if_icmp .ge 41, 3) := by decide +kernel
theorem dX12_passAll_78 : decode cX12_passAll 78 = .ok (.aload_n 0, 1) := by decide +kernel
theorem dX12_passAll_79 : decode cX12_passAll 79 = .ok (.getfield 16, 3) := by decide +kernel
theorem dX12_passAll_82 : decode cX12_passAll 82 = .ok (.iload_n 1, 1) := by decide +kernel
theorem dX12_passAll_83 : decode cX12_passAll 83 = .ok (.aload_n 0, 1) := by decide +kernel
theorem dX12_passAll_84 : decode cX12_passAll 84 = .ok (.aload_n 0, 1) := by decide +kernel
theorem dX12_passAll_85 : decode cX12_passAll 85 = .ok (.getfield 16, 3) := by decide +kernel
theorem dX12_passAll_88 : decode cX12_passAll 88 = .ok (.iload_n 1, 1) := by decide +kernel
theorem dX12_passAll_89 : decode cX12_passAll 89 = .ok (.iaload, 1) := by decide +kernel
theorem dX12_passAll_90 : decode cX12_passAll 90 = .ok (.invokevirtual 281, 3) := by decide +kernel
theorem dX12_passAll_93 : decode cX12_passAll 93 = .ok (.iastore, 1) := by decide +kernel
theorem dX12_passAll_94 : decode cX12_passAll 94 = .ok (.aload_n 0, 1) := by decide +kernel
theorem dX12_passAll_95 : decode cX12_passAll 95 = .ok (.getfield 19, 3) := by decide +kernel
theorem dX12_passAll_98 : decode cX12_passAll 98 = .ok (.iload_n 1, 1) := by decide +kernel
theorem dX12_passAll_99 : decode cX12_passAll 99 = .ok (.aload_n 0, 1) := by decide +kernel
theorem dX12_passAll_100 : decode cX12_passAll 100 = .ok (.aload_n 0, 1) := by decide +kernel
theorem dX12_passAll_101 : decode cX12_passAll 101 = .ok (.getfield 19, 3) := by decide +kernel
theorem dX12_passAll_104 : decode cX12_passAll 104 = .ok (.iload_n 1, 1) := by decide +kernel
theorem dX12_passAll_105 : decode cX12_passAll 105 = .ok (.iaload, 1) := by decide +kernel
theorem dX12_passAll_106 : decode cX12_passAll 106 = .ok (.invokevirtual 281, 3) := by decide +kernel
theorem dX12_passAll_109 : decode cX12_passAll 109 = .ok (.iastore, 1) := by decide +kernel
theorem dX12_passAll_110 : decode cX12_passAll 110 = .ok (.iinc 1 1, 3) := by decide +kernel
theorem dX12_passAll_113 : decode cX12_passAll 113 = .ok (.goto (-41), 3) := by decide +kernel
theorem dX12_passAll_116 : decode cX12_passAll 116 = .ok (.iconst 0, 1) := by decide +kernel
theorem dX12_passAll_117 : decode cX12_passAll 117 = .ok (.istore_n 1, 1) := by decide +kernel
theorem dX12_passAll_118 : decode cX12_passAll 118 = .ok (.iload_n 1, 1) := by decide +kernel
theorem dX12_passAll_119 : decode cX12_passAll 119 = .ok (.iconst 4, 1) := by decide +kernel
theorem dX12_passAll_120 : decode cX12_passAll 120 = .ok (.if_icmp .ge 57, 3) := by decide +kernel
theorem dX12_passAll_123 : decode cX12_passAll 123 = .ok (.aload_n 0, 1) := by decide +kernel
theorem dX12_passAll_124 : decode cX12_passAll 124 = .ok (.getfield 34, 3) := by decide +kernel
theorem dX12_passAll_127 : decode cX12_passAll 127 = .ok (.iload_n 1, 1) := by decide +kernel
theorem dX12_passAll_128 : decode cX12_passAll 128 = .ok (.aload_n 0, 1) := by decide +kernel
theorem dX12_passAll_129 : decode cX12_passAll 129 = .ok (.aload_n 0, 1) := by decide +kernel
theorem dX12_passAll_130 : decode cX12_passAll 130 = .ok (.getfield 34, 3) := by decide +kernel
theorem dX12_passAll_133 : decode cX12_passAll 133 = .ok (.iload_n 1, 1) := by decide +kernel
theorem dX12_passAll_134 : decode cX12_passAll 134 = .ok (.iaload, 1) := by decide +kernel
theorem dX12_passAll_135 : decode cX12_passAll 135 = .ok (.invokevirtual 281, 3) := by decide +kernel
theorem dX12_passAll_138 : decode cX12_passAll 138 = .ok (.iastore, 1) := by decide +kernel
theorem dX12_passAll_139 : decode cX12_passAll 139 = .ok (.aload_n 0, 1) := by decide +kernel
theorem dX12_passAll_140 : decode cX12_passAll 140 = .ok (.getfield 37, 3) := by decide +kernel
theorem dX12_passAll_143 : decode cX12_passAll 143 = .ok (.iload_n 1, 1) := by decide +kernel
theorem dX12_passAll_144 : decode cX12_passAll 144 = .ok (.aload_n 0, 1) := by decide +kernel
theorem dX12_passAll_145 : decode cX12_passAll 145 = .ok (.aload_n 0, 1) := by decide +kernel
theorem dX12_passAll_146 : decode cX12_passAll 146 = .ok (.getfield 37, 3) := by decide +kernel
theorem dX12_passAll_149 : decode cX12_passAll 149 = .ok (.iload_n 1, 1) := by decide +kernel
theorem dX12_passAll_150 : decode cX12_passAll 150 = .ok (.iaload, 1) := by decide +kernel
theorem dX12_passAll_151 : decode cX12_passAll 151 = .ok (.invokevirtual 281, 3) := by decide +kernel
theorem dX12_passAll_154 : decode cX12_passAll 154 = .ok (.iastore, 1) := by decide +kernel
theorem dX12_passAll_155 : decode cX12_passAll 155 = .ok (.aload_n 0, 1) := by decide +kernel
theorem dX12_passAll_156 : decode cX12_passAll 156 = .ok (.getfield 40, 3) := by decide +kernel
theorem dX12_passAll_159 : decode cX12_passAll 159 = .ok (.iload_n 1, 1) := by decide +kernel
theorem dX12_passAll_160 : decode cX12_passAll 160 = .ok (.aload_n 0, 1) := by decide +kernel
theorem dX12_passAll_161 : decode cX12_passAll 161 = .ok (.aload_n 0, 1) := by decide +kernel
theorem dX12_passAll_162 : decode cX12_passAll 162 = .ok (.getfield 40, 3) := by decide +kernel
theorem dX12_passAll_165 : decode cX12_passAll 165 = .ok (.iload_n 1, 1) := by decide +kernel
theorem dX12_passAll_166 : decode cX12_passAll 166 = .ok (.iaload, 1) := by decide +kernel
theorem dX12_passAll_167 : decode cX12_passAll 167 = .ok (.invokevirtual 281, 3) := by decide +kernel
theorem dX12_passAll_170 : decode cX12_passAll 170 = .ok (.iastore, 1) := by decide +kernel
theorem dX12_passAll_171 : decode cX12_passAll 171 = .ok (.iinc 1 1, 3) := by decide +kernel
theorem dX12_passAll_174 : decode cX12_passAll 174 = .ok (.goto (-56), 3) := by decide +kernel
theorem dX12_passAll_177 : decode cX12_passAll 177 = .ok (.iconst 0, 1) := by decide +kernel
theorem dX12_passAll_178 : decode cX12_passAll 178 = .ok (.istore_n 1, 1) := by decide +kernel
theorem dX12_passAll_179 : decode cX12_passAll 179 = .ok (.iload_n 1, 1) := by decide +kernel
theorem dX12_passAll_180 : decode cX12_passAll 180 = .ok (.bipush 20, 2) := by decide +kernel
theorem dX12_passAll_182 : decode cX12_passAll 182 = .ok (.if_icmp .ge 41, 3) := by decide +kernel
theorem dX12_passAll_185 : decode cX12_passAll 185 = .ok (.aload_n 0, 1) := by decide +kernel
theorem dX12_passAll_186 : decode cX12_passAll 186 = .ok (.getfield 57, 3) := by decide +kernel
theorem dX12_passAll_189 : decode cX12_passAll 189 = .ok (.iload_n 1, 1) := by decide +kernel
theorem dX12_passAll_190 : decode cX12_passAll 190 = .ok (.aload_n 0, 1) := by decide +kernel
theorem dX12_passAll_191 : decode cX12_passAll 191 = .ok (.aload_n 0, 1) := by decide +kernel
theorem dX12_passAll_192 : decode cX12_passAll 192 = .ok (.getfield 57, 3) := by decide +kernel
theorem dX12_passAll_195 : decode cX12_passAll 195 = .ok (.iload_n 1, 1) := by decide +kernel
theorem dX12_passAll_196 : decode cX12_passAll 196 = .ok (.iaload, 1) := by decide +kernel
theorem dX12_passAll_197 : decode cX12_passAll 197 = .ok (.invokevirtual 281, 3) := by decide +kernel
theorem dX12_passAll_200 : decode cX12_passAll 200 = .ok (.iastore, 1) := by decide +kernel
theorem dX12_passAll_201 : decode cX12_passAll 201 = .ok (.aload_n 0, 1) := by decide +kernel
theorem dX12_passAll_202 : decode cX12_passAll 202 = .ok (.getfield 60, 3) := by decide +kernel
theorem dX12_passAll_205 : decode cX12_passAll 205 = .ok (.iload_n 1, 1) := by decide +kernel
theorem dX12_passAll_206 : decode cX12_passAll 206 = .ok (.aload_n 0, 1) := by decide +kernel
theorem dX12_passAll_207 : decode cX12_passAll 207 = .ok (.aload_n 0, 1) := by decide +kernel
theorem dX12_passAll_208 : decode cX12_passAll 208 = .ok (.getfield 60, 3) := by decide +kernel
theorem dX12_passAll_211 : decode cX12_passAll 211 = .ok (.iload_n 1, 1) := by decide +kernel
theorem dX12_passAll_212 : decode cX12_passAll 212 = .ok (.iaload, 1) := by decide +kernel
theorem dX12_passAll_213 : decode cX12_passAll 213 = .ok (.invokevirtual 281, 3) := by decide +kernel
theorem dX12_passAll_216 : decode cX12_passAll 216 = .ok (.iastore, 1) := by decide +kernel
theorem dX12_passAll_217 : decode cX12_passAll 217 = .ok (.iinc 1 1, 3) := by decide +kernel
theorem dX12_passAll_220 : decode cX12_passAll 220 = .ok (.goto (-41), 3) := by decide +kernel
theorem dX12_passAll_223 : decode cX12_passAll 223 = .ok (.return_, 1) := by decide +kernel
theorem dX12_image_0 : decode cX12_image 0 = .ok (.iload_n 1, 1) := by decide +kernel
theorem dX12_image_1 : decode cX12_image 1 = .ok (.invokestatic 148, 3) := by decide +kernel
theorem dX12_image_4 : decode cX12_image 4 = .ok (.ifCond .ne 6, 3) := by decide +kernel
theorem dX12_image_7 : decode cX12_image 7 = .ok (.bipush (-2), 2) := by decide +kernel
theorem dX12_image_9 : decode cX12_image 9 = .ok (.ireturn, 1) := by decide +kernel
theorem dX12_image_10 : decode cX12_image 10 = .ok (.aload_n 0, 1) := by decide +kernel
theorem dX12_image_11 : decode cX12_image 11 = .ok (.sipush 220, 3) := by decide +kernel
theorem dX12_image_14 : decode cX12_image 14 = .ok (.iload_n 1, 1) := by decide +kernel
theorem dX12_image_15 : decode cX12_image 15 = .ok (.imul, 1) := by decide +kernel
theorem dX12_image_16 : decode cX12_image 16 = .ok (.putfield 278, 3) := by decide +kernel
theorem dX12_image_19 : decode cX12_image 19 = .ok (.aload_n 0, 1) := by decide +kernel
theorem dX12_image_20 : decode cX12_image 20 = .ok (.iconst 1, 1) := by decide +kernel
theorem dX12_image_21 : decode cX12_image 21 = .ok (.putfield 274, 3) := by decide +kernel
theorem dX12_image_24 : decode cX12_image 24 = .ok (.aload_n 0, 1) := by decide +kernel
theorem dX12_image_25 : decode cX12_image 25 = .ok (.invokevirtual 284, 3) := by decide +kernel
theorem dX12_image_28 : decode cX12_image 28 = .ok (.aload_n 0, 1) := by decide +kernel
theorem dX12_image_29 : decode cX12_image 29 = .ok (.getfield 75, 3) := by decide +kernel
theorem dX12_image_32 : decode cX12_image 32 = .ok (.iload_n 1, 1) := by decide +kernel
theorem dX12_image_33 : decode cX12_image 33 = .ok (.iconst 1, 1) := by decide +kernel
theorem dX12_image_34 : decode cX12_image 34 = .ok (.bastore, 1) := by decide +kernel
theorem dX12_image_35 : decode cX12_image 35 = .ok (.iconst 1, 1) := by decide +kernel
theorem dX12_image_36 : decode cX12_image 36 = .ok (.ireturn, 1) := by decide +kernel
theorem dX12_restore_0 : decode cX12_restore 0 = .ok (.iload_n 1, 1) := by decide +kernel
theorem dX12_restore_1 : decode cX12_restore 1 = .ok (.invokestatic 148, 3) := by decide +kernel
theorem dX12_restore_4 : decode cX12_restore 4 = .ok (.ifCond .ne 6, 3) := by decide +kernel
theorem dX12_restore_7 : decode cX12_restore 7 = .ok (.bipush (-2), 2) := by decide +kernel
theorem dX12_restore_9 : decode cX12_restore 9 = .ok (.ireturn, 1) := by decide +kernel
theorem dX12_restore_10 : decode cX12_restore 10 = .ok (.aload_n 0, 1) := by decide +kernel
theorem dX12_restore_11 : decode cX12_restore 11 = .ok (.getfield 75, 3) := by decide +kernel
theorem dX12_restore_14 : decode cX12_restore 14 = .ok (.iload_n 1, 1) := by decide +kernel
theorem dX12_restore_15 : decode cX12_restore 15 = .ok (.baload, 1) := by decide +kernel
theorem dX12_restore_16 : decode cX12_restore 16 = .ok (.ifCond .ne 6, 3) := by decide +kernel
theorem dX12_restore_19 : decode cX12_restore 19 = .ok (.bipush (-3), 2) := by decide +kernel
theorem dX12_restore_21 : decode cX12_restore 21 = .ok (.ireturn, 1) := by decide +kernel
theorem dX12_restore_22 : decode cX12_restore 22 = .ok (.aload_n 0, 1) := by decide +kernel
theorem dX12_restore_23 : decode cX12_restore 23 = .ok (.sipush 220, 3) := by decide +kernel
theorem dX12_restore_26 : decode cX12_restore 26 = .ok (.iload_n 1, 1) := by decide +kernel
theorem dX12_restore_27 : decode cX12_restore 27 = .ok (.imul, 1) := by decide +kernel
theorem dX12_restore_28 : decode cX12_restore 28 = .ok (.putfield 278, 3) := by decide +kernel
theorem dX12_restore_31 : decode cX12_restore 31 = .ok (.aload_n 0, 1) := by decide +kernel
theorem dX12_restore_32 : decode cX12_restore 32 = .ok (.iconst 0, 1) := by decide +kernel
theorem dX12_restore_33 : decode cX12_restore 33 = .ok (.putfield 274, 3) := by decide +kernel
theorem dX12_restore_36 : decode cX12_restore 36 = .ok (.aload_n 0, 1) := by decide +kernel
theorem dX12_restore_37 : decode cX12_restore 37 = .ok (.invokevirtual 284, 3) := by decide +kernel
theorem dX12_restore_40 : decode cX12_restore 40 = .ok (.iconst 1, 1) := by decide +kernel
theorem dX12_restore_41 : decode cX12_restore 41 = .ok (.ireturn, 1) := by decide +kernel
theorem dX12_told_0 : decode cX12_told 0 = .ok (.iload_n 1, 1) := by decide +kernel
theorem dX12_told_1 : decode cX12_told 1 = .ok (.i2l, 1) := by decide +kernel
theorem dX12_told_2 : decode cX12_told 2 = .ok (.ldc2_w 125, 3) := by decide +kernel
theorem dX12_told_5 : decode cX12_told 5 = .ok (.ldc2_w 287, 3) := by decide +kernel
theorem dX12_told_8 : decode cX12_told 8 = .ok (.invokestatic 80, 3) := by decide +kernel
theorem dX12_told_11 : decode cX12_told 11 = .ok (.ifCond .eq 13, 3) := by decide +kernel
theorem dX12_told_14 : decode cX12_told 14 = .ok (.aload_n 0, 1) := by decide +kernel
theorem dX12_told_15 : decode cX12_told 15 = .ok (.getfield 34, 3) := by decide +kernel
theorem dX12_told_18 : decode cX12_told 18 = .ok (.iload_n 1, 1) := by decide +kernel
theorem dX12_told_19 : decode cX12_told 19 = .ok (.bipush 10, 2) := by decide +kernel
theorem dX12_told_21 : decode cX12_told 21 = .ok (.isub, 1) := by decide +kernel
theorem dX12_told_22 : decode cX12_told 22 = .ok (.iaload, 1) := by decide +kernel
theorem dX12_told_23 : decode cX12_told 23 = .ok (.ireturn, 1) := by decide +kernel
theorem dX12_told_24 : decode cX12_told 24 = .ok (.iload_n 1, 1) := by decide +kernel
theorem dX12_told_25 : decode cX12_told 25 = .ok (.i2l, 1) := by decide +kernel
theorem dX12_told_26 : decode cX12_told 26 = .ok (.ldc2_w 129, 3) := by decide +kernel
theorem dX12_told_29 : decode cX12_told 29 = .ok (.ldc2_w 289, 3) := by decide +kernel
theorem dX12_told_32 : decode cX12_told 32 = .ok (.invokestatic 80, 3) := by decide +kernel
theorem dX12_told_35 : decode cX12_told 35 = .ok (.ifCond .eq 13, 3) := by decide +kernel
theorem dX12_told_38 : decode cX12_told 38 = .ok (.aload_n 0, 1) := by decide +kernel
theorem dX12_told_39 : decode cX12_told 39 = .ok (.getfield 37, 3) := by decide +kernel
theorem dX12_told_42 : decode cX12_told 42 = .ok (.iload_n 1, 1) := by decide +kernel
theorem dX12_told_43 : decode cX12_told 43 = .ok (.bipush 20, 2) := by decide +kernel
theorem dX12_told_45 : decode cX12_told 45 = .ok (.isub, 1) := by decide +kernel
theorem dX12_told_46 : decode cX12_told 46 = .ok (.iaload, 1) := by decide +kernel
theorem dX12_told_47 : decode cX12_told 47 = .ok (.ireturn, 1) := by decide +kernel
theorem dX12_told_48 : decode cX12_told 48 = .ok (.iload_n 1, 1) := by decide +kernel
theorem dX12_told_49 : decode cX12_told 49 = .ok (.i2l, 1) := by decide +kernel
theorem dX12_told_50 : decode cX12_told 50 = .ok (.ldc2_w 291, 3) := by decide +kernel
theorem dX12_told_53 : decode cX12_told 53 = .ok (.ldc2_w 86, 3) := by decide +kernel
theorem dX12_told_56 : decode cX12_told 56 = .ok (.invokestatic 80, 3) := by decide +kernel
theorem dX12_told_59 : decode cX12_told 59 = .ok (.ifCond .eq 13, 3) := by decide +kernel
theorem dX12_told_62 : decode cX12_told 62 = .ok (.aload_n 0, 1) := by decide +kernel
theorem dX12_told_63 : decode cX12_told 63 = .ok (.getfield 40, 3) := by decide +kernel
theorem dX12_told_66 : decode cX12_told 66 = .ok (.iload_n 1, 1) := by decide +kernel
theorem dX12_told_67 : decode cX12_told 67 = .ok (.bipush 30, 2) := by decide +kernel
theorem dX12_told_69 : decode cX12_told 69 = .ok (.isub, 1) := by decide +kernel
theorem dX12_told_70 : decode cX12_told 70 = .ok (.iaload, 1) := by decide +kernel
theorem dX12_told_71 : decode cX12_told 71 = .ok (.ireturn, 1) := by decide +kernel
theorem dX12_told_72 : decode cX12_told 72 = .ok (.iload_n 1, 1) := by decide +kernel
theorem dX12_told_73 : decode cX12_told 73 = .ok (.tableswitch 51 0 3 #[31, 36, 41, 46], 31) := by decide +kernel
theorem dX12_told_104 : decode cX12_told 104 = .ok (.aload_n 0, 1) := by decide +kernel
theorem dX12_told_105 : decode cX12_told 105 = .ok (.getfield 90, 3) := by decide +kernel
theorem dX12_told_108 : decode cX12_told 108 = .ok (.ireturn, 1) := by decide +kernel
theorem dX12_told_109 : decode cX12_told 109 = .ok (.aload_n 0, 1) := by decide +kernel
theorem dX12_told_110 : decode cX12_told 110 = .ok (.getfield 105, 3) := by decide +kernel
theorem dX12_told_113 : decode cX12_told 113 = .ok (.ireturn, 1) := by decide +kernel
theorem dX12_told_114 : decode cX12_told 114 = .ok (.aload_n 0, 1) := by decide +kernel
theorem dX12_told_115 : decode cX12_told 115 = .ok (.getfield 227, 3) := by decide +kernel
theorem dX12_told_118 : decode cX12_told 118 = .ok (.ireturn, 1) := by decide +kernel
theorem dX12_told_119 : decode cX12_told 119 = .ok (.aload_n 0, 1) := by decide +kernel
theorem dX12_told_120 : decode cX12_told 120 = .ok (.invokevirtual 263, 3) := by decide +kernel
theorem dX12_told_123 : decode cX12_told 123 = .ok (.ireturn, 1) := by decide +kernel
theorem dX12_told_124 : decode cX12_told 124 = .ok (.bipush (-2), 2) := by decide +kernel
theorem dX12_told_126 : decode cX12_told 126 = .ok (.ireturn, 1) := by decide +kernel
theorem dJ6_bitCount_0f7a4_0 : decode cJ6_bitCount_0f7a4 0 = .ok (.iload_n 0, 1) := by decide +kernel
theorem dJ6_bitCount_0f7a4_1 : decode cJ6_bitCount_0f7a4 1 = .ok (.iload_n 0, 1) := by decide +kernel
theorem dJ6_bitCount_0f7a4_2 : decode cJ6_bitCount_0f7a4 2 = .ok (.iconst 1, 1) := by decide +kernel
theorem dJ6_bitCount_0f7a4_3 : decode cJ6_bitCount_0f7a4 3 = .ok (.iushr, 1) := by decide +kernel
theorem dJ6_bitCount_0f7a4_4 : decode cJ6_bitCount_0f7a4 4 = .ok (.ldc_w 265, 3) := by decide +kernel
theorem dJ6_bitCount_0f7a4_7 : decode cJ6_bitCount_0f7a4 7 = .ok (.iand, 1) := by decide +kernel
theorem dJ6_bitCount_0f7a4_8 : decode cJ6_bitCount_0f7a4 8 = .ok (.isub, 1) := by decide +kernel
theorem dJ6_bitCount_0f7a4_9 : decode cJ6_bitCount_0f7a4 9 = .ok (.istore_n 0, 1) := by decide +kernel
theorem dJ6_bitCount_0f7a4_10 : decode cJ6_bitCount_0f7a4 10 = .ok (.iload_n 0, 1) := by decide +kernel
theorem dJ6_bitCount_0f7a4_11 : decode cJ6_bitCount_0f7a4 11 = .ok (.ldc_w 266, 3) := by decide +kernel
theorem dJ6_bitCount_0f7a4_14 : decode cJ6_bitCount_0f7a4 14 = .ok (.iand, 1) := by decide +kernel
theorem dJ6_bitCount_0f7a4_15 : decode cJ6_bitCount_0f7a4 15 = .ok (.iload_n 0, 1) := by decide +kernel
theorem dJ6_bitCount_0f7a4_16 : decode cJ6_bitCount_0f7a4 16 = .ok (.iconst 2, 1) := by decide +kernel
theorem dJ6_bitCount_0f7a4_17 : decode cJ6_bitCount_0f7a4 17 = .ok (.iushr, 1) := by decide +kernel
theorem dJ6_bitCount_0f7a4_18 : decode cJ6_bitCount_0f7a4 18 = .ok (.ldc_w 266, 3) := by decide +kernel
theorem dJ6_bitCount_0f7a4_21 : decode cJ6_bitCount_0f7a4 21 = .ok (.iand, 1) := by decide +kernel
theorem dJ6_bitCount_0f7a4_22 : decode cJ6_bitCount_0f7a4 22 = .ok (.iadd, 1) := by decide +kernel
theorem dJ6_bitCount_0f7a4_23 : decode cJ6_bitCount_0f7a4 23 = .ok (.istore_n 0, 1) := by decide +kernel
theorem dJ6_bitCount_0f7a4_24 : decode cJ6_bitCount_0f7a4 24 = .ok (.iload_n 0, 1) := by decide +kernel
theorem dJ6_bitCount_0f7a4_25 : decode cJ6_bitCount_0f7a4 25 = .ok (.iload_n 0, 1) := by decide +kernel
theorem dJ6_bitCount_0f7a4_26 : decode cJ6_bitCount_0f7a4 26 = .ok (.iconst 4, 1) := by decide +kernel
theorem dJ6_bitCount_0f7a4_27 : decode cJ6_bitCount_0f7a4 27 = .ok (.iushr, 1) := by decide +kernel
theorem dJ6_bitCount_0f7a4_28 : decode cJ6_bitCount_0f7a4 28 = .ok (.iadd, 1) := by decide +kernel
theorem dJ6_bitCount_0f7a4_29 : decode cJ6_bitCount_0f7a4 29 = .ok (.ldc_w 267, 3) := by decide +kernel
theorem dJ6_bitCount_0f7a4_32 : decode cJ6_bitCount_0f7a4 32 = .ok (.iand, 1) := by decide +kernel
theorem dJ6_bitCount_0f7a4_33 : decode cJ6_bitCount_0f7a4 33 = .ok (.istore_n 0, 1) := by decide +kernel
theorem dJ6_bitCount_0f7a4_34 : decode cJ6_bitCount_0f7a4 34 = .ok (.iload_n 0, 1) := by decide +kernel
theorem dJ6_bitCount_0f7a4_35 : decode cJ6_bitCount_0f7a4 35 = .ok (.iload_n 0, 1) := by decide +kernel
theorem dJ6_bitCount_0f7a4_36 : decode cJ6_bitCount_0f7a4 36 = .ok (.bipush 8, 2) := by decide +kernel
theorem dJ6_bitCount_0f7a4_38 : decode cJ6_bitCount_0f7a4 38 = .ok (.iushr, 1) := by decide +kernel
theorem dJ6_bitCount_0f7a4_39 : decode cJ6_bitCount_0f7a4 39 = .ok (.iadd, 1) := by decide +kernel
theorem dJ6_bitCount_0f7a4_40 : decode cJ6_bitCount_0f7a4 40 = .ok (.istore_n 0, 1) := by decide +kernel
theorem dJ6_bitCount_0f7a4_41 : decode cJ6_bitCount_0f7a4 41 = .ok (.iload_n 0, 1) := by decide +kernel
theorem dJ6_bitCount_0f7a4_42 : decode cJ6_bitCount_0f7a4 42 = .ok (.iload_n 0, 1) := by decide +kernel
theorem dJ6_bitCount_0f7a4_43 : decode cJ6_bitCount_0f7a4 43 = .ok (.bipush 16, 2) := by decide +kernel
theorem dJ6_bitCount_0f7a4_45 : decode cJ6_bitCount_0f7a4 45 = .ok (.iushr, 1) := by decide +kernel
theorem dJ6_bitCount_0f7a4_46 : decode cJ6_bitCount_0f7a4 46 = .ok (.iadd, 1) := by decide +kernel
theorem dJ6_bitCount_0f7a4_47 : decode cJ6_bitCount_0f7a4 47 = .ok (.istore_n 0, 1) := by decide +kernel
theorem dJ6_bitCount_0f7a4_48 : decode cJ6_bitCount_0f7a4 48 = .ok (.iload_n 0, 1) := by decide +kernel
theorem dJ6_bitCount_0f7a4_49 : decode cJ6_bitCount_0f7a4 49 = .ok (.bipush 63, 2) := by decide +kernel
theorem dJ6_bitCount_0f7a4_51 : decode cJ6_bitCount_0f7a4 51 = .ok (.iand, 1) := by decide +kernel
theorem dJ6_bitCount_0f7a4_52 : decode cJ6_bitCount_0f7a4 52 = .ok (.ireturn, 1) := by decide +kernel
theorem dJ9_max_7cf53_0 : decode cJ9_max_7cf53 0 = .ok (.iload_n 0, 1) := by decide +kernel
theorem dJ9_max_7cf53_1 : decode cJ9_max_7cf53 1 = .ok (.iload_n 1, 1) := by decide +kernel
theorem dJ9_max_7cf53_2 : decode cJ9_max_7cf53 2 = .ok (.if_icmp .lt 7, 3) := by decide +kernel
theorem dJ9_max_7cf53_5 : decode cJ9_max_7cf53 5 = .ok (.iload_n 0, 1) := by decide +kernel
theorem dJ9_max_7cf53_6 : decode cJ9_max_7cf53 6 = .ok (.goto 4, 3) := by decide +kernel
theorem dJ9_max_7cf53_9 : decode cJ9_max_7cf53 9 = .ok (.iload_n 1, 1) := by decide +kernel
theorem dJ9_max_7cf53_10 : decode cJ9_max_7cf53 10 = .ok (.ireturn, 1) := by decide +kernel
theorem dJ9_min_7cf53_0 : decode cJ9_min_7cf53 0 = .ok (.iload_n 0, 1) := by decide +kernel
theorem dJ9_min_7cf53_1 : decode cJ9_min_7cf53 1 = .ok (.iload_n 1, 1) := by decide +kernel
theorem dJ9_min_7cf53_2 : decode cJ9_min_7cf53 2 = .ok (.if_icmp .gt 7, 3) := by decide +kernel
theorem dJ9_min_7cf53_5 : decode cJ9_min_7cf53 5 = .ok (.iload_n 0, 1) := by decide +kernel
theorem dJ9_min_7cf53_6 : decode cJ9_min_7cf53 6 = .ok (.goto 4, 3) := by decide +kernel
theorem dJ9_min_7cf53_9 : decode cJ9_min_7cf53 9 = .ok (.iload_n 1, 1) := by decide +kernel
theorem dJ9_min_7cf53_10 : decode cJ9_min_7cf53 10 = .ok (.ireturn, 1) := by decide +kernel
theorem dJ7_fill_53178_0 : decode cJ7_fill_53178 0 = .ok (.iconst 0, 1) := by decide +kernel
theorem dJ7_fill_53178_1 : decode cJ7_fill_53178 1 = .ok (.istore_n 2, 1) := by decide +kernel
theorem dJ7_fill_53178_2 : decode cJ7_fill_53178 2 = .ok (.aload_n 0, 1) := by decide +kernel
theorem dJ7_fill_53178_3 : decode cJ7_fill_53178 3 = .ok (.arraylength, 1) := by decide +kernel
theorem dJ7_fill_53178_4 : decode cJ7_fill_53178 4 = .ok (.istore_n 3, 1) := by decide +kernel
theorem dJ7_fill_53178_5 : decode cJ7_fill_53178 5 = .ok (.iload_n 2, 1) := by decide +kernel
theorem dJ7_fill_53178_6 : decode cJ7_fill_53178 6 = .ok (.iload_n 3, 1) := by decide +kernel
theorem dJ7_fill_53178_7 : decode cJ7_fill_53178 7 = .ok (.if_icmp .ge 13, 3) := by decide +kernel
theorem dJ7_fill_53178_10 : decode cJ7_fill_53178 10 = .ok (.aload_n 0, 1) := by decide +kernel
theorem dJ7_fill_53178_11 : decode cJ7_fill_53178 11 = .ok (.iload_n 2, 1) := by decide +kernel
theorem dJ7_fill_53178_12 : decode cJ7_fill_53178 12 = .ok (.iload_n 1, 1) := by decide +kernel
theorem dJ7_fill_53178_13 : decode cJ7_fill_53178 13 = .ok (.iastore, 1) := by decide +kernel
theorem dJ7_fill_53178_14 : decode cJ7_fill_53178 14 = .ok (.iinc 2 1, 3) := by decide +kernel
theorem dJ7_fill_53178_17 : decode cJ7_fill_53178 17 = .ok (.goto (-12), 3) := by decide +kernel
theorem dJ7_fill_53178_20 : decode cJ7_fill_53178 20 = .ok (.return_, 1) := by decide +kernel
theorem dL_law_0 : decode cL_law 0 = .ok (.new 7, 3) := by decide +kernel
theorem dL_law_3 : decode cL_law 3 = .ok (.dup, 1) := by decide +kernel
theorem dL_law_4 : decode cL_law 4 = .ok (.invokespecial 9, 3) := by decide +kernel
theorem dL_law_7 : decode cL_law 7 = .ok (.astore_n 1, 1) := by decide +kernel
theorem dL_law_8 : decode cL_law 8 = .ok (.new 10, 3) := by decide +kernel
theorem dL_law_11 : decode cL_law 11 = .ok (.dup, 1) := by decide +kernel
theorem dL_law_12 : decode cL_law 12 = .ok (.invokespecial 12, 3) := by decide +kernel
theorem dL_law_15 : decode cL_law 15 = .ok (.astore_n 2, 1) := by decide +kernel
theorem dL_law_16 : decode cL_law 16 = .ok (.iconst 0, 1) := by decide +kernel
theorem dL_law_17 : decode cL_law 17 = .ok (.istore_n 3, 1) := by decide +kernel
theorem dL_law_18 : decode cL_law 18 = .ok (.iload_n 3, 1) := by decide +kernel
theorem dL_law_19 : decode cL_law 19 = .ok (.aload_n 0, 1) := by decide +kernel
theorem dL_law_20 : decode cL_law 20 = .ok (.arraylength, 1) := by decide +kernel
theorem dL_law_21 : decode cL_law 21 = .ok (.iconst 4, 1) := by decide +kernel
theorem dL_law_22 : decode cL_law 22 = .ok (.isub, 1) := by decide +kernel
theorem dL_law_23 : decode cL_law 23 = .ok (.if_icmp .gt 1064, 3) := by decide +kernel
theorem dL_law_26 : decode cL_law 26 = .ok (.aload_n 0, 1) := by decide +kernel
theorem dL_law_27 : decode cL_law 27 = .ok (.iload_n 3, 1) := by decide +kernel
theorem dL_law_28 : decode cL_law 28 = .ok (.iaload, 1) := by decide +kernel
theorem dL_law_29 : decode cL_law 29 = .ok (.bipush 31, 2) := by decide +kernel
theorem dL_law_31 : decode cL_law 31 = .ok (.iand, 1) := by decide +kernel
theorem dL_law_32 : decode cL_law 32 = .ok (.tableswitch 1049 0 31 #[144, 167, 180, 193, 216, 249, 282, 326, 349, 373, 416, 459, 502, 525, 558, 581, 624, 657, 706, 719, 732, 766, 779, 792, 825, 848, 881, 914, 957, 980, 1003, 1026], 144) := by decide +kernel
theorem dL_law_176 : decode cL_law 176 = .ok (.aload_n 1, 1) := by decide +kernel
theorem dL_law_177 : decode cL_law 177 = .ok (.aload_n 0, 1) := by decide +kernel
theorem dL_law_178 : decode cL_law 178 = .ok (.iload_n 3, 1) := by decide +kernel
theorem dL_law_179 : decode cL_law 179 = .ok (.iconst 1, 1) := by decide +kernel
theorem dL_law_180 : decode cL_law 180 = .ok (.iadd, 1) := by decide +kernel
theorem dL_law_181 : decode cL_law 181 = .ok (.iaload, 1) := by decide +kernel
theorem dL_law_182 : decode cL_law 182 = .ok (.invokevirtual 13, 3) := by decide +kernel
theorem dL_law_185 : decode cL_law 185 = .ok (.aload_n 2, 1) := by decide +kernel
theorem dL_law_186 : decode cL_law 186 = .ok (.aload_n 0, 1) := by decide +kernel
theorem dL_law_187 : decode cL_law 187 = .ok (.iload_n 3, 1) := by decide +kernel
theorem dL_law_188 : decode cL_law 188 = .ok (.iconst 1, 1) := by decide +kernel
theorem dL_law_189 : decode cL_law 189 = .ok (.iadd, 1) := by decide +kernel
theorem dL_law_190 : decode cL_law 190 = .ok (.iaload, 1) := by decide +kernel
theorem dL_law_191 : decode cL_law 191 = .ok (.invokevirtual 17, 3) := by decide +kernel
theorem dL_law_194 : decode cL_law 194 = .ok (.if_icmp .eq 887, 3) := by decide +kernel
theorem dL_law_197 : decode cL_law 197 = .ok (.iconst 0, 1) := by decide +kernel
theorem dL_law_198 : decode cL_law 198 = .ok (.ireturn, 1) := by decide +kernel
theorem dL_law_199 : decode cL_law 199 = .ok (.aload_n 1, 1) := by decide +kernel
theorem dL_law_200 : decode cL_law 200 = .ok (.invokevirtual 18, 3) := by decide +kernel
theorem dL_law_203 : decode cL_law 203 = .ok (.aload_n 2, 1) := by decide +kernel
theorem dL_law_204 : decode cL_law 204 = .ok (.invokevirtual 22, 3) := by decide +kernel
theorem dL_law_207 : decode cL_law 207 = .ok (.if_icmp .eq 874, 3) := by decide +kernel
theorem dL_law_210 : decode cL_law 210 = .ok (.iconst 0, 1) := by decide +kernel
theorem dL_law_211 : decode cL_law 211 = .ok (.ireturn, 1) := by decide +kernel
theorem dL_law_212 : decode cL_law 212 = .ok (.aload_n 1, 1) := by decide +kernel
theorem dL_law_213 : decode cL_law 213 = .ok (.invokevirtual 23, 3) := by decide +kernel
theorem dL_law_216 : decode cL_law 216 = .ok (.aload_n 2, 1) := by decide +kernel
theorem dL_law_217 : decode cL_law 217 = .ok (.invokevirtual 26, 3) := by decide +kernel
theorem dL_law_220 : decode cL_law 220 = .ok (.if_icmp .eq 861, 3) := by decide +kernel
theorem dL_law_223 : decode cL_law 223 = .ok (.iconst 0, 1) := by decide +kernel
theorem dL_law_224 : decode cL_law 224 = .ok (.ireturn, 1) := by decide +kernel
theorem dL_law_225 : decode cL_law 225 = .ok (.aload_n 1, 1) := by decide +kernel
theorem dL_law_226 : decode cL_law 226 = .ok (.aload_n 0, 1) := by decide +kernel
theorem dL_law_227 : decode cL_law 227 = .ok (.iload_n 3, 1) := by decide +kernel
theorem dL_law_228 : decode cL_law 228 = .ok (.iconst 1, 1) := by decide +kernel
theorem dL_law_229 : decode cL_law 229 = .ok (.iadd, 1) := by decide +kernel
theorem dL_law_230 : decode cL_law 230 = .ok (.iaload, 1) := by decide +kernel
theorem dL_law_231 : decode cL_law 231 = .ok (.invokevirtual 27, 3) := by decide +kernel
theorem dL_law_234 : decode cL_law 234 = .ok (.aload_n 2, 1) := by decide +kernel
theorem dL_law_235 : decode cL_law 235 = .ok (.aload_n 0, 1) := by decide +kernel
theorem dL_law_236 : decode cL_law 236 = .ok (.iload_n 3, 1) := by decide +kernel
theorem dL_law_237 : decode cL_law 237 = .ok (.iconst 1, 1) := by decide +kernel
theorem dL_law_238 : decode cL_law 238 = .ok (.iadd, 1) := by decide +kernel
theorem dL_law_239 : decode cL_law 239 = .ok (.iaload, 1) := by decide +kernel
theorem dL_law_240 : decode cL_law 240 = .ok (.invokevirtual 30, 3) := by decide +kernel
theorem dL_law_243 : decode cL_law 243 = .ok (.if_icmp .eq 838, 3) := by decide +kernel
theorem dL_law_246 : decode cL_law 246 = .ok (.iconst 0, 1) := by decide +kernel
theorem dL_law_247 : decode cL_law 247 = .ok (.ireturn, 1) := by decide +kernel
theorem dL_law_248 : decode cL_law 248 = .ok (.aload_n 1, 1) := by decide +kernel
theorem dL_law_249 : decode cL_law 249 = .ok (.aload_n 0, 1) := by decide +kernel
theorem dL_law_250 : decode cL_law 250 = .ok (.iload_n 3, 1) := by decide +kernel
theorem dL_law_251 : decode cL_law 251 = .ok (.iconst 1, 1) := by decide +kernel
theorem dL_law_252 : decode cL_law 252 = .ok (.iadd, 1) := by decide +kernel
theorem dL_law_253 : decode cL_law 253 = .ok (.iaload, 1) := by decide +kernel
theorem dL_law_254 : decode cL_law 254 = .ok (.aload_n 0, 1) := by decide +kernel
theorem dL_law_255 : decode cL_law 255 = .ok (.iload_n 3, 1) := by decide +kernel
theorem dL_law_256 : decode cL_law 256 = .ok (.iconst 2, 1) := by decide +kernel
theorem dL_law_257 : decode cL_law 257 = .ok (.iadd, 1) := by decide +kernel
theorem dL_law_258 : decode cL_law 258 = .ok (.iaload, 1) := by decide +kernel
theorem dL_law_259 : decode cL_law 259 = .ok (.invokevirtual 31, 3) := by decide +kernel
theorem dL_law_262 : decode cL_law 262 = .ok (.aload_n 2, 1) := by decide +kernel
theorem dL_law_263 : decode cL_law 263 = .ok (.aload_n 0, 1) := by decide +kernel
theorem dL_law_264 : decode cL_law 264 = .ok (.iload_n 3, 1) := by decide +kernel
theorem dL_law_265 : decode cL_law 265 = .ok (.iconst 1, 1) := by decide +kernel
theorem dL_law_266 : decode cL_law 266 = .ok (.iadd, 1) := by decide +kernel
theorem dL_law_267 : decode cL_law 267 = .ok (.iaload, 1) := by decide +kernel
theorem dL_law_268 : decode cL_law 268 = .ok (.aload_n 0, 1) := by decide +kernel
theorem dL_law_269 : decode cL_law 269 = .ok (.iload_n 3, 1) := by decide +kernel
theorem dL_law_270 : decode cL_law 270 = .ok (.iconst 2, 1) := by decide +kernel
theorem dL_law_271 : decode cL_law 271 = .ok (.iadd, 1) := by decide +kernel
theorem dL_law_272 : decode cL_law 272 = .ok (.iaload, 1) := by decide +kernel
theorem dL_law_273 : decode cL_law 273 = .ok (.invokevirtual 35, 3) := by decide +kernel
theorem dL_law_276 : decode cL_law 276 = .ok (.if_icmp .eq 805, 3) := by decide +kernel
theorem dL_law_279 : decode cL_law 279 = .ok (.iconst 0, 1) := by decide +kernel
theorem dL_law_280 : decode cL_law 280 = .ok (.ireturn, 1) := by decide +kernel
theorem dL_law_281 : decode cL_law 281 = .ok (.aload_n 1, 1) := by decide +kernel
theorem dL_law_282 : decode cL_law 282 = .ok (.aload_n 0, 1) := by decide +kernel
theorem dL_law_283 : decode cL_law 283 = .ok (.iload_n 3, 1) := by decide +kernel
theorem dL_law_284 : decode cL_law 284 = .ok (.iconst 1, 1) := by decide +kernel
theorem dL_law_285 : decode cL_law 285 = .ok (.iadd, 1) := by decide +kernel
theorem dL_law_286 : decode cL_law 286 = .ok (.iaload, 1) := by decide +kernel
theorem dL_law_287 : decode cL_law 287 = .ok (.aload_n 0, 1) := by decide +kernel
theorem dL_law_288 : decode cL_law 288 = .ok (.iload_n 3, 1) := by decide +kernel
theorem dL_law_289 : decode cL_law 289 = .ok (.iconst 2, 1) := by decide +kernel
theorem dL_law_290 : decode cL_law 290 = .ok (.iadd, 1) := by decide +kernel
theorem dL_law_291 : decode cL_law 291 = .ok (.iaload, 1) := by decide +kernel
theorem dL_law_292 : decode cL_law 292 = .ok (.invokevirtual 36, 3) := by decide +kernel
theorem dL_law_295 : decode cL_law 295 = .ok (.aload_n 2, 1) := by decide +kernel
theorem dL_law_296 : decode cL_law 296 = .ok (.aload_n 0, 1) := by decide +kernel
theorem dL_law_297 : decode cL_law 297 = .ok (.iload_n 3, 1) := by decide +kernel
theorem dL_law_298 : decode cL_law 298 = .ok (.iconst 1, 1) := by decide +kernel
theorem dL_law_299 : decode cL_law 299 = .ok (.iadd, 1) := by decide +kernel
theorem dL_law_300 : decode cL_law 300 = .ok (.iaload, 1) := by decide +kernel
theorem dL_law_301 : decode cL_law 301 = .ok (.aload_n 0, 1) := by decide +kernel
theorem dL_law_302 : decode cL_law 302 = .ok (.iload_n 3, 1) := by decide +kernel
theorem dL_law_303 : decode cL_law 303 = .ok (.iconst 2, 1) := by decide +kernel
theorem dL_law_304 : decode cL_law 304 = .ok (.iadd, 1) := by decide +kernel
theorem dL_law_305 : decode cL_law 305 = .ok (.iaload, 1) := by decide +kernel
theorem dL_law_306 : decode cL_law 306 = .ok (.invokevirtual 39, 3) := by decide +kernel
theorem dL_law_309 : decode cL_law 309 = .ok (.if_icmp .eq 772, 3) := by decide +kernel
theorem dL_law_312 : decode cL_law 312 = .ok (.iconst 0, 1) := by decide +kernel
theorem dL_law_313 : decode cL_law 313 = .ok (.ireturn, 1) := by decide +kernel
theorem dL_law_314 : decode cL_law 314 = .ok (.aload_n 1, 1) := by decide +kernel
theorem dL_law_315 : decode cL_law 315 = .ok (.aload_n 0, 1) := by decide +kernel
theorem dL_law_316 : decode cL_law 316 = .ok (.iload_n 3, 1) := by decide +kernel
theorem dL_law_317 : decode cL_law 317 = .ok (.iconst 1, 1) := by decide +kernel
theorem dL_law_318 : decode cL_law 318 = .ok (.iadd, 1) := by decide +kernel
theorem dL_law_319 : decode cL_law 319 = .ok (.iaload, 1) := by decide +kernel
theorem dL_law_320 : decode cL_law 320 = .ok (.aload_n 0, 1) := by decide +kernel
theorem dL_law_321 : decode cL_law 321 = .ok (.iload_n 3, 1) := by decide +kernel
theorem dL_law_322 : decode cL_law 322 = .ok (.iconst 2, 1) := by decide +kernel
theorem dL_law_323 : decode cL_law 323 = .ok (.iadd, 1) := by decide +kernel
theorem dL_law_324 : decode cL_law 324 = .ok (.iaload, 1) := by decide +kernel
theorem dL_law_325 : decode cL_law 325 = .ok (.aload_n 0, 1) := by decide +kernel
theorem dL_law_326 : decode cL_law 326 = .ok (.iload_n 3, 1) := by decide +kernel
theorem dL_law_327 : decode cL_law 327 = .ok (.iconst 3, 1) := by decide +kernel
theorem dL_law_328 : decode cL_law 328 = .ok (.iadd, 1) := by decide +kernel
theorem dL_law_329 : decode cL_law 329 = .ok (.iaload, 1) := by decide +kernel
theorem dL_law_330 : decode cL_law 330 = .ok (.invokevirtual 40, 3) := by decide +kernel
theorem dL_law_333 : decode cL_law 333 = .ok (.aload_n 2, 1) := by decide +kernel
theorem dL_law_334 : decode cL_law 334 = .ok (.aload_n 0, 1) := by decide +kernel
theorem dL_law_335 : decode cL_law 335 = .ok (.iload_n 3, 1) := by decide +kernel
theorem dL_law_336 : decode cL_law 336 = .ok (.iconst 1, 1) := by decide +kernel
theorem dL_law_337 : decode cL_law 337 = .ok (.iadd, 1) := by decide +kernel
theorem dL_law_338 : decode cL_law 338 = .ok (.iaload, 1) := by decide +kernel
theorem dL_law_339 : decode cL_law 339 = .ok (.aload_n 0, 1) := by decide +kernel
theorem dL_law_340 : decode cL_law 340 = .ok (.iload_n 3, 1) := by decide +kernel
theorem dL_law_341 : decode cL_law 341 = .ok (.iconst 2, 1) := by decide +kernel
theorem dL_law_342 : decode cL_law 342 = .ok (.iadd, 1) := by decide +kernel
theorem dL_law_343 : decode cL_law 343 = .ok (.iaload, 1) := by decide +kernel
theorem dL_law_344 : decode cL_law 344 = .ok (.aload_n 0, 1) := by decide +kernel
theorem dL_law_345 : decode cL_law 345 = .ok (.iload_n 3, 1) := by decide +kernel
theorem dL_law_346 : decode cL_law 346 = .ok (.iconst 3, 1) := by decide +kernel
theorem dL_law_347 : decode cL_law 347 = .ok (.iadd, 1) := by decide +kernel
theorem dL_law_348 : decode cL_law 348 = .ok (.iaload, 1) := by decide +kernel
theorem dL_law_349 : decode cL_law 349 = .ok (.invokevirtual 44, 3) := by decide +kernel
theorem dL_law_352 : decode cL_law 352 = .ok (.lcmp, 1) := by decide +kernel
theorem dL_law_353 : decode cL_law 353 = .ok (.ifCond .eq 728, 3) := by decide +kernel
theorem dL_law_356 : decode cL_law 356 = .ok (.iconst 0, 1) := by decide +kernel
theorem dL_law_357 : decode cL_law 357 = .ok (.ireturn, 1) := by decide +kernel
theorem dL_law_358 : decode cL_law 358 = .ok (.aload_n 1, 1) := by decide +kernel
theorem dL_law_359 : decode cL_law 359 = .ok (.aload_n 0, 1) := by decide +kernel
theorem dL_law_360 : decode cL_law 360 = .ok (.iload_n 3, 1) := by decide +kernel
theorem dL_law_361 : decode cL_law 361 = .ok (.iconst 1, 1) := by decide +kernel
theorem dL_law_362 : decode cL_law 362 = .ok (.iadd, 1) := by decide +kernel
theorem dL_law_363 : decode cL_law 363 = .ok (.iaload, 1) := by decide +kernel
theorem dL_law_364 : decode cL_law 364 = .ok (.invokevirtual 45, 3) := by decide +kernel
theorem dL_law_367 : decode cL_law 367 = .ok (.aload_n 2, 1) := by decide +kernel
theorem dL_law_368 : decode cL_law 368 = .ok (.aload_n 0, 1) := by decide +kernel
theorem dL_law_369 : decode cL_law 369 = .ok (.iload_n 3, 1) := by decide +kernel
theorem dL_law_370 : decode cL_law 370 = .ok (.iconst 1, 1) := by decide +kernel
theorem dL_law_371 : decode cL_law 371 = .ok (.iadd, 1) := by decide +kernel
theorem dL_law_372 : decode cL_law 372 = .ok (.iaload, 1) := by decide +kernel
theorem dL_law_373 : decode cL_law 373 = .ok (.invokevirtual 48, 3) := by decide +kernel
theorem dL_law_376 : decode cL_law 376 = .ok (.if_icmp .eq 705, 3) := by decide +kernel
theorem dL_law_379 : decode cL_law 379 = .ok (.iconst 0, 1) := by decide +kernel
theorem dL_law_380 : decode cL_law 380 = .ok (.ireturn, 1) := by decide +kernel
theorem dL_law_381 : decode cL_law 381 = .ok (.aload_n 1, 1) := by decide +kernel
theorem dL_law_382 : decode cL_law 382 = .ok (.aload_n 0, 1) := by decide +kernel
theorem dL_law_383 : decode cL_law 383 = .ok (.iload_n 3, 1) := by decide +kernel
theorem dL_law_384 : decode cL_law 384 = .ok (.iconst 1, 1) := by decide +kernel
theorem dL_law_385 : decode cL_law 385 = .ok (.iadd, 1) := by decide +kernel
theorem dL_law_386 : decode cL_law 386 = .ok (.iaload, 1) := by decide +kernel
theorem dL_law_387 : decode cL_law 387 = .ok (.invokevirtual 49, 3) := by decide +kernel
theorem dL_law_390 : decode cL_law 390 = .ok (.aload_n 2, 1) := by decide +kernel
theorem dL_law_391 : decode cL_law 391 = .ok (.aload_n 0, 1) := by decide +kernel
theorem dL_law_392 : decode cL_law 392 = .ok (.iload_n 3, 1) := by decide +kernel
theorem dL_law_393 : decode cL_law 393 = .ok (.iconst 1, 1) := by decide +kernel
theorem dL_law_394 : decode cL_law 394 = .ok (.iadd, 1) := by decide +kernel
theorem dL_law_395 : decode cL_law 395 = .ok (.iaload, 1) := by decide +kernel
theorem dL_law_396 : decode cL_law 396 = .ok (.invokevirtual 53, 3) := by decide +kernel
theorem dL_law_399 : decode cL_law 399 = .ok (.lcmp, 1) := by decide +kernel
theorem dL_law_400 : decode cL_law 400 = .ok (.ifCond .eq 681, 3) := by decide +kernel
theorem dL_law_403 : decode cL_law 403 = .ok (.iconst 0, 1) := by decide +kernel
theorem dL_law_404 : decode cL_law 404 = .ok (.ireturn, 1) := by decide +kernel
theorem dL_law_405 : decode cL_law 405 = .ok (.aload_n 1, 1) := by decide +kernel
theorem dL_law_406 : decode cL_law 406 = .ok (.aload_n 0, 1) := by decide +kernel
theorem dL_law_407 : decode cL_law 407 = .ok (.iload_n 3, 1) := by decide +kernel
theorem dL_law_408 : decode cL_law 408 = .ok (.iconst 1, 1) := by decide +kernel
theorem dL_law_409 : decode cL_law 409 = .ok (.iadd, 1) := by decide +kernel
theorem dL_law_410 : decode cL_law 410 = .ok (.iaload, 1) := by decide +kernel
theorem dL_law_411 : decode cL_law 411 = .ok (.aload_n 0, 1) := by decide +kernel
theorem dL_law_412 : decode cL_law 412 = .ok (.iload_n 3, 1) := by decide +kernel
theorem dL_law_413 : decode cL_law 413 = .ok (.iconst 2, 1) := by decide +kernel
theorem dL_law_414 : decode cL_law 414 = .ok (.iadd, 1) := by decide +kernel
theorem dL_law_415 : decode cL_law 415 = .ok (.iaload, 1) := by decide +kernel
theorem dL_law_416 : decode cL_law 416 = .ok (.aload_n 0, 1) := by decide +kernel
theorem dL_law_417 : decode cL_law 417 = .ok (.iload_n 3, 1) := by decide +kernel
theorem dL_law_418 : decode cL_law 418 = .ok (.iconst 3, 1) := by decide +kernel
theorem dL_law_419 : decode cL_law 419 = .ok (.iadd, 1) := by decide +kernel
theorem dL_law_420 : decode cL_law 420 = .ok (.iaload, 1) := by decide +kernel
theorem dL_law_421 : decode cL_law 421 = .ok (.invokevirtual 54, 3) := by decide +kernel
theorem dL_law_424 : decode cL_law 424 = .ok (.aload_n 2, 1) := by decide +kernel
theorem dL_law_425 : decode cL_law 425 = .ok (.aload_n 0, 1) := by decide +kernel
theorem dL_law_426 : decode cL_law 426 = .ok (.iload_n 3, 1) := by decide +kernel
theorem dL_law_427 : decode cL_law 427 = .ok (.iconst 1, 1) := by decide +kernel
theorem dL_law_428 : decode cL_law 428 = .ok (.iadd, 1) := by decide +kernel
theorem dL_law_429 : decode cL_law 429 = .ok (.iaload, 1) := by decide +kernel
theorem dL_law_430 : decode cL_law 430 = .ok (.aload_n 0, 1) := by decide +kernel
theorem dL_law_431 : decode cL_law 431 = .ok (.iload_n 3, 1) := by decide +kernel
theorem dL_law_432 : decode cL_law 432 = .ok (.iconst 2, 1) := by decide +kernel
theorem dL_law_433 : decode cL_law 433 = .ok (.iadd, 1) := by decide +kernel
theorem dL_law_434 : decode cL_law 434 = .ok (.iaload, 1) := by decide +kernel
theorem dL_law_435 : decode cL_law 435 = .ok (.aload_n 0, 1) := by decide +kernel
theorem dL_law_436 : decode cL_law 436 = .ok (.iload_n 3, 1) := by decide +kernel
theorem dL_law_437 : decode cL_law 437 = .ok (.iconst 3, 1) := by decide +kernel
theorem dL_law_438 : decode cL_law 438 = .ok (.iadd, 1) := by decide +kernel
theorem dL_law_439 : decode cL_law 439 = .ok (.iaload, 1) := by decide +kernel
theorem dL_law_440 : decode cL_law 440 = .ok (.invokevirtual 58, 3) := by decide +kernel
theorem dL_law_443 : decode cL_law 443 = .ok (.if_icmp .eq 638, 3) := by decide +kernel
theorem dL_law_446 : decode cL_law 446 = .ok (.iconst 0, 1) := by decide +kernel
theorem dL_law_447 : decode cL_law 447 = .ok (.ireturn, 1) := by decide +kernel
theorem dL_law_448 : decode cL_law 448 = .ok (.aload_n 1, 1) := by decide +kernel
theorem dL_law_449 : decode cL_law 449 = .ok (.aload_n 0, 1) := by decide +kernel
theorem dL_law_450 : decode cL_law 450 = .ok (.iload_n 3, 1) := by decide +kernel
theorem dL_law_451 : decode cL_law 451 = .ok (.iconst 1, 1) := by decide +kernel
theorem dL_law_452 : decode cL_law 452 = .ok (.iadd, 1) := by decide +kernel
theorem dL_law_453 : decode cL_law 453 = .ok (.iaload, 1) := by decide +kernel
theorem dL_law_454 : decode cL_law 454 = .ok (.aload_n 0, 1) := by decide +kernel
theorem dL_law_455 : decode cL_law 455 = .ok (.iload_n 3, 1) := by decide +kernel
theorem dL_law_456 : decode cL_law 456 = .ok (.iconst 2, 1) := by decide +kernel
theorem dL_law_457 : decode cL_law 457 = .ok (.iadd, 1) := by decide +kernel
theorem dL_law_458 : decode cL_law 458 = .ok (.iaload, 1) := by decide +kernel
theorem dL_law_459 : decode cL_law 459 = .ok (.aload_n 0, 1) := by decide +kernel
theorem dL_law_460 : decode cL_law 460 = .ok (.iload_n 3, 1) := by decide +kernel
theorem dL_law_461 : decode cL_law 461 = .ok (.iconst 3, 1) := by decide +kernel
theorem dL_law_462 : decode cL_law 462 = .ok (.iadd, 1) := by decide +kernel
theorem dL_law_463 : decode cL_law 463 = .ok (.iaload, 1) := by decide +kernel
theorem dL_law_464 : decode cL_law 464 = .ok (.invokevirtual 59, 3) := by decide +kernel
theorem dL_law_467 : decode cL_law 467 = .ok (.aload_n 2, 1) := by decide +kernel
theorem dL_law_468 : decode cL_law 468 = .ok (.aload_n 0, 1) := by decide +kernel
theorem dL_law_469 : decode cL_law 469 = .ok (.iload_n 3, 1) := by decide +kernel
theorem dL_law_470 : decode cL_law 470 = .ok (.iconst 1, 1) := by decide +kernel
theorem dL_law_471 : decode cL_law 471 = .ok (.iadd, 1) := by decide +kernel
theorem dL_law_472 : decode cL_law 472 = .ok (.iaload, 1) := by decide +kernel
theorem dL_law_473 : decode cL_law 473 = .ok (.aload_n 0, 1) := by decide +kernel
theorem dL_law_474 : decode cL_law 474 = .ok (.iload_n 3, 1) := by decide +kernel
theorem dL_law_475 : decode cL_law 475 = .ok (.iconst 2, 1) := by decide +kernel
theorem dL_law_476 : decode cL_law 476 = .ok (.iadd, 1) := by decide +kernel
theorem dL_law_477 : decode cL_law 477 = .ok (.iaload, 1) := by decide +kernel
theorem dL_law_478 : decode cL_law 478 = .ok (.aload_n 0, 1) := by decide +kernel
theorem dL_law_479 : decode cL_law 479 = .ok (.iload_n 3, 1) := by decide +kernel
theorem dL_law_480 : decode cL_law 480 = .ok (.iconst 3, 1) := by decide +kernel
theorem dL_law_481 : decode cL_law 481 = .ok (.iadd, 1) := by decide +kernel
theorem dL_law_482 : decode cL_law 482 = .ok (.iaload, 1) := by decide +kernel
theorem dL_law_483 : decode cL_law 483 = .ok (.invokevirtual 62, 3) := by decide +kernel
theorem dL_law_486 : decode cL_law 486 = .ok (.if_icmp .eq 595, 3) := by decide +kernel
theorem dL_law_489 : decode cL_law 489 = .ok (.iconst 0, 1) := by decide +kernel
theorem dL_law_490 : decode cL_law 490 = .ok (.ireturn, 1) := by decide +kernel
theorem dL_law_491 : decode cL_law 491 = .ok (.aload_n 1, 1) := by decide +kernel
theorem dL_law_492 : decode cL_law 492 = .ok (.aload_n 0, 1) := by decide +kernel
theorem dL_law_493 : decode cL_law 493 = .ok (.iload_n 3, 1) := by decide +kernel
theorem dL_law_494 : decode cL_law 494 = .ok (.iconst 1, 1) := by decide +kernel
theorem dL_law_495 : decode cL_law 495 = .ok (.iadd, 1) := by decide +kernel
theorem dL_law_496 : decode cL_law 496 = .ok (.iaload, 1) := by decide +kernel
theorem dL_law_497 : decode cL_law 497 = .ok (.aload_n 0, 1) := by decide +kernel
theorem dL_law_498 : decode cL_law 498 = .ok (.iload_n 3, 1) := by decide +kernel
theorem dL_law_499 : decode cL_law 499 = .ok (.iconst 2, 1) := by decide +kernel
theorem dL_law_500 : decode cL_law 500 = .ok (.iadd, 1) := by decide +kernel
theorem dL_law_501 : decode cL_law 501 = .ok (.iaload, 1) := by decide +kernel
theorem dL_law_502 : decode cL_law 502 = .ok (.aload_n 0, 1) := by decide +kernel
theorem dL_law_503 : decode cL_law 503 = .ok (.iload_n 3, 1) := by decide +kernel
theorem dL_law_504 : decode cL_law 504 = .ok (.iconst 3, 1) := by decide +kernel
theorem dL_law_505 : decode cL_law 505 = .ok (.iadd, 1) := by decide +kernel
theorem dL_law_506 : decode cL_law 506 = .ok (.iaload, 1) := by decide +kernel
theorem dL_law_507 : decode cL_law 507 = .ok (.invokevirtual 63, 3) := by decide +kernel
theorem dL_law_510 : decode cL_law 510 = .ok (.aload_n 2, 1) := by decide +kernel
theorem dL_law_511 : decode cL_law 511 = .ok (.aload_n 0, 1) := by decide +kernel
theorem dL_law_512 : decode cL_law 512 = .ok (.iload_n 3, 1) := by decide +kernel
theorem dL_law_513 : decode cL_law 513 = .ok (.iconst 1, 1) := by decide +kernel
theorem dL_law_514 : decode cL_law 514 = .ok (.iadd, 1) := by decide +kernel
theorem dL_law_515 : decode cL_law 515 = .ok (.iaload, 1) := by decide +kernel
theorem dL_law_516 : decode cL_law 516 = .ok (.aload_n 0, 1) := by decide +kernel
theorem dL_law_517 : decode cL_law 517 = .ok (.iload_n 3, 1) := by decide +kernel
theorem dL_law_518 : decode cL_law 518 = .ok (.iconst 2, 1) := by decide +kernel
theorem dL_law_519 : decode cL_law 519 = .ok (.iadd, 1) := by decide +kernel
theorem dL_law_520 : decode cL_law 520 = .ok (.iaload, 1) := by decide +kernel
theorem dL_law_521 : decode cL_law 521 = .ok (.aload_n 0, 1) := by decide +kernel
theorem dL_law_522 : decode cL_law 522 = .ok (.iload_n 3, 1) := by decide +kernel
theorem dL_law_523 : decode cL_law 523 = .ok (.iconst 3, 1) := by decide +kernel
theorem dL_law_524 : decode cL_law 524 = .ok (.iadd, 1) := by decide +kernel
theorem dL_law_525 : decode cL_law 525 = .ok (.iaload, 1) := by decide +kernel
theorem dL_law_526 : decode cL_law 526 = .ok (.invokevirtual 66, 3) := by decide +kernel
theorem dL_law_529 : decode cL_law 529 = .ok (.if_icmp .eq 552, 3) := by decide +kernel
theorem dL_law_532 : decode cL_law 532 = .ok (.iconst 0, 1) := by decide +kernel
theorem dL_law_533 : decode cL_law 533 = .ok (.ireturn, 1) := by decide +kernel
theorem dL_law_534 : decode cL_law 534 = .ok (.aload_n 1, 1) := by decide +kernel
theorem dL_law_535 : decode cL_law 535 = .ok (.aload_n 0, 1) := by decide +kernel
theorem dL_law_536 : decode cL_law 536 = .ok (.iload_n 3, 1) := by decide +kernel
theorem dL_law_537 : decode cL_law 537 = .ok (.iconst 1, 1) := by decide +kernel
theorem dL_law_538 : decode cL_law 538 = .ok (.iadd, 1) := by decide +kernel
theorem dL_law_539 : decode cL_law 539 = .ok (.iaload, 1) := by decide +kernel
theorem dL_law_540 : decode cL_law 540 = .ok (.invokevirtual 67, 3) := by decide +kernel
theorem dL_law_543 : decode cL_law 543 = .ok (.aload_n 2, 1) := by decide +kernel
theorem dL_law_544 : decode cL_law 544 = .ok (.aload_n 0, 1) := by decide +kernel
theorem dL_law_545 : decode cL_law 545 = .ok (.iload_n 3, 1) := by decide +kernel
theorem dL_law_546 : decode cL_law 546 = .ok (.iconst 1, 1) := by decide +kernel
theorem dL_law_547 : decode cL_law 547 = .ok (.iadd, 1) := by decide +kernel
theorem dL_law_548 : decode cL_law 548 = .ok (.iaload, 1) := by decide +kernel
theorem dL_law_549 : decode cL_law 549 = .ok (.invokevirtual 70, 3) := by decide +kernel
theorem dL_law_552 : decode cL_law 552 = .ok (.if_icmp .eq 529, 3) := by decide +kernel
theorem dL_law_555 : decode cL_law 555 = .ok (.iconst 0, 1) := by decide +kernel
theorem dL_law_556 : decode cL_law 556 = .ok (.ireturn, 1) := by decide +kernel
theorem dL_law_557 : decode cL_law 557 = .ok (.aload_n 1, 1) := by decide +kernel
theorem dL_law_558 : decode cL_law 558 = .ok (.aload_n 0, 1) := by decide +kernel
theorem dL_law_559 : decode cL_law 559 = .ok (.iload_n 3, 1) := by decide +kernel
theorem dL_law_560 : decode cL_law 560 = .ok (.iconst 1, 1) := by decide +kernel
theorem dL_law_561 : decode cL_law 561 = .ok (.iadd, 1) := by decide +kernel
theorem dL_law_562 : decode cL_law 562 = .ok (.iaload, 1) := by decide +kernel
theorem dL_law_563 : decode cL_law 563 = .ok (.aload_n 0, 1) := by decide +kernel
theorem dL_law_564 : decode cL_law 564 = .ok (.iload_n 3, 1) := by decide +kernel
theorem dL_law_565 : decode cL_law 565 = .ok (.iconst 2, 1) := by decide +kernel
theorem dL_law_566 : decode cL_law 566 = .ok (.iadd, 1) := by decide +kernel
theorem dL_law_567 : decode cL_law 567 = .ok (.iaload, 1) := by decide +kernel
theorem dL_law_568 : decode cL_law 568 = .ok (.invokevirtual 71, 3) := by decide +kernel
theorem dL_law_571 : decode cL_law 571 = .ok (.aload_n 2, 1) := by decide +kernel
theorem dL_law_572 : decode cL_law 572 = .ok (.aload_n 0, 1) := by decide +kernel
theorem dL_law_573 : decode cL_law 573 = .ok (.iload_n 3, 1) := by decide +kernel
theorem dL_law_574 : decode cL_law 574 = .ok (.iconst 1, 1) := by decide +kernel
theorem dL_law_575 : decode cL_law 575 = .ok (.iadd, 1) := by decide +kernel
theorem dL_law_576 : decode cL_law 576 = .ok (.iaload, 1) := by decide +kernel
theorem dL_law_577 : decode cL_law 577 = .ok (.aload_n 0, 1) := by decide +kernel
theorem dL_law_578 : decode cL_law 578 = .ok (.iload_n 3, 1) := by decide +kernel
theorem dL_law_579 : decode cL_law 579 = .ok (.iconst 2, 1) := by decide +kernel
theorem dL_law_580 : decode cL_law 580 = .ok (.iadd, 1) := by decide +kernel
theorem dL_law_581 : decode cL_law 581 = .ok (.iaload, 1) := by decide +kernel
theorem dL_law_582 : decode cL_law 582 = .ok (.invokevirtual 74, 3) := by decide +kernel
theorem dL_law_585 : decode cL_law 585 = .ok (.if_icmp .eq 496, 3) := by decide +kernel
theorem dL_law_588 : decode cL_law 588 = .ok (.iconst 0, 1) := by decide +kernel
theorem dL_law_589 : decode cL_law 589 = .ok (.ireturn, 1) := by decide +kernel
theorem dL_law_590 : decode cL_law 590 = .ok (.aload_n 1, 1) := by decide +kernel
theorem dL_law_591 : decode cL_law 591 = .ok (.aload_n 0, 1) := by decide +kernel
theorem dL_law_592 : decode cL_law 592 = .ok (.iload_n 3, 1) := by decide +kernel
theorem dL_law_593 : decode cL_law 593 = .ok (.iconst 1, 1) := by decide +kernel
theorem dL_law_594 : decode cL_law 594 = .ok (.iadd, 1) := by decide +kernel
theorem dL_law_595 : decode cL_law 595 = .ok (.iaload, 1) := by decide +kernel
theorem dL_law_596 : decode cL_law 596 = .ok (.invokevirtual 75, 3) := by decide +kernel
theorem dL_law_599 : decode cL_law 599 = .ok (.aload_n 2, 1) := by decide +kernel
theorem dL_law_600 : decode cL_law 600 = .ok (.aload_n 0, 1) := by decide +kernel
theorem dL_law_601 : decode cL_law 601 = .ok (.iload_n 3, 1) := by decide +kernel
theorem dL_law_602 : decode cL_law 602 = .ok (.iconst 1, 1) := by decide +kernel
theorem dL_law_603 : decode cL_law 603 = .ok (.iadd, 1) := by decide +kernel
theorem dL_law_604 : decode cL_law 604 = .ok (.iaload, 1) := by decide +kernel
theorem dL_law_605 : decode cL_law 605 = .ok (.invokevirtual 78, 3) := by decide +kernel
theorem dL_law_608 : decode cL_law 608 = .ok (.if_icmp .eq 473, 3) := by decide +kernel
theorem dL_law_611 : decode cL_law 611 = .ok (.iconst 0, 1) := by decide +kernel
theorem dL_law_612 : decode cL_law 612 = .ok (.ireturn, 1) := by decide +kernel
theorem dL_law_613 : decode cL_law 613 = .ok (.aload_n 1, 1) := by decide +kernel
theorem dL_law_614 : decode cL_law 614 = .ok (.aload_n 0, 1) := by decide +kernel
theorem dL_law_615 : decode cL_law 615 = .ok (.iload_n 3, 1) := by decide +kernel
theorem dL_law_616 : decode cL_law 616 = .ok (.iconst 1, 1) := by decide +kernel
theorem dL_law_617 : decode cL_law 617 = .ok (.iadd, 1) := by decide +kernel
theorem dL_law_618 : decode cL_law 618 = .ok (.iaload, 1) := by decide +kernel
theorem dL_law_619 : decode cL_law 619 = .ok (.aload_n 0, 1) := by decide +kernel
theorem dL_law_620 : decode cL_law 620 = .ok (.iload_n 3, 1) := by decide +kernel
theorem dL_law_621 : decode cL_law 621 = .ok (.iconst 2, 1) := by decide +kernel
theorem dL_law_622 : decode cL_law 622 = .ok (.iadd, 1) := by decide +kernel
theorem dL_law_623 : decode cL_law 623 = .ok (.iaload, 1) := by decide +kernel
theorem dL_law_624 : decode cL_law 624 = .ok (.aload_n 0, 1) := by decide +kernel
theorem dL_law_625 : decode cL_law 625 = .ok (.iload_n 3, 1) := by decide +kernel
theorem dL_law_626 : decode cL_law 626 = .ok (.iconst 3, 1) := by decide +kernel
theorem dL_law_627 : decode cL_law 627 = .ok (.iadd, 1) := by decide +kernel
theorem dL_law_628 : decode cL_law 628 = .ok (.iaload, 1) := by decide +kernel
theorem dL_law_629 : decode cL_law 629 = .ok (.invokevirtual 79, 3) := by decide +kernel
theorem dL_law_632 : decode cL_law 632 = .ok (.aload_n 2, 1) := by decide +kernel
theorem dL_law_633 : decode cL_law 633 = .ok (.aload_n 0, 1) := by decide +kernel
theorem dL_law_634 : decode cL_law 634 = .ok (.iload_n 3, 1) := by decide +kernel
theorem dL_law_635 : decode cL_law 635 = .ok (.iconst 1, 1) := by decide +kernel
theorem dL_law_636 : decode cL_law 636 = .ok (.iadd, 1) := by decide +kernel
theorem dL_law_637 : decode cL_law 637 = .ok (.iaload, 1) := by decide +kernel
theorem dL_law_638 : decode cL_law 638 = .ok (.aload_n 0, 1) := by decide +kernel
theorem dL_law_639 : decode cL_law 639 = .ok (.iload_n 3, 1) := by decide +kernel
theorem dL_law_640 : decode cL_law 640 = .ok (.iconst 2, 1) := by decide +kernel
theorem dL_law_641 : decode cL_law 641 = .ok (.iadd, 1) := by decide +kernel
theorem dL_law_642 : decode cL_law 642 = .ok (.iaload, 1) := by decide +kernel
theorem dL_law_643 : decode cL_law 643 = .ok (.aload_n 0, 1) := by decide +kernel
theorem dL_law_644 : decode cL_law 644 = .ok (.iload_n 3, 1) := by decide +kernel
theorem dL_law_645 : decode cL_law 645 = .ok (.iconst 3, 1) := by decide +kernel
theorem dL_law_646 : decode cL_law 646 = .ok (.iadd, 1) := by decide +kernel
theorem dL_law_647 : decode cL_law 647 = .ok (.iaload, 1) := by decide +kernel
theorem dL_law_648 : decode cL_law 648 = .ok (.invokevirtual 82, 3) := by decide +kernel
theorem dL_law_651 : decode cL_law 651 = .ok (.if_icmp .eq 430, 3) := by decide +kernel
theorem dL_law_654 : decode cL_law 654 = .ok (.iconst 0, 1) := by decide +kernel
theorem dL_law_655 : decode cL_law 655 = .ok (.ireturn, 1) := by decide +kernel
theorem dL_law_656 : decode cL_law 656 = .ok (.aload_n 1, 1) := by decide +kernel
theorem dL_law_657 : decode cL_law 657 = .ok (.aload_n 0, 1) := by decide +kernel
theorem dL_law_658 : decode cL_law 658 = .ok (.iload_n 3, 1) := by decide +kernel
theorem dL_law_659 : decode cL_law 659 = .ok (.iconst 1, 1) := by decide +kernel
theorem dL_law_660 : decode cL_law 660 = .ok (.iadd, 1) := by decide +kernel
theorem dL_law_661 : decode cL_law 661 = .ok (.iaload, 1) := by decide +kernel
theorem dL_law_662 : decode cL_law 662 = .ok (.aload_n 0, 1) := by decide +kernel
theorem dL_law_663 : decode cL_law 663 = .ok (.iload_n 3, 1) := by decide +kernel
theorem dL_law_664 : decode cL_law 664 = .ok (.iconst 2, 1) := by decide +kernel
theorem dL_law_665 : decode cL_law 665 = .ok (.iadd, 1) := by decide +kernel
theorem dL_law_666 : decode cL_law 666 = .ok (.iaload, 1) := by decide +kernel
theorem dL_law_667 : decode cL_law 667 = .ok (.invokevirtual 83, 3) := by decide +kernel
theorem dL_law_670 : decode cL_law 670 = .ok (.aload_n 2, 1) := by decide +kernel
theorem dL_law_671 : decode cL_law 671 = .ok (.aload_n 0, 1) := by decide +kernel
theorem dL_law_672 : decode cL_law 672 = .ok (.iload_n 3, 1) := by decide +kernel
theorem dL_law_673 : decode cL_law 673 = .ok (.iconst 1, 1) := by decide +kernel
theorem dL_law_674 : decode cL_law 674 = .ok (.iadd, 1) := by decide +kernel
theorem dL_law_675 : decode cL_law 675 = .ok (.iaload, 1) := by decide +kernel
theorem dL_law_676 : decode cL_law 676 = .ok (.aload_n 0, 1) := by decide +kernel
theorem dL_law_677 : decode cL_law 677 = .ok (.iload_n 3, 1) := by decide +kernel
theorem dL_law_678 : decode cL_law 678 = .ok (.iconst 2, 1) := by decide +kernel
theorem dL_law_679 : decode cL_law 679 = .ok (.iadd, 1) := by decide +kernel
theorem dL_law_680 : decode cL_law 680 = .ok (.iaload, 1) := by decide +kernel
theorem dL_law_681 : decode cL_law 681 = .ok (.invokevirtual 86, 3) := by decide +kernel
theorem dL_law_684 : decode cL_law 684 = .ok (.if_icmp .eq 397, 3) := by decide +kernel
theorem dL_law_687 : decode cL_law 687 = .ok (.iconst 0, 1) := by decide +kernel
theorem dL_law_688 : decode cL_law 688 = .ok (.ireturn, 1) := by decide +kernel
theorem dL_law_689 : decode cL_law 689 = .ok (.aload_n 1, 1) := by decide +kernel
theorem dL_law_690 : decode cL_law 690 = .ok (.aload_n 0, 1) := by decide +kernel
theorem dL_law_691 : decode cL_law 691 = .ok (.iload_n 3, 1) := by decide +kernel
theorem dL_law_692 : decode cL_law 692 = .ok (.iconst 1, 1) := by decide +kernel
theorem dL_law_693 : decode cL_law 693 = .ok (.iadd, 1) := by decide +kernel
theorem dL_law_694 : decode cL_law 694 = .ok (.iaload, 1) := by decide +kernel
theorem dL_law_695 : decode cL_law 695 = .ok (.aload_n 0, 1) := by decide +kernel
theorem dL_law_696 : decode cL_law 696 = .ok (.iload_n 3, 1) := by decide +kernel
theorem dL_law_697 : decode cL_law 697 = .ok (.iconst 2, 1) := by decide +kernel
theorem dL_law_698 : decode cL_law 698 = .ok (.iadd, 1) := by decide +kernel
theorem dL_law_699 : decode cL_law 699 = .ok (.iaload, 1) := by decide +kernel
theorem dL_law_700 : decode cL_law 700 = .ok (.ifCond .eq 7, 3) := by decide +kernel
theorem dL_law_703 : decode cL_law 703 = .ok (.iconst 1, 1) := by decide +kernel
theorem dL_law_704 : decode cL_law 704 = .ok (.goto 4, 3) := by decide +kernel
theorem dL_law_707 : decode cL_law 707 = .ok (.iconst 0, 1) := by decide +kernel
theorem dL_law_708 : decode cL_law 708 = .ok (.invokevirtual 87, 3) := by decide +kernel
theorem dL_law_711 : decode cL_law 711 = .ok (.aload_n 2, 1) := by decide +kernel
theorem dL_law_712 : decode cL_law 712 = .ok (.aload_n 0, 1) := by decide +kernel
theorem dL_law_713 : decode cL_law 713 = .ok (.iload_n 3, 1) := by decide +kernel
theorem dL_law_714 : decode cL_law 714 = .ok (.iconst 1, 1) := by decide +kernel
theorem dL_law_715 : decode cL_law 715 = .ok (.iadd, 1) := by decide +kernel
theorem dL_law_716 : decode cL_law 716 = .ok (.iaload, 1) := by decide +kernel
theorem dL_law_717 : decode cL_law 717 = .ok (.aload_n 0, 1) := by decide +kernel
theorem dL_law_718 : decode cL_law 718 = .ok (.iload_n 3, 1) := by decide +kernel
theorem dL_law_719 : decode cL_law 719 = .ok (.iconst 2, 1) := by decide +kernel
theorem dL_law_720 : decode cL_law 720 = .ok (.iadd, 1) := by decide +kernel
theorem dL_law_721 : decode cL_law 721 = .ok (.iaload, 1) := by decide +kernel
theorem dL_law_722 : decode cL_law 722 = .ok (.ifCond .eq 7, 3) := by decide +kernel
theorem dL_law_725 : decode cL_law 725 = .ok (.iconst 1, 1) := by decide +kernel
theorem dL_law_726 : decode cL_law 726 = .ok (.goto 4, 3) := by decide +kernel
theorem dL_law_729 : decode cL_law 729 = .ok (.iconst 0, 1) := by decide +kernel
theorem dL_law_730 : decode cL_law 730 = .ok (.invokevirtual 91, 3) := by decide +kernel
theorem dL_law_733 : decode cL_law 733 = .ok (.if_icmp .eq 348, 3) := by decide +kernel
theorem dL_law_736 : decode cL_law 736 = .ok (.iconst 0, 1) := by decide +kernel
theorem dL_law_737 : decode cL_law 737 = .ok (.ireturn, 1) := by decide +kernel
theorem dL_law_738 : decode cL_law 738 = .ok (.aload_n 1, 1) := by decide +kernel
theorem dL_law_739 : decode cL_law 739 = .ok (.invokevirtual 92, 3) := by decide +kernel
theorem dL_law_742 : decode cL_law 742 = .ok (.aload_n 2, 1) := by decide +kernel
theorem dL_law_743 : decode cL_law 743 = .ok (.invokevirtual 95, 3) := by decide +kernel
theorem dL_law_746 : decode cL_law 746 = .ok (.if_icmp .eq 335, 3) := by decide +kernel
theorem dL_law_749 : decode cL_law 749 = .ok (.iconst 0, 1) := by decide +kernel
theorem dL_law_750 : decode cL_law 750 = .ok (.ireturn, 1) := by decide +kernel
theorem dL_law_751 : decode cL_law 751 = .ok (.aload_n 1, 1) := by decide +kernel
theorem dL_law_752 : decode cL_law 752 = .ok (.invokevirtual 96, 3) := by decide +kernel
theorem dL_law_755 : decode cL_law 755 = .ok (.aload_n 2, 1) := by decide +kernel
theorem dL_law_756 : decode cL_law 756 = .ok (.invokevirtual 99, 3) := by decide +kernel
theorem dL_law_759 : decode cL_law 759 = .ok (.if_icmp .eq 322, 3) := by decide +kernel
theorem dL_law_762 : decode cL_law 762 = .ok (.iconst 0, 1) := by decide +kernel
theorem dL_law_763 : decode cL_law 763 = .ok (.ireturn, 1) := by decide +kernel
theorem dL_law_764 : decode cL_law 764 = .ok (.aload_n 1, 1) := by decide +kernel
theorem dL_law_765 : decode cL_law 765 = .ok (.aload_n 0, 1) := by decide +kernel
theorem dL_law_766 : decode cL_law 766 = .ok (.iload_n 3, 1) := by decide +kernel
theorem dL_law_767 : decode cL_law 767 = .ok (.iconst 1, 1) := by decide +kernel
theorem dL_law_768 : decode cL_law 768 = .ok (.iadd, 1) := by decide +kernel
theorem dL_law_769 : decode cL_law 769 = .ok (.iaload, 1) := by decide +kernel
theorem dL_law_770 : decode cL_law 770 = .ok (.aload_n 0, 1) := by decide +kernel
theorem dL_law_771 : decode cL_law 771 = .ok (.iload_n 3, 1) := by decide +kernel
theorem dL_law_772 : decode cL_law 772 = .ok (.iconst 2, 1) := by decide +kernel
theorem dL_law_773 : decode cL_law 773 = .ok (.iadd, 1) := by decide +kernel
theorem dL_law_774 : decode cL_law 774 = .ok (.iaload, 1) := by decide +kernel
theorem dL_law_775 : decode cL_law 775 = .ok (.invokevirtual 100, 3) := by decide +kernel
theorem dL_law_778 : decode cL_law 778 = .ok (.aload_n 2, 1) := by decide +kernel
theorem dL_law_779 : decode cL_law 779 = .ok (.aload_n 0, 1) := by decide +kernel
theorem dL_law_780 : decode cL_law 780 = .ok (.iload_n 3, 1) := by decide +kernel
theorem dL_law_781 : decode cL_law 781 = .ok (.iconst 1, 1) := by decide +kernel
theorem dL_law_782 : decode cL_law 782 = .ok (.iadd, 1) := by decide +kernel
theorem dL_law_783 : decode cL_law 783 = .ok (.iaload, 1) := by decide +kernel
theorem dL_law_784 : decode cL_law 784 = .ok (.aload_n 0, 1) := by decide +kernel
theorem dL_law_785 : decode cL_law 785 = .ok (.iload_n 3, 1) := by decide +kernel
theorem dL_law_786 : decode cL_law 786 = .ok (.iconst 2, 1) := by decide +kernel
theorem dL_law_787 : decode cL_law 787 = .ok (.iadd, 1) := by decide +kernel
theorem dL_law_788 : decode cL_law 788 = .ok (.iaload, 1) := by decide +kernel
theorem dL_law_789 : decode cL_law 789 = .ok (.invokevirtual 104, 3) := by decide +kernel
theorem dL_law_792 : decode cL_law 792 = .ok (.lcmp, 1) := by decide +kernel
theorem dL_law_793 : decode cL_law 793 = .ok (.ifCond .eq 288, 3) := by decide +kernel
theorem dL_law_796 : decode cL_law 796 = .ok (.iconst 0, 1) := by decide +kernel
theorem dL_law_797 : decode cL_law 797 = .ok (.ireturn, 1) := by decide +kernel
theorem dL_law_798 : decode cL_law 798 = .ok (.aload_n 1, 1) := by decide +kernel
theorem dL_law_799 : decode cL_law 799 = .ok (.invokevirtual 105, 3) := by decide +kernel
theorem dL_law_802 : decode cL_law 802 = .ok (.aload_n 2, 1) := by decide +kernel
theorem dL_law_803 : decode cL_law 803 = .ok (.invokevirtual 108, 3) := by decide +kernel
theorem dL_law_806 : decode cL_law 806 = .ok (.if_icmp .eq 275, 3) := by decide +kernel
theorem dL_law_809 : decode cL_law 809 = .ok (.iconst 0, 1) := by decide +kernel
theorem dL_law_810 : decode cL_law 810 = .ok (.ireturn, 1) := by decide +kernel
theorem dL_law_811 : decode cL_law 811 = .ok (.aload_n 1, 1) := by decide +kernel
theorem dL_law_812 : decode cL_law 812 = .ok (.invokevirtual 109, 3) := by decide +kernel
theorem dL_law_815 : decode cL_law 815 = .ok (.aload_n 2, 1) := by decide +kernel
theorem dL_law_816 : decode cL_law 816 = .ok (.invokevirtual 112, 3) := by decide +kernel
theorem dL_law_819 : decode cL_law 819 = .ok (.if_icmp .eq 262, 3) := by decide +kernel
theorem dL_law_822 : decode cL_law 822 = .ok (.iconst 0, 1) := by decide +kernel
theorem dL_law_823 : decode cL_law 823 = .ok (.ireturn, 1) := by decide +kernel
theorem dL_law_824 : decode cL_law 824 = .ok (.aload_n 1, 1) := by decide +kernel
theorem dL_law_825 : decode cL_law 825 = .ok (.aload_n 0, 1) := by decide +kernel
theorem dL_law_826 : decode cL_law 826 = .ok (.iload_n 3, 1) := by decide +kernel
theorem dL_law_827 : decode cL_law 827 = .ok (.iconst 1, 1) := by decide +kernel
theorem dL_law_828 : decode cL_law 828 = .ok (.iadd, 1) := by decide +kernel
theorem dL_law_829 : decode cL_law 829 = .ok (.iaload, 1) := by decide +kernel
theorem dL_law_830 : decode cL_law 830 = .ok (.aload_n 0, 1) := by decide +kernel
theorem dL_law_831 : decode cL_law 831 = .ok (.iload_n 3, 1) := by decide +kernel
theorem dL_law_832 : decode cL_law 832 = .ok (.iconst 2, 1) := by decide +kernel
theorem dL_law_833 : decode cL_law 833 = .ok (.iadd, 1) := by decide +kernel
theorem dL_law_834 : decode cL_law 834 = .ok (.iaload, 1) := by decide +kernel
theorem dL_law_835 : decode cL_law 835 = .ok (.invokevirtual 113, 3) := by decide +kernel
theorem dL_law_838 : decode cL_law 838 = .ok (.aload_n 2, 1) := by decide +kernel
theorem dL_law_839 : decode cL_law 839 = .ok (.aload_n 0, 1) := by decide +kernel
theorem dL_law_840 : decode cL_law 840 = .ok (.iload_n 3, 1) := by decide +kernel
theorem dL_law_841 : decode cL_law 841 = .ok (.iconst 1, 1) := by decide +kernel
theorem dL_law_842 : decode cL_law 842 = .ok (.iadd, 1) := by decide +kernel
theorem dL_law_843 : decode cL_law 843 = .ok (.iaload, 1) := by decide +kernel
theorem dL_law_844 : decode cL_law 844 = .ok (.aload_n 0, 1) := by decide +kernel
theorem dL_law_845 : decode cL_law 845 = .ok (.iload_n 3, 1) := by decide +kernel
theorem dL_law_846 : decode cL_law 846 = .ok (.iconst 2, 1) := by decide +kernel
theorem dL_law_847 : decode cL_law 847 = .ok (.iadd, 1) := by decide +kernel
theorem dL_law_848 : decode cL_law 848 = .ok (.iaload, 1) := by decide +kernel
theorem dL_law_849 : decode cL_law 849 = .ok (.invokevirtual 116, 3) := by decide +kernel
theorem dL_law_852 : decode cL_law 852 = .ok (.if_icmp .eq 229, 3) := by decide +kernel
theorem dL_law_855 : decode cL_law 855 = .ok (.iconst 0, 1) := by decide +kernel
theorem dL_law_856 : decode cL_law 856 = .ok (.ireturn, 1) := by decide +kernel
theorem dL_law_857 : decode cL_law 857 = .ok (.aload_n 1, 1) := by decide +kernel
theorem dL_law_858 : decode cL_law 858 = .ok (.aload_n 0, 1) := by decide +kernel
theorem dL_law_859 : decode cL_law 859 = .ok (.iload_n 3, 1) := by decide +kernel
theorem dL_law_860 : decode cL_law 860 = .ok (.iconst 1, 1) := by decide +kernel
theorem dL_law_861 : decode cL_law 861 = .ok (.iadd, 1) := by decide +kernel
theorem dL_law_862 : decode cL_law 862 = .ok (.iaload, 1) := by decide +kernel
theorem dL_law_863 : decode cL_law 863 = .ok (.invokevirtual 117, 3) := by decide +kernel
theorem dL_law_866 : decode cL_law 866 = .ok (.aload_n 2, 1) := by decide +kernel
theorem dL_law_867 : decode cL_law 867 = .ok (.aload_n 0, 1) := by decide +kernel
theorem dL_law_868 : decode cL_law 868 = .ok (.iload_n 3, 1) := by decide +kernel
theorem dL_law_869 : decode cL_law 869 = .ok (.iconst 1, 1) := by decide +kernel
theorem dL_law_870 : decode cL_law 870 = .ok (.iadd, 1) := by decide +kernel
theorem dL_law_871 : decode cL_law 871 = .ok (.iaload, 1) := by decide +kernel
theorem dL_law_872 : decode cL_law 872 = .ok (.invokevirtual 120, 3) := by decide +kernel
theorem dL_law_875 : decode cL_law 875 = .ok (.if_icmp .eq 206, 3) := by decide +kernel
theorem dL_law_878 : decode cL_law 878 = .ok (.iconst 0, 1) := by decide +kernel
theorem dL_law_879 : decode cL_law 879 = .ok (.ireturn, 1) := by decide +kernel
theorem dL_law_880 : decode cL_law 880 = .ok (.aload_n 1, 1) := by decide +kernel
theorem dL_law_881 : decode cL_law 881 = .ok (.aload_n 0, 1) := by decide +kernel
theorem dL_law_882 : decode cL_law 882 = .ok (.iload_n 3, 1) := by decide +kernel
theorem dL_law_883 : decode cL_law 883 = .ok (.iconst 1, 1) := by decide +kernel
theorem dL_law_884 : decode cL_law 884 = .ok (.iadd, 1) := by decide +kernel
theorem dL_law_885 : decode cL_law 885 = .ok (.iaload, 1) := by decide +kernel
theorem dL_law_886 : decode cL_law 886 = .ok (.aload_n 0, 1) := by decide +kernel
theorem dL_law_887 : decode cL_law 887 = .ok (.iload_n 3, 1) := by decide +kernel
theorem dL_law_888 : decode cL_law 888 = .ok (.iconst 2, 1) := by decide +kernel
theorem dL_law_889 : decode cL_law 889 = .ok (.iadd, 1) := by decide +kernel
theorem dL_law_890 : decode cL_law 890 = .ok (.iaload, 1) := by decide +kernel
theorem dL_law_891 : decode cL_law 891 = .ok (.invokevirtual 121, 3) := by decide +kernel
theorem dL_law_894 : decode cL_law 894 = .ok (.aload_n 2, 1) := by decide +kernel
theorem dL_law_895 : decode cL_law 895 = .ok (.aload_n 0, 1) := by decide +kernel
theorem dL_law_896 : decode cL_law 896 = .ok (.iload_n 3, 1) := by decide +kernel
theorem dL_law_897 : decode cL_law 897 = .ok (.iconst 1, 1) := by decide +kernel
theorem dL_law_898 : decode cL_law 898 = .ok (.iadd, 1) := by decide +kernel
theorem dL_law_899 : decode cL_law 899 = .ok (.iaload, 1) := by decide +kernel
theorem dL_law_900 : decode cL_law 900 = .ok (.aload_n 0, 1) := by decide +kernel
theorem dL_law_901 : decode cL_law 901 = .ok (.iload_n 3, 1) := by decide +kernel
theorem dL_law_902 : decode cL_law 902 = .ok (.iconst 2, 1) := by decide +kernel
theorem dL_law_903 : decode cL_law 903 = .ok (.iadd, 1) := by decide +kernel
theorem dL_law_904 : decode cL_law 904 = .ok (.iaload, 1) := by decide +kernel
theorem dL_law_905 : decode cL_law 905 = .ok (.invokevirtual 124, 3) := by decide +kernel
theorem dL_law_908 : decode cL_law 908 = .ok (.if_icmp .eq 173, 3) := by decide +kernel
theorem dL_law_911 : decode cL_law 911 = .ok (.iconst 0, 1) := by decide +kernel
theorem dL_law_912 : decode cL_law 912 = .ok (.ireturn, 1) := by decide +kernel
theorem dL_law_913 : decode cL_law 913 = .ok (.aload_n 1, 1) := by decide +kernel
theorem dL_law_914 : decode cL_law 914 = .ok (.aload_n 0, 1) := by decide +kernel
theorem dL_law_915 : decode cL_law 915 = .ok (.iload_n 3, 1) := by decide +kernel
theorem dL_law_916 : decode cL_law 916 = .ok (.iconst 1, 1) := by decide +kernel
theorem dL_law_917 : decode cL_law 917 = .ok (.iadd, 1) := by decide +kernel
theorem dL_law_918 : decode cL_law 918 = .ok (.iaload, 1) := by decide +kernel
theorem dL_law_919 : decode cL_law 919 = .ok (.aload_n 0, 1) := by decide +kernel
theorem dL_law_920 : decode cL_law 920 = .ok (.iload_n 3, 1) := by decide +kernel
theorem dL_law_921 : decode cL_law 921 = .ok (.iconst 2, 1) := by decide +kernel
theorem dL_law_922 : decode cL_law 922 = .ok (.iadd, 1) := by decide +kernel
theorem dL_law_923 : decode cL_law 923 = .ok (.iaload, 1) := by decide +kernel
theorem dL_law_924 : decode cL_law 924 = .ok (.invokevirtual 125, 3) := by decide +kernel
theorem dL_law_927 : decode cL_law 927 = .ok (.aload_n 2, 1) := by decide +kernel
theorem dL_law_928 : decode cL_law 928 = .ok (.aload_n 0, 1) := by decide +kernel
theorem dL_law_929 : decode cL_law 929 = .ok (.iload_n 3, 1) := by decide +kernel
theorem dL_law_930 : decode cL_law 930 = .ok (.iconst 1, 1) := by decide +kernel
theorem dL_law_931 : decode cL_law 931 = .ok (.iadd, 1) := by decide +kernel
theorem dL_law_932 : decode cL_law 932 = .ok (.iaload, 1) := by decide +kernel
theorem dL_law_933 : decode cL_law 933 = .ok (.aload_n 0, 1) := by decide +kernel
theorem dL_law_934 : decode cL_law 934 = .ok (.iload_n 3, 1) := by decide +kernel
theorem dL_law_935 : decode cL_law 935 = .ok (.iconst 2, 1) := by decide +kernel
theorem dL_law_936 : decode cL_law 936 = .ok (.iadd, 1) := by decide +kernel
theorem dL_law_937 : decode cL_law 937 = .ok (.iaload, 1) := by decide +kernel
theorem dL_law_938 : decode cL_law 938 = .ok (.invokevirtual 128, 3) := by decide +kernel
theorem dL_law_941 : decode cL_law 941 = .ok (.if_icmp .eq 140, 3) := by decide +kernel
theorem dL_law_944 : decode cL_law 944 = .ok (.iconst 0, 1) := by decide +kernel
theorem dL_law_945 : decode cL_law 945 = .ok (.ireturn, 1) := by decide +kernel
theorem dL_law_946 : decode cL_law 946 = .ok (.aload_n 1, 1) := by decide +kernel
theorem dL_law_947 : decode cL_law 947 = .ok (.aload_n 0, 1) := by decide +kernel
theorem dL_law_948 : decode cL_law 948 = .ok (.iload_n 3, 1) := by decide +kernel
theorem dL_law_949 : decode cL_law 949 = .ok (.iconst 1, 1) := by decide +kernel
theorem dL_law_950 : decode cL_law 950 = .ok (.iadd, 1) := by decide +kernel
theorem dL_law_951 : decode cL_law 951 = .ok (.iaload, 1) := by decide +kernel
theorem dL_law_952 : decode cL_law 952 = .ok (.aload_n 0, 1) := by decide +kernel
theorem dL_law_953 : decode cL_law 953 = .ok (.iload_n 3, 1) := by decide +kernel
theorem dL_law_954 : decode cL_law 954 = .ok (.iconst 2, 1) := by decide +kernel
theorem dL_law_955 : decode cL_law 955 = .ok (.iadd, 1) := by decide +kernel
theorem dL_law_956 : decode cL_law 956 = .ok (.iaload, 1) := by decide +kernel
theorem dL_law_957 : decode cL_law 957 = .ok (.aload_n 0, 1) := by decide +kernel
theorem dL_law_958 : decode cL_law 958 = .ok (.iload_n 3, 1) := by decide +kernel
theorem dL_law_959 : decode cL_law 959 = .ok (.iconst 3, 1) := by decide +kernel
theorem dL_law_960 : decode cL_law 960 = .ok (.iadd, 1) := by decide +kernel
theorem dL_law_961 : decode cL_law 961 = .ok (.iaload, 1) := by decide +kernel
theorem dL_law_962 : decode cL_law 962 = .ok (.invokevirtual 129, 3) := by decide +kernel
theorem dL_law_965 : decode cL_law 965 = .ok (.aload_n 2, 1) := by decide +kernel
theorem dL_law_966 : decode cL_law 966 = .ok (.aload_n 0, 1) := by decide +kernel
theorem dL_law_967 : decode cL_law 967 = .ok (.iload_n 3, 1) := by decide +kernel
theorem dL_law_968 : decode cL_law 968 = .ok (.iconst 1, 1) := by decide +kernel
theorem dL_law_969 : decode cL_law 969 = .ok (.iadd, 1) := by decide +kernel
theorem dL_law_970 : decode cL_law 970 = .ok (.iaload, 1) := by decide +kernel
theorem dL_law_971 : decode cL_law 971 = .ok (.aload_n 0, 1) := by decide +kernel
theorem dL_law_972 : decode cL_law 972 = .ok (.iload_n 3, 1) := by decide +kernel
theorem dL_law_973 : decode cL_law 973 = .ok (.iconst 2, 1) := by decide +kernel
theorem dL_law_974 : decode cL_law 974 = .ok (.iadd, 1) := by decide +kernel
theorem dL_law_975 : decode cL_law 975 = .ok (.iaload, 1) := by decide +kernel
theorem dL_law_976 : decode cL_law 976 = .ok (.aload_n 0, 1) := by decide +kernel
theorem dL_law_977 : decode cL_law 977 = .ok (.iload_n 3, 1) := by decide +kernel
theorem dL_law_978 : decode cL_law 978 = .ok (.iconst 3, 1) := by decide +kernel
theorem dL_law_979 : decode cL_law 979 = .ok (.iadd, 1) := by decide +kernel
theorem dL_law_980 : decode cL_law 980 = .ok (.iaload, 1) := by decide +kernel
theorem dL_law_981 : decode cL_law 981 = .ok (.invokevirtual 132, 3) := by decide +kernel
theorem dL_law_984 : decode cL_law 984 = .ok (.if_icmp .eq 97, 3) := by decide +kernel
theorem dL_law_987 : decode cL_law 987 = .ok (.iconst 0, 1) := by decide +kernel
theorem dL_law_988 : decode cL_law 988 = .ok (.ireturn, 1) := by decide +kernel
theorem dL_law_989 : decode cL_law 989 = .ok (.aload_n 1, 1) := by decide +kernel
theorem dL_law_990 : decode cL_law 990 = .ok (.aload_n 0, 1) := by decide +kernel
theorem dL_law_991 : decode cL_law 991 = .ok (.iload_n 3, 1) := by decide +kernel
theorem dL_law_992 : decode cL_law 992 = .ok (.iconst 1, 1) := by decide +kernel
theorem dL_law_993 : decode cL_law 993 = .ok (.iadd, 1) := by decide +kernel
theorem dL_law_994 : decode cL_law 994 = .ok (.iaload, 1) := by decide +kernel
theorem dL_law_995 : decode cL_law 995 = .ok (.invokevirtual 133, 3) := by decide +kernel
theorem dL_law_998 : decode cL_law 998 = .ok (.aload_n 2, 1) := by decide +kernel
theorem dL_law_999 : decode cL_law 999 = .ok (.aload_n 0, 1) := by decide +kernel
theorem dL_law_1000 : decode cL_law 1000 = .ok (.iload_n 3, 1) := by decide +kernel
theorem dL_law_1001 : decode cL_law 1001 = .ok (.iconst 1, 1) := by decide +kernel
theorem dL_law_1002 : decode cL_law 1002 = .ok (.iadd, 1) := by decide +kernel
theorem dL_law_1003 : decode cL_law 1003 = .ok (.iaload, 1) := by decide +kernel
theorem dL_law_1004 : decode cL_law 1004 = .ok (.invokevirtual 136, 3) := by decide +kernel
theorem dL_law_1007 : decode cL_law 1007 = .ok (.if_icmp .eq 74, 3) := by decide +kernel
theorem dL_law_1010 : decode cL_law 1010 = .ok (.iconst 0, 1) := by decide +kernel
theorem dL_law_1011 : decode cL_law 1011 = .ok (.ireturn, 1) := by decide +kernel
theorem dL_law_1012 : decode cL_law 1012 = .ok (.aload_n 1, 1) := by decide +kernel
theorem dL_law_1013 : decode cL_law 1013 = .ok (.aload_n 0, 1) := by decide +kernel
theorem dL_law_1014 : decode cL_law 1014 = .ok (.iload_n 3, 1) := by decide +kernel
theorem dL_law_1015 : decode cL_law 1015 = .ok (.iconst 1, 1) := by decide +kernel
theorem dL_law_1016 : decode cL_law 1016 = .ok (.iadd, 1) := by decide +kernel
theorem dL_law_1017 : decode cL_law 1017 = .ok (.iaload, 1) := by decide +kernel
theorem dL_law_1018 : decode cL_law 1018 = .ok (.invokevirtual 137, 3) := by decide +kernel
theorem dL_law_1021 : decode cL_law 1021 = .ok (.aload_n 2, 1) := by decide +kernel
theorem dL_law_1022 : decode cL_law 1022 = .ok (.aload_n 0, 1) := by decide +kernel
theorem dL_law_1023 : decode cL_law 1023 = .ok (.iload_n 3, 1) := by decide +kernel
theorem dL_law_1024 : decode cL_law 1024 = .ok (.iconst 1, 1) := by decide +kernel
theorem dL_law_1025 : decode cL_law 1025 = .ok (.iadd, 1) := by decide +kernel
theorem dL_law_1026 : decode cL_law 1026 = .ok (.iaload, 1) := by decide +kernel
theorem dL_law_1027 : decode cL_law 1027 = .ok (.invokevirtual 140, 3) := by decide +kernel
theorem dL_law_1030 : decode cL_law 1030 = .ok (.if_icmp .eq 51, 3) := by decide +kernel
theorem dL_law_1033 : decode cL_law 1033 = .ok (.iconst 0, 1) := by decide +kernel
theorem dL_law_1034 : decode cL_law 1034 = .ok (.ireturn, 1) := by decide +kernel
theorem dL_law_1035 : decode cL_law 1035 = .ok (.aload_n 1, 1) := by decide +kernel
theorem dL_law_1036 : decode cL_law 1036 = .ok (.aload_n 0, 1) := by decide +kernel
theorem dL_law_1037 : decode cL_law 1037 = .ok (.iload_n 3, 1) := by decide +kernel
theorem dL_law_1038 : decode cL_law 1038 = .ok (.iconst 1, 1) := by decide +kernel
theorem dL_law_1039 : decode cL_law 1039 = .ok (.iadd, 1) := by decide +kernel
theorem dL_law_1040 : decode cL_law 1040 = .ok (.iaload, 1) := by decide +kernel
theorem dL_law_1041 : decode cL_law 1041 = .ok (.invokevirtual 141, 3) := by decide +kernel
theorem dL_law_1044 : decode cL_law 1044 = .ok (.aload_n 2, 1) := by decide +kernel
theorem dL_law_1045 : decode cL_law 1045 = .ok (.aload_n 0, 1) := by decide +kernel
theorem dL_law_1046 : decode cL_law 1046 = .ok (.iload_n 3, 1) := by decide +kernel
theorem dL_law_1047 : decode cL_law 1047 = .ok (.iconst 1, 1) := by decide +kernel
theorem dL_law_1048 : decode cL_law 1048 = .ok (.iadd, 1) := by decide +kernel
theorem dL_law_1049 : decode cL_law 1049 = .ok (.iaload, 1) := by decide +kernel
theorem dL_law_1050 : decode cL_law 1050 = .ok (.invokevirtual 144, 3) := by decide +kernel
theorem dL_law_1053 : decode cL_law 1053 = .ok (.if_icmp .eq 28, 3) := by decide +kernel
theorem dL_law_1056 : decode cL_law 1056 = .ok (.iconst 0, 1) := by decide +kernel
theorem dL_law_1057 : decode cL_law 1057 = .ok (.ireturn, 1) := by decide +kernel
theorem dL_law_1058 : decode cL_law 1058 = .ok (.aload_n 1, 1) := by decide +kernel
theorem dL_law_1059 : decode cL_law 1059 = .ok (.aload_n 0, 1) := by decide +kernel
theorem dL_law_1060 : decode cL_law 1060 = .ok (.iload_n 3, 1) := by decide +kernel
theorem dL_law_1061 : decode cL_law 1061 = .ok (.iconst 1, 1) := by decide +kernel
theorem dL_law_1062 : decode cL_law 1062 = .ok (.iadd, 1) := by decide +kernel
theorem dL_law_1063 : decode cL_law 1063 = .ok (.iaload, 1) := by decide +kernel
theorem dL_law_1064 : decode cL_law 1064 = .ok (.invokevirtual 145, 3) := by decide +kernel
theorem dL_law_1067 : decode cL_law 1067 = .ok (.aload_n 2, 1) := by decide +kernel
theorem dL_law_1068 : decode cL_law 1068 = .ok (.aload_n 0, 1) := by decide +kernel
theorem dL_law_1069 : decode cL_law 1069 = .ok (.iload_n 3, 1) := by decide +kernel
theorem dL_law_1070 : decode cL_law 1070 = .ok (.iconst 1, 1) := by decide +kernel
theorem dL_law_1071 : decode cL_law 1071 = .ok (.iadd, 1) := by decide +kernel
theorem dL_law_1072 : decode cL_law 1072 = .ok (.iaload, 1) := by decide +kernel
theorem dL_law_1073 : decode cL_law 1073 = .ok (.invokevirtual 148, 3) := by decide +kernel
theorem dL_law_1076 : decode cL_law 1076 = .ok (.if_icmp .eq 5, 3) := by decide +kernel
theorem dL_law_1079 : decode cL_law 1079 = .ok (.iconst 0, 1) := by decide +kernel
theorem dL_law_1080 : decode cL_law 1080 = .ok (.ireturn, 1) := by decide +kernel
theorem dL_law_1081 : decode cL_law 1081 = .ok (.iinc 3 4, 3) := by decide +kernel
theorem dL_law_1084 : decode cL_law 1084 = .ok (.goto (-1066), 3) := by decide +kernel
theorem dL_law_1087 : decode cL_law 1087 = .ok (.iconst 1, 1) := by decide +kernel
theorem dL_law_1088 : decode cL_law 1088 = .ok (.ireturn, 1) := by decide +kernel
