theorem dX0_init_0 : decode cX0_init 0 = .ok (.aload_n 0, 1) := by decide +kernel
theorem dX0_init_1 : decode cX0_init 1 = .ok (.invokespecial 3, 3) := by decide +kernel
theorem dX0_init_4 : decode cX0_init 4 = .ok (.aload_n 0, 1) := by decide +kernel
theorem dX0_init_5 : decode cX0_init 5 = .ok (.bipush 20, 2) := by decide +kernel
theorem dX0_init_7 : decode cX0_init 7 = .ok (.newarray .int, 2) := by decide +kernel
theorem dX0_init_9 : decode cX0_init 9 = .ok (.putfield 9, 3) := by decide +kernel
theorem dX0_init_12 : decode cX0_init 12 = .ok (.aload_n 0, 1) := by decide +kernel
theorem dX0_init_13 : decode cX0_init 13 = .ok (.bipush 20, 2) := by decide +kernel
theorem dX0_init_15 : decode cX0_init 15 = .ok (.newarray .boolean, 2) := by decide +kernel
theorem dX0_init_17 : decode cX0_init 17 = .ok (.putfield 15, 3) := by decide +kernel
theorem dX0_init_20 : decode cX0_init 20 = .ok (.return_, 1) := by decide +kernel
theorem dX0_copyFrom_0 : decode cX0_copyFrom 0 = .ok (.iconst 0, 1) := by decide +kernel
theorem dX0_copyFrom_1 : decode cX0_copyFrom 1 = .ok (.istore_n 2, 1) := by decide +kernel
theorem dX0_copyFrom_2 : decode cX0_copyFrom 2 = .ok (.iload_n 2, 1) := by decide +kernel
theorem dX0_copyFrom_3 : decode cX0_copyFrom 3 = .ok (.bipush 20, 2) := by decide +kernel
theorem dX0_copyFrom_5 : decode cX0_copyFrom 5 = .ok (.if_icmp .ge 33, 3) := by decide +kernel
theorem dX0_copyFrom_8 : decode cX0_copyFrom 8 = .ok (.aload_n 0, 1) := by decide +kernel
theorem dX0_copyFrom_9 : decode cX0_copyFrom 9 = .ok (.getfield 9, 3) := by decide +kernel
theorem dX0_copyFrom_12 : decode cX0_copyFrom 12 = .ok (.iload_n 2, 1) := by decide +kernel
theorem dX0_copyFrom_13 : decode cX0_copyFrom 13 = .ok (.aload_n 1, 1) := by decide +kernel
theorem dX0_copyFrom_14 : decode cX0_copyFrom 14 = .ok (.getfield 9, 3) := by decide +kernel
theorem dX0_copyFrom_17 : decode cX0_copyFrom 17 = .ok (.iload_n 2, 1) := by decide +kernel
theorem dX0_copyFrom_18 : decode cX0_copyFrom 18 = .ok (.iaload, 1) := by decide +kernel
theorem dX0_copyFrom_19 : decode cX0_copyFrom 19 = .ok (.iastore, 1) := by decide +kernel
theorem dX0_copyFrom_20 : decode cX0_copyFrom 20 = .ok (.aload_n 0, 1) := by decide +kernel
theorem dX0_copyFrom_21 : decode cX0_copyFrom 21 = .ok (.getfield 15, 3) := by decide +kernel
theorem dX0_copyFrom_24 : decode cX0_copyFrom 24 = .ok (.iload_n 2, 1) := by decide +kernel
theorem dX0_copyFrom_25 : decode cX0_copyFrom 25 = .ok (.aload_n 1, 1) := by decide +kernel
theorem dX0_copyFrom_26 : decode cX0_copyFrom 26 = .ok (.getfield 15, 3) := by decide +kernel
theorem dX0_copyFrom_29 : decode cX0_copyFrom 29 = .ok (.iload_n 2, 1) := by decide +kernel
theorem dX0_copyFrom_30 : decode cX0_copyFrom 30 = .ok (.baload, 1) := by decide +kernel
theorem dX0_copyFrom_31 : decode cX0_copyFrom 31 = .ok (.bastore, 1) := by decide +kernel
theorem dX0_copyFrom_32 : decode cX0_copyFrom 32 = .ok (.iinc 2 1, 3) := by decide +kernel
theorem dX0_copyFrom_35 : decode cX0_copyFrom 35 = .ok (.goto (-33), 3) := by decide +kernel
theorem dX0_copyFrom_38 : decode cX0_copyFrom 38 = .ok (.aload_n 0, 1) := by decide +kernel
theorem dX0_copyFrom_39 : decode cX0_copyFrom 39 = .ok (.aload_n 1, 1) := by decide +kernel
theorem dX0_copyFrom_40 : decode cX0_copyFrom 40 = .ok (.getfield 19, 3) := by decide +kernel
theorem dX0_copyFrom_43 : decode cX0_copyFrom 43 = .ok (.putfield 19, 3) := by decide +kernel
theorem dX0_copyFrom_46 : decode cX0_copyFrom 46 = .ok (.return_, 1) := by decide +kernel
theorem dX0_add_0 : decode cX0_add 0 = .ok (.aload_n 0, 1) := by decide +kernel
theorem dX0_add_1 : decode cX0_add 1 = .ok (.getfield 19, 3) := by decide +kernel
theorem dX0_add_4 : decode cX0_add 4 = .ok (.bipush 20, 2) := by decide +kernel
theorem dX0_add_6 : decode cX0_add 6 = .ok (.if_icmp .ge 33, 3) := by decide +kernel
theorem dX0_add_9 : decode cX0_add 9 = .ok (.aload_n 0, 1) := by decide +kernel
theorem dX0_add_10 : decode cX0_add 10 = .ok (.getfield 9, 3) := by decide +kernel
theorem dX0_add_13 : decode cX0_add 13 = .ok (.aload_n 0, 1) := by decide +kernel
theorem dX0_add_14 : decode cX0_add 14 = .ok (.getfield 19, 3) := by decide +kernel
theorem dX0_add_17 : decode cX0_add 17 = .ok (.iload_n 1, 1) := by decide +kernel
theorem dX0_add_18 : decode cX0_add 18 = .ok (.iastore, 1) := by decide +kernel
theorem dX0_add_19 : decode cX0_add 19 = .ok (.aload_n 0, 1) := by decide +kernel
theorem dX0_add_20 : decode cX0_add 20 = .ok (.getfield 15, 3) := by decide +kernel
theorem dX0_add_23 : decode cX0_add 23 = .ok (.aload_n 0, 1) := by decide +kernel
theorem dX0_add_24 : decode cX0_add 24 = .ok (.getfield 19, 3) := by decide +kernel
theorem dX0_add_27 : decode cX0_add 27 = .ok (.iload_n 2, 1) := by decide +kernel
theorem dX0_add_28 : decode cX0_add 28 = .ok (.bastore, 1) := by decide +kernel
theorem dX0_add_29 : decode cX0_add 29 = .ok (.aload_n 0, 1) := by decide +kernel
theorem dX0_add_30 : decode cX0_add 30 = .ok (.dup, 1) := by decide +kernel
theorem dX0_add_31 : decode cX0_add 31 = .ok (.getfield 19, 3) := by decide +kernel
theorem dX0_add_34 : decode cX0_add 34 = .ok (.iconst 1, 1) := by decide +kernel
theorem dX0_add_35 : decode cX0_add 35 = .ok (.iadd, 1) := by decide +kernel
theorem dX0_add_36 : decode cX0_add 36 = .ok (.putfield 19, 3) := by decide +kernel
theorem dX0_add_39 : decode cX0_add 39 = .ok (.return_, 1) := by decide +kernel
theorem dX1_init_0 : decode cX1_init 0 = .ok (.aload_n 0, 1) := by decide +kernel
theorem dX1_init_1 : decode cX1_init 1 = .ok (.invokespecial 3, 3) := by decide +kernel
theorem dX1_init_4 : decode cX1_init 4 = .ok (.aload_n 0, 1) := by decide +kernel
theorem dX1_init_5 : decode cX1_init 5 = .ok (.bipush 12, 2) := by decide +kernel
theorem dX1_init_7 : decode cX1_init 7 = .ok (.newarray .int, 2) := by decide +kernel
theorem dX1_init_9 : decode cX1_init 9 = .ok (.putfield 9, 3) := by decide +kernel
theorem dX1_init_12 : decode cX1_init 12 = .ok (.aload_n 0, 1) := by decide +kernel
theorem dX1_init_13 : decode cX1_init 13 = .ok (.bipush 12, 2) := by decide +kernel
theorem dX1_init_15 : decode cX1_init 15 = .ok (.newarray .int, 2) := by decide +kernel
theorem dX1_init_17 : decode cX1_init 17 = .ok (.putfield 15, 3) := by decide +kernel
theorem dX1_init_20 : decode cX1_init 20 = .ok (.aload_n 0, 1) := by decide +kernel
theorem dX1_init_21 : decode cX1_init 21 = .ok (.bipush 12, 2) := by decide +kernel
theorem dX1_init_23 : decode cX1_init 23 = .ok (.newarray .int, 2) := by decide +kernel
theorem dX1_init_25 : decode cX1_init 25 = .ok (.putfield 18, 3) := by decide +kernel
theorem dX1_init_28 : decode cX1_init 28 = .ok (.aload_n 0, 1) := by decide +kernel
theorem dX1_init_29 : decode cX1_init 29 = .ok (.bipush 60, 2) := by decide +kernel
theorem dX1_init_31 : decode cX1_init 31 = .ok (.newarray .int, 2) := by decide +kernel
theorem dX1_init_33 : decode cX1_init 33 = .ok (.putfield 21, 3) := by decide +kernel
theorem dX1_init_36 : decode cX1_init 36 = .ok (.aload_n 0, 1) := by decide +kernel
theorem dX1_init_37 : decode cX1_init 37 = .ok (.bipush 60, 2) := by decide +kernel
theorem dX1_init_39 : decode cX1_init 39 = .ok (.newarray .int, 2) := by decide +kernel
theorem dX1_init_41 : decode cX1_init 41 = .ok (.putfield 24, 3) := by decide +kernel
theorem dX1_init_44 : decode cX1_init 44 = .ok (.return_, 1) := by decide +kernel
theorem dX1_copyFrom_0 : decode cX1_copyFrom 0 = .ok (.aload_n 1, 1) := by decide +kernel
theorem dX1_copyFrom_1 : decode cX1_copyFrom 1 = .ok (.getfield 9, 3) := by decide +kernel
theorem dX1_copyFrom_4 : decode cX1_copyFrom 4 = .ok (.iconst 0, 1) := by decide +kernel
theorem dX1_copyFrom_5 : decode cX1_copyFrom 5 = .ok (.aload_n 0, 1) := by decide +kernel
theorem dX1_copyFrom_6 : decode cX1_copyFrom 6 = .ok (.getfield 9, 3) := by decide +kernel
theorem dX1_copyFrom_9 : decode cX1_copyFrom 9 = .ok (.iconst 0, 1) := by decide +kernel
theorem dX1_copyFrom_10 : decode cX1_copyFrom 10 = .ok (.bipush 12, 2) := by decide +kernel
theorem dX1_copyFrom_12 : decode cX1_copyFrom 12 = .ok (.invokestatic 27, 3) := by decide +kernel
theorem dX1_copyFrom_15 : decode cX1_copyFrom 15 = .ok (.aload_n 1, 1) := by decide +kernel
theorem dX1_copyFrom_16 : decode cX1_copyFrom 16 = .ok (.getfield 15, 3) := by decide +kernel
theorem dX1_copyFrom_19 : decode cX1_copyFrom 19 = .ok (.iconst 0, 1) := by decide +kernel
theorem dX1_copyFrom_20 : decode cX1_copyFrom 20 = .ok (.aload_n 0, 1) := by decide +kernel
theorem dX1_copyFrom_21 : decode cX1_copyFrom 21 = .ok (.getfield 15, 3) := by decide +kernel
theorem dX1_copyFrom_24 : decode cX1_copyFrom 24 = .ok (.iconst 0, 1) := by decide +kernel
theorem dX1_copyFrom_25 : decode cX1_copyFrom 25 = .ok (.bipush 12, 2) := by decide +kernel
theorem dX1_copyFrom_27 : decode cX1_copyFrom 27 = .ok (.invokestatic 27, 3) := by decide +kernel
theorem dX1_copyFrom_30 : decode cX1_copyFrom 30 = .ok (.aload_n 1, 1) := by decide +kernel
theorem dX1_copyFrom_31 : decode cX1_copyFrom 31 = .ok (.getfield 18, 3) := by decide +kernel
theorem dX1_copyFrom_34 : decode cX1_copyFrom 34 = .ok (.iconst 0, 1) := by decide +kernel
theorem dX1_copyFrom_35 : decode cX1_copyFrom 35 = .ok (.aload_n 0, 1) := by decide +kernel
theorem dX1_copyFrom_36 : decode cX1_copyFrom 36 = .ok (.getfield 18, 3) := by decide +kernel
theorem dX1_copyFrom_39 : decode cX1_copyFrom 39 = .ok (.iconst 0, 1) := by decide +kernel
theorem dX1_copyFrom_40 : decode cX1_copyFrom 40 = .ok (.bipush 12, 2) := by decide +kernel
theorem dX1_copyFrom_42 : decode cX1_copyFrom 42 = .ok (.invokestatic 27, 3) := by decide +kernel
theorem dX1_copyFrom_45 : decode cX1_copyFrom 45 = .ok (.aload_n 1, 1) := by decide +kernel
theorem dX1_copyFrom_46 : decode cX1_copyFrom 46 = .ok (.getfield 21, 3) := by decide +kernel
theorem dX1_copyFrom_49 : decode cX1_copyFrom 49 = .ok (.iconst 0, 1) := by decide +kernel
theorem dX1_copyFrom_50 : decode cX1_copyFrom 50 = .ok (.aload_n 0, 1) := by decide +kernel
theorem dX1_copyFrom_51 : decode cX1_copyFrom 51 = .ok (.getfield 21, 3) := by decide +kernel
theorem dX1_copyFrom_54 : decode cX1_copyFrom 54 = .ok (.iconst 0, 1) := by decide +kernel
theorem dX1_copyFrom_55 : decode cX1_copyFrom 55 = .ok (.bipush 60, 2) := by decide +kernel
theorem dX1_copyFrom_57 : decode cX1_copyFrom 57 = .ok (.invokestatic 27, 3) := by decide +kernel
theorem dX1_copyFrom_60 : decode cX1_copyFrom 60 = .ok (.aload_n 1, 1) := by decide +kernel
theorem dX1_copyFrom_61 : decode cX1_copyFrom 61 = .ok (.getfield 24, 3) := by decide +kernel
theorem dX1_copyFrom_64 : decode cX1_copyFrom 64 = .ok (.iconst 0, 1) := by decide +kernel
theorem dX1_copyFrom_65 : decode cX1_copyFrom 65 = .ok (.aload_n 0, 1) := by decide +kernel
theorem dX1_copyFrom_66 : decode cX1_copyFrom 66 = .ok (.getfield 24, 3) := by decide +kernel
theorem dX1_copyFrom_69 : decode cX1_copyFrom 69 = .ok (.iconst 0, 1) := by decide +kernel
theorem dX1_copyFrom_70 : decode cX1_copyFrom 70 = .ok (.bipush 60, 2) := by decide +kernel
theorem dX1_copyFrom_72 : decode cX1_copyFrom 72 = .ok (.invokestatic 27, 3) := by decide +kernel
theorem dX1_copyFrom_75 : decode cX1_copyFrom 75 = .ok (.aload_n 0, 1) := by decide +kernel
theorem dX1_copyFrom_76 : decode cX1_copyFrom 76 = .ok (.aload_n 1, 1) := by decide +kernel
theorem dX1_copyFrom_77 : decode cX1_copyFrom 77 = .ok (.getfield 33, 3) := by decide +kernel
theorem dX1_copyFrom_80 : decode cX1_copyFrom 80 = .ok (.putfield 33, 3) := by decide +kernel
theorem dX1_copyFrom_83 : decode cX1_copyFrom 83 = .ok (.return_, 1) := by decide +kernel
theorem dX1_holds_0 : decode cX1_holds 0 = .ok (.iload_n 1, 1) := by decide +kernel
theorem dX1_holds_1 : decode cX1_holds 1 = .ok (.ifCond .lt 15, 3) := by decide +kernel
theorem dX1_holds_4 : decode cX1_holds 4 = .ok (.iload_n 1, 1) := by decide +kernel
theorem dX1_holds_5 : decode cX1_holds 5 = .ok (.aload_n 0, 1) := by decide +kernel
theorem dX1_holds_6 : decode cX1_holds 6 = .ok (.getfield 33, 3) := by decide +kernel
theorem dX1_holds_9 : decode cX1_holds 9 = .ok (.if_icmp .ge 7, 3) := by decide +kernel
theorem dX1_holds_12 : decode cX1_holds 12 = .ok (.iconst 1, 1) := by decide +kernel
theorem dX1_holds_13 : decode cX1_holds 13 = .ok (.goto 4, 3) := by decide +kernel
theorem dX1_holds_16 : decode cX1_holds 16 = .ok (.iconst 0, 1) := by decide +kernel
theorem dX1_holds_17 : decode cX1_holds 17 = .ok (.ireturn, 1) := by decide +kernel
theorem dX1_allWords_0 : decode cX1_allWords 0 = .ok (.iconst 1, 1) := by decide +kernel
theorem dX1_allWords_1 : decode cX1_allWords 1 = .ok (.aload_n 0, 1) := by decide +kernel
theorem dX1_allWords_2 : decode cX1_allWords 2 = .ok (.getfield 33, 3) := by decide +kernel
theorem dX1_allWords_5 : decode cX1_allWords 5 = .ok (.ishl, 1) := by decide +kernel
theorem dX1_allWords_6 : decode cX1_allWords 6 = .ok (.iconst 1, 1) := by decide +kernel
theorem dX1_allWords_7 : decode cX1_allWords 7 = .ok (.isub, 1) := by decide +kernel
theorem dX1_allWords_8 : decode cX1_allWords 8 = .ok (.ireturn, 1) := by decide +kernel
theorem dX1_isWordSet_0 : decode cX1_isWordSet 0 = .ok (.iload_n 1, 1) := by decide +kernel
theorem dX1_isWordSet_1 : decode cX1_isWordSet 1 = .ok (.ifCond .lt 15, 3) := by decide +kernel
theorem dX1_isWordSet_4 : decode cX1_isWordSet 4 = .ok (.iload_n 1, 1) := by decide +kernel
theorem dX1_isWordSet_5 : decode cX1_isWordSet 5 = .ok (.aload_n 0, 1) := by decide +kernel
theorem dX1_isWordSet_6 : decode cX1_isWordSet 6 = .ok (.invokevirtual 37, 3) := by decide +kernel
theorem dX1_isWordSet_9 : decode cX1_isWordSet 9 = .ok (.if_icmp .gt 7, 3) := by decide +kernel
theorem dX1_isWordSet_12 : decode cX1_isWordSet 12 = .ok (.iconst 1, 1) := by decide +kernel
theorem dX1_isWordSet_13 : decode cX1_isWordSet 13 = .ok (.goto 4, 3) := by decide +kernel
theorem dX1_isWordSet_16 : decode cX1_isWordSet 16 = .ok (.iconst 0, 1) := by decide +kernel
theorem dX1_isWordSet_17 : decode cX1_isWordSet 17 = .ok (.ireturn, 1) := by decide +kernel
theorem dX1_signAt_0 : decode cX1_signAt 0 = .ok (.aload_n 0, 1) := by decide +kernel
theorem dX1_signAt_1 : decode cX1_signAt 1 = .ok (.getfield 21, 3) := by decide +kernel
theorem dX1_signAt_4 : decode cX1_signAt 4 = .ok (.iload_n 1, 1) := by decide +kernel
theorem dX1_signAt_5 : decode cX1_signAt 5 = .ok (.iconst 5, 1) := by decide +kernel
theorem dX1_signAt_6 : decode cX1_signAt 6 = .ok (.imul, 1) := by decide +kernel
theorem dX1_signAt_7 : decode cX1_signAt 7 = .ok (.iload_n 2, 1) := by decide +kernel
theorem dX1_signAt_8 : decode cX1_signAt 8 = .ok (.iadd, 1) := by decide +kernel
theorem dX1_signAt_9 : decode cX1_signAt 9 = .ok (.iaload, 1) := by decide +kernel
theorem dX1_signAt_10 : decode cX1_signAt 10 = .ok (.ireturn, 1) := by decide +kernel
theorem dX1_soundAt_0 : decode cX1_soundAt 0 = .ok (.aload_n 0, 1) := by decide +kernel
theorem dX1_soundAt_1 : decode cX1_soundAt 1 = .ok (.getfield 24, 3) := by decide +kernel
theorem dX1_soundAt_4 : decode cX1_soundAt 4 = .ok (.iload_n 1, 1) := by decide +kernel
theorem dX1_soundAt_5 : decode cX1_soundAt 5 = .ok (.iconst 5, 1) := by decide +kernel
theorem dX1_soundAt_6 : decode cX1_soundAt 6 = .ok (.imul, 1) := by decide +kernel
theorem dX1_soundAt_7 : decode cX1_soundAt 7 = .ok (.iload_n 2, 1) := by decide +kernel
theorem dX1_soundAt_8 : decode cX1_soundAt 8 = .ok (.iadd, 1) := by decide +kernel
theorem dX1_soundAt_9 : decode cX1_soundAt 9 = .ok (.iaload, 1) := by decide +kernel
theorem dX1_soundAt_10 : decode cX1_soundAt 10 = .ok (.ireturn, 1) := by decide +kernel
theorem dX1_signOrNone_0 : decode cX1_signOrNone 0 = .ok (.iload_n 2, 1) := by decide +kernel
theorem dX1_signOrNone_1 : decode cX1_signOrNone 1 = .ok (.aload_n 0, 1) := by decide +kernel
theorem dX1_signOrNone_2 : decode cX1_signOrNone 2 = .ok (.getfield 9, 3) := by decide +kernel
theorem dX1_signOrNone_5 : decode cX1_signOrNone 5 = .ok (.iload_n 1, 1) := by decide +kernel
theorem dX1_signOrNone_6 : decode cX1_signOrNone 6 = .ok (.iaload, 1) := by decide +kernel
theorem dX1_signOrNone_7 : decode cX1_signOrNone 7 = .ok (.if_icmp .ge 12, 3) := by decide +kernel
theorem dX1_signOrNone_10 : decode cX1_signOrNone 10 = .ok (.aload_n 0, 1) := by decide +kernel
theorem dX1_signOrNone_11 : decode cX1_signOrNone 11 = .ok (.iload_n 1, 1) := by decide +kernel
theorem dX1_signOrNone_12 : decode cX1_signOrNone 12 = .ok (.iload_n 2, 1) := by decide +kernel
theorem dX1_signOrNone_13 : decode cX1_signOrNone 13 = .ok (.invokevirtual 41, 3) := by decide +kernel
theorem dX1_signOrNone_16 : decode cX1_signOrNone 16 = .ok (.goto 5, 3) := by decide +kernel
theorem dX1_signOrNone_19 : decode cX1_signOrNone 19 = .ok (.bipush (-6), 2) := by decide +kernel
theorem dX1_signOrNone_21 : decode cX1_signOrNone 21 = .ok (.ireturn, 1) := by decide +kernel
theorem dX1_soundOrNone_0 : decode cX1_soundOrNone 0 = .ok (.iload_n 2, 1) := by decide +kernel
theorem dX1_soundOrNone_1 : decode cX1_soundOrNone 1 = .ok (.aload_n 0, 1) := by decide +kernel
theorem dX1_soundOrNone_2 : decode cX1_soundOrNone 2 = .ok (.getfield 9, 3) := by decide +kernel
theorem dX1_soundOrNone_5 : decode cX1_soundOrNone 5 = .ok (.iload_n 1, 1) := by decide +kernel
theorem dX1_soundOrNone_6 : decode cX1_soundOrNone 6 = .ok (.iaload, 1) := by decide +kernel
theorem dX1_soundOrNone_7 : decode cX1_soundOrNone 7 = .ok (.if_icmp .ge 12, 3) := by decide +kernel
theorem dX1_soundOrNone_10 : decode cX1_soundOrNone 10 = .ok (.aload_n 0, 1) := by decide +kernel
theorem dX1_soundOrNone_11 : decode cX1_soundOrNone 11 = .ok (.iload_n 1, 1) := by decide +kernel
theorem dX1_soundOrNone_12 : decode cX1_soundOrNone 12 = .ok (.iload_n 2, 1) := by decide +kernel
theorem dX1_soundOrNone_13 : decode cX1_soundOrNone 13 = .ok (.invokevirtual 45, 3) := by decide +kernel
theorem dX1_soundOrNone_16 : decode cX1_soundOrNone 16 = .ok (.goto 5, 3) := by decide +kernel
theorem dX1_soundOrNone_19 : decode cX1_soundOrNone 19 = .ok (.bipush (-6), 2) := by decide +kernel
theorem dX1_soundOrNone_21 : decode cX1_soundOrNone 21 = .ok (.ireturn, 1) := by decide +kernel
theorem dX1_firstSign_0 : decode cX1_firstSign 0 = .ok (.aload_n 0, 1) := by decide +kernel
theorem dX1_firstSign_1 : decode cX1_firstSign 1 = .ok (.iload_n 1, 1) := by decide +kernel
theorem dX1_firstSign_2 : decode cX1_firstSign 2 = .ok (.iconst 0, 1) := by decide +kernel
theorem dX1_firstSign_3 : decode cX1_firstSign 3 = .ok (.invokevirtual 41, 3) := by decide +kernel
theorem dX1_firstSign_6 : decode cX1_firstSign 6 = .ok (.ireturn, 1) := by decide +kernel
theorem dX1_lastSign_0 : decode cX1_lastSign 0 = .ok (.aload_n 0, 1) := by decide +kernel
theorem dX1_lastSign_1 : decode cX1_lastSign 1 = .ok (.getfield 9, 3) := by decide +kernel
theorem dX1_lastSign_4 : decode cX1_lastSign 4 = .ok (.iload_n 1, 1) := by decide +kernel
theorem dX1_lastSign_5 : decode cX1_lastSign 5 = .ok (.iaload, 1) := by decide +kernel
theorem dX1_lastSign_6 : decode cX1_lastSign 6 = .ok (.istore_n 2, 1) := by decide +kernel
theorem dX1_lastSign_7 : decode cX1_lastSign 7 = .ok (.iload_n 2, 1) := by decide +kernel
theorem dX1_lastSign_8 : decode cX1_lastSign 8 = .ok (.ifCond .le 14, 3) := by decide +kernel
theorem dX1_lastSign_11 : decode cX1_lastSign 11 = .ok (.aload_n 0, 1) := by decide +kernel
theorem dX1_lastSign_12 : decode cX1_lastSign 12 = .ok (.iload_n 1, 1) := by decide +kernel
theorem dX1_lastSign_13 : decode cX1_lastSign 13 = .ok (.iload_n 2, 1) := by decide +kernel
theorem dX1_lastSign_14 : decode cX1_lastSign 14 = .ok (.iconst 1, 1) := by decide +kernel
theorem dX1_lastSign_15 : decode cX1_lastSign 15 = .ok (.isub, 1) := by decide +kernel
theorem dX1_lastSign_16 : decode cX1_lastSign 16 = .ok (.invokevirtual 41, 3) := by decide +kernel
theorem dX1_lastSign_19 : decode cX1_lastSign 19 = .ok (.goto 5, 3) := by decide +kernel
theorem dX1_lastSign_22 : decode cX1_lastSign 22 = .ok (.bipush (-6), 2) := by decide +kernel
theorem dX1_lastSign_24 : decode cX1_lastSign 24 = .ok (.ireturn, 1) := by decide +kernel
theorem dX1_timesOf_0 : decode cX1_timesOf 0 = .ok (.iconst 0, 1) := by decide +kernel
theorem dX1_timesOf_1 : decode cX1_timesOf 1 = .ok (.istore_n 2, 1) := by decide +kernel
theorem dX1_timesOf_2 : decode cX1_timesOf 2 = .ok (.iconst 0, 1) := by decide +kernel
theorem dX1_timesOf_3 : decode cX1_timesOf 3 = .ok (.istore_n 3, 1) := by decide +kernel
theorem dX1_timesOf_4 : decode cX1_timesOf 4 = .ok (.iload_n 3, 1) := by decide +kernel
theorem dX1_timesOf_5 : decode cX1_timesOf 5 = .ok (.aload_n 0, 1) := by decide +kernel
theorem dX1_timesOf_6 : decode cX1_timesOf 6 = .ok (.getfield 33, 3) := by decide +kernel
theorem dX1_timesOf_9 : decode cX1_timesOf 9 = .ok (.if_icmp .ge 26, 3) := by decide +kernel
theorem dX1_timesOf_12 : decode cX1_timesOf 12 = .ok (.iload_n 1, 1) := by decide +kernel
theorem dX1_timesOf_13 : decode cX1_timesOf 13 = .ok (.iload_n 3, 1) := by decide +kernel
theorem dX1_timesOf_14 : decode cX1_timesOf 14 = .ok (.invokestatic 48, 3) := by decide +kernel
theorem dX1_timesOf_17 : decode cX1_timesOf 17 = .ok (.ifCond .eq 12, 3) := by decide +kernel
theorem dX1_timesOf_20 : decode cX1_timesOf 20 = .ok (.iload_n 2, 1) := by decide +kernel
theorem dX1_timesOf_21 : decode cX1_timesOf 21 = .ok (.aload_n 0, 1) := by decide +kernel
theorem dX1_timesOf_22 : decode cX1_timesOf 22 = .ok (.getfield 15, 3) := by decide +kernel
theorem dX1_timesOf_25 : decode cX1_timesOf 25 = .ok (.iload_n 3, 1) := by decide +kernel
theorem dX1_timesOf_26 : decode cX1_timesOf 26 = .ok (.iaload, 1) := by decide +kernel
theorem dX1_timesOf_27 : decode cX1_timesOf 27 = .ok (.iadd, 1) := by decide +kernel
theorem dX1_timesOf_28 : decode cX1_timesOf 28 = .ok (.istore_n 2, 1) := by decide +kernel
theorem dX1_timesOf_29 : decode cX1_timesOf 29 = .ok (.iinc 3 1, 3) := by decide +kernel
theorem dX1_timesOf_32 : decode cX1_timesOf 32 = .ok (.goto (-28), 3) := by decide +kernel
theorem dX1_timesOf_35 : decode cX1_timesOf 35 = .ok (.iload_n 2, 1) := by decide +kernel
theorem dX1_timesOf_36 : decode cX1_timesOf 36 = .ok (.ireturn, 1) := by decide +kernel
theorem dX1_hasLettersOf_0 : decode cX1_hasLettersOf 0 = .ok (.iconst 0, 1) := by decide +kernel
theorem dX1_hasLettersOf_1 : decode cX1_hasLettersOf 1 = .ok (.istore_n 2, 1) := by decide +kernel
theorem dX1_hasLettersOf_2 : decode cX1_hasLettersOf 2 = .ok (.iload_n 2, 1) := by decide +kernel
theorem dX1_hasLettersOf_3 : decode cX1_hasLettersOf 3 = .ok (.aload_n 0, 1) := by decide +kernel
theorem dX1_hasLettersOf_4 : decode cX1_hasLettersOf 4 = .ok (.getfield 33, 3) := by decide +kernel
theorem dX1_hasLettersOf_7 : decode cX1_hasLettersOf 7 = .ok (.if_icmp .ge 20, 3) := by decide +kernel
theorem dX1_hasLettersOf_10 : decode cX1_hasLettersOf 10 = .ok (.aload_n 0, 1) := by decide +kernel
theorem dX1_hasLettersOf_11 : decode cX1_hasLettersOf 11 = .ok (.iload_n 2, 1) := by decide +kernel
theorem dX1_hasLettersOf_12 : decode cX1_hasLettersOf 12 = .ok (.aload_n 1, 1) := by decide +kernel
theorem dX1_hasLettersOf_13 : decode cX1_hasLettersOf 13 = .ok (.invokevirtual 52, 3) := by decide +kernel
theorem dX1_hasLettersOf_16 : decode cX1_hasLettersOf 16 = .ok (.ifCond .eq 5, 3) := by decide +kernel
theorem dX1_hasLettersOf_19 : decode cX1_hasLettersOf 19 = .ok (.iconst 1, 1) := by decide +kernel
theorem dX1_hasLettersOf_20 : decode cX1_hasLettersOf 20 = .ok (.ireturn, 1) := by decide +kernel
theorem dX1_hasLettersOf_21 : decode cX1_hasLettersOf 21 = .ok (.iinc 2 1, 3) := by decide +kernel
theorem dX1_hasLettersOf_24 : decode cX1_hasLettersOf 24 = .ok (.goto (-22), 3) := by decide +kernel
theorem dX1_hasLettersOf_27 : decode cX1_hasLettersOf 27 = .ok (.iconst 0, 1) := by decide +kernel
theorem dX1_hasLettersOf_28 : decode cX1_hasLettersOf 28 = .ok (.ireturn, 1) := by decide +kernel
theorem dX1_hasLetters_0 : decode cX1_hasLetters 0 = .ok (.aload_n 0, 1) := by decide +kernel
theorem dX1_hasLetters_1 : decode cX1_hasLetters 1 = .ok (.getfield 9, 3) := by decide +kernel
theorem dX1_hasLetters_4 : decode cX1_hasLetters 4 = .ok (.iload_n 1, 1) := by decide +kernel
theorem dX1_hasLetters_5 : decode cX1_hasLetters 5 = .ok (.iaload, 1) := by decide +kernel
theorem dX1_hasLetters_6 : decode cX1_hasLetters 6 = .ok (.aload_n 2, 1) := by decide +kernel
theorem dX1_hasLetters_7 : decode cX1_hasLetters 7 = .ok (.invokevirtual 56, 3) := by decide +kernel
theorem dX1_hasLetters_10 : decode cX1_hasLetters 10 = .ok (.if_icmp .eq 5, 3) := by decide +kernel
theorem dX1_hasLetters_13 : decode cX1_hasLetters 13 = .ok (.iconst 0, 1) := by decide +kernel
theorem dX1_hasLetters_14 : decode cX1_hasLetters 14 = .ok (.ireturn, 1) := by decide +kernel
theorem dX1_hasLetters_15 : decode cX1_hasLetters 15 = .ok (.iconst 0, 1) := by decide +kernel
theorem dX1_hasLetters_16 : decode cX1_hasLetters 16 = .ok (.istore_n 3, 1) := by decide +kernel
theorem dX1_hasLetters_17 : decode cX1_hasLetters 17 = .ok (.iload_n 3, 1) := by decide +kernel
theorem dX1_hasLetters_18 : decode cX1_hasLetters 18 = .ok (.aload_n 0, 1) := by decide +kernel
theorem dX1_hasLetters_19 : decode cX1_hasLetters 19 = .ok (.getfield 9, 3) := by decide +kernel
theorem dX1_hasLetters_22 : decode cX1_hasLetters 22 = .ok (.iload_n 1, 1) := by decide +kernel
theorem dX1_hasLetters_23 : decode cX1_hasLetters 23 = .ok (.iaload, 1) := by decide +kernel
theorem dX1_hasLetters_24 : decode cX1_hasLetters 24 = .ok (.if_icmp .ge 25, 3) := by decide +kernel
theorem dX1_hasLetters_27 : decode cX1_hasLetters 27 = .ok (.aload_n 0, 1) := by decide +kernel
theorem dX1_hasLetters_28 : decode cX1_hasLetters 28 = .ok (.iload_n 1, 1) := by decide +kernel
theorem dX1_hasLetters_29 : decode cX1_hasLetters 29 = .ok (.iload_n 3, 1) := by decide +kernel
theorem dX1_hasLetters_30 : decode cX1_hasLetters 30 = .ok (.invokevirtual 41, 3) := by decide +kernel
theorem dX1_hasLetters_33 : decode cX1_hasLetters 33 = .ok (.aload_n 2, 1) := by decide +kernel
theorem dX1_hasLetters_34 : decode cX1_hasLetters 34 = .ok (.iload_n 3, 1) := by decide +kernel
theorem dX1_hasLetters_35 : decode cX1_hasLetters 35 = .ok (.invokevirtual 61, 3) := by decide +kernel
theorem dX1_hasLetters_38 : decode cX1_hasLetters 38 = .ok (.if_icmp .eq 5, 3) := by decide +kernel
theorem dX1_hasLetters_41 : decode cX1_hasLetters 41 = .ok (.iconst 0, 1) := by decide +kernel
theorem dX1_hasLetters_42 : decode cX1_hasLetters 42 = .ok (.ireturn, 1) := by decide +kernel
theorem dX1_hasLetters_43 : decode cX1_hasLetters 43 = .ok (.iinc 3 1, 3) := by decide +kernel
theorem dX1_hasLetters_46 : decode cX1_hasLetters 46 = .ok (.goto (-29), 3) := by decide +kernel
theorem dX1_hasLetters_49 : decode cX1_hasLetters 49 = .ok (.iconst 1, 1) := by decide +kernel
theorem dX1_hasLetters_50 : decode cX1_hasLetters 50 = .ok (.ireturn, 1) := by decide +kernel
theorem dX1_add_0 : decode cX1_add 0 = .ok (.aload_n 0, 1) := by decide +kernel
theorem dX1_add_1 : decode cX1_add 1 = .ok (.getfield 33, 3) := by decide +kernel
theorem dX1_add_4 : decode cX1_add 4 = .ok (.istore_n 3, 1) := by decide +kernel
theorem dX1_add_5 : decode cX1_add 5 = .ok (.aload_n 1, 1) := by decide +kernel
theorem dX1_add_6 : decode cX1_add 6 = .ok (.invokevirtual 56, 3) := by decide +kernel
theorem dX1_add_9 : decode cX1_add 9 = .ok (.istore 4, 2) := by decide +kernel
theorem dX1_add_11 : decode cX1_add 11 = .ok (.iload_n 3, 1) := by decide +kernel
theorem dX1_add_12 : decode cX1_add 12 = .ok (.bipush 12, 2) := by decide +kernel
theorem dX1_add_14 : decode cX1_add 14 = .ok (.if_icmp .ge 9, 3) := by decide +kernel
theorem dX1_add_17 : decode cX1_add 17 = .ok (.iload 4, 2) := by decide +kernel
theorem dX1_add_19 : decode cX1_add 19 = .ok (.iconst 5, 1) := by decide +kernel
theorem dX1_add_20 : decode cX1_add 20 = .ok (.if_icmp .le 4, 3) := by decide +kernel
theorem dX1_add_23 : decode cX1_add 23 = .ok (.return_, 1) := by decide +kernel
theorem dX1_add_24 : decode cX1_add 24 = .ok (.aload_n 0, 1) := by decide +kernel
theorem dX1_add_25 : decode cX1_add 25 = .ok (.getfield 9, 3) := by decide +kernel
theorem dX1_add_28 : decode cX1_add 28 = .ok (.iload_n 3, 1) := by decide +kernel
theorem dX1_add_29 : decode cX1_add 29 = .ok (.iload 4, 2) := by decide +kernel
theorem dX1_add_31 : decode cX1_add 31 = .ok (.iastore, 1) := by decide +kernel
theorem dX1_add_32 : decode cX1_add 32 = .ok (.aload_n 0, 1) := by decide +kernel
theorem dX1_add_33 : decode cX1_add 33 = .ok (.getfield 15, 3) := by decide +kernel
theorem dX1_add_36 : decode cX1_add 36 = .ok (.iload_n 3, 1) := by decide +kernel
theorem dX1_add_37 : decode cX1_add 37 = .ok (.iload_n 2, 1) := by decide +kernel
theorem dX1_add_38 : decode cX1_add 38 = .ok (.iastore, 1) := by decide +kernel
theorem dX1_add_39 : decode cX1_add 39 = .ok (.aload_n 0, 1) := by decide +kernel
theorem dX1_add_40 : decode cX1_add 40 = .ok (.getfield 18, 3) := by decide +kernel
theorem dX1_add_43 : decode cX1_add 43 = .ok (.iload_n 3, 1) := by decide +kernel
theorem dX1_add_44 : decode cX1_add 44 = .ok (.iconst 0, 1) := by decide +kernel
theorem dX1_add_45 : decode cX1_add 45 = .ok (.iastore, 1) := by decide +kernel
theorem dX1_add_46 : decode cX1_add 46 = .ok (.iconst 0, 1) := by decide +kernel
theorem dX1_add_47 : decode cX1_add 47 = .ok (.istore 5, 2) := by decide +kernel
theorem dX1_add_49 : decode cX1_add 49 = .ok (.iload 5, 2) := by decide +kernel
theorem dX1_add_51 : decode cX1_add 51 = .ok (.iload 4, 2) := by decide +kernel
theorem dX1_add_53 : decode cX1_add 53 = .ok (.if_icmp .ge 60, 3) := by decide +kernel
theorem dX1_add_56 : decode cX1_add 56 = .ok (.aload_n 0, 1) := by decide +kernel
theorem dX1_add_57 : decode cX1_add 57 = .ok (.getfield 21, 3) := by decide +kernel
theorem dX1_add_60 : decode cX1_add 60 = .ok (.iload_n 3, 1) := by decide +kernel
theorem dX1_add_61 : decode cX1_add 61 = .ok (.iconst 5, 1) := by decide +kernel
theorem dX1_add_62 : decode cX1_add 62 = .ok (.imul, 1) := by decide +kernel
theorem dX1_add_63 : decode cX1_add 63 = .ok (.iload 5, 2) := by decide +kernel
theorem dX1_add_65 : decode cX1_add 65 = .ok (.iadd, 1) := by decide +kernel
theorem dX1_add_66 : decode cX1_add 66 = .ok (.aload_n 1, 1) := by decide +kernel
theorem dX1_add_67 : decode cX1_add 67 = .ok (.iload 5, 2) := by decide +kernel
theorem dX1_add_69 : decode cX1_add 69 = .ok (.invokevirtual 61, 3) := by decide +kernel
theorem dX1_add_72 : decode cX1_add 72 = .ok (.iastore, 1) := by decide +kernel
theorem dX1_add_73 : decode cX1_add 73 = .ok (.aload_n 0, 1) := by decide +kernel
theorem dX1_add_74 : decode cX1_add 74 = .ok (.getfield 24, 3) := by decide +kernel
theorem dX1_add_77 : decode cX1_add 77 = .ok (.iload_n 3, 1) := by decide +kernel
theorem dX1_add_78 : decode cX1_add 78 = .ok (.iconst 5, 1) := by decide +kernel
theorem dX1_add_79 : decode cX1_add 79 = .ok (.imul, 1) := by decide +kernel
theorem dX1_add_80 : decode cX1_add 80 = .ok (.iload 5, 2) := by decide +kernel
theorem dX1_add_82 : decode cX1_add 82 = .ok (.iadd, 1) := by decide +kernel
theorem dX1_add_83 : decode cX1_add 83 = .ok (.aload_n 1, 1) := by decide +kernel
theorem dX1_add_84 : decode cX1_add 84 = .ok (.iload 5, 2) := by decide +kernel
theorem dX1_add_86 : decode cX1_add 86 = .ok (.invokevirtual 65, 3) := by decide +kernel
theorem dX1_add_89 : decode cX1_add 89 = .ok (.iastore, 1) := by decide +kernel
theorem dX1_add_90 : decode cX1_add 90 = .ok (.aload_n 0, 1) := by decide +kernel
theorem dX1_add_91 : decode cX1_add 91 = .ok (.getfield 18, 3) := by decide +kernel
theorem dX1_add_94 : decode cX1_add 94 = .ok (.iload_n 3, 1) := by decide +kernel
theorem dX1_add_95 : decode cX1_add 95 = .ok (.dup2, 1) := by decide +kernel
theorem dX1_add_96 : decode cX1_add 96 = .ok (.iaload, 1) := by decide +kernel
theorem dX1_add_97 : decode cX1_add 97 = .ok (.iconst 1, 1) := by decide +kernel
theorem dX1_add_98 : decode cX1_add 98 = .ok (.aload_n 1, 1) := by decide +kernel
theorem dX1_add_99 : decode cX1_add 99 = .ok (.iload 5, 2) := by decide +kernel
theorem dX1_add_101 : decode cX1_add 101 = .ok (.invokevirtual 61, 3) := by decide +kernel
theorem dX1_add_104 : decode cX1_add 104 = .ok (.ishl, 1) := by decide +kernel
theorem dX1_add_105 : decode cX1_add 105 = .ok (.ior, 1) := by decide +kernel
theorem dX1_add_106 : decode cX1_add 106 = .ok (.iastore, 1) := by decide +kernel
theorem dX1_add_107 : decode cX1_add 107 = .ok (.iinc 5 1, 3) := by decide +kernel
theorem dX1_add_110 : decode cX1_add 110 = .ok (.goto (-61), 3) := by decide +kernel
theorem dX1_add_113 : decode cX1_add 113 = .ok (.aload_n 0, 1) := by decide +kernel
theorem dX1_add_114 : decode cX1_add 114 = .ok (.dup, 1) := by decide +kernel
theorem dX1_add_115 : decode cX1_add 115 = .ok (.getfield 33, 3) := by decide +kernel
theorem dX1_add_118 : decode cX1_add 118 = .ok (.iconst 1, 1) := by decide +kernel
theorem dX1_add_119 : decode cX1_add 119 = .ok (.iadd, 1) := by decide +kernel
theorem dX1_add_120 : decode cX1_add 120 = .ok (.putfield 33, 3) := by decide +kernel
theorem dX1_add_123 : decode cX1_add 123 = .ok (.return_, 1) := by decide +kernel
theorem dX2_init_0 : decode cX2_init 0 = .ok (.aload_n 0, 1) := by decide +kernel
theorem dX2_init_1 : decode cX2_init 1 = .ok (.invokespecial 3, 3) := by decide +kernel
theorem dX2_init_4 : decode cX2_init 4 = .ok (.aload_n 0, 1) := by decide +kernel
theorem dX2_init_5 : decode cX2_init 5 = .ok (.iconst 4, 1) := by decide +kernel
theorem dX2_init_6 : decode cX2_init 6 = .ok (.newarray .int, 2) := by decide +kernel
theorem dX2_init_8 : decode cX2_init 8 = .ok (.putfield 9, 3) := by decide +kernel
theorem dX2_init_11 : decode cX2_init 11 = .ok (.aload_n 0, 1) := by decide +kernel
theorem dX2_init_12 : decode cX2_init 12 = .ok (.iconst 4, 1) := by decide +kernel
theorem dX2_init_13 : decode cX2_init 13 = .ok (.newarray .int, 2) := by decide +kernel
theorem dX2_init_15 : decode cX2_init 15 = .ok (.putfield 15, 3) := by decide +kernel
theorem dX2_init_18 : decode cX2_init 18 = .ok (.aload_n 0, 1) := by decide +kernel
theorem dX2_init_19 : decode cX2_init 19 = .ok (.iconst 4, 1) := by decide +kernel
theorem dX2_init_20 : decode cX2_init 20 = .ok (.newarray .int, 2) := by decide +kernel
theorem dX2_init_22 : decode cX2_init 22 = .ok (.putfield 18, 3) := by decide +kernel
theorem dX2_init_25 : decode cX2_init 25 = .ok (.aload_n 0, 1) := by decide +kernel
theorem dX2_init_26 : decode cX2_init 26 = .ok (.iconst 4, 1) := by decide +kernel
theorem dX2_init_27 : decode cX2_init 27 = .ok (.newarray .int, 2) := by decide +kernel
theorem dX2_init_29 : decode cX2_init 29 = .ok (.putfield 21, 3) := by decide +kernel
theorem dX2_init_32 : decode cX2_init 32 = .ok (.aload_n 0, 1) := by decide +kernel
theorem dX2_init_33 : decode cX2_init 33 = .ok (.getfield 18, 3) := by decide +kernel
theorem dX2_init_36 : decode cX2_init 36 = .ok (.iconst (-1), 1) := by decide +kernel
theorem dX2_init_37 : decode cX2_init 37 = .ok (.invokestatic 24, 3) := by decide +kernel
theorem dX2_init_40 : decode cX2_init 40 = .ok (.aload_n 0, 1) := by decide +kernel
theorem dX2_init_41 : decode cX2_init 41 = .ok (.getfield 21, 3) := by decide +kernel
theorem dX2_init_44 : decode cX2_init 44 = .ok (.iconst (-1), 1) := by decide +kernel
theorem dX2_init_45 : decode cX2_init 45 = .ok (.invokestatic 24, 3) := by decide +kernel
theorem dX2_init_48 : decode cX2_init 48 = .ok (.return_, 1) := by decide +kernel
theorem dX2_copyFrom_0 : decode cX2_copyFrom 0 = .ok (.aload_n 1, 1) := by decide +kernel
theorem dX2_copyFrom_1 : decode cX2_copyFrom 1 = .ok (.getfield 9, 3) := by decide +kernel
theorem dX2_copyFrom_4 : decode cX2_copyFrom 4 = .ok (.iconst 0, 1) := by decide +kernel
theorem dX2_copyFrom_5 : decode cX2_copyFrom 5 = .ok (.aload_n 0, 1) := by decide +kernel
theorem dX2_copyFrom_6 : decode cX2_copyFrom 6 = .ok (.getfield 9, 3) := by decide +kernel
theorem dX2_copyFrom_9 : decode cX2_copyFrom 9 = .ok (.iconst 0, 1) := by decide +kernel
theorem dX2_copyFrom_10 : decode cX2_copyFrom 10 = .ok (.iconst 4, 1) := by decide +kernel
theorem dX2_copyFrom_11 : decode cX2_copyFrom 11 = .ok (.invokestatic 30, 3) := by decide +kernel
theorem dX2_copyFrom_14 : decode cX2_copyFrom 14 = .ok (.aload_n 1, 1) := by decide +kernel
theorem dX2_copyFrom_15 : decode cX2_copyFrom 15 = .ok (.getfield 15, 3) := by decide +kernel
theorem dX2_copyFrom_18 : decode cX2_copyFrom 18 = .ok (.iconst 0, 1) := by decide +kernel
theorem dX2_copyFrom_19 : decode cX2_copyFrom 19 = .ok (.aload_n 0, 1) := by decide +kernel
theorem dX2_copyFrom_20 : decode cX2_copyFrom 20 = .ok (.getfield 15, 3) := by decide +kernel
theorem dX2_copyFrom_23 : decode cX2_copyFrom 23 = .ok (.iconst 0, 1) := by decide +kernel
theorem dX2_copyFrom_24 : decode cX2_copyFrom 24 = .ok (.iconst 4, 1) := by decide +kernel
theorem dX2_copyFrom_25 : decode cX2_copyFrom 25 = .ok (.invokestatic 30, 3) := by decide +kernel
theorem dX2_copyFrom_28 : decode cX2_copyFrom 28 = .ok (.aload_n 1, 1) := by decide +kernel
theorem dX2_copyFrom_29 : decode cX2_copyFrom 29 = .ok (.getfield 18, 3) := by decide +kernel
theorem dX2_copyFrom_32 : decode cX2_copyFrom 32 = .ok (.iconst 0, 1) := by decide +kernel
theorem dX2_copyFrom_33 : decode cX2_copyFrom 33 = .ok (.aload_n 0, 1) := by decide +kernel
theorem dX2_copyFrom_34 : decode cX2_copyFrom 34 = .ok (.getfield 18, 3) := by decide +kernel
theorem dX2_copyFrom_37 : decode cX2_copyFrom 37 = .ok (.iconst 0, 1) := by decide +kernel
theorem dX2_copyFrom_38 : decode cX2_copyFrom 38 = .ok (.iconst 4, 1) := by decide +kernel
theorem dX2_copyFrom_39 : decode cX2_copyFrom 39 = .ok (.invokestatic 30, 3) := by decide +kernel
theorem dX2_copyFrom_42 : decode cX2_copyFrom 42 = .ok (.aload_n 1, 1) := by decide +kernel
theorem dX2_copyFrom_43 : decode cX2_copyFrom 43 = .ok (.getfield 21, 3) := by decide +kernel
theorem dX2_copyFrom_46 : decode cX2_copyFrom 46 = .ok (.iconst 0, 1) := by decide +kernel
theorem dX2_copyFrom_47 : decode cX2_copyFrom 47 = .ok (.aload_n 0, 1) := by decide +kernel
theorem dX2_copyFrom_48 : decode cX2_copyFrom 48 = .ok (.getfield 21, 3) := by decide +kernel
theorem dX2_copyFrom_51 : decode cX2_copyFrom 51 = .ok (.iconst 0, 1) := by decide +kernel
theorem dX2_copyFrom_52 : decode cX2_copyFrom 52 = .ok (.iconst 4, 1) := by decide +kernel
theorem dX2_copyFrom_53 : decode cX2_copyFrom 53 = .ok (.invokestatic 30, 3) := by decide +kernel
theorem dX2_copyFrom_56 : decode cX2_copyFrom 56 = .ok (.return_, 1) := by decide +kernel
theorem dX2_mixedUp_0 : decode cX2_mixedUp 0 = .ok (.aload_n 0, 1) := by decide +kernel
theorem dX2_mixedUp_1 : decode cX2_mixedUp 1 = .ok (.getfield 18, 3) := by decide +kernel
theorem dX2_mixedUp_4 : decode cX2_mixedUp 4 = .ok (.iload_n 1, 1) := by decide +kernel
theorem dX2_mixedUp_5 : decode cX2_mixedUp 5 = .ok (.iaload, 1) := by decide +kernel
theorem dX2_mixedUp_6 : decode cX2_mixedUp 6 = .ok (.ifCond .ge 8, 3) := by decide +kernel
theorem dX2_mixedUp_9 : decode cX2_mixedUp 9 = .ok (.bipush (-6), 2) := by decide +kernel
theorem dX2_mixedUp_11 : decode cX2_mixedUp 11 = .ok (.goto 19, 3) := by decide +kernel
theorem dX2_mixedUp_14 : decode cX2_mixedUp 14 = .ok (.bipush 10, 2) := by decide +kernel
theorem dX2_mixedUp_16 : decode cX2_mixedUp 16 = .ok (.aload_n 0, 1) := by decide +kernel
theorem dX2_mixedUp_17 : decode cX2_mixedUp 17 = .ok (.getfield 18, 3) := by decide +kernel
theorem dX2_mixedUp_20 : decode cX2_mixedUp 20 = .ok (.iload_n 1, 1) := by decide +kernel
theorem dX2_mixedUp_21 : decode cX2_mixedUp 21 = .ok (.iaload, 1) := by decide +kernel
theorem dX2_mixedUp_22 : decode cX2_mixedUp 22 = .ok (.imul, 1) := by decide +kernel
theorem dX2_mixedUp_23 : decode cX2_mixedUp 23 = .ok (.aload_n 0, 1) := by decide +kernel
theorem dX2_mixedUp_24 : decode cX2_mixedUp 24 = .ok (.getfield 21, 3) := by decide +kernel
theorem dX2_mixedUp_27 : decode cX2_mixedUp 27 = .ok (.iload_n 1, 1) := by decide +kernel
theorem dX2_mixedUp_28 : decode cX2_mixedUp 28 = .ok (.iaload, 1) := by decide +kernel
theorem dX2_mixedUp_29 : decode cX2_mixedUp 29 = .ok (.iadd, 1) := by decide +kernel
theorem dX2_mixedUp_30 : decode cX2_mixedUp 30 = .ok (.ireturn, 1) := by decide +kernel
theorem dX2_takenFor_0 : decode cX2_takenFor 0 = .ok (.iload_n 2, 1) := by decide +kernel
theorem dX2_takenFor_1 : decode cX2_takenFor 1 = .ok (.aload_n 0, 1) := by decide +kernel
theorem dX2_takenFor_2 : decode cX2_takenFor 2 = .ok (.getfield 18, 3) := by decide +kernel
theorem dX2_takenFor_5 : decode cX2_takenFor 5 = .ok (.iload_n 1, 1) := by decide +kernel
theorem dX2_takenFor_6 : decode cX2_takenFor 6 = .ok (.iaload, 1) := by decide +kernel
theorem dX2_takenFor_7 : decode cX2_takenFor 7 = .ok (.if_icmp .ne 10, 3) := by decide +kernel
theorem dX2_takenFor_10 : decode cX2_takenFor 10 = .ok (.aload_n 0, 1) := by decide +kernel
theorem dX2_takenFor_11 : decode cX2_takenFor 11 = .ok (.getfield 21, 3) := by decide +kernel
theorem dX2_takenFor_14 : decode cX2_takenFor 14 = .ok (.iload_n 1, 1) := by decide +kernel
theorem dX2_takenFor_15 : decode cX2_takenFor 15 = .ok (.iaload, 1) := by decide +kernel
theorem dX2_takenFor_16 : decode cX2_takenFor 16 = .ok (.ireturn, 1) := by decide +kernel
theorem dX2_takenFor_17 : decode cX2_takenFor 17 = .ok (.iload_n 2, 1) := by decide +kernel
theorem dX2_takenFor_18 : decode cX2_takenFor 18 = .ok (.aload_n 0, 1) := by decide +kernel
theorem dX2_takenFor_19 : decode cX2_takenFor 19 = .ok (.getfield 21, 3) := by decide +kernel
theorem dX2_takenFor_22 : decode cX2_takenFor 22 = .ok (.iload_n 1, 1) := by decide +kernel
theorem dX2_takenFor_23 : decode cX2_takenFor 23 = .ok (.iaload, 1) := by decide +kernel
theorem dX2_takenFor_24 : decode cX2_takenFor 24 = .ok (.if_icmp .ne 12, 3) := by decide +kernel
theorem dX2_takenFor_27 : decode cX2_takenFor 27 = .ok (.aload_n 0, 1) := by decide +kernel
theorem dX2_takenFor_28 : decode cX2_takenFor 28 = .ok (.getfield 18, 3) := by decide +kernel
theorem dX2_takenFor_31 : decode cX2_takenFor 31 = .ok (.iload_n 1, 1) := by decide +kernel
theorem dX2_takenFor_32 : decode cX2_takenFor 32 = .ok (.iaload, 1) := by decide +kernel
theorem dX2_takenFor_33 : decode cX2_takenFor 33 = .ok (.goto 4, 3) := by decide +kernel
theorem dX2_takenFor_36 : decode cX2_takenFor 36 = .ok (.iload_n 2, 1) := by decide +kernel
theorem dX2_takenFor_37 : decode cX2_takenFor 37 = .ok (.ireturn, 1) := by decide +kernel
theorem dX3_init_0 : decode cX3_init 0 = .ok (.aload_n 0, 1) := by decide +kernel
theorem dX3_init_1 : decode cX3_init 1 = .ok (.invokespecial 3, 3) := by decide +kernel
theorem dX3_init_4 : decode cX3_init 4 = .ok (.aload_n 0, 1) := by decide +kernel
theorem dX3_init_5 : decode cX3_init 5 = .ok (.aload_n 1, 1) := by decide +kernel
theorem dX3_init_6 : decode cX3_init 6 = .ok (.putfield 9, 3) := by decide +kernel
theorem dX3_init_9 : decode cX3_init 9 = .ok (.aload_n 0, 1) := by decide +kernel
theorem dX3_init_10 : decode cX3_init 10 = .ok (.aload_n 2, 1) := by decide +kernel
theorem dX3_init_11 : decode cX3_init 11 = .ok (.putfield 15, 3) := by decide +kernel
theorem dX3_init_14 : decode cX3_init 14 = .ok (.aload_n 0, 1) := by decide +kernel
theorem dX3_init_15 : decode cX3_init 15 = .ok (.aload_n 3, 1) := by decide +kernel
theorem dX3_init_16 : decode cX3_init 16 = .ok (.putfield 19, 3) := by decide +kernel
theorem dX3_init_19 : decode cX3_init 19 = .ok (.aload_n 0, 1) := by decide +kernel
theorem dX3_init_20 : decode cX3_init 20 = .ok (.bipush 20, 2) := by decide +kernel
theorem dX3_init_22 : decode cX3_init 22 = .ok (.newarray .int, 2) := by decide +kernel
theorem dX3_init_24 : decode cX3_init 24 = .ok (.putfield 23, 3) := by decide +kernel
theorem dX3_init_27 : decode cX3_init 27 = .ok (.aload_n 0, 1) := by decide +kernel
theorem dX3_init_28 : decode cX3_init 28 = .ok (.bipush 12, 2) := by decide +kernel
theorem dX3_init_30 : decode cX3_init 30 = .ok (.newarray .int, 2) := by decide +kernel
theorem dX3_init_32 : decode cX3_init 32 = .ok (.putfield 27, 3) := by decide +kernel
theorem dX3_init_35 : decode cX3_init 35 = .ok (.aload_n 0, 1) := by decide +kernel
theorem dX3_init_36 : decode cX3_init 36 = .ok (.bipush 10, 2) := by decide +kernel
theorem dX3_init_38 : decode cX3_init 38 = .ok (.newarray .int, 2) := by decide +kernel
theorem dX3_init_40 : decode cX3_init 40 = .ok (.putfield 30, 3) := by decide +kernel
theorem dX3_init_43 : decode cX3_init 43 = .ok (.return_, 1) := by decide +kernel
theorem dX3_hear_0 : decode cX3_hear 0 = .ok (.aload_n 0, 1) := by decide +kernel
theorem dX3_hear_1 : decode cX3_hear 1 = .ok (.iconst 0, 1) := by decide +kernel
theorem dX3_hear_2 : decode cX3_hear 2 = .ok (.putfield 33, 3) := by decide +kernel
theorem dX3_hear_5 : decode cX3_hear 5 = .ok (.aload_n 0, 1) := by decide +kernel
theorem dX3_hear_6 : decode cX3_hear 6 = .ok (.iconst 0, 1) := by decide +kernel
theorem dX3_hear_7 : decode cX3_hear 7 = .ok (.putfield 37, 3) := by decide +kernel
theorem dX3_hear_10 : decode cX3_hear 10 = .ok (.aload_n 0, 1) := by decide +kernel
theorem dX3_hear_11 : decode cX3_hear 11 = .ok (.iconst 0, 1) := by decide +kernel
theorem dX3_hear_12 : decode cX3_hear 12 = .ok (.putfield 40, 3) := by decide +kernel
theorem dX3_hear_15 : decode cX3_hear 15 = .ok (.iconst 0, 1) := by decide +kernel
theorem dX3_hear_16 : decode cX3_hear 16 = .ok (.istore_n 1, 1) := by decide +kernel
theorem dX3_hear_17 : decode cX3_hear 17 = .ok (.iload_n 1, 1) := by decide +kernel
theorem dX3_hear_18 : decode cX3_hear 18 = .ok (.aload_n 0, 1) := by decide +kernel
theorem dX3_hear_19 : decode cX3_hear 19 = .ok (.getfield 19, 3) := by decide +kernel
theorem dX3_hear_22 : decode cX3_hear 22 = .ok (.getfield 44, 3) := by decide +kernel
theorem dX3_hear_25 : decode cX3_hear 25 = .ok (.if_icmp .ge 111, 3) := by decide +kernel
theorem dX3_hear_28 : decode cX3_hear 28 = .ok (.aload_n 0, 1) := by decide +kernel
theorem dX3_hear_29 : decode cX3_hear 29 = .ok (.getfield 19, 3) := by decide +kernel
theorem dX3_hear_32 : decode cX3_hear 32 = .ok (.getfield 49, 3) := by decide +kernel
theorem dX3_hear_35 : decode cX3_hear 35 = .ok (.iload_n 1, 1) := by decide +kernel
theorem dX3_hear_36 : decode cX3_hear 36 = .ok (.iaload, 1) := by decide +kernel
theorem dX3_hear_37 : decode cX3_hear 37 = .ok (.istore_n 2, 1) := by decide +kernel
theorem dX3_hear_38 : decode cX3_hear 38 = .ok (.aload_n 0, 1) := by decide +kernel
theorem dX3_hear_39 : decode cX3_hear 39 = .ok (.getfield 15, 3) := by decide +kernel
theorem dX3_hear_42 : decode cX3_hear 42 = .ok (.iload_n 2, 1) := by decide +kernel
theorem dX3_hear_43 : decode cX3_hear 43 = .ok (.invokevirtual 52, 3) := by decide +kernel
theorem dX3_hear_46 : decode cX3_hear 46 = .ok (.istore_n 3, 1) := by decide +kernel
theorem dX3_hear_47 : decode cX3_hear 47 = .ok (.aload_n 0, 1) := by decide +kernel
theorem dX3_hear_48 : decode cX3_hear 48 = .ok (.getfield 19, 3) := by decide +kernel
theorem dX3_hear_51 : decode cX3_hear 51 = .ok (.getfield 58, 3) := by decide +kernel
theorem dX3_hear_54 : decode cX3_hear 54 = .ok (.iload_n 1, 1) := by decide +kernel
theorem dX3_hear_55 : decode cX3_hear 55 = .ok (.baload, 1) := by decide +kernel
theorem dX3_hear_56 : decode cX3_hear 56 = .ok (.ifCond .eq 42, 3) := by decide +kernel
theorem dX3_hear_59 : decode cX3_hear 59 = .ok (.aload_n 0, 1) := by decide +kernel
theorem dX3_hear_60 : decode cX3_hear 60 = .ok (.dup, 1) := by decide +kernel
theorem dX3_hear_61 : decode cX3_hear 61 = .ok (.getfield 37, 3) := by decide +kernel
theorem dX3_hear_64 : decode cX3_hear 64 = .ok (.aload_n 0, 1) := by decide +kernel
theorem dX3_hear_65 : decode cX3_hear 65 = .ok (.getfield 9, 3) := by decide +kernel
theorem dX3_hear_68 : decode cX3_hear 68 = .ok (.getfield 62, 3) := by decide +kernel
theorem dX3_hear_71 : decode cX3_hear 71 = .ok (.iload_n 2, 1) := by decide +kernel
theorem dX3_hear_72 : decode cX3_hear 72 = .ok (.iaload, 1) := by decide +kernel
theorem dX3_hear_73 : decode cX3_hear 73 = .ok (.ior, 1) := by decide +kernel
theorem dX3_hear_74 : decode cX3_hear 74 = .ok (.putfield 37, 3) := by decide +kernel
theorem dX3_hear_77 : decode cX3_hear 77 = .ok (.aload_n 0, 1) := by decide +kernel
theorem dX3_hear_78 : decode cX3_hear 78 = .ok (.dup, 1) := by decide +kernel
theorem dX3_hear_79 : decode cX3_hear 79 = .ok (.getfield 40, 3) := by decide +kernel
theorem dX3_hear_82 : decode cX3_hear 82 = .ok (.iload_n 3, 1) := by decide +kernel
theorem dX3_hear_83 : decode cX3_hear 83 = .ok (.ifCond .ne 7, 3) := by decide +kernel
theorem dX3_hear_86 : decode cX3_hear 86 = .ok (.iconst 1, 1) := by decide +kernel
theorem dX3_hear_87 : decode cX3_hear 87 = .ok (.goto 4, 3) := by decide +kernel
theorem dX3_hear_90 : decode cX3_hear 90 = .ok (.iconst 0, 1) := by decide +kernel
theorem dX3_hear_91 : decode cX3_hear 91 = .ok (.ior, 1) := by decide +kernel
theorem dX3_hear_92 : decode cX3_hear 92 = .ok (.putfield 40, 3) := by decide +kernel
theorem dX3_hear_95 : decode cX3_hear 95 = .ok (.goto 35, 3) := by decide +kernel
theorem dX3_hear_98 : decode cX3_hear 98 = .ok (.iload_n 3, 1) := by decide +kernel
theorem dX3_hear_99 : decode cX3_hear 99 = .ok (.ifCond .eq 31, 3) := by decide +kernel
theorem dX3_hear_102 : decode cX3_hear 102 = .ok (.aload_n 0, 1) := by decide +kernel
theorem dX3_hear_103 : decode cX3_hear 103 = .ok (.getfield 23, 3) := by decide +kernel
theorem dX3_hear_106 : decode cX3_hear 106 = .ok (.aload_n 0, 1) := by decide +kernel
theorem dX3_hear_107 : decode cX3_hear 107 = .ok (.getfield 33, 3) := by decide +kernel
theorem dX3_hear_110 : decode cX3_hear 110 = .ok (.aload_n 0, 1) := by decide +kernel
theorem dX3_hear_111 : decode cX3_hear 111 = .ok (.getfield 9, 3) := by decide +kernel
theorem dX3_hear_114 : decode cX3_hear 114 = .ok (.getfield 62, 3) := by decide +kernel
theorem dX3_hear_117 : decode cX3_hear 117 = .ok (.iload_n 2, 1) := by decide +kernel
theorem dX3_hear_118 : decode cX3_hear 118 = .ok (.iaload, 1) := by decide +kernel
theorem dX3_hear_119 : decode cX3_hear 119 = .ok (.iastore, 1) := by decide +kernel
theorem dX3_hear_120 : decode cX3_hear 120 = .ok (.aload_n 0, 1) := by decide +kernel
theorem dX3_hear_121 : decode cX3_hear 121 = .ok (.dup, 1) := by decide +kernel
theorem dX3_hear_122 : decode cX3_hear 122 = .ok (.getfield 33, 3) := by decide +kernel
theorem dX3_hear_125 : decode cX3_hear 125 = .ok (.iconst 1, 1) := by decide +kernel
theorem dX3_hear_126 : decode cX3_hear 126 = .ok (.iadd, 1) := by decide +kernel
theorem dX3_hear_127 : decode cX3_hear 127 = .ok (.putfield 33, 3) := by decide +kernel
theorem dX3_hear_130 : decode cX3_hear 130 = .ok (.iinc 1 1, 3) := by decide +kernel
theorem dX3_hear_133 : decode cX3_hear 133 = .ok (.goto (-116), 3) := by decide +kernel
theorem dX3_hear_136 : decode cX3_hear 136 = .ok (.return_, 1) := by decide +kernel
theorem dX3_fits_0 : decode cX3_fits 0 = .ok (.aload_n 0, 1) := by decide +kernel
theorem dX3_fits_1 : decode cX3_fits 1 = .ok (.getfield 40, 3) := by decide +kernel
theorem dX3_fits_4 : decode cX3_fits 4 = .ok (.ifCond .ne 12, 3) := by decide +kernel
theorem dX3_fits_7 : decode cX3_fits 7 = .ok (.iload_n 1, 1) := by decide +kernel
theorem dX3_fits_8 : decode cX3_fits 8 = .ok (.aload_n 0, 1) := by decide +kernel
theorem dX3_fits_9 : decode cX3_fits 9 = .ok (.getfield 37, 3) := by decide +kernel
theorem dX3_fits_12 : decode cX3_fits 12 = .ok (.iand, 1) := by decide +kernel
theorem dX3_fits_13 : decode cX3_fits 13 = .ok (.ifCond .eq 5, 3) := by decide +kernel
theorem dX3_fits_16 : decode cX3_fits 16 = .ok (.iconst 0, 1) := by decide +kernel
theorem dX3_fits_17 : decode cX3_fits 17 = .ok (.ireturn, 1) := by decide +kernel
theorem dX3_fits_18 : decode cX3_fits 18 = .ok (.iconst 0, 1) := by decide +kernel
theorem dX3_fits_19 : decode cX3_fits 19 = .ok (.istore_n 2, 1) := by decide +kernel
theorem dX3_fits_20 : decode cX3_fits 20 = .ok (.iload_n 2, 1) := by decide +kernel
theorem dX3_fits_21 : decode cX3_fits 21 = .ok (.aload_n 0, 1) := by decide +kernel
theorem dX3_fits_22 : decode cX3_fits 22 = .ok (.getfield 33, 3) := by decide +kernel
theorem dX3_fits_25 : decode cX3_fits 25 = .ok (.if_icmp .ge 22, 3) := by decide +kernel
theorem dX3_fits_28 : decode cX3_fits 28 = .ok (.iload_n 1, 1) := by decide +kernel
theorem dX3_fits_29 : decode cX3_fits 29 = .ok (.aload_n 0, 1) := by decide +kernel
theorem dX3_fits_30 : decode cX3_fits 30 = .ok (.getfield 23, 3) := by decide +kernel
theorem dX3_fits_33 : decode cX3_fits 33 = .ok (.iload_n 2, 1) := by decide +kernel
theorem dX3_fits_34 : decode cX3_fits 34 = .ok (.iaload, 1) := by decide +kernel
theorem dX3_fits_35 : decode cX3_fits 35 = .ok (.iand, 1) := by decide +kernel
theorem dX3_fits_36 : decode cX3_fits 36 = .ok (.ifCond .ne 5, 3) := by decide +kernel
theorem dX3_fits_39 : decode cX3_fits 39 = .ok (.iconst 0, 1) := by decide +kernel
theorem dX3_fits_40 : decode cX3_fits 40 = .ok (.ireturn, 1) := by decide +kernel
theorem dX3_fits_41 : decode cX3_fits 41 = .ok (.iinc 2 1, 3) := by decide +kernel
theorem dX3_fits_44 : decode cX3_fits 44 = .ok (.goto (-24), 3) := by decide +kernel
theorem dX3_fits_47 : decode cX3_fits 47 = .ok (.iconst 1, 1) := by decide +kernel
theorem dX3_fits_48 : decode cX3_fits 48 = .ok (.ireturn, 1) := by decide +kernel
theorem dX3_countSets_0 : decode cX3_countSets 0 = .ok (.iconst 0, 1) := by decide +kernel
theorem dX3_countSets_1 : decode cX3_countSets 1 = .ok (.istore_n 2, 1) := by decide +kernel
theorem dX3_countSets_2 : decode cX3_countSets 2 = .ok (.iconst 0, 1) := by decide +kernel
theorem dX3_countSets_3 : decode cX3_countSets 3 = .ok (.istore_n 3, 1) := by decide +kernel
theorem dX3_countSets_4 : decode cX3_countSets 4 = .ok (.iload_n 3, 1) := by decide +kernel
theorem dX3_countSets_5 : decode cX3_countSets 5 = .ok (.sipush 1024, 3) := by decide +kernel
theorem dX3_countSets_8 : decode cX3_countSets 8 = .ok (.if_icmp .ge 28, 3) := by decide +kernel
theorem dX3_countSets_11 : decode cX3_countSets 11 = .ok (.iload_n 1, 1) := by decide +kernel
theorem dX3_countSets_12 : decode cX3_countSets 12 = .ok (.iload_n 3, 1) := by decide +kernel
theorem dX3_countSets_13 : decode cX3_countSets 13 = .ok (.iconst (-1), 1) := by decide +kernel
theorem dX3_countSets_14 : decode cX3_countSets 14 = .ok (.ixor, 1) := by decide +kernel
theorem dX3_countSets_15 : decode cX3_countSets 15 = .ok (.iand, 1) := by decide +kernel
theorem dX3_countSets_16 : decode cX3_countSets 16 = .ok (.ifCond .ne 14, 3) := by decide +kernel
theorem dX3_countSets_19 : decode cX3_countSets 19 = .ok (.aload_n 0, 1) := by decide +kernel
theorem dX3_countSets_20 : decode cX3_countSets 20 = .ok (.iload_n 3, 1) := by decide +kernel
theorem dX3_countSets_21 : decode cX3_countSets 21 = .ok (.invokevirtual 67, 3) := by decide +kernel
theorem dX3_countSets_24 : decode cX3_countSets 24 = .ok (.ifCond .eq 6, 3) := by decide +kernel
theorem dX3_countSets_27 : decode cX3_countSets 27 = .ok (.iinc 2 1, 3) := by decide +kernel
theorem dX3_countSets_30 : decode cX3_countSets 30 = .ok (.iinc 3 1, 3) := by decide +kernel
theorem dX3_countSets_33 : decode cX3_countSets 33 = .ok (.goto (-29), 3) := by decide +kernel
theorem dX3_countSets_36 : decode cX3_countSets 36 = .ok (.iload_n 2, 1) := by decide +kernel
theorem dX3_countSets_37 : decode cX3_countSets 37 = .ok (.ireturn, 1) := by decide +kernel
theorem dX3_bestQuestion_0 : decode cX3_bestQuestion 0 = .ok (.aload_n 0, 1) := by decide +kernel
theorem dX3_bestQuestion_1 : decode cX3_bestQuestion 1 = .ok (.getfield 27, 3) := by decide +kernel
theorem dX3_bestQuestion_4 : decode cX3_bestQuestion 4 = .ok (.iconst 0, 1) := by decide +kernel
theorem dX3_bestQuestion_5 : decode cX3_bestQuestion 5 = .ok (.invokestatic 70, 3) := by decide +kernel
theorem dX3_bestQuestion_8 : decode cX3_bestQuestion 8 = .ok (.iconst 0, 1) := by decide +kernel
theorem dX3_bestQuestion_9 : decode cX3_bestQuestion 9 = .ok (.istore_n 1, 1) := by decide +kernel
theorem dX3_bestQuestion_10 : decode cX3_bestQuestion 10 = .ok (.iconst 0, 1) := by decide +kernel
theorem dX3_bestQuestion_11 : decode cX3_bestQuestion 11 = .ok (.istore_n 2, 1) := by decide +kernel
theorem dX3_bestQuestion_12 : decode cX3_bestQuestion 12 = .ok (.iload_n 2, 1) := by decide +kernel
theorem dX3_bestQuestion_13 : decode cX3_bestQuestion 13 = .ok (.sipush 1024, 3) := by decide +kernel
theorem dX3_bestQuestion_16 : decode cX3_bestQuestion 16 = .ok (.if_icmp .ge 25, 3) := by decide +kernel
theorem dX3_bestQuestion_19 : decode cX3_bestQuestion 19 = .ok (.aload_n 0, 1) := by decide +kernel
theorem dX3_bestQuestion_20 : decode cX3_bestQuestion 20 = .ok (.iload_n 2, 1) := by decide +kernel
theorem dX3_bestQuestion_21 : decode cX3_bestQuestion 21 = .ok (.invokevirtual 67, 3) := by decide +kernel
theorem dX3_bestQuestion_24 : decode cX3_bestQuestion 24 = .ok (.ifCond .eq 11, 3) := by decide +kernel
theorem dX3_bestQuestion_27 : decode cX3_bestQuestion 27 = .ok (.iinc 1 1, 3) := by decide +kernel
theorem dX3_bestQuestion_30 : decode cX3_bestQuestion 30 = .ok (.aload_n 0, 1) := by decide +kernel
theorem dX3_bestQuestion_31 : decode cX3_bestQuestion 31 = .ok (.iload_n 2, 1) := by decide +kernel
theorem dX3_bestQuestion_32 : decode cX3_bestQuestion 32 = .ok (.invokevirtual 76, 3) := by decide +kernel
theorem dX3_bestQuestion_35 : decode cX3_bestQuestion 35 = .ok (.iinc 2 1, 3) := by decide +kernel
theorem dX3_bestQuestion_38 : decode cX3_bestQuestion 38 = .ok (.goto (-26), 3) := by decide +kernel
theorem dX3_bestQuestion_41 : decode cX3_bestQuestion 41 = .ok (.iconst (-1), 1) := by decide +kernel
theorem dX3_bestQuestion_42 : decode cX3_bestQuestion 42 = .ok (.istore_n 2, 1) := by decide +kernel
theorem dX3_bestQuestion_43 : decode cX3_bestQuestion 43 = .ok (.bipush (-6), 2) := by decide +kernel
theorem dX3_bestQuestion_45 : decode cX3_bestQuestion 45 = .ok (.istore_n 3, 1) := by decide +kernel
theorem dX3_bestQuestion_46 : decode cX3_bestQuestion 46 = .ok (.iconst 0, 1) := by decide +kernel
theorem dX3_bestQuestion_47 : decode cX3_bestQuestion 47 = .ok (.istore 4, 2) := by decide +kernel
theorem dX3_bestQuestion_49 : decode cX3_bestQuestion 49 = .ok (.iload 4, 2) := by decide +kernel
theorem dX3_bestQuestion_51 : decode cX3_bestQuestion 51 = .ok (.aload_n 0, 1) := by decide +kernel
theorem dX3_bestQuestion_52 : decode cX3_bestQuestion 52 = .ok (.getfield 9, 3) := by decide +kernel
theorem dX3_bestQuestion_55 : decode cX3_bestQuestion 55 = .ok (.getfield 80, 3) := by decide +kernel
theorem dX3_bestQuestion_58 : decode cX3_bestQuestion 58 = .ok (.if_icmp .ge 57, 3) := by decide +kernel
theorem dX3_bestQuestion_61 : decode cX3_bestQuestion 61 = .ok (.aload_n 0, 1) := by decide +kernel
theorem dX3_bestQuestion_62 : decode cX3_bestQuestion 62 = .ok (.getfield 15, 3) := by decide +kernel
theorem dX3_bestQuestion_65 : decode cX3_bestQuestion 65 = .ok (.iload 4, 2) := by decide +kernel
theorem dX3_bestQuestion_67 : decode cX3_bestQuestion 67 = .ok (.invokevirtual 52, 3) := by decide +kernel
theorem dX3_bestQuestion_70 : decode cX3_bestQuestion 70 = .ok (.ifCond .eq 13, 3) := by decide +kernel
theorem dX3_bestQuestion_73 : decode cX3_bestQuestion 73 = .ok (.aload_n 0, 1) := by decide +kernel
theorem dX3_bestQuestion_74 : decode cX3_bestQuestion 74 = .ok (.getfield 27, 3) := by decide +kernel
theorem dX3_bestQuestion_77 : decode cX3_bestQuestion 77 = .ok (.iload 4, 2) := by decide +kernel
theorem dX3_bestQuestion_79 : decode cX3_bestQuestion 79 = .ok (.iaload, 1) := by decide +kernel
theorem dX3_bestQuestion_80 : decode cX3_bestQuestion 80 = .ok (.goto 4, 3) := by decide +kernel
theorem dX3_bestQuestion_83 : decode cX3_bestQuestion 83 = .ok (.iconst 0, 1) := by decide +kernel
theorem dX3_bestQuestion_84 : decode cX3_bestQuestion 84 = .ok (.istore 5, 2) := by decide +kernel
theorem dX3_bestQuestion_86 : decode cX3_bestQuestion 86 = .ok (.iload 5, 2) := by decide +kernel
theorem dX3_bestQuestion_88 : decode cX3_bestQuestion 88 = .ok (.iload_n 1, 1) := by decide +kernel
theorem dX3_bestQuestion_89 : decode cX3_bestQuestion 89 = .ok (.iload 5, 2) := by decide +kernel
theorem dX3_bestQuestion_91 : decode cX3_bestQuestion 91 = .ok (.isub, 1) := by decide +kernel
theorem dX3_bestQuestion_92 : decode cX3_bestQuestion 92 = .ok (.invokestatic 81, 3) := by decide +kernel
theorem dX3_bestQuestion_95 : decode cX3_bestQuestion 95 = .ok (.istore 6, 2) := by decide +kernel
theorem dX3_bestQuestion_97 : decode cX3_bestQuestion 97 = .ok (.iload 6, 2) := by decide +kernel
theorem dX3_bestQuestion_99 : decode cX3_bestQuestion 99 = .ok (.iload_n 2, 1) := by decide +kernel
theorem dX3_bestQuestion_100 : decode cX3_bestQuestion 100 = .ok (.if_icmp .le 9, 3) := by decide +kernel
theorem dX3_bestQuestion_103 : decode cX3_bestQuestion 103 = .ok (.iload 6, 2) := by decide +kernel
theorem dX3_bestQuestion_105 : decode cX3_bestQuestion 105 = .ok (.istore_n 2, 1) := by decide +kernel
theorem dX3_bestQuestion_106 : decode cX3_bestQuestion 106 = .ok (.iload 4, 2) := by decide +kernel
theorem dX3_bestQuestion_108 : decode cX3_bestQuestion 108 = .ok (.istore_n 3, 1) := by decide +kernel
theorem dX3_bestQuestion_109 : decode cX3_bestQuestion 109 = .ok (.iinc 4 1, 3) := by decide +kernel
theorem dX3_bestQuestion_112 : decode cX3_bestQuestion 112 = .ok (.goto (-63), 3) := by decide +kernel
theorem dX3_bestQuestion_115 : decode cX3_bestQuestion 115 = .ok (.iload_n 3, 1) := by decide +kernel
theorem dX3_bestQuestion_116 : decode cX3_bestQuestion 116 = .ok (.ireturn, 1) := by decide +kernel
theorem dX3_countKnown_0 : decode cX3_countKnown 0 = .ok (.iconst 0, 1) := by decide +kernel
theorem dX3_countKnown_1 : decode cX3_countKnown 1 = .ok (.istore_n 2, 1) := by decide +kernel
theorem dX3_countKnown_2 : decode cX3_countKnown 2 = .ok (.iload_n 2, 1) := by decide +kernel
theorem dX3_countKnown_3 : decode cX3_countKnown 3 = .ok (.aload_n 0, 1) := by decide +kernel
theorem dX3_countKnown_4 : decode cX3_countKnown 4 = .ok (.getfield 9, 3) := by decide +kernel
theorem dX3_countKnown_7 : decode cX3_countKnown 7 = .ok (.getfield 80, 3) := by decide +kernel
theorem dX3_countKnown_10 : decode cX3_countKnown 10 = .ok (.if_icmp .ge 33, 3) := by decide +kernel
theorem dX3_countKnown_13 : decode cX3_countKnown 13 = .ok (.aload_n 0, 1) := by decide +kernel
theorem dX3_countKnown_14 : decode cX3_countKnown 14 = .ok (.getfield 9, 3) := by decide +kernel
theorem dX3_countKnown_17 : decode cX3_countKnown 17 = .ok (.getfield 62, 3) := by decide +kernel
theorem dX3_countKnown_20 : decode cX3_countKnown 20 = .ok (.iload_n 2, 1) := by decide +kernel
theorem dX3_countKnown_21 : decode cX3_countKnown 21 = .ok (.iaload, 1) := by decide +kernel
theorem dX3_countKnown_22 : decode cX3_countKnown 22 = .ok (.iload_n 1, 1) := by decide +kernel
theorem dX3_countKnown_23 : decode cX3_countKnown 23 = .ok (.iand, 1) := by decide +kernel
theorem dX3_countKnown_24 : decode cX3_countKnown 24 = .ok (.ifCond .ne 13, 3) := by decide +kernel
theorem dX3_countKnown_27 : decode cX3_countKnown 27 = .ok (.aload_n 0, 1) := by decide +kernel
theorem dX3_countKnown_28 : decode cX3_countKnown 28 = .ok (.getfield 27, 3) := by decide +kernel
theorem dX3_countKnown_31 : decode cX3_countKnown 31 = .ok (.iload_n 2, 1) := by decide +kernel
theorem dX3_countKnown_32 : decode cX3_countKnown 32 = .ok (.dup2, 1) := by decide +kernel
theorem dX3_countKnown_33 : decode cX3_countKnown 33 = .ok (.iaload, 1) := by decide +kernel
theorem dX3_countKnown_34 : decode cX3_countKnown 34 = .ok (.iconst 1, 1) := by decide +kernel
theorem dX3_countKnown_35 : decode cX3_countKnown 35 = .ok (.iadd, 1) := by decide +kernel
theorem dX3_countKnown_36 : decode cX3_countKnown 36 = .ok (.iastore, 1) := by decide +kernel
theorem dX3_countKnown_37 : decode cX3_countKnown 37 = .ok (.iinc 2 1, 3) := by decide +kernel
theorem dX3_countKnown_40 : decode cX3_countKnown 40 = .ok (.goto (-38), 3) := by decide +kernel
theorem dX3_countKnown_43 : decode cX3_countKnown 43 = .ok (.return_, 1) := by decide +kernel
theorem dX3_leastTest_0 : decode cX3_leastTest 0 = .ok (.aload_n 0, 1) := by decide +kernel
theorem dX3_leastTest_1 : decode cX3_leastTest 1 = .ok (.invokevirtual 87, 3) := by decide +kernel
theorem dX3_leastTest_4 : decode cX3_leastTest 4 = .ok (.aload_n 0, 1) := by decide +kernel
theorem dX3_leastTest_5 : decode cX3_leastTest 5 = .ok (.getfield 15, 3) := by decide +kernel
theorem dX3_leastTest_8 : decode cX3_leastTest 8 = .ok (.getfield 90, 3) := by decide +kernel
theorem dX3_leastTest_11 : decode cX3_leastTest 11 = .ok (.istore_n 1, 1) := by decide +kernel
theorem dX3_leastTest_12 : decode cX3_leastTest 12 = .ok (.iload_n 1, 1) := by decide +kernel
theorem dX3_leastTest_13 : decode cX3_leastTest 13 = .ok (.invokestatic 93, 3) := by decide +kernel
theorem dX3_leastTest_16 : decode cX3_leastTest 16 = .ok (.istore_n 2, 1) := by decide +kernel
theorem dX3_leastTest_17 : decode cX3_leastTest 17 = .ok (.iconst 0, 1) := by decide +kernel
theorem dX3_leastTest_18 : decode cX3_leastTest 18 = .ok (.istore_n 3, 1) := by decide +kernel
theorem dX3_leastTest_19 : decode cX3_leastTest 19 = .ok (.iload_n 3, 1) := by decide +kernel
theorem dX3_leastTest_20 : decode cX3_leastTest 20 = .ok (.aload_n 0, 1) := by decide +kernel
theorem dX3_leastTest_21 : decode cX3_leastTest 21 = .ok (.getfield 15, 3) := by decide +kernel
theorem dX3_leastTest_24 : decode cX3_leastTest 24 = .ok (.getfield 90, 3) := by decide +kernel
theorem dX3_leastTest_27 : decode cX3_leastTest 27 = .ok (.if_icmp .ge 48, 3) := by decide +kernel
theorem dX3_leastTest_30 : decode cX3_leastTest 30 = .ok (.iload_n 3, 1) := by decide +kernel
theorem dX3_leastTest_31 : decode cX3_leastTest 31 = .ok (.invokestatic 93, 3) := by decide +kernel
theorem dX3_leastTest_34 : decode cX3_leastTest 34 = .ok (.istore 4, 2) := by decide +kernel
theorem dX3_leastTest_36 : decode cX3_leastTest 36 = .ok (.iload 4, 2) := by decide +kernel
theorem dX3_leastTest_38 : decode cX3_leastTest 38 = .ok (.iload_n 2, 1) := by decide +kernel
theorem dX3_leastTest_39 : decode cX3_leastTest 39 = .ok (.if_icmp .ge 30, 3) := by decide +kernel
theorem dX3_leastTest_42 : decode cX3_leastTest 42 = .ok (.iload_n 3, 1) := by decide +kernel
theorem dX3_leastTest_43 : decode cX3_leastTest 43 = .ok (.aload_n 0, 1) := by decide +kernel
theorem dX3_leastTest_44 : decode cX3_leastTest 44 = .ok (.getfield 15, 3) := by decide +kernel
theorem dX3_leastTest_47 : decode cX3_leastTest 47 = .ok (.getfield 90, 3) := by decide +kernel
theorem dX3_leastTest_50 : decode cX3_leastTest 50 = .ok (.iconst (-1), 1) := by decide +kernel
theorem dX3_leastTest_51 : decode cX3_leastTest 51 = .ok (.ixor, 1) := by decide +kernel
theorem dX3_leastTest_52 : decode cX3_leastTest 52 = .ok (.iand, 1) := by decide +kernel
theorem dX3_leastTest_53 : decode cX3_leastTest 53 = .ok (.ifCond .ne 16, 3) := by decide +kernel
theorem dX3_leastTest_56 : decode cX3_leastTest 56 = .ok (.aload_n 0, 1) := by decide +kernel
theorem dX3_leastTest_57 : decode cX3_leastTest 57 = .ok (.iload_n 3, 1) := by decide +kernel
theorem dX3_leastTest_58 : decode cX3_leastTest 58 = .ok (.invokevirtual 99, 3) := by decide +kernel
theorem dX3_leastTest_61 : decode cX3_leastTest 61 = .ok (.ifCond .eq 8, 3) := by decide +kernel
theorem dX3_leastTest_64 : decode cX3_leastTest 64 = .ok (.iload_n 3, 1) := by decide +kernel
theorem dX3_leastTest_65 : decode cX3_leastTest 65 = .ok (.istore_n 1, 1) := by decide +kernel
theorem dX3_leastTest_66 : decode cX3_leastTest 66 = .ok (.iload 4, 2) := by decide +kernel
theorem dX3_leastTest_68 : decode cX3_leastTest 68 = .ok (.istore_n 2, 1) := by decide +kernel
theorem dX3_leastTest_69 : decode cX3_leastTest 69 = .ok (.iinc 3 1, 3) := by decide +kernel
theorem dX3_leastTest_72 : decode cX3_leastTest 72 = .ok (.goto (-53), 3) := by decide +kernel
theorem dX3_leastTest_75 : decode cX3_leastTest 75 = .ok (.iload_n 1, 1) := by decide +kernel
theorem dX3_leastTest_76 : decode cX3_leastTest 76 = .ok (.ireturn, 1) := by decide +kernel
theorem dX3_findWordsWith_0 : decode cX3_findWordsWith 0 = .ok (.aload_n 0, 1) := by decide +kernel
theorem dX3_findWordsWith_1 : decode cX3_findWordsWith 1 = .ok (.getfield 30, 3) := by decide +kernel
theorem dX3_findWordsWith_4 : decode cX3_findWordsWith 4 = .ok (.iconst 0, 1) := by decide +kernel
theorem dX3_findWordsWith_5 : decode cX3_findWordsWith 5 = .ok (.invokestatic 70, 3) := by decide +kernel
theorem dX3_findWordsWith_8 : decode cX3_findWordsWith 8 = .ok (.iconst 0, 1) := by decide +kernel
theorem dX3_findWordsWith_9 : decode cX3_findWordsWith 9 = .ok (.istore_n 1, 1) := by decide +kernel
theorem dX3_findWordsWith_10 : decode cX3_findWordsWith 10 = .ok (.iload_n 1, 1) := by decide +kernel
theorem dX3_findWordsWith_11 : decode cX3_findWordsWith 11 = .ok (.aload_n 0, 1) := by decide +kernel
theorem dX3_findWordsWith_12 : decode cX3_findWordsWith 12 = .ok (.getfield 9, 3) := by decide +kernel
theorem dX3_findWordsWith_15 : decode cX3_findWordsWith 15 = .ok (.getfield 80, 3) := by decide +kernel
theorem dX3_findWordsWith_18 : decode cX3_findWordsWith 18 = .ok (.if_icmp .ge 64, 3) := by decide +kernel
theorem dX3_findWordsWith_21 : decode cX3_findWordsWith 21 = .ok (.aload_n 0, 1) := by decide +kernel
theorem dX3_findWordsWith_22 : decode cX3_findWordsWith 22 = .ok (.getfield 15, 3) := by decide +kernel
theorem dX3_findWordsWith_25 : decode cX3_findWordsWith 25 = .ok (.iload_n 1, 1) := by decide +kernel
theorem dX3_findWordsWith_26 : decode cX3_findWordsWith 26 = .ok (.invokevirtual 52, 3) := by decide +kernel
theorem dX3_findWordsWith_29 : decode cX3_findWordsWith 29 = .ok (.ifCond .ne 6, 3) := by decide +kernel
theorem dX3_findWordsWith_32 : decode cX3_findWordsWith 32 = .ok (.goto 44, 3) := by decide +kernel
theorem dX3_findWordsWith_35 : decode cX3_findWordsWith 35 = .ok (.iconst 0, 1) := by decide +kernel
theorem dX3_findWordsWith_36 : decode cX3_findWordsWith 36 = .ok (.istore_n 2, 1) := by decide +kernel
theorem dX3_findWordsWith_37 : decode cX3_findWordsWith 37 = .ok (.iload_n 2, 1) := by decide +kernel
theorem dX3_findWordsWith_38 : decode cX3_findWordsWith 38 = .ok (.aload_n 0, 1) := by decide +kernel
theorem dX3_findWordsWith_39 : decode cX3_findWordsWith 39 = .ok (.getfield 9, 3) := by decide +kernel
theorem dX3_findWordsWith_42 : decode cX3_findWordsWith 42 = .ok (.getfield 102, 3) := by decide +kernel
theorem dX3_findWordsWith_45 : decode cX3_findWordsWith 45 = .ok (.iload_n 1, 1) := by decide +kernel
theorem dX3_findWordsWith_46 : decode cX3_findWordsWith 46 = .ok (.iaload, 1) := by decide +kernel
theorem dX3_findWordsWith_47 : decode cX3_findWordsWith 47 = .ok (.if_icmp .ge 29, 3) := by decide +kernel
theorem dX3_findWordsWith_50 : decode cX3_findWordsWith 50 = .ok (.aload_n 0, 1) := by decide +kernel
theorem dX3_findWordsWith_51 : decode cX3_findWordsWith 51 = .ok (.getfield 30, 3) := by decide +kernel
theorem dX3_findWordsWith_54 : decode cX3_findWordsWith 54 = .ok (.aload_n 0, 1) := by decide +kernel
theorem dX3_findWordsWith_55 : decode cX3_findWordsWith 55 = .ok (.getfield 9, 3) := by decide +kernel
theorem dX3_findWordsWith_58 : decode cX3_findWordsWith 58 = .ok (.iload_n 1, 1) := by decide +kernel
theorem dX3_findWordsWith_59 : decode cX3_findWordsWith 59 = .ok (.iload_n 2, 1) := by decide +kernel
theorem dX3_findWordsWith_60 : decode cX3_findWordsWith 60 = .ok (.invokevirtual 105, 3) := by decide +kernel
theorem dX3_findWordsWith_63 : decode cX3_findWordsWith 63 = .ok (.dup2, 1) := by decide +kernel
theorem dX3_findWordsWith_64 : decode cX3_findWordsWith 64 = .ok (.iaload, 1) := by decide +kernel
theorem dX3_findWordsWith_65 : decode cX3_findWordsWith 65 = .ok (.iconst 1, 1) := by decide +kernel
theorem dX3_findWordsWith_66 : decode cX3_findWordsWith 66 = .ok (.iload_n 1, 1) := by decide +kernel
theorem dX3_findWordsWith_67 : decode cX3_findWordsWith 67 = .ok (.ishl, 1) := by decide +kernel
theorem dX3_findWordsWith_68 : decode cX3_findWordsWith 68 = .ok (.ior, 1) := by decide +kernel
theorem dX3_findWordsWith_69 : decode cX3_findWordsWith 69 = .ok (.iastore, 1) := by decide +kernel
theorem dX3_findWordsWith_70 : decode cX3_findWordsWith 70 = .ok (.iinc 2 1, 3) := by decide +kernel
theorem dX3_findWordsWith_73 : decode cX3_findWordsWith 73 = .ok (.goto (-36), 3) := by decide +kernel
theorem dX3_findWordsWith_76 : decode cX3_findWordsWith 76 = .ok (.iinc 1 1, 3) := by decide +kernel
theorem dX3_findWordsWith_79 : decode cX3_findWordsWith 79 = .ok (.goto (-69), 3) := by decide +kernel
theorem dX3_findWordsWith_82 : decode cX3_findWordsWith 82 = .ok (.return_, 1) := by decide +kernel
theorem dX3_tellsAll_0 : decode cX3_tellsAll 0 = .ok (.iconst 0, 1) := by decide +kernel
theorem dX3_tellsAll_1 : decode cX3_tellsAll 1 = .ok (.istore_n 2, 1) := by decide +kernel
theorem dX3_tellsAll_2 : decode cX3_tellsAll 2 = .ok (.iload_n 2, 1) := by decide +kernel
theorem dX3_tellsAll_3 : decode cX3_tellsAll 3 = .ok (.bipush 10, 2) := by decide +kernel
theorem dX3_tellsAll_5 : decode cX3_tellsAll 5 = .ok (.if_icmp .ge 68, 3) := by decide +kernel
theorem dX3_tellsAll_8 : decode cX3_tellsAll 8 = .ok (.aload_n 0, 1) := by decide +kernel
theorem dX3_tellsAll_9 : decode cX3_tellsAll 9 = .ok (.getfield 30, 3) := by decide +kernel
theorem dX3_tellsAll_12 : decode cX3_tellsAll 12 = .ok (.iload_n 2, 1) := by decide +kernel
theorem dX3_tellsAll_13 : decode cX3_tellsAll 13 = .ok (.iaload, 1) := by decide +kernel
theorem dX3_tellsAll_14 : decode cX3_tellsAll 14 = .ok (.istore_n 3, 1) := by decide +kernel
theorem dX3_tellsAll_15 : decode cX3_tellsAll 15 = .ok (.iload_n 3, 1) := by decide +kernel
theorem dX3_tellsAll_16 : decode cX3_tellsAll 16 = .ok (.ifCond .eq 11, 3) := by decide +kernel
theorem dX3_tellsAll_19 : decode cX3_tellsAll 19 = .ok (.iload_n 3, 1) := by decide +kernel
theorem dX3_tellsAll_20 : decode cX3_tellsAll 20 = .ok (.iload_n 1, 1) := by decide +kernel
theorem dX3_tellsAll_21 : decode cX3_tellsAll 21 = .ok (.iand, 1) := by decide +kernel
theorem dX3_tellsAll_22 : decode cX3_tellsAll 22 = .ok (.ifCond .ne 5, 3) := by decide +kernel
theorem dX3_tellsAll_25 : decode cX3_tellsAll 25 = .ok (.iconst 0, 1) := by decide +kernel
theorem dX3_tellsAll_26 : decode cX3_tellsAll 26 = .ok (.ireturn, 1) := by decide +kernel
theorem dX3_tellsAll_27 : decode cX3_tellsAll 27 = .ok (.iconst 0, 1) := by decide +kernel
theorem dX3_tellsAll_28 : decode cX3_tellsAll 28 = .ok (.istore 4, 2) := by decide +kernel
theorem dX3_tellsAll_30 : decode cX3_tellsAll 30 = .ok (.iload 4, 2) := by decide +kernel
theorem dX3_tellsAll_32 : decode cX3_tellsAll 32 = .ok (.iload_n 2, 1) := by decide +kernel
theorem dX3_tellsAll_33 : decode cX3_tellsAll 33 = .ok (.if_icmp .ge 34, 3) := by decide +kernel
theorem dX3_tellsAll_36 : decode cX3_tellsAll 36 = .ok (.iload_n 3, 1) := by decide +kernel
theorem dX3_tellsAll_37 : decode cX3_tellsAll 37 = .ok (.aload_n 0, 1) := by decide +kernel
theorem dX3_tellsAll_38 : decode cX3_tellsAll 38 = .ok (.getfield 30, 3) := by decide +kernel
theorem dX3_tellsAll_41 : decode cX3_tellsAll 41 = .ok (.iload 4, 2) := by decide +kernel
theorem dX3_tellsAll_43 : decode cX3_tellsAll 43 = .ok (.iaload, 1) := by decide +kernel
theorem dX3_tellsAll_44 : decode cX3_tellsAll 44 = .ok (.ixor, 1) := by decide +kernel
theorem dX3_tellsAll_45 : decode cX3_tellsAll 45 = .ok (.istore 5, 2) := by decide +kernel
theorem dX3_tellsAll_47 : decode cX3_tellsAll 47 = .ok (.iload 5, 2) := by decide +kernel
theorem dX3_tellsAll_49 : decode cX3_tellsAll 49 = .ok (.ifCond .eq 12, 3) := by decide +kernel
theorem dX3_tellsAll_52 : decode cX3_tellsAll 52 = .ok (.iload 5, 2) := by decide +kernel
theorem dX3_tellsAll_54 : decode cX3_tellsAll 54 = .ok (.iload_n 1, 1) := by decide +kernel
theorem dX3_tellsAll_55 : decode cX3_tellsAll 55 = .ok (.iand, 1) := by decide +kernel
theorem dX3_tellsAll_56 : decode cX3_tellsAll 56 = .ok (.ifCond .ne 5, 3) := by decide +kernel
theorem dX3_tellsAll_59 : decode cX3_tellsAll 59 = .ok (.iconst 0, 1) := by decide +kernel
theorem dX3_tellsAll_60 : decode cX3_tellsAll 60 = .ok (.ireturn, 1) := by decide +kernel
theorem dX3_tellsAll_61 : decode cX3_tellsAll 61 = .ok (.iinc 4 1, 3) := by decide +kernel
theorem dX3_tellsAll_64 : decode cX3_tellsAll 64 = .ok (.goto (-34), 3) := by decide +kernel
theorem dX3_tellsAll_67 : decode cX3_tellsAll 67 = .ok (.iinc 2 1, 3) := by decide +kernel
theorem dX3_tellsAll_70 : decode cX3_tellsAll 70 = .ok (.goto (-68), 3) := by decide +kernel
theorem dX3_tellsAll_73 : decode cX3_tellsAll 73 = .ok (.iconst 1, 1) := by decide +kernel
theorem dX3_tellsAll_74 : decode cX3_tellsAll 74 = .ok (.ireturn, 1) := by decide +kernel
theorem dX4_init_0 : decode cX4_init 0 = .ok (.aload_n 0, 1) := by decide +kernel
theorem dX4_init_1 : decode cX4_init 1 = .ok (.invokespecial 3, 3) := by decide +kernel
theorem dX4_init_4 : decode cX4_init 4 = .ok (.aload_n 0, 1) := by decide +kernel
theorem dX4_init_5 : decode cX4_init 5 = .ok (.aload_n 1, 1) := by decide +kernel
theorem dX4_init_6 : decode cX4_init 6 = .ok (.putfield 9, 3) := by decide +kernel
theorem dX4_init_9 : decode cX4_init 9 = .ok (.aload_n 0, 1) := by decide +kernel
theorem dX4_init_10 : decode cX4_init 10 = .ok (.aload_n 2, 1) := by decide +kernel
theorem dX4_init_11 : decode cX4_init 11 = .ok (.putfield 15, 3) := by decide +kernel
theorem dX4_init_14 : decode cX4_init 14 = .ok (.aload_n 0, 1) := by decide +kernel
theorem dX4_init_15 : decode cX4_init 15 = .ok (.aload_n 3, 1) := by decide +kernel
theorem dX4_init_16 : decode cX4_init 16 = .ok (.putfield 19, 3) := by decide +kernel
theorem dX4_init_19 : decode cX4_init 19 = .ok (.aload_n 0, 1) := by decide +kernel
theorem dX4_init_20 : decode cX4_init 20 = .ok (.sipush 1024, 3) := by decide +kernel
theorem dX4_init_23 : decode cX4_init 23 = .ok (.newarray .int, 2) := by decide +kernel
theorem dX4_init_25 : decode cX4_init 25 = .ok (.putfield 23, 3) := by decide +kernel
theorem dX4_init_28 : decode cX4_init 28 = .ok (.aload_n 0, 1) := by decide +kernel
theorem dX4_init_29 : decode cX4_init 29 = .ok (.bipush 52, 2) := by decide +kernel
theorem dX4_init_31 : decode cX4_init 31 = .ok (.newarray .int, 2) := by decide +kernel
theorem dX4_init_33 : decode cX4_init 33 = .ok (.putfield 27, 3) := by decide +kernel
theorem dX4_init_36 : decode cX4_init 36 = .ok (.aload_n 0, 1) := by decide +kernel
theorem dX4_init_37 : decode cX4_init 37 = .ok (.iconst 4, 1) := by decide +kernel
theorem dX4_init_38 : decode cX4_init 38 = .ok (.newarray .boolean, 2) := by decide +kernel
theorem dX4_init_40 : decode cX4_init 40 = .ok (.putfield 30, 3) := by decide +kernel
theorem dX4_init_43 : decode cX4_init 43 = .ok (.aload_n 0, 1) := by decide +kernel
theorem dX4_init_44 : decode cX4_init 44 = .ok (.iconst 4, 1) := by decide +kernel
theorem dX4_init_45 : decode cX4_init 45 = .ok (.newarray .int, 2) := by decide +kernel
theorem dX4_init_47 : decode cX4_init 47 = .ok (.putfield 34, 3) := by decide +kernel
theorem dX4_init_50 : decode cX4_init 50 = .ok (.return_, 1) := by decide +kernel
theorem dX4_forget_0 : decode cX4_forget 0 = .ok (.aload_n 0, 1) := by decide +kernel
theorem dX4_forget_1 : decode cX4_forget 1 = .ok (.getfield 30, 3) := by decide +kernel
theorem dX4_forget_4 : decode cX4_forget 4 = .ok (.iload_n 1, 1) := by decide +kernel
theorem dX4_forget_5 : decode cX4_forget 5 = .ok (.iconst 0, 1) := by decide +kernel
theorem dX4_forget_6 : decode cX4_forget 6 = .ok (.bastore, 1) := by decide +kernel
theorem dX4_forget_7 : decode cX4_forget 7 = .ok (.return_, 1) := by decide +kernel
theorem dX4_bestShare_0 : decode cX4_bestShare 0 = .ok (.aload_n 0, 1) := by decide +kernel
theorem dX4_bestShare_1 : decode cX4_bestShare 1 = .ok (.getfield 27, 3) := by decide +kernel
theorem dX4_bestShare_4 : decode cX4_bestShare 4 = .ok (.iload_n 1, 1) := by decide +kernel
theorem dX4_bestShare_5 : decode cX4_bestShare 5 = .ok (.bipush 13, 2) := by decide +kernel
theorem dX4_bestShare_7 : decode cX4_bestShare 7 = .ok (.imul, 1) := by decide +kernel
theorem dX4_bestShare_8 : decode cX4_bestShare 8 = .ok (.iload_n 2, 1) := by decide +kernel
theorem dX4_bestShare_9 : decode cX4_bestShare 9 = .ok (.iadd, 1) := by decide +kernel
theorem dX4_bestShare_10 : decode cX4_bestShare 10 = .ok (.iaload, 1) := by decide +kernel
theorem dX4_bestShare_11 : decode cX4_bestShare 11 = .ok (.ireturn, 1) := by decide +kernel
theorem dX4_findBest_0 : decode cX4_findBest 0 = .ok (.aload_n 0, 1) := by decide +kernel
theorem dX4_findBest_1 : decode cX4_findBest 1 = .ok (.getfield 30, 3) := by decide +kernel
theorem dX4_findBest_4 : decode cX4_findBest 4 = .ok (.iload_n 1, 1) := by decide +kernel
theorem dX4_findBest_5 : decode cX4_findBest 5 = .ok (.baload, 1) := by decide +kernel
theorem dX4_findBest_6 : decode cX4_findBest 6 = .ok (.ifCond .eq 4, 3) := by decide +kernel
theorem dX4_findBest_9 : decode cX4_findBest 9 = .ok (.return_, 1) := by decide +kernel
theorem dX4_findBest_10 : decode cX4_findBest 10 = .ok (.aload_n 0, 1) := by decide +kernel
theorem dX4_findBest_11 : decode cX4_findBest 11 = .ok (.iload_n 1, 1) := by decide +kernel
theorem dX4_findBest_12 : decode cX4_findBest 12 = .ok (.invokevirtual 37, 3) := by decide +kernel
theorem dX4_findBest_15 : decode cX4_findBest 15 = .ok (.aload_n 0, 1) := by decide +kernel
theorem dX4_findBest_16 : decode cX4_findBest 16 = .ok (.getfield 15, 3) := by decide +kernel
theorem dX4_findBest_19 : decode cX4_findBest 19 = .ok (.getfield 41, 3) := by decide +kernel
theorem dX4_findBest_22 : decode cX4_findBest 22 = .ok (.iload_n 1, 1) := by decide +kernel
theorem dX4_findBest_23 : decode cX4_findBest 23 = .ok (.iaload, 1) := by decide +kernel
theorem dX4_findBest_24 : decode cX4_findBest 24 = .ok (.istore_n 2, 1) := by decide +kernel
theorem dX4_findBest_25 : decode cX4_findBest 25 = .ok (.iload_n 2, 1) := by decide +kernel
theorem dX4_findBest_26 : decode cX4_findBest 26 = .ok (.invokestatic 46, 3) := by decide +kernel
theorem dX4_findBest_29 : decode cX4_findBest 29 = .ok (.istore_n 3, 1) := by decide +kernel
theorem dX4_findBest_30 : decode cX4_findBest 30 = .ok (.iload_n 1, 1) := by decide +kernel
theorem dX4_findBest_31 : decode cX4_findBest 31 = .ok (.bipush 13, 2) := by decide +kernel
theorem dX4_findBest_33 : decode cX4_findBest 33 = .ok (.imul, 1) := by decide +kernel
theorem dX4_findBest_34 : decode cX4_findBest 34 = .ok (.istore 4, 2) := by decide +kernel
theorem dX4_findBest_36 : decode cX4_findBest 36 = .ok (.iconst 0, 1) := by decide +kernel
theorem dX4_findBest_37 : decode cX4_findBest 37 = .ok (.istore 5, 2) := by decide +kernel
theorem dX4_findBest_39 : decode cX4_findBest 39 = .ok (.iload 5, 2) := by decide +kernel
theorem dX4_findBest_41 : decode cX4_findBest 41 = .ok (.bipush 12, 2) := by decide +kernel
theorem dX4_findBest_43 : decode cX4_findBest 43 = .ok (.if_icmp .gt 20, 3) := by decide +kernel
theorem dX4_findBest_46 : decode cX4_findBest 46 = .ok (.aload_n 0, 1) := by decide +kernel
theorem dX4_findBest_47 : decode cX4_findBest 47 = .ok (.getfield 27, 3) := by decide +kernel
theorem dX4_findBest_50 : decode cX4_findBest 50 = .ok (.iload 4, 2) := by decide +kernel
theorem dX4_findBest_52 : decode cX4_findBest 52 = .ok (.iload 5, 2) := by decide +kernel
theorem dX4_findBest_54 : decode cX4_findBest 54 = .ok (.iadd, 1) := by decide +kernel
theorem dX4_findBest_55 : decode cX4_findBest 55 = .ok (.iconst 0, 1) := by decide +kernel
theorem dX4_findBest_56 : decode cX4_findBest 56 = .ok (.iastore, 1) := by decide +kernel
theorem dX4_findBest_57 : decode cX4_findBest 57 = .ok (.iinc 5 1, 3) := by decide +kernel
theorem dX4_findBest_60 : decode cX4_findBest 60 = .ok (.goto (-21), 3) := by decide +kernel
theorem dX4_findBest_63 : decode cX4_findBest 63 = .ok (.iconst 0, 1) := by decide +kernel
theorem dX4_findBest_64 : decode cX4_findBest 64 = .ok (.istore 5, 2) := by decide +kernel
theorem dX4_findBest_66 : decode cX4_findBest 66 = .ok (.iload 5, 2) := by decide +kernel
theorem dX4_findBest_68 : decode cX4_findBest 68 = .ok (.sipush 1024, 3) := by decide +kernel
theorem dX4_findBest_71 : decode cX4_findBest 71 = .ok (.if_icmp .ge 54, 3) := by decide +kernel
theorem dX4_findBest_74 : decode cX4_findBest 74 = .ok (.iload_n 2, 1) := by decide +kernel
theorem dX4_findBest_75 : decode cX4_findBest 75 = .ok (.iload 5, 2) := by decide +kernel
theorem dX4_findBest_77 : decode cX4_findBest 77 = .ok (.iconst (-1), 1) := by decide +kernel
theorem dX4_findBest_78 : decode cX4_findBest 78 = .ok (.ixor, 1) := by decide +kernel
theorem dX4_findBest_79 : decode cX4_findBest 79 = .ok (.iand, 1) := by decide +kernel
theorem dX4_findBest_80 : decode cX4_findBest 80 = .ok (.ifCond .ne 39, 3) := by decide +kernel
theorem dX4_findBest_83 : decode cX4_findBest 83 = .ok (.iload 4, 2) := by decide +kernel
theorem dX4_findBest_85 : decode cX4_findBest 85 = .ok (.iload 5, 2) := by decide +kernel
theorem dX4_findBest_87 : decode cX4_findBest 87 = .ok (.invokestatic 46, 3) := by decide +kernel
theorem dX4_findBest_90 : decode cX4_findBest 90 = .ok (.iadd, 1) := by decide +kernel
theorem dX4_findBest_91 : decode cX4_findBest 91 = .ok (.iload_n 3, 1) := by decide +kernel
theorem dX4_findBest_92 : decode cX4_findBest 92 = .ok (.isub, 1) := by decide +kernel
theorem dX4_findBest_93 : decode cX4_findBest 93 = .ok (.istore 6, 2) := by decide +kernel
theorem dX4_findBest_95 : decode cX4_findBest 95 = .ok (.aload_n 0, 1) := by decide +kernel
theorem dX4_findBest_96 : decode cX4_findBest 96 = .ok (.getfield 27, 3) := by decide +kernel
theorem dX4_findBest_99 : decode cX4_findBest 99 = .ok (.iload 6, 2) := by decide +kernel
theorem dX4_findBest_101 : decode cX4_findBest 101 = .ok (.aload_n 0, 1) := by decide +kernel
theorem dX4_findBest_102 : decode cX4_findBest 102 = .ok (.getfield 27, 3) := by decide +kernel
theorem dX4_findBest_105 : decode cX4_findBest 105 = .ok (.iload 6, 2) := by decide +kernel
theorem dX4_findBest_107 : decode cX4_findBest 107 = .ok (.iaload, 1) := by decide +kernel
theorem dX4_findBest_108 : decode cX4_findBest 108 = .ok (.aload_n 0, 1) := by decide +kernel
theorem dX4_findBest_109 : decode cX4_findBest 109 = .ok (.getfield 23, 3) := by decide +kernel
theorem dX4_findBest_112 : decode cX4_findBest 112 = .ok (.iload 5, 2) := by decide +kernel
theorem dX4_findBest_114 : decode cX4_findBest 114 = .ok (.iaload, 1) := by decide +kernel
theorem dX4_findBest_115 : decode cX4_findBest 115 = .ok (.invokestatic 52, 3) := by decide +kernel
theorem dX4_findBest_118 : decode cX4_findBest 118 = .ok (.iastore, 1) := by decide +kernel
theorem dX4_findBest_119 : decode cX4_findBest 119 = .ok (.iinc 5 1, 3) := by decide +kernel
theorem dX4_findBest_122 : decode cX4_findBest 122 = .ok (.goto (-56), 3) := by decide +kernel
theorem dX4_findBest_125 : decode cX4_findBest 125 = .ok (.bipush 10, 2) := by decide +kernel
theorem dX4_findBest_127 : decode cX4_findBest 127 = .ok (.iload_n 3, 1) := by decide +kernel
theorem dX4_findBest_128 : decode cX4_findBest 128 = .ok (.isub, 1) := by decide +kernel
theorem dX4_findBest_129 : decode cX4_findBest 129 = .ok (.iconst 1, 1) := by decide +kernel
theorem dX4_findBest_130 : decode cX4_findBest 130 = .ok (.iadd, 1) := by decide +kernel
theorem dX4_findBest_131 : decode cX4_findBest 131 = .ok (.istore 5, 2) := by decide +kernel
theorem dX4_findBest_133 : decode cX4_findBest 133 = .ok (.iload 5, 2) := by decide +kernel
theorem dX4_findBest_135 : decode cX4_findBest 135 = .ok (.bipush 12, 2) := by decide +kernel
theorem dX4_findBest_137 : decode cX4_findBest 137 = .ok (.if_icmp .gt 27, 3) := by decide +kernel
theorem dX4_findBest_140 : decode cX4_findBest 140 = .ok (.aload_n 0, 1) := by decide +kernel
theorem dX4_findBest_141 : decode cX4_findBest 141 = .ok (.getfield 27, 3) := by decide +kernel
theorem dX4_findBest_144 : decode cX4_findBest 144 = .ok (.iload 4, 2) := by decide +kernel
theorem dX4_findBest_146 : decode cX4_findBest 146 = .ok (.iload 5, 2) := by decide +kernel
theorem dX4_findBest_148 : decode cX4_findBest 148 = .ok (.iadd, 1) := by decide +kernel
theorem dX4_findBest_149 : decode cX4_findBest 149 = .ok (.aload_n 0, 1) := by decide +kernel
theorem dX4_findBest_150 : decode cX4_findBest 150 = .ok (.getfield 23, 3) := by decide +kernel
theorem dX4_findBest_153 : decode cX4_findBest 153 = .ok (.sipush 1023, 3) := by decide +kernel
theorem dX4_findBest_156 : decode cX4_findBest 156 = .ok (.iaload, 1) := by decide +kernel
theorem dX4_findBest_157 : decode cX4_findBest 157 = .ok (.iastore, 1) := by decide +kernel
theorem dX4_findBest_158 : decode cX4_findBest 158 = .ok (.iinc 5 1, 3) := by decide +kernel
theorem dX4_findBest_161 : decode cX4_findBest 161 = .ok (.goto (-28), 3) := by decide +kernel
theorem dX4_findBest_164 : decode cX4_findBest 164 = .ok (.aload_n 0, 1) := by decide +kernel
theorem dX4_findBest_165 : decode cX4_findBest 165 = .ok (.getfield 30, 3) := by decide +kernel
theorem dX4_findBest_168 : decode cX4_findBest 168 = .ok (.iload_n 1, 1) := by decide +kernel
theorem dX4_findBest_169 : decode cX4_findBest 169 = .ok (.iconst 1, 1) := by decide +kernel
theorem dX4_findBest_170 : decode cX4_findBest 170 = .ok (.bastore, 1) := by decide +kernel
theorem dX4_findBest_171 : decode cX4_findBest 171 = .ok (.return_, 1) := by decide +kernel
theorem dX4_findShares_0 : decode cX4_findShares 0 = .ok (.aload_n 0, 1) := by decide +kernel
theorem dX4_findShares_1 : decode cX4_findShares 1 = .ok (.getfield 23, 3) := by decide +kernel
theorem dX4_findShares_4 : decode cX4_findShares 4 = .ok (.iconst 0, 1) := by decide +kernel
theorem dX4_findShares_5 : decode cX4_findShares 5 = .ok (.invokestatic 58, 3) := by decide +kernel
theorem dX4_findShares_8 : decode cX4_findShares 8 = .ok (.iconst 0, 1) := by decide +kernel
theorem dX4_findShares_9 : decode cX4_findShares 9 = .ok (.istore_n 2, 1) := by decide +kernel
theorem dX4_findShares_10 : decode cX4_findShares 10 = .ok (.iload_n 2, 1) := by decide +kernel
theorem dX4_findShares_11 : decode cX4_findShares 11 = .ok (.aload_n 0, 1) := by decide +kernel
theorem dX4_findShares_12 : decode cX4_findShares 12 = .ok (.getfield 9, 3) := by decide +kernel
theorem dX4_findShares_15 : decode cX4_findShares 15 = .ok (.getfield 64, 3) := by decide +kernel
theorem dX4_findShares_18 : decode cX4_findShares 18 = .ok (.if_icmp .ge 129, 3) := by decide +kernel
theorem dX4_findShares_21 : decode cX4_findShares 21 = .ok (.aload_n 0, 1) := by decide +kernel
theorem dX4_findShares_22 : decode cX4_findShares 22 = .ok (.getfield 9, 3) := by decide +kernel
theorem dX4_findShares_25 : decode cX4_findShares 25 = .ok (.getfield 70, 3) := by decide +kernel
theorem dX4_findShares_28 : decode cX4_findShares 28 = .ok (.iload_n 2, 1) := by decide +kernel
theorem dX4_findShares_29 : decode cX4_findShares 29 = .ok (.iaload, 1) := by decide +kernel
theorem dX4_findShares_30 : decode cX4_findShares 30 = .ok (.istore_n 3, 1) := by decide +kernel
theorem dX4_findShares_31 : decode cX4_findShares 31 = .ok (.aload_n 0, 1) := by decide +kernel
theorem dX4_findShares_32 : decode cX4_findShares 32 = .ok (.getfield 15, 3) := by decide +kernel
theorem dX4_findShares_35 : decode cX4_findShares 35 = .ok (.getfield 73, 3) := by decide +kernel
theorem dX4_findShares_38 : decode cX4_findShares 38 = .ok (.iload_n 1, 1) := by decide +kernel
theorem dX4_findShares_39 : decode cX4_findShares 39 = .ok (.iaload, 1) := by decide +kernel
theorem dX4_findShares_40 : decode cX4_findShares 40 = .ok (.iload_n 2, 1) := by decide +kernel
theorem dX4_findShares_41 : decode cX4_findShares 41 = .ok (.invokestatic 76, 3) := by decide +kernel
theorem dX4_findShares_44 : decode cX4_findShares 44 = .ok (.ifCond .eq 16, 3) := by decide +kernel
theorem dX4_findShares_47 : decode cX4_findShares 47 = .ok (.aload_n 0, 1) := by decide +kernel
theorem dX4_findShares_48 : decode cX4_findShares 48 = .ok (.getfield 23, 3) := by decide +kernel
theorem dX4_findShares_51 : decode cX4_findShares 51 = .ok (.iconst 0, 1) := by decide +kernel
theorem dX4_findShares_52 : decode cX4_findShares 52 = .ok (.dup2, 1) := by decide +kernel
theorem dX4_findShares_53 : decode cX4_findShares 53 = .ok (.iaload, 1) := by decide +kernel
theorem dX4_findShares_54 : decode cX4_findShares 54 = .ok (.iload_n 3, 1) := by decide +kernel
theorem dX4_findShares_55 : decode cX4_findShares 55 = .ok (.iadd, 1) := by decide +kernel
theorem dX4_findShares_56 : decode cX4_findShares 56 = .ok (.iastore, 1) := by decide +kernel
theorem dX4_findShares_57 : decode cX4_findShares 57 = .ok (.goto 84, 3) := by decide +kernel
theorem dX4_findShares_60 : decode cX4_findShares 60 = .ok (.aload_n 0, 1) := by decide +kernel
theorem dX4_findShares_61 : decode cX4_findShares 61 = .ok (.getfield 19, 3) := by decide +kernel
theorem dX4_findShares_64 : decode cX4_findShares 64 = .ok (.iload_n 2, 1) := by decide +kernel
theorem dX4_findShares_65 : decode cX4_findShares 65 = .ok (.invokevirtual 80, 3) := by decide +kernel
theorem dX4_findShares_68 : decode cX4_findShares 68 = .ok (.iload_n 2, 1) := by decide +kernel
theorem dX4_findShares_69 : decode cX4_findShares 69 = .ok (.if_icmp .ne 7, 3) := by decide +kernel
theorem dX4_findShares_72 : decode cX4_findShares 72 = .ok (.iload_n 3, 1) := by decide +kernel
theorem dX4_findShares_73 : decode cX4_findShares 73 = .ok (.goto 4, 3) := by decide +kernel
theorem dX4_findShares_76 : decode cX4_findShares 76 = .ok (.iconst 0, 1) := by decide +kernel
theorem dX4_findShares_77 : decode cX4_findShares 77 = .ok (.istore 4, 2) := by decide +kernel
theorem dX4_findShares_79 : decode cX4_findShares 79 = .ok (.aload_n 0, 1) := by decide +kernel
theorem dX4_findShares_80 : decode cX4_findShares 80 = .ok (.getfield 19, 3) := by decide +kernel
theorem dX4_findShares_83 : decode cX4_findShares 83 = .ok (.iload_n 1, 1) := by decide +kernel
theorem dX4_findShares_84 : decode cX4_findShares 84 = .ok (.iload_n 2, 1) := by decide +kernel
theorem dX4_findShares_85 : decode cX4_findShares 85 = .ok (.invokevirtual 85, 3) := by decide +kernel
theorem dX4_findShares_88 : decode cX4_findShares 88 = .ok (.iload_n 2, 1) := by decide +kernel
theorem dX4_findShares_89 : decode cX4_findShares 89 = .ok (.if_icmp .ne 7, 3) := by decide +kernel
theorem dX4_findShares_92 : decode cX4_findShares 92 = .ok (.iload_n 3, 1) := by decide +kernel
theorem dX4_findShares_93 : decode cX4_findShares 93 = .ok (.goto 4, 3) := by decide +kernel
theorem dX4_findShares_96 : decode cX4_findShares 96 = .ok (.iconst 0, 1) := by decide +kernel
theorem dX4_findShares_97 : decode cX4_findShares 97 = .ok (.istore 5, 2) := by decide +kernel
theorem dX4_findShares_99 : decode cX4_findShares 99 = .ok (.aload_n 0, 1) := by decide +kernel
theorem dX4_findShares_100 : decode cX4_findShares 100 = .ok (.getfield 23, 3) := by decide +kernel
theorem dX4_findShares_103 : decode cX4_findShares 103 = .ok (.iconst 1, 1) := by decide +kernel
theorem dX4_findShares_104 : decode cX4_findShares 104 = .ok (.aload_n 0, 1) := by decide +kernel
theorem dX4_findShares_105 : decode cX4_findShares 105 = .ok (.getfield 9, 3) := by decide +kernel
theorem dX4_findShares_108 : decode cX4_findShares 108 = .ok (.iload_n 2, 1) := by decide +kernel
theorem dX4_findShares_109 : decode cX4_findShares 109 = .ok (.invokevirtual 88, 3) := by decide +kernel
theorem dX4_findShares_112 : decode cX4_findShares 112 = .ok (.ishl, 1) := by decide +kernel
theorem dX4_findShares_113 : decode cX4_findShares 113 = .ok (.dup2, 1) := by decide +kernel
theorem dX4_findShares_114 : decode cX4_findShares 114 = .ok (.iaload, 1) := by decide +kernel
theorem dX4_findShares_115 : decode cX4_findShares 115 = .ok (.iload 4, 2) := by decide +kernel
theorem dX4_findShares_117 : decode cX4_findShares 117 = .ok (.iadd, 1) := by decide +kernel
theorem dX4_findShares_118 : decode cX4_findShares 118 = .ok (.iastore, 1) := by decide +kernel
theorem dX4_findShares_119 : decode cX4_findShares 119 = .ok (.aload_n 0, 1) := by decide +kernel
theorem dX4_findShares_120 : decode cX4_findShares 120 = .ok (.getfield 23, 3) := by decide +kernel
theorem dX4_findShares_123 : decode cX4_findShares 123 = .ok (.aload_n 0, 1) := by decide +kernel
theorem dX4_findShares_124 : decode cX4_findShares 124 = .ok (.getfield 9, 3) := by decide +kernel
theorem dX4_findShares_127 : decode cX4_findShares 127 = .ok (.getfield 91, 3) := by decide +kernel
theorem dX4_findShares_130 : decode cX4_findShares 130 = .ok (.iload_n 2, 1) := by decide +kernel
theorem dX4_findShares_131 : decode cX4_findShares 131 = .ok (.iaload, 1) := by decide +kernel
theorem dX4_findShares_132 : decode cX4_findShares 132 = .ok (.dup2, 1) := by decide +kernel
theorem dX4_findShares_133 : decode cX4_findShares 133 = .ok (.iaload, 1) := by decide +kernel
theorem dX4_findShares_134 : decode cX4_findShares 134 = .ok (.iload 5, 2) := by decide +kernel
theorem dX4_findShares_136 : decode cX4_findShares 136 = .ok (.iload 4, 2) := by decide +kernel
theorem dX4_findShares_138 : decode cX4_findShares 138 = .ok (.isub, 1) := by decide +kernel
theorem dX4_findShares_139 : decode cX4_findShares 139 = .ok (.iadd, 1) := by decide +kernel
theorem dX4_findShares_140 : decode cX4_findShares 140 = .ok (.iastore, 1) := by decide +kernel
theorem dX4_findShares_141 : decode cX4_findShares 141 = .ok (.iinc 2 1, 3) := by decide +kernel
theorem dX4_findShares_144 : decode cX4_findShares 144 = .ok (.goto (-134), 3) := by decide +kernel
theorem dX4_findShares_147 : decode cX4_findShares 147 = .ok (.aload_n 0, 1) := by decide +kernel
theorem dX4_findShares_148 : decode cX4_findShares 148 = .ok (.getfield 23, 3) := by decide +kernel
theorem dX4_findShares_151 : decode cX4_findShares 151 = .ok (.invokestatic 94, 3) := by decide +kernel
theorem dX4_findShares_154 : decode cX4_findShares 154 = .ok (.return_, 1) := by decide +kernel
theorem dX4_split_0 : decode cX4_split 0 = .ok (.iconst 0, 1) := by decide +kernel
theorem dX4_split_1 : decode cX4_split 1 = .ok (.istore_n 2, 1) := by decide +kernel
theorem dX4_split_2 : decode cX4_split 2 = .ok (.iload_n 2, 1) := by decide +kernel
theorem dX4_split_3 : decode cX4_split 3 = .ok (.iconst 4, 1) := by decide +kernel
theorem dX4_split_4 : decode cX4_split 4 = .ok (.if_icmp .ge 14, 3) := by decide +kernel
theorem dX4_split_7 : decode cX4_split 7 = .ok (.aload_n 0, 1) := by decide +kernel
theorem dX4_split_8 : decode cX4_split 8 = .ok (.iload_n 2, 1) := by decide +kernel
theorem dX4_split_9 : decode cX4_split 9 = .ok (.invokevirtual 98, 3) := by decide +kernel
theorem dX4_split_12 : decode cX4_split 12 = .ok (.iinc 2 1, 3) := by decide +kernel
theorem dX4_split_15 : decode cX4_split 15 = .ok (.goto (-13), 3) := by decide +kernel
theorem dX4_split_18 : decode cX4_split 18 = .ok (.aload_n 0, 1) := by decide +kernel
theorem dX4_split_19 : decode cX4_split 19 = .ok (.iconst (-1), 1) := by decide +kernel
theorem dX4_split_20 : decode cX4_split 20 = .ok (.putfield 101, 3) := by decide +kernel
theorem dX4_split_23 : decode cX4_split 23 = .ok (.iconst 0, 1) := by decide +kernel
theorem dX4_split_24 : decode cX4_split 24 = .ok (.istore_n 2, 1) := by decide +kernel
theorem dX4_split_25 : decode cX4_split 25 = .ok (.iload_n 2, 1) := by decide +kernel
theorem dX4_split_26 : decode cX4_split 26 = .ok (.iload_n 1, 1) := by decide +kernel
theorem dX4_split_27 : decode cX4_split 27 = .ok (.if_icmp .gt 59, 3) := by decide +kernel
theorem dX4_split_30 : decode cX4_split 30 = .ok (.iconst 0, 1) := by decide +kernel
theorem dX4_split_31 : decode cX4_split 31 = .ok (.istore_n 3, 1) := by decide +kernel
theorem dX4_split_32 : decode cX4_split 32 = .ok (.iload_n 2, 1) := by decide +kernel
theorem dX4_split_33 : decode cX4_split 33 = .ok (.iload_n 3, 1) := by decide +kernel
theorem dX4_split_34 : decode cX4_split 34 = .ok (.iadd, 1) := by decide +kernel
theorem dX4_split_35 : decode cX4_split 35 = .ok (.iload_n 1, 1) := by decide +kernel
theorem dX4_split_36 : decode cX4_split 36 = .ok (.if_icmp .gt 44, 3) := by decide +kernel
theorem dX4_split_39 : decode cX4_split 39 = .ok (.iconst 0, 1) := by decide +kernel
theorem dX4_split_40 : decode cX4_split 40 = .ok (.istore 4, 2) := by decide +kernel
theorem dX4_split_42 : decode cX4_split 42 = .ok (.iload_n 2, 1) := by decide +kernel
theorem dX4_split_43 : decode cX4_split 43 = .ok (.iload_n 3, 1) := by decide +kernel
theorem dX4_split_44 : decode cX4_split 44 = .ok (.iadd, 1) := by decide +kernel
theorem dX4_split_45 : decode cX4_split 45 = .ok (.iload 4, 2) := by decide +kernel
theorem dX4_split_47 : decode cX4_split 47 = .ok (.iadd, 1) := by decide +kernel
theorem dX4_split_48 : decode cX4_split 48 = .ok (.iload_n 1, 1) := by decide +kernel
theorem dX4_split_49 : decode cX4_split 49 = .ok (.if_icmp .gt 25, 3) := by decide +kernel
theorem dX4_split_52 : decode cX4_split 52 = .ok (.aload_n 0, 1) := by decide +kernel
theorem dX4_split_53 : decode cX4_split 53 = .ok (.iload_n 2, 1) := by decide +kernel
theorem dX4_split_54 : decode cX4_split 54 = .ok (.iload_n 3, 1) := by decide +kernel
theorem dX4_split_55 : decode cX4_split 55 = .ok (.iload 4, 2) := by decide +kernel
theorem dX4_split_57 : decode cX4_split 57 = .ok (.iload_n 1, 1) := by decide +kernel
theorem dX4_split_58 : decode cX4_split 58 = .ok (.iload_n 2, 1) := by decide +kernel
theorem dX4_split_59 : decode cX4_split 59 = .ok (.isub, 1) := by decide +kernel
theorem dX4_split_60 : decode cX4_split 60 = .ok (.iload_n 3, 1) := by decide +kernel
theorem dX4_split_61 : decode cX4_split 61 = .ok (.isub, 1) := by decide +kernel
theorem dX4_split_62 : decode cX4_split 62 = .ok (.iload 4, 2) := by decide +kernel
theorem dX4_split_64 : decode cX4_split 64 = .ok (.isub, 1) := by decide +kernel
theorem dX4_split_65 : decode cX4_split 65 = .ok (.invokevirtual 104, 3) := by decide +kernel
theorem dX4_split_68 : decode cX4_split 68 = .ok (.iinc 4 1, 3) := by decide +kernel
theorem dX4_split_71 : decode cX4_split 71 = .ok (.goto (-29), 3) := by decide +kernel
theorem dX4_split_74 : decode cX4_split 74 = .ok (.iinc 3 1, 3) := by decide +kernel
theorem dX4_split_77 : decode cX4_split 77 = .ok (.goto (-45), 3) := by decide +kernel
theorem dX4_split_80 : decode cX4_split 80 = .ok (.iinc 2 1, 3) := by decide +kernel
theorem dX4_split_83 : decode cX4_split 83 = .ok (.goto (-58), 3) := by decide +kernel
theorem dX4_split_86 : decode cX4_split 86 = .ok (.return_, 1) := by decide +kernel
theorem dX4_trySplit_0 : decode cX4_trySplit 0 = .ok (.aload_n 0, 1) := by decide +kernel
theorem dX4_trySplit_1 : decode cX4_trySplit 1 = .ok (.iconst 0, 1) := by decide +kernel
theorem dX4_trySplit_2 : decode cX4_trySplit 2 = .ok (.iload_n 1, 1) := by decide +kernel
theorem dX4_trySplit_3 : decode cX4_trySplit 3 = .ok (.invokevirtual 108, 3) := by decide +kernel
theorem dX4_trySplit_6 : decode cX4_trySplit 6 = .ok (.aload_n 0, 1) := by decide +kernel
theorem dX4_trySplit_7 : decode cX4_trySplit 7 = .ok (.iconst 1, 1) := by decide +kernel
theorem dX4_trySplit_8 : decode cX4_trySplit 8 = .ok (.iload_n 2, 1) := by decide +kernel
theorem dX4_trySplit_9 : decode cX4_trySplit 9 = .ok (.invokevirtual 108, 3) := by decide +kernel
theorem dX4_trySplit_12 : decode cX4_trySplit 12 = .ok (.iadd, 1) := by decide +kernel
theorem dX4_trySplit_13 : decode cX4_trySplit 13 = .ok (.aload_n 0, 1) := by decide +kernel
theorem dX4_trySplit_14 : decode cX4_trySplit 14 = .ok (.iconst 2, 1) := by decide +kernel
theorem dX4_trySplit_15 : decode cX4_trySplit 15 = .ok (.iload_n 3, 1) := by decide +kernel
theorem dX4_trySplit_16 : decode cX4_trySplit 16 = .ok (.invokevirtual 108, 3) := by decide +kernel
theorem dX4_trySplit_19 : decode cX4_trySplit 19 = .ok (.iadd, 1) := by decide +kernel
theorem dX4_trySplit_20 : decode cX4_trySplit 20 = .ok (.aload_n 0, 1) := by decide +kernel
theorem dX4_trySplit_21 : decode cX4_trySplit 21 = .ok (.iconst 3, 1) := by decide +kernel
theorem dX4_trySplit_22 : decode cX4_trySplit 22 = .ok (.iload 4, 2) := by decide +kernel
theorem dX4_trySplit_24 : decode cX4_trySplit 24 = .ok (.invokevirtual 108, 3) := by decide +kernel
theorem dX4_trySplit_27 : decode cX4_trySplit 27 = .ok (.iadd, 1) := by decide +kernel
theorem dX4_trySplit_28 : decode cX4_trySplit 28 = .ok (.istore 5, 2) := by decide +kernel
theorem dX4_trySplit_30 : decode cX4_trySplit 30 = .ok (.iload 5, 2) := by decide +kernel
theorem dX4_trySplit_32 : decode cX4_trySplit 32 = .ok (.aload_n 0, 1) := by decide +kernel
theorem dX4_trySplit_33 : decode cX4_trySplit 33 = .ok (.getfield 101, 3) := by decide +kernel
theorem dX4_trySplit_36 : decode cX4_trySplit 36 = .ok (.if_icmp .le 38, 3) := by decide +kernel
theorem dX4_trySplit_39 : decode cX4_trySplit 39 = .ok (.aload_n 0, 1) := by decide +kernel
theorem dX4_trySplit_40 : decode cX4_trySplit 40 = .ok (.iload 5, 2) := by decide +kernel
theorem dX4_trySplit_42 : decode cX4_trySplit 42 = .ok (.putfield 101, 3) := by decide +kernel
theorem dX4_trySplit_45 : decode cX4_trySplit 45 = .ok (.aload_n 0, 1) := by decide +kernel
theorem dX4_trySplit_46 : decode cX4_trySplit 46 = .ok (.getfield 34, 3) := by decide +kernel
theorem dX4_trySplit_49 : decode cX4_trySplit 49 = .ok (.iconst 0, 1) := by decide +kernel
theorem dX4_trySplit_50 : decode cX4_trySplit 50 = .ok (.iload_n 1, 1) := by decide +kernel
theorem dX4_trySplit_51 : decode cX4_trySplit 51 = .ok (.iastore, 1) := by decide +kernel
theorem dX4_trySplit_52 : decode cX4_trySplit 52 = .ok (.aload_n 0, 1) := by decide +kernel
theorem dX4_trySplit_53 : decode cX4_trySplit 53 = .ok (.getfield 34, 3) := by decide +kernel
theorem dX4_trySplit_56 : decode cX4_trySplit 56 = .ok (.iconst 1, 1) := by decide +kernel
theorem dX4_trySplit_57 : decode cX4_trySplit 57 = .ok (.iload_n 2, 1) := by decide +kernel
theorem dX4_trySplit_58 : decode cX4_trySplit 58 = .ok (.iastore, 1) := by decide +kernel
theorem dX4_trySplit_59 : decode cX4_trySplit 59 = .ok (.aload_n 0, 1) := by decide +kernel
theorem dX4_trySplit_60 : decode cX4_trySplit 60 = .ok (.getfield 34, 3) := by decide +kernel
theorem dX4_trySplit_63 : decode cX4_trySplit 63 = .ok (.iconst 2, 1) := by decide +kernel
theorem dX4_trySplit_64 : decode cX4_trySplit 64 = .ok (.iload_n 3, 1) := by decide +kernel
theorem dX4_trySplit_65 : decode cX4_trySplit 65 = .ok (.iastore, 1) := by decide +kernel
theorem dX4_trySplit_66 : decode cX4_trySplit 66 = .ok (.aload_n 0, 1) := by decide +kernel
theorem dX4_trySplit_67 : decode cX4_trySplit 67 = .ok (.getfield 34, 3) := by decide +kernel
theorem dX4_trySplit_70 : decode cX4_trySplit 70 = .ok (.iconst 3, 1) := by decide +kernel
theorem dX4_trySplit_71 : decode cX4_trySplit 71 = .ok (.iload 4, 2) := by decide +kernel
theorem dX4_trySplit_73 : decode cX4_trySplit 73 = .ok (.iastore, 1) := by decide +kernel
theorem dX4_trySplit_74 : decode cX4_trySplit 74 = .ok (.return_, 1) := by decide +kernel
theorem dX5_init_0 : decode cX5_init 0 = .ok (.aload_n 0, 1) := by decide +kernel
theorem dX5_init_1 : decode cX5_init 1 = .ok (.invokespecial 3, 3) := by decide +kernel
theorem dX5_init_4 : decode cX5_init 4 = .ok (.aload_n 0, 1) := by decide +kernel
theorem dX5_init_5 : decode cX5_init 5 = .ok (.bipush 14, 2) := by decide +kernel
theorem dX5_init_7 : decode cX5_init 7 = .ok (.newarray .int, 2) := by decide +kernel
theorem dX5_init_9 : decode cX5_init 9 = .ok (.putfield 9, 3) := by decide +kernel
theorem dX5_init_12 : decode cX5_init 12 = .ok (.return_, 1) := by decide +kernel
theorem dX5_findFault_0 : decode cX5_findFault 0 = .ok (.iconst 0, 1) := by decide +kernel
theorem dX5_findFault_1 : decode cX5_findFault 1 = .ok (.istore_n 1, 1) := by decide +kernel
theorem dX5_findFault_2 : decode cX5_findFault 2 = .ok (.iconst 0, 1) := by decide +kernel
theorem dX5_findFault_3 : decode cX5_findFault 3 = .ok (.istore_n 2, 1) := by decide +kernel
theorem dX5_findFault_4 : decode cX5_findFault 4 = .ok (.iconst 0, 1) := by decide +kernel
theorem dX5_findFault_5 : decode cX5_findFault 5 = .ok (.istore_n 3, 1) := by decide +kernel
theorem dX5_findFault_6 : decode cX5_findFault 6 = .ok (.iconst 0, 1) := by decide +kernel
theorem dX5_findFault_7 : decode cX5_findFault 7 = .ok (.istore 4, 2) := by decide +kernel
theorem dX5_findFault_9 : decode cX5_findFault 9 = .ok (.iload 4, 2) := by decide +kernel
theorem dX5_findFault_11 : decode cX5_findFault 11 = .ok (.aload_n 0, 1) := by decide +kernel
theorem dX5_findFault_12 : decode cX5_findFault 12 = .ok (.getfield 15, 3) := by decide +kernel
theorem dX5_findFault_15 : decode cX5_findFault 15 = .ok (.if_icmp .ge 91, 3) := by decide +kernel
theorem dX5_findFault_18 : decode cX5_findFault 18 = .ok (.aload_n 0, 1) := by decide +kernel
theorem dX5_findFault_19 : decode cX5_findFault 19 = .ok (.getfield 9, 3) := by decide +kernel
theorem dX5_findFault_22 : decode cX5_findFault 22 = .ok (.iload 4, 2) := by decide +kernel
theorem dX5_findFault_24 : decode cX5_findFault 24 = .ok (.iaload, 1) := by decide +kernel
theorem dX5_findFault_25 : decode cX5_findFault 25 = .ok (.istore 5, 2) := by decide +kernel
theorem dX5_findFault_27 : decode cX5_findFault 27 = .ok (.iload_n 3, 1) := by decide +kernel
theorem dX5_findFault_28 : decode cX5_findFault 28 = .ok (.ifCond .eq 31, 3) := by decide +kernel
theorem dX5_findFault_31 : decode cX5_findFault 31 = .ok (.iload 5, 2) := by decide +kernel
theorem dX5_findFault_33 : decode cX5_findFault 33 = .ok (.bipush 48, 2) := by decide +kernel
theorem dX5_findFault_35 : decode cX5_findFault 35 = .ok (.if_icmp .lt 15, 3) := by decide +kernel
theorem dX5_findFault_38 : decode cX5_findFault 38 = .ok (.iload 5, 2) := by decide +kernel
theorem dX5_findFault_40 : decode cX5_findFault 40 = .ok (.bipush 57, 2) := by decide +kernel
theorem dX5_findFault_42 : decode cX5_findFault 42 = .ok (.if_icmp .gt 8, 3) := by decide +kernel
theorem dX5_findFault_45 : decode cX5_findFault 45 = .ok (.iload_n 2, 1) := by decide +kernel
theorem dX5_findFault_46 : decode cX5_findFault 46 = .ok (.iload_n 1, 1) := by decide +kernel
theorem dX5_findFault_47 : decode cX5_findFault 47 = .ok (.if_icmp .ne 6, 3) := by decide +kernel
theorem dX5_findFault_50 : decode cX5_findFault 50 = .ok (.iload 4, 2) := by decide +kernel
theorem dX5_findFault_52 : decode cX5_findFault 52 = .ok (.ireturn, 1) := by decide +kernel
theorem dX5_findFault_53 : decode cX5_findFault 53 = .ok (.iinc 2 1, 3) := by decide +kernel
theorem dX5_findFault_56 : decode cX5_findFault 56 = .ok (.goto 44, 3) := by decide +kernel
theorem dX5_findFault_59 : decode cX5_findFault 59 = .ok (.iload 5, 2) := by decide +kernel
theorem dX5_findFault_61 : decode cX5_findFault 61 = .ok (.bipush 61, 2) := by decide +kernel
theorem dX5_findFault_63 : decode cX5_findFault 63 = .ok (.if_icmp .ne 12, 3) := by decide +kernel
theorem dX5_findFault_66 : decode cX5_findFault 66 = .ok (.iload_n 1, 1) := by decide +kernel
theorem dX5_findFault_67 : decode cX5_findFault 67 = .ok (.ifCond .le 8, 3) := by decide +kernel
theorem dX5_findFault_70 : decode cX5_findFault 70 = .ok (.iconst 1, 1) := by decide +kernel
theorem dX5_findFault_71 : decode cX5_findFault 71 = .ok (.istore_n 3, 1) := by decide +kernel
theorem dX5_findFault_72 : decode cX5_findFault 72 = .ok (.goto 28, 3) := by decide +kernel
theorem dX5_findFault_75 : decode cX5_findFault 75 = .ok (.iload 5, 2) := by decide +kernel
theorem dX5_findFault_77 : decode cX5_findFault 77 = .ok (.bipush 97, 2) := by decide +kernel
theorem dX5_findFault_79 : decode cX5_findFault 79 = .ok (.if_icmp .lt 15, 3) := by decide +kernel
theorem dX5_findFault_82 : decode cX5_findFault 82 = .ok (.iload 5, 2) := by decide +kernel
theorem dX5_findFault_84 : decode cX5_findFault 84 = .ok (.bipush 106, 2) := by decide +kernel
theorem dX5_findFault_86 : decode cX5_findFault 86 = .ok (.if_icmp .gt 8, 3) := by decide +kernel
theorem dX5_findFault_89 : decode cX5_findFault 89 = .ok (.iload_n 1, 1) := by decide +kernel
theorem dX5_findFault_90 : decode cX5_findFault 90 = .ok (.iconst 5, 1) := by decide +kernel
theorem dX5_findFault_91 : decode cX5_findFault 91 = .ok (.if_icmp .ne 6, 3) := by decide +kernel
theorem dX5_findFault_94 : decode cX5_findFault 94 = .ok (.iload 4, 2) := by decide +kernel
theorem dX5_findFault_96 : decode cX5_findFault 96 = .ok (.ireturn, 1) := by decide +kernel
theorem dX5_findFault_97 : decode cX5_findFault 97 = .ok (.iinc 1 1, 3) := by decide +kernel
theorem dX5_findFault_100 : decode cX5_findFault 100 = .ok (.iinc 4 1, 3) := by decide +kernel
theorem dX5_findFault_103 : decode cX5_findFault 103 = .ok (.goto (-94), 3) := by decide +kernel
theorem dX5_findFault_106 : decode cX5_findFault 106 = .ok (.iload_n 3, 1) := by decide +kernel
theorem dX5_findFault_107 : decode cX5_findFault 107 = .ok (.ifCond .eq 13, 3) := by decide +kernel
theorem dX5_findFault_110 : decode cX5_findFault 110 = .ok (.iload_n 2, 1) := by decide +kernel
theorem dX5_findFault_111 : decode cX5_findFault 111 = .ok (.iload_n 1, 1) := by decide +kernel
theorem dX5_findFault_112 : decode cX5_findFault 112 = .ok (.if_icmp .ne 8, 3) := by decide +kernel
theorem dX5_findFault_115 : decode cX5_findFault 115 = .ok (.bipush (-6), 2) := by decide +kernel
theorem dX5_findFault_117 : decode cX5_findFault 117 = .ok (.goto 7, 3) := by decide +kernel
theorem dX5_findFault_120 : decode cX5_findFault 120 = .ok (.aload_n 0, 1) := by decide +kernel
theorem dX5_findFault_121 : decode cX5_findFault 121 = .ok (.getfield 15, 3) := by decide +kernel
theorem dX5_findFault_124 : decode cX5_findFault 124 = .ok (.ireturn, 1) := by decide +kernel
theorem dX5_letterCount_0 : decode cX5_letterCount 0 = .ok (.aload_n 0, 1) := by decide +kernel
theorem dX5_letterCount_1 : decode cX5_letterCount 1 = .ok (.getfield 15, 3) := by decide +kernel
theorem dX5_letterCount_4 : decode cX5_letterCount 4 = .ok (.iconst 2, 1) := by decide +kernel
theorem dX5_letterCount_5 : decode cX5_letterCount 5 = .ok (.idiv, 1) := by decide +kernel
theorem dX5_letterCount_6 : decode cX5_letterCount 6 = .ok (.ireturn, 1) := by decide +kernel
theorem dX5_letterAt_0 : decode cX5_letterAt 0 = .ok (.aload_n 0, 1) := by decide +kernel
theorem dX5_letterAt_1 : decode cX5_letterAt 1 = .ok (.getfield 9, 3) := by decide +kernel
theorem dX5_letterAt_4 : decode cX5_letterAt 4 = .ok (.iload_n 1, 1) := by decide +kernel
theorem dX5_letterAt_5 : decode cX5_letterAt 5 = .ok (.iaload, 1) := by decide +kernel
theorem dX5_letterAt_6 : decode cX5_letterAt 6 = .ok (.bipush 97, 2) := by decide +kernel
theorem dX5_letterAt_8 : decode cX5_letterAt 8 = .ok (.isub, 1) := by decide +kernel
theorem dX5_letterAt_9 : decode cX5_letterAt 9 = .ok (.ireturn, 1) := by decide +kernel
theorem dX5_digitAt_0 : decode cX5_digitAt 0 = .ok (.aload_n 0, 1) := by decide +kernel
theorem dX5_digitAt_1 : decode cX5_digitAt 1 = .ok (.getfield 9, 3) := by decide +kernel
theorem dX5_digitAt_4 : decode cX5_digitAt 4 = .ok (.aload_n 0, 1) := by decide +kernel
theorem dX5_digitAt_5 : decode cX5_digitAt 5 = .ok (.invokevirtual 19, 3) := by decide +kernel
theorem dX5_digitAt_8 : decode cX5_digitAt 8 = .ok (.iconst 1, 1) := by decide +kernel
theorem dX5_digitAt_9 : decode cX5_digitAt 9 = .ok (.iadd, 1) := by decide +kernel
theorem dX5_digitAt_10 : decode cX5_digitAt 10 = .ok (.iload_n 1, 1) := by decide +kernel
theorem dX5_digitAt_11 : decode cX5_digitAt 11 = .ok (.iadd, 1) := by decide +kernel
theorem dX5_digitAt_12 : decode cX5_digitAt 12 = .ok (.iaload, 1) := by decide +kernel
theorem dX5_digitAt_13 : decode cX5_digitAt 13 = .ok (.bipush 48, 2) := by decide +kernel
theorem dX5_digitAt_15 : decode cX5_digitAt 15 = .ok (.isub, 1) := by decide +kernel
theorem dX5_digitAt_16 : decode cX5_digitAt 16 = .ok (.ireturn, 1) := by decide +kernel
theorem dX6_init_0 : decode cX6_init 0 = .ok (.aload_n 0, 1) := by decide +kernel
theorem dX6_init_1 : decode cX6_init 1 = .ok (.invokespecial 3, 3) := by decide +kernel
theorem dX6_init_4 : decode cX6_init 4 = .ok (.aload_n 0, 1) := by decide +kernel
theorem dX6_init_5 : decode cX6_init 5 = .ok (.aload_n 1, 1) := by decide +kernel
theorem dX6_init_6 : decode cX6_init 6 = .ok (.putfield 9, 3) := by decide +kernel
theorem dX6_init_9 : decode cX6_init 9 = .ok (.aload_n 0, 1) := by decide +kernel
theorem dX6_init_10 : decode cX6_init 10 = .ok (.aload_n 2, 1) := by decide +kernel
theorem dX6_init_11 : decode cX6_init 11 = .ok (.putfield 15, 3) := by decide +kernel
theorem dX6_init_14 : decode cX6_init 14 = .ok (.aload_n 0, 1) := by decide +kernel
theorem dX6_init_15 : decode cX6_init 15 = .ok (.aload_n 3, 1) := by decide +kernel
theorem dX6_init_16 : decode cX6_init 16 = .ok (.putfield 19, 3) := by decide +kernel
theorem dX6_init_19 : decode cX6_init 19 = .ok (.aload_n 0, 1) := by decide +kernel
theorem dX6_init_20 : decode cX6_init 20 = .ok (.iconst 5, 1) := by decide +kernel
theorem dX6_init_21 : decode cX6_init 21 = .ok (.newarray .int, 2) := by decide +kernel
theorem dX6_init_23 : decode cX6_init 23 = .ok (.putfield 23, 3) := by decide +kernel
theorem dX6_init_26 : decode cX6_init 26 = .ok (.return_, 1) := by decide +kernel
theorem dX6_wayOf_0 : decode cX6_wayOf 0 = .ok (.aload_n 0, 1) := by decide +kernel
theorem dX6_wayOf_1 : decode cX6_wayOf 1 = .ok (.getfield 19, 3) := by decide +kernel
theorem dX6_wayOf_4 : decode cX6_wayOf 4 = .ok (.getfield 27, 3) := by decide +kernel
theorem dX6_wayOf_7 : decode cX6_wayOf 7 = .ok (.iload_n 1, 1) := by decide +kernel
theorem dX6_wayOf_8 : decode cX6_wayOf 8 = .ok (.iaload, 1) := by decide +kernel
theorem dX6_wayOf_9 : decode cX6_wayOf 9 = .ok (.istore_n 3, 1) := by decide +kernel
theorem dX6_wayOf_10 : decode cX6_wayOf 10 = .ok (.aload_n 0, 1) := by decide +kernel
theorem dX6_wayOf_11 : decode cX6_wayOf 11 = .ok (.getfield 19, 3) := by decide +kernel
theorem dX6_wayOf_14 : decode cX6_wayOf 14 = .ok (.getfield 32, 3) := by decide +kernel
theorem dX6_wayOf_17 : decode cX6_wayOf 17 = .ok (.iload_n 1, 1) := by decide +kernel
theorem dX6_wayOf_18 : decode cX6_wayOf 18 = .ok (.iaload, 1) := by decide +kernel
theorem dX6_wayOf_19 : decode cX6_wayOf 19 = .ok (.iload_n 2, 1) := by decide +kernel
theorem dX6_wayOf_20 : decode cX6_wayOf 20 = .ok (.invokestatic 35, 3) := by decide +kernel
theorem dX6_wayOf_23 : decode cX6_wayOf 23 = .ok (.ifCond .eq 5, 3) := by decide +kernel
theorem dX6_wayOf_26 : decode cX6_wayOf 26 = .ok (.iconst 0, 1) := by decide +kernel
theorem dX6_wayOf_27 : decode cX6_wayOf 27 = .ok (.ireturn, 1) := by decide +kernel
theorem dX6_wayOf_28 : decode cX6_wayOf 28 = .ok (.aload_n 0, 1) := by decide +kernel
theorem dX6_wayOf_29 : decode cX6_wayOf 29 = .ok (.getfield 9, 3) := by decide +kernel
theorem dX6_wayOf_32 : decode cX6_wayOf 32 = .ok (.getfield 39, 3) := by decide +kernel
theorem dX6_wayOf_35 : decode cX6_wayOf 35 = .ok (.iload_n 2, 1) := by decide +kernel
theorem dX6_wayOf_36 : decode cX6_wayOf 36 = .ok (.iaload, 1) := by decide +kernel
theorem dX6_wayOf_37 : decode cX6_wayOf 37 = .ok (.iload_n 3, 1) := by decide +kernel
theorem dX6_wayOf_38 : decode cX6_wayOf 38 = .ok (.iconst (-1), 1) := by decide +kernel
theorem dX6_wayOf_39 : decode cX6_wayOf 39 = .ok (.ixor, 1) := by decide +kernel
theorem dX6_wayOf_40 : decode cX6_wayOf 40 = .ok (.iand, 1) := by decide +kernel
theorem dX6_wayOf_41 : decode cX6_wayOf 41 = .ok (.ifCond .ne 5, 3) := by decide +kernel
theorem dX6_wayOf_44 : decode cX6_wayOf 44 = .ok (.iconst 1, 1) := by decide +kernel
theorem dX6_wayOf_45 : decode cX6_wayOf 45 = .ok (.ireturn, 1) := by decide +kernel
theorem dX6_wayOf_46 : decode cX6_wayOf 46 = .ok (.iload_n 3, 1) := by decide +kernel
theorem dX6_wayOf_47 : decode cX6_wayOf 47 = .ok (.aload_n 0, 1) := by decide +kernel
theorem dX6_wayOf_48 : decode cX6_wayOf 48 = .ok (.getfield 9, 3) := by decide +kernel
theorem dX6_wayOf_51 : decode cX6_wayOf 51 = .ok (.iload_n 2, 1) := by decide +kernel
theorem dX6_wayOf_52 : decode cX6_wayOf 52 = .ok (.invokevirtual 44, 3) := by decide +kernel
theorem dX6_wayOf_55 : decode cX6_wayOf 55 = .ok (.invokestatic 35, 3) := by decide +kernel
theorem dX6_wayOf_58 : decode cX6_wayOf 58 = .ok (.ifCond .eq 7, 3) := by decide +kernel
theorem dX6_wayOf_61 : decode cX6_wayOf 61 = .ok (.iconst 2, 1) := by decide +kernel
theorem dX6_wayOf_62 : decode cX6_wayOf 62 = .ok (.goto 4, 3) := by decide +kernel
theorem dX6_wayOf_65 : decode cX6_wayOf 65 = .ok (.iconst 3, 1) := by decide +kernel
theorem dX6_wayOf_66 : decode cX6_wayOf 66 = .ok (.ireturn, 1) := by decide +kernel
theorem dX6_readAs_0 : decode cX6_readAs 0 = .ok (.aload_n 0, 1) := by decide +kernel
theorem dX6_readAs_1 : decode cX6_readAs 1 = .ok (.iload_n 1, 1) := by decide +kernel
theorem dX6_readAs_2 : decode cX6_readAs 2 = .ok (.iload_n 2, 1) := by decide +kernel
theorem dX6_readAs_3 : decode cX6_readAs 3 = .ok (.invokevirtual 48, 3) := by decide +kernel
theorem dX6_readAs_6 : decode cX6_readAs 6 = .ok (.tableswitch 41 0 2 #[26, 28, 35], 26) := by decide +kernel
theorem dX6_readAs_32 : decode cX6_readAs 32 = .ok (.iload_n 2, 1) := by decide +kernel
theorem dX6_readAs_33 : decode cX6_readAs 33 = .ok (.ireturn, 1) := by decide +kernel
theorem dX6_readAs_34 : decode cX6_readAs 34 = .ok (.aload_n 0, 1) := by decide +kernel
theorem dX6_readAs_35 : decode cX6_readAs 35 = .ok (.iload_n 1, 1) := by decide +kernel
theorem dX6_readAs_36 : decode cX6_readAs 36 = .ok (.iload_n 2, 1) := by decide +kernel
theorem dX6_readAs_37 : decode cX6_readAs 37 = .ok (.invokevirtual 52, 3) := by decide +kernel
theorem dX6_readAs_40 : decode cX6_readAs 40 = .ok (.ireturn, 1) := by decide +kernel
theorem dX6_readAs_41 : decode cX6_readAs 41 = .ok (.aload_n 0, 1) := by decide +kernel
theorem dX6_readAs_42 : decode cX6_readAs 42 = .ok (.iload_n 2, 1) := by decide +kernel
theorem dX6_readAs_43 : decode cX6_readAs 43 = .ok (.invokevirtual 55, 3) := by decide +kernel
theorem dX6_readAs_46 : decode cX6_readAs 46 = .ok (.ireturn, 1) := by decide +kernel
theorem dX6_readAs_47 : decode cX6_readAs 47 = .ok (.bipush (-6), 2) := by decide +kernel
theorem dX6_readAs_49 : decode cX6_readAs 49 = .ok (.ireturn, 1) := by decide +kernel
theorem dX6_guessedAs_0 : decode cX6_guessedAs 0 = .ok (.aload_n 0, 1) := by decide +kernel
theorem dX6_guessedAs_1 : decode cX6_guessedAs 1 = .ok (.getfield 15, 3) := by decide +kernel
theorem dX6_guessedAs_4 : decode cX6_guessedAs 4 = .ok (.getfield 58, 3) := by decide +kernel
theorem dX6_guessedAs_7 : decode cX6_guessedAs 7 = .ok (.aload_n 0, 1) := by decide +kernel
theorem dX6_guessedAs_8 : decode cX6_guessedAs 8 = .ok (.getfield 9, 3) := by decide +kernel
theorem dX6_guessedAs_11 : decode cX6_guessedAs 11 = .ok (.iload_n 1, 1) := by decide +kernel
theorem dX6_guessedAs_12 : decode cX6_guessedAs 12 = .ok (.invokevirtual 44, 3) := by decide +kernel
theorem dX6_guessedAs_15 : decode cX6_guessedAs 15 = .ok (.iaload, 1) := by decide +kernel
theorem dX6_guessedAs_16 : decode cX6_guessedAs 16 = .ok (.ireturn, 1) := by decide +kernel
theorem dX6_soundedAs_0 : decode cX6_soundedAs 0 = .ok (.aload_n 0, 1) := by decide +kernel
theorem dX6_soundedAs_1 : decode cX6_soundedAs 1 = .ok (.getfield 9, 3) := by decide +kernel
theorem dX6_soundedAs_4 : decode cX6_soundedAs 4 = .ok (.getfield 63, 3) := by decide +kernel
theorem dX6_soundedAs_7 : decode cX6_soundedAs 7 = .ok (.iload_n 2, 1) := by decide +kernel
theorem dX6_soundedAs_8 : decode cX6_soundedAs 8 = .ok (.iaload, 1) := by decide +kernel
theorem dX6_soundedAs_9 : decode cX6_soundedAs 9 = .ok (.istore_n 3, 1) := by decide +kernel
theorem dX6_soundedAs_10 : decode cX6_soundedAs 10 = .ok (.iconst 0, 1) := by decide +kernel
theorem dX6_soundedAs_11 : decode cX6_soundedAs 11 = .ok (.istore 4, 2) := by decide +kernel
theorem dX6_soundedAs_13 : decode cX6_soundedAs 13 = .ok (.iload 4, 2) := by decide +kernel
theorem dX6_soundedAs_15 : decode cX6_soundedAs 15 = .ok (.iload_n 3, 1) := by decide +kernel
theorem dX6_soundedAs_16 : decode cX6_soundedAs 16 = .ok (.if_icmp .ge 61, 3) := by decide +kernel
theorem dX6_soundedAs_19 : decode cX6_soundedAs 19 = .ok (.aload_n 0, 1) := by decide +kernel
theorem dX6_soundedAs_20 : decode cX6_soundedAs 20 = .ok (.getfield 19, 3) := by decide +kernel
theorem dX6_soundedAs_23 : decode cX6_soundedAs 23 = .ok (.iload_n 1, 1) := by decide +kernel
theorem dX6_soundedAs_24 : decode cX6_soundedAs 24 = .ok (.aload_n 0, 1) := by decide +kernel
theorem dX6_soundedAs_25 : decode cX6_soundedAs 25 = .ok (.getfield 9, 3) := by decide +kernel
theorem dX6_soundedAs_28 : decode cX6_soundedAs 28 = .ok (.iload_n 2, 1) := by decide +kernel
theorem dX6_soundedAs_29 : decode cX6_soundedAs 29 = .ok (.iload 4, 2) := by decide +kernel
theorem dX6_soundedAs_31 : decode cX6_soundedAs 31 = .ok (.invokevirtual 66, 3) := by decide +kernel
theorem dX6_soundedAs_34 : decode cX6_soundedAs 34 = .ok (.invokevirtual 69, 3) := by decide +kernel
theorem dX6_soundedAs_37 : decode cX6_soundedAs 37 = .ok (.istore 5, 2) := by decide +kernel
theorem dX6_soundedAs_39 : decode cX6_soundedAs 39 = .ok (.aload_n 0, 1) := by decide +kernel
theorem dX6_soundedAs_40 : decode cX6_soundedAs 40 = .ok (.getfield 23, 3) := by decide +kernel
theorem dX6_soundedAs_43 : decode cX6_soundedAs 43 = .ok (.iload 4, 2) := by decide +kernel
theorem dX6_soundedAs_45 : decode cX6_soundedAs 45 = .ok (.aload_n 0, 1) := by decide +kernel
theorem dX6_soundedAs_46 : decode cX6_soundedAs 46 = .ok (.getfield 15, 3) := by decide +kernel
theorem dX6_soundedAs_49 : decode cX6_soundedAs 49 = .ok (.getfield 72, 3) := by decide +kernel
theorem dX6_soundedAs_52 : decode cX6_soundedAs 52 = .ok (.iload 5, 2) := by decide +kernel
theorem dX6_soundedAs_54 : decode cX6_soundedAs 54 = .ok (.iaload, 1) := by decide +kernel
theorem dX6_soundedAs_55 : decode cX6_soundedAs 55 = .ok (.iastore, 1) := by decide +kernel
theorem dX6_soundedAs_56 : decode cX6_soundedAs 56 = .ok (.aload_n 0, 1) := by decide +kernel
theorem dX6_soundedAs_57 : decode cX6_soundedAs 57 = .ok (.getfield 23, 3) := by decide +kernel
theorem dX6_soundedAs_60 : decode cX6_soundedAs 60 = .ok (.iload 4, 2) := by decide +kernel
theorem dX6_soundedAs_62 : decode cX6_soundedAs 62 = .ok (.iaload, 1) := by decide +kernel
theorem dX6_soundedAs_63 : decode cX6_soundedAs 63 = .ok (.bipush (-6), 2) := by decide +kernel
theorem dX6_soundedAs_65 : decode cX6_soundedAs 65 = .ok (.if_icmp .ne 6, 3) := by decide +kernel
theorem dX6_soundedAs_68 : decode cX6_soundedAs 68 = .ok (.bipush (-6), 2) := by decide +kernel
theorem dX6_soundedAs_70 : decode cX6_soundedAs 70 = .ok (.ireturn, 1) := by decide +kernel
theorem dX6_soundedAs_71 : decode cX6_soundedAs 71 = .ok (.iinc 4 1, 3) := by decide +kernel
theorem dX6_soundedAs_74 : decode cX6_soundedAs 74 = .ok (.goto (-61), 3) := by decide +kernel
theorem dX6_soundedAs_77 : decode cX6_soundedAs 77 = .ok (.aload_n 0, 1) := by decide +kernel
theorem dX6_soundedAs_78 : decode cX6_soundedAs 78 = .ok (.iload_n 2, 1) := by decide +kernel
theorem dX6_soundedAs_79 : decode cX6_soundedAs 79 = .ok (.iload_n 3, 1) := by decide +kernel
theorem dX6_soundedAs_80 : decode cX6_soundedAs 80 = .ok (.invokevirtual 75, 3) := by decide +kernel
theorem dX6_soundedAs_83 : decode cX6_soundedAs 83 = .ok (.ifCond .eq 5, 3) := by decide +kernel
theorem dX6_soundedAs_86 : decode cX6_soundedAs 86 = .ok (.iload_n 2, 1) := by decide +kernel
theorem dX6_soundedAs_87 : decode cX6_soundedAs 87 = .ok (.ireturn, 1) := by decide +kernel
theorem dX6_soundedAs_88 : decode cX6_soundedAs 88 = .ok (.iconst 0, 1) := by decide +kernel
theorem dX6_soundedAs_89 : decode cX6_soundedAs 89 = .ok (.istore 4, 2) := by decide +kernel
theorem dX6_soundedAs_91 : decode cX6_soundedAs 91 = .ok (.iload 4, 2) := by decide +kernel
theorem dX6_soundedAs_93 : decode cX6_soundedAs 93 = .ok (.aload_n 0, 1) := by decide +kernel
theorem dX6_soundedAs_94 : decode cX6_soundedAs 94 = .ok (.getfield 9, 3) := by decide +kernel
theorem dX6_soundedAs_97 : decode cX6_soundedAs 97 = .ok (.getfield 78, 3) := by decide +kernel
theorem dX6_soundedAs_100 : decode cX6_soundedAs 100 = .ok (.if_icmp .ge 22, 3) := by decide +kernel
theorem dX6_soundedAs_103 : decode cX6_soundedAs 103 = .ok (.aload_n 0, 1) := by decide +kernel
theorem dX6_soundedAs_104 : decode cX6_soundedAs 104 = .ok (.iload 4, 2) := by decide +kernel
theorem dX6_soundedAs_106 : decode cX6_soundedAs 106 = .ok (.iload_n 3, 1) := by decide +kernel
theorem dX6_soundedAs_107 : decode cX6_soundedAs 107 = .ok (.invokevirtual 75, 3) := by decide +kernel
theorem dX6_soundedAs_110 : decode cX6_soundedAs 110 = .ok (.ifCond .eq 6, 3) := by decide +kernel
theorem dX6_soundedAs_113 : decode cX6_soundedAs 113 = .ok (.iload 4, 2) := by decide +kernel
theorem dX6_soundedAs_115 : decode cX6_soundedAs 115 = .ok (.ireturn, 1) := by decide +kernel
theorem dX6_soundedAs_116 : decode cX6_soundedAs 116 = .ok (.iinc 4 1, 3) := by decide +kernel
theorem dX6_soundedAs_119 : decode cX6_soundedAs 119 = .ok (.goto (-28), 3) := by decide +kernel
theorem dX6_soundedAs_122 : decode cX6_soundedAs 122 = .ok (.bipush (-6), 2) := by decide +kernel
theorem dX6_soundedAs_124 : decode cX6_soundedAs 124 = .ok (.ireturn, 1) := by decide +kernel
theorem dX6_hasSoundRow_0 : decode cX6_hasSoundRow 0 = .ok (.aload_n 0, 1) := by decide +kernel
theorem dX6_hasSoundRow_1 : decode cX6_hasSoundRow 1 = .ok (.getfield 9, 3) := by decide +kernel
theorem dX6_hasSoundRow_4 : decode cX6_hasSoundRow 4 = .ok (.getfield 63, 3) := by decide +kernel
theorem dX6_hasSoundRow_7 : decode cX6_hasSoundRow 7 = .ok (.iload_n 1, 1) := by decide +kernel
theorem dX6_hasSoundRow_8 : decode cX6_hasSoundRow 8 = .ok (.iaload, 1) := by decide +kernel
theorem dX6_hasSoundRow_9 : decode cX6_hasSoundRow 9 = .ok (.iload_n 2, 1) := by decide +kernel
theorem dX6_hasSoundRow_10 : decode cX6_hasSoundRow 10 = .ok (.if_icmp .eq 5, 3) := by decide +kernel
theorem dX6_hasSoundRow_13 : decode cX6_hasSoundRow 13 = .ok (.iconst 0, 1) := by decide +kernel
theorem dX6_hasSoundRow_14 : decode cX6_hasSoundRow 14 = .ok (.ireturn, 1) := by decide +kernel
theorem dX6_hasSoundRow_15 : decode cX6_hasSoundRow 15 = .ok (.iconst 0, 1) := by decide +kernel
theorem dX6_hasSoundRow_16 : decode cX6_hasSoundRow 16 = .ok (.istore_n 3, 1) := by decide +kernel
theorem dX6_hasSoundRow_17 : decode cX6_hasSoundRow 17 = .ok (.iload_n 3, 1) := by decide +kernel
theorem dX6_hasSoundRow_18 : decode cX6_hasSoundRow 18 = .ok (.iload_n 2, 1) := by decide +kernel
theorem dX6_hasSoundRow_19 : decode cX6_hasSoundRow 19 = .ok (.if_icmp .ge 29, 3) := by decide +kernel
theorem dX6_hasSoundRow_22 : decode cX6_hasSoundRow 22 = .ok (.aload_n 0, 1) := by decide +kernel
theorem dX6_hasSoundRow_23 : decode cX6_hasSoundRow 23 = .ok (.getfield 9, 3) := by decide +kernel
theorem dX6_hasSoundRow_26 : decode cX6_hasSoundRow 26 = .ok (.iload_n 1, 1) := by decide +kernel
theorem dX6_hasSoundRow_27 : decode cX6_hasSoundRow 27 = .ok (.iload_n 3, 1) := by decide +kernel
theorem dX6_hasSoundRow_28 : decode cX6_hasSoundRow 28 = .ok (.invokevirtual 82, 3) := by decide +kernel
theorem dX6_hasSoundRow_31 : decode cX6_hasSoundRow 31 = .ok (.aload_n 0, 1) := by decide +kernel
theorem dX6_hasSoundRow_32 : decode cX6_hasSoundRow 32 = .ok (.getfield 23, 3) := by decide +kernel
theorem dX6_hasSoundRow_35 : decode cX6_hasSoundRow 35 = .ok (.iload_n 3, 1) := by decide +kernel
theorem dX6_hasSoundRow_36 : decode cX6_hasSoundRow 36 = .ok (.iaload, 1) := by decide +kernel
theorem dX6_hasSoundRow_37 : decode cX6_hasSoundRow 37 = .ok (.if_icmp .eq 5, 3) := by decide +kernel
theorem dX6_hasSoundRow_40 : decode cX6_hasSoundRow 40 = .ok (.iconst 0, 1) := by decide +kernel
theorem dX6_hasSoundRow_41 : decode cX6_hasSoundRow 41 = .ok (.ireturn, 1) := by decide +kernel
theorem dX6_hasSoundRow_42 : decode cX6_hasSoundRow 42 = .ok (.iinc 3 1, 3) := by decide +kernel
theorem dX6_hasSoundRow_45 : decode cX6_hasSoundRow 45 = .ok (.goto (-28), 3) := by decide +kernel
theorem dX6_hasSoundRow_48 : decode cX6_hasSoundRow 48 = .ok (.iconst 1, 1) := by decide +kernel
theorem dX6_hasSoundRow_49 : decode cX6_hasSoundRow 49 = .ok (.ireturn, 1) := by decide +kernel
theorem dX6_readable_0 : decode cX6_readable 0 = .ok (.iconst 0, 1) := by decide +kernel
theorem dX6_readable_1 : decode cX6_readable 1 = .ok (.istore_n 2, 1) := by decide +kernel
theorem dX6_readable_2 : decode cX6_readable 2 = .ok (.iconst 0, 1) := by decide +kernel
theorem dX6_readable_3 : decode cX6_readable 3 = .ok (.istore_n 3, 1) := by decide +kernel
theorem dX6_readable_4 : decode cX6_readable 4 = .ok (.iload_n 3, 1) := by decide +kernel
theorem dX6_readable_5 : decode cX6_readable 5 = .ok (.aload_n 0, 1) := by decide +kernel
theorem dX6_readable_6 : decode cX6_readable 6 = .ok (.getfield 9, 3) := by decide +kernel
theorem dX6_readable_9 : decode cX6_readable 9 = .ok (.getfield 78, 3) := by decide +kernel
theorem dX6_readable_12 : decode cX6_readable 12 = .ok (.if_icmp .ge 25, 3) := by decide +kernel
theorem dX6_readable_15 : decode cX6_readable 15 = .ok (.aload_n 0, 1) := by decide +kernel
theorem dX6_readable_16 : decode cX6_readable 16 = .ok (.iload_n 1, 1) := by decide +kernel
theorem dX6_readable_17 : decode cX6_readable 17 = .ok (.iload_n 3, 1) := by decide +kernel
theorem dX6_readable_18 : decode cX6_readable 18 = .ok (.invokevirtual 85, 3) := by decide +kernel
theorem dX6_readable_21 : decode cX6_readable 21 = .ok (.iload_n 3, 1) := by decide +kernel
theorem dX6_readable_22 : decode cX6_readable 22 = .ok (.if_icmp .ne 9, 3) := by decide +kernel
theorem dX6_readable_25 : decode cX6_readable 25 = .ok (.iload_n 2, 1) := by decide +kernel
theorem dX6_readable_26 : decode cX6_readable 26 = .ok (.iconst 1, 1) := by decide +kernel
theorem dX6_readable_27 : decode cX6_readable 27 = .ok (.iload_n 3, 1) := by decide +kernel
theorem dX6_readable_28 : decode cX6_readable 28 = .ok (.ishl, 1) := by decide +kernel
theorem dX6_readable_29 : decode cX6_readable 29 = .ok (.ior, 1) := by decide +kernel
theorem dX6_readable_30 : decode cX6_readable 30 = .ok (.istore_n 2, 1) := by decide +kernel
theorem dX6_readable_31 : decode cX6_readable 31 = .ok (.iinc 3 1, 3) := by decide +kernel
theorem dX6_readable_34 : decode cX6_readable 34 = .ok (.goto (-30), 3) := by decide +kernel
theorem dX6_readable_37 : decode cX6_readable 37 = .ok (.iload_n 2, 1) := by decide +kernel
theorem dX6_readable_38 : decode cX6_readable 38 = .ok (.ireturn, 1) := by decide +kernel
theorem dX6_readableAtLast_0 : decode cX6_readableAtLast 0 = .ok (.aload_n 0, 1) := by decide +kernel
theorem dX6_readableAtLast_1 : decode cX6_readableAtLast 1 = .ok (.getfield 9, 3) := by decide +kernel
theorem dX6_readableAtLast_4 : decode cX6_readableAtLast 4 = .ok (.aload_n 0, 1) := by decide +kernel
theorem dX6_readableAtLast_5 : decode cX6_readableAtLast 5 = .ok (.getfield 9, 3) := by decide +kernel
theorem dX6_readableAtLast_8 : decode cX6_readableAtLast 8 = .ok (.invokevirtual 88, 3) := by decide +kernel
theorem dX6_readableAtLast_11 : decode cX6_readableAtLast 11 = .ok (.invokevirtual 92, 3) := by decide +kernel
theorem dX6_readableAtLast_14 : decode cX6_readableAtLast 14 = .ok (.istore_n 3, 1) := by decide +kernel
theorem dX6_readableAtLast_15 : decode cX6_readableAtLast 15 = .ok (.iload_n 1, 1) := by decide +kernel
theorem dX6_readableAtLast_16 : decode cX6_readableAtLast 16 = .ok (.istore 4, 2) := by decide +kernel
theorem dX6_readableAtLast_18 : decode cX6_readableAtLast 18 = .ok (.iconst 0, 1) := by decide +kernel
theorem dX6_readableAtLast_19 : decode cX6_readableAtLast 19 = .ok (.istore 5, 2) := by decide +kernel
theorem dX6_readableAtLast_21 : decode cX6_readableAtLast 21 = .ok (.iload 5, 2) := by decide +kernel
theorem dX6_readableAtLast_23 : decode cX6_readableAtLast 23 = .ok (.aload_n 0, 1) := by decide +kernel
theorem dX6_readableAtLast_24 : decode cX6_readableAtLast 24 = .ok (.getfield 9, 3) := by decide +kernel
theorem dX6_readableAtLast_27 : decode cX6_readableAtLast 27 = .ok (.getfield 78, 3) := by decide +kernel
theorem dX6_readableAtLast_30 : decode cX6_readableAtLast 30 = .ok (.if_icmp .ge 65, 3) := by decide +kernel
theorem dX6_readableAtLast_33 : decode cX6_readableAtLast 33 = .ok (.aload_n 0, 1) := by decide +kernel
theorem dX6_readableAtLast_34 : decode cX6_readableAtLast 34 = .ok (.getfield 15, 3) := by decide +kernel
theorem dX6_readableAtLast_37 : decode cX6_readableAtLast 37 = .ok (.getfield 95, 3) := by decide +kernel
theorem dX6_readableAtLast_40 : decode cX6_readableAtLast 40 = .ok (.iload 5, 2) := by decide +kernel
theorem dX6_readableAtLast_42 : decode cX6_readableAtLast 42 = .ok (.iaload, 1) := by decide +kernel
theorem dX6_readableAtLast_43 : decode cX6_readableAtLast 43 = .ok (.istore 6, 2) := by decide +kernel
theorem dX6_readableAtLast_45 : decode cX6_readableAtLast 45 = .ok (.iload 4, 2) := by decide +kernel
theorem dX6_readableAtLast_47 : decode cX6_readableAtLast 47 = .ok (.iload 6, 2) := by decide +kernel
theorem dX6_readableAtLast_49 : decode cX6_readableAtLast 49 = .ok (.invokestatic 35, 3) := by decide +kernel
theorem dX6_readableAtLast_52 : decode cX6_readableAtLast 52 = .ok (.ifCond .eq 6, 3) := by decide +kernel
theorem dX6_readableAtLast_55 : decode cX6_readableAtLast 55 = .ok (.goto 34, 3) := by decide +kernel
theorem dX6_readableAtLast_58 : decode cX6_readableAtLast 58 = .ok (.aload_n 0, 1) := by decide +kernel
theorem dX6_readableAtLast_59 : decode cX6_readableAtLast 59 = .ok (.getfield 9, 3) := by decide +kernel
theorem dX6_readableAtLast_62 : decode cX6_readableAtLast 62 = .ok (.iload 4, 2) := by decide +kernel
theorem dX6_readableAtLast_64 : decode cX6_readableAtLast 64 = .ok (.invokevirtual 92, 3) := by decide +kernel
theorem dX6_readableAtLast_67 : decode cX6_readableAtLast 67 = .ok (.sipush 1000, 3) := by decide +kernel
theorem dX6_readableAtLast_70 : decode cX6_readableAtLast 70 = .ok (.imul, 1) := by decide +kernel
theorem dX6_readableAtLast_71 : decode cX6_readableAtLast 71 = .ok (.iload_n 2, 1) := by decide +kernel
theorem dX6_readableAtLast_72 : decode cX6_readableAtLast 72 = .ok (.iload_n 3, 1) := by decide +kernel
theorem dX6_readableAtLast_73 : decode cX6_readableAtLast 73 = .ok (.imul, 1) := by decide +kernel
theorem dX6_readableAtLast_74 : decode cX6_readableAtLast 74 = .ok (.if_icmp .ge 6, 3) := by decide +kernel
theorem dX6_readableAtLast_77 : decode cX6_readableAtLast 77 = .ok (.goto 18, 3) := by decide +kernel
theorem dX6_readableAtLast_80 : decode cX6_readableAtLast 80 = .ok (.iload 4, 2) := by decide +kernel
theorem dX6_readableAtLast_82 : decode cX6_readableAtLast 82 = .ok (.iconst 1, 1) := by decide +kernel
theorem dX6_readableAtLast_83 : decode cX6_readableAtLast 83 = .ok (.iload 6, 2) := by decide +kernel
theorem dX6_readableAtLast_85 : decode cX6_readableAtLast 85 = .ok (.ishl, 1) := by decide +kernel
theorem dX6_readableAtLast_86 : decode cX6_readableAtLast 86 = .ok (.ior, 1) := by decide +kernel
theorem dX6_readableAtLast_87 : decode cX6_readableAtLast 87 = .ok (.istore 4, 2) := by decide +kernel
theorem dX6_readableAtLast_89 : decode cX6_readableAtLast 89 = .ok (.iinc 5 1, 3) := by decide +kernel
theorem dX6_readableAtLast_92 : decode cX6_readableAtLast 92 = .ok (.goto (-71), 3) := by decide +kernel
theorem dX6_readableAtLast_95 : decode cX6_readableAtLast 95 = .ok (.iload 4, 2) := by decide +kernel
theorem dX6_readableAtLast_97 : decode cX6_readableAtLast 97 = .ok (.ireturn, 1) := by decide +kernel
theorem dX6_highestLine_0 : decode cX6_highestLine 0 = .ok (.aload_n 0, 1) := by decide +kernel
theorem dX6_highestLine_1 : decode cX6_highestLine 1 = .ok (.getfield 9, 3) := by decide +kernel
theorem dX6_highestLine_4 : decode cX6_highestLine 4 = .ok (.aload_n 0, 1) := by decide +kernel
theorem dX6_highestLine_5 : decode cX6_highestLine 5 = .ok (.getfield 9, 3) := by decide +kernel
theorem dX6_highestLine_8 : decode cX6_highestLine 8 = .ok (.invokevirtual 88, 3) := by decide +kernel
theorem dX6_highestLine_11 : decode cX6_highestLine 11 = .ok (.invokevirtual 92, 3) := by decide +kernel
theorem dX6_highestLine_14 : decode cX6_highestLine 14 = .ok (.istore_n 2, 1) := by decide +kernel
theorem dX6_highestLine_15 : decode cX6_highestLine 15 = .ok (.iload_n 1, 1) := by decide +kernel
theorem dX6_highestLine_16 : decode cX6_highestLine 16 = .ok (.aload_n 0, 1) := by decide +kernel
theorem dX6_highestLine_17 : decode cX6_highestLine 17 = .ok (.getfield 9, 3) := by decide +kernel
theorem dX6_highestLine_20 : decode cX6_highestLine 20 = .ok (.invokevirtual 88, 3) := by decide +kernel
theorem dX6_highestLine_23 : decode cX6_highestLine 23 = .ok (.if_icmp .eq 7, 3) := by decide +kernel
theorem dX6_highestLine_26 : decode cX6_highestLine 26 = .ok (.iload_n 2, 1) := by decide +kernel
theorem dX6_highestLine_27 : decode cX6_highestLine 27 = .ok (.ifCond .gt 7, 3) := by decide +kernel
theorem dX6_highestLine_30 : decode cX6_highestLine 30 = .ok (.sipush 1000, 3) := by decide +kernel
theorem dX6_highestLine_33 : decode cX6_highestLine 33 = .ok (.ireturn, 1) := by decide +kernel
theorem dX6_highestLine_34 : decode cX6_highestLine 34 = .ok (.aload_n 0, 1) := by decide +kernel
theorem dX6_highestLine_35 : decode cX6_highestLine 35 = .ok (.getfield 9, 3) := by decide +kernel
theorem dX6_highestLine_38 : decode cX6_highestLine 38 = .ok (.iload_n 1, 1) := by decide +kernel
theorem dX6_highestLine_39 : decode cX6_highestLine 39 = .ok (.invokevirtual 92, 3) := by decide +kernel
theorem dX6_highestLine_42 : decode cX6_highestLine 42 = .ok (.sipush 1000, 3) := by decide +kernel
theorem dX6_highestLine_45 : decode cX6_highestLine 45 = .ok (.imul, 1) := by decide +kernel
theorem dX6_highestLine_46 : decode cX6_highestLine 46 = .ok (.iload_n 2, 1) := by decide +kernel
theorem dX6_highestLine_47 : decode cX6_highestLine 47 = .ok (.idiv, 1) := by decide +kernel
theorem dX6_highestLine_48 : decode cX6_highestLine 48 = .ok (.ireturn, 1) := by decide +kernel
theorem dX7_init_0 : decode cX7_init 0 = .ok (.aload_n 0, 1) := by decide +kernel
theorem dX7_init_1 : decode cX7_init 1 = .ok (.invokespecial 1, 3) := by decide +kernel
theorem dX7_init_4 : decode cX7_init 4 = .ok (.aload_n 0, 1) := by decide +kernel
theorem dX7_init_5 : decode cX7_init 5 = .ok (.new 7, 3) := by decide +kernel
theorem dX7_init_8 : decode cX7_init 8 = .ok (.dup, 1) := by decide +kernel
theorem dX7_init_9 : decode cX7_init 9 = .ok (.invokespecial 9, 3) := by decide +kernel
theorem dX7_init_12 : decode cX7_init 12 = .ok (.putfield 10, 3) := by decide +kernel
theorem dX7_init_15 : decode cX7_init 15 = .ok (.aload_n 0, 1) := by decide +kernel
theorem dX7_init_16 : decode cX7_init 16 = .ok (.new 16, 3) := by decide +kernel
theorem dX7_init_19 : decode cX7_init 19 = .ok (.dup, 1) := by decide +kernel
theorem dX7_init_20 : decode cX7_init 20 = .ok (.invokespecial 18, 3) := by decide +kernel
theorem dX7_init_23 : decode cX7_init 23 = .ok (.putfield 19, 3) := by decide +kernel
theorem dX7_init_26 : decode cX7_init 26 = .ok (.aload_n 0, 1) := by decide +kernel
theorem dX7_init_27 : decode cX7_init 27 = .ok (.new 23, 3) := by decide +kernel
theorem dX7_init_30 : decode cX7_init 30 = .ok (.dup, 1) := by decide +kernel
theorem dX7_init_31 : decode cX7_init 31 = .ok (.invokespecial 25, 3) := by decide +kernel
theorem dX7_init_34 : decode cX7_init 34 = .ok (.putfield 26, 3) := by decide +kernel
theorem dX7_init_37 : decode cX7_init 37 = .ok (.return_, 1) := by decide +kernel
theorem dX7_copyFrom_0 : decode cX7_copyFrom 0 = .ok (.aload_n 0, 1) := by decide +kernel
theorem dX7_copyFrom_1 : decode cX7_copyFrom 1 = .ok (.getfield 10, 3) := by decide +kernel
theorem dX7_copyFrom_4 : decode cX7_copyFrom 4 = .ok (.aload_n 1, 1) := by decide +kernel
theorem dX7_copyFrom_5 : decode cX7_copyFrom 5 = .ok (.getfield 10, 3) := by decide +kernel
theorem dX7_copyFrom_8 : decode cX7_copyFrom 8 = .ok (.invokevirtual 30, 3) := by decide +kernel
theorem dX7_copyFrom_11 : decode cX7_copyFrom 11 = .ok (.aload_n 0, 1) := by decide +kernel
theorem dX7_copyFrom_12 : decode cX7_copyFrom 12 = .ok (.getfield 19, 3) := by decide +kernel
theorem dX7_copyFrom_15 : decode cX7_copyFrom 15 = .ok (.aload_n 1, 1) := by decide +kernel
theorem dX7_copyFrom_16 : decode cX7_copyFrom 16 = .ok (.getfield 19, 3) := by decide +kernel
theorem dX7_copyFrom_19 : decode cX7_copyFrom 19 = .ok (.invokevirtual 34, 3) := by decide +kernel
theorem dX7_copyFrom_22 : decode cX7_copyFrom 22 = .ok (.aload_n 0, 1) := by decide +kernel
theorem dX7_copyFrom_23 : decode cX7_copyFrom 23 = .ok (.getfield 26, 3) := by decide +kernel
theorem dX7_copyFrom_26 : decode cX7_copyFrom 26 = .ok (.aload_n 1, 1) := by decide +kernel
theorem dX7_copyFrom_27 : decode cX7_copyFrom 27 = .ok (.getfield 26, 3) := by decide +kernel
theorem dX7_copyFrom_30 : decode cX7_copyFrom 30 = .ok (.invokevirtual 37, 3) := by decide +kernel
theorem dX7_copyFrom_33 : decode cX7_copyFrom 33 = .ok (.return_, 1) := by decide +kernel
theorem dX8_init_0 : decode cX8_init 0 = .ok (.aload_n 0, 1) := by decide +kernel
theorem dX8_init_1 : decode cX8_init 1 = .ok (.invokespecial 3, 3) := by decide +kernel
theorem dX8_init_4 : decode cX8_init 4 = .ok (.aload_n 0, 1) := by decide +kernel
theorem dX8_init_5 : decode cX8_init 5 = .ok (.aload_n 1, 1) := by decide +kernel
theorem dX8_init_6 : decode cX8_init 6 = .ok (.putfield 9, 3) := by decide +kernel
theorem dX8_init_9 : decode cX8_init 9 = .ok (.aload_n 0, 1) := by decide +kernel
theorem dX8_init_10 : decode cX8_init 10 = .ok (.bipush 100, 2) := by decide +kernel
theorem dX8_init_12 : decode cX8_init 12 = .ok (.newarray .int, 2) := by decide +kernel
theorem dX8_init_14 : decode cX8_init 14 = .ok (.putfield 15, 3) := by decide +kernel
theorem dX8_init_17 : decode cX8_init 17 = .ok (.aload_n 0, 1) := by decide +kernel
theorem dX8_init_18 : decode cX8_init 18 = .ok (.bipush 10, 2) := by decide +kernel
theorem dX8_init_20 : decode cX8_init 20 = .ok (.newarray .int, 2) := by decide +kernel
theorem dX8_init_22 : decode cX8_init 22 = .ok (.putfield 19, 3) := by decide +kernel
theorem dX8_init_25 : decode cX8_init 25 = .ok (.aload_n 0, 1) := by decide +kernel
theorem dX8_init_26 : decode cX8_init 26 = .ok (.bipush 10, 2) := by decide +kernel
theorem dX8_init_28 : decode cX8_init 28 = .ok (.newarray .int, 2) := by decide +kernel
theorem dX8_init_30 : decode cX8_init 30 = .ok (.putfield 22, 3) := by decide +kernel
theorem dX8_init_33 : decode cX8_init 33 = .ok (.aload_n 0, 1) := by decide +kernel
theorem dX8_init_34 : decode cX8_init 34 = .ok (.bipush 10, 2) := by decide +kernel
theorem dX8_init_36 : decode cX8_init 36 = .ok (.newarray .int, 2) := by decide +kernel
theorem dX8_init_38 : decode cX8_init 38 = .ok (.putfield 25, 3) := by decide +kernel
theorem dX8_init_41 : decode cX8_init 41 = .ok (.aload_n 0, 1) := by decide +kernel
theorem dX8_init_42 : decode cX8_init 42 = .ok (.bipush 12, 2) := by decide +kernel
theorem dX8_init_44 : decode cX8_init 44 = .ok (.newarray .int, 2) := by decide +kernel
theorem dX8_init_46 : decode cX8_init 46 = .ok (.putfield 28, 3) := by decide +kernel
theorem dX8_init_49 : decode cX8_init 49 = .ok (.aload_n 0, 1) := by decide +kernel
theorem dX8_init_50 : decode cX8_init 50 = .ok (.bipush 10, 2) := by decide +kernel
theorem dX8_init_52 : decode cX8_init 52 = .ok (.newarray .int, 2) := by decide +kernel
theorem dX8_init_54 : decode cX8_init 54 = .ok (.putfield 31, 3) := by decide +kernel
theorem dX8_init_57 : decode cX8_init 57 = .ok (.return_, 1) := by decide +kernel
theorem dX8_refresh_0 : decode cX8_refresh 0 = .ok (.aload_n 0, 1) := by decide +kernel
theorem dX8_refresh_1 : decode cX8_refresh 1 = .ok (.invokevirtual 34, 3) := by decide +kernel
theorem dX8_refresh_4 : decode cX8_refresh 4 = .ok (.iconst 0, 1) := by decide +kernel
theorem dX8_refresh_5 : decode cX8_refresh 5 = .ok (.istore_n 1, 1) := by decide +kernel
theorem dX8_refresh_6 : decode cX8_refresh 6 = .ok (.iload_n 1, 1) := by decide +kernel
theorem dX8_refresh_7 : decode cX8_refresh 7 = .ok (.bipush 10, 2) := by decide +kernel
theorem dX8_refresh_9 : decode cX8_refresh 9 = .ok (.if_icmp .ge 37, 3) := by decide +kernel
theorem dX8_refresh_12 : decode cX8_refresh 12 = .ok (.aload_n 0, 1) := by decide +kernel
theorem dX8_refresh_13 : decode cX8_refresh 13 = .ok (.getfield 22, 3) := by decide +kernel
theorem dX8_refresh_16 : decode cX8_refresh 16 = .ok (.iload_n 1, 1) := by decide +kernel
theorem dX8_refresh_17 : decode cX8_refresh 17 = .ok (.aload_n 0, 1) := by decide +kernel
theorem dX8_refresh_18 : decode cX8_refresh 18 = .ok (.iload_n 1, 1) := by decide +kernel
theorem dX8_refresh_19 : decode cX8_refresh 19 = .ok (.bipush 10, 2) := by decide +kernel
theorem dX8_refresh_21 : decode cX8_refresh 21 = .ok (.imul, 1) := by decide +kernel
theorem dX8_refresh_22 : decode cX8_refresh 22 = .ok (.iconst 1, 1) := by decide +kernel
theorem dX8_refresh_23 : decode cX8_refresh 23 = .ok (.invokevirtual 37, 3) := by decide +kernel
theorem dX8_refresh_26 : decode cX8_refresh 26 = .ok (.iastore, 1) := by decide +kernel
theorem dX8_refresh_27 : decode cX8_refresh 27 = .ok (.aload_n 0, 1) := by decide +kernel
theorem dX8_refresh_28 : decode cX8_refresh 28 = .ok (.getfield 25, 3) := by decide +kernel
theorem dX8_refresh_31 : decode cX8_refresh 31 = .ok (.iload_n 1, 1) := by decide +kernel
theorem dX8_refresh_32 : decode cX8_refresh 32 = .ok (.aload_n 0, 1) := by decide +kernel
theorem dX8_refresh_33 : decode cX8_refresh 33 = .ok (.iload_n 1, 1) := by decide +kernel
theorem dX8_refresh_34 : decode cX8_refresh 34 = .ok (.bipush 10, 2) := by decide +kernel
theorem dX8_refresh_36 : decode cX8_refresh 36 = .ok (.invokevirtual 37, 3) := by decide +kernel
theorem dX8_refresh_39 : decode cX8_refresh 39 = .ok (.iastore, 1) := by decide +kernel
theorem dX8_refresh_40 : decode cX8_refresh 40 = .ok (.iinc 1 1, 3) := by decide +kernel
theorem dX8_refresh_43 : decode cX8_refresh 43 = .ok (.goto (-37), 3) := by decide +kernel
theorem dX8_refresh_46 : decode cX8_refresh 46 = .ok (.aload_n 0, 1) := by decide +kernel
theorem dX8_refresh_47 : decode cX8_refresh 47 = .ok (.invokevirtual 41, 3) := by decide +kernel
theorem dX8_refresh_50 : decode cX8_refresh 50 = .ok (.aload_n 0, 1) := by decide +kernel
theorem dX8_refresh_51 : decode cX8_refresh 51 = .ok (.invokevirtual 44, 3) := by decide +kernel
theorem dX8_refresh_54 : decode cX8_refresh 54 = .ok (.aload_n 0, 1) := by decide +kernel
theorem dX8_refresh_55 : decode cX8_refresh 55 = .ok (.invokevirtual 47, 3) := by decide +kernel
theorem dX8_refresh_58 : decode cX8_refresh 58 = .ok (.return_, 1) := by decide +kernel
theorem dX8_countPlaces_0 : decode cX8_countPlaces 0 = .ok (.aload_n 0, 1) := by decide +kernel
theorem dX8_countPlaces_1 : decode cX8_countPlaces 1 = .ok (.getfield 15, 3) := by decide +kernel
theorem dX8_countPlaces_4 : decode cX8_countPlaces 4 = .ok (.iconst 0, 1) := by decide +kernel
theorem dX8_countPlaces_5 : decode cX8_countPlaces 5 = .ok (.invokestatic 50, 3) := by decide +kernel
theorem dX8_countPlaces_8 : decode cX8_countPlaces 8 = .ok (.aload_n 0, 1) := by decide +kernel
theorem dX8_countPlaces_9 : decode cX8_countPlaces 9 = .ok (.getfield 19, 3) := by decide +kernel
theorem dX8_countPlaces_12 : decode cX8_countPlaces 12 = .ok (.iconst 0, 1) := by decide +kernel
theorem dX8_countPlaces_13 : decode cX8_countPlaces 13 = .ok (.invokestatic 50, 3) := by decide +kernel
theorem dX8_countPlaces_16 : decode cX8_countPlaces 16 = .ok (.iconst 0, 1) := by decide +kernel
theorem dX8_countPlaces_17 : decode cX8_countPlaces 17 = .ok (.istore_n 1, 1) := by decide +kernel
theorem dX8_countPlaces_18 : decode cX8_countPlaces 18 = .ok (.iload_n 1, 1) := by decide +kernel
theorem dX8_countPlaces_19 : decode cX8_countPlaces 19 = .ok (.aload_n 0, 1) := by decide +kernel
theorem dX8_countPlaces_20 : decode cX8_countPlaces 20 = .ok (.getfield 9, 3) := by decide +kernel
theorem dX8_countPlaces_23 : decode cX8_countPlaces 23 = .ok (.getfield 56, 3) := by decide +kernel
theorem dX8_countPlaces_26 : decode cX8_countPlaces 26 = .ok (.if_icmp .ge 89, 3) := by decide +kernel
theorem dX8_countPlaces_29 : decode cX8_countPlaces 29 = .ok (.iconst 0, 1) := by decide +kernel
theorem dX8_countPlaces_30 : decode cX8_countPlaces 30 = .ok (.istore_n 2, 1) := by decide +kernel
theorem dX8_countPlaces_31 : decode cX8_countPlaces 31 = .ok (.iload_n 2, 1) := by decide +kernel
theorem dX8_countPlaces_32 : decode cX8_countPlaces 32 = .ok (.aload_n 0, 1) := by decide +kernel
theorem dX8_countPlaces_33 : decode cX8_countPlaces 33 = .ok (.getfield 9, 3) := by decide +kernel
theorem dX8_countPlaces_36 : decode cX8_countPlaces 36 = .ok (.getfield 62, 3) := by decide +kernel
theorem dX8_countPlaces_39 : decode cX8_countPlaces 39 = .ok (.iload_n 1, 1) := by decide +kernel
theorem dX8_countPlaces_40 : decode cX8_countPlaces 40 = .ok (.iaload, 1) := by decide +kernel
theorem dX8_countPlaces_41 : decode cX8_countPlaces 41 = .ok (.if_icmp .ge 68, 3) := by decide +kernel
theorem dX8_countPlaces_44 : decode cX8_countPlaces 44 = .ok (.aload_n 0, 1) := by decide +kernel
theorem dX8_countPlaces_45 : decode cX8_countPlaces 45 = .ok (.getfield 9, 3) := by decide +kernel
theorem dX8_countPlaces_48 : decode cX8_countPlaces 48 = .ok (.iload_n 1, 1) := by decide +kernel
theorem dX8_countPlaces_49 : decode cX8_countPlaces 49 = .ok (.iload_n 2, 1) := by decide +kernel
theorem dX8_countPlaces_50 : decode cX8_countPlaces 50 = .ok (.invokevirtual 65, 3) := by decide +kernel
theorem dX8_countPlaces_53 : decode cX8_countPlaces 53 = .ok (.istore_n 3, 1) := by decide +kernel
theorem dX8_countPlaces_54 : decode cX8_countPlaces 54 = .ok (.aload_n 0, 1) := by decide +kernel
theorem dX8_countPlaces_55 : decode cX8_countPlaces 55 = .ok (.getfield 15, 3) := by decide +kernel
theorem dX8_countPlaces_58 : decode cX8_countPlaces 58 = .ok (.iload_n 3, 1) := by decide +kernel
theorem dX8_countPlaces_59 : decode cX8_countPlaces 59 = .ok (.bipush 10, 2) := by decide +kernel
theorem dX8_countPlaces_61 : decode cX8_countPlaces 61 = .ok (.imul, 1) := by decide +kernel
theorem dX8_countPlaces_62 : decode cX8_countPlaces 62 = .ok (.aload_n 0, 1) := by decide +kernel
theorem dX8_countPlaces_63 : decode cX8_countPlaces 63 = .ok (.getfield 9, 3) := by decide +kernel
theorem dX8_countPlaces_66 : decode cX8_countPlaces 66 = .ok (.iload_n 1, 1) := by decide +kernel
theorem dX8_countPlaces_67 : decode cX8_countPlaces 67 = .ok (.iload_n 2, 1) := by decide +kernel
theorem dX8_countPlaces_68 : decode cX8_countPlaces 68 = .ok (.invokevirtual 68, 3) := by decide +kernel
theorem dX8_countPlaces_71 : decode cX8_countPlaces 71 = .ok (.iadd, 1) := by decide +kernel
theorem dX8_countPlaces_72 : decode cX8_countPlaces 72 = .ok (.dup2, 1) := by decide +kernel
theorem dX8_countPlaces_73 : decode cX8_countPlaces 73 = .ok (.iaload, 1) := by decide +kernel
theorem dX8_countPlaces_74 : decode cX8_countPlaces 74 = .ok (.aload_n 0, 1) := by decide +kernel
theorem dX8_countPlaces_75 : decode cX8_countPlaces 75 = .ok (.getfield 9, 3) := by decide +kernel
theorem dX8_countPlaces_78 : decode cX8_countPlaces 78 = .ok (.getfield 71, 3) := by decide +kernel
theorem dX8_countPlaces_81 : decode cX8_countPlaces 81 = .ok (.iload_n 1, 1) := by decide +kernel
theorem dX8_countPlaces_82 : decode cX8_countPlaces 82 = .ok (.iaload, 1) := by decide +kernel
theorem dX8_countPlaces_83 : decode cX8_countPlaces 83 = .ok (.iadd, 1) := by decide +kernel
theorem dX8_countPlaces_84 : decode cX8_countPlaces 84 = .ok (.iastore, 1) := by decide +kernel
theorem dX8_countPlaces_85 : decode cX8_countPlaces 85 = .ok (.aload_n 0, 1) := by decide +kernel
theorem dX8_countPlaces_86 : decode cX8_countPlaces 86 = .ok (.getfield 19, 3) := by decide +kernel
theorem dX8_countPlaces_89 : decode cX8_countPlaces 89 = .ok (.iload_n 3, 1) := by decide +kernel
theorem dX8_countPlaces_90 : decode cX8_countPlaces 90 = .ok (.dup2, 1) := by decide +kernel
theorem dX8_countPlaces_91 : decode cX8_countPlaces 91 = .ok (.iaload, 1) := by decide +kernel
theorem dX8_countPlaces_92 : decode cX8_countPlaces 92 = .ok (.aload_n 0, 1) := by decide +kernel
theorem dX8_countPlaces_93 : decode cX8_countPlaces 93 = .ok (.getfield 9, 3) := by decide +kernel
theorem dX8_countPlaces_96 : decode cX8_countPlaces 96 = .ok (.getfield 71, 3) := by decide +kernel
theorem dX8_countPlaces_99 : decode cX8_countPlaces 99 = .ok (.iload_n 1, 1) := by decide +kernel
theorem dX8_countPlaces_100 : decode cX8_countPlaces 100 = .ok (.iaload, 1) := by decide +kernel
theorem dX8_countPlaces_101 : decode cX8_countPlaces 101 = .ok (.iadd, 1) := by decide +kernel
theorem dX8_countPlaces_102 : decode cX8_countPlaces 102 = .ok (.iastore, 1) := by decide +kernel
theorem dX8_countPlaces_103 : decode cX8_countPlaces 103 = .ok (.iinc 2 1, 3) := by decide +kernel
theorem dX8_countPlaces_106 : decode cX8_countPlaces 106 = .ok (.goto (-75), 3) := by decide +kernel
theorem dX8_countPlaces_109 : decode cX8_countPlaces 109 = .ok (.iinc 1 1, 3) := by decide +kernel
theorem dX8_countPlaces_112 : decode cX8_countPlaces 112 = .ok (.goto (-94), 3) := by decide +kernel
theorem dX8_countPlaces_115 : decode cX8_countPlaces 115 = .ok (.return_, 1) := by decide +kernel
theorem dX8_greatestAt_0 : decode cX8_greatestAt 0 = .ok (.iconst 0, 1) := by decide +kernel
theorem dX8_greatestAt_1 : decode cX8_greatestAt 1 = .ok (.istore_n 3, 1) := by decide +kernel
theorem dX8_greatestAt_2 : decode cX8_greatestAt 2 = .ok (.bipush (-6), 2) := by decide +kernel
theorem dX8_greatestAt_4 : decode cX8_greatestAt 4 = .ok (.istore 4, 2) := by decide +kernel
theorem dX8_greatestAt_6 : decode cX8_greatestAt 6 = .ok (.iconst 0, 1) := by decide +kernel
theorem dX8_greatestAt_7 : decode cX8_greatestAt 7 = .ok (.istore 5, 2) := by decide +kernel
theorem dX8_greatestAt_9 : decode cX8_greatestAt 9 = .ok (.iload 5, 2) := by decide +kernel
theorem dX8_greatestAt_11 : decode cX8_greatestAt 11 = .ok (.bipush 10, 2) := by decide +kernel
theorem dX8_greatestAt_13 : decode cX8_greatestAt 13 = .ok (.if_icmp .ge 35, 3) := by decide +kernel
theorem dX8_greatestAt_16 : decode cX8_greatestAt 16 = .ok (.aload_n 0, 1) := by decide +kernel
theorem dX8_greatestAt_17 : decode cX8_greatestAt 17 = .ok (.getfield 15, 3) := by decide +kernel
theorem dX8_greatestAt_20 : decode cX8_greatestAt 20 = .ok (.iload_n 1, 1) := by decide +kernel
theorem dX8_greatestAt_21 : decode cX8_greatestAt 21 = .ok (.iload 5, 2) := by decide +kernel
theorem dX8_greatestAt_23 : decode cX8_greatestAt 23 = .ok (.iload_n 2, 1) := by decide +kernel
theorem dX8_greatestAt_24 : decode cX8_greatestAt 24 = .ok (.imul, 1) := by decide +kernel
theorem dX8_greatestAt_25 : decode cX8_greatestAt 25 = .ok (.iadd, 1) := by decide +kernel
theorem dX8_greatestAt_26 : decode cX8_greatestAt 26 = .ok (.iaload, 1) := by decide +kernel
theorem dX8_greatestAt_27 : decode cX8_greatestAt 27 = .ok (.istore 6, 2) := by decide +kernel
theorem dX8_greatestAt_29 : decode cX8_greatestAt 29 = .ok (.iload 6, 2) := by decide +kernel
theorem dX8_greatestAt_31 : decode cX8_greatestAt 31 = .ok (.iload_n 3, 1) := by decide +kernel
theorem dX8_greatestAt_32 : decode cX8_greatestAt 32 = .ok (.if_icmp .le 10, 3) := by decide +kernel
theorem dX8_greatestAt_35 : decode cX8_greatestAt 35 = .ok (.iload 6, 2) := by decide +kernel
theorem dX8_greatestAt_37 : decode cX8_greatestAt 37 = .ok (.istore_n 3, 1) := by decide +kernel
theorem dX8_greatestAt_38 : decode cX8_greatestAt 38 = .ok (.iload 5, 2) := by decide +kernel
theorem dX8_greatestAt_40 : decode cX8_greatestAt 40 = .ok (.istore 4, 2) := by decide +kernel
theorem dX8_greatestAt_42 : decode cX8_greatestAt 42 = .ok (.iinc 5 1, 3) := by decide +kernel
theorem dX8_greatestAt_45 : decode cX8_greatestAt 45 = .ok (.goto (-36), 3) := by decide +kernel
theorem dX8_greatestAt_48 : decode cX8_greatestAt 48 = .ok (.iload 4, 2) := by decide +kernel
theorem dX8_greatestAt_50 : decode cX8_greatestAt 50 = .ok (.ireturn, 1) := by decide +kernel
theorem dX8_findRegular_0 : decode cX8_findRegular 0 = .ok (.aload_n 0, 1) := by decide +kernel
theorem dX8_findRegular_1 : decode cX8_findRegular 1 = .ok (.iconst 0, 1) := by decide +kernel
theorem dX8_findRegular_2 : decode cX8_findRegular 2 = .ok (.putfield 74, 3) := by decide +kernel
theorem dX8_findRegular_5 : decode cX8_findRegular 5 = .ok (.iconst 0, 1) := by decide +kernel
theorem dX8_findRegular_6 : decode cX8_findRegular 6 = .ok (.istore_n 1, 1) := by decide +kernel
theorem dX8_findRegular_7 : decode cX8_findRegular 7 = .ok (.iload_n 1, 1) := by decide +kernel
theorem dX8_findRegular_8 : decode cX8_findRegular 8 = .ok (.aload_n 0, 1) := by decide +kernel
theorem dX8_findRegular_9 : decode cX8_findRegular 9 = .ok (.getfield 9, 3) := by decide +kernel
theorem dX8_findRegular_12 : decode cX8_findRegular 12 = .ok (.getfield 56, 3) := by decide +kernel
theorem dX8_findRegular_15 : decode cX8_findRegular 15 = .ok (.if_icmp .ge 29, 3) := by decide +kernel
theorem dX8_findRegular_18 : decode cX8_findRegular 18 = .ok (.aload_n 0, 1) := by decide +kernel
theorem dX8_findRegular_19 : decode cX8_findRegular 19 = .ok (.iload_n 1, 1) := by decide +kernel
theorem dX8_findRegular_20 : decode cX8_findRegular 20 = .ok (.invokevirtual 77, 3) := by decide +kernel
theorem dX8_findRegular_23 : decode cX8_findRegular 23 = .ok (.ifCond .eq 15, 3) := by decide +kernel
theorem dX8_findRegular_26 : decode cX8_findRegular 26 = .ok (.aload_n 0, 1) := by decide +kernel
theorem dX8_findRegular_27 : decode cX8_findRegular 27 = .ok (.dup, 1) := by decide +kernel
theorem dX8_findRegular_28 : decode cX8_findRegular 28 = .ok (.getfield 74, 3) := by decide +kernel
theorem dX8_findRegular_31 : decode cX8_findRegular 31 = .ok (.iconst 1, 1) := by decide +kernel
theorem dX8_findRegular_32 : decode cX8_findRegular 32 = .ok (.iload_n 1, 1) := by decide +kernel
theorem dX8_findRegular_33 : decode cX8_findRegular 33 = .ok (.ishl, 1) := by decide +kernel
theorem dX8_findRegular_34 : decode cX8_findRegular 34 = .ok (.ior, 1) := by decide +kernel
theorem dX8_findRegular_35 : decode cX8_findRegular 35 = .ok (.putfield 74, 3) := by decide +kernel
theorem dX8_findRegular_38 : decode cX8_findRegular 38 = .ok (.iinc 1 1, 3) := by decide +kernel
theorem dX8_findRegular_41 : decode cX8_findRegular 41 = .ok (.goto (-34), 3) := by decide +kernel
theorem dX8_findRegular_44 : decode cX8_findRegular 44 = .ok (.return_, 1) := by decide +kernel
theorem dX8_goesByRule_0 : decode cX8_goesByRule 0 = .ok (.iconst 0, 1) := by decide +kernel
theorem dX8_goesByRule_1 : decode cX8_goesByRule 1 = .ok (.istore_n 2, 1) := by decide +kernel
theorem dX8_goesByRule_2 : decode cX8_goesByRule 2 = .ok (.iload_n 2, 1) := by decide +kernel
theorem dX8_goesByRule_3 : decode cX8_goesByRule 3 = .ok (.aload_n 0, 1) := by decide +kernel
theorem dX8_goesByRule_4 : decode cX8_goesByRule 4 = .ok (.getfield 9, 3) := by decide +kernel
theorem dX8_goesByRule_7 : decode cX8_goesByRule 7 = .ok (.getfield 62, 3) := by decide +kernel
theorem dX8_goesByRule_10 : decode cX8_goesByRule 10 = .ok (.iload_n 1, 1) := by decide +kernel
theorem dX8_goesByRule_11 : decode cX8_goesByRule 11 = .ok (.iaload, 1) := by decide +kernel
theorem dX8_goesByRule_12 : decode cX8_goesByRule 12 = .ok (.if_icmp .ge 37, 3) := by decide +kernel
theorem dX8_goesByRule_15 : decode cX8_goesByRule 15 = .ok (.aload_n 0, 1) := by decide +kernel
theorem dX8_goesByRule_16 : decode cX8_goesByRule 16 = .ok (.getfield 22, 3) := by decide +kernel
theorem dX8_goesByRule_19 : decode cX8_goesByRule 19 = .ok (.aload_n 0, 1) := by decide +kernel
theorem dX8_goesByRule_20 : decode cX8_goesByRule 20 = .ok (.getfield 9, 3) := by decide +kernel
theorem dX8_goesByRule_23 : decode cX8_goesByRule 23 = .ok (.iload_n 1, 1) := by decide +kernel
theorem dX8_goesByRule_24 : decode cX8_goesByRule 24 = .ok (.iload_n 2, 1) := by decide +kernel
theorem dX8_goesByRule_25 : decode cX8_goesByRule 25 = .ok (.invokevirtual 65, 3) := by decide +kernel
theorem dX8_goesByRule_28 : decode cX8_goesByRule 28 = .ok (.iaload, 1) := by decide +kernel
theorem dX8_goesByRule_29 : decode cX8_goesByRule 29 = .ok (.aload_n 0, 1) := by decide +kernel
theorem dX8_goesByRule_30 : decode cX8_goesByRule 30 = .ok (.getfield 9, 3) := by decide +kernel
theorem dX8_goesByRule_33 : decode cX8_goesByRule 33 = .ok (.iload_n 1, 1) := by decide +kernel
theorem dX8_goesByRule_34 : decode cX8_goesByRule 34 = .ok (.iload_n 2, 1) := by decide +kernel
theorem dX8_goesByRule_35 : decode cX8_goesByRule 35 = .ok (.invokevirtual 68, 3) := by decide +kernel
theorem dX8_goesByRule_38 : decode cX8_goesByRule 38 = .ok (.if_icmp .eq 5, 3) := by decide +kernel
theorem dX8_goesByRule_41 : decode cX8_goesByRule 41 = .ok (.iconst 0, 1) := by decide +kernel
theorem dX8_goesByRule_42 : decode cX8_goesByRule 42 = .ok (.ireturn, 1) := by decide +kernel
theorem dX8_goesByRule_43 : decode cX8_goesByRule 43 = .ok (.iinc 2 1, 3) := by decide +kernel
theorem dX8_goesByRule_46 : decode cX8_goesByRule 46 = .ok (.goto (-44), 3) := by decide +kernel
theorem dX8_goesByRule_49 : decode cX8_goesByRule 49 = .ok (.iconst 1, 1) := by decide +kernel
theorem dX8_goesByRule_50 : decode cX8_goesByRule 50 = .ok (.ireturn, 1) := by decide +kernel
theorem dX8_sortByTimes_0 : decode cX8_sortByTimes 0 = .ok (.iconst 0, 1) := by decide +kernel
theorem dX8_sortByTimes_1 : decode cX8_sortByTimes 1 = .ok (.istore_n 1, 1) := by decide +kernel
theorem dX8_sortByTimes_2 : decode cX8_sortByTimes 2 = .ok (.iload_n 1, 1) := by decide +kernel
theorem dX8_sortByTimes_3 : decode cX8_sortByTimes 3 = .ok (.aload_n 0, 1) := by decide +kernel
theorem dX8_sortByTimes_4 : decode cX8_sortByTimes 4 = .ok (.getfield 9, 3) := by decide +kernel
theorem dX8_sortByTimes_7 : decode cX8_sortByTimes 7 = .ok (.getfield 56, 3) := by decide +kernel
theorem dX8_sortByTimes_10 : decode cX8_sortByTimes 10 = .ok (.if_icmp .ge 70, 3) := by decide +kernel
theorem dX8_sortByTimes_13 : decode cX8_sortByTimes 13 = .ok (.iload_n 1, 1) := by decide +kernel
theorem dX8_sortByTimes_14 : decode cX8_sortByTimes 14 = .ok (.istore_n 2, 1) := by decide +kernel
theorem dX8_sortByTimes_15 : decode cX8_sortByTimes 15 = .ok (.iload_n 2, 1) := by decide +kernel
theorem dX8_sortByTimes_16 : decode cX8_sortByTimes 16 = .ok (.ifCond .le 51, 3) := by decide +kernel
theorem dX8_sortByTimes_19 : decode cX8_sortByTimes 19 = .ok (.aload_n 0, 1) := by decide +kernel
theorem dX8_sortByTimes_20 : decode cX8_sortByTimes 20 = .ok (.getfield 9, 3) := by decide +kernel
theorem dX8_sortByTimes_23 : decode cX8_sortByTimes 23 = .ok (.getfield 71, 3) := by decide +kernel
theorem dX8_sortByTimes_26 : decode cX8_sortByTimes 26 = .ok (.aload_n 0, 1) := by decide +kernel
theorem dX8_sortByTimes_27 : decode cX8_sortByTimes 27 = .ok (.getfield 28, 3) := by decide +kernel
theorem dX8_sortByTimes_30 : decode cX8_sortByTimes 30 = .ok (.iload_n 2, 1) := by decide +kernel
theorem dX8_sortByTimes_31 : decode cX8_sortByTimes 31 = .ok (.iconst 1, 1) := by decide +kernel
theorem dX8_sortByTimes_32 : decode cX8_sortByTimes 32 = .ok (.isub, 1) := by decide +kernel
theorem dX8_sortByTimes_33 : decode cX8_sortByTimes 33 = .ok (.iaload, 1) := by decide +kernel
theorem dX8_sortByTimes_34 : decode cX8_sortByTimes 34 = .ok (.iaload, 1) := by decide +kernel
theorem dX8_sortByTimes_35 : decode cX8_sortByTimes 35 = .ok (.aload_n 0, 1) := by decide +kernel
theorem dX8_sortByTimes_36 : decode cX8_sortByTimes 36 = .ok (.getfield 9, 3) := by decide +kernel
theorem dX8_sortByTimes_39 : decode cX8_sortByTimes 39 = .ok (.getfield 71, 3) := by decide +kernel
theorem dX8_sortByTimes_42 : decode cX8_sortByTimes 42 = .ok (.iload_n 1, 1) := by decide +kernel
theorem dX8_sortByTimes_43 : decode cX8_sortByTimes 43 = .ok (.iaload, 1) := by decide +kernel
theorem dX8_sortByTimes_44 : decode cX8_sortByTimes 44 = .ok (.if_icmp .ge 23, 3) := by decide +kernel
theorem dX8_sortByTimes_47 : decode cX8_sortByTimes 47 = .ok (.aload_n 0, 1) := by decide +kernel
theorem dX8_sortByTimes_48 : decode cX8_sortByTimes 48 = .ok (.getfield 28, 3) := by decide +kernel
theorem dX8_sortByTimes_51 : decode cX8_sortByTimes 51 = .ok (.iload_n 2, 1) := by decide +kernel
theorem dX8_sortByTimes_52 : decode cX8_sortByTimes 52 = .ok (.aload_n 0, 1) := by decide +kernel
theorem dX8_sortByTimes_53 : decode cX8_sortByTimes 53 = .ok (.getfield 28, 3) := by decide +kernel
theorem dX8_sortByTimes_56 : decode cX8_sortByTimes 56 = .ok (.iload_n 2, 1) := by decide +kernel
theorem dX8_sortByTimes_57 : decode cX8_sortByTimes 57 = .ok (.iconst 1, 1) := by decide +kernel
theorem dX8_sortByTimes_58 : decode cX8_sortByTimes 58 = .ok (.isub, 1) := by decide +kernel
theorem dX8_sortByTimes_59 : decode cX8_sortByTimes 59 = .ok (.iaload, 1) := by decide +kernel
theorem dX8_sortByTimes_60 : decode cX8_sortByTimes 60 = .ok (.iastore, 1) := by decide +kernel
theorem dX8_sortByTimes_61 : decode cX8_sortByTimes 61 = .ok (.iinc 2 (-1), 3) := by decide +kernel
theorem dX8_sortByTimes_64 : decode cX8_sortByTimes 64 = .ok (.goto (-49), 3) := by decide +kernel
theorem dX8_sortByTimes_67 : decode cX8_sortByTimes 67 = .ok (.aload_n 0, 1) := by decide +kernel
theorem dX8_sortByTimes_68 : decode cX8_sortByTimes 68 = .ok (.getfield 28, 3) := by decide +kernel
theorem dX8_sortByTimes_71 : decode cX8_sortByTimes 71 = .ok (.iload_n 2, 1) := by decide +kernel
theorem dX8_sortByTimes_72 : decode cX8_sortByTimes 72 = .ok (.iload_n 1, 1) := by decide +kernel
theorem dX8_sortByTimes_73 : decode cX8_sortByTimes 73 = .ok (.iastore, 1) := by decide +kernel
theorem dX8_sortByTimes_74 : decode cX8_sortByTimes 74 = .ok (.iinc 1 1, 3) := by decide +kernel
theorem dX8_sortByTimes_77 : decode cX8_sortByTimes 77 = .ok (.goto (-75), 3) := by decide +kernel
theorem dX8_sortByTimes_80 : decode cX8_sortByTimes 80 = .ok (.return_, 1) := by decide +kernel
theorem dX8_findGuesses_0 : decode cX8_findGuesses 0 = .ok (.aload_n 0, 1) := by decide +kernel
theorem dX8_findGuesses_1 : decode cX8_findGuesses 1 = .ok (.getfield 31, 3) := by decide +kernel
theorem dX8_findGuesses_4 : decode cX8_findGuesses 4 = .ok (.bipush (-6), 2) := by decide +kernel
theorem dX8_findGuesses_6 : decode cX8_findGuesses 6 = .ok (.invokestatic 50, 3) := by decide +kernel
theorem dX8_findGuesses_9 : decode cX8_findGuesses 9 = .ok (.iconst 0, 1) := by decide +kernel
theorem dX8_findGuesses_10 : decode cX8_findGuesses 10 = .ok (.istore_n 1, 1) := by decide +kernel
theorem dX8_findGuesses_11 : decode cX8_findGuesses 11 = .ok (.iload_n 1, 1) := by decide +kernel
theorem dX8_findGuesses_12 : decode cX8_findGuesses 12 = .ok (.aload_n 0, 1) := by decide +kernel
theorem dX8_findGuesses_13 : decode cX8_findGuesses 13 = .ok (.getfield 9, 3) := by decide +kernel
theorem dX8_findGuesses_16 : decode cX8_findGuesses 16 = .ok (.getfield 56, 3) := by decide +kernel
theorem dX8_findGuesses_19 : decode cX8_findGuesses 19 = .ok (.if_icmp .ge 46, 3) := by decide +kernel
theorem dX8_findGuesses_22 : decode cX8_findGuesses 22 = .ok (.aload_n 0, 1) := by decide +kernel
theorem dX8_findGuesses_23 : decode cX8_findGuesses 23 = .ok (.getfield 9, 3) := by decide +kernel
theorem dX8_findGuesses_26 : decode cX8_findGuesses 26 = .ok (.aload_n 0, 1) := by decide +kernel
theorem dX8_findGuesses_27 : decode cX8_findGuesses 27 = .ok (.getfield 28, 3) := by decide +kernel
theorem dX8_findGuesses_30 : decode cX8_findGuesses 30 = .ok (.iload_n 1, 1) := by decide +kernel
theorem dX8_findGuesses_31 : decode cX8_findGuesses 31 = .ok (.iaload, 1) := by decide +kernel
theorem dX8_findGuesses_32 : decode cX8_findGuesses 32 = .ok (.invokevirtual 81, 3) := by decide +kernel
theorem dX8_findGuesses_35 : decode cX8_findGuesses 35 = .ok (.istore_n 2, 1) := by decide +kernel
theorem dX8_findGuesses_36 : decode cX8_findGuesses 36 = .ok (.aload_n 0, 1) := by decide +kernel
theorem dX8_findGuesses_37 : decode cX8_findGuesses 37 = .ok (.getfield 31, 3) := by decide +kernel
theorem dX8_findGuesses_40 : decode cX8_findGuesses 40 = .ok (.iload_n 2, 1) := by decide +kernel
theorem dX8_findGuesses_41 : decode cX8_findGuesses 41 = .ok (.iaload, 1) := by decide +kernel
theorem dX8_findGuesses_42 : decode cX8_findGuesses 42 = .ok (.bipush (-6), 2) := by decide +kernel
theorem dX8_findGuesses_44 : decode cX8_findGuesses 44 = .ok (.if_icmp .ne 15, 3) := by decide +kernel
theorem dX8_findGuesses_47 : decode cX8_findGuesses 47 = .ok (.aload_n 0, 1) := by decide +kernel
theorem dX8_findGuesses_48 : decode cX8_findGuesses 48 = .ok (.getfield 31, 3) := by decide +kernel
theorem dX8_findGuesses_51 : decode cX8_findGuesses 51 = .ok (.iload_n 2, 1) := by decide +kernel
theorem dX8_findGuesses_52 : decode cX8_findGuesses 52 = .ok (.aload_n 0, 1) := by decide +kernel
theorem dX8_findGuesses_53 : decode cX8_findGuesses 53 = .ok (.getfield 28, 3) := by decide +kernel
theorem dX8_findGuesses_56 : decode cX8_findGuesses 56 = .ok (.iload_n 1, 1) := by decide +kernel
theorem dX8_findGuesses_57 : decode cX8_findGuesses 57 = .ok (.iaload, 1) := by decide +kernel
theorem dX8_findGuesses_58 : decode cX8_findGuesses 58 = .ok (.iastore, 1) := by decide +kernel
theorem dX8_findGuesses_59 : decode cX8_findGuesses 59 = .ok (.iinc 1 1, 3) := by decide +kernel
theorem dX8_findGuesses_62 : decode cX8_findGuesses 62 = .ok (.goto (-51), 3) := by decide +kernel
theorem dX8_findGuesses_65 : decode cX8_findGuesses 65 = .ok (.return_, 1) := by decide +kernel
theorem dX8_isRegular_0 : decode cX8_isRegular 0 = .ok (.aload_n 0, 1) := by decide +kernel
theorem dX8_isRegular_1 : decode cX8_isRegular 1 = .ok (.getfield 74, 3) := by decide +kernel
theorem dX8_isRegular_4 : decode cX8_isRegular 4 = .ok (.iload_n 1, 1) := by decide +kernel
theorem dX8_isRegular_5 : decode cX8_isRegular 5 = .ok (.invokestatic 85, 3) := by decide +kernel
theorem dX8_isRegular_8 : decode cX8_isRegular 8 = .ok (.ireturn, 1) := by decide +kernel
theorem dX8_placesByRule_0 : decode cX8_placesByRule 0 = .ok (.iconst 0, 1) := by decide +kernel
theorem dX8_placesByRule_1 : decode cX8_placesByRule 1 = .ok (.istore_n 1, 1) := by decide +kernel
theorem dX8_placesByRule_2 : decode cX8_placesByRule 2 = .ok (.iconst 0, 1) := by decide +kernel
theorem dX8_placesByRule_3 : decode cX8_placesByRule 3 = .ok (.istore_n 2, 1) := by decide +kernel
theorem dX8_placesByRule_4 : decode cX8_placesByRule 4 = .ok (.iload_n 2, 1) := by decide +kernel
theorem dX8_placesByRule_5 : decode cX8_placesByRule 5 = .ok (.bipush 10, 2) := by decide +kernel
theorem dX8_placesByRule_7 : decode cX8_placesByRule 7 = .ok (.if_icmp .ge 39, 3) := by decide +kernel
theorem dX8_placesByRule_10 : decode cX8_placesByRule 10 = .ok (.aload_n 0, 1) := by decide +kernel
theorem dX8_placesByRule_11 : decode cX8_placesByRule 11 = .ok (.getfield 22, 3) := by decide +kernel
theorem dX8_placesByRule_14 : decode cX8_placesByRule 14 = .ok (.iload_n 2, 1) := by decide +kernel
theorem dX8_placesByRule_15 : decode cX8_placesByRule 15 = .ok (.iaload, 1) := by decide +kernel
theorem dX8_placesByRule_16 : decode cX8_placesByRule 16 = .ok (.bipush (-6), 2) := by decide +kernel
theorem dX8_placesByRule_18 : decode cX8_placesByRule 18 = .ok (.if_icmp .eq 22, 3) := by decide +kernel
theorem dX8_placesByRule_21 : decode cX8_placesByRule 21 = .ok (.iload_n 1, 1) := by decide +kernel
theorem dX8_placesByRule_22 : decode cX8_placesByRule 22 = .ok (.aload_n 0, 1) := by decide +kernel
theorem dX8_placesByRule_23 : decode cX8_placesByRule 23 = .ok (.getfield 15, 3) := by decide +kernel
theorem dX8_placesByRule_26 : decode cX8_placesByRule 26 = .ok (.iload_n 2, 1) := by decide +kernel
theorem dX8_placesByRule_27 : decode cX8_placesByRule 27 = .ok (.bipush 10, 2) := by decide +kernel
theorem dX8_placesByRule_29 : decode cX8_placesByRule 29 = .ok (.imul, 1) := by decide +kernel
theorem dX8_placesByRule_30 : decode cX8_placesByRule 30 = .ok (.aload_n 0, 1) := by decide +kernel
theorem dX8_placesByRule_31 : decode cX8_placesByRule 31 = .ok (.getfield 22, 3) := by decide +kernel
theorem dX8_placesByRule_34 : decode cX8_placesByRule 34 = .ok (.iload_n 2, 1) := by decide +kernel
theorem dX8_placesByRule_35 : decode cX8_placesByRule 35 = .ok (.iaload, 1) := by decide +kernel
theorem dX8_placesByRule_36 : decode cX8_placesByRule 36 = .ok (.iadd, 1) := by decide +kernel
theorem dX8_placesByRule_37 : decode cX8_placesByRule 37 = .ok (.iaload, 1) := by decide +kernel
theorem dX8_placesByRule_38 : decode cX8_placesByRule 38 = .ok (.iadd, 1) := by decide +kernel
theorem dX8_placesByRule_39 : decode cX8_placesByRule 39 = .ok (.istore_n 1, 1) := by decide +kernel
theorem dX8_placesByRule_40 : decode cX8_placesByRule 40 = .ok (.iinc 2 1, 3) := by decide +kernel
theorem dX8_placesByRule_43 : decode cX8_placesByRule 43 = .ok (.goto (-39), 3) := by decide +kernel
theorem dX8_placesByRule_46 : decode cX8_placesByRule 46 = .ok (.iload_n 1, 1) := by decide +kernel
theorem dX8_placesByRule_47 : decode cX8_placesByRule 47 = .ok (.ireturn, 1) := by decide +kernel
theorem dX8_placesInAll_0 : decode cX8_placesInAll 0 = .ok (.iconst 0, 1) := by decide +kernel
theorem dX8_placesInAll_1 : decode cX8_placesInAll 1 = .ok (.istore_n 1, 1) := by decide +kernel
theorem dX8_placesInAll_2 : decode cX8_placesInAll 2 = .ok (.iconst 0, 1) := by decide +kernel
theorem dX8_placesInAll_3 : decode cX8_placesInAll 3 = .ok (.istore_n 2, 1) := by decide +kernel
theorem dX8_placesInAll_4 : decode cX8_placesInAll 4 = .ok (.iload_n 2, 1) := by decide +kernel
theorem dX8_placesInAll_5 : decode cX8_placesInAll 5 = .ok (.bipush 10, 2) := by decide +kernel
theorem dX8_placesInAll_7 : decode cX8_placesInAll 7 = .ok (.if_icmp .ge 18, 3) := by decide +kernel
theorem dX8_placesInAll_10 : decode cX8_placesInAll 10 = .ok (.iload_n 1, 1) := by decide +kernel
theorem dX8_placesInAll_11 : decode cX8_placesInAll 11 = .ok (.aload_n 0, 1) := by decide +kernel
theorem dX8_placesInAll_12 : decode cX8_placesInAll 12 = .ok (.getfield 19, 3) := by decide +kernel
theorem dX8_placesInAll_15 : decode cX8_placesInAll 15 = .ok (.iload_n 2, 1) := by decide +kernel
theorem dX8_placesInAll_16 : decode cX8_placesInAll 16 = .ok (.iaload, 1) := by decide +kernel
theorem dX8_placesInAll_17 : decode cX8_placesInAll 17 = .ok (.iadd, 1) := by decide +kernel
theorem dX8_placesInAll_18 : decode cX8_placesInAll 18 = .ok (.istore_n 1, 1) := by decide +kernel
theorem dX8_placesInAll_19 : decode cX8_placesInAll 19 = .ok (.iinc 2 1, 3) := by decide +kernel
theorem dX8_placesInAll_22 : decode cX8_placesInAll 22 = .ok (.goto (-18), 3) := by decide +kernel
theorem dX8_placesInAll_25 : decode cX8_placesInAll 25 = .ok (.iload_n 1, 1) := by decide +kernel
theorem dX8_placesInAll_26 : decode cX8_placesInAll 26 = .ok (.ireturn, 1) := by decide +kernel
theorem dX8_isGiven_0 : decode cX8_isGiven 0 = .ok (.aload_n 0, 1) := by decide +kernel
theorem dX8_isGiven_1 : decode cX8_isGiven 1 = .ok (.iload_n 1, 1) := by decide +kernel
theorem dX8_isGiven_2 : decode cX8_isGiven 2 = .ok (.invokevirtual 89, 3) := by decide +kernel
theorem dX8_isGiven_5 : decode cX8_isGiven 5 = .ok (.ifCond .eq 23, 3) := by decide +kernel
theorem dX8_isGiven_8 : decode cX8_isGiven 8 = .ok (.aload_n 0, 1) := by decide +kernel
theorem dX8_isGiven_9 : decode cX8_isGiven 9 = .ok (.getfield 9, 3) := by decide +kernel
theorem dX8_isGiven_12 : decode cX8_isGiven 12 = .ok (.getfield 92, 3) := by decide +kernel
theorem dX8_isGiven_15 : decode cX8_isGiven 15 = .ok (.iload_n 1, 1) := by decide +kernel
theorem dX8_isGiven_16 : decode cX8_isGiven 16 = .ok (.iaload, 1) := by decide +kernel
theorem dX8_isGiven_17 : decode cX8_isGiven 17 = .ok (.iload_n 2, 1) := by decide +kernel
theorem dX8_isGiven_18 : decode cX8_isGiven 18 = .ok (.iconst (-1), 1) := by decide +kernel
theorem dX8_isGiven_19 : decode cX8_isGiven 19 = .ok (.ixor, 1) := by decide +kernel
theorem dX8_isGiven_20 : decode cX8_isGiven 20 = .ok (.iand, 1) := by decide +kernel
theorem dX8_isGiven_21 : decode cX8_isGiven 21 = .ok (.ifCond .ne 7, 3) := by decide +kernel
theorem dX8_isGiven_24 : decode cX8_isGiven 24 = .ok (.iconst 1, 1) := by decide +kernel
theorem dX8_isGiven_25 : decode cX8_isGiven 25 = .ok (.goto 4, 3) := by decide +kernel
theorem dX8_isGiven_28 : decode cX8_isGiven 28 = .ok (.iconst 0, 1) := by decide +kernel
theorem dX8_isGiven_29 : decode cX8_isGiven 29 = .ok (.ireturn, 1) := by decide +kernel
theorem dX8_givenBy_0 : decode cX8_givenBy 0 = .ok (.iconst 0, 1) := by decide +kernel
theorem dX8_givenBy_1 : decode cX8_givenBy 1 = .ok (.istore_n 2, 1) := by decide +kernel
theorem dX8_givenBy_2 : decode cX8_givenBy 2 = .ok (.iconst 0, 1) := by decide +kernel
theorem dX8_givenBy_3 : decode cX8_givenBy 3 = .ok (.istore_n 3, 1) := by decide +kernel
theorem dX8_givenBy_4 : decode cX8_givenBy 4 = .ok (.iload_n 3, 1) := by decide +kernel
theorem dX8_givenBy_5 : decode cX8_givenBy 5 = .ok (.aload_n 0, 1) := by decide +kernel
theorem dX8_givenBy_6 : decode cX8_givenBy 6 = .ok (.getfield 9, 3) := by decide +kernel
theorem dX8_givenBy_9 : decode cX8_givenBy 9 = .ok (.getfield 56, 3) := by decide +kernel
theorem dX8_givenBy_12 : decode cX8_givenBy 12 = .ok (.if_icmp .ge 24, 3) := by decide +kernel
theorem dX8_givenBy_15 : decode cX8_givenBy 15 = .ok (.aload_n 0, 1) := by decide +kernel
theorem dX8_givenBy_16 : decode cX8_givenBy 16 = .ok (.iload_n 3, 1) := by decide +kernel
theorem dX8_givenBy_17 : decode cX8_givenBy 17 = .ok (.iload_n 1, 1) := by decide +kernel
theorem dX8_givenBy_18 : decode cX8_givenBy 18 = .ok (.invokevirtual 95, 3) := by decide +kernel
theorem dX8_givenBy_21 : decode cX8_givenBy 21 = .ok (.ifCond .eq 9, 3) := by decide +kernel
theorem dX8_givenBy_24 : decode cX8_givenBy 24 = .ok (.iload_n 2, 1) := by decide +kernel
theorem dX8_givenBy_25 : decode cX8_givenBy 25 = .ok (.iconst 1, 1) := by decide +kernel
theorem dX8_givenBy_26 : decode cX8_givenBy 26 = .ok (.iload_n 3, 1) := by decide +kernel
theorem dX8_givenBy_27 : decode cX8_givenBy 27 = .ok (.ishl, 1) := by decide +kernel
theorem dX8_givenBy_28 : decode cX8_givenBy 28 = .ok (.ior, 1) := by decide +kernel
theorem dX8_givenBy_29 : decode cX8_givenBy 29 = .ok (.istore_n 2, 1) := by decide +kernel
theorem dX8_givenBy_30 : decode cX8_givenBy 30 = .ok (.iinc 3 1, 3) := by decide +kernel
theorem dX8_givenBy_33 : decode cX8_givenBy 33 = .ok (.goto (-29), 3) := by decide +kernel
theorem dX8_givenBy_36 : decode cX8_givenBy 36 = .ok (.iload_n 2, 1) := by decide +kernel
theorem dX8_givenBy_37 : decode cX8_givenBy 37 = .ok (.ireturn, 1) := by decide +kernel
theorem dX8_newSign_0 : decode cX8_newSign 0 = .ok (.aload_n 0, 1) := by decide +kernel
theorem dX8_newSign_1 : decode cX8_newSign 1 = .ok (.getfield 25, 3) := by decide +kernel
theorem dX8_newSign_4 : decode cX8_newSign 4 = .ok (.aload_n 0, 1) := by decide +kernel
theorem dX8_newSign_5 : decode cX8_newSign 5 = .ok (.getfield 9, 3) := by decide +kernel
theorem dX8_newSign_8 : decode cX8_newSign 8 = .ok (.iload_n 1, 1) := by decide +kernel
theorem dX8_newSign_9 : decode cX8_newSign 9 = .ok (.iload_n 2, 1) := by decide +kernel
theorem dX8_newSign_10 : decode cX8_newSign 10 = .ok (.invokevirtual 68, 3) := by decide +kernel
theorem dX8_newSign_13 : decode cX8_newSign 13 = .ok (.iaload, 1) := by decide +kernel
theorem dX8_newSign_14 : decode cX8_newSign 14 = .ok (.ireturn, 1) := by decide +kernel
theorem dX8_changedPlaces_0 : decode cX8_changedPlaces 0 = .ok (.iconst 0, 1) := by decide +kernel
theorem dX8_changedPlaces_1 : decode cX8_changedPlaces 1 = .ok (.istore_n 1, 1) := by decide +kernel
theorem dX8_changedPlaces_2 : decode cX8_changedPlaces 2 = .ok (.iconst 0, 1) := by decide +kernel
theorem dX8_changedPlaces_3 : decode cX8_changedPlaces 3 = .ok (.istore_n 2, 1) := by decide +kernel
theorem dX8_changedPlaces_4 : decode cX8_changedPlaces 4 = .ok (.iload_n 2, 1) := by decide +kernel
theorem dX8_changedPlaces_5 : decode cX8_changedPlaces 5 = .ok (.aload_n 0, 1) := by decide +kernel
theorem dX8_changedPlaces_6 : decode cX8_changedPlaces 6 = .ok (.getfield 9, 3) := by decide +kernel
theorem dX8_changedPlaces_9 : decode cX8_changedPlaces 9 = .ok (.getfield 56, 3) := by decide +kernel
theorem dX8_changedPlaces_12 : decode cX8_changedPlaces 12 = .ok (.if_icmp .ge 60, 3) := by decide +kernel
theorem dX8_changedPlaces_15 : decode cX8_changedPlaces 15 = .ok (.iconst 0, 1) := by decide +kernel
theorem dX8_changedPlaces_16 : decode cX8_changedPlaces 16 = .ok (.istore_n 3, 1) := by decide +kernel
theorem dX8_changedPlaces_17 : decode cX8_changedPlaces 17 = .ok (.iload_n 3, 1) := by decide +kernel
theorem dX8_changedPlaces_18 : decode cX8_changedPlaces 18 = .ok (.aload_n 0, 1) := by decide +kernel
theorem dX8_changedPlaces_19 : decode cX8_changedPlaces 19 = .ok (.getfield 9, 3) := by decide +kernel
theorem dX8_changedPlaces_22 : decode cX8_changedPlaces 22 = .ok (.getfield 62, 3) := by decide +kernel
theorem dX8_changedPlaces_25 : decode cX8_changedPlaces 25 = .ok (.iload_n 2, 1) := by decide +kernel
theorem dX8_changedPlaces_26 : decode cX8_changedPlaces 26 = .ok (.iaload, 1) := by decide +kernel
theorem dX8_changedPlaces_27 : decode cX8_changedPlaces 27 = .ok (.if_icmp .ge 39, 3) := by decide +kernel
theorem dX8_changedPlaces_30 : decode cX8_changedPlaces 30 = .ok (.aload_n 0, 1) := by decide +kernel
theorem dX8_changedPlaces_31 : decode cX8_changedPlaces 31 = .ok (.iload_n 2, 1) := by decide +kernel
theorem dX8_changedPlaces_32 : decode cX8_changedPlaces 32 = .ok (.iload_n 3, 1) := by decide +kernel
theorem dX8_changedPlaces_33 : decode cX8_changedPlaces 33 = .ok (.invokevirtual 98, 3) := by decide +kernel
theorem dX8_changedPlaces_36 : decode cX8_changedPlaces 36 = .ok (.aload_n 0, 1) := by decide +kernel
theorem dX8_changedPlaces_37 : decode cX8_changedPlaces 37 = .ok (.getfield 9, 3) := by decide +kernel
theorem dX8_changedPlaces_40 : decode cX8_changedPlaces 40 = .ok (.iload_n 2, 1) := by decide +kernel
theorem dX8_changedPlaces_41 : decode cX8_changedPlaces 41 = .ok (.iload_n 3, 1) := by decide +kernel
theorem dX8_changedPlaces_42 : decode cX8_changedPlaces 42 = .ok (.invokevirtual 65, 3) := by decide +kernel
theorem dX8_changedPlaces_45 : decode cX8_changedPlaces 45 = .ok (.if_icmp .eq 15, 3) := by decide +kernel
theorem dX8_changedPlaces_48 : decode cX8_changedPlaces 48 = .ok (.iload_n 1, 1) := by decide +kernel
theorem dX8_changedPlaces_49 : decode cX8_changedPlaces 49 = .ok (.aload_n 0, 1) := by decide +kernel
theorem dX8_changedPlaces_50 : decode cX8_changedPlaces 50 = .ok (.getfield 9, 3) := by decide +kernel
theorem dX8_changedPlaces_53 : decode cX8_changedPlaces 53 = .ok (.getfield 71, 3) := by decide +kernel
theorem dX8_changedPlaces_56 : decode cX8_changedPlaces 56 = .ok (.iload_n 2, 1) := by decide +kernel
theorem dX8_changedPlaces_57 : decode cX8_changedPlaces 57 = .ok (.iaload, 1) := by decide +kernel
theorem dX8_changedPlaces_58 : decode cX8_changedPlaces 58 = .ok (.iadd, 1) := by decide +kernel
theorem dX8_changedPlaces_59 : decode cX8_changedPlaces 59 = .ok (.istore_n 1, 1) := by decide +kernel
theorem dX8_changedPlaces_60 : decode cX8_changedPlaces 60 = .ok (.iinc 3 1, 3) := by decide +kernel
theorem dX8_changedPlaces_63 : decode cX8_changedPlaces 63 = .ok (.goto (-46), 3) := by decide +kernel
theorem dX8_changedPlaces_66 : decode cX8_changedPlaces 66 = .ok (.iinc 2 1, 3) := by decide +kernel
theorem dX8_changedPlaces_69 : decode cX8_changedPlaces 69 = .ok (.goto (-65), 3) := by decide +kernel
theorem dX8_changedPlaces_72 : decode cX8_changedPlaces 72 = .ok (.iload_n 1, 1) := by decide +kernel
theorem dX8_changedPlaces_73 : decode cX8_changedPlaces 73 = .ok (.ireturn, 1) := by decide +kernel
theorem dX8_firstClash_0 : decode cX8_firstClash 0 = .ok (.iconst 0, 1) := by decide +kernel
theorem dX8_firstClash_1 : decode cX8_firstClash 1 = .ok (.istore_n 1, 1) := by decide +kernel
theorem dX8_firstClash_2 : decode cX8_firstClash 2 = .ok (.iload_n 1, 1) := by decide +kernel
theorem dX8_firstClash_3 : decode cX8_firstClash 3 = .ok (.aload_n 0, 1) := by decide +kernel
theorem dX8_firstClash_4 : decode cX8_firstClash 4 = .ok (.getfield 9, 3) := by decide +kernel
theorem dX8_firstClash_7 : decode cX8_firstClash 7 = .ok (.getfield 56, 3) := by decide +kernel
theorem dX8_firstClash_10 : decode cX8_firstClash 10 = .ok (.if_icmp .ge 46, 3) := by decide +kernel
theorem dX8_firstClash_13 : decode cX8_firstClash 13 = .ok (.iload_n 1, 1) := by decide +kernel
theorem dX8_firstClash_14 : decode cX8_firstClash 14 = .ok (.iconst 1, 1) := by decide +kernel
theorem dX8_firstClash_15 : decode cX8_firstClash 15 = .ok (.iadd, 1) := by decide +kernel
theorem dX8_firstClash_16 : decode cX8_firstClash 16 = .ok (.istore_n 2, 1) := by decide +kernel
theorem dX8_firstClash_17 : decode cX8_firstClash 17 = .ok (.iload_n 2, 1) := by decide +kernel
theorem dX8_firstClash_18 : decode cX8_firstClash 18 = .ok (.aload_n 0, 1) := by decide +kernel
theorem dX8_firstClash_19 : decode cX8_firstClash 19 = .ok (.getfield 9, 3) := by decide +kernel
theorem dX8_firstClash_22 : decode cX8_firstClash 22 = .ok (.getfield 56, 3) := by decide +kernel
theorem dX8_firstClash_25 : decode cX8_firstClash 25 = .ok (.if_icmp .ge 25, 3) := by decide +kernel
theorem dX8_firstClash_28 : decode cX8_firstClash 28 = .ok (.aload_n 0, 1) := by decide +kernel
theorem dX8_firstClash_29 : decode cX8_firstClash 29 = .ok (.iload_n 1, 1) := by decide +kernel
theorem dX8_firstClash_30 : decode cX8_firstClash 30 = .ok (.iload_n 2, 1) := by decide +kernel
theorem dX8_firstClash_31 : decode cX8_firstClash 31 = .ok (.invokevirtual 101, 3) := by decide +kernel
theorem dX8_firstClash_34 : decode cX8_firstClash 34 = .ok (.ifCond .eq 10, 3) := by decide +kernel
theorem dX8_firstClash_37 : decode cX8_firstClash 37 = .ok (.bipush 100, 2) := by decide +kernel
theorem dX8_firstClash_39 : decode cX8_firstClash 39 = .ok (.iload_n 1, 1) := by decide +kernel
theorem dX8_firstClash_40 : decode cX8_firstClash 40 = .ok (.imul, 1) := by decide +kernel
theorem dX8_firstClash_41 : decode cX8_firstClash 41 = .ok (.iload_n 2, 1) := by decide +kernel
theorem dX8_firstClash_42 : decode cX8_firstClash 42 = .ok (.iadd, 1) := by decide +kernel
theorem dX8_firstClash_43 : decode cX8_firstClash 43 = .ok (.ireturn, 1) := by decide +kernel
theorem dX8_firstClash_44 : decode cX8_firstClash 44 = .ok (.iinc 2 1, 3) := by decide +kernel
theorem dX8_firstClash_47 : decode cX8_firstClash 47 = .ok (.goto (-30), 3) := by decide +kernel
theorem dX8_firstClash_50 : decode cX8_firstClash 50 = .ok (.iinc 1 1, 3) := by decide +kernel
theorem dX8_firstClash_53 : decode cX8_firstClash 53 = .ok (.goto (-51), 3) := by decide +kernel
theorem dX8_firstClash_56 : decode cX8_firstClash 56 = .ok (.bipush (-6), 2) := by decide +kernel
theorem dX8_firstClash_58 : decode cX8_firstClash 58 = .ok (.ireturn, 1) := by decide +kernel
theorem dX8_areRespeltAlike_0 : decode cX8_areRespeltAlike 0 = .ok (.aload_n 0, 1) := by decide +kernel
theorem dX8_areRespeltAlike_1 : decode cX8_areRespeltAlike 1 = .ok (.getfield 9, 3) := by decide +kernel
theorem dX8_areRespeltAlike_4 : decode cX8_areRespeltAlike 4 = .ok (.getfield 62, 3) := by decide +kernel
theorem dX8_areRespeltAlike_7 : decode cX8_areRespeltAlike 7 = .ok (.iload_n 1, 1) := by decide +kernel
theorem dX8_areRespeltAlike_8 : decode cX8_areRespeltAlike 8 = .ok (.iaload, 1) := by decide +kernel
theorem dX8_areRespeltAlike_9 : decode cX8_areRespeltAlike 9 = .ok (.aload_n 0, 1) := by decide +kernel
theorem dX8_areRespeltAlike_10 : decode cX8_areRespeltAlike 10 = .ok (.getfield 9, 3) := by decide +kernel
theorem dX8_areRespeltAlike_13 : decode cX8_areRespeltAlike 13 = .ok (.getfield 62, 3) := by decide +kernel
theorem dX8_areRespeltAlike_16 : decode cX8_areRespeltAlike 16 = .ok (.iload_n 2, 1) := by decide +kernel
theorem dX8_areRespeltAlike_17 : decode cX8_areRespeltAlike 17 = .ok (.iaload, 1) := by decide +kernel
theorem dX8_areRespeltAlike_18 : decode cX8_areRespeltAlike 18 = .ok (.if_icmp .eq 5, 3) := by decide +kernel
theorem dX8_areRespeltAlike_21 : decode cX8_areRespeltAlike 21 = .ok (.iconst 0, 1) := by decide +kernel
theorem dX8_areRespeltAlike_22 : decode cX8_areRespeltAlike 22 = .ok (.ireturn, 1) := by decide +kernel
theorem dX8_areRespeltAlike_23 : decode cX8_areRespeltAlike 23 = .ok (.iconst 0, 1) := by decide +kernel
theorem dX8_areRespeltAlike_24 : decode cX8_areRespeltAlike 24 = .ok (.istore_n 3, 1) := by decide +kernel
theorem dX8_areRespeltAlike_25 : decode cX8_areRespeltAlike 25 = .ok (.iload_n 3, 1) := by decide +kernel
theorem dX8_areRespeltAlike_26 : decode cX8_areRespeltAlike 26 = .ok (.aload_n 0, 1) := by decide +kernel
theorem dX8_areRespeltAlike_27 : decode cX8_areRespeltAlike 27 = .ok (.getfield 9, 3) := by decide +kernel
theorem dX8_areRespeltAlike_30 : decode cX8_areRespeltAlike 30 = .ok (.getfield 62, 3) := by decide +kernel
theorem dX8_areRespeltAlike_33 : decode cX8_areRespeltAlike 33 = .ok (.iload_n 1, 1) := by decide +kernel
theorem dX8_areRespeltAlike_34 : decode cX8_areRespeltAlike 34 = .ok (.iaload, 1) := by decide +kernel
theorem dX8_areRespeltAlike_35 : decode cX8_areRespeltAlike 35 = .ok (.if_icmp .ge 26, 3) := by decide +kernel
theorem dX8_areRespeltAlike_38 : decode cX8_areRespeltAlike 38 = .ok (.aload_n 0, 1) := by decide +kernel
theorem dX8_areRespeltAlike_39 : decode cX8_areRespeltAlike 39 = .ok (.iload_n 1, 1) := by decide +kernel
theorem dX8_areRespeltAlike_40 : decode cX8_areRespeltAlike 40 = .ok (.iload_n 3, 1) := by decide +kernel
theorem dX8_areRespeltAlike_41 : decode cX8_areRespeltAlike 41 = .ok (.invokevirtual 98, 3) := by decide +kernel
theorem dX8_areRespeltAlike_44 : decode cX8_areRespeltAlike 44 = .ok (.aload_n 0, 1) := by decide +kernel
theorem dX8_areRespeltAlike_45 : decode cX8_areRespeltAlike 45 = .ok (.iload_n 2, 1) := by decide +kernel
theorem dX8_areRespeltAlike_46 : decode cX8_areRespeltAlike 46 = .ok (.iload_n 3, 1) := by decide +kernel
theorem dX8_areRespeltAlike_47 : decode cX8_areRespeltAlike 47 = .ok (.invokevirtual 98, 3) := by decide +kernel
theorem dX8_areRespeltAlike_50 : decode cX8_areRespeltAlike 50 = .ok (.if_icmp .eq 5, 3) := by decide +kernel
theorem dX8_areRespeltAlike_53 : decode cX8_areRespeltAlike 53 = .ok (.iconst 0, 1) := by decide +kernel
theorem dX8_areRespeltAlike_54 : decode cX8_areRespeltAlike 54 = .ok (.ireturn, 1) := by decide +kernel
theorem dX8_areRespeltAlike_55 : decode cX8_areRespeltAlike 55 = .ok (.iinc 3 1, 3) := by decide +kernel
theorem dX8_areRespeltAlike_58 : decode cX8_areRespeltAlike 58 = .ok (.goto (-33), 3) := by decide +kernel
theorem dX8_areRespeltAlike_61 : decode cX8_areRespeltAlike 61 = .ok (.iconst 1, 1) := by decide +kernel
theorem dX8_areRespeltAlike_62 : decode cX8_areRespeltAlike 62 = .ok (.ireturn, 1) := by decide +kernel
theorem dX9_init_0 : decode cX9_init 0 = .ok (.aload_n 0, 1) := by decide +kernel
theorem dX9_init_1 : decode cX9_init 1 = .ok (.invokespecial 3, 3) := by decide +kernel
theorem dX9_init_4 : decode cX9_init 4 = .ok (.aload_n 0, 1) := by decide +kernel
theorem dX9_init_5 : decode cX9_init 5 = .ok (.aload_n 1, 1) := by decide +kernel
theorem dX9_init_6 : decode cX9_init 6 = .ok (.putfield 9, 3) := by decide +kernel
theorem dX9_init_9 : decode cX9_init 9 = .ok (.aload_n 0, 1) := by decide +kernel
theorem dX9_init_10 : decode cX9_init 10 = .ok (.aload_n 2, 1) := by decide +kernel
theorem dX9_init_11 : decode cX9_init 11 = .ok (.putfield 15, 3) := by decide +kernel
theorem dX9_init_14 : decode cX9_init 14 = .ok (.aload_n 0, 1) := by decide +kernel
theorem dX9_init_15 : decode cX9_init 15 = .ok (.sipush 1024, 3) := by decide +kernel
theorem dX9_init_18 : decode cX9_init 18 = .ok (.newarray .int, 2) := by decide +kernel
theorem dX9_init_20 : decode cX9_init 20 = .ok (.putfield 19, 3) := by decide +kernel
theorem dX9_init_23 : decode cX9_init 23 = .ok (.aload_n 0, 1) := by decide +kernel
theorem dX9_init_24 : decode cX9_init 24 = .ok (.sipush 1024, 3) := by decide +kernel
theorem dX9_init_27 : decode cX9_init 27 = .ok (.newarray .int, 2) := by decide +kernel
theorem dX9_init_29 : decode cX9_init 29 = .ok (.putfield 23, 3) := by decide +kernel
theorem dX9_init_32 : decode cX9_init 32 = .ok (.aload_n 0, 1) := by decide +kernel
theorem dX9_init_33 : decode cX9_init 33 = .ok (.bipush 10, 2) := by decide +kernel
theorem dX9_init_35 : decode cX9_init 35 = .ok (.newarray .int, 2) := by decide +kernel
theorem dX9_init_37 : decode cX9_init 37 = .ok (.putfield 26, 3) := by decide +kernel
theorem dX9_init_40 : decode cX9_init 40 = .ok (.return_, 1) := by decide +kernel
theorem dX9_findOrder_0 : decode cX9_findOrder 0 = .ok (.aload_n 0, 1) := by decide +kernel
theorem dX9_findOrder_1 : decode cX9_findOrder 1 = .ok (.getfield 29, 3) := by decide +kernel
theorem dX9_findOrder_4 : decode cX9_findOrder 4 = .ok (.ifCond .eq 4, 3) := by decide +kernel
theorem dX9_findOrder_7 : decode cX9_findOrder 7 = .ok (.return_, 1) := by decide +kernel
theorem dX9_findOrder_8 : decode cX9_findOrder 8 = .ok (.aload_n 0, 1) := by decide +kernel
theorem dX9_findOrder_9 : decode cX9_findOrder 9 = .ok (.invokevirtual 33, 3) := by decide +kernel
theorem dX9_findOrder_12 : decode cX9_findOrder 12 = .ok (.aload_n 0, 1) := by decide +kernel
theorem dX9_findOrder_13 : decode cX9_findOrder 13 = .ok (.getfield 23, 3) := by decide +kernel
theorem dX9_findOrder_16 : decode cX9_findOrder 16 = .ok (.sipush 1023, 3) := by decide +kernel
theorem dX9_findOrder_19 : decode cX9_findOrder 19 = .ok (.iconst 0, 1) := by decide +kernel
theorem dX9_findOrder_20 : decode cX9_findOrder 20 = .ok (.iastore, 1) := by decide +kernel
theorem dX9_findOrder_21 : decode cX9_findOrder 21 = .ok (.sipush 1022, 3) := by decide +kernel
theorem dX9_findOrder_24 : decode cX9_findOrder 24 = .ok (.istore_n 1, 1) := by decide +kernel
theorem dX9_findOrder_25 : decode cX9_findOrder 25 = .ok (.iload_n 1, 1) := by decide +kernel
theorem dX9_findOrder_26 : decode cX9_findOrder 26 = .ok (.ifCond .lt 20, 3) := by decide +kernel
theorem dX9_findOrder_29 : decode cX9_findOrder 29 = .ok (.aload_n 0, 1) := by decide +kernel
theorem dX9_findOrder_30 : decode cX9_findOrder 30 = .ok (.getfield 23, 3) := by decide +kernel
theorem dX9_findOrder_33 : decode cX9_findOrder 33 = .ok (.iload_n 1, 1) := by decide +kernel
theorem dX9_findOrder_34 : decode cX9_findOrder 34 = .ok (.aload_n 0, 1) := by decide +kernel
theorem dX9_findOrder_35 : decode cX9_findOrder 35 = .ok (.iload_n 1, 1) := by decide +kernel
theorem dX9_findOrder_36 : decode cX9_findOrder 36 = .ok (.invokevirtual 36, 3) := by decide +kernel
theorem dX9_findOrder_39 : decode cX9_findOrder 39 = .ok (.iastore, 1) := by decide +kernel
theorem dX9_findOrder_40 : decode cX9_findOrder 40 = .ok (.iinc 1 (-1), 3) := by decide +kernel
theorem dX9_findOrder_43 : decode cX9_findOrder 43 = .ok (.goto (-18), 3) := by decide +kernel
theorem dX9_findOrder_46 : decode cX9_findOrder 46 = .ok (.aload_n 0, 1) := by decide +kernel
theorem dX9_findOrder_47 : decode cX9_findOrder 47 = .ok (.aload_n 0, 1) := by decide +kernel
theorem dX9_findOrder_48 : decode cX9_findOrder 48 = .ok (.getfield 23, 3) := by decide +kernel
theorem dX9_findOrder_51 : decode cX9_findOrder 51 = .ok (.iconst 0, 1) := by decide +kernel
theorem dX9_findOrder_52 : decode cX9_findOrder 52 = .ok (.iaload, 1) := by decide +kernel
theorem dX9_findOrder_53 : decode cX9_findOrder 53 = .ok (.putfield 40, 3) := by decide +kernel
theorem dX9_findOrder_56 : decode cX9_findOrder 56 = .ok (.aload_n 0, 1) := by decide +kernel
theorem dX9_findOrder_57 : decode cX9_findOrder 57 = .ok (.invokevirtual 44, 3) := by decide +kernel
theorem dX9_findOrder_60 : decode cX9_findOrder 60 = .ok (.aload_n 0, 1) := by decide +kernel
theorem dX9_findOrder_61 : decode cX9_findOrder 61 = .ok (.iconst 1, 1) := by decide +kernel
theorem dX9_findOrder_62 : decode cX9_findOrder 62 = .ok (.putfield 29, 3) := by decide +kernel
theorem dX9_findOrder_65 : decode cX9_findOrder 65 = .ok (.return_, 1) := by decide +kernel
theorem dX9_bestAhead_0 : decode cX9_bestAhead 0 = .ok (.iconst 0, 1) := by decide +kernel
theorem dX9_bestAhead_1 : decode cX9_bestAhead 1 = .ok (.istore_n 2, 1) := by decide +kernel
theorem dX9_bestAhead_2 : decode cX9_bestAhead 2 = .ok (.iconst 0, 1) := by decide +kernel
theorem dX9_bestAhead_3 : decode cX9_bestAhead 3 = .ok (.istore_n 3, 1) := by decide +kernel
theorem dX9_bestAhead_4 : decode cX9_bestAhead 4 = .ok (.iload_n 3, 1) := by decide +kernel
theorem dX9_bestAhead_5 : decode cX9_bestAhead 5 = .ok (.bipush 10, 2) := by decide +kernel
theorem dX9_bestAhead_7 : decode cX9_bestAhead 7 = .ok (.if_icmp .ge 42, 3) := by decide +kernel
theorem dX9_bestAhead_10 : decode cX9_bestAhead 10 = .ok (.iload_n 1, 1) := by decide +kernel
theorem dX9_bestAhead_11 : decode cX9_bestAhead 11 = .ok (.iconst 1, 1) := by decide +kernel
theorem dX9_bestAhead_12 : decode cX9_bestAhead 12 = .ok (.iload_n 3, 1) := by decide +kernel
theorem dX9_bestAhead_13 : decode cX9_bestAhead 13 = .ok (.ishl, 1) := by decide +kernel
theorem dX9_bestAhead_14 : decode cX9_bestAhead 14 = .ok (.ior, 1) := by decide +kernel
theorem dX9_bestAhead_15 : decode cX9_bestAhead 15 = .ok (.istore 4, 2) := by decide +kernel
theorem dX9_bestAhead_17 : decode cX9_bestAhead 17 = .ok (.iload 4, 2) := by decide +kernel
theorem dX9_bestAhead_19 : decode cX9_bestAhead 19 = .ok (.iload_n 1, 1) := by decide +kernel
theorem dX9_bestAhead_20 : decode cX9_bestAhead 20 = .ok (.if_icmp .eq 23, 3) := by decide +kernel
theorem dX9_bestAhead_23 : decode cX9_bestAhead 23 = .ok (.iload_n 2, 1) := by decide +kernel
theorem dX9_bestAhead_24 : decode cX9_bestAhead 24 = .ok (.aload_n 0, 1) := by decide +kernel
theorem dX9_bestAhead_25 : decode cX9_bestAhead 25 = .ok (.getfield 19, 3) := by decide +kernel
theorem dX9_bestAhead_28 : decode cX9_bestAhead 28 = .ok (.iload 4, 2) := by decide +kernel
theorem dX9_bestAhead_30 : decode cX9_bestAhead 30 = .ok (.iaload, 1) := by decide +kernel
theorem dX9_bestAhead_31 : decode cX9_bestAhead 31 = .ok (.aload_n 0, 1) := by decide +kernel
theorem dX9_bestAhead_32 : decode cX9_bestAhead 32 = .ok (.getfield 23, 3) := by decide +kernel
theorem dX9_bestAhead_35 : decode cX9_bestAhead 35 = .ok (.iload 4, 2) := by decide +kernel
theorem dX9_bestAhead_37 : decode cX9_bestAhead 37 = .ok (.iaload, 1) := by decide +kernel
theorem dX9_bestAhead_38 : decode cX9_bestAhead 38 = .ok (.iadd, 1) := by decide +kernel
theorem dX9_bestAhead_39 : decode cX9_bestAhead 39 = .ok (.invokestatic 47, 3) := by decide +kernel
theorem dX9_bestAhead_42 : decode cX9_bestAhead 42 = .ok (.istore_n 2, 1) := by decide +kernel
theorem dX9_bestAhead_43 : decode cX9_bestAhead 43 = .ok (.iinc 3 1, 3) := by decide +kernel
theorem dX9_bestAhead_46 : decode cX9_bestAhead 46 = .ok (.goto (-42), 3) := by decide +kernel
theorem dX9_bestAhead_49 : decode cX9_bestAhead 49 = .ok (.iload_n 2, 1) := by decide +kernel
theorem dX9_bestAhead_50 : decode cX9_bestAhead 50 = .ok (.ireturn, 1) := by decide +kernel
theorem dX9_weighSets_0 : decode cX9_weighSets 0 = .ok (.aload_n 0, 1) := by decide +kernel
theorem dX9_weighSets_1 : decode cX9_weighSets 1 = .ok (.getfield 19, 3) := by decide +kernel
theorem dX9_weighSets_4 : decode cX9_weighSets 4 = .ok (.iconst 0, 1) := by decide +kernel
theorem dX9_weighSets_5 : decode cX9_weighSets 5 = .ok (.invokestatic 53, 3) := by decide +kernel
theorem dX9_weighSets_8 : decode cX9_weighSets 8 = .ok (.iconst 0, 1) := by decide +kernel
theorem dX9_weighSets_9 : decode cX9_weighSets 9 = .ok (.istore_n 1, 1) := by decide +kernel
theorem dX9_weighSets_10 : decode cX9_weighSets 10 = .ok (.iload_n 1, 1) := by decide +kernel
theorem dX9_weighSets_11 : decode cX9_weighSets 11 = .ok (.aload_n 0, 1) := by decide +kernel
theorem dX9_weighSets_12 : decode cX9_weighSets 12 = .ok (.getfield 9, 3) := by decide +kernel
theorem dX9_weighSets_15 : decode cX9_weighSets 15 = .ok (.getfield 59, 3) := by decide +kernel
theorem dX9_weighSets_18 : decode cX9_weighSets 18 = .ok (.if_icmp .ge 46, 3) := by decide +kernel
theorem dX9_weighSets_21 : decode cX9_weighSets 21 = .ok (.aload_n 0, 1) := by decide +kernel
theorem dX9_weighSets_22 : decode cX9_weighSets 22 = .ok (.getfield 15, 3) := by decide +kernel
theorem dX9_weighSets_25 : decode cX9_weighSets 25 = .ok (.iload_n 1, 1) := by decide +kernel
theorem dX9_weighSets_26 : decode cX9_weighSets 26 = .ok (.invokevirtual 64, 3) := by decide +kernel
theorem dX9_weighSets_29 : decode cX9_weighSets 29 = .ok (.ifCond .eq 29, 3) := by decide +kernel
theorem dX9_weighSets_32 : decode cX9_weighSets 32 = .ok (.aload_n 0, 1) := by decide +kernel
theorem dX9_weighSets_33 : decode cX9_weighSets 33 = .ok (.getfield 19, 3) := by decide +kernel
theorem dX9_weighSets_36 : decode cX9_weighSets 36 = .ok (.aload_n 0, 1) := by decide +kernel
theorem dX9_weighSets_37 : decode cX9_weighSets 37 = .ok (.getfield 9, 3) := by decide +kernel
theorem dX9_weighSets_40 : decode cX9_weighSets 40 = .ok (.getfield 70, 3) := by decide +kernel
theorem dX9_weighSets_43 : decode cX9_weighSets 43 = .ok (.iload_n 1, 1) := by decide +kernel
theorem dX9_weighSets_44 : decode cX9_weighSets 44 = .ok (.iaload, 1) := by decide +kernel
theorem dX9_weighSets_45 : decode cX9_weighSets 45 = .ok (.dup2, 1) := by decide +kernel
theorem dX9_weighSets_46 : decode cX9_weighSets 46 = .ok (.iaload, 1) := by decide +kernel
theorem dX9_weighSets_47 : decode cX9_weighSets 47 = .ok (.aload_n 0, 1) := by decide +kernel
theorem dX9_weighSets_48 : decode cX9_weighSets 48 = .ok (.getfield 9, 3) := by decide +kernel
theorem dX9_weighSets_51 : decode cX9_weighSets 51 = .ok (.getfield 73, 3) := by decide +kernel
theorem dX9_weighSets_54 : decode cX9_weighSets 54 = .ok (.iload_n 1, 1) := by decide +kernel
theorem dX9_weighSets_55 : decode cX9_weighSets 55 = .ok (.iaload, 1) := by decide +kernel
theorem dX9_weighSets_56 : decode cX9_weighSets 56 = .ok (.iadd, 1) := by decide +kernel
theorem dX9_weighSets_57 : decode cX9_weighSets 57 = .ok (.iastore, 1) := by decide +kernel
theorem dX9_weighSets_58 : decode cX9_weighSets 58 = .ok (.iinc 1 1, 3) := by decide +kernel
theorem dX9_weighSets_61 : decode cX9_weighSets 61 = .ok (.goto (-51), 3) := by decide +kernel
theorem dX9_weighSets_64 : decode cX9_weighSets 64 = .ok (.aload_n 0, 1) := by decide +kernel
theorem dX9_weighSets_65 : decode cX9_weighSets 65 = .ok (.getfield 19, 3) := by decide +kernel
theorem dX9_weighSets_68 : decode cX9_weighSets 68 = .ok (.invokestatic 76, 3) := by decide +kernel
theorem dX9_weighSets_71 : decode cX9_weighSets 71 = .ok (.return_, 1) := by decide +kernel
theorem dX9_pickOrder_0 : decode cX9_pickOrder 0 = .ok (.iconst 0, 1) := by decide +kernel
theorem dX9_pickOrder_1 : decode cX9_pickOrder 1 = .ok (.istore_n 1, 1) := by decide +kernel
theorem dX9_pickOrder_2 : decode cX9_pickOrder 2 = .ok (.iconst 0, 1) := by decide +kernel
theorem dX9_pickOrder_3 : decode cX9_pickOrder 3 = .ok (.istore_n 2, 1) := by decide +kernel
theorem dX9_pickOrder_4 : decode cX9_pickOrder 4 = .ok (.iload_n 2, 1) := by decide +kernel
theorem dX9_pickOrder_5 : decode cX9_pickOrder 5 = .ok (.bipush 10, 2) := by decide +kernel
theorem dX9_pickOrder_7 : decode cX9_pickOrder 7 = .ok (.if_icmp .ge 28, 3) := by decide +kernel
theorem dX9_pickOrder_10 : decode cX9_pickOrder 10 = .ok (.aload_n 0, 1) := by decide +kernel
theorem dX9_pickOrder_11 : decode cX9_pickOrder 11 = .ok (.iload_n 1, 1) := by decide +kernel
theorem dX9_pickOrder_12 : decode cX9_pickOrder 12 = .ok (.invokevirtual 80, 3) := by decide +kernel
theorem dX9_pickOrder_15 : decode cX9_pickOrder 15 = .ok (.istore_n 3, 1) := by decide +kernel
theorem dX9_pickOrder_16 : decode cX9_pickOrder 16 = .ok (.aload_n 0, 1) := by decide +kernel
theorem dX9_pickOrder_17 : decode cX9_pickOrder 17 = .ok (.getfield 26, 3) := by decide +kernel
theorem dX9_pickOrder_20 : decode cX9_pickOrder 20 = .ok (.iload_n 2, 1) := by decide +kernel
theorem dX9_pickOrder_21 : decode cX9_pickOrder 21 = .ok (.iload_n 3, 1) := by decide +kernel
theorem dX9_pickOrder_22 : decode cX9_pickOrder 22 = .ok (.iastore, 1) := by decide +kernel
theorem dX9_pickOrder_23 : decode cX9_pickOrder 23 = .ok (.iload_n 1, 1) := by decide +kernel
theorem dX9_pickOrder_24 : decode cX9_pickOrder 24 = .ok (.iconst 1, 1) := by decide +kernel
theorem dX9_pickOrder_25 : decode cX9_pickOrder 25 = .ok (.iload_n 3, 1) := by decide +kernel
theorem dX9_pickOrder_26 : decode cX9_pickOrder 26 = .ok (.ishl, 1) := by decide +kernel
theorem dX9_pickOrder_27 : decode cX9_pickOrder 27 = .ok (.ior, 1) := by decide +kernel
theorem dX9_pickOrder_28 : decode cX9_pickOrder 28 = .ok (.istore_n 1, 1) := by decide +kernel
theorem dX9_pickOrder_29 : decode cX9_pickOrder 29 = .ok (.iinc 2 1, 3) := by decide +kernel
theorem dX9_pickOrder_32 : decode cX9_pickOrder 32 = .ok (.goto (-28), 3) := by decide +kernel
theorem dX9_pickOrder_35 : decode cX9_pickOrder 35 = .ok (.return_, 1) := by decide +kernel
theorem dX9_nextSign_0 : decode cX9_nextSign 0 = .ok (.iconst 0, 1) := by decide +kernel
theorem dX9_nextSign_1 : decode cX9_nextSign 1 = .ok (.istore_n 2, 1) := by decide +kernel
theorem dX9_nextSign_2 : decode cX9_nextSign 2 = .ok (.iload_n 2, 1) := by decide +kernel
theorem dX9_nextSign_3 : decode cX9_nextSign 3 = .ok (.bipush 10, 2) := by decide +kernel
theorem dX9_nextSign_5 : decode cX9_nextSign 5 = .ok (.if_icmp .ge 44, 3) := by decide +kernel
theorem dX9_nextSign_8 : decode cX9_nextSign 8 = .ok (.iload_n 1, 1) := by decide +kernel
theorem dX9_nextSign_9 : decode cX9_nextSign 9 = .ok (.iconst 1, 1) := by decide +kernel
theorem dX9_nextSign_10 : decode cX9_nextSign 10 = .ok (.iload_n 2, 1) := by decide +kernel
theorem dX9_nextSign_11 : decode cX9_nextSign 11 = .ok (.ishl, 1) := by decide +kernel
theorem dX9_nextSign_12 : decode cX9_nextSign 12 = .ok (.ior, 1) := by decide +kernel
theorem dX9_nextSign_13 : decode cX9_nextSign 13 = .ok (.istore_n 3, 1) := by decide +kernel
theorem dX9_nextSign_14 : decode cX9_nextSign 14 = .ok (.iload_n 3, 1) := by decide +kernel
theorem dX9_nextSign_15 : decode cX9_nextSign 15 = .ok (.iload_n 1, 1) := by decide +kernel
theorem dX9_nextSign_16 : decode cX9_nextSign 16 = .ok (.if_icmp .eq 27, 3) := by decide +kernel
theorem dX9_nextSign_19 : decode cX9_nextSign 19 = .ok (.aload_n 0, 1) := by decide +kernel
theorem dX9_nextSign_20 : decode cX9_nextSign 20 = .ok (.getfield 19, 3) := by decide +kernel
theorem dX9_nextSign_23 : decode cX9_nextSign 23 = .ok (.iload_n 3, 1) := by decide +kernel
theorem dX9_nextSign_24 : decode cX9_nextSign 24 = .ok (.iaload, 1) := by decide +kernel
theorem dX9_nextSign_25 : decode cX9_nextSign 25 = .ok (.aload_n 0, 1) := by decide +kernel
theorem dX9_nextSign_26 : decode cX9_nextSign 26 = .ok (.getfield 23, 3) := by decide +kernel
theorem dX9_nextSign_29 : decode cX9_nextSign 29 = .ok (.iload_n 3, 1) := by decide +kernel
theorem dX9_nextSign_30 : decode cX9_nextSign 30 = .ok (.iaload, 1) := by decide +kernel
theorem dX9_nextSign_31 : decode cX9_nextSign 31 = .ok (.iadd, 1) := by decide +kernel
theorem dX9_nextSign_32 : decode cX9_nextSign 32 = .ok (.aload_n 0, 1) := by decide +kernel
theorem dX9_nextSign_33 : decode cX9_nextSign 33 = .ok (.getfield 23, 3) := by decide +kernel
theorem dX9_nextSign_36 : decode cX9_nextSign 36 = .ok (.iload_n 1, 1) := by decide +kernel
theorem dX9_nextSign_37 : decode cX9_nextSign 37 = .ok (.iaload, 1) := by decide +kernel
theorem dX9_nextSign_38 : decode cX9_nextSign 38 = .ok (.if_icmp .ne 5, 3) := by decide +kernel
theorem dX9_nextSign_41 : decode cX9_nextSign 41 = .ok (.iload_n 2, 1) := by decide +kernel
theorem dX9_nextSign_42 : decode cX9_nextSign 42 = .ok (.ireturn, 1) := by decide +kernel
theorem dX9_nextSign_43 : decode cX9_nextSign 43 = .ok (.iinc 2 1, 3) := by decide +kernel
theorem dX9_nextSign_46 : decode cX9_nextSign 46 = .ok (.goto (-44), 3) := by decide +kernel
theorem dX9_nextSign_49 : decode cX9_nextSign 49 = .ok (.iconst 0, 1) := by decide +kernel
theorem dX9_nextSign_50 : decode cX9_nextSign 50 = .ok (.ireturn, 1) := by decide +kernel
theorem dX9_bestSigns_0 : decode cX9_bestSigns 0 = .ok (.iconst (-1), 1) := by decide +kernel
theorem dX9_bestSigns_1 : decode cX9_bestSigns 1 = .ok (.istore_n 3, 1) := by decide +kernel
theorem dX9_bestSigns_2 : decode cX9_bestSigns 2 = .ok (.iconst 0, 1) := by decide +kernel
theorem dX9_bestSigns_3 : decode cX9_bestSigns 3 = .ok (.istore 4, 2) := by decide +kernel
theorem dX9_bestSigns_5 : decode cX9_bestSigns 5 = .ok (.iconst 0, 1) := by decide +kernel
theorem dX9_bestSigns_6 : decode cX9_bestSigns 6 = .ok (.istore 5, 2) := by decide +kernel
theorem dX9_bestSigns_8 : decode cX9_bestSigns 8 = .ok (.iload 5, 2) := by decide +kernel
theorem dX9_bestSigns_10 : decode cX9_bestSigns 10 = .ok (.sipush 1024, 3) := by decide +kernel
theorem dX9_bestSigns_13 : decode cX9_bestSigns 13 = .ok (.if_icmp .ge 40, 3) := by decide +kernel
theorem dX9_bestSigns_16 : decode cX9_bestSigns 16 = .ok (.iload 5, 2) := by decide +kernel
theorem dX9_bestSigns_18 : decode cX9_bestSigns 18 = .ok (.invokestatic 83, 3) := by decide +kernel
theorem dX9_bestSigns_21 : decode cX9_bestSigns 21 = .ok (.iload_n 1, 1) := by decide +kernel
theorem dX9_bestSigns_22 : decode cX9_bestSigns 22 = .ok (.if_icmp .ne 25, 3) := by decide +kernel
theorem dX9_bestSigns_25 : decode cX9_bestSigns 25 = .ok (.aload_n 0, 1) := by decide +kernel
theorem dX9_bestSigns_26 : decode cX9_bestSigns 26 = .ok (.iload 5, 2) := by decide +kernel
theorem dX9_bestSigns_28 : decode cX9_bestSigns 28 = .ok (.iload_n 2, 1) := by decide +kernel
theorem dX9_bestSigns_29 : decode cX9_bestSigns 29 = .ok (.invokevirtual 88, 3) := by decide +kernel
theorem dX9_bestSigns_32 : decode cX9_bestSigns 32 = .ok (.istore 6, 2) := by decide +kernel
theorem dX9_bestSigns_34 : decode cX9_bestSigns 34 = .ok (.iload 6, 2) := by decide +kernel
theorem dX9_bestSigns_36 : decode cX9_bestSigns 36 = .ok (.iload_n 3, 1) := by decide +kernel
theorem dX9_bestSigns_37 : decode cX9_bestSigns 37 = .ok (.if_icmp .le 10, 3) := by decide +kernel
theorem dX9_bestSigns_40 : decode cX9_bestSigns 40 = .ok (.iload 6, 2) := by decide +kernel
theorem dX9_bestSigns_42 : decode cX9_bestSigns 42 = .ok (.istore_n 3, 1) := by decide +kernel
theorem dX9_bestSigns_43 : decode cX9_bestSigns 43 = .ok (.iload 5, 2) := by decide +kernel
theorem dX9_bestSigns_45 : decode cX9_bestSigns 45 = .ok (.istore 4, 2) := by decide +kernel
theorem dX9_bestSigns_47 : decode cX9_bestSigns 47 = .ok (.iinc 5 1, 3) := by decide +kernel
theorem dX9_bestSigns_50 : decode cX9_bestSigns 50 = .ok (.goto (-42), 3) := by decide +kernel
theorem dX9_bestSigns_53 : decode cX9_bestSigns 53 = .ok (.iload 4, 2) := by decide +kernel
theorem dX9_bestSigns_55 : decode cX9_bestSigns 55 = .ok (.ireturn, 1) := by decide +kernel
theorem dX9_worthWith_0 : decode cX9_worthWith 0 = .ok (.iconst 0, 1) := by decide +kernel
theorem dX9_worthWith_1 : decode cX9_worthWith 1 = .ok (.istore_n 3, 1) := by decide +kernel
theorem dX9_worthWith_2 : decode cX9_worthWith 2 = .ok (.iload_n 2, 1) := by decide +kernel
theorem dX9_worthWith_3 : decode cX9_worthWith 3 = .ok (.istore 4, 2) := by decide +kernel
theorem dX9_worthWith_5 : decode cX9_worthWith 5 = .ok (.iconst 0, 1) := by decide +kernel
theorem dX9_worthWith_6 : decode cX9_worthWith 6 = .ok (.istore 5, 2) := by decide +kernel
theorem dX9_worthWith_8 : decode cX9_worthWith 8 = .ok (.iload 5, 2) := by decide +kernel
theorem dX9_worthWith_10 : decode cX9_worthWith 10 = .ok (.aload_n 0, 1) := by decide +kernel
theorem dX9_worthWith_11 : decode cX9_worthWith 11 = .ok (.getfield 9, 3) := by decide +kernel
theorem dX9_worthWith_14 : decode cX9_worthWith 14 = .ok (.getfield 59, 3) := by decide +kernel
theorem dX9_worthWith_17 : decode cX9_worthWith 17 = .ok (.if_icmp .ge 71, 3) := by decide +kernel
theorem dX9_worthWith_20 : decode cX9_worthWith 20 = .ok (.aload_n 0, 1) := by decide +kernel
theorem dX9_worthWith_21 : decode cX9_worthWith 21 = .ok (.getfield 15, 3) := by decide +kernel
theorem dX9_worthWith_24 : decode cX9_worthWith 24 = .ok (.getfield 91, 3) := by decide +kernel
theorem dX9_worthWith_27 : decode cX9_worthWith 27 = .ok (.iload 5, 2) := by decide +kernel
theorem dX9_worthWith_29 : decode cX9_worthWith 29 = .ok (.iaload, 1) := by decide +kernel
theorem dX9_worthWith_30 : decode cX9_worthWith 30 = .ok (.istore 6, 2) := by decide +kernel
theorem dX9_worthWith_32 : decode cX9_worthWith 32 = .ok (.aload_n 0, 1) := by decide +kernel
theorem dX9_worthWith_33 : decode cX9_worthWith 33 = .ok (.getfield 15, 3) := by decide +kernel
theorem dX9_worthWith_36 : decode cX9_worthWith 36 = .ok (.iload 6, 2) := by decide +kernel
theorem dX9_worthWith_38 : decode cX9_worthWith 38 = .ok (.iload_n 1, 1) := by decide +kernel
theorem dX9_worthWith_39 : decode cX9_worthWith 39 = .ok (.invokevirtual 94, 3) := by decide +kernel
theorem dX9_worthWith_42 : decode cX9_worthWith 42 = .ok (.ifCond .eq 19, 3) := by decide +kernel
theorem dX9_worthWith_45 : decode cX9_worthWith 45 = .ok (.iload_n 3, 1) := by decide +kernel
theorem dX9_worthWith_46 : decode cX9_worthWith 46 = .ok (.aload_n 0, 1) := by decide +kernel
theorem dX9_worthWith_47 : decode cX9_worthWith 47 = .ok (.getfield 9, 3) := by decide +kernel
theorem dX9_worthWith_50 : decode cX9_worthWith 50 = .ok (.getfield 73, 3) := by decide +kernel
theorem dX9_worthWith_53 : decode cX9_worthWith 53 = .ok (.iload 6, 2) := by decide +kernel
theorem dX9_worthWith_55 : decode cX9_worthWith 55 = .ok (.iaload, 1) := by decide +kernel
theorem dX9_worthWith_56 : decode cX9_worthWith 56 = .ok (.iadd, 1) := by decide +kernel
theorem dX9_worthWith_57 : decode cX9_worthWith 57 = .ok (.istore_n 3, 1) := by decide +kernel
theorem dX9_worthWith_58 : decode cX9_worthWith 58 = .ok (.goto 24, 3) := by decide +kernel
theorem dX9_worthWith_61 : decode cX9_worthWith 61 = .ok (.iload 4, 2) := by decide +kernel
theorem dX9_worthWith_63 : decode cX9_worthWith 63 = .ok (.ifCond .le 19, 3) := by decide +kernel
theorem dX9_worthWith_66 : decode cX9_worthWith 66 = .ok (.iload_n 3, 1) := by decide +kernel
theorem dX9_worthWith_67 : decode cX9_worthWith 67 = .ok (.aload_n 0, 1) := by decide +kernel
theorem dX9_worthWith_68 : decode cX9_worthWith 68 = .ok (.getfield 9, 3) := by decide +kernel
theorem dX9_worthWith_71 : decode cX9_worthWith 71 = .ok (.getfield 73, 3) := by decide +kernel
theorem dX9_worthWith_74 : decode cX9_worthWith 74 = .ok (.iload 6, 2) := by decide +kernel
theorem dX9_worthWith_76 : decode cX9_worthWith 76 = .ok (.iaload, 1) := by decide +kernel
theorem dX9_worthWith_77 : decode cX9_worthWith 77 = .ok (.iadd, 1) := by decide +kernel
theorem dX9_worthWith_78 : decode cX9_worthWith 78 = .ok (.istore_n 3, 1) := by decide +kernel
theorem dX9_worthWith_79 : decode cX9_worthWith 79 = .ok (.iinc 4 (-1), 3) := by decide +kernel
theorem dX9_worthWith_82 : decode cX9_worthWith 82 = .ok (.iinc 5 1, 3) := by decide +kernel
theorem dX9_worthWith_85 : decode cX9_worthWith 85 = .ok (.goto (-77), 3) := by decide +kernel
theorem dX9_worthWith_88 : decode cX9_worthWith 88 = .ok (.iload_n 3, 1) := by decide +kernel
theorem dX9_worthWith_89 : decode cX9_worthWith 89 = .ok (.ireturn, 1) := by decide +kernel
theorem dX9_bestWholes_0 : decode cX9_bestWholes 0 = .ok (.iconst 0, 1) := by decide +kernel
theorem dX9_bestWholes_1 : decode cX9_bestWholes 1 = .ok (.istore_n 3, 1) := by decide +kernel
theorem dX9_bestWholes_2 : decode cX9_bestWholes 2 = .ok (.iload_n 2, 1) := by decide +kernel
theorem dX9_bestWholes_3 : decode cX9_bestWholes 3 = .ok (.istore 4, 2) := by decide +kernel
theorem dX9_bestWholes_5 : decode cX9_bestWholes 5 = .ok (.iconst 0, 1) := by decide +kernel
theorem dX9_bestWholes_6 : decode cX9_bestWholes 6 = .ok (.istore 5, 2) := by decide +kernel
theorem dX9_bestWholes_8 : decode cX9_bestWholes 8 = .ok (.iload 5, 2) := by decide +kernel
theorem dX9_bestWholes_10 : decode cX9_bestWholes 10 = .ok (.aload_n 0, 1) := by decide +kernel
theorem dX9_bestWholes_11 : decode cX9_bestWholes 11 = .ok (.getfield 9, 3) := by decide +kernel
theorem dX9_bestWholes_14 : decode cX9_bestWholes 14 = .ok (.getfield 59, 3) := by decide +kernel
theorem dX9_bestWholes_17 : decode cX9_bestWholes 17 = .ok (.if_icmp .ge 49, 3) := by decide +kernel
theorem dX9_bestWholes_20 : decode cX9_bestWholes 20 = .ok (.iload 4, 2) := by decide +kernel
theorem dX9_bestWholes_22 : decode cX9_bestWholes 22 = .ok (.ifCond .le 44, 3) := by decide +kernel
theorem dX9_bestWholes_25 : decode cX9_bestWholes 25 = .ok (.aload_n 0, 1) := by decide +kernel
theorem dX9_bestWholes_26 : decode cX9_bestWholes 26 = .ok (.getfield 15, 3) := by decide +kernel
theorem dX9_bestWholes_29 : decode cX9_bestWholes 29 = .ok (.getfield 91, 3) := by decide +kernel
theorem dX9_bestWholes_32 : decode cX9_bestWholes 32 = .ok (.iload 5, 2) := by decide +kernel
theorem dX9_bestWholes_34 : decode cX9_bestWholes 34 = .ok (.iaload, 1) := by decide +kernel
theorem dX9_bestWholes_35 : decode cX9_bestWholes 35 = .ok (.istore 6, 2) := by decide +kernel
theorem dX9_bestWholes_37 : decode cX9_bestWholes 37 = .ok (.aload_n 0, 1) := by decide +kernel
theorem dX9_bestWholes_38 : decode cX9_bestWholes 38 = .ok (.getfield 15, 3) := by decide +kernel
theorem dX9_bestWholes_41 : decode cX9_bestWholes 41 = .ok (.iload 6, 2) := by decide +kernel
theorem dX9_bestWholes_43 : decode cX9_bestWholes 43 = .ok (.iload_n 1, 1) := by decide +kernel
theorem dX9_bestWholes_44 : decode cX9_bestWholes 44 = .ok (.invokevirtual 94, 3) := by decide +kernel
theorem dX9_bestWholes_47 : decode cX9_bestWholes 47 = .ok (.ifCond .ne 13, 3) := by decide +kernel
theorem dX9_bestWholes_50 : decode cX9_bestWholes 50 = .ok (.iload_n 3, 1) := by decide +kernel
theorem dX9_bestWholes_51 : decode cX9_bestWholes 51 = .ok (.iconst 1, 1) := by decide +kernel
theorem dX9_bestWholes_52 : decode cX9_bestWholes 52 = .ok (.iload 6, 2) := by decide +kernel
theorem dX9_bestWholes_54 : decode cX9_bestWholes 54 = .ok (.ishl, 1) := by decide +kernel
theorem dX9_bestWholes_55 : decode cX9_bestWholes 55 = .ok (.ior, 1) := by decide +kernel
theorem dX9_bestWholes_56 : decode cX9_bestWholes 56 = .ok (.istore_n 3, 1) := by decide +kernel
theorem dX9_bestWholes_57 : decode cX9_bestWholes 57 = .ok (.iinc 4 (-1), 3) := by decide +kernel
theorem dX9_bestWholes_60 : decode cX9_bestWholes 60 = .ok (.iinc 5 1, 3) := by decide +kernel
theorem dX9_bestWholes_63 : decode cX9_bestWholes 63 = .ok (.goto (-55), 3) := by decide +kernel
theorem dX9_bestWholes_66 : decode cX9_bestWholes 66 = .ok (.iload_n 3, 1) := by decide +kernel
theorem dX9_bestWholes_67 : decode cX9_bestWholes 67 = .ok (.ireturn, 1) := by decide +kernel
theorem dX10_init_0 : decode cX10_init 0 = .ok (.aload_n 0, 1) := by decide +kernel
theorem dX10_init_1 : decode cX10_init 1 = .ok (.invokespecial 3, 3) := by decide +kernel
theorem dX10_init_4 : decode cX10_init 4 = .ok (.aload_n 0, 1) := by decide +kernel
theorem dX10_init_5 : decode cX10_init 5 = .ok (.aload_n 1, 1) := by decide +kernel
theorem dX10_init_6 : decode cX10_init 6 = .ok (.putfield 9, 3) := by decide +kernel
theorem dX10_init_9 : decode cX10_init 9 = .ok (.aload_n 0, 1) := by decide +kernel
theorem dX10_init_10 : decode cX10_init 10 = .ok (.sipush 4096, 3) := by decide +kernel
theorem dX10_init_13 : decode cX10_init 13 = .ok (.newarray .int, 2) := by decide +kernel
theorem dX10_init_15 : decode cX10_init 15 = .ok (.putfield 15, 3) := by decide +kernel
theorem dX10_init_18 : decode cX10_init 18 = .ok (.aload_n 0, 1) := by decide +kernel
theorem dX10_init_19 : decode cX10_init 19 = .ok (.bipush 12, 2) := by decide +kernel
theorem dX10_init_21 : decode cX10_init 21 = .ok (.newarray .int, 2) := by decide +kernel
theorem dX10_init_23 : decode cX10_init 23 = .ok (.putfield 19, 3) := by decide +kernel
theorem dX10_init_26 : decode cX10_init 26 = .ok (.aload_n 0, 1) := by decide +kernel
theorem dX10_init_27 : decode cX10_init 27 = .ok (.bipush 12, 2) := by decide +kernel
theorem dX10_init_29 : decode cX10_init 29 = .ok (.newarray .int, 2) := by decide +kernel
theorem dX10_init_31 : decode cX10_init 31 = .ok (.putfield 22, 3) := by decide +kernel
theorem dX10_init_34 : decode cX10_init 34 = .ok (.aload_n 0, 1) := by decide +kernel
theorem dX10_init_35 : decode cX10_init 35 = .ok (.bipush (-6), 2) := by decide +kernel
theorem dX10_init_37 : decode cX10_init 37 = .ok (.putfield 25, 3) := by decide +kernel
theorem dX10_init_40 : decode cX10_init 40 = .ok (.return_, 1) := by decide +kernel
theorem dX10_find_0 : decode cX10_find 0 = .ok (.aload_n 0, 1) := by decide +kernel
theorem dX10_find_1 : decode cX10_find 1 = .ok (.invokevirtual 29, 3) := by decide +kernel
theorem dX10_find_4 : decode cX10_find 4 = .ok (.aload_n 0, 1) := by decide +kernel
theorem dX10_find_5 : decode cX10_find 5 = .ok (.iconst 0, 1) := by decide +kernel
theorem dX10_find_6 : decode cX10_find 6 = .ok (.putfield 32, 3) := by decide +kernel
theorem dX10_find_9 : decode cX10_find 9 = .ok (.iconst 0, 1) := by decide +kernel
theorem dX10_find_10 : decode cX10_find 10 = .ok (.istore_n 2, 1) := by decide +kernel
theorem dX10_find_11 : decode cX10_find 11 = .ok (.iconst 1, 1) := by decide +kernel
theorem dX10_find_12 : decode cX10_find 12 = .ok (.istore_n 3, 1) := by decide +kernel
theorem dX10_find_13 : decode cX10_find 13 = .ok (.iload_n 3, 1) := by decide +kernel
theorem dX10_find_14 : decode cX10_find 14 = .ok (.sipush 4096, 3) := by decide +kernel
theorem dX10_find_17 : decode cX10_find 17 = .ok (.if_icmp .ge 55, 3) := by decide +kernel
theorem dX10_find_20 : decode cX10_find 20 = .ok (.iload_n 2, 1) := by decide +kernel
theorem dX10_find_21 : decode cX10_find 21 = .ok (.iload_n 1, 1) := by decide +kernel
theorem dX10_find_22 : decode cX10_find 22 = .ok (.if_icmp .eq 50, 3) := by decide +kernel
theorem dX10_find_25 : decode cX10_find 25 = .ok (.iload_n 2, 1) := by decide +kernel
theorem dX10_find_26 : decode cX10_find 26 = .ok (.iload_n 1, 1) := by decide +kernel
theorem dX10_find_27 : decode cX10_find 27 = .ok (.invokestatic 35, 3) := by decide +kernel
theorem dX10_find_30 : decode cX10_find 30 = .ok (.istore_n 2, 1) := by decide +kernel
theorem dX10_find_31 : decode cX10_find 31 = .ok (.aload_n 0, 1) := by decide +kernel
theorem dX10_find_32 : decode cX10_find 32 = .ok (.getfield 15, 3) := by decide +kernel
theorem dX10_find_35 : decode cX10_find 35 = .ok (.iload_n 2, 1) := by decide +kernel
theorem dX10_find_36 : decode cX10_find 36 = .ok (.aload_n 0, 1) := by decide +kernel
theorem dX10_find_37 : decode cX10_find 37 = .ok (.iload_n 2, 1) := by decide +kernel
theorem dX10_find_38 : decode cX10_find 38 = .ok (.invokevirtual 39, 3) := by decide +kernel
theorem dX10_find_41 : decode cX10_find 41 = .ok (.iastore, 1) := by decide +kernel
theorem dX10_find_42 : decode cX10_find 42 = .ok (.aload_n 0, 1) := by decide +kernel
theorem dX10_find_43 : decode cX10_find 43 = .ok (.getfield 15, 3) := by decide +kernel
theorem dX10_find_46 : decode cX10_find 46 = .ok (.iload_n 2, 1) := by decide +kernel
theorem dX10_find_47 : decode cX10_find 47 = .ok (.iaload, 1) := by decide +kernel
theorem dX10_find_48 : decode cX10_find 48 = .ok (.ifCond .eq 18, 3) := by decide +kernel
theorem dX10_find_51 : decode cX10_find 51 = .ok (.aload_n 0, 1) := by decide +kernel
theorem dX10_find_52 : decode cX10_find 52 = .ok (.aload_n 0, 1) := by decide +kernel
theorem dX10_find_53 : decode cX10_find 53 = .ok (.getfield 32, 3) := by decide +kernel
theorem dX10_find_56 : decode cX10_find 56 = .ok (.iload_n 2, 1) := by decide +kernel
theorem dX10_find_57 : decode cX10_find 57 = .ok (.invokestatic 43, 3) := by decide +kernel
theorem dX10_find_60 : decode cX10_find 60 = .ok (.invokestatic 48, 3) := by decide +kernel
theorem dX10_find_63 : decode cX10_find 63 = .ok (.putfield 32, 3) := by decide +kernel
theorem dX10_find_66 : decode cX10_find 66 = .ok (.iinc 3 1, 3) := by decide +kernel
theorem dX10_find_69 : decode cX10_find 69 = .ok (.goto (-56), 3) := by decide +kernel
theorem dX10_find_72 : decode cX10_find 72 = .ok (.aload_n 0, 1) := by decide +kernel
theorem dX10_find_73 : decode cX10_find 73 = .ok (.iload_n 1, 1) := by decide +kernel
theorem dX10_find_74 : decode cX10_find 74 = .ok (.invokevirtual 53, 3) := by decide +kernel
theorem dX10_find_77 : decode cX10_find 77 = .ok (.return_, 1) := by decide +kernel
theorem dX10_nextWithin_0 : decode cX10_nextWithin 0 = .ok (.iload_n 0, 1) := by decide +kernel
theorem dX10_nextWithin_1 : decode cX10_nextWithin 1 = .ok (.iload_n 1, 1) := by decide +kernel
theorem dX10_nextWithin_2 : decode cX10_nextWithin 2 = .ok (.isub, 1) := by decide +kernel
theorem dX10_nextWithin_3 : decode cX10_nextWithin 3 = .ok (.iload_n 1, 1) := by decide +kernel
theorem dX10_nextWithin_4 : decode cX10_nextWithin 4 = .ok (.iand, 1) := by decide +kernel
theorem dX10_nextWithin_5 : decode cX10_nextWithin 5 = .ok (.ireturn, 1) := by decide +kernel
theorem dX10_findBehind_0 : decode cX10_findBehind 0 = .ok (.iconst 0, 1) := by decide +kernel
theorem dX10_findBehind_1 : decode cX10_findBehind 1 = .ok (.istore_n 1, 1) := by decide +kernel
theorem dX10_findBehind_2 : decode cX10_findBehind 2 = .ok (.iload_n 1, 1) := by decide +kernel
theorem dX10_findBehind_3 : decode cX10_findBehind 3 = .ok (.aload_n 0, 1) := by decide +kernel
theorem dX10_findBehind_4 : decode cX10_findBehind 4 = .ok (.getfield 9, 3) := by decide +kernel
theorem dX10_findBehind_7 : decode cX10_findBehind 7 = .ok (.getfield 57, 3) := by decide +kernel
theorem dX10_findBehind_10 : decode cX10_findBehind 10 = .ok (.if_icmp .ge 66, 3) := by decide +kernel
theorem dX10_findBehind_13 : decode cX10_findBehind 13 = .ok (.aload_n 0, 1) := by decide +kernel
theorem dX10_findBehind_14 : decode cX10_findBehind 14 = .ok (.getfield 19, 3) := by decide +kernel
theorem dX10_findBehind_17 : decode cX10_findBehind 17 = .ok (.iload_n 1, 1) := by decide +kernel
theorem dX10_findBehind_18 : decode cX10_findBehind 18 = .ok (.iconst 0, 1) := by decide +kernel
theorem dX10_findBehind_19 : decode cX10_findBehind 19 = .ok (.iastore, 1) := by decide +kernel
theorem dX10_findBehind_20 : decode cX10_findBehind 20 = .ok (.iconst 0, 1) := by decide +kernel
theorem dX10_findBehind_21 : decode cX10_findBehind 21 = .ok (.istore_n 2, 1) := by decide +kernel
theorem dX10_findBehind_22 : decode cX10_findBehind 22 = .ok (.iload_n 2, 1) := by decide +kernel
theorem dX10_findBehind_23 : decode cX10_findBehind 23 = .ok (.aload_n 0, 1) := by decide +kernel
theorem dX10_findBehind_24 : decode cX10_findBehind 24 = .ok (.getfield 9, 3) := by decide +kernel
theorem dX10_findBehind_27 : decode cX10_findBehind 27 = .ok (.getfield 57, 3) := by decide +kernel
theorem dX10_findBehind_30 : decode cX10_findBehind 30 = .ok (.if_icmp .ge 40, 3) := by decide +kernel
theorem dX10_findBehind_33 : decode cX10_findBehind 33 = .ok (.aload_n 0, 1) := by decide +kernel
theorem dX10_findBehind_34 : decode cX10_findBehind 34 = .ok (.getfield 9, 3) := by decide +kernel
theorem dX10_findBehind_37 : decode cX10_findBehind 37 = .ok (.iload_n 2, 1) := by decide +kernel
theorem dX10_findBehind_38 : decode cX10_findBehind 38 = .ok (.invokevirtual 60, 3) := by decide +kernel
theorem dX10_findBehind_41 : decode cX10_findBehind 41 = .ok (.aload_n 0, 1) := by decide +kernel
theorem dX10_findBehind_42 : decode cX10_findBehind 42 = .ok (.getfield 9, 3) := by decide +kernel
theorem dX10_findBehind_45 : decode cX10_findBehind 45 = .ok (.iload_n 1, 1) := by decide +kernel
theorem dX10_findBehind_46 : decode cX10_findBehind 46 = .ok (.invokevirtual 63, 3) := by decide +kernel
theorem dX10_findBehind_49 : decode cX10_findBehind 49 = .ok (.if_icmp .ne 15, 3) := by decide +kernel
theorem dX10_findBehind_52 : decode cX10_findBehind 52 = .ok (.aload_n 0, 1) := by decide +kernel
theorem dX10_findBehind_53 : decode cX10_findBehind 53 = .ok (.getfield 19, 3) := by decide +kernel
theorem dX10_findBehind_56 : decode cX10_findBehind 56 = .ok (.iload_n 1, 1) := by decide +kernel
theorem dX10_findBehind_57 : decode cX10_findBehind 57 = .ok (.dup2, 1) := by decide +kernel
theorem dX10_findBehind_58 : decode cX10_findBehind 58 = .ok (.iaload, 1) := by decide +kernel
theorem dX10_findBehind_59 : decode cX10_findBehind 59 = .ok (.iconst 1, 1) := by decide +kernel
theorem dX10_findBehind_60 : decode cX10_findBehind 60 = .ok (.iload_n 2, 1) := by decide +kernel
theorem dX10_findBehind_61 : decode cX10_findBehind 61 = .ok (.ishl, 1) := by decide +kernel
theorem dX10_findBehind_62 : decode cX10_findBehind 62 = .ok (.ior, 1) := by decide +kernel
theorem dX10_findBehind_63 : decode cX10_findBehind 63 = .ok (.iastore, 1) := by decide +kernel
theorem dX10_findBehind_64 : decode cX10_findBehind 64 = .ok (.iinc 2 1, 3) := by decide +kernel
theorem dX10_findBehind_67 : decode cX10_findBehind 67 = .ok (.goto (-45), 3) := by decide +kernel
theorem dX10_findBehind_70 : decode cX10_findBehind 70 = .ok (.iinc 1 1, 3) := by decide +kernel
theorem dX10_findBehind_73 : decode cX10_findBehind 73 = .ok (.goto (-71), 3) := by decide +kernel
theorem dX10_findBehind_76 : decode cX10_findBehind 76 = .ok (.return_, 1) := by decide +kernel
theorem dX10_startsOf_0 : decode cX10_startsOf 0 = .ok (.iconst 0, 1) := by decide +kernel
theorem dX10_startsOf_1 : decode cX10_startsOf 1 = .ok (.istore_n 2, 1) := by decide +kernel
theorem dX10_startsOf_2 : decode cX10_startsOf 2 = .ok (.iconst 0, 1) := by decide +kernel
theorem dX10_startsOf_3 : decode cX10_startsOf 3 = .ok (.istore_n 3, 1) := by decide +kernel
theorem dX10_startsOf_4 : decode cX10_startsOf 4 = .ok (.iload_n 3, 1) := by decide +kernel
theorem dX10_startsOf_5 : decode cX10_startsOf 5 = .ok (.aload_n 0, 1) := by decide +kernel
theorem dX10_startsOf_6 : decode cX10_startsOf 6 = .ok (.getfield 9, 3) := by decide +kernel
theorem dX10_startsOf_9 : decode cX10_startsOf 9 = .ok (.getfield 57, 3) := by decide +kernel
theorem dX10_startsOf_12 : decode cX10_startsOf 12 = .ok (.if_icmp .ge 54, 3) := by decide +kernel
theorem dX10_startsOf_15 : decode cX10_startsOf 15 = .ok (.iconst 1, 1) := by decide +kernel
theorem dX10_startsOf_16 : decode cX10_startsOf 16 = .ok (.iload_n 3, 1) := by decide +kernel
theorem dX10_startsOf_17 : decode cX10_startsOf 17 = .ok (.ishl, 1) := by decide +kernel
theorem dX10_startsOf_18 : decode cX10_startsOf 18 = .ok (.istore 4, 2) := by decide +kernel
theorem dX10_startsOf_20 : decode cX10_startsOf 20 = .ok (.iload_n 1, 1) := by decide +kernel
theorem dX10_startsOf_21 : decode cX10_startsOf 21 = .ok (.iload 4, 2) := by decide +kernel
theorem dX10_startsOf_23 : decode cX10_startsOf 23 = .ok (.iand, 1) := by decide +kernel
theorem dX10_startsOf_24 : decode cX10_startsOf 24 = .ok (.ifCond .eq 36, 3) := by decide +kernel
theorem dX10_startsOf_27 : decode cX10_startsOf 27 = .ok (.iload_n 1, 1) := by decide +kernel
theorem dX10_startsOf_28 : decode cX10_startsOf 28 = .ok (.iload 4, 2) := by decide +kernel
theorem dX10_startsOf_30 : decode cX10_startsOf 30 = .ok (.ixor, 1) := by decide +kernel
theorem dX10_startsOf_31 : decode cX10_startsOf 31 = .ok (.istore 5, 2) := by decide +kernel
theorem dX10_startsOf_33 : decode cX10_startsOf 33 = .ok (.iload 5, 2) := by decide +kernel
theorem dX10_startsOf_35 : decode cX10_startsOf 35 = .ok (.ifCond .eq 20, 3) := by decide +kernel
theorem dX10_startsOf_38 : decode cX10_startsOf 38 = .ok (.aload_n 0, 1) := by decide +kernel
theorem dX10_startsOf_39 : decode cX10_startsOf 39 = .ok (.getfield 15, 3) := by decide +kernel
theorem dX10_startsOf_42 : decode cX10_startsOf 42 = .ok (.iload 5, 2) := by decide +kernel
theorem dX10_startsOf_44 : decode cX10_startsOf 44 = .ok (.iaload, 1) := by decide +kernel
theorem dX10_startsOf_45 : decode cX10_startsOf 45 = .ok (.aload_n 0, 1) := by decide +kernel
theorem dX10_startsOf_46 : decode cX10_startsOf 46 = .ok (.getfield 19, 3) := by decide +kernel
theorem dX10_startsOf_49 : decode cX10_startsOf 49 = .ok (.iload_n 3, 1) := by decide +kernel
theorem dX10_startsOf_50 : decode cX10_startsOf 50 = .ok (.iaload, 1) := by decide +kernel
theorem dX10_startsOf_51 : decode cX10_startsOf 51 = .ok (.iand, 1) := by decide +kernel
theorem dX10_startsOf_52 : decode cX10_startsOf 52 = .ok (.ifCond .eq 8, 3) := by decide +kernel
theorem dX10_startsOf_55 : decode cX10_startsOf 55 = .ok (.iload_n 2, 1) := by decide +kernel
theorem dX10_startsOf_56 : decode cX10_startsOf 56 = .ok (.iload 4, 2) := by decide +kernel
theorem dX10_startsOf_58 : decode cX10_startsOf 58 = .ok (.ior, 1) := by decide +kernel
theorem dX10_startsOf_59 : decode cX10_startsOf 59 = .ok (.istore_n 2, 1) := by decide +kernel
theorem dX10_startsOf_60 : decode cX10_startsOf 60 = .ok (.iinc 3 1, 3) := by decide +kernel
theorem dX10_startsOf_63 : decode cX10_startsOf 63 = .ok (.goto (-59), 3) := by decide +kernel
theorem dX10_startsOf_66 : decode cX10_startsOf 66 = .ok (.iload_n 2, 1) := by decide +kernel
theorem dX10_startsOf_67 : decode cX10_startsOf 67 = .ok (.ireturn, 1) := by decide +kernel
theorem dX10_pickRow_0 : decode cX10_pickRow 0 = .ok (.iload_n 1, 1) := by decide +kernel
theorem dX10_pickRow_1 : decode cX10_pickRow 1 = .ok (.istore_n 2, 1) := by decide +kernel
theorem dX10_pickRow_2 : decode cX10_pickRow 2 = .ok (.iload_n 1, 1) := by decide +kernel
theorem dX10_pickRow_3 : decode cX10_pickRow 3 = .ok (.istore_n 3, 1) := by decide +kernel
theorem dX10_pickRow_4 : decode cX10_pickRow 4 = .ok (.iconst 0, 1) := by decide +kernel
theorem dX10_pickRow_5 : decode cX10_pickRow 5 = .ok (.istore 4, 2) := by decide +kernel
theorem dX10_pickRow_7 : decode cX10_pickRow 7 = .ok (.iload 4, 2) := by decide +kernel
theorem dX10_pickRow_9 : decode cX10_pickRow 9 = .ok (.aload_n 0, 1) := by decide +kernel
theorem dX10_pickRow_10 : decode cX10_pickRow 10 = .ok (.getfield 32, 3) := by decide +kernel
theorem dX10_pickRow_13 : decode cX10_pickRow 13 = .ok (.if_icmp .ge 50, 3) := by decide +kernel
theorem dX10_pickRow_16 : decode cX10_pickRow 16 = .ok (.aload_n 0, 1) := by decide +kernel
theorem dX10_pickRow_17 : decode cX10_pickRow 17 = .ok (.iload_n 2, 1) := by decide +kernel
theorem dX10_pickRow_18 : decode cX10_pickRow 18 = .ok (.aload_n 0, 1) := by decide +kernel
theorem dX10_pickRow_19 : decode cX10_pickRow 19 = .ok (.getfield 32, 3) := by decide +kernel
theorem dX10_pickRow_22 : decode cX10_pickRow 22 = .ok (.iload 4, 2) := by decide +kernel
theorem dX10_pickRow_24 : decode cX10_pickRow 24 = .ok (.isub, 1) := by decide +kernel
theorem dX10_pickRow_25 : decode cX10_pickRow 25 = .ok (.iload_n 3, 1) := by decide +kernel
theorem dX10_pickRow_26 : decode cX10_pickRow 26 = .ok (.invokevirtual 66, 3) := by decide +kernel
theorem dX10_pickRow_29 : decode cX10_pickRow 29 = .ok (.istore 5, 2) := by decide +kernel
theorem dX10_pickRow_31 : decode cX10_pickRow 31 = .ok (.aload_n 0, 1) := by decide +kernel
theorem dX10_pickRow_32 : decode cX10_pickRow 32 = .ok (.getfield 22, 3) := by decide +kernel
theorem dX10_pickRow_35 : decode cX10_pickRow 35 = .ok (.iload 4, 2) := by decide +kernel
theorem dX10_pickRow_37 : decode cX10_pickRow 37 = .ok (.iload 5, 2) := by decide +kernel
theorem dX10_pickRow_39 : decode cX10_pickRow 39 = .ok (.iastore, 1) := by decide +kernel
theorem dX10_pickRow_40 : decode cX10_pickRow 40 = .ok (.iload_n 2, 1) := by decide +kernel
theorem dX10_pickRow_41 : decode cX10_pickRow 41 = .ok (.iconst 1, 1) := by decide +kernel
theorem dX10_pickRow_42 : decode cX10_pickRow 42 = .ok (.iload 5, 2) := by decide +kernel
theorem dX10_pickRow_44 : decode cX10_pickRow 44 = .ok (.ishl, 1) := by decide +kernel
theorem dX10_pickRow_45 : decode cX10_pickRow 45 = .ok (.iconst (-1), 1) := by decide +kernel
theorem dX10_pickRow_46 : decode cX10_pickRow 46 = .ok (.ixor, 1) := by decide +kernel
theorem dX10_pickRow_47 : decode cX10_pickRow 47 = .ok (.iand, 1) := by decide +kernel
theorem dX10_pickRow_48 : decode cX10_pickRow 48 = .ok (.istore_n 2, 1) := by decide +kernel
theorem dX10_pickRow_49 : decode cX10_pickRow 49 = .ok (.aload_n 0, 1) := by decide +kernel
theorem dX10_pickRow_50 : decode cX10_pickRow 50 = .ok (.getfield 19, 3) := by decide +kernel
theorem dX10_pickRow_53 : decode cX10_pickRow 53 = .ok (.iload 5, 2) := by decide +kernel
theorem dX10_pickRow_55 : decode cX10_pickRow 55 = .ok (.iaload, 1) := by decide +kernel
theorem dX10_pickRow_56 : decode cX10_pickRow 56 = .ok (.istore_n 3, 1) := by decide +kernel
theorem dX10_pickRow_57 : decode cX10_pickRow 57 = .ok (.iinc 4 1, 3) := by decide +kernel
theorem dX10_pickRow_60 : decode cX10_pickRow 60 = .ok (.goto (-53), 3) := by decide +kernel
theorem dX10_pickRow_63 : decode cX10_pickRow 63 = .ok (.return_, 1) := by decide +kernel
theorem dX10_leastStart_0 : decode cX10_leastStart 0 = .ok (.iconst 0, 1) := by decide +kernel
theorem dX10_leastStart_1 : decode cX10_leastStart 1 = .ok (.istore 4, 2) := by decide +kernel
theorem dX10_leastStart_3 : decode cX10_leastStart 3 = .ok (.iconst 0, 1) := by decide +kernel
theorem dX10_leastStart_4 : decode cX10_leastStart 4 = .ok (.istore 5, 2) := by decide +kernel
theorem dX10_leastStart_6 : decode cX10_leastStart 6 = .ok (.iconst 1, 1) := by decide +kernel
theorem dX10_leastStart_7 : decode cX10_leastStart 7 = .ok (.istore 6, 2) := by decide +kernel
theorem dX10_leastStart_9 : decode cX10_leastStart 9 = .ok (.iload 6, 2) := by decide +kernel
theorem dX10_leastStart_11 : decode cX10_leastStart 11 = .ok (.sipush 4096, 3) := by decide +kernel
theorem dX10_leastStart_14 : decode cX10_leastStart 14 = .ok (.if_icmp .ge 46, 3) := by decide +kernel
theorem dX10_leastStart_17 : decode cX10_leastStart 17 = .ok (.iload 5, 2) := by decide +kernel
theorem dX10_leastStart_19 : decode cX10_leastStart 19 = .ok (.iload_n 1, 1) := by decide +kernel
theorem dX10_leastStart_20 : decode cX10_leastStart 20 = .ok (.if_icmp .eq 40, 3) := by decide +kernel
theorem dX10_leastStart_23 : decode cX10_leastStart 23 = .ok (.iload 5, 2) := by decide +kernel
theorem dX10_leastStart_25 : decode cX10_leastStart 25 = .ok (.iload_n 1, 1) := by decide +kernel
theorem dX10_leastStart_26 : decode cX10_leastStart 26 = .ok (.invokestatic 35, 3) := by decide +kernel
theorem dX10_leastStart_29 : decode cX10_leastStart 29 = .ok (.istore 5, 2) := by decide +kernel
theorem dX10_leastStart_31 : decode cX10_leastStart 31 = .ok (.iload 5, 2) := by decide +kernel
theorem dX10_leastStart_33 : decode cX10_leastStart 33 = .ok (.invokestatic 43, 3) := by decide +kernel
theorem dX10_leastStart_36 : decode cX10_leastStart 36 = .ok (.iload_n 2, 1) := by decide +kernel
theorem dX10_leastStart_37 : decode cX10_leastStart 37 = .ok (.if_icmp .ne 17, 3) := by decide +kernel
theorem dX10_leastStart_40 : decode cX10_leastStart 40 = .ok (.iload 4, 2) := by decide +kernel
