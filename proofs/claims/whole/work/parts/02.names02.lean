theorem dX1_ranksHold_24 : decode cX1_ranksHold 24 = .ok (.if_icmp .ge 43, 3) := by decide +kernel
theorem dX1_ranksHold_27 : decode cX1_ranksHold 27 = .ok (.aload_n 0, 1) := by decide +kernel
theorem dX1_ranksHold_28 : decode cX1_ranksHold 28 = .ok (.getfield 18, 3) := by decide +kernel
theorem dX1_ranksHold_31 : decode cX1_ranksHold 31 = .ok (.getfield 105, 3) := by decide +kernel
theorem dX1_ranksHold_34 : decode cX1_ranksHold 34 = .ok (.iload_n 1, 1) := by decide +kernel
theorem dX1_ranksHold_35 : decode cX1_ranksHold 35 = .ok (.invokestatic 35, 3) := by decide +kernel
theorem dX1_ranksHold_38 : decode cX1_ranksHold 38 = .ok (.iconst 1, 1) := by decide +kernel
theorem dX1_ranksHold_39 : decode cX1_ranksHold 39 = .ok (.if_icmp .ne 22, 3) := by decide +kernel
theorem dX1_ranksHold_42 : decode cX1_ranksHold 42 = .ok (.aload_n 0, 1) := by decide +kernel
theorem dX1_ranksHold_43 : decode cX1_ranksHold 43 = .ok (.getfield 22, 3) := by decide +kernel
theorem dX1_ranksHold_46 : decode cX1_ranksHold 46 = .ok (.iload_n 1, 1) := by decide +kernel
theorem dX1_ranksHold_47 : decode cX1_ranksHold 47 = .ok (.invokevirtual 102, 3) := by decide +kernel
theorem dX1_ranksHold_50 : decode cX1_ranksHold 50 = .ok (.aload_n 0, 1) := by decide +kernel
theorem dX1_ranksHold_51 : decode cX1_ranksHold 51 = .ok (.getfield 15, 3) := by decide +kernel
theorem dX1_ranksHold_54 : decode cX1_ranksHold 54 = .ok (.iload_n 1, 1) := by decide +kernel
theorem dX1_ranksHold_55 : decode cX1_ranksHold 55 = .ok (.iaload, 1) := by decide +kernel
theorem dX1_ranksHold_56 : decode cX1_ranksHold 56 = .ok (.if_icmp .eq 5, 3) := by decide +kernel
theorem dX1_ranksHold_59 : decode cX1_ranksHold 59 = .ok (.iconst 0, 1) := by decide +kernel
theorem dX1_ranksHold_60 : decode cX1_ranksHold 60 = .ok (.ireturn, 1) := by decide +kernel
theorem dX1_ranksHold_61 : decode cX1_ranksHold 61 = .ok (.iinc 1 1, 3) := by decide +kernel
theorem dX1_ranksHold_64 : decode cX1_ranksHold 64 = .ok (.goto (-48), 3) := by decide +kernel
theorem dX1_ranksHold_67 : decode cX1_ranksHold 67 = .ok (.iconst 1, 1) := by decide +kernel
theorem dX1_ranksHold_68 : decode cX1_ranksHold 68 = .ok (.ireturn, 1) := by decide +kernel
theorem dX2_init_0 : decode cX2_init 0 = .ok (.aload_n 0, 1) := by decide +kernel
theorem dX2_init_1 : decode cX2_init 1 = .ok (.invokespecial 3, 3) := by decide +kernel
theorem dX2_init_4 : decode cX2_init 4 = .ok (.aload_n 0, 1) := by decide +kernel
theorem dX2_init_5 : decode cX2_init 5 = .ok (.iconst 1, 1) := by decide +kernel
theorem dX2_init_6 : decode cX2_init 6 = .ok (.putfield 9, 3) := by decide +kernel
theorem dX2_init_9 : decode cX2_init 9 = .ok (.aload_n 0, 1) := by decide +kernel
theorem dX2_init_10 : decode cX2_init 10 = .ok (.iconst 0, 1) := by decide +kernel
theorem dX2_init_11 : decode cX2_init 11 = .ok (.putfield 15, 3) := by decide +kernel
theorem dX2_init_14 : decode cX2_init 14 = .ok (.aload_n 0, 1) := by decide +kernel
theorem dX2_init_15 : decode cX2_init 15 = .ok (.iconst 1, 1) := by decide +kernel
theorem dX2_init_16 : decode cX2_init 16 = .ok (.putfield 18, 3) := by decide +kernel
theorem dX2_init_19 : decode cX2_init 19 = .ok (.aload_n 0, 1) := by decide +kernel
theorem dX2_init_20 : decode cX2_init 20 = .ok (.iconst 0, 1) := by decide +kernel
theorem dX2_init_21 : decode cX2_init 21 = .ok (.putfield 21, 3) := by decide +kernel
theorem dX2_init_24 : decode cX2_init 24 = .ok (.aload_n 0, 1) := by decide +kernel
theorem dX2_init_25 : decode cX2_init 25 = .ok (.iconst 0, 1) := by decide +kernel
theorem dX2_init_26 : decode cX2_init 26 = .ok (.putfield 24, 3) := by decide +kernel
theorem dX2_init_29 : decode cX2_init 29 = .ok (.aload_n 0, 1) := by decide +kernel
theorem dX2_init_30 : decode cX2_init 30 = .ok (.iconst 0, 1) := by decide +kernel
theorem dX2_init_31 : decode cX2_init 31 = .ok (.putfield 27, 3) := by decide +kernel
theorem dX2_init_34 : decode cX2_init 34 = .ok (.aload_n 0, 1) := by decide +kernel
theorem dX2_init_35 : decode cX2_init 35 = .ok (.bipush 30, 2) := by decide +kernel
theorem dX2_init_37 : decode cX2_init 37 = .ok (.newarray .int, 2) := by decide +kernel
theorem dX2_init_39 : decode cX2_init 39 = .ok (.putfield 30, 3) := by decide +kernel
theorem dX2_init_42 : decode cX2_init 42 = .ok (.aload_n 0, 1) := by decide +kernel
theorem dX2_init_43 : decode cX2_init 43 = .ok (.bipush 30, 2) := by decide +kernel
theorem dX2_init_45 : decode cX2_init 45 = .ok (.newarray .int, 2) := by decide +kernel
theorem dX2_init_47 : decode cX2_init 47 = .ok (.putfield 34, 3) := by decide +kernel
theorem dX2_init_50 : decode cX2_init 50 = .ok (.aload_n 0, 1) := by decide +kernel
theorem dX2_init_51 : decode cX2_init 51 = .ok (.bipush 30, 2) := by decide +kernel
theorem dX2_init_53 : decode cX2_init 53 = .ok (.newarray .long, 2) := by decide +kernel
theorem dX2_init_55 : decode cX2_init 55 = .ok (.putfield 37, 3) := by decide +kernel
theorem dX2_init_58 : decode cX2_init 58 = .ok (.aload_n 0, 1) := by decide +kernel
theorem dX2_init_59 : decode cX2_init 59 = .ok (.iconst 4, 1) := by decide +kernel
theorem dX2_init_60 : decode cX2_init 60 = .ok (.newarray .long, 2) := by decide +kernel
theorem dX2_init_62 : decode cX2_init 62 = .ok (.putfield 41, 3) := by decide +kernel
theorem dX2_init_65 : decode cX2_init 65 = .ok (.aload_n 0, 1) := by decide +kernel
theorem dX2_init_66 : decode cX2_init 66 = .ok (.sipush 900, 3) := by decide +kernel
theorem dX2_init_69 : decode cX2_init 69 = .ok (.newarray .int, 2) := by decide +kernel
theorem dX2_init_71 : decode cX2_init 71 = .ok (.putfield 44, 3) := by decide +kernel
theorem dX2_init_74 : decode cX2_init 74 = .ok (.aload_n 0, 1) := by decide +kernel
theorem dX2_init_75 : decode cX2_init 75 = .ok (.sipush 360, 3) := by decide +kernel
theorem dX2_init_78 : decode cX2_init 78 = .ok (.newarray .int, 2) := by decide +kernel
theorem dX2_init_80 : decode cX2_init 80 = .ok (.putfield 47, 3) := by decide +kernel
theorem dX2_init_83 : decode cX2_init 83 = .ok (.aload_n 0, 1) := by decide +kernel
theorem dX2_init_84 : decode cX2_init 84 = .ok (.bipush 12, 2) := by decide +kernel
theorem dX2_init_86 : decode cX2_init 86 = .ok (.newarray .int, 2) := by decide +kernel
theorem dX2_init_88 : decode cX2_init 88 = .ok (.putfield 50, 3) := by decide +kernel
theorem dX2_init_91 : decode cX2_init 91 = .ok (.aload_n 0, 1) := by decide +kernel
theorem dX2_init_92 : decode cX2_init 92 = .ok (.bipush 30, 2) := by decide +kernel
theorem dX2_init_94 : decode cX2_init 94 = .ok (.newarray .int, 2) := by decide +kernel
theorem dX2_init_96 : decode cX2_init 96 = .ok (.putfield 53, 3) := by decide +kernel
theorem dX2_init_99 : decode cX2_init 99 = .ok (.aload_n 0, 1) := by decide +kernel
theorem dX2_init_100 : decode cX2_init 100 = .ok (.bipush 30, 2) := by decide +kernel
theorem dX2_init_102 : decode cX2_init 102 = .ok (.newarray .long, 2) := by decide +kernel
theorem dX2_init_104 : decode cX2_init 104 = .ok (.putfield 56, 3) := by decide +kernel
theorem dX2_init_107 : decode cX2_init 107 = .ok (.aload_n 0, 1) := by decide +kernel
theorem dX2_init_108 : decode cX2_init 108 = .ok (.bipush 30, 2) := by decide +kernel
theorem dX2_init_110 : decode cX2_init 110 = .ok (.newarray .long, 2) := by decide +kernel
theorem dX2_init_112 : decode cX2_init 112 = .ok (.putfield 59, 3) := by decide +kernel
theorem dX2_init_115 : decode cX2_init 115 = .ok (.return_, 1) := by decide +kernel
theorem dX2_isRelay_0 : decode cX2_isRelay 0 = .ok (.iload_n 1, 1) := by decide +kernel
theorem dX2_isRelay_1 : decode cX2_isRelay 1 = .ok (.ifCond .lt 15, 3) := by decide +kernel
theorem dX2_isRelay_4 : decode cX2_isRelay 4 = .ok (.iload_n 1, 1) := by decide +kernel
theorem dX2_isRelay_5 : decode cX2_isRelay 5 = .ok (.aload_n 0, 1) := by decide +kernel
theorem dX2_isRelay_6 : decode cX2_isRelay 6 = .ok (.getfield 9, 3) := by decide +kernel
theorem dX2_isRelay_9 : decode cX2_isRelay 9 = .ok (.if_icmp .ge 7, 3) := by decide +kernel
theorem dX2_isRelay_12 : decode cX2_isRelay 12 = .ok (.iconst 1, 1) := by decide +kernel
theorem dX2_isRelay_13 : decode cX2_isRelay 13 = .ok (.goto 4, 3) := by decide +kernel
theorem dX2_isRelay_16 : decode cX2_isRelay 16 = .ok (.iconst 0, 1) := by decide +kernel
theorem dX2_isRelay_17 : decode cX2_isRelay 17 = .ok (.ireturn, 1) := by decide +kernel
theorem dX2_isLine_0 : decode cX2_isLine 0 = .ok (.iload_n 1, 1) := by decide +kernel
theorem dX2_isLine_1 : decode cX2_isLine 1 = .ok (.ifCond .lt 15, 3) := by decide +kernel
theorem dX2_isLine_4 : decode cX2_isLine 4 = .ok (.iload_n 1, 1) := by decide +kernel
theorem dX2_isLine_5 : decode cX2_isLine 5 = .ok (.aload_n 0, 1) := by decide +kernel
theorem dX2_isLine_6 : decode cX2_isLine 6 = .ok (.getfield 15, 3) := by decide +kernel
theorem dX2_isLine_9 : decode cX2_isLine 9 = .ok (.if_icmp .ge 7, 3) := by decide +kernel
theorem dX2_isLine_12 : decode cX2_isLine 12 = .ok (.iconst 1, 1) := by decide +kernel
theorem dX2_isLine_13 : decode cX2_isLine 13 = .ok (.goto 4, 3) := by decide +kernel
theorem dX2_isLine_16 : decode cX2_isLine 16 = .ok (.iconst 0, 1) := by decide +kernel
theorem dX2_isLine_17 : decode cX2_isLine 17 = .ok (.ireturn, 1) := by decide +kernel
theorem dX2_isPiece_0 : decode cX2_isPiece 0 = .ok (.iload_n 1, 1) := by decide +kernel
theorem dX2_isPiece_1 : decode cX2_isPiece 1 = .ok (.ifCond .lt 15, 3) := by decide +kernel
theorem dX2_isPiece_4 : decode cX2_isPiece 4 = .ok (.iload_n 1, 1) := by decide +kernel
theorem dX2_isPiece_5 : decode cX2_isPiece 5 = .ok (.aload_n 0, 1) := by decide +kernel
theorem dX2_isPiece_6 : decode cX2_isPiece 6 = .ok (.getfield 18, 3) := by decide +kernel
theorem dX2_isPiece_9 : decode cX2_isPiece 9 = .ok (.if_icmp .ge 7, 3) := by decide +kernel
theorem dX2_isPiece_12 : decode cX2_isPiece 12 = .ok (.iconst 1, 1) := by decide +kernel
theorem dX2_isPiece_13 : decode cX2_isPiece 13 = .ok (.goto 4, 3) := by decide +kernel
theorem dX2_isPiece_16 : decode cX2_isPiece 16 = .ok (.iconst 0, 1) := by decide +kernel
theorem dX2_isPiece_17 : decode cX2_isPiece 17 = .ok (.ireturn, 1) := by decide +kernel
theorem dX2_insOf_0 : decode cX2_insOf 0 = .ok (.aload_n 0, 1) := by decide +kernel
theorem dX2_insOf_1 : decode cX2_insOf 1 = .ok (.getfield 30, 3) := by decide +kernel
theorem dX2_insOf_4 : decode cX2_insOf 4 = .ok (.iload_n 1, 1) := by decide +kernel
theorem dX2_insOf_5 : decode cX2_insOf 5 = .ok (.iaload, 1) := by decide +kernel
theorem dX2_insOf_6 : decode cX2_insOf 6 = .ok (.ifCond .ne 10, 3) := by decide +kernel
theorem dX2_insOf_9 : decode cX2_insOf 9 = .ok (.aload_n 0, 1) := by decide +kernel
theorem dX2_insOf_10 : decode cX2_insOf 10 = .ok (.getfield 18, 3) := by decide +kernel
theorem dX2_insOf_13 : decode cX2_insOf 13 = .ok (.goto 14, 3) := by decide +kernel
theorem dX2_insOf_16 : decode cX2_insOf 16 = .ok (.aload_n 0, 1) := by decide +kernel
theorem dX2_insOf_17 : decode cX2_insOf 17 = .ok (.getfield 50, 3) := by decide +kernel
theorem dX2_insOf_20 : decode cX2_insOf 20 = .ok (.aload_n 0, 1) := by decide +kernel
theorem dX2_insOf_21 : decode cX2_insOf 21 = .ok (.getfield 30, 3) := by decide +kernel
theorem dX2_insOf_24 : decode cX2_insOf 24 = .ok (.iload_n 1, 1) := by decide +kernel
theorem dX2_insOf_25 : decode cX2_insOf 25 = .ok (.iaload, 1) := by decide +kernel
theorem dX2_insOf_26 : decode cX2_insOf 26 = .ok (.iaload, 1) := by decide +kernel
theorem dX2_insOf_27 : decode cX2_insOf 27 = .ok (.ireturn, 1) := by decide +kernel
set_option maxRecDepth 20000 in
theorem ggX2_addLine_X5_slot : GoodIn wsX2_addLine wsX5_slot := goodIn_r _ [9] (by decide +kernel) (by decide +kernel)
set_option maxRecDepth 20000 in
theorem gX2_addLine_X5_slot_n62 : GoodIn wsX2_addLine (wsX5_slot) := ggX2_addLine_X5_slot
theorem dX2_addLine_0 : decode cX2_addLine 0 = .ok (.aload_n 0, 1) := by decide +kernel
theorem dX2_addLine_1 : decode cX2_addLine 1 = .ok (.getfield 15, 3) := by decide +kernel
theorem dX2_addLine_4 : decode cX2_addLine 4 = .ok (.istore_n 3, 1) := by decide +kernel
theorem dX2_addLine_5 : decode cX2_addLine 5 = .ok (.aload_n 0, 1) := by decide +kernel
theorem dX2_addLine_6 : decode cX2_addLine 6 = .ok (.getfield 30, 3) := by decide +kernel
theorem dX2_addLine_9 : decode cX2_addLine 9 = .ok (.iload_n 3, 1) := by decide +kernel
theorem dX2_addLine_10 : decode cX2_addLine 10 = .ok (.iload_n 1, 1) := by decide +kernel
theorem dX2_addLine_11 : decode cX2_addLine 11 = .ok (.iastore, 1) := by decide +kernel
theorem dX2_addLine_12 : decode cX2_addLine 12 = .ok (.aload_n 0, 1) := by decide +kernel
theorem dX2_addLine_13 : decode cX2_addLine 13 = .ok (.getfield 34, 3) := by decide +kernel
theorem dX2_addLine_16 : decode cX2_addLine 16 = .ok (.iload_n 3, 1) := by decide +kernel
theorem dX2_addLine_17 : decode cX2_addLine 17 = .ok (.iload_n 2, 1) := by decide +kernel
theorem dX2_addLine_18 : decode cX2_addLine 18 = .ok (.iastore, 1) := by decide +kernel
theorem dX2_addLine_19 : decode cX2_addLine 19 = .ok (.aload_n 0, 1) := by decide +kernel
theorem dX2_addLine_20 : decode cX2_addLine 20 = .ok (.getfield 47, 3) := by decide +kernel
theorem dX2_addLine_23 : decode cX2_addLine 23 = .ok (.iload_n 2, 1) := by decide +kernel
theorem dX2_addLine_24 : decode cX2_addLine 24 = .ok (.aload_n 0, 1) := by decide +kernel
theorem dX2_addLine_25 : decode cX2_addLine 25 = .ok (.getfield 50, 3) := by decide +kernel
theorem dX2_addLine_28 : decode cX2_addLine 28 = .ok (.iload_n 2, 1) := by decide +kernel
theorem dX2_addLine_29 : decode cX2_addLine 29 = .ok (.iaload, 1) := by decide +kernel
theorem dX2_addLine_30 : decode cX2_addLine 30 = .ok (.invokestatic 62, 3) := by decide +kernel
theorem dX2_addLine_33 : decode cX2_addLine 33 = .ok (.iload_n 3, 1) := by decide +kernel
theorem dX2_addLine_34 : decode cX2_addLine 34 = .ok (.iastore, 1) := by decide +kernel
theorem dX2_addLine_35 : decode cX2_addLine 35 = .ok (.aload_n 0, 1) := by decide +kernel
theorem dX2_addLine_36 : decode cX2_addLine 36 = .ok (.getfield 50, 3) := by decide +kernel
theorem dX2_addLine_39 : decode cX2_addLine 39 = .ok (.iload_n 2, 1) := by decide +kernel
theorem dX2_addLine_40 : decode cX2_addLine 40 = .ok (.dup2, 1) := by decide +kernel
theorem dX2_addLine_41 : decode cX2_addLine 41 = .ok (.iaload, 1) := by decide +kernel
theorem dX2_addLine_42 : decode cX2_addLine 42 = .ok (.iconst 1, 1) := by decide +kernel
theorem dX2_addLine_43 : decode cX2_addLine 43 = .ok (.iadd, 1) := by decide +kernel
theorem dX2_addLine_44 : decode cX2_addLine 44 = .ok (.iastore, 1) := by decide +kernel
theorem dX2_addLine_45 : decode cX2_addLine 45 = .ok (.iload_n 3, 1) := by decide +kernel
theorem dX2_addLine_46 : decode cX2_addLine 46 = .ok (.istore 4, 2) := by decide +kernel
theorem dX2_addLine_48 : decode cX2_addLine 48 = .ok (.iload 4, 2) := by decide +kernel
theorem dX2_addLine_50 : decode cX2_addLine 50 = .ok (.ifCond .le 43, 3) := by decide +kernel
theorem dX2_addLine_53 : decode cX2_addLine 53 = .ok (.aload_n 0, 1) := by decide +kernel
theorem dX2_addLine_54 : decode cX2_addLine 54 = .ok (.getfield 30, 3) := by decide +kernel
theorem dX2_addLine_57 : decode cX2_addLine 57 = .ok (.aload_n 0, 1) := by decide +kernel
theorem dX2_addLine_58 : decode cX2_addLine 58 = .ok (.getfield 53, 3) := by decide +kernel
theorem dX2_addLine_61 : decode cX2_addLine 61 = .ok (.iload 4, 2) := by decide +kernel
theorem dX2_addLine_63 : decode cX2_addLine 63 = .ok (.iconst 1, 1) := by decide +kernel
theorem dX2_addLine_64 : decode cX2_addLine 64 = .ok (.isub, 1) := by decide +kernel
theorem dX2_addLine_65 : decode cX2_addLine 65 = .ok (.iaload, 1) := by decide +kernel
theorem dX2_addLine_66 : decode cX2_addLine 66 = .ok (.iaload, 1) := by decide +kernel
theorem dX2_addLine_67 : decode cX2_addLine 67 = .ok (.iload_n 1, 1) := by decide +kernel
theorem dX2_addLine_68 : decode cX2_addLine 68 = .ok (.if_icmp .le 25, 3) := by decide +kernel
theorem dX2_addLine_71 : decode cX2_addLine 71 = .ok (.aload_n 0, 1) := by decide +kernel
theorem dX2_addLine_72 : decode cX2_addLine 72 = .ok (.getfield 53, 3) := by decide +kernel
theorem dX2_addLine_75 : decode cX2_addLine 75 = .ok (.iload 4, 2) := by decide +kernel
theorem dX2_addLine_77 : decode cX2_addLine 77 = .ok (.aload_n 0, 1) := by decide +kernel
theorem dX2_addLine_78 : decode cX2_addLine 78 = .ok (.getfield 53, 3) := by decide +kernel
theorem dX2_addLine_81 : decode cX2_addLine 81 = .ok (.iload 4, 2) := by decide +kernel
theorem dX2_addLine_83 : decode cX2_addLine 83 = .ok (.iconst 1, 1) := by decide +kernel
theorem dX2_addLine_84 : decode cX2_addLine 84 = .ok (.isub, 1) := by decide +kernel
theorem dX2_addLine_85 : decode cX2_addLine 85 = .ok (.iaload, 1) := by decide +kernel
theorem dX2_addLine_86 : decode cX2_addLine 86 = .ok (.iastore, 1) := by decide +kernel
theorem dX2_addLine_87 : decode cX2_addLine 87 = .ok (.iinc 4 (-1), 3) := by decide +kernel
theorem dX2_addLine_90 : decode cX2_addLine 90 = .ok (.goto (-42), 3) := by decide +kernel
theorem dX2_addLine_93 : decode cX2_addLine 93 = .ok (.aload_n 0, 1) := by decide +kernel
theorem dX2_addLine_94 : decode cX2_addLine 94 = .ok (.getfield 53, 3) := by decide +kernel
theorem dX2_addLine_97 : decode cX2_addLine 97 = .ok (.iload 4, 2) := by decide +kernel
theorem dX2_addLine_99 : decode cX2_addLine 99 = .ok (.iload_n 3, 1) := by decide +kernel
theorem dX2_addLine_100 : decode cX2_addLine 100 = .ok (.iastore, 1) := by decide +kernel
theorem dX2_addLine_101 : decode cX2_addLine 101 = .ok (.aload_n 0, 1) := by decide +kernel
theorem dX2_addLine_102 : decode cX2_addLine 102 = .ok (.dup, 1) := by decide +kernel
theorem dX2_addLine_103 : decode cX2_addLine 103 = .ok (.getfield 15, 3) := by decide +kernel
theorem dX2_addLine_106 : decode cX2_addLine 106 = .ok (.iconst 1, 1) := by decide +kernel
theorem dX2_addLine_107 : decode cX2_addLine 107 = .ok (.iadd, 1) := by decide +kernel
theorem dX2_addLine_108 : decode cX2_addLine 108 = .ok (.putfield 15, 3) := by decide +kernel
theorem dX2_addLine_111 : decode cX2_addLine 111 = .ok (.iload_n 3, 1) := by decide +kernel
theorem dX2_addLine_112 : decode cX2_addLine 112 = .ok (.ireturn, 1) := by decide +kernel
set_option maxRecDepth 20000 in
theorem ggX2_isPassing_X2_insOf : GoodIn wsX2_isPassing wsX2_insOf := goodIn_r _ [7, 1, 8, 9, 15, 16, 17, 18, 19, 20, 21, 22, 23, 24, 25, 26, 27, 28, 29, 30] (by decide +kernel) (by decide +kernel)
set_option maxRecDepth 20000 in
theorem gX2_isPassing_X2_insOf : GoodIn wsX2_isPassing (wsV RX2 66 RX2 yX2_insOf wsX2_insOf) := goodIn_app (goodIn_of _ (by decide +kernel)) ggX2_isPassing_X2_insOf
set_option maxRecDepth 20000 in
theorem ggX2_isPassing_X5_slot : GoodIn wsX2_isPassing wsX5_slot := goodIn_r _ [12] (by decide +kernel) (by decide +kernel)
set_option maxRecDepth 20000 in
theorem gX2_isPassing_X5_slot_n62 : GoodIn wsX2_isPassing (wsX5_slot) := ggX2_isPassing_X5_slot
set_option maxRecDepth 20000 in
theorem ggX2_isPassing_X5_asFlag : GoodIn wsX2_isPassing wsX5_asFlag := goodIn_r _ [14] (by decide +kernel) (by decide +kernel)
set_option maxRecDepth 20000 in
theorem gX2_isPassing_X5_asFlag_n70 : GoodIn wsX2_isPassing (wsX5_asFlag) := ggX2_isPassing_X5_asFlag
theorem dX2_isPassing_0 : decode cX2_isPassing 0 = .ok (.aload_n 0, 1) := by decide +kernel
theorem dX2_isPassing_1 : decode cX2_isPassing 1 = .ok (.getfield 30, 3) := by decide +kernel
theorem dX2_isPassing_4 : decode cX2_isPassing 4 = .ok (.iload_n 1, 1) := by decide +kernel
theorem dX2_isPassing_5 : decode cX2_isPassing 5 = .ok (.iaload, 1) := by decide +kernel
theorem dX2_isPassing_6 : decode cX2_isPassing 6 = .ok (.ifCond .ne 5, 3) := by decide +kernel
theorem dX2_isPassing_9 : decode cX2_isPassing 9 = .ok (.iconst 0, 1) := by decide +kernel
theorem dX2_isPassing_10 : decode cX2_isPassing 10 = .ok (.ireturn, 1) := by decide +kernel
theorem dX2_isPassing_11 : decode cX2_isPassing 11 = .ok (.iconst 0, 1) := by decide +kernel
theorem dX2_isPassing_12 : decode cX2_isPassing 12 = .ok (.istore_n 2, 1) := by decide +kernel
theorem dX2_isPassing_13 : decode cX2_isPassing 13 = .ok (.iconst 0, 1) := by decide +kernel
theorem dX2_isPassing_14 : decode cX2_isPassing 14 = .ok (.istore_n 3, 1) := by decide +kernel
theorem dX2_isPassing_15 : decode cX2_isPassing 15 = .ok (.iload_n 3, 1) := by decide +kernel
theorem dX2_isPassing_16 : decode cX2_isPassing 16 = .ok (.aload_n 0, 1) := by decide +kernel
theorem dX2_isPassing_17 : decode cX2_isPassing 17 = .ok (.iload_n 1, 1) := by decide +kernel
theorem dX2_isPassing_18 : decode cX2_isPassing 18 = .ok (.invokevirtual 66, 3) := by decide +kernel
theorem dX2_isPassing_21 : decode cX2_isPassing 21 = .ok (.if_icmp .ge 33, 3) := by decide +kernel
theorem dX2_isPassing_24 : decode cX2_isPassing 24 = .ok (.iload_n 2, 1) := by decide +kernel
theorem dX2_isPassing_25 : decode cX2_isPassing 25 = .ok (.aload_n 0, 1) := by decide +kernel
theorem dX2_isPassing_26 : decode cX2_isPassing 26 = .ok (.getfield 44, 3) := by decide +kernel
theorem dX2_isPassing_29 : decode cX2_isPassing 29 = .ok (.iload_n 1, 1) := by decide +kernel
theorem dX2_isPassing_30 : decode cX2_isPassing 30 = .ok (.iload_n 3, 1) := by decide +kernel
theorem dX2_isPassing_31 : decode cX2_isPassing 31 = .ok (.invokestatic 62, 3) := by decide +kernel
theorem dX2_isPassing_34 : decode cX2_isPassing 34 = .ok (.iaload, 1) := by decide +kernel
theorem dX2_isPassing_35 : decode cX2_isPassing 35 = .ok (.ifCond .eq 7, 3) := by decide +kernel
theorem dX2_isPassing_38 : decode cX2_isPassing 38 = .ok (.iconst 1, 1) := by decide +kernel
theorem dX2_isPassing_39 : decode cX2_isPassing 39 = .ok (.goto 4, 3) := by decide +kernel
theorem dX2_isPassing_42 : decode cX2_isPassing 42 = .ok (.iconst 0, 1) := by decide +kernel
theorem dX2_isPassing_43 : decode cX2_isPassing 43 = .ok (.invokestatic 70, 3) := by decide +kernel
theorem dX2_isPassing_46 : decode cX2_isPassing 46 = .ok (.iadd, 1) := by decide +kernel
theorem dX2_isPassing_47 : decode cX2_isPassing 47 = .ok (.istore_n 2, 1) := by decide +kernel
theorem dX2_isPassing_48 : decode cX2_isPassing 48 = .ok (.iinc 3 1, 3) := by decide +kernel
theorem dX2_isPassing_51 : decode cX2_isPassing 51 = .ok (.goto (-36), 3) := by decide +kernel
theorem dX2_isPassing_54 : decode cX2_isPassing 54 = .ok (.iload_n 2, 1) := by decide +kernel
theorem dX2_isPassing_55 : decode cX2_isPassing 55 = .ok (.iconst 1, 1) := by decide +kernel
theorem dX2_isPassing_56 : decode cX2_isPassing 56 = .ok (.if_icmp .gt 7, 3) := by decide +kernel
theorem dX2_isPassing_59 : decode cX2_isPassing 59 = .ok (.iconst 1, 1) := by decide +kernel
theorem dX2_isPassing_60 : decode cX2_isPassing 60 = .ok (.goto 4, 3) := by decide +kernel
theorem dX2_isPassing_63 : decode cX2_isPassing 63 = .ok (.iconst 0, 1) := by decide +kernel
theorem dX2_isPassing_64 : decode cX2_isPassing 64 = .ok (.ireturn, 1) := by decide +kernel
set_option maxRecDepth 20000 in
theorem ggX2_passingLines_X2_isPassing : GoodIn wsX2_passingLines wsX2_isPassing := goodIn_r _ [6, 7, 8, 9, 10, 11, 5, 12, 13, 14, 15, 16, 17, 18, 19, 20, 21, 22, 23, 24, 25, 26, 27, 28, 29, 30, 31, 32, 33, 34, 35] (by decide +kernel) (by decide +kernel)
set_option maxRecDepth 20000 in
theorem gX2_passingLines_X2_isPassing : GoodIn wsX2_passingLines (wsV RX2 74 RX2 yX2_isPassing wsX2_isPassing) := goodIn_app (goodIn_of _ (by decide +kernel)) ggX2_passingLines_X2_isPassing
set_option maxRecDepth 20000 in
theorem ggX2_passingLines_X5_asFlag : GoodIn wsX2_passingLines wsX5_asFlag := goodIn_r _ [19] (by decide +kernel) (by decide +kernel)
set_option maxRecDepth 20000 in
theorem gX2_passingLines_X5_asFlag_n70 : GoodIn wsX2_passingLines (wsX5_asFlag) := ggX2_passingLines_X5_asFlag
theorem dX2_passingLines_0 : decode cX2_passingLines 0 = .ok (.iconst 0, 1) := by decide +kernel
theorem dX2_passingLines_1 : decode cX2_passingLines 1 = .ok (.istore_n 1, 1) := by decide +kernel
theorem dX2_passingLines_2 : decode cX2_passingLines 2 = .ok (.iconst 0, 1) := by decide +kernel
theorem dX2_passingLines_3 : decode cX2_passingLines 3 = .ok (.istore_n 2, 1) := by decide +kernel
theorem dX2_passingLines_4 : decode cX2_passingLines 4 = .ok (.iload_n 2, 1) := by decide +kernel
theorem dX2_passingLines_5 : decode cX2_passingLines 5 = .ok (.aload_n 0, 1) := by decide +kernel
theorem dX2_passingLines_6 : decode cX2_passingLines 6 = .ok (.getfield 15, 3) := by decide +kernel
theorem dX2_passingLines_9 : decode cX2_passingLines 9 = .ok (.if_icmp .ge 20, 3) := by decide +kernel
theorem dX2_passingLines_12 : decode cX2_passingLines 12 = .ok (.iload_n 1, 1) := by decide +kernel
theorem dX2_passingLines_13 : decode cX2_passingLines 13 = .ok (.aload_n 0, 1) := by decide +kernel
theorem dX2_passingLines_14 : decode cX2_passingLines 14 = .ok (.iload_n 2, 1) := by decide +kernel
theorem dX2_passingLines_15 : decode cX2_passingLines 15 = .ok (.invokevirtual 74, 3) := by decide +kernel
theorem dX2_passingLines_18 : decode cX2_passingLines 18 = .ok (.invokestatic 70, 3) := by decide +kernel
theorem dX2_passingLines_21 : decode cX2_passingLines 21 = .ok (.iadd, 1) := by decide +kernel
theorem dX2_passingLines_22 : decode cX2_passingLines 22 = .ok (.istore_n 1, 1) := by decide +kernel
theorem dX2_passingLines_23 : decode cX2_passingLines 23 = .ok (.iinc 2 1, 3) := by decide +kernel
theorem dX2_passingLines_26 : decode cX2_passingLines 26 = .ok (.goto (-22), 3) := by decide +kernel
theorem dX2_passingLines_29 : decode cX2_passingLines 29 = .ok (.iload_n 1, 1) := by decide +kernel
theorem dX2_passingLines_30 : decode cX2_passingLines 30 = .ok (.ireturn, 1) := by decide +kernel
set_option maxRecDepth 20000 in
theorem ggX2_allFactors_X2_insOf : GoodIn wsX2_allFactors wsX2_insOf := goodIn_r _ [6, 7, 8, 9, 10, 11, 12, 13, 14, 15, 16, 17, 18, 19, 20, 21, 22, 23, 24, 25] (by decide +kernel) (by decide +kernel)
set_option maxRecDepth 20000 in
theorem gX2_allFactors_X2_insOf : GoodIn wsX2_allFactors (wsV RX2 66 RX2 yX2_insOf wsX2_insOf) := goodIn_app (goodIn_of _ (by decide +kernel)) ggX2_allFactors_X2_insOf
theorem dX2_allFactors_0 : decode cX2_allFactors 0 = .ok (.iconst 0, 1) := by decide +kernel
theorem dX2_allFactors_1 : decode cX2_allFactors 1 = .ok (.istore_n 1, 1) := by decide +kernel
theorem dX2_allFactors_2 : decode cX2_allFactors 2 = .ok (.iconst 0, 1) := by decide +kernel
theorem dX2_allFactors_3 : decode cX2_allFactors 3 = .ok (.istore_n 2, 1) := by decide +kernel
theorem dX2_allFactors_4 : decode cX2_allFactors 4 = .ok (.iload_n 2, 1) := by decide +kernel
theorem dX2_allFactors_5 : decode cX2_allFactors 5 = .ok (.aload_n 0, 1) := by decide +kernel
theorem dX2_allFactors_6 : decode cX2_allFactors 6 = .ok (.getfield 15, 3) := by decide +kernel
theorem dX2_allFactors_9 : decode cX2_allFactors 9 = .ok (.if_icmp .ge 17, 3) := by decide +kernel
theorem dX2_allFactors_12 : decode cX2_allFactors 12 = .ok (.iload_n 1, 1) := by decide +kernel
theorem dX2_allFactors_13 : decode cX2_allFactors 13 = .ok (.aload_n 0, 1) := by decide +kernel
theorem dX2_allFactors_14 : decode cX2_allFactors 14 = .ok (.iload_n 2, 1) := by decide +kernel
theorem dX2_allFactors_15 : decode cX2_allFactors 15 = .ok (.invokevirtual 66, 3) := by decide +kernel
theorem dX2_allFactors_18 : decode cX2_allFactors 18 = .ok (.iadd, 1) := by decide +kernel
theorem dX2_allFactors_19 : decode cX2_allFactors 19 = .ok (.istore_n 1, 1) := by decide +kernel
theorem dX2_allFactors_20 : decode cX2_allFactors 20 = .ok (.iinc 2 1, 3) := by decide +kernel
theorem dX2_allFactors_23 : decode cX2_allFactors 23 = .ok (.goto (-19), 3) := by decide +kernel
theorem dX2_allFactors_26 : decode cX2_allFactors 26 = .ok (.iload_n 1, 1) := by decide +kernel
theorem dX2_allFactors_27 : decode cX2_allFactors 27 = .ok (.ireturn, 1) := by decide +kernel
set_option maxRecDepth 20000 in
theorem ggX2_spreadVectors_X5_flag : GoodIn wsX2_spreadVectors wsX5_flag := goodIn_r _ [6] (by decide +kernel) (by decide +kernel)
set_option maxRecDepth 20000 in
theorem gX2_spreadVectors_X5_flag_n78 : GoodIn wsX2_spreadVectors (wsX5_flag) := ggX2_spreadVectors_X5_flag
set_option maxRecDepth 20000 in
theorem ggX2_spreadVectors_X2_mixed : GoodIn wsX2_spreadVectors wsX2_mixed := goodIn_r _ [11, 12, 13, 14, 15, 16, 17, 10, 18, 19, 20, 21, 5, 22, 23, 24, 25, 26, 27, 28, 29, 30, 31, 32, 33, 34, 35, 36, 37, 38, 39, 40, 41, 42, 43] (by decide +kernel) (by decide +kernel)
set_option maxRecDepth 20000 in
theorem gX2_spreadVectors_X2_mixed : GoodIn wsX2_spreadVectors (wsV RX2 84 RX2 yX2_mixed wsX2_mixed) := goodIn_app (goodIn_of _ (by decide +kernel)) ggX2_spreadVectors_X2_mixed
theorem dX2_spreadVectors_0 : decode cX2_spreadVectors 0 = .ok (.iconst 0, 1) := by decide +kernel
theorem dX2_spreadVectors_1 : decode cX2_spreadVectors 1 = .ok (.istore_n 2, 1) := by decide +kernel
theorem dX2_spreadVectors_2 : decode cX2_spreadVectors 2 = .ok (.iload_n 2, 1) := by decide +kernel
theorem dX2_spreadVectors_3 : decode cX2_spreadVectors 3 = .ok (.aload_n 0, 1) := by decide +kernel
theorem dX2_spreadVectors_4 : decode cX2_spreadVectors 4 = .ok (.getfield 15, 3) := by decide +kernel
theorem dX2_spreadVectors_7 : decode cX2_spreadVectors 7 = .ok (.if_icmp .ge 47, 3) := by decide +kernel
theorem dX2_spreadVectors_10 : decode cX2_spreadVectors 10 = .ok (.aload_n 0, 1) := by decide +kernel
theorem dX2_spreadVectors_11 : decode cX2_spreadVectors 11 = .ok (.getfield 53, 3) := by decide +kernel
theorem dX2_spreadVectors_14 : decode cX2_spreadVectors 14 = .ok (.iload_n 2, 1) := by decide +kernel
theorem dX2_spreadVectors_15 : decode cX2_spreadVectors 15 = .ok (.iaload, 1) := by decide +kernel
theorem dX2_spreadVectors_16 : decode cX2_spreadVectors 16 = .ok (.istore_n 3, 1) := by decide +kernel
theorem dX2_spreadVectors_17 : decode cX2_spreadVectors 17 = .ok (.aload_n 0, 1) := by decide +kernel
theorem dX2_spreadVectors_18 : decode cX2_spreadVectors 18 = .ok (.getfield 56, 3) := by decide +kernel
theorem dX2_spreadVectors_21 : decode cX2_spreadVectors 21 = .ok (.iload_n 3, 1) := by decide +kernel
theorem dX2_spreadVectors_22 : decode cX2_spreadVectors 22 = .ok (.iload_n 1, 1) := by decide +kernel
theorem dX2_spreadVectors_23 : decode cX2_spreadVectors 23 = .ok (.iload_n 3, 1) := by decide +kernel
theorem dX2_spreadVectors_24 : decode cX2_spreadVectors 24 = .ok (.invokestatic 78, 3) := by decide +kernel
theorem dX2_spreadVectors_27 : decode cX2_spreadVectors 27 = .ok (.iconst 1, 1) := by decide +kernel
theorem dX2_spreadVectors_28 : decode cX2_spreadVectors 28 = .ok (.if_icmp .ne 7, 3) := by decide +kernel
theorem dX2_spreadVectors_31 : decode cX2_spreadVectors 31 = .ok (.lconst 0, 1) := by decide +kernel
theorem dX2_spreadVectors_32 : decode cX2_spreadVectors 32 = .ok (.goto 15, 3) := by decide +kernel
theorem dX2_spreadVectors_35 : decode cX2_spreadVectors 35 = .ok (.aload_n 0, 1) := by decide +kernel
theorem dX2_spreadVectors_36 : decode cX2_spreadVectors 36 = .ok (.iload_n 3, 1) := by decide +kernel
theorem dX2_spreadVectors_37 : decode cX2_spreadVectors 37 = .ok (.getstatic 81, 3) := by decide +kernel
theorem dX2_spreadVectors_40 : decode cX2_spreadVectors 40 = .ok (.aload_n 0, 1) := by decide +kernel
theorem dX2_spreadVectors_41 : decode cX2_spreadVectors 41 = .ok (.getfield 56, 3) := by decide +kernel
theorem dX2_spreadVectors_44 : decode cX2_spreadVectors 44 = .ok (.invokevirtual 84, 3) := by decide +kernel
theorem dX2_spreadVectors_47 : decode cX2_spreadVectors 47 = .ok (.lastore, 1) := by decide +kernel
theorem dX2_spreadVectors_48 : decode cX2_spreadVectors 48 = .ok (.iinc 2 1, 3) := by decide +kernel
theorem dX2_spreadVectors_51 : decode cX2_spreadVectors 51 = .ok (.goto (-49), 3) := by decide +kernel
theorem dX2_spreadVectors_54 : decode cX2_spreadVectors 54 = .ok (.return_, 1) := by decide +kernel
set_option maxRecDepth 20000 in
theorem ggX2_spreadBytes_X5_flag : GoodIn wsX2_spreadBytes wsX5_flag := goodIn_r _ [9] (by decide +kernel) (by decide +kernel)
set_option maxRecDepth 20000 in
theorem gX2_spreadBytes_X5_flag_n78 : GoodIn wsX2_spreadBytes (wsX5_flag) := ggX2_spreadBytes_X5_flag
set_option maxRecDepth 20000 in
theorem ggX2_spreadBytes_X2_mixed : GoodIn wsX2_spreadBytes wsX2_mixed := goodIn_r _ [14, 15, 16, 17, 18, 19, 20, 13, 21, 22, 23, 24, 8, 25, 26, 27, 28, 29, 30, 31, 32, 33, 34, 35, 36, 37, 38, 39, 40, 41, 42, 43, 44, 45, 46] (by decide +kernel) (by decide +kernel)
set_option maxRecDepth 20000 in
theorem gX2_spreadBytes_X2_mixed : GoodIn wsX2_spreadBytes (wsV RX2 84 RX2 yX2_mixed wsX2_mixed) := goodIn_app (goodIn_of _ (by decide +kernel)) ggX2_spreadBytes_X2_mixed
theorem dX2_spreadBytes_0 : decode cX2_spreadBytes 0 = .ok (.iconst 0, 1) := by decide +kernel
theorem dX2_spreadBytes_1 : decode cX2_spreadBytes 1 = .ok (.istore_n 1, 1) := by decide +kernel
theorem dX2_spreadBytes_2 : decode cX2_spreadBytes 2 = .ok (.iload_n 1, 1) := by decide +kernel
theorem dX2_spreadBytes_3 : decode cX2_spreadBytes 3 = .ok (.aload_n 0, 1) := by decide +kernel
theorem dX2_spreadBytes_4 : decode cX2_spreadBytes 4 = .ok (.getfield 15, 3) := by decide +kernel
theorem dX2_spreadBytes_7 : decode cX2_spreadBytes 7 = .ok (.if_icmp .ge 58, 3) := by decide +kernel
theorem dX2_spreadBytes_10 : decode cX2_spreadBytes 10 = .ok (.aload_n 0, 1) := by decide +kernel
theorem dX2_spreadBytes_11 : decode cX2_spreadBytes 11 = .ok (.getfield 53, 3) := by decide +kernel
theorem dX2_spreadBytes_14 : decode cX2_spreadBytes 14 = .ok (.iload_n 1, 1) := by decide +kernel
theorem dX2_spreadBytes_15 : decode cX2_spreadBytes 15 = .ok (.iaload, 1) := by decide +kernel
theorem dX2_spreadBytes_16 : decode cX2_spreadBytes 16 = .ok (.istore_n 2, 1) := by decide +kernel
theorem dX2_spreadBytes_17 : decode cX2_spreadBytes 17 = .ok (.aload_n 0, 1) := by decide +kernel
theorem dX2_spreadBytes_18 : decode cX2_spreadBytes 18 = .ok (.getfield 59, 3) := by decide +kernel
theorem dX2_spreadBytes_21 : decode cX2_spreadBytes 21 = .ok (.iload_n 2, 1) := by decide +kernel
theorem dX2_spreadBytes_22 : decode cX2_spreadBytes 22 = .ok (.aload_n 0, 1) := by decide +kernel
theorem dX2_spreadBytes_23 : decode cX2_spreadBytes 23 = .ok (.getfield 27, 3) := by decide +kernel
theorem dX2_spreadBytes_26 : decode cX2_spreadBytes 26 = .ok (.iload_n 2, 1) := by decide +kernel
theorem dX2_spreadBytes_27 : decode cX2_spreadBytes 27 = .ok (.invokestatic 78, 3) := by decide +kernel
theorem dX2_spreadBytes_30 : decode cX2_spreadBytes 30 = .ok (.iconst 1, 1) := by decide +kernel
theorem dX2_spreadBytes_31 : decode cX2_spreadBytes 31 = .ok (.if_icmp .ne 7, 3) := by decide +kernel
theorem dX2_spreadBytes_34 : decode cX2_spreadBytes 34 = .ok (.lconst 0, 1) := by decide +kernel
theorem dX2_spreadBytes_35 : decode cX2_spreadBytes 35 = .ok (.goto 23, 3) := by decide +kernel
theorem dX2_spreadBytes_38 : decode cX2_spreadBytes 38 = .ok (.aload_n 0, 1) := by decide +kernel
theorem dX2_spreadBytes_39 : decode cX2_spreadBytes 39 = .ok (.iload_n 2, 1) := by decide +kernel
theorem dX2_spreadBytes_40 : decode cX2_spreadBytes 40 = .ok (.aload_n 0, 1) := by decide +kernel
theorem dX2_spreadBytes_41 : decode cX2_spreadBytes 41 = .ok (.getfield 41, 3) := by decide +kernel
theorem dX2_spreadBytes_44 : decode cX2_spreadBytes 44 = .ok (.aload_n 0, 1) := by decide +kernel
theorem dX2_spreadBytes_45 : decode cX2_spreadBytes 45 = .ok (.getfield 59, 3) := by decide +kernel
theorem dX2_spreadBytes_48 : decode cX2_spreadBytes 48 = .ok (.invokevirtual 84, 3) := by decide +kernel
theorem dX2_spreadBytes_51 : decode cX2_spreadBytes 51 = .ok (.aload_n 0, 1) := by decide +kernel
theorem dX2_spreadBytes_52 : decode cX2_spreadBytes 52 = .ok (.getfield 37, 3) := by decide +kernel
theorem dX2_spreadBytes_55 : decode cX2_spreadBytes 55 = .ok (.iload_n 2, 1) := by decide +kernel
theorem dX2_spreadBytes_56 : decode cX2_spreadBytes 56 = .ok (.laload, 1) := by decide +kernel
theorem dX2_spreadBytes_57 : decode cX2_spreadBytes 57 = .ok (.lxor, 1) := by decide +kernel
theorem dX2_spreadBytes_58 : decode cX2_spreadBytes 58 = .ok (.lastore, 1) := by decide +kernel
theorem dX2_spreadBytes_59 : decode cX2_spreadBytes 59 = .ok (.iinc 1 1, 3) := by decide +kernel
theorem dX2_spreadBytes_62 : decode cX2_spreadBytes 62 = .ok (.goto (-60), 3) := by decide +kernel
theorem dX2_spreadBytes_65 : decode cX2_spreadBytes 65 = .ok (.return_, 1) := by decide +kernel
set_option maxRecDepth 20000 in
theorem ggX2_mixed_X2_insOf : GoodIn wsX2_mixed wsX2_insOf := goodIn_r _ [8, 1, 9, 10, 19, 20, 21, 22, 23, 24, 25, 26, 27, 28, 29, 30, 31, 32, 33, 34] (by decide +kernel) (by decide +kernel)
set_option maxRecDepth 20000 in
theorem gX2_mixed_X2_insOf : GoodIn wsX2_mixed (wsV RX2 66 RX2 yX2_insOf wsX2_insOf) := goodIn_app (goodIn_of _ (by decide +kernel)) ggX2_mixed_X2_insOf
set_option maxRecDepth 20000 in
theorem ggX2_mixed_X5_slot : GoodIn wsX2_mixed wsX5_slot := goodIn_r _ [13] (by decide +kernel) (by decide +kernel)
set_option maxRecDepth 20000 in
theorem gX2_mixed_X5_slot_n62 : GoodIn wsX2_mixed (wsX5_slot) := ggX2_mixed_X5_slot
set_option maxRecDepth 20000 in
theorem ggX2_mixed_X5_scaled : GoodIn wsX2_mixed wsX5_scaled := goodIn_r _ [15, 16, 17, 18] (by decide +kernel) (by decide +kernel)
set_option maxRecDepth 20000 in
theorem gX2_mixed_X5_scaled_n88 : GoodIn wsX2_mixed (wsX5_scaled) := ggX2_mixed_X5_scaled
theorem dX2_mixed_0 : decode cX2_mixed 0 = .ok (.lconst 0, 1) := by decide +kernel
theorem dX2_mixed_1 : decode cX2_mixed 1 = .ok (.lstore 4, 2) := by decide +kernel
theorem dX2_mixed_3 : decode cX2_mixed 3 = .ok (.aload_n 0, 1) := by decide +kernel
theorem dX2_mixed_4 : decode cX2_mixed 4 = .ok (.getfield 30, 3) := by decide +kernel
theorem dX2_mixed_7 : decode cX2_mixed 7 = .ok (.iload_n 1, 1) := by decide +kernel
theorem dX2_mixed_8 : decode cX2_mixed 8 = .ok (.iaload, 1) := by decide +kernel
theorem dX2_mixed_9 : decode cX2_mixed 9 = .ok (.istore 6, 2) := by decide +kernel
theorem dX2_mixed_11 : decode cX2_mixed 11 = .ok (.aload_n 0, 1) := by decide +kernel
theorem dX2_mixed_12 : decode cX2_mixed 12 = .ok (.iload_n 1, 1) := by decide +kernel
theorem dX2_mixed_13 : decode cX2_mixed 13 = .ok (.invokevirtual 66, 3) := by decide +kernel
theorem dX2_mixed_16 : decode cX2_mixed 16 = .ok (.istore 7, 2) := by decide +kernel
theorem dX2_mixed_18 : decode cX2_mixed 18 = .ok (.iconst 0, 1) := by decide +kernel
theorem dX2_mixed_19 : decode cX2_mixed 19 = .ok (.istore 8, 2) := by decide +kernel
theorem dX2_mixed_21 : decode cX2_mixed 21 = .ok (.iload 8, 2) := by decide +kernel
theorem dX2_mixed_23 : decode cX2_mixed 23 = .ok (.iload 7, 2) := by decide +kernel
theorem dX2_mixed_25 : decode cX2_mixed 25 = .ok (.if_icmp .ge 58, 3) := by decide +kernel
theorem dX2_mixed_28 : decode cX2_mixed 28 = .ok (.iload 6, 2) := by decide +kernel
theorem dX2_mixed_30 : decode cX2_mixed 30 = .ok (.ifCond .ne 10, 3) := by decide +kernel
theorem dX2_mixed_33 : decode cX2_mixed 33 = .ok (.aload_n 2, 1) := by decide +kernel
theorem dX2_mixed_34 : decode cX2_mixed 34 = .ok (.iload 8, 2) := by decide +kernel
theorem dX2_mixed_36 : decode cX2_mixed 36 = .ok (.laload, 1) := by decide +kernel
theorem dX2_mixed_37 : decode cX2_mixed 37 = .ok (.goto 17, 3) := by decide +kernel
theorem dX2_mixed_40 : decode cX2_mixed 40 = .ok (.aload_n 3, 1) := by decide +kernel
theorem dX2_mixed_41 : decode cX2_mixed 41 = .ok (.aload_n 0, 1) := by decide +kernel
theorem dX2_mixed_42 : decode cX2_mixed 42 = .ok (.getfield 47, 3) := by decide +kernel
theorem dX2_mixed_45 : decode cX2_mixed 45 = .ok (.iload 6, 2) := by decide +kernel
theorem dX2_mixed_47 : decode cX2_mixed 47 = .ok (.iload 8, 2) := by decide +kernel
theorem dX2_mixed_49 : decode cX2_mixed 49 = .ok (.invokestatic 62, 3) := by decide +kernel
theorem dX2_mixed_52 : decode cX2_mixed 52 = .ok (.iaload, 1) := by decide +kernel
theorem dX2_mixed_53 : decode cX2_mixed 53 = .ok (.laload, 1) := by decide +kernel
theorem dX2_mixed_54 : decode cX2_mixed 54 = .ok (.lstore 9, 2) := by decide +kernel
theorem dX2_mixed_56 : decode cX2_mixed 56 = .ok (.lload 4, 2) := by decide +kernel
theorem dX2_mixed_58 : decode cX2_mixed 58 = .ok (.lload 9, 2) := by decide +kernel
theorem dX2_mixed_60 : decode cX2_mixed 60 = .ok (.aload_n 0, 1) := by decide +kernel
theorem dX2_mixed_61 : decode cX2_mixed 61 = .ok (.getfield 44, 3) := by decide +kernel
theorem dX2_mixed_64 : decode cX2_mixed 64 = .ok (.iload_n 1, 1) := by decide +kernel
theorem dX2_mixed_65 : decode cX2_mixed 65 = .ok (.iload 8, 2) := by decide +kernel
theorem dX2_mixed_67 : decode cX2_mixed 67 = .ok (.invokestatic 62, 3) := by decide +kernel
theorem dX2_mixed_70 : decode cX2_mixed 70 = .ok (.iaload, 1) := by decide +kernel
theorem dX2_mixed_71 : decode cX2_mixed 71 = .ok (.invokestatic 88, 3) := by decide +kernel
theorem dX2_mixed_74 : decode cX2_mixed 74 = .ok (.lxor, 1) := by decide +kernel
theorem dX2_mixed_75 : decode cX2_mixed 75 = .ok (.lstore 4, 2) := by decide +kernel
theorem dX2_mixed_77 : decode cX2_mixed 77 = .ok (.iinc 8 1, 3) := by decide +kernel
theorem dX2_mixed_80 : decode cX2_mixed 80 = .ok (.goto (-59), 3) := by decide +kernel
theorem dX2_mixed_83 : decode cX2_mixed 83 = .ok (.lload 4, 2) := by decide +kernel
theorem dX2_mixed_85 : decode cX2_mixed 85 = .ok (.lreturn, 1) := by decide +kernel
theorem dX3_init_0 : decode cX3_init 0 = .ok (.aload_n 0, 1) := by decide +kernel
theorem dX3_init_1 : decode cX3_init 1 = .ok (.invokespecial 3, 3) := by decide +kernel
theorem dX3_init_4 : decode cX3_init 4 = .ok (.aload_n 0, 1) := by decide +kernel
theorem dX3_init_5 : decode cX3_init 5 = .ok (.iconst 4, 1) := by decide +kernel
theorem dX3_init_6 : decode cX3_init 6 = .ok (.newarray .long, 2) := by decide +kernel
theorem dX3_init_8 : decode cX3_init 8 = .ok (.putfield 9, 3) := by decide +kernel
theorem dX3_init_11 : decode cX3_init 11 = .ok (.aload_n 0, 1) := by decide +kernel
theorem dX3_init_12 : decode cX3_init 12 = .ok (.iconst 4, 1) := by decide +kernel
theorem dX3_init_13 : decode cX3_init 13 = .ok (.newarray .int, 2) := by decide +kernel
theorem dX3_init_15 : decode cX3_init 15 = .ok (.putfield 15, 3) := by decide +kernel
theorem dX3_init_18 : decode cX3_init 18 = .ok (.aload_n 0, 1) := by decide +kernel
theorem dX3_init_19 : decode cX3_init 19 = .ok (.iconst 0, 1) := by decide +kernel
theorem dX3_init_20 : decode cX3_init 20 = .ok (.putfield 19, 3) := by decide +kernel
theorem dX3_init_23 : decode cX3_init 23 = .ok (.aload_n 0, 1) := by decide +kernel
theorem dX3_init_24 : decode cX3_init 24 = .ok (.aload_n 1, 1) := by decide +kernel
theorem dX3_init_25 : decode cX3_init 25 = .ok (.putfield 23, 3) := by decide +kernel
theorem dX3_init_28 : decode cX3_init 28 = .ok (.return_, 1) := by decide +kernel
set_option maxRecDepth 20000 in
theorem ggX3_rankNow_X2_spreadVectors : GoodIn wsX3_rankNow wsX2_spreadVectors := goodIn_r _ [7, 8, 9, 10, 11, 12, 13, 14, 15, 16, 6, 17, 18, 19, 20, 21, 22, 23, 24, 25, 26, 27, 28, 29, 30, 31, 32, 33, 66, 67, 68, 69, 70, 71, 72, 73, 74, 75, 76, 77, 78, 79, 80, 81] (by decide +kernel) (by decide +kernel)
set_option maxRecDepth 20000 in
theorem gX3_rankNow_X2_spreadVectors : GoodIn wsX3_rankNow (wsV RX3 32 RX2 yX2_spreadVectors wsX2_spreadVectors) := goodIn_app (goodIn_of _ (by decide +kernel)) ggX3_rankNow_X2_spreadVectors
set_option maxRecDepth 20000 in
theorem ggX3_rankNow_X3_gather : GoodIn wsX3_rankNow wsX3_gather := goodIn_r _ [38, 39, 40, 1, 41, 42, 43, 44, 45, 46, 47, 27, 12, 28, 48, 49, 50, 37, 51, 52, 53, 54, 55, 29, 30, 31, 32, 33, 56, 57, 58, 59, 60, 61, 62, 63, 64, 65, 66, 67, 68, 69, 70, 71, 72, 73, 74, 75, 76, 77, 78, 79, 80, 81] (by decide +kernel) (by decide +kernel)
set_option maxRecDepth 20000 in
theorem gX3_rankNow_X3_gather : GoodIn wsX3_rankNow (wsV RX3 36 RX3 yX3_gather wsX3_gather) := goodIn_app (goodIn_of _ (by decide +kernel)) ggX3_rankNow_X3_gather
theorem dX3_rankNow_0 : decode cX3_rankNow 0 = .ok (.aload_n 0, 1) := by decide +kernel
theorem dX3_rankNow_1 : decode cX3_rankNow 1 = .ok (.getfield 23, 3) := by decide +kernel
theorem dX3_rankNow_4 : decode cX3_rankNow 4 = .ok (.aload_n 0, 1) := by decide +kernel
theorem dX3_rankNow_5 : decode cX3_rankNow 5 = .ok (.getfield 23, 3) := by decide +kernel
theorem dX3_rankNow_8 : decode cX3_rankNow 8 = .ok (.getfield 27, 3) := by decide +kernel
theorem dX3_rankNow_11 : decode cX3_rankNow 11 = .ok (.invokevirtual 32, 3) := by decide +kernel
theorem dX3_rankNow_14 : decode cX3_rankNow 14 = .ok (.aload_n 0, 1) := by decide +kernel
theorem dX3_rankNow_15 : decode cX3_rankNow 15 = .ok (.iload_n 1, 1) := by decide +kernel
theorem dX3_rankNow_16 : decode cX3_rankNow 16 = .ok (.invokevirtual 36, 3) := by decide +kernel
theorem dX3_rankNow_19 : decode cX3_rankNow 19 = .ok (.ireturn, 1) := by decide +kernel
set_option maxRecDepth 20000 in
theorem ggX3_gather_J7_fill_d0a16 : GoodIn wsX3_gather wsJ7_fill_d0a16 := goodIn_r _ [10] (by decide +kernel) (by decide +kernel)
set_option maxRecDepth 20000 in
theorem gX3_gather_J7_fill_d0a16 : GoodIn wsX3_gather (va_wsS RX3 40 yJ7_fill_d0a16 wsJ7_fill_d0a16) := goodIn_app (goodIn_of _ (by decide +kernel)) ggX3_gather_J7_fill_d0a16
set_option maxRecDepth 20000 in
theorem ggX3_gather_X5_slot : GoodIn wsX3_gather wsX5_slot := goodIn_r _ [13] (by decide +kernel) (by decide +kernel)
set_option maxRecDepth 20000 in
theorem gX3_gather_X5_slot_n55 : GoodIn wsX3_gather (wsX5_slot) := ggX3_gather_X5_slot
set_option maxRecDepth 20000 in
theorem ggX3_gather_X3_take : GoodIn wsX3_gather wsX3_take := goodIn_r _ [18, 3, 19, 1, 5, 2, 20, 21, 12, 22, 23, 24, 25, 26, 27, 28, 29, 17, 30, 31, 32, 33, 34, 35, 36, 37, 38, 39, 40, 41, 42, 43, 44, 45, 46, 47, 48, 49, 50, 51, 52, 53] (by decide +kernel) (by decide +kernel)
set_option maxRecDepth 20000 in
theorem gX3_gather_X3_take : GoodIn wsX3_gather (wsV RX3 59 RX3 yX3_take wsX3_take) := goodIn_app (goodIn_of _ (by decide +kernel)) ggX3_gather_X3_take
theorem dX3_gather_0 : decode cX3_gather 0 = .ok (.aload_n 0, 1) := by decide +kernel
theorem dX3_gather_1 : decode cX3_gather 1 = .ok (.iconst 0, 1) := by decide +kernel
theorem dX3_gather_2 : decode cX3_gather 2 = .ok (.putfield 19, 3) := by decide +kernel
theorem dX3_gather_5 : decode cX3_gather 5 = .ok (.aload_n 0, 1) := by decide +kernel
theorem dX3_gather_6 : decode cX3_gather 6 = .ok (.getfield 9, 3) := by decide +kernel
theorem dX3_gather_9 : decode cX3_gather 9 = .ok (.lconst 0, 1) := by decide +kernel
theorem dX3_gather_10 : decode cX3_gather 10 = .ok (.invokestatic 40, 3) := by decide +kernel
theorem dX3_gather_13 : decode cX3_gather 13 = .ok (.iconst 0, 1) := by decide +kernel
theorem dX3_gather_14 : decode cX3_gather 14 = .ok (.istore_n 2, 1) := by decide +kernel
theorem dX3_gather_15 : decode cX3_gather 15 = .ok (.iload_n 2, 1) := by decide +kernel
theorem dX3_gather_16 : decode cX3_gather 16 = .ok (.aload_n 0, 1) := by decide +kernel
theorem dX3_gather_17 : decode cX3_gather 17 = .ok (.getfield 23, 3) := by decide +kernel
theorem dX3_gather_20 : decode cX3_gather 20 = .ok (.getfield 46, 3) := by decide +kernel
theorem dX3_gather_23 : decode cX3_gather 23 = .ok (.iload_n 1, 1) := by decide +kernel
theorem dX3_gather_24 : decode cX3_gather 24 = .ok (.iaload, 1) := by decide +kernel
theorem dX3_gather_25 : decode cX3_gather 25 = .ok (.if_icmp .ge 40, 3) := by decide +kernel
theorem dX3_gather_28 : decode cX3_gather 28 = .ok (.aload_n 0, 1) := by decide +kernel
theorem dX3_gather_29 : decode cX3_gather 29 = .ok (.getfield 19, 3) := by decide +kernel
theorem dX3_gather_32 : decode cX3_gather 32 = .ok (.aload_n 0, 1) := by decide +kernel
theorem dX3_gather_33 : decode cX3_gather 33 = .ok (.getfield 23, 3) := by decide +kernel
theorem dX3_gather_36 : decode cX3_gather 36 = .ok (.getfield 49, 3) := by decide +kernel
theorem dX3_gather_39 : decode cX3_gather 39 = .ok (.if_icmp .ge 26, 3) := by decide +kernel
theorem dX3_gather_42 : decode cX3_gather 42 = .ok (.aload_n 0, 1) := by decide +kernel
theorem dX3_gather_43 : decode cX3_gather 43 = .ok (.aload_n 0, 1) := by decide +kernel
theorem dX3_gather_44 : decode cX3_gather 44 = .ok (.getfield 23, 3) := by decide +kernel
theorem dX3_gather_47 : decode cX3_gather 47 = .ok (.getfield 52, 3) := by decide +kernel
theorem dX3_gather_50 : decode cX3_gather 50 = .ok (.iload_n 1, 1) := by decide +kernel
theorem dX3_gather_51 : decode cX3_gather 51 = .ok (.iload_n 2, 1) := by decide +kernel
theorem dX3_gather_52 : decode cX3_gather 52 = .ok (.invokestatic 55, 3) := by decide +kernel
theorem dX3_gather_55 : decode cX3_gather 55 = .ok (.iaload, 1) := by decide +kernel
theorem dX3_gather_56 : decode cX3_gather 56 = .ok (.invokevirtual 59, 3) := by decide +kernel
theorem dX3_gather_59 : decode cX3_gather 59 = .ok (.iinc 2 1, 3) := by decide +kernel
theorem dX3_gather_62 : decode cX3_gather 62 = .ok (.goto (-47), 3) := by decide +kernel
theorem dX3_gather_65 : decode cX3_gather 65 = .ok (.aload_n 0, 1) := by decide +kernel
theorem dX3_gather_66 : decode cX3_gather 66 = .ok (.getfield 19, 3) := by decide +kernel
theorem dX3_gather_69 : decode cX3_gather 69 = .ok (.ireturn, 1) := by decide +kernel
set_option maxRecDepth 20000 in
theorem ggX3_take_X5_byteOf : GoodIn wsX3_take wsX5_byteOf := goodIn_r _ [9] (by decide +kernel) (by decide +kernel)
set_option maxRecDepth 20000 in
theorem gX3_take_X5_byteOf_n68 : GoodIn wsX3_take (wsX5_byteOf) := ggX3_take_X5_byteOf
set_option maxRecDepth 20000 in
theorem ggX3_take_X5_scaled : GoodIn wsX3_take wsX5_scaled := goodIn_r _ [11, 12, 13, 14] (by decide +kernel) (by decide +kernel)
set_option maxRecDepth 20000 in
theorem gX3_take_X5_scaled_n72 : GoodIn wsX3_take (wsX5_scaled) := ggX3_take_X5_scaled
set_option maxRecDepth 20000 in
theorem ggX3_take_X3_lastPieceIn : GoodIn wsX3_take wsX3_lastPieceIn := goodIn_r _ [18, 7, 8, 9] (by decide +kernel) (by decide +kernel)
set_option maxRecDepth 20000 in
theorem gX3_take_X3_lastPieceIn : GoodIn wsX3_take (va_wsS RX3 76 yX3_lastPieceIn wsX3_lastPieceIn) := goodIn_app (goodIn_of _ (by decide +kernel)) ggX3_take_X3_lastPieceIn
set_option maxRecDepth 20000 in
theorem ggX3_take_X5_inverseOf : GoodIn wsX3_take wsX5_inverseOf := goodIn_r _ [20, 21, 10, 8, 11, 12, 13, 14] (by decide +kernel) (by decide +kernel)
set_option maxRecDepth 20000 in
theorem gX3_take_X5_inverseOf_n79 : GoodIn wsX3_take (wsX5_inverseOf) := ggX3_take_X5_inverseOf
theorem dX3_take_0 : decode cX3_take 0 = .ok (.aload_n 0, 1) := by decide +kernel
theorem dX3_take_1 : decode cX3_take 1 = .ok (.getfield 23, 3) := by decide +kernel
theorem dX3_take_4 : decode cX3_take 4 = .ok (.getfield 62, 3) := by decide +kernel
theorem dX3_take_7 : decode cX3_take 7 = .ok (.iload_n 1, 1) := by decide +kernel
theorem dX3_take_8 : decode cX3_take 8 = .ok (.laload, 1) := by decide +kernel
theorem dX3_take_9 : decode cX3_take 9 = .ok (.getstatic 65, 3) := by decide +kernel
theorem dX3_take_12 : decode cX3_take 12 = .ok (.aload_n 0, 1) := by decide +kernel
theorem dX3_take_13 : decode cX3_take 13 = .ok (.getfield 19, 3) := by decide +kernel
theorem dX3_take_16 : decode cX3_take 16 = .ok (.laload, 1) := by decide +kernel
theorem dX3_take_17 : decode cX3_take 17 = .ok (.bipush 32, 2) := by decide +kernel
theorem dX3_take_19 : decode cX3_take 19 = .ok (.lshl, 1) := by decide +kernel
theorem dX3_take_20 : decode cX3_take 20 = .ok (.lor, 1) := by decide +kernel
theorem dX3_take_21 : decode cX3_take 21 = .ok (.lstore_n 2, 1) := by decide +kernel
theorem dX3_take_22 : decode cX3_take 22 = .ok (.iconst 0, 1) := by decide +kernel
theorem dX3_take_23 : decode cX3_take 23 = .ok (.istore 4, 2) := by decide +kernel
theorem dX3_take_25 : decode cX3_take 25 = .ok (.iload 4, 2) := by decide +kernel
theorem dX3_take_27 : decode cX3_take 27 = .ok (.aload_n 0, 1) := by decide +kernel
theorem dX3_take_28 : decode cX3_take 28 = .ok (.getfield 23, 3) := by decide +kernel
theorem dX3_take_31 : decode cX3_take 31 = .ok (.getfield 49, 3) := by decide +kernel
theorem dX3_take_34 : decode cX3_take 34 = .ok (.if_icmp .ge 28, 3) := by decide +kernel
theorem dX3_take_37 : decode cX3_take 37 = .ok (.lload_n 2, 1) := by decide +kernel
theorem dX3_take_38 : decode cX3_take 38 = .ok (.aload_n 0, 1) := by decide +kernel
theorem dX3_take_39 : decode cX3_take 39 = .ok (.getfield 9, 3) := by decide +kernel
theorem dX3_take_42 : decode cX3_take 42 = .ok (.iload 4, 2) := by decide +kernel
theorem dX3_take_44 : decode cX3_take 44 = .ok (.laload, 1) := by decide +kernel
theorem dX3_take_45 : decode cX3_take 45 = .ok (.lload_n 2, 1) := by decide +kernel
theorem dX3_take_46 : decode cX3_take 46 = .ok (.iload 4, 2) := by decide +kernel
theorem dX3_take_48 : decode cX3_take 48 = .ok (.invokestatic 68, 3) := by decide +kernel
theorem dX3_take_51 : decode cX3_take 51 = .ok (.invokestatic 72, 3) := by decide +kernel
theorem dX3_take_54 : decode cX3_take 54 = .ok (.lxor, 1) := by decide +kernel
theorem dX3_take_55 : decode cX3_take 55 = .ok (.lstore_n 2, 1) := by decide +kernel
theorem dX3_take_56 : decode cX3_take 56 = .ok (.iinc 4 1, 3) := by decide +kernel
theorem dX3_take_59 : decode cX3_take 59 = .ok (.goto (-34), 3) := by decide +kernel
theorem dX3_take_62 : decode cX3_take 62 = .ok (.lload_n 2, 1) := by decide +kernel
theorem dX3_take_63 : decode cX3_take 63 = .ok (.aload_n 0, 1) := by decide +kernel
theorem dX3_take_64 : decode cX3_take 64 = .ok (.getfield 23, 3) := by decide +kernel
theorem dX3_take_67 : decode cX3_take 67 = .ok (.getfield 49, 3) := by decide +kernel
theorem dX3_take_70 : decode cX3_take 70 = .ok (.invokestatic 76, 3) := by decide +kernel
theorem dX3_take_73 : decode cX3_take 73 = .ok (.istore 4, 2) := by decide +kernel
theorem dX3_take_75 : decode cX3_take 75 = .ok (.iload 4, 2) := by decide +kernel
theorem dX3_take_77 : decode cX3_take 77 = .ok (.iconst (-1), 1) := by decide +kernel
theorem dX3_take_78 : decode cX3_take 78 = .ok (.if_icmp .ne 4, 3) := by decide +kernel
theorem dX3_take_81 : decode cX3_take 81 = .ok (.return_, 1) := by decide +kernel
theorem dX3_take_82 : decode cX3_take 82 = .ok (.lload_n 2, 1) := by decide +kernel
theorem dX3_take_83 : decode cX3_take 83 = .ok (.lload_n 2, 1) := by decide +kernel
theorem dX3_take_84 : decode cX3_take 84 = .ok (.iload 4, 2) := by decide +kernel
theorem dX3_take_86 : decode cX3_take 86 = .ok (.invokestatic 68, 3) := by decide +kernel
theorem dX3_take_89 : decode cX3_take 89 = .ok (.invokestatic 79, 3) := by decide +kernel
theorem dX3_take_92 : decode cX3_take 92 = .ok (.invokestatic 72, 3) := by decide +kernel
theorem dX3_take_95 : decode cX3_take 95 = .ok (.lstore_n 2, 1) := by decide +kernel
theorem dX3_take_96 : decode cX3_take 96 = .ok (.iconst 0, 1) := by decide +kernel
theorem dX3_take_97 : decode cX3_take 97 = .ok (.istore 5, 2) := by decide +kernel
theorem dX3_take_99 : decode cX3_take 99 = .ok (.iload 5, 2) := by decide +kernel
theorem dX3_take_101 : decode cX3_take 101 = .ok (.aload_n 0, 1) := by decide +kernel
theorem dX3_take_102 : decode cX3_take 102 = .ok (.getfield 23, 3) := by decide +kernel
theorem dX3_take_105 : decode cX3_take 105 = .ok (.getfield 49, 3) := by decide +kernel
theorem dX3_take_108 : decode cX3_take 108 = .ok (.if_icmp .ge 35, 3) := by decide +kernel
theorem dX3_take_111 : decode cX3_take 111 = .ok (.aload_n 0, 1) := by decide +kernel
theorem dX3_take_112 : decode cX3_take 112 = .ok (.getfield 9, 3) := by decide +kernel
theorem dX3_take_115 : decode cX3_take 115 = .ok (.iload 5, 2) := by decide +kernel
theorem dX3_take_117 : decode cX3_take 117 = .ok (.dup2, 1) := by decide +kernel
theorem dX3_take_118 : decode cX3_take 118 = .ok (.laload, 1) := by decide +kernel
theorem dX3_take_119 : decode cX3_take 119 = .ok (.lload_n 2, 1) := by decide +kernel
theorem dX3_take_120 : decode cX3_take 120 = .ok (.aload_n 0, 1) := by decide +kernel
theorem dX3_take_121 : decode cX3_take 121 = .ok (.getfield 9, 3) := by decide +kernel
theorem dX3_take_124 : decode cX3_take 124 = .ok (.iload 5, 2) := by decide +kernel
theorem dX3_take_126 : decode cX3_take 126 = .ok (.laload, 1) := by decide +kernel
theorem dX3_take_127 : decode cX3_take 127 = .ok (.iload 4, 2) := by decide +kernel
theorem dX3_take_129 : decode cX3_take 129 = .ok (.invokestatic 68, 3) := by decide +kernel
theorem dX3_take_132 : decode cX3_take 132 = .ok (.invokestatic 72, 3) := by decide +kernel
theorem dX3_take_135 : decode cX3_take 135 = .ok (.lxor, 1) := by decide +kernel
theorem dX3_take_136 : decode cX3_take 136 = .ok (.lastore, 1) := by decide +kernel
theorem dX3_take_137 : decode cX3_take 137 = .ok (.iinc 5 1, 3) := by decide +kernel
theorem dX3_take_140 : decode cX3_take 140 = .ok (.goto (-41), 3) := by decide +kernel
theorem dX3_take_143 : decode cX3_take 143 = .ok (.aload_n 0, 1) := by decide +kernel
theorem dX3_take_144 : decode cX3_take 144 = .ok (.getfield 9, 3) := by decide +kernel
theorem dX3_take_147 : decode cX3_take 147 = .ok (.iload 4, 2) := by decide +kernel
theorem dX3_take_149 : decode cX3_take 149 = .ok (.lload_n 2, 1) := by decide +kernel
theorem dX3_take_150 : decode cX3_take 150 = .ok (.lastore, 1) := by decide +kernel
theorem dX3_take_151 : decode cX3_take 151 = .ok (.aload_n 0, 1) := by decide +kernel
theorem dX3_take_152 : decode cX3_take 152 = .ok (.getfield 15, 3) := by decide +kernel
theorem dX3_take_155 : decode cX3_take 155 = .ok (.aload_n 0, 1) := by decide +kernel
theorem dX3_take_156 : decode cX3_take 156 = .ok (.getfield 19, 3) := by decide +kernel
theorem dX3_take_159 : decode cX3_take 159 = .ok (.iload_n 1, 1) := by decide +kernel
theorem dX3_take_160 : decode cX3_take 160 = .ok (.iastore, 1) := by decide +kernel
theorem dX3_take_161 : decode cX3_take 161 = .ok (.aload_n 0, 1) := by decide +kernel
theorem dX3_take_162 : decode cX3_take 162 = .ok (.dup, 1) := by decide +kernel
theorem dX3_take_163 : decode cX3_take 163 = .ok (.getfield 19, 3) := by decide +kernel
theorem dX3_take_166 : decode cX3_take 166 = .ok (.iconst 1, 1) := by decide +kernel
theorem dX3_take_167 : decode cX3_take 167 = .ok (.iadd, 1) := by decide +kernel
theorem dX3_take_168 : decode cX3_take 168 = .ok (.putfield 19, 3) := by decide +kernel
theorem dX3_take_171 : decode cX3_take 171 = .ok (.return_, 1) := by decide +kernel
set_option maxRecDepth 20000 in
theorem ggX3_lastPieceIn_X5_byteOf : GoodIn wsX3_lastPieceIn wsX5_byteOf := goodIn_r _ [3] (by decide +kernel) (by decide +kernel)
set_option maxRecDepth 20000 in
theorem gX3_lastPieceIn_X5_byteOf_n68 : GoodIn wsX3_lastPieceIn (wsX5_byteOf) := ggX3_lastPieceIn_X5_byteOf
theorem dX3_lastPieceIn_0 : decode cX3_lastPieceIn 0 = .ok (.iload_n 2, 1) := by decide +kernel
theorem dX3_lastPieceIn_1 : decode cX3_lastPieceIn 1 = .ok (.iconst 1, 1) := by decide +kernel
theorem dX3_lastPieceIn_2 : decode cX3_lastPieceIn 2 = .ok (.isub, 1) := by decide +kernel
theorem dX3_lastPieceIn_3 : decode cX3_lastPieceIn 3 = .ok (.istore_n 3, 1) := by decide +kernel
theorem dX3_lastPieceIn_4 : decode cX3_lastPieceIn 4 = .ok (.iload_n 3, 1) := by decide +kernel
theorem dX3_lastPieceIn_5 : decode cX3_lastPieceIn 5 = .ok (.ifCond .lt 19, 3) := by decide +kernel
theorem dX3_lastPieceIn_8 : decode cX3_lastPieceIn 8 = .ok (.lload_n 0, 1) := by decide +kernel
theorem dX3_lastPieceIn_9 : decode cX3_lastPieceIn 9 = .ok (.iload_n 3, 1) := by decide +kernel
theorem dX3_lastPieceIn_10 : decode cX3_lastPieceIn 10 = .ok (.invokestatic 68, 3) := by decide +kernel
theorem dX3_lastPieceIn_13 : decode cX3_lastPieceIn 13 = .ok (.ifCond .eq 5, 3) := by decide +kernel
theorem dX3_lastPieceIn_16 : decode cX3_lastPieceIn 16 = .ok (.iload_n 3, 1) := by decide +kernel
theorem dX3_lastPieceIn_17 : decode cX3_lastPieceIn 17 = .ok (.ireturn, 1) := by decide +kernel
theorem dX3_lastPieceIn_18 : decode cX3_lastPieceIn 18 = .ok (.iinc 3 (-1), 3) := by decide +kernel
theorem dX3_lastPieceIn_21 : decode cX3_lastPieceIn 21 = .ok (.goto (-17), 3) := by decide +kernel
theorem dX3_lastPieceIn_24 : decode cX3_lastPieceIn 24 = .ok (.iconst (-1), 1) := by decide +kernel
theorem dX3_lastPieceIn_25 : decode cX3_lastPieceIn 25 = .ok (.ireturn, 1) := by decide +kernel
theorem dX3_worksOut_0 : decode cX3_worksOut 0 = .ok (.aload_n 0, 1) := by decide +kernel
theorem dX3_worksOut_1 : decode cX3_worksOut 1 = .ok (.getfield 9, 3) := by decide +kernel
theorem dX3_worksOut_4 : decode cX3_worksOut 4 = .ok (.iload_n 1, 1) := by decide +kernel
theorem dX3_worksOut_5 : decode cX3_worksOut 5 = .ok (.laload, 1) := by decide +kernel
theorem dX3_worksOut_6 : decode cX3_worksOut 6 = .ok (.ldc2_w 82, 3) := by decide +kernel
theorem dX3_worksOut_9 : decode cX3_worksOut 9 = .ok (.land, 1) := by decide +kernel
theorem dX3_worksOut_10 : decode cX3_worksOut 10 = .ok (.getstatic 65, 3) := by decide +kernel
theorem dX3_worksOut_13 : decode cX3_worksOut 13 = .ok (.iload_n 1, 1) := by decide +kernel
theorem dX3_worksOut_14 : decode cX3_worksOut 14 = .ok (.laload, 1) := by decide +kernel
theorem dX3_worksOut_15 : decode cX3_worksOut 15 = .ok (.lcmp, 1) := by decide +kernel
theorem dX3_worksOut_16 : decode cX3_worksOut 16 = .ok (.ifCond .ne 7, 3) := by decide +kernel
theorem dX3_worksOut_19 : decode cX3_worksOut 19 = .ok (.iconst 1, 1) := by decide +kernel
theorem dX3_worksOut_20 : decode cX3_worksOut 20 = .ok (.goto 4, 3) := by decide +kernel
theorem dX3_worksOut_23 : decode cX3_worksOut 23 = .ok (.iconst 0, 1) := by decide +kernel
theorem dX3_worksOut_24 : decode cX3_worksOut 24 = .ok (.ireturn, 1) := by decide +kernel
set_option maxRecDepth 20000 in
theorem ggX3_keyNumber_X5_byteOf : GoodIn wsX3_keyNumber wsX5_byteOf := goodIn_r _ [4] (by decide +kernel) (by decide +kernel)
set_option maxRecDepth 20000 in
theorem gX3_keyNumber_X5_byteOf_n68 : GoodIn wsX3_keyNumber (wsX5_byteOf) := ggX3_keyNumber_X5_byteOf
theorem dX3_keyNumber_0 : decode cX3_keyNumber 0 = .ok (.aload_n 0, 1) := by decide +kernel
theorem dX3_keyNumber_1 : decode cX3_keyNumber 1 = .ok (.getfield 9, 3) := by decide +kernel
theorem dX3_keyNumber_4 : decode cX3_keyNumber 4 = .ok (.iload_n 1, 1) := by decide +kernel
theorem dX3_keyNumber_5 : decode cX3_keyNumber 5 = .ok (.laload, 1) := by decide +kernel
theorem dX3_keyNumber_6 : decode cX3_keyNumber 6 = .ok (.iconst 4, 1) := by decide +kernel
theorem dX3_keyNumber_7 : decode cX3_keyNumber 7 = .ok (.iload_n 2, 1) := by decide +kernel
theorem dX3_keyNumber_8 : decode cX3_keyNumber 8 = .ok (.iadd, 1) := by decide +kernel
theorem dX3_keyNumber_9 : decode cX3_keyNumber 9 = .ok (.invokestatic 68, 3) := by decide +kernel
theorem dX3_keyNumber_12 : decode cX3_keyNumber 12 = .ok (.ireturn, 1) := by decide +kernel
set_option maxRecDepth 20000 in
theorem ggX3_bytesFor_X3_keyNumber : GoodIn wsX3_bytesFor wsX3_keyNumber := goodIn_r _ [9, 10, 11, 12, 13, 19, 20, 21, 22] (by decide +kernel) (by decide +kernel)
set_option maxRecDepth 20000 in
theorem gX3_bytesFor_X3_keyNumber : GoodIn wsX3_bytesFor (wsV RX3 87 RX3 yX3_keyNumber wsX3_keyNumber) := goodIn_app (goodIn_of _ (by decide +kernel)) ggX3_bytesFor_X3_keyNumber
set_option maxRecDepth 20000 in
theorem ggX3_bytesFor_X5_scaled : GoodIn wsX3_bytesFor wsX5_scaled := goodIn_r _ [15, 16, 17, 18] (by decide +kernel) (by decide +kernel)
set_option maxRecDepth 20000 in
theorem gX3_bytesFor_X5_scaled_n72 : GoodIn wsX3_bytesFor (wsX5_scaled) := ggX3_bytesFor_X5_scaled
theorem dX3_bytesFor_0 : decode cX3_bytesFor 0 = .ok (.lconst 0, 1) := by decide +kernel
theorem dX3_bytesFor_1 : decode cX3_bytesFor 1 = .ok (.lstore_n 2, 1) := by decide +kernel
theorem dX3_bytesFor_2 : decode cX3_bytesFor 2 = .ok (.iconst 0, 1) := by decide +kernel
theorem dX3_bytesFor_3 : decode cX3_bytesFor 3 = .ok (.istore 4, 2) := by decide +kernel
theorem dX3_bytesFor_5 : decode cX3_bytesFor 5 = .ok (.iload 4, 2) := by decide +kernel
