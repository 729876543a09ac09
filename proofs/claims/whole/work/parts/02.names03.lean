theorem dX3_bytesFor_7 : decode cX3_bytesFor 7 = .ok (.aload_n 0, 1) := by decide +kernel
theorem dX3_bytesFor_8 : decode cX3_bytesFor 8 = .ok (.getfield 19, 3) := by decide +kernel
theorem dX3_bytesFor_11 : decode cX3_bytesFor 11 = .ok (.if_icmp .ge 37, 3) := by decide +kernel
theorem dX3_bytesFor_14 : decode cX3_bytesFor 14 = .ok (.lload_n 2, 1) := by decide +kernel
theorem dX3_bytesFor_15 : decode cX3_bytesFor 15 = .ok (.aload_n 0, 1) := by decide +kernel
theorem dX3_bytesFor_16 : decode cX3_bytesFor 16 = .ok (.getfield 23, 3) := by decide +kernel
theorem dX3_bytesFor_19 : decode cX3_bytesFor 19 = .ok (.getfield 84, 3) := by decide +kernel
theorem dX3_bytesFor_22 : decode cX3_bytesFor 22 = .ok (.aload_n 0, 1) := by decide +kernel
theorem dX3_bytesFor_23 : decode cX3_bytesFor 23 = .ok (.getfield 15, 3) := by decide +kernel
theorem dX3_bytesFor_26 : decode cX3_bytesFor 26 = .ok (.iload 4, 2) := by decide +kernel
theorem dX3_bytesFor_28 : decode cX3_bytesFor 28 = .ok (.iaload, 1) := by decide +kernel
theorem dX3_bytesFor_29 : decode cX3_bytesFor 29 = .ok (.laload, 1) := by decide +kernel
theorem dX3_bytesFor_30 : decode cX3_bytesFor 30 = .ok (.aload_n 0, 1) := by decide +kernel
theorem dX3_bytesFor_31 : decode cX3_bytesFor 31 = .ok (.iload_n 1, 1) := by decide +kernel
theorem dX3_bytesFor_32 : decode cX3_bytesFor 32 = .ok (.iload 4, 2) := by decide +kernel
theorem dX3_bytesFor_34 : decode cX3_bytesFor 34 = .ok (.invokevirtual 87, 3) := by decide +kernel
theorem dX3_bytesFor_37 : decode cX3_bytesFor 37 = .ok (.invokestatic 72, 3) := by decide +kernel
theorem dX3_bytesFor_40 : decode cX3_bytesFor 40 = .ok (.lxor, 1) := by decide +kernel
theorem dX3_bytesFor_41 : decode cX3_bytesFor 41 = .ok (.lstore_n 2, 1) := by decide +kernel
theorem dX3_bytesFor_42 : decode cX3_bytesFor 42 = .ok (.iinc 4 1, 3) := by decide +kernel
theorem dX3_bytesFor_45 : decode cX3_bytesFor 45 = .ok (.goto (-40), 3) := by decide +kernel
theorem dX3_bytesFor_48 : decode cX3_bytesFor 48 = .ok (.lload_n 2, 1) := by decide +kernel
theorem dX3_bytesFor_49 : decode cX3_bytesFor 49 = .ok (.lreturn, 1) := by decide +kernel
set_option maxRecDepth 20000 in
theorem ggX3_lackNumber_X3_lastPieceIn : GoodIn wsX3_lackNumber wsX3_lastPieceIn := goodIn_r _ [5, 6, 7, 8] (by decide +kernel) (by decide +kernel)
set_option maxRecDepth 20000 in
theorem gX3_lackNumber_X3_lastPieceIn : GoodIn wsX3_lackNumber (va_wsS RX3 76 yX3_lastPieceIn wsX3_lastPieceIn) := goodIn_app (goodIn_of _ (by decide +kernel)) ggX3_lackNumber_X3_lastPieceIn
set_option maxRecDepth 20000 in
theorem ggX3_lackNumber_X5_byteOf : GoodIn wsX3_lackNumber wsX5_byteOf := goodIn_r _ [8] (by decide +kernel) (by decide +kernel)
set_option maxRecDepth 20000 in
theorem gX3_lackNumber_X5_byteOf_n68 : GoodIn wsX3_lackNumber (wsX5_byteOf) := ggX3_lackNumber_X5_byteOf
set_option maxRecDepth 20000 in
theorem ggX3_lackNumber_X5_inverseOf : GoodIn wsX3_lackNumber wsX5_inverseOf := goodIn_r _ [10, 11, 12, 7, 13, 14, 15, 16] (by decide +kernel) (by decide +kernel)
set_option maxRecDepth 20000 in
theorem gX3_lackNumber_X5_inverseOf_n79 : GoodIn wsX3_lackNumber (wsX5_inverseOf) := ggX3_lackNumber_X5_inverseOf
set_option maxRecDepth 20000 in
theorem ggX3_lackNumber_X5_product : GoodIn wsX3_lackNumber wsX5_product := goodIn_r _ [18, 11, 12, 7, 13, 14, 15, 16] (by decide +kernel) (by decide +kernel)
set_option maxRecDepth 20000 in
theorem gX3_lackNumber_X5_product_n90 : GoodIn wsX3_lackNumber (wsX5_product) := ggX3_lackNumber_X5_product
theorem dX3_lackNumber_0 : decode cX3_lackNumber 0 = .ok (.aload_n 0, 1) := by decide +kernel
theorem dX3_lackNumber_1 : decode cX3_lackNumber 1 = .ok (.getfield 9, 3) := by decide +kernel
theorem dX3_lackNumber_4 : decode cX3_lackNumber 4 = .ok (.iload_n 1, 1) := by decide +kernel
theorem dX3_lackNumber_5 : decode cX3_lackNumber 5 = .ok (.laload, 1) := by decide +kernel
theorem dX3_lackNumber_6 : decode cX3_lackNumber 6 = .ok (.lconst 0, 1) := by decide +kernel
theorem dX3_lackNumber_7 : decode cX3_lackNumber 7 = .ok (.lcmp, 1) := by decide +kernel
theorem dX3_lackNumber_8 : decode cX3_lackNumber 8 = .ok (.ifCond .ne 7, 3) := by decide +kernel
theorem dX3_lackNumber_11 : decode cX3_lackNumber 11 = .ok (.iload_n 1, 1) := by decide +kernel
theorem dX3_lackNumber_12 : decode cX3_lackNumber 12 = .ok (.goto 13, 3) := by decide +kernel
theorem dX3_lackNumber_15 : decode cX3_lackNumber 15 = .ok (.aload_n 0, 1) := by decide +kernel
theorem dX3_lackNumber_16 : decode cX3_lackNumber 16 = .ok (.getfield 9, 3) := by decide +kernel
theorem dX3_lackNumber_19 : decode cX3_lackNumber 19 = .ok (.iload_n 1, 1) := by decide +kernel
theorem dX3_lackNumber_20 : decode cX3_lackNumber 20 = .ok (.laload, 1) := by decide +kernel
theorem dX3_lackNumber_21 : decode cX3_lackNumber 21 = .ok (.iload_n 1, 1) := by decide +kernel
theorem dX3_lackNumber_22 : decode cX3_lackNumber 22 = .ok (.invokestatic 76, 3) := by decide +kernel
theorem dX3_lackNumber_25 : decode cX3_lackNumber 25 = .ok (.istore_n 3, 1) := by decide +kernel
theorem dX3_lackNumber_26 : decode cX3_lackNumber 26 = .ok (.iload_n 3, 1) := by decide +kernel
theorem dX3_lackNumber_27 : decode cX3_lackNumber 27 = .ok (.iconst (-1), 1) := by decide +kernel
theorem dX3_lackNumber_28 : decode cX3_lackNumber 28 = .ok (.if_icmp .ne 5, 3) := by decide +kernel
theorem dX3_lackNumber_31 : decode cX3_lackNumber 31 = .ok (.iconst (-1), 1) := by decide +kernel
theorem dX3_lackNumber_32 : decode cX3_lackNumber 32 = .ok (.ireturn, 1) := by decide +kernel
theorem dX3_lackNumber_33 : decode cX3_lackNumber 33 = .ok (.iload_n 3, 1) := by decide +kernel
theorem dX3_lackNumber_34 : decode cX3_lackNumber 34 = .ok (.iload_n 1, 1) := by decide +kernel
theorem dX3_lackNumber_35 : decode cX3_lackNumber 35 = .ok (.if_icmp .ne 7, 3) := by decide +kernel
theorem dX3_lackNumber_38 : decode cX3_lackNumber 38 = .ok (.iconst 1, 1) := by decide +kernel
theorem dX3_lackNumber_39 : decode cX3_lackNumber 39 = .ok (.goto 16, 3) := by decide +kernel
theorem dX3_lackNumber_42 : decode cX3_lackNumber 42 = .ok (.aload_n 0, 1) := by decide +kernel
theorem dX3_lackNumber_43 : decode cX3_lackNumber 43 = .ok (.getfield 9, 3) := by decide +kernel
theorem dX3_lackNumber_46 : decode cX3_lackNumber 46 = .ok (.iload_n 1, 1) := by decide +kernel
theorem dX3_lackNumber_47 : decode cX3_lackNumber 47 = .ok (.laload, 1) := by decide +kernel
theorem dX3_lackNumber_48 : decode cX3_lackNumber 48 = .ok (.iload_n 3, 1) := by decide +kernel
theorem dX3_lackNumber_49 : decode cX3_lackNumber 49 = .ok (.invokestatic 68, 3) := by decide +kernel
theorem dX3_lackNumber_52 : decode cX3_lackNumber 52 = .ok (.invokestatic 79, 3) := by decide +kernel
theorem dX3_lackNumber_55 : decode cX3_lackNumber 55 = .ok (.istore 4, 2) := by decide +kernel
theorem dX3_lackNumber_57 : decode cX3_lackNumber 57 = .ok (.iload_n 2, 1) := by decide +kernel
theorem dX3_lackNumber_58 : decode cX3_lackNumber 58 = .ok (.iload_n 3, 1) := by decide +kernel
theorem dX3_lackNumber_59 : decode cX3_lackNumber 59 = .ok (.if_icmp .ne 8, 3) := by decide +kernel
theorem dX3_lackNumber_62 : decode cX3_lackNumber 62 = .ok (.iload 4, 2) := by decide +kernel
theorem dX3_lackNumber_64 : decode cX3_lackNumber 64 = .ok (.goto 18, 3) := by decide +kernel
theorem dX3_lackNumber_67 : decode cX3_lackNumber 67 = .ok (.aload_n 0, 1) := by decide +kernel
theorem dX3_lackNumber_68 : decode cX3_lackNumber 68 = .ok (.getfield 9, 3) := by decide +kernel
theorem dX3_lackNumber_71 : decode cX3_lackNumber 71 = .ok (.iload_n 2, 1) := by decide +kernel
theorem dX3_lackNumber_72 : decode cX3_lackNumber 72 = .ok (.laload, 1) := by decide +kernel
theorem dX3_lackNumber_73 : decode cX3_lackNumber 73 = .ok (.iload_n 3, 1) := by decide +kernel
theorem dX3_lackNumber_74 : decode cX3_lackNumber 74 = .ok (.invokestatic 68, 3) := by decide +kernel
theorem dX3_lackNumber_77 : decode cX3_lackNumber 77 = .ok (.iload 4, 2) := by decide +kernel
theorem dX3_lackNumber_79 : decode cX3_lackNumber 79 = .ok (.invokestatic 90, 3) := by decide +kernel
theorem dX3_lackNumber_82 : decode cX3_lackNumber 82 = .ok (.ireturn, 1) := by decide +kernel
set_option maxRecDepth 20000 in
theorem ggX3_isMisled_X3_worksOut : GoodIn wsX3_isMisled wsX3_worksOut := goodIn_r _ [8, 9, 10, 30, 31, 32, 33] (by decide +kernel) (by decide +kernel)
set_option maxRecDepth 20000 in
theorem gX3_isMisled_X3_worksOut : GoodIn wsX3_isMisled (wsV RX3 93 RX3 yX3_worksOut wsX3_worksOut) := goodIn_app (goodIn_of _ (by decide +kernel)) ggX3_isMisled_X3_worksOut
set_option maxRecDepth 20000 in
theorem ggX3_isMisled_X3_bytesFor : GoodIn wsX3_isMisled wsX3_bytesFor := goodIn_r _ [14, 15, 1, 16, 17, 18, 19, 20, 7, 21, 9, 22, 23, 24, 25, 26, 27, 28, 29, 30, 31, 32, 33, 34, 35, 36, 37, 38, 39, 40, 41, 42, 43, 44, 45, 46, 47, 48, 49] (by decide +kernel) (by decide +kernel)
set_option maxRecDepth 20000 in
theorem gX3_isMisled_X3_bytesFor : GoodIn wsX3_isMisled (wsV RX3 97 RX3 yX3_bytesFor wsX3_bytesFor) := goodIn_app (goodIn_of _ (by decide +kernel)) ggX3_isMisled_X3_bytesFor
theorem dX3_isMisled_0 : decode cX3_isMisled 0 = .ok (.iconst 0, 1) := by decide +kernel
theorem dX3_isMisled_1 : decode cX3_isMisled 1 = .ok (.istore_n 1, 1) := by decide +kernel
theorem dX3_isMisled_2 : decode cX3_isMisled 2 = .ok (.iload_n 1, 1) := by decide +kernel
theorem dX3_isMisled_3 : decode cX3_isMisled 3 = .ok (.aload_n 0, 1) := by decide +kernel
theorem dX3_isMisled_4 : decode cX3_isMisled 4 = .ok (.getfield 23, 3) := by decide +kernel
theorem dX3_isMisled_7 : decode cX3_isMisled 7 = .ok (.getfield 49, 3) := by decide +kernel
theorem dX3_isMisled_10 : decode cX3_isMisled 10 = .ok (.if_icmp .ge 37, 3) := by decide +kernel
theorem dX3_isMisled_13 : decode cX3_isMisled 13 = .ok (.aload_n 0, 1) := by decide +kernel
theorem dX3_isMisled_14 : decode cX3_isMisled 14 = .ok (.iload_n 1, 1) := by decide +kernel
theorem dX3_isMisled_15 : decode cX3_isMisled 15 = .ok (.invokevirtual 93, 3) := by decide +kernel
theorem dX3_isMisled_18 : decode cX3_isMisled 18 = .ok (.ifCond .eq 23, 3) := by decide +kernel
theorem dX3_isMisled_21 : decode cX3_isMisled 21 = .ok (.aload_n 0, 1) := by decide +kernel
theorem dX3_isMisled_22 : decode cX3_isMisled 22 = .ok (.iload_n 1, 1) := by decide +kernel
theorem dX3_isMisled_23 : decode cX3_isMisled 23 = .ok (.invokevirtual 97, 3) := by decide +kernel
theorem dX3_isMisled_26 : decode cX3_isMisled 26 = .ok (.aload_n 0, 1) := by decide +kernel
theorem dX3_isMisled_27 : decode cX3_isMisled 27 = .ok (.getfield 23, 3) := by decide +kernel
theorem dX3_isMisled_30 : decode cX3_isMisled 30 = .ok (.getfield 101, 3) := by decide +kernel
theorem dX3_isMisled_33 : decode cX3_isMisled 33 = .ok (.iload_n 1, 1) := by decide +kernel
theorem dX3_isMisled_34 : decode cX3_isMisled 34 = .ok (.laload, 1) := by decide +kernel
theorem dX3_isMisled_35 : decode cX3_isMisled 35 = .ok (.lcmp, 1) := by decide +kernel
theorem dX3_isMisled_36 : decode cX3_isMisled 36 = .ok (.ifCond .eq 5, 3) := by decide +kernel
theorem dX3_isMisled_39 : decode cX3_isMisled 39 = .ok (.iconst 1, 1) := by decide +kernel
theorem dX3_isMisled_40 : decode cX3_isMisled 40 = .ok (.ireturn, 1) := by decide +kernel
theorem dX3_isMisled_41 : decode cX3_isMisled 41 = .ok (.iinc 1 1, 3) := by decide +kernel
theorem dX3_isMisled_44 : decode cX3_isMisled 44 = .ok (.goto (-42), 3) := by decide +kernel
theorem dX3_isMisled_47 : decode cX3_isMisled 47 = .ok (.iconst 0, 1) := by decide +kernel
theorem dX3_isMisled_48 : decode cX3_isMisled 48 = .ok (.ireturn, 1) := by decide +kernel
set_option maxRecDepth 20000 in
theorem ggX3_unfinishedEnds_X2_spreadVectors : GoodIn wsX3_unfinishedEnds wsX2_spreadVectors := goodIn_r _ [10, 11, 12, 13, 14, 15, 16, 17, 18, 19, 9, 20, 21, 22, 23, 24, 25, 26, 27, 28, 29, 30, 31, 32, 33, 34, 35, 36, 68, 69, 70, 71, 72, 73, 74, 75, 76, 77, 78, 79, 80, 81, 82, 83] (by decide +kernel) (by decide +kernel)
set_option maxRecDepth 20000 in
theorem gX3_unfinishedEnds_X2_spreadVectors : GoodIn wsX3_unfinishedEnds (wsV RX3 32 RX2 yX2_spreadVectors wsX2_spreadVectors) := goodIn_app (goodIn_of _ (by decide +kernel)) ggX3_unfinishedEnds_X2_spreadVectors
set_option maxRecDepth 20000 in
theorem ggX3_unfinishedEnds_X5_flag : GoodIn wsX3_unfinishedEnds wsX5_flag := goodIn_r _ [16] (by decide +kernel) (by decide +kernel)
set_option maxRecDepth 20000 in
theorem gX3_unfinishedEnds_X5_flag_n110 : GoodIn wsX3_unfinishedEnds (wsX5_flag) := ggX3_unfinishedEnds_X5_flag
set_option maxRecDepth 20000 in
theorem ggX3_unfinishedEnds_X3_gather : GoodIn wsX3_unfinishedEnds wsX3_gather := goodIn_r _ [41, 42, 43, 1, 44, 5, 45, 46, 47, 48, 49, 30, 15, 31, 50, 51, 52, 40, 53, 54, 55, 56, 57, 32, 33, 34, 35, 36, 58, 59, 60, 61, 62, 63, 64, 65, 66, 67, 68, 69, 70, 71, 72, 73, 74, 75, 76, 77, 78, 79, 80, 81, 82, 83] (by decide +kernel) (by decide +kernel)
set_option maxRecDepth 20000 in
theorem gX3_unfinishedEnds_X3_gather : GoodIn wsX3_unfinishedEnds (wsV RX3 36 RX3 yX3_gather wsX3_gather) := goodIn_app (goodIn_of _ (by decide +kernel)) ggX3_unfinishedEnds_X3_gather
theorem dX3_unfinishedEnds_0 : decode cX3_unfinishedEnds 0 = .ok (.aload_n 0, 1) := by decide +kernel
theorem dX3_unfinishedEnds_1 : decode cX3_unfinishedEnds 1 = .ok (.getfield 23, 3) := by decide +kernel
theorem dX3_unfinishedEnds_4 : decode cX3_unfinishedEnds 4 = .ok (.aload_n 0, 1) := by decide +kernel
theorem dX3_unfinishedEnds_5 : decode cX3_unfinishedEnds 5 = .ok (.getfield 23, 3) := by decide +kernel
theorem dX3_unfinishedEnds_8 : decode cX3_unfinishedEnds 8 = .ok (.getfield 27, 3) := by decide +kernel
theorem dX3_unfinishedEnds_11 : decode cX3_unfinishedEnds 11 = .ok (.invokevirtual 32, 3) := by decide +kernel
theorem dX3_unfinishedEnds_14 : decode cX3_unfinishedEnds 14 = .ok (.iconst 0, 1) := by decide +kernel
theorem dX3_unfinishedEnds_15 : decode cX3_unfinishedEnds 15 = .ok (.istore_n 1, 1) := by decide +kernel
theorem dX3_unfinishedEnds_16 : decode cX3_unfinishedEnds 16 = .ok (.iconst 1, 1) := by decide +kernel
theorem dX3_unfinishedEnds_17 : decode cX3_unfinishedEnds 17 = .ok (.istore_n 2, 1) := by decide +kernel
theorem dX3_unfinishedEnds_18 : decode cX3_unfinishedEnds 18 = .ok (.iload_n 2, 1) := by decide +kernel
theorem dX3_unfinishedEnds_19 : decode cX3_unfinishedEnds 19 = .ok (.aload_n 0, 1) := by decide +kernel
theorem dX3_unfinishedEnds_20 : decode cX3_unfinishedEnds 20 = .ok (.getfield 23, 3) := by decide +kernel
theorem dX3_unfinishedEnds_23 : decode cX3_unfinishedEnds 23 = .ok (.getfield 104, 3) := by decide +kernel
theorem dX3_unfinishedEnds_26 : decode cX3_unfinishedEnds 26 = .ok (.if_icmp .ge 42, 3) := by decide +kernel
theorem dX3_unfinishedEnds_29 : decode cX3_unfinishedEnds 29 = .ok (.aload_n 0, 1) := by decide +kernel
theorem dX3_unfinishedEnds_30 : decode cX3_unfinishedEnds 30 = .ok (.getfield 23, 3) := by decide +kernel
theorem dX3_unfinishedEnds_33 : decode cX3_unfinishedEnds 33 = .ok (.getfield 107, 3) := by decide +kernel
theorem dX3_unfinishedEnds_36 : decode cX3_unfinishedEnds 36 = .ok (.iload_n 2, 1) := by decide +kernel
theorem dX3_unfinishedEnds_37 : decode cX3_unfinishedEnds 37 = .ok (.invokestatic 110, 3) := by decide +kernel
theorem dX3_unfinishedEnds_40 : decode cX3_unfinishedEnds 40 = .ok (.iconst 1, 1) := by decide +kernel
theorem dX3_unfinishedEnds_41 : decode cX3_unfinishedEnds 41 = .ok (.if_icmp .ne 21, 3) := by decide +kernel
theorem dX3_unfinishedEnds_44 : decode cX3_unfinishedEnds 44 = .ok (.aload_n 0, 1) := by decide +kernel
theorem dX3_unfinishedEnds_45 : decode cX3_unfinishedEnds 45 = .ok (.iload_n 2, 1) := by decide +kernel
theorem dX3_unfinishedEnds_46 : decode cX3_unfinishedEnds 46 = .ok (.invokevirtual 36, 3) := by decide +kernel
theorem dX3_unfinishedEnds_49 : decode cX3_unfinishedEnds 49 = .ok (.aload_n 0, 1) := by decide +kernel
theorem dX3_unfinishedEnds_50 : decode cX3_unfinishedEnds 50 = .ok (.getfield 23, 3) := by decide +kernel
theorem dX3_unfinishedEnds_53 : decode cX3_unfinishedEnds 53 = .ok (.getfield 49, 3) := by decide +kernel
theorem dX3_unfinishedEnds_56 : decode cX3_unfinishedEnds 56 = .ok (.if_icmp .ge 6, 3) := by decide +kernel
theorem dX3_unfinishedEnds_59 : decode cX3_unfinishedEnds 59 = .ok (.iinc 1 1, 3) := by decide +kernel
theorem dX3_unfinishedEnds_62 : decode cX3_unfinishedEnds 62 = .ok (.iinc 2 1, 3) := by decide +kernel
theorem dX3_unfinishedEnds_65 : decode cX3_unfinishedEnds 65 = .ok (.goto (-47), 3) := by decide +kernel
theorem dX3_unfinishedEnds_68 : decode cX3_unfinishedEnds 68 = .ok (.iload_n 1, 1) := by decide +kernel
theorem dX3_unfinishedEnds_69 : decode cX3_unfinishedEnds 69 = .ok (.ireturn, 1) := by decide +kernel
theorem dX4_init_0 : decode cX4_init 0 = .ok (.aload_n 0, 1) := by decide +kernel
theorem dX4_init_1 : decode cX4_init 1 = .ok (.invokespecial 3, 3) := by decide +kernel
theorem dX4_init_4 : decode cX4_init 4 = .ok (.aload_n 0, 1) := by decide +kernel
theorem dX4_init_5 : decode cX4_init 5 = .ok (.bipush 12, 2) := by decide +kernel
theorem dX4_init_7 : decode cX4_init 7 = .ok (.newarray .int, 2) := by decide +kernel
theorem dX4_init_9 : decode cX4_init 9 = .ok (.putfield 9, 3) := by decide +kernel
theorem dX4_init_12 : decode cX4_init 12 = .ok (.aload_n 0, 1) := by decide +kernel
theorem dX4_init_13 : decode cX4_init 13 = .ok (.iconst 0, 1) := by decide +kernel
theorem dX4_init_14 : decode cX4_init 14 = .ok (.putfield 15, 3) := by decide +kernel
theorem dX4_init_17 : decode cX4_init 17 = .ok (.aload_n 0, 1) := by decide +kernel
theorem dX4_init_18 : decode cX4_init 18 = .ok (.iconst 0, 1) := by decide +kernel
theorem dX4_init_19 : decode cX4_init 19 = .ok (.putfield 19, 3) := by decide +kernel
theorem dX4_init_22 : decode cX4_init 22 = .ok (.aload_n 0, 1) := by decide +kernel
theorem dX4_init_23 : decode cX4_init 23 = .ok (.aload_n 1, 1) := by decide +kernel
theorem dX4_init_24 : decode cX4_init 24 = .ok (.putfield 22, 3) := by decide +kernel
theorem dX4_init_27 : decode cX4_init 27 = .ok (.return_, 1) := by decide +kernel
set_option maxRecDepth 20000 in
theorem ggX4_mostTo_X4_reach : GoodIn wsX4_mostTo wsX4_reach := goodIn_r _ [9, 4, 2, 10, 3, 11, 12, 13, 14, 15, 16, 17, 8, 18, 1, 19, 20, 21, 26, 27, 28, 29, 30, 31, 32, 33, 34, 35, 36, 37, 38, 39, 40, 41, 42, 43, 44, 45] (by decide +kernel) (by decide +kernel)
set_option maxRecDepth 20000 in
theorem gX4_mostTo_X4_reach : GoodIn wsX4_mostTo (wsV RX4 31 RX4 yX4_reach wsX4_reach) := goodIn_app (goodIn_of _ (by decide +kernel)) ggX4_mostTo_X4_reach
set_option maxRecDepth 20000 in
theorem ggX4_mostTo_X5_flag : GoodIn wsX4_mostTo wsX5_flag := goodIn_r _ [14] (by decide +kernel) (by decide +kernel)
set_option maxRecDepth 20000 in
theorem gX4_mostTo_X5_flag_n34 : GoodIn wsX4_mostTo (wsX5_flag) := ggX4_mostTo_X5_flag
set_option maxRecDepth 20000 in
theorem ggX4_mostTo_X4_turnWayTo : GoodIn wsX4_mostTo wsX4_turnWayTo := goodIn_r _ [25, 2, 10, 21, 1, 19, 20, 26, 27, 28, 29, 30, 31, 32, 33, 34, 35, 36, 37, 38, 39, 40, 41, 42, 43, 44, 45] (by decide +kernel) (by decide +kernel)
set_option maxRecDepth 20000 in
theorem gX4_mostTo_X4_turnWayTo : GoodIn wsX4_mostTo (wsV RX4 38 RX4 yX4_turnWayTo wsX4_turnWayTo) := goodIn_app (goodIn_of _ (by decide +kernel)) ggX4_mostTo_X4_turnWayTo
theorem dX4_mostTo_0 : decode cX4_mostTo 0 = .ok (.aload_n 0, 1) := by decide +kernel
theorem dX4_mostTo_1 : decode cX4_mostTo 1 = .ok (.iconst 0, 1) := by decide +kernel
theorem dX4_mostTo_2 : decode cX4_mostTo 2 = .ok (.putfield 15, 3) := by decide +kernel
theorem dX4_mostTo_5 : decode cX4_mostTo 5 = .ok (.iconst 0, 1) := by decide +kernel
theorem dX4_mostTo_6 : decode cX4_mostTo 6 = .ok (.istore_n 2, 1) := by decide +kernel
theorem dX4_mostTo_7 : decode cX4_mostTo 7 = .ok (.iconst 0, 1) := by decide +kernel
theorem dX4_mostTo_8 : decode cX4_mostTo 8 = .ok (.istore_n 3, 1) := by decide +kernel
theorem dX4_mostTo_9 : decode cX4_mostTo 9 = .ok (.iload_n 3, 1) := by decide +kernel
theorem dX4_mostTo_10 : decode cX4_mostTo 10 = .ok (.aload_n 0, 1) := by decide +kernel
theorem dX4_mostTo_11 : decode cX4_mostTo 11 = .ok (.getfield 22, 3) := by decide +kernel
theorem dX4_mostTo_14 : decode cX4_mostTo 14 = .ok (.getfield 26, 3) := by decide +kernel
theorem dX4_mostTo_17 : decode cX4_mostTo 17 = .ok (.if_icmp .gt 35, 3) := by decide +kernel
theorem dX4_mostTo_20 : decode cX4_mostTo 20 = .ok (.aload_n 0, 1) := by decide +kernel
theorem dX4_mostTo_21 : decode cX4_mostTo 21 = .ok (.invokevirtual 31, 3) := by decide +kernel
theorem dX4_mostTo_24 : decode cX4_mostTo 24 = .ok (.aload_n 0, 1) := by decide +kernel
theorem dX4_mostTo_25 : decode cX4_mostTo 25 = .ok (.getfield 19, 3) := by decide +kernel
theorem dX4_mostTo_28 : decode cX4_mostTo 28 = .ok (.iload_n 1, 1) := by decide +kernel
theorem dX4_mostTo_29 : decode cX4_mostTo 29 = .ok (.invokestatic 34, 3) := by decide +kernel
theorem dX4_mostTo_32 : decode cX4_mostTo 32 = .ok (.ifCond .ne 6, 3) := by decide +kernel
theorem dX4_mostTo_35 : decode cX4_mostTo 35 = .ok (.goto 17, 3) := by decide +kernel
theorem dX4_mostTo_38 : decode cX4_mostTo 38 = .ok (.aload_n 0, 1) := by decide +kernel
theorem dX4_mostTo_39 : decode cX4_mostTo 39 = .ok (.iload_n 1, 1) := by decide +kernel
theorem dX4_mostTo_40 : decode cX4_mostTo 40 = .ok (.invokevirtual 38, 3) := by decide +kernel
theorem dX4_mostTo_43 : decode cX4_mostTo 43 = .ok (.iinc 2 1, 3) := by decide +kernel
theorem dX4_mostTo_46 : decode cX4_mostTo 46 = .ok (.iinc 3 1, 3) := by decide +kernel
theorem dX4_mostTo_49 : decode cX4_mostTo 49 = .ok (.goto (-40), 3) := by decide +kernel
theorem dX4_mostTo_52 : decode cX4_mostTo 52 = .ok (.iload_n 2, 1) := by decide +kernel
theorem dX4_mostTo_53 : decode cX4_mostTo 53 = .ok (.ireturn, 1) := by decide +kernel
set_option maxRecDepth 20000 in
theorem ggX4_cutLine_X5_flag : GoodIn wsX4_cutLine wsX5_flag := goodIn_r _ [9] (by decide +kernel) (by decide +kernel)
set_option maxRecDepth 20000 in
theorem gX4_cutLine_X5_flag_n34 : GoodIn wsX4_cutLine (wsX5_flag) := ggX4_cutLine_X5_flag
theorem dX4_cutLine_0 : decode cX4_cutLine 0 = .ok (.iconst 0, 1) := by decide +kernel
theorem dX4_cutLine_1 : decode cX4_cutLine 1 = .ok (.istore_n 2, 1) := by decide +kernel
theorem dX4_cutLine_2 : decode cX4_cutLine 2 = .ok (.iconst 0, 1) := by decide +kernel
theorem dX4_cutLine_3 : decode cX4_cutLine 3 = .ok (.istore_n 3, 1) := by decide +kernel
theorem dX4_cutLine_4 : decode cX4_cutLine 4 = .ok (.iload_n 3, 1) := by decide +kernel
theorem dX4_cutLine_5 : decode cX4_cutLine 5 = .ok (.aload_n 0, 1) := by decide +kernel
theorem dX4_cutLine_6 : decode cX4_cutLine 6 = .ok (.getfield 22, 3) := by decide +kernel
theorem dX4_cutLine_9 : decode cX4_cutLine 9 = .ok (.getfield 26, 3) := by decide +kernel
theorem dX4_cutLine_12 : decode cX4_cutLine 12 = .ok (.if_icmp .ge 72, 3) := by decide +kernel
theorem dX4_cutLine_15 : decode cX4_cutLine 15 = .ok (.aload_n 0, 1) := by decide +kernel
theorem dX4_cutLine_16 : decode cX4_cutLine 16 = .ok (.getfield 22, 3) := by decide +kernel
theorem dX4_cutLine_19 : decode cX4_cutLine 19 = .ok (.getfield 42, 3) := by decide +kernel
theorem dX4_cutLine_22 : decode cX4_cutLine 22 = .ok (.iload_n 3, 1) := by decide +kernel
theorem dX4_cutLine_23 : decode cX4_cutLine 23 = .ok (.invokestatic 34, 3) := by decide +kernel
theorem dX4_cutLine_26 : decode cX4_cutLine 26 = .ok (.ifCond .ne 52, 3) := by decide +kernel
theorem dX4_cutLine_29 : decode cX4_cutLine 29 = .ok (.aload_n 0, 1) := by decide +kernel
theorem dX4_cutLine_30 : decode cX4_cutLine 30 = .ok (.getfield 19, 3) := by decide +kernel
theorem dX4_cutLine_33 : decode cX4_cutLine 33 = .ok (.aload_n 0, 1) := by decide +kernel
theorem dX4_cutLine_34 : decode cX4_cutLine 34 = .ok (.getfield 22, 3) := by decide +kernel
theorem dX4_cutLine_37 : decode cX4_cutLine 37 = .ok (.getfield 45, 3) := by decide +kernel
theorem dX4_cutLine_40 : decode cX4_cutLine 40 = .ok (.iload_n 3, 1) := by decide +kernel
theorem dX4_cutLine_41 : decode cX4_cutLine 41 = .ok (.iaload, 1) := by decide +kernel
theorem dX4_cutLine_42 : decode cX4_cutLine 42 = .ok (.invokestatic 34, 3) := by decide +kernel
theorem dX4_cutLine_45 : decode cX4_cutLine 45 = .ok (.iconst 1, 1) := by decide +kernel
theorem dX4_cutLine_46 : decode cX4_cutLine 46 = .ok (.if_icmp .ne 32, 3) := by decide +kernel
theorem dX4_cutLine_49 : decode cX4_cutLine 49 = .ok (.aload_n 0, 1) := by decide +kernel
theorem dX4_cutLine_50 : decode cX4_cutLine 50 = .ok (.getfield 19, 3) := by decide +kernel
theorem dX4_cutLine_53 : decode cX4_cutLine 53 = .ok (.aload_n 0, 1) := by decide +kernel
theorem dX4_cutLine_54 : decode cX4_cutLine 54 = .ok (.getfield 22, 3) := by decide +kernel
theorem dX4_cutLine_57 : decode cX4_cutLine 57 = .ok (.getfield 48, 3) := by decide +kernel
theorem dX4_cutLine_60 : decode cX4_cutLine 60 = .ok (.iload_n 3, 1) := by decide +kernel
theorem dX4_cutLine_61 : decode cX4_cutLine 61 = .ok (.iaload, 1) := by decide +kernel
theorem dX4_cutLine_62 : decode cX4_cutLine 62 = .ok (.invokestatic 34, 3) := by decide +kernel
theorem dX4_cutLine_65 : decode cX4_cutLine 65 = .ok (.ifCond .ne 13, 3) := by decide +kernel
theorem dX4_cutLine_68 : decode cX4_cutLine 68 = .ok (.iload_n 2, 1) := by decide +kernel
theorem dX4_cutLine_69 : decode cX4_cutLine 69 = .ok (.iload_n 1, 1) := by decide +kernel
theorem dX4_cutLine_70 : decode cX4_cutLine 70 = .ok (.if_icmp .ne 5, 3) := by decide +kernel
theorem dX4_cutLine_73 : decode cX4_cutLine 73 = .ok (.iload_n 3, 1) := by decide +kernel
theorem dX4_cutLine_74 : decode cX4_cutLine 74 = .ok (.ireturn, 1) := by decide +kernel
theorem dX4_cutLine_75 : decode cX4_cutLine 75 = .ok (.iinc 2 1, 3) := by decide +kernel
theorem dX4_cutLine_78 : decode cX4_cutLine 78 = .ok (.iinc 3 1, 3) := by decide +kernel
theorem dX4_cutLine_81 : decode cX4_cutLine 81 = .ok (.goto (-77), 3) := by decide +kernel
theorem dX4_cutLine_84 : decode cX4_cutLine 84 = .ok (.iconst (-1), 1) := by decide +kernel
theorem dX4_cutLine_85 : decode cX4_cutLine 85 = .ok (.ireturn, 1) := by decide +kernel
set_option maxRecDepth 20000 in
theorem ggX4_reach_X5_flag : GoodIn wsX4_reach wsX5_flag := goodIn_r _ [8] (by decide +kernel) (by decide +kernel)
set_option maxRecDepth 20000 in
theorem gX4_reach_X5_flag_n34 : GoodIn wsX4_reach (wsX5_flag) := ggX4_reach_X5_flag
set_option maxRecDepth 20000 in
theorem ggX4_reach_X4_reachBy : GoodIn wsX4_reach wsX4_reachBy := goodIn_r _ [13, 14, 2, 15, 16, 1, 17, 6, 7, 8, 18, 19, 20, 21, 22, 23, 24, 25, 26, 27, 28, 29, 30, 31, 32, 33, 34, 35, 36, 37] (by decide +kernel) (by decide +kernel)
set_option maxRecDepth 20000 in
theorem gX4_reach_X4_reachBy : GoodIn wsX4_reach (wsV RX4 54 RX4 yX4_reachBy wsX4_reachBy) := goodIn_app (goodIn_of _ (by decide +kernel)) ggX4_reach_X4_reachBy
theorem dX4_reach_0 : decode cX4_reach 0 = .ok (.aload_n 0, 1) := by decide +kernel
theorem dX4_reach_1 : decode cX4_reach 1 = .ok (.iconst 1, 1) := by decide +kernel
theorem dX4_reach_2 : decode cX4_reach 2 = .ok (.putfield 19, 3) := by decide +kernel
theorem dX4_reach_5 : decode cX4_reach 5 = .ok (.iconst 0, 1) := by decide +kernel
theorem dX4_reach_6 : decode cX4_reach 6 = .ok (.istore_n 1, 1) := by decide +kernel
theorem dX4_reach_7 : decode cX4_reach 7 = .ok (.iload_n 1, 1) := by decide +kernel
theorem dX4_reach_8 : decode cX4_reach 8 = .ok (.aload_n 0, 1) := by decide +kernel
theorem dX4_reach_9 : decode cX4_reach 9 = .ok (.getfield 22, 3) := by decide +kernel
theorem dX4_reach_12 : decode cX4_reach 12 = .ok (.getfield 51, 3) := by decide +kernel
theorem dX4_reach_15 : decode cX4_reach 15 = .ok (.if_icmp .ge 63, 3) := by decide +kernel
theorem dX4_reach_18 : decode cX4_reach 18 = .ok (.aload_n 0, 1) := by decide +kernel
theorem dX4_reach_19 : decode cX4_reach 19 = .ok (.getfield 19, 3) := by decide +kernel
theorem dX4_reach_22 : decode cX4_reach 22 = .ok (.istore_n 2, 1) := by decide +kernel
theorem dX4_reach_23 : decode cX4_reach 23 = .ok (.iconst 0, 1) := by decide +kernel
theorem dX4_reach_24 : decode cX4_reach 24 = .ok (.istore_n 3, 1) := by decide +kernel
theorem dX4_reach_25 : decode cX4_reach 25 = .ok (.iload_n 3, 1) := by decide +kernel
theorem dX4_reach_26 : decode cX4_reach 26 = .ok (.aload_n 0, 1) := by decide +kernel
theorem dX4_reach_27 : decode cX4_reach 27 = .ok (.getfield 22, 3) := by decide +kernel
theorem dX4_reach_30 : decode cX4_reach 30 = .ok (.getfield 26, 3) := by decide +kernel
theorem dX4_reach_33 : decode cX4_reach 33 = .ok (.if_icmp .ge 28, 3) := by decide +kernel
theorem dX4_reach_36 : decode cX4_reach 36 = .ok (.aload_n 0, 1) := by decide +kernel
theorem dX4_reach_37 : decode cX4_reach 37 = .ok (.getfield 22, 3) := by decide +kernel
theorem dX4_reach_40 : decode cX4_reach 40 = .ok (.getfield 42, 3) := by decide +kernel
theorem dX4_reach_43 : decode cX4_reach 43 = .ok (.iload_n 3, 1) := by decide +kernel
theorem dX4_reach_44 : decode cX4_reach 44 = .ok (.invokestatic 34, 3) := by decide +kernel
theorem dX4_reach_47 : decode cX4_reach 47 = .ok (.ifCond .ne 8, 3) := by decide +kernel
theorem dX4_reach_50 : decode cX4_reach 50 = .ok (.aload_n 0, 1) := by decide +kernel
theorem dX4_reach_51 : decode cX4_reach 51 = .ok (.iload_n 3, 1) := by decide +kernel
theorem dX4_reach_52 : decode cX4_reach 52 = .ok (.invokevirtual 54, 3) := by decide +kernel
theorem dX4_reach_55 : decode cX4_reach 55 = .ok (.iinc 3 1, 3) := by decide +kernel
theorem dX4_reach_58 : decode cX4_reach 58 = .ok (.goto (-33), 3) := by decide +kernel
theorem dX4_reach_61 : decode cX4_reach 61 = .ok (.aload_n 0, 1) := by decide +kernel
theorem dX4_reach_62 : decode cX4_reach 62 = .ok (.getfield 19, 3) := by decide +kernel
theorem dX4_reach_65 : decode cX4_reach 65 = .ok (.iload_n 2, 1) := by decide +kernel
theorem dX4_reach_66 : decode cX4_reach 66 = .ok (.if_icmp .ne 6, 3) := by decide +kernel
theorem dX4_reach_69 : decode cX4_reach 69 = .ok (.goto 9, 3) := by decide +kernel
theorem dX4_reach_72 : decode cX4_reach 72 = .ok (.iinc 1 1, 3) := by decide +kernel
theorem dX4_reach_75 : decode cX4_reach 75 = .ok (.goto (-68), 3) := by decide +kernel
theorem dX4_reach_78 : decode cX4_reach 78 = .ok (.return_, 1) := by decide +kernel
set_option maxRecDepth 20000 in
theorem ggX4_reachBy_X5_flag : GoodIn wsX4_reachBy wsX5_flag := goodIn_r _ [9] (by decide +kernel) (by decide +kernel)
set_option maxRecDepth 20000 in
theorem gX4_reachBy_X5_flag_n34 : GoodIn wsX4_reachBy (wsX5_flag) := ggX4_reachBy_X5_flag
theorem dX4_reachBy_0 : decode cX4_reachBy 0 = .ok (.aload_n 0, 1) := by decide +kernel
theorem dX4_reachBy_1 : decode cX4_reachBy 1 = .ok (.getfield 15, 3) := by decide +kernel
theorem dX4_reachBy_4 : decode cX4_reachBy 4 = .ok (.iload_n 1, 1) := by decide +kernel
theorem dX4_reachBy_5 : decode cX4_reachBy 5 = .ok (.invokestatic 34, 3) := by decide +kernel
theorem dX4_reachBy_8 : decode cX4_reachBy 8 = .ok (.iconst 1, 1) := by decide +kernel
theorem dX4_reachBy_9 : decode cX4_reachBy 9 = .ok (.if_icmp .ne 7, 3) := by decide +kernel
theorem dX4_reachBy_12 : decode cX4_reachBy 12 = .ok (.iconst 1, 1) := by decide +kernel
theorem dX4_reachBy_13 : decode cX4_reachBy 13 = .ok (.goto 4, 3) := by decide +kernel
theorem dX4_reachBy_16 : decode cX4_reachBy 16 = .ok (.iconst 0, 1) := by decide +kernel
theorem dX4_reachBy_17 : decode cX4_reachBy 17 = .ok (.istore_n 2, 1) := by decide +kernel
theorem dX4_reachBy_18 : decode cX4_reachBy 18 = .ok (.iload_n 2, 1) := by decide +kernel
theorem dX4_reachBy_19 : decode cX4_reachBy 19 = .ok (.ifCond .eq 15, 3) := by decide +kernel
theorem dX4_reachBy_22 : decode cX4_reachBy 22 = .ok (.aload_n 0, 1) := by decide +kernel
theorem dX4_reachBy_23 : decode cX4_reachBy 23 = .ok (.getfield 22, 3) := by decide +kernel
theorem dX4_reachBy_26 : decode cX4_reachBy 26 = .ok (.getfield 48, 3) := by decide +kernel
theorem dX4_reachBy_29 : decode cX4_reachBy 29 = .ok (.iload_n 1, 1) := by decide +kernel
theorem dX4_reachBy_30 : decode cX4_reachBy 30 = .ok (.iaload, 1) := by decide +kernel
theorem dX4_reachBy_31 : decode cX4_reachBy 31 = .ok (.goto 12, 3) := by decide +kernel
theorem dX4_reachBy_34 : decode cX4_reachBy 34 = .ok (.aload_n 0, 1) := by decide +kernel
theorem dX4_reachBy_35 : decode cX4_reachBy 35 = .ok (.getfield 22, 3) := by decide +kernel
theorem dX4_reachBy_38 : decode cX4_reachBy 38 = .ok (.getfield 45, 3) := by decide +kernel
theorem dX4_reachBy_41 : decode cX4_reachBy 41 = .ok (.iload_n 1, 1) := by decide +kernel
theorem dX4_reachBy_42 : decode cX4_reachBy 42 = .ok (.iaload, 1) := by decide +kernel
theorem dX4_reachBy_43 : decode cX4_reachBy 43 = .ok (.istore_n 3, 1) := by decide +kernel
theorem dX4_reachBy_44 : decode cX4_reachBy 44 = .ok (.iload_n 2, 1) := by decide +kernel
theorem dX4_reachBy_45 : decode cX4_reachBy 45 = .ok (.ifCond .eq 15, 3) := by decide +kernel
theorem dX4_reachBy_48 : decode cX4_reachBy 48 = .ok (.aload_n 0, 1) := by decide +kernel
theorem dX4_reachBy_49 : decode cX4_reachBy 49 = .ok (.getfield 22, 3) := by decide +kernel
theorem dX4_reachBy_52 : decode cX4_reachBy 52 = .ok (.getfield 45, 3) := by decide +kernel
theorem dX4_reachBy_55 : decode cX4_reachBy 55 = .ok (.iload_n 1, 1) := by decide +kernel
theorem dX4_reachBy_56 : decode cX4_reachBy 56 = .ok (.iaload, 1) := by decide +kernel
theorem dX4_reachBy_57 : decode cX4_reachBy 57 = .ok (.goto 12, 3) := by decide +kernel
theorem dX4_reachBy_60 : decode cX4_reachBy 60 = .ok (.aload_n 0, 1) := by decide +kernel
theorem dX4_reachBy_61 : decode cX4_reachBy 61 = .ok (.getfield 22, 3) := by decide +kernel
theorem dX4_reachBy_64 : decode cX4_reachBy 64 = .ok (.getfield 48, 3) := by decide +kernel
theorem dX4_reachBy_67 : decode cX4_reachBy 67 = .ok (.iload_n 1, 1) := by decide +kernel
theorem dX4_reachBy_68 : decode cX4_reachBy 68 = .ok (.iaload, 1) := by decide +kernel
theorem dX4_reachBy_69 : decode cX4_reachBy 69 = .ok (.istore 4, 2) := by decide +kernel
theorem dX4_reachBy_71 : decode cX4_reachBy 71 = .ok (.aload_n 0, 1) := by decide +kernel
theorem dX4_reachBy_72 : decode cX4_reachBy 72 = .ok (.getfield 19, 3) := by decide +kernel
theorem dX4_reachBy_75 : decode cX4_reachBy 75 = .ok (.iload_n 3, 1) := by decide +kernel
theorem dX4_reachBy_76 : decode cX4_reachBy 76 = .ok (.invokestatic 34, 3) := by decide +kernel
theorem dX4_reachBy_79 : decode cX4_reachBy 79 = .ok (.iconst 1, 1) := by decide +kernel
theorem dX4_reachBy_80 : decode cX4_reachBy 80 = .ok (.if_icmp .ne 36, 3) := by decide +kernel
theorem dX4_reachBy_83 : decode cX4_reachBy 83 = .ok (.aload_n 0, 1) := by decide +kernel
theorem dX4_reachBy_84 : decode cX4_reachBy 84 = .ok (.getfield 19, 3) := by decide +kernel
theorem dX4_reachBy_87 : decode cX4_reachBy 87 = .ok (.iload 4, 2) := by decide +kernel
theorem dX4_reachBy_89 : decode cX4_reachBy 89 = .ok (.invokestatic 34, 3) := by decide +kernel
theorem dX4_reachBy_92 : decode cX4_reachBy 92 = .ok (.ifCond .ne 24, 3) := by decide +kernel
theorem dX4_reachBy_95 : decode cX4_reachBy 95 = .ok (.aload_n 0, 1) := by decide +kernel
theorem dX4_reachBy_96 : decode cX4_reachBy 96 = .ok (.dup, 1) := by decide +kernel
theorem dX4_reachBy_97 : decode cX4_reachBy 97 = .ok (.getfield 19, 3) := by decide +kernel
theorem dX4_reachBy_100 : decode cX4_reachBy 100 = .ok (.iconst 1, 1) := by decide +kernel
theorem dX4_reachBy_101 : decode cX4_reachBy 101 = .ok (.iload 4, 2) := by decide +kernel
theorem dX4_reachBy_103 : decode cX4_reachBy 103 = .ok (.ishl, 1) := by decide +kernel
theorem dX4_reachBy_104 : decode cX4_reachBy 104 = .ok (.ior, 1) := by decide +kernel
theorem dX4_reachBy_105 : decode cX4_reachBy 105 = .ok (.putfield 19, 3) := by decide +kernel
theorem dX4_reachBy_108 : decode cX4_reachBy 108 = .ok (.aload_n 0, 1) := by decide +kernel
theorem dX4_reachBy_109 : decode cX4_reachBy 109 = .ok (.getfield 9, 3) := by decide +kernel
theorem dX4_reachBy_112 : decode cX4_reachBy 112 = .ok (.iload 4, 2) := by decide +kernel
theorem dX4_reachBy_114 : decode cX4_reachBy 114 = .ok (.iload_n 1, 1) := by decide +kernel
theorem dX4_reachBy_115 : decode cX4_reachBy 115 = .ok (.iastore, 1) := by decide +kernel
theorem dX4_reachBy_116 : decode cX4_reachBy 116 = .ok (.return_, 1) := by decide +kernel
theorem dX4_turnWayTo_0 : decode cX4_turnWayTo 0 = .ok (.iload_n 1, 1) := by decide +kernel
theorem dX4_turnWayTo_1 : decode cX4_turnWayTo 1 = .ok (.istore_n 2, 1) := by decide +kernel
theorem dX4_turnWayTo_2 : decode cX4_turnWayTo 2 = .ok (.iconst 0, 1) := by decide +kernel
theorem dX4_turnWayTo_3 : decode cX4_turnWayTo 3 = .ok (.istore_n 3, 1) := by decide +kernel
theorem dX4_turnWayTo_4 : decode cX4_turnWayTo 4 = .ok (.iload_n 3, 1) := by decide +kernel
theorem dX4_turnWayTo_5 : decode cX4_turnWayTo 5 = .ok (.aload_n 0, 1) := by decide +kernel
theorem dX4_turnWayTo_6 : decode cX4_turnWayTo 6 = .ok (.getfield 22, 3) := by decide +kernel
theorem dX4_turnWayTo_9 : decode cX4_turnWayTo 9 = .ok (.getfield 51, 3) := by decide +kernel
theorem dX4_turnWayTo_12 : decode cX4_turnWayTo 12 = .ok (.if_icmp .ge 72, 3) := by decide +kernel
theorem dX4_turnWayTo_15 : decode cX4_turnWayTo 15 = .ok (.iload_n 2, 1) := by decide +kernel
theorem dX4_turnWayTo_16 : decode cX4_turnWayTo 16 = .ok (.ifCond .eq 68, 3) := by decide +kernel
theorem dX4_turnWayTo_19 : decode cX4_turnWayTo 19 = .ok (.aload_n 0, 1) := by decide +kernel
theorem dX4_turnWayTo_20 : decode cX4_turnWayTo 20 = .ok (.getfield 9, 3) := by decide +kernel
theorem dX4_turnWayTo_23 : decode cX4_turnWayTo 23 = .ok (.iload_n 2, 1) := by decide +kernel
theorem dX4_turnWayTo_24 : decode cX4_turnWayTo 24 = .ok (.iaload, 1) := by decide +kernel
theorem dX4_turnWayTo_25 : decode cX4_turnWayTo 25 = .ok (.istore 4, 2) := by decide +kernel
theorem dX4_turnWayTo_27 : decode cX4_turnWayTo 27 = .ok (.aload_n 0, 1) := by decide +kernel
theorem dX4_turnWayTo_28 : decode cX4_turnWayTo 28 = .ok (.dup, 1) := by decide +kernel
theorem dX4_turnWayTo_29 : decode cX4_turnWayTo 29 = .ok (.getfield 15, 3) := by decide +kernel
theorem dX4_turnWayTo_32 : decode cX4_turnWayTo 32 = .ok (.iconst 1, 1) := by decide +kernel
theorem dX4_turnWayTo_33 : decode cX4_turnWayTo 33 = .ok (.iload 4, 2) := by decide +kernel
theorem dX4_turnWayTo_35 : decode cX4_turnWayTo 35 = .ok (.ishl, 1) := by decide +kernel
theorem dX4_turnWayTo_36 : decode cX4_turnWayTo 36 = .ok (.ixor, 1) := by decide +kernel
theorem dX4_turnWayTo_37 : decode cX4_turnWayTo 37 = .ok (.putfield 15, 3) := by decide +kernel
theorem dX4_turnWayTo_40 : decode cX4_turnWayTo 40 = .ok (.aload_n 0, 1) := by decide +kernel
theorem dX4_turnWayTo_41 : decode cX4_turnWayTo 41 = .ok (.getfield 22, 3) := by decide +kernel
theorem dX4_turnWayTo_44 : decode cX4_turnWayTo 44 = .ok (.getfield 48, 3) := by decide +kernel
theorem dX4_turnWayTo_47 : decode cX4_turnWayTo 47 = .ok (.iload 4, 2) := by decide +kernel
theorem dX4_turnWayTo_49 : decode cX4_turnWayTo 49 = .ok (.iaload, 1) := by decide +kernel
theorem dX4_turnWayTo_50 : decode cX4_turnWayTo 50 = .ok (.iload_n 2, 1) := by decide +kernel
theorem dX4_turnWayTo_51 : decode cX4_turnWayTo 51 = .ok (.if_icmp .ne 16, 3) := by decide +kernel
theorem dX4_turnWayTo_54 : decode cX4_turnWayTo 54 = .ok (.aload_n 0, 1) := by decide +kernel
theorem dX4_turnWayTo_55 : decode cX4_turnWayTo 55 = .ok (.getfield 22, 3) := by decide +kernel
theorem dX4_turnWayTo_58 : decode cX4_turnWayTo 58 = .ok (.getfield 45, 3) := by decide +kernel
theorem dX4_turnWayTo_61 : decode cX4_turnWayTo 61 = .ok (.iload 4, 2) := by decide +kernel
theorem dX4_turnWayTo_63 : decode cX4_turnWayTo 63 = .ok (.iaload, 1) := by decide +kernel
theorem dX4_turnWayTo_64 : decode cX4_turnWayTo 64 = .ok (.goto 13, 3) := by decide +kernel
theorem dX4_turnWayTo_67 : decode cX4_turnWayTo 67 = .ok (.aload_n 0, 1) := by decide +kernel
theorem dX4_turnWayTo_68 : decode cX4_turnWayTo 68 = .ok (.getfield 22, 3) := by decide +kernel
theorem dX4_turnWayTo_71 : decode cX4_turnWayTo 71 = .ok (.getfield 48, 3) := by decide +kernel
theorem dX4_turnWayTo_74 : decode cX4_turnWayTo 74 = .ok (.iload 4, 2) := by decide +kernel
theorem dX4_turnWayTo_76 : decode cX4_turnWayTo 76 = .ok (.iaload, 1) := by decide +kernel
theorem dX4_turnWayTo_77 : decode cX4_turnWayTo 77 = .ok (.istore_n 2, 1) := by decide +kernel
theorem dX4_turnWayTo_78 : decode cX4_turnWayTo 78 = .ok (.iinc 3 1, 3) := by decide +kernel
theorem dX4_turnWayTo_81 : decode cX4_turnWayTo 81 = .ok (.goto (-77), 3) := by decide +kernel
theorem dX4_turnWayTo_84 : decode cX4_turnWayTo 84 = .ok (.return_, 1) := by decide +kernel
set_option maxRecDepth 20000 in
theorem ggX5_init_X2_init : GoodIn wsX5_init wsX2_init := goodIn_r _ [25, 26, 2, 3, 27, 28, 29, 30, 31, 32, 33, 34, 35, 36, 37, 38, 39, 40, 41, 42, 43, 44, 78, 79, 80, 81, 82, 83, 84, 85, 86, 87, 88, 89, 90, 91, 92, 93] (by decide +kernel) (by decide +kernel)
set_option maxRecDepth 20000 in
theorem gX5_init_X2_init_n9 : GoodIn wsX5_init (wsX2_init) := ggX5_init_X2_init
set_option maxRecDepth 20000 in
theorem ggX5_init_X4_init : GoodIn wsX5_init wsX4_init := goodIn_r _ [47, 48, 2, 3, 33, 49, 50, 51, 52, 99, 100, 101, 102] (by decide +kernel) (by decide +kernel)
set_option maxRecDepth 20000 in
theorem gX5_init_X4_init : GoodIn wsX5_init (wsX4_init) := ggX5_init_X4_init
set_option maxRecDepth 20000 in
theorem ggX5_init_X3_init : GoodIn wsX5_init wsX3_init := goodIn_r _ [55, 56, 2, 3, 36, 57, 33, 58, 59, 60, 103, 104, 105, 106] (by decide +kernel) (by decide +kernel)
set_option maxRecDepth 20000 in
theorem gX5_init_X3_init : GoodIn wsX5_init (wsX3_init) := ggX5_init_X3_init
set_option maxRecDepth 20000 in
theorem ggX5_init_X1_init : GoodIn wsX5_init wsX1_init := goodIn_r _ [63, 64, 2, 3, 33, 65, 66, 67, 68, 107, 108, 109, 110] (by decide +kernel) (by decide +kernel)
set_option maxRecDepth 20000 in
theorem gX5_init_X1_init : GoodIn wsX5_init (wsX1_init) := ggX5_init_X1_init
set_option maxRecDepth 20000 in
theorem ggX5_init_X0_init : GoodIn wsX5_init wsX0_init := goodIn_r _ [71, 72, 2, 3, 73, 74, 75, 76, 77, 111, 112, 113, 114, 115] (by decide +kernel) (by decide +kernel)
set_option maxRecDepth 20000 in
theorem gX5_init_X0_init : GoodIn wsX5_init (wsX0_init) := ggX5_init_X0_init
theorem dX5_init_0 : decode cX5_init 0 = .ok (.aload_n 0, 1) := by decide +kernel
theorem dX5_init_1 : decode cX5_init 1 = .ok (.invokespecial 1, 3) := by decide +kernel
theorem dX5_init_4 : decode cX5_init 4 = .ok (.aload_n 0, 1) := by decide +kernel
theorem dX5_init_5 : decode cX5_init 5 = .ok (.new 7, 3) := by decide +kernel
theorem dX5_init_8 : decode cX5_init 8 = .ok (.dup, 1) := by decide +kernel
theorem dX5_init_9 : decode cX5_init 9 = .ok (.invokespecial 9, 3) := by decide +kernel
theorem dX5_init_12 : decode cX5_init 12 = .ok (.putfield 10, 3) := by decide +kernel
theorem dX5_init_15 : decode cX5_init 15 = .ok (.aload_n 0, 1) := by decide +kernel
theorem dX5_init_16 : decode cX5_init 16 = .ok (.new 16, 3) := by decide +kernel
theorem dX5_init_19 : decode cX5_init 19 = .ok (.dup, 1) := by decide +kernel
theorem dX5_init_20 : decode cX5_init 20 = .ok (.aload_n 0, 1) := by decide +kernel
theorem dX5_init_21 : decode cX5_init 21 = .ok (.getfield 10, 3) := by decide +kernel
theorem dX5_init_24 : decode cX5_init 24 = .ok (.invokespecial 18, 3) := by decide +kernel
theorem dX5_init_27 : decode cX5_init 27 = .ok (.putfield 21, 3) := by decide +kernel
theorem dX5_init_30 : decode cX5_init 30 = .ok (.aload_n 0, 1) := by decide +kernel
theorem dX5_init_31 : decode cX5_init 31 = .ok (.new 25, 3) := by decide +kernel
theorem dX5_init_34 : decode cX5_init 34 = .ok (.dup, 1) := by decide +kernel
theorem dX5_init_35 : decode cX5_init 35 = .ok (.aload_n 0, 1) := by decide +kernel
theorem dX5_init_36 : decode cX5_init 36 = .ok (.getfield 10, 3) := by decide +kernel
theorem dX5_init_39 : decode cX5_init 39 = .ok (.invokespecial 27, 3) := by decide +kernel
theorem dX5_init_42 : decode cX5_init 42 = .ok (.putfield 28, 3) := by decide +kernel
theorem dX5_init_45 : decode cX5_init 45 = .ok (.aload_n 0, 1) := by decide +kernel
theorem dX5_init_46 : decode cX5_init 46 = .ok (.new 32, 3) := by decide +kernel
theorem dX5_init_49 : decode cX5_init 49 = .ok (.dup, 1) := by decide +kernel
theorem dX5_init_50 : decode cX5_init 50 = .ok (.aload_n 0, 1) := by decide +kernel
theorem dX5_init_51 : decode cX5_init 51 = .ok (.getfield 10, 3) := by decide +kernel
theorem dX5_init_54 : decode cX5_init 54 = .ok (.aload_n 0, 1) := by decide +kernel
theorem dX5_init_55 : decode cX5_init 55 = .ok (.getfield 28, 3) := by decide +kernel
theorem dX5_init_58 : decode cX5_init 58 = .ok (.invokespecial 34, 3) := by decide +kernel
theorem dX5_init_61 : decode cX5_init 61 = .ok (.putfield 37, 3) := by decide +kernel
theorem dX5_init_64 : decode cX5_init 64 = .ok (.aload_n 0, 1) := by decide +kernel
theorem dX5_init_65 : decode cX5_init 65 = .ok (.new 41, 3) := by decide +kernel
theorem dX5_init_68 : decode cX5_init 68 = .ok (.dup, 1) := by decide +kernel
theorem dX5_init_69 : decode cX5_init 69 = .ok (.aload_n 0, 1) := by decide +kernel
theorem dX5_init_70 : decode cX5_init 70 = .ok (.getfield 10, 3) := by decide +kernel
theorem dX5_init_73 : decode cX5_init 73 = .ok (.aload_n 0, 1) := by decide +kernel
theorem dX5_init_74 : decode cX5_init 74 = .ok (.getfield 28, 3) := by decide +kernel
theorem dX5_init_77 : decode cX5_init 77 = .ok (.invokespecial 43, 3) := by decide +kernel
theorem dX5_init_80 : decode cX5_init 80 = .ok (.putfield 44, 3) := by decide +kernel
theorem dX5_init_83 : decode cX5_init 83 = .ok (.return_, 1) := by decide +kernel
theorem dX5_relay_0 : decode cX5_relay 0 = .ok (.aload_n 0, 1) := by decide +kernel
theorem dX5_relay_1 : decode cX5_relay 1 = .ok (.getfield 10, 3) := by decide +kernel
theorem dX5_relay_4 : decode cX5_relay 4 = .ok (.getfield 48, 3) := by decide +kernel
theorem dX5_relay_7 : decode cX5_relay 7 = .ok (.bipush 12, 2) := by decide +kernel
theorem dX5_relay_9 : decode cX5_relay 9 = .ok (.if_icmp .lt 6, 3) := by decide +kernel
theorem dX5_relay_12 : decode cX5_relay 12 = .ok (.bipush (-4), 2) := by decide +kernel
theorem dX5_relay_14 : decode cX5_relay 14 = .ok (.ireturn, 1) := by decide +kernel
theorem dX5_relay_15 : decode cX5_relay 15 = .ok (.aload_n 0, 1) := by decide +kernel
theorem dX5_relay_16 : decode cX5_relay 16 = .ok (.getfield 10, 3) := by decide +kernel
theorem dX5_relay_19 : decode cX5_relay 19 = .ok (.dup, 1) := by decide +kernel
theorem dX5_relay_20 : decode cX5_relay 20 = .ok (.getfield 48, 3) := by decide +kernel
theorem dX5_relay_23 : decode cX5_relay 23 = .ok (.iconst 1, 1) := by decide +kernel
theorem dX5_relay_24 : decode cX5_relay 24 = .ok (.iadd, 1) := by decide +kernel
theorem dX5_relay_25 : decode cX5_relay 25 = .ok (.putfield 48, 3) := by decide +kernel
theorem dX5_relay_28 : decode cX5_relay 28 = .ok (.aload_n 0, 1) := by decide +kernel
theorem dX5_relay_29 : decode cX5_relay 29 = .ok (.getfield 10, 3) := by decide +kernel
theorem dX5_relay_32 : decode cX5_relay 32 = .ok (.getfield 48, 3) := by decide +kernel
theorem dX5_relay_35 : decode cX5_relay 35 = .ok (.iconst 1, 1) := by decide +kernel
theorem dX5_relay_36 : decode cX5_relay 36 = .ok (.isub, 1) := by decide +kernel
theorem dX5_relay_37 : decode cX5_relay 37 = .ok (.ireturn, 1) := by decide +kernel
set_option maxRecDepth 20000 in
theorem ggX5_line_X2_isRelay : GoodIn wsX5_line wsX2_isRelay := goodIn_r _ [7, 8, 27, 28, 29, 30, 31, 32, 33, 34, 35, 36, 37, 38, 39, 40, 41, 42] (by decide +kernel) (by decide +kernel)
set_option maxRecDepth 20000 in
theorem gX5_line_X2_isRelay : GoodIn wsX5_line (wsV RX5 52 RX2 yX2_isRelay wsX2_isRelay) := goodIn_app (goodIn_of _ (by decide +kernel)) ggX5_line_X2_isRelay
set_option maxRecDepth 20000 in
theorem ggX5_line_X2_addLine : GoodIn wsX5_line wsX2_addLine := goodIn_r _ [12, 13, 14, 15, 16, 17, 18, 19, 20, 21, 27, 28, 29, 30, 31, 32, 33, 34, 35, 36, 37, 38, 39, 40, 41, 42] (by decide +kernel) (by decide +kernel)
set_option maxRecDepth 20000 in
theorem gX5_line_X2_addLine : GoodIn wsX5_line (wsV RX5 59 RX2 yX2_addLine wsX2_addLine) := goodIn_app (goodIn_of _ (by decide +kernel)) ggX5_line_X2_addLine
theorem dX5_line_0 : decode cX5_line 0 = .ok (.aload_n 0, 1) := by decide +kernel
theorem dX5_line_1 : decode cX5_line 1 = .ok (.getfield 10, 3) := by decide +kernel
theorem dX5_line_4 : decode cX5_line 4 = .ok (.iload_n 1, 1) := by decide +kernel
theorem dX5_line_5 : decode cX5_line 5 = .ok (.invokevirtual 52, 3) := by decide +kernel
theorem dX5_line_8 : decode cX5_line 8 = .ok (.ifCond .eq 14, 3) := by decide +kernel
theorem dX5_line_11 : decode cX5_line 11 = .ok (.aload_n 0, 1) := by decide +kernel
theorem dX5_line_12 : decode cX5_line 12 = .ok (.getfield 10, 3) := by decide +kernel
theorem dX5_line_15 : decode cX5_line 15 = .ok (.iload_n 2, 1) := by decide +kernel
theorem dX5_line_16 : decode cX5_line 16 = .ok (.invokevirtual 52, 3) := by decide +kernel
theorem dX5_line_19 : decode cX5_line 19 = .ok (.ifCond .ne 5, 3) := by decide +kernel
theorem dX5_line_22 : decode cX5_line 22 = .ok (.iconst (-1), 1) := by decide +kernel
theorem dX5_line_23 : decode cX5_line 23 = .ok (.ireturn, 1) := by decide +kernel
theorem dX5_line_24 : decode cX5_line 24 = .ok (.iload_n 2, 1) := by decide +kernel
theorem dX5_line_25 : decode cX5_line 25 = .ok (.iload_n 1, 1) := by decide +kernel
theorem dX5_line_26 : decode cX5_line 26 = .ok (.if_icmp .gt 6, 3) := by decide +kernel
theorem dX5_line_29 : decode cX5_line 29 = .ok (.bipush (-2), 2) := by decide +kernel
theorem dX5_line_31 : decode cX5_line 31 = .ok (.ireturn, 1) := by decide +kernel
theorem dX5_line_32 : decode cX5_line 32 = .ok (.aload_n 0, 1) := by decide +kernel
theorem dX5_line_33 : decode cX5_line 33 = .ok (.getfield 10, 3) := by decide +kernel
theorem dX5_line_36 : decode cX5_line 36 = .ok (.getfield 56, 3) := by decide +kernel
theorem dX5_line_39 : decode cX5_line 39 = .ok (.bipush 30, 2) := by decide +kernel
theorem dX5_line_41 : decode cX5_line 41 = .ok (.if_icmp .lt 6, 3) := by decide +kernel
theorem dX5_line_44 : decode cX5_line 44 = .ok (.bipush (-4), 2) := by decide +kernel
theorem dX5_line_46 : decode cX5_line 46 = .ok (.ireturn, 1) := by decide +kernel
theorem dX5_line_47 : decode cX5_line 47 = .ok (.aload_n 0, 1) := by decide +kernel
theorem dX5_line_48 : decode cX5_line 48 = .ok (.getfield 10, 3) := by decide +kernel
theorem dX5_line_51 : decode cX5_line 51 = .ok (.iload_n 1, 1) := by decide +kernel
theorem dX5_line_52 : decode cX5_line 52 = .ok (.iload_n 2, 1) := by decide +kernel
theorem dX5_line_53 : decode cX5_line 53 = .ok (.invokevirtual 59, 3) := by decide +kernel
theorem dX5_line_56 : decode cX5_line 56 = .ok (.ireturn, 1) := by decide +kernel
set_option maxRecDepth 20000 in
theorem ggX5_pieces_J7_fill_d0a16 : GoodIn wsX5_pieces wsJ7_fill_d0a16 := goodIn_r _ [8] (by decide +kernel) (by decide +kernel)
set_option maxRecDepth 20000 in
theorem gX5_pieces_J7_fill_d0a16 : GoodIn wsX5_pieces (va_wsS RX5 70 yJ7_fill_d0a16 wsJ7_fill_d0a16) := goodIn_app (goodIn_of _ (by decide +kernel)) ggX5_pieces_J7_fill_d0a16
theorem dX5_pieces_0 : decode cX5_pieces 0 = .ok (.iload_n 1, 1) := by decide +kernel
theorem dX5_pieces_1 : decode cX5_pieces 1 = .ok (.iconst 1, 1) := by decide +kernel
theorem dX5_pieces_2 : decode cX5_pieces 2 = .ok (.if_icmp .lt 8, 3) := by decide +kernel
theorem dX5_pieces_5 : decode cX5_pieces 5 = .ok (.iload_n 1, 1) := by decide +kernel
theorem dX5_pieces_6 : decode cX5_pieces 6 = .ok (.iconst 4, 1) := by decide +kernel
theorem dX5_pieces_7 : decode cX5_pieces 7 = .ok (.if_icmp .le 6, 3) := by decide +kernel
theorem dX5_pieces_10 : decode cX5_pieces 10 = .ok (.bipush (-2), 2) := by decide +kernel
theorem dX5_pieces_12 : decode cX5_pieces 12 = .ok (.ireturn, 1) := by decide +kernel
theorem dX5_pieces_13 : decode cX5_pieces 13 = .ok (.aload_n 0, 1) := by decide +kernel
theorem dX5_pieces_14 : decode cX5_pieces 14 = .ok (.getfield 10, 3) := by decide +kernel
theorem dX5_pieces_17 : decode cX5_pieces 17 = .ok (.getfield 56, 3) := by decide +kernel
theorem dX5_pieces_20 : decode cX5_pieces 20 = .ok (.ifCond .le 6, 3) := by decide +kernel
theorem dX5_pieces_23 : decode cX5_pieces 23 = .ok (.bipush (-3), 2) := by decide +kernel
theorem dX5_pieces_25 : decode cX5_pieces 25 = .ok (.ireturn, 1) := by decide +kernel
theorem dX5_pieces_26 : decode cX5_pieces 26 = .ok (.aload_n 0, 1) := by decide +kernel
theorem dX5_pieces_27 : decode cX5_pieces 27 = .ok (.getfield 10, 3) := by decide +kernel
theorem dX5_pieces_30 : decode cX5_pieces 30 = .ok (.getfield 63, 3) := by decide +kernel
theorem dX5_pieces_33 : decode cX5_pieces 33 = .ok (.istore_n 2, 1) := by decide +kernel
theorem dX5_pieces_34 : decode cX5_pieces 34 = .ok (.aload_n 0, 1) := by decide +kernel
theorem dX5_pieces_35 : decode cX5_pieces 35 = .ok (.getfield 10, 3) := by decide +kernel
theorem dX5_pieces_38 : decode cX5_pieces 38 = .ok (.iload_n 1, 1) := by decide +kernel
theorem dX5_pieces_39 : decode cX5_pieces 39 = .ok (.putfield 63, 3) := by decide +kernel
theorem dX5_pieces_42 : decode cX5_pieces 42 = .ok (.aload_n 0, 1) := by decide +kernel
theorem dX5_pieces_43 : decode cX5_pieces 43 = .ok (.getfield 10, 3) := by decide +kernel
theorem dX5_pieces_46 : decode cX5_pieces 46 = .ok (.getfield 66, 3) := by decide +kernel
theorem dX5_pieces_49 : decode cX5_pieces 49 = .ok (.lconst 0, 1) := by decide +kernel
theorem dX5_pieces_50 : decode cX5_pieces 50 = .ok (.invokestatic 70, 3) := by decide +kernel
theorem dX5_pieces_53 : decode cX5_pieces 53 = .ok (.iload_n 2, 1) := by decide +kernel
theorem dX5_pieces_54 : decode cX5_pieces 54 = .ok (.ireturn, 1) := by decide +kernel
set_option maxRecDepth 20000 in
theorem ggX5_piece_X2_isPiece : GoodIn wsX5_piece wsX2_isPiece := goodIn_r _ [7, 8, 14, 15, 16, 17, 18, 19, 20, 21, 22, 23, 24, 25, 26, 27, 28, 29] (by decide +kernel) (by decide +kernel)
set_option maxRecDepth 20000 in
theorem gX5_piece_X2_isPiece : GoodIn wsX5_piece (wsV RX5 76 RX2 yX2_isPiece wsX2_isPiece) := goodIn_app (goodIn_of _ (by decide +kernel)) ggX5_piece_X2_isPiece
theorem dX5_piece_0 : decode cX5_piece 0 = .ok (.aload_n 0, 1) := by decide +kernel
theorem dX5_piece_1 : decode cX5_piece 1 = .ok (.getfield 10, 3) := by decide +kernel
theorem dX5_piece_4 : decode cX5_piece 4 = .ok (.iload_n 1, 1) := by decide +kernel
theorem dX5_piece_5 : decode cX5_piece 5 = .ok (.invokevirtual 76, 3) := by decide +kernel
theorem dX5_piece_8 : decode cX5_piece 8 = .ok (.ifCond .ne 5, 3) := by decide +kernel
theorem dX5_piece_11 : decode cX5_piece 11 = .ok (.iconst (-1), 1) := by decide +kernel
theorem dX5_piece_12 : decode cX5_piece 12 = .ok (.ireturn, 1) := by decide +kernel
theorem dX5_piece_13 : decode cX5_piece 13 = .ok (.aload_n 0, 1) := by decide +kernel
theorem dX5_piece_14 : decode cX5_piece 14 = .ok (.getfield 10, 3) := by decide +kernel
theorem dX5_piece_17 : decode cX5_piece 17 = .ok (.getfield 66, 3) := by decide +kernel
theorem dX5_piece_20 : decode cX5_piece 20 = .ok (.iload_n 1, 1) := by decide +kernel
theorem dX5_piece_21 : decode cX5_piece 21 = .ok (.lload_n 2, 1) := by decide +kernel
theorem dX5_piece_22 : decode cX5_piece 22 = .ok (.lastore, 1) := by decide +kernel
theorem dX5_piece_23 : decode cX5_piece 23 = .ok (.iconst 0, 1) := by decide +kernel
theorem dX5_piece_24 : decode cX5_piece 24 = .ok (.ireturn, 1) := by decide +kernel
set_option maxRecDepth 20000 in
theorem ggX5_end_X2_isRelay : GoodIn wsX5_end wsX2_isRelay := goodIn_r _ [7, 8, 24, 25, 26, 27, 28, 29, 30, 31, 32, 33, 34, 35, 36, 37, 38, 39] (by decide +kernel) (by decide +kernel)
set_option maxRecDepth 20000 in
theorem gX5_end_X2_isRelay : GoodIn wsX5_end (wsV RX5 52 RX2 yX2_isRelay wsX2_isRelay) := goodIn_app (goodIn_of _ (by decide +kernel)) ggX5_end_X2_isRelay
set_option maxRecDepth 20000 in
theorem ggX5_end_X5_isFlag : GoodIn wsX5_end wsX5_isFlag := goodIn_r _ [12] (by decide +kernel) (by decide +kernel)
set_option maxRecDepth 20000 in
theorem gX5_end_X5_isFlag : GoodIn wsX5_end (va_wsS RX5 79 yX5_isFlag wsX5_isFlag) := goodIn_app (goodIn_of _ (by decide +kernel)) ggX5_end_X5_isFlag
set_option maxRecDepth 20000 in
theorem ggX5_end_X5_flag : GoodIn wsX5_end wsX5_flag := goodIn_r _ [15] (by decide +kernel) (by decide +kernel)
set_option maxRecDepth 20000 in
theorem gX5_end_X5_flag : GoodIn wsX5_end (va_wsS RX5 85 yX5_flag wsX5_flag) := goodIn_app (goodIn_of _ (by decide +kernel)) ggX5_end_X5_flag
set_option maxRecDepth 20000 in
theorem ggX5_end_X5_withFlag : GoodIn wsX5_end wsX5_withFlag := goodIn_r _ [18] (by decide +kernel) (by decide +kernel)
set_option maxRecDepth 20000 in
theorem gX5_end_X5_withFlag : GoodIn wsX5_end (va_wsS RX5 88 yX5_withFlag wsX5_withFlag) := goodIn_app (goodIn_of _ (by decide +kernel)) ggX5_end_X5_withFlag
theorem dX5_end_0 : decode cX5_end 0 = .ok (.aload_n 0, 1) := by decide +kernel
theorem dX5_end_1 : decode cX5_end 1 = .ok (.getfield 10, 3) := by decide +kernel
theorem dX5_end_4 : decode cX5_end 4 = .ok (.iload_n 1, 1) := by decide +kernel
theorem dX5_end_5 : decode cX5_end 5 = .ok (.invokevirtual 52, 3) := by decide +kernel
theorem dX5_end_8 : decode cX5_end 8 = .ok (.ifCond .ne 5, 3) := by decide +kernel
theorem dX5_end_11 : decode cX5_end 11 = .ok (.iconst (-1), 1) := by decide +kernel
theorem dX5_end_12 : decode cX5_end 12 = .ok (.ireturn, 1) := by decide +kernel
theorem dX5_end_13 : decode cX5_end 13 = .ok (.iload_n 2, 1) := by decide +kernel
theorem dX5_end_14 : decode cX5_end 14 = .ok (.invokestatic 79, 3) := by decide +kernel
theorem dX5_end_17 : decode cX5_end 17 = .ok (.ifCond .eq 7, 3) := by decide +kernel
theorem dX5_end_20 : decode cX5_end 20 = .ok (.iload_n 1, 1) := by decide +kernel
theorem dX5_end_21 : decode cX5_end 21 = .ok (.ifCond .ne 6, 3) := by decide +kernel
theorem dX5_end_24 : decode cX5_end 24 = .ok (.bipush (-2), 2) := by decide +kernel
theorem dX5_end_26 : decode cX5_end 26 = .ok (.ireturn, 1) := by decide +kernel
theorem dX5_end_27 : decode cX5_end 27 = .ok (.aload_n 0, 1) := by decide +kernel
theorem dX5_end_28 : decode cX5_end 28 = .ok (.getfield 10, 3) := by decide +kernel
theorem dX5_end_31 : decode cX5_end 31 = .ok (.getfield 82, 3) := by decide +kernel
theorem dX5_end_34 : decode cX5_end 34 = .ok (.iload_n 1, 1) := by decide +kernel
theorem dX5_end_35 : decode cX5_end 35 = .ok (.invokestatic 85, 3) := by decide +kernel
theorem dX5_end_38 : decode cX5_end 38 = .ok (.istore_n 3, 1) := by decide +kernel
theorem dX5_end_39 : decode cX5_end 39 = .ok (.aload_n 0, 1) := by decide +kernel
theorem dX5_end_40 : decode cX5_end 40 = .ok (.getfield 10, 3) := by decide +kernel
theorem dX5_end_43 : decode cX5_end 43 = .ok (.aload_n 0, 1) := by decide +kernel
theorem dX5_end_44 : decode cX5_end 44 = .ok (.getfield 10, 3) := by decide +kernel
theorem dX5_end_47 : decode cX5_end 47 = .ok (.getfield 82, 3) := by decide +kernel
theorem dX5_end_50 : decode cX5_end 50 = .ok (.iload_n 1, 1) := by decide +kernel
theorem dX5_end_51 : decode cX5_end 51 = .ok (.iload_n 2, 1) := by decide +kernel
theorem dX5_end_52 : decode cX5_end 52 = .ok (.invokestatic 88, 3) := by decide +kernel
theorem dX5_end_55 : decode cX5_end 55 = .ok (.putfield 82, 3) := by decide +kernel
theorem dX5_end_58 : decode cX5_end 58 = .ok (.iload_n 3, 1) := by decide +kernel
theorem dX5_end_59 : decode cX5_end 59 = .ok (.ireturn, 1) := by decide +kernel
set_option maxRecDepth 20000 in
theorem ggX5_factor_X2_isLine : GoodIn wsX5_factor wsX2_isLine := goodIn_r _ [7, 8, 28, 29, 30, 31, 32, 33, 34, 35, 36, 37, 38, 39, 40, 41, 42, 43] (by decide +kernel) (by decide +kernel)
set_option maxRecDepth 20000 in
theorem gX5_factor_X2_isLine : GoodIn wsX5_factor (wsV RX5 92 RX2 yX2_isLine wsX2_isLine) := goodIn_app (goodIn_of _ (by decide +kernel)) ggX5_factor_X2_isLine
set_option maxRecDepth 20000 in
theorem ggX5_factor_X2_insOf : GoodIn wsX5_factor wsX2_insOf := goodIn_r _ [12, 13, 14, 15, 28, 29, 30, 31, 32, 33, 34, 35, 36, 37, 38, 39, 40, 41, 42, 43] (by decide +kernel) (by decide +kernel)
set_option maxRecDepth 20000 in
theorem gX5_factor_X2_insOf : GoodIn wsX5_factor (wsV RX5 95 RX2 yX2_insOf wsX2_insOf) := goodIn_app (goodIn_of _ (by decide +kernel)) ggX5_factor_X2_insOf
set_option maxRecDepth 20000 in
theorem ggX5_factor_X5_isNumber : GoodIn wsX5_factor wsX5_isNumber := goodIn_r _ [19] (by decide +kernel) (by decide +kernel)
set_option maxRecDepth 20000 in
theorem gX5_factor_X5_isNumber : GoodIn wsX5_factor (va_wsS RX5 99 yX5_isNumber wsX5_isNumber) := goodIn_app (goodIn_of _ (by decide +kernel)) ggX5_factor_X5_isNumber
set_option maxRecDepth 20000 in
theorem ggX5_factor_X5_slot : GoodIn wsX5_factor wsX5_slot := goodIn_r _ [22] (by decide +kernel) (by decide +kernel)
set_option maxRecDepth 20000 in
theorem gX5_factor_X5_slot : GoodIn wsX5_factor (va_wsS RX5 102 yX5_slot wsX5_slot) := goodIn_app (goodIn_of _ (by decide +kernel)) ggX5_factor_X5_slot
theorem dX5_factor_0 : decode cX5_factor 0 = .ok (.aload_n 0, 1) := by decide +kernel
theorem dX5_factor_1 : decode cX5_factor 1 = .ok (.getfield 10, 3) := by decide +kernel
theorem dX5_factor_4 : decode cX5_factor 4 = .ok (.iload_n 1, 1) := by decide +kernel
theorem dX5_factor_5 : decode cX5_factor 5 = .ok (.invokevirtual 92, 3) := by decide +kernel
theorem dX5_factor_8 : decode cX5_factor 8 = .ok (.ifCond .eq 19, 3) := by decide +kernel
theorem dX5_factor_11 : decode cX5_factor 11 = .ok (.iload_n 2, 1) := by decide +kernel
theorem dX5_factor_12 : decode cX5_factor 12 = .ok (.ifCond .lt 15, 3) := by decide +kernel
theorem dX5_factor_15 : decode cX5_factor 15 = .ok (.iload_n 2, 1) := by decide +kernel
theorem dX5_factor_16 : decode cX5_factor 16 = .ok (.aload_n 0, 1) := by decide +kernel
theorem dX5_factor_17 : decode cX5_factor 17 = .ok (.getfield 10, 3) := by decide +kernel
theorem dX5_factor_20 : decode cX5_factor 20 = .ok (.iload_n 1, 1) := by decide +kernel
theorem dX5_factor_21 : decode cX5_factor 21 = .ok (.invokevirtual 95, 3) := by decide +kernel
theorem dX5_factor_24 : decode cX5_factor 24 = .ok (.if_icmp .lt 5, 3) := by decide +kernel
theorem dX5_factor_27 : decode cX5_factor 27 = .ok (.iconst (-1), 1) := by decide +kernel
theorem dX5_factor_28 : decode cX5_factor 28 = .ok (.ireturn, 1) := by decide +kernel
theorem dX5_factor_29 : decode cX5_factor 29 = .ok (.iload_n 3, 1) := by decide +kernel
theorem dX5_factor_30 : decode cX5_factor 30 = .ok (.invokestatic 99, 3) := by decide +kernel
theorem dX5_factor_33 : decode cX5_factor 33 = .ok (.ifCond .ne 6, 3) := by decide +kernel
theorem dX5_factor_36 : decode cX5_factor 36 = .ok (.bipush (-2), 2) := by decide +kernel
theorem dX5_factor_38 : decode cX5_factor 38 = .ok (.ireturn, 1) := by decide +kernel
theorem dX5_factor_39 : decode cX5_factor 39 = .ok (.iload_n 1, 1) := by decide +kernel
theorem dX5_factor_40 : decode cX5_factor 40 = .ok (.iload_n 2, 1) := by decide +kernel
theorem dX5_factor_41 : decode cX5_factor 41 = .ok (.invokestatic 102, 3) := by decide +kernel
theorem dX5_factor_44 : decode cX5_factor 44 = .ok (.istore 4, 2) := by decide +kernel
theorem dX5_factor_46 : decode cX5_factor 46 = .ok (.aload_n 0, 1) := by decide +kernel
theorem dX5_factor_47 : decode cX5_factor 47 = .ok (.getfield 10, 3) := by decide +kernel
theorem dX5_factor_50 : decode cX5_factor 50 = .ok (.getfield 105, 3) := by decide +kernel
theorem dX5_factor_53 : decode cX5_factor 53 = .ok (.iload 4, 2) := by decide +kernel
theorem dX5_factor_55 : decode cX5_factor 55 = .ok (.iaload, 1) := by decide +kernel
theorem dX5_factor_56 : decode cX5_factor 56 = .ok (.istore 5, 2) := by decide +kernel
theorem dX5_factor_58 : decode cX5_factor 58 = .ok (.aload_n 0, 1) := by decide +kernel
theorem dX5_factor_59 : decode cX5_factor 59 = .ok (.getfield 10, 3) := by decide +kernel
theorem dX5_factor_62 : decode cX5_factor 62 = .ok (.getfield 105, 3) := by decide +kernel
theorem dX5_factor_65 : decode cX5_factor 65 = .ok (.iload 4, 2) := by decide +kernel
theorem dX5_factor_67 : decode cX5_factor 67 = .ok (.iload_n 3, 1) := by decide +kernel
