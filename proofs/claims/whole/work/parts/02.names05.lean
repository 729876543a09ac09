theorem dX5_wrong_36 : decode cX5_wrong 36 = .ok (.aload_n 0, 1) := by decide +kernel
theorem dX5_wrong_37 : decode cX5_wrong 37 = .ok (.getfield 10, 3) := by decide +kernel
theorem dX5_wrong_40 : decode cX5_wrong 40 = .ok (.getfield 82, 3) := by decide +kernel
theorem dX5_wrong_43 : decode cX5_wrong 43 = .ok (.iload_n 2, 1) := by decide +kernel
theorem dX5_wrong_44 : decode cX5_wrong 44 = .ok (.invokestatic 85, 3) := by decide +kernel
theorem dX5_wrong_47 : decode cX5_wrong 47 = .ok (.iconst 1, 1) := by decide +kernel
theorem dX5_wrong_48 : decode cX5_wrong 48 = .ok (.if_icmp .ne 25, 3) := by decide +kernel
theorem dX5_wrong_51 : decode cX5_wrong 51 = .ok (.aload_n 0, 1) := by decide +kernel
theorem dX5_wrong_52 : decode cX5_wrong 52 = .ok (.getfield 28, 3) := by decide +kernel
theorem dX5_wrong_55 : decode cX5_wrong 55 = .ok (.iload_n 2, 1) := by decide +kernel
theorem dX5_wrong_56 : decode cX5_wrong 56 = .ok (.invokevirtual 189, 3) := by decide +kernel
theorem dX5_wrong_59 : decode cX5_wrong 59 = .ok (.pop, 1) := by decide +kernel
theorem dX5_wrong_60 : decode cX5_wrong 60 = .ok (.iload_n 1, 1) := by decide +kernel
theorem dX5_wrong_61 : decode cX5_wrong 61 = .ok (.aload_n 0, 1) := by decide +kernel
theorem dX5_wrong_62 : decode cX5_wrong 62 = .ok (.getfield 28, 3) := by decide +kernel
theorem dX5_wrong_65 : decode cX5_wrong 65 = .ok (.invokevirtual 192, 3) := by decide +kernel
theorem dX5_wrong_68 : decode cX5_wrong 68 = .ok (.invokestatic 118, 3) := by decide +kernel
theorem dX5_wrong_71 : decode cX5_wrong 71 = .ok (.iadd, 1) := by decide +kernel
theorem dX5_wrong_72 : decode cX5_wrong 72 = .ok (.istore_n 1, 1) := by decide +kernel
theorem dX5_wrong_73 : decode cX5_wrong 73 = .ok (.iinc 2 1, 3) := by decide +kernel
theorem dX5_wrong_76 : decode cX5_wrong 76 = .ok (.goto (-51), 3) := by decide +kernel
theorem dX5_wrong_79 : decode cX5_wrong 79 = .ok (.iload_n 1, 1) := by decide +kernel
theorem dX5_wrong_80 : decode cX5_wrong 80 = .ok (.ireturn, 1) := by decide +kernel
set_option maxRecDepth 20000 in
theorem ggX5_left_X3_unfinishedEnds : GoodIn wsX5_left wsX3_unfinishedEnds := goodIn_r _ [6, 7, 8, 9, 10, 11, 12, 13, 14, 15, 16, 17, 18, 19, 20, 21, 22, 23, 24, 25, 26, 27, 28, 29, 30, 31, 32, 33, 34, 35, 36, 37, 38, 39, 40, 41, 42, 43, 44, 45, 5, 46, 47, 48, 49, 50, 51, 52, 53, 54, 55, 56, 57, 58, 59, 60, 61, 62, 63, 64, 65, 66, 67, 68, 74, 75, 76, 77, 78, 79, 80, 81, 82, 83, 84, 85, 86, 87, 88, 89, 90, 91, 92, 93] (by decide +kernel) (by decide +kernel)
set_option maxRecDepth 20000 in
theorem gX5_left_X3_unfinishedEnds : GoodIn wsX5_left (wsV RX5 196 RX3 yX3_unfinishedEnds wsX3_unfinishedEnds) := goodIn_app (goodIn_of _ (by decide +kernel)) ggX5_left_X3_unfinishedEnds
theorem dX5_left_0 : decode cX5_left 0 = .ok (.aload_n 0, 1) := by decide +kernel
theorem dX5_left_1 : decode cX5_left 1 = .ok (.getfield 28, 3) := by decide +kernel
theorem dX5_left_4 : decode cX5_left 4 = .ok (.invokevirtual 196, 3) := by decide +kernel
theorem dX5_left_7 : decode cX5_left 7 = .ok (.ireturn, 1) := by decide +kernel
set_option maxRecDepth 20000 in
theorem ggX5_draw_X1_drawWith : GoodIn wsX5_draw wsX1_drawWith := goodIn_r _ [6, 7, 8, 9, 10, 11, 12, 13, 14, 15, 16, 17, 18, 19, 20, 21, 22, 23, 24, 30, 31, 32, 33, 34, 35, 36, 37, 38, 39, 40, 41, 42, 43, 44, 45, 46, 47, 48, 49] (by decide +kernel) (by decide +kernel)
set_option maxRecDepth 20000 in
theorem gX5_draw_X1_drawWith : GoodIn wsX5_draw (wsV RX5 200 RX1 yX1_drawWith wsX1_drawWith) := goodIn_app (goodIn_of _ (by decide +kernel)) ggX5_draw_X1_drawWith
theorem dX5_draw_0 : decode cX5_draw 0 = .ok (.aload_n 0, 1) := by decide +kernel
theorem dX5_draw_1 : decode cX5_draw 1 = .ok (.getfield 37, 3) := by decide +kernel
theorem dX5_draw_4 : decode cX5_draw 4 = .ok (.iload_n 1, 1) := by decide +kernel
theorem dX5_draw_5 : decode cX5_draw 5 = .ok (.invokevirtual 200, 3) := by decide +kernel
theorem dX5_draw_8 : decode cX5_draw 8 = .ok (.ireturn, 1) := by decide +kernel
set_option maxRecDepth 20000 in
theorem ggX5_find_X1_firstSeed : GoodIn wsX5_find wsX1_firstSeed := goodIn_r _ [8, 9, 10, 11, 12, 13, 14, 15, 16, 17, 18, 19, 7, 20, 21, 22, 23, 24, 25, 26, 27, 28, 29, 30, 31, 32, 33, 34, 35, 36, 37, 38, 39, 40, 41, 42, 43, 44, 45, 46, 47, 48, 49, 50, 51, 52, 53, 54, 55, 56, 57, 58, 59, 60, 61, 62, 63, 64, 65, 66, 67, 68, 69, 70, 71, 72, 73, 74, 75, 76, 77, 78, 79, 80, 81, 82, 83, 84, 85, 86, 87, 88, 89, 90, 91, 113, 114, 115, 116, 97, 98, 99, 100, 101, 102, 103, 104, 105, 106, 107, 108, 109, 110, 111, 112, 117, 118, 119, 120] (by decide +kernel) (by decide +kernel)
set_option maxRecDepth 20000 in
theorem gX5_find_X1_firstSeed : GoodIn wsX5_find (wsV RX5 203 RX1 yX1_firstSeed wsX1_firstSeed) := goodIn_app (goodIn_of _ (by decide +kernel)) ggX5_find_X1_firstSeed
theorem dX5_find_0 : decode cX5_find 0 = .ok (.aload_n 0, 1) := by decide +kernel
theorem dX5_find_1 : decode cX5_find 1 = .ok (.getfield 10, 3) := by decide +kernel
theorem dX5_find_4 : decode cX5_find 4 = .ok (.getfield 82, 3) := by decide +kernel
theorem dX5_find_7 : decode cX5_find 7 = .ok (.ifCond .ne 7, 3) := by decide +kernel
theorem dX5_find_10 : decode cX5_find 10 = .ok (.iconst (-1), 1) := by decide +kernel
theorem dX5_find_11 : decode cX5_find 11 = .ok (.goto 10, 3) := by decide +kernel
theorem dX5_find_14 : decode cX5_find 14 = .ok (.aload_n 0, 1) := by decide +kernel
theorem dX5_find_15 : decode cX5_find 15 = .ok (.getfield 37, 3) := by decide +kernel
theorem dX5_find_18 : decode cX5_find 18 = .ok (.invokevirtual 203, 3) := by decide +kernel
theorem dX5_find_21 : decode cX5_find 21 = .ok (.ireturn, 1) := by decide +kernel
set_option maxRecDepth 20000 in
theorem ggX5_leave_X1_unmixAll : GoodIn wsX5_leave wsX1_unmixAll := goodIn_r _ [6, 7, 8, 9, 10, 11, 12, 13, 5, 14, 15, 16, 17, 18, 19, 20, 21, 22, 23, 24, 25, 26, 27, 28, 29, 30, 31, 32, 33, 34, 35, 36, 37, 38, 39, 40, 41, 42, 43, 44, 45, 46, 47, 48, 49, 50, 51, 52, 53, 54, 55, 56, 57, 58, 59, 60, 61, 62, 63, 64, 65, 66, 67, 68, 69, 70, 71, 72, 73, 74, 75, 76, 77, 78, 79, 80, 81, 82, 83, 84, 85, 86, 87, 88, 89, 90, 91, 92, 93, 94, 95, 96, 97, 98, 99, 100, 101, 102, 103, 104, 105, 106, 112, 113, 114, 115, 116, 117, 118, 119, 120, 121, 122, 123, 124, 125, 126, 127, 128, 129, 130, 131, 132, 133, 134, 135] (by decide +kernel) (by decide +kernel)
set_option maxRecDepth 20000 in
theorem gX5_leave_X1_unmixAll : GoodIn wsX5_leave (wsV RX5 206 RX1 yX1_unmixAll wsX1_unmixAll) := goodIn_app (goodIn_of _ (by decide +kernel)) ggX5_leave_X1_unmixAll
theorem dX5_leave_0 : decode cX5_leave 0 = .ok (.aload_n 0, 1) := by decide +kernel
theorem dX5_leave_1 : decode cX5_leave 1 = .ok (.getfield 37, 3) := by decide +kernel
theorem dX5_leave_4 : decode cX5_leave 4 = .ok (.invokevirtual 206, 3) := by decide +kernel
theorem dX5_leave_7 : decode cX5_leave 7 = .ok (.ireturn, 1) := by decide +kernel
set_option maxRecDepth 20000 in
theorem ggX5_safe_X5_isBreakCount : GoodIn wsX5_safe wsX5_isBreakCount := goodIn_r _ [7] (by decide +kernel) (by decide +kernel)
set_option maxRecDepth 20000 in
theorem gX5_safe_X5_isBreakCount : GoodIn wsX5_safe (va_wsS RX5 209 yX5_isBreakCount wsX5_isBreakCount) := goodIn_app (goodIn_of _ (by decide +kernel)) ggX5_safe_X5_isBreakCount
set_option maxRecDepth 20000 in
theorem ggX5_safe_X0_search : GoodIn wsX5_safe wsX0_search := goodIn_r _ [12, 13, 14, 15, 16, 17, 11, 18, 19, 20, 21, 22, 23, 24, 25, 26, 27, 28, 29, 30, 31, 32, 33, 6, 34, 35, 36, 37, 38, 39, 40, 41, 42, 43, 44, 45, 46, 47, 48, 49, 50, 51, 52, 53, 54, 55, 56, 57, 58, 59, 60, 61, 62, 63, 64, 65, 66, 67, 68, 69, 70, 71, 72, 73, 74, 75, 76, 77, 78, 79, 80, 81, 82, 83, 84, 85, 86, 87, 88, 89, 90, 91, 92, 117, 118, 119, 120, 121, 101, 102, 103, 104, 105, 106, 107, 108, 109, 110, 111, 112, 113, 114, 115, 116, 122, 123, 124, 125] (by decide +kernel) (by decide +kernel)
set_option maxRecDepth 20000 in
theorem gX5_safe_X0_search : GoodIn wsX5_safe (wsV RX5 212 RX0 yX0_search wsX0_search) := goodIn_app (goodIn_of _ (by decide +kernel)) ggX5_safe_X0_search
set_option maxRecDepth 20000 in
theorem ggX5_safe_X5_asFlag : GoodIn wsX5_safe wsX5_asFlag := goodIn_r _ [95] (by decide +kernel) (by decide +kernel)
set_option maxRecDepth 20000 in
theorem gX5_safe_X5_asFlag : GoodIn wsX5_safe (va_wsS RX5 118 yX5_asFlag wsX5_asFlag) := goodIn_app (goodIn_of _ (by decide +kernel)) ggX5_safe_X5_asFlag
theorem dX5_safe_0 : decode cX5_safe 0 = .ok (.iload_n 1, 1) := by decide +kernel
theorem dX5_safe_1 : decode cX5_safe 1 = .ok (.invokestatic 209, 3) := by decide +kernel
theorem dX5_safe_4 : decode cX5_safe 4 = .ok (.ifCond .eq 18, 3) := by decide +kernel
theorem dX5_safe_7 : decode cX5_safe 7 = .ok (.iload_n 2, 1) := by decide +kernel
theorem dX5_safe_8 : decode cX5_safe 8 = .ok (.ifCond .lt 14, 3) := by decide +kernel
theorem dX5_safe_11 : decode cX5_safe 11 = .ok (.iload_n 2, 1) := by decide +kernel
theorem dX5_safe_12 : decode cX5_safe 12 = .ok (.aload_n 0, 1) := by decide +kernel
theorem dX5_safe_13 : decode cX5_safe 13 = .ok (.getfield 10, 3) := by decide +kernel
theorem dX5_safe_16 : decode cX5_safe 16 = .ok (.getfield 63, 3) := by decide +kernel
theorem dX5_safe_19 : decode cX5_safe 19 = .ok (.if_icmp .le 6, 3) := by decide +kernel
theorem dX5_safe_22 : decode cX5_safe 22 = .ok (.bipush (-2), 2) := by decide +kernel
theorem dX5_safe_24 : decode cX5_safe 24 = .ok (.ireturn, 1) := by decide +kernel
theorem dX5_safe_25 : decode cX5_safe 25 = .ok (.aload_n 0, 1) := by decide +kernel
theorem dX5_safe_26 : decode cX5_safe 26 = .ok (.getfield 44, 3) := by decide +kernel
theorem dX5_safe_29 : decode cX5_safe 29 = .ok (.iload_n 1, 1) := by decide +kernel
theorem dX5_safe_30 : decode cX5_safe 30 = .ok (.iload_n 2, 1) := by decide +kernel
theorem dX5_safe_31 : decode cX5_safe 31 = .ok (.invokevirtual 212, 3) := by decide +kernel
theorem dX5_safe_34 : decode cX5_safe 34 = .ok (.ifCond .ne 7, 3) := by decide +kernel
theorem dX5_safe_37 : decode cX5_safe 37 = .ok (.iconst 1, 1) := by decide +kernel
theorem dX5_safe_38 : decode cX5_safe 38 = .ok (.goto 4, 3) := by decide +kernel
theorem dX5_safe_41 : decode cX5_safe 41 = .ok (.iconst 0, 1) := by decide +kernel
theorem dX5_safe_42 : decode cX5_safe 42 = .ok (.invokestatic 118, 3) := by decide +kernel
theorem dX5_safe_45 : decode cX5_safe 45 = .ok (.ireturn, 1) := by decide +kernel
set_option maxRecDepth 20000 in
theorem ggX5_breaks_X5_isBreakCount : GoodIn wsX5_breaks wsX5_isBreakCount := goodIn_r _ [10] (by decide +kernel) (by decide +kernel)
set_option maxRecDepth 20000 in
theorem gX5_breaks_X5_isBreakCount : GoodIn wsX5_breaks (va_wsS RX5 209 yX5_isBreakCount wsX5_isBreakCount) := goodIn_app (goodIn_of _ (by decide +kernel)) ggX5_breaks_X5_isBreakCount
set_option maxRecDepth 20000 in
theorem ggX5_breaks_X0_search : GoodIn wsX5_breaks wsX0_search := goodIn_r _ [15, 16, 17, 18, 19, 20, 14, 21, 22, 23, 24, 25, 26, 27, 28, 29, 30, 31, 32, 33, 34, 35, 36, 9, 37, 38, 39, 40, 41, 42, 43, 44, 45, 46, 47, 48, 49, 50, 51, 52, 53, 54, 55, 56, 57, 58, 59, 60, 61, 62, 63, 64, 65, 66, 67, 68, 69, 70, 71, 72, 73, 74, 75, 76, 77, 78, 79, 80, 81, 82, 83, 84, 85, 86, 87, 88, 89, 90, 91, 92, 93, 94, 95, 117, 118, 119, 120, 121, 101, 102, 103, 104, 105, 106, 107, 108, 109, 110, 111, 112, 113, 114, 115, 116, 122, 123, 124, 125] (by decide +kernel) (by decide +kernel)
set_option maxRecDepth 20000 in
theorem gX5_breaks_X0_search : GoodIn wsX5_breaks (wsV RX5 212 RX0 yX0_search wsX0_search) := goodIn_app (goodIn_of _ (by decide +kernel)) ggX5_breaks_X0_search
theorem dX5_breaks_0 : decode cX5_breaks 0 = .ok (.iload_n 3, 1) := by decide +kernel
theorem dX5_breaks_1 : decode cX5_breaks 1 = .ok (.ifCond .lt 8, 3) := by decide +kernel
theorem dX5_breaks_4 : decode cX5_breaks 4 = .ok (.iload_n 3, 1) := by decide +kernel
theorem dX5_breaks_5 : decode cX5_breaks 5 = .ok (.iconst 2, 1) := by decide +kernel
theorem dX5_breaks_6 : decode cX5_breaks 6 = .ok (.if_icmp .le 5, 3) := by decide +kernel
theorem dX5_breaks_9 : decode cX5_breaks 9 = .ok (.iconst (-1), 1) := by decide +kernel
theorem dX5_breaks_10 : decode cX5_breaks 10 = .ok (.ireturn, 1) := by decide +kernel
theorem dX5_breaks_11 : decode cX5_breaks 11 = .ok (.iload_n 1, 1) := by decide +kernel
theorem dX5_breaks_12 : decode cX5_breaks 12 = .ok (.invokestatic 209, 3) := by decide +kernel
theorem dX5_breaks_15 : decode cX5_breaks 15 = .ok (.ifCond .eq 18, 3) := by decide +kernel
theorem dX5_breaks_18 : decode cX5_breaks 18 = .ok (.iload_n 2, 1) := by decide +kernel
theorem dX5_breaks_19 : decode cX5_breaks 19 = .ok (.ifCond .lt 14, 3) := by decide +kernel
theorem dX5_breaks_22 : decode cX5_breaks 22 = .ok (.iload_n 2, 1) := by decide +kernel
theorem dX5_breaks_23 : decode cX5_breaks 23 = .ok (.aload_n 0, 1) := by decide +kernel
theorem dX5_breaks_24 : decode cX5_breaks 24 = .ok (.getfield 10, 3) := by decide +kernel
theorem dX5_breaks_27 : decode cX5_breaks 27 = .ok (.getfield 63, 3) := by decide +kernel
theorem dX5_breaks_30 : decode cX5_breaks 30 = .ok (.if_icmp .le 6, 3) := by decide +kernel
theorem dX5_breaks_33 : decode cX5_breaks 33 = .ok (.bipush (-2), 2) := by decide +kernel
theorem dX5_breaks_35 : decode cX5_breaks 35 = .ok (.ireturn, 1) := by decide +kernel
theorem dX5_breaks_36 : decode cX5_breaks 36 = .ok (.aload_n 0, 1) := by decide +kernel
theorem dX5_breaks_37 : decode cX5_breaks 37 = .ok (.getfield 44, 3) := by decide +kernel
theorem dX5_breaks_40 : decode cX5_breaks 40 = .ok (.iload_n 1, 1) := by decide +kernel
theorem dX5_breaks_41 : decode cX5_breaks 41 = .ok (.iload_n 2, 1) := by decide +kernel
theorem dX5_breaks_42 : decode cX5_breaks 42 = .ok (.invokevirtual 212, 3) := by decide +kernel
theorem dX5_breaks_45 : decode cX5_breaks 45 = .ok (.ifCond .ne 5, 3) := by decide +kernel
theorem dX5_breaks_48 : decode cX5_breaks 48 = .ok (.iconst (-1), 1) := by decide +kernel
theorem dX5_breaks_49 : decode cX5_breaks 49 = .ok (.ireturn, 1) := by decide +kernel
theorem dX5_breaks_50 : decode cX5_breaks 50 = .ok (.iload_n 3, 1) := by decide +kernel
theorem dX5_breaks_51 : decode cX5_breaks 51 = .ok (.ifCond .ne 11, 3) := by decide +kernel
theorem dX5_breaks_54 : decode cX5_breaks 54 = .ok (.aload_n 0, 1) := by decide +kernel
theorem dX5_breaks_55 : decode cX5_breaks 55 = .ok (.getfield 44, 3) := by decide +kernel
theorem dX5_breaks_58 : decode cX5_breaks 58 = .ok (.getfield 216, 3) := by decide +kernel
theorem dX5_breaks_61 : decode cX5_breaks 61 = .ok (.ireturn, 1) := by decide +kernel
theorem dX5_breaks_62 : decode cX5_breaks 62 = .ok (.iload_n 3, 1) := by decide +kernel
theorem dX5_breaks_63 : decode cX5_breaks 63 = .ok (.iconst 1, 1) := by decide +kernel
theorem dX5_breaks_64 : decode cX5_breaks 64 = .ok (.if_icmp .ne 13, 3) := by decide +kernel
theorem dX5_breaks_67 : decode cX5_breaks 67 = .ok (.aload_n 0, 1) := by decide +kernel
theorem dX5_breaks_68 : decode cX5_breaks 68 = .ok (.getfield 44, 3) := by decide +kernel
theorem dX5_breaks_71 : decode cX5_breaks 71 = .ok (.getfield 219, 3) := by decide +kernel
theorem dX5_breaks_74 : decode cX5_breaks 74 = .ok (.goto 10, 3) := by decide +kernel
theorem dX5_breaks_77 : decode cX5_breaks 77 = .ok (.aload_n 0, 1) := by decide +kernel
theorem dX5_breaks_78 : decode cX5_breaks 78 = .ok (.getfield 44, 3) := by decide +kernel
theorem dX5_breaks_81 : decode cX5_breaks 81 = .ok (.getfield 222, 3) := by decide +kernel
theorem dX5_breaks_84 : decode cX5_breaks 84 = .ok (.ireturn, 1) := by decide +kernel
set_option maxRecDepth 20000 in
theorem ggX5_count_J6_bitCount_0f7a4 : GoodIn wsX5_count wsJ6_bitCount_0f7a4 := goodIn_r _ [10, 11, 12, 13] (by decide +kernel) (by decide +kernel)
set_option maxRecDepth 20000 in
theorem gX5_count_J6_bitCount_0f7a4 : GoodIn wsX5_count (va_wsS RX5 225 yJ6_bitCount_0f7a4 wsJ6_bitCount_0f7a4) := goodIn_app (goodIn_of _ (by decide +kernel)) ggX5_count_J6_bitCount_0f7a4
set_option maxRecDepth 20000 in
theorem ggX5_count_X2_passingLines : GoodIn wsX5_count wsX2_passingLines := goodIn_r _ [18, 19, 20, 21, 22, 17, 23, 24, 25, 26, 27, 28, 29, 30, 31, 32, 33, 34, 35, 36, 46, 47, 48, 49, 50, 51, 52, 53, 54, 55, 56, 57, 58, 59, 60, 61] (by decide +kernel) (by decide +kernel)
set_option maxRecDepth 20000 in
theorem gX5_count_X2_passingLines : GoodIn wsX5_count (wsV RX5 230 RX2 yX2_passingLines wsX2_passingLines) := goodIn_app (goodIn_of _ (by decide +kernel)) ggX5_count_X2_passingLines
set_option maxRecDepth 20000 in
theorem ggX5_count_X2_allFactors : GoodIn wsX5_count wsX2_allFactors := goodIn_r _ [40, 19, 26, 27, 28, 17, 29, 24, 30, 31, 46, 47, 48, 49, 50, 51, 52, 53, 54, 55, 56, 57, 58, 59, 60, 61] (by decide +kernel) (by decide +kernel)
set_option maxRecDepth 20000 in
theorem gX5_count_X2_allFactors : GoodIn wsX5_count (wsV RX5 233 RX2 yX2_allFactors wsX2_allFactors) := goodIn_app (goodIn_of _ (by decide +kernel)) ggX5_count_X2_allFactors
theorem dX5_count_0 : decode cX5_count 0 = .ok (.iload_n 1, 1) := by decide +kernel
theorem dX5_count_1 : decode cX5_count 1 = .ok (.tableswitch 105 0 6 #[43, 51, 59, 67, 78, 89, 97], 43) := by decide +kernel
theorem dX5_count_44 : decode cX5_count 44 = .ok (.aload_n 0, 1) := by decide +kernel
theorem dX5_count_45 : decode cX5_count 45 = .ok (.getfield 10, 3) := by decide +kernel
theorem dX5_count_48 : decode cX5_count 48 = .ok (.getfield 48, 3) := by decide +kernel
theorem dX5_count_51 : decode cX5_count 51 = .ok (.ireturn, 1) := by decide +kernel
theorem dX5_count_52 : decode cX5_count 52 = .ok (.aload_n 0, 1) := by decide +kernel
theorem dX5_count_53 : decode cX5_count 53 = .ok (.getfield 10, 3) := by decide +kernel
theorem dX5_count_56 : decode cX5_count 56 = .ok (.getfield 56, 3) := by decide +kernel
theorem dX5_count_59 : decode cX5_count 59 = .ok (.ireturn, 1) := by decide +kernel
theorem dX5_count_60 : decode cX5_count 60 = .ok (.aload_n 0, 1) := by decide +kernel
theorem dX5_count_61 : decode cX5_count 61 = .ok (.getfield 10, 3) := by decide +kernel
theorem dX5_count_64 : decode cX5_count 64 = .ok (.getfield 63, 3) := by decide +kernel
theorem dX5_count_67 : decode cX5_count 67 = .ok (.ireturn, 1) := by decide +kernel
theorem dX5_count_68 : decode cX5_count 68 = .ok (.aload_n 0, 1) := by decide +kernel
theorem dX5_count_69 : decode cX5_count 69 = .ok (.getfield 10, 3) := by decide +kernel
theorem dX5_count_72 : decode cX5_count 72 = .ok (.getfield 82, 3) := by decide +kernel
theorem dX5_count_75 : decode cX5_count 75 = .ok (.invokestatic 225, 3) := by decide +kernel
theorem dX5_count_78 : decode cX5_count 78 = .ok (.ireturn, 1) := by decide +kernel
theorem dX5_count_79 : decode cX5_count 79 = .ok (.aload_n 0, 1) := by decide +kernel
theorem dX5_count_80 : decode cX5_count 80 = .ok (.getfield 10, 3) := by decide +kernel
theorem dX5_count_83 : decode cX5_count 83 = .ok (.getfield 112, 3) := by decide +kernel
theorem dX5_count_86 : decode cX5_count 86 = .ok (.invokestatic 225, 3) := by decide +kernel
theorem dX5_count_89 : decode cX5_count 89 = .ok (.ireturn, 1) := by decide +kernel
theorem dX5_count_90 : decode cX5_count 90 = .ok (.aload_n 0, 1) := by decide +kernel
theorem dX5_count_91 : decode cX5_count 91 = .ok (.getfield 10, 3) := by decide +kernel
theorem dX5_count_94 : decode cX5_count 94 = .ok (.invokevirtual 230, 3) := by decide +kernel
theorem dX5_count_97 : decode cX5_count 97 = .ok (.ireturn, 1) := by decide +kernel
theorem dX5_count_98 : decode cX5_count 98 = .ok (.aload_n 0, 1) := by decide +kernel
theorem dX5_count_99 : decode cX5_count 99 = .ok (.getfield 10, 3) := by decide +kernel
theorem dX5_count_102 : decode cX5_count 102 = .ok (.invokevirtual 233, 3) := by decide +kernel
theorem dX5_count_105 : decode cX5_count 105 = .ok (.ireturn, 1) := by decide +kernel
theorem dX5_count_106 : decode cX5_count 106 = .ok (.iconst (-1), 1) := by decide +kernel
theorem dX5_count_107 : decode cX5_count 107 = .ok (.ireturn, 1) := by decide +kernel
set_option maxRecDepth 20000 in
theorem ggX5_refusalOf_X2_isRelay : GoodIn wsX5_refusalOf wsX2_isRelay := goodIn_r _ [6, 7, 13, 14, 15, 16, 17, 18, 19, 20, 21, 22, 23, 24, 25, 26, 27, 28] (by decide +kernel) (by decide +kernel)
set_option maxRecDepth 20000 in
theorem gX5_refusalOf_X2_isRelay : GoodIn wsX5_refusalOf (wsV RX5 52 RX2 yX2_isRelay wsX2_isRelay) := goodIn_app (goodIn_of _ (by decide +kernel)) ggX5_refusalOf_X2_isRelay
theorem dX5_refusalOf_0 : decode cX5_refusalOf 0 = .ok (.aload_n 0, 1) := by decide +kernel
theorem dX5_refusalOf_1 : decode cX5_refusalOf 1 = .ok (.getfield 10, 3) := by decide +kernel
theorem dX5_refusalOf_4 : decode cX5_refusalOf 4 = .ok (.iload_n 1, 1) := by decide +kernel
theorem dX5_refusalOf_5 : decode cX5_refusalOf 5 = .ok (.invokevirtual 52, 3) := by decide +kernel
theorem dX5_refusalOf_8 : decode cX5_refusalOf 8 = .ok (.ifCond .ne 5, 3) := by decide +kernel
theorem dX5_refusalOf_11 : decode cX5_refusalOf 11 = .ok (.iconst (-1), 1) := by decide +kernel
theorem dX5_refusalOf_12 : decode cX5_refusalOf 12 = .ok (.ireturn, 1) := by decide +kernel
theorem dX5_refusalOf_13 : decode cX5_refusalOf 13 = .ok (.iload_n 1, 1) := by decide +kernel
theorem dX5_refusalOf_14 : decode cX5_refusalOf 14 = .ok (.ifCond .ne 8, 3) := by decide +kernel
theorem dX5_refusalOf_17 : decode cX5_refusalOf 17 = .ok (.bipush (-2), 2) := by decide +kernel
theorem dX5_refusalOf_19 : decode cX5_refusalOf 19 = .ok (.goto 4, 3) := by decide +kernel
theorem dX5_refusalOf_22 : decode cX5_refusalOf 22 = .ok (.iconst 0, 1) := by decide +kernel
theorem dX5_refusalOf_23 : decode cX5_refusalOf 23 = .ok (.ireturn, 1) := by decide +kernel
set_option maxRecDepth 20000 in
theorem ggX5_refusalOf__X2_isPiece : GoodIn wsX5_refusalOf_ wsX2_isPiece := goodIn_r _ [6, 7, 23, 24, 25, 26, 27, 28, 29, 30, 31, 32, 33, 34, 35, 36, 37, 38] (by decide +kernel) (by decide +kernel)
set_option maxRecDepth 20000 in
theorem gX5_refusalOf__X2_isPiece : GoodIn wsX5_refusalOf_ (wsV RX5 76 RX2 yX2_isPiece wsX2_isPiece) := goodIn_app (goodIn_of _ (by decide +kernel)) ggX5_refusalOf__X2_isPiece
set_option maxRecDepth 20000 in
theorem ggX5_refusalOf__X5_refusalOf : GoodIn wsX5_refusalOf_ wsX5_refusalOf := goodIn_r _ [12, 1, 13, 14, 15, 5, 16, 17, 18, 19, 20, 21, 22, 23, 24, 25, 26, 27, 28, 29, 30, 31, 32, 33, 34, 35, 36, 37, 38] (by decide +kernel) (by decide +kernel)
set_option maxRecDepth 20000 in
theorem gX5_refusalOf__X5_refusalOf : GoodIn wsX5_refusalOf_ (wsV RX5 137 RX5 yX5_refusalOf wsX5_refusalOf) := goodIn_app (goodIn_of _ (by decide +kernel)) ggX5_refusalOf__X5_refusalOf
theorem dX5_refusalOf__0 : decode cX5_refusalOf_ 0 = .ok (.aload_n 0, 1) := by decide +kernel
theorem dX5_refusalOf__1 : decode cX5_refusalOf_ 1 = .ok (.getfield 10, 3) := by decide +kernel
theorem dX5_refusalOf__4 : decode cX5_refusalOf_ 4 = .ok (.iload_n 2, 1) := by decide +kernel
theorem dX5_refusalOf__5 : decode cX5_refusalOf_ 5 = .ok (.invokevirtual 76, 3) := by decide +kernel
theorem dX5_refusalOf__8 : decode cX5_refusalOf_ 8 = .ok (.ifCond .eq 11, 3) := by decide +kernel
theorem dX5_refusalOf__11 : decode cX5_refusalOf_ 11 = .ok (.aload_n 0, 1) := by decide +kernel
theorem dX5_refusalOf__12 : decode cX5_refusalOf_ 12 = .ok (.iload_n 1, 1) := by decide +kernel
theorem dX5_refusalOf__13 : decode cX5_refusalOf_ 13 = .ok (.invokevirtual 137, 3) := by decide +kernel
theorem dX5_refusalOf__16 : decode cX5_refusalOf_ 16 = .ok (.goto 4, 3) := by decide +kernel
theorem dX5_refusalOf__19 : decode cX5_refusalOf_ 19 = .ok (.iconst (-1), 1) := by decide +kernel
theorem dX5_refusalOf__20 : decode cX5_refusalOf_ 20 = .ok (.ireturn, 1) := by decide +kernel
theorem dX5_isFlag_0 : decode cX5_isFlag 0 = .ok (.iload_n 0, 1) := by decide +kernel
theorem dX5_isFlag_1 : decode cX5_isFlag 1 = .ok (.ifCond .eq 8, 3) := by decide +kernel
theorem dX5_isFlag_4 : decode cX5_isFlag 4 = .ok (.iload_n 0, 1) := by decide +kernel
theorem dX5_isFlag_5 : decode cX5_isFlag 5 = .ok (.iconst 1, 1) := by decide +kernel
theorem dX5_isFlag_6 : decode cX5_isFlag 6 = .ok (.if_icmp .ne 7, 3) := by decide +kernel
theorem dX5_isFlag_9 : decode cX5_isFlag 9 = .ok (.iconst 1, 1) := by decide +kernel
theorem dX5_isFlag_10 : decode cX5_isFlag 10 = .ok (.goto 4, 3) := by decide +kernel
theorem dX5_isFlag_13 : decode cX5_isFlag 13 = .ok (.iconst 0, 1) := by decide +kernel
theorem dX5_isFlag_14 : decode cX5_isFlag 14 = .ok (.ireturn, 1) := by decide +kernel
theorem dX5_isNumber_0 : decode cX5_isNumber 0 = .ok (.iload_n 0, 1) := by decide +kernel
theorem dX5_isNumber_1 : decode cX5_isNumber 1 = .ok (.ifCond .lt 14, 3) := by decide +kernel
theorem dX5_isNumber_4 : decode cX5_isNumber 4 = .ok (.iload_n 0, 1) := by decide +kernel
theorem dX5_isNumber_5 : decode cX5_isNumber 5 = .ok (.sipush 255, 3) := by decide +kernel
theorem dX5_isNumber_8 : decode cX5_isNumber 8 = .ok (.if_icmp .gt 7, 3) := by decide +kernel
theorem dX5_isNumber_11 : decode cX5_isNumber 11 = .ok (.iconst 1, 1) := by decide +kernel
theorem dX5_isNumber_12 : decode cX5_isNumber 12 = .ok (.goto 4, 3) := by decide +kernel
theorem dX5_isNumber_15 : decode cX5_isNumber 15 = .ok (.iconst 0, 1) := by decide +kernel
theorem dX5_isNumber_16 : decode cX5_isNumber 16 = .ok (.ireturn, 1) := by decide +kernel
theorem dX5_isBreakCount_0 : decode cX5_isBreakCount 0 = .ok (.iload_n 0, 1) := by decide +kernel
theorem dX5_isBreakCount_1 : decode cX5_isBreakCount 1 = .ok (.ifCond .lt 12, 3) := by decide +kernel
theorem dX5_isBreakCount_4 : decode cX5_isBreakCount 4 = .ok (.iload_n 0, 1) := by decide +kernel
theorem dX5_isBreakCount_5 : decode cX5_isBreakCount 5 = .ok (.iconst 2, 1) := by decide +kernel
theorem dX5_isBreakCount_6 : decode cX5_isBreakCount 6 = .ok (.if_icmp .gt 7, 3) := by decide +kernel
theorem dX5_isBreakCount_9 : decode cX5_isBreakCount 9 = .ok (.iconst 1, 1) := by decide +kernel
theorem dX5_isBreakCount_10 : decode cX5_isBreakCount 10 = .ok (.goto 4, 3) := by decide +kernel
theorem dX5_isBreakCount_13 : decode cX5_isBreakCount 13 = .ok (.iconst 0, 1) := by decide +kernel
theorem dX5_isBreakCount_14 : decode cX5_isBreakCount 14 = .ok (.ireturn, 1) := by decide +kernel
theorem dX5_asFlag_0 : decode cX5_asFlag 0 = .ok (.iload_n 0, 1) := by decide +kernel
theorem dX5_asFlag_1 : decode cX5_asFlag 1 = .ok (.ifCond .eq 7, 3) := by decide +kernel
theorem dX5_asFlag_4 : decode cX5_asFlag 4 = .ok (.iconst 1, 1) := by decide +kernel
theorem dX5_asFlag_5 : decode cX5_asFlag 5 = .ok (.goto 4, 3) := by decide +kernel
theorem dX5_asFlag_8 : decode cX5_asFlag 8 = .ok (.iconst 0, 1) := by decide +kernel
theorem dX5_asFlag_9 : decode cX5_asFlag 9 = .ok (.ireturn, 1) := by decide +kernel
theorem dX5_flag_0 : decode cX5_flag 0 = .ok (.iload_n 0, 1) := by decide +kernel
theorem dX5_flag_1 : decode cX5_flag 1 = .ok (.iload_n 1, 1) := by decide +kernel
theorem dX5_flag_2 : decode cX5_flag 2 = .ok (.iushr, 1) := by decide +kernel
theorem dX5_flag_3 : decode cX5_flag 3 = .ok (.iconst 1, 1) := by decide +kernel
theorem dX5_flag_4 : decode cX5_flag 4 = .ok (.iand, 1) := by decide +kernel
theorem dX5_flag_5 : decode cX5_flag 5 = .ok (.ireturn, 1) := by decide +kernel
theorem dX5_withFlag_0 : decode cX5_withFlag 0 = .ok (.iload_n 0, 1) := by decide +kernel
theorem dX5_withFlag_1 : decode cX5_withFlag 1 = .ok (.iconst 1, 1) := by decide +kernel
theorem dX5_withFlag_2 : decode cX5_withFlag 2 = .ok (.iload_n 1, 1) := by decide +kernel
theorem dX5_withFlag_3 : decode cX5_withFlag 3 = .ok (.ishl, 1) := by decide +kernel
theorem dX5_withFlag_4 : decode cX5_withFlag 4 = .ok (.iconst (-1), 1) := by decide +kernel
theorem dX5_withFlag_5 : decode cX5_withFlag 5 = .ok (.ixor, 1) := by decide +kernel
theorem dX5_withFlag_6 : decode cX5_withFlag 6 = .ok (.iand, 1) := by decide +kernel
theorem dX5_withFlag_7 : decode cX5_withFlag 7 = .ok (.iload_n 2, 1) := by decide +kernel
theorem dX5_withFlag_8 : decode cX5_withFlag 8 = .ok (.iload_n 1, 1) := by decide +kernel
theorem dX5_withFlag_9 : decode cX5_withFlag 9 = .ok (.ishl, 1) := by decide +kernel
theorem dX5_withFlag_10 : decode cX5_withFlag 10 = .ok (.ior, 1) := by decide +kernel
theorem dX5_withFlag_11 : decode cX5_withFlag 11 = .ok (.ireturn, 1) := by decide +kernel
theorem dX5_slot_0 : decode cX5_slot 0 = .ok (.iload_n 0, 1) := by decide +kernel
theorem dX5_slot_1 : decode cX5_slot 1 = .ok (.bipush 30, 2) := by decide +kernel
theorem dX5_slot_3 : decode cX5_slot 3 = .ok (.imul, 1) := by decide +kernel
theorem dX5_slot_4 : decode cX5_slot 4 = .ok (.iload_n 1, 1) := by decide +kernel
theorem dX5_slot_5 : decode cX5_slot 5 = .ok (.iadd, 1) := by decide +kernel
theorem dX5_slot_6 : decode cX5_slot 6 = .ok (.ireturn, 1) := by decide +kernel
theorem dX5_byteOf_0 : decode cX5_byteOf 0 = .ok (.lload_n 0, 1) := by decide +kernel
theorem dX5_byteOf_1 : decode cX5_byteOf 1 = .ok (.bipush 8, 2) := by decide +kernel
theorem dX5_byteOf_3 : decode cX5_byteOf 3 = .ok (.iload_n 2, 1) := by decide +kernel
theorem dX5_byteOf_4 : decode cX5_byteOf 4 = .ok (.imul, 1) := by decide +kernel
theorem dX5_byteOf_5 : decode cX5_byteOf 5 = .ok (.lushr, 1) := by decide +kernel
theorem dX5_byteOf_6 : decode cX5_byteOf 6 = .ok (.l2i, 1) := by decide +kernel
theorem dX5_byteOf_7 : decode cX5_byteOf 7 = .ok (.sipush 255, 3) := by decide +kernel
theorem dX5_byteOf_10 : decode cX5_byteOf 10 = .ok (.iand, 1) := by decide +kernel
theorem dX5_byteOf_11 : decode cX5_byteOf 11 = .ok (.ireturn, 1) := by decide +kernel
theorem dX5_scaled_0 : decode cX5_scaled 0 = .ok (.lconst 0, 1) := by decide +kernel
theorem dX5_scaled_1 : decode cX5_scaled 1 = .ok (.lstore_n 3, 1) := by decide +kernel
theorem dX5_scaled_2 : decode cX5_scaled 2 = .ok (.lload_n 0, 1) := by decide +kernel
theorem dX5_scaled_3 : decode cX5_scaled 3 = .ok (.lstore 5, 2) := by decide +kernel
theorem dX5_scaled_5 : decode cX5_scaled 5 = .ok (.iload_n 2, 1) := by decide +kernel
theorem dX5_scaled_6 : decode cX5_scaled 6 = .ok (.istore 7, 2) := by decide +kernel
theorem dX5_scaled_8 : decode cX5_scaled 8 = .ok (.iconst 0, 1) := by decide +kernel
theorem dX5_scaled_9 : decode cX5_scaled 9 = .ok (.istore 8, 2) := by decide +kernel
theorem dX5_scaled_11 : decode cX5_scaled 11 = .ok (.iload 8, 2) := by decide +kernel
theorem dX5_scaled_13 : decode cX5_scaled 13 = .ok (.bipush 8, 2) := by decide +kernel
theorem dX5_scaled_15 : decode cX5_scaled 15 = .ok (.if_icmp .ge 61, 3) := by decide +kernel
theorem dX5_scaled_18 : decode cX5_scaled 18 = .ok (.iload 7, 2) := by decide +kernel
theorem dX5_scaled_20 : decode cX5_scaled 20 = .ok (.ifCond .eq 56, 3) := by decide +kernel
theorem dX5_scaled_23 : decode cX5_scaled 23 = .ok (.iload 7, 2) := by decide +kernel
theorem dX5_scaled_25 : decode cX5_scaled 25 = .ok (.iconst 1, 1) := by decide +kernel
theorem dX5_scaled_26 : decode cX5_scaled 26 = .ok (.iand, 1) := by decide +kernel
theorem dX5_scaled_27 : decode cX5_scaled 27 = .ok (.iconst 1, 1) := by decide +kernel
theorem dX5_scaled_28 : decode cX5_scaled 28 = .ok (.if_icmp .ne 8, 3) := by decide +kernel
theorem dX5_scaled_31 : decode cX5_scaled 31 = .ok (.lload_n 3, 1) := by decide +kernel
theorem dX5_scaled_32 : decode cX5_scaled 32 = .ok (.lload 5, 2) := by decide +kernel
theorem dX5_scaled_34 : decode cX5_scaled 34 = .ok (.lxor, 1) := by decide +kernel
theorem dX5_scaled_35 : decode cX5_scaled 35 = .ok (.lstore_n 3, 1) := by decide +kernel
theorem dX5_scaled_36 : decode cX5_scaled 36 = .ok (.lload 5, 2) := by decide +kernel
theorem dX5_scaled_38 : decode cX5_scaled 38 = .ok (.bipush 7, 2) := by decide +kernel
theorem dX5_scaled_40 : decode cX5_scaled 40 = .ok (.lushr, 1) := by decide +kernel
theorem dX5_scaled_41 : decode cX5_scaled 41 = .ok (.ldc2_w 236, 3) := by decide +kernel
theorem dX5_scaled_44 : decode cX5_scaled 44 = .ok (.land, 1) := by decide +kernel
theorem dX5_scaled_45 : decode cX5_scaled 45 = .ok (.lstore 9, 2) := by decide +kernel
theorem dX5_scaled_47 : decode cX5_scaled 47 = .ok (.lload 5, 2) := by decide +kernel
theorem dX5_scaled_49 : decode cX5_scaled 49 = .ok (.ldc2_w 238, 3) := by decide +kernel
theorem dX5_scaled_52 : decode cX5_scaled 52 = .ok (.land, 1) := by decide +kernel
theorem dX5_scaled_53 : decode cX5_scaled 53 = .ok (.iconst 1, 1) := by decide +kernel
theorem dX5_scaled_54 : decode cX5_scaled 54 = .ok (.lshl, 1) := by decide +kernel
theorem dX5_scaled_55 : decode cX5_scaled 55 = .ok (.lload 9, 2) := by decide +kernel
theorem dX5_scaled_57 : decode cX5_scaled 57 = .ok (.ldc2_w 240, 3) := by decide +kernel
theorem dX5_scaled_60 : decode cX5_scaled 60 = .ok (.lmul, 1) := by decide +kernel
theorem dX5_scaled_61 : decode cX5_scaled 61 = .ok (.lxor, 1) := by decide +kernel
theorem dX5_scaled_62 : decode cX5_scaled 62 = .ok (.lstore 5, 2) := by decide +kernel
theorem dX5_scaled_64 : decode cX5_scaled 64 = .ok (.iload 7, 2) := by decide +kernel
theorem dX5_scaled_66 : decode cX5_scaled 66 = .ok (.iconst 1, 1) := by decide +kernel
theorem dX5_scaled_67 : decode cX5_scaled 67 = .ok (.iushr, 1) := by decide +kernel
theorem dX5_scaled_68 : decode cX5_scaled 68 = .ok (.istore 7, 2) := by decide +kernel
theorem dX5_scaled_70 : decode cX5_scaled 70 = .ok (.iinc 8 1, 3) := by decide +kernel
theorem dX5_scaled_73 : decode cX5_scaled 73 = .ok (.goto (-62), 3) := by decide +kernel
theorem dX5_scaled_76 : decode cX5_scaled 76 = .ok (.lload_n 3, 1) := by decide +kernel
theorem dX5_scaled_77 : decode cX5_scaled 77 = .ok (.lreturn, 1) := by decide +kernel
set_option maxRecDepth 20000 in
theorem ggX5_product_X5_scaled : GoodIn wsX5_product wsX5_scaled := goodIn_r _ [4, 5, 6, 7] (by decide +kernel) (by decide +kernel)
set_option maxRecDepth 20000 in
theorem gX5_product_X5_scaled : GoodIn wsX5_product (va_wsS RX5 242 yX5_scaled wsX5_scaled) := goodIn_app (goodIn_of _ (by decide +kernel)) ggX5_product_X5_scaled
theorem dX5_product_0 : decode cX5_product 0 = .ok (.iload_n 0, 1) := by decide +kernel
theorem dX5_product_1 : decode cX5_product 1 = .ok (.i2l, 1) := by decide +kernel
theorem dX5_product_2 : decode cX5_product 2 = .ok (.iload_n 1, 1) := by decide +kernel
theorem dX5_product_3 : decode cX5_product 3 = .ok (.invokestatic 242, 3) := by decide +kernel
theorem dX5_product_6 : decode cX5_product 6 = .ok (.l2i, 1) := by decide +kernel
theorem dX5_product_7 : decode cX5_product 7 = .ok (.ireturn, 1) := by decide +kernel
set_option maxRecDepth 20000 in
theorem ggX5_inverseOf_X5_scaled : GoodIn wsX5_inverseOf wsX5_scaled := goodIn_r _ [4, 5, 6, 7] (by decide +kernel) (by decide +kernel)
set_option maxRecDepth 20000 in
theorem gX5_inverseOf_X5_scaled : GoodIn wsX5_inverseOf (va_wsS RX5 242 yX5_scaled wsX5_scaled) := goodIn_app (goodIn_of _ (by decide +kernel)) ggX5_inverseOf_X5_scaled
theorem dX5_inverseOf_0 : decode cX5_inverseOf 0 = .ok (.iload_n 0, 1) := by decide +kernel
theorem dX5_inverseOf_1 : decode cX5_inverseOf 1 = .ok (.i2l, 1) := by decide +kernel
theorem dX5_inverseOf_2 : decode cX5_inverseOf 2 = .ok (.lstore_n 1, 1) := by decide +kernel
theorem dX5_inverseOf_3 : decode cX5_inverseOf 3 = .ok (.lconst 1, 1) := by decide +kernel
theorem dX5_inverseOf_4 : decode cX5_inverseOf 4 = .ok (.lstore_n 3, 1) := by decide +kernel
theorem dX5_inverseOf_5 : decode cX5_inverseOf 5 = .ok (.iconst 1, 1) := by decide +kernel
theorem dX5_inverseOf_6 : decode cX5_inverseOf 6 = .ok (.istore 5, 2) := by decide +kernel
theorem dX5_inverseOf_8 : decode cX5_inverseOf 8 = .ok (.iload 5, 2) := by decide +kernel
theorem dX5_inverseOf_10 : decode cX5_inverseOf 10 = .ok (.bipush 8, 2) := by decide +kernel
theorem dX5_inverseOf_12 : decode cX5_inverseOf 12 = .ok (.if_icmp .ge 23, 3) := by decide +kernel
theorem dX5_inverseOf_15 : decode cX5_inverseOf 15 = .ok (.lload_n 1, 1) := by decide +kernel
theorem dX5_inverseOf_16 : decode cX5_inverseOf 16 = .ok (.lload_n 1, 1) := by decide +kernel
theorem dX5_inverseOf_17 : decode cX5_inverseOf 17 = .ok (.l2i, 1) := by decide +kernel
theorem dX5_inverseOf_18 : decode cX5_inverseOf 18 = .ok (.invokestatic 242, 3) := by decide +kernel
theorem dX5_inverseOf_21 : decode cX5_inverseOf 21 = .ok (.lstore_n 1, 1) := by decide +kernel
theorem dX5_inverseOf_22 : decode cX5_inverseOf 22 = .ok (.lload_n 3, 1) := by decide +kernel
theorem dX5_inverseOf_23 : decode cX5_inverseOf 23 = .ok (.lload_n 1, 1) := by decide +kernel
theorem dX5_inverseOf_24 : decode cX5_inverseOf 24 = .ok (.l2i, 1) := by decide +kernel
theorem dX5_inverseOf_25 : decode cX5_inverseOf 25 = .ok (.invokestatic 242, 3) := by decide +kernel
theorem dX5_inverseOf_28 : decode cX5_inverseOf 28 = .ok (.lstore_n 3, 1) := by decide +kernel
theorem dX5_inverseOf_29 : decode cX5_inverseOf 29 = .ok (.iinc 5 1, 3) := by decide +kernel
theorem dX5_inverseOf_32 : decode cX5_inverseOf 32 = .ok (.goto (-24), 3) := by decide +kernel
theorem dX5_inverseOf_35 : decode cX5_inverseOf 35 = .ok (.lload_n 3, 1) := by decide +kernel
theorem dX5_inverseOf_36 : decode cX5_inverseOf 36 = .ok (.l2i, 1) := by decide +kernel
theorem dX5_inverseOf_37 : decode cX5_inverseOf 37 = .ok (.ireturn, 1) := by decide +kernel
theorem dX6_init_0 : decode cX6_init 0 = .ok (.aload_n 0, 1) := by decide +kernel
theorem dX6_init_1 : decode cX6_init 1 = .ok (.invokespecial 1, 3) := by decide +kernel
theorem dX6_init_4 : decode cX6_init 4 = .ok (.aload_n 0, 1) := by decide +kernel
theorem dX6_init_5 : decode cX6_init 5 = .ok (.iconst 1, 1) := by decide +kernel
theorem dX6_init_6 : decode cX6_init 6 = .ok (.putfield 7, 3) := by decide +kernel
theorem dX6_init_9 : decode cX6_init 9 = .ok (.aload_n 0, 1) := by decide +kernel
theorem dX6_init_10 : decode cX6_init 10 = .ok (.iconst 1, 1) := by decide +kernel
theorem dX6_init_11 : decode cX6_init 11 = .ok (.putfield 13, 3) := by decide +kernel
theorem dX6_init_14 : decode cX6_init 14 = .ok (.aload_n 0, 1) := by decide +kernel
theorem dX6_init_15 : decode cX6_init 15 = .ok (.iconst 4, 1) := by decide +kernel
theorem dX6_init_16 : decode cX6_init 16 = .ok (.newarray .long, 2) := by decide +kernel
theorem dX6_init_18 : decode cX6_init 18 = .ok (.putfield 16, 3) := by decide +kernel
theorem dX6_init_21 : decode cX6_init 21 = .ok (.aload_n 0, 1) := by decide +kernel
theorem dX6_init_22 : decode cX6_init 22 = .ok (.bipush 12, 2) := by decide +kernel
theorem dX6_init_24 : decode cX6_init 24 = .ok (.newarray .boolean, 2) := by decide +kernel
theorem dX6_init_26 : decode cX6_init 26 = .ok (.putfield 20, 3) := by decide +kernel
theorem dX6_init_29 : decode cX6_init 29 = .ok (.aload_n 0, 1) := by decide +kernel
theorem dX6_init_30 : decode cX6_init 30 = .ok (.bipush 30, 2) := by decide +kernel
theorem dX6_init_32 : decode cX6_init 32 = .ok (.newarray .int, 2) := by decide +kernel
theorem dX6_init_34 : decode cX6_init 34 = .ok (.putfield 24, 3) := by decide +kernel
theorem dX6_init_37 : decode cX6_init 37 = .ok (.aload_n 0, 1) := by decide +kernel
theorem dX6_init_38 : decode cX6_init 38 = .ok (.bipush 30, 2) := by decide +kernel
theorem dX6_init_40 : decode cX6_init 40 = .ok (.newarray .int, 2) := by decide +kernel
theorem dX6_init_42 : decode cX6_init 42 = .ok (.putfield 28, 3) := by decide +kernel
theorem dX6_init_45 : decode cX6_init 45 = .ok (.aload_n 0, 1) := by decide +kernel
theorem dX6_init_46 : decode cX6_init 46 = .ok (.bipush 30, 2) := by decide +kernel
theorem dX6_init_48 : decode cX6_init 48 = .ok (.newarray .boolean, 2) := by decide +kernel
theorem dX6_init_50 : decode cX6_init 50 = .ok (.putfield 31, 3) := by decide +kernel
theorem dX6_init_53 : decode cX6_init 53 = .ok (.aload_n 0, 1) := by decide +kernel
theorem dX6_init_54 : decode cX6_init 54 = .ok (.bipush 30, 2) := by decide +kernel
theorem dX6_init_56 : decode cX6_init 56 = .ok (.newarray .boolean, 2) := by decide +kernel
theorem dX6_init_58 : decode cX6_init 58 = .ok (.putfield 34, 3) := by decide +kernel
theorem dX6_init_61 : decode cX6_init 61 = .ok (.aload_n 0, 1) := by decide +kernel
theorem dX6_init_62 : decode cX6_init 62 = .ok (.bipush 30, 2) := by decide +kernel
theorem dX6_init_64 : decode cX6_init 64 = .ok (.newarray .long, 2) := by decide +kernel
theorem dX6_init_66 : decode cX6_init 66 = .ok (.putfield 37, 3) := by decide +kernel
theorem dX6_init_69 : decode cX6_init 69 = .ok (.aload_n 0, 1) := by decide +kernel
theorem dX6_init_70 : decode cX6_init 70 = .ok (.sipush 900, 3) := by decide +kernel
theorem dX6_init_73 : decode cX6_init 73 = .ok (.newarray .int, 2) := by decide +kernel
theorem dX6_init_75 : decode cX6_init 75 = .ok (.putfield 40, 3) := by decide +kernel
theorem dX6_init_78 : decode cX6_init 78 = .ok (.aload_n 0, 1) := by decide +kernel
theorem dX6_init_79 : decode cX6_init 79 = .ok (.bipush 30, 2) := by decide +kernel
theorem dX6_init_81 : decode cX6_init 81 = .ok (.newarray .boolean, 2) := by decide +kernel
theorem dX6_init_83 : decode cX6_init 83 = .ok (.putfield 43, 3) := by decide +kernel
theorem dX6_init_86 : decode cX6_init 86 = .ok (.aload_n 0, 1) := by decide +kernel
theorem dX6_init_87 : decode cX6_init 87 = .ok (.bipush 12, 2) := by decide +kernel
theorem dX6_init_89 : decode cX6_init 89 = .ok (.newarray .boolean, 2) := by decide +kernel
theorem dX6_init_91 : decode cX6_init 91 = .ok (.putfield 46, 3) := by decide +kernel
theorem dX6_init_94 : decode cX6_init 94 = .ok (.aload_n 0, 1) := by decide +kernel
theorem dX6_init_95 : decode cX6_init 95 = .ok (.bipush 12, 2) := by decide +kernel
theorem dX6_init_97 : decode cX6_init 97 = .ok (.newarray .int, 2) := by decide +kernel
theorem dX6_init_99 : decode cX6_init 99 = .ok (.putfield 49, 3) := by decide +kernel
theorem dX6_init_102 : decode cX6_init 102 = .ok (.aload_n 0, 1) := by decide +kernel
theorem dX6_init_103 : decode cX6_init 103 = .ok (.bipush 120, 2) := by decide +kernel
theorem dX6_init_105 : decode cX6_init 105 = .ok (.newarray .int, 2) := by decide +kernel
theorem dX6_init_107 : decode cX6_init 107 = .ok (.putfield 52, 3) := by decide +kernel
theorem dX6_init_110 : decode cX6_init 110 = .ok (.aload_n 0, 1) := by decide +kernel
theorem dX6_init_111 : decode cX6_init 111 = .ok (.bipush 30, 2) := by decide +kernel
theorem dX6_init_113 : decode cX6_init 113 = .ok (.newarray .long, 2) := by decide +kernel
theorem dX6_init_115 : decode cX6_init 115 = .ok (.putfield 55, 3) := by decide +kernel
theorem dX6_init_118 : decode cX6_init 118 = .ok (.aload_n 0, 1) := by decide +kernel
theorem dX6_init_119 : decode cX6_init 119 = .ok (.iconst (-1), 1) := by decide +kernel
theorem dX6_init_120 : decode cX6_init 120 = .ok (.putfield 58, 3) := by decide +kernel
theorem dX6_init_123 : decode cX6_init 123 = .ok (.aload_n 0, 1) := by decide +kernel
theorem dX6_init_124 : decode cX6_init 124 = .ok (.iconst (-1), 1) := by decide +kernel
theorem dX6_init_125 : decode cX6_init 125 = .ok (.putfield 61, 3) := by decide +kernel
theorem dX6_init_128 : decode cX6_init 128 = .ok (.aload_n 0, 1) := by decide +kernel
theorem dX6_init_129 : decode cX6_init 129 = .ok (.bipush 36, 2) := by decide +kernel
theorem dX6_init_131 : decode cX6_init 131 = .ok (.newarray .int, 2) := by decide +kernel
theorem dX6_init_133 : decode cX6_init 133 = .ok (.putfield 64, 3) := by decide +kernel
theorem dX6_init_136 : decode cX6_init 136 = .ok (.aload_n 0, 1) := by decide +kernel
theorem dX6_init_137 : decode cX6_init 137 = .ok (.iconst 4, 1) := by decide +kernel
theorem dX6_init_138 : decode cX6_init 138 = .ok (.newarray .int, 2) := by decide +kernel
theorem dX6_init_140 : decode cX6_init 140 = .ok (.putfield 67, 3) := by decide +kernel
theorem dX6_init_143 : decode cX6_init 143 = .ok (.aload_n 0, 1) := by decide +kernel
theorem dX6_init_144 : decode cX6_init 144 = .ok (.iconst 4, 1) := by decide +kernel
theorem dX6_init_145 : decode cX6_init 145 = .ok (.newarray .int, 2) := by decide +kernel
theorem dX6_init_147 : decode cX6_init 147 = .ok (.putfield 70, 3) := by decide +kernel
theorem dX6_init_150 : decode cX6_init 150 = .ok (.aload_n 0, 1) := by decide +kernel
theorem dX6_init_151 : decode cX6_init 151 = .ok (.bipush 9, 2) := by decide +kernel
theorem dX6_init_153 : decode cX6_init 153 = .ok (.newarray .int, 2) := by decide +kernel
theorem dX6_init_155 : decode cX6_init 155 = .ok (.putfield 73, 3) := by decide +kernel
theorem dX6_init_158 : decode cX6_init 158 = .ok (.aload_n 0, 1) := by decide +kernel
theorem dX6_init_159 : decode cX6_init 159 = .ok (.iconst 4, 1) := by decide +kernel
theorem dX6_init_160 : decode cX6_init 160 = .ok (.newarray .int, 2) := by decide +kernel
theorem dX6_init_162 : decode cX6_init 162 = .ok (.putfield 76, 3) := by decide +kernel
theorem dX6_init_165 : decode cX6_init 165 = .ok (.aload_n 0, 1) := by decide +kernel
theorem dX6_init_166 : decode cX6_init 166 = .ok (.bipush 25, 2) := by decide +kernel
theorem dX6_init_168 : decode cX6_init 168 = .ok (.newarray .int, 2) := by decide +kernel
theorem dX6_init_170 : decode cX6_init 170 = .ok (.putfield 79, 3) := by decide +kernel
theorem dX6_init_173 : decode cX6_init 173 = .ok (.aload_n 0, 1) := by decide +kernel
theorem dX6_init_174 : decode cX6_init 174 = .ok (.sipush 900, 3) := by decide +kernel
theorem dX6_init_177 : decode cX6_init 177 = .ok (.newarray .int, 2) := by decide +kernel
theorem dX6_init_179 : decode cX6_init 179 = .ok (.putfield 82, 3) := by decide +kernel
theorem dX6_init_182 : decode cX6_init 182 = .ok (.aload_n 0, 1) := by decide +kernel
theorem dX6_init_183 : decode cX6_init 183 = .ok (.bipush 12, 2) := by decide +kernel
theorem dX6_init_185 : decode cX6_init 185 = .ok (.newarray .int, 2) := by decide +kernel
theorem dX6_init_187 : decode cX6_init 187 = .ok (.putfield 85, 3) := by decide +kernel
theorem dX6_init_190 : decode cX6_init 190 = .ok (.return_, 1) := by decide +kernel
theorem dX6_in_0 : decode cX6_in 0 = .ok (.iload_n 0, 1) := by decide +kernel
theorem dX6_in_1 : decode cX6_in 1 = .ok (.iload_n 1, 1) := by decide +kernel
theorem dX6_in_2 : decode cX6_in 2 = .ok (.if_icmp .lt 12, 3) := by decide +kernel
theorem dX6_in_5 : decode cX6_in 5 = .ok (.iload_n 0, 1) := by decide +kernel
theorem dX6_in_6 : decode cX6_in 6 = .ok (.iload_n 2, 1) := by decide +kernel
theorem dX6_in_7 : decode cX6_in 7 = .ok (.if_icmp .gt 7, 3) := by decide +kernel
theorem dX6_in_10 : decode cX6_in 10 = .ok (.iconst 1, 1) := by decide +kernel
theorem dX6_in_11 : decode cX6_in 11 = .ok (.goto 4, 3) := by decide +kernel
theorem dX6_in_14 : decode cX6_in 14 = .ok (.iconst 0, 1) := by decide +kernel
theorem dX6_in_15 : decode cX6_in 15 = .ok (.ireturn, 1) := by decide +kernel
theorem dX6_product_0 : decode cX6_product 0 = .ok (.iconst 0, 1) := by decide +kernel
theorem dX6_product_1 : decode cX6_product 1 = .ok (.istore_n 2, 1) := by decide +kernel
theorem dX6_product_2 : decode cX6_product 2 = .ok (.iload_n 0, 1) := by decide +kernel
theorem dX6_product_3 : decode cX6_product 3 = .ok (.istore_n 3, 1) := by decide +kernel
theorem dX6_product_4 : decode cX6_product 4 = .ok (.iload_n 1, 1) := by decide +kernel
theorem dX6_product_5 : decode cX6_product 5 = .ok (.istore 4, 2) := by decide +kernel
theorem dX6_product_7 : decode cX6_product 7 = .ok (.iload 4, 2) := by decide +kernel
theorem dX6_product_9 : decode cX6_product 9 = .ok (.ifCond .le 41, 3) := by decide +kernel
theorem dX6_product_12 : decode cX6_product 12 = .ok (.iload 4, 2) := by decide +kernel
theorem dX6_product_14 : decode cX6_product 14 = .ok (.iconst 2, 1) := by decide +kernel
theorem dX6_product_15 : decode cX6_product 15 = .ok (.irem, 1) := by decide +kernel
theorem dX6_product_16 : decode cX6_product 16 = .ok (.iconst 1, 1) := by decide +kernel
theorem dX6_product_17 : decode cX6_product 17 = .ok (.if_icmp .ne 7, 3) := by decide +kernel
theorem dX6_product_20 : decode cX6_product 20 = .ok (.iload_n 2, 1) := by decide +kernel
theorem dX6_product_21 : decode cX6_product 21 = .ok (.iload_n 3, 1) := by decide +kernel
theorem dX6_product_22 : decode cX6_product 22 = .ok (.ixor, 1) := by decide +kernel
theorem dX6_product_23 : decode cX6_product 23 = .ok (.istore_n 2, 1) := by decide +kernel
theorem dX6_product_24 : decode cX6_product 24 = .ok (.iload_n 3, 1) := by decide +kernel
theorem dX6_product_25 : decode cX6_product 25 = .ok (.iconst 2, 1) := by decide +kernel
theorem dX6_product_26 : decode cX6_product 26 = .ok (.imul, 1) := by decide +kernel
theorem dX6_product_27 : decode cX6_product 27 = .ok (.istore_n 3, 1) := by decide +kernel
theorem dX6_product_28 : decode cX6_product 28 = .ok (.iload_n 3, 1) := by decide +kernel
theorem dX6_product_29 : decode cX6_product 29 = .ok (.sipush 255, 3) := by decide +kernel
theorem dX6_product_32 : decode cX6_product 32 = .ok (.if_icmp .le 9, 3) := by decide +kernel
theorem dX6_product_35 : decode cX6_product 35 = .ok (.iload_n 3, 1) := by decide +kernel
theorem dX6_product_36 : decode cX6_product 36 = .ok (.sipush 283, 3) := by decide +kernel
theorem dX6_product_39 : decode cX6_product 39 = .ok (.ixor, 1) := by decide +kernel
theorem dX6_product_40 : decode cX6_product 40 = .ok (.istore_n 3, 1) := by decide +kernel
theorem dX6_product_41 : decode cX6_product 41 = .ok (.iload 4, 2) := by decide +kernel
theorem dX6_product_43 : decode cX6_product 43 = .ok (.iconst 2, 1) := by decide +kernel
theorem dX6_product_44 : decode cX6_product 44 = .ok (.idiv, 1) := by decide +kernel
theorem dX6_product_45 : decode cX6_product 45 = .ok (.istore 4, 2) := by decide +kernel
theorem dX6_product_47 : decode cX6_product 47 = .ok (.goto (-40), 3) := by decide +kernel
theorem dX6_product_50 : decode cX6_product 50 = .ok (.iload_n 2, 1) := by decide +kernel
theorem dX6_product_51 : decode cX6_product 51 = .ok (.ireturn, 1) := by decide +kernel
set_option maxRecDepth 20000 in
theorem ggX6_inverseOf_X6_product : GoodIn wsX6_inverseOf wsX6_product := goodIn_r _ [4] (by decide +kernel) (by decide +kernel)
set_option maxRecDepth 20000 in
theorem gX6_inverseOf_X6_product : GoodIn wsX6_inverseOf (va_wsS RX6 91 yX6_product wsX6_product) := goodIn_app (goodIn_of _ (by decide +kernel)) ggX6_inverseOf_X6_product
theorem dX6_inverseOf_0 : decode cX6_inverseOf 0 = .ok (.iconst 1, 1) := by decide +kernel
theorem dX6_inverseOf_1 : decode cX6_inverseOf 1 = .ok (.istore_n 1, 1) := by decide +kernel
theorem dX6_inverseOf_2 : decode cX6_inverseOf 2 = .ok (.iload_n 0, 1) := by decide +kernel
theorem dX6_inverseOf_3 : decode cX6_inverseOf 3 = .ok (.iload_n 1, 1) := by decide +kernel
theorem dX6_inverseOf_4 : decode cX6_inverseOf 4 = .ok (.invokestatic 91, 3) := by decide +kernel
theorem dX6_inverseOf_7 : decode cX6_inverseOf 7 = .ok (.iconst 1, 1) := by decide +kernel
theorem dX6_inverseOf_8 : decode cX6_inverseOf 8 = .ok (.if_icmp .eq 9, 3) := by decide +kernel
theorem dX6_inverseOf_11 : decode cX6_inverseOf 11 = .ok (.iinc 1 1, 3) := by decide +kernel
theorem dX6_inverseOf_14 : decode cX6_inverseOf 14 = .ok (.goto (-12), 3) := by decide +kernel
theorem dX6_inverseOf_17 : decode cX6_inverseOf 17 = .ok (.iload_n 1, 1) := by decide +kernel
theorem dX6_inverseOf_18 : decode cX6_inverseOf 18 = .ok (.ireturn, 1) := by decide +kernel
set_option maxRecDepth 20000 in
theorem ggX6_product__X6_product : GoodIn wsX6_product_ wsX6_product := goodIn_r _ [5] (by decide +kernel) (by decide +kernel)
set_option maxRecDepth 20000 in
theorem gX6_product__X6_product : GoodIn wsX6_product_ (va_wsS RX6 91 yX6_product wsX6_product) := goodIn_app (goodIn_of _ (by decide +kernel)) ggX6_product__X6_product
theorem dX6_product__0 : decode cX6_product_ 0 = .ok (.lconst 0, 1) := by decide +kernel
theorem dX6_product__1 : decode cX6_product_ 1 = .ok (.lstore_n 3, 1) := by decide +kernel
theorem dX6_product__2 : decode cX6_product_ 2 = .ok (.iconst 0, 1) := by decide +kernel
theorem dX6_product__3 : decode cX6_product_ 3 = .ok (.istore 5, 2) := by decide +kernel
theorem dX6_product__5 : decode cX6_product_ 5 = .ok (.iload 5, 2) := by decide +kernel
theorem dX6_product__7 : decode cX6_product_ 7 = .ok (.bipush 64, 2) := by decide +kernel
theorem dX6_product__9 : decode cX6_product_ 9 = .ok (.if_icmp .ge 29, 3) := by decide +kernel
theorem dX6_product__12 : decode cX6_product_ 12 = .ok (.lload_n 3, 1) := by decide +kernel
theorem dX6_product__13 : decode cX6_product_ 13 = .ok (.iload_n 0, 1) := by decide +kernel
theorem dX6_product__14 : decode cX6_product_ 14 = .ok (.lload_n 1, 1) := by decide +kernel
theorem dX6_product__15 : decode cX6_product_ 15 = .ok (.iload 5, 2) := by decide +kernel
theorem dX6_product__17 : decode cX6_product_ 17 = .ok (.lshr, 1) := by decide +kernel
theorem dX6_product__18 : decode cX6_product_ 18 = .ok (.ldc2_w 95, 3) := by decide +kernel
theorem dX6_product__21 : decode cX6_product_ 21 = .ok (.land, 1) := by decide +kernel
theorem dX6_product__22 : decode cX6_product_ 22 = .ok (.l2i, 1) := by decide +kernel
theorem dX6_product__23 : decode cX6_product_ 23 = .ok (.invokestatic 91, 3) := by decide +kernel
theorem dX6_product__26 : decode cX6_product_ 26 = .ok (.i2l, 1) := by decide +kernel
theorem dX6_product__27 : decode cX6_product_ 27 = .ok (.iload 5, 2) := by decide +kernel
theorem dX6_product__29 : decode cX6_product_ 29 = .ok (.lshl, 1) := by decide +kernel
theorem dX6_product__30 : decode cX6_product_ 30 = .ok (.lor, 1) := by decide +kernel
theorem dX6_product__31 : decode cX6_product_ 31 = .ok (.lstore_n 3, 1) := by decide +kernel
theorem dX6_product__32 : decode cX6_product_ 32 = .ok (.iinc 5 8, 3) := by decide +kernel
theorem dX6_product__35 : decode cX6_product_ 35 = .ok (.goto (-30), 3) := by decide +kernel
theorem dX6_product__38 : decode cX6_product_ 38 = .ok (.lload_n 3, 1) := by decide +kernel
theorem dX6_product__39 : decode cX6_product_ 39 = .ok (.lreturn, 1) := by decide +kernel
set_option maxRecDepth 20000 in
theorem ggX6_times_X6_in : GoodIn wsX6_times wsX6_in := goodIn_r _ [4] (by decide +kernel) (by decide +kernel)
set_option maxRecDepth 20000 in
theorem gX6_times_X6_in : GoodIn wsX6_times (va_wsS RX6 97 yX6_in wsX6_in) := goodIn_app (goodIn_of _ (by decide +kernel)) ggX6_times_X6_in
set_option maxRecDepth 20000 in
theorem ggX6_times_X6_product : GoodIn wsX6_times wsX6_product := goodIn_r _ [7] (by decide +kernel) (by decide +kernel)
set_option maxRecDepth 20000 in
theorem gX6_times_X6_product : GoodIn wsX6_times (va_wsS RX6 91 yX6_product wsX6_product) := goodIn_app (goodIn_of _ (by decide +kernel)) ggX6_times_X6_product
theorem dX6_times_0 : decode cX6_times 0 = .ok (.iload_n 1, 1) := by decide +kernel
theorem dX6_times_1 : decode cX6_times 1 = .ok (.iconst 0, 1) := by decide +kernel
theorem dX6_times_2 : decode cX6_times 2 = .ok (.sipush 255, 3) := by decide +kernel
theorem dX6_times_5 : decode cX6_times 5 = .ok (.invokestatic 97, 3) := by decide +kernel
theorem dX6_times_8 : decode cX6_times 8 = .ok (.ifCond .eq 22, 3) := by decide +kernel
theorem dX6_times_11 : decode cX6_times 11 = .ok (.iload_n 2, 1) := by decide +kernel
theorem dX6_times_12 : decode cX6_times 12 = .ok (.iconst 0, 1) := by decide +kernel
theorem dX6_times_13 : decode cX6_times 13 = .ok (.sipush 255, 3) := by decide +kernel
theorem dX6_times_16 : decode cX6_times 16 = .ok (.invokestatic 97, 3) := by decide +kernel
theorem dX6_times_19 : decode cX6_times 19 = .ok (.ifCond .eq 11, 3) := by decide +kernel
theorem dX6_times_22 : decode cX6_times 22 = .ok (.iload_n 1, 1) := by decide +kernel
theorem dX6_times_23 : decode cX6_times 23 = .ok (.iload_n 2, 1) := by decide +kernel
theorem dX6_times_24 : decode cX6_times 24 = .ok (.invokestatic 91, 3) := by decide +kernel
theorem dX6_times_27 : decode cX6_times 27 = .ok (.goto 5, 3) := by decide +kernel
theorem dX6_times_30 : decode cX6_times 30 = .ok (.bipush (-2), 2) := by decide +kernel
theorem dX6_times_32 : decode cX6_times 32 = .ok (.ireturn, 1) := by decide +kernel
set_option maxRecDepth 20000 in
theorem ggX6_inverse_X6_in : GoodIn wsX6_inverse wsX6_in := goodIn_r _ [4] (by decide +kernel) (by decide +kernel)
set_option maxRecDepth 20000 in
theorem gX6_inverse_X6_in : GoodIn wsX6_inverse (va_wsS RX6 97 yX6_in wsX6_in) := goodIn_app (goodIn_of _ (by decide +kernel)) ggX6_inverse_X6_in
set_option maxRecDepth 20000 in
theorem ggX6_inverse_X6_inverseOf : GoodIn wsX6_inverse wsX6_inverseOf := goodIn_r _ [7, 8, 9, 3, 10] (by decide +kernel) (by decide +kernel)
set_option maxRecDepth 20000 in
theorem gX6_inverse_X6_inverseOf : GoodIn wsX6_inverse (va_wsS RX6 101 yX6_inverseOf wsX6_inverseOf) := goodIn_app (goodIn_of _ (by decide +kernel)) ggX6_inverse_X6_inverseOf
theorem dX6_inverse_0 : decode cX6_inverse 0 = .ok (.iload_n 1, 1) := by decide +kernel
theorem dX6_inverse_1 : decode cX6_inverse 1 = .ok (.iconst 1, 1) := by decide +kernel
theorem dX6_inverse_2 : decode cX6_inverse 2 = .ok (.sipush 255, 3) := by decide +kernel
theorem dX6_inverse_5 : decode cX6_inverse 5 = .ok (.invokestatic 97, 3) := by decide +kernel
theorem dX6_inverse_8 : decode cX6_inverse 8 = .ok (.ifCond .eq 10, 3) := by decide +kernel
theorem dX6_inverse_11 : decode cX6_inverse 11 = .ok (.iload_n 1, 1) := by decide +kernel
theorem dX6_inverse_12 : decode cX6_inverse 12 = .ok (.invokestatic 101, 3) := by decide +kernel
theorem dX6_inverse_15 : decode cX6_inverse 15 = .ok (.goto 5, 3) := by decide +kernel
theorem dX6_inverse_18 : decode cX6_inverse 18 = .ok (.bipush (-2), 2) := by decide +kernel
theorem dX6_inverse_20 : decode cX6_inverse 20 = .ok (.ireturn, 1) := by decide +kernel
set_option maxRecDepth 20000 in
theorem ggX6_isRelay_X6_in : GoodIn wsX6_isRelay wsX6_in := goodIn_r _ [5] (by decide +kernel) (by decide +kernel)
set_option maxRecDepth 20000 in
theorem gX6_isRelay_X6_in : GoodIn wsX6_isRelay (va_wsS RX6 97 yX6_in wsX6_in) := goodIn_app (goodIn_of _ (by decide +kernel)) ggX6_isRelay_X6_in
theorem dX6_isRelay_0 : decode cX6_isRelay 0 = .ok (.iload_n 1, 1) := by decide +kernel
theorem dX6_isRelay_1 : decode cX6_isRelay 1 = .ok (.iconst 0, 1) := by decide +kernel
theorem dX6_isRelay_2 : decode cX6_isRelay 2 = .ok (.aload_n 0, 1) := by decide +kernel
theorem dX6_isRelay_3 : decode cX6_isRelay 3 = .ok (.getfield 7, 3) := by decide +kernel
theorem dX6_isRelay_6 : decode cX6_isRelay 6 = .ok (.iconst 1, 1) := by decide +kernel
theorem dX6_isRelay_7 : decode cX6_isRelay 7 = .ok (.isub, 1) := by decide +kernel
theorem dX6_isRelay_8 : decode cX6_isRelay 8 = .ok (.invokestatic 97, 3) := by decide +kernel
theorem dX6_isRelay_11 : decode cX6_isRelay 11 = .ok (.ireturn, 1) := by decide +kernel
set_option maxRecDepth 20000 in
theorem ggX6_isLine_X6_in : GoodIn wsX6_isLine wsX6_in := goodIn_r _ [5] (by decide +kernel) (by decide +kernel)
set_option maxRecDepth 20000 in
theorem gX6_isLine_X6_in : GoodIn wsX6_isLine (va_wsS RX6 97 yX6_in wsX6_in) := goodIn_app (goodIn_of _ (by decide +kernel)) ggX6_isLine_X6_in
theorem dX6_isLine_0 : decode cX6_isLine 0 = .ok (.iload_n 1, 1) := by decide +kernel
theorem dX6_isLine_1 : decode cX6_isLine 1 = .ok (.iconst 0, 1) := by decide +kernel
theorem dX6_isLine_2 : decode cX6_isLine 2 = .ok (.aload_n 0, 1) := by decide +kernel
theorem dX6_isLine_3 : decode cX6_isLine 3 = .ok (.getfield 105, 3) := by decide +kernel
theorem dX6_isLine_6 : decode cX6_isLine 6 = .ok (.iconst 1, 1) := by decide +kernel
theorem dX6_isLine_7 : decode cX6_isLine 7 = .ok (.isub, 1) := by decide +kernel
theorem dX6_isLine_8 : decode cX6_isLine 8 = .ok (.invokestatic 97, 3) := by decide +kernel
theorem dX6_isLine_11 : decode cX6_isLine 11 = .ok (.ireturn, 1) := by decide +kernel
theorem dX6_waysIn_0 : decode cX6_waysIn 0 = .ok (.iconst 0, 1) := by decide +kernel
theorem dX6_waysIn_1 : decode cX6_waysIn 1 = .ok (.istore_n 2, 1) := by decide +kernel
theorem dX6_waysIn_2 : decode cX6_waysIn 2 = .ok (.iconst 0, 1) := by decide +kernel
theorem dX6_waysIn_3 : decode cX6_waysIn 3 = .ok (.istore_n 3, 1) := by decide +kernel
theorem dX6_waysIn_4 : decode cX6_waysIn 4 = .ok (.iload_n 3, 1) := by decide +kernel
theorem dX6_waysIn_5 : decode cX6_waysIn 5 = .ok (.aload_n 0, 1) := by decide +kernel
theorem dX6_waysIn_6 : decode cX6_waysIn 6 = .ok (.getfield 105, 3) := by decide +kernel
theorem dX6_waysIn_9 : decode cX6_waysIn 9 = .ok (.if_icmp .ge 27, 3) := by decide +kernel
theorem dX6_waysIn_12 : decode cX6_waysIn 12 = .ok (.iload_n 2, 1) := by decide +kernel
theorem dX6_waysIn_13 : decode cX6_waysIn 13 = .ok (.aload_n 0, 1) := by decide +kernel
theorem dX6_waysIn_14 : decode cX6_waysIn 14 = .ok (.getfield 28, 3) := by decide +kernel
theorem dX6_waysIn_17 : decode cX6_waysIn 17 = .ok (.iload_n 3, 1) := by decide +kernel
theorem dX6_waysIn_18 : decode cX6_waysIn 18 = .ok (.iaload, 1) := by decide +kernel
theorem dX6_waysIn_19 : decode cX6_waysIn 19 = .ok (.iload_n 1, 1) := by decide +kernel
theorem dX6_waysIn_20 : decode cX6_waysIn 20 = .ok (.if_icmp .ne 7, 3) := by decide +kernel
theorem dX6_waysIn_23 : decode cX6_waysIn 23 = .ok (.iconst 1, 1) := by decide +kernel
theorem dX6_waysIn_24 : decode cX6_waysIn 24 = .ok (.goto 4, 3) := by decide +kernel
theorem dX6_waysIn_27 : decode cX6_waysIn 27 = .ok (.iconst 0, 1) := by decide +kernel
theorem dX6_waysIn_28 : decode cX6_waysIn 28 = .ok (.iadd, 1) := by decide +kernel
theorem dX6_waysIn_29 : decode cX6_waysIn 29 = .ok (.istore_n 2, 1) := by decide +kernel
theorem dX6_waysIn_30 : decode cX6_waysIn 30 = .ok (.iinc 3 1, 3) := by decide +kernel
theorem dX6_waysIn_33 : decode cX6_waysIn 33 = .ok (.goto (-29), 3) := by decide +kernel
theorem dX6_waysIn_36 : decode cX6_waysIn 36 = .ok (.iload_n 2, 1) := by decide +kernel
theorem dX6_waysIn_37 : decode cX6_waysIn 37 = .ok (.ireturn, 1) := by decide +kernel
set_option maxRecDepth 20000 in
theorem ggX6_ins_X6_waysIn : GoodIn wsX6_ins wsX6_waysIn := goodIn_r _ [7, 8, 9, 10, 11, 12, 13, 14, 15, 16, 17, 18, 19, 20, 21, 22, 23, 24, 25, 26, 27, 28, 29, 30, 31, 32, 33, 34, 35, 36, 37, 38, 39, 40] (by decide +kernel) (by decide +kernel)
set_option maxRecDepth 20000 in
theorem gX6_ins_X6_waysIn : GoodIn wsX6_ins (wsV RX6 108 RX6 yX6_waysIn wsX6_waysIn) := goodIn_app (goodIn_of _ (by decide +kernel)) ggX6_ins_X6_waysIn
theorem dX6_ins_0 : decode cX6_ins 0 = .ok (.aload_n 0, 1) := by decide +kernel
theorem dX6_ins_1 : decode cX6_ins 1 = .ok (.getfield 24, 3) := by decide +kernel
theorem dX6_ins_4 : decode cX6_ins 4 = .ok (.iload_n 1, 1) := by decide +kernel
theorem dX6_ins_5 : decode cX6_ins 5 = .ok (.iaload, 1) := by decide +kernel
theorem dX6_ins_6 : decode cX6_ins 6 = .ok (.ifCond .ne 10, 3) := by decide +kernel
theorem dX6_ins_9 : decode cX6_ins 9 = .ok (.aload_n 0, 1) := by decide +kernel
theorem dX6_ins_10 : decode cX6_ins 10 = .ok (.getfield 13, 3) := by decide +kernel
theorem dX6_ins_13 : decode cX6_ins 13 = .ok (.goto 13, 3) := by decide +kernel
theorem dX6_ins_16 : decode cX6_ins 16 = .ok (.aload_n 0, 1) := by decide +kernel
theorem dX6_ins_17 : decode cX6_ins 17 = .ok (.aload_n 0, 1) := by decide +kernel
theorem dX6_ins_18 : decode cX6_ins 18 = .ok (.getfield 24, 3) := by decide +kernel
theorem dX6_ins_21 : decode cX6_ins 21 = .ok (.iload_n 1, 1) := by decide +kernel
theorem dX6_ins_22 : decode cX6_ins 22 = .ok (.iaload, 1) := by decide +kernel
theorem dX6_ins_23 : decode cX6_ins 23 = .ok (.invokevirtual 108, 3) := by decide +kernel
theorem dX6_ins_26 : decode cX6_ins 26 = .ok (.ireturn, 1) := by decide +kernel
theorem dX6_lineIn_0 : decode cX6_lineIn 0 = .ok (.iload_n 2, 1) := by decide +kernel
theorem dX6_lineIn_1 : decode cX6_lineIn 1 = .ok (.istore_n 3, 1) := by decide +kernel
theorem dX6_lineIn_2 : decode cX6_lineIn 2 = .ok (.iconst 0, 1) := by decide +kernel
theorem dX6_lineIn_3 : decode cX6_lineIn 3 = .ok (.istore 4, 2) := by decide +kernel
theorem dX6_lineIn_5 : decode cX6_lineIn 5 = .ok (.iload 4, 2) := by decide +kernel
theorem dX6_lineIn_7 : decode cX6_lineIn 7 = .ok (.aload_n 0, 1) := by decide +kernel
theorem dX6_lineIn_8 : decode cX6_lineIn 8 = .ok (.getfield 105, 3) := by decide +kernel
theorem dX6_lineIn_11 : decode cX6_lineIn 11 = .ok (.if_icmp .ge 33, 3) := by decide +kernel
theorem dX6_lineIn_14 : decode cX6_lineIn 14 = .ok (.aload_n 0, 1) := by decide +kernel
theorem dX6_lineIn_15 : decode cX6_lineIn 15 = .ok (.getfield 28, 3) := by decide +kernel
theorem dX6_lineIn_18 : decode cX6_lineIn 18 = .ok (.iload 4, 2) := by decide +kernel
theorem dX6_lineIn_20 : decode cX6_lineIn 20 = .ok (.iaload, 1) := by decide +kernel
theorem dX6_lineIn_21 : decode cX6_lineIn 21 = .ok (.iload_n 1, 1) := by decide +kernel
theorem dX6_lineIn_22 : decode cX6_lineIn 22 = .ok (.if_icmp .eq 6, 3) := by decide +kernel
theorem dX6_lineIn_25 : decode cX6_lineIn 25 = .ok (.goto 13, 3) := by decide +kernel
theorem dX6_lineIn_28 : decode cX6_lineIn 28 = .ok (.iload_n 3, 1) := by decide +kernel
theorem dX6_lineIn_29 : decode cX6_lineIn 29 = .ok (.ifCond .ne 6, 3) := by decide +kernel
theorem dX6_lineIn_32 : decode cX6_lineIn 32 = .ok (.iload 4, 2) := by decide +kernel
theorem dX6_lineIn_34 : decode cX6_lineIn 34 = .ok (.ireturn, 1) := by decide +kernel
theorem dX6_lineIn_35 : decode cX6_lineIn 35 = .ok (.iinc 3 (-1), 3) := by decide +kernel
theorem dX6_lineIn_38 : decode cX6_lineIn 38 = .ok (.iinc 4 1, 3) := by decide +kernel
