theorem dX6_ends_1 : decode cX6_ends 1 = .ok (.istore_n 1, 1) := by decide +kernel
theorem dX6_ends_2 : decode cX6_ends 2 = .ok (.iconst 0, 1) := by decide +kernel
theorem dX6_ends_3 : decode cX6_ends 3 = .ok (.istore_n 2, 1) := by decide +kernel
theorem dX6_ends_4 : decode cX6_ends 4 = .ok (.iload_n 2, 1) := by decide +kernel
theorem dX6_ends_5 : decode cX6_ends 5 = .ok (.aload_n 0, 1) := by decide +kernel
theorem dX6_ends_6 : decode cX6_ends 6 = .ok (.getfield 7, 3) := by decide +kernel
theorem dX6_ends_9 : decode cX6_ends 9 = .ok (.if_icmp .ge 26, 3) := by decide +kernel
theorem dX6_ends_12 : decode cX6_ends 12 = .ok (.iload_n 1, 1) := by decide +kernel
theorem dX6_ends_13 : decode cX6_ends 13 = .ok (.aload_n 0, 1) := by decide +kernel
theorem dX6_ends_14 : decode cX6_ends 14 = .ok (.getfield 20, 3) := by decide +kernel
theorem dX6_ends_17 : decode cX6_ends 17 = .ok (.iload_n 2, 1) := by decide +kernel
theorem dX6_ends_18 : decode cX6_ends 18 = .ok (.baload, 1) := by decide +kernel
theorem dX6_ends_19 : decode cX6_ends 19 = .ok (.ifCond .eq 7, 3) := by decide +kernel
theorem dX6_ends_22 : decode cX6_ends 22 = .ok (.iconst 1, 1) := by decide +kernel
theorem dX6_ends_23 : decode cX6_ends 23 = .ok (.goto 4, 3) := by decide +kernel
theorem dX6_ends_26 : decode cX6_ends 26 = .ok (.iconst 0, 1) := by decide +kernel
theorem dX6_ends_27 : decode cX6_ends 27 = .ok (.iadd, 1) := by decide +kernel
theorem dX6_ends_28 : decode cX6_ends 28 = .ok (.istore_n 1, 1) := by decide +kernel
theorem dX6_ends_29 : decode cX6_ends 29 = .ok (.iinc 2 1, 3) := by decide +kernel
theorem dX6_ends_32 : decode cX6_ends 32 = .ok (.goto (-28), 3) := by decide +kernel
theorem dX6_ends_35 : decode cX6_ends 35 = .ok (.iload_n 1, 1) := by decide +kernel
theorem dX6_ends_36 : decode cX6_ends 36 = .ok (.ireturn, 1) := by decide +kernel
set_option maxRecDepth 20000 in
theorem ggX6_find_X6_ends : GoodIn wsX6_find wsX6_ends := goodIn_r _ [7, 8, 9, 86, 87, 88, 89, 90, 91, 92, 93, 94, 95, 96, 97, 98, 99, 100, 101, 102, 103, 104, 105, 106, 107, 108, 109, 110, 111, 112, 113, 114, 115, 116] (by decide +kernel) (by decide +kernel)
set_option maxRecDepth 20000 in
theorem gX6_find_X6_ends : GoodIn wsX6_find (wsV RX6 177 RX6 yX6_ends wsX6_ends) := goodIn_app (goodIn_of _ (by decide +kernel)) ggX6_find_X6_ends
set_option maxRecDepth 20000 in
theorem ggX6_find_X6_draw : GoodIn wsX6_find wsX6_draw := goodIn_r _ [13, 14, 15, 16, 2, 17, 18, 19, 6, 20, 21, 22, 23, 24, 25, 26, 27, 86, 87, 88, 89, 90, 91, 92, 93, 94, 95, 96, 97, 98, 99, 100, 101, 102, 103, 104, 105, 106, 107, 108, 109, 110, 111, 112, 113, 114, 115, 116] (by decide +kernel) (by decide +kernel)
set_option maxRecDepth 20000 in
theorem gX6_find_X6_draw : GoodIn wsX6_find (wsV RX6 181 RX6 yX6_draw wsX6_draw) := goodIn_app (goodIn_of _ (by decide +kernel)) ggX6_find_X6_draw
set_option maxRecDepth 20000 in
theorem ggX6_find_X6_left : GoodIn wsX6_find wsX6_left := goodIn_r _ [31, 8, 9, 32, 33, 34, 6, 35, 14, 21, 36, 37, 38, 39, 40, 41, 42, 43, 44, 2, 45, 22, 46, 17, 18, 19, 20, 23, 24, 25, 26, 27, 47, 48, 49, 50, 51, 52, 53, 54, 55, 56, 57, 58, 59, 60, 61, 62, 63, 64, 65, 66, 67, 68, 69, 70, 71, 72, 73, 74, 75, 76, 77, 78, 79, 80, 81, 82, 83, 84, 85, 86, 87, 88, 89, 90, 91, 92, 93, 94, 95, 96, 97, 98, 99, 100, 101, 102, 103, 104, 105, 106, 107, 108, 109, 110, 111, 112, 113, 114, 115, 116] (by decide +kernel) (by decide +kernel)
set_option maxRecDepth 20000 in
theorem gX6_find_X6_left : GoodIn wsX6_find (wsV RX6 184 RX6 yX6_left wsX6_left) := goodIn_app (goodIn_of _ (by decide +kernel)) ggX6_find_X6_left
theorem dX6_find_0 : decode cX6_find 0 = .ok (.aload_n 0, 1) := by decide +kernel
theorem dX6_find_1 : decode cX6_find 1 = .ok (.invokevirtual 177, 3) := by decide +kernel
theorem dX6_find_4 : decode cX6_find 4 = .ok (.ifCond .ne 5, 3) := by decide +kernel
theorem dX6_find_7 : decode cX6_find 7 = .ok (.iconst (-1), 1) := by decide +kernel
theorem dX6_find_8 : decode cX6_find 8 = .ok (.ireturn, 1) := by decide +kernel
theorem dX6_find_9 : decode cX6_find 9 = .ok (.iconst 0, 1) := by decide +kernel
theorem dX6_find_10 : decode cX6_find 10 = .ok (.istore_n 1, 1) := by decide +kernel
theorem dX6_find_11 : decode cX6_find 11 = .ok (.iload_n 1, 1) := by decide +kernel
theorem dX6_find_12 : decode cX6_find 12 = .ok (.sipush 900, 3) := by decide +kernel
theorem dX6_find_15 : decode cX6_find 15 = .ok (.if_icmp .ge 21, 3) := by decide +kernel
theorem dX6_find_18 : decode cX6_find 18 = .ok (.aload_n 0, 1) := by decide +kernel
theorem dX6_find_19 : decode cX6_find 19 = .ok (.getfield 82, 3) := by decide +kernel
theorem dX6_find_22 : decode cX6_find 22 = .ok (.iload_n 1, 1) := by decide +kernel
theorem dX6_find_23 : decode cX6_find 23 = .ok (.aload_n 0, 1) := by decide +kernel
theorem dX6_find_24 : decode cX6_find 24 = .ok (.getfield 40, 3) := by decide +kernel
theorem dX6_find_27 : decode cX6_find 27 = .ok (.iload_n 1, 1) := by decide +kernel
theorem dX6_find_28 : decode cX6_find 28 = .ok (.iaload, 1) := by decide +kernel
theorem dX6_find_29 : decode cX6_find 29 = .ok (.iastore, 1) := by decide +kernel
theorem dX6_find_30 : decode cX6_find 30 = .ok (.iinc 1 1, 3) := by decide +kernel
theorem dX6_find_33 : decode cX6_find 33 = .ok (.goto (-22), 3) := by decide +kernel
theorem dX6_find_36 : decode cX6_find 36 = .ok (.iconst 1, 1) := by decide +kernel
theorem dX6_find_37 : decode cX6_find 37 = .ok (.istore_n 1, 1) := by decide +kernel
theorem dX6_find_38 : decode cX6_find 38 = .ok (.iload_n 1, 1) := by decide +kernel
theorem dX6_find_39 : decode cX6_find 39 = .ok (.bipush 40, 2) := by decide +kernel
theorem dX6_find_41 : decode cX6_find 41 = .ok (.if_icmp .gt 24, 3) := by decide +kernel
theorem dX6_find_44 : decode cX6_find 44 = .ok (.aload_n 0, 1) := by decide +kernel
theorem dX6_find_45 : decode cX6_find 45 = .ok (.iload_n 1, 1) := by decide +kernel
theorem dX6_find_46 : decode cX6_find 46 = .ok (.invokevirtual 181, 3) := by decide +kernel
theorem dX6_find_49 : decode cX6_find 49 = .ok (.istore_n 2, 1) := by decide +kernel
theorem dX6_find_50 : decode cX6_find 50 = .ok (.aload_n 0, 1) := by decide +kernel
theorem dX6_find_51 : decode cX6_find 51 = .ok (.invokevirtual 184, 3) := by decide +kernel
theorem dX6_find_54 : decode cX6_find 54 = .ok (.ifCond .ne 5, 3) := by decide +kernel
theorem dX6_find_57 : decode cX6_find 57 = .ok (.iload_n 1, 1) := by decide +kernel
theorem dX6_find_58 : decode cX6_find 58 = .ok (.ireturn, 1) := by decide +kernel
theorem dX6_find_59 : decode cX6_find 59 = .ok (.iinc 1 1, 3) := by decide +kernel
theorem dX6_find_62 : decode cX6_find 62 = .ok (.goto (-24), 3) := by decide +kernel
theorem dX6_find_65 : decode cX6_find 65 = .ok (.iconst 0, 1) := by decide +kernel
theorem dX6_find_66 : decode cX6_find 66 = .ok (.istore_n 1, 1) := by decide +kernel
theorem dX6_find_67 : decode cX6_find 67 = .ok (.iload_n 1, 1) := by decide +kernel
theorem dX6_find_68 : decode cX6_find 68 = .ok (.sipush 900, 3) := by decide +kernel
theorem dX6_find_71 : decode cX6_find 71 = .ok (.if_icmp .ge 21, 3) := by decide +kernel
theorem dX6_find_74 : decode cX6_find 74 = .ok (.aload_n 0, 1) := by decide +kernel
theorem dX6_find_75 : decode cX6_find 75 = .ok (.getfield 40, 3) := by decide +kernel
theorem dX6_find_78 : decode cX6_find 78 = .ok (.iload_n 1, 1) := by decide +kernel
theorem dX6_find_79 : decode cX6_find 79 = .ok (.aload_n 0, 1) := by decide +kernel
theorem dX6_find_80 : decode cX6_find 80 = .ok (.getfield 82, 3) := by decide +kernel
theorem dX6_find_83 : decode cX6_find 83 = .ok (.iload_n 1, 1) := by decide +kernel
theorem dX6_find_84 : decode cX6_find 84 = .ok (.iaload, 1) := by decide +kernel
theorem dX6_find_85 : decode cX6_find 85 = .ok (.iastore, 1) := by decide +kernel
theorem dX6_find_86 : decode cX6_find 86 = .ok (.iinc 1 1, 3) := by decide +kernel
theorem dX6_find_89 : decode cX6_find 89 = .ok (.goto (-22), 3) := by decide +kernel
theorem dX6_find_92 : decode cX6_find 92 = .ok (.iconst (-1), 1) := by decide +kernel
theorem dX6_find_93 : decode cX6_find 93 = .ok (.ireturn, 1) := by decide +kernel
set_option maxRecDepth 20000 in
theorem ggX6_isAsBefore_X6_work : GoodIn wsX6_isAsBefore wsX6_work := goodIn_r _ [8, 1, 9, 10, 11, 12, 13, 7, 14, 15, 16, 17, 18, 19, 20, 21, 22, 23, 24, 25, 26, 27, 28, 29, 30, 31, 32, 33, 34, 35, 36, 37, 38, 39, 40, 41, 42, 43, 68, 69, 70, 71, 72, 73, 74, 75, 76, 77, 78, 79, 80, 81, 82, 83, 84, 85, 86, 87, 88, 89, 90, 91, 92, 93, 94, 95, 96, 97, 98] (by decide +kernel) (by decide +kernel)
set_option maxRecDepth 20000 in
theorem gX6_isAsBefore_X6_work : GoodIn wsX6_isAsBefore (wsV RX6 140 RX6 yX6_work wsX6_work) := goodIn_app (goodIn_of _ (by decide +kernel)) ggX6_isAsBefore_X6_work
set_option maxRecDepth 20000 in
theorem ggX6_isAsBefore_X6_rankOf : GoodIn wsX6_isAsBefore wsX6_rankOf := goodIn_r _ [47, 48, 49, 50, 51, 7, 52, 9, 32, 53, 22, 16, 54, 55, 56, 57, 58, 59, 60, 61, 62, 63, 64, 41, 42, 43, 65, 66, 67, 68, 69, 70, 71, 72, 73, 74, 75, 76, 77, 78, 79, 80, 81, 82, 83, 84, 85, 86, 87, 88, 89, 90, 91, 92, 93, 94, 95, 96, 97, 98] (by decide +kernel) (by decide +kernel)
set_option maxRecDepth 20000 in
theorem gX6_isAsBefore_X6_rankOf : GoodIn wsX6_isAsBefore (wsV RX6 156 RX6 yX6_rankOf wsX6_rankOf) := goodIn_app (goodIn_of _ (by decide +kernel)) ggX6_isAsBefore_X6_rankOf
theorem dX6_isAsBefore_0 : decode cX6_isAsBefore 0 = .ok (.aload_n 0, 1) := by decide +kernel
theorem dX6_isAsBefore_1 : decode cX6_isAsBefore 1 = .ok (.invokevirtual 140, 3) := by decide +kernel
theorem dX6_isAsBefore_4 : decode cX6_isAsBefore 4 = .ok (.iconst 1, 1) := by decide +kernel
theorem dX6_isAsBefore_5 : decode cX6_isAsBefore 5 = .ok (.istore_n 1, 1) := by decide +kernel
theorem dX6_isAsBefore_6 : decode cX6_isAsBefore 6 = .ok (.iload_n 1, 1) := by decide +kernel
theorem dX6_isAsBefore_7 : decode cX6_isAsBefore 7 = .ok (.aload_n 0, 1) := by decide +kernel
theorem dX6_isAsBefore_8 : decode cX6_isAsBefore 8 = .ok (.getfield 7, 3) := by decide +kernel
theorem dX6_isAsBefore_11 : decode cX6_isAsBefore 11 = .ok (.if_icmp .ge 34, 3) := by decide +kernel
theorem dX6_isAsBefore_14 : decode cX6_isAsBefore 14 = .ok (.aload_n 0, 1) := by decide +kernel
theorem dX6_isAsBefore_15 : decode cX6_isAsBefore 15 = .ok (.getfield 20, 3) := by decide +kernel
theorem dX6_isAsBefore_18 : decode cX6_isAsBefore 18 = .ok (.iload_n 1, 1) := by decide +kernel
theorem dX6_isAsBefore_19 : decode cX6_isAsBefore 19 = .ok (.baload, 1) := by decide +kernel
theorem dX6_isAsBefore_20 : decode cX6_isAsBefore 20 = .ok (.ifCond .eq 19, 3) := by decide +kernel
theorem dX6_isAsBefore_23 : decode cX6_isAsBefore 23 = .ok (.aload_n 0, 1) := by decide +kernel
theorem dX6_isAsBefore_24 : decode cX6_isAsBefore 24 = .ok (.iload_n 1, 1) := by decide +kernel
theorem dX6_isAsBefore_25 : decode cX6_isAsBefore 25 = .ok (.invokevirtual 156, 3) := by decide +kernel
theorem dX6_isAsBefore_28 : decode cX6_isAsBefore 28 = .ok (.aload_n 0, 1) := by decide +kernel
theorem dX6_isAsBefore_29 : decode cX6_isAsBefore 29 = .ok (.getfield 85, 3) := by decide +kernel
theorem dX6_isAsBefore_32 : decode cX6_isAsBefore 32 = .ok (.iload_n 1, 1) := by decide +kernel
theorem dX6_isAsBefore_33 : decode cX6_isAsBefore 33 = .ok (.iaload, 1) := by decide +kernel
theorem dX6_isAsBefore_34 : decode cX6_isAsBefore 34 = .ok (.if_icmp .eq 5, 3) := by decide +kernel
theorem dX6_isAsBefore_37 : decode cX6_isAsBefore 37 = .ok (.iconst 0, 1) := by decide +kernel
theorem dX6_isAsBefore_38 : decode cX6_isAsBefore 38 = .ok (.ireturn, 1) := by decide +kernel
theorem dX6_isAsBefore_39 : decode cX6_isAsBefore 39 = .ok (.iinc 1 1, 3) := by decide +kernel
theorem dX6_isAsBefore_42 : decode cX6_isAsBefore 42 = .ok (.goto (-36), 3) := by decide +kernel
theorem dX6_isAsBefore_45 : decode cX6_isAsBefore 45 = .ok (.iconst 1, 1) := by decide +kernel
theorem dX6_isAsBefore_46 : decode cX6_isAsBefore 46 = .ok (.ireturn, 1) := by decide +kernel
set_option maxRecDepth 20000 in
theorem ggX6_leaves_X6_ins : GoodIn wsX6_leaves wsX6_ins := goodIn_r _ [7, 8, 9, 10, 11, 12, 6, 13, 14, 15, 73, 74, 75, 76, 77, 78, 79, 80, 81, 82, 83, 84, 85, 86, 87, 88, 89, 90, 91, 92, 93, 94, 95, 96, 97, 98, 99, 100, 101, 102, 103] (by decide +kernel) (by decide +kernel)
set_option maxRecDepth 20000 in
theorem gX6_leaves_X6_ins : GoodIn wsX6_leaves (wsV RX6 118 RX6 yX6_ins wsX6_ins) := goodIn_app (goodIn_of _ (by decide +kernel)) ggX6_leaves_X6_ins
set_option maxRecDepth 20000 in
theorem ggX6_leaves_X6_isAsBefore : GoodIn wsX6_leaves wsX6_isAsBefore := goodIn_r _ [19, 20, 21, 22, 23, 24, 25, 6, 26, 14, 8, 27, 28, 29, 30, 31, 32, 33, 34, 35, 2, 36, 9, 37, 3, 4, 5, 7, 10, 11, 12, 13, 15, 38, 39, 40, 41, 42, 43, 44, 45, 46, 47, 48, 49, 50, 51, 52, 53, 54, 55, 56, 57, 58, 59, 60, 61, 62, 63, 64, 65, 66, 67, 68, 69, 70, 71, 72, 73, 74, 75, 76, 77, 78, 79, 80, 81, 82, 83, 84, 85, 86, 87, 88, 89, 90, 91, 92, 93, 94, 95, 96, 97, 98, 99, 100, 101, 102, 103] (by decide +kernel) (by decide +kernel)
set_option maxRecDepth 20000 in
theorem gX6_leaves_X6_isAsBefore : GoodIn wsX6_leaves (wsV RX6 187 RX6 yX6_isAsBefore wsX6_isAsBefore) := goodIn_app (goodIn_of _ (by decide +kernel)) ggX6_leaves_X6_isAsBefore
theorem dX6_leaves_0 : decode cX6_leaves 0 = .ok (.aload_n 0, 1) := by decide +kernel
theorem dX6_leaves_1 : decode cX6_leaves 1 = .ok (.iload_n 1, 1) := by decide +kernel
theorem dX6_leaves_2 : decode cX6_leaves 2 = .ok (.invokevirtual 118, 3) := by decide +kernel
theorem dX6_leaves_5 : decode cX6_leaves 5 = .ok (.istore_n 2, 1) := by decide +kernel
theorem dX6_leaves_6 : decode cX6_leaves 6 = .ok (.iconst 0, 1) := by decide +kernel
theorem dX6_leaves_7 : decode cX6_leaves 7 = .ok (.istore_n 3, 1) := by decide +kernel
theorem dX6_leaves_8 : decode cX6_leaves 8 = .ok (.iload_n 3, 1) := by decide +kernel
theorem dX6_leaves_9 : decode cX6_leaves 9 = .ok (.iload_n 2, 1) := by decide +kernel
theorem dX6_leaves_10 : decode cX6_leaves 10 = .ok (.if_icmp .ge 26, 3) := by decide +kernel
theorem dX6_leaves_13 : decode cX6_leaves 13 = .ok (.aload_n 0, 1) := by decide +kernel
theorem dX6_leaves_14 : decode cX6_leaves 14 = .ok (.getfield 82, 3) := by decide +kernel
theorem dX6_leaves_17 : decode cX6_leaves 17 = .ok (.iload_n 3, 1) := by decide +kernel
theorem dX6_leaves_18 : decode cX6_leaves 18 = .ok (.aload_n 0, 1) := by decide +kernel
theorem dX6_leaves_19 : decode cX6_leaves 19 = .ok (.getfield 40, 3) := by decide +kernel
theorem dX6_leaves_22 : decode cX6_leaves 22 = .ok (.bipush 30, 2) := by decide +kernel
theorem dX6_leaves_24 : decode cX6_leaves 24 = .ok (.iload_n 1, 1) := by decide +kernel
theorem dX6_leaves_25 : decode cX6_leaves 25 = .ok (.imul, 1) := by decide +kernel
theorem dX6_leaves_26 : decode cX6_leaves 26 = .ok (.iload_n 3, 1) := by decide +kernel
theorem dX6_leaves_27 : decode cX6_leaves 27 = .ok (.iadd, 1) := by decide +kernel
theorem dX6_leaves_28 : decode cX6_leaves 28 = .ok (.iaload, 1) := by decide +kernel
theorem dX6_leaves_29 : decode cX6_leaves 29 = .ok (.iastore, 1) := by decide +kernel
theorem dX6_leaves_30 : decode cX6_leaves 30 = .ok (.iinc 3 1, 3) := by decide +kernel
theorem dX6_leaves_33 : decode cX6_leaves 33 = .ok (.goto (-25), 3) := by decide +kernel
theorem dX6_leaves_36 : decode cX6_leaves 36 = .ok (.iconst 0, 1) := by decide +kernel
theorem dX6_leaves_37 : decode cX6_leaves 37 = .ok (.istore_n 3, 1) := by decide +kernel
theorem dX6_leaves_38 : decode cX6_leaves 38 = .ok (.iload_n 3, 1) := by decide +kernel
theorem dX6_leaves_39 : decode cX6_leaves 39 = .ok (.iload_n 2, 1) := by decide +kernel
theorem dX6_leaves_40 : decode cX6_leaves 40 = .ok (.if_icmp .ge 56, 3) := by decide +kernel
theorem dX6_leaves_43 : decode cX6_leaves 43 = .ok (.iconst 0, 1) := by decide +kernel
theorem dX6_leaves_44 : decode cX6_leaves 44 = .ok (.istore 4, 2) := by decide +kernel
theorem dX6_leaves_46 : decode cX6_leaves 46 = .ok (.iload 4, 2) := by decide +kernel
theorem dX6_leaves_48 : decode cX6_leaves 48 = .ok (.iload_n 2, 1) := by decide +kernel
theorem dX6_leaves_49 : decode cX6_leaves 49 = .ok (.if_icmp .ge 32, 3) := by decide +kernel
theorem dX6_leaves_52 : decode cX6_leaves 52 = .ok (.aload_n 0, 1) := by decide +kernel
theorem dX6_leaves_53 : decode cX6_leaves 53 = .ok (.getfield 40, 3) := by decide +kernel
theorem dX6_leaves_56 : decode cX6_leaves 56 = .ok (.bipush 30, 2) := by decide +kernel
theorem dX6_leaves_58 : decode cX6_leaves 58 = .ok (.iload_n 1, 1) := by decide +kernel
theorem dX6_leaves_59 : decode cX6_leaves 59 = .ok (.imul, 1) := by decide +kernel
theorem dX6_leaves_60 : decode cX6_leaves 60 = .ok (.iload 4, 2) := by decide +kernel
theorem dX6_leaves_62 : decode cX6_leaves 62 = .ok (.iadd, 1) := by decide +kernel
theorem dX6_leaves_63 : decode cX6_leaves 63 = .ok (.iload 4, 2) := by decide +kernel
theorem dX6_leaves_65 : decode cX6_leaves 65 = .ok (.iload_n 3, 1) := by decide +kernel
theorem dX6_leaves_66 : decode cX6_leaves 66 = .ok (.if_icmp .ne 7, 3) := by decide +kernel
theorem dX6_leaves_69 : decode cX6_leaves 69 = .ok (.iconst 1, 1) := by decide +kernel
theorem dX6_leaves_70 : decode cX6_leaves 70 = .ok (.goto 4, 3) := by decide +kernel
theorem dX6_leaves_73 : decode cX6_leaves 73 = .ok (.iconst 0, 1) := by decide +kernel
theorem dX6_leaves_74 : decode cX6_leaves 74 = .ok (.iastore, 1) := by decide +kernel
theorem dX6_leaves_75 : decode cX6_leaves 75 = .ok (.iinc 4 1, 3) := by decide +kernel
theorem dX6_leaves_78 : decode cX6_leaves 78 = .ok (.goto (-32), 3) := by decide +kernel
theorem dX6_leaves_81 : decode cX6_leaves 81 = .ok (.aload_n 0, 1) := by decide +kernel
theorem dX6_leaves_82 : decode cX6_leaves 82 = .ok (.invokevirtual 187, 3) := by decide +kernel
theorem dX6_leaves_85 : decode cX6_leaves 85 = .ok (.ifCond .eq 5, 3) := by decide +kernel
theorem dX6_leaves_88 : decode cX6_leaves 88 = .ok (.iconst 1, 1) := by decide +kernel
theorem dX6_leaves_89 : decode cX6_leaves 89 = .ok (.ireturn, 1) := by decide +kernel
theorem dX6_leaves_90 : decode cX6_leaves 90 = .ok (.iinc 3 1, 3) := by decide +kernel
theorem dX6_leaves_93 : decode cX6_leaves 93 = .ok (.goto (-55), 3) := by decide +kernel
theorem dX6_leaves_96 : decode cX6_leaves 96 = .ok (.iconst 0, 1) := by decide +kernel
theorem dX6_leaves_97 : decode cX6_leaves 97 = .ok (.istore_n 3, 1) := by decide +kernel
theorem dX6_leaves_98 : decode cX6_leaves 98 = .ok (.iload_n 3, 1) := by decide +kernel
theorem dX6_leaves_99 : decode cX6_leaves 99 = .ok (.iload_n 2, 1) := by decide +kernel
theorem dX6_leaves_100 : decode cX6_leaves 100 = .ok (.if_icmp .ge 26, 3) := by decide +kernel
theorem dX6_leaves_103 : decode cX6_leaves 103 = .ok (.aload_n 0, 1) := by decide +kernel
theorem dX6_leaves_104 : decode cX6_leaves 104 = .ok (.getfield 40, 3) := by decide +kernel
theorem dX6_leaves_107 : decode cX6_leaves 107 = .ok (.bipush 30, 2) := by decide +kernel
theorem dX6_leaves_109 : decode cX6_leaves 109 = .ok (.iload_n 1, 1) := by decide +kernel
theorem dX6_leaves_110 : decode cX6_leaves 110 = .ok (.imul, 1) := by decide +kernel
theorem dX6_leaves_111 : decode cX6_leaves 111 = .ok (.iload_n 3, 1) := by decide +kernel
theorem dX6_leaves_112 : decode cX6_leaves 112 = .ok (.iadd, 1) := by decide +kernel
theorem dX6_leaves_113 : decode cX6_leaves 113 = .ok (.aload_n 0, 1) := by decide +kernel
theorem dX6_leaves_114 : decode cX6_leaves 114 = .ok (.getfield 82, 3) := by decide +kernel
theorem dX6_leaves_117 : decode cX6_leaves 117 = .ok (.iload_n 3, 1) := by decide +kernel
theorem dX6_leaves_118 : decode cX6_leaves 118 = .ok (.iaload, 1) := by decide +kernel
theorem dX6_leaves_119 : decode cX6_leaves 119 = .ok (.iastore, 1) := by decide +kernel
theorem dX6_leaves_120 : decode cX6_leaves 120 = .ok (.iinc 3 1, 3) := by decide +kernel
theorem dX6_leaves_123 : decode cX6_leaves 123 = .ok (.goto (-25), 3) := by decide +kernel
theorem dX6_leaves_126 : decode cX6_leaves 126 = .ok (.iconst 0, 1) := by decide +kernel
theorem dX6_leaves_127 : decode cX6_leaves 127 = .ok (.ireturn, 1) := by decide +kernel
set_option maxRecDepth 20000 in
theorem ggX6_leave_X6_work : GoodIn wsX6_leave wsX6_work := goodIn_r _ [11, 1, 4, 5, 12, 13, 14, 10, 15, 16, 17, 18, 19, 20, 21, 22, 23, 24, 25, 26, 27, 28, 29, 30, 31, 32, 33, 34, 35, 36, 37, 38, 39, 40, 41, 42, 43, 44, 82, 83, 84, 85, 86, 87, 88, 89, 90, 91, 92, 93, 94, 95, 96, 97, 98, 99, 100, 101, 102, 103, 104, 105, 106, 107, 108, 109, 110, 111, 112] (by decide +kernel) (by decide +kernel)
set_option maxRecDepth 20000 in
theorem gX6_leave_X6_work : GoodIn wsX6_leave (wsV RX6 140 RX6 yX6_work wsX6_work) := goodIn_app (goodIn_of _ (by decide +kernel)) ggX6_leave_X6_work
set_option maxRecDepth 20000 in
theorem ggX6_leave_X6_rankOf : GoodIn wsX6_leave wsX6_rankOf := goodIn_r _ [48, 49, 50, 51, 52, 10, 53, 4, 33, 54, 23, 17, 55, 56, 57, 58, 59, 60, 61, 62, 63, 64, 65, 42, 43, 44, 66, 67, 68, 82, 83, 84, 85, 86, 87, 88, 89, 90, 91, 92, 93, 94, 95, 96, 97, 98, 99, 100, 101, 102, 103, 104, 105, 106, 107, 108, 109, 110, 111, 112] (by decide +kernel) (by decide +kernel)
set_option maxRecDepth 20000 in
theorem gX6_leave_X6_rankOf : GoodIn wsX6_leave (wsV RX6 156 RX6 yX6_rankOf wsX6_rankOf) := goodIn_app (goodIn_of _ (by decide +kernel)) ggX6_leave_X6_rankOf
set_option maxRecDepth 20000 in
theorem ggX6_leave_X6_isPassing : GoodIn wsX6_leave wsX6_isPassing := goodIn_r _ [72, 21, 5, 25, 26, 27, 10, 28, 23, 29, 30, 31, 32, 4, 33, 82, 83, 84, 85, 86, 87, 88, 89, 90, 91, 92, 93, 94, 95, 96, 97, 98, 99, 100, 101, 102, 103, 104, 105, 106, 107, 108, 109, 110, 111, 112] (by decide +kernel) (by decide +kernel)
set_option maxRecDepth 20000 in
theorem gX6_leave_X6_isPassing : GoodIn wsX6_leave (wsV RX6 121 RX6 yX6_isPassing wsX6_isPassing) := goodIn_app (goodIn_of _ (by decide +kernel)) ggX6_leave_X6_isPassing
set_option maxRecDepth 20000 in
theorem ggX6_leave_X6_leaves : GoodIn wsX6_leave wsX6_leaves := goodIn_r _ [76, 77, 21, 25, 26, 27, 10, 28, 5, 23, 29, 30, 31, 32, 4, 33, 78, 79, 80, 81, 1, 3, 2, 7, 8, 9, 11, 12, 13, 14, 15, 16, 17, 18, 19, 20, 22, 24, 34, 35, 36, 37, 38, 39, 40, 41, 42, 43, 44, 45, 46, 47, 48, 49, 50, 51, 52, 53, 54, 55, 56, 57, 58, 59, 60, 61, 62, 63, 64, 65, 66, 67, 68, 82, 83, 84, 85, 86, 87, 88, 89, 90, 91, 92, 93, 94, 95, 96, 97, 98, 99, 100, 101, 102, 103, 104, 105, 106, 107, 108, 109, 110, 111, 112] (by decide +kernel) (by decide +kernel)
set_option maxRecDepth 20000 in
theorem gX6_leave_X6_leaves : GoodIn wsX6_leave (wsV RX6 190 RX6 yX6_leaves wsX6_leaves) := goodIn_app (goodIn_of _ (by decide +kernel)) ggX6_leave_X6_leaves
theorem dX6_leave_0 : decode cX6_leave 0 = .ok (.aload_n 0, 1) := by decide +kernel
theorem dX6_leave_1 : decode cX6_leave 1 = .ok (.invokevirtual 140, 3) := by decide +kernel
theorem dX6_leave_4 : decode cX6_leave 4 = .ok (.iconst 1, 1) := by decide +kernel
theorem dX6_leave_5 : decode cX6_leave 5 = .ok (.istore_n 1, 1) := by decide +kernel
theorem dX6_leave_6 : decode cX6_leave 6 = .ok (.iload_n 1, 1) := by decide +kernel
theorem dX6_leave_7 : decode cX6_leave 7 = .ok (.aload_n 0, 1) := by decide +kernel
theorem dX6_leave_8 : decode cX6_leave 8 = .ok (.getfield 7, 3) := by decide +kernel
theorem dX6_leave_11 : decode cX6_leave 11 = .ok (.if_icmp .ge 33, 3) := by decide +kernel
theorem dX6_leave_14 : decode cX6_leave 14 = .ok (.aload_n 0, 1) := by decide +kernel
theorem dX6_leave_15 : decode cX6_leave 15 = .ok (.getfield 85, 3) := by decide +kernel
theorem dX6_leave_18 : decode cX6_leave 18 = .ok (.iload_n 1, 1) := by decide +kernel
theorem dX6_leave_19 : decode cX6_leave 19 = .ok (.aload_n 0, 1) := by decide +kernel
theorem dX6_leave_20 : decode cX6_leave 20 = .ok (.getfield 20, 3) := by decide +kernel
theorem dX6_leave_23 : decode cX6_leave 23 = .ok (.iload_n 1, 1) := by decide +kernel
theorem dX6_leave_24 : decode cX6_leave 24 = .ok (.baload, 1) := by decide +kernel
theorem dX6_leave_25 : decode cX6_leave 25 = .ok (.ifCond .eq 11, 3) := by decide +kernel
theorem dX6_leave_28 : decode cX6_leave 28 = .ok (.aload_n 0, 1) := by decide +kernel
theorem dX6_leave_29 : decode cX6_leave 29 = .ok (.iload_n 1, 1) := by decide +kernel
theorem dX6_leave_30 : decode cX6_leave 30 = .ok (.invokevirtual 156, 3) := by decide +kernel
theorem dX6_leave_33 : decode cX6_leave 33 = .ok (.goto 4, 3) := by decide +kernel
theorem dX6_leave_36 : decode cX6_leave 36 = .ok (.iconst 0, 1) := by decide +kernel
theorem dX6_leave_37 : decode cX6_leave 37 = .ok (.iastore, 1) := by decide +kernel
theorem dX6_leave_38 : decode cX6_leave 38 = .ok (.iinc 1 1, 3) := by decide +kernel
theorem dX6_leave_41 : decode cX6_leave 41 = .ok (.goto (-35), 3) := by decide +kernel
theorem dX6_leave_44 : decode cX6_leave 44 = .ok (.iconst 0, 1) := by decide +kernel
theorem dX6_leave_45 : decode cX6_leave 45 = .ok (.istore_n 1, 1) := by decide +kernel
theorem dX6_leave_46 : decode cX6_leave 46 = .ok (.aload_n 0, 1) := by decide +kernel
theorem dX6_leave_47 : decode cX6_leave 47 = .ok (.getfield 105, 3) := by decide +kernel
theorem dX6_leave_50 : decode cX6_leave 50 = .ok (.iconst 1, 1) := by decide +kernel
theorem dX6_leave_51 : decode cX6_leave 51 = .ok (.isub, 1) := by decide +kernel
theorem dX6_leave_52 : decode cX6_leave 52 = .ok (.istore_n 2, 1) := by decide +kernel
theorem dX6_leave_53 : decode cX6_leave 53 = .ok (.iload_n 2, 1) := by decide +kernel
theorem dX6_leave_54 : decode cX6_leave 54 = .ok (.ifCond .lt 46, 3) := by decide +kernel
theorem dX6_leave_57 : decode cX6_leave 57 = .ok (.aload_n 0, 1) := by decide +kernel
theorem dX6_leave_58 : decode cX6_leave 58 = .ok (.getfield 24, 3) := by decide +kernel
theorem dX6_leave_61 : decode cX6_leave 61 = .ok (.iload_n 2, 1) := by decide +kernel
theorem dX6_leave_62 : decode cX6_leave 62 = .ok (.iaload, 1) := by decide +kernel
theorem dX6_leave_63 : decode cX6_leave 63 = .ok (.ifCond .eq 31, 3) := by decide +kernel
theorem dX6_leave_66 : decode cX6_leave 66 = .ok (.aload_n 0, 1) := by decide +kernel
theorem dX6_leave_67 : decode cX6_leave 67 = .ok (.getfield 31, 3) := by decide +kernel
theorem dX6_leave_70 : decode cX6_leave 70 = .ok (.iload_n 2, 1) := by decide +kernel
theorem dX6_leave_71 : decode cX6_leave 71 = .ok (.baload, 1) := by decide +kernel
theorem dX6_leave_72 : decode cX6_leave 72 = .ok (.ifCond .ne 22, 3) := by decide +kernel
theorem dX6_leave_75 : decode cX6_leave 75 = .ok (.aload_n 0, 1) := by decide +kernel
theorem dX6_leave_76 : decode cX6_leave 76 = .ok (.iload_n 2, 1) := by decide +kernel
theorem dX6_leave_77 : decode cX6_leave 77 = .ok (.invokevirtual 121, 3) := by decide +kernel
theorem dX6_leave_80 : decode cX6_leave 80 = .ok (.ifCond .ne 14, 3) := by decide +kernel
theorem dX6_leave_83 : decode cX6_leave 83 = .ok (.aload_n 0, 1) := by decide +kernel
theorem dX6_leave_84 : decode cX6_leave 84 = .ok (.iload_n 2, 1) := by decide +kernel
theorem dX6_leave_85 : decode cX6_leave 85 = .ok (.invokevirtual 190, 3) := by decide +kernel
theorem dX6_leave_88 : decode cX6_leave 88 = .ok (.ifCond .eq 6, 3) := by decide +kernel
theorem dX6_leave_91 : decode cX6_leave 91 = .ok (.iinc 1 1, 3) := by decide +kernel
theorem dX6_leave_94 : decode cX6_leave 94 = .ok (.iinc 2 (-1), 3) := by decide +kernel
theorem dX6_leave_97 : decode cX6_leave 97 = .ok (.goto (-44), 3) := by decide +kernel
theorem dX6_leave_100 : decode cX6_leave 100 = .ok (.iload_n 1, 1) := by decide +kernel
theorem dX6_leave_101 : decode cX6_leave 101 = .ok (.ireturn, 1) := by decide +kernel
set_option maxRecDepth 20000 in
theorem ggX6_lowEnd_X6_work : GoodIn wsX6_lowEnd wsX6_work := goodIn_r _ [9, 3, 10, 11, 12, 13, 14, 8, 15, 16, 17, 18, 1, 2, 19, 20, 21, 22, 23, 24, 25, 26, 27, 28, 29, 30, 31, 32, 33, 34, 35, 36, 37, 38, 39, 40, 41, 42, 67, 68, 69, 70, 71, 72, 73, 74, 75, 76, 77, 78, 79, 80, 81, 82, 83, 84, 85, 86, 87, 88, 89, 90, 91, 92, 93, 94, 95, 96, 97] (by decide +kernel) (by decide +kernel)
set_option maxRecDepth 20000 in
theorem gX6_lowEnd_X6_work : GoodIn wsX6_lowEnd (wsV RX6 140 RX6 yX6_work wsX6_work) := goodIn_app (goodIn_of _ (by decide +kernel)) ggX6_lowEnd_X6_work
set_option maxRecDepth 20000 in
theorem ggX6_lowEnd_X6_rankOf : GoodIn wsX6_lowEnd wsX6_rankOf := goodIn_r _ [46, 47, 48, 49, 50, 8, 51, 10, 31, 52, 21, 17, 53, 54, 55, 56, 57, 58, 59, 60, 61, 62, 63, 40, 41, 42, 64, 65, 66, 67, 68, 69, 70, 71, 72, 73, 74, 75, 76, 77, 78, 79, 80, 81, 82, 83, 84, 85, 86, 87, 88, 89, 90, 91, 92, 93, 94, 95, 96, 97] (by decide +kernel) (by decide +kernel)
set_option maxRecDepth 20000 in
theorem gX6_lowEnd_X6_rankOf : GoodIn wsX6_lowEnd (wsV RX6 156 RX6 yX6_rankOf wsX6_rankOf) := goodIn_app (goodIn_of _ (by decide +kernel)) ggX6_lowEnd_X6_rankOf
theorem dX6_lowEnd_0 : decode cX6_lowEnd 0 = .ok (.aload_n 0, 1) := by decide +kernel
theorem dX6_lowEnd_1 : decode cX6_lowEnd 1 = .ok (.iload_n 1, 1) := by decide +kernel
theorem dX6_lowEnd_2 : decode cX6_lowEnd 2 = .ok (.putfield 58, 3) := by decide +kernel
theorem dX6_lowEnd_5 : decode cX6_lowEnd 5 = .ok (.aload_n 0, 1) := by decide +kernel
theorem dX6_lowEnd_6 : decode cX6_lowEnd 6 = .ok (.iload_n 2, 1) := by decide +kernel
theorem dX6_lowEnd_7 : decode cX6_lowEnd 7 = .ok (.putfield 61, 3) := by decide +kernel
theorem dX6_lowEnd_10 : decode cX6_lowEnd 10 = .ok (.aload_n 0, 1) := by decide +kernel
theorem dX6_lowEnd_11 : decode cX6_lowEnd 11 = .ok (.invokevirtual 140, 3) := by decide +kernel
theorem dX6_lowEnd_14 : decode cX6_lowEnd 14 = .ok (.iconst (-1), 1) := by decide +kernel
theorem dX6_lowEnd_15 : decode cX6_lowEnd 15 = .ok (.istore 4, 2) := by decide +kernel
theorem dX6_lowEnd_17 : decode cX6_lowEnd 17 = .ok (.aload_n 0, 1) := by decide +kernel
theorem dX6_lowEnd_18 : decode cX6_lowEnd 18 = .ok (.getfield 7, 3) := by decide +kernel
theorem dX6_lowEnd_21 : decode cX6_lowEnd 21 = .ok (.iconst 1, 1) := by decide +kernel
theorem dX6_lowEnd_22 : decode cX6_lowEnd 22 = .ok (.isub, 1) := by decide +kernel
theorem dX6_lowEnd_23 : decode cX6_lowEnd 23 = .ok (.istore 5, 2) := by decide +kernel
theorem dX6_lowEnd_25 : decode cX6_lowEnd 25 = .ok (.iload 5, 2) := by decide +kernel
theorem dX6_lowEnd_27 : decode cX6_lowEnd 27 = .ok (.ifCond .le 33, 3) := by decide +kernel
theorem dX6_lowEnd_30 : decode cX6_lowEnd 30 = .ok (.aload_n 0, 1) := by decide +kernel
theorem dX6_lowEnd_31 : decode cX6_lowEnd 31 = .ok (.getfield 20, 3) := by decide +kernel
theorem dX6_lowEnd_34 : decode cX6_lowEnd 34 = .ok (.iload 5, 2) := by decide +kernel
theorem dX6_lowEnd_36 : decode cX6_lowEnd 36 = .ok (.baload, 1) := by decide +kernel
theorem dX6_lowEnd_37 : decode cX6_lowEnd 37 = .ok (.ifCond .eq 17, 3) := by decide +kernel
theorem dX6_lowEnd_40 : decode cX6_lowEnd 40 = .ok (.aload_n 0, 1) := by decide +kernel
theorem dX6_lowEnd_41 : decode cX6_lowEnd 41 = .ok (.iload 5, 2) := by decide +kernel
theorem dX6_lowEnd_43 : decode cX6_lowEnd 43 = .ok (.invokevirtual 156, 3) := by decide +kernel
theorem dX6_lowEnd_46 : decode cX6_lowEnd 46 = .ok (.iload_n 3, 1) := by decide +kernel
theorem dX6_lowEnd_47 : decode cX6_lowEnd 47 = .ok (.if_icmp .ge 7, 3) := by decide +kernel
theorem dX6_lowEnd_50 : decode cX6_lowEnd 50 = .ok (.iload 5, 2) := by decide +kernel
theorem dX6_lowEnd_52 : decode cX6_lowEnd 52 = .ok (.istore 4, 2) := by decide +kernel
theorem dX6_lowEnd_54 : decode cX6_lowEnd 54 = .ok (.iinc 5 (-1), 3) := by decide +kernel
theorem dX6_lowEnd_57 : decode cX6_lowEnd 57 = .ok (.goto (-32), 3) := by decide +kernel
theorem dX6_lowEnd_60 : decode cX6_lowEnd 60 = .ok (.aload_n 0, 1) := by decide +kernel
theorem dX6_lowEnd_61 : decode cX6_lowEnd 61 = .ok (.iconst (-1), 1) := by decide +kernel
theorem dX6_lowEnd_62 : decode cX6_lowEnd 62 = .ok (.putfield 58, 3) := by decide +kernel
theorem dX6_lowEnd_65 : decode cX6_lowEnd 65 = .ok (.aload_n 0, 1) := by decide +kernel
theorem dX6_lowEnd_66 : decode cX6_lowEnd 66 = .ok (.iconst (-1), 1) := by decide +kernel
theorem dX6_lowEnd_67 : decode cX6_lowEnd 67 = .ok (.putfield 61, 3) := by decide +kernel
theorem dX6_lowEnd_70 : decode cX6_lowEnd 70 = .ok (.iload 4, 2) := by decide +kernel
theorem dX6_lowEnd_72 : decode cX6_lowEnd 72 = .ok (.ireturn, 1) := by decide +kernel
set_option maxRecDepth 20000 in
theorem ggX6_breaksAt_X6_lowEnd : GoodIn wsX6_breaksAt wsX6_lowEnd := goodIn_r _ [8, 9, 10, 11, 12, 13, 14, 15, 7, 16, 17, 18, 19, 20, 21, 22, 23, 24, 25, 26, 27, 28, 29, 30, 31, 32, 33, 34, 35, 36, 37, 38, 39, 40, 41, 42, 43, 44, 45, 46, 47, 48, 49, 50, 51, 52, 53, 54, 55, 56, 57, 58, 59, 60, 61, 62, 63, 64, 65, 66, 67, 68, 69, 70, 71, 72, 73, 74, 75, 76, 77, 78, 79, 80, 81, 82, 83, 84, 85, 86, 87, 88, 89, 90, 91, 92, 93, 94, 95, 96, 97, 98, 99, 100, 101, 102, 103, 104] (by decide +kernel) (by decide +kernel)
set_option maxRecDepth 20000 in
theorem gX6_breaksAt_X6_lowEnd : GoodIn wsX6_breaksAt (wsV RX6 199 RX6 yX6_lowEnd wsX6_lowEnd) := goodIn_app (goodIn_of _ (by decide +kernel)) ggX6_breaksAt_X6_lowEnd
theorem dX6_breaksAt_0 : decode cX6_breaksAt 0 = .ok (.aload_n 0, 1) := by decide +kernel
theorem dX6_breaksAt_1 : decode cX6_breaksAt 1 = .ok (.iload_n 1, 1) := by decide +kernel
theorem dX6_breaksAt_2 : decode cX6_breaksAt 2 = .ok (.putfield 193, 3) := by decide +kernel
theorem dX6_breaksAt_5 : decode cX6_breaksAt 5 = .ok (.aload_n 0, 1) := by decide +kernel
theorem dX6_breaksAt_6 : decode cX6_breaksAt 6 = .ok (.iload_n 2, 1) := by decide +kernel
theorem dX6_breaksAt_7 : decode cX6_breaksAt 7 = .ok (.putfield 196, 3) := by decide +kernel
theorem dX6_breaksAt_10 : decode cX6_breaksAt 10 = .ok (.aload_n 0, 1) := by decide +kernel
theorem dX6_breaksAt_11 : decode cX6_breaksAt 11 = .ok (.aload_n 0, 1) := by decide +kernel
theorem dX6_breaksAt_12 : decode cX6_breaksAt 12 = .ok (.iload_n 1, 1) := by decide +kernel
theorem dX6_breaksAt_13 : decode cX6_breaksAt 13 = .ok (.iload_n 2, 1) := by decide +kernel
theorem dX6_breaksAt_14 : decode cX6_breaksAt 14 = .ok (.iload_n 3, 1) := by decide +kernel
theorem dX6_breaksAt_15 : decode cX6_breaksAt 15 = .ok (.invokevirtual 199, 3) := by decide +kernel
theorem dX6_breaksAt_18 : decode cX6_breaksAt 18 = .ok (.putfield 203, 3) := by decide +kernel
theorem dX6_breaksAt_21 : decode cX6_breaksAt 21 = .ok (.aload_n 0, 1) := by decide +kernel
theorem dX6_breaksAt_22 : decode cX6_breaksAt 22 = .ok (.getfield 203, 3) := by decide +kernel
theorem dX6_breaksAt_25 : decode cX6_breaksAt 25 = .ok (.iconst (-1), 1) := by decide +kernel
theorem dX6_breaksAt_26 : decode cX6_breaksAt 26 = .ok (.if_icmp .eq 7, 3) := by decide +kernel
theorem dX6_breaksAt_29 : decode cX6_breaksAt 29 = .ok (.iconst 1, 1) := by decide +kernel
theorem dX6_breaksAt_30 : decode cX6_breaksAt 30 = .ok (.goto 4, 3) := by decide +kernel
theorem dX6_breaksAt_33 : decode cX6_breaksAt 33 = .ok (.iconst 0, 1) := by decide +kernel
theorem dX6_breaksAt_34 : decode cX6_breaksAt 34 = .ok (.ireturn, 1) := by decide +kernel
set_option maxRecDepth 20000 in
theorem ggX6_hasBreak_X6_breaksAt : GoodIn wsX6_hasBreak wsX6_breaksAt := goodIn_r _ [7, 8, 9, 10, 11, 12, 13, 6, 14, 15, 16, 17, 18, 19, 20, 21, 22, 1, 23, 24, 25, 26, 27, 28, 29, 2, 30, 31, 32, 33, 34, 35, 36, 37, 38, 39, 40, 41, 42, 43, 44, 45, 46, 47, 48, 49, 50, 51, 52, 53, 54, 55, 56, 57, 58, 59, 60, 61, 62, 63, 64, 65, 66, 67, 68, 69, 70, 71, 72, 73, 74, 75, 76, 77, 78, 79, 80, 81, 82, 83, 84, 85, 86, 87, 88, 89, 90, 91, 92, 93, 94, 95, 96, 97, 98, 99, 100, 101, 102, 103, 104, 105, 106, 107, 108] (by decide +kernel) (by decide +kernel)
set_option maxRecDepth 20000 in
theorem gX6_hasBreak_X6_breaksAt : GoodIn wsX6_hasBreak (wsV RX6 206 RX6 yX6_breaksAt wsX6_breaksAt) := goodIn_app (goodIn_of _ (by decide +kernel)) ggX6_hasBreak_X6_breaksAt
theorem dX6_hasBreak_0 : decode cX6_hasBreak 0 = .ok (.aload_n 0, 1) := by decide +kernel
theorem dX6_hasBreak_1 : decode cX6_hasBreak 1 = .ok (.iconst (-1), 1) := by decide +kernel
theorem dX6_hasBreak_2 : decode cX6_hasBreak 2 = .ok (.iconst (-1), 1) := by decide +kernel
theorem dX6_hasBreak_3 : decode cX6_hasBreak 3 = .ok (.iload_n 2, 1) := by decide +kernel
theorem dX6_hasBreak_4 : decode cX6_hasBreak 4 = .ok (.invokevirtual 206, 3) := by decide +kernel
theorem dX6_hasBreak_7 : decode cX6_hasBreak 7 = .ok (.ifCond .eq 5, 3) := by decide +kernel
theorem dX6_hasBreak_10 : decode cX6_hasBreak 10 = .ok (.iconst 1, 1) := by decide +kernel
theorem dX6_hasBreak_11 : decode cX6_hasBreak 11 = .ok (.ireturn, 1) := by decide +kernel
theorem dX6_hasBreak_12 : decode cX6_hasBreak 12 = .ok (.iconst 0, 1) := by decide +kernel
theorem dX6_hasBreak_13 : decode cX6_hasBreak 13 = .ok (.istore_n 3, 1) := by decide +kernel
theorem dX6_hasBreak_14 : decode cX6_hasBreak 14 = .ok (.iload_n 3, 1) := by decide +kernel
theorem dX6_hasBreak_15 : decode cX6_hasBreak 15 = .ok (.aload_n 0, 1) := by decide +kernel
theorem dX6_hasBreak_16 : decode cX6_hasBreak 16 = .ok (.getfield 105, 3) := by decide +kernel
theorem dX6_hasBreak_19 : decode cX6_hasBreak 19 = .ok (.if_icmp .ge 34, 3) := by decide +kernel
theorem dX6_hasBreak_22 : decode cX6_hasBreak 22 = .ok (.iload_n 1, 1) := by decide +kernel
theorem dX6_hasBreak_23 : decode cX6_hasBreak 23 = .ok (.ifCond .le 30, 3) := by decide +kernel
theorem dX6_hasBreak_26 : decode cX6_hasBreak 26 = .ok (.aload_n 0, 1) := by decide +kernel
theorem dX6_hasBreak_27 : decode cX6_hasBreak 27 = .ok (.getfield 34, 3) := by decide +kernel
theorem dX6_hasBreak_30 : decode cX6_hasBreak 30 = .ok (.iload_n 3, 1) := by decide +kernel
theorem dX6_hasBreak_31 : decode cX6_hasBreak 31 = .ok (.baload, 1) := by decide +kernel
theorem dX6_hasBreak_32 : decode cX6_hasBreak 32 = .ok (.ifCond .ne 15, 3) := by decide +kernel
theorem dX6_hasBreak_35 : decode cX6_hasBreak 35 = .ok (.aload_n 0, 1) := by decide +kernel
theorem dX6_hasBreak_36 : decode cX6_hasBreak 36 = .ok (.iload_n 3, 1) := by decide +kernel
theorem dX6_hasBreak_37 : decode cX6_hasBreak 37 = .ok (.iconst (-1), 1) := by decide +kernel
theorem dX6_hasBreak_38 : decode cX6_hasBreak 38 = .ok (.iload_n 2, 1) := by decide +kernel
theorem dX6_hasBreak_39 : decode cX6_hasBreak 39 = .ok (.invokevirtual 206, 3) := by decide +kernel
theorem dX6_hasBreak_42 : decode cX6_hasBreak 42 = .ok (.ifCond .eq 5, 3) := by decide +kernel
theorem dX6_hasBreak_45 : decode cX6_hasBreak 45 = .ok (.iconst 1, 1) := by decide +kernel
theorem dX6_hasBreak_46 : decode cX6_hasBreak 46 = .ok (.ireturn, 1) := by decide +kernel
theorem dX6_hasBreak_47 : decode cX6_hasBreak 47 = .ok (.iinc 3 1, 3) := by decide +kernel
theorem dX6_hasBreak_50 : decode cX6_hasBreak 50 = .ok (.goto (-36), 3) := by decide +kernel
theorem dX6_hasBreak_53 : decode cX6_hasBreak 53 = .ok (.iconst 0, 1) := by decide +kernel
theorem dX6_hasBreak_54 : decode cX6_hasBreak 54 = .ok (.istore_n 3, 1) := by decide +kernel
theorem dX6_hasBreak_55 : decode cX6_hasBreak 55 = .ok (.iload_n 3, 1) := by decide +kernel
theorem dX6_hasBreak_56 : decode cX6_hasBreak 56 = .ok (.aload_n 0, 1) := by decide +kernel
theorem dX6_hasBreak_57 : decode cX6_hasBreak 57 = .ok (.getfield 105, 3) := by decide +kernel
theorem dX6_hasBreak_60 : decode cX6_hasBreak 60 = .ok (.if_icmp .ge 66, 3) := by decide +kernel
theorem dX6_hasBreak_63 : decode cX6_hasBreak 63 = .ok (.iload_n 1, 1) := by decide +kernel
theorem dX6_hasBreak_64 : decode cX6_hasBreak 64 = .ok (.iconst 1, 1) := by decide +kernel
theorem dX6_hasBreak_65 : decode cX6_hasBreak 65 = .ok (.if_icmp .le 61, 3) := by decide +kernel
theorem dX6_hasBreak_68 : decode cX6_hasBreak 68 = .ok (.iload_n 3, 1) := by decide +kernel
theorem dX6_hasBreak_69 : decode cX6_hasBreak 69 = .ok (.iconst 1, 1) := by decide +kernel
theorem dX6_hasBreak_70 : decode cX6_hasBreak 70 = .ok (.iadd, 1) := by decide +kernel
theorem dX6_hasBreak_71 : decode cX6_hasBreak 71 = .ok (.istore 4, 2) := by decide +kernel
theorem dX6_hasBreak_73 : decode cX6_hasBreak 73 = .ok (.iload 4, 2) := by decide +kernel
theorem dX6_hasBreak_75 : decode cX6_hasBreak 75 = .ok (.aload_n 0, 1) := by decide +kernel
theorem dX6_hasBreak_76 : decode cX6_hasBreak 76 = .ok (.getfield 105, 3) := by decide +kernel
theorem dX6_hasBreak_79 : decode cX6_hasBreak 79 = .ok (.if_icmp .ge 41, 3) := by decide +kernel
theorem dX6_hasBreak_82 : decode cX6_hasBreak 82 = .ok (.aload_n 0, 1) := by decide +kernel
theorem dX6_hasBreak_83 : decode cX6_hasBreak 83 = .ok (.getfield 34, 3) := by decide +kernel
theorem dX6_hasBreak_86 : decode cX6_hasBreak 86 = .ok (.iload_n 3, 1) := by decide +kernel
theorem dX6_hasBreak_87 : decode cX6_hasBreak 87 = .ok (.baload, 1) := by decide +kernel
theorem dX6_hasBreak_88 : decode cX6_hasBreak 88 = .ok (.ifCond .ne 32, 3) := by decide +kernel
theorem dX6_hasBreak_91 : decode cX6_hasBreak 91 = .ok (.aload_n 0, 1) := by decide +kernel
theorem dX6_hasBreak_92 : decode cX6_hasBreak 92 = .ok (.getfield 34, 3) := by decide +kernel
theorem dX6_hasBreak_95 : decode cX6_hasBreak 95 = .ok (.iload 4, 2) := by decide +kernel
theorem dX6_hasBreak_97 : decode cX6_hasBreak 97 = .ok (.baload, 1) := by decide +kernel
theorem dX6_hasBreak_98 : decode cX6_hasBreak 98 = .ok (.ifCond .ne 16, 3) := by decide +kernel
theorem dX6_hasBreak_101 : decode cX6_hasBreak 101 = .ok (.aload_n 0, 1) := by decide +kernel
theorem dX6_hasBreak_102 : decode cX6_hasBreak 102 = .ok (.iload_n 3, 1) := by decide +kernel
theorem dX6_hasBreak_103 : decode cX6_hasBreak 103 = .ok (.iload 4, 2) := by decide +kernel
theorem dX6_hasBreak_105 : decode cX6_hasBreak 105 = .ok (.iload_n 2, 1) := by decide +kernel
theorem dX6_hasBreak_106 : decode cX6_hasBreak 106 = .ok (.invokevirtual 206, 3) := by decide +kernel
theorem dX6_hasBreak_109 : decode cX6_hasBreak 109 = .ok (.ifCond .eq 5, 3) := by decide +kernel
theorem dX6_hasBreak_112 : decode cX6_hasBreak 112 = .ok (.iconst 1, 1) := by decide +kernel
theorem dX6_hasBreak_113 : decode cX6_hasBreak 113 = .ok (.ireturn, 1) := by decide +kernel
theorem dX6_hasBreak_114 : decode cX6_hasBreak 114 = .ok (.iinc 4 1, 3) := by decide +kernel
theorem dX6_hasBreak_117 : decode cX6_hasBreak 117 = .ok (.goto (-44), 3) := by decide +kernel
theorem dX6_hasBreak_120 : decode cX6_hasBreak 120 = .ok (.iinc 3 1, 3) := by decide +kernel
theorem dX6_hasBreak_123 : decode cX6_hasBreak 123 = .ok (.goto (-68), 3) := by decide +kernel
theorem dX6_hasBreak_126 : decode cX6_hasBreak 126 = .ok (.iconst 0, 1) := by decide +kernel
theorem dX6_hasBreak_127 : decode cX6_hasBreak 127 = .ok (.ireturn, 1) := by decide +kernel
set_option maxRecDepth 20000 in
theorem ggX6_safe_X6_in : GoodIn wsX6_safe wsX6_in := goodIn_r _ [5] (by decide +kernel) (by decide +kernel)
set_option maxRecDepth 20000 in
theorem gX6_safe_X6_in : GoodIn wsX6_safe (va_wsS RX6 97 yX6_in wsX6_in) := goodIn_app (goodIn_of _ (by decide +kernel)) ggX6_safe_X6_in
set_option maxRecDepth 20000 in
theorem ggX6_safe_X6_hasBreak : GoodIn wsX6_safe wsX6_hasBreak := goodIn_r _ [9, 10, 11, 12, 13, 14, 4, 15, 16, 17, 18, 19, 20, 21, 22, 23, 24, 25, 26, 27, 28, 29, 30, 31, 32, 33, 34, 35, 36, 37, 38, 39, 1, 40, 41, 42, 43, 44, 45, 46, 47, 48, 49, 50, 51, 52, 53, 54, 55, 56, 57, 58, 59, 60, 61, 62, 63, 64, 65, 66, 67, 68, 69, 70, 71, 72, 73, 74, 75, 76, 77, 78, 79, 80, 81, 82, 83, 84, 85, 86, 87, 88, 89, 90, 91, 92, 93, 94, 95, 96, 97, 98, 99, 100, 101, 102, 103, 104, 105, 106, 107, 108, 109, 110, 111, 112, 113, 114, 115] (by decide +kernel) (by decide +kernel)
set_option maxRecDepth 20000 in
theorem gX6_safe_X6_hasBreak : GoodIn wsX6_safe (wsV RX6 209 RX6 yX6_hasBreak wsX6_hasBreak) := goodIn_app (goodIn_of _ (by decide +kernel)) ggX6_safe_X6_hasBreak
theorem dX6_safe_0 : decode cX6_safe 0 = .ok (.iload_n 1, 1) := by decide +kernel
theorem dX6_safe_1 : decode cX6_safe 1 = .ok (.iconst 0, 1) := by decide +kernel
theorem dX6_safe_2 : decode cX6_safe 2 = .ok (.iconst 2, 1) := by decide +kernel
theorem dX6_safe_3 : decode cX6_safe 3 = .ok (.invokestatic 97, 3) := by decide +kernel
theorem dX6_safe_6 : decode cX6_safe 6 = .ok (.ifCond .eq 15, 3) := by decide +kernel
theorem dX6_safe_9 : decode cX6_safe 9 = .ok (.iload_n 2, 1) := by decide +kernel
theorem dX6_safe_10 : decode cX6_safe 10 = .ok (.iconst 0, 1) := by decide +kernel
theorem dX6_safe_11 : decode cX6_safe 11 = .ok (.aload_n 0, 1) := by decide +kernel
theorem dX6_safe_12 : decode cX6_safe 12 = .ok (.getfield 13, 3) := by decide +kernel
theorem dX6_safe_15 : decode cX6_safe 15 = .ok (.invokestatic 97, 3) := by decide +kernel
theorem dX6_safe_18 : decode cX6_safe 18 = .ok (.ifCond .ne 6, 3) := by decide +kernel
theorem dX6_safe_21 : decode cX6_safe 21 = .ok (.bipush (-2), 2) := by decide +kernel
theorem dX6_safe_23 : decode cX6_safe 23 = .ok (.ireturn, 1) := by decide +kernel
theorem dX6_safe_24 : decode cX6_safe 24 = .ok (.aload_n 0, 1) := by decide +kernel
theorem dX6_safe_25 : decode cX6_safe 25 = .ok (.iload_n 1, 1) := by decide +kernel
theorem dX6_safe_26 : decode cX6_safe 26 = .ok (.iload_n 2, 1) := by decide +kernel
theorem dX6_safe_27 : decode cX6_safe 27 = .ok (.invokevirtual 209, 3) := by decide +kernel
theorem dX6_safe_30 : decode cX6_safe 30 = .ok (.ifCond .eq 7, 3) := by decide +kernel
theorem dX6_safe_33 : decode cX6_safe 33 = .ok (.iconst 0, 1) := by decide +kernel
theorem dX6_safe_34 : decode cX6_safe 34 = .ok (.goto 4, 3) := by decide +kernel
theorem dX6_safe_37 : decode cX6_safe 37 = .ok (.iconst 1, 1) := by decide +kernel
theorem dX6_safe_38 : decode cX6_safe 38 = .ok (.ireturn, 1) := by decide +kernel
set_option maxRecDepth 20000 in
theorem ggX6_breaks_X6_in : GoodIn wsX6_breaks wsX6_in := goodIn_r _ [8] (by decide +kernel) (by decide +kernel)
set_option maxRecDepth 20000 in
theorem gX6_breaks_X6_in : GoodIn wsX6_breaks (va_wsS RX6 97 yX6_in wsX6_in) := goodIn_app (goodIn_of _ (by decide +kernel)) ggX6_breaks_X6_in
set_option maxRecDepth 20000 in
theorem ggX6_breaks_X6_hasBreak : GoodIn wsX6_breaks wsX6_hasBreak := goodIn_r _ [12, 13, 14, 15, 16, 17, 7, 18, 2, 3, 4, 19, 20, 21, 22, 23, 24, 25, 26, 27, 28, 29, 30, 31, 32, 33, 34, 35, 36, 37, 38, 39, 1, 40, 41, 42, 43, 44, 45, 46, 47, 48, 49, 50, 51, 52, 53, 54, 55, 56, 57, 58, 59, 60, 61, 62, 63, 64, 65, 66, 67, 68, 69, 70, 71, 72, 73, 74, 75, 76, 77, 78, 79, 80, 81, 82, 83, 84, 85, 86, 87, 88, 89, 90, 91, 92, 93, 94, 95, 96, 97, 98, 99, 100, 101, 102, 103, 104, 105, 106, 107, 108, 109, 110, 111, 112, 113, 114, 115] (by decide +kernel) (by decide +kernel)
set_option maxRecDepth 20000 in
theorem gX6_breaks_X6_hasBreak : GoodIn wsX6_breaks (wsV RX6 209 RX6 yX6_hasBreak wsX6_hasBreak) := goodIn_app (goodIn_of _ (by decide +kernel)) ggX6_breaks_X6_hasBreak
theorem dX6_breaks_0 : decode cX6_breaks 0 = .ok (.iload_n 3, 1) := by decide +kernel
theorem dX6_breaks_1 : decode cX6_breaks 1 = .ok (.iconst 0, 1) := by decide +kernel
theorem dX6_breaks_2 : decode cX6_breaks 2 = .ok (.iconst 2, 1) := by decide +kernel
theorem dX6_breaks_3 : decode cX6_breaks 3 = .ok (.invokestatic 97, 3) := by decide +kernel
theorem dX6_breaks_6 : decode cX6_breaks 6 = .ok (.ifCond .ne 5, 3) := by decide +kernel
theorem dX6_breaks_9 : decode cX6_breaks 9 = .ok (.iconst (-1), 1) := by decide +kernel
theorem dX6_breaks_10 : decode cX6_breaks 10 = .ok (.ireturn, 1) := by decide +kernel
theorem dX6_breaks_11 : decode cX6_breaks 11 = .ok (.iload_n 1, 1) := by decide +kernel
theorem dX6_breaks_12 : decode cX6_breaks 12 = .ok (.iconst 0, 1) := by decide +kernel
theorem dX6_breaks_13 : decode cX6_breaks 13 = .ok (.iconst 2, 1) := by decide +kernel
theorem dX6_breaks_14 : decode cX6_breaks 14 = .ok (.invokestatic 97, 3) := by decide +kernel
theorem dX6_breaks_17 : decode cX6_breaks 17 = .ok (.ifCond .eq 15, 3) := by decide +kernel
theorem dX6_breaks_20 : decode cX6_breaks 20 = .ok (.iload_n 2, 1) := by decide +kernel
theorem dX6_breaks_21 : decode cX6_breaks 21 = .ok (.iconst 0, 1) := by decide +kernel
theorem dX6_breaks_22 : decode cX6_breaks 22 = .ok (.aload_n 0, 1) := by decide +kernel
theorem dX6_breaks_23 : decode cX6_breaks 23 = .ok (.getfield 13, 3) := by decide +kernel
theorem dX6_breaks_26 : decode cX6_breaks 26 = .ok (.invokestatic 97, 3) := by decide +kernel
theorem dX6_breaks_29 : decode cX6_breaks 29 = .ok (.ifCond .ne 6, 3) := by decide +kernel
theorem dX6_breaks_32 : decode cX6_breaks 32 = .ok (.bipush (-2), 2) := by decide +kernel
theorem dX6_breaks_34 : decode cX6_breaks 34 = .ok (.ireturn, 1) := by decide +kernel
theorem dX6_breaks_35 : decode cX6_breaks 35 = .ok (.aload_n 0, 1) := by decide +kernel
theorem dX6_breaks_36 : decode cX6_breaks 36 = .ok (.iload_n 1, 1) := by decide +kernel
theorem dX6_breaks_37 : decode cX6_breaks 37 = .ok (.iload_n 2, 1) := by decide +kernel
theorem dX6_breaks_38 : decode cX6_breaks 38 = .ok (.invokevirtual 209, 3) := by decide +kernel
theorem dX6_breaks_41 : decode cX6_breaks 41 = .ok (.ifCond .ne 5, 3) := by decide +kernel
theorem dX6_breaks_44 : decode cX6_breaks 44 = .ok (.iconst (-1), 1) := by decide +kernel
theorem dX6_breaks_45 : decode cX6_breaks 45 = .ok (.ireturn, 1) := by decide +kernel
theorem dX6_breaks_46 : decode cX6_breaks 46 = .ok (.iload_n 3, 1) := by decide +kernel
theorem dX6_breaks_47 : decode cX6_breaks 47 = .ok (.ifCond .ne 10, 3) := by decide +kernel
theorem dX6_breaks_50 : decode cX6_breaks 50 = .ok (.aload_n 0, 1) := by decide +kernel
theorem dX6_breaks_51 : decode cX6_breaks 51 = .ok (.getfield 193, 3) := by decide +kernel
theorem dX6_breaks_54 : decode cX6_breaks 54 = .ok (.goto 19, 3) := by decide +kernel
theorem dX6_breaks_57 : decode cX6_breaks 57 = .ok (.iload_n 3, 1) := by decide +kernel
theorem dX6_breaks_58 : decode cX6_breaks 58 = .ok (.iconst 1, 1) := by decide +kernel
theorem dX6_breaks_59 : decode cX6_breaks 59 = .ok (.if_icmp .ne 10, 3) := by decide +kernel
theorem dX6_breaks_62 : decode cX6_breaks 62 = .ok (.aload_n 0, 1) := by decide +kernel
theorem dX6_breaks_63 : decode cX6_breaks 63 = .ok (.getfield 196, 3) := by decide +kernel
theorem dX6_breaks_66 : decode cX6_breaks 66 = .ok (.goto 7, 3) := by decide +kernel
theorem dX6_breaks_69 : decode cX6_breaks 69 = .ok (.aload_n 0, 1) := by decide +kernel
theorem dX6_breaks_70 : decode cX6_breaks 70 = .ok (.getfield 203, 3) := by decide +kernel
theorem dX6_breaks_73 : decode cX6_breaks 73 = .ok (.ireturn, 1) := by decide +kernel
set_option maxRecDepth 20000 in
theorem ggX6_count_X6_ends : GoodIn wsX6_count wsX6_ends := goodIn_r _ [9, 1, 10, 26, 27, 28, 29, 30, 31, 32, 33, 34, 35, 36, 37, 38, 39, 40, 41, 42, 43, 44, 45, 46, 47, 48, 49, 50, 51, 52, 53, 54, 55, 56] (by decide +kernel) (by decide +kernel)
set_option maxRecDepth 20000 in
theorem gX6_count_X6_ends : GoodIn wsX6_count (wsV RX6 177 RX6 yX6_ends wsX6_ends) := goodIn_app (goodIn_of _ (by decide +kernel)) ggX6_count_X6_ends
set_option maxRecDepth 20000 in
theorem ggX6_count_X6_isPassing : GoodIn wsX6_count wsX6_isPassing := goodIn_r _ [14, 15, 16, 17, 18, 19, 8, 20, 3, 21, 22, 23, 24, 2, 25, 26, 27, 28, 29, 30, 31, 32, 33, 34, 35, 36, 37, 38, 39, 40, 41, 42, 43, 44, 45, 46, 47, 48, 49, 50, 51, 52, 53, 54, 55, 56] (by decide +kernel) (by decide +kernel)
set_option maxRecDepth 20000 in
theorem gX6_count_X6_isPassing : GoodIn wsX6_count (wsV RX6 121 RX6 yX6_isPassing wsX6_isPassing) := goodIn_app (goodIn_of _ (by decide +kernel)) ggX6_count_X6_isPassing
set_option maxRecDepth 20000 in
theorem ggX6_count_X6_ins : GoodIn wsX6_count wsX6_ins := goodIn_r _ [20, 16, 3, 21, 22, 23, 8, 24, 2, 25, 26, 27, 28, 29, 30, 31, 32, 33, 34, 35, 36, 37, 38, 39, 40, 41, 42, 43, 44, 45, 46, 47, 48, 49, 50, 51, 52, 53, 54, 55, 56] (by decide +kernel) (by decide +kernel)
set_option maxRecDepth 20000 in
theorem gX6_count_X6_ins : GoodIn wsX6_count (wsV RX6 118 RX6 yX6_ins wsX6_ins) := goodIn_app (goodIn_of _ (by decide +kernel)) ggX6_count_X6_ins
theorem dX6_count_0 : decode cX6_count 0 = .ok (.iconst 0, 1) := by decide +kernel
theorem dX6_count_1 : decode cX6_count 1 = .ok (.istore_n 2, 1) := by decide +kernel
theorem dX6_count_2 : decode cX6_count 2 = .ok (.iload_n 1, 1) := by decide +kernel
theorem dX6_count_3 : decode cX6_count 3 = .ok (.tableswitch 156 0 6 #[41, 46, 51, 56, 61, 96, 130], 41) := by decide +kernel
theorem dX6_count_44 : decode cX6_count 44 = .ok (.aload_n 0, 1) := by decide +kernel
theorem dX6_count_45 : decode cX6_count 45 = .ok (.getfield 7, 3) := by decide +kernel
theorem dX6_count_48 : decode cX6_count 48 = .ok (.ireturn, 1) := by decide +kernel
theorem dX6_count_49 : decode cX6_count 49 = .ok (.aload_n 0, 1) := by decide +kernel
theorem dX6_count_50 : decode cX6_count 50 = .ok (.getfield 105, 3) := by decide +kernel
theorem dX6_count_53 : decode cX6_count 53 = .ok (.ireturn, 1) := by decide +kernel
theorem dX6_count_54 : decode cX6_count 54 = .ok (.aload_n 0, 1) := by decide +kernel
theorem dX6_count_55 : decode cX6_count 55 = .ok (.getfield 13, 3) := by decide +kernel
theorem dX6_count_58 : decode cX6_count 58 = .ok (.ireturn, 1) := by decide +kernel
theorem dX6_count_59 : decode cX6_count 59 = .ok (.aload_n 0, 1) := by decide +kernel
theorem dX6_count_60 : decode cX6_count 60 = .ok (.invokevirtual 177, 3) := by decide +kernel
theorem dX6_count_63 : decode cX6_count 63 = .ok (.ireturn, 1) := by decide +kernel
theorem dX6_count_64 : decode cX6_count 64 = .ok (.iconst 0, 1) := by decide +kernel
theorem dX6_count_65 : decode cX6_count 65 = .ok (.istore_n 3, 1) := by decide +kernel
theorem dX6_count_66 : decode cX6_count 66 = .ok (.iload_n 3, 1) := by decide +kernel
theorem dX6_count_67 : decode cX6_count 67 = .ok (.aload_n 0, 1) := by decide +kernel
theorem dX6_count_68 : decode cX6_count 68 = .ok (.getfield 105, 3) := by decide +kernel
theorem dX6_count_71 : decode cX6_count 71 = .ok (.if_icmp .ge 26, 3) := by decide +kernel
theorem dX6_count_74 : decode cX6_count 74 = .ok (.iload_n 2, 1) := by decide +kernel
theorem dX6_count_75 : decode cX6_count 75 = .ok (.aload_n 0, 1) := by decide +kernel
theorem dX6_count_76 : decode cX6_count 76 = .ok (.getfield 34, 3) := by decide +kernel
theorem dX6_count_79 : decode cX6_count 79 = .ok (.iload_n 3, 1) := by decide +kernel
theorem dX6_count_80 : decode cX6_count 80 = .ok (.baload, 1) := by decide +kernel
theorem dX6_count_81 : decode cX6_count 81 = .ok (.ifCond .eq 7, 3) := by decide +kernel
theorem dX6_count_84 : decode cX6_count 84 = .ok (.iconst 1, 1) := by decide +kernel
theorem dX6_count_85 : decode cX6_count 85 = .ok (.goto 4, 3) := by decide +kernel
theorem dX6_count_88 : decode cX6_count 88 = .ok (.iconst 0, 1) := by decide +kernel
theorem dX6_count_89 : decode cX6_count 89 = .ok (.iadd, 1) := by decide +kernel
theorem dX6_count_90 : decode cX6_count 90 = .ok (.istore_n 2, 1) := by decide +kernel
theorem dX6_count_91 : decode cX6_count 91 = .ok (.iinc 3 1, 3) := by decide +kernel
theorem dX6_count_94 : decode cX6_count 94 = .ok (.goto (-28), 3) := by decide +kernel
theorem dX6_count_97 : decode cX6_count 97 = .ok (.iload_n 2, 1) := by decide +kernel
theorem dX6_count_98 : decode cX6_count 98 = .ok (.ireturn, 1) := by decide +kernel
theorem dX6_count_99 : decode cX6_count 99 = .ok (.iconst 0, 1) := by decide +kernel
theorem dX6_count_100 : decode cX6_count 100 = .ok (.istore_n 3, 1) := by decide +kernel
theorem dX6_count_101 : decode cX6_count 101 = .ok (.iload_n 3, 1) := by decide +kernel
theorem dX6_count_102 : decode cX6_count 102 = .ok (.aload_n 0, 1) := by decide +kernel
theorem dX6_count_103 : decode cX6_count 103 = .ok (.getfield 105, 3) := by decide +kernel
theorem dX6_count_106 : decode cX6_count 106 = .ok (.if_icmp .ge 25, 3) := by decide +kernel
theorem dX6_count_109 : decode cX6_count 109 = .ok (.iload_n 2, 1) := by decide +kernel
theorem dX6_count_110 : decode cX6_count 110 = .ok (.aload_n 0, 1) := by decide +kernel
theorem dX6_count_111 : decode cX6_count 111 = .ok (.iload_n 3, 1) := by decide +kernel
theorem dX6_count_112 : decode cX6_count 112 = .ok (.invokevirtual 121, 3) := by decide +kernel
theorem dX6_count_115 : decode cX6_count 115 = .ok (.ifCond .eq 7, 3) := by decide +kernel
theorem dX6_count_118 : decode cX6_count 118 = .ok (.iconst 1, 1) := by decide +kernel
theorem dX6_count_119 : decode cX6_count 119 = .ok (.goto 4, 3) := by decide +kernel
theorem dX6_count_122 : decode cX6_count 122 = .ok (.iconst 0, 1) := by decide +kernel
theorem dX6_count_123 : decode cX6_count 123 = .ok (.iadd, 1) := by decide +kernel
theorem dX6_count_124 : decode cX6_count 124 = .ok (.istore_n 2, 1) := by decide +kernel
theorem dX6_count_125 : decode cX6_count 125 = .ok (.iinc 3 1, 3) := by decide +kernel
theorem dX6_count_128 : decode cX6_count 128 = .ok (.goto (-27), 3) := by decide +kernel
theorem dX6_count_131 : decode cX6_count 131 = .ok (.iload_n 2, 1) := by decide +kernel
theorem dX6_count_132 : decode cX6_count 132 = .ok (.ireturn, 1) := by decide +kernel
theorem dX6_count_133 : decode cX6_count 133 = .ok (.iconst 0, 1) := by decide +kernel
theorem dX6_count_134 : decode cX6_count 134 = .ok (.istore_n 3, 1) := by decide +kernel
theorem dX6_count_135 : decode cX6_count 135 = .ok (.iload_n 3, 1) := by decide +kernel
theorem dX6_count_136 : decode cX6_count 136 = .ok (.aload_n 0, 1) := by decide +kernel
theorem dX6_count_137 : decode cX6_count 137 = .ok (.getfield 105, 3) := by decide +kernel
theorem dX6_count_140 : decode cX6_count 140 = .ok (.if_icmp .ge 17, 3) := by decide +kernel
theorem dX6_count_143 : decode cX6_count 143 = .ok (.iload_n 2, 1) := by decide +kernel
theorem dX6_count_144 : decode cX6_count 144 = .ok (.aload_n 0, 1) := by decide +kernel
theorem dX6_count_145 : decode cX6_count 145 = .ok (.iload_n 3, 1) := by decide +kernel
theorem dX6_count_146 : decode cX6_count 146 = .ok (.invokevirtual 118, 3) := by decide +kernel
theorem dX6_count_149 : decode cX6_count 149 = .ok (.iadd, 1) := by decide +kernel
theorem dX6_count_150 : decode cX6_count 150 = .ok (.istore_n 2, 1) := by decide +kernel
theorem dX6_count_151 : decode cX6_count 151 = .ok (.iinc 3 1, 3) := by decide +kernel
theorem dX6_count_154 : decode cX6_count 154 = .ok (.goto (-19), 3) := by decide +kernel
theorem dX6_count_157 : decode cX6_count 157 = .ok (.iload_n 2, 1) := by decide +kernel
theorem dX6_count_158 : decode cX6_count 158 = .ok (.ireturn, 1) := by decide +kernel
theorem dX6_count_159 : decode cX6_count 159 = .ok (.iconst (-1), 1) := by decide +kernel
theorem dX6_count_160 : decode cX6_count 160 = .ok (.ireturn, 1) := by decide +kernel
theorem dJ6_bitCount_0f7a4_0 : decode cJ6_bitCount_0f7a4 0 = .ok (.iload_n 0, 1) := by decide +kernel
theorem dJ6_bitCount_0f7a4_1 : decode cJ6_bitCount_0f7a4 1 = .ok (.iload_n 0, 1) := by decide +kernel
theorem dJ6_bitCount_0f7a4_2 : decode cJ6_bitCount_0f7a4 2 = .ok (.iconst 1, 1) := by decide +kernel
theorem dJ6_bitCount_0f7a4_3 : decode cJ6_bitCount_0f7a4 3 = .ok (.iushr, 1) := by decide +kernel
theorem dJ6_bitCount_0f7a4_4 : decode cJ6_bitCount_0f7a4 4 = .ok (.ldc_w 265, 3) := by decide +kernel
theorem dJ6_bitCount_0f7a4_7 : decode cJ6_bitCount_0f7a4 7 = .ok (.iand, 1) := by decide +kernel
theorem dJ6_bitCount_0f7a4_8 : decode cJ6_bitCount_0f7a4 8 = .ok (.isub, 1) := by decide +kernel
theorem dJ6_bitCount_0f7a4_9 : decode cJ6_bitCount_0f7a4 9 = .ok (.istore_n 0, 1) := by decide +kernel
theorem dJ6_bitCount_0f7a4_10 : decode cJ6_bitCount_0f7a4 10 = .ok (.iload_n 0, 1) := by decide +kernel
theorem dJ6_bitCount_0f7a4_11 : decode cJ6_bitCount_0f7a4 11 = .ok (.ldc_w 266, 3) := by decide +kernel
theorem dJ6_bitCount_0f7a4_14 : decode cJ6_bitCount_0f7a4 14 = .ok (.iand, 1) := by decide +kernel
theorem dJ6_bitCount_0f7a4_15 : decode cJ6_bitCount_0f7a4 15 = .ok (.iload_n 0, 1) := by decide +kernel
theorem dJ6_bitCount_0f7a4_16 : decode cJ6_bitCount_0f7a4 16 = .ok (.iconst 2, 1) := by decide +kernel
theorem dJ6_bitCount_0f7a4_17 : decode cJ6_bitCount_0f7a4 17 = .ok (.iushr, 1) := by decide +kernel
theorem dJ6_bitCount_0f7a4_18 : decode cJ6_bitCount_0f7a4 18 = .ok (.ldc_w 266, 3) := by decide +kernel
theorem dJ6_bitCount_0f7a4_21 : decode cJ6_bitCount_0f7a4 21 = .ok (.iand, 1) := by decide +kernel
theorem dJ6_bitCount_0f7a4_22 : decode cJ6_bitCount_0f7a4 22 = .ok (.iadd, 1) := by decide +kernel
theorem dJ6_bitCount_0f7a4_23 : decode cJ6_bitCount_0f7a4 23 = .ok (.istore_n 0, 1) := by decide +kernel
theorem dJ6_bitCount_0f7a4_24 : decode cJ6_bitCount_0f7a4 24 = .ok (.iload_n 0, 1) := by decide +kernel
theorem dJ6_bitCount_0f7a4_25 : decode cJ6_bitCount_0f7a4 25 = .ok (.iload_n 0, 1) := by decide +kernel
theorem dJ6_bitCount_0f7a4_26 : decode cJ6_bitCount_0f7a4 26 = .ok (.iconst 4, 1) := by decide +kernel
theorem dJ6_bitCount_0f7a4_27 : decode cJ6_bitCount_0f7a4 27 = .ok (.iushr, 1) := by decide +kernel
theorem dJ6_bitCount_0f7a4_28 : decode cJ6_bitCount_0f7a4 28 = .ok (.iadd, 1) := by decide +kernel
theorem dJ6_bitCount_0f7a4_29 : decode cJ6_bitCount_0f7a4 29 = .ok (.ldc_w 267, 3) := by decide +kernel
theorem dJ6_bitCount_0f7a4_32 : decode cJ6_bitCount_0f7a4 32 = .ok (.iand, 1) := by decide +kernel
theorem dJ6_bitCount_0f7a4_33 : decode cJ6_bitCount_0f7a4 33 = .ok (.istore_n 0, 1) := by decide +kernel
theorem dJ6_bitCount_0f7a4_34 : decode cJ6_bitCount_0f7a4 34 = .ok (.iload_n 0, 1) := by decide +kernel
theorem dJ6_bitCount_0f7a4_35 : decode cJ6_bitCount_0f7a4 35 = .ok (.iload_n 0, 1) := by decide +kernel
theorem dJ6_bitCount_0f7a4_36 : decode cJ6_bitCount_0f7a4 36 = .ok (.bipush 8, 2) := by decide +kernel
theorem dJ6_bitCount_0f7a4_38 : decode cJ6_bitCount_0f7a4 38 = .ok (.iushr, 1) := by decide +kernel
theorem dJ6_bitCount_0f7a4_39 : decode cJ6_bitCount_0f7a4 39 = .ok (.iadd, 1) := by decide +kernel
theorem dJ6_bitCount_0f7a4_40 : decode cJ6_bitCount_0f7a4 40 = .ok (.istore_n 0, 1) := by decide +kernel
theorem dJ6_bitCount_0f7a4_41 : decode cJ6_bitCount_0f7a4 41 = .ok (.iload_n 0, 1) := by decide +kernel
theorem dJ6_bitCount_0f7a4_42 : decode cJ6_bitCount_0f7a4 42 = .ok (.iload_n 0, 1) := by decide +kernel
theorem dJ6_bitCount_0f7a4_43 : decode cJ6_bitCount_0f7a4 43 = .ok (.bipush 16, 2) := by decide +kernel
theorem dJ6_bitCount_0f7a4_45 : decode cJ6_bitCount_0f7a4 45 = .ok (.iushr, 1) := by decide +kernel
theorem dJ6_bitCount_0f7a4_46 : decode cJ6_bitCount_0f7a4 46 = .ok (.iadd, 1) := by decide +kernel
theorem dJ6_bitCount_0f7a4_47 : decode cJ6_bitCount_0f7a4 47 = .ok (.istore_n 0, 1) := by decide +kernel
theorem dJ6_bitCount_0f7a4_48 : decode cJ6_bitCount_0f7a4 48 = .ok (.iload_n 0, 1) := by decide +kernel
theorem dJ6_bitCount_0f7a4_49 : decode cJ6_bitCount_0f7a4 49 = .ok (.bipush 63, 2) := by decide +kernel
theorem dJ6_bitCount_0f7a4_51 : decode cJ6_bitCount_0f7a4 51 = .ok (.iand, 1) := by decide +kernel
theorem dJ6_bitCount_0f7a4_52 : decode cJ6_bitCount_0f7a4 52 = .ok (.ireturn, 1) := by decide +kernel
theorem dJ9_min_7cf53_0 : decode cJ9_min_7cf53 0 = .ok (.iload_n 0, 1) := by decide +kernel
theorem dJ9_min_7cf53_1 : decode cJ9_min_7cf53 1 = .ok (.iload_n 1, 1) := by decide +kernel
theorem dJ9_min_7cf53_2 : decode cJ9_min_7cf53 2 = .ok (.if_icmp .gt 7, 3) := by decide +kernel
theorem dJ9_min_7cf53_5 : decode cJ9_min_7cf53 5 = .ok (.iload_n 0, 1) := by decide +kernel
theorem dJ9_min_7cf53_6 : decode cJ9_min_7cf53 6 = .ok (.goto 4, 3) := by decide +kernel
theorem dJ9_min_7cf53_9 : decode cJ9_min_7cf53 9 = .ok (.iload_n 1, 1) := by decide +kernel
theorem dJ9_min_7cf53_10 : decode cJ9_min_7cf53 10 = .ok (.ireturn, 1) := by decide +kernel
theorem dJ7_rangeCheck_23922_0 : decode cJ7_rangeCheck_23922 0 = .ok (.iload_n 1, 1) := by decide +kernel
theorem dJ7_rangeCheck_23922_1 : decode cJ7_rangeCheck_23922 1 = .ok (.iload_n 2, 1) := by decide +kernel
theorem dJ7_rangeCheck_23922_2 : decode cJ7_rangeCheck_23922 2 = .ok (.if_icmp .le 44, 3) := by decide +kernel
theorem dJ7_rangeCheck_23922_5 : decode cJ7_rangeCheck_23922 5 = .ok (.new 43, 3) := by decide +kernel
theorem dJ7_rangeCheck_23922_8 : decode cJ7_rangeCheck_23922 8 = .ok (.dup, 1) := by decide +kernel
theorem dJ7_rangeCheck_23922_9 : decode cJ7_rangeCheck_23922 9 = .ok (.new 45, 3) := by decide +kernel
theorem dJ7_rangeCheck_23922_12 : decode cJ7_rangeCheck_23922 12 = .ok (.dup, 1) := by decide +kernel
theorem dJ7_rangeCheck_23922_13 : decode cJ7_rangeCheck_23922 13 = .ok (.invokespecial 47, 3) := by decide +kernel
theorem dJ7_rangeCheck_23922_16 : decode cJ7_rangeCheck_23922 16 = .ok (.ldc 48, 2) := by decide +kernel
theorem dJ7_rangeCheck_23922_18 : decode cJ7_rangeCheck_23922 18 = .ok (.invokevirtual 50, 3) := by decide +kernel
theorem dJ7_rangeCheck_23922_21 : decode cJ7_rangeCheck_23922 21 = .ok (.iload_n 1, 1) := by decide +kernel
theorem dJ7_rangeCheck_23922_22 : decode cJ7_rangeCheck_23922 22 = .ok (.invokevirtual 54, 3) := by decide +kernel
theorem dJ7_rangeCheck_23922_25 : decode cJ7_rangeCheck_23922 25 = .ok (.ldc 57, 2) := by decide +kernel
theorem dJ7_rangeCheck_23922_27 : decode cJ7_rangeCheck_23922 27 = .ok (.invokevirtual 50, 3) := by decide +kernel
theorem dJ7_rangeCheck_23922_30 : decode cJ7_rangeCheck_23922 30 = .ok (.iload_n 2, 1) := by decide +kernel
theorem dJ7_rangeCheck_23922_31 : decode cJ7_rangeCheck_23922 31 = .ok (.invokevirtual 54, 3) := by decide +kernel
theorem dJ7_rangeCheck_23922_34 : decode cJ7_rangeCheck_23922 34 = .ok (.ldc 59, 2) := by decide +kernel
theorem dJ7_rangeCheck_23922_36 : decode cJ7_rangeCheck_23922 36 = .ok (.invokevirtual 50, 3) := by decide +kernel
theorem dJ7_rangeCheck_23922_39 : decode cJ7_rangeCheck_23922 39 = .ok (.invokevirtual 61, 3) := by decide +kernel
theorem dJ7_rangeCheck_23922_42 : decode cJ7_rangeCheck_23922 42 = .ok (.invokespecial 65, 3) := by decide +kernel
theorem dJ7_rangeCheck_23922_45 : decode cJ7_rangeCheck_23922 45 = .ok (.athrow, 1) := by decide +kernel
theorem dJ7_rangeCheck_23922_46 : decode cJ7_rangeCheck_23922 46 = .ok (.iload_n 1, 1) := by decide +kernel
theorem dJ7_rangeCheck_23922_47 : decode cJ7_rangeCheck_23922 47 = .ok (.ifCond .ge 12, 3) := by decide +kernel
theorem dJ7_rangeCheck_23922_50 : decode cJ7_rangeCheck_23922 50 = .ok (.new 68, 3) := by decide +kernel
theorem dJ7_rangeCheck_23922_53 : decode cJ7_rangeCheck_23922 53 = .ok (.dup, 1) := by decide +kernel
theorem dJ7_rangeCheck_23922_54 : decode cJ7_rangeCheck_23922 54 = .ok (.iload_n 1, 1) := by decide +kernel
theorem dJ7_rangeCheck_23922_55 : decode cJ7_rangeCheck_23922 55 = .ok (.invokespecial 70, 3) := by decide +kernel
theorem dJ7_rangeCheck_23922_58 : decode cJ7_rangeCheck_23922 58 = .ok (.athrow, 1) := by decide +kernel
theorem dJ7_rangeCheck_23922_59 : decode cJ7_rangeCheck_23922 59 = .ok (.iload_n 2, 1) := by decide +kernel
theorem dJ7_rangeCheck_23922_60 : decode cJ7_rangeCheck_23922 60 = .ok (.iload_n 0, 1) := by decide +kernel
theorem dJ7_rangeCheck_23922_61 : decode cJ7_rangeCheck_23922 61 = .ok (.if_icmp .le 12, 3) := by decide +kernel
theorem dJ7_rangeCheck_23922_64 : decode cJ7_rangeCheck_23922 64 = .ok (.new 68, 3) := by decide +kernel
theorem dJ7_rangeCheck_23922_67 : decode cJ7_rangeCheck_23922 67 = .ok (.dup, 1) := by decide +kernel
theorem dJ7_rangeCheck_23922_68 : decode cJ7_rangeCheck_23922 68 = .ok (.iload_n 2, 1) := by decide +kernel
theorem dJ7_rangeCheck_23922_69 : decode cJ7_rangeCheck_23922 69 = .ok (.invokespecial 70, 3) := by decide +kernel
theorem dJ7_rangeCheck_23922_72 : decode cJ7_rangeCheck_23922 72 = .ok (.athrow, 1) := by decide +kernel
theorem dJ7_rangeCheck_23922_73 : decode cJ7_rangeCheck_23922 73 = .ok (.return_, 1) := by decide +kernel
theorem dJ7_fill_d0a16_0 : decode cJ7_fill_d0a16 0 = .ok (.iconst 0, 1) := by decide +kernel
theorem dJ7_fill_d0a16_1 : decode cJ7_fill_d0a16 1 = .ok (.istore_n 3, 1) := by decide +kernel
theorem dJ7_fill_d0a16_2 : decode cJ7_fill_d0a16 2 = .ok (.aload_n 0, 1) := by decide +kernel
theorem dJ7_fill_d0a16_3 : decode cJ7_fill_d0a16 3 = .ok (.arraylength, 1) := by decide +kernel
theorem dJ7_fill_d0a16_4 : decode cJ7_fill_d0a16 4 = .ok (.istore 4, 2) := by decide +kernel
theorem dJ7_fill_d0a16_6 : decode cJ7_fill_d0a16 6 = .ok (.iload_n 3, 1) := by decide +kernel
theorem dJ7_fill_d0a16_7 : decode cJ7_fill_d0a16 7 = .ok (.iload 4, 2) := by decide +kernel
theorem dJ7_fill_d0a16_9 : decode cJ7_fill_d0a16 9 = .ok (.if_icmp .ge 13, 3) := by decide +kernel
theorem dJ7_fill_d0a16_12 : decode cJ7_fill_d0a16 12 = .ok (.aload_n 0, 1) := by decide +kernel
theorem dJ7_fill_d0a16_13 : decode cJ7_fill_d0a16 13 = .ok (.iload_n 3, 1) := by decide +kernel
theorem dJ7_fill_d0a16_14 : decode cJ7_fill_d0a16 14 = .ok (.lload_n 1, 1) := by decide +kernel
theorem dJ7_fill_d0a16_15 : decode cJ7_fill_d0a16 15 = .ok (.lastore, 1) := by decide +kernel
theorem dJ7_fill_d0a16_16 : decode cJ7_fill_d0a16 16 = .ok (.iinc 3 1, 3) := by decide +kernel
theorem dJ7_fill_d0a16_19 : decode cJ7_fill_d0a16 19 = .ok (.goto (-13), 3) := by decide +kernel
theorem dJ7_fill_d0a16_22 : decode cJ7_fill_d0a16 22 = .ok (.return_, 1) := by decide +kernel
set_option maxRecDepth 20000 in
theorem ggJ7_fill_fda19_J7_rangeCheck_23922 : GoodIn wsJ7_fill_fda19 wsJ7_rangeCheck_23922 := goodIn_r _ [4] (by decide +kernel) (by decide +kernel)
set_option maxRecDepth 20000 in
theorem gJ7_fill_fda19_J7_rangeCheck_23922 : GoodIn wsJ7_fill_fda19 (va_wsS RJ7 13 yJ7_rangeCheck_23922 wsJ7_rangeCheck_23922) := goodIn_app (goodIn_of _ (by decide +kernel)) ggJ7_fill_fda19_J7_rangeCheck_23922
theorem dJ7_fill_fda19_0 : decode cJ7_fill_fda19 0 = .ok (.aload_n 0, 1) := by decide +kernel
theorem dJ7_fill_fda19_1 : decode cJ7_fill_fda19 1 = .ok (.arraylength, 1) := by decide +kernel
