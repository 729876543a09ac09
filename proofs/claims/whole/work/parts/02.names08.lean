set_option maxRecDepth 20000 in
theorem gX6_key_X6_isRelay : GoodIn wsX6_key (wsV RX6 111 RX6 yX6_isRelay wsX6_isRelay) := goodIn_app (goodIn_of _ (by decide +kernel)) ggX6_key_X6_isRelay
set_option maxRecDepth 20000 in
theorem ggX6_key_X6_in : GoodIn wsX6_key wsX6_in := goodIn_r _ [12] (by decide +kernel) (by decide +kernel)
set_option maxRecDepth 20000 in
theorem gX6_key_X6_in : GoodIn wsX6_key (va_wsS RX6 97 yX6_in wsX6_in) := goodIn_app (goodIn_of _ (by decide +kernel)) ggX6_key_X6_in
set_option maxRecDepth 20000 in
theorem ggX6_key_X6_work : GoodIn wsX6_key wsX6_work := goodIn_r _ [16, 9, 17, 18, 19, 20, 21, 7, 22, 23, 24, 25, 26, 27, 28, 29, 1, 30, 31, 32, 33, 34, 35, 36, 37, 38, 39, 40, 41, 42, 43, 44, 45, 46, 47, 48, 49, 50, 73, 74, 75, 76, 77, 78, 79, 80, 81, 82, 83, 84, 85, 86, 87, 88, 89, 90, 91, 92, 93, 94, 95, 96, 97, 98, 99, 100, 101, 102, 103] (by decide +kernel) (by decide +kernel)
set_option maxRecDepth 20000 in
theorem gX6_key_X6_work : GoodIn wsX6_key (wsV RX6 140 RX6 yX6_work wsX6_work) := goodIn_app (goodIn_of _ (by decide +kernel)) ggX6_key_X6_work
set_option maxRecDepth 20000 in
theorem ggX6_key_X6_study : GoodIn wsX6_key wsX6_study := goodIn_r _ [54, 2, 17, 39, 3, 1, 24, 55, 56, 57, 58, 7, 59, 60, 61, 62, 63, 64, 65, 48, 49, 50, 66, 67, 68, 73, 74, 75, 76, 77, 78, 79, 80, 81, 82, 83, 84, 85, 86, 87, 88, 89, 90, 91, 92, 93, 94, 95, 96, 97, 98, 99, 100, 101, 102, 103] (by decide +kernel) (by decide +kernel)
set_option maxRecDepth 20000 in
theorem gX6_key_X6_study : GoodIn wsX6_key (wsV RX6 153 RX6 yX6_study wsX6_study) := goodIn_app (goodIn_of _ (by decide +kernel)) ggX6_key_X6_study
set_option maxRecDepth 20000 in
theorem ggX6_key_X6_solvesFor : GoodIn wsX6_key wsX6_solvesFor := goodIn_r _ [72, 3, 1, 62, 63, 64, 7, 65, 2, 61, 60, 48, 49, 50, 73, 74, 75, 76, 77, 78, 79, 80, 81, 82, 83, 84, 85, 86, 87, 88, 89, 90, 91, 92, 93, 94, 95, 96, 97, 98, 99, 100, 101, 102, 103] (by decide +kernel) (by decide +kernel)
set_option maxRecDepth 20000 in
theorem gX6_key_X6_solvesFor : GoodIn wsX6_key (wsV RX6 159 RX6 yX6_solvesFor wsX6_solvesFor) := goodIn_app (goodIn_of _ (by decide +kernel)) ggX6_key_X6_solvesFor
theorem dX6_key_0 : decode cX6_key 0 = .ok (.aload_n 0, 1) := by decide +kernel
theorem dX6_key_1 : decode cX6_key 1 = .ok (.iload_n 1, 1) := by decide +kernel
theorem dX6_key_2 : decode cX6_key 2 = .ok (.invokevirtual 111, 3) := by decide +kernel
theorem dX6_key_5 : decode cX6_key 5 = .ok (.ifCond .eq 21, 3) := by decide +kernel
theorem dX6_key_8 : decode cX6_key 8 = .ok (.iload_n 2, 1) := by decide +kernel
theorem dX6_key_9 : decode cX6_key 9 = .ok (.iconst 0, 1) := by decide +kernel
theorem dX6_key_10 : decode cX6_key 10 = .ok (.aload_n 0, 1) := by decide +kernel
theorem dX6_key_11 : decode cX6_key 11 = .ok (.getfield 13, 3) := by decide +kernel
theorem dX6_key_14 : decode cX6_key 14 = .ok (.iconst 1, 1) := by decide +kernel
theorem dX6_key_15 : decode cX6_key 15 = .ok (.isub, 1) := by decide +kernel
theorem dX6_key_16 : decode cX6_key 16 = .ok (.invokestatic 97, 3) := by decide +kernel
theorem dX6_key_19 : decode cX6_key 19 = .ok (.ifCond .eq 7, 3) := by decide +kernel
theorem dX6_key_22 : decode cX6_key 22 = .ok (.iload_n 3, 1) := by decide +kernel
theorem dX6_key_23 : decode cX6_key 23 = .ok (.ifCond .ge 5, 3) := by decide +kernel
theorem dX6_key_26 : decode cX6_key 26 = .ok (.iconst (-1), 1) := by decide +kernel
theorem dX6_key_27 : decode cX6_key 27 = .ok (.ireturn, 1) := by decide +kernel
theorem dX6_key_28 : decode cX6_key 28 = .ok (.iload_n 1, 1) := by decide +kernel
theorem dX6_key_29 : decode cX6_key 29 = .ok (.ifCond .ne 6, 3) := by decide +kernel
theorem dX6_key_32 : decode cX6_key 32 = .ok (.bipush (-2), 2) := by decide +kernel
theorem dX6_key_34 : decode cX6_key 34 = .ok (.ireturn, 1) := by decide +kernel
theorem dX6_key_35 : decode cX6_key 35 = .ok (.aload_n 0, 1) := by decide +kernel
theorem dX6_key_36 : decode cX6_key 36 = .ok (.invokevirtual 140, 3) := by decide +kernel
theorem dX6_key_39 : decode cX6_key 39 = .ok (.aload_n 0, 1) := by decide +kernel
theorem dX6_key_40 : decode cX6_key 40 = .ok (.iload_n 1, 1) := by decide +kernel
theorem dX6_key_41 : decode cX6_key 41 = .ok (.invokevirtual 153, 3) := by decide +kernel
theorem dX6_key_44 : decode cX6_key 44 = .ok (.aload_n 0, 1) := by decide +kernel
theorem dX6_key_45 : decode cX6_key 45 = .ok (.iload_n 2, 1) := by decide +kernel
theorem dX6_key_46 : decode cX6_key 46 = .ok (.invokevirtual 159, 3) := by decide +kernel
theorem dX6_key_49 : decode cX6_key 49 = .ok (.ifCond .eq 22, 3) := by decide +kernel
theorem dX6_key_52 : decode cX6_key 52 = .ok (.iload_n 3, 1) := by decide +kernel
theorem dX6_key_53 : decode cX6_key 53 = .ok (.aload_n 0, 1) := by decide +kernel
theorem dX6_key_54 : decode cX6_key 54 = .ok (.getfield 143, 3) := by decide +kernel
theorem dX6_key_57 : decode cX6_key 57 = .ok (.if_icmp .ge 14, 3) := by decide +kernel
theorem dX6_key_60 : decode cX6_key 60 = .ok (.aload_n 0, 1) := by decide +kernel
theorem dX6_key_61 : decode cX6_key 61 = .ok (.getfield 73, 3) := by decide +kernel
theorem dX6_key_64 : decode cX6_key 64 = .ok (.iconst 4, 1) := by decide +kernel
theorem dX6_key_65 : decode cX6_key 65 = .ok (.iload_n 3, 1) := by decide +kernel
theorem dX6_key_66 : decode cX6_key 66 = .ok (.iadd, 1) := by decide +kernel
theorem dX6_key_67 : decode cX6_key 67 = .ok (.iaload, 1) := by decide +kernel
theorem dX6_key_68 : decode cX6_key 68 = .ok (.goto 4, 3) := by decide +kernel
theorem dX6_key_71 : decode cX6_key 71 = .ok (.iconst (-1), 1) := by decide +kernel
theorem dX6_key_72 : decode cX6_key 72 = .ok (.ireturn, 1) := by decide +kernel
set_option maxRecDepth 20000 in
theorem ggX6_getsOf_X6_solvesFor : GoodIn wsX6_getsOf wsX6_solvesFor := goodIn_r _ [9, 2, 10, 11, 12, 13, 8, 14, 1, 15, 16, 17, 18, 19, 24, 25, 26, 27, 28, 29, 30, 31, 32, 33, 34, 35, 36, 37, 38, 39, 40, 41, 42, 43, 44, 45, 46, 47, 48, 49, 50, 51, 52, 53, 54] (by decide +kernel) (by decide +kernel)
set_option maxRecDepth 20000 in
theorem gX6_getsOf_X6_solvesFor : GoodIn wsX6_getsOf (wsV RX6 159 RX6 yX6_solvesFor wsX6_solvesFor) := goodIn_app (goodIn_of _ (by decide +kernel)) ggX6_getsOf_X6_solvesFor
set_option maxRecDepth 20000 in
theorem ggX6_getsOf_X6_product_ : GoodIn wsX6_getsOf wsX6_product_ := goodIn_r _ [22, 23, 17, 18, 8, 19] (by decide +kernel) (by decide +kernel)
set_option maxRecDepth 20000 in
theorem gX6_getsOf_X6_product_ : GoodIn wsX6_getsOf (va_wsS RX6 137 yX6_product_ wsX6_product_) := goodIn_app (goodIn_of _ (by decide +kernel)) ggX6_getsOf_X6_product_
theorem dX6_getsOf_0 : decode cX6_getsOf 0 = .ok (.lconst 0, 1) := by decide +kernel
theorem dX6_getsOf_1 : decode cX6_getsOf 1 = .ok (.lstore_n 2, 1) := by decide +kernel
theorem dX6_getsOf_2 : decode cX6_getsOf 2 = .ok (.aload_n 0, 1) := by decide +kernel
theorem dX6_getsOf_3 : decode cX6_getsOf 3 = .ok (.iload_n 1, 1) := by decide +kernel
theorem dX6_getsOf_4 : decode cX6_getsOf 4 = .ok (.invokevirtual 159, 3) := by decide +kernel
theorem dX6_getsOf_7 : decode cX6_getsOf 7 = .ok (.ifCond .ne 5, 3) := by decide +kernel
theorem dX6_getsOf_10 : decode cX6_getsOf 10 = .ok (.lconst 0, 1) := by decide +kernel
theorem dX6_getsOf_11 : decode cX6_getsOf 11 = .ok (.lreturn, 1) := by decide +kernel
theorem dX6_getsOf_12 : decode cX6_getsOf 12 = .ok (.iconst 0, 1) := by decide +kernel
theorem dX6_getsOf_13 : decode cX6_getsOf 13 = .ok (.istore 4, 2) := by decide +kernel
theorem dX6_getsOf_15 : decode cX6_getsOf 15 = .ok (.iload 4, 2) := by decide +kernel
theorem dX6_getsOf_17 : decode cX6_getsOf 17 = .ok (.aload_n 0, 1) := by decide +kernel
theorem dX6_getsOf_18 : decode cX6_getsOf 18 = .ok (.getfield 143, 3) := by decide +kernel
theorem dX6_getsOf_21 : decode cX6_getsOf 21 = .ok (.if_icmp .ge 36, 3) := by decide +kernel
theorem dX6_getsOf_24 : decode cX6_getsOf 24 = .ok (.lload_n 2, 1) := by decide +kernel
theorem dX6_getsOf_25 : decode cX6_getsOf 25 = .ok (.aload_n 0, 1) := by decide +kernel
theorem dX6_getsOf_26 : decode cX6_getsOf 26 = .ok (.getfield 73, 3) := by decide +kernel
theorem dX6_getsOf_29 : decode cX6_getsOf 29 = .ok (.iconst 4, 1) := by decide +kernel
theorem dX6_getsOf_30 : decode cX6_getsOf 30 = .ok (.iload 4, 2) := by decide +kernel
theorem dX6_getsOf_32 : decode cX6_getsOf 32 = .ok (.iadd, 1) := by decide +kernel
theorem dX6_getsOf_33 : decode cX6_getsOf 33 = .ok (.iaload, 1) := by decide +kernel
theorem dX6_getsOf_34 : decode cX6_getsOf 34 = .ok (.aload_n 0, 1) := by decide +kernel
theorem dX6_getsOf_35 : decode cX6_getsOf 35 = .ok (.getfield 55, 3) := by decide +kernel
theorem dX6_getsOf_38 : decode cX6_getsOf 38 = .ok (.aload_n 0, 1) := by decide +kernel
theorem dX6_getsOf_39 : decode cX6_getsOf 39 = .ok (.getfield 70, 3) := by decide +kernel
theorem dX6_getsOf_42 : decode cX6_getsOf 42 = .ok (.iload 4, 2) := by decide +kernel
theorem dX6_getsOf_44 : decode cX6_getsOf 44 = .ok (.iaload, 1) := by decide +kernel
theorem dX6_getsOf_45 : decode cX6_getsOf 45 = .ok (.laload, 1) := by decide +kernel
theorem dX6_getsOf_46 : decode cX6_getsOf 46 = .ok (.invokestatic 137, 3) := by decide +kernel
theorem dX6_getsOf_49 : decode cX6_getsOf 49 = .ok (.lxor, 1) := by decide +kernel
theorem dX6_getsOf_50 : decode cX6_getsOf 50 = .ok (.lstore_n 2, 1) := by decide +kernel
theorem dX6_getsOf_51 : decode cX6_getsOf 51 = .ok (.iinc 4 1, 3) := by decide +kernel
theorem dX6_getsOf_54 : decode cX6_getsOf 54 = .ok (.goto (-39), 3) := by decide +kernel
theorem dX6_getsOf_57 : decode cX6_getsOf 57 = .ok (.lload_n 2, 1) := by decide +kernel
theorem dX6_getsOf_58 : decode cX6_getsOf 58 = .ok (.lreturn, 1) := by decide +kernel
set_option maxRecDepth 20000 in
theorem ggX6_gets_X6_isRelay : GoodIn wsX6_gets wsX6_isRelay := goodIn_r _ [6, 7, 8, 9, 5, 10, 77, 78, 79, 80, 81, 82, 83, 84, 85, 86, 87, 88, 89, 90, 91, 92, 93, 94, 95, 96, 97, 98, 99, 100, 101, 102, 103, 104, 105, 106, 107] (by decide +kernel) (by decide +kernel)
set_option maxRecDepth 20000 in
theorem gX6_gets_X6_isRelay : GoodIn wsX6_gets (wsV RX6 111 RX6 yX6_isRelay wsX6_isRelay) := goodIn_app (goodIn_of _ (by decide +kernel)) ggX6_gets_X6_isRelay
set_option maxRecDepth 20000 in
theorem ggX6_gets_X6_in : GoodIn wsX6_gets wsX6_in := goodIn_r _ [10] (by decide +kernel) (by decide +kernel)
set_option maxRecDepth 20000 in
theorem gX6_gets_X6_in : GoodIn wsX6_gets (va_wsS RX6 97 yX6_in wsX6_in) := goodIn_app (goodIn_of _ (by decide +kernel)) ggX6_gets_X6_in
set_option maxRecDepth 20000 in
theorem ggX6_gets_X6_work : GoodIn wsX6_gets wsX6_work := goodIn_r _ [14, 7, 15, 16, 17, 18, 19, 5, 20, 21, 22, 23, 24, 25, 26, 27, 1, 28, 29, 30, 31, 32, 33, 34, 35, 36, 37, 38, 39, 40, 41, 42, 43, 44, 45, 46, 47, 48, 77, 78, 79, 80, 81, 82, 83, 84, 85, 86, 87, 88, 89, 90, 91, 92, 93, 94, 95, 96, 97, 98, 99, 100, 101, 102, 103, 104, 105, 106, 107] (by decide +kernel) (by decide +kernel)
set_option maxRecDepth 20000 in
theorem gX6_gets_X6_work : GoodIn wsX6_gets (wsV RX6 140 RX6 yX6_work wsX6_work) := goodIn_app (goodIn_of _ (by decide +kernel)) ggX6_gets_X6_work
set_option maxRecDepth 20000 in
theorem ggX6_gets_X6_study : GoodIn wsX6_gets wsX6_study := goodIn_r _ [52, 53, 15, 37, 54, 1, 22, 55, 56, 57, 58, 5, 59, 60, 61, 62, 63, 64, 65, 46, 47, 48, 66, 67, 68, 77, 78, 79, 80, 81, 82, 83, 84, 85, 86, 87, 88, 89, 90, 91, 92, 93, 94, 95, 96, 97, 98, 99, 100, 101, 102, 103, 104, 105, 106, 107] (by decide +kernel) (by decide +kernel)
set_option maxRecDepth 20000 in
theorem gX6_gets_X6_study : GoodIn wsX6_gets (wsV RX6 153 RX6 yX6_study wsX6_study) := goodIn_app (goodIn_of _ (by decide +kernel)) ggX6_gets_X6_study
set_option maxRecDepth 20000 in
theorem ggX6_gets_X6_getsOf : GoodIn wsX6_gets wsX6_getsOf := goodIn_r _ [72, 53, 54, 21, 55, 73, 74, 75, 5, 76, 1, 62, 63, 64, 65, 61, 60, 46, 47, 48, 42, 43, 44, 45, 77, 78, 79, 80, 81, 82, 83, 84, 85, 86, 87, 88, 89, 90, 91, 92, 93, 94, 95, 96, 97, 98, 99, 100, 101, 102, 103, 104, 105, 106, 107] (by decide +kernel) (by decide +kernel)
set_option maxRecDepth 20000 in
theorem gX6_gets_X6_getsOf : GoodIn wsX6_gets (wsV RX6 162 RX6 yX6_getsOf wsX6_getsOf) := goodIn_app (goodIn_of _ (by decide +kernel)) ggX6_gets_X6_getsOf
theorem dX6_gets_0 : decode cX6_gets 0 = .ok (.aload_n 0, 1) := by decide +kernel
theorem dX6_gets_1 : decode cX6_gets 1 = .ok (.iload_n 1, 1) := by decide +kernel
theorem dX6_gets_2 : decode cX6_gets 2 = .ok (.invokevirtual 111, 3) := by decide +kernel
theorem dX6_gets_5 : decode cX6_gets 5 = .ok (.ifCond .eq 21, 3) := by decide +kernel
theorem dX6_gets_8 : decode cX6_gets 8 = .ok (.iload_n 1, 1) := by decide +kernel
theorem dX6_gets_9 : decode cX6_gets 9 = .ok (.ifCond .eq 17, 3) := by decide +kernel
theorem dX6_gets_12 : decode cX6_gets 12 = .ok (.iload_n 2, 1) := by decide +kernel
theorem dX6_gets_13 : decode cX6_gets 13 = .ok (.iconst 0, 1) := by decide +kernel
theorem dX6_gets_14 : decode cX6_gets 14 = .ok (.aload_n 0, 1) := by decide +kernel
theorem dX6_gets_15 : decode cX6_gets 15 = .ok (.getfield 13, 3) := by decide +kernel
theorem dX6_gets_18 : decode cX6_gets 18 = .ok (.iconst 1, 1) := by decide +kernel
theorem dX6_gets_19 : decode cX6_gets 19 = .ok (.isub, 1) := by decide +kernel
theorem dX6_gets_20 : decode cX6_gets 20 = .ok (.invokestatic 97, 3) := by decide +kernel
theorem dX6_gets_23 : decode cX6_gets 23 = .ok (.ifCond .ne 5, 3) := by decide +kernel
theorem dX6_gets_26 : decode cX6_gets 26 = .ok (.lconst 0, 1) := by decide +kernel
theorem dX6_gets_27 : decode cX6_gets 27 = .ok (.lreturn, 1) := by decide +kernel
theorem dX6_gets_28 : decode cX6_gets 28 = .ok (.aload_n 0, 1) := by decide +kernel
theorem dX6_gets_29 : decode cX6_gets 29 = .ok (.invokevirtual 140, 3) := by decide +kernel
theorem dX6_gets_32 : decode cX6_gets 32 = .ok (.aload_n 0, 1) := by decide +kernel
theorem dX6_gets_33 : decode cX6_gets 33 = .ok (.iload_n 1, 1) := by decide +kernel
theorem dX6_gets_34 : decode cX6_gets 34 = .ok (.invokevirtual 153, 3) := by decide +kernel
theorem dX6_gets_37 : decode cX6_gets 37 = .ok (.aload_n 0, 1) := by decide +kernel
theorem dX6_gets_38 : decode cX6_gets 38 = .ok (.iload_n 2, 1) := by decide +kernel
theorem dX6_gets_39 : decode cX6_gets 39 = .ok (.invokevirtual 162, 3) := by decide +kernel
theorem dX6_gets_42 : decode cX6_gets 42 = .ok (.lreturn, 1) := by decide +kernel
set_option maxRecDepth 20000 in
theorem ggX6_goes_X6_product : GoodIn wsX6_goes wsX6_product := goodIn_r _ [9] (by decide +kernel) (by decide +kernel)
set_option maxRecDepth 20000 in
theorem gX6_goes_X6_product : GoodIn wsX6_goes (va_wsS RX6 91 yX6_product wsX6_product) := goodIn_app (goodIn_of _ (by decide +kernel)) ggX6_goes_X6_product
set_option maxRecDepth 20000 in
theorem ggX6_goes_X6_isSolvable : GoodIn wsX6_goes wsX6_isSolvable := goodIn_r _ [13, 3, 2, 14, 15, 8, 16, 6, 7, 9, 17, 18, 19, 20, 21, 22, 23, 24, 25, 26, 27, 28, 29, 30, 31, 32, 33, 34, 35, 36, 37, 38, 39, 40, 41, 42, 43, 44, 45, 46, 47] (by decide +kernel) (by decide +kernel)
set_option maxRecDepth 20000 in
theorem gX6_goes_X6_isSolvable : GoodIn wsX6_goes (wsV RX6 166 RX6 yX6_isSolvable wsX6_isSolvable) := goodIn_app (goodIn_of _ (by decide +kernel)) ggX6_goes_X6_isSolvable
theorem dX6_goes_0 : decode cX6_goes 0 = .ok (.iconst 0, 1) := by decide +kernel
theorem dX6_goes_1 : decode cX6_goes 1 = .ok (.istore_n 3, 1) := by decide +kernel
theorem dX6_goes_2 : decode cX6_goes 2 = .ok (.iconst 0, 1) := by decide +kernel
theorem dX6_goes_3 : decode cX6_goes 3 = .ok (.istore 4, 2) := by decide +kernel
theorem dX6_goes_5 : decode cX6_goes 5 = .ok (.iload 4, 2) := by decide +kernel
theorem dX6_goes_7 : decode cX6_goes 7 = .ok (.aload_n 0, 1) := by decide +kernel
theorem dX6_goes_8 : decode cX6_goes 8 = .ok (.getfield 143, 3) := by decide +kernel
theorem dX6_goes_11 : decode cX6_goes 11 = .ok (.if_icmp .ge 142, 3) := by decide +kernel
theorem dX6_goes_14 : decode cX6_goes 14 = .ok (.iconst 0, 1) := by decide +kernel
theorem dX6_goes_15 : decode cX6_goes 15 = .ok (.istore 5, 2) := by decide +kernel
theorem dX6_goes_17 : decode cX6_goes 17 = .ok (.iload 5, 2) := by decide +kernel
theorem dX6_goes_19 : decode cX6_goes 19 = .ok (.iconst 5, 1) := by decide +kernel
theorem dX6_goes_20 : decode cX6_goes 20 = .ok (.if_icmp .ge 21, 3) := by decide +kernel
theorem dX6_goes_23 : decode cX6_goes 23 = .ok (.aload_n 0, 1) := by decide +kernel
theorem dX6_goes_24 : decode cX6_goes 24 = .ok (.getfield 79, 3) := by decide +kernel
theorem dX6_goes_27 : decode cX6_goes 27 = .ok (.iconst 5, 1) := by decide +kernel
theorem dX6_goes_28 : decode cX6_goes 28 = .ok (.iload_n 3, 1) := by decide +kernel
theorem dX6_goes_29 : decode cX6_goes 29 = .ok (.imul, 1) := by decide +kernel
theorem dX6_goes_30 : decode cX6_goes 30 = .ok (.iload 5, 2) := by decide +kernel
theorem dX6_goes_32 : decode cX6_goes 32 = .ok (.iadd, 1) := by decide +kernel
theorem dX6_goes_33 : decode cX6_goes 33 = .ok (.iconst 0, 1) := by decide +kernel
theorem dX6_goes_34 : decode cX6_goes 34 = .ok (.iastore, 1) := by decide +kernel
theorem dX6_goes_35 : decode cX6_goes 35 = .ok (.iinc 5 1, 3) := by decide +kernel
theorem dX6_goes_38 : decode cX6_goes 38 = .ok (.goto (-21), 3) := by decide +kernel
theorem dX6_goes_41 : decode cX6_goes 41 = .ok (.iconst 0, 1) := by decide +kernel
theorem dX6_goes_42 : decode cX6_goes 42 = .ok (.istore 5, 2) := by decide +kernel
theorem dX6_goes_44 : decode cX6_goes 44 = .ok (.iload 5, 2) := by decide +kernel
theorem dX6_goes_46 : decode cX6_goes 46 = .ok (.aload_n 0, 1) := by decide +kernel
theorem dX6_goes_47 : decode cX6_goes 47 = .ok (.getfield 13, 3) := by decide +kernel
theorem dX6_goes_50 : decode cX6_goes 50 = .ok (.if_icmp .ge 94, 3) := by decide +kernel
theorem dX6_goes_53 : decode cX6_goes 53 = .ok (.iload 5, 2) := by decide +kernel
theorem dX6_goes_55 : decode cX6_goes 55 = .ok (.iload_n 1, 1) := by decide +kernel
theorem dX6_goes_56 : decode cX6_goes 56 = .ok (.if_icmp .lt 9, 3) := by decide +kernel
theorem dX6_goes_59 : decode cX6_goes 59 = .ok (.iload 5, 2) := by decide +kernel
theorem dX6_goes_61 : decode cX6_goes 61 = .ok (.iload_n 2, 1) := by decide +kernel
theorem dX6_goes_62 : decode cX6_goes 62 = .ok (.if_icmp .ne 52, 3) := by decide +kernel
theorem dX6_goes_65 : decode cX6_goes 65 = .ok (.aload_n 0, 1) := by decide +kernel
theorem dX6_goes_66 : decode cX6_goes 66 = .ok (.getfield 79, 3) := by decide +kernel
theorem dX6_goes_69 : decode cX6_goes 69 = .ok (.iconst 5, 1) := by decide +kernel
theorem dX6_goes_70 : decode cX6_goes 70 = .ok (.iload_n 3, 1) := by decide +kernel
theorem dX6_goes_71 : decode cX6_goes 71 = .ok (.imul, 1) := by decide +kernel
theorem dX6_goes_72 : decode cX6_goes 72 = .ok (.iconst 4, 1) := by decide +kernel
theorem dX6_goes_73 : decode cX6_goes 73 = .ok (.iadd, 1) := by decide +kernel
theorem dX6_goes_74 : decode cX6_goes 74 = .ok (.dup2, 1) := by decide +kernel
theorem dX6_goes_75 : decode cX6_goes 75 = .ok (.iaload, 1) := by decide +kernel
theorem dX6_goes_76 : decode cX6_goes 76 = .ok (.aload_n 0, 1) := by decide +kernel
theorem dX6_goes_77 : decode cX6_goes 77 = .ok (.getfield 64, 3) := by decide +kernel
theorem dX6_goes_80 : decode cX6_goes 80 = .ok (.bipush 9, 2) := by decide +kernel
theorem dX6_goes_82 : decode cX6_goes 82 = .ok (.iload 4, 2) := by decide +kernel
theorem dX6_goes_84 : decode cX6_goes 84 = .ok (.imul, 1) := by decide +kernel
theorem dX6_goes_85 : decode cX6_goes 85 = .ok (.iload 5, 2) := by decide +kernel
theorem dX6_goes_87 : decode cX6_goes 87 = .ok (.iadd, 1) := by decide +kernel
theorem dX6_goes_88 : decode cX6_goes 88 = .ok (.iaload, 1) := by decide +kernel
theorem dX6_goes_89 : decode cX6_goes 89 = .ok (.iload 5, 2) := by decide +kernel
theorem dX6_goes_91 : decode cX6_goes 91 = .ok (.iload_n 2, 1) := by decide +kernel
theorem dX6_goes_92 : decode cX6_goes 92 = .ok (.if_icmp .ne 7, 3) := by decide +kernel
theorem dX6_goes_95 : decode cX6_goes 95 = .ok (.iconst 1, 1) := by decide +kernel
theorem dX6_goes_96 : decode cX6_goes 96 = .ok (.goto 10, 3) := by decide +kernel
theorem dX6_goes_99 : decode cX6_goes 99 = .ok (.aload_n 0, 1) := by decide +kernel
theorem dX6_goes_100 : decode cX6_goes 100 = .ok (.getfield 76, 3) := by decide +kernel
theorem dX6_goes_103 : decode cX6_goes 103 = .ok (.iload 5, 2) := by decide +kernel
theorem dX6_goes_105 : decode cX6_goes 105 = .ok (.iaload, 1) := by decide +kernel
theorem dX6_goes_106 : decode cX6_goes 106 = .ok (.invokestatic 91, 3) := by decide +kernel
theorem dX6_goes_109 : decode cX6_goes 109 = .ok (.ixor, 1) := by decide +kernel
theorem dX6_goes_110 : decode cX6_goes 110 = .ok (.iastore, 1) := by decide +kernel
theorem dX6_goes_111 : decode cX6_goes 111 = .ok (.goto 27, 3) := by decide +kernel
theorem dX6_goes_114 : decode cX6_goes 114 = .ok (.aload_n 0, 1) := by decide +kernel
theorem dX6_goes_115 : decode cX6_goes 115 = .ok (.getfield 79, 3) := by decide +kernel
theorem dX6_goes_118 : decode cX6_goes 118 = .ok (.iconst 5, 1) := by decide +kernel
theorem dX6_goes_119 : decode cX6_goes 119 = .ok (.iload_n 3, 1) := by decide +kernel
theorem dX6_goes_120 : decode cX6_goes 120 = .ok (.imul, 1) := by decide +kernel
theorem dX6_goes_121 : decode cX6_goes 121 = .ok (.iload 5, 2) := by decide +kernel
theorem dX6_goes_123 : decode cX6_goes 123 = .ok (.iadd, 1) := by decide +kernel
theorem dX6_goes_124 : decode cX6_goes 124 = .ok (.aload_n 0, 1) := by decide +kernel
theorem dX6_goes_125 : decode cX6_goes 125 = .ok (.getfield 64, 3) := by decide +kernel
theorem dX6_goes_128 : decode cX6_goes 128 = .ok (.bipush 9, 2) := by decide +kernel
theorem dX6_goes_130 : decode cX6_goes 130 = .ok (.iload 4, 2) := by decide +kernel
theorem dX6_goes_132 : decode cX6_goes 132 = .ok (.imul, 1) := by decide +kernel
theorem dX6_goes_133 : decode cX6_goes 133 = .ok (.iload 5, 2) := by decide +kernel
theorem dX6_goes_135 : decode cX6_goes 135 = .ok (.iadd, 1) := by decide +kernel
theorem dX6_goes_136 : decode cX6_goes 136 = .ok (.iaload, 1) := by decide +kernel
theorem dX6_goes_137 : decode cX6_goes 137 = .ok (.iastore, 1) := by decide +kernel
theorem dX6_goes_138 : decode cX6_goes 138 = .ok (.iinc 5 1, 3) := by decide +kernel
theorem dX6_goes_141 : decode cX6_goes 141 = .ok (.goto (-97), 3) := by decide +kernel
theorem dX6_goes_144 : decode cX6_goes 144 = .ok (.iinc 3 1, 3) := by decide +kernel
theorem dX6_goes_147 : decode cX6_goes 147 = .ok (.iinc 4 1, 3) := by decide +kernel
theorem dX6_goes_150 : decode cX6_goes 150 = .ok (.goto (-145), 3) := by decide +kernel
theorem dX6_goes_153 : decode cX6_goes 153 = .ok (.aload_n 0, 1) := by decide +kernel
theorem dX6_goes_154 : decode cX6_goes 154 = .ok (.iload_n 3, 1) := by decide +kernel
theorem dX6_goes_155 : decode cX6_goes 155 = .ok (.invokevirtual 166, 3) := by decide +kernel
theorem dX6_goes_158 : decode cX6_goes 158 = .ok (.ireturn, 1) := by decide +kernel
set_option maxRecDepth 20000 in
theorem ggX6_isSolvable_X6_inverseOf : GoodIn wsX6_isSolvable wsX6_inverseOf := goodIn_r _ [6, 7, 8, 5, 9] (by decide +kernel) (by decide +kernel)
set_option maxRecDepth 20000 in
theorem gX6_isSolvable_X6_inverseOf : GoodIn wsX6_isSolvable (va_wsS RX6 101 yX6_inverseOf wsX6_inverseOf) := goodIn_app (goodIn_of _ (by decide +kernel)) ggX6_isSolvable_X6_inverseOf
set_option maxRecDepth 20000 in
theorem ggX6_isSolvable_X6_product : GoodIn wsX6_isSolvable wsX6_product := goodIn_r _ [9] (by decide +kernel) (by decide +kernel)
set_option maxRecDepth 20000 in
theorem gX6_isSolvable_X6_product : GoodIn wsX6_isSolvable (va_wsS RX6 91 yX6_product wsX6_product) := goodIn_app (goodIn_of _ (by decide +kernel)) ggX6_isSolvable_X6_product
theorem dX6_isSolvable_0 : decode cX6_isSolvable 0 = .ok (.iconst 0, 1) := by decide +kernel
theorem dX6_isSolvable_1 : decode cX6_isSolvable 1 = .ok (.istore_n 2, 1) := by decide +kernel
theorem dX6_isSolvable_2 : decode cX6_isSolvable 2 = .ok (.iconst 0, 1) := by decide +kernel
theorem dX6_isSolvable_3 : decode cX6_isSolvable 3 = .ok (.istore_n 3, 1) := by decide +kernel
theorem dX6_isSolvable_4 : decode cX6_isSolvable 4 = .ok (.iload_n 3, 1) := by decide +kernel
theorem dX6_isSolvable_5 : decode cX6_isSolvable 5 = .ok (.aload_n 0, 1) := by decide +kernel
theorem dX6_isSolvable_6 : decode cX6_isSolvable 6 = .ok (.getfield 13, 3) := by decide +kernel
theorem dX6_isSolvable_9 : decode cX6_isSolvable 9 = .ok (.if_icmp .ge 216, 3) := by decide +kernel
theorem dX6_isSolvable_12 : decode cX6_isSolvable 12 = .ok (.iload_n 2, 1) := by decide +kernel
theorem dX6_isSolvable_13 : decode cX6_isSolvable 13 = .ok (.istore 4, 2) := by decide +kernel
theorem dX6_isSolvable_15 : decode cX6_isSolvable 15 = .ok (.iload 4, 2) := by decide +kernel
theorem dX6_isSolvable_17 : decode cX6_isSolvable 17 = .ok (.iload_n 1, 1) := by decide +kernel
theorem dX6_isSolvable_18 : decode cX6_isSolvable 18 = .ok (.if_icmp .ge 23, 3) := by decide +kernel
theorem dX6_isSolvable_21 : decode cX6_isSolvable 21 = .ok (.aload_n 0, 1) := by decide +kernel
theorem dX6_isSolvable_22 : decode cX6_isSolvable 22 = .ok (.getfield 79, 3) := by decide +kernel
theorem dX6_isSolvable_25 : decode cX6_isSolvable 25 = .ok (.iconst 5, 1) := by decide +kernel
theorem dX6_isSolvable_26 : decode cX6_isSolvable 26 = .ok (.iload 4, 2) := by decide +kernel
theorem dX6_isSolvable_28 : decode cX6_isSolvable 28 = .ok (.imul, 1) := by decide +kernel
theorem dX6_isSolvable_29 : decode cX6_isSolvable 29 = .ok (.iload_n 3, 1) := by decide +kernel
theorem dX6_isSolvable_30 : decode cX6_isSolvable 30 = .ok (.iadd, 1) := by decide +kernel
theorem dX6_isSolvable_31 : decode cX6_isSolvable 31 = .ok (.iaload, 1) := by decide +kernel
theorem dX6_isSolvable_32 : decode cX6_isSolvable 32 = .ok (.ifCond .ne 9, 3) := by decide +kernel
theorem dX6_isSolvable_35 : decode cX6_isSolvable 35 = .ok (.iinc 4 1, 3) := by decide +kernel
theorem dX6_isSolvable_38 : decode cX6_isSolvable 38 = .ok (.goto (-23), 3) := by decide +kernel
theorem dX6_isSolvable_41 : decode cX6_isSolvable 41 = .ok (.iload 4, 2) := by decide +kernel
theorem dX6_isSolvable_43 : decode cX6_isSolvable 43 = .ok (.iload_n 1, 1) := by decide +kernel
theorem dX6_isSolvable_44 : decode cX6_isSolvable 44 = .ok (.if_icmp .ne 6, 3) := by decide +kernel
theorem dX6_isSolvable_47 : decode cX6_isSolvable 47 = .ok (.goto 172, 3) := by decide +kernel
theorem dX6_isSolvable_50 : decode cX6_isSolvable 50 = .ok (.iconst 0, 1) := by decide +kernel
theorem dX6_isSolvable_51 : decode cX6_isSolvable 51 = .ok (.istore 5, 2) := by decide +kernel
theorem dX6_isSolvable_53 : decode cX6_isSolvable 53 = .ok (.iload 5, 2) := by decide +kernel
theorem dX6_isSolvable_55 : decode cX6_isSolvable 55 = .ok (.iconst 5, 1) := by decide +kernel
theorem dX6_isSolvable_56 : decode cX6_isSolvable 56 = .ok (.if_icmp .ge 59, 3) := by decide +kernel
theorem dX6_isSolvable_59 : decode cX6_isSolvable 59 = .ok (.aload_n 0, 1) := by decide +kernel
theorem dX6_isSolvable_60 : decode cX6_isSolvable 60 = .ok (.getfield 79, 3) := by decide +kernel
theorem dX6_isSolvable_63 : decode cX6_isSolvable 63 = .ok (.iconst 5, 1) := by decide +kernel
theorem dX6_isSolvable_64 : decode cX6_isSolvable 64 = .ok (.iload 4, 2) := by decide +kernel
theorem dX6_isSolvable_66 : decode cX6_isSolvable 66 = .ok (.imul, 1) := by decide +kernel
theorem dX6_isSolvable_67 : decode cX6_isSolvable 67 = .ok (.iload 5, 2) := by decide +kernel
theorem dX6_isSolvable_69 : decode cX6_isSolvable 69 = .ok (.iadd, 1) := by decide +kernel
theorem dX6_isSolvable_70 : decode cX6_isSolvable 70 = .ok (.iaload, 1) := by decide +kernel
theorem dX6_isSolvable_71 : decode cX6_isSolvable 71 = .ok (.istore 6, 2) := by decide +kernel
theorem dX6_isSolvable_73 : decode cX6_isSolvable 73 = .ok (.aload_n 0, 1) := by decide +kernel
theorem dX6_isSolvable_74 : decode cX6_isSolvable 74 = .ok (.getfield 79, 3) := by decide +kernel
theorem dX6_isSolvable_77 : decode cX6_isSolvable 77 = .ok (.iconst 5, 1) := by decide +kernel
theorem dX6_isSolvable_78 : decode cX6_isSolvable 78 = .ok (.iload 4, 2) := by decide +kernel
theorem dX6_isSolvable_80 : decode cX6_isSolvable 80 = .ok (.imul, 1) := by decide +kernel
theorem dX6_isSolvable_81 : decode cX6_isSolvable 81 = .ok (.iload 5, 2) := by decide +kernel
theorem dX6_isSolvable_83 : decode cX6_isSolvable 83 = .ok (.iadd, 1) := by decide +kernel
theorem dX6_isSolvable_84 : decode cX6_isSolvable 84 = .ok (.aload_n 0, 1) := by decide +kernel
theorem dX6_isSolvable_85 : decode cX6_isSolvable 85 = .ok (.getfield 79, 3) := by decide +kernel
theorem dX6_isSolvable_88 : decode cX6_isSolvable 88 = .ok (.iconst 5, 1) := by decide +kernel
theorem dX6_isSolvable_89 : decode cX6_isSolvable 89 = .ok (.iload_n 2, 1) := by decide +kernel
theorem dX6_isSolvable_90 : decode cX6_isSolvable 90 = .ok (.imul, 1) := by decide +kernel
theorem dX6_isSolvable_91 : decode cX6_isSolvable 91 = .ok (.iload 5, 2) := by decide +kernel
theorem dX6_isSolvable_93 : decode cX6_isSolvable 93 = .ok (.iadd, 1) := by decide +kernel
theorem dX6_isSolvable_94 : decode cX6_isSolvable 94 = .ok (.iaload, 1) := by decide +kernel
theorem dX6_isSolvable_95 : decode cX6_isSolvable 95 = .ok (.iastore, 1) := by decide +kernel
theorem dX6_isSolvable_96 : decode cX6_isSolvable 96 = .ok (.aload_n 0, 1) := by decide +kernel
theorem dX6_isSolvable_97 : decode cX6_isSolvable 97 = .ok (.getfield 79, 3) := by decide +kernel
theorem dX6_isSolvable_100 : decode cX6_isSolvable 100 = .ok (.iconst 5, 1) := by decide +kernel
theorem dX6_isSolvable_101 : decode cX6_isSolvable 101 = .ok (.iload_n 2, 1) := by decide +kernel
theorem dX6_isSolvable_102 : decode cX6_isSolvable 102 = .ok (.imul, 1) := by decide +kernel
theorem dX6_isSolvable_103 : decode cX6_isSolvable 103 = .ok (.iload 5, 2) := by decide +kernel
theorem dX6_isSolvable_105 : decode cX6_isSolvable 105 = .ok (.iadd, 1) := by decide +kernel
theorem dX6_isSolvable_106 : decode cX6_isSolvable 106 = .ok (.iload 6, 2) := by decide +kernel
theorem dX6_isSolvable_108 : decode cX6_isSolvable 108 = .ok (.iastore, 1) := by decide +kernel
theorem dX6_isSolvable_109 : decode cX6_isSolvable 109 = .ok (.iinc 5 1, 3) := by decide +kernel
theorem dX6_isSolvable_112 : decode cX6_isSolvable 112 = .ok (.goto (-59), 3) := by decide +kernel
theorem dX6_isSolvable_115 : decode cX6_isSolvable 115 = .ok (.aload_n 0, 1) := by decide +kernel
theorem dX6_isSolvable_116 : decode cX6_isSolvable 116 = .ok (.getfield 79, 3) := by decide +kernel
theorem dX6_isSolvable_119 : decode cX6_isSolvable 119 = .ok (.iconst 5, 1) := by decide +kernel
theorem dX6_isSolvable_120 : decode cX6_isSolvable 120 = .ok (.iload_n 2, 1) := by decide +kernel
theorem dX6_isSolvable_121 : decode cX6_isSolvable 121 = .ok (.imul, 1) := by decide +kernel
theorem dX6_isSolvable_122 : decode cX6_isSolvable 122 = .ok (.iload_n 3, 1) := by decide +kernel
theorem dX6_isSolvable_123 : decode cX6_isSolvable 123 = .ok (.iadd, 1) := by decide +kernel
theorem dX6_isSolvable_124 : decode cX6_isSolvable 124 = .ok (.iaload, 1) := by decide +kernel
theorem dX6_isSolvable_125 : decode cX6_isSolvable 125 = .ok (.invokestatic 101, 3) := by decide +kernel
theorem dX6_isSolvable_128 : decode cX6_isSolvable 128 = .ok (.istore 5, 2) := by decide +kernel
theorem dX6_isSolvable_130 : decode cX6_isSolvable 130 = .ok (.iload_n 2, 1) := by decide +kernel
theorem dX6_isSolvable_131 : decode cX6_isSolvable 131 = .ok (.iconst 1, 1) := by decide +kernel
theorem dX6_isSolvable_132 : decode cX6_isSolvable 132 = .ok (.iadd, 1) := by decide +kernel
theorem dX6_isSolvable_133 : decode cX6_isSolvable 133 = .ok (.istore 6, 2) := by decide +kernel
theorem dX6_isSolvable_135 : decode cX6_isSolvable 135 = .ok (.iload 6, 2) := by decide +kernel
theorem dX6_isSolvable_137 : decode cX6_isSolvable 137 = .ok (.iload_n 1, 1) := by decide +kernel
theorem dX6_isSolvable_138 : decode cX6_isSolvable 138 = .ok (.if_icmp .ge 78, 3) := by decide +kernel
theorem dX6_isSolvable_141 : decode cX6_isSolvable 141 = .ok (.iload 5, 2) := by decide +kernel
theorem dX6_isSolvable_143 : decode cX6_isSolvable 143 = .ok (.aload_n 0, 1) := by decide +kernel
theorem dX6_isSolvable_144 : decode cX6_isSolvable 144 = .ok (.getfield 79, 3) := by decide +kernel
theorem dX6_isSolvable_147 : decode cX6_isSolvable 147 = .ok (.iconst 5, 1) := by decide +kernel
theorem dX6_isSolvable_148 : decode cX6_isSolvable 148 = .ok (.iload 6, 2) := by decide +kernel
theorem dX6_isSolvable_150 : decode cX6_isSolvable 150 = .ok (.imul, 1) := by decide +kernel
theorem dX6_isSolvable_151 : decode cX6_isSolvable 151 = .ok (.iload_n 3, 1) := by decide +kernel
theorem dX6_isSolvable_152 : decode cX6_isSolvable 152 = .ok (.iadd, 1) := by decide +kernel
theorem dX6_isSolvable_153 : decode cX6_isSolvable 153 = .ok (.iaload, 1) := by decide +kernel
theorem dX6_isSolvable_154 : decode cX6_isSolvable 154 = .ok (.invokestatic 91, 3) := by decide +kernel
theorem dX6_isSolvable_157 : decode cX6_isSolvable 157 = .ok (.istore 7, 2) := by decide +kernel
theorem dX6_isSolvable_159 : decode cX6_isSolvable 159 = .ok (.iconst 0, 1) := by decide +kernel
theorem dX6_isSolvable_160 : decode cX6_isSolvable 160 = .ok (.istore 8, 2) := by decide +kernel
theorem dX6_isSolvable_162 : decode cX6_isSolvable 162 = .ok (.iload 8, 2) := by decide +kernel
theorem dX6_isSolvable_164 : decode cX6_isSolvable 164 = .ok (.iconst 5, 1) := by decide +kernel
theorem dX6_isSolvable_165 : decode cX6_isSolvable 165 = .ok (.if_icmp .ge 45, 3) := by decide +kernel
theorem dX6_isSolvable_168 : decode cX6_isSolvable 168 = .ok (.iload 7, 2) := by decide +kernel
theorem dX6_isSolvable_170 : decode cX6_isSolvable 170 = .ok (.ifCond .eq 40, 3) := by decide +kernel
theorem dX6_isSolvable_173 : decode cX6_isSolvable 173 = .ok (.aload_n 0, 1) := by decide +kernel
theorem dX6_isSolvable_174 : decode cX6_isSolvable 174 = .ok (.getfield 79, 3) := by decide +kernel
theorem dX6_isSolvable_177 : decode cX6_isSolvable 177 = .ok (.iconst 5, 1) := by decide +kernel
theorem dX6_isSolvable_178 : decode cX6_isSolvable 178 = .ok (.iload 6, 2) := by decide +kernel
theorem dX6_isSolvable_180 : decode cX6_isSolvable 180 = .ok (.imul, 1) := by decide +kernel
theorem dX6_isSolvable_181 : decode cX6_isSolvable 181 = .ok (.iload 8, 2) := by decide +kernel
theorem dX6_isSolvable_183 : decode cX6_isSolvable 183 = .ok (.iadd, 1) := by decide +kernel
theorem dX6_isSolvable_184 : decode cX6_isSolvable 184 = .ok (.dup2, 1) := by decide +kernel
theorem dX6_isSolvable_185 : decode cX6_isSolvable 185 = .ok (.iaload, 1) := by decide +kernel
theorem dX6_isSolvable_186 : decode cX6_isSolvable 186 = .ok (.iload 7, 2) := by decide +kernel
theorem dX6_isSolvable_188 : decode cX6_isSolvable 188 = .ok (.aload_n 0, 1) := by decide +kernel
theorem dX6_isSolvable_189 : decode cX6_isSolvable 189 = .ok (.getfield 79, 3) := by decide +kernel
theorem dX6_isSolvable_192 : decode cX6_isSolvable 192 = .ok (.iconst 5, 1) := by decide +kernel
theorem dX6_isSolvable_193 : decode cX6_isSolvable 193 = .ok (.iload_n 2, 1) := by decide +kernel
theorem dX6_isSolvable_194 : decode cX6_isSolvable 194 = .ok (.imul, 1) := by decide +kernel
theorem dX6_isSolvable_195 : decode cX6_isSolvable 195 = .ok (.iload 8, 2) := by decide +kernel
theorem dX6_isSolvable_197 : decode cX6_isSolvable 197 = .ok (.iadd, 1) := by decide +kernel
theorem dX6_isSolvable_198 : decode cX6_isSolvable 198 = .ok (.iaload, 1) := by decide +kernel
theorem dX6_isSolvable_199 : decode cX6_isSolvable 199 = .ok (.invokestatic 91, 3) := by decide +kernel
theorem dX6_isSolvable_202 : decode cX6_isSolvable 202 = .ok (.ixor, 1) := by decide +kernel
theorem dX6_isSolvable_203 : decode cX6_isSolvable 203 = .ok (.iastore, 1) := by decide +kernel
theorem dX6_isSolvable_204 : decode cX6_isSolvable 204 = .ok (.iinc 8 1, 3) := by decide +kernel
theorem dX6_isSolvable_207 : decode cX6_isSolvable 207 = .ok (.goto (-45), 3) := by decide +kernel
theorem dX6_isSolvable_210 : decode cX6_isSolvable 210 = .ok (.iinc 6 1, 3) := by decide +kernel
theorem dX6_isSolvable_213 : decode cX6_isSolvable 213 = .ok (.goto (-78), 3) := by decide +kernel
theorem dX6_isSolvable_216 : decode cX6_isSolvable 216 = .ok (.iinc 2 1, 3) := by decide +kernel
theorem dX6_isSolvable_219 : decode cX6_isSolvable 219 = .ok (.iinc 3 1, 3) := by decide +kernel
theorem dX6_isSolvable_222 : decode cX6_isSolvable 222 = .ok (.goto (-218), 3) := by decide +kernel
theorem dX6_isSolvable_225 : decode cX6_isSolvable 225 = .ok (.iload_n 2, 1) := by decide +kernel
theorem dX6_isSolvable_226 : decode cX6_isSolvable 226 = .ok (.istore_n 3, 1) := by decide +kernel
theorem dX6_isSolvable_227 : decode cX6_isSolvable 227 = .ok (.iload_n 3, 1) := by decide +kernel
theorem dX6_isSolvable_228 : decode cX6_isSolvable 228 = .ok (.iload_n 1, 1) := by decide +kernel
theorem dX6_isSolvable_229 : decode cX6_isSolvable 229 = .ok (.if_icmp .ge 24, 3) := by decide +kernel
theorem dX6_isSolvable_232 : decode cX6_isSolvable 232 = .ok (.aload_n 0, 1) := by decide +kernel
theorem dX6_isSolvable_233 : decode cX6_isSolvable 233 = .ok (.getfield 79, 3) := by decide +kernel
theorem dX6_isSolvable_236 : decode cX6_isSolvable 236 = .ok (.iconst 5, 1) := by decide +kernel
theorem dX6_isSolvable_237 : decode cX6_isSolvable 237 = .ok (.iload_n 3, 1) := by decide +kernel
theorem dX6_isSolvable_238 : decode cX6_isSolvable 238 = .ok (.imul, 1) := by decide +kernel
theorem dX6_isSolvable_239 : decode cX6_isSolvable 239 = .ok (.iconst 4, 1) := by decide +kernel
theorem dX6_isSolvable_240 : decode cX6_isSolvable 240 = .ok (.iadd, 1) := by decide +kernel
theorem dX6_isSolvable_241 : decode cX6_isSolvable 241 = .ok (.iaload, 1) := by decide +kernel
theorem dX6_isSolvable_242 : decode cX6_isSolvable 242 = .ok (.ifCond .eq 5, 3) := by decide +kernel
theorem dX6_isSolvable_245 : decode cX6_isSolvable 245 = .ok (.iconst 0, 1) := by decide +kernel
theorem dX6_isSolvable_246 : decode cX6_isSolvable 246 = .ok (.ireturn, 1) := by decide +kernel
theorem dX6_isSolvable_247 : decode cX6_isSolvable 247 = .ok (.iinc 3 1, 3) := by decide +kernel
theorem dX6_isSolvable_250 : decode cX6_isSolvable 250 = .ok (.goto (-23), 3) := by decide +kernel
theorem dX6_isSolvable_253 : decode cX6_isSolvable 253 = .ok (.iconst 1, 1) := by decide +kernel
theorem dX6_isSolvable_254 : decode cX6_isSolvable 254 = .ok (.ireturn, 1) := by decide +kernel
set_option maxRecDepth 20000 in
theorem ggX6_lack_X6_isRelay : GoodIn wsX6_lack wsX6_isRelay := goodIn_r _ [7, 8, 9, 10, 6, 11, 83, 84, 85, 86, 87, 88, 89, 90, 91, 92, 93, 94, 95, 96, 97, 98, 99, 100, 101, 102, 103, 104, 105, 106, 107, 108, 109, 110, 111, 112, 113] (by decide +kernel) (by decide +kernel)
set_option maxRecDepth 20000 in
theorem gX6_lack_X6_isRelay : GoodIn wsX6_lack (wsV RX6 111 RX6 yX6_isRelay wsX6_isRelay) := goodIn_app (goodIn_of _ (by decide +kernel)) ggX6_lack_X6_isRelay
set_option maxRecDepth 20000 in
theorem ggX6_lack_X6_in : GoodIn wsX6_lack wsX6_in := goodIn_r _ [11] (by decide +kernel) (by decide +kernel)
set_option maxRecDepth 20000 in
theorem gX6_lack_X6_in : GoodIn wsX6_lack (va_wsS RX6 97 yX6_in wsX6_in) := goodIn_app (goodIn_of _ (by decide +kernel)) ggX6_lack_X6_in
set_option maxRecDepth 20000 in
theorem ggX6_lack_X6_work : GoodIn wsX6_lack wsX6_work := goodIn_r _ [15, 8, 16, 17, 18, 19, 20, 6, 21, 22, 23, 24, 25, 26, 27, 28, 1, 29, 30, 31, 32, 33, 34, 35, 36, 37, 38, 39, 40, 41, 42, 43, 44, 45, 46, 47, 48, 49, 83, 84, 85, 86, 87, 88, 89, 90, 91, 92, 93, 94, 95, 96, 97, 98, 99, 100, 101, 102, 103, 104, 105, 106, 107, 108, 109, 110, 111, 112, 113] (by decide +kernel) (by decide +kernel)
set_option maxRecDepth 20000 in
theorem gX6_lack_X6_work : GoodIn wsX6_lack (wsV RX6 140 RX6 yX6_work wsX6_work) := goodIn_app (goodIn_of _ (by decide +kernel)) ggX6_lack_X6_work
set_option maxRecDepth 20000 in
theorem ggX6_lack_X6_study : GoodIn wsX6_lack wsX6_study := goodIn_r _ [53, 54, 16, 38, 55, 1, 23, 56, 57, 58, 59, 6, 60, 61, 62, 63, 64, 65, 66, 47, 48, 49, 67, 68, 69, 83, 84, 85, 86, 87, 88, 89, 90, 91, 92, 93, 94, 95, 96, 97, 98, 99, 100, 101, 102, 103, 104, 105, 106, 107, 108, 109, 110, 111, 112, 113] (by decide +kernel) (by decide +kernel)
set_option maxRecDepth 20000 in
theorem gX6_lack_X6_study : GoodIn wsX6_lack (wsV RX6 153 RX6 yX6_study wsX6_study) := goodIn_app (goodIn_of _ (by decide +kernel)) ggX6_lack_X6_study
set_option maxRecDepth 20000 in
theorem ggX6_lack_X6_solvesFor : GoodIn wsX6_lack wsX6_solvesFor := goodIn_r _ [73, 55, 1, 63, 64, 65, 6, 66, 54, 62, 61, 47, 48, 49, 83, 84, 85, 86, 87, 88, 89, 90, 91, 92, 93, 94, 95, 96, 97, 98, 99, 100, 101, 102, 103, 104, 105, 106, 107, 108, 109, 110, 111, 112, 113] (by decide +kernel) (by decide +kernel)
set_option maxRecDepth 20000 in
theorem gX6_lack_X6_solvesFor : GoodIn wsX6_lack (wsV RX6 159 RX6 yX6_solvesFor wsX6_solvesFor) := goodIn_app (goodIn_of _ (by decide +kernel)) ggX6_lack_X6_solvesFor
set_option maxRecDepth 20000 in
theorem ggX6_lack_X6_goes : GoodIn wsX6_lack wsX6_goes := goodIn_r _ [77, 54, 78, 1, 61, 2, 47, 48, 6, 49, 79, 80, 81, 82, 67, 68, 69, 83, 84, 85, 86, 87, 88, 89, 90, 91, 92, 93, 94, 95, 96, 97, 98, 99, 100, 101, 102, 103, 104, 105, 106, 107, 108, 109, 110, 111, 112, 113] (by decide +kernel) (by decide +kernel)
set_option maxRecDepth 20000 in
theorem gX6_lack_X6_goes : GoodIn wsX6_lack (wsV RX6 169 RX6 yX6_goes wsX6_goes) := goodIn_app (goodIn_of _ (by decide +kernel)) ggX6_lack_X6_goes
theorem dX6_lack_0 : decode cX6_lack 0 = .ok (.aload_n 0, 1) := by decide +kernel
theorem dX6_lack_1 : decode cX6_lack 1 = .ok (.iload_n 1, 1) := by decide +kernel
theorem dX6_lack_2 : decode cX6_lack 2 = .ok (.invokevirtual 111, 3) := by decide +kernel
theorem dX6_lack_5 : decode cX6_lack 5 = .ok (.ifCond .eq 31, 3) := by decide +kernel
theorem dX6_lack_8 : decode cX6_lack 8 = .ok (.iload_n 2, 1) := by decide +kernel
theorem dX6_lack_9 : decode cX6_lack 9 = .ok (.iconst 0, 1) := by decide +kernel
theorem dX6_lack_10 : decode cX6_lack 10 = .ok (.aload_n 0, 1) := by decide +kernel
theorem dX6_lack_11 : decode cX6_lack 11 = .ok (.getfield 13, 3) := by decide +kernel
theorem dX6_lack_14 : decode cX6_lack 14 = .ok (.iconst 1, 1) := by decide +kernel
theorem dX6_lack_15 : decode cX6_lack 15 = .ok (.isub, 1) := by decide +kernel
theorem dX6_lack_16 : decode cX6_lack 16 = .ok (.invokestatic 97, 3) := by decide +kernel
theorem dX6_lack_19 : decode cX6_lack 19 = .ok (.ifCond .eq 17, 3) := by decide +kernel
theorem dX6_lack_22 : decode cX6_lack 22 = .ok (.iload_n 3, 1) := by decide +kernel
theorem dX6_lack_23 : decode cX6_lack 23 = .ok (.iconst 0, 1) := by decide +kernel
theorem dX6_lack_24 : decode cX6_lack 24 = .ok (.aload_n 0, 1) := by decide +kernel
theorem dX6_lack_25 : decode cX6_lack 25 = .ok (.getfield 13, 3) := by decide +kernel
theorem dX6_lack_28 : decode cX6_lack 28 = .ok (.iconst 1, 1) := by decide +kernel
theorem dX6_lack_29 : decode cX6_lack 29 = .ok (.isub, 1) := by decide +kernel
theorem dX6_lack_30 : decode cX6_lack 30 = .ok (.invokestatic 97, 3) := by decide +kernel
theorem dX6_lack_33 : decode cX6_lack 33 = .ok (.ifCond .ne 5, 3) := by decide +kernel
theorem dX6_lack_36 : decode cX6_lack 36 = .ok (.iconst (-1), 1) := by decide +kernel
theorem dX6_lack_37 : decode cX6_lack 37 = .ok (.ireturn, 1) := by decide +kernel
theorem dX6_lack_38 : decode cX6_lack 38 = .ok (.iload_n 1, 1) := by decide +kernel
theorem dX6_lack_39 : decode cX6_lack 39 = .ok (.ifCond .ne 6, 3) := by decide +kernel
theorem dX6_lack_42 : decode cX6_lack 42 = .ok (.bipush (-2), 2) := by decide +kernel
theorem dX6_lack_44 : decode cX6_lack 44 = .ok (.ireturn, 1) := by decide +kernel
theorem dX6_lack_45 : decode cX6_lack 45 = .ok (.aload_n 0, 1) := by decide +kernel
theorem dX6_lack_46 : decode cX6_lack 46 = .ok (.invokevirtual 140, 3) := by decide +kernel
theorem dX6_lack_49 : decode cX6_lack 49 = .ok (.aload_n 0, 1) := by decide +kernel
theorem dX6_lack_50 : decode cX6_lack 50 = .ok (.iload_n 1, 1) := by decide +kernel
theorem dX6_lack_51 : decode cX6_lack 51 = .ok (.invokevirtual 153, 3) := by decide +kernel
theorem dX6_lack_54 : decode cX6_lack 54 = .ok (.aload_n 0, 1) := by decide +kernel
theorem dX6_lack_55 : decode cX6_lack 55 = .ok (.iload_n 2, 1) := by decide +kernel
theorem dX6_lack_56 : decode cX6_lack 56 = .ok (.invokevirtual 159, 3) := by decide +kernel
theorem dX6_lack_59 : decode cX6_lack 59 = .ok (.ifCond .eq 5, 3) := by decide +kernel
theorem dX6_lack_62 : decode cX6_lack 62 = .ok (.iconst (-1), 1) := by decide +kernel
theorem dX6_lack_63 : decode cX6_lack 63 = .ok (.ireturn, 1) := by decide +kernel
theorem dX6_lack_64 : decode cX6_lack 64 = .ok (.iconst 0, 1) := by decide +kernel
theorem dX6_lack_65 : decode cX6_lack 65 = .ok (.istore 4, 2) := by decide +kernel
theorem dX6_lack_67 : decode cX6_lack 67 = .ok (.iload 4, 2) := by decide +kernel
theorem dX6_lack_69 : decode cX6_lack 69 = .ok (.aload_n 0, 1) := by decide +kernel
theorem dX6_lack_70 : decode cX6_lack 70 = .ok (.getfield 13, 3) := by decide +kernel
theorem dX6_lack_73 : decode cX6_lack 73 = .ok (.if_icmp .ge 53, 3) := by decide +kernel
theorem dX6_lack_76 : decode cX6_lack 76 = .ok (.aload_n 0, 1) := by decide +kernel
theorem dX6_lack_77 : decode cX6_lack 77 = .ok (.getfield 76, 3) := by decide +kernel
theorem dX6_lack_80 : decode cX6_lack 80 = .ok (.iload 4, 2) := by decide +kernel
theorem dX6_lack_82 : decode cX6_lack 82 = .ok (.iload 4, 2) := by decide +kernel
theorem dX6_lack_84 : decode cX6_lack 84 = .ok (.iload_n 2, 1) := by decide +kernel
theorem dX6_lack_85 : decode cX6_lack 85 = .ok (.if_icmp .ne 7, 3) := by decide +kernel
theorem dX6_lack_88 : decode cX6_lack 88 = .ok (.iconst 1, 1) := by decide +kernel
theorem dX6_lack_89 : decode cX6_lack 89 = .ok (.goto 4, 3) := by decide +kernel
theorem dX6_lack_92 : decode cX6_lack 92 = .ok (.iconst 0, 1) := by decide +kernel
theorem dX6_lack_93 : decode cX6_lack 93 = .ok (.iastore, 1) := by decide +kernel
theorem dX6_lack_94 : decode cX6_lack 94 = .ok (.aload_n 0, 1) := by decide +kernel
theorem dX6_lack_95 : decode cX6_lack 95 = .ok (.iload 4, 2) := by decide +kernel
theorem dX6_lack_97 : decode cX6_lack 97 = .ok (.iconst 1, 1) := by decide +kernel
theorem dX6_lack_98 : decode cX6_lack 98 = .ok (.iadd, 1) := by decide +kernel
theorem dX6_lack_99 : decode cX6_lack 99 = .ok (.iload_n 2, 1) := by decide +kernel
theorem dX6_lack_100 : decode cX6_lack 100 = .ok (.invokevirtual 169, 3) := by decide +kernel
theorem dX6_lack_103 : decode cX6_lack 103 = .ok (.ifCond .ne 17, 3) := by decide +kernel
theorem dX6_lack_106 : decode cX6_lack 106 = .ok (.aload_n 0, 1) := by decide +kernel
theorem dX6_lack_107 : decode cX6_lack 107 = .ok (.getfield 76, 3) := by decide +kernel
theorem dX6_lack_110 : decode cX6_lack 110 = .ok (.iload 4, 2) := by decide +kernel
theorem dX6_lack_112 : decode cX6_lack 112 = .ok (.dup2, 1) := by decide +kernel
theorem dX6_lack_113 : decode cX6_lack 113 = .ok (.iaload, 1) := by decide +kernel
theorem dX6_lack_114 : decode cX6_lack 114 = .ok (.iconst 1, 1) := by decide +kernel
theorem dX6_lack_115 : decode cX6_lack 115 = .ok (.iadd, 1) := by decide +kernel
theorem dX6_lack_116 : decode cX6_lack 116 = .ok (.iastore, 1) := by decide +kernel
theorem dX6_lack_117 : decode cX6_lack 117 = .ok (.goto (-23), 3) := by decide +kernel
theorem dX6_lack_120 : decode cX6_lack 120 = .ok (.iinc 4 1, 3) := by decide +kernel
theorem dX6_lack_123 : decode cX6_lack 123 = .ok (.goto (-56), 3) := by decide +kernel
theorem dX6_lack_126 : decode cX6_lack 126 = .ok (.aload_n 0, 1) := by decide +kernel
theorem dX6_lack_127 : decode cX6_lack 127 = .ok (.getfield 76, 3) := by decide +kernel
theorem dX6_lack_130 : decode cX6_lack 130 = .ok (.iload_n 3, 1) := by decide +kernel
theorem dX6_lack_131 : decode cX6_lack 131 = .ok (.iaload, 1) := by decide +kernel
theorem dX6_lack_132 : decode cX6_lack 132 = .ok (.ireturn, 1) := by decide +kernel
set_option maxRecDepth 20000 in
theorem ggX6_hasAll_X6_study : GoodIn wsX6_hasAll wsX6_study := goodIn_r _ [6, 7, 8, 9, 10, 1, 11, 12, 13, 14, 15, 5, 16, 17, 18, 19, 20, 21, 22, 23, 24, 25, 26, 27, 28, 33, 34, 35, 36, 37, 38, 39, 40, 41, 42, 43, 44, 45, 46, 47, 48, 49, 50, 51, 52, 53, 54, 55, 56, 57, 58, 59, 60, 61, 62, 63] (by decide +kernel) (by decide +kernel)
set_option maxRecDepth 20000 in
theorem gX6_hasAll_X6_study : GoodIn wsX6_hasAll (wsV RX6 153 RX6 yX6_study wsX6_study) := goodIn_app (goodIn_of _ (by decide +kernel)) ggX6_hasAll_X6_study
set_option maxRecDepth 20000 in
theorem ggX6_hasAll_X6_solvesFor : GoodIn wsX6_hasAll wsX6_solvesFor := goodIn_r _ [32, 10, 1, 19, 20, 21, 5, 22, 7, 18, 17, 23, 24, 25, 33, 34, 35, 36, 37, 38, 39, 40, 41, 42, 43, 44, 45, 46, 47, 48, 49, 50, 51, 52, 53, 54, 55, 56, 57, 58, 59, 60, 61, 62, 63] (by decide +kernel) (by decide +kernel)
set_option maxRecDepth 20000 in
theorem gX6_hasAll_X6_solvesFor : GoodIn wsX6_hasAll (wsV RX6 159 RX6 yX6_solvesFor wsX6_solvesFor) := goodIn_app (goodIn_of _ (by decide +kernel)) ggX6_hasAll_X6_solvesFor
theorem dX6_hasAll_0 : decode cX6_hasAll 0 = .ok (.aload_n 0, 1) := by decide +kernel
theorem dX6_hasAll_1 : decode cX6_hasAll 1 = .ok (.iload_n 1, 1) := by decide +kernel
theorem dX6_hasAll_2 : decode cX6_hasAll 2 = .ok (.invokevirtual 153, 3) := by decide +kernel
theorem dX6_hasAll_5 : decode cX6_hasAll 5 = .ok (.iconst 0, 1) := by decide +kernel
theorem dX6_hasAll_6 : decode cX6_hasAll 6 = .ok (.istore_n 2, 1) := by decide +kernel
theorem dX6_hasAll_7 : decode cX6_hasAll 7 = .ok (.iload_n 2, 1) := by decide +kernel
theorem dX6_hasAll_8 : decode cX6_hasAll 8 = .ok (.aload_n 0, 1) := by decide +kernel
theorem dX6_hasAll_9 : decode cX6_hasAll 9 = .ok (.getfield 13, 3) := by decide +kernel
theorem dX6_hasAll_12 : decode cX6_hasAll 12 = .ok (.if_icmp .ge 19, 3) := by decide +kernel
theorem dX6_hasAll_15 : decode cX6_hasAll 15 = .ok (.aload_n 0, 1) := by decide +kernel
theorem dX6_hasAll_16 : decode cX6_hasAll 16 = .ok (.iload_n 2, 1) := by decide +kernel
theorem dX6_hasAll_17 : decode cX6_hasAll 17 = .ok (.invokevirtual 159, 3) := by decide +kernel
theorem dX6_hasAll_20 : decode cX6_hasAll 20 = .ok (.ifCond .ne 5, 3) := by decide +kernel
theorem dX6_hasAll_23 : decode cX6_hasAll 23 = .ok (.iconst 0, 1) := by decide +kernel
theorem dX6_hasAll_24 : decode cX6_hasAll 24 = .ok (.ireturn, 1) := by decide +kernel
theorem dX6_hasAll_25 : decode cX6_hasAll 25 = .ok (.iinc 2 1, 3) := by decide +kernel
theorem dX6_hasAll_28 : decode cX6_hasAll 28 = .ok (.goto (-21), 3) := by decide +kernel
theorem dX6_hasAll_31 : decode cX6_hasAll 31 = .ok (.iconst 1, 1) := by decide +kernel
theorem dX6_hasAll_32 : decode cX6_hasAll 32 = .ok (.ireturn, 1) := by decide +kernel
set_option maxRecDepth 20000 in
theorem ggX6_wrong_X6_work : GoodIn wsX6_wrong wsX6_work := goodIn_r _ [9, 1, 10, 11, 12, 13, 14, 8, 15, 16, 17, 18, 19, 20, 21, 4, 3, 22, 23, 24, 25, 26, 27, 28, 29, 30, 31, 32, 33, 34, 35, 36, 37, 38, 39, 40, 41, 42, 71, 72, 73, 74, 75, 76, 77, 78, 79, 80, 81, 82, 83, 84, 85, 86, 87, 88, 89, 90, 91, 92, 93, 94, 95, 96, 97, 98, 99, 100, 101] (by decide +kernel) (by decide +kernel)
set_option maxRecDepth 20000 in
theorem gX6_wrong_X6_work : GoodIn wsX6_wrong (wsV RX6 140 RX6 yX6_work wsX6_work) := goodIn_app (goodIn_of _ (by decide +kernel)) ggX6_wrong_X6_work
set_option maxRecDepth 20000 in
theorem ggX6_wrong_X6_study : GoodIn wsX6_wrong wsX6_study := goodIn_r _ [46, 47, 10, 31, 48, 3, 17, 49, 50, 51, 52, 8, 53, 54, 55, 56, 57, 58, 59, 40, 41, 42, 60, 61, 62, 71, 72, 73, 74, 75, 76, 77, 78, 79, 80, 81, 82, 83, 84, 85, 86, 87, 88, 89, 90, 91, 92, 93, 94, 95, 96, 97, 98, 99, 100, 101] (by decide +kernel) (by decide +kernel)
set_option maxRecDepth 20000 in
theorem gX6_wrong_X6_study : GoodIn wsX6_wrong (wsV RX6 153 RX6 yX6_study wsX6_study) := goodIn_app (goodIn_of _ (by decide +kernel)) ggX6_wrong_X6_study
set_option maxRecDepth 20000 in
theorem ggX6_wrong_X6_solvesFor : GoodIn wsX6_wrong wsX6_solvesFor := goodIn_r _ [66, 48, 3, 56, 57, 58, 8, 59, 47, 55, 54, 40, 41, 42, 71, 72, 73, 74, 75, 76, 77, 78, 79, 80, 81, 82, 83, 84, 85, 86, 87, 88, 89, 90, 91, 92, 93, 94, 95, 96, 97, 98, 99, 100, 101] (by decide +kernel) (by decide +kernel)
set_option maxRecDepth 20000 in
theorem gX6_wrong_X6_solvesFor : GoodIn wsX6_wrong (wsV RX6 159 RX6 yX6_solvesFor wsX6_solvesFor) := goodIn_app (goodIn_of _ (by decide +kernel)) ggX6_wrong_X6_solvesFor
set_option maxRecDepth 20000 in
theorem ggX6_wrong_X6_getsOf : GoodIn wsX6_wrong wsX6_getsOf := goodIn_r _ [70, 47, 48, 16, 49, 63, 64, 65, 8, 66, 3, 56, 57, 58, 59, 55, 54, 40, 41, 42, 36, 37, 38, 39, 71, 72, 73, 74, 75, 76, 77, 78, 79, 80, 81, 82, 83, 84, 85, 86, 87, 88, 89, 90, 91, 92, 93, 94, 95, 96, 97, 98, 99, 100, 101] (by decide +kernel) (by decide +kernel)
set_option maxRecDepth 20000 in
theorem gX6_wrong_X6_getsOf : GoodIn wsX6_wrong (wsV RX6 162 RX6 yX6_getsOf wsX6_getsOf) := goodIn_app (goodIn_of _ (by decide +kernel)) ggX6_wrong_X6_getsOf
theorem dX6_wrong_0 : decode cX6_wrong 0 = .ok (.aload_n 0, 1) := by decide +kernel
theorem dX6_wrong_1 : decode cX6_wrong 1 = .ok (.invokevirtual 140, 3) := by decide +kernel
theorem dX6_wrong_4 : decode cX6_wrong 4 = .ok (.iconst 0, 1) := by decide +kernel
theorem dX6_wrong_5 : decode cX6_wrong 5 = .ok (.istore_n 1, 1) := by decide +kernel
theorem dX6_wrong_6 : decode cX6_wrong 6 = .ok (.iconst 1, 1) := by decide +kernel
theorem dX6_wrong_7 : decode cX6_wrong 7 = .ok (.istore_n 2, 1) := by decide +kernel
theorem dX6_wrong_8 : decode cX6_wrong 8 = .ok (.iload_n 2, 1) := by decide +kernel
theorem dX6_wrong_9 : decode cX6_wrong 9 = .ok (.aload_n 0, 1) := by decide +kernel
theorem dX6_wrong_10 : decode cX6_wrong 10 = .ok (.getfield 7, 3) := by decide +kernel
theorem dX6_wrong_13 : decode cX6_wrong 13 = .ok (.if_icmp .ge 94, 3) := by decide +kernel
theorem dX6_wrong_16 : decode cX6_wrong 16 = .ok (.aload_n 0, 1) := by decide +kernel
theorem dX6_wrong_17 : decode cX6_wrong 17 = .ok (.getfield 20, 3) := by decide +kernel
theorem dX6_wrong_20 : decode cX6_wrong 20 = .ok (.iload_n 2, 1) := by decide +kernel
theorem dX6_wrong_21 : decode cX6_wrong 21 = .ok (.baload, 1) := by decide +kernel
theorem dX6_wrong_22 : decode cX6_wrong 22 = .ok (.ifCond .ne 6, 3) := by decide +kernel
theorem dX6_wrong_25 : decode cX6_wrong 25 = .ok (.goto 76, 3) := by decide +kernel
theorem dX6_wrong_28 : decode cX6_wrong 28 = .ok (.aload_n 0, 1) := by decide +kernel
theorem dX6_wrong_29 : decode cX6_wrong 29 = .ok (.iload_n 2, 1) := by decide +kernel
theorem dX6_wrong_30 : decode cX6_wrong 30 = .ok (.invokevirtual 153, 3) := by decide +kernel
theorem dX6_wrong_33 : decode cX6_wrong 33 = .ok (.iconst 0, 1) := by decide +kernel
theorem dX6_wrong_34 : decode cX6_wrong 34 = .ok (.istore_n 3, 1) := by decide +kernel
theorem dX6_wrong_35 : decode cX6_wrong 35 = .ok (.iconst 0, 1) := by decide +kernel
theorem dX6_wrong_36 : decode cX6_wrong 36 = .ok (.istore 4, 2) := by decide +kernel
theorem dX6_wrong_38 : decode cX6_wrong 38 = .ok (.iload 4, 2) := by decide +kernel
theorem dX6_wrong_40 : decode cX6_wrong 40 = .ok (.aload_n 0, 1) := by decide +kernel
theorem dX6_wrong_41 : decode cX6_wrong 41 = .ok (.getfield 13, 3) := by decide +kernel
theorem dX6_wrong_44 : decode cX6_wrong 44 = .ok (.if_icmp .ge 45, 3) := by decide +kernel
theorem dX6_wrong_47 : decode cX6_wrong 47 = .ok (.iload_n 3, 1) := by decide +kernel
theorem dX6_wrong_48 : decode cX6_wrong 48 = .ok (.ifCond .ne 29, 3) := by decide +kernel
theorem dX6_wrong_51 : decode cX6_wrong 51 = .ok (.aload_n 0, 1) := by decide +kernel
theorem dX6_wrong_52 : decode cX6_wrong 52 = .ok (.iload 4, 2) := by decide +kernel
theorem dX6_wrong_54 : decode cX6_wrong 54 = .ok (.invokevirtual 159, 3) := by decide +kernel
theorem dX6_wrong_57 : decode cX6_wrong 57 = .ok (.ifCond .eq 24, 3) := by decide +kernel
theorem dX6_wrong_60 : decode cX6_wrong 60 = .ok (.aload_n 0, 1) := by decide +kernel
theorem dX6_wrong_61 : decode cX6_wrong 61 = .ok (.iload 4, 2) := by decide +kernel
theorem dX6_wrong_63 : decode cX6_wrong 63 = .ok (.invokevirtual 162, 3) := by decide +kernel
theorem dX6_wrong_66 : decode cX6_wrong 66 = .ok (.aload_n 0, 1) := by decide +kernel
theorem dX6_wrong_67 : decode cX6_wrong 67 = .ok (.getfield 16, 3) := by decide +kernel
theorem dX6_wrong_70 : decode cX6_wrong 70 = .ok (.iload 4, 2) := by decide +kernel
theorem dX6_wrong_72 : decode cX6_wrong 72 = .ok (.laload, 1) := by decide +kernel
theorem dX6_wrong_73 : decode cX6_wrong 73 = .ok (.lcmp, 1) := by decide +kernel
theorem dX6_wrong_74 : decode cX6_wrong 74 = .ok (.ifCond .eq 7, 3) := by decide +kernel
theorem dX6_wrong_77 : decode cX6_wrong 77 = .ok (.iconst 1, 1) := by decide +kernel
theorem dX6_wrong_78 : decode cX6_wrong 78 = .ok (.goto 4, 3) := by decide +kernel
theorem dX6_wrong_81 : decode cX6_wrong 81 = .ok (.iconst 0, 1) := by decide +kernel
theorem dX6_wrong_82 : decode cX6_wrong 82 = .ok (.istore_n 3, 1) := by decide +kernel
theorem dX6_wrong_83 : decode cX6_wrong 83 = .ok (.iinc 4 1, 3) := by decide +kernel
theorem dX6_wrong_86 : decode cX6_wrong 86 = .ok (.goto (-48), 3) := by decide +kernel
theorem dX6_wrong_89 : decode cX6_wrong 89 = .ok (.iload_n 1, 1) := by decide +kernel
theorem dX6_wrong_90 : decode cX6_wrong 90 = .ok (.iload_n 3, 1) := by decide +kernel
theorem dX6_wrong_91 : decode cX6_wrong 91 = .ok (.ifCond .eq 7, 3) := by decide +kernel
theorem dX6_wrong_94 : decode cX6_wrong 94 = .ok (.iconst 1, 1) := by decide +kernel
theorem dX6_wrong_95 : decode cX6_wrong 95 = .ok (.goto 4, 3) := by decide +kernel
theorem dX6_wrong_98 : decode cX6_wrong 98 = .ok (.iconst 0, 1) := by decide +kernel
theorem dX6_wrong_99 : decode cX6_wrong 99 = .ok (.iadd, 1) := by decide +kernel
theorem dX6_wrong_100 : decode cX6_wrong 100 = .ok (.istore_n 1, 1) := by decide +kernel
theorem dX6_wrong_101 : decode cX6_wrong 101 = .ok (.iinc 2 1, 3) := by decide +kernel
theorem dX6_wrong_104 : decode cX6_wrong 104 = .ok (.goto (-96), 3) := by decide +kernel
theorem dX6_wrong_107 : decode cX6_wrong 107 = .ok (.iload_n 1, 1) := by decide +kernel
theorem dX6_wrong_108 : decode cX6_wrong 108 = .ok (.ireturn, 1) := by decide +kernel
set_option maxRecDepth 20000 in
theorem ggX6_left_X6_work : GoodIn wsX6_left wsX6_work := goodIn_r _ [7, 1, 8, 9, 10, 11, 12, 6, 13, 14, 15, 16, 17, 18, 19, 20, 21, 22, 23, 24, 25, 26, 27, 28, 29, 30, 31, 32, 33, 34, 35, 36, 37, 38, 39, 40, 41, 42, 71, 72, 73, 74, 75, 76, 77, 78, 79, 80, 81, 82, 83, 84, 85, 86, 87, 88, 89, 90, 91, 92, 93, 94, 95, 96, 97, 98, 99, 100, 101] (by decide +kernel) (by decide +kernel)
set_option maxRecDepth 20000 in
theorem gX6_left_X6_work : GoodIn wsX6_left (wsV RX6 140 RX6 yX6_work wsX6_work) := goodIn_app (goodIn_of _ (by decide +kernel)) ggX6_left_X6_work
set_option maxRecDepth 20000 in
theorem ggX6_left_X6_hasAll : GoodIn wsX6_left wsX6_hasAll := goodIn_r _ [46, 21, 47, 48, 49, 6, 50, 51, 8, 31, 52, 15, 53, 54, 55, 56, 57, 58, 59, 60, 61, 62, 63, 40, 41, 42, 64, 65, 66, 67, 68, 69, 70, 71, 72, 73, 74, 75, 76, 77, 78, 79, 80, 81, 82, 83, 84, 85, 86, 87, 88, 89, 90, 91, 92, 93, 94, 95, 96, 97, 98, 99, 100, 101] (by decide +kernel) (by decide +kernel)
set_option maxRecDepth 20000 in
theorem gX6_left_X6_hasAll : GoodIn wsX6_left (wsV RX6 173 RX6 yX6_hasAll wsX6_hasAll) := goodIn_app (goodIn_of _ (by decide +kernel)) ggX6_left_X6_hasAll
theorem dX6_left_0 : decode cX6_left 0 = .ok (.aload_n 0, 1) := by decide +kernel
theorem dX6_left_1 : decode cX6_left 1 = .ok (.invokevirtual 140, 3) := by decide +kernel
theorem dX6_left_4 : decode cX6_left 4 = .ok (.iconst 0, 1) := by decide +kernel
theorem dX6_left_5 : decode cX6_left 5 = .ok (.istore_n 1, 1) := by decide +kernel
theorem dX6_left_6 : decode cX6_left 6 = .ok (.iconst 1, 1) := by decide +kernel
theorem dX6_left_7 : decode cX6_left 7 = .ok (.istore_n 2, 1) := by decide +kernel
theorem dX6_left_8 : decode cX6_left 8 = .ok (.iload_n 2, 1) := by decide +kernel
theorem dX6_left_9 : decode cX6_left 9 = .ok (.aload_n 0, 1) := by decide +kernel
theorem dX6_left_10 : decode cX6_left 10 = .ok (.getfield 7, 3) := by decide +kernel
theorem dX6_left_13 : decode cX6_left 13 = .ok (.if_icmp .ge 34, 3) := by decide +kernel
theorem dX6_left_16 : decode cX6_left 16 = .ok (.iload_n 1, 1) := by decide +kernel
theorem dX6_left_17 : decode cX6_left 17 = .ok (.aload_n 0, 1) := by decide +kernel
theorem dX6_left_18 : decode cX6_left 18 = .ok (.getfield 20, 3) := by decide +kernel
theorem dX6_left_21 : decode cX6_left 21 = .ok (.iload_n 2, 1) := by decide +kernel
theorem dX6_left_22 : decode cX6_left 22 = .ok (.baload, 1) := by decide +kernel
theorem dX6_left_23 : decode cX6_left 23 = .ok (.ifCond .eq 15, 3) := by decide +kernel
theorem dX6_left_26 : decode cX6_left 26 = .ok (.aload_n 0, 1) := by decide +kernel
theorem dX6_left_27 : decode cX6_left 27 = .ok (.iload_n 2, 1) := by decide +kernel
theorem dX6_left_28 : decode cX6_left 28 = .ok (.invokevirtual 173, 3) := by decide +kernel
theorem dX6_left_31 : decode cX6_left 31 = .ok (.ifCond .ne 7, 3) := by decide +kernel
theorem dX6_left_34 : decode cX6_left 34 = .ok (.iconst 1, 1) := by decide +kernel
theorem dX6_left_35 : decode cX6_left 35 = .ok (.goto 4, 3) := by decide +kernel
theorem dX6_left_38 : decode cX6_left 38 = .ok (.iconst 0, 1) := by decide +kernel
theorem dX6_left_39 : decode cX6_left 39 = .ok (.iadd, 1) := by decide +kernel
theorem dX6_left_40 : decode cX6_left 40 = .ok (.istore_n 1, 1) := by decide +kernel
theorem dX6_left_41 : decode cX6_left 41 = .ok (.iinc 2 1, 3) := by decide +kernel
theorem dX6_left_44 : decode cX6_left 44 = .ok (.goto (-36), 3) := by decide +kernel
theorem dX6_left_47 : decode cX6_left 47 = .ok (.iload_n 1, 1) := by decide +kernel
theorem dX6_left_48 : decode cX6_left 48 = .ok (.ireturn, 1) := by decide +kernel
set_option maxRecDepth 20000 in
theorem ggX6_draw_X6_ins : GoodIn wsX6_draw wsX6_ins := goodIn_r _ [9, 10, 11, 12, 13, 14, 8, 15, 1, 16, 17, 18, 19, 20, 21, 22, 23, 24, 25, 26, 27, 28, 29, 30, 31, 32, 33, 34, 35, 36, 37, 38, 39, 40, 41, 42, 43, 44, 45, 46, 47] (by decide +kernel) (by decide +kernel)
set_option maxRecDepth 20000 in
theorem gX6_draw_X6_ins : GoodIn wsX6_draw (wsV RX6 118 RX6 yX6_ins wsX6_ins) := goodIn_app (goodIn_of _ (by decide +kernel)) ggX6_draw_X6_ins
theorem dX6_draw_0 : decode cX6_draw 0 = .ok (.iload_n 1, 1) := by decide +kernel
theorem dX6_draw_1 : decode cX6_draw 1 = .ok (.istore_n 2, 1) := by decide +kernel
theorem dX6_draw_2 : decode cX6_draw 2 = .ok (.iconst 0, 1) := by decide +kernel
theorem dX6_draw_3 : decode cX6_draw 3 = .ok (.istore_n 3, 1) := by decide +kernel
theorem dX6_draw_4 : decode cX6_draw 4 = .ok (.iconst 0, 1) := by decide +kernel
theorem dX6_draw_5 : decode cX6_draw 5 = .ok (.istore 4, 2) := by decide +kernel
theorem dX6_draw_7 : decode cX6_draw 7 = .ok (.iload 4, 2) := by decide +kernel
theorem dX6_draw_9 : decode cX6_draw 9 = .ok (.aload_n 0, 1) := by decide +kernel
theorem dX6_draw_10 : decode cX6_draw 10 = .ok (.getfield 105, 3) := by decide +kernel
theorem dX6_draw_13 : decode cX6_draw 13 = .ok (.if_icmp .ge 72, 3) := by decide +kernel
theorem dX6_draw_16 : decode cX6_draw 16 = .ok (.iconst 0, 1) := by decide +kernel
theorem dX6_draw_17 : decode cX6_draw 17 = .ok (.istore 5, 2) := by decide +kernel
theorem dX6_draw_19 : decode cX6_draw 19 = .ok (.iload 5, 2) := by decide +kernel
theorem dX6_draw_21 : decode cX6_draw 21 = .ok (.aload_n 0, 1) := by decide +kernel
theorem dX6_draw_22 : decode cX6_draw 22 = .ok (.iload 4, 2) := by decide +kernel
theorem dX6_draw_24 : decode cX6_draw 24 = .ok (.invokevirtual 118, 3) := by decide +kernel
theorem dX6_draw_27 : decode cX6_draw 27 = .ok (.if_icmp .ge 52, 3) := by decide +kernel
theorem dX6_draw_30 : decode cX6_draw 30 = .ok (.aload_n 0, 1) := by decide +kernel
theorem dX6_draw_31 : decode cX6_draw 31 = .ok (.getfield 31, 3) := by decide +kernel
theorem dX6_draw_34 : decode cX6_draw 34 = .ok (.iload 4, 2) := by decide +kernel
theorem dX6_draw_36 : decode cX6_draw 36 = .ok (.baload, 1) := by decide +kernel
theorem dX6_draw_37 : decode cX6_draw 37 = .ok (.ifCond .ne 42, 3) := by decide +kernel
theorem dX6_draw_40 : decode cX6_draw 40 = .ok (.ldc 176, 2) := by decide +kernel
theorem dX6_draw_42 : decode cX6_draw 42 = .ok (.iload_n 2, 1) := by decide +kernel
theorem dX6_draw_43 : decode cX6_draw 43 = .ok (.imul, 1) := by decide +kernel
theorem dX6_draw_44 : decode cX6_draw 44 = .ok (.sipush 12345, 3) := by decide +kernel
theorem dX6_draw_47 : decode cX6_draw 47 = .ok (.iadd, 1) := by decide +kernel
theorem dX6_draw_48 : decode cX6_draw 48 = .ok (.istore_n 2, 1) := by decide +kernel
theorem dX6_draw_49 : decode cX6_draw 49 = .ok (.aload_n 0, 1) := by decide +kernel
theorem dX6_draw_50 : decode cX6_draw 50 = .ok (.getfield 40, 3) := by decide +kernel
theorem dX6_draw_53 : decode cX6_draw 53 = .ok (.bipush 30, 2) := by decide +kernel
theorem dX6_draw_55 : decode cX6_draw 55 = .ok (.iload 4, 2) := by decide +kernel
theorem dX6_draw_57 : decode cX6_draw 57 = .ok (.imul, 1) := by decide +kernel
theorem dX6_draw_58 : decode cX6_draw 58 = .ok (.iload 5, 2) := by decide +kernel
theorem dX6_draw_60 : decode cX6_draw 60 = .ok (.iadd, 1) := by decide +kernel
theorem dX6_draw_61 : decode cX6_draw 61 = .ok (.iload_n 2, 1) := by decide +kernel
theorem dX6_draw_62 : decode cX6_draw 62 = .ok (.bipush 16, 2) := by decide +kernel
theorem dX6_draw_64 : decode cX6_draw 64 = .ok (.iushr, 1) := by decide +kernel
theorem dX6_draw_65 : decode cX6_draw 65 = .ok (.sipush 255, 3) := by decide +kernel
theorem dX6_draw_68 : decode cX6_draw 68 = .ok (.iand, 1) := by decide +kernel
theorem dX6_draw_69 : decode cX6_draw 69 = .ok (.iastore, 1) := by decide +kernel
theorem dX6_draw_70 : decode cX6_draw 70 = .ok (.iinc 3 1, 3) := by decide +kernel
theorem dX6_draw_73 : decode cX6_draw 73 = .ok (.iinc 5 1, 3) := by decide +kernel
theorem dX6_draw_76 : decode cX6_draw 76 = .ok (.goto (-57), 3) := by decide +kernel
theorem dX6_draw_79 : decode cX6_draw 79 = .ok (.iinc 4 1, 3) := by decide +kernel
theorem dX6_draw_82 : decode cX6_draw 82 = .ok (.goto (-75), 3) := by decide +kernel
theorem dX6_draw_85 : decode cX6_draw 85 = .ok (.iload_n 3, 1) := by decide +kernel
theorem dX6_draw_86 : decode cX6_draw 86 = .ok (.ireturn, 1) := by decide +kernel
theorem dX6_ends_0 : decode cX6_ends 0 = .ok (.iconst 0, 1) := by decide +kernel
