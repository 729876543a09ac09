theorem dX6_lineIn_41 : decode cX6_lineIn 41 = .ok (.goto (-36), 3) := by decide +kernel
theorem dX6_lineIn_44 : decode cX6_lineIn 44 = .ok (.iconst (-1), 1) := by decide +kernel
theorem dX6_lineIn_45 : decode cX6_lineIn 45 = .ok (.ireturn, 1) := by decide +kernel
theorem dX6_relay_0 : decode cX6_relay 0 = .ok (.aload_n 0, 1) := by decide +kernel
theorem dX6_relay_1 : decode cX6_relay 1 = .ok (.getfield 7, 3) := by decide +kernel
theorem dX6_relay_4 : decode cX6_relay 4 = .ok (.bipush 12, 2) := by decide +kernel
theorem dX6_relay_6 : decode cX6_relay 6 = .ok (.if_icmp .ne 6, 3) := by decide +kernel
theorem dX6_relay_9 : decode cX6_relay 9 = .ok (.bipush (-4), 2) := by decide +kernel
theorem dX6_relay_11 : decode cX6_relay 11 = .ok (.ireturn, 1) := by decide +kernel
theorem dX6_relay_12 : decode cX6_relay 12 = .ok (.aload_n 0, 1) := by decide +kernel
theorem dX6_relay_13 : decode cX6_relay 13 = .ok (.dup, 1) := by decide +kernel
theorem dX6_relay_14 : decode cX6_relay 14 = .ok (.getfield 7, 3) := by decide +kernel
theorem dX6_relay_17 : decode cX6_relay 17 = .ok (.iconst 1, 1) := by decide +kernel
theorem dX6_relay_18 : decode cX6_relay 18 = .ok (.iadd, 1) := by decide +kernel
theorem dX6_relay_19 : decode cX6_relay 19 = .ok (.putfield 7, 3) := by decide +kernel
theorem dX6_relay_22 : decode cX6_relay 22 = .ok (.aload_n 0, 1) := by decide +kernel
theorem dX6_relay_23 : decode cX6_relay 23 = .ok (.getfield 7, 3) := by decide +kernel
theorem dX6_relay_26 : decode cX6_relay 26 = .ok (.iconst 1, 1) := by decide +kernel
theorem dX6_relay_27 : decode cX6_relay 27 = .ok (.isub, 1) := by decide +kernel
theorem dX6_relay_28 : decode cX6_relay 28 = .ok (.ireturn, 1) := by decide +kernel
set_option maxRecDepth 20000 in
theorem ggX6_line_X6_isRelay : GoodIn wsX6_line wsX6_isRelay := goodIn_r _ [8, 9, 10, 11, 7, 12, 13, 14, 15, 16, 17, 18, 19, 20, 21, 22, 23, 24, 25, 26, 27, 28, 29, 30, 31, 32, 33, 34, 35, 36, 37, 38, 39, 40, 41, 42, 43] (by decide +kernel) (by decide +kernel)
set_option maxRecDepth 20000 in
theorem gX6_line_X6_isRelay : GoodIn wsX6_line (wsV RX6 111 RX6 yX6_isRelay wsX6_isRelay) := goodIn_app (goodIn_of _ (by decide +kernel)) ggX6_line_X6_isRelay
theorem dX6_line_0 : decode cX6_line 0 = .ok (.aload_n 0, 1) := by decide +kernel
theorem dX6_line_1 : decode cX6_line 1 = .ok (.iload_n 1, 1) := by decide +kernel
theorem dX6_line_2 : decode cX6_line 2 = .ok (.invokevirtual 111, 3) := by decide +kernel
theorem dX6_line_5 : decode cX6_line 5 = .ok (.ifCond .eq 11, 3) := by decide +kernel
theorem dX6_line_8 : decode cX6_line 8 = .ok (.aload_n 0, 1) := by decide +kernel
theorem dX6_line_9 : decode cX6_line 9 = .ok (.iload_n 2, 1) := by decide +kernel
theorem dX6_line_10 : decode cX6_line 10 = .ok (.invokevirtual 111, 3) := by decide +kernel
theorem dX6_line_13 : decode cX6_line 13 = .ok (.ifCond .ne 5, 3) := by decide +kernel
theorem dX6_line_16 : decode cX6_line 16 = .ok (.iconst (-1), 1) := by decide +kernel
theorem dX6_line_17 : decode cX6_line 17 = .ok (.ireturn, 1) := by decide +kernel
theorem dX6_line_18 : decode cX6_line 18 = .ok (.iload_n 2, 1) := by decide +kernel
theorem dX6_line_19 : decode cX6_line 19 = .ok (.iload_n 1, 1) := by decide +kernel
theorem dX6_line_20 : decode cX6_line 20 = .ok (.if_icmp .gt 6, 3) := by decide +kernel
theorem dX6_line_23 : decode cX6_line 23 = .ok (.bipush (-2), 2) := by decide +kernel
theorem dX6_line_25 : decode cX6_line 25 = .ok (.ireturn, 1) := by decide +kernel
theorem dX6_line_26 : decode cX6_line 26 = .ok (.aload_n 0, 1) := by decide +kernel
theorem dX6_line_27 : decode cX6_line 27 = .ok (.getfield 105, 3) := by decide +kernel
theorem dX6_line_30 : decode cX6_line 30 = .ok (.bipush 30, 2) := by decide +kernel
theorem dX6_line_32 : decode cX6_line 32 = .ok (.if_icmp .ne 6, 3) := by decide +kernel
theorem dX6_line_35 : decode cX6_line 35 = .ok (.bipush (-4), 2) := by decide +kernel
theorem dX6_line_37 : decode cX6_line 37 = .ok (.ireturn, 1) := by decide +kernel
theorem dX6_line_38 : decode cX6_line 38 = .ok (.aload_n 0, 1) := by decide +kernel
theorem dX6_line_39 : decode cX6_line 39 = .ok (.getfield 24, 3) := by decide +kernel
theorem dX6_line_42 : decode cX6_line 42 = .ok (.aload_n 0, 1) := by decide +kernel
theorem dX6_line_43 : decode cX6_line 43 = .ok (.getfield 105, 3) := by decide +kernel
theorem dX6_line_46 : decode cX6_line 46 = .ok (.iload_n 1, 1) := by decide +kernel
theorem dX6_line_47 : decode cX6_line 47 = .ok (.iastore, 1) := by decide +kernel
theorem dX6_line_48 : decode cX6_line 48 = .ok (.aload_n 0, 1) := by decide +kernel
theorem dX6_line_49 : decode cX6_line 49 = .ok (.getfield 28, 3) := by decide +kernel
theorem dX6_line_52 : decode cX6_line 52 = .ok (.aload_n 0, 1) := by decide +kernel
theorem dX6_line_53 : decode cX6_line 53 = .ok (.getfield 105, 3) := by decide +kernel
theorem dX6_line_56 : decode cX6_line 56 = .ok (.iload_n 2, 1) := by decide +kernel
theorem dX6_line_57 : decode cX6_line 57 = .ok (.iastore, 1) := by decide +kernel
theorem dX6_line_58 : decode cX6_line 58 = .ok (.aload_n 0, 1) := by decide +kernel
theorem dX6_line_59 : decode cX6_line 59 = .ok (.dup, 1) := by decide +kernel
theorem dX6_line_60 : decode cX6_line 60 = .ok (.getfield 105, 3) := by decide +kernel
theorem dX6_line_63 : decode cX6_line 63 = .ok (.iconst 1, 1) := by decide +kernel
theorem dX6_line_64 : decode cX6_line 64 = .ok (.iadd, 1) := by decide +kernel
theorem dX6_line_65 : decode cX6_line 65 = .ok (.putfield 105, 3) := by decide +kernel
theorem dX6_line_68 : decode cX6_line 68 = .ok (.aload_n 0, 1) := by decide +kernel
theorem dX6_line_69 : decode cX6_line 69 = .ok (.getfield 105, 3) := by decide +kernel
theorem dX6_line_72 : decode cX6_line 72 = .ok (.iconst 1, 1) := by decide +kernel
theorem dX6_line_73 : decode cX6_line 73 = .ok (.isub, 1) := by decide +kernel
theorem dX6_line_74 : decode cX6_line 74 = .ok (.ireturn, 1) := by decide +kernel
set_option maxRecDepth 20000 in
theorem ggX6_pieces_X6_in : GoodIn wsX6_pieces wsX6_in := goodIn_r _ [7] (by decide +kernel) (by decide +kernel)
set_option maxRecDepth 20000 in
theorem gX6_pieces_X6_in : GoodIn wsX6_pieces (va_wsS RX6 97 yX6_in wsX6_in) := goodIn_app (goodIn_of _ (by decide +kernel)) ggX6_pieces_X6_in
theorem dX6_pieces_0 : decode cX6_pieces 0 = .ok (.iload_n 1, 1) := by decide +kernel
theorem dX6_pieces_1 : decode cX6_pieces 1 = .ok (.iconst 1, 1) := by decide +kernel
theorem dX6_pieces_2 : decode cX6_pieces 2 = .ok (.iconst 4, 1) := by decide +kernel
theorem dX6_pieces_3 : decode cX6_pieces 3 = .ok (.invokestatic 97, 3) := by decide +kernel
theorem dX6_pieces_6 : decode cX6_pieces 6 = .ok (.ifCond .ne 6, 3) := by decide +kernel
theorem dX6_pieces_9 : decode cX6_pieces 9 = .ok (.bipush (-2), 2) := by decide +kernel
theorem dX6_pieces_11 : decode cX6_pieces 11 = .ok (.ireturn, 1) := by decide +kernel
theorem dX6_pieces_12 : decode cX6_pieces 12 = .ok (.aload_n 0, 1) := by decide +kernel
theorem dX6_pieces_13 : decode cX6_pieces 13 = .ok (.getfield 105, 3) := by decide +kernel
theorem dX6_pieces_16 : decode cX6_pieces 16 = .ok (.ifCond .le 6, 3) := by decide +kernel
theorem dX6_pieces_19 : decode cX6_pieces 19 = .ok (.bipush (-3), 2) := by decide +kernel
theorem dX6_pieces_21 : decode cX6_pieces 21 = .ok (.ireturn, 1) := by decide +kernel
theorem dX6_pieces_22 : decode cX6_pieces 22 = .ok (.aload_n 0, 1) := by decide +kernel
theorem dX6_pieces_23 : decode cX6_pieces 23 = .ok (.getfield 13, 3) := by decide +kernel
theorem dX6_pieces_26 : decode cX6_pieces 26 = .ok (.istore_n 2, 1) := by decide +kernel
theorem dX6_pieces_27 : decode cX6_pieces 27 = .ok (.aload_n 0, 1) := by decide +kernel
theorem dX6_pieces_28 : decode cX6_pieces 28 = .ok (.iload_n 1, 1) := by decide +kernel
theorem dX6_pieces_29 : decode cX6_pieces 29 = .ok (.putfield 13, 3) := by decide +kernel
theorem dX6_pieces_32 : decode cX6_pieces 32 = .ok (.iconst 0, 1) := by decide +kernel
theorem dX6_pieces_33 : decode cX6_pieces 33 = .ok (.istore_n 3, 1) := by decide +kernel
theorem dX6_pieces_34 : decode cX6_pieces 34 = .ok (.iload_n 3, 1) := by decide +kernel
theorem dX6_pieces_35 : decode cX6_pieces 35 = .ok (.iconst 4, 1) := by decide +kernel
theorem dX6_pieces_36 : decode cX6_pieces 36 = .ok (.if_icmp .ge 16, 3) := by decide +kernel
theorem dX6_pieces_39 : decode cX6_pieces 39 = .ok (.aload_n 0, 1) := by decide +kernel
theorem dX6_pieces_40 : decode cX6_pieces 40 = .ok (.getfield 16, 3) := by decide +kernel
theorem dX6_pieces_43 : decode cX6_pieces 43 = .ok (.iload_n 3, 1) := by decide +kernel
theorem dX6_pieces_44 : decode cX6_pieces 44 = .ok (.lconst 0, 1) := by decide +kernel
theorem dX6_pieces_45 : decode cX6_pieces 45 = .ok (.lastore, 1) := by decide +kernel
theorem dX6_pieces_46 : decode cX6_pieces 46 = .ok (.iinc 3 1, 3) := by decide +kernel
theorem dX6_pieces_49 : decode cX6_pieces 49 = .ok (.goto (-15), 3) := by decide +kernel
theorem dX6_pieces_52 : decode cX6_pieces 52 = .ok (.iload_n 2, 1) := by decide +kernel
theorem dX6_pieces_53 : decode cX6_pieces 53 = .ok (.ireturn, 1) := by decide +kernel
set_option maxRecDepth 20000 in
theorem ggX6_piece_X6_in : GoodIn wsX6_piece wsX6_in := goodIn_r _ [6] (by decide +kernel) (by decide +kernel)
set_option maxRecDepth 20000 in
theorem gX6_piece_X6_in : GoodIn wsX6_piece (va_wsS RX6 97 yX6_in wsX6_in) := goodIn_app (goodIn_of _ (by decide +kernel)) ggX6_piece_X6_in
theorem dX6_piece_0 : decode cX6_piece 0 = .ok (.iload_n 1, 1) := by decide +kernel
theorem dX6_piece_1 : decode cX6_piece 1 = .ok (.iconst 0, 1) := by decide +kernel
theorem dX6_piece_2 : decode cX6_piece 2 = .ok (.aload_n 0, 1) := by decide +kernel
theorem dX6_piece_3 : decode cX6_piece 3 = .ok (.getfield 13, 3) := by decide +kernel
theorem dX6_piece_6 : decode cX6_piece 6 = .ok (.iconst 1, 1) := by decide +kernel
theorem dX6_piece_7 : decode cX6_piece 7 = .ok (.isub, 1) := by decide +kernel
theorem dX6_piece_8 : decode cX6_piece 8 = .ok (.invokestatic 97, 3) := by decide +kernel
theorem dX6_piece_11 : decode cX6_piece 11 = .ok (.ifCond .ne 5, 3) := by decide +kernel
theorem dX6_piece_14 : decode cX6_piece 14 = .ok (.iconst (-1), 1) := by decide +kernel
theorem dX6_piece_15 : decode cX6_piece 15 = .ok (.ireturn, 1) := by decide +kernel
theorem dX6_piece_16 : decode cX6_piece 16 = .ok (.aload_n 0, 1) := by decide +kernel
theorem dX6_piece_17 : decode cX6_piece 17 = .ok (.getfield 16, 3) := by decide +kernel
theorem dX6_piece_20 : decode cX6_piece 20 = .ok (.iload_n 1, 1) := by decide +kernel
theorem dX6_piece_21 : decode cX6_piece 21 = .ok (.lload_n 2, 1) := by decide +kernel
theorem dX6_piece_22 : decode cX6_piece 22 = .ok (.lastore, 1) := by decide +kernel
theorem dX6_piece_23 : decode cX6_piece 23 = .ok (.iconst 0, 1) := by decide +kernel
theorem dX6_piece_24 : decode cX6_piece 24 = .ok (.ireturn, 1) := by decide +kernel
set_option maxRecDepth 20000 in
theorem ggX6_end_X6_isRelay : GoodIn wsX6_end wsX6_isRelay := goodIn_r _ [6, 7, 8, 9, 5, 10, 11, 12, 13, 14, 15, 16, 17, 18, 19, 20, 21, 22, 23, 24, 25, 26, 27, 28, 29, 30, 31, 32, 33, 34, 35, 36, 37, 38, 39, 40, 41] (by decide +kernel) (by decide +kernel)
set_option maxRecDepth 20000 in
theorem gX6_end_X6_isRelay : GoodIn wsX6_end (wsV RX6 111 RX6 yX6_isRelay wsX6_isRelay) := goodIn_app (goodIn_of _ (by decide +kernel)) ggX6_end_X6_isRelay
set_option maxRecDepth 20000 in
theorem ggX6_end_X6_in : GoodIn wsX6_end wsX6_in := goodIn_r _ [10] (by decide +kernel) (by decide +kernel)
set_option maxRecDepth 20000 in
theorem gX6_end_X6_in : GoodIn wsX6_end (va_wsS RX6 97 yX6_in wsX6_in) := goodIn_app (goodIn_of _ (by decide +kernel)) ggX6_end_X6_in
theorem dX6_end_0 : decode cX6_end 0 = .ok (.aload_n 0, 1) := by decide +kernel
theorem dX6_end_1 : decode cX6_end 1 = .ok (.iload_n 1, 1) := by decide +kernel
theorem dX6_end_2 : decode cX6_end 2 = .ok (.invokevirtual 111, 3) := by decide +kernel
theorem dX6_end_5 : decode cX6_end 5 = .ok (.ifCond .ne 5, 3) := by decide +kernel
theorem dX6_end_8 : decode cX6_end 8 = .ok (.iconst (-1), 1) := by decide +kernel
theorem dX6_end_9 : decode cX6_end 9 = .ok (.ireturn, 1) := by decide +kernel
theorem dX6_end_10 : decode cX6_end 10 = .ok (.iload_n 2, 1) := by decide +kernel
theorem dX6_end_11 : decode cX6_end 11 = .ok (.iconst 0, 1) := by decide +kernel
theorem dX6_end_12 : decode cX6_end 12 = .ok (.iconst 1, 1) := by decide +kernel
theorem dX6_end_13 : decode cX6_end 13 = .ok (.invokestatic 97, 3) := by decide +kernel
theorem dX6_end_16 : decode cX6_end 16 = .ok (.ifCond .eq 7, 3) := by decide +kernel
theorem dX6_end_19 : decode cX6_end 19 = .ok (.iload_n 1, 1) := by decide +kernel
theorem dX6_end_20 : decode cX6_end 20 = .ok (.ifCond .ne 6, 3) := by decide +kernel
theorem dX6_end_23 : decode cX6_end 23 = .ok (.bipush (-2), 2) := by decide +kernel
theorem dX6_end_25 : decode cX6_end 25 = .ok (.ireturn, 1) := by decide +kernel
theorem dX6_end_26 : decode cX6_end 26 = .ok (.aload_n 0, 1) := by decide +kernel
theorem dX6_end_27 : decode cX6_end 27 = .ok (.getfield 20, 3) := by decide +kernel
theorem dX6_end_30 : decode cX6_end 30 = .ok (.iload_n 1, 1) := by decide +kernel
theorem dX6_end_31 : decode cX6_end 31 = .ok (.baload, 1) := by decide +kernel
theorem dX6_end_32 : decode cX6_end 32 = .ok (.ifCond .eq 7, 3) := by decide +kernel
theorem dX6_end_35 : decode cX6_end 35 = .ok (.iconst 1, 1) := by decide +kernel
theorem dX6_end_36 : decode cX6_end 36 = .ok (.goto 4, 3) := by decide +kernel
theorem dX6_end_39 : decode cX6_end 39 = .ok (.iconst 0, 1) := by decide +kernel
theorem dX6_end_40 : decode cX6_end 40 = .ok (.istore_n 3, 1) := by decide +kernel
theorem dX6_end_41 : decode cX6_end 41 = .ok (.aload_n 0, 1) := by decide +kernel
theorem dX6_end_42 : decode cX6_end 42 = .ok (.getfield 20, 3) := by decide +kernel
theorem dX6_end_45 : decode cX6_end 45 = .ok (.iload_n 1, 1) := by decide +kernel
theorem dX6_end_46 : decode cX6_end 46 = .ok (.iload_n 2, 1) := by decide +kernel
theorem dX6_end_47 : decode cX6_end 47 = .ok (.iconst 1, 1) := by decide +kernel
theorem dX6_end_48 : decode cX6_end 48 = .ok (.if_icmp .ne 7, 3) := by decide +kernel
theorem dX6_end_51 : decode cX6_end 51 = .ok (.iconst 1, 1) := by decide +kernel
theorem dX6_end_52 : decode cX6_end 52 = .ok (.goto 4, 3) := by decide +kernel
theorem dX6_end_55 : decode cX6_end 55 = .ok (.iconst 0, 1) := by decide +kernel
theorem dX6_end_56 : decode cX6_end 56 = .ok (.bastore, 1) := by decide +kernel
theorem dX6_end_57 : decode cX6_end 57 = .ok (.iload_n 3, 1) := by decide +kernel
theorem dX6_end_58 : decode cX6_end 58 = .ok (.ireturn, 1) := by decide +kernel
set_option maxRecDepth 20000 in
theorem ggX6_factor_X6_isLine : GoodIn wsX6_factor wsX6_isLine := goodIn_r _ [6, 7, 8, 9, 5, 10, 22, 23, 24, 25, 26, 27, 28, 29, 30, 31, 32, 33, 34, 35, 36, 37, 38, 39, 40, 41, 42, 43, 44, 45, 46, 47, 48, 49, 50, 51, 52] (by decide +kernel) (by decide +kernel)
set_option maxRecDepth 20000 in
theorem gX6_factor_X6_isLine : GoodIn wsX6_factor (wsV RX6 115 RX6 yX6_isLine wsX6_isLine) := goodIn_app (goodIn_of _ (by decide +kernel)) ggX6_factor_X6_isLine
set_option maxRecDepth 20000 in
theorem ggX6_factor_X6_ins : GoodIn wsX6_factor wsX6_ins := goodIn_r _ [14, 15, 16, 17, 18, 19, 5, 20, 7, 21, 22, 23, 24, 25, 26, 27, 28, 29, 30, 31, 32, 33, 34, 35, 36, 37, 38, 39, 40, 41, 42, 43, 44, 45, 46, 47, 48, 49, 50, 51, 52] (by decide +kernel) (by decide +kernel)
set_option maxRecDepth 20000 in
theorem gX6_factor_X6_ins : GoodIn wsX6_factor (wsV RX6 118 RX6 yX6_ins wsX6_ins) := goodIn_app (goodIn_of _ (by decide +kernel)) ggX6_factor_X6_ins
set_option maxRecDepth 20000 in
theorem ggX6_factor_X6_in : GoodIn wsX6_factor wsX6_in := goodIn_r _ [10] (by decide +kernel) (by decide +kernel)
set_option maxRecDepth 20000 in
theorem gX6_factor_X6_in : GoodIn wsX6_factor (va_wsS RX6 97 yX6_in wsX6_in) := goodIn_app (goodIn_of _ (by decide +kernel)) ggX6_factor_X6_in
theorem dX6_factor_0 : decode cX6_factor 0 = .ok (.aload_n 0, 1) := by decide +kernel
theorem dX6_factor_1 : decode cX6_factor 1 = .ok (.iload_n 1, 1) := by decide +kernel
theorem dX6_factor_2 : decode cX6_factor 2 = .ok (.invokevirtual 115, 3) := by decide +kernel
theorem dX6_factor_5 : decode cX6_factor 5 = .ok (.ifCond .eq 18, 3) := by decide +kernel
theorem dX6_factor_8 : decode cX6_factor 8 = .ok (.iload_n 2, 1) := by decide +kernel
theorem dX6_factor_9 : decode cX6_factor 9 = .ok (.iconst 0, 1) := by decide +kernel
theorem dX6_factor_10 : decode cX6_factor 10 = .ok (.aload_n 0, 1) := by decide +kernel
theorem dX6_factor_11 : decode cX6_factor 11 = .ok (.iload_n 1, 1) := by decide +kernel
theorem dX6_factor_12 : decode cX6_factor 12 = .ok (.invokevirtual 118, 3) := by decide +kernel
theorem dX6_factor_15 : decode cX6_factor 15 = .ok (.iconst 1, 1) := by decide +kernel
theorem dX6_factor_16 : decode cX6_factor 16 = .ok (.isub, 1) := by decide +kernel
theorem dX6_factor_17 : decode cX6_factor 17 = .ok (.invokestatic 97, 3) := by decide +kernel
theorem dX6_factor_20 : decode cX6_factor 20 = .ok (.ifCond .ne 5, 3) := by decide +kernel
theorem dX6_factor_23 : decode cX6_factor 23 = .ok (.iconst (-1), 1) := by decide +kernel
theorem dX6_factor_24 : decode cX6_factor 24 = .ok (.ireturn, 1) := by decide +kernel
theorem dX6_factor_25 : decode cX6_factor 25 = .ok (.iload_n 3, 1) := by decide +kernel
theorem dX6_factor_26 : decode cX6_factor 26 = .ok (.iconst 0, 1) := by decide +kernel
theorem dX6_factor_27 : decode cX6_factor 27 = .ok (.sipush 255, 3) := by decide +kernel
theorem dX6_factor_30 : decode cX6_factor 30 = .ok (.invokestatic 97, 3) := by decide +kernel
theorem dX6_factor_33 : decode cX6_factor 33 = .ok (.ifCond .ne 6, 3) := by decide +kernel
theorem dX6_factor_36 : decode cX6_factor 36 = .ok (.bipush (-2), 2) := by decide +kernel
theorem dX6_factor_38 : decode cX6_factor 38 = .ok (.ireturn, 1) := by decide +kernel
theorem dX6_factor_39 : decode cX6_factor 39 = .ok (.aload_n 0, 1) := by decide +kernel
theorem dX6_factor_40 : decode cX6_factor 40 = .ok (.getfield 40, 3) := by decide +kernel
theorem dX6_factor_43 : decode cX6_factor 43 = .ok (.bipush 30, 2) := by decide +kernel
theorem dX6_factor_45 : decode cX6_factor 45 = .ok (.iload_n 1, 1) := by decide +kernel
theorem dX6_factor_46 : decode cX6_factor 46 = .ok (.imul, 1) := by decide +kernel
theorem dX6_factor_47 : decode cX6_factor 47 = .ok (.iload_n 2, 1) := by decide +kernel
theorem dX6_factor_48 : decode cX6_factor 48 = .ok (.iadd, 1) := by decide +kernel
theorem dX6_factor_49 : decode cX6_factor 49 = .ok (.iaload, 1) := by decide +kernel
theorem dX6_factor_50 : decode cX6_factor 50 = .ok (.istore 4, 2) := by decide +kernel
theorem dX6_factor_52 : decode cX6_factor 52 = .ok (.aload_n 0, 1) := by decide +kernel
theorem dX6_factor_53 : decode cX6_factor 53 = .ok (.getfield 40, 3) := by decide +kernel
theorem dX6_factor_56 : decode cX6_factor 56 = .ok (.bipush 30, 2) := by decide +kernel
theorem dX6_factor_58 : decode cX6_factor 58 = .ok (.iload_n 1, 1) := by decide +kernel
theorem dX6_factor_59 : decode cX6_factor 59 = .ok (.imul, 1) := by decide +kernel
theorem dX6_factor_60 : decode cX6_factor 60 = .ok (.iload_n 2, 1) := by decide +kernel
theorem dX6_factor_61 : decode cX6_factor 61 = .ok (.iadd, 1) := by decide +kernel
theorem dX6_factor_62 : decode cX6_factor 62 = .ok (.iload_n 3, 1) := by decide +kernel
theorem dX6_factor_63 : decode cX6_factor 63 = .ok (.iastore, 1) := by decide +kernel
theorem dX6_factor_64 : decode cX6_factor 64 = .ok (.iload 4, 2) := by decide +kernel
theorem dX6_factor_66 : decode cX6_factor 66 = .ok (.ireturn, 1) := by decide +kernel
set_option maxRecDepth 20000 in
theorem ggX6_keep_X6_isLine : GoodIn wsX6_keep wsX6_isLine := goodIn_r _ [6, 7, 8, 9, 5, 10, 11, 12, 13, 14, 15, 16, 17, 18, 19, 20, 21, 22, 23, 24, 25, 26, 27, 28, 29, 30, 31, 32, 33, 34, 35, 36, 37, 38, 39, 40, 41] (by decide +kernel) (by decide +kernel)
set_option maxRecDepth 20000 in
theorem gX6_keep_X6_isLine : GoodIn wsX6_keep (wsV RX6 115 RX6 yX6_isLine wsX6_isLine) := goodIn_app (goodIn_of _ (by decide +kernel)) ggX6_keep_X6_isLine
set_option maxRecDepth 20000 in
theorem ggX6_keep_X6_in : GoodIn wsX6_keep wsX6_in := goodIn_r _ [10] (by decide +kernel) (by decide +kernel)
set_option maxRecDepth 20000 in
theorem gX6_keep_X6_in : GoodIn wsX6_keep (va_wsS RX6 97 yX6_in wsX6_in) := goodIn_app (goodIn_of _ (by decide +kernel)) ggX6_keep_X6_in
theorem dX6_keep_0 : decode cX6_keep 0 = .ok (.aload_n 0, 1) := by decide +kernel
theorem dX6_keep_1 : decode cX6_keep 1 = .ok (.iload_n 1, 1) := by decide +kernel
theorem dX6_keep_2 : decode cX6_keep 2 = .ok (.invokevirtual 115, 3) := by decide +kernel
theorem dX6_keep_5 : decode cX6_keep 5 = .ok (.ifCond .ne 5, 3) := by decide +kernel
theorem dX6_keep_8 : decode cX6_keep 8 = .ok (.iconst (-1), 1) := by decide +kernel
theorem dX6_keep_9 : decode cX6_keep 9 = .ok (.ireturn, 1) := by decide +kernel
theorem dX6_keep_10 : decode cX6_keep 10 = .ok (.iload_n 2, 1) := by decide +kernel
theorem dX6_keep_11 : decode cX6_keep 11 = .ok (.iconst 0, 1) := by decide +kernel
theorem dX6_keep_12 : decode cX6_keep 12 = .ok (.iconst 1, 1) := by decide +kernel
theorem dX6_keep_13 : decode cX6_keep 13 = .ok (.invokestatic 97, 3) := by decide +kernel
theorem dX6_keep_16 : decode cX6_keep 16 = .ok (.ifCond .ne 6, 3) := by decide +kernel
theorem dX6_keep_19 : decode cX6_keep 19 = .ok (.bipush (-2), 2) := by decide +kernel
theorem dX6_keep_21 : decode cX6_keep 21 = .ok (.ireturn, 1) := by decide +kernel
theorem dX6_keep_22 : decode cX6_keep 22 = .ok (.aload_n 0, 1) := by decide +kernel
theorem dX6_keep_23 : decode cX6_keep 23 = .ok (.getfield 31, 3) := by decide +kernel
theorem dX6_keep_26 : decode cX6_keep 26 = .ok (.iload_n 1, 1) := by decide +kernel
theorem dX6_keep_27 : decode cX6_keep 27 = .ok (.baload, 1) := by decide +kernel
theorem dX6_keep_28 : decode cX6_keep 28 = .ok (.ifCond .eq 7, 3) := by decide +kernel
theorem dX6_keep_31 : decode cX6_keep 31 = .ok (.iconst 1, 1) := by decide +kernel
theorem dX6_keep_32 : decode cX6_keep 32 = .ok (.goto 4, 3) := by decide +kernel
theorem dX6_keep_35 : decode cX6_keep 35 = .ok (.iconst 0, 1) := by decide +kernel
theorem dX6_keep_36 : decode cX6_keep 36 = .ok (.istore_n 3, 1) := by decide +kernel
theorem dX6_keep_37 : decode cX6_keep 37 = .ok (.aload_n 0, 1) := by decide +kernel
theorem dX6_keep_38 : decode cX6_keep 38 = .ok (.getfield 31, 3) := by decide +kernel
theorem dX6_keep_41 : decode cX6_keep 41 = .ok (.iload_n 1, 1) := by decide +kernel
theorem dX6_keep_42 : decode cX6_keep 42 = .ok (.iload_n 2, 1) := by decide +kernel
theorem dX6_keep_43 : decode cX6_keep 43 = .ok (.iconst 1, 1) := by decide +kernel
theorem dX6_keep_44 : decode cX6_keep 44 = .ok (.if_icmp .ne 7, 3) := by decide +kernel
theorem dX6_keep_47 : decode cX6_keep 47 = .ok (.iconst 1, 1) := by decide +kernel
theorem dX6_keep_48 : decode cX6_keep 48 = .ok (.goto 4, 3) := by decide +kernel
theorem dX6_keep_51 : decode cX6_keep 51 = .ok (.iconst 0, 1) := by decide +kernel
theorem dX6_keep_52 : decode cX6_keep 52 = .ok (.bastore, 1) := by decide +kernel
theorem dX6_keep_53 : decode cX6_keep 53 = .ok (.iload_n 3, 1) := by decide +kernel
theorem dX6_keep_54 : decode cX6_keep 54 = .ok (.ireturn, 1) := by decide +kernel
set_option maxRecDepth 20000 in
theorem ggX6_broken_X6_isLine : GoodIn wsX6_broken wsX6_isLine := goodIn_r _ [6, 7, 8, 9, 5, 10, 11, 12, 13, 14, 15, 16, 17, 18, 19, 20, 21, 22, 23, 24, 25, 26, 27, 28, 29, 30, 31, 32, 33, 34, 35, 36, 37, 38, 39, 40, 41] (by decide +kernel) (by decide +kernel)
set_option maxRecDepth 20000 in
theorem gX6_broken_X6_isLine : GoodIn wsX6_broken (wsV RX6 115 RX6 yX6_isLine wsX6_isLine) := goodIn_app (goodIn_of _ (by decide +kernel)) ggX6_broken_X6_isLine
set_option maxRecDepth 20000 in
theorem ggX6_broken_X6_in : GoodIn wsX6_broken wsX6_in := goodIn_r _ [10] (by decide +kernel) (by decide +kernel)
set_option maxRecDepth 20000 in
theorem gX6_broken_X6_in : GoodIn wsX6_broken (va_wsS RX6 97 yX6_in wsX6_in) := goodIn_app (goodIn_of _ (by decide +kernel)) ggX6_broken_X6_in
theorem dX6_broken_0 : decode cX6_broken 0 = .ok (.aload_n 0, 1) := by decide +kernel
theorem dX6_broken_1 : decode cX6_broken 1 = .ok (.iload_n 1, 1) := by decide +kernel
theorem dX6_broken_2 : decode cX6_broken 2 = .ok (.invokevirtual 115, 3) := by decide +kernel
theorem dX6_broken_5 : decode cX6_broken 5 = .ok (.ifCond .ne 5, 3) := by decide +kernel
theorem dX6_broken_8 : decode cX6_broken 8 = .ok (.iconst (-1), 1) := by decide +kernel
theorem dX6_broken_9 : decode cX6_broken 9 = .ok (.ireturn, 1) := by decide +kernel
theorem dX6_broken_10 : decode cX6_broken 10 = .ok (.iload_n 2, 1) := by decide +kernel
theorem dX6_broken_11 : decode cX6_broken 11 = .ok (.iconst 0, 1) := by decide +kernel
theorem dX6_broken_12 : decode cX6_broken 12 = .ok (.iconst 1, 1) := by decide +kernel
theorem dX6_broken_13 : decode cX6_broken 13 = .ok (.invokestatic 97, 3) := by decide +kernel
theorem dX6_broken_16 : decode cX6_broken 16 = .ok (.ifCond .ne 6, 3) := by decide +kernel
theorem dX6_broken_19 : decode cX6_broken 19 = .ok (.bipush (-2), 2) := by decide +kernel
theorem dX6_broken_21 : decode cX6_broken 21 = .ok (.ireturn, 1) := by decide +kernel
theorem dX6_broken_22 : decode cX6_broken 22 = .ok (.aload_n 0, 1) := by decide +kernel
theorem dX6_broken_23 : decode cX6_broken 23 = .ok (.getfield 34, 3) := by decide +kernel
theorem dX6_broken_26 : decode cX6_broken 26 = .ok (.iload_n 1, 1) := by decide +kernel
theorem dX6_broken_27 : decode cX6_broken 27 = .ok (.baload, 1) := by decide +kernel
theorem dX6_broken_28 : decode cX6_broken 28 = .ok (.ifCond .eq 7, 3) := by decide +kernel
theorem dX6_broken_31 : decode cX6_broken 31 = .ok (.iconst 1, 1) := by decide +kernel
theorem dX6_broken_32 : decode cX6_broken 32 = .ok (.goto 4, 3) := by decide +kernel
theorem dX6_broken_35 : decode cX6_broken 35 = .ok (.iconst 0, 1) := by decide +kernel
theorem dX6_broken_36 : decode cX6_broken 36 = .ok (.istore_n 3, 1) := by decide +kernel
theorem dX6_broken_37 : decode cX6_broken 37 = .ok (.aload_n 0, 1) := by decide +kernel
theorem dX6_broken_38 : decode cX6_broken 38 = .ok (.getfield 34, 3) := by decide +kernel
theorem dX6_broken_41 : decode cX6_broken 41 = .ok (.iload_n 1, 1) := by decide +kernel
theorem dX6_broken_42 : decode cX6_broken 42 = .ok (.iload_n 2, 1) := by decide +kernel
theorem dX6_broken_43 : decode cX6_broken 43 = .ok (.iconst 1, 1) := by decide +kernel
theorem dX6_broken_44 : decode cX6_broken 44 = .ok (.if_icmp .ne 7, 3) := by decide +kernel
theorem dX6_broken_47 : decode cX6_broken 47 = .ok (.iconst 1, 1) := by decide +kernel
theorem dX6_broken_48 : decode cX6_broken 48 = .ok (.goto 4, 3) := by decide +kernel
theorem dX6_broken_51 : decode cX6_broken 51 = .ok (.iconst 0, 1) := by decide +kernel
theorem dX6_broken_52 : decode cX6_broken 52 = .ok (.bastore, 1) := by decide +kernel
theorem dX6_broken_53 : decode cX6_broken 53 = .ok (.iload_n 3, 1) := by decide +kernel
theorem dX6_broken_54 : decode cX6_broken 54 = .ok (.ireturn, 1) := by decide +kernel
set_option maxRecDepth 20000 in
theorem ggX6_bend_X6_isLine : GoodIn wsX6_bend wsX6_isLine := goodIn_r _ [6, 7, 8, 9, 5, 10, 11, 12, 13, 14, 15, 16, 17, 18, 19, 20, 21, 22, 23, 24, 25, 26, 27, 28, 29, 30, 31, 32, 33, 34, 35, 36, 37, 38, 39, 40, 41] (by decide +kernel) (by decide +kernel)
set_option maxRecDepth 20000 in
theorem gX6_bend_X6_isLine : GoodIn wsX6_bend (wsV RX6 115 RX6 yX6_isLine wsX6_isLine) := goodIn_app (goodIn_of _ (by decide +kernel)) ggX6_bend_X6_isLine
theorem dX6_bend_0 : decode cX6_bend 0 = .ok (.aload_n 0, 1) := by decide +kernel
theorem dX6_bend_1 : decode cX6_bend 1 = .ok (.iload_n 1, 1) := by decide +kernel
theorem dX6_bend_2 : decode cX6_bend 2 = .ok (.invokevirtual 115, 3) := by decide +kernel
theorem dX6_bend_5 : decode cX6_bend 5 = .ok (.ifCond .ne 5, 3) := by decide +kernel
theorem dX6_bend_8 : decode cX6_bend 8 = .ok (.iconst (-1), 1) := by decide +kernel
theorem dX6_bend_9 : decode cX6_bend 9 = .ok (.ireturn, 1) := by decide +kernel
theorem dX6_bend_10 : decode cX6_bend 10 = .ok (.aload_n 0, 1) := by decide +kernel
theorem dX6_bend_11 : decode cX6_bend 11 = .ok (.getfield 37, 3) := by decide +kernel
theorem dX6_bend_14 : decode cX6_bend 14 = .ok (.iload_n 1, 1) := by decide +kernel
theorem dX6_bend_15 : decode cX6_bend 15 = .ok (.laload, 1) := by decide +kernel
theorem dX6_bend_16 : decode cX6_bend 16 = .ok (.lconst 0, 1) := by decide +kernel
theorem dX6_bend_17 : decode cX6_bend 17 = .ok (.lcmp, 1) := by decide +kernel
theorem dX6_bend_18 : decode cX6_bend 18 = .ok (.ifCond .eq 7, 3) := by decide +kernel
theorem dX6_bend_21 : decode cX6_bend 21 = .ok (.iconst 1, 1) := by decide +kernel
theorem dX6_bend_22 : decode cX6_bend 22 = .ok (.goto 4, 3) := by decide +kernel
theorem dX6_bend_25 : decode cX6_bend 25 = .ok (.iconst 0, 1) := by decide +kernel
theorem dX6_bend_26 : decode cX6_bend 26 = .ok (.istore 4, 2) := by decide +kernel
theorem dX6_bend_28 : decode cX6_bend 28 = .ok (.aload_n 0, 1) := by decide +kernel
theorem dX6_bend_29 : decode cX6_bend 29 = .ok (.getfield 37, 3) := by decide +kernel
theorem dX6_bend_32 : decode cX6_bend 32 = .ok (.iload_n 1, 1) := by decide +kernel
theorem dX6_bend_33 : decode cX6_bend 33 = .ok (.lload_n 2, 1) := by decide +kernel
theorem dX6_bend_34 : decode cX6_bend 34 = .ok (.lastore, 1) := by decide +kernel
theorem dX6_bend_35 : decode cX6_bend 35 = .ok (.iload 4, 2) := by decide +kernel
theorem dX6_bend_37 : decode cX6_bend 37 = .ok (.ireturn, 1) := by decide +kernel
set_option maxRecDepth 20000 in
theorem ggX6_isPassing_X6_ins : GoodIn wsX6_isPassing wsX6_ins := goodIn_r _ [7, 2, 8, 9, 10, 11, 6, 12, 13, 14, 15, 16, 17, 18, 19, 20, 21, 22, 23, 24, 25, 26, 27, 28, 29, 30, 31, 32, 33, 34, 35, 36, 37, 38, 39, 40, 41, 42, 43, 44, 45] (by decide +kernel) (by decide +kernel)
set_option maxRecDepth 20000 in
theorem gX6_isPassing_X6_ins : GoodIn wsX6_isPassing (wsV RX6 118 RX6 yX6_ins wsX6_ins) := goodIn_app (goodIn_of _ (by decide +kernel)) ggX6_isPassing_X6_ins
theorem dX6_isPassing_0 : decode cX6_isPassing 0 = .ok (.iconst 0, 1) := by decide +kernel
theorem dX6_isPassing_1 : decode cX6_isPassing 1 = .ok (.istore_n 2, 1) := by decide +kernel
theorem dX6_isPassing_2 : decode cX6_isPassing 2 = .ok (.iconst 0, 1) := by decide +kernel
theorem dX6_isPassing_3 : decode cX6_isPassing 3 = .ok (.istore_n 3, 1) := by decide +kernel
theorem dX6_isPassing_4 : decode cX6_isPassing 4 = .ok (.iload_n 3, 1) := by decide +kernel
theorem dX6_isPassing_5 : decode cX6_isPassing 5 = .ok (.aload_n 0, 1) := by decide +kernel
theorem dX6_isPassing_6 : decode cX6_isPassing 6 = .ok (.iload_n 1, 1) := by decide +kernel
theorem dX6_isPassing_7 : decode cX6_isPassing 7 = .ok (.invokevirtual 118, 3) := by decide +kernel
theorem dX6_isPassing_10 : decode cX6_isPassing 10 = .ok (.if_icmp .ge 31, 3) := by decide +kernel
theorem dX6_isPassing_13 : decode cX6_isPassing 13 = .ok (.iload_n 2, 1) := by decide +kernel
theorem dX6_isPassing_14 : decode cX6_isPassing 14 = .ok (.aload_n 0, 1) := by decide +kernel
theorem dX6_isPassing_15 : decode cX6_isPassing 15 = .ok (.getfield 40, 3) := by decide +kernel
theorem dX6_isPassing_18 : decode cX6_isPassing 18 = .ok (.bipush 30, 2) := by decide +kernel
theorem dX6_isPassing_20 : decode cX6_isPassing 20 = .ok (.iload_n 1, 1) := by decide +kernel
theorem dX6_isPassing_21 : decode cX6_isPassing 21 = .ok (.imul, 1) := by decide +kernel
theorem dX6_isPassing_22 : decode cX6_isPassing 22 = .ok (.iload_n 3, 1) := by decide +kernel
theorem dX6_isPassing_23 : decode cX6_isPassing 23 = .ok (.iadd, 1) := by decide +kernel
theorem dX6_isPassing_24 : decode cX6_isPassing 24 = .ok (.iaload, 1) := by decide +kernel
theorem dX6_isPassing_25 : decode cX6_isPassing 25 = .ok (.ifCond .eq 7, 3) := by decide +kernel
theorem dX6_isPassing_28 : decode cX6_isPassing 28 = .ok (.iconst 1, 1) := by decide +kernel
theorem dX6_isPassing_29 : decode cX6_isPassing 29 = .ok (.goto 4, 3) := by decide +kernel
theorem dX6_isPassing_32 : decode cX6_isPassing 32 = .ok (.iconst 0, 1) := by decide +kernel
theorem dX6_isPassing_33 : decode cX6_isPassing 33 = .ok (.iadd, 1) := by decide +kernel
theorem dX6_isPassing_34 : decode cX6_isPassing 34 = .ok (.istore_n 2, 1) := by decide +kernel
theorem dX6_isPassing_35 : decode cX6_isPassing 35 = .ok (.iinc 3 1, 3) := by decide +kernel
theorem dX6_isPassing_38 : decode cX6_isPassing 38 = .ok (.goto (-34), 3) := by decide +kernel
theorem dX6_isPassing_41 : decode cX6_isPassing 41 = .ok (.aload_n 0, 1) := by decide +kernel
theorem dX6_isPassing_42 : decode cX6_isPassing 42 = .ok (.getfield 24, 3) := by decide +kernel
theorem dX6_isPassing_45 : decode cX6_isPassing 45 = .ok (.iload_n 1, 1) := by decide +kernel
theorem dX6_isPassing_46 : decode cX6_isPassing 46 = .ok (.iaload, 1) := by decide +kernel
theorem dX6_isPassing_47 : decode cX6_isPassing 47 = .ok (.ifCond .eq 12, 3) := by decide +kernel
theorem dX6_isPassing_50 : decode cX6_isPassing 50 = .ok (.iload_n 2, 1) := by decide +kernel
theorem dX6_isPassing_51 : decode cX6_isPassing 51 = .ok (.iconst 1, 1) := by decide +kernel
theorem dX6_isPassing_52 : decode cX6_isPassing 52 = .ok (.if_icmp .gt 7, 3) := by decide +kernel
theorem dX6_isPassing_55 : decode cX6_isPassing 55 = .ok (.iconst 1, 1) := by decide +kernel
theorem dX6_isPassing_56 : decode cX6_isPassing 56 = .ok (.goto 4, 3) := by decide +kernel
theorem dX6_isPassing_59 : decode cX6_isPassing 59 = .ok (.iconst 0, 1) := by decide +kernel
theorem dX6_isPassing_60 : decode cX6_isPassing 60 = .ok (.ireturn, 1) := by decide +kernel
set_option maxRecDepth 20000 in
theorem ggX6_about_X6_isLine : GoodIn wsX6_about wsX6_isLine := goodIn_r _ [10, 11, 12, 13, 9, 14, 29, 30, 31, 32, 33, 34, 35, 36, 37, 38, 39, 40, 41, 42, 43, 44, 45, 46, 47, 48, 49, 50, 51, 52, 53, 54, 55, 56, 57, 58, 59] (by decide +kernel) (by decide +kernel)
set_option maxRecDepth 20000 in
theorem gX6_about_X6_isLine : GoodIn wsX6_about (wsV RX6 115 RX6 yX6_isLine wsX6_isLine) := goodIn_app (goodIn_of _ (by decide +kernel)) ggX6_about_X6_isLine
set_option maxRecDepth 20000 in
theorem ggX6_about_X6_ins : GoodIn wsX6_about wsX6_ins := goodIn_r _ [18, 1, 19, 20, 21, 22, 9, 23, 11, 2, 29, 30, 31, 32, 33, 34, 35, 36, 37, 38, 39, 40, 41, 42, 43, 44, 45, 46, 47, 48, 49, 50, 51, 52, 53, 54, 55, 56, 57, 58, 59] (by decide +kernel) (by decide +kernel)
set_option maxRecDepth 20000 in
theorem gX6_about_X6_ins : GoodIn wsX6_about (wsV RX6 118 RX6 yX6_ins wsX6_ins) := goodIn_app (goodIn_of _ (by decide +kernel)) ggX6_about_X6_ins
set_option maxRecDepth 20000 in
theorem ggX6_about_X6_isPassing : GoodIn wsX6_about wsX6_isPassing := goodIn_r _ [27, 28, 1, 15, 16, 17, 9, 18, 19, 20, 21, 22, 23, 11, 2, 29, 30, 31, 32, 33, 34, 35, 36, 37, 38, 39, 40, 41, 42, 43, 44, 45, 46, 47, 48, 49, 50, 51, 52, 53, 54, 55, 56, 57, 58, 59] (by decide +kernel) (by decide +kernel)
set_option maxRecDepth 20000 in
theorem gX6_about_X6_isPassing : GoodIn wsX6_about (wsV RX6 121 RX6 yX6_isPassing wsX6_isPassing) := goodIn_app (goodIn_of _ (by decide +kernel)) ggX6_about_X6_isPassing
theorem dX6_about_0 : decode cX6_about 0 = .ok (.aload_n 0, 1) := by decide +kernel
theorem dX6_about_1 : decode cX6_about 1 = .ok (.iload_n 1, 1) := by decide +kernel
theorem dX6_about_2 : decode cX6_about 2 = .ok (.invokevirtual 115, 3) := by decide +kernel
theorem dX6_about_5 : decode cX6_about 5 = .ok (.ifCond .ne 5, 3) := by decide +kernel
theorem dX6_about_8 : decode cX6_about 8 = .ok (.iconst (-1), 1) := by decide +kernel
theorem dX6_about_9 : decode cX6_about 9 = .ok (.ireturn, 1) := by decide +kernel
theorem dX6_about_10 : decode cX6_about 10 = .ok (.iload_n 2, 1) := by decide +kernel
theorem dX6_about_11 : decode cX6_about 11 = .ok (.tableswitch 122 0 6 #[41, 48, 55, 61, 76, 91, 108], 41) := by decide +kernel
theorem dX6_about_52 : decode cX6_about 52 = .ok (.aload_n 0, 1) := by decide +kernel
theorem dX6_about_53 : decode cX6_about 53 = .ok (.getfield 24, 3) := by decide +kernel
theorem dX6_about_56 : decode cX6_about 56 = .ok (.iload_n 1, 1) := by decide +kernel
theorem dX6_about_57 : decode cX6_about 57 = .ok (.iaload, 1) := by decide +kernel
theorem dX6_about_58 : decode cX6_about 58 = .ok (.ireturn, 1) := by decide +kernel
theorem dX6_about_59 : decode cX6_about 59 = .ok (.aload_n 0, 1) := by decide +kernel
theorem dX6_about_60 : decode cX6_about 60 = .ok (.getfield 28, 3) := by decide +kernel
theorem dX6_about_63 : decode cX6_about 63 = .ok (.iload_n 1, 1) := by decide +kernel
theorem dX6_about_64 : decode cX6_about 64 = .ok (.iaload, 1) := by decide +kernel
theorem dX6_about_65 : decode cX6_about 65 = .ok (.ireturn, 1) := by decide +kernel
theorem dX6_about_66 : decode cX6_about 66 = .ok (.aload_n 0, 1) := by decide +kernel
theorem dX6_about_67 : decode cX6_about 67 = .ok (.iload_n 1, 1) := by decide +kernel
theorem dX6_about_68 : decode cX6_about 68 = .ok (.invokevirtual 118, 3) := by decide +kernel
theorem dX6_about_71 : decode cX6_about 71 = .ok (.ireturn, 1) := by decide +kernel
theorem dX6_about_72 : decode cX6_about 72 = .ok (.aload_n 0, 1) := by decide +kernel
theorem dX6_about_73 : decode cX6_about 73 = .ok (.getfield 31, 3) := by decide +kernel
theorem dX6_about_76 : decode cX6_about 76 = .ok (.iload_n 1, 1) := by decide +kernel
theorem dX6_about_77 : decode cX6_about 77 = .ok (.baload, 1) := by decide +kernel
theorem dX6_about_78 : decode cX6_about 78 = .ok (.ifCond .eq 7, 3) := by decide +kernel
theorem dX6_about_81 : decode cX6_about 81 = .ok (.iconst 1, 1) := by decide +kernel
theorem dX6_about_82 : decode cX6_about 82 = .ok (.goto 4, 3) := by decide +kernel
theorem dX6_about_85 : decode cX6_about 85 = .ok (.iconst 0, 1) := by decide +kernel
theorem dX6_about_86 : decode cX6_about 86 = .ok (.ireturn, 1) := by decide +kernel
theorem dX6_about_87 : decode cX6_about 87 = .ok (.aload_n 0, 1) := by decide +kernel
theorem dX6_about_88 : decode cX6_about 88 = .ok (.getfield 34, 3) := by decide +kernel
theorem dX6_about_91 : decode cX6_about 91 = .ok (.iload_n 1, 1) := by decide +kernel
theorem dX6_about_92 : decode cX6_about 92 = .ok (.baload, 1) := by decide +kernel
theorem dX6_about_93 : decode cX6_about 93 = .ok (.ifCond .eq 7, 3) := by decide +kernel
theorem dX6_about_96 : decode cX6_about 96 = .ok (.iconst 1, 1) := by decide +kernel
theorem dX6_about_97 : decode cX6_about 97 = .ok (.goto 4, 3) := by decide +kernel
theorem dX6_about_100 : decode cX6_about 100 = .ok (.iconst 0, 1) := by decide +kernel
theorem dX6_about_101 : decode cX6_about 101 = .ok (.ireturn, 1) := by decide +kernel
theorem dX6_about_102 : decode cX6_about 102 = .ok (.aload_n 0, 1) := by decide +kernel
theorem dX6_about_103 : decode cX6_about 103 = .ok (.getfield 37, 3) := by decide +kernel
theorem dX6_about_106 : decode cX6_about 106 = .ok (.iload_n 1, 1) := by decide +kernel
theorem dX6_about_107 : decode cX6_about 107 = .ok (.laload, 1) := by decide +kernel
theorem dX6_about_108 : decode cX6_about 108 = .ok (.lconst 0, 1) := by decide +kernel
theorem dX6_about_109 : decode cX6_about 109 = .ok (.lcmp, 1) := by decide +kernel
theorem dX6_about_110 : decode cX6_about 110 = .ok (.ifCond .eq 7, 3) := by decide +kernel
theorem dX6_about_113 : decode cX6_about 113 = .ok (.iconst 1, 1) := by decide +kernel
theorem dX6_about_114 : decode cX6_about 114 = .ok (.goto 4, 3) := by decide +kernel
theorem dX6_about_117 : decode cX6_about 117 = .ok (.iconst 0, 1) := by decide +kernel
theorem dX6_about_118 : decode cX6_about 118 = .ok (.ireturn, 1) := by decide +kernel
theorem dX6_about_119 : decode cX6_about 119 = .ok (.aload_n 0, 1) := by decide +kernel
theorem dX6_about_120 : decode cX6_about 120 = .ok (.iload_n 1, 1) := by decide +kernel
theorem dX6_about_121 : decode cX6_about 121 = .ok (.invokevirtual 121, 3) := by decide +kernel
theorem dX6_about_124 : decode cX6_about 124 = .ok (.ifCond .eq 7, 3) := by decide +kernel
theorem dX6_about_127 : decode cX6_about 127 = .ok (.iconst 1, 1) := by decide +kernel
theorem dX6_about_128 : decode cX6_about 128 = .ok (.goto 4, 3) := by decide +kernel
theorem dX6_about_131 : decode cX6_about 131 = .ok (.iconst 0, 1) := by decide +kernel
theorem dX6_about_132 : decode cX6_about 132 = .ok (.ireturn, 1) := by decide +kernel
theorem dX6_about_133 : decode cX6_about 133 = .ok (.iconst (-1), 1) := by decide +kernel
theorem dX6_about_134 : decode cX6_about 134 = .ok (.ireturn, 1) := by decide +kernel
theorem dX6_seek_0 : decode cX6_seek 0 = .ok (.iconst 0, 1) := by decide +kernel
theorem dX6_seek_1 : decode cX6_seek 1 = .ok (.istore_n 1, 1) := by decide +kernel
theorem dX6_seek_2 : decode cX6_seek 2 = .ok (.iload_n 1, 1) := by decide +kernel
theorem dX6_seek_3 : decode cX6_seek 3 = .ok (.bipush 12, 2) := by decide +kernel
theorem dX6_seek_5 : decode cX6_seek 5 = .ok (.if_icmp .ge 31, 3) := by decide +kernel
theorem dX6_seek_8 : decode cX6_seek 8 = .ok (.aload_n 0, 1) := by decide +kernel
theorem dX6_seek_9 : decode cX6_seek 9 = .ok (.getfield 46, 3) := by decide +kernel
theorem dX6_seek_12 : decode cX6_seek 12 = .ok (.iload_n 1, 1) := by decide +kernel
theorem dX6_seek_13 : decode cX6_seek 13 = .ok (.iload_n 1, 1) := by decide +kernel
theorem dX6_seek_14 : decode cX6_seek 14 = .ok (.ifCond .ne 7, 3) := by decide +kernel
theorem dX6_seek_17 : decode cX6_seek 17 = .ok (.iconst 1, 1) := by decide +kernel
theorem dX6_seek_18 : decode cX6_seek 18 = .ok (.goto 4, 3) := by decide +kernel
theorem dX6_seek_21 : decode cX6_seek 21 = .ok (.iconst 0, 1) := by decide +kernel
theorem dX6_seek_22 : decode cX6_seek 22 = .ok (.bastore, 1) := by decide +kernel
theorem dX6_seek_23 : decode cX6_seek 23 = .ok (.aload_n 0, 1) := by decide +kernel
theorem dX6_seek_24 : decode cX6_seek 24 = .ok (.getfield 49, 3) := by decide +kernel
theorem dX6_seek_27 : decode cX6_seek 27 = .ok (.iload_n 1, 1) := by decide +kernel
theorem dX6_seek_28 : decode cX6_seek 28 = .ok (.iconst (-1), 1) := by decide +kernel
theorem dX6_seek_29 : decode cX6_seek 29 = .ok (.iastore, 1) := by decide +kernel
theorem dX6_seek_30 : decode cX6_seek 30 = .ok (.iinc 1 1, 3) := by decide +kernel
theorem dX6_seek_33 : decode cX6_seek 33 = .ok (.goto (-31), 3) := by decide +kernel
theorem dX6_seek_36 : decode cX6_seek 36 = .ok (.iconst 1, 1) := by decide +kernel
theorem dX6_seek_37 : decode cX6_seek 37 = .ok (.istore_n 1, 1) := by decide +kernel
theorem dX6_seek_38 : decode cX6_seek 38 = .ok (.iload_n 1, 1) := by decide +kernel
theorem dX6_seek_39 : decode cX6_seek 39 = .ok (.ifCond .eq 127, 3) := by decide +kernel
theorem dX6_seek_42 : decode cX6_seek 42 = .ok (.iconst 0, 1) := by decide +kernel
theorem dX6_seek_43 : decode cX6_seek 43 = .ok (.istore_n 1, 1) := by decide +kernel
theorem dX6_seek_44 : decode cX6_seek 44 = .ok (.iconst 0, 1) := by decide +kernel
theorem dX6_seek_45 : decode cX6_seek 45 = .ok (.istore_n 2, 1) := by decide +kernel
theorem dX6_seek_46 : decode cX6_seek 46 = .ok (.iload_n 2, 1) := by decide +kernel
theorem dX6_seek_47 : decode cX6_seek 47 = .ok (.aload_n 0, 1) := by decide +kernel
theorem dX6_seek_48 : decode cX6_seek 48 = .ok (.getfield 105, 3) := by decide +kernel
theorem dX6_seek_51 : decode cX6_seek 51 = .ok (.if_icmp .ge 112, 3) := by decide +kernel
theorem dX6_seek_54 : decode cX6_seek 54 = .ok (.aload_n 0, 1) := by decide +kernel
theorem dX6_seek_55 : decode cX6_seek 55 = .ok (.getfield 34, 3) := by decide +kernel
theorem dX6_seek_58 : decode cX6_seek 58 = .ok (.iload_n 2, 1) := by decide +kernel
theorem dX6_seek_59 : decode cX6_seek 59 = .ok (.baload, 1) := by decide +kernel
theorem dX6_seek_60 : decode cX6_seek 60 = .ok (.ifCond .eq 6, 3) := by decide +kernel
theorem dX6_seek_63 : decode cX6_seek 63 = .ok (.goto 94, 3) := by decide +kernel
theorem dX6_seek_66 : decode cX6_seek 66 = .ok (.aload_n 0, 1) := by decide +kernel
theorem dX6_seek_67 : decode cX6_seek 67 = .ok (.getfield 43, 3) := by decide +kernel
theorem dX6_seek_70 : decode cX6_seek 70 = .ok (.iload_n 2, 1) := by decide +kernel
theorem dX6_seek_71 : decode cX6_seek 71 = .ok (.baload, 1) := by decide +kernel
theorem dX6_seek_72 : decode cX6_seek 72 = .ok (.ifCond .eq 12, 3) := by decide +kernel
theorem dX6_seek_75 : decode cX6_seek 75 = .ok (.aload_n 0, 1) := by decide +kernel
theorem dX6_seek_76 : decode cX6_seek 76 = .ok (.getfield 28, 3) := by decide +kernel
theorem dX6_seek_79 : decode cX6_seek 79 = .ok (.iload_n 2, 1) := by decide +kernel
theorem dX6_seek_80 : decode cX6_seek 80 = .ok (.iaload, 1) := by decide +kernel
theorem dX6_seek_81 : decode cX6_seek 81 = .ok (.goto 9, 3) := by decide +kernel
theorem dX6_seek_84 : decode cX6_seek 84 = .ok (.aload_n 0, 1) := by decide +kernel
theorem dX6_seek_85 : decode cX6_seek 85 = .ok (.getfield 24, 3) := by decide +kernel
theorem dX6_seek_88 : decode cX6_seek 88 = .ok (.iload_n 2, 1) := by decide +kernel
theorem dX6_seek_89 : decode cX6_seek 89 = .ok (.iaload, 1) := by decide +kernel
theorem dX6_seek_90 : decode cX6_seek 90 = .ok (.istore_n 3, 1) := by decide +kernel
theorem dX6_seek_91 : decode cX6_seek 91 = .ok (.aload_n 0, 1) := by decide +kernel
theorem dX6_seek_92 : decode cX6_seek 92 = .ok (.getfield 43, 3) := by decide +kernel
theorem dX6_seek_95 : decode cX6_seek 95 = .ok (.iload_n 2, 1) := by decide +kernel
theorem dX6_seek_96 : decode cX6_seek 96 = .ok (.baload, 1) := by decide +kernel
theorem dX6_seek_97 : decode cX6_seek 97 = .ok (.ifCond .eq 12, 3) := by decide +kernel
theorem dX6_seek_100 : decode cX6_seek 100 = .ok (.aload_n 0, 1) := by decide +kernel
theorem dX6_seek_101 : decode cX6_seek 101 = .ok (.getfield 24, 3) := by decide +kernel
theorem dX6_seek_104 : decode cX6_seek 104 = .ok (.iload_n 2, 1) := by decide +kernel
theorem dX6_seek_105 : decode cX6_seek 105 = .ok (.iaload, 1) := by decide +kernel
theorem dX6_seek_106 : decode cX6_seek 106 = .ok (.goto 9, 3) := by decide +kernel
theorem dX6_seek_109 : decode cX6_seek 109 = .ok (.aload_n 0, 1) := by decide +kernel
theorem dX6_seek_110 : decode cX6_seek 110 = .ok (.getfield 28, 3) := by decide +kernel
theorem dX6_seek_113 : decode cX6_seek 113 = .ok (.iload_n 2, 1) := by decide +kernel
theorem dX6_seek_114 : decode cX6_seek 114 = .ok (.iaload, 1) := by decide +kernel
theorem dX6_seek_115 : decode cX6_seek 115 = .ok (.istore 4, 2) := by decide +kernel
theorem dX6_seek_117 : decode cX6_seek 117 = .ok (.aload_n 0, 1) := by decide +kernel
theorem dX6_seek_118 : decode cX6_seek 118 = .ok (.getfield 46, 3) := by decide +kernel
theorem dX6_seek_121 : decode cX6_seek 121 = .ok (.iload_n 3, 1) := by decide +kernel
theorem dX6_seek_122 : decode cX6_seek 122 = .ok (.baload, 1) := by decide +kernel
theorem dX6_seek_123 : decode cX6_seek 123 = .ok (.ifCond .eq 34, 3) := by decide +kernel
theorem dX6_seek_126 : decode cX6_seek 126 = .ok (.aload_n 0, 1) := by decide +kernel
theorem dX6_seek_127 : decode cX6_seek 127 = .ok (.getfield 46, 3) := by decide +kernel
theorem dX6_seek_130 : decode cX6_seek 130 = .ok (.iload 4, 2) := by decide +kernel
theorem dX6_seek_132 : decode cX6_seek 132 = .ok (.baload, 1) := by decide +kernel
theorem dX6_seek_133 : decode cX6_seek 133 = .ok (.ifCond .eq 6, 3) := by decide +kernel
theorem dX6_seek_136 : decode cX6_seek 136 = .ok (.goto 21, 3) := by decide +kernel
theorem dX6_seek_139 : decode cX6_seek 139 = .ok (.aload_n 0, 1) := by decide +kernel
theorem dX6_seek_140 : decode cX6_seek 140 = .ok (.getfield 46, 3) := by decide +kernel
theorem dX6_seek_143 : decode cX6_seek 143 = .ok (.iload 4, 2) := by decide +kernel
theorem dX6_seek_145 : decode cX6_seek 145 = .ok (.iconst 1, 1) := by decide +kernel
theorem dX6_seek_146 : decode cX6_seek 146 = .ok (.bastore, 1) := by decide +kernel
theorem dX6_seek_147 : decode cX6_seek 147 = .ok (.aload_n 0, 1) := by decide +kernel
theorem dX6_seek_148 : decode cX6_seek 148 = .ok (.getfield 49, 3) := by decide +kernel
theorem dX6_seek_151 : decode cX6_seek 151 = .ok (.iload 4, 2) := by decide +kernel
theorem dX6_seek_153 : decode cX6_seek 153 = .ok (.iload_n 2, 1) := by decide +kernel
theorem dX6_seek_154 : decode cX6_seek 154 = .ok (.iastore, 1) := by decide +kernel
theorem dX6_seek_155 : decode cX6_seek 155 = .ok (.iconst 1, 1) := by decide +kernel
theorem dX6_seek_156 : decode cX6_seek 156 = .ok (.istore_n 1, 1) := by decide +kernel
theorem dX6_seek_157 : decode cX6_seek 157 = .ok (.iinc 2 1, 3) := by decide +kernel
theorem dX6_seek_160 : decode cX6_seek 160 = .ok (.goto (-114), 3) := by decide +kernel
theorem dX6_seek_163 : decode cX6_seek 163 = .ok (.goto (-125), 3) := by decide +kernel
theorem dX6_seek_166 : decode cX6_seek 166 = .ok (.return_, 1) := by decide +kernel
set_option maxRecDepth 20000 in
theorem ggX6_flowOf_X6_seek : GoodIn wsX6_flowOf wsX6_seek := goodIn_r _ [10, 2, 3, 11, 12, 1, 4, 5, 13, 14, 15, 16, 17, 18, 19, 20, 21, 22, 23, 24, 25, 26, 27, 28, 29, 30, 31, 32, 33, 34, 35, 36, 37, 38, 39, 40, 41, 42, 43] (by decide +kernel) (by decide +kernel)
set_option maxRecDepth 20000 in
theorem gX6_flowOf_X6_seek : GoodIn wsX6_flowOf (wsV RX6 124 RX6 yX6_seek wsX6_seek) := goodIn_app (goodIn_of _ (by decide +kernel)) ggX6_flowOf_X6_seek
theorem dX6_flowOf_0 : decode cX6_flowOf 0 = .ok (.iconst 0, 1) := by decide +kernel
theorem dX6_flowOf_1 : decode cX6_flowOf 1 = .ok (.istore_n 2, 1) := by decide +kernel
theorem dX6_flowOf_2 : decode cX6_flowOf 2 = .ok (.iload_n 2, 1) := by decide +kernel
theorem dX6_flowOf_3 : decode cX6_flowOf 3 = .ok (.bipush 30, 2) := by decide +kernel
theorem dX6_flowOf_5 : decode cX6_flowOf 5 = .ok (.if_icmp .ge 16, 3) := by decide +kernel
theorem dX6_flowOf_8 : decode cX6_flowOf 8 = .ok (.aload_n 0, 1) := by decide +kernel
theorem dX6_flowOf_9 : decode cX6_flowOf 9 = .ok (.getfield 43, 3) := by decide +kernel
theorem dX6_flowOf_12 : decode cX6_flowOf 12 = .ok (.iload_n 2, 1) := by decide +kernel
theorem dX6_flowOf_13 : decode cX6_flowOf 13 = .ok (.iconst 0, 1) := by decide +kernel
theorem dX6_flowOf_14 : decode cX6_flowOf 14 = .ok (.bastore, 1) := by decide +kernel
theorem dX6_flowOf_15 : decode cX6_flowOf 15 = .ok (.iinc 2 1, 3) := by decide +kernel
theorem dX6_flowOf_18 : decode cX6_flowOf 18 = .ok (.goto (-16), 3) := by decide +kernel
theorem dX6_flowOf_21 : decode cX6_flowOf 21 = .ok (.iconst 0, 1) := by decide +kernel
theorem dX6_flowOf_22 : decode cX6_flowOf 22 = .ok (.istore_n 2, 1) := by decide +kernel
theorem dX6_flowOf_23 : decode cX6_flowOf 23 = .ok (.aload_n 0, 1) := by decide +kernel
theorem dX6_flowOf_24 : decode cX6_flowOf 24 = .ok (.invokevirtual 124, 3) := by decide +kernel
theorem dX6_flowOf_27 : decode cX6_flowOf 27 = .ok (.aload_n 0, 1) := by decide +kernel
theorem dX6_flowOf_28 : decode cX6_flowOf 28 = .ok (.getfield 46, 3) := by decide +kernel
theorem dX6_flowOf_31 : decode cX6_flowOf 31 = .ok (.iload_n 1, 1) := by decide +kernel
theorem dX6_flowOf_32 : decode cX6_flowOf 32 = .ok (.baload, 1) := by decide +kernel
theorem dX6_flowOf_33 : decode cX6_flowOf 33 = .ok (.ifCond .eq 80, 3) := by decide +kernel
theorem dX6_flowOf_36 : decode cX6_flowOf 36 = .ok (.iload_n 1, 1) := by decide +kernel
theorem dX6_flowOf_37 : decode cX6_flowOf 37 = .ok (.istore_n 3, 1) := by decide +kernel
theorem dX6_flowOf_38 : decode cX6_flowOf 38 = .ok (.iload_n 3, 1) := by decide +kernel
theorem dX6_flowOf_39 : decode cX6_flowOf 39 = .ok (.ifCond .eq 64, 3) := by decide +kernel
theorem dX6_flowOf_42 : decode cX6_flowOf 42 = .ok (.aload_n 0, 1) := by decide +kernel
theorem dX6_flowOf_43 : decode cX6_flowOf 43 = .ok (.getfield 49, 3) := by decide +kernel
theorem dX6_flowOf_46 : decode cX6_flowOf 46 = .ok (.iload_n 3, 1) := by decide +kernel
theorem dX6_flowOf_47 : decode cX6_flowOf 47 = .ok (.iaload, 1) := by decide +kernel
theorem dX6_flowOf_48 : decode cX6_flowOf 48 = .ok (.istore 4, 2) := by decide +kernel
theorem dX6_flowOf_50 : decode cX6_flowOf 50 = .ok (.aload_n 0, 1) := by decide +kernel
theorem dX6_flowOf_51 : decode cX6_flowOf 51 = .ok (.getfield 43, 3) := by decide +kernel
theorem dX6_flowOf_54 : decode cX6_flowOf 54 = .ok (.iload 4, 2) := by decide +kernel
theorem dX6_flowOf_56 : decode cX6_flowOf 56 = .ok (.baload, 1) := by decide +kernel
theorem dX6_flowOf_57 : decode cX6_flowOf 57 = .ok (.ifCond .eq 13, 3) := by decide +kernel
theorem dX6_flowOf_60 : decode cX6_flowOf 60 = .ok (.aload_n 0, 1) := by decide +kernel
theorem dX6_flowOf_61 : decode cX6_flowOf 61 = .ok (.getfield 28, 3) := by decide +kernel
theorem dX6_flowOf_64 : decode cX6_flowOf 64 = .ok (.iload 4, 2) := by decide +kernel
theorem dX6_flowOf_66 : decode cX6_flowOf 66 = .ok (.iaload, 1) := by decide +kernel
theorem dX6_flowOf_67 : decode cX6_flowOf 67 = .ok (.goto 10, 3) := by decide +kernel
theorem dX6_flowOf_70 : decode cX6_flowOf 70 = .ok (.aload_n 0, 1) := by decide +kernel
theorem dX6_flowOf_71 : decode cX6_flowOf 71 = .ok (.getfield 24, 3) := by decide +kernel
theorem dX6_flowOf_74 : decode cX6_flowOf 74 = .ok (.iload 4, 2) := by decide +kernel
theorem dX6_flowOf_76 : decode cX6_flowOf 76 = .ok (.iaload, 1) := by decide +kernel
theorem dX6_flowOf_77 : decode cX6_flowOf 77 = .ok (.istore_n 3, 1) := by decide +kernel
theorem dX6_flowOf_78 : decode cX6_flowOf 78 = .ok (.aload_n 0, 1) := by decide +kernel
theorem dX6_flowOf_79 : decode cX6_flowOf 79 = .ok (.getfield 43, 3) := by decide +kernel
theorem dX6_flowOf_82 : decode cX6_flowOf 82 = .ok (.iload 4, 2) := by decide +kernel
theorem dX6_flowOf_84 : decode cX6_flowOf 84 = .ok (.aload_n 0, 1) := by decide +kernel
theorem dX6_flowOf_85 : decode cX6_flowOf 85 = .ok (.getfield 43, 3) := by decide +kernel
theorem dX6_flowOf_88 : decode cX6_flowOf 88 = .ok (.iload 4, 2) := by decide +kernel
theorem dX6_flowOf_90 : decode cX6_flowOf 90 = .ok (.baload, 1) := by decide +kernel
theorem dX6_flowOf_91 : decode cX6_flowOf 91 = .ok (.ifCond .ne 7, 3) := by decide +kernel
theorem dX6_flowOf_94 : decode cX6_flowOf 94 = .ok (.iconst 1, 1) := by decide +kernel
theorem dX6_flowOf_95 : decode cX6_flowOf 95 = .ok (.goto 4, 3) := by decide +kernel
theorem dX6_flowOf_98 : decode cX6_flowOf 98 = .ok (.iconst 0, 1) := by decide +kernel
theorem dX6_flowOf_99 : decode cX6_flowOf 99 = .ok (.bastore, 1) := by decide +kernel
theorem dX6_flowOf_100 : decode cX6_flowOf 100 = .ok (.goto (-62), 3) := by decide +kernel
theorem dX6_flowOf_103 : decode cX6_flowOf 103 = .ok (.iinc 2 1, 3) := by decide +kernel
theorem dX6_flowOf_106 : decode cX6_flowOf 106 = .ok (.aload_n 0, 1) := by decide +kernel
theorem dX6_flowOf_107 : decode cX6_flowOf 107 = .ok (.invokevirtual 124, 3) := by decide +kernel
theorem dX6_flowOf_110 : decode cX6_flowOf 110 = .ok (.goto (-83), 3) := by decide +kernel
theorem dX6_flowOf_113 : decode cX6_flowOf 113 = .ok (.iload_n 2, 1) := by decide +kernel
theorem dX6_flowOf_114 : decode cX6_flowOf 114 = .ok (.ireturn, 1) := by decide +kernel
set_option maxRecDepth 20000 in
theorem ggX6_flow_X6_isRelay : GoodIn wsX6_flow wsX6_isRelay := goodIn_r _ [5, 6, 7, 8, 4, 9, 25, 26, 27, 28, 29, 30, 31, 32, 33, 34, 35, 36, 37, 38, 39, 40, 41, 42, 43, 44, 45, 46, 47, 48, 49, 50, 51, 52, 53, 54, 55] (by decide +kernel) (by decide +kernel)
set_option maxRecDepth 20000 in
theorem gX6_flow_X6_isRelay : GoodIn wsX6_flow (wsV RX6 111 RX6 yX6_isRelay wsX6_isRelay) := goodIn_app (goodIn_of _ (by decide +kernel)) ggX6_flow_X6_isRelay
set_option maxRecDepth 20000 in
theorem ggX6_flow_X6_flowOf : GoodIn wsX6_flow wsX6_flowOf := goodIn_r _ [13, 14, 15, 16, 17, 18, 19, 20, 21, 4, 22, 23, 24, 25, 26, 27, 28, 29, 30, 31, 32, 33, 34, 35, 36, 37, 38, 39, 40, 41, 42, 43, 44, 45, 46, 47, 48, 49, 50, 51, 52, 53, 54, 55] (by decide +kernel) (by decide +kernel)
set_option maxRecDepth 20000 in
theorem gX6_flow_X6_flowOf : GoodIn wsX6_flow (wsV RX6 127 RX6 yX6_flowOf wsX6_flowOf) := goodIn_app (goodIn_of _ (by decide +kernel)) ggX6_flow_X6_flowOf
theorem dX6_flow_0 : decode cX6_flow 0 = .ok (.aload_n 0, 1) := by decide +kernel
theorem dX6_flow_1 : decode cX6_flow 1 = .ok (.iload_n 1, 1) := by decide +kernel
theorem dX6_flow_2 : decode cX6_flow 2 = .ok (.invokevirtual 111, 3) := by decide +kernel
theorem dX6_flow_5 : decode cX6_flow 5 = .ok (.ifCond .ne 5, 3) := by decide +kernel
theorem dX6_flow_8 : decode cX6_flow 8 = .ok (.iconst (-1), 1) := by decide +kernel
theorem dX6_flow_9 : decode cX6_flow 9 = .ok (.ireturn, 1) := by decide +kernel
theorem dX6_flow_10 : decode cX6_flow 10 = .ok (.iload_n 1, 1) := by decide +kernel
theorem dX6_flow_11 : decode cX6_flow 11 = .ok (.ifCond .ne 8, 3) := by decide +kernel
theorem dX6_flow_14 : decode cX6_flow 14 = .ok (.bipush (-2), 2) := by decide +kernel
theorem dX6_flow_16 : decode cX6_flow 16 = .ok (.goto 8, 3) := by decide +kernel
theorem dX6_flow_19 : decode cX6_flow 19 = .ok (.aload_n 0, 1) := by decide +kernel
theorem dX6_flow_20 : decode cX6_flow 20 = .ok (.iload_n 1, 1) := by decide +kernel
theorem dX6_flow_21 : decode cX6_flow 21 = .ok (.invokevirtual 127, 3) := by decide +kernel
theorem dX6_flow_24 : decode cX6_flow 24 = .ok (.ireturn, 1) := by decide +kernel
set_option maxRecDepth 20000 in
theorem ggX6_cut_X6_isRelay : GoodIn wsX6_cut wsX6_isRelay := goodIn_r _ [10, 11, 12, 13, 9, 14, 25, 26, 27, 28, 29, 30, 31, 32, 33, 34, 35, 36, 37, 38, 39, 40, 41, 42, 43, 44, 45, 46, 47, 48, 49, 50, 51, 52, 53, 54, 55] (by decide +kernel) (by decide +kernel)
set_option maxRecDepth 20000 in
theorem gX6_cut_X6_isRelay : GoodIn wsX6_cut (wsV RX6 111 RX6 yX6_isRelay wsX6_isRelay) := goodIn_app (goodIn_of _ (by decide +kernel)) ggX6_cut_X6_isRelay
set_option maxRecDepth 20000 in
theorem ggX6_cut_X6_flowOf : GoodIn wsX6_cut wsX6_flowOf := goodIn_r _ [18, 19, 3, 20, 5, 4, 21, 22, 23, 9, 24, 1, 2, 25, 26, 27, 28, 29, 30, 31, 32, 33, 34, 35, 36, 37, 38, 39, 40, 41, 42, 43, 44, 45, 46, 47, 48, 49, 50, 51, 52, 53, 54, 55] (by decide +kernel) (by decide +kernel)
set_option maxRecDepth 20000 in
theorem gX6_cut_X6_flowOf : GoodIn wsX6_cut (wsV RX6 127 RX6 yX6_flowOf wsX6_flowOf) := goodIn_app (goodIn_of _ (by decide +kernel)) ggX6_cut_X6_flowOf
theorem dX6_cut_0 : decode cX6_cut 0 = .ok (.aload_n 0, 1) := by decide +kernel
theorem dX6_cut_1 : decode cX6_cut 1 = .ok (.iload_n 1, 1) := by decide +kernel
theorem dX6_cut_2 : decode cX6_cut 2 = .ok (.invokevirtual 111, 3) := by decide +kernel
theorem dX6_cut_5 : decode cX6_cut 5 = .ok (.ifCond .eq 7, 3) := by decide +kernel
theorem dX6_cut_8 : decode cX6_cut 8 = .ok (.iload_n 2, 1) := by decide +kernel
theorem dX6_cut_9 : decode cX6_cut 9 = .ok (.ifCond .ge 5, 3) := by decide +kernel
theorem dX6_cut_12 : decode cX6_cut 12 = .ok (.iconst (-1), 1) := by decide +kernel
theorem dX6_cut_13 : decode cX6_cut 13 = .ok (.ireturn, 1) := by decide +kernel
theorem dX6_cut_14 : decode cX6_cut 14 = .ok (.iload_n 1, 1) := by decide +kernel
theorem dX6_cut_15 : decode cX6_cut 15 = .ok (.ifCond .ne 6, 3) := by decide +kernel
theorem dX6_cut_18 : decode cX6_cut 18 = .ok (.bipush (-2), 2) := by decide +kernel
theorem dX6_cut_20 : decode cX6_cut 20 = .ok (.ireturn, 1) := by decide +kernel
theorem dX6_cut_21 : decode cX6_cut 21 = .ok (.aload_n 0, 1) := by decide +kernel
theorem dX6_cut_22 : decode cX6_cut 22 = .ok (.iload_n 1, 1) := by decide +kernel
theorem dX6_cut_23 : decode cX6_cut 23 = .ok (.invokevirtual 127, 3) := by decide +kernel
theorem dX6_cut_26 : decode cX6_cut 26 = .ok (.istore_n 3, 1) := by decide +kernel
theorem dX6_cut_27 : decode cX6_cut 27 = .ok (.iload_n 2, 1) := by decide +kernel
theorem dX6_cut_28 : decode cX6_cut 28 = .ok (.istore 4, 2) := by decide +kernel
theorem dX6_cut_30 : decode cX6_cut 30 = .ok (.iconst 0, 1) := by decide +kernel
theorem dX6_cut_31 : decode cX6_cut 31 = .ok (.istore 5, 2) := by decide +kernel
theorem dX6_cut_33 : decode cX6_cut 33 = .ok (.iload 5, 2) := by decide +kernel
theorem dX6_cut_35 : decode cX6_cut 35 = .ok (.aload_n 0, 1) := by decide +kernel
theorem dX6_cut_36 : decode cX6_cut 36 = .ok (.getfield 105, 3) := by decide +kernel
theorem dX6_cut_39 : decode cX6_cut 39 = .ok (.if_icmp .ge 63, 3) := by decide +kernel
theorem dX6_cut_42 : decode cX6_cut 42 = .ok (.aload_n 0, 1) := by decide +kernel
theorem dX6_cut_43 : decode cX6_cut 43 = .ok (.getfield 34, 3) := by decide +kernel
theorem dX6_cut_46 : decode cX6_cut 46 = .ok (.iload 5, 2) := by decide +kernel
theorem dX6_cut_48 : decode cX6_cut 48 = .ok (.baload, 1) := by decide +kernel
theorem dX6_cut_49 : decode cX6_cut 49 = .ok (.ifCond .ne 47, 3) := by decide +kernel
theorem dX6_cut_52 : decode cX6_cut 52 = .ok (.aload_n 0, 1) := by decide +kernel
theorem dX6_cut_53 : decode cX6_cut 53 = .ok (.getfield 46, 3) := by decide +kernel
theorem dX6_cut_56 : decode cX6_cut 56 = .ok (.aload_n 0, 1) := by decide +kernel
theorem dX6_cut_57 : decode cX6_cut 57 = .ok (.getfield 24, 3) := by decide +kernel
theorem dX6_cut_60 : decode cX6_cut 60 = .ok (.iload 5, 2) := by decide +kernel
theorem dX6_cut_62 : decode cX6_cut 62 = .ok (.iaload, 1) := by decide +kernel
theorem dX6_cut_63 : decode cX6_cut 63 = .ok (.baload, 1) := by decide +kernel
theorem dX6_cut_64 : decode cX6_cut 64 = .ok (.ifCond .eq 32, 3) := by decide +kernel
theorem dX6_cut_67 : decode cX6_cut 67 = .ok (.aload_n 0, 1) := by decide +kernel
theorem dX6_cut_68 : decode cX6_cut 68 = .ok (.getfield 46, 3) := by decide +kernel
theorem dX6_cut_71 : decode cX6_cut 71 = .ok (.aload_n 0, 1) := by decide +kernel
theorem dX6_cut_72 : decode cX6_cut 72 = .ok (.getfield 28, 3) := by decide +kernel
theorem dX6_cut_75 : decode cX6_cut 75 = .ok (.iload 5, 2) := by decide +kernel
theorem dX6_cut_77 : decode cX6_cut 77 = .ok (.iaload, 1) := by decide +kernel
theorem dX6_cut_78 : decode cX6_cut 78 = .ok (.baload, 1) := by decide +kernel
theorem dX6_cut_79 : decode cX6_cut 79 = .ok (.ifCond .eq 6, 3) := by decide +kernel
theorem dX6_cut_82 : decode cX6_cut 82 = .ok (.goto 14, 3) := by decide +kernel
theorem dX6_cut_85 : decode cX6_cut 85 = .ok (.iload 4, 2) := by decide +kernel
theorem dX6_cut_87 : decode cX6_cut 87 = .ok (.ifCond .ne 6, 3) := by decide +kernel
theorem dX6_cut_90 : decode cX6_cut 90 = .ok (.iload 5, 2) := by decide +kernel
theorem dX6_cut_92 : decode cX6_cut 92 = .ok (.ireturn, 1) := by decide +kernel
theorem dX6_cut_93 : decode cX6_cut 93 = .ok (.iinc 4 (-1), 3) := by decide +kernel
theorem dX6_cut_96 : decode cX6_cut 96 = .ok (.iinc 5 1, 3) := by decide +kernel
theorem dX6_cut_99 : decode cX6_cut 99 = .ok (.goto (-66), 3) := by decide +kernel
theorem dX6_cut_102 : decode cX6_cut 102 = .ok (.iconst (-1), 1) := by decide +kernel
theorem dX6_cut_103 : decode cX6_cut 103 = .ok (.ireturn, 1) := by decide +kernel
set_option maxRecDepth 20000 in
theorem ggX6_rate_X6_flowOf : GoodIn wsX6_rate wsX6_flowOf := goodIn_r _ [7, 8, 9, 10, 11, 12, 13, 14, 15, 6, 16, 17, 18, 19, 20, 21, 22, 23, 24, 25, 26, 27, 28, 29, 30, 31, 32, 33, 34, 35, 36, 37, 38, 39, 40, 41, 42, 43, 44, 45, 46, 47, 48, 49] (by decide +kernel) (by decide +kernel)
