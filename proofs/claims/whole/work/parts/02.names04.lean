theorem dX5_factor_68 : decode cX5_factor 68 = .ok (.iastore, 1) := by decide +kernel
theorem dX5_factor_69 : decode cX5_factor 69 = .ok (.iload 5, 2) := by decide +kernel
theorem dX5_factor_71 : decode cX5_factor 71 = .ok (.ireturn, 1) := by decide +kernel
set_option maxRecDepth 20000 in
theorem ggX5_keep_X2_isLine : GoodIn wsX5_keep wsX2_isLine := goodIn_r _ [7, 8, 24, 25, 26, 27, 28, 29, 30, 31, 32, 33, 34, 35, 36, 37, 38, 39] (by decide +kernel) (by decide +kernel)
set_option maxRecDepth 20000 in
theorem gX5_keep_X2_isLine : GoodIn wsX5_keep (wsV RX5 92 RX2 yX2_isLine wsX2_isLine) := goodIn_app (goodIn_of _ (by decide +kernel)) ggX5_keep_X2_isLine
set_option maxRecDepth 20000 in
theorem ggX5_keep_X5_isFlag : GoodIn wsX5_keep wsX5_isFlag := goodIn_r _ [12] (by decide +kernel) (by decide +kernel)
set_option maxRecDepth 20000 in
theorem gX5_keep_X5_isFlag : GoodIn wsX5_keep (va_wsS RX5 79 yX5_isFlag wsX5_isFlag) := goodIn_app (goodIn_of _ (by decide +kernel)) ggX5_keep_X5_isFlag
set_option maxRecDepth 20000 in
theorem ggX5_keep_X5_flag : GoodIn wsX5_keep wsX5_flag := goodIn_r _ [15] (by decide +kernel) (by decide +kernel)
set_option maxRecDepth 20000 in
theorem gX5_keep_X5_flag : GoodIn wsX5_keep (va_wsS RX5 85 yX5_flag wsX5_flag) := goodIn_app (goodIn_of _ (by decide +kernel)) ggX5_keep_X5_flag
set_option maxRecDepth 20000 in
theorem ggX5_keep_X5_withFlag : GoodIn wsX5_keep wsX5_withFlag := goodIn_r _ [18] (by decide +kernel) (by decide +kernel)
set_option maxRecDepth 20000 in
theorem gX5_keep_X5_withFlag : GoodIn wsX5_keep (va_wsS RX5 88 yX5_withFlag wsX5_withFlag) := goodIn_app (goodIn_of _ (by decide +kernel)) ggX5_keep_X5_withFlag
theorem dX5_keep_0 : decode cX5_keep 0 = .ok (.aload_n 0, 1) := by decide +kernel
theorem dX5_keep_1 : decode cX5_keep 1 = .ok (.getfield 10, 3) := by decide +kernel
theorem dX5_keep_4 : decode cX5_keep 4 = .ok (.iload_n 1, 1) := by decide +kernel
theorem dX5_keep_5 : decode cX5_keep 5 = .ok (.invokevirtual 92, 3) := by decide +kernel
theorem dX5_keep_8 : decode cX5_keep 8 = .ok (.ifCond .ne 5, 3) := by decide +kernel
theorem dX5_keep_11 : decode cX5_keep 11 = .ok (.iconst (-1), 1) := by decide +kernel
theorem dX5_keep_12 : decode cX5_keep 12 = .ok (.ireturn, 1) := by decide +kernel
theorem dX5_keep_13 : decode cX5_keep 13 = .ok (.iload_n 2, 1) := by decide +kernel
theorem dX5_keep_14 : decode cX5_keep 14 = .ok (.invokestatic 79, 3) := by decide +kernel
theorem dX5_keep_17 : decode cX5_keep 17 = .ok (.ifCond .ne 6, 3) := by decide +kernel
theorem dX5_keep_20 : decode cX5_keep 20 = .ok (.bipush (-2), 2) := by decide +kernel
theorem dX5_keep_22 : decode cX5_keep 22 = .ok (.ireturn, 1) := by decide +kernel
theorem dX5_keep_23 : decode cX5_keep 23 = .ok (.aload_n 0, 1) := by decide +kernel
theorem dX5_keep_24 : decode cX5_keep 24 = .ok (.getfield 10, 3) := by decide +kernel
theorem dX5_keep_27 : decode cX5_keep 27 = .ok (.getfield 109, 3) := by decide +kernel
theorem dX5_keep_30 : decode cX5_keep 30 = .ok (.iload_n 1, 1) := by decide +kernel
theorem dX5_keep_31 : decode cX5_keep 31 = .ok (.invokestatic 85, 3) := by decide +kernel
theorem dX5_keep_34 : decode cX5_keep 34 = .ok (.istore_n 3, 1) := by decide +kernel
theorem dX5_keep_35 : decode cX5_keep 35 = .ok (.aload_n 0, 1) := by decide +kernel
theorem dX5_keep_36 : decode cX5_keep 36 = .ok (.getfield 10, 3) := by decide +kernel
theorem dX5_keep_39 : decode cX5_keep 39 = .ok (.aload_n 0, 1) := by decide +kernel
theorem dX5_keep_40 : decode cX5_keep 40 = .ok (.getfield 10, 3) := by decide +kernel
theorem dX5_keep_43 : decode cX5_keep 43 = .ok (.getfield 109, 3) := by decide +kernel
theorem dX5_keep_46 : decode cX5_keep 46 = .ok (.iload_n 1, 1) := by decide +kernel
theorem dX5_keep_47 : decode cX5_keep 47 = .ok (.iload_n 2, 1) := by decide +kernel
theorem dX5_keep_48 : decode cX5_keep 48 = .ok (.invokestatic 88, 3) := by decide +kernel
theorem dX5_keep_51 : decode cX5_keep 51 = .ok (.putfield 109, 3) := by decide +kernel
theorem dX5_keep_54 : decode cX5_keep 54 = .ok (.iload_n 3, 1) := by decide +kernel
theorem dX5_keep_55 : decode cX5_keep 55 = .ok (.ireturn, 1) := by decide +kernel
set_option maxRecDepth 20000 in
theorem ggX5_broken_X2_isLine : GoodIn wsX5_broken wsX2_isLine := goodIn_r _ [7, 8, 24, 25, 26, 27, 28, 29, 30, 31, 32, 33, 34, 35, 36, 37, 38, 39] (by decide +kernel) (by decide +kernel)
set_option maxRecDepth 20000 in
theorem gX5_broken_X2_isLine : GoodIn wsX5_broken (wsV RX5 92 RX2 yX2_isLine wsX2_isLine) := goodIn_app (goodIn_of _ (by decide +kernel)) ggX5_broken_X2_isLine
set_option maxRecDepth 20000 in
theorem ggX5_broken_X5_isFlag : GoodIn wsX5_broken wsX5_isFlag := goodIn_r _ [12] (by decide +kernel) (by decide +kernel)
set_option maxRecDepth 20000 in
theorem gX5_broken_X5_isFlag : GoodIn wsX5_broken (va_wsS RX5 79 yX5_isFlag wsX5_isFlag) := goodIn_app (goodIn_of _ (by decide +kernel)) ggX5_broken_X5_isFlag
set_option maxRecDepth 20000 in
theorem ggX5_broken_X5_flag : GoodIn wsX5_broken wsX5_flag := goodIn_r _ [15] (by decide +kernel) (by decide +kernel)
set_option maxRecDepth 20000 in
theorem gX5_broken_X5_flag : GoodIn wsX5_broken (va_wsS RX5 85 yX5_flag wsX5_flag) := goodIn_app (goodIn_of _ (by decide +kernel)) ggX5_broken_X5_flag
set_option maxRecDepth 20000 in
theorem ggX5_broken_X5_withFlag : GoodIn wsX5_broken wsX5_withFlag := goodIn_r _ [18] (by decide +kernel) (by decide +kernel)
set_option maxRecDepth 20000 in
theorem gX5_broken_X5_withFlag : GoodIn wsX5_broken (va_wsS RX5 88 yX5_withFlag wsX5_withFlag) := goodIn_app (goodIn_of _ (by decide +kernel)) ggX5_broken_X5_withFlag
theorem dX5_broken_0 : decode cX5_broken 0 = .ok (.aload_n 0, 1) := by decide +kernel
theorem dX5_broken_1 : decode cX5_broken 1 = .ok (.getfield 10, 3) := by decide +kernel
theorem dX5_broken_4 : decode cX5_broken 4 = .ok (.iload_n 1, 1) := by decide +kernel
theorem dX5_broken_5 : decode cX5_broken 5 = .ok (.invokevirtual 92, 3) := by decide +kernel
theorem dX5_broken_8 : decode cX5_broken 8 = .ok (.ifCond .ne 5, 3) := by decide +kernel
theorem dX5_broken_11 : decode cX5_broken 11 = .ok (.iconst (-1), 1) := by decide +kernel
theorem dX5_broken_12 : decode cX5_broken 12 = .ok (.ireturn, 1) := by decide +kernel
theorem dX5_broken_13 : decode cX5_broken 13 = .ok (.iload_n 2, 1) := by decide +kernel
theorem dX5_broken_14 : decode cX5_broken 14 = .ok (.invokestatic 79, 3) := by decide +kernel
theorem dX5_broken_17 : decode cX5_broken 17 = .ok (.ifCond .ne 6, 3) := by decide +kernel
theorem dX5_broken_20 : decode cX5_broken 20 = .ok (.bipush (-2), 2) := by decide +kernel
theorem dX5_broken_22 : decode cX5_broken 22 = .ok (.ireturn, 1) := by decide +kernel
theorem dX5_broken_23 : decode cX5_broken 23 = .ok (.aload_n 0, 1) := by decide +kernel
theorem dX5_broken_24 : decode cX5_broken 24 = .ok (.getfield 10, 3) := by decide +kernel
theorem dX5_broken_27 : decode cX5_broken 27 = .ok (.getfield 112, 3) := by decide +kernel
theorem dX5_broken_30 : decode cX5_broken 30 = .ok (.iload_n 1, 1) := by decide +kernel
theorem dX5_broken_31 : decode cX5_broken 31 = .ok (.invokestatic 85, 3) := by decide +kernel
theorem dX5_broken_34 : decode cX5_broken 34 = .ok (.istore_n 3, 1) := by decide +kernel
theorem dX5_broken_35 : decode cX5_broken 35 = .ok (.aload_n 0, 1) := by decide +kernel
theorem dX5_broken_36 : decode cX5_broken 36 = .ok (.getfield 10, 3) := by decide +kernel
theorem dX5_broken_39 : decode cX5_broken 39 = .ok (.aload_n 0, 1) := by decide +kernel
theorem dX5_broken_40 : decode cX5_broken 40 = .ok (.getfield 10, 3) := by decide +kernel
theorem dX5_broken_43 : decode cX5_broken 43 = .ok (.getfield 112, 3) := by decide +kernel
theorem dX5_broken_46 : decode cX5_broken 46 = .ok (.iload_n 1, 1) := by decide +kernel
theorem dX5_broken_47 : decode cX5_broken 47 = .ok (.iload_n 2, 1) := by decide +kernel
theorem dX5_broken_48 : decode cX5_broken 48 = .ok (.invokestatic 88, 3) := by decide +kernel
theorem dX5_broken_51 : decode cX5_broken 51 = .ok (.putfield 112, 3) := by decide +kernel
theorem dX5_broken_54 : decode cX5_broken 54 = .ok (.iload_n 3, 1) := by decide +kernel
theorem dX5_broken_55 : decode cX5_broken 55 = .ok (.ireturn, 1) := by decide +kernel
set_option maxRecDepth 20000 in
theorem ggX5_bend_X2_isLine : GoodIn wsX5_bend wsX2_isLine := goodIn_r _ [7, 8, 18, 19, 20, 21, 22, 23, 24, 25, 26, 27, 28, 29, 30, 31, 32, 33] (by decide +kernel) (by decide +kernel)
set_option maxRecDepth 20000 in
theorem gX5_bend_X2_isLine : GoodIn wsX5_bend (wsV RX5 92 RX2 yX2_isLine wsX2_isLine) := goodIn_app (goodIn_of _ (by decide +kernel)) ggX5_bend_X2_isLine
set_option maxRecDepth 20000 in
theorem ggX5_bend_X5_asFlag : GoodIn wsX5_bend wsX5_asFlag := goodIn_r _ [12] (by decide +kernel) (by decide +kernel)
set_option maxRecDepth 20000 in
theorem gX5_bend_X5_asFlag : GoodIn wsX5_bend (va_wsS RX5 118 yX5_asFlag wsX5_asFlag) := goodIn_app (goodIn_of _ (by decide +kernel)) ggX5_bend_X5_asFlag
theorem dX5_bend_0 : decode cX5_bend 0 = .ok (.aload_n 0, 1) := by decide +kernel
theorem dX5_bend_1 : decode cX5_bend 1 = .ok (.getfield 10, 3) := by decide +kernel
theorem dX5_bend_4 : decode cX5_bend 4 = .ok (.iload_n 1, 1) := by decide +kernel
theorem dX5_bend_5 : decode cX5_bend 5 = .ok (.invokevirtual 92, 3) := by decide +kernel
theorem dX5_bend_8 : decode cX5_bend 8 = .ok (.ifCond .ne 5, 3) := by decide +kernel
theorem dX5_bend_11 : decode cX5_bend 11 = .ok (.iconst (-1), 1) := by decide +kernel
theorem dX5_bend_12 : decode cX5_bend 12 = .ok (.ireturn, 1) := by decide +kernel
theorem dX5_bend_13 : decode cX5_bend 13 = .ok (.aload_n 0, 1) := by decide +kernel
theorem dX5_bend_14 : decode cX5_bend 14 = .ok (.getfield 10, 3) := by decide +kernel
theorem dX5_bend_17 : decode cX5_bend 17 = .ok (.getfield 115, 3) := by decide +kernel
theorem dX5_bend_20 : decode cX5_bend 20 = .ok (.iload_n 1, 1) := by decide +kernel
theorem dX5_bend_21 : decode cX5_bend 21 = .ok (.laload, 1) := by decide +kernel
theorem dX5_bend_22 : decode cX5_bend 22 = .ok (.lconst 0, 1) := by decide +kernel
theorem dX5_bend_23 : decode cX5_bend 23 = .ok (.lcmp, 1) := by decide +kernel
theorem dX5_bend_24 : decode cX5_bend 24 = .ok (.ifCond .eq 7, 3) := by decide +kernel
theorem dX5_bend_27 : decode cX5_bend 27 = .ok (.iconst 1, 1) := by decide +kernel
theorem dX5_bend_28 : decode cX5_bend 28 = .ok (.goto 4, 3) := by decide +kernel
theorem dX5_bend_31 : decode cX5_bend 31 = .ok (.iconst 0, 1) := by decide +kernel
theorem dX5_bend_32 : decode cX5_bend 32 = .ok (.invokestatic 118, 3) := by decide +kernel
theorem dX5_bend_35 : decode cX5_bend 35 = .ok (.istore 4, 2) := by decide +kernel
theorem dX5_bend_37 : decode cX5_bend 37 = .ok (.aload_n 0, 1) := by decide +kernel
theorem dX5_bend_38 : decode cX5_bend 38 = .ok (.getfield 10, 3) := by decide +kernel
theorem dX5_bend_41 : decode cX5_bend 41 = .ok (.getfield 115, 3) := by decide +kernel
theorem dX5_bend_44 : decode cX5_bend 44 = .ok (.iload_n 1, 1) := by decide +kernel
theorem dX5_bend_45 : decode cX5_bend 45 = .ok (.lload_n 2, 1) := by decide +kernel
theorem dX5_bend_46 : decode cX5_bend 46 = .ok (.lastore, 1) := by decide +kernel
theorem dX5_bend_47 : decode cX5_bend 47 = .ok (.iload 4, 2) := by decide +kernel
theorem dX5_bend_49 : decode cX5_bend 49 = .ok (.ireturn, 1) := by decide +kernel
set_option maxRecDepth 20000 in
theorem ggX5_about_X2_isLine : GoodIn wsX5_about wsX2_isLine := goodIn_r _ [11, 12, 40, 41, 42, 43, 44, 45, 46, 47, 48, 49, 50, 51, 52, 53, 54, 55] (by decide +kernel) (by decide +kernel)
set_option maxRecDepth 20000 in
theorem gX5_about_X2_isLine : GoodIn wsX5_about (wsV RX5 92 RX2 yX2_isLine wsX2_isLine) := goodIn_app (goodIn_of _ (by decide +kernel)) ggX5_about_X2_isLine
set_option maxRecDepth 20000 in
theorem ggX5_about_X2_insOf : GoodIn wsX5_about wsX2_insOf := goodIn_r _ [16, 17, 18, 19, 40, 41, 42, 43, 44, 45, 46, 47, 48, 49, 50, 51, 52, 53, 54, 55] (by decide +kernel) (by decide +kernel)
set_option maxRecDepth 20000 in
theorem gX5_about_X2_insOf : GoodIn wsX5_about (wsV RX5 95 RX2 yX2_insOf wsX2_insOf) := goodIn_app (goodIn_of _ (by decide +kernel)) ggX5_about_X2_insOf
set_option maxRecDepth 20000 in
theorem ggX5_about_X5_flag : GoodIn wsX5_about wsX5_flag := goodIn_r _ [23] (by decide +kernel) (by decide +kernel)
set_option maxRecDepth 20000 in
theorem gX5_about_X5_flag : GoodIn wsX5_about (va_wsS RX5 85 yX5_flag wsX5_flag) := goodIn_app (goodIn_of _ (by decide +kernel)) ggX5_about_X5_flag
set_option maxRecDepth 20000 in
theorem ggX5_about_X5_asFlag : GoodIn wsX5_about wsX5_asFlag := goodIn_r _ [26] (by decide +kernel) (by decide +kernel)
set_option maxRecDepth 20000 in
theorem gX5_about_X5_asFlag : GoodIn wsX5_about (va_wsS RX5 118 yX5_asFlag wsX5_asFlag) := goodIn_app (goodIn_of _ (by decide +kernel)) ggX5_about_X5_asFlag
set_option maxRecDepth 20000 in
theorem ggX5_about_X2_isPassing : GoodIn wsX5_about wsX2_isPassing := goodIn_r _ [30, 17, 31, 32, 14, 15, 10, 16, 18, 19, 33, 22, 34, 25, 26, 40, 41, 42, 43, 44, 45, 46, 47, 48, 49, 50, 51, 52, 53, 54, 55] (by decide +kernel) (by decide +kernel)
set_option maxRecDepth 20000 in
theorem gX5_about_X2_isPassing : GoodIn wsX5_about (wsV RX5 128 RX2 yX2_isPassing wsX2_isPassing) := goodIn_app (goodIn_of _ (by decide +kernel)) ggX5_about_X2_isPassing
theorem dX5_about_0 : decode cX5_about 0 = .ok (.aload_n 0, 1) := by decide +kernel
theorem dX5_about_1 : decode cX5_about 1 = .ok (.getfield 10, 3) := by decide +kernel
theorem dX5_about_4 : decode cX5_about 4 = .ok (.iload_n 1, 1) := by decide +kernel
theorem dX5_about_5 : decode cX5_about 5 = .ok (.invokevirtual 92, 3) := by decide +kernel
theorem dX5_about_8 : decode cX5_about 8 = .ok (.ifCond .ne 5, 3) := by decide +kernel
theorem dX5_about_11 : decode cX5_about 11 = .ok (.iconst (-1), 1) := by decide +kernel
theorem dX5_about_12 : decode cX5_about 12 = .ok (.ireturn, 1) := by decide +kernel
theorem dX5_about_13 : decode cX5_about 13 = .ok (.iload_n 2, 1) := by decide +kernel
theorem dX5_about_14 : decode cX5_about 14 = .ok (.tableswitch 130 0 6 #[42, 52, 62, 71, 83, 95, 118], 42) := by decide +kernel
theorem dX5_about_56 : decode cX5_about 56 = .ok (.aload_n 0, 1) := by decide +kernel
theorem dX5_about_57 : decode cX5_about 57 = .ok (.getfield 10, 3) := by decide +kernel
theorem dX5_about_60 : decode cX5_about 60 = .ok (.getfield 122, 3) := by decide +kernel
theorem dX5_about_63 : decode cX5_about 63 = .ok (.iload_n 1, 1) := by decide +kernel
theorem dX5_about_64 : decode cX5_about 64 = .ok (.iaload, 1) := by decide +kernel
theorem dX5_about_65 : decode cX5_about 65 = .ok (.ireturn, 1) := by decide +kernel
theorem dX5_about_66 : decode cX5_about 66 = .ok (.aload_n 0, 1) := by decide +kernel
theorem dX5_about_67 : decode cX5_about 67 = .ok (.getfield 10, 3) := by decide +kernel
theorem dX5_about_70 : decode cX5_about 70 = .ok (.getfield 125, 3) := by decide +kernel
theorem dX5_about_73 : decode cX5_about 73 = .ok (.iload_n 1, 1) := by decide +kernel
theorem dX5_about_74 : decode cX5_about 74 = .ok (.iaload, 1) := by decide +kernel
theorem dX5_about_75 : decode cX5_about 75 = .ok (.ireturn, 1) := by decide +kernel
theorem dX5_about_76 : decode cX5_about 76 = .ok (.aload_n 0, 1) := by decide +kernel
theorem dX5_about_77 : decode cX5_about 77 = .ok (.getfield 10, 3) := by decide +kernel
theorem dX5_about_80 : decode cX5_about 80 = .ok (.iload_n 1, 1) := by decide +kernel
theorem dX5_about_81 : decode cX5_about 81 = .ok (.invokevirtual 95, 3) := by decide +kernel
theorem dX5_about_84 : decode cX5_about 84 = .ok (.ireturn, 1) := by decide +kernel
theorem dX5_about_85 : decode cX5_about 85 = .ok (.aload_n 0, 1) := by decide +kernel
theorem dX5_about_86 : decode cX5_about 86 = .ok (.getfield 10, 3) := by decide +kernel
theorem dX5_about_89 : decode cX5_about 89 = .ok (.getfield 109, 3) := by decide +kernel
theorem dX5_about_92 : decode cX5_about 92 = .ok (.iload_n 1, 1) := by decide +kernel
theorem dX5_about_93 : decode cX5_about 93 = .ok (.invokestatic 85, 3) := by decide +kernel
theorem dX5_about_96 : decode cX5_about 96 = .ok (.ireturn, 1) := by decide +kernel
theorem dX5_about_97 : decode cX5_about 97 = .ok (.aload_n 0, 1) := by decide +kernel
theorem dX5_about_98 : decode cX5_about 98 = .ok (.getfield 10, 3) := by decide +kernel
theorem dX5_about_101 : decode cX5_about 101 = .ok (.getfield 112, 3) := by decide +kernel
theorem dX5_about_104 : decode cX5_about 104 = .ok (.iload_n 1, 1) := by decide +kernel
theorem dX5_about_105 : decode cX5_about 105 = .ok (.invokestatic 85, 3) := by decide +kernel
theorem dX5_about_108 : decode cX5_about 108 = .ok (.ireturn, 1) := by decide +kernel
theorem dX5_about_109 : decode cX5_about 109 = .ok (.aload_n 0, 1) := by decide +kernel
theorem dX5_about_110 : decode cX5_about 110 = .ok (.getfield 10, 3) := by decide +kernel
theorem dX5_about_113 : decode cX5_about 113 = .ok (.getfield 115, 3) := by decide +kernel
theorem dX5_about_116 : decode cX5_about 116 = .ok (.iload_n 1, 1) := by decide +kernel
theorem dX5_about_117 : decode cX5_about 117 = .ok (.laload, 1) := by decide +kernel
theorem dX5_about_118 : decode cX5_about 118 = .ok (.lconst 0, 1) := by decide +kernel
theorem dX5_about_119 : decode cX5_about 119 = .ok (.lcmp, 1) := by decide +kernel
theorem dX5_about_120 : decode cX5_about 120 = .ok (.ifCond .eq 7, 3) := by decide +kernel
theorem dX5_about_123 : decode cX5_about 123 = .ok (.iconst 1, 1) := by decide +kernel
theorem dX5_about_124 : decode cX5_about 124 = .ok (.goto 4, 3) := by decide +kernel
theorem dX5_about_127 : decode cX5_about 127 = .ok (.iconst 0, 1) := by decide +kernel
theorem dX5_about_128 : decode cX5_about 128 = .ok (.invokestatic 118, 3) := by decide +kernel
theorem dX5_about_131 : decode cX5_about 131 = .ok (.ireturn, 1) := by decide +kernel
theorem dX5_about_132 : decode cX5_about 132 = .ok (.aload_n 0, 1) := by decide +kernel
theorem dX5_about_133 : decode cX5_about 133 = .ok (.getfield 10, 3) := by decide +kernel
theorem dX5_about_136 : decode cX5_about 136 = .ok (.iload_n 1, 1) := by decide +kernel
theorem dX5_about_137 : decode cX5_about 137 = .ok (.invokevirtual 128, 3) := by decide +kernel
theorem dX5_about_140 : decode cX5_about 140 = .ok (.invokestatic 118, 3) := by decide +kernel
theorem dX5_about_143 : decode cX5_about 143 = .ok (.ireturn, 1) := by decide +kernel
theorem dX5_about_144 : decode cX5_about 144 = .ok (.iconst (-1), 1) := by decide +kernel
theorem dX5_about_145 : decode cX5_about 145 = .ok (.ireturn, 1) := by decide +kernel
set_option maxRecDepth 20000 in
theorem ggX5_times_X5_isNumber : GoodIn wsX5_times wsX5_isNumber := goodIn_r _ [4] (by decide +kernel) (by decide +kernel)
set_option maxRecDepth 20000 in
theorem gX5_times_X5_isNumber : GoodIn wsX5_times (va_wsS RX5 99 yX5_isNumber wsX5_isNumber) := goodIn_app (goodIn_of _ (by decide +kernel)) ggX5_times_X5_isNumber
set_option maxRecDepth 20000 in
theorem ggX5_times_X5_product : GoodIn wsX5_times wsX5_product := goodIn_r _ [7, 8, 9, 3, 10, 11, 12, 13] (by decide +kernel) (by decide +kernel)
set_option maxRecDepth 20000 in
theorem gX5_times_X5_product : GoodIn wsX5_times (va_wsS RX5 131 yX5_product wsX5_product) := goodIn_app (goodIn_of _ (by decide +kernel)) ggX5_times_X5_product
theorem dX5_times_0 : decode cX5_times 0 = .ok (.iload_n 1, 1) := by decide +kernel
theorem dX5_times_1 : decode cX5_times 1 = .ok (.invokestatic 99, 3) := by decide +kernel
theorem dX5_times_4 : decode cX5_times 4 = .ok (.ifCond .eq 18, 3) := by decide +kernel
theorem dX5_times_7 : decode cX5_times 7 = .ok (.iload_n 2, 1) := by decide +kernel
theorem dX5_times_8 : decode cX5_times 8 = .ok (.invokestatic 99, 3) := by decide +kernel
theorem dX5_times_11 : decode cX5_times 11 = .ok (.ifCond .eq 11, 3) := by decide +kernel
theorem dX5_times_14 : decode cX5_times 14 = .ok (.iload_n 1, 1) := by decide +kernel
theorem dX5_times_15 : decode cX5_times 15 = .ok (.iload_n 2, 1) := by decide +kernel
theorem dX5_times_16 : decode cX5_times 16 = .ok (.invokestatic 131, 3) := by decide +kernel
theorem dX5_times_19 : decode cX5_times 19 = .ok (.goto 5, 3) := by decide +kernel
theorem dX5_times_22 : decode cX5_times 22 = .ok (.bipush (-2), 2) := by decide +kernel
theorem dX5_times_24 : decode cX5_times 24 = .ok (.ireturn, 1) := by decide +kernel
set_option maxRecDepth 20000 in
theorem ggX5_inverse_X5_isNumber : GoodIn wsX5_inverse wsX5_isNumber := goodIn_r _ [4] (by decide +kernel) (by decide +kernel)
set_option maxRecDepth 20000 in
theorem gX5_inverse_X5_isNumber : GoodIn wsX5_inverse (va_wsS RX5 99 yX5_isNumber wsX5_isNumber) := goodIn_app (goodIn_of _ (by decide +kernel)) ggX5_inverse_X5_isNumber
set_option maxRecDepth 20000 in
theorem ggX5_inverse_X5_inverseOf : GoodIn wsX5_inverse wsX5_inverseOf := goodIn_r _ [7, 8, 9, 3, 10, 11, 12, 13] (by decide +kernel) (by decide +kernel)
set_option maxRecDepth 20000 in
theorem gX5_inverse_X5_inverseOf : GoodIn wsX5_inverse (va_wsS RX5 134 yX5_inverseOf wsX5_inverseOf) := goodIn_app (goodIn_of _ (by decide +kernel)) ggX5_inverse_X5_inverseOf
theorem dX5_inverse_0 : decode cX5_inverse 0 = .ok (.iload_n 1, 1) := by decide +kernel
theorem dX5_inverse_1 : decode cX5_inverse 1 = .ok (.invokestatic 99, 3) := by decide +kernel
theorem dX5_inverse_4 : decode cX5_inverse 4 = .ok (.ifCond .eq 14, 3) := by decide +kernel
theorem dX5_inverse_7 : decode cX5_inverse 7 = .ok (.iload_n 1, 1) := by decide +kernel
theorem dX5_inverse_8 : decode cX5_inverse 8 = .ok (.ifCond .eq 10, 3) := by decide +kernel
theorem dX5_inverse_11 : decode cX5_inverse 11 = .ok (.iload_n 1, 1) := by decide +kernel
theorem dX5_inverse_12 : decode cX5_inverse 12 = .ok (.invokestatic 134, 3) := by decide +kernel
theorem dX5_inverse_15 : decode cX5_inverse 15 = .ok (.goto 5, 3) := by decide +kernel
theorem dX5_inverse_18 : decode cX5_inverse 18 = .ok (.bipush (-2), 2) := by decide +kernel
theorem dX5_inverse_20 : decode cX5_inverse 20 = .ok (.ireturn, 1) := by decide +kernel
set_option maxRecDepth 20000 in
theorem ggX5_flow_X5_refusalOf : GoodIn wsX5_flow wsX5_refusalOf := goodIn_r _ [6, 7, 8, 9, 10, 11, 12, 13, 42, 43, 44, 45, 46, 47, 48, 49, 50, 51, 52, 53, 54, 55, 56, 57, 58, 59, 60, 61, 62] (by decide +kernel) (by decide +kernel)
set_option maxRecDepth 20000 in
theorem gX5_flow_X5_refusalOf : GoodIn wsX5_flow (wsV RX5 137 RX5 yX5_refusalOf wsX5_refusalOf) := goodIn_app (goodIn_of _ (by decide +kernel)) ggX5_flow_X5_refusalOf
set_option maxRecDepth 20000 in
theorem ggX5_flow_X4_mostTo : GoodIn wsX5_flow wsX4_mostTo := goodIn_r _ [18, 19, 20, 21, 22, 23, 24, 25, 17, 26, 27, 28, 29, 5, 30, 31, 32, 33, 34, 35, 36, 37, 38, 39, 40, 41, 63, 64, 65, 66, 47, 48, 49, 50, 51, 52, 53, 54, 55, 56, 57, 58, 59, 60, 61, 62] (by decide +kernel) (by decide +kernel)
set_option maxRecDepth 20000 in
theorem gX5_flow_X4_mostTo : GoodIn wsX5_flow (wsV RX5 140 RX4 yX4_mostTo wsX4_mostTo) := goodIn_app (goodIn_of _ (by decide +kernel)) ggX5_flow_X4_mostTo
theorem dX5_flow_0 : decode cX5_flow 0 = .ok (.aload_n 0, 1) := by decide +kernel
theorem dX5_flow_1 : decode cX5_flow 1 = .ok (.iload_n 1, 1) := by decide +kernel
theorem dX5_flow_2 : decode cX5_flow 2 = .ok (.invokevirtual 137, 3) := by decide +kernel
theorem dX5_flow_5 : decode cX5_flow 5 = .ok (.istore_n 2, 1) := by decide +kernel
theorem dX5_flow_6 : decode cX5_flow 6 = .ok (.iload_n 2, 1) := by decide +kernel
theorem dX5_flow_7 : decode cX5_flow 7 = .ok (.ifCond .eq 7, 3) := by decide +kernel
theorem dX5_flow_10 : decode cX5_flow 10 = .ok (.iload_n 2, 1) := by decide +kernel
theorem dX5_flow_11 : decode cX5_flow 11 = .ok (.goto 11, 3) := by decide +kernel
theorem dX5_flow_14 : decode cX5_flow 14 = .ok (.aload_n 0, 1) := by decide +kernel
theorem dX5_flow_15 : decode cX5_flow 15 = .ok (.getfield 21, 3) := by decide +kernel
theorem dX5_flow_18 : decode cX5_flow 18 = .ok (.iload_n 1, 1) := by decide +kernel
theorem dX5_flow_19 : decode cX5_flow 19 = .ok (.invokevirtual 140, 3) := by decide +kernel
theorem dX5_flow_22 : decode cX5_flow 22 = .ok (.ireturn, 1) := by decide +kernel
set_option maxRecDepth 20000 in
theorem ggX5_cut_X5_refusalOf : GoodIn wsX5_cut wsX5_refusalOf := goodIn_r _ [6, 7, 8, 9, 10, 11, 12, 13, 46, 47, 48, 49, 50, 51, 52, 53, 54, 55, 56, 57, 58, 59, 60, 61, 62, 63, 64, 65, 66] (by decide +kernel) (by decide +kernel)
set_option maxRecDepth 20000 in
theorem gX5_cut_X5_refusalOf : GoodIn wsX5_cut (wsV RX5 137 RX5 yX5_refusalOf wsX5_refusalOf) := goodIn_app (goodIn_of _ (by decide +kernel)) ggX5_cut_X5_refusalOf
set_option maxRecDepth 20000 in
theorem ggX5_cut_X4_mostTo : GoodIn wsX5_cut wsX4_mostTo := goodIn_r _ [18, 19, 20, 21, 22, 23, 24, 25, 17, 26, 27, 28, 29, 5, 30, 31, 32, 33, 34, 35, 36, 37, 38, 39, 40, 41, 67, 68, 69, 70, 51, 52, 53, 54, 55, 56, 57, 58, 59, 60, 61, 62, 63, 64, 65, 66] (by decide +kernel) (by decide +kernel)
set_option maxRecDepth 20000 in
theorem gX5_cut_X4_mostTo : GoodIn wsX5_cut (wsV RX5 140 RX4 yX4_mostTo wsX4_mostTo) := goodIn_app (goodIn_of _ (by decide +kernel)) ggX5_cut_X4_mostTo
set_option maxRecDepth 20000 in
theorem ggX5_cut_X4_cutLine : GoodIn wsX5_cut wsX4_cutLine := goodIn_r _ [45, 20, 21, 28, 22, 36, 35, 29, 5, 30, 67, 68, 69, 70, 51, 52, 53, 54, 55, 56, 57, 58, 59, 60, 61, 62, 63, 64, 65, 66] (by decide +kernel) (by decide +kernel)
set_option maxRecDepth 20000 in
theorem gX5_cut_X4_cutLine : GoodIn wsX5_cut (wsV RX5 143 RX4 yX4_cutLine wsX4_cutLine) := goodIn_app (goodIn_of _ (by decide +kernel)) ggX5_cut_X4_cutLine
theorem dX5_cut_0 : decode cX5_cut 0 = .ok (.iload_n 2, 1) := by decide +kernel
theorem dX5_cut_1 : decode cX5_cut 1 = .ok (.ifCond .ge 7, 3) := by decide +kernel
theorem dX5_cut_4 : decode cX5_cut 4 = .ok (.iconst (-1), 1) := by decide +kernel
theorem dX5_cut_5 : decode cX5_cut 5 = .ok (.goto 8, 3) := by decide +kernel
theorem dX5_cut_8 : decode cX5_cut 8 = .ok (.aload_n 0, 1) := by decide +kernel
theorem dX5_cut_9 : decode cX5_cut 9 = .ok (.iload_n 1, 1) := by decide +kernel
theorem dX5_cut_10 : decode cX5_cut 10 = .ok (.invokevirtual 137, 3) := by decide +kernel
theorem dX5_cut_13 : decode cX5_cut 13 = .ok (.istore_n 3, 1) := by decide +kernel
theorem dX5_cut_14 : decode cX5_cut 14 = .ok (.iload_n 3, 1) := by decide +kernel
theorem dX5_cut_15 : decode cX5_cut 15 = .ok (.ifCond .eq 5, 3) := by decide +kernel
theorem dX5_cut_18 : decode cX5_cut 18 = .ok (.iload_n 3, 1) := by decide +kernel
theorem dX5_cut_19 : decode cX5_cut 19 = .ok (.ireturn, 1) := by decide +kernel
theorem dX5_cut_20 : decode cX5_cut 20 = .ok (.aload_n 0, 1) := by decide +kernel
theorem dX5_cut_21 : decode cX5_cut 21 = .ok (.getfield 21, 3) := by decide +kernel
theorem dX5_cut_24 : decode cX5_cut 24 = .ok (.iload_n 1, 1) := by decide +kernel
theorem dX5_cut_25 : decode cX5_cut 25 = .ok (.invokevirtual 140, 3) := by decide +kernel
theorem dX5_cut_28 : decode cX5_cut 28 = .ok (.pop, 1) := by decide +kernel
theorem dX5_cut_29 : decode cX5_cut 29 = .ok (.aload_n 0, 1) := by decide +kernel
theorem dX5_cut_30 : decode cX5_cut 30 = .ok (.getfield 21, 3) := by decide +kernel
theorem dX5_cut_33 : decode cX5_cut 33 = .ok (.iload_n 2, 1) := by decide +kernel
theorem dX5_cut_34 : decode cX5_cut 34 = .ok (.invokevirtual 143, 3) := by decide +kernel
theorem dX5_cut_37 : decode cX5_cut 37 = .ok (.ireturn, 1) := by decide +kernel
set_option maxRecDepth 20000 in
theorem ggX5_rate_X5_flag : GoodIn wsX5_rate wsX5_flag := goodIn_r _ [12] (by decide +kernel) (by decide +kernel)
set_option maxRecDepth 20000 in
theorem gX5_rate_X5_flag : GoodIn wsX5_rate (va_wsS RX5 85 yX5_flag wsX5_flag) := goodIn_app (goodIn_of _ (by decide +kernel)) ggX5_rate_X5_flag
set_option maxRecDepth 20000 in
theorem ggX5_rate_X4_mostTo : GoodIn wsX5_rate wsX4_mostTo := goodIn_r _ [17, 18, 19, 20, 21, 22, 23, 24, 16, 25, 26, 27, 10, 11, 12, 28, 29, 30, 31, 32, 33, 34, 35, 36, 37, 38, 60, 61, 62, 63, 44, 45, 46, 47, 48, 49, 50, 51, 52, 53, 54, 55, 56, 57, 58, 59] (by decide +kernel) (by decide +kernel)
set_option maxRecDepth 20000 in
theorem gX5_rate_X4_mostTo : GoodIn wsX5_rate (wsV RX5 140 RX4 yX4_mostTo wsX4_mostTo) := goodIn_app (goodIn_of _ (by decide +kernel)) ggX5_rate_X4_mostTo
theorem dX5_rate_0 : decode cX5_rate 0 = .ok (.iconst (-1), 1) := by decide +kernel
theorem dX5_rate_1 : decode cX5_rate 1 = .ok (.istore_n 1, 1) := by decide +kernel
theorem dX5_rate_2 : decode cX5_rate 2 = .ok (.iconst 1, 1) := by decide +kernel
theorem dX5_rate_3 : decode cX5_rate 3 = .ok (.istore_n 2, 1) := by decide +kernel
theorem dX5_rate_4 : decode cX5_rate 4 = .ok (.iload_n 2, 1) := by decide +kernel
theorem dX5_rate_5 : decode cX5_rate 5 = .ok (.aload_n 0, 1) := by decide +kernel
theorem dX5_rate_6 : decode cX5_rate 6 = .ok (.getfield 10, 3) := by decide +kernel
theorem dX5_rate_9 : decode cX5_rate 9 = .ok (.getfield 48, 3) := by decide +kernel
theorem dX5_rate_12 : decode cX5_rate 12 = .ok (.if_icmp .ge 48, 3) := by decide +kernel
theorem dX5_rate_15 : decode cX5_rate 15 = .ok (.aload_n 0, 1) := by decide +kernel
theorem dX5_rate_16 : decode cX5_rate 16 = .ok (.getfield 10, 3) := by decide +kernel
theorem dX5_rate_19 : decode cX5_rate 19 = .ok (.getfield 82, 3) := by decide +kernel
theorem dX5_rate_22 : decode cX5_rate 22 = .ok (.iload_n 2, 1) := by decide +kernel
theorem dX5_rate_23 : decode cX5_rate 23 = .ok (.invokestatic 85, 3) := by decide +kernel
theorem dX5_rate_26 : decode cX5_rate 26 = .ok (.iconst 1, 1) := by decide +kernel
theorem dX5_rate_27 : decode cX5_rate 27 = .ok (.if_icmp .ne 27, 3) := by decide +kernel
theorem dX5_rate_30 : decode cX5_rate 30 = .ok (.aload_n 0, 1) := by decide +kernel
theorem dX5_rate_31 : decode cX5_rate 31 = .ok (.getfield 21, 3) := by decide +kernel
theorem dX5_rate_34 : decode cX5_rate 34 = .ok (.iload_n 2, 1) := by decide +kernel
theorem dX5_rate_35 : decode cX5_rate 35 = .ok (.invokevirtual 140, 3) := by decide +kernel
theorem dX5_rate_38 : decode cX5_rate 38 = .ok (.istore_n 3, 1) := by decide +kernel
theorem dX5_rate_39 : decode cX5_rate 39 = .ok (.iload_n 1, 1) := by decide +kernel
theorem dX5_rate_40 : decode cX5_rate 40 = .ok (.iconst (-1), 1) := by decide +kernel
theorem dX5_rate_41 : decode cX5_rate 41 = .ok (.if_icmp .ne 7, 3) := by decide +kernel
theorem dX5_rate_44 : decode cX5_rate 44 = .ok (.iload_n 3, 1) := by decide +kernel
theorem dX5_rate_45 : decode cX5_rate 45 = .ok (.goto 8, 3) := by decide +kernel
theorem dX5_rate_48 : decode cX5_rate 48 = .ok (.iload_n 1, 1) := by decide +kernel
theorem dX5_rate_49 : decode cX5_rate 49 = .ok (.iload_n 3, 1) := by decide +kernel
theorem dX5_rate_50 : decode cX5_rate 50 = .ok (.invokestatic 146, 3) := by decide +kernel
theorem dX5_rate_53 : decode cX5_rate 53 = .ok (.istore_n 1, 1) := by decide +kernel
theorem dX5_rate_54 : decode cX5_rate 54 = .ok (.iinc 2 1, 3) := by decide +kernel
theorem dX5_rate_57 : decode cX5_rate 57 = .ok (.goto (-53), 3) := by decide +kernel
theorem dX5_rate_60 : decode cX5_rate 60 = .ok (.iload_n 1, 1) := by decide +kernel
theorem dX5_rate_61 : decode cX5_rate 61 = .ok (.iconst (-1), 1) := by decide +kernel
theorem dX5_rate_62 : decode cX5_rate 62 = .ok (.if_icmp .ne 7, 3) := by decide +kernel
theorem dX5_rate_65 : decode cX5_rate 65 = .ok (.iconst 0, 1) := by decide +kernel
theorem dX5_rate_66 : decode cX5_rate 66 = .ok (.goto 4, 3) := by decide +kernel
theorem dX5_rate_69 : decode cX5_rate 69 = .ok (.iload_n 1, 1) := by decide +kernel
theorem dX5_rate_70 : decode cX5_rate 70 = .ok (.ireturn, 1) := by decide +kernel
set_option maxRecDepth 20000 in
theorem ggX5_vector_X2_isLine : GoodIn wsX5_vector wsX2_isLine := goodIn_r _ [8, 9, 51, 52, 53, 54, 55, 56, 57, 58, 59, 60, 61, 62, 63, 64, 65, 66] (by decide +kernel) (by decide +kernel)
set_option maxRecDepth 20000 in
theorem gX5_vector_X2_isLine : GoodIn wsX5_vector (wsV RX5 92 RX2 yX2_isLine wsX2_isLine) := goodIn_app (goodIn_of _ (by decide +kernel)) ggX5_vector_X2_isLine
set_option maxRecDepth 20000 in
theorem ggX5_vector_X2_isPiece : GoodIn wsX5_vector wsX2_isPiece := goodIn_r _ [13, 14, 51, 52, 53, 54, 55, 56, 57, 58, 59, 60, 61, 62, 63, 64, 65, 66] (by decide +kernel) (by decide +kernel)
set_option maxRecDepth 20000 in
theorem gX5_vector_X2_isPiece : GoodIn wsX5_vector (wsV RX5 76 RX2 yX2_isPiece wsX2_isPiece) := goodIn_app (goodIn_of _ (by decide +kernel)) ggX5_vector_X2_isPiece
set_option maxRecDepth 20000 in
theorem ggX5_vector_X2_spreadVectors : GoodIn wsX5_vector wsX2_spreadVectors := goodIn_r _ [18, 9, 19, 20, 21, 22, 23, 24, 25, 26, 7, 27, 28, 29, 30, 31, 32, 33, 34, 14, 35, 36, 37, 38, 39, 40, 41, 42, 51, 52, 53, 54, 55, 56, 57, 58, 59, 60, 61, 62, 63, 64, 65, 66] (by decide +kernel) (by decide +kernel)
set_option maxRecDepth 20000 in
theorem gX5_vector_X2_spreadVectors : GoodIn wsX5_vector (wsV RX5 151 RX2 yX2_spreadVectors wsX2_spreadVectors) := goodIn_app (goodIn_of _ (by decide +kernel)) ggX5_vector_X2_spreadVectors
set_option maxRecDepth 20000 in
theorem ggX5_vector_X5_byteOf : GoodIn wsX5_vector wsX5_byteOf := goodIn_r _ [45] (by decide +kernel) (by decide +kernel)
set_option maxRecDepth 20000 in
theorem gX5_vector_X5_byteOf : GoodIn wsX5_vector (va_wsS RX5 158 yX5_byteOf wsX5_byteOf) := goodIn_app (goodIn_of _ (by decide +kernel)) ggX5_vector_X5_byteOf
theorem dX5_vector_0 : decode cX5_vector 0 = .ok (.aload_n 0, 1) := by decide +kernel
theorem dX5_vector_1 : decode cX5_vector 1 = .ok (.getfield 10, 3) := by decide +kernel
theorem dX5_vector_4 : decode cX5_vector 4 = .ok (.iload_n 1, 1) := by decide +kernel
theorem dX5_vector_5 : decode cX5_vector 5 = .ok (.invokevirtual 92, 3) := by decide +kernel
theorem dX5_vector_8 : decode cX5_vector 8 = .ok (.ifCond .eq 14, 3) := by decide +kernel
theorem dX5_vector_11 : decode cX5_vector 11 = .ok (.aload_n 0, 1) := by decide +kernel
theorem dX5_vector_12 : decode cX5_vector 12 = .ok (.getfield 10, 3) := by decide +kernel
theorem dX5_vector_15 : decode cX5_vector 15 = .ok (.iload_n 2, 1) := by decide +kernel
theorem dX5_vector_16 : decode cX5_vector 16 = .ok (.invokevirtual 76, 3) := by decide +kernel
theorem dX5_vector_19 : decode cX5_vector 19 = .ok (.ifCond .ne 5, 3) := by decide +kernel
theorem dX5_vector_22 : decode cX5_vector 22 = .ok (.iconst (-1), 1) := by decide +kernel
theorem dX5_vector_23 : decode cX5_vector 23 = .ok (.ireturn, 1) := by decide +kernel
theorem dX5_vector_24 : decode cX5_vector 24 = .ok (.aload_n 0, 1) := by decide +kernel
theorem dX5_vector_25 : decode cX5_vector 25 = .ok (.getfield 10, 3) := by decide +kernel
theorem dX5_vector_28 : decode cX5_vector 28 = .ok (.aload_n 0, 1) := by decide +kernel
theorem dX5_vector_29 : decode cX5_vector 29 = .ok (.getfield 10, 3) := by decide +kernel
theorem dX5_vector_32 : decode cX5_vector 32 = .ok (.getfield 112, 3) := by decide +kernel
theorem dX5_vector_35 : decode cX5_vector 35 = .ok (.invokevirtual 151, 3) := by decide +kernel
theorem dX5_vector_38 : decode cX5_vector 38 = .ok (.aload_n 0, 1) := by decide +kernel
theorem dX5_vector_39 : decode cX5_vector 39 = .ok (.getfield 10, 3) := by decide +kernel
theorem dX5_vector_42 : decode cX5_vector 42 = .ok (.getfield 155, 3) := by decide +kernel
theorem dX5_vector_45 : decode cX5_vector 45 = .ok (.iload_n 1, 1) := by decide +kernel
theorem dX5_vector_46 : decode cX5_vector 46 = .ok (.laload, 1) := by decide +kernel
theorem dX5_vector_47 : decode cX5_vector 47 = .ok (.iload_n 2, 1) := by decide +kernel
theorem dX5_vector_48 : decode cX5_vector 48 = .ok (.invokestatic 158, 3) := by decide +kernel
theorem dX5_vector_51 : decode cX5_vector 51 = .ok (.ireturn, 1) := by decide +kernel
set_option maxRecDepth 20000 in
theorem ggX5_carries_X2_isLine : GoodIn wsX5_carries wsX2_isLine := goodIn_r _ [7, 8, 46, 47, 48, 49, 50, 51, 52, 53, 54, 55, 56, 57, 58, 59, 60, 61] (by decide +kernel) (by decide +kernel)
set_option maxRecDepth 20000 in
theorem gX5_carries_X2_isLine : GoodIn wsX5_carries (wsV RX5 92 RX2 yX2_isLine wsX2_isLine) := goodIn_app (goodIn_of _ (by decide +kernel)) ggX5_carries_X2_isLine
set_option maxRecDepth 20000 in
theorem ggX5_carries_X2_spreadBytes : GoodIn wsX5_carries wsX2_spreadBytes := goodIn_r _ [12, 8, 13, 14, 15, 16, 17, 18, 19, 20, 21, 22, 23, 6, 24, 25, 26, 27, 28, 29, 30, 31, 32, 33, 34, 35, 36, 37, 38, 39, 40, 46, 47, 48, 49, 50, 51, 52, 53, 54, 55, 56, 57, 58, 59, 60, 61] (by decide +kernel) (by decide +kernel)
set_option maxRecDepth 20000 in
theorem gX5_carries_X2_spreadBytes : GoodIn wsX5_carries (wsV RX5 162 RX2 yX2_spreadBytes wsX2_spreadBytes) := goodIn_app (goodIn_of _ (by decide +kernel)) ggX5_carries_X2_spreadBytes
theorem dX5_carries_0 : decode cX5_carries 0 = .ok (.aload_n 0, 1) := by decide +kernel
theorem dX5_carries_1 : decode cX5_carries 1 = .ok (.getfield 10, 3) := by decide +kernel
theorem dX5_carries_4 : decode cX5_carries 4 = .ok (.iload_n 1, 1) := by decide +kernel
theorem dX5_carries_5 : decode cX5_carries 5 = .ok (.invokevirtual 92, 3) := by decide +kernel
theorem dX5_carries_8 : decode cX5_carries 8 = .ok (.ifCond .ne 5, 3) := by decide +kernel
theorem dX5_carries_11 : decode cX5_carries 11 = .ok (.lconst 0, 1) := by decide +kernel
theorem dX5_carries_12 : decode cX5_carries 12 = .ok (.lreturn, 1) := by decide +kernel
theorem dX5_carries_13 : decode cX5_carries 13 = .ok (.aload_n 0, 1) := by decide +kernel
theorem dX5_carries_14 : decode cX5_carries 14 = .ok (.getfield 10, 3) := by decide +kernel
theorem dX5_carries_17 : decode cX5_carries 17 = .ok (.invokevirtual 162, 3) := by decide +kernel
theorem dX5_carries_20 : decode cX5_carries 20 = .ok (.aload_n 0, 1) := by decide +kernel
theorem dX5_carries_21 : decode cX5_carries 21 = .ok (.getfield 10, 3) := by decide +kernel
theorem dX5_carries_24 : decode cX5_carries 24 = .ok (.getfield 165, 3) := by decide +kernel
theorem dX5_carries_27 : decode cX5_carries 27 = .ok (.iload_n 1, 1) := by decide +kernel
theorem dX5_carries_28 : decode cX5_carries 28 = .ok (.laload, 1) := by decide +kernel
theorem dX5_carries_29 : decode cX5_carries 29 = .ok (.lreturn, 1) := by decide +kernel
set_option maxRecDepth 20000 in
theorem ggX5_rank_X5_refusalOf : GoodIn wsX5_rank wsX5_refusalOf := goodIn_r _ [6, 7, 8, 9, 10, 11, 12, 13, 77, 78, 79, 80, 81, 82, 83, 84, 85, 86, 87, 88, 89, 90, 91, 92, 93, 94, 95, 96, 97] (by decide +kernel) (by decide +kernel)
set_option maxRecDepth 20000 in
theorem gX5_rank_X5_refusalOf : GoodIn wsX5_rank (wsV RX5 137 RX5 yX5_refusalOf wsX5_refusalOf) := goodIn_app (goodIn_of _ (by decide +kernel)) ggX5_rank_X5_refusalOf
set_option maxRecDepth 20000 in
theorem ggX5_rank_X3_rankNow : GoodIn wsX5_rank wsX3_rankNow := goodIn_r _ [18, 19, 20, 21, 22, 23, 11, 24, 25, 26, 27, 28, 5, 29, 30, 31, 32, 33, 34, 35, 36, 37, 38, 39, 40, 41, 42, 43, 44, 45, 46, 47, 48, 49, 50, 51, 52, 17, 53, 54, 55, 56, 57, 58, 59, 60, 61, 62, 63, 64, 65, 66, 67, 68, 69, 70, 71, 72, 73, 74, 75, 76, 98, 99, 100, 101, 82, 83, 84, 85, 86, 87, 88, 89, 90, 91, 92, 93, 94, 95, 96, 97] (by decide +kernel) (by decide +kernel)
set_option maxRecDepth 20000 in
theorem gX5_rank_X3_rankNow : GoodIn wsX5_rank (wsV RX5 168 RX3 yX3_rankNow wsX3_rankNow) := goodIn_app (goodIn_of _ (by decide +kernel)) ggX5_rank_X3_rankNow
theorem dX5_rank_0 : decode cX5_rank 0 = .ok (.aload_n 0, 1) := by decide +kernel
theorem dX5_rank_1 : decode cX5_rank 1 = .ok (.iload_n 1, 1) := by decide +kernel
theorem dX5_rank_2 : decode cX5_rank 2 = .ok (.invokevirtual 137, 3) := by decide +kernel
theorem dX5_rank_5 : decode cX5_rank 5 = .ok (.istore_n 2, 1) := by decide +kernel
theorem dX5_rank_6 : decode cX5_rank 6 = .ok (.iload_n 2, 1) := by decide +kernel
theorem dX5_rank_7 : decode cX5_rank 7 = .ok (.ifCond .eq 7, 3) := by decide +kernel
theorem dX5_rank_10 : decode cX5_rank 10 = .ok (.iload_n 2, 1) := by decide +kernel
theorem dX5_rank_11 : decode cX5_rank 11 = .ok (.goto 11, 3) := by decide +kernel
theorem dX5_rank_14 : decode cX5_rank 14 = .ok (.aload_n 0, 1) := by decide +kernel
theorem dX5_rank_15 : decode cX5_rank 15 = .ok (.getfield 28, 3) := by decide +kernel
theorem dX5_rank_18 : decode cX5_rank 18 = .ok (.iload_n 1, 1) := by decide +kernel
theorem dX5_rank_19 : decode cX5_rank 19 = .ok (.invokevirtual 168, 3) := by decide +kernel
theorem dX5_rank_22 : decode cX5_rank 22 = .ok (.ireturn, 1) := by decide +kernel
set_option maxRecDepth 20000 in
theorem ggX5_fresh_X5_refusalOf : GoodIn wsX5_fresh wsX5_refusalOf := goodIn_r _ [7, 8, 9, 10, 11, 12, 13, 14, 78, 79, 80, 81, 82, 87, 88, 89, 90, 91, 92, 93, 94, 95, 96, 97, 98, 99, 100, 101, 102] (by decide +kernel) (by decide +kernel)
set_option maxRecDepth 20000 in
theorem gX5_fresh_X5_refusalOf : GoodIn wsX5_fresh (wsV RX5 137 RX5 yX5_refusalOf wsX5_refusalOf) := goodIn_app (goodIn_of _ (by decide +kernel)) ggX5_fresh_X5_refusalOf
set_option maxRecDepth 20000 in
theorem ggX5_fresh_X3_rankNow : GoodIn wsX5_fresh wsX3_rankNow := goodIn_r _ [19, 20, 21, 22, 23, 24, 12, 25, 26, 27, 28, 29, 6, 30, 31, 32, 33, 34, 35, 36, 37, 38, 39, 40, 41, 42, 43, 44, 45, 46, 47, 48, 49, 50, 51, 52, 53, 18, 54, 55, 56, 57, 58, 59, 60, 61, 62, 63, 64, 65, 66, 67, 68, 69, 70, 71, 72, 73, 74, 75, 76, 77, 83, 84, 85, 86, 87, 88, 89, 90, 91, 92, 93, 94, 95, 96, 97, 98, 99, 100, 101, 102] (by decide +kernel) (by decide +kernel)
set_option maxRecDepth 20000 in
theorem gX5_fresh_X3_rankNow : GoodIn wsX5_fresh (wsV RX5 168 RX3 yX3_rankNow wsX3_rankNow) := goodIn_app (goodIn_of _ (by decide +kernel)) ggX5_fresh_X3_rankNow
theorem dX5_fresh_0 : decode cX5_fresh 0 = .ok (.iload_n 2, 1) := by decide +kernel
theorem dX5_fresh_1 : decode cX5_fresh 1 = .ok (.ifCond .ge 7, 3) := by decide +kernel
theorem dX5_fresh_4 : decode cX5_fresh 4 = .ok (.iconst (-1), 1) := by decide +kernel
theorem dX5_fresh_5 : decode cX5_fresh 5 = .ok (.goto 8, 3) := by decide +kernel
theorem dX5_fresh_8 : decode cX5_fresh 8 = .ok (.aload_n 0, 1) := by decide +kernel
theorem dX5_fresh_9 : decode cX5_fresh 9 = .ok (.iload_n 1, 1) := by decide +kernel
theorem dX5_fresh_10 : decode cX5_fresh 10 = .ok (.invokevirtual 137, 3) := by decide +kernel
theorem dX5_fresh_13 : decode cX5_fresh 13 = .ok (.istore_n 3, 1) := by decide +kernel
theorem dX5_fresh_14 : decode cX5_fresh 14 = .ok (.iload_n 3, 1) := by decide +kernel
theorem dX5_fresh_15 : decode cX5_fresh 15 = .ok (.ifCond .eq 5, 3) := by decide +kernel
theorem dX5_fresh_18 : decode cX5_fresh 18 = .ok (.iload_n 3, 1) := by decide +kernel
theorem dX5_fresh_19 : decode cX5_fresh 19 = .ok (.ireturn, 1) := by decide +kernel
theorem dX5_fresh_20 : decode cX5_fresh 20 = .ok (.aload_n 0, 1) := by decide +kernel
theorem dX5_fresh_21 : decode cX5_fresh 21 = .ok (.getfield 28, 3) := by decide +kernel
theorem dX5_fresh_24 : decode cX5_fresh 24 = .ok (.iload_n 1, 1) := by decide +kernel
theorem dX5_fresh_25 : decode cX5_fresh 25 = .ok (.invokevirtual 168, 3) := by decide +kernel
theorem dX5_fresh_28 : decode cX5_fresh 28 = .ok (.istore 4, 2) := by decide +kernel
theorem dX5_fresh_30 : decode cX5_fresh 30 = .ok (.iload_n 2, 1) := by decide +kernel
theorem dX5_fresh_31 : decode cX5_fresh 31 = .ok (.iload 4, 2) := by decide +kernel
theorem dX5_fresh_33 : decode cX5_fresh 33 = .ok (.if_icmp .lt 7, 3) := by decide +kernel
theorem dX5_fresh_36 : decode cX5_fresh 36 = .ok (.iconst (-1), 1) := by decide +kernel
theorem dX5_fresh_37 : decode cX5_fresh 37 = .ok (.goto 12, 3) := by decide +kernel
theorem dX5_fresh_40 : decode cX5_fresh 40 = .ok (.aload_n 0, 1) := by decide +kernel
theorem dX5_fresh_41 : decode cX5_fresh 41 = .ok (.getfield 28, 3) := by decide +kernel
theorem dX5_fresh_44 : decode cX5_fresh 44 = .ok (.getfield 171, 3) := by decide +kernel
theorem dX5_fresh_47 : decode cX5_fresh 47 = .ok (.iload_n 2, 1) := by decide +kernel
theorem dX5_fresh_48 : decode cX5_fresh 48 = .ok (.iaload, 1) := by decide +kernel
theorem dX5_fresh_49 : decode cX5_fresh 49 = .ok (.ireturn, 1) := by decide +kernel
set_option maxRecDepth 20000 in
theorem ggX5_solves_X5_refusalOf_ : GoodIn wsX5_solves wsX5_refusalOf_ := goodIn_r _ [6, 7, 8, 9, 10, 11, 12, 13, 14, 15, 16, 5, 17, 18, 19, 20, 21, 22, 93, 94, 95, 96, 97, 98, 99, 100, 101, 102, 103, 104, 105, 106, 107, 108, 109, 110, 111, 112, 113] (by decide +kernel) (by decide +kernel)
set_option maxRecDepth 20000 in
theorem gX5_solves_X5_refusalOf_ : GoodIn wsX5_solves (wsV RX5 174 RX5 yX5_refusalOf_ wsX5_refusalOf_) := goodIn_app (goodIn_of _ (by decide +kernel)) ggX5_solves_X5_refusalOf_
set_option maxRecDepth 20000 in
theorem ggX5_solves_X3_rankNow : GoodIn wsX5_solves wsX3_rankNow := goodIn_r _ [27, 28, 29, 30, 31, 32, 11, 33, 34, 35, 36, 37, 5, 38, 39, 40, 41, 42, 43, 44, 45, 46, 47, 48, 49, 13, 50, 51, 52, 53, 54, 55, 56, 57, 58, 59, 60, 26, 61, 62, 63, 64, 65, 66, 67, 68, 69, 70, 71, 72, 73, 74, 75, 76, 77, 78, 79, 80, 81, 82, 83, 84, 114, 115, 116, 117, 98, 99, 100, 101, 102, 103, 104, 105, 106, 107, 108, 109, 110, 111, 112, 113] (by decide +kernel) (by decide +kernel)
set_option maxRecDepth 20000 in
theorem gX5_solves_X3_rankNow : GoodIn wsX5_solves (wsV RX5 168 RX3 yX3_rankNow wsX3_rankNow) := goodIn_app (goodIn_of _ (by decide +kernel)) ggX5_solves_X3_rankNow
set_option maxRecDepth 20000 in
theorem ggX5_solves_X3_worksOut : GoodIn wsX5_solves wsX3_worksOut := goodIn_r _ [88, 63, 89, 114, 115, 116, 117] (by decide +kernel) (by decide +kernel)
set_option maxRecDepth 20000 in
theorem gX5_solves_X3_worksOut : GoodIn wsX5_solves (wsV RX5 176 RX3 yX3_worksOut wsX3_worksOut) := goodIn_app (goodIn_of _ (by decide +kernel)) ggX5_solves_X3_worksOut
set_option maxRecDepth 20000 in
theorem ggX5_solves_X5_asFlag : GoodIn wsX5_solves wsX5_asFlag := goodIn_r _ [92] (by decide +kernel) (by decide +kernel)
set_option maxRecDepth 20000 in
theorem gX5_solves_X5_asFlag : GoodIn wsX5_solves (va_wsS RX5 118 yX5_asFlag wsX5_asFlag) := goodIn_app (goodIn_of _ (by decide +kernel)) ggX5_solves_X5_asFlag
theorem dX5_solves_0 : decode cX5_solves 0 = .ok (.aload_n 0, 1) := by decide +kernel
theorem dX5_solves_1 : decode cX5_solves 1 = .ok (.iload_n 1, 1) := by decide +kernel
theorem dX5_solves_2 : decode cX5_solves 2 = .ok (.iload_n 2, 1) := by decide +kernel
theorem dX5_solves_3 : decode cX5_solves 3 = .ok (.invokevirtual 174, 3) := by decide +kernel
theorem dX5_solves_6 : decode cX5_solves 6 = .ok (.istore_n 3, 1) := by decide +kernel
theorem dX5_solves_7 : decode cX5_solves 7 = .ok (.iload_n 3, 1) := by decide +kernel
theorem dX5_solves_8 : decode cX5_solves 8 = .ok (.ifCond .eq 5, 3) := by decide +kernel
theorem dX5_solves_11 : decode cX5_solves 11 = .ok (.iload_n 3, 1) := by decide +kernel
theorem dX5_solves_12 : decode cX5_solves 12 = .ok (.ireturn, 1) := by decide +kernel
theorem dX5_solves_13 : decode cX5_solves 13 = .ok (.aload_n 0, 1) := by decide +kernel
theorem dX5_solves_14 : decode cX5_solves 14 = .ok (.getfield 28, 3) := by decide +kernel
theorem dX5_solves_17 : decode cX5_solves 17 = .ok (.iload_n 1, 1) := by decide +kernel
theorem dX5_solves_18 : decode cX5_solves 18 = .ok (.invokevirtual 168, 3) := by decide +kernel
theorem dX5_solves_21 : decode cX5_solves 21 = .ok (.pop, 1) := by decide +kernel
theorem dX5_solves_22 : decode cX5_solves 22 = .ok (.aload_n 0, 1) := by decide +kernel
theorem dX5_solves_23 : decode cX5_solves 23 = .ok (.getfield 28, 3) := by decide +kernel
theorem dX5_solves_26 : decode cX5_solves 26 = .ok (.iload_n 2, 1) := by decide +kernel
theorem dX5_solves_27 : decode cX5_solves 27 = .ok (.invokevirtual 176, 3) := by decide +kernel
theorem dX5_solves_30 : decode cX5_solves 30 = .ok (.invokestatic 118, 3) := by decide +kernel
theorem dX5_solves_33 : decode cX5_solves 33 = .ok (.ireturn, 1) := by decide +kernel
set_option maxRecDepth 20000 in
theorem ggX5_key_X5_refusalOf_ : GoodIn wsX5_key wsX5_refusalOf_ := goodIn_r _ [6, 7, 8, 9, 10, 11, 12, 13, 14, 15, 16, 5, 17, 18, 19, 20, 21, 22, 94, 95, 96, 97, 98, 99, 100, 101, 102, 103, 104, 105, 106, 107, 108, 109, 110, 111, 112, 113, 114] (by decide +kernel) (by decide +kernel)
set_option maxRecDepth 20000 in
theorem gX5_key_X5_refusalOf_ : GoodIn wsX5_key (wsV RX5 174 RX5 yX5_refusalOf_ wsX5_refusalOf_) := goodIn_app (goodIn_of _ (by decide +kernel)) ggX5_key_X5_refusalOf_
set_option maxRecDepth 20000 in
theorem ggX5_key_X3_rankNow : GoodIn wsX5_key wsX3_rankNow := goodIn_r _ [27, 28, 29, 30, 31, 32, 11, 33, 34, 35, 36, 37, 5, 38, 39, 40, 41, 42, 43, 44, 45, 46, 47, 48, 49, 13, 50, 51, 52, 53, 54, 55, 56, 57, 58, 59, 60, 26, 61, 62, 63, 64, 65, 66, 67, 68, 69, 70, 71, 72, 73, 74, 75, 76, 77, 78, 79, 80, 81, 82, 83, 84, 115, 116, 117, 118, 99, 100, 101, 102, 103, 104, 105, 106, 107, 108, 109, 110, 111, 112, 113, 114] (by decide +kernel) (by decide +kernel)
set_option maxRecDepth 20000 in
theorem gX5_key_X3_rankNow : GoodIn wsX5_key (wsV RX5 168 RX3 yX3_rankNow wsX3_rankNow) := goodIn_app (goodIn_of _ (by decide +kernel)) ggX5_key_X3_rankNow
set_option maxRecDepth 20000 in
theorem ggX5_key_X3_worksOut : GoodIn wsX5_key wsX3_worksOut := goodIn_r _ [88, 63, 89, 115, 116, 117, 118] (by decide +kernel) (by decide +kernel)
set_option maxRecDepth 20000 in
theorem gX5_key_X3_worksOut : GoodIn wsX5_key (wsV RX5 176 RX3 yX3_worksOut wsX3_worksOut) := goodIn_app (goodIn_of _ (by decide +kernel)) ggX5_key_X3_worksOut
set_option maxRecDepth 20000 in
theorem ggX5_key_X3_keyNumber : GoodIn wsX5_key wsX3_keyNumber := goodIn_r _ [93, 63, 77, 5, 78, 115, 116, 117, 118] (by decide +kernel) (by decide +kernel)
set_option maxRecDepth 20000 in
theorem gX5_key_X3_keyNumber : GoodIn wsX5_key (wsV RX5 179 RX3 yX3_keyNumber wsX3_keyNumber) := goodIn_app (goodIn_of _ (by decide +kernel)) ggX5_key_X3_keyNumber
theorem dX5_key_0 : decode cX5_key 0 = .ok (.iload_n 3, 1) := by decide +kernel
theorem dX5_key_1 : decode cX5_key 1 = .ok (.ifCond .ge 7, 3) := by decide +kernel
theorem dX5_key_4 : decode cX5_key 4 = .ok (.iconst (-1), 1) := by decide +kernel
theorem dX5_key_5 : decode cX5_key 5 = .ok (.goto 9, 3) := by decide +kernel
theorem dX5_key_8 : decode cX5_key 8 = .ok (.aload_n 0, 1) := by decide +kernel
theorem dX5_key_9 : decode cX5_key 9 = .ok (.iload_n 1, 1) := by decide +kernel
theorem dX5_key_10 : decode cX5_key 10 = .ok (.iload_n 2, 1) := by decide +kernel
theorem dX5_key_11 : decode cX5_key 11 = .ok (.invokevirtual 174, 3) := by decide +kernel
theorem dX5_key_14 : decode cX5_key 14 = .ok (.istore 4, 2) := by decide +kernel
theorem dX5_key_16 : decode cX5_key 16 = .ok (.iload 4, 2) := by decide +kernel
theorem dX5_key_18 : decode cX5_key 18 = .ok (.ifCond .eq 6, 3) := by decide +kernel
theorem dX5_key_21 : decode cX5_key 21 = .ok (.iload 4, 2) := by decide +kernel
theorem dX5_key_23 : decode cX5_key 23 = .ok (.ireturn, 1) := by decide +kernel
theorem dX5_key_24 : decode cX5_key 24 = .ok (.aload_n 0, 1) := by decide +kernel
theorem dX5_key_25 : decode cX5_key 25 = .ok (.getfield 28, 3) := by decide +kernel
theorem dX5_key_28 : decode cX5_key 28 = .ok (.iload_n 1, 1) := by decide +kernel
theorem dX5_key_29 : decode cX5_key 29 = .ok (.invokevirtual 168, 3) := by decide +kernel
theorem dX5_key_32 : decode cX5_key 32 = .ok (.istore 5, 2) := by decide +kernel
theorem dX5_key_34 : decode cX5_key 34 = .ok (.aload_n 0, 1) := by decide +kernel
theorem dX5_key_35 : decode cX5_key 35 = .ok (.getfield 28, 3) := by decide +kernel
theorem dX5_key_38 : decode cX5_key 38 = .ok (.iload_n 2, 1) := by decide +kernel
theorem dX5_key_39 : decode cX5_key 39 = .ok (.invokevirtual 176, 3) := by decide +kernel
theorem dX5_key_42 : decode cX5_key 42 = .ok (.ifCond .eq 9, 3) := by decide +kernel
theorem dX5_key_45 : decode cX5_key 45 = .ok (.iload_n 3, 1) := by decide +kernel
theorem dX5_key_46 : decode cX5_key 46 = .ok (.iload 5, 2) := by decide +kernel
theorem dX5_key_48 : decode cX5_key 48 = .ok (.if_icmp .lt 5, 3) := by decide +kernel
theorem dX5_key_51 : decode cX5_key 51 = .ok (.iconst (-1), 1) := by decide +kernel
theorem dX5_key_52 : decode cX5_key 52 = .ok (.ireturn, 1) := by decide +kernel
theorem dX5_key_53 : decode cX5_key 53 = .ok (.aload_n 0, 1) := by decide +kernel
theorem dX5_key_54 : decode cX5_key 54 = .ok (.getfield 28, 3) := by decide +kernel
theorem dX5_key_57 : decode cX5_key 57 = .ok (.iload_n 2, 1) := by decide +kernel
theorem dX5_key_58 : decode cX5_key 58 = .ok (.iload_n 3, 1) := by decide +kernel
theorem dX5_key_59 : decode cX5_key 59 = .ok (.invokevirtual 179, 3) := by decide +kernel
theorem dX5_key_62 : decode cX5_key 62 = .ok (.ireturn, 1) := by decide +kernel
set_option maxRecDepth 20000 in
theorem ggX5_gets_X5_refusalOf_ : GoodIn wsX5_gets wsX5_refusalOf_ := goodIn_r _ [7, 2, 8, 9, 10, 11, 12, 13, 14, 15, 16, 6, 17, 18, 19, 20, 21, 22, 107, 108, 109, 110, 111, 112, 113, 114, 115, 116, 117, 118, 119, 120, 121, 122, 123, 124, 125, 126, 127] (by decide +kernel) (by decide +kernel)
set_option maxRecDepth 20000 in
theorem gX5_gets_X5_refusalOf_ : GoodIn wsX5_gets (wsV RX5 174 RX5 yX5_refusalOf_ wsX5_refusalOf_) := goodIn_app (goodIn_of _ (by decide +kernel)) ggX5_gets_X5_refusalOf_
set_option maxRecDepth 20000 in
theorem ggX5_gets_X3_rankNow : GoodIn wsX5_gets wsX3_rankNow := goodIn_r _ [27, 28, 29, 30, 31, 32, 11, 33, 34, 35, 36, 37, 6, 38, 39, 40, 41, 42, 43, 44, 45, 46, 47, 48, 49, 13, 50, 51, 52, 53, 54, 55, 56, 57, 58, 59, 60, 26, 61, 62, 63, 64, 65, 66, 67, 68, 69, 70, 71, 72, 73, 74, 75, 76, 77, 78, 79, 80, 81, 82, 83, 84, 128, 129, 130, 131, 112, 113, 114, 115, 116, 117, 118, 119, 120, 121, 122, 123, 124, 125, 126, 127] (by decide +kernel) (by decide +kernel)
set_option maxRecDepth 20000 in
theorem gX5_gets_X3_rankNow : GoodIn wsX5_gets (wsV RX5 168 RX3 yX3_rankNow wsX3_rankNow) := goodIn_app (goodIn_of _ (by decide +kernel)) ggX5_gets_X3_rankNow
set_option maxRecDepth 20000 in
theorem ggX5_gets_X3_worksOut : GoodIn wsX5_gets wsX3_worksOut := goodIn_r _ [88, 63, 89, 128, 129, 130, 131] (by decide +kernel) (by decide +kernel)
set_option maxRecDepth 20000 in
theorem gX5_gets_X3_worksOut : GoodIn wsX5_gets (wsV RX5 176 RX3 yX3_worksOut wsX3_worksOut) := goodIn_app (goodIn_of _ (by decide +kernel)) ggX5_gets_X3_worksOut
set_option maxRecDepth 20000 in
theorem ggX5_gets_X2_spreadBytes : GoodIn wsX5_gets wsX2_spreadBytes := goodIn_r _ [93, 34, 35, 94, 95, 96, 97, 37, 6, 38, 39, 40, 41, 11, 42, 43, 44, 45, 46, 47, 48, 49, 13, 50, 51, 52, 53, 54, 55, 56, 57, 112, 113, 114, 115, 116, 117, 118, 119, 120, 121, 122, 123, 124, 125, 126, 127] (by decide +kernel) (by decide +kernel)
set_option maxRecDepth 20000 in
theorem gX5_gets_X2_spreadBytes : GoodIn wsX5_gets (wsV RX5 162 RX2 yX2_spreadBytes wsX2_spreadBytes) := goodIn_app (goodIn_of _ (by decide +kernel)) ggX5_gets_X2_spreadBytes
set_option maxRecDepth 20000 in
theorem ggX5_gets_X3_bytesFor : GoodIn wsX5_gets wsX3_bytesFor := goodIn_r _ [101, 62, 28, 102, 76, 103, 104, 105, 26, 106, 63, 77, 6, 78, 53, 54, 55, 56, 57, 128, 129, 130, 131, 112, 113, 114, 115, 116, 117, 118, 119, 120, 121, 122, 123, 124, 125, 126, 127] (by decide +kernel) (by decide +kernel)
set_option maxRecDepth 20000 in
theorem gX5_gets_X3_bytesFor : GoodIn wsX5_gets (wsV RX5 182 RX3 yX3_bytesFor wsX3_bytesFor) := goodIn_app (goodIn_of _ (by decide +kernel)) ggX5_gets_X3_bytesFor
theorem dX5_gets_0 : decode cX5_gets 0 = .ok (.aload_n 0, 1) := by decide +kernel
theorem dX5_gets_1 : decode cX5_gets 1 = .ok (.iload_n 1, 1) := by decide +kernel
theorem dX5_gets_2 : decode cX5_gets 2 = .ok (.iload_n 2, 1) := by decide +kernel
theorem dX5_gets_3 : decode cX5_gets 3 = .ok (.invokevirtual 174, 3) := by decide +kernel
theorem dX5_gets_6 : decode cX5_gets 6 = .ok (.ifCond .eq 5, 3) := by decide +kernel
theorem dX5_gets_9 : decode cX5_gets 9 = .ok (.lconst 0, 1) := by decide +kernel
theorem dX5_gets_10 : decode cX5_gets 10 = .ok (.lreturn, 1) := by decide +kernel
theorem dX5_gets_11 : decode cX5_gets 11 = .ok (.aload_n 0, 1) := by decide +kernel
theorem dX5_gets_12 : decode cX5_gets 12 = .ok (.getfield 28, 3) := by decide +kernel
theorem dX5_gets_15 : decode cX5_gets 15 = .ok (.iload_n 1, 1) := by decide +kernel
theorem dX5_gets_16 : decode cX5_gets 16 = .ok (.invokevirtual 168, 3) := by decide +kernel
theorem dX5_gets_19 : decode cX5_gets 19 = .ok (.pop, 1) := by decide +kernel
theorem dX5_gets_20 : decode cX5_gets 20 = .ok (.aload_n 0, 1) := by decide +kernel
theorem dX5_gets_21 : decode cX5_gets 21 = .ok (.getfield 28, 3) := by decide +kernel
theorem dX5_gets_24 : decode cX5_gets 24 = .ok (.iload_n 2, 1) := by decide +kernel
theorem dX5_gets_25 : decode cX5_gets 25 = .ok (.invokevirtual 176, 3) := by decide +kernel
theorem dX5_gets_28 : decode cX5_gets 28 = .ok (.ifCond .ne 5, 3) := by decide +kernel
theorem dX5_gets_31 : decode cX5_gets 31 = .ok (.lconst 0, 1) := by decide +kernel
theorem dX5_gets_32 : decode cX5_gets 32 = .ok (.lreturn, 1) := by decide +kernel
theorem dX5_gets_33 : decode cX5_gets 33 = .ok (.aload_n 0, 1) := by decide +kernel
theorem dX5_gets_34 : decode cX5_gets 34 = .ok (.getfield 10, 3) := by decide +kernel
theorem dX5_gets_37 : decode cX5_gets 37 = .ok (.invokevirtual 162, 3) := by decide +kernel
theorem dX5_gets_40 : decode cX5_gets 40 = .ok (.aload_n 0, 1) := by decide +kernel
theorem dX5_gets_41 : decode cX5_gets 41 = .ok (.getfield 28, 3) := by decide +kernel
theorem dX5_gets_44 : decode cX5_gets 44 = .ok (.iload_n 2, 1) := by decide +kernel
theorem dX5_gets_45 : decode cX5_gets 45 = .ok (.invokevirtual 182, 3) := by decide +kernel
theorem dX5_gets_48 : decode cX5_gets 48 = .ok (.lreturn, 1) := by decide +kernel
set_option maxRecDepth 20000 in
theorem ggX5_lack_X2_isPiece : GoodIn wsX5_lack wsX2_isPiece := goodIn_r _ [7, 8, 101, 102, 103, 104, 105, 106, 107, 108, 109, 110, 111, 112, 113, 114, 115, 116] (by decide +kernel) (by decide +kernel)
set_option maxRecDepth 20000 in
theorem gX5_lack_X2_isPiece : GoodIn wsX5_lack (wsV RX5 76 RX2 yX2_isPiece wsX2_isPiece) := goodIn_app (goodIn_of _ (by decide +kernel)) ggX5_lack_X2_isPiece
set_option maxRecDepth 20000 in
theorem ggX5_lack_X5_refusalOf_ : GoodIn wsX5_lack wsX5_refusalOf_ := goodIn_r _ [13, 1, 3, 4, 5, 6, 7, 8, 14, 15, 16, 12, 17, 18, 19, 20, 21, 22, 96, 97, 98, 99, 100, 101, 102, 103, 104, 105, 106, 107, 108, 109, 110, 111, 112, 113, 114, 115, 116] (by decide +kernel) (by decide +kernel)
set_option maxRecDepth 20000 in
theorem gX5_lack_X5_refusalOf_ : GoodIn wsX5_lack (wsV RX5 174 RX5 yX5_refusalOf_ wsX5_refusalOf_) := goodIn_app (goodIn_of _ (by decide +kernel)) ggX5_lack_X5_refusalOf_
set_option maxRecDepth 20000 in
theorem ggX5_lack_X3_rankNow : GoodIn wsX5_lack wsX3_rankNow := goodIn_r _ [27, 28, 29, 30, 31, 32, 6, 33, 34, 35, 36, 37, 12, 38, 39, 40, 41, 42, 43, 44, 45, 46, 47, 48, 49, 8, 50, 51, 52, 53, 54, 55, 56, 57, 58, 59, 60, 26, 61, 62, 63, 64, 65, 66, 67, 68, 69, 70, 71, 72, 73, 74, 75, 76, 77, 78, 79, 80, 81, 82, 83, 84, 117, 118, 119, 120, 101, 102, 103, 104, 105, 106, 107, 108, 109, 110, 111, 112, 113, 114, 115, 116] (by decide +kernel) (by decide +kernel)
set_option maxRecDepth 20000 in
theorem gX5_lack_X3_rankNow : GoodIn wsX5_lack (wsV RX5 168 RX3 yX3_rankNow wsX3_rankNow) := goodIn_app (goodIn_of _ (by decide +kernel)) ggX5_lack_X3_rankNow
set_option maxRecDepth 20000 in
theorem ggX5_lack_X3_worksOut : GoodIn wsX5_lack wsX3_worksOut := goodIn_r _ [88, 63, 89, 117, 118, 119, 120] (by decide +kernel) (by decide +kernel)
set_option maxRecDepth 20000 in
theorem gX5_lack_X3_worksOut : GoodIn wsX5_lack (wsV RX5 176 RX3 yX3_worksOut wsX3_worksOut) := goodIn_app (goodIn_of _ (by decide +kernel)) ggX5_lack_X3_worksOut
set_option maxRecDepth 20000 in
theorem ggX5_lack_X3_lackNumber : GoodIn wsX5_lack wsX3_lackNumber := goodIn_r _ [93, 63, 79, 80, 26, 81, 77, 12, 78, 82, 83, 84, 53, 54, 55, 56, 57, 94, 95, 117, 118, 119, 120] (by decide +kernel) (by decide +kernel)
set_option maxRecDepth 20000 in
theorem gX5_lack_X3_lackNumber : GoodIn wsX5_lack (wsV RX5 186 RX3 yX3_lackNumber wsX3_lackNumber) := goodIn_app (goodIn_of _ (by decide +kernel)) ggX5_lack_X3_lackNumber
theorem dX5_lack_0 : decode cX5_lack 0 = .ok (.aload_n 0, 1) := by decide +kernel
theorem dX5_lack_1 : decode cX5_lack 1 = .ok (.getfield 10, 3) := by decide +kernel
theorem dX5_lack_4 : decode cX5_lack 4 = .ok (.iload_n 3, 1) := by decide +kernel
theorem dX5_lack_5 : decode cX5_lack 5 = .ok (.invokevirtual 76, 3) := by decide +kernel
theorem dX5_lack_8 : decode cX5_lack 8 = .ok (.ifCond .eq 12, 3) := by decide +kernel
theorem dX5_lack_11 : decode cX5_lack 11 = .ok (.aload_n 0, 1) := by decide +kernel
theorem dX5_lack_12 : decode cX5_lack 12 = .ok (.iload_n 1, 1) := by decide +kernel
theorem dX5_lack_13 : decode cX5_lack 13 = .ok (.iload_n 2, 1) := by decide +kernel
theorem dX5_lack_14 : decode cX5_lack 14 = .ok (.invokevirtual 174, 3) := by decide +kernel
theorem dX5_lack_17 : decode cX5_lack 17 = .ok (.goto 4, 3) := by decide +kernel
theorem dX5_lack_20 : decode cX5_lack 20 = .ok (.iconst (-1), 1) := by decide +kernel
theorem dX5_lack_21 : decode cX5_lack 21 = .ok (.istore 4, 2) := by decide +kernel
theorem dX5_lack_23 : decode cX5_lack 23 = .ok (.iload 4, 2) := by decide +kernel
theorem dX5_lack_25 : decode cX5_lack 25 = .ok (.ifCond .eq 6, 3) := by decide +kernel
theorem dX5_lack_28 : decode cX5_lack 28 = .ok (.iload 4, 2) := by decide +kernel
theorem dX5_lack_30 : decode cX5_lack 30 = .ok (.ireturn, 1) := by decide +kernel
theorem dX5_lack_31 : decode cX5_lack 31 = .ok (.aload_n 0, 1) := by decide +kernel
theorem dX5_lack_32 : decode cX5_lack 32 = .ok (.getfield 28, 3) := by decide +kernel
theorem dX5_lack_35 : decode cX5_lack 35 = .ok (.iload_n 1, 1) := by decide +kernel
theorem dX5_lack_36 : decode cX5_lack 36 = .ok (.invokevirtual 168, 3) := by decide +kernel
theorem dX5_lack_39 : decode cX5_lack 39 = .ok (.pop, 1) := by decide +kernel
theorem dX5_lack_40 : decode cX5_lack 40 = .ok (.aload_n 0, 1) := by decide +kernel
theorem dX5_lack_41 : decode cX5_lack 41 = .ok (.getfield 28, 3) := by decide +kernel
theorem dX5_lack_44 : decode cX5_lack 44 = .ok (.iload_n 2, 1) := by decide +kernel
theorem dX5_lack_45 : decode cX5_lack 45 = .ok (.invokevirtual 176, 3) := by decide +kernel
theorem dX5_lack_48 : decode cX5_lack 48 = .ok (.ifCond .eq 7, 3) := by decide +kernel
theorem dX5_lack_51 : decode cX5_lack 51 = .ok (.iconst (-1), 1) := by decide +kernel
theorem dX5_lack_52 : decode cX5_lack 52 = .ok (.goto 12, 3) := by decide +kernel
theorem dX5_lack_55 : decode cX5_lack 55 = .ok (.aload_n 0, 1) := by decide +kernel
theorem dX5_lack_56 : decode cX5_lack 56 = .ok (.getfield 28, 3) := by decide +kernel
theorem dX5_lack_59 : decode cX5_lack 59 = .ok (.iload_n 2, 1) := by decide +kernel
theorem dX5_lack_60 : decode cX5_lack 60 = .ok (.iload_n 3, 1) := by decide +kernel
theorem dX5_lack_61 : decode cX5_lack 61 = .ok (.invokevirtual 186, 3) := by decide +kernel
theorem dX5_lack_64 : decode cX5_lack 64 = .ok (.ireturn, 1) := by decide +kernel
set_option maxRecDepth 20000 in
theorem ggX5_wrong_X2_spreadVectors : GoodIn wsX5_wrong wsX2_spreadVectors := goodIn_r _ [10, 11, 12, 13, 14, 15, 16, 17, 18, 19, 9, 20, 21, 22, 23, 24, 25, 26, 27, 28, 29, 30, 31, 32, 33, 34, 35, 36, 102, 103, 104, 105, 106, 107, 108, 109, 110, 111, 112, 113, 114, 115, 116, 117] (by decide +kernel) (by decide +kernel)
set_option maxRecDepth 20000 in
theorem gX5_wrong_X2_spreadVectors : GoodIn wsX5_wrong (wsV RX5 151 RX2 yX2_spreadVectors wsX2_spreadVectors) := goodIn_app (goodIn_of _ (by decide +kernel)) ggX5_wrong_X2_spreadVectors
set_option maxRecDepth 20000 in
theorem ggX5_wrong_X2_spreadBytes : GoodIn wsX5_wrong wsX2_spreadBytes := goodIn_r _ [40, 11, 12, 41, 42, 43, 44, 14, 15, 16, 17, 18, 19, 9, 20, 21, 22, 23, 24, 25, 26, 27, 28, 29, 30, 31, 32, 33, 34, 35, 36, 102, 103, 104, 105, 106, 107, 108, 109, 110, 111, 112, 113, 114, 115, 116, 117] (by decide +kernel) (by decide +kernel)
set_option maxRecDepth 20000 in
theorem gX5_wrong_X2_spreadBytes : GoodIn wsX5_wrong (wsV RX5 162 RX2 yX2_spreadBytes wsX2_spreadBytes) := goodIn_app (goodIn_of _ (by decide +kernel)) ggX5_wrong_X2_spreadBytes
set_option maxRecDepth 20000 in
theorem ggX5_wrong_X5_flag : GoodIn wsX5_wrong wsX5_flag := goodIn_r _ [16] (by decide +kernel) (by decide +kernel)
set_option maxRecDepth 20000 in
theorem gX5_wrong_X5_flag : GoodIn wsX5_wrong (va_wsS RX5 85 yX5_flag wsX5_flag) := goodIn_app (goodIn_of _ (by decide +kernel)) ggX5_wrong_X5_flag
set_option maxRecDepth 20000 in
theorem ggX5_wrong_X3_gather : GoodIn wsX5_wrong wsX3_gather := goodIn_r _ [50, 51, 52, 53, 54, 55, 56, 57, 58, 59, 60, 30, 15, 31, 61, 62, 63, 49, 64, 65, 66, 67, 68, 32, 33, 34, 35, 36, 69, 70, 71, 72, 73, 74, 118, 119, 120, 121, 102, 103, 104, 105, 106, 107, 108, 109, 110, 111, 112, 113, 114, 115, 116, 117] (by decide +kernel) (by decide +kernel)
set_option maxRecDepth 20000 in
theorem gX5_wrong_X3_gather : GoodIn wsX5_wrong (wsV RX5 189 RX3 yX3_gather wsX3_gather) := goodIn_app (goodIn_of _ (by decide +kernel)) ggX5_wrong_X3_gather
set_option maxRecDepth 20000 in
theorem ggX5_wrong_X3_isMisled : GoodIn wsX5_wrong wsX3_isMisled := goodIn_r _ [78, 53, 55, 79, 80, 81, 82, 49, 83, 52, 84, 85, 86, 87, 88, 51, 89, 66, 90, 91, 92, 93, 67, 15, 68, 32, 33, 34, 35, 36, 118, 119, 120, 121, 102, 103, 104, 105, 106, 107, 108, 109, 110, 111, 112, 113, 114, 115, 116, 117] (by decide +kernel) (by decide +kernel)
set_option maxRecDepth 20000 in
theorem gX5_wrong_X3_isMisled : GoodIn wsX5_wrong (wsV RX5 192 RX3 yX3_isMisled wsX3_isMisled) := goodIn_app (goodIn_of _ (by decide +kernel)) ggX5_wrong_X3_isMisled
set_option maxRecDepth 20000 in
theorem ggX5_wrong_X5_asFlag : GoodIn wsX5_wrong wsX5_asFlag := goodIn_r _ [96] (by decide +kernel) (by decide +kernel)
set_option maxRecDepth 20000 in
theorem gX5_wrong_X5_asFlag : GoodIn wsX5_wrong (va_wsS RX5 118 yX5_asFlag wsX5_asFlag) := goodIn_app (goodIn_of _ (by decide +kernel)) ggX5_wrong_X5_asFlag
theorem dX5_wrong_0 : decode cX5_wrong 0 = .ok (.aload_n 0, 1) := by decide +kernel
theorem dX5_wrong_1 : decode cX5_wrong 1 = .ok (.getfield 10, 3) := by decide +kernel
theorem dX5_wrong_4 : decode cX5_wrong 4 = .ok (.aload_n 0, 1) := by decide +kernel
theorem dX5_wrong_5 : decode cX5_wrong 5 = .ok (.getfield 10, 3) := by decide +kernel
theorem dX5_wrong_8 : decode cX5_wrong 8 = .ok (.getfield 112, 3) := by decide +kernel
theorem dX5_wrong_11 : decode cX5_wrong 11 = .ok (.invokevirtual 151, 3) := by decide +kernel
theorem dX5_wrong_14 : decode cX5_wrong 14 = .ok (.aload_n 0, 1) := by decide +kernel
theorem dX5_wrong_15 : decode cX5_wrong 15 = .ok (.getfield 10, 3) := by decide +kernel
theorem dX5_wrong_18 : decode cX5_wrong 18 = .ok (.invokevirtual 162, 3) := by decide +kernel
theorem dX5_wrong_21 : decode cX5_wrong 21 = .ok (.iconst 0, 1) := by decide +kernel
theorem dX5_wrong_22 : decode cX5_wrong 22 = .ok (.istore_n 1, 1) := by decide +kernel
theorem dX5_wrong_23 : decode cX5_wrong 23 = .ok (.iconst 1, 1) := by decide +kernel
theorem dX5_wrong_24 : decode cX5_wrong 24 = .ok (.istore_n 2, 1) := by decide +kernel
theorem dX5_wrong_25 : decode cX5_wrong 25 = .ok (.iload_n 2, 1) := by decide +kernel
theorem dX5_wrong_26 : decode cX5_wrong 26 = .ok (.aload_n 0, 1) := by decide +kernel
theorem dX5_wrong_27 : decode cX5_wrong 27 = .ok (.getfield 10, 3) := by decide +kernel
theorem dX5_wrong_30 : decode cX5_wrong 30 = .ok (.getfield 48, 3) := by decide +kernel
theorem dX5_wrong_33 : decode cX5_wrong 33 = .ok (.if_icmp .ge 46, 3) := by decide +kernel
