set_option maxRecDepth 20000 in
theorem gX6_rate_X6_flowOf : GoodIn wsX6_rate (wsV RX6 127 RX6 yX6_flowOf wsX6_flowOf) := goodIn_app (goodIn_of _ (by decide +kernel)) ggX6_rate_X6_flowOf
theorem dX6_rate_0 : decode cX6_rate 0 = .ok (.iconst (-1), 1) := by decide +kernel
theorem dX6_rate_1 : decode cX6_rate 1 = .ok (.istore_n 1, 1) := by decide +kernel
theorem dX6_rate_2 : decode cX6_rate 2 = .ok (.iconst 1, 1) := by decide +kernel
theorem dX6_rate_3 : decode cX6_rate 3 = .ok (.istore_n 2, 1) := by decide +kernel
theorem dX6_rate_4 : decode cX6_rate 4 = .ok (.iload_n 2, 1) := by decide +kernel
theorem dX6_rate_5 : decode cX6_rate 5 = .ok (.aload_n 0, 1) := by decide +kernel
theorem dX6_rate_6 : decode cX6_rate 6 = .ok (.getfield 7, 3) := by decide +kernel
theorem dX6_rate_9 : decode cX6_rate 9 = .ok (.if_icmp .ge 43, 3) := by decide +kernel
theorem dX6_rate_12 : decode cX6_rate 12 = .ok (.aload_n 0, 1) := by decide +kernel
theorem dX6_rate_13 : decode cX6_rate 13 = .ok (.getfield 20, 3) := by decide +kernel
theorem dX6_rate_16 : decode cX6_rate 16 = .ok (.iload_n 2, 1) := by decide +kernel
theorem dX6_rate_17 : decode cX6_rate 17 = .ok (.baload, 1) := by decide +kernel
theorem dX6_rate_18 : decode cX6_rate 18 = .ok (.ifCond .ne 6, 3) := by decide +kernel
theorem dX6_rate_21 : decode cX6_rate 21 = .ok (.goto 25, 3) := by decide +kernel
theorem dX6_rate_24 : decode cX6_rate 24 = .ok (.aload_n 0, 1) := by decide +kernel
theorem dX6_rate_25 : decode cX6_rate 25 = .ok (.iload_n 2, 1) := by decide +kernel
theorem dX6_rate_26 : decode cX6_rate 26 = .ok (.invokevirtual 127, 3) := by decide +kernel
theorem dX6_rate_29 : decode cX6_rate 29 = .ok (.istore_n 3, 1) := by decide +kernel
theorem dX6_rate_30 : decode cX6_rate 30 = .ok (.iload_n 1, 1) := by decide +kernel
theorem dX6_rate_31 : decode cX6_rate 31 = .ok (.iconst (-1), 1) := by decide +kernel
theorem dX6_rate_32 : decode cX6_rate 32 = .ok (.if_icmp .eq 8, 3) := by decide +kernel
theorem dX6_rate_35 : decode cX6_rate 35 = .ok (.iload_n 3, 1) := by decide +kernel
theorem dX6_rate_36 : decode cX6_rate 36 = .ok (.iload_n 1, 1) := by decide +kernel
theorem dX6_rate_37 : decode cX6_rate 37 = .ok (.if_icmp .ge 7, 3) := by decide +kernel
theorem dX6_rate_40 : decode cX6_rate 40 = .ok (.iload_n 3, 1) := by decide +kernel
theorem dX6_rate_41 : decode cX6_rate 41 = .ok (.goto 4, 3) := by decide +kernel
theorem dX6_rate_44 : decode cX6_rate 44 = .ok (.iload_n 1, 1) := by decide +kernel
theorem dX6_rate_45 : decode cX6_rate 45 = .ok (.istore_n 1, 1) := by decide +kernel
theorem dX6_rate_46 : decode cX6_rate 46 = .ok (.iinc 2 1, 3) := by decide +kernel
theorem dX6_rate_49 : decode cX6_rate 49 = .ok (.goto (-45), 3) := by decide +kernel
theorem dX6_rate_52 : decode cX6_rate 52 = .ok (.iload_n 1, 1) := by decide +kernel
theorem dX6_rate_53 : decode cX6_rate 53 = .ok (.iconst (-1), 1) := by decide +kernel
theorem dX6_rate_54 : decode cX6_rate 54 = .ok (.if_icmp .ne 7, 3) := by decide +kernel
theorem dX6_rate_57 : decode cX6_rate 57 = .ok (.iconst 0, 1) := by decide +kernel
theorem dX6_rate_58 : decode cX6_rate 58 = .ok (.goto 4, 3) := by decide +kernel
theorem dX6_rate_61 : decode cX6_rate 61 = .ok (.iload_n 1, 1) := by decide +kernel
theorem dX6_rate_62 : decode cX6_rate 62 = .ok (.ireturn, 1) := by decide +kernel
set_option maxRecDepth 20000 in
theorem ggX6_work_X6_workLine : GoodIn wsX6_work wsX6_workLine := goodIn_r _ [8, 9, 10, 11, 12, 13, 14, 3, 15, 16, 17, 18, 19, 20, 7, 21, 22, 23, 24, 25, 2, 26, 27, 28, 29, 30, 31, 32, 33, 34, 35, 36, 37, 38, 39, 40, 41, 42, 43, 44, 45, 46, 47, 48, 49, 50, 51, 52, 53, 54, 55, 56, 57, 58, 59, 60, 61, 62, 63, 64, 65, 66, 67, 68] (by decide +kernel) (by decide +kernel)
set_option maxRecDepth 20000 in
theorem gX6_work_X6_workLine : GoodIn wsX6_work (wsV RX6 130 RX6 yX6_workLine wsX6_workLine) := goodIn_app (goodIn_of _ (by decide +kernel)) ggX6_work_X6_workLine
theorem dX6_work_0 : decode cX6_work 0 = .ok (.iconst 0, 1) := by decide +kernel
theorem dX6_work_1 : decode cX6_work 1 = .ok (.istore_n 1, 1) := by decide +kernel
theorem dX6_work_2 : decode cX6_work 2 = .ok (.iload_n 1, 1) := by decide +kernel
theorem dX6_work_3 : decode cX6_work 3 = .ok (.aload_n 0, 1) := by decide +kernel
theorem dX6_work_4 : decode cX6_work 4 = .ok (.getfield 7, 3) := by decide +kernel
theorem dX6_work_7 : decode cX6_work 7 = .ok (.if_icmp .ge 40, 3) := by decide +kernel
theorem dX6_work_10 : decode cX6_work 10 = .ok (.iconst 0, 1) := by decide +kernel
theorem dX6_work_11 : decode cX6_work 11 = .ok (.istore_n 2, 1) := by decide +kernel
theorem dX6_work_12 : decode cX6_work 12 = .ok (.iload_n 2, 1) := by decide +kernel
theorem dX6_work_13 : decode cX6_work 13 = .ok (.aload_n 0, 1) := by decide +kernel
theorem dX6_work_14 : decode cX6_work 14 = .ok (.getfield 105, 3) := by decide +kernel
theorem dX6_work_17 : decode cX6_work 17 = .ok (.if_icmp .ge 24, 3) := by decide +kernel
theorem dX6_work_20 : decode cX6_work 20 = .ok (.aload_n 0, 1) := by decide +kernel
theorem dX6_work_21 : decode cX6_work 21 = .ok (.getfield 24, 3) := by decide +kernel
theorem dX6_work_24 : decode cX6_work 24 = .ok (.iload_n 2, 1) := by decide +kernel
theorem dX6_work_25 : decode cX6_work 25 = .ok (.iaload, 1) := by decide +kernel
theorem dX6_work_26 : decode cX6_work 26 = .ok (.iload_n 1, 1) := by decide +kernel
theorem dX6_work_27 : decode cX6_work 27 = .ok (.if_icmp .ne 8, 3) := by decide +kernel
theorem dX6_work_30 : decode cX6_work 30 = .ok (.aload_n 0, 1) := by decide +kernel
theorem dX6_work_31 : decode cX6_work 31 = .ok (.iload_n 2, 1) := by decide +kernel
theorem dX6_work_32 : decode cX6_work 32 = .ok (.invokevirtual 130, 3) := by decide +kernel
theorem dX6_work_35 : decode cX6_work 35 = .ok (.iinc 2 1, 3) := by decide +kernel
theorem dX6_work_38 : decode cX6_work 38 = .ok (.goto (-26), 3) := by decide +kernel
theorem dX6_work_41 : decode cX6_work 41 = .ok (.iinc 1 1, 3) := by decide +kernel
theorem dX6_work_44 : decode cX6_work 44 = .ok (.goto (-42), 3) := by decide +kernel
theorem dX6_work_47 : decode cX6_work 47 = .ok (.return_, 1) := by decide +kernel
set_option maxRecDepth 20000 in
theorem ggX6_workLine_X6_ins : GoodIn wsX6_workLine wsX6_ins := goodIn_r _ [15, 7, 9, 16, 17, 18, 14, 19, 20, 21, 33, 34, 35, 36, 37, 38, 39, 40, 41, 42, 43, 44, 45, 46, 47, 48, 49, 50, 51, 52, 53, 54, 55, 56, 57, 58, 59, 60, 61, 62, 63] (by decide +kernel) (by decide +kernel)
set_option maxRecDepth 20000 in
theorem gX6_workLine_X6_ins : GoodIn wsX6_workLine (wsV RX6 118 RX6 yX6_ins wsX6_ins) := goodIn_app (goodIn_of _ (by decide +kernel)) ggX6_workLine_X6_ins
set_option maxRecDepth 20000 in
theorem ggX6_workLine_X6_lineIn : GoodIn wsX6_workLine wsX6_lineIn := goodIn_r _ [25, 20, 21, 33, 34, 35, 36, 37, 38, 39, 40, 41, 42, 43, 44, 45, 46, 47, 48, 49, 50, 51, 52, 53, 54, 55, 56, 57, 58, 59, 60, 61, 62, 63] (by decide +kernel) (by decide +kernel)
set_option maxRecDepth 20000 in
theorem gX6_workLine_X6_lineIn : GoodIn wsX6_workLine (wsV RX6 134 RX6 yX6_lineIn wsX6_lineIn) := goodIn_app (goodIn_of _ (by decide +kernel)) ggX6_workLine_X6_lineIn
set_option maxRecDepth 20000 in
theorem ggX6_workLine_X6_product_ : GoodIn wsX6_workLine wsX6_product_ := goodIn_r _ [28, 29, 30, 31, 14, 32] (by decide +kernel) (by decide +kernel)
set_option maxRecDepth 20000 in
theorem gX6_workLine_X6_product_ : GoodIn wsX6_workLine (va_wsS RX6 137 yX6_product_ wsX6_product_) := goodIn_app (goodIn_of _ (by decide +kernel)) ggX6_workLine_X6_product_
set_option maxRecDepth 20000 in
theorem ggX6_workLine_X6_product : GoodIn wsX6_workLine wsX6_product := goodIn_r _ [32] (by decide +kernel) (by decide +kernel)
set_option maxRecDepth 20000 in
theorem gX6_workLine_X6_product : GoodIn wsX6_workLine (va_wsS RX6 91 yX6_product wsX6_product) := goodIn_app (goodIn_of _ (by decide +kernel)) ggX6_workLine_X6_product
theorem dX6_workLine_0 : decode cX6_workLine 0 = .ok (.aload_n 0, 1) := by decide +kernel
theorem dX6_workLine_1 : decode cX6_workLine 1 = .ok (.getfield 55, 3) := by decide +kernel
theorem dX6_workLine_4 : decode cX6_workLine 4 = .ok (.iload_n 1, 1) := by decide +kernel
theorem dX6_workLine_5 : decode cX6_workLine 5 = .ok (.lconst 0, 1) := by decide +kernel
theorem dX6_workLine_6 : decode cX6_workLine 6 = .ok (.lastore, 1) := by decide +kernel
theorem dX6_workLine_7 : decode cX6_workLine 7 = .ok (.iconst 0, 1) := by decide +kernel
theorem dX6_workLine_8 : decode cX6_workLine 8 = .ok (.istore_n 2, 1) := by decide +kernel
theorem dX6_workLine_9 : decode cX6_workLine 9 = .ok (.iload_n 2, 1) := by decide +kernel
theorem dX6_workLine_10 : decode cX6_workLine 10 = .ok (.iconst 4, 1) := by decide +kernel
theorem dX6_workLine_11 : decode cX6_workLine 11 = .ok (.if_icmp .ge 20, 3) := by decide +kernel
theorem dX6_workLine_14 : decode cX6_workLine 14 = .ok (.aload_n 0, 1) := by decide +kernel
theorem dX6_workLine_15 : decode cX6_workLine 15 = .ok (.getfield 52, 3) := by decide +kernel
theorem dX6_workLine_18 : decode cX6_workLine 18 = .ok (.iconst 4, 1) := by decide +kernel
theorem dX6_workLine_19 : decode cX6_workLine 19 = .ok (.iload_n 1, 1) := by decide +kernel
theorem dX6_workLine_20 : decode cX6_workLine 20 = .ok (.imul, 1) := by decide +kernel
theorem dX6_workLine_21 : decode cX6_workLine 21 = .ok (.iload_n 2, 1) := by decide +kernel
theorem dX6_workLine_22 : decode cX6_workLine 22 = .ok (.iadd, 1) := by decide +kernel
theorem dX6_workLine_23 : decode cX6_workLine 23 = .ok (.iconst 0, 1) := by decide +kernel
theorem dX6_workLine_24 : decode cX6_workLine 24 = .ok (.iastore, 1) := by decide +kernel
theorem dX6_workLine_25 : decode cX6_workLine 25 = .ok (.iinc 2 1, 3) := by decide +kernel
theorem dX6_workLine_28 : decode cX6_workLine 28 = .ok (.goto (-19), 3) := by decide +kernel
theorem dX6_workLine_31 : decode cX6_workLine 31 = .ok (.aload_n 0, 1) := by decide +kernel
theorem dX6_workLine_32 : decode cX6_workLine 32 = .ok (.getfield 34, 3) := by decide +kernel
theorem dX6_workLine_35 : decode cX6_workLine 35 = .ok (.iload_n 1, 1) := by decide +kernel
theorem dX6_workLine_36 : decode cX6_workLine 36 = .ok (.baload, 1) := by decide +kernel
theorem dX6_workLine_37 : decode cX6_workLine 37 = .ok (.ifCond .ne 19, 3) := by decide +kernel
theorem dX6_workLine_40 : decode cX6_workLine 40 = .ok (.iload_n 1, 1) := by decide +kernel
theorem dX6_workLine_41 : decode cX6_workLine 41 = .ok (.aload_n 0, 1) := by decide +kernel
theorem dX6_workLine_42 : decode cX6_workLine 42 = .ok (.getfield 58, 3) := by decide +kernel
theorem dX6_workLine_45 : decode cX6_workLine 45 = .ok (.if_icmp .eq 11, 3) := by decide +kernel
theorem dX6_workLine_48 : decode cX6_workLine 48 = .ok (.iload_n 1, 1) := by decide +kernel
theorem dX6_workLine_49 : decode cX6_workLine 49 = .ok (.aload_n 0, 1) := by decide +kernel
theorem dX6_workLine_50 : decode cX6_workLine 50 = .ok (.getfield 61, 3) := by decide +kernel
theorem dX6_workLine_53 : decode cX6_workLine 53 = .ok (.if_icmp .ne 4, 3) := by decide +kernel
theorem dX6_workLine_56 : decode cX6_workLine 56 = .ok (.return_, 1) := by decide +kernel
theorem dX6_workLine_57 : decode cX6_workLine 57 = .ok (.aload_n 0, 1) := by decide +kernel
theorem dX6_workLine_58 : decode cX6_workLine 58 = .ok (.iload_n 1, 1) := by decide +kernel
theorem dX6_workLine_59 : decode cX6_workLine 59 = .ok (.invokevirtual 118, 3) := by decide +kernel
theorem dX6_workLine_62 : decode cX6_workLine 62 = .ok (.istore_n 2, 1) := by decide +kernel
theorem dX6_workLine_63 : decode cX6_workLine 63 = .ok (.iconst 0, 1) := by decide +kernel
theorem dX6_workLine_64 : decode cX6_workLine 64 = .ok (.istore_n 3, 1) := by decide +kernel
theorem dX6_workLine_65 : decode cX6_workLine 65 = .ok (.iload_n 3, 1) := by decide +kernel
theorem dX6_workLine_66 : decode cX6_workLine 66 = .ok (.iload_n 2, 1) := by decide +kernel
theorem dX6_workLine_67 : decode cX6_workLine 67 = .ok (.if_icmp .ge 154, 3) := by decide +kernel
theorem dX6_workLine_70 : decode cX6_workLine 70 = .ok (.aload_n 0, 1) := by decide +kernel
theorem dX6_workLine_71 : decode cX6_workLine 71 = .ok (.getfield 40, 3) := by decide +kernel
theorem dX6_workLine_74 : decode cX6_workLine 74 = .ok (.bipush 30, 2) := by decide +kernel
theorem dX6_workLine_76 : decode cX6_workLine 76 = .ok (.iload_n 1, 1) := by decide +kernel
theorem dX6_workLine_77 : decode cX6_workLine 77 = .ok (.imul, 1) := by decide +kernel
theorem dX6_workLine_78 : decode cX6_workLine 78 = .ok (.iload_n 3, 1) := by decide +kernel
theorem dX6_workLine_79 : decode cX6_workLine 79 = .ok (.iadd, 1) := by decide +kernel
theorem dX6_workLine_80 : decode cX6_workLine 80 = .ok (.iaload, 1) := by decide +kernel
theorem dX6_workLine_81 : decode cX6_workLine 81 = .ok (.istore 4, 2) := by decide +kernel
theorem dX6_workLine_83 : decode cX6_workLine 83 = .ok (.aload_n 0, 1) := by decide +kernel
theorem dX6_workLine_84 : decode cX6_workLine 84 = .ok (.getfield 24, 3) := by decide +kernel
theorem dX6_workLine_87 : decode cX6_workLine 87 = .ok (.iload_n 1, 1) := by decide +kernel
theorem dX6_workLine_88 : decode cX6_workLine 88 = .ok (.iaload, 1) := by decide +kernel
theorem dX6_workLine_89 : decode cX6_workLine 89 = .ok (.ifCond .ne 7, 3) := by decide +kernel
theorem dX6_workLine_92 : decode cX6_workLine 92 = .ok (.iconst (-1), 1) := by decide +kernel
theorem dX6_workLine_93 : decode cX6_workLine 93 = .ok (.goto 14, 3) := by decide +kernel
theorem dX6_workLine_96 : decode cX6_workLine 96 = .ok (.aload_n 0, 1) := by decide +kernel
theorem dX6_workLine_97 : decode cX6_workLine 97 = .ok (.aload_n 0, 1) := by decide +kernel
theorem dX6_workLine_98 : decode cX6_workLine 98 = .ok (.getfield 24, 3) := by decide +kernel
theorem dX6_workLine_101 : decode cX6_workLine 101 = .ok (.iload_n 1, 1) := by decide +kernel
theorem dX6_workLine_102 : decode cX6_workLine 102 = .ok (.iaload, 1) := by decide +kernel
theorem dX6_workLine_103 : decode cX6_workLine 103 = .ok (.iload_n 3, 1) := by decide +kernel
theorem dX6_workLine_104 : decode cX6_workLine 104 = .ok (.invokevirtual 134, 3) := by decide +kernel
theorem dX6_workLine_107 : decode cX6_workLine 107 = .ok (.istore 5, 2) := by decide +kernel
theorem dX6_workLine_109 : decode cX6_workLine 109 = .ok (.aload_n 0, 1) := by decide +kernel
theorem dX6_workLine_110 : decode cX6_workLine 110 = .ok (.getfield 55, 3) := by decide +kernel
theorem dX6_workLine_113 : decode cX6_workLine 113 = .ok (.iload_n 1, 1) := by decide +kernel
theorem dX6_workLine_114 : decode cX6_workLine 114 = .ok (.dup2, 1) := by decide +kernel
theorem dX6_workLine_115 : decode cX6_workLine 115 = .ok (.laload, 1) := by decide +kernel
theorem dX6_workLine_116 : decode cX6_workLine 116 = .ok (.iload 4, 2) := by decide +kernel
theorem dX6_workLine_118 : decode cX6_workLine 118 = .ok (.iload 5, 2) := by decide +kernel
theorem dX6_workLine_120 : decode cX6_workLine 120 = .ok (.iconst (-1), 1) := by decide +kernel
theorem dX6_workLine_121 : decode cX6_workLine 121 = .ok (.if_icmp .ne 12, 3) := by decide +kernel
theorem dX6_workLine_124 : decode cX6_workLine 124 = .ok (.aload_n 0, 1) := by decide +kernel
theorem dX6_workLine_125 : decode cX6_workLine 125 = .ok (.getfield 16, 3) := by decide +kernel
theorem dX6_workLine_128 : decode cX6_workLine 128 = .ok (.iload_n 3, 1) := by decide +kernel
theorem dX6_workLine_129 : decode cX6_workLine 129 = .ok (.laload, 1) := by decide +kernel
theorem dX6_workLine_130 : decode cX6_workLine 130 = .ok (.goto 10, 3) := by decide +kernel
theorem dX6_workLine_133 : decode cX6_workLine 133 = .ok (.aload_n 0, 1) := by decide +kernel
theorem dX6_workLine_134 : decode cX6_workLine 134 = .ok (.getfield 55, 3) := by decide +kernel
theorem dX6_workLine_137 : decode cX6_workLine 137 = .ok (.iload 5, 2) := by decide +kernel
theorem dX6_workLine_139 : decode cX6_workLine 139 = .ok (.laload, 1) := by decide +kernel
theorem dX6_workLine_140 : decode cX6_workLine 140 = .ok (.invokestatic 137, 3) := by decide +kernel
theorem dX6_workLine_143 : decode cX6_workLine 143 = .ok (.lxor, 1) := by decide +kernel
theorem dX6_workLine_144 : decode cX6_workLine 144 = .ok (.lastore, 1) := by decide +kernel
theorem dX6_workLine_145 : decode cX6_workLine 145 = .ok (.iconst 0, 1) := by decide +kernel
theorem dX6_workLine_146 : decode cX6_workLine 146 = .ok (.istore 6, 2) := by decide +kernel
theorem dX6_workLine_148 : decode cX6_workLine 148 = .ok (.iload 6, 2) := by decide +kernel
theorem dX6_workLine_150 : decode cX6_workLine 150 = .ok (.aload_n 0, 1) := by decide +kernel
theorem dX6_workLine_151 : decode cX6_workLine 151 = .ok (.getfield 13, 3) := by decide +kernel
theorem dX6_workLine_154 : decode cX6_workLine 154 = .ok (.if_icmp .ge 61, 3) := by decide +kernel
theorem dX6_workLine_157 : decode cX6_workLine 157 = .ok (.aload_n 0, 1) := by decide +kernel
theorem dX6_workLine_158 : decode cX6_workLine 158 = .ok (.getfield 52, 3) := by decide +kernel
theorem dX6_workLine_161 : decode cX6_workLine 161 = .ok (.iconst 4, 1) := by decide +kernel
theorem dX6_workLine_162 : decode cX6_workLine 162 = .ok (.iload_n 1, 1) := by decide +kernel
theorem dX6_workLine_163 : decode cX6_workLine 163 = .ok (.imul, 1) := by decide +kernel
theorem dX6_workLine_164 : decode cX6_workLine 164 = .ok (.iload 6, 2) := by decide +kernel
theorem dX6_workLine_166 : decode cX6_workLine 166 = .ok (.iadd, 1) := by decide +kernel
theorem dX6_workLine_167 : decode cX6_workLine 167 = .ok (.dup2, 1) := by decide +kernel
theorem dX6_workLine_168 : decode cX6_workLine 168 = .ok (.iaload, 1) := by decide +kernel
theorem dX6_workLine_169 : decode cX6_workLine 169 = .ok (.iload 5, 2) := by decide +kernel
theorem dX6_workLine_171 : decode cX6_workLine 171 = .ok (.iconst (-1), 1) := by decide +kernel
theorem dX6_workLine_172 : decode cX6_workLine 172 = .ok (.if_icmp .ne 18, 3) := by decide +kernel
theorem dX6_workLine_175 : decode cX6_workLine 175 = .ok (.iload 6, 2) := by decide +kernel
theorem dX6_workLine_177 : decode cX6_workLine 177 = .ok (.iload_n 3, 1) := by decide +kernel
theorem dX6_workLine_178 : decode cX6_workLine 178 = .ok (.if_icmp .ne 8, 3) := by decide +kernel
theorem dX6_workLine_181 : decode cX6_workLine 181 = .ok (.iload 4, 2) := by decide +kernel
theorem dX6_workLine_183 : decode cX6_workLine 183 = .ok (.goto 24, 3) := by decide +kernel
theorem dX6_workLine_186 : decode cX6_workLine 186 = .ok (.iconst 0, 1) := by decide +kernel
theorem dX6_workLine_187 : decode cX6_workLine 187 = .ok (.goto 20, 3) := by decide +kernel
theorem dX6_workLine_190 : decode cX6_workLine 190 = .ok (.iload 4, 2) := by decide +kernel
theorem dX6_workLine_192 : decode cX6_workLine 192 = .ok (.aload_n 0, 1) := by decide +kernel
theorem dX6_workLine_193 : decode cX6_workLine 193 = .ok (.getfield 52, 3) := by decide +kernel
theorem dX6_workLine_196 : decode cX6_workLine 196 = .ok (.iconst 4, 1) := by decide +kernel
theorem dX6_workLine_197 : decode cX6_workLine 197 = .ok (.iload 5, 2) := by decide +kernel
theorem dX6_workLine_199 : decode cX6_workLine 199 = .ok (.imul, 1) := by decide +kernel
theorem dX6_workLine_200 : decode cX6_workLine 200 = .ok (.iload 6, 2) := by decide +kernel
theorem dX6_workLine_202 : decode cX6_workLine 202 = .ok (.iadd, 1) := by decide +kernel
theorem dX6_workLine_203 : decode cX6_workLine 203 = .ok (.iaload, 1) := by decide +kernel
theorem dX6_workLine_204 : decode cX6_workLine 204 = .ok (.invokestatic 91, 3) := by decide +kernel
theorem dX6_workLine_207 : decode cX6_workLine 207 = .ok (.ixor, 1) := by decide +kernel
theorem dX6_workLine_208 : decode cX6_workLine 208 = .ok (.iastore, 1) := by decide +kernel
theorem dX6_workLine_209 : decode cX6_workLine 209 = .ok (.iinc 6 1, 3) := by decide +kernel
theorem dX6_workLine_212 : decode cX6_workLine 212 = .ok (.goto (-64), 3) := by decide +kernel
theorem dX6_workLine_215 : decode cX6_workLine 215 = .ok (.iinc 3 1, 3) := by decide +kernel
theorem dX6_workLine_218 : decode cX6_workLine 218 = .ok (.goto (-153), 3) := by decide +kernel
theorem dX6_workLine_221 : decode cX6_workLine 221 = .ok (.aload_n 0, 1) := by decide +kernel
theorem dX6_workLine_222 : decode cX6_workLine 222 = .ok (.getfield 55, 3) := by decide +kernel
theorem dX6_workLine_225 : decode cX6_workLine 225 = .ok (.iload_n 1, 1) := by decide +kernel
theorem dX6_workLine_226 : decode cX6_workLine 226 = .ok (.dup2, 1) := by decide +kernel
theorem dX6_workLine_227 : decode cX6_workLine 227 = .ok (.laload, 1) := by decide +kernel
theorem dX6_workLine_228 : decode cX6_workLine 228 = .ok (.aload_n 0, 1) := by decide +kernel
theorem dX6_workLine_229 : decode cX6_workLine 229 = .ok (.getfield 37, 3) := by decide +kernel
theorem dX6_workLine_232 : decode cX6_workLine 232 = .ok (.iload_n 1, 1) := by decide +kernel
theorem dX6_workLine_233 : decode cX6_workLine 233 = .ok (.laload, 1) := by decide +kernel
theorem dX6_workLine_234 : decode cX6_workLine 234 = .ok (.lxor, 1) := by decide +kernel
theorem dX6_workLine_235 : decode cX6_workLine 235 = .ok (.lastore, 1) := by decide +kernel
theorem dX6_workLine_236 : decode cX6_workLine 236 = .ok (.return_, 1) := by decide +kernel
set_option maxRecDepth 20000 in
theorem ggX6_vector_X6_isLine : GoodIn wsX6_vector wsX6_isLine := goodIn_r _ [7, 8, 9, 10, 6, 11, 49, 50, 51, 52, 53, 54, 55, 56, 57, 58, 59, 60, 61, 62, 63, 64, 65, 66, 67, 68, 69, 70, 71, 72, 73, 74, 75, 76, 77, 78, 79] (by decide +kernel) (by decide +kernel)
set_option maxRecDepth 20000 in
theorem gX6_vector_X6_isLine : GoodIn wsX6_vector (wsV RX6 115 RX6 yX6_isLine wsX6_isLine) := goodIn_app (goodIn_of _ (by decide +kernel)) ggX6_vector_X6_isLine
set_option maxRecDepth 20000 in
theorem ggX6_vector_X6_in : GoodIn wsX6_vector wsX6_in := goodIn_r _ [11] (by decide +kernel) (by decide +kernel)
set_option maxRecDepth 20000 in
theorem gX6_vector_X6_in : GoodIn wsX6_vector (va_wsS RX6 97 yX6_in wsX6_in) := goodIn_app (goodIn_of _ (by decide +kernel)) ggX6_vector_X6_in
set_option maxRecDepth 20000 in
theorem ggX6_vector_X6_work : GoodIn wsX6_vector wsX6_work := goodIn_r _ [15, 16, 8, 17, 18, 19, 20, 6, 21, 22, 2, 23, 24, 25, 26, 27, 1, 28, 29, 30, 31, 32, 33, 34, 35, 36, 37, 38, 39, 40, 41, 42, 43, 44, 45, 46, 47, 48, 49, 50, 51, 52, 53, 54, 55, 56, 57, 58, 59, 60, 61, 62, 63, 64, 65, 66, 67, 68, 69, 70, 71, 72, 73, 74, 75, 76, 77, 78, 79] (by decide +kernel) (by decide +kernel)
set_option maxRecDepth 20000 in
theorem gX6_vector_X6_work : GoodIn wsX6_vector (wsV RX6 140 RX6 yX6_work wsX6_work) := goodIn_app (goodIn_of _ (by decide +kernel)) ggX6_vector_X6_work
theorem dX6_vector_0 : decode cX6_vector 0 = .ok (.aload_n 0, 1) := by decide +kernel
theorem dX6_vector_1 : decode cX6_vector 1 = .ok (.iload_n 1, 1) := by decide +kernel
theorem dX6_vector_2 : decode cX6_vector 2 = .ok (.invokevirtual 115, 3) := by decide +kernel
theorem dX6_vector_5 : decode cX6_vector 5 = .ok (.ifCond .eq 17, 3) := by decide +kernel
theorem dX6_vector_8 : decode cX6_vector 8 = .ok (.iload_n 2, 1) := by decide +kernel
theorem dX6_vector_9 : decode cX6_vector 9 = .ok (.iconst 0, 1) := by decide +kernel
theorem dX6_vector_10 : decode cX6_vector 10 = .ok (.aload_n 0, 1) := by decide +kernel
theorem dX6_vector_11 : decode cX6_vector 11 = .ok (.getfield 13, 3) := by decide +kernel
theorem dX6_vector_14 : decode cX6_vector 14 = .ok (.iconst 1, 1) := by decide +kernel
theorem dX6_vector_15 : decode cX6_vector 15 = .ok (.isub, 1) := by decide +kernel
theorem dX6_vector_16 : decode cX6_vector 16 = .ok (.invokestatic 97, 3) := by decide +kernel
theorem dX6_vector_19 : decode cX6_vector 19 = .ok (.ifCond .ne 5, 3) := by decide +kernel
theorem dX6_vector_22 : decode cX6_vector 22 = .ok (.iconst (-1), 1) := by decide +kernel
theorem dX6_vector_23 : decode cX6_vector 23 = .ok (.ireturn, 1) := by decide +kernel
theorem dX6_vector_24 : decode cX6_vector 24 = .ok (.aload_n 0, 1) := by decide +kernel
theorem dX6_vector_25 : decode cX6_vector 25 = .ok (.invokevirtual 140, 3) := by decide +kernel
theorem dX6_vector_28 : decode cX6_vector 28 = .ok (.aload_n 0, 1) := by decide +kernel
theorem dX6_vector_29 : decode cX6_vector 29 = .ok (.getfield 52, 3) := by decide +kernel
theorem dX6_vector_32 : decode cX6_vector 32 = .ok (.iconst 4, 1) := by decide +kernel
theorem dX6_vector_33 : decode cX6_vector 33 = .ok (.iload_n 1, 1) := by decide +kernel
theorem dX6_vector_34 : decode cX6_vector 34 = .ok (.imul, 1) := by decide +kernel
theorem dX6_vector_35 : decode cX6_vector 35 = .ok (.iload_n 2, 1) := by decide +kernel
theorem dX6_vector_36 : decode cX6_vector 36 = .ok (.iadd, 1) := by decide +kernel
theorem dX6_vector_37 : decode cX6_vector 37 = .ok (.iaload, 1) := by decide +kernel
theorem dX6_vector_38 : decode cX6_vector 38 = .ok (.ireturn, 1) := by decide +kernel
set_option maxRecDepth 20000 in
theorem ggX6_carries_X6_isLine : GoodIn wsX6_carries wsX6_isLine := goodIn_r _ [6, 7, 8, 9, 5, 10, 49, 50, 51, 52, 53, 54, 55, 56, 57, 58, 59, 60, 61, 62, 63, 64, 65, 66, 67, 68, 69, 70, 71, 72, 73, 74, 75, 76, 77, 78, 79] (by decide +kernel) (by decide +kernel)
set_option maxRecDepth 20000 in
theorem gX6_carries_X6_isLine : GoodIn wsX6_carries (wsV RX6 115 RX6 yX6_isLine wsX6_isLine) := goodIn_app (goodIn_of _ (by decide +kernel)) ggX6_carries_X6_isLine
set_option maxRecDepth 20000 in
theorem ggX6_carries_X6_work : GoodIn wsX6_carries wsX6_work := goodIn_r _ [14, 15, 7, 16, 17, 18, 19, 5, 20, 1, 21, 22, 23, 24, 25, 26, 27, 28, 29, 30, 31, 32, 33, 34, 35, 36, 37, 38, 39, 40, 41, 42, 43, 44, 45, 46, 47, 48, 49, 50, 51, 52, 53, 54, 55, 56, 57, 58, 59, 60, 61, 62, 63, 64, 65, 66, 67, 68, 69, 70, 71, 72, 73, 74, 75, 76, 77, 78, 79] (by decide +kernel) (by decide +kernel)
set_option maxRecDepth 20000 in
theorem gX6_carries_X6_work : GoodIn wsX6_carries (wsV RX6 140 RX6 yX6_work wsX6_work) := goodIn_app (goodIn_of _ (by decide +kernel)) ggX6_carries_X6_work
theorem dX6_carries_0 : decode cX6_carries 0 = .ok (.aload_n 0, 1) := by decide +kernel
theorem dX6_carries_1 : decode cX6_carries 1 = .ok (.iload_n 1, 1) := by decide +kernel
theorem dX6_carries_2 : decode cX6_carries 2 = .ok (.invokevirtual 115, 3) := by decide +kernel
theorem dX6_carries_5 : decode cX6_carries 5 = .ok (.ifCond .ne 5, 3) := by decide +kernel
theorem dX6_carries_8 : decode cX6_carries 8 = .ok (.lconst 0, 1) := by decide +kernel
theorem dX6_carries_9 : decode cX6_carries 9 = .ok (.lreturn, 1) := by decide +kernel
theorem dX6_carries_10 : decode cX6_carries 10 = .ok (.aload_n 0, 1) := by decide +kernel
theorem dX6_carries_11 : decode cX6_carries 11 = .ok (.invokevirtual 140, 3) := by decide +kernel
theorem dX6_carries_14 : decode cX6_carries 14 = .ok (.aload_n 0, 1) := by decide +kernel
theorem dX6_carries_15 : decode cX6_carries 15 = .ok (.getfield 55, 3) := by decide +kernel
theorem dX6_carries_18 : decode cX6_carries 18 = .ok (.iload_n 1, 1) := by decide +kernel
theorem dX6_carries_19 : decode cX6_carries 19 = .ok (.laload, 1) := by decide +kernel
theorem dX6_carries_20 : decode cX6_carries 20 = .ok (.lreturn, 1) := by decide +kernel
set_option maxRecDepth 20000 in
theorem ggX6_reduce_X6_product : GoodIn wsX6_reduce wsX6_product := goodIn_r _ [8] (by decide +kernel) (by decide +kernel)
set_option maxRecDepth 20000 in
theorem gX6_reduce_X6_product : GoodIn wsX6_reduce (va_wsS RX6 91 yX6_product wsX6_product) := goodIn_app (goodIn_of _ (by decide +kernel)) ggX6_reduce_X6_product
theorem dX6_reduce_0 : decode cX6_reduce 0 = .ok (.iconst 0, 1) := by decide +kernel
theorem dX6_reduce_1 : decode cX6_reduce 1 = .ok (.istore_n 1, 1) := by decide +kernel
theorem dX6_reduce_2 : decode cX6_reduce 2 = .ok (.iload_n 1, 1) := by decide +kernel
theorem dX6_reduce_3 : decode cX6_reduce 3 = .ok (.aload_n 0, 1) := by decide +kernel
theorem dX6_reduce_4 : decode cX6_reduce 4 = .ok (.getfield 143, 3) := by decide +kernel
theorem dX6_reduce_7 : decode cX6_reduce 7 = .ok (.if_icmp .ge 63, 3) := by decide +kernel
theorem dX6_reduce_10 : decode cX6_reduce 10 = .ok (.aload_n 0, 1) := by decide +kernel
theorem dX6_reduce_11 : decode cX6_reduce 11 = .ok (.getfield 73, 3) := by decide +kernel
theorem dX6_reduce_14 : decode cX6_reduce 14 = .ok (.aload_n 0, 1) := by decide +kernel
theorem dX6_reduce_15 : decode cX6_reduce 15 = .ok (.getfield 67, 3) := by decide +kernel
theorem dX6_reduce_18 : decode cX6_reduce 18 = .ok (.iload_n 1, 1) := by decide +kernel
theorem dX6_reduce_19 : decode cX6_reduce 19 = .ok (.iaload, 1) := by decide +kernel
theorem dX6_reduce_20 : decode cX6_reduce 20 = .ok (.iaload, 1) := by decide +kernel
theorem dX6_reduce_21 : decode cX6_reduce 21 = .ok (.istore_n 2, 1) := by decide +kernel
theorem dX6_reduce_22 : decode cX6_reduce 22 = .ok (.iconst 0, 1) := by decide +kernel
theorem dX6_reduce_23 : decode cX6_reduce 23 = .ok (.istore_n 3, 1) := by decide +kernel
theorem dX6_reduce_24 : decode cX6_reduce 24 = .ok (.iload_n 3, 1) := by decide +kernel
theorem dX6_reduce_25 : decode cX6_reduce 25 = .ok (.bipush 9, 2) := by decide +kernel
theorem dX6_reduce_27 : decode cX6_reduce 27 = .ok (.if_icmp .ge 37, 3) := by decide +kernel
theorem dX6_reduce_30 : decode cX6_reduce 30 = .ok (.iload_n 2, 1) := by decide +kernel
theorem dX6_reduce_31 : decode cX6_reduce 31 = .ok (.ifCond .eq 33, 3) := by decide +kernel
theorem dX6_reduce_34 : decode cX6_reduce 34 = .ok (.aload_n 0, 1) := by decide +kernel
theorem dX6_reduce_35 : decode cX6_reduce 35 = .ok (.getfield 73, 3) := by decide +kernel
theorem dX6_reduce_38 : decode cX6_reduce 38 = .ok (.iload_n 3, 1) := by decide +kernel
theorem dX6_reduce_39 : decode cX6_reduce 39 = .ok (.dup2, 1) := by decide +kernel
theorem dX6_reduce_40 : decode cX6_reduce 40 = .ok (.iaload, 1) := by decide +kernel
theorem dX6_reduce_41 : decode cX6_reduce 41 = .ok (.iload_n 2, 1) := by decide +kernel
theorem dX6_reduce_42 : decode cX6_reduce 42 = .ok (.aload_n 0, 1) := by decide +kernel
theorem dX6_reduce_43 : decode cX6_reduce 43 = .ok (.getfield 64, 3) := by decide +kernel
theorem dX6_reduce_46 : decode cX6_reduce 46 = .ok (.bipush 9, 2) := by decide +kernel
theorem dX6_reduce_48 : decode cX6_reduce 48 = .ok (.iload_n 1, 1) := by decide +kernel
theorem dX6_reduce_49 : decode cX6_reduce 49 = .ok (.imul, 1) := by decide +kernel
theorem dX6_reduce_50 : decode cX6_reduce 50 = .ok (.iload_n 3, 1) := by decide +kernel
theorem dX6_reduce_51 : decode cX6_reduce 51 = .ok (.iadd, 1) := by decide +kernel
theorem dX6_reduce_52 : decode cX6_reduce 52 = .ok (.iaload, 1) := by decide +kernel
theorem dX6_reduce_53 : decode cX6_reduce 53 = .ok (.invokestatic 91, 3) := by decide +kernel
theorem dX6_reduce_56 : decode cX6_reduce 56 = .ok (.ixor, 1) := by decide +kernel
theorem dX6_reduce_57 : decode cX6_reduce 57 = .ok (.iastore, 1) := by decide +kernel
theorem dX6_reduce_58 : decode cX6_reduce 58 = .ok (.iinc 3 1, 3) := by decide +kernel
theorem dX6_reduce_61 : decode cX6_reduce 61 = .ok (.goto (-37), 3) := by decide +kernel
theorem dX6_reduce_64 : decode cX6_reduce 64 = .ok (.iinc 1 1, 3) := by decide +kernel
theorem dX6_reduce_67 : decode cX6_reduce 67 = .ok (.goto (-65), 3) := by decide +kernel
theorem dX6_reduce_70 : decode cX6_reduce 70 = .ok (.return_, 1) := by decide +kernel
set_option maxRecDepth 20000 in
theorem ggX6_steps_X6_reduce : GoodIn wsX6_steps wsX6_reduce := goodIn_r _ [10, 3, 2, 5, 4, 11, 12, 9, 13, 17, 18, 19, 20, 21, 22, 23, 24, 25, 26, 27, 28, 29, 30, 31, 32, 33, 34, 35, 36, 37, 38, 39, 40, 41, 42, 43, 44, 45, 46, 47] (by decide +kernel) (by decide +kernel)
set_option maxRecDepth 20000 in
theorem gX6_steps_X6_reduce : GoodIn wsX6_steps (wsV RX6 146 RX6 yX6_reduce wsX6_reduce) := goodIn_app (goodIn_of _ (by decide +kernel)) ggX6_steps_X6_reduce
set_option maxRecDepth 20000 in
theorem ggX6_steps_X6_inverseOf : GoodIn wsX6_steps wsX6_inverseOf := goodIn_r _ [16, 11, 12, 9, 13] (by decide +kernel) (by decide +kernel)
set_option maxRecDepth 20000 in
theorem gX6_steps_X6_inverseOf : GoodIn wsX6_steps (va_wsS RX6 101 yX6_inverseOf wsX6_inverseOf) := goodIn_app (goodIn_of _ (by decide +kernel)) ggX6_steps_X6_inverseOf
set_option maxRecDepth 20000 in
theorem ggX6_steps_X6_product : GoodIn wsX6_steps wsX6_product := goodIn_r _ [13] (by decide +kernel) (by decide +kernel)
set_option maxRecDepth 20000 in
theorem gX6_steps_X6_product : GoodIn wsX6_steps (va_wsS RX6 91 yX6_product wsX6_product) := goodIn_app (goodIn_of _ (by decide +kernel)) ggX6_steps_X6_product
theorem dX6_steps_0 : decode cX6_steps 0 = .ok (.aload_n 0, 1) := by decide +kernel
theorem dX6_steps_1 : decode cX6_steps 1 = .ok (.invokevirtual 146, 3) := by decide +kernel
theorem dX6_steps_4 : decode cX6_steps 4 = .ok (.iconst 0, 1) := by decide +kernel
theorem dX6_steps_5 : decode cX6_steps 5 = .ok (.istore_n 1, 1) := by decide +kernel
theorem dX6_steps_6 : decode cX6_steps 6 = .ok (.iload_n 1, 1) := by decide +kernel
theorem dX6_steps_7 : decode cX6_steps 7 = .ok (.aload_n 0, 1) := by decide +kernel
theorem dX6_steps_8 : decode cX6_steps 8 = .ok (.getfield 13, 3) := by decide +kernel
theorem dX6_steps_11 : decode cX6_steps 11 = .ok (.if_icmp .ge 18, 3) := by decide +kernel
theorem dX6_steps_14 : decode cX6_steps 14 = .ok (.aload_n 0, 1) := by decide +kernel
theorem dX6_steps_15 : decode cX6_steps 15 = .ok (.getfield 73, 3) := by decide +kernel
theorem dX6_steps_18 : decode cX6_steps 18 = .ok (.iload_n 1, 1) := by decide +kernel
theorem dX6_steps_19 : decode cX6_steps 19 = .ok (.iaload, 1) := by decide +kernel
theorem dX6_steps_20 : decode cX6_steps 20 = .ok (.ifCond .ne 9, 3) := by decide +kernel
theorem dX6_steps_23 : decode cX6_steps 23 = .ok (.iinc 1 1, 3) := by decide +kernel
theorem dX6_steps_26 : decode cX6_steps 26 = .ok (.goto (-20), 3) := by decide +kernel
theorem dX6_steps_29 : decode cX6_steps 29 = .ok (.iload_n 1, 1) := by decide +kernel
theorem dX6_steps_30 : decode cX6_steps 30 = .ok (.aload_n 0, 1) := by decide +kernel
theorem dX6_steps_31 : decode cX6_steps 31 = .ok (.getfield 13, 3) := by decide +kernel
theorem dX6_steps_34 : decode cX6_steps 34 = .ok (.if_icmp .ne 5, 3) := by decide +kernel
theorem dX6_steps_37 : decode cX6_steps 37 = .ok (.iconst 0, 1) := by decide +kernel
theorem dX6_steps_38 : decode cX6_steps 38 = .ok (.ireturn, 1) := by decide +kernel
theorem dX6_steps_39 : decode cX6_steps 39 = .ok (.aload_n 0, 1) := by decide +kernel
theorem dX6_steps_40 : decode cX6_steps 40 = .ok (.getfield 73, 3) := by decide +kernel
theorem dX6_steps_43 : decode cX6_steps 43 = .ok (.iload_n 1, 1) := by decide +kernel
theorem dX6_steps_44 : decode cX6_steps 44 = .ok (.iaload, 1) := by decide +kernel
theorem dX6_steps_45 : decode cX6_steps 45 = .ok (.invokestatic 101, 3) := by decide +kernel
theorem dX6_steps_48 : decode cX6_steps 48 = .ok (.istore_n 2, 1) := by decide +kernel
theorem dX6_steps_49 : decode cX6_steps 49 = .ok (.iconst 0, 1) := by decide +kernel
theorem dX6_steps_50 : decode cX6_steps 50 = .ok (.istore_n 3, 1) := by decide +kernel
theorem dX6_steps_51 : decode cX6_steps 51 = .ok (.iload_n 3, 1) := by decide +kernel
theorem dX6_steps_52 : decode cX6_steps 52 = .ok (.bipush 9, 2) := by decide +kernel
theorem dX6_steps_54 : decode cX6_steps 54 = .ok (.if_icmp .ge 25, 3) := by decide +kernel
theorem dX6_steps_57 : decode cX6_steps 57 = .ok (.aload_n 0, 1) := by decide +kernel
theorem dX6_steps_58 : decode cX6_steps 58 = .ok (.getfield 73, 3) := by decide +kernel
theorem dX6_steps_61 : decode cX6_steps 61 = .ok (.iload_n 3, 1) := by decide +kernel
theorem dX6_steps_62 : decode cX6_steps 62 = .ok (.iload_n 2, 1) := by decide +kernel
theorem dX6_steps_63 : decode cX6_steps 63 = .ok (.aload_n 0, 1) := by decide +kernel
theorem dX6_steps_64 : decode cX6_steps 64 = .ok (.getfield 73, 3) := by decide +kernel
theorem dX6_steps_67 : decode cX6_steps 67 = .ok (.iload_n 3, 1) := by decide +kernel
theorem dX6_steps_68 : decode cX6_steps 68 = .ok (.iaload, 1) := by decide +kernel
theorem dX6_steps_69 : decode cX6_steps 69 = .ok (.invokestatic 91, 3) := by decide +kernel
theorem dX6_steps_72 : decode cX6_steps 72 = .ok (.iastore, 1) := by decide +kernel
theorem dX6_steps_73 : decode cX6_steps 73 = .ok (.iinc 3 1, 3) := by decide +kernel
theorem dX6_steps_76 : decode cX6_steps 76 = .ok (.goto (-25), 3) := by decide +kernel
theorem dX6_steps_79 : decode cX6_steps 79 = .ok (.iconst 0, 1) := by decide +kernel
theorem dX6_steps_80 : decode cX6_steps 80 = .ok (.istore_n 3, 1) := by decide +kernel
theorem dX6_steps_81 : decode cX6_steps 81 = .ok (.iload_n 3, 1) := by decide +kernel
theorem dX6_steps_82 : decode cX6_steps 82 = .ok (.aload_n 0, 1) := by decide +kernel
theorem dX6_steps_83 : decode cX6_steps 83 = .ok (.getfield 143, 3) := by decide +kernel
theorem dX6_steps_86 : decode cX6_steps 86 = .ok (.if_icmp .ge 70, 3) := by decide +kernel
theorem dX6_steps_89 : decode cX6_steps 89 = .ok (.aload_n 0, 1) := by decide +kernel
theorem dX6_steps_90 : decode cX6_steps 90 = .ok (.getfield 64, 3) := by decide +kernel
theorem dX6_steps_93 : decode cX6_steps 93 = .ok (.bipush 9, 2) := by decide +kernel
theorem dX6_steps_95 : decode cX6_steps 95 = .ok (.iload_n 3, 1) := by decide +kernel
theorem dX6_steps_96 : decode cX6_steps 96 = .ok (.imul, 1) := by decide +kernel
theorem dX6_steps_97 : decode cX6_steps 97 = .ok (.iload_n 1, 1) := by decide +kernel
theorem dX6_steps_98 : decode cX6_steps 98 = .ok (.iadd, 1) := by decide +kernel
theorem dX6_steps_99 : decode cX6_steps 99 = .ok (.iaload, 1) := by decide +kernel
theorem dX6_steps_100 : decode cX6_steps 100 = .ok (.istore 4, 2) := by decide +kernel
theorem dX6_steps_102 : decode cX6_steps 102 = .ok (.iconst 0, 1) := by decide +kernel
theorem dX6_steps_103 : decode cX6_steps 103 = .ok (.istore 5, 2) := by decide +kernel
theorem dX6_steps_105 : decode cX6_steps 105 = .ok (.iload 5, 2) := by decide +kernel
theorem dX6_steps_107 : decode cX6_steps 107 = .ok (.bipush 9, 2) := by decide +kernel
theorem dX6_steps_109 : decode cX6_steps 109 = .ok (.if_icmp .ge 41, 3) := by decide +kernel
theorem dX6_steps_112 : decode cX6_steps 112 = .ok (.iload 4, 2) := by decide +kernel
theorem dX6_steps_114 : decode cX6_steps 114 = .ok (.ifCond .eq 36, 3) := by decide +kernel
theorem dX6_steps_117 : decode cX6_steps 117 = .ok (.aload_n 0, 1) := by decide +kernel
theorem dX6_steps_118 : decode cX6_steps 118 = .ok (.getfield 64, 3) := by decide +kernel
theorem dX6_steps_121 : decode cX6_steps 121 = .ok (.bipush 9, 2) := by decide +kernel
theorem dX6_steps_123 : decode cX6_steps 123 = .ok (.iload_n 3, 1) := by decide +kernel
theorem dX6_steps_124 : decode cX6_steps 124 = .ok (.imul, 1) := by decide +kernel
theorem dX6_steps_125 : decode cX6_steps 125 = .ok (.iload 5, 2) := by decide +kernel
theorem dX6_steps_127 : decode cX6_steps 127 = .ok (.iadd, 1) := by decide +kernel
theorem dX6_steps_128 : decode cX6_steps 128 = .ok (.dup2, 1) := by decide +kernel
theorem dX6_steps_129 : decode cX6_steps 129 = .ok (.iaload, 1) := by decide +kernel
theorem dX6_steps_130 : decode cX6_steps 130 = .ok (.iload 4, 2) := by decide +kernel
theorem dX6_steps_132 : decode cX6_steps 132 = .ok (.aload_n 0, 1) := by decide +kernel
theorem dX6_steps_133 : decode cX6_steps 133 = .ok (.getfield 73, 3) := by decide +kernel
theorem dX6_steps_136 : decode cX6_steps 136 = .ok (.iload 5, 2) := by decide +kernel
theorem dX6_steps_138 : decode cX6_steps 138 = .ok (.iaload, 1) := by decide +kernel
theorem dX6_steps_139 : decode cX6_steps 139 = .ok (.invokestatic 91, 3) := by decide +kernel
theorem dX6_steps_142 : decode cX6_steps 142 = .ok (.ixor, 1) := by decide +kernel
theorem dX6_steps_143 : decode cX6_steps 143 = .ok (.iastore, 1) := by decide +kernel
theorem dX6_steps_144 : decode cX6_steps 144 = .ok (.iinc 5 1, 3) := by decide +kernel
theorem dX6_steps_147 : decode cX6_steps 147 = .ok (.goto (-42), 3) := by decide +kernel
theorem dX6_steps_150 : decode cX6_steps 150 = .ok (.iinc 3 1, 3) := by decide +kernel
theorem dX6_steps_153 : decode cX6_steps 153 = .ok (.goto (-72), 3) := by decide +kernel
theorem dX6_steps_156 : decode cX6_steps 156 = .ok (.iconst 0, 1) := by decide +kernel
theorem dX6_steps_157 : decode cX6_steps 157 = .ok (.istore_n 3, 1) := by decide +kernel
theorem dX6_steps_158 : decode cX6_steps 158 = .ok (.iload_n 3, 1) := by decide +kernel
theorem dX6_steps_159 : decode cX6_steps 159 = .ok (.bipush 9, 2) := by decide +kernel
theorem dX6_steps_161 : decode cX6_steps 161 = .ok (.if_icmp .ge 29, 3) := by decide +kernel
theorem dX6_steps_164 : decode cX6_steps 164 = .ok (.aload_n 0, 1) := by decide +kernel
theorem dX6_steps_165 : decode cX6_steps 165 = .ok (.getfield 64, 3) := by decide +kernel
theorem dX6_steps_168 : decode cX6_steps 168 = .ok (.bipush 9, 2) := by decide +kernel
theorem dX6_steps_170 : decode cX6_steps 170 = .ok (.aload_n 0, 1) := by decide +kernel
theorem dX6_steps_171 : decode cX6_steps 171 = .ok (.getfield 143, 3) := by decide +kernel
theorem dX6_steps_174 : decode cX6_steps 174 = .ok (.imul, 1) := by decide +kernel
theorem dX6_steps_175 : decode cX6_steps 175 = .ok (.iload_n 3, 1) := by decide +kernel
theorem dX6_steps_176 : decode cX6_steps 176 = .ok (.iadd, 1) := by decide +kernel
theorem dX6_steps_177 : decode cX6_steps 177 = .ok (.aload_n 0, 1) := by decide +kernel
theorem dX6_steps_178 : decode cX6_steps 178 = .ok (.getfield 73, 3) := by decide +kernel
theorem dX6_steps_181 : decode cX6_steps 181 = .ok (.iload_n 3, 1) := by decide +kernel
theorem dX6_steps_182 : decode cX6_steps 182 = .ok (.iaload, 1) := by decide +kernel
theorem dX6_steps_183 : decode cX6_steps 183 = .ok (.iastore, 1) := by decide +kernel
theorem dX6_steps_184 : decode cX6_steps 184 = .ok (.iinc 3 1, 3) := by decide +kernel
theorem dX6_steps_187 : decode cX6_steps 187 = .ok (.goto (-29), 3) := by decide +kernel
theorem dX6_steps_190 : decode cX6_steps 190 = .ok (.aload_n 0, 1) := by decide +kernel
theorem dX6_steps_191 : decode cX6_steps 191 = .ok (.getfield 67, 3) := by decide +kernel
theorem dX6_steps_194 : decode cX6_steps 194 = .ok (.aload_n 0, 1) := by decide +kernel
theorem dX6_steps_195 : decode cX6_steps 195 = .ok (.getfield 143, 3) := by decide +kernel
theorem dX6_steps_198 : decode cX6_steps 198 = .ok (.iload_n 1, 1) := by decide +kernel
theorem dX6_steps_199 : decode cX6_steps 199 = .ok (.iastore, 1) := by decide +kernel
theorem dX6_steps_200 : decode cX6_steps 200 = .ok (.aload_n 0, 1) := by decide +kernel
theorem dX6_steps_201 : decode cX6_steps 201 = .ok (.dup, 1) := by decide +kernel
theorem dX6_steps_202 : decode cX6_steps 202 = .ok (.getfield 143, 3) := by decide +kernel
theorem dX6_steps_205 : decode cX6_steps 205 = .ok (.iconst 1, 1) := by decide +kernel
theorem dX6_steps_206 : decode cX6_steps 206 = .ok (.iadd, 1) := by decide +kernel
theorem dX6_steps_207 : decode cX6_steps 207 = .ok (.putfield 143, 3) := by decide +kernel
theorem dX6_steps_210 : decode cX6_steps 210 = .ok (.iconst 1, 1) := by decide +kernel
theorem dX6_steps_211 : decode cX6_steps 211 = .ok (.ireturn, 1) := by decide +kernel
set_option maxRecDepth 20000 in
theorem ggX6_study_X6_steps : GoodIn wsX6_study wsX6_steps := goodIn_r _ [12, 5, 4, 1, 13, 14, 15, 16, 17, 11, 18, 19, 20, 21, 22, 23, 24, 25, 26, 27, 28, 29, 30, 31, 32, 33, 34, 35, 36, 37, 38, 39, 40, 41, 42, 43, 44, 45, 46, 47, 48, 49, 50, 51, 52, 53, 54, 55] (by decide +kernel) (by decide +kernel)
set_option maxRecDepth 20000 in
theorem gX6_study_X6_steps : GoodIn wsX6_study (wsV RX6 149 RX6 yX6_steps wsX6_steps) := goodIn_app (goodIn_of _ (by decide +kernel)) ggX6_study_X6_steps
theorem dX6_study_0 : decode cX6_study 0 = .ok (.aload_n 0, 1) := by decide +kernel
theorem dX6_study_1 : decode cX6_study 1 = .ok (.iconst 0, 1) := by decide +kernel
theorem dX6_study_2 : decode cX6_study 2 = .ok (.putfield 143, 3) := by decide +kernel
theorem dX6_study_5 : decode cX6_study 5 = .ok (.iconst 0, 1) := by decide +kernel
theorem dX6_study_6 : decode cX6_study 6 = .ok (.istore_n 2, 1) := by decide +kernel
theorem dX6_study_7 : decode cX6_study 7 = .ok (.iload_n 2, 1) := by decide +kernel
theorem dX6_study_8 : decode cX6_study 8 = .ok (.aload_n 0, 1) := by decide +kernel
theorem dX6_study_9 : decode cX6_study 9 = .ok (.getfield 105, 3) := by decide +kernel
theorem dX6_study_12 : decode cX6_study 12 = .ok (.if_icmp .ge 95, 3) := by decide +kernel
theorem dX6_study_15 : decode cX6_study 15 = .ok (.aload_n 0, 1) := by decide +kernel
theorem dX6_study_16 : decode cX6_study 16 = .ok (.getfield 28, 3) := by decide +kernel
theorem dX6_study_19 : decode cX6_study 19 = .ok (.iload_n 2, 1) := by decide +kernel
theorem dX6_study_20 : decode cX6_study 20 = .ok (.iaload, 1) := by decide +kernel
theorem dX6_study_21 : decode cX6_study 21 = .ok (.iload_n 1, 1) := by decide +kernel
theorem dX6_study_22 : decode cX6_study 22 = .ok (.if_icmp .eq 6, 3) := by decide +kernel
theorem dX6_study_25 : decode cX6_study 25 = .ok (.goto 76, 3) := by decide +kernel
theorem dX6_study_28 : decode cX6_study 28 = .ok (.iconst 0, 1) := by decide +kernel
theorem dX6_study_29 : decode cX6_study 29 = .ok (.istore_n 3, 1) := by decide +kernel
theorem dX6_study_30 : decode cX6_study 30 = .ok (.iload_n 3, 1) := by decide +kernel
theorem dX6_study_31 : decode cX6_study 31 = .ok (.bipush 9, 2) := by decide +kernel
theorem dX6_study_33 : decode cX6_study 33 = .ok (.if_icmp .ge 37, 3) := by decide +kernel
theorem dX6_study_36 : decode cX6_study 36 = .ok (.aload_n 0, 1) := by decide +kernel
theorem dX6_study_37 : decode cX6_study 37 = .ok (.getfield 73, 3) := by decide +kernel
theorem dX6_study_40 : decode cX6_study 40 = .ok (.iload_n 3, 1) := by decide +kernel
theorem dX6_study_41 : decode cX6_study 41 = .ok (.iload_n 3, 1) := by decide +kernel
theorem dX6_study_42 : decode cX6_study 42 = .ok (.aload_n 0, 1) := by decide +kernel
theorem dX6_study_43 : decode cX6_study 43 = .ok (.getfield 13, 3) := by decide +kernel
theorem dX6_study_46 : decode cX6_study 46 = .ok (.if_icmp .ge 16, 3) := by decide +kernel
theorem dX6_study_49 : decode cX6_study 49 = .ok (.aload_n 0, 1) := by decide +kernel
theorem dX6_study_50 : decode cX6_study 50 = .ok (.getfield 52, 3) := by decide +kernel
theorem dX6_study_53 : decode cX6_study 53 = .ok (.iconst 4, 1) := by decide +kernel
theorem dX6_study_54 : decode cX6_study 54 = .ok (.iload_n 2, 1) := by decide +kernel
theorem dX6_study_55 : decode cX6_study 55 = .ok (.imul, 1) := by decide +kernel
theorem dX6_study_56 : decode cX6_study 56 = .ok (.iload_n 3, 1) := by decide +kernel
theorem dX6_study_57 : decode cX6_study 57 = .ok (.iadd, 1) := by decide +kernel
theorem dX6_study_58 : decode cX6_study 58 = .ok (.iaload, 1) := by decide +kernel
theorem dX6_study_59 : decode cX6_study 59 = .ok (.goto 4, 3) := by decide +kernel
theorem dX6_study_62 : decode cX6_study 62 = .ok (.iconst 0, 1) := by decide +kernel
theorem dX6_study_63 : decode cX6_study 63 = .ok (.iastore, 1) := by decide +kernel
theorem dX6_study_64 : decode cX6_study 64 = .ok (.iinc 3 1, 3) := by decide +kernel
theorem dX6_study_67 : decode cX6_study 67 = .ok (.goto (-37), 3) := by decide +kernel
theorem dX6_study_70 : decode cX6_study 70 = .ok (.aload_n 0, 1) := by decide +kernel
theorem dX6_study_71 : decode cX6_study 71 = .ok (.getfield 73, 3) := by decide +kernel
theorem dX6_study_74 : decode cX6_study 74 = .ok (.iconst 4, 1) := by decide +kernel
theorem dX6_study_75 : decode cX6_study 75 = .ok (.aload_n 0, 1) := by decide +kernel
theorem dX6_study_76 : decode cX6_study 76 = .ok (.getfield 143, 3) := by decide +kernel
theorem dX6_study_79 : decode cX6_study 79 = .ok (.iadd, 1) := by decide +kernel
theorem dX6_study_80 : decode cX6_study 80 = .ok (.iconst 1, 1) := by decide +kernel
theorem dX6_study_81 : decode cX6_study 81 = .ok (.iastore, 1) := by decide +kernel
theorem dX6_study_82 : decode cX6_study 82 = .ok (.aload_n 0, 1) := by decide +kernel
theorem dX6_study_83 : decode cX6_study 83 = .ok (.invokevirtual 149, 3) := by decide +kernel
theorem dX6_study_86 : decode cX6_study 86 = .ok (.ifCond .eq 15, 3) := by decide +kernel
theorem dX6_study_89 : decode cX6_study 89 = .ok (.aload_n 0, 1) := by decide +kernel
theorem dX6_study_90 : decode cX6_study 90 = .ok (.getfield 70, 3) := by decide +kernel
theorem dX6_study_93 : decode cX6_study 93 = .ok (.aload_n 0, 1) := by decide +kernel
theorem dX6_study_94 : decode cX6_study 94 = .ok (.getfield 143, 3) := by decide +kernel
theorem dX6_study_97 : decode cX6_study 97 = .ok (.iconst 1, 1) := by decide +kernel
theorem dX6_study_98 : decode cX6_study 98 = .ok (.isub, 1) := by decide +kernel
theorem dX6_study_99 : decode cX6_study 99 = .ok (.iload_n 2, 1) := by decide +kernel
theorem dX6_study_100 : decode cX6_study 100 = .ok (.iastore, 1) := by decide +kernel
theorem dX6_study_101 : decode cX6_study 101 = .ok (.iinc 2 1, 3) := by decide +kernel
theorem dX6_study_104 : decode cX6_study 104 = .ok (.goto (-97), 3) := by decide +kernel
theorem dX6_study_107 : decode cX6_study 107 = .ok (.return_, 1) := by decide +kernel
set_option maxRecDepth 20000 in
theorem ggX6_rankOf_X6_study : GoodIn wsX6_rankOf wsX6_study := goodIn_r _ [6, 1, 7, 8, 9, 10, 11, 12, 13, 14, 15, 5, 16, 17, 18, 19, 20, 21, 22, 23, 24, 25, 26, 27, 28, 29, 30, 31, 32, 33, 34, 35, 36, 37, 38, 39, 40, 41, 42, 43, 44, 45, 46, 47, 48, 49, 50, 51, 52, 53, 54, 55, 56, 57, 58, 59] (by decide +kernel) (by decide +kernel)
set_option maxRecDepth 20000 in
theorem gX6_rankOf_X6_study : GoodIn wsX6_rankOf (wsV RX6 153 RX6 yX6_study wsX6_study) := goodIn_app (goodIn_of _ (by decide +kernel)) ggX6_rankOf_X6_study
theorem dX6_rankOf_0 : decode cX6_rankOf 0 = .ok (.aload_n 0, 1) := by decide +kernel
theorem dX6_rankOf_1 : decode cX6_rankOf 1 = .ok (.iload_n 1, 1) := by decide +kernel
theorem dX6_rankOf_2 : decode cX6_rankOf 2 = .ok (.invokevirtual 153, 3) := by decide +kernel
theorem dX6_rankOf_5 : decode cX6_rankOf 5 = .ok (.aload_n 0, 1) := by decide +kernel
theorem dX6_rankOf_6 : decode cX6_rankOf 6 = .ok (.getfield 143, 3) := by decide +kernel
theorem dX6_rankOf_9 : decode cX6_rankOf 9 = .ok (.ireturn, 1) := by decide +kernel
set_option maxRecDepth 20000 in
theorem ggX6_solvesFor_X6_reduce : GoodIn wsX6_solvesFor wsX6_reduce := goodIn_r _ [7, 8, 1, 9, 10, 11, 12, 6, 13, 14, 15, 16, 17, 18, 19, 20, 21, 22, 23, 24, 25, 26, 27, 28, 29, 30, 31, 32, 33, 34, 35, 36, 37, 38, 39, 40, 41, 42, 43, 44] (by decide +kernel) (by decide +kernel)
set_option maxRecDepth 20000 in
theorem gX6_solvesFor_X6_reduce : GoodIn wsX6_solvesFor (wsV RX6 146 RX6 yX6_reduce wsX6_reduce) := goodIn_app (goodIn_of _ (by decide +kernel)) ggX6_solvesFor_X6_reduce
theorem dX6_solvesFor_0 : decode cX6_solvesFor 0 = .ok (.iconst 0, 1) := by decide +kernel
theorem dX6_solvesFor_1 : decode cX6_solvesFor 1 = .ok (.istore_n 2, 1) := by decide +kernel
theorem dX6_solvesFor_2 : decode cX6_solvesFor 2 = .ok (.iload_n 2, 1) := by decide +kernel
theorem dX6_solvesFor_3 : decode cX6_solvesFor 3 = .ok (.bipush 9, 2) := by decide +kernel
theorem dX6_solvesFor_5 : decode cX6_solvesFor 5 = .ok (.if_icmp .ge 25, 3) := by decide +kernel
theorem dX6_solvesFor_8 : decode cX6_solvesFor 8 = .ok (.aload_n 0, 1) := by decide +kernel
theorem dX6_solvesFor_9 : decode cX6_solvesFor 9 = .ok (.getfield 73, 3) := by decide +kernel
theorem dX6_solvesFor_12 : decode cX6_solvesFor 12 = .ok (.iload_n 2, 1) := by decide +kernel
theorem dX6_solvesFor_13 : decode cX6_solvesFor 13 = .ok (.iload_n 2, 1) := by decide +kernel
theorem dX6_solvesFor_14 : decode cX6_solvesFor 14 = .ok (.iload_n 1, 1) := by decide +kernel
theorem dX6_solvesFor_15 : decode cX6_solvesFor 15 = .ok (.if_icmp .ne 7, 3) := by decide +kernel
theorem dX6_solvesFor_18 : decode cX6_solvesFor 18 = .ok (.iconst 1, 1) := by decide +kernel
theorem dX6_solvesFor_19 : decode cX6_solvesFor 19 = .ok (.goto 4, 3) := by decide +kernel
theorem dX6_solvesFor_22 : decode cX6_solvesFor 22 = .ok (.iconst 0, 1) := by decide +kernel
theorem dX6_solvesFor_23 : decode cX6_solvesFor 23 = .ok (.iastore, 1) := by decide +kernel
theorem dX6_solvesFor_24 : decode cX6_solvesFor 24 = .ok (.iinc 2 1, 3) := by decide +kernel
theorem dX6_solvesFor_27 : decode cX6_solvesFor 27 = .ok (.goto (-25), 3) := by decide +kernel
theorem dX6_solvesFor_30 : decode cX6_solvesFor 30 = .ok (.aload_n 0, 1) := by decide +kernel
theorem dX6_solvesFor_31 : decode cX6_solvesFor 31 = .ok (.invokevirtual 146, 3) := by decide +kernel
theorem dX6_solvesFor_34 : decode cX6_solvesFor 34 = .ok (.iconst 0, 1) := by decide +kernel
theorem dX6_solvesFor_35 : decode cX6_solvesFor 35 = .ok (.istore_n 2, 1) := by decide +kernel
theorem dX6_solvesFor_36 : decode cX6_solvesFor 36 = .ok (.iload_n 2, 1) := by decide +kernel
theorem dX6_solvesFor_37 : decode cX6_solvesFor 37 = .ok (.aload_n 0, 1) := by decide +kernel
theorem dX6_solvesFor_38 : decode cX6_solvesFor 38 = .ok (.getfield 13, 3) := by decide +kernel
theorem dX6_solvesFor_41 : decode cX6_solvesFor 41 = .ok (.if_icmp .ge 20, 3) := by decide +kernel
theorem dX6_solvesFor_44 : decode cX6_solvesFor 44 = .ok (.aload_n 0, 1) := by decide +kernel
theorem dX6_solvesFor_45 : decode cX6_solvesFor 45 = .ok (.getfield 73, 3) := by decide +kernel
theorem dX6_solvesFor_48 : decode cX6_solvesFor 48 = .ok (.iload_n 2, 1) := by decide +kernel
theorem dX6_solvesFor_49 : decode cX6_solvesFor 49 = .ok (.iaload, 1) := by decide +kernel
theorem dX6_solvesFor_50 : decode cX6_solvesFor 50 = .ok (.ifCond .eq 5, 3) := by decide +kernel
theorem dX6_solvesFor_53 : decode cX6_solvesFor 53 = .ok (.iconst 0, 1) := by decide +kernel
theorem dX6_solvesFor_54 : decode cX6_solvesFor 54 = .ok (.ireturn, 1) := by decide +kernel
theorem dX6_solvesFor_55 : decode cX6_solvesFor 55 = .ok (.iinc 2 1, 3) := by decide +kernel
theorem dX6_solvesFor_58 : decode cX6_solvesFor 58 = .ok (.goto (-22), 3) := by decide +kernel
theorem dX6_solvesFor_61 : decode cX6_solvesFor 61 = .ok (.iconst 1, 1) := by decide +kernel
theorem dX6_solvesFor_62 : decode cX6_solvesFor 62 = .ok (.ireturn, 1) := by decide +kernel
set_option maxRecDepth 20000 in
theorem ggX6_rank_X6_isRelay : GoodIn wsX6_rank wsX6_isRelay := goodIn_r _ [5, 6, 7, 8, 4, 9, 73, 74, 75, 76, 77, 78, 79, 80, 81, 82, 83, 84, 85, 86, 87, 88, 89, 90, 91, 92, 93, 94, 95, 96, 97, 98, 99, 100, 101, 102, 103] (by decide +kernel) (by decide +kernel)
set_option maxRecDepth 20000 in
theorem gX6_rank_X6_isRelay : GoodIn wsX6_rank (wsV RX6 111 RX6 yX6_isRelay wsX6_isRelay) := goodIn_app (goodIn_of _ (by decide +kernel)) ggX6_rank_X6_isRelay
set_option maxRecDepth 20000 in
theorem ggX6_rank_X6_work : GoodIn wsX6_rank wsX6_work := goodIn_r _ [13, 6, 14, 15, 16, 17, 18, 4, 19, 20, 21, 22, 23, 24, 25, 26, 27, 28, 29, 30, 31, 32, 33, 34, 35, 36, 37, 38, 39, 40, 41, 42, 43, 44, 45, 46, 47, 48, 73, 74, 75, 76, 77, 78, 79, 80, 81, 82, 83, 84, 85, 86, 87, 88, 89, 90, 91, 92, 93, 94, 95, 96, 97, 98, 99, 100, 101, 102, 103] (by decide +kernel) (by decide +kernel)
set_option maxRecDepth 20000 in
theorem gX6_rank_X6_work : GoodIn wsX6_rank (wsV RX6 140 RX6 yX6_work wsX6_work) := goodIn_app (goodIn_of _ (by decide +kernel)) ggX6_rank_X6_work
set_option maxRecDepth 20000 in
theorem ggX6_rank_X6_rankOf : GoodIn wsX6_rank wsX6_rankOf := goodIn_r _ [52, 53, 54, 55, 56, 4, 57, 14, 37, 58, 27, 21, 59, 60, 61, 62, 63, 64, 65, 66, 67, 68, 69, 46, 47, 48, 70, 71, 72, 73, 74, 75, 76, 77, 78, 79, 80, 81, 82, 83, 84, 85, 86, 87, 88, 89, 90, 91, 92, 93, 94, 95, 96, 97, 98, 99, 100, 101, 102, 103] (by decide +kernel) (by decide +kernel)
set_option maxRecDepth 20000 in
theorem gX6_rank_X6_rankOf : GoodIn wsX6_rank (wsV RX6 156 RX6 yX6_rankOf wsX6_rankOf) := goodIn_app (goodIn_of _ (by decide +kernel)) ggX6_rank_X6_rankOf
theorem dX6_rank_0 : decode cX6_rank 0 = .ok (.aload_n 0, 1) := by decide +kernel
theorem dX6_rank_1 : decode cX6_rank 1 = .ok (.iload_n 1, 1) := by decide +kernel
theorem dX6_rank_2 : decode cX6_rank 2 = .ok (.invokevirtual 111, 3) := by decide +kernel
theorem dX6_rank_5 : decode cX6_rank 5 = .ok (.ifCond .ne 5, 3) := by decide +kernel
theorem dX6_rank_8 : decode cX6_rank 8 = .ok (.iconst (-1), 1) := by decide +kernel
theorem dX6_rank_9 : decode cX6_rank 9 = .ok (.ireturn, 1) := by decide +kernel
theorem dX6_rank_10 : decode cX6_rank 10 = .ok (.iload_n 1, 1) := by decide +kernel
theorem dX6_rank_11 : decode cX6_rank 11 = .ok (.ifCond .ne 6, 3) := by decide +kernel
theorem dX6_rank_14 : decode cX6_rank 14 = .ok (.bipush (-2), 2) := by decide +kernel
theorem dX6_rank_16 : decode cX6_rank 16 = .ok (.ireturn, 1) := by decide +kernel
theorem dX6_rank_17 : decode cX6_rank 17 = .ok (.aload_n 0, 1) := by decide +kernel
theorem dX6_rank_18 : decode cX6_rank 18 = .ok (.invokevirtual 140, 3) := by decide +kernel
theorem dX6_rank_21 : decode cX6_rank 21 = .ok (.aload_n 0, 1) := by decide +kernel
theorem dX6_rank_22 : decode cX6_rank 22 = .ok (.iload_n 1, 1) := by decide +kernel
theorem dX6_rank_23 : decode cX6_rank 23 = .ok (.invokevirtual 156, 3) := by decide +kernel
theorem dX6_rank_26 : decode cX6_rank 26 = .ok (.ireturn, 1) := by decide +kernel
set_option maxRecDepth 20000 in
theorem ggX6_fresh_X6_isRelay : GoodIn wsX6_fresh wsX6_isRelay := goodIn_r _ [6, 7, 8, 9, 5, 10, 73, 74, 75, 76, 77, 78, 79, 80, 81, 82, 83, 84, 85, 86, 87, 88, 89, 90, 91, 92, 93, 94, 95, 96, 97, 98, 99, 100, 101, 102, 103] (by decide +kernel) (by decide +kernel)
set_option maxRecDepth 20000 in
theorem gX6_fresh_X6_isRelay : GoodIn wsX6_fresh (wsV RX6 111 RX6 yX6_isRelay wsX6_isRelay) := goodIn_app (goodIn_of _ (by decide +kernel)) ggX6_fresh_X6_isRelay
set_option maxRecDepth 20000 in
theorem ggX6_fresh_X6_work : GoodIn wsX6_fresh wsX6_work := goodIn_r _ [14, 7, 15, 16, 17, 18, 19, 5, 20, 21, 22, 23, 24, 25, 26, 27, 28, 29, 30, 31, 32, 33, 34, 35, 36, 37, 38, 39, 40, 41, 42, 43, 44, 45, 46, 47, 48, 49, 73, 74, 75, 76, 77, 78, 79, 80, 81, 82, 83, 84, 85, 86, 87, 88, 89, 90, 91, 92, 93, 94, 95, 96, 97, 98, 99, 100, 101, 102, 103] (by decide +kernel) (by decide +kernel)
set_option maxRecDepth 20000 in
theorem gX6_fresh_X6_work : GoodIn wsX6_fresh (wsV RX6 140 RX6 yX6_work wsX6_work) := goodIn_app (goodIn_of _ (by decide +kernel)) ggX6_fresh_X6_work
set_option maxRecDepth 20000 in
theorem ggX6_fresh_X6_rankOf : GoodIn wsX6_fresh wsX6_rankOf := goodIn_r _ [53, 54, 55, 56, 57, 5, 58, 15, 38, 59, 28, 22, 1, 60, 61, 62, 63, 64, 65, 66, 67, 68, 69, 47, 48, 49, 70, 71, 72, 73, 74, 75, 76, 77, 78, 79, 80, 81, 82, 83, 84, 85, 86, 87, 88, 89, 90, 91, 92, 93, 94, 95, 96, 97, 98, 99, 100, 101, 102, 103] (by decide +kernel) (by decide +kernel)
set_option maxRecDepth 20000 in
theorem gX6_fresh_X6_rankOf : GoodIn wsX6_fresh (wsV RX6 156 RX6 yX6_rankOf wsX6_rankOf) := goodIn_app (goodIn_of _ (by decide +kernel)) ggX6_fresh_X6_rankOf
theorem dX6_fresh_0 : decode cX6_fresh 0 = .ok (.aload_n 0, 1) := by decide +kernel
theorem dX6_fresh_1 : decode cX6_fresh 1 = .ok (.iload_n 1, 1) := by decide +kernel
theorem dX6_fresh_2 : decode cX6_fresh 2 = .ok (.invokevirtual 111, 3) := by decide +kernel
theorem dX6_fresh_5 : decode cX6_fresh 5 = .ok (.ifCond .eq 7, 3) := by decide +kernel
theorem dX6_fresh_8 : decode cX6_fresh 8 = .ok (.iload_n 2, 1) := by decide +kernel
theorem dX6_fresh_9 : decode cX6_fresh 9 = .ok (.ifCond .ge 5, 3) := by decide +kernel
theorem dX6_fresh_12 : decode cX6_fresh 12 = .ok (.iconst (-1), 1) := by decide +kernel
theorem dX6_fresh_13 : decode cX6_fresh 13 = .ok (.ireturn, 1) := by decide +kernel
theorem dX6_fresh_14 : decode cX6_fresh 14 = .ok (.iload_n 1, 1) := by decide +kernel
theorem dX6_fresh_15 : decode cX6_fresh 15 = .ok (.ifCond .ne 6, 3) := by decide +kernel
theorem dX6_fresh_18 : decode cX6_fresh 18 = .ok (.bipush (-2), 2) := by decide +kernel
theorem dX6_fresh_20 : decode cX6_fresh 20 = .ok (.ireturn, 1) := by decide +kernel
theorem dX6_fresh_21 : decode cX6_fresh 21 = .ok (.aload_n 0, 1) := by decide +kernel
theorem dX6_fresh_22 : decode cX6_fresh 22 = .ok (.invokevirtual 140, 3) := by decide +kernel
theorem dX6_fresh_25 : decode cX6_fresh 25 = .ok (.iload_n 2, 1) := by decide +kernel
theorem dX6_fresh_26 : decode cX6_fresh 26 = .ok (.aload_n 0, 1) := by decide +kernel
theorem dX6_fresh_27 : decode cX6_fresh 27 = .ok (.iload_n 1, 1) := by decide +kernel
theorem dX6_fresh_28 : decode cX6_fresh 28 = .ok (.invokevirtual 156, 3) := by decide +kernel
theorem dX6_fresh_31 : decode cX6_fresh 31 = .ok (.if_icmp .ge 12, 3) := by decide +kernel
theorem dX6_fresh_34 : decode cX6_fresh 34 = .ok (.aload_n 0, 1) := by decide +kernel
theorem dX6_fresh_35 : decode cX6_fresh 35 = .ok (.getfield 70, 3) := by decide +kernel
theorem dX6_fresh_38 : decode cX6_fresh 38 = .ok (.iload_n 2, 1) := by decide +kernel
theorem dX6_fresh_39 : decode cX6_fresh 39 = .ok (.iaload, 1) := by decide +kernel
theorem dX6_fresh_40 : decode cX6_fresh 40 = .ok (.goto 4, 3) := by decide +kernel
theorem dX6_fresh_43 : decode cX6_fresh 43 = .ok (.iconst (-1), 1) := by decide +kernel
theorem dX6_fresh_44 : decode cX6_fresh 44 = .ok (.ireturn, 1) := by decide +kernel
set_option maxRecDepth 20000 in
theorem ggX6_solves_X6_isRelay : GoodIn wsX6_solves wsX6_isRelay := goodIn_r _ [6, 7, 8, 9, 5, 10, 73, 74, 75, 76, 77, 78, 79, 80, 81, 82, 83, 84, 85, 86, 87, 88, 89, 90, 91, 92, 93, 94, 95, 96, 97, 98, 99, 100, 101, 102, 103] (by decide +kernel) (by decide +kernel)
set_option maxRecDepth 20000 in
theorem gX6_solves_X6_isRelay : GoodIn wsX6_solves (wsV RX6 111 RX6 yX6_isRelay wsX6_isRelay) := goodIn_app (goodIn_of _ (by decide +kernel)) ggX6_solves_X6_isRelay
set_option maxRecDepth 20000 in
theorem ggX6_solves_X6_in : GoodIn wsX6_solves wsX6_in := goodIn_r _ [10] (by decide +kernel) (by decide +kernel)
set_option maxRecDepth 20000 in
theorem gX6_solves_X6_in : GoodIn wsX6_solves (va_wsS RX6 97 yX6_in wsX6_in) := goodIn_app (goodIn_of _ (by decide +kernel)) ggX6_solves_X6_in
set_option maxRecDepth 20000 in
theorem ggX6_solves_X6_work : GoodIn wsX6_solves wsX6_work := goodIn_r _ [14, 7, 15, 16, 17, 18, 19, 5, 20, 21, 22, 23, 24, 25, 26, 27, 1, 28, 29, 30, 31, 32, 33, 34, 35, 36, 37, 38, 39, 40, 41, 42, 43, 44, 45, 46, 47, 48, 73, 74, 75, 76, 77, 78, 79, 80, 81, 82, 83, 84, 85, 86, 87, 88, 89, 90, 91, 92, 93, 94, 95, 96, 97, 98, 99, 100, 101, 102, 103] (by decide +kernel) (by decide +kernel)
set_option maxRecDepth 20000 in
theorem gX6_solves_X6_work : GoodIn wsX6_solves (wsV RX6 140 RX6 yX6_work wsX6_work) := goodIn_app (goodIn_of _ (by decide +kernel)) ggX6_solves_X6_work
set_option maxRecDepth 20000 in
theorem ggX6_solves_X6_study : GoodIn wsX6_solves wsX6_study := goodIn_r _ [52, 53, 15, 37, 54, 1, 22, 55, 56, 57, 58, 5, 59, 60, 61, 62, 63, 64, 65, 46, 47, 48, 66, 67, 68, 73, 74, 75, 76, 77, 78, 79, 80, 81, 82, 83, 84, 85, 86, 87, 88, 89, 90, 91, 92, 93, 94, 95, 96, 97, 98, 99, 100, 101, 102, 103] (by decide +kernel) (by decide +kernel)
set_option maxRecDepth 20000 in
theorem gX6_solves_X6_study : GoodIn wsX6_solves (wsV RX6 153 RX6 yX6_study wsX6_study) := goodIn_app (goodIn_of _ (by decide +kernel)) ggX6_solves_X6_study
set_option maxRecDepth 20000 in
theorem ggX6_solves_X6_solvesFor : GoodIn wsX6_solves wsX6_solvesFor := goodIn_r _ [72, 54, 1, 62, 63, 64, 5, 65, 53, 61, 60, 46, 47, 48, 73, 74, 75, 76, 77, 78, 79, 80, 81, 82, 83, 84, 85, 86, 87, 88, 89, 90, 91, 92, 93, 94, 95, 96, 97, 98, 99, 100, 101, 102, 103] (by decide +kernel) (by decide +kernel)
set_option maxRecDepth 20000 in
theorem gX6_solves_X6_solvesFor : GoodIn wsX6_solves (wsV RX6 159 RX6 yX6_solvesFor wsX6_solvesFor) := goodIn_app (goodIn_of _ (by decide +kernel)) ggX6_solves_X6_solvesFor
theorem dX6_solves_0 : decode cX6_solves 0 = .ok (.aload_n 0, 1) := by decide +kernel
theorem dX6_solves_1 : decode cX6_solves 1 = .ok (.iload_n 1, 1) := by decide +kernel
theorem dX6_solves_2 : decode cX6_solves 2 = .ok (.invokevirtual 111, 3) := by decide +kernel
theorem dX6_solves_5 : decode cX6_solves 5 = .ok (.ifCond .eq 17, 3) := by decide +kernel
theorem dX6_solves_8 : decode cX6_solves 8 = .ok (.iload_n 2, 1) := by decide +kernel
theorem dX6_solves_9 : decode cX6_solves 9 = .ok (.iconst 0, 1) := by decide +kernel
theorem dX6_solves_10 : decode cX6_solves 10 = .ok (.aload_n 0, 1) := by decide +kernel
theorem dX6_solves_11 : decode cX6_solves 11 = .ok (.getfield 13, 3) := by decide +kernel
theorem dX6_solves_14 : decode cX6_solves 14 = .ok (.iconst 1, 1) := by decide +kernel
theorem dX6_solves_15 : decode cX6_solves 15 = .ok (.isub, 1) := by decide +kernel
theorem dX6_solves_16 : decode cX6_solves 16 = .ok (.invokestatic 97, 3) := by decide +kernel
theorem dX6_solves_19 : decode cX6_solves 19 = .ok (.ifCond .ne 5, 3) := by decide +kernel
theorem dX6_solves_22 : decode cX6_solves 22 = .ok (.iconst (-1), 1) := by decide +kernel
theorem dX6_solves_23 : decode cX6_solves 23 = .ok (.ireturn, 1) := by decide +kernel
theorem dX6_solves_24 : decode cX6_solves 24 = .ok (.iload_n 1, 1) := by decide +kernel
theorem dX6_solves_25 : decode cX6_solves 25 = .ok (.ifCond .ne 6, 3) := by decide +kernel
theorem dX6_solves_28 : decode cX6_solves 28 = .ok (.bipush (-2), 2) := by decide +kernel
theorem dX6_solves_30 : decode cX6_solves 30 = .ok (.ireturn, 1) := by decide +kernel
theorem dX6_solves_31 : decode cX6_solves 31 = .ok (.aload_n 0, 1) := by decide +kernel
theorem dX6_solves_32 : decode cX6_solves 32 = .ok (.invokevirtual 140, 3) := by decide +kernel
theorem dX6_solves_35 : decode cX6_solves 35 = .ok (.aload_n 0, 1) := by decide +kernel
theorem dX6_solves_36 : decode cX6_solves 36 = .ok (.iload_n 1, 1) := by decide +kernel
theorem dX6_solves_37 : decode cX6_solves 37 = .ok (.invokevirtual 153, 3) := by decide +kernel
theorem dX6_solves_40 : decode cX6_solves 40 = .ok (.aload_n 0, 1) := by decide +kernel
theorem dX6_solves_41 : decode cX6_solves 41 = .ok (.iload_n 2, 1) := by decide +kernel
theorem dX6_solves_42 : decode cX6_solves 42 = .ok (.invokevirtual 159, 3) := by decide +kernel
theorem dX6_solves_45 : decode cX6_solves 45 = .ok (.ifCond .eq 7, 3) := by decide +kernel
theorem dX6_solves_48 : decode cX6_solves 48 = .ok (.iconst 1, 1) := by decide +kernel
theorem dX6_solves_49 : decode cX6_solves 49 = .ok (.goto 4, 3) := by decide +kernel
theorem dX6_solves_52 : decode cX6_solves 52 = .ok (.iconst 0, 1) := by decide +kernel
theorem dX6_solves_53 : decode cX6_solves 53 = .ok (.ireturn, 1) := by decide +kernel
set_option maxRecDepth 20000 in
theorem ggX6_key_X6_isRelay : GoodIn wsX6_key wsX6_isRelay := goodIn_r _ [8, 9, 10, 11, 7, 12, 73, 74, 75, 76, 77, 78, 79, 80, 81, 82, 83, 84, 85, 86, 87, 88, 89, 90, 91, 92, 93, 94, 95, 96, 97, 98, 99, 100, 101, 102, 103] (by decide +kernel) (by decide +kernel)
