theorem dX9_isShelf_0 : decode cX9_isShelf 0 = .ok (.iload_n 0, 1) := by decide +kernel
theorem dX9_isShelf_1 : decode cX9_isShelf 1 = .ok (.ifCond .lt 13, 3) := by decide +kernel
theorem dX9_isShelf_4 : decode cX9_isShelf 4 = .ok (.iload_n 0, 1) := by decide +kernel
theorem dX9_isShelf_5 : decode cX9_isShelf 5 = .ok (.bipush 8, 2) := by decide +kernel
theorem dX9_isShelf_7 : decode cX9_isShelf 7 = .ok (.if_icmp .ge 7, 3) := by decide +kernel
theorem dX9_isShelf_10 : decode cX9_isShelf 10 = .ok (.iconst 1, 1) := by decide +kernel
theorem dX9_isShelf_11 : decode cX9_isShelf 11 = .ok (.goto 4, 3) := by decide +kernel
theorem dX9_isShelf_14 : decode cX9_isShelf 14 = .ok (.iconst 0, 1) := by decide +kernel
theorem dX9_isShelf_15 : decode cX9_isShelf 15 = .ok (.ireturn, 1) := by decide +kernel
set_option maxRecDepth 20000 in
theorem ggX9_canKeep_X9_isCell : GoodIn wsX9_canKeep wsX9_isCell := goodIn_r _ [6, 7, 13, 14, 15, 16, 17, 18, 19, 20, 21, 22, 23, 24, 25, 26, 27, 28, 29, 30, 31, 32, 33, 34, 35, 36, 37, 38, 39, 40, 41, 42, 43, 44, 45, 46, 47, 48, 49, 50, 51, 52, 53, 54, 55, 56, 57, 58, 59, 60, 61, 62, 63, 64] (by decide +kernel) (by decide +kernel)
set_option maxRecDepth 20000 in
theorem gX9_canKeep_X9_isCell : GoodIn wsX9_canKeep (wsV RX9 125 RX9 yX9_isCell wsX9_isCell) := goodIn_app (goodIn_of _ (by decide +kernel)) ggX9_canKeep_X9_isCell
set_option maxRecDepth 20000 in
theorem ggX9_canKeep_X9_isSheet : GoodIn wsX9_canKeep wsX9_isSheet := goodIn_r _ [11, 1, 12, 13, 14, 15, 16, 17, 18, 19, 20, 21, 22, 23, 24, 25, 26, 27, 28, 29, 30, 31, 32, 33, 34, 35, 36, 37, 38, 39, 40, 41, 42, 43, 44, 45, 46, 47, 48, 49, 50, 51, 52, 53, 54, 55, 56, 57, 58, 59, 60, 61, 62, 63, 64] (by decide +kernel) (by decide +kernel)
set_option maxRecDepth 20000 in
theorem gX9_canKeep_X9_isSheet : GoodIn wsX9_canKeep (wsV RX9 220 RX9 yX9_isSheet wsX9_isSheet) := goodIn_app (goodIn_of _ (by decide +kernel)) ggX9_canKeep_X9_isSheet
theorem dX9_canKeep_0 : decode cX9_canKeep 0 = .ok (.iload_n 1, 1) := by decide +kernel
theorem dX9_canKeep_1 : decode cX9_canKeep 1 = .ok (.tableswitch 58 0 3 #[31, 33, 58, 53], 31) := by decide +kernel
theorem dX9_canKeep_32 : decode cX9_canKeep 32 = .ok (.iconst 1, 1) := by decide +kernel
theorem dX9_canKeep_33 : decode cX9_canKeep 33 = .ok (.ireturn, 1) := by decide +kernel
theorem dX9_canKeep_34 : decode cX9_canKeep 34 = .ok (.iload_n 2, 1) := by decide +kernel
theorem dX9_canKeep_35 : decode cX9_canKeep 35 = .ok (.ifCond .lt 17, 3) := by decide +kernel
theorem dX9_canKeep_38 : decode cX9_canKeep 38 = .ok (.aload_n 0, 1) := by decide +kernel
theorem dX9_canKeep_39 : decode cX9_canKeep 39 = .ok (.iload_n 2, 1) := by decide +kernel
theorem dX9_canKeep_40 : decode cX9_canKeep 40 = .ok (.iconst 4, 1) := by decide +kernel
theorem dX9_canKeep_41 : decode cX9_canKeep 41 = .ok (.idiv, 1) := by decide +kernel
theorem dX9_canKeep_42 : decode cX9_canKeep 42 = .ok (.invokevirtual 125, 3) := by decide +kernel
theorem dX9_canKeep_45 : decode cX9_canKeep 45 = .ok (.ifCond .eq 7, 3) := by decide +kernel
theorem dX9_canKeep_48 : decode cX9_canKeep 48 = .ok (.iconst 1, 1) := by decide +kernel
theorem dX9_canKeep_49 : decode cX9_canKeep 49 = .ok (.goto 4, 3) := by decide +kernel
theorem dX9_canKeep_52 : decode cX9_canKeep 52 = .ok (.iconst 0, 1) := by decide +kernel
theorem dX9_canKeep_53 : decode cX9_canKeep 53 = .ok (.ireturn, 1) := by decide +kernel
theorem dX9_canKeep_54 : decode cX9_canKeep 54 = .ok (.aload_n 0, 1) := by decide +kernel
theorem dX9_canKeep_55 : decode cX9_canKeep 55 = .ok (.getfield 159, 3) := by decide +kernel
theorem dX9_canKeep_58 : decode cX9_canKeep 58 = .ok (.ireturn, 1) := by decide +kernel
theorem dX9_canKeep_59 : decode cX9_canKeep 59 = .ok (.iload_n 1, 1) := by decide +kernel
theorem dX9_canKeep_60 : decode cX9_canKeep 60 = .ok (.iconst 4, 1) := by decide +kernel
theorem dX9_canKeep_61 : decode cX9_canKeep 61 = .ok (.if_icmp .ne 15, 3) := by decide +kernel
theorem dX9_canKeep_64 : decode cX9_canKeep 64 = .ok (.aload_n 0, 1) := by decide +kernel
theorem dX9_canKeep_65 : decode cX9_canKeep 65 = .ok (.iload_n 2, 1) := by decide +kernel
theorem dX9_canKeep_66 : decode cX9_canKeep 66 = .ok (.invokevirtual 220, 3) := by decide +kernel
theorem dX9_canKeep_69 : decode cX9_canKeep 69 = .ok (.ifCond .eq 7, 3) := by decide +kernel
theorem dX9_canKeep_72 : decode cX9_canKeep 72 = .ok (.iconst 1, 1) := by decide +kernel
theorem dX9_canKeep_73 : decode cX9_canKeep 73 = .ok (.goto 4, 3) := by decide +kernel
theorem dX9_canKeep_76 : decode cX9_canKeep 76 = .ok (.iconst 0, 1) := by decide +kernel
theorem dX9_canKeep_77 : decode cX9_canKeep 77 = .ok (.ireturn, 1) := by decide +kernel
theorem dX9_weightOf_0 : decode cX9_weightOf 0 = .ok (.bipush 10, 2) := by decide +kernel
theorem dX9_weightOf_2 : decode cX9_weightOf 2 = .ok (.aload_n 0, 1) := by decide +kernel
theorem dX9_weightOf_3 : decode cX9_weightOf 3 = .ok (.getfield 20, 3) := by decide +kernel
theorem dX9_weightOf_6 : decode cX9_weightOf 6 = .ok (.iload_n 1, 1) := by decide +kernel
theorem dX9_weightOf_7 : decode cX9_weightOf 7 = .ok (.iaload, 1) := by decide +kernel
theorem dX9_weightOf_8 : decode cX9_weightOf 8 = .ok (.iadd, 1) := by decide +kernel
theorem dX9_weightOf_9 : decode cX9_weightOf 9 = .ok (.istore_n 2, 1) := by decide +kernel
theorem dX9_weightOf_10 : decode cX9_weightOf 10 = .ok (.aload_n 0, 1) := by decide +kernel
theorem dX9_weightOf_11 : decode cX9_weightOf 11 = .ok (.getfield 17, 3) := by decide +kernel
theorem dX9_weightOf_14 : decode cX9_weightOf 14 = .ok (.iload_n 1, 1) := by decide +kernel
theorem dX9_weightOf_15 : decode cX9_weightOf 15 = .ok (.iaload, 1) := by decide +kernel
theorem dX9_weightOf_16 : decode cX9_weightOf 16 = .ok (.tableswitch 66 0 5 #[40, 66, 42, 47, 53, 59], 40) := by decide +kernel
theorem dX9_weightOf_56 : decode cX9_weightOf 56 = .ok (.iconst 1, 1) := by decide +kernel
theorem dX9_weightOf_57 : decode cX9_weightOf 57 = .ok (.ireturn, 1) := by decide +kernel
theorem dX9_weightOf_58 : decode cX9_weightOf 58 = .ok (.iload_n 2, 1) := by decide +kernel
theorem dX9_weightOf_59 : decode cX9_weightOf 59 = .ok (.bipush 100, 2) := by decide +kernel
theorem dX9_weightOf_61 : decode cX9_weightOf 61 = .ok (.iadd, 1) := by decide +kernel
theorem dX9_weightOf_62 : decode cX9_weightOf 62 = .ok (.ireturn, 1) := by decide +kernel
theorem dX9_weightOf_63 : decode cX9_weightOf 63 = .ok (.iload_n 2, 1) := by decide +kernel
theorem dX9_weightOf_64 : decode cX9_weightOf 64 = .ok (.sipush 1000, 3) := by decide +kernel
theorem dX9_weightOf_67 : decode cX9_weightOf 67 = .ok (.iadd, 1) := by decide +kernel
theorem dX9_weightOf_68 : decode cX9_weightOf 68 = .ok (.ireturn, 1) := by decide +kernel
theorem dX9_weightOf_69 : decode cX9_weightOf 69 = .ok (.iload_n 2, 1) := by decide +kernel
theorem dX9_weightOf_70 : decode cX9_weightOf 70 = .ok (.sipush 2000, 3) := by decide +kernel
theorem dX9_weightOf_73 : decode cX9_weightOf 73 = .ok (.iadd, 1) := by decide +kernel
theorem dX9_weightOf_74 : decode cX9_weightOf 74 = .ok (.ireturn, 1) := by decide +kernel
theorem dX9_weightOf_75 : decode cX9_weightOf 75 = .ok (.iconst 2, 1) := by decide +kernel
theorem dX9_weightOf_76 : decode cX9_weightOf 76 = .ok (.iload_n 2, 1) := by decide +kernel
theorem dX9_weightOf_77 : decode cX9_weightOf 77 = .ok (.bipush 100, 2) := by decide +kernel
theorem dX9_weightOf_79 : decode cX9_weightOf 79 = .ok (.iadd, 1) := by decide +kernel
theorem dX9_weightOf_80 : decode cX9_weightOf 80 = .ok (.imul, 1) := by decide +kernel
theorem dX9_weightOf_81 : decode cX9_weightOf 81 = .ok (.ireturn, 1) := by decide +kernel
theorem dX9_weightOf_82 : decode cX9_weightOf 82 = .ok (.iload_n 2, 1) := by decide +kernel
theorem dX9_weightOf_83 : decode cX9_weightOf 83 = .ok (.ireturn, 1) := by decide +kernel
set_option maxRecDepth 20000 in
theorem ggX9_keep_X9_isShelf : GoodIn wsX9_keep wsX9_isShelf := goodIn_r _ [16] (by decide +kernel) (by decide +kernel)
set_option maxRecDepth 20000 in
theorem gX9_keep_X9_isShelf : GoodIn wsX9_keep (va_wsS RX9 258 yX9_isShelf wsX9_isShelf) := goodIn_app (goodIn_of _ (by decide +kernel)) ggX9_keep_X9_isShelf
set_option maxRecDepth 20000 in
theorem ggX9_keep_X9_canKeep : GoodIn wsX9_keep wsX9_canKeep := goodIn_r _ [20, 21, 22, 23, 24, 15, 25, 26, 27, 28, 29, 30, 31, 36, 37, 38, 39, 40, 41, 42, 43, 44, 45, 46, 47, 48, 49, 50, 51, 52, 53, 54, 55, 56, 57, 58, 59, 60, 61, 62, 63, 64, 65, 66, 67, 68, 69, 70, 71, 72, 73, 74, 75, 76, 77, 78, 79, 80, 81, 82, 83, 84, 85, 86, 87] (by decide +kernel) (by decide +kernel)
set_option maxRecDepth 20000 in
theorem gX9_keep_X9_canKeep : GoodIn wsX9_keep (wsV RX9 261 RX9 yX9_canKeep wsX9_canKeep) := goodIn_app (goodIn_of _ (by decide +kernel)) ggX9_keep_X9_canKeep
set_option maxRecDepth 20000 in
theorem ggX9_keep_X9_weightOf : GoodIn wsX9_keep wsX9_weightOf := goodIn_r _ [35, 9, 8, 36, 37, 38, 39, 40, 41, 42, 43, 44, 45, 46, 47, 48, 49, 50, 51, 52, 53, 54, 55, 56, 57, 58, 59, 60, 61, 62, 63, 64, 65, 66, 67, 68, 69, 70, 71, 72, 73, 74, 75, 76, 77, 78, 79, 80, 81, 82, 83, 84, 85, 86, 87] (by decide +kernel) (by decide +kernel)
set_option maxRecDepth 20000 in
theorem gX9_keep_X9_weightOf : GoodIn wsX9_keep (wsV RX9 264 RX9 yX9_weightOf wsX9_weightOf) := goodIn_app (goodIn_of _ (by decide +kernel)) ggX9_keep_X9_weightOf
theorem dX9_keep_0 : decode cX9_keep 0 = .ok (.aload_n 0, 1) := by decide +kernel
theorem dX9_keep_1 : decode cX9_keep 1 = .ok (.iconst 0, 1) := by decide +kernel
theorem dX9_keep_2 : decode cX9_keep 2 = .ok (.putfield 112, 3) := by decide +kernel
theorem dX9_keep_5 : decode cX9_keep 5 = .ok (.iload_n 1, 1) := by decide +kernel
theorem dX9_keep_6 : decode cX9_keep 6 = .ok (.invokestatic 258, 3) := by decide +kernel
theorem dX9_keep_9 : decode cX9_keep 9 = .ok (.ifCond .eq 12, 3) := by decide +kernel
theorem dX9_keep_12 : decode cX9_keep 12 = .ok (.aload_n 0, 1) := by decide +kernel
theorem dX9_keep_13 : decode cX9_keep 13 = .ok (.iload_n 2, 1) := by decide +kernel
theorem dX9_keep_14 : decode cX9_keep 14 = .ok (.iload_n 3, 1) := by decide +kernel
theorem dX9_keep_15 : decode cX9_keep 15 = .ok (.invokevirtual 261, 3) := by decide +kernel
theorem dX9_keep_18 : decode cX9_keep 18 = .ok (.ifCond .ne 5, 3) := by decide +kernel
theorem dX9_keep_21 : decode cX9_keep 21 = .ok (.iconst (-1), 1) := by decide +kernel
theorem dX9_keep_22 : decode cX9_keep 22 = .ok (.ireturn, 1) := by decide +kernel
theorem dX9_keep_23 : decode cX9_keep 23 = .ok (.aload_n 0, 1) := by decide +kernel
theorem dX9_keep_24 : decode cX9_keep 24 = .ok (.getfield 93, 3) := by decide +kernel
theorem dX9_keep_27 : decode cX9_keep 27 = .ok (.iload_n 1, 1) := by decide +kernel
theorem dX9_keep_28 : decode cX9_keep 28 = .ok (.iload_n 2, 1) := by decide +kernel
theorem dX9_keep_29 : decode cX9_keep 29 = .ok (.iastore, 1) := by decide +kernel
theorem dX9_keep_30 : decode cX9_keep 30 = .ok (.aload_n 0, 1) := by decide +kernel
theorem dX9_keep_31 : decode cX9_keep 31 = .ok (.getfield 96, 3) := by decide +kernel
theorem dX9_keep_34 : decode cX9_keep 34 = .ok (.iload_n 1, 1) := by decide +kernel
theorem dX9_keep_35 : decode cX9_keep 35 = .ok (.iload_n 2, 1) := by decide +kernel
theorem dX9_keep_36 : decode cX9_keep 36 = .ok (.iconst 3, 1) := by decide +kernel
theorem dX9_keep_37 : decode cX9_keep 37 = .ok (.if_icmp .ne 24, 3) := by decide +kernel
theorem dX9_keep_40 : decode cX9_keep 40 = .ok (.aload_n 0, 1) := by decide +kernel
theorem dX9_keep_41 : decode cX9_keep 41 = .ok (.getfield 168, 3) := by decide +kernel
theorem dX9_keep_44 : decode cX9_keep 44 = .ok (.bipush 60, 2) := by decide +kernel
theorem dX9_keep_46 : decode cX9_keep 46 = .ok (.if_icmp .ge 10, 3) := by decide +kernel
theorem dX9_keep_49 : decode cX9_keep 49 = .ok (.aload_n 0, 1) := by decide +kernel
theorem dX9_keep_50 : decode cX9_keep 50 = .ok (.getfield 168, 3) := by decide +kernel
theorem dX9_keep_53 : decode cX9_keep 53 = .ok (.goto 23, 3) := by decide +kernel
theorem dX9_keep_56 : decode cX9_keep 56 = .ok (.bipush 60, 2) := by decide +kernel
theorem dX9_keep_58 : decode cX9_keep 58 = .ok (.goto 18, 3) := by decide +kernel
theorem dX9_keep_61 : decode cX9_keep 61 = .ok (.iload_n 2, 1) := by decide +kernel
theorem dX9_keep_62 : decode cX9_keep 62 = .ok (.iconst 4, 1) := by decide +kernel
theorem dX9_keep_63 : decode cX9_keep 63 = .ok (.if_icmp .ne 12, 3) := by decide +kernel
theorem dX9_keep_66 : decode cX9_keep 66 = .ok (.aload_n 0, 1) := by decide +kernel
theorem dX9_keep_67 : decode cX9_keep 67 = .ok (.getfield 35, 3) := by decide +kernel
theorem dX9_keep_70 : decode cX9_keep 70 = .ok (.iload_n 3, 1) := by decide +kernel
theorem dX9_keep_71 : decode cX9_keep 71 = .ok (.iaload, 1) := by decide +kernel
theorem dX9_keep_72 : decode cX9_keep 72 = .ok (.goto 4, 3) := by decide +kernel
theorem dX9_keep_75 : decode cX9_keep 75 = .ok (.iconst 0, 1) := by decide +kernel
theorem dX9_keep_76 : decode cX9_keep 76 = .ok (.iastore, 1) := by decide +kernel
theorem dX9_keep_77 : decode cX9_keep 77 = .ok (.iload_n 2, 1) := by decide +kernel
theorem dX9_keep_78 : decode cX9_keep 78 = .ok (.iconst 1, 1) := by decide +kernel
theorem dX9_keep_79 : decode cX9_keep 79 = .ok (.if_icmp .ne 40, 3) := by decide +kernel
theorem dX9_keep_82 : decode cX9_keep 82 = .ok (.aload_n 0, 1) := by decide +kernel
theorem dX9_keep_83 : decode cX9_keep 83 = .ok (.getfield 99, 3) := by decide +kernel
theorem dX9_keep_86 : decode cX9_keep 86 = .ok (.iload_n 1, 1) := by decide +kernel
theorem dX9_keep_87 : decode cX9_keep 87 = .ok (.aload_n 0, 1) := by decide +kernel
theorem dX9_keep_88 : decode cX9_keep 88 = .ok (.iload_n 3, 1) := by decide +kernel
theorem dX9_keep_89 : decode cX9_keep 89 = .ok (.invokevirtual 264, 3) := by decide +kernel
theorem dX9_keep_92 : decode cX9_keep 92 = .ok (.iastore, 1) := by decide +kernel
theorem dX9_keep_93 : decode cX9_keep 93 = .ok (.aload_n 0, 1) := by decide +kernel
theorem dX9_keep_94 : decode cX9_keep 94 = .ok (.getfield 102, 3) := by decide +kernel
theorem dX9_keep_97 : decode cX9_keep 97 = .ok (.iload_n 1, 1) := by decide +kernel
theorem dX9_keep_98 : decode cX9_keep 98 = .ok (.aload_n 0, 1) := by decide +kernel
theorem dX9_keep_99 : decode cX9_keep 99 = .ok (.getfield 17, 3) := by decide +kernel
theorem dX9_keep_102 : decode cX9_keep 102 = .ok (.iload_n 3, 1) := by decide +kernel
theorem dX9_keep_103 : decode cX9_keep 103 = .ok (.iaload, 1) := by decide +kernel
theorem dX9_keep_104 : decode cX9_keep 104 = .ok (.ifCond .ne 8, 3) := by decide +kernel
theorem dX9_keep_107 : decode cX9_keep 107 = .ok (.bipush (-15), 2) := by decide +kernel
theorem dX9_keep_109 : decode cX9_keep 109 = .ok (.goto 9, 3) := by decide +kernel
theorem dX9_keep_112 : decode cX9_keep 112 = .ok (.aload_n 0, 1) := by decide +kernel
theorem dX9_keep_113 : decode cX9_keep 113 = .ok (.getfield 20, 3) := by decide +kernel
theorem dX9_keep_116 : decode cX9_keep 116 = .ok (.iload_n 3, 1) := by decide +kernel
theorem dX9_keep_117 : decode cX9_keep 117 = .ok (.iaload, 1) := by decide +kernel
theorem dX9_keep_118 : decode cX9_keep 118 = .ok (.iastore, 1) := by decide +kernel
theorem dX9_keep_119 : decode cX9_keep 119 = .ok (.iconst 0, 1) := by decide +kernel
theorem dX9_keep_120 : decode cX9_keep 120 = .ok (.istore 4, 2) := by decide +kernel
theorem dX9_keep_122 : decode cX9_keep 122 = .ok (.iload 4, 2) := by decide +kernel
theorem dX9_keep_124 : decode cX9_keep 124 = .ok (.aload_n 0, 1) := by decide +kernel
theorem dX9_keep_125 : decode cX9_keep 125 = .ok (.getfield 96, 3) := by decide +kernel
theorem dX9_keep_128 : decode cX9_keep 128 = .ok (.iload_n 1, 1) := by decide +kernel
theorem dX9_keep_129 : decode cX9_keep 129 = .ok (.iaload, 1) := by decide +kernel
theorem dX9_keep_130 : decode cX9_keep 130 = .ok (.if_icmp .ge 62, 3) := by decide +kernel
theorem dX9_keep_133 : decode cX9_keep 133 = .ok (.aload_n 0, 1) := by decide +kernel
theorem dX9_keep_134 : decode cX9_keep 134 = .ok (.getfield 105, 3) := by decide +kernel
theorem dX9_keep_137 : decode cX9_keep 137 = .ok (.bipush 60, 2) := by decide +kernel
theorem dX9_keep_139 : decode cX9_keep 139 = .ok (.iload_n 1, 1) := by decide +kernel
theorem dX9_keep_140 : decode cX9_keep 140 = .ok (.imul, 1) := by decide +kernel
theorem dX9_keep_141 : decode cX9_keep 141 = .ok (.iload 4, 2) := by decide +kernel
theorem dX9_keep_143 : decode cX9_keep 143 = .ok (.iadd, 1) := by decide +kernel
theorem dX9_keep_144 : decode cX9_keep 144 = .ok (.iload_n 2, 1) := by decide +kernel
theorem dX9_keep_145 : decode cX9_keep 145 = .ok (.iconst 3, 1) := by decide +kernel
theorem dX9_keep_146 : decode cX9_keep 146 = .ok (.if_icmp .ne 26, 3) := by decide +kernel
theorem dX9_keep_149 : decode cX9_keep 149 = .ok (.aload_n 0, 1) := by decide +kernel
theorem dX9_keep_150 : decode cX9_keep 150 = .ok (.getfield 23, 3) := by decide +kernel
theorem dX9_keep_153 : decode cX9_keep 153 = .ok (.aload_n 0, 1) := by decide +kernel
theorem dX9_keep_154 : decode cX9_keep 154 = .ok (.getfield 168, 3) := by decide +kernel
theorem dX9_keep_157 : decode cX9_keep 157 = .ok (.aload_n 0, 1) := by decide +kernel
theorem dX9_keep_158 : decode cX9_keep 158 = .ok (.getfield 96, 3) := by decide +kernel
theorem dX9_keep_161 : decode cX9_keep 161 = .ok (.iload_n 1, 1) := by decide +kernel
theorem dX9_keep_162 : decode cX9_keep 162 = .ok (.iaload, 1) := by decide +kernel
theorem dX9_keep_163 : decode cX9_keep 163 = .ok (.isub, 1) := by decide +kernel
theorem dX9_keep_164 : decode cX9_keep 164 = .ok (.iload 4, 2) := by decide +kernel
theorem dX9_keep_166 : decode cX9_keep 166 = .ok (.iadd, 1) := by decide +kernel
theorem dX9_keep_167 : decode cX9_keep 167 = .ok (.iaload, 1) := by decide +kernel
theorem dX9_keep_168 : decode cX9_keep 168 = .ok (.i2l, 1) := by decide +kernel
theorem dX9_keep_169 : decode cX9_keep 169 = .ok (.goto 16, 3) := by decide +kernel
theorem dX9_keep_172 : decode cX9_keep 172 = .ok (.aload_n 0, 1) := by decide +kernel
theorem dX9_keep_173 : decode cX9_keep 173 = .ok (.getfield 38, 3) := by decide +kernel
theorem dX9_keep_176 : decode cX9_keep 176 = .ok (.bipush 6, 2) := by decide +kernel
theorem dX9_keep_178 : decode cX9_keep 178 = .ok (.iload_n 3, 1) := by decide +kernel
theorem dX9_keep_179 : decode cX9_keep 179 = .ok (.imul, 1) := by decide +kernel
theorem dX9_keep_180 : decode cX9_keep 180 = .ok (.iload 4, 2) := by decide +kernel
theorem dX9_keep_182 : decode cX9_keep 182 = .ok (.iadd, 1) := by decide +kernel
theorem dX9_keep_183 : decode cX9_keep 183 = .ok (.iaload, 1) := by decide +kernel
theorem dX9_keep_184 : decode cX9_keep 184 = .ok (.i2l, 1) := by decide +kernel
theorem dX9_keep_185 : decode cX9_keep 185 = .ok (.lastore, 1) := by decide +kernel
theorem dX9_keep_186 : decode cX9_keep 186 = .ok (.iinc 4 1, 3) := by decide +kernel
theorem dX9_keep_189 : decode cX9_keep 189 = .ok (.goto (-67), 3) := by decide +kernel
theorem dX9_keep_192 : decode cX9_keep 192 = .ok (.iconst 0, 1) := by decide +kernel
theorem dX9_keep_193 : decode cX9_keep 193 = .ok (.ireturn, 1) := by decide +kernel
set_option maxRecDepth 20000 in
theorem ggX9_make_X9_isShelf : GoodIn wsX9_make wsX9_isShelf := goodIn_r _ [10] (by decide +kernel) (by decide +kernel)
set_option maxRecDepth 20000 in
theorem gX9_make_X9_isShelf : GoodIn wsX9_make (va_wsS RX9 258 yX9_isShelf wsX9_isShelf) := goodIn_app (goodIn_of _ (by decide +kernel)) ggX9_make_X9_isShelf
set_option maxRecDepth 20000 in
theorem ggX9_make_X9_isIn : GoodIn wsX9_make wsX9_isIn := goodIn_r _ [13] (by decide +kernel) (by decide +kernel)
set_option maxRecDepth 20000 in
theorem gX9_make_X9_isIn : GoodIn wsX9_make (va_wsS RX9 121 yX9_isIn wsX9_isIn) := goodIn_app (goodIn_of _ (by decide +kernel)) ggX9_make_X9_isIn
theorem dX9_make_0 : decode cX9_make 0 = .ok (.aload_n 0, 1) := by decide +kernel
theorem dX9_make_1 : decode cX9_make 1 = .ok (.iconst 0, 1) := by decide +kernel
theorem dX9_make_2 : decode cX9_make 2 = .ok (.putfield 112, 3) := by decide +kernel
theorem dX9_make_5 : decode cX9_make 5 = .ok (.iload_n 1, 1) := by decide +kernel
theorem dX9_make_6 : decode cX9_make 6 = .ok (.invokestatic 258, 3) := by decide +kernel
theorem dX9_make_9 : decode cX9_make 9 = .ok (.ifCond .eq 23, 3) := by decide +kernel
theorem dX9_make_12 : decode cX9_make 12 = .ok (.iload_n 2, 1) := by decide +kernel
theorem dX9_make_13 : decode cX9_make 13 = .ok (.i2l, 1) := by decide +kernel
theorem dX9_make_14 : decode cX9_make 14 = .ok (.ldc2_w 119, 3) := by decide +kernel
theorem dX9_make_17 : decode cX9_make 17 = .ok (.ldc2_w 226, 3) := by decide +kernel
theorem dX9_make_20 : decode cX9_make 20 = .ok (.invokestatic 121, 3) := by decide +kernel
theorem dX9_make_23 : decode cX9_make 23 = .ok (.ifCond .eq 9, 3) := by decide +kernel
theorem dX9_make_26 : decode cX9_make 26 = .ok (.iload_n 3, 1) := by decide +kernel
theorem dX9_make_27 : decode cX9_make 27 = .ok (.bipush 60, 2) := by decide +kernel
theorem dX9_make_29 : decode cX9_make 29 = .ok (.if_icmp .le 5, 3) := by decide +kernel
theorem dX9_make_32 : decode cX9_make 32 = .ok (.iconst (-1), 1) := by decide +kernel
theorem dX9_make_33 : decode cX9_make 33 = .ok (.ireturn, 1) := by decide +kernel
theorem dX9_make_34 : decode cX9_make 34 = .ok (.iload_n 3, 1) := by decide +kernel
theorem dX9_make_35 : decode cX9_make 35 = .ok (.ifCond .ge 6, 3) := by decide +kernel
theorem dX9_make_38 : decode cX9_make 38 = .ok (.bipush (-14), 2) := by decide +kernel
theorem dX9_make_40 : decode cX9_make 40 = .ok (.ireturn, 1) := by decide +kernel
theorem dX9_make_41 : decode cX9_make 41 = .ok (.aload_n 0, 1) := by decide +kernel
theorem dX9_make_42 : decode cX9_make 42 = .ok (.getfield 93, 3) := by decide +kernel
theorem dX9_make_45 : decode cX9_make 45 = .ok (.iload_n 1, 1) := by decide +kernel
theorem dX9_make_46 : decode cX9_make 46 = .ok (.iload_n 2, 1) := by decide +kernel
theorem dX9_make_47 : decode cX9_make 47 = .ok (.iastore, 1) := by decide +kernel
theorem dX9_make_48 : decode cX9_make 48 = .ok (.aload_n 0, 1) := by decide +kernel
theorem dX9_make_49 : decode cX9_make 49 = .ok (.getfield 96, 3) := by decide +kernel
theorem dX9_make_52 : decode cX9_make 52 = .ok (.iload_n 1, 1) := by decide +kernel
theorem dX9_make_53 : decode cX9_make 53 = .ok (.iload_n 3, 1) := by decide +kernel
theorem dX9_make_54 : decode cX9_make 54 = .ok (.iastore, 1) := by decide +kernel
theorem dX9_make_55 : decode cX9_make 55 = .ok (.iconst 0, 1) := by decide +kernel
theorem dX9_make_56 : decode cX9_make 56 = .ok (.istore 4, 2) := by decide +kernel
theorem dX9_make_58 : decode cX9_make 58 = .ok (.iload 4, 2) := by decide +kernel
theorem dX9_make_60 : decode cX9_make 60 = .ok (.iload_n 3, 1) := by decide +kernel
theorem dX9_make_61 : decode cX9_make 61 = .ok (.if_icmp .ge 22, 3) := by decide +kernel
theorem dX9_make_64 : decode cX9_make 64 = .ok (.aload_n 0, 1) := by decide +kernel
theorem dX9_make_65 : decode cX9_make 65 = .ok (.getfield 105, 3) := by decide +kernel
theorem dX9_make_68 : decode cX9_make 68 = .ok (.bipush 60, 2) := by decide +kernel
theorem dX9_make_70 : decode cX9_make 70 = .ok (.iload_n 1, 1) := by decide +kernel
theorem dX9_make_71 : decode cX9_make 71 = .ok (.imul, 1) := by decide +kernel
theorem dX9_make_72 : decode cX9_make 72 = .ok (.iload 4, 2) := by decide +kernel
theorem dX9_make_74 : decode cX9_make 74 = .ok (.iadd, 1) := by decide +kernel
theorem dX9_make_75 : decode cX9_make 75 = .ok (.lconst 0, 1) := by decide +kernel
theorem dX9_make_76 : decode cX9_make 76 = .ok (.lastore, 1) := by decide +kernel
theorem dX9_make_77 : decode cX9_make 77 = .ok (.iinc 4 1, 3) := by decide +kernel
theorem dX9_make_80 : decode cX9_make 80 = .ok (.goto (-22), 3) := by decide +kernel
theorem dX9_make_83 : decode cX9_make 83 = .ok (.iconst 0, 1) := by decide +kernel
theorem dX9_make_84 : decode cX9_make 84 = .ok (.ireturn, 1) := by decide +kernel
set_option maxRecDepth 20000 in
theorem ggX9_element_X9_isShelf : GoodIn wsX9_element wsX9_isShelf := goodIn_r _ [8] (by decide +kernel) (by decide +kernel)
set_option maxRecDepth 20000 in
theorem gX9_element_X9_isShelf : GoodIn wsX9_element (va_wsS RX9 258 yX9_isShelf wsX9_isShelf) := goodIn_app (goodIn_of _ (by decide +kernel)) ggX9_element_X9_isShelf
set_option maxRecDepth 20000 in
theorem ggX9_element_X9_isIn : GoodIn wsX9_element wsX9_isIn := goodIn_r _ [11] (by decide +kernel) (by decide +kernel)
set_option maxRecDepth 20000 in
theorem gX9_element_X9_isIn : GoodIn wsX9_element (va_wsS RX9 121 yX9_isIn wsX9_isIn) := goodIn_app (goodIn_of _ (by decide +kernel)) ggX9_element_X9_isIn
theorem dX9_element_0 : decode cX9_element 0 = .ok (.iload_n 1, 1) := by decide +kernel
theorem dX9_element_1 : decode cX9_element 1 = .ok (.invokestatic 258, 3) := by decide +kernel
theorem dX9_element_4 : decode cX9_element 4 = .ok (.ifCond .eq 35, 3) := by decide +kernel
theorem dX9_element_7 : decode cX9_element 7 = .ok (.aload_n 0, 1) := by decide +kernel
theorem dX9_element_8 : decode cX9_element 8 = .ok (.getfield 93, 3) := by decide +kernel
theorem dX9_element_11 : decode cX9_element 11 = .ok (.iload_n 1, 1) := by decide +kernel
theorem dX9_element_12 : decode cX9_element 12 = .ok (.iaload, 1) := by decide +kernel
theorem dX9_element_13 : decode cX9_element 13 = .ok (.iconst 2, 1) := by decide +kernel
theorem dX9_element_14 : decode cX9_element 14 = .ok (.if_icmp .le 25, 3) := by decide +kernel
theorem dX9_element_17 : decode cX9_element 17 = .ok (.iload_n 2, 1) := by decide +kernel
theorem dX9_element_18 : decode cX9_element 18 = .ok (.i2l, 1) := by decide +kernel
theorem dX9_element_19 : decode cX9_element 19 = .ok (.lconst 0, 1) := by decide +kernel
theorem dX9_element_20 : decode cX9_element 20 = .ok (.aload_n 0, 1) := by decide +kernel
theorem dX9_element_21 : decode cX9_element 21 = .ok (.getfield 96, 3) := by decide +kernel
theorem dX9_element_24 : decode cX9_element 24 = .ok (.iload_n 1, 1) := by decide +kernel
theorem dX9_element_25 : decode cX9_element 25 = .ok (.iaload, 1) := by decide +kernel
theorem dX9_element_26 : decode cX9_element 26 = .ok (.iconst 1, 1) := by decide +kernel
theorem dX9_element_27 : decode cX9_element 27 = .ok (.isub, 1) := by decide +kernel
theorem dX9_element_28 : decode cX9_element 28 = .ok (.i2l, 1) := by decide +kernel
theorem dX9_element_29 : decode cX9_element 29 = .ok (.invokestatic 121, 3) := by decide +kernel
theorem dX9_element_32 : decode cX9_element 32 = .ok (.ifCond .eq 7, 3) := by decide +kernel
theorem dX9_element_35 : decode cX9_element 35 = .ok (.iconst 1, 1) := by decide +kernel
theorem dX9_element_36 : decode cX9_element 36 = .ok (.goto 4, 3) := by decide +kernel
theorem dX9_element_39 : decode cX9_element 39 = .ok (.iconst 0, 1) := by decide +kernel
theorem dX9_element_40 : decode cX9_element 40 = .ok (.istore_n 3, 1) := by decide +kernel
theorem dX9_element_41 : decode cX9_element 41 = .ok (.aload_n 0, 1) := by decide +kernel
theorem dX9_element_42 : decode cX9_element 42 = .ok (.iload_n 1, 1) := by decide +kernel
theorem dX9_element_43 : decode cX9_element 43 = .ok (.invokestatic 258, 3) := by decide +kernel
theorem dX9_element_46 : decode cX9_element 46 = .ok (.ifCond .ne 7, 3) := by decide +kernel
theorem dX9_element_49 : decode cX9_element 49 = .ok (.iconst 1, 1) := by decide +kernel
theorem dX9_element_50 : decode cX9_element 50 = .ok (.goto 12, 3) := by decide +kernel
theorem dX9_element_53 : decode cX9_element 53 = .ok (.iload_n 3, 1) := by decide +kernel
theorem dX9_element_54 : decode cX9_element 54 = .ok (.ifCond .eq 7, 3) := by decide +kernel
theorem dX9_element_57 : decode cX9_element 57 = .ok (.iconst 0, 1) := by decide +kernel
theorem dX9_element_58 : decode cX9_element 58 = .ok (.goto 4, 3) := by decide +kernel
theorem dX9_element_61 : decode cX9_element 61 = .ok (.iconst 2, 1) := by decide +kernel
theorem dX9_element_62 : decode cX9_element 62 = .ok (.putfield 112, 3) := by decide +kernel
theorem dX9_element_65 : decode cX9_element 65 = .ok (.iload_n 3, 1) := by decide +kernel
theorem dX9_element_66 : decode cX9_element 66 = .ok (.ifCond .eq 17, 3) := by decide +kernel
theorem dX9_element_69 : decode cX9_element 69 = .ok (.aload_n 0, 1) := by decide +kernel
theorem dX9_element_70 : decode cX9_element 70 = .ok (.getfield 105, 3) := by decide +kernel
theorem dX9_element_73 : decode cX9_element 73 = .ok (.bipush 60, 2) := by decide +kernel
theorem dX9_element_75 : decode cX9_element 75 = .ok (.iload_n 1, 1) := by decide +kernel
theorem dX9_element_76 : decode cX9_element 76 = .ok (.imul, 1) := by decide +kernel
theorem dX9_element_77 : decode cX9_element 77 = .ok (.iload_n 2, 1) := by decide +kernel
theorem dX9_element_78 : decode cX9_element 78 = .ok (.iadd, 1) := by decide +kernel
theorem dX9_element_79 : decode cX9_element 79 = .ok (.laload, 1) := by decide +kernel
theorem dX9_element_80 : decode cX9_element 80 = .ok (.goto 4, 3) := by decide +kernel
theorem dX9_element_83 : decode cX9_element 83 = .ok (.lconst 0, 1) := by decide +kernel
theorem dX9_element_84 : decode cX9_element 84 = .ok (.lreturn, 1) := by decide +kernel
theorem dX9_hasPlaces_0 : decode cX9_hasPlaces 0 = .ok (.iload_n 3, 1) := by decide +kernel
theorem dX9_hasPlaces_1 : decode cX9_hasPlaces 1 = .ok (.ifCond .lt 33, 3) := by decide +kernel
theorem dX9_hasPlaces_4 : decode cX9_hasPlaces 4 = .ok (.iload_n 2, 1) := by decide +kernel
theorem dX9_hasPlaces_5 : decode cX9_hasPlaces 5 = .ok (.ifCond .lt 29, 3) := by decide +kernel
theorem dX9_hasPlaces_8 : decode cX9_hasPlaces 8 = .ok (.iload_n 2, 1) := by decide +kernel
theorem dX9_hasPlaces_9 : decode cX9_hasPlaces 9 = .ok (.aload_n 0, 1) := by decide +kernel
theorem dX9_hasPlaces_10 : decode cX9_hasPlaces 10 = .ok (.getfield 96, 3) := by decide +kernel
theorem dX9_hasPlaces_13 : decode cX9_hasPlaces 13 = .ok (.iload_n 1, 1) := by decide +kernel
theorem dX9_hasPlaces_14 : decode cX9_hasPlaces 14 = .ok (.iaload, 1) := by decide +kernel
theorem dX9_hasPlaces_15 : decode cX9_hasPlaces 15 = .ok (.if_icmp .gt 19, 3) := by decide +kernel
theorem dX9_hasPlaces_18 : decode cX9_hasPlaces 18 = .ok (.iload_n 3, 1) := by decide +kernel
theorem dX9_hasPlaces_19 : decode cX9_hasPlaces 19 = .ok (.aload_n 0, 1) := by decide +kernel
theorem dX9_hasPlaces_20 : decode cX9_hasPlaces 20 = .ok (.getfield 96, 3) := by decide +kernel
theorem dX9_hasPlaces_23 : decode cX9_hasPlaces 23 = .ok (.iload_n 1, 1) := by decide +kernel
theorem dX9_hasPlaces_24 : decode cX9_hasPlaces 24 = .ok (.iaload, 1) := by decide +kernel
theorem dX9_hasPlaces_25 : decode cX9_hasPlaces 25 = .ok (.iload_n 2, 1) := by decide +kernel
theorem dX9_hasPlaces_26 : decode cX9_hasPlaces 26 = .ok (.isub, 1) := by decide +kernel
theorem dX9_hasPlaces_27 : decode cX9_hasPlaces 27 = .ok (.if_icmp .gt 7, 3) := by decide +kernel
theorem dX9_hasPlaces_30 : decode cX9_hasPlaces 30 = .ok (.iconst 1, 1) := by decide +kernel
theorem dX9_hasPlaces_31 : decode cX9_hasPlaces 31 = .ok (.goto 4, 3) := by decide +kernel
theorem dX9_hasPlaces_34 : decode cX9_hasPlaces 34 = .ok (.iconst 0, 1) := by decide +kernel
theorem dX9_hasPlaces_35 : decode cX9_hasPlaces 35 = .ok (.ireturn, 1) := by decide +kernel
set_option maxRecDepth 20000 in
theorem ggX9_copy_X9_isShelf : GoodIn wsX9_copy wsX9_isShelf := goodIn_r _ [8] (by decide +kernel) (by decide +kernel)
set_option maxRecDepth 20000 in
theorem gX9_copy_X9_isShelf : GoodIn wsX9_copy (va_wsS RX9 258 yX9_isShelf wsX9_isShelf) := goodIn_app (goodIn_of _ (by decide +kernel)) ggX9_copy_X9_isShelf
set_option maxRecDepth 20000 in
theorem ggX9_copy_X9_hasPlaces : GoodIn wsX9_copy wsX9_hasPlaces := goodIn_r _ [12, 13, 14, 15, 16, 17, 18, 19, 20, 21, 22, 23, 24, 25, 26, 27, 28, 29, 30, 31, 32, 33, 34, 35, 36, 37, 38, 39, 40, 41, 42, 43, 44, 45, 46, 47, 48, 49, 50, 51, 52, 53, 54, 55, 56, 57, 58, 59, 60, 61, 62, 63, 64, 65] (by decide +kernel) (by decide +kernel)
set_option maxRecDepth 20000 in
theorem gX9_copy_X9_hasPlaces : GoodIn wsX9_copy (wsV RX9 267 RX9 yX9_hasPlaces wsX9_hasPlaces) := goodIn_app (goodIn_of _ (by decide +kernel)) ggX9_copy_X9_hasPlaces
theorem dX9_copy_0 : decode cX9_copy 0 = .ok (.aload_n 0, 1) := by decide +kernel
theorem dX9_copy_1 : decode cX9_copy 1 = .ok (.iconst 0, 1) := by decide +kernel
theorem dX9_copy_2 : decode cX9_copy 2 = .ok (.putfield 112, 3) := by decide +kernel
theorem dX9_copy_5 : decode cX9_copy 5 = .ok (.iload_n 1, 1) := by decide +kernel
theorem dX9_copy_6 : decode cX9_copy 6 = .ok (.invokestatic 258, 3) := by decide +kernel
theorem dX9_copy_9 : decode cX9_copy 9 = .ok (.ifCond .eq 10, 3) := by decide +kernel
theorem dX9_copy_12 : decode cX9_copy 12 = .ok (.iload_n 3, 1) := by decide +kernel
theorem dX9_copy_13 : decode cX9_copy 13 = .ok (.invokestatic 258, 3) := by decide +kernel
theorem dX9_copy_16 : decode cX9_copy 16 = .ok (.ifCond .ne 5, 3) := by decide +kernel
theorem dX9_copy_19 : decode cX9_copy 19 = .ok (.iconst (-1), 1) := by decide +kernel
theorem dX9_copy_20 : decode cX9_copy 20 = .ok (.ireturn, 1) := by decide +kernel
theorem dX9_copy_21 : decode cX9_copy 21 = .ok (.aload_n 0, 1) := by decide +kernel
theorem dX9_copy_22 : decode cX9_copy 22 = .ok (.getfield 93, 3) := by decide +kernel
theorem dX9_copy_25 : decode cX9_copy 25 = .ok (.iload_n 1, 1) := by decide +kernel
theorem dX9_copy_26 : decode cX9_copy 26 = .ok (.iaload, 1) := by decide +kernel
theorem dX9_copy_27 : decode cX9_copy 27 = .ok (.ifCond .eq 12, 3) := by decide +kernel
theorem dX9_copy_30 : decode cX9_copy 30 = .ok (.aload_n 0, 1) := by decide +kernel
theorem dX9_copy_31 : decode cX9_copy 31 = .ok (.getfield 93, 3) := by decide +kernel
theorem dX9_copy_34 : decode cX9_copy 34 = .ok (.iload_n 3, 1) := by decide +kernel
theorem dX9_copy_35 : decode cX9_copy 35 = .ok (.iaload, 1) := by decide +kernel
theorem dX9_copy_36 : decode cX9_copy 36 = .ok (.ifCond .ne 6, 3) := by decide +kernel
theorem dX9_copy_39 : decode cX9_copy 39 = .ok (.bipush (-11), 2) := by decide +kernel
theorem dX9_copy_41 : decode cX9_copy 41 = .ok (.ireturn, 1) := by decide +kernel
theorem dX9_copy_42 : decode cX9_copy 42 = .ok (.aload_n 0, 1) := by decide +kernel
theorem dX9_copy_43 : decode cX9_copy 43 = .ok (.getfield 93, 3) := by decide +kernel
theorem dX9_copy_46 : decode cX9_copy 46 = .ok (.iload_n 1, 1) := by decide +kernel
theorem dX9_copy_47 : decode cX9_copy 47 = .ok (.iaload, 1) := by decide +kernel
theorem dX9_copy_48 : decode cX9_copy 48 = .ok (.iconst 3, 1) := by decide +kernel
theorem dX9_copy_49 : decode cX9_copy 49 = .ok (.if_icmp .lt 18, 3) := by decide +kernel
theorem dX9_copy_52 : decode cX9_copy 52 = .ok (.aload_n 0, 1) := by decide +kernel
theorem dX9_copy_53 : decode cX9_copy 53 = .ok (.getfield 93, 3) := by decide +kernel
theorem dX9_copy_56 : decode cX9_copy 56 = .ok (.iload_n 1, 1) := by decide +kernel
theorem dX9_copy_57 : decode cX9_copy 57 = .ok (.iaload, 1) := by decide +kernel
theorem dX9_copy_58 : decode cX9_copy 58 = .ok (.aload_n 0, 1) := by decide +kernel
theorem dX9_copy_59 : decode cX9_copy 59 = .ok (.getfield 93, 3) := by decide +kernel
theorem dX9_copy_62 : decode cX9_copy 62 = .ok (.iload_n 3, 1) := by decide +kernel
theorem dX9_copy_63 : decode cX9_copy 63 = .ok (.iaload, 1) := by decide +kernel
theorem dX9_copy_64 : decode cX9_copy 64 = .ok (.if_icmp .eq 6, 3) := by decide +kernel
theorem dX9_copy_67 : decode cX9_copy 67 = .ok (.bipush (-12), 2) := by decide +kernel
theorem dX9_copy_69 : decode cX9_copy 69 = .ok (.ireturn, 1) := by decide +kernel
theorem dX9_copy_70 : decode cX9_copy 70 = .ok (.aload_n 0, 1) := by decide +kernel
theorem dX9_copy_71 : decode cX9_copy 71 = .ok (.iload_n 1, 1) := by decide +kernel
theorem dX9_copy_72 : decode cX9_copy 72 = .ok (.iload_n 2, 1) := by decide +kernel
theorem dX9_copy_73 : decode cX9_copy 73 = .ok (.iload 5, 2) := by decide +kernel
theorem dX9_copy_75 : decode cX9_copy 75 = .ok (.invokevirtual 267, 3) := by decide +kernel
theorem dX9_copy_78 : decode cX9_copy 78 = .ok (.ifCond .eq 15, 3) := by decide +kernel
theorem dX9_copy_81 : decode cX9_copy 81 = .ok (.aload_n 0, 1) := by decide +kernel
theorem dX9_copy_82 : decode cX9_copy 82 = .ok (.iload_n 3, 1) := by decide +kernel
theorem dX9_copy_83 : decode cX9_copy 83 = .ok (.iload 4, 2) := by decide +kernel
theorem dX9_copy_85 : decode cX9_copy 85 = .ok (.iload 5, 2) := by decide +kernel
theorem dX9_copy_87 : decode cX9_copy 87 = .ok (.invokevirtual 267, 3) := by decide +kernel
theorem dX9_copy_90 : decode cX9_copy 90 = .ok (.ifCond .ne 6, 3) := by decide +kernel
theorem dX9_copy_93 : decode cX9_copy 93 = .ok (.bipush (-13), 2) := by decide +kernel
theorem dX9_copy_95 : decode cX9_copy 95 = .ok (.ireturn, 1) := by decide +kernel
theorem dX9_copy_96 : decode cX9_copy 96 = .ok (.iconst 0, 1) := by decide +kernel
theorem dX9_copy_97 : decode cX9_copy 97 = .ok (.istore 6, 2) := by decide +kernel
theorem dX9_copy_99 : decode cX9_copy 99 = .ok (.iload 6, 2) := by decide +kernel
theorem dX9_copy_101 : decode cX9_copy 101 = .ok (.iload 5, 2) := by decide +kernel
theorem dX9_copy_103 : decode cX9_copy 103 = .ok (.if_icmp .ge 30, 3) := by decide +kernel
theorem dX9_copy_106 : decode cX9_copy 106 = .ok (.aload_n 0, 1) := by decide +kernel
theorem dX9_copy_107 : decode cX9_copy 107 = .ok (.getfield 109, 3) := by decide +kernel
theorem dX9_copy_110 : decode cX9_copy 110 = .ok (.iload 6, 2) := by decide +kernel
theorem dX9_copy_112 : decode cX9_copy 112 = .ok (.aload_n 0, 1) := by decide +kernel
theorem dX9_copy_113 : decode cX9_copy 113 = .ok (.getfield 105, 3) := by decide +kernel
theorem dX9_copy_116 : decode cX9_copy 116 = .ok (.bipush 60, 2) := by decide +kernel
theorem dX9_copy_118 : decode cX9_copy 118 = .ok (.iload_n 1, 1) := by decide +kernel
theorem dX9_copy_119 : decode cX9_copy 119 = .ok (.imul, 1) := by decide +kernel
theorem dX9_copy_120 : decode cX9_copy 120 = .ok (.iload_n 2, 1) := by decide +kernel
theorem dX9_copy_121 : decode cX9_copy 121 = .ok (.iadd, 1) := by decide +kernel
theorem dX9_copy_122 : decode cX9_copy 122 = .ok (.iload 6, 2) := by decide +kernel
theorem dX9_copy_124 : decode cX9_copy 124 = .ok (.iadd, 1) := by decide +kernel
theorem dX9_copy_125 : decode cX9_copy 125 = .ok (.laload, 1) := by decide +kernel
theorem dX9_copy_126 : decode cX9_copy 126 = .ok (.lastore, 1) := by decide +kernel
theorem dX9_copy_127 : decode cX9_copy 127 = .ok (.iinc 6 1, 3) := by decide +kernel
theorem dX9_copy_130 : decode cX9_copy 130 = .ok (.goto (-31), 3) := by decide +kernel
theorem dX9_copy_133 : decode cX9_copy 133 = .ok (.iconst 0, 1) := by decide +kernel
theorem dX9_copy_134 : decode cX9_copy 134 = .ok (.istore 6, 2) := by decide +kernel
theorem dX9_copy_136 : decode cX9_copy 136 = .ok (.iload 6, 2) := by decide +kernel
theorem dX9_copy_138 : decode cX9_copy 138 = .ok (.iload 5, 2) := by decide +kernel
theorem dX9_copy_140 : decode cX9_copy 140 = .ok (.if_icmp .ge 31, 3) := by decide +kernel
theorem dX9_copy_143 : decode cX9_copy 143 = .ok (.aload_n 0, 1) := by decide +kernel
theorem dX9_copy_144 : decode cX9_copy 144 = .ok (.getfield 105, 3) := by decide +kernel
theorem dX9_copy_147 : decode cX9_copy 147 = .ok (.bipush 60, 2) := by decide +kernel
theorem dX9_copy_149 : decode cX9_copy 149 = .ok (.iload_n 3, 1) := by decide +kernel
theorem dX9_copy_150 : decode cX9_copy 150 = .ok (.imul, 1) := by decide +kernel
theorem dX9_copy_151 : decode cX9_copy 151 = .ok (.iload 4, 2) := by decide +kernel
theorem dX9_copy_153 : decode cX9_copy 153 = .ok (.iadd, 1) := by decide +kernel
theorem dX9_copy_154 : decode cX9_copy 154 = .ok (.iload 6, 2) := by decide +kernel
theorem dX9_copy_156 : decode cX9_copy 156 = .ok (.iadd, 1) := by decide +kernel
theorem dX9_copy_157 : decode cX9_copy 157 = .ok (.aload_n 0, 1) := by decide +kernel
theorem dX9_copy_158 : decode cX9_copy 158 = .ok (.getfield 109, 3) := by decide +kernel
theorem dX9_copy_161 : decode cX9_copy 161 = .ok (.iload 6, 2) := by decide +kernel
theorem dX9_copy_163 : decode cX9_copy 163 = .ok (.laload, 1) := by decide +kernel
theorem dX9_copy_164 : decode cX9_copy 164 = .ok (.lastore, 1) := by decide +kernel
theorem dX9_copy_165 : decode cX9_copy 165 = .ok (.iinc 6 1, 3) := by decide +kernel
theorem dX9_copy_168 : decode cX9_copy 168 = .ok (.goto (-32), 3) := by decide +kernel
theorem dX9_copy_171 : decode cX9_copy 171 = .ok (.iload 5, 2) := by decide +kernel
theorem dX9_copy_173 : decode cX9_copy 173 = .ok (.ireturn, 1) := by decide +kernel
set_option maxRecDepth 20000 in
theorem ggX9_denied_X9_isShelf : GoodIn wsX9_denied wsX9_isShelf := goodIn_r _ [5] (by decide +kernel) (by decide +kernel)
set_option maxRecDepth 20000 in
theorem gX9_denied_X9_isShelf : GoodIn wsX9_denied (va_wsS RX9 258 yX9_isShelf wsX9_isShelf) := goodIn_app (goodIn_of _ (by decide +kernel)) ggX9_denied_X9_isShelf
theorem dX9_denied_0 : decode cX9_denied 0 = .ok (.iload_n 1, 1) := by decide +kernel
theorem dX9_denied_1 : decode cX9_denied 1 = .ok (.invokestatic 258, 3) := by decide +kernel
theorem dX9_denied_4 : decode cX9_denied 4 = .ok (.ifCond .ne 7, 3) := by decide +kernel
theorem dX9_denied_7 : decode cX9_denied 7 = .ok (.iconst (-1), 1) := by decide +kernel
theorem dX9_denied_8 : decode cX9_denied 8 = .ok (.goto 33, 3) := by decide +kernel
theorem dX9_denied_11 : decode cX9_denied 11 = .ok (.aload_n 0, 1) := by decide +kernel
theorem dX9_denied_12 : decode cX9_denied 12 = .ok (.getfield 93, 3) := by decide +kernel
theorem dX9_denied_15 : decode cX9_denied 15 = .ok (.iload_n 1, 1) := by decide +kernel
theorem dX9_denied_16 : decode cX9_denied 16 = .ok (.iaload, 1) := by decide +kernel
theorem dX9_denied_17 : decode cX9_denied 17 = .ok (.ifCond .ne 8, 3) := by decide +kernel
theorem dX9_denied_20 : decode cX9_denied 20 = .ok (.bipush (-11), 2) := by decide +kernel
theorem dX9_denied_22 : decode cX9_denied 22 = .ok (.goto 19, 3) := by decide +kernel
theorem dX9_denied_25 : decode cX9_denied 25 = .ok (.aload_n 0, 1) := by decide +kernel
theorem dX9_denied_26 : decode cX9_denied 26 = .ok (.getfield 93, 3) := by decide +kernel
theorem dX9_denied_29 : decode cX9_denied 29 = .ok (.iload_n 1, 1) := by decide +kernel
theorem dX9_denied_30 : decode cX9_denied 30 = .ok (.iaload, 1) := by decide +kernel
theorem dX9_denied_31 : decode cX9_denied 31 = .ok (.iconst 1, 1) := by decide +kernel
theorem dX9_denied_32 : decode cX9_denied 32 = .ok (.if_icmp .le 8, 3) := by decide +kernel
theorem dX9_denied_35 : decode cX9_denied 35 = .ok (.bipush (-12), 2) := by decide +kernel
theorem dX9_denied_37 : decode cX9_denied 37 = .ok (.goto 4, 3) := by decide +kernel
theorem dX9_denied_40 : decode cX9_denied 40 = .ok (.iconst 0, 1) := by decide +kernel
theorem dX9_denied_41 : decode cX9_denied 41 = .ok (.ireturn, 1) := by decide +kernel
set_option maxRecDepth 20000 in
theorem ggX9_weight_X9_denied : GoodIn wsX9_weight wsX9_denied := goodIn_r _ [7, 8, 9, 10, 6, 11, 12, 13, 14, 15, 16, 17, 18, 19, 20, 21, 22, 23, 24, 25, 26, 27, 28, 29, 30, 31, 32, 33, 34, 35, 36, 37, 38, 39, 40, 41, 42, 43, 44, 45, 46, 47, 48, 49, 50, 51, 52, 53, 54, 55, 56, 57, 58, 59, 60, 61, 62, 63] (by decide +kernel) (by decide +kernel)
set_option maxRecDepth 20000 in
theorem gX9_weight_X9_denied : GoodIn wsX9_weight (wsV RX9 271 RX9 yX9_denied wsX9_denied) := goodIn_app (goodIn_of _ (by decide +kernel)) ggX9_weight_X9_denied
theorem dX9_weight_0 : decode cX9_weight 0 = .ok (.aload_n 0, 1) := by decide +kernel
theorem dX9_weight_1 : decode cX9_weight 1 = .ok (.iconst 0, 1) := by decide +kernel
theorem dX9_weight_2 : decode cX9_weight 2 = .ok (.putfield 112, 3) := by decide +kernel
theorem dX9_weight_5 : decode cX9_weight 5 = .ok (.aload_n 0, 1) := by decide +kernel
theorem dX9_weight_6 : decode cX9_weight 6 = .ok (.iload_n 1, 1) := by decide +kernel
theorem dX9_weight_7 : decode cX9_weight 7 = .ok (.invokevirtual 271, 3) := by decide +kernel
theorem dX9_weight_10 : decode cX9_weight 10 = .ok (.istore_n 2, 1) := by decide +kernel
theorem dX9_weight_11 : decode cX9_weight 11 = .ok (.iload_n 2, 1) := by decide +kernel
theorem dX9_weight_12 : decode cX9_weight 12 = .ok (.ifCond .ge 7, 3) := by decide +kernel
theorem dX9_weight_15 : decode cX9_weight 15 = .ok (.iload_n 2, 1) := by decide +kernel
theorem dX9_weight_16 : decode cX9_weight 16 = .ok (.goto 9, 3) := by decide +kernel
theorem dX9_weight_19 : decode cX9_weight 19 = .ok (.aload_n 0, 1) := by decide +kernel
theorem dX9_weight_20 : decode cX9_weight 20 = .ok (.getfield 99, 3) := by decide +kernel
theorem dX9_weight_23 : decode cX9_weight 23 = .ok (.iload_n 1, 1) := by decide +kernel
theorem dX9_weight_24 : decode cX9_weight 24 = .ok (.iaload, 1) := by decide +kernel
theorem dX9_weight_25 : decode cX9_weight 25 = .ok (.ireturn, 1) := by decide +kernel
set_option maxRecDepth 20000 in
theorem ggX9_toss_X9_denied : GoodIn wsX9_toss wsX9_denied := goodIn_r _ [7, 8, 9, 10, 6, 11, 12, 13, 14, 15, 16, 17, 18, 19, 20, 21, 22, 23, 24, 25, 26, 27, 28, 29, 30, 31, 32, 33, 34, 35, 36, 37, 38, 39, 40, 41, 42, 43, 44, 45, 46, 47, 48, 49, 50, 51, 52, 53, 54, 55, 56, 57, 58, 59, 60, 61, 62, 63] (by decide +kernel) (by decide +kernel)
set_option maxRecDepth 20000 in
theorem gX9_toss_X9_denied : GoodIn wsX9_toss (wsV RX9 271 RX9 yX9_denied wsX9_denied) := goodIn_app (goodIn_of _ (by decide +kernel)) ggX9_toss_X9_denied
theorem dX9_toss_0 : decode cX9_toss 0 = .ok (.aload_n 0, 1) := by decide +kernel
theorem dX9_toss_1 : decode cX9_toss 1 = .ok (.iconst 0, 1) := by decide +kernel
theorem dX9_toss_2 : decode cX9_toss 2 = .ok (.putfield 112, 3) := by decide +kernel
theorem dX9_toss_5 : decode cX9_toss 5 = .ok (.aload_n 0, 1) := by decide +kernel
theorem dX9_toss_6 : decode cX9_toss 6 = .ok (.iload_n 1, 1) := by decide +kernel
theorem dX9_toss_7 : decode cX9_toss 7 = .ok (.invokevirtual 271, 3) := by decide +kernel
theorem dX9_toss_10 : decode cX9_toss 10 = .ok (.istore_n 2, 1) := by decide +kernel
theorem dX9_toss_11 : decode cX9_toss 11 = .ok (.iload_n 2, 1) := by decide +kernel
theorem dX9_toss_12 : decode cX9_toss 12 = .ok (.ifCond .ge 7, 3) := by decide +kernel
theorem dX9_toss_15 : decode cX9_toss 15 = .ok (.iload_n 2, 1) := by decide +kernel
theorem dX9_toss_16 : decode cX9_toss 16 = .ok (.goto 9, 3) := by decide +kernel
theorem dX9_toss_19 : decode cX9_toss 19 = .ok (.aload_n 0, 1) := by decide +kernel
theorem dX9_toss_20 : decode cX9_toss 20 = .ok (.getfield 102, 3) := by decide +kernel
theorem dX9_toss_23 : decode cX9_toss 23 = .ok (.iload_n 1, 1) := by decide +kernel
theorem dX9_toss_24 : decode cX9_toss 24 = .ok (.iaload, 1) := by decide +kernel
theorem dX9_toss_25 : decode cX9_toss 25 = .ok (.ireturn, 1) := by decide +kernel
theorem dJ7_rangeCheck_23922_0 : decode cJ7_rangeCheck_23922 0 = .ok (.iload_n 1, 1) := by decide +kernel
theorem dJ7_rangeCheck_23922_1 : decode cJ7_rangeCheck_23922 1 = .ok (.iload_n 2, 1) := by decide +kernel
theorem dJ7_rangeCheck_23922_2 : decode cJ7_rangeCheck_23922 2 = .ok (.if_icmp .le 44, 3) := by decide +kernel
theorem dJ7_rangeCheck_23922_5 : decode cJ7_rangeCheck_23922 5 = .ok (.new 43, 3) := by decide +kernel
theorem dJ7_rangeCheck_23922_8 : decode cJ7_rangeCheck_23922 8 = .ok (.dup, 1) := by decide +kernel
theorem dJ7_rangeCheck_23922_9 : decode cJ7_rangeCheck_23922 9 = .ok (.new 45, 3) := by decide +kernel
theorem dJ7_rangeCheck_23922_12 : decode cJ7_rangeCheck_23922 12 = .ok (.dup, 1) := by decide +kernel
theorem dJ7_rangeCheck_23922_13 : decode cJ7_rangeCheck_23922 13 = .ok (.invokespecial 47, 3) := by decide +kernel
theorem dJ7_rangeCheck_23922_16 : decode cJ7_rangeCheck_23922 16 = .ok (.ldc 48, 2) := by decide +kernel
theorem dJ7_rangeCheck_23922_18 : decode cJ7_rangeCheck_23922 18 = .ok (.invokevirtual 50, 3) := by decide +kernel
theorem dJ7_rangeCheck_23922_21 : decode cJ7_rangeCheck_23922 21 = .ok (.iload_n 1, 1) := by decide +kernel
theorem dJ7_rangeCheck_23922_22 : decode cJ7_rangeCheck_23922 22 = .ok (.invokevirtual 54, 3) := by decide +kernel
theorem dJ7_rangeCheck_23922_25 : decode cJ7_rangeCheck_23922 25 = .ok (.ldc 57, 2) := by decide +kernel
theorem dJ7_rangeCheck_23922_27 : decode cJ7_rangeCheck_23922 27 = .ok (.invokevirtual 50, 3) := by decide +kernel
theorem dJ7_rangeCheck_23922_30 : decode cJ7_rangeCheck_23922 30 = .ok (.iload_n 2, 1) := by decide +kernel
theorem dJ7_rangeCheck_23922_31 : decode cJ7_rangeCheck_23922 31 = .ok (.invokevirtual 54, 3) := by decide +kernel
theorem dJ7_rangeCheck_23922_34 : decode cJ7_rangeCheck_23922 34 = .ok (.ldc 59, 2) := by decide +kernel
theorem dJ7_rangeCheck_23922_36 : decode cJ7_rangeCheck_23922 36 = .ok (.invokevirtual 50, 3) := by decide +kernel
theorem dJ7_rangeCheck_23922_39 : decode cJ7_rangeCheck_23922 39 = .ok (.invokevirtual 61, 3) := by decide +kernel
theorem dJ7_rangeCheck_23922_42 : decode cJ7_rangeCheck_23922 42 = .ok (.invokespecial 65, 3) := by decide +kernel
theorem dJ7_rangeCheck_23922_45 : decode cJ7_rangeCheck_23922 45 = .ok (.athrow, 1) := by decide +kernel
theorem dJ7_rangeCheck_23922_46 : decode cJ7_rangeCheck_23922 46 = .ok (.iload_n 1, 1) := by decide +kernel
theorem dJ7_rangeCheck_23922_47 : decode cJ7_rangeCheck_23922 47 = .ok (.ifCond .ge 12, 3) := by decide +kernel
theorem dJ7_rangeCheck_23922_50 : decode cJ7_rangeCheck_23922 50 = .ok (.new 68, 3) := by decide +kernel
theorem dJ7_rangeCheck_23922_53 : decode cJ7_rangeCheck_23922 53 = .ok (.dup, 1) := by decide +kernel
theorem dJ7_rangeCheck_23922_54 : decode cJ7_rangeCheck_23922 54 = .ok (.iload_n 1, 1) := by decide +kernel
theorem dJ7_rangeCheck_23922_55 : decode cJ7_rangeCheck_23922 55 = .ok (.invokespecial 70, 3) := by decide +kernel
theorem dJ7_rangeCheck_23922_58 : decode cJ7_rangeCheck_23922 58 = .ok (.athrow, 1) := by decide +kernel
theorem dJ7_rangeCheck_23922_59 : decode cJ7_rangeCheck_23922 59 = .ok (.iload_n 2, 1) := by decide +kernel
theorem dJ7_rangeCheck_23922_60 : decode cJ7_rangeCheck_23922 60 = .ok (.iload_n 0, 1) := by decide +kernel
theorem dJ7_rangeCheck_23922_61 : decode cJ7_rangeCheck_23922 61 = .ok (.if_icmp .le 12, 3) := by decide +kernel
theorem dJ7_rangeCheck_23922_64 : decode cJ7_rangeCheck_23922 64 = .ok (.new 68, 3) := by decide +kernel
theorem dJ7_rangeCheck_23922_67 : decode cJ7_rangeCheck_23922 67 = .ok (.dup, 1) := by decide +kernel
theorem dJ7_rangeCheck_23922_68 : decode cJ7_rangeCheck_23922 68 = .ok (.iload_n 2, 1) := by decide +kernel
theorem dJ7_rangeCheck_23922_69 : decode cJ7_rangeCheck_23922 69 = .ok (.invokespecial 70, 3) := by decide +kernel
theorem dJ7_rangeCheck_23922_72 : decode cJ7_rangeCheck_23922 72 = .ok (.athrow, 1) := by decide +kernel
theorem dJ7_rangeCheck_23922_73 : decode cJ7_rangeCheck_23922 73 = .ok (.return_, 1) := by decide +kernel
theorem dJ7_fill_d0a16_0 : decode cJ7_fill_d0a16 0 = .ok (.iconst 0, 1) := by decide +kernel
theorem dJ7_fill_d0a16_1 : decode cJ7_fill_d0a16 1 = .ok (.istore_n 3, 1) := by decide +kernel
theorem dJ7_fill_d0a16_2 : decode cJ7_fill_d0a16 2 = .ok (.aload_n 0, 1) := by decide +kernel
theorem dJ7_fill_d0a16_3 : decode cJ7_fill_d0a16 3 = .ok (.arraylength, 1) := by decide +kernel
theorem dJ7_fill_d0a16_4 : decode cJ7_fill_d0a16 4 = .ok (.istore 4, 2) := by decide +kernel
theorem dJ7_fill_d0a16_6 : decode cJ7_fill_d0a16 6 = .ok (.iload_n 3, 1) := by decide +kernel
theorem dJ7_fill_d0a16_7 : decode cJ7_fill_d0a16 7 = .ok (.iload 4, 2) := by decide +kernel
theorem dJ7_fill_d0a16_9 : decode cJ7_fill_d0a16 9 = .ok (.if_icmp .ge 13, 3) := by decide +kernel
theorem dJ7_fill_d0a16_12 : decode cJ7_fill_d0a16 12 = .ok (.aload_n 0, 1) := by decide +kernel
theorem dJ7_fill_d0a16_13 : decode cJ7_fill_d0a16 13 = .ok (.iload_n 3, 1) := by decide +kernel
theorem dJ7_fill_d0a16_14 : decode cJ7_fill_d0a16 14 = .ok (.lload_n 1, 1) := by decide +kernel
theorem dJ7_fill_d0a16_15 : decode cJ7_fill_d0a16 15 = .ok (.lastore, 1) := by decide +kernel
theorem dJ7_fill_d0a16_16 : decode cJ7_fill_d0a16 16 = .ok (.iinc 3 1, 3) := by decide +kernel
theorem dJ7_fill_d0a16_19 : decode cJ7_fill_d0a16 19 = .ok (.goto (-13), 3) := by decide +kernel
theorem dJ7_fill_d0a16_22 : decode cJ7_fill_d0a16 22 = .ok (.return_, 1) := by decide +kernel
theorem dJ7_fill_53178_0 : decode cJ7_fill_53178 0 = .ok (.iconst 0, 1) := by decide +kernel
theorem dJ7_fill_53178_1 : decode cJ7_fill_53178 1 = .ok (.istore_n 2, 1) := by decide +kernel
theorem dJ7_fill_53178_2 : decode cJ7_fill_53178 2 = .ok (.aload_n 0, 1) := by decide +kernel
theorem dJ7_fill_53178_3 : decode cJ7_fill_53178 3 = .ok (.arraylength, 1) := by decide +kernel
theorem dJ7_fill_53178_4 : decode cJ7_fill_53178 4 = .ok (.istore_n 3, 1) := by decide +kernel
theorem dJ7_fill_53178_5 : decode cJ7_fill_53178 5 = .ok (.iload_n 2, 1) := by decide +kernel
theorem dJ7_fill_53178_6 : decode cJ7_fill_53178 6 = .ok (.iload_n 3, 1) := by decide +kernel
theorem dJ7_fill_53178_7 : decode cJ7_fill_53178 7 = .ok (.if_icmp .ge 13, 3) := by decide +kernel
theorem dJ7_fill_53178_10 : decode cJ7_fill_53178 10 = .ok (.aload_n 0, 1) := by decide +kernel
theorem dJ7_fill_53178_11 : decode cJ7_fill_53178 11 = .ok (.iload_n 2, 1) := by decide +kernel
theorem dJ7_fill_53178_12 : decode cJ7_fill_53178 12 = .ok (.iload_n 1, 1) := by decide +kernel
theorem dJ7_fill_53178_13 : decode cJ7_fill_53178 13 = .ok (.iastore, 1) := by decide +kernel
theorem dJ7_fill_53178_14 : decode cJ7_fill_53178 14 = .ok (.iinc 2 1, 3) := by decide +kernel
theorem dJ7_fill_53178_17 : decode cJ7_fill_53178 17 = .ok (.goto (-12), 3) := by decide +kernel
theorem dJ7_fill_53178_20 : decode cJ7_fill_53178 20 = .ok (.return_, 1) := by decide +kernel
set_option maxRecDepth 20000 in
theorem ggJ7_fill_fda19_J7_rangeCheck_23922 : GoodIn wsJ7_fill_fda19 wsJ7_rangeCheck_23922 := goodIn_r _ [4, 5, 6, 7, 8, 9, 10, 11] (by decide +kernel) (by decide +kernel)
set_option maxRecDepth 20000 in
theorem gJ7_fill_fda19_J7_rangeCheck_23922 : GoodIn wsJ7_fill_fda19 (va_wsS RJ7 13 yJ7_rangeCheck_23922 wsJ7_rangeCheck_23922) := goodIn_app (goodIn_of _ (by decide +kernel)) ggJ7_fill_fda19_J7_rangeCheck_23922
theorem dJ7_fill_fda19_0 : decode cJ7_fill_fda19 0 = .ok (.aload_n 0, 1) := by decide +kernel
theorem dJ7_fill_fda19_1 : decode cJ7_fill_fda19 1 = .ok (.arraylength, 1) := by decide +kernel
theorem dJ7_fill_fda19_2 : decode cJ7_fill_fda19 2 = .ok (.iload_n 1, 1) := by decide +kernel
theorem dJ7_fill_fda19_3 : decode cJ7_fill_fda19 3 = .ok (.iload_n 2, 1) := by decide +kernel
theorem dJ7_fill_fda19_4 : decode cJ7_fill_fda19 4 = .ok (.invokestatic 13, 3) := by decide +kernel
theorem dJ7_fill_fda19_7 : decode cJ7_fill_fda19 7 = .ok (.iload_n 1, 1) := by decide +kernel
theorem dJ7_fill_fda19_8 : decode cJ7_fill_fda19 8 = .ok (.istore 4, 2) := by decide +kernel
theorem dJ7_fill_fda19_10 : decode cJ7_fill_fda19 10 = .ok (.iload 4, 2) := by decide +kernel
theorem dJ7_fill_fda19_12 : decode cJ7_fill_fda19 12 = .ok (.iload_n 2, 1) := by decide +kernel
theorem dJ7_fill_fda19_13 : decode cJ7_fill_fda19 13 = .ok (.if_icmp .ge 14, 3) := by decide +kernel
theorem dJ7_fill_fda19_16 : decode cJ7_fill_fda19 16 = .ok (.aload_n 0, 1) := by decide +kernel
theorem dJ7_fill_fda19_17 : decode cJ7_fill_fda19 17 = .ok (.iload 4, 2) := by decide +kernel
theorem dJ7_fill_fda19_19 : decode cJ7_fill_fda19 19 = .ok (.iload_n 3, 1) := by decide +kernel
theorem dJ7_fill_fda19_20 : decode cJ7_fill_fda19 20 = .ok (.iastore, 1) := by decide +kernel
theorem dJ7_fill_fda19_21 : decode cJ7_fill_fda19 21 = .ok (.iinc 4 1, 3) := by decide +kernel
theorem dJ7_fill_fda19_24 : decode cJ7_fill_fda19 24 = .ok (.goto (-14), 3) := by decide +kernel
theorem dJ7_fill_fda19_27 : decode cJ7_fill_fda19 27 = .ok (.return_, 1) := by decide +kernel
theorem dJ7_copyOf_9075b_0 : decode cJ7_copyOf_9075b 0 = .ok (.iload_n 1, 1) := by decide +kernel
theorem dJ7_copyOf_9075b_1 : decode cJ7_copyOf_9075b 1 = .ok (.aload_n 0, 1) := by decide +kernel
theorem dJ7_copyOf_9075b_2 : decode cJ7_copyOf_9075b 2 = .ok (.arraylength, 1) := by decide +kernel
theorem dJ7_copyOf_9075b_3 : decode cJ7_copyOf_9075b 3 = .ok (.if_icmp .ne 11, 3) := by decide +kernel
theorem dJ7_copyOf_9075b_6 : decode cJ7_copyOf_9075b 6 = .ok (.aload_n 0, 1) := by decide +kernel
theorem dJ7_copyOf_9075b_7 : decode cJ7_copyOf_9075b 7 = .ok (.invokevirtual 310, 3) := by decide +kernel
theorem dJ7_copyOf_9075b_10 : decode cJ7_copyOf_9075b 10 = .ok (.checkcast 311, 3) := by decide +kernel
theorem dJ7_copyOf_9075b_13 : decode cJ7_copyOf_9075b 13 = .ok (.areturn, 1) := by decide +kernel
theorem dJ7_copyOf_9075b_14 : decode cJ7_copyOf_9075b 14 = .ok (.iload_n 1, 1) := by decide +kernel
theorem dJ7_copyOf_9075b_15 : decode cJ7_copyOf_9075b 15 = .ok (.newarray .byte, 2) := by decide +kernel
theorem dJ7_copyOf_9075b_17 : decode cJ7_copyOf_9075b 17 = .ok (.astore_n 2, 1) := by decide +kernel
theorem dJ7_copyOf_9075b_18 : decode cJ7_copyOf_9075b 18 = .ok (.aload_n 0, 1) := by decide +kernel
theorem dJ7_copyOf_9075b_19 : decode cJ7_copyOf_9075b 19 = .ok (.iconst 0, 1) := by decide +kernel
theorem dJ7_copyOf_9075b_20 : decode cJ7_copyOf_9075b 20 = .ok (.aload_n 2, 1) := by decide +kernel
theorem dJ7_copyOf_9075b_21 : decode cJ7_copyOf_9075b 21 = .ok (.iconst 0, 1) := by decide +kernel
theorem dJ7_copyOf_9075b_22 : decode cJ7_copyOf_9075b 22 = .ok (.aload_n 0, 1) := by decide +kernel
theorem dJ7_copyOf_9075b_23 : decode cJ7_copyOf_9075b 23 = .ok (.arraylength, 1) := by decide +kernel
theorem dJ7_copyOf_9075b_24 : decode cJ7_copyOf_9075b 24 = .ok (.iload_n 1, 1) := by decide +kernel
theorem dJ7_copyOf_9075b_25 : decode cJ7_copyOf_9075b 25 = .ok (.invokestatic 304, 3) := by decide +kernel
theorem dJ7_copyOf_9075b_28 : decode cJ7_copyOf_9075b 28 = .ok (.invokestatic 150, 3) := by decide +kernel
theorem dJ7_copyOf_9075b_31 : decode cJ7_copyOf_9075b 31 = .ok (.aload_n 2, 1) := by decide +kernel
theorem dJ7_copyOf_9075b_32 : decode cJ7_copyOf_9075b 32 = .ok (.areturn, 1) := by decide +kernel
theorem dJ7_checkLength_df160_0 : decode cJ7_checkLength_df160 0 = .ok (.iload_n 1, 1) := by decide +kernel
theorem dJ7_checkLength_df160_1 : decode cJ7_checkLength_df160 1 = .ok (.iload_n 0, 1) := by decide +kernel
theorem dJ7_checkLength_df160_2 : decode cJ7_checkLength_df160 2 = .ok (.if_icmp .ge 35, 3) := by decide +kernel
theorem dJ7_checkLength_df160_5 : decode cJ7_checkLength_df160 5 = .ok (.new 43, 3) := by decide +kernel
theorem dJ7_checkLength_df160_8 : decode cJ7_checkLength_df160 8 = .ok (.dup, 1) := by decide +kernel
theorem dJ7_checkLength_df160_9 : decode cJ7_checkLength_df160 9 = .ok (.new 45, 3) := by decide +kernel
theorem dJ7_checkLength_df160_12 : decode cJ7_checkLength_df160 12 = .ok (.dup, 1) := by decide +kernel
theorem dJ7_checkLength_df160_13 : decode cJ7_checkLength_df160 13 = .ok (.invokespecial 47, 3) := by decide +kernel
theorem dJ7_checkLength_df160_16 : decode cJ7_checkLength_df160 16 = .ok (.iload_n 0, 1) := by decide +kernel
theorem dJ7_checkLength_df160_17 : decode cJ7_checkLength_df160 17 = .ok (.invokevirtual 54, 3) := by decide +kernel
theorem dJ7_checkLength_df160_20 : decode cJ7_checkLength_df160 20 = .ok (.ldc_w 337, 3) := by decide +kernel
theorem dJ7_checkLength_df160_23 : decode cJ7_checkLength_df160 23 = .ok (.invokevirtual 50, 3) := by decide +kernel
theorem dJ7_checkLength_df160_26 : decode cJ7_checkLength_df160 26 = .ok (.iload_n 1, 1) := by decide +kernel
theorem dJ7_checkLength_df160_27 : decode cJ7_checkLength_df160 27 = .ok (.invokevirtual 54, 3) := by decide +kernel
theorem dJ7_checkLength_df160_30 : decode cJ7_checkLength_df160 30 = .ok (.invokevirtual 61, 3) := by decide +kernel
theorem dJ7_checkLength_df160_33 : decode cJ7_checkLength_df160 33 = .ok (.invokespecial 65, 3) := by decide +kernel
theorem dJ7_checkLength_df160_36 : decode cJ7_checkLength_df160 36 = .ok (.athrow, 1) := by decide +kernel
theorem dJ7_checkLength_df160_37 : decode cJ7_checkLength_df160 37 = .ok (.return_, 1) := by decide +kernel
set_option maxRecDepth 20000 in
theorem ggJ7_copyOfRange_39247_J7_copyOfRangeByte_39247 : GoodIn wsJ7_copyOfRange_39247 wsJ7_copyOfRangeByte_39247 := goodIn_r _ [10, 11, 12, 13, 14, 15, 16, 17, 18, 19, 20, 21, 9, 22, 23, 24, 25, 26, 27, 28, 29] (by decide +kernel) (by decide +kernel)
set_option maxRecDepth 20000 in
theorem gJ7_copyOfRange_39247_J7_copyOfRangeByte_39247 : GoodIn wsJ7_copyOfRange_39247 (va_wsS RJ7 339 yJ7_copyOfRangeByte_39247 wsJ7_copyOfRangeByte_39247) := goodIn_app (goodIn_of _ (by decide +kernel)) ggJ7_copyOfRange_39247_J7_copyOfRangeByte_39247
theorem dJ7_copyOfRange_39247_0 : decode cJ7_copyOfRange_39247 0 = .ok (.iload_n 1, 1) := by decide +kernel
theorem dJ7_copyOfRange_39247_1 : decode cJ7_copyOfRange_39247 1 = .ok (.ifCond .ne 9, 3) := by decide +kernel
theorem dJ7_copyOfRange_39247_4 : decode cJ7_copyOfRange_39247 4 = .ok (.iload_n 2, 1) := by decide +kernel
theorem dJ7_copyOfRange_39247_5 : decode cJ7_copyOfRange_39247 5 = .ok (.aload_n 0, 1) := by decide +kernel
theorem dJ7_copyOfRange_39247_6 : decode cJ7_copyOfRange_39247 6 = .ok (.arraylength, 1) := by decide +kernel
theorem dJ7_copyOfRange_39247_7 : decode cJ7_copyOfRange_39247 7 = .ok (.if_icmp .eq 10, 3) := by decide +kernel
theorem dJ7_copyOfRange_39247_10 : decode cJ7_copyOfRange_39247 10 = .ok (.aload_n 0, 1) := by decide +kernel
theorem dJ7_copyOfRange_39247_11 : decode cJ7_copyOfRange_39247 11 = .ok (.iload_n 1, 1) := by decide +kernel
theorem dJ7_copyOfRange_39247_12 : decode cJ7_copyOfRange_39247 12 = .ok (.iload_n 2, 1) := by decide +kernel
theorem dJ7_copyOfRange_39247_13 : decode cJ7_copyOfRange_39247 13 = .ok (.invokestatic 339, 3) := by decide +kernel
theorem dJ7_copyOfRange_39247_16 : decode cJ7_copyOfRange_39247 16 = .ok (.areturn, 1) := by decide +kernel
theorem dJ7_copyOfRange_39247_17 : decode cJ7_copyOfRange_39247 17 = .ok (.aload_n 0, 1) := by decide +kernel
theorem dJ7_copyOfRange_39247_18 : decode cJ7_copyOfRange_39247 18 = .ok (.invokevirtual 310, 3) := by decide +kernel
theorem dJ7_copyOfRange_39247_21 : decode cJ7_copyOfRange_39247 21 = .ok (.checkcast 311, 3) := by decide +kernel
theorem dJ7_copyOfRange_39247_24 : decode cJ7_copyOfRange_39247 24 = .ok (.areturn, 1) := by decide +kernel
set_option maxRecDepth 20000 in
theorem ggJ7_copyOfRangeByte_39247_J7_checkLength_df160 : GoodIn wsJ7_copyOfRangeByte_39247 wsJ7_checkLength_df160 := goodIn_r _ [13, 14, 15, 16, 17, 18, 19, 20] (by decide +kernel) (by decide +kernel)
set_option maxRecDepth 20000 in
theorem gJ7_copyOfRangeByte_39247_J7_checkLength_df160 : GoodIn wsJ7_copyOfRangeByte_39247 (va_wsS RJ7 343 yJ7_checkLength_df160 wsJ7_checkLength_df160) := goodIn_app (goodIn_of _ (by decide +kernel)) ggJ7_copyOfRangeByte_39247_J7_checkLength_df160
theorem dJ7_copyOfRangeByte_39247_0 : decode cJ7_copyOfRangeByte_39247 0 = .ok (.iload_n 1, 1) := by decide +kernel
theorem dJ7_copyOfRangeByte_39247_1 : decode cJ7_copyOfRangeByte_39247 1 = .ok (.iload_n 2, 1) := by decide +kernel
theorem dJ7_copyOfRangeByte_39247_2 : decode cJ7_copyOfRangeByte_39247 2 = .ok (.invokestatic 343, 3) := by decide +kernel
theorem dJ7_copyOfRangeByte_39247_5 : decode cJ7_copyOfRangeByte_39247 5 = .ok (.iload_n 2, 1) := by decide +kernel
theorem dJ7_copyOfRangeByte_39247_6 : decode cJ7_copyOfRangeByte_39247 6 = .ok (.iload_n 1, 1) := by decide +kernel
theorem dJ7_copyOfRangeByte_39247_7 : decode cJ7_copyOfRangeByte_39247 7 = .ok (.isub, 1) := by decide +kernel
theorem dJ7_copyOfRangeByte_39247_8 : decode cJ7_copyOfRangeByte_39247 8 = .ok (.istore_n 3, 1) := by decide +kernel
theorem dJ7_copyOfRangeByte_39247_9 : decode cJ7_copyOfRangeByte_39247 9 = .ok (.iload_n 3, 1) := by decide +kernel
theorem dJ7_copyOfRangeByte_39247_10 : decode cJ7_copyOfRangeByte_39247 10 = .ok (.newarray .byte, 2) := by decide +kernel
theorem dJ7_copyOfRangeByte_39247_12 : decode cJ7_copyOfRangeByte_39247 12 = .ok (.astore 4, 2) := by decide +kernel
theorem dJ7_copyOfRangeByte_39247_14 : decode cJ7_copyOfRangeByte_39247 14 = .ok (.aload_n 0, 1) := by decide +kernel
theorem dJ7_copyOfRangeByte_39247_15 : decode cJ7_copyOfRangeByte_39247 15 = .ok (.iload_n 1, 1) := by decide +kernel
theorem dJ7_copyOfRangeByte_39247_16 : decode cJ7_copyOfRangeByte_39247 16 = .ok (.aload 4, 2) := by decide +kernel
theorem dJ7_copyOfRangeByte_39247_18 : decode cJ7_copyOfRangeByte_39247 18 = .ok (.iconst 0, 1) := by decide +kernel
theorem dJ7_copyOfRangeByte_39247_19 : decode cJ7_copyOfRangeByte_39247 19 = .ok (.aload_n 0, 1) := by decide +kernel
theorem dJ7_copyOfRangeByte_39247_20 : decode cJ7_copyOfRangeByte_39247 20 = .ok (.arraylength, 1) := by decide +kernel
theorem dJ7_copyOfRangeByte_39247_21 : decode cJ7_copyOfRangeByte_39247 21 = .ok (.iload_n 1, 1) := by decide +kernel
theorem dJ7_copyOfRangeByte_39247_22 : decode cJ7_copyOfRangeByte_39247 22 = .ok (.isub, 1) := by decide +kernel
theorem dJ7_copyOfRangeByte_39247_23 : decode cJ7_copyOfRangeByte_39247 23 = .ok (.iload_n 3, 1) := by decide +kernel
theorem dJ7_copyOfRangeByte_39247_24 : decode cJ7_copyOfRangeByte_39247 24 = .ok (.invokestatic 304, 3) := by decide +kernel
theorem dJ7_copyOfRangeByte_39247_27 : decode cJ7_copyOfRangeByte_39247 27 = .ok (.invokestatic 150, 3) := by decide +kernel
theorem dJ7_copyOfRangeByte_39247_30 : decode cJ7_copyOfRangeByte_39247 30 = .ok (.aload 4, 2) := by decide +kernel
theorem dJ7_copyOfRangeByte_39247_32 : decode cJ7_copyOfRangeByte_39247 32 = .ok (.areturn, 1) := by decide +kernel
abbrev vwCl : List vw_C := [(RJ0, TJ0, 4), (RJ4, TJ4, 4), (RX0, TX0, 6), (RX1, TX1, 7), (RX2, TX2, 4), (RX3, TX3, 3), (RX4, TX4, 5), (RX5, TX5, 5), (RX6, TX6, 3), (RX7, TX7, 3), (RX8, TX8, 9), (RX9, TX9, 52)]
