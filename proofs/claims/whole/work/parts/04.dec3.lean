theorem dX8_agreesAt_0 : decode cX8_agreesAt 0 = .ok (.aload_n 1, 1) := by decide +kernel
theorem dX8_agreesAt_1 : decode cX8_agreesAt 1 = .ok (.getfield 163, 3) := by decide +kernel
theorem dX8_agreesAt_4 : decode cX8_agreesAt 4 = .ok (.iload_n 2, 1) := by decide +kernel
theorem dX8_agreesAt_5 : decode cX8_agreesAt 5 = .ok (.iaload, 1) := by decide +kernel
theorem dX8_agreesAt_6 : decode cX8_agreesAt 6 = .ok (.aload_n 0, 1) := by decide +kernel
theorem dX8_agreesAt_7 : decode cX8_agreesAt 7 = .ok (.getfield 12, 3) := by decide +kernel
theorem dX8_agreesAt_10 : decode cX8_agreesAt 10 = .ok (.getfield 91, 3) := by decide +kernel
theorem dX8_agreesAt_13 : decode cX8_agreesAt 13 = .ok (.iload_n 3, 1) := by decide +kernel
theorem dX8_agreesAt_14 : decode cX8_agreesAt 14 = .ok (.invokestatic 211, 3) := by decide +kernel
theorem dX8_agreesAt_17 : decode cX8_agreesAt 17 = .ok (.iaload, 1) := by decide +kernel
theorem dX8_agreesAt_18 : decode cX8_agreesAt 18 = .ok (.if_icmp .eq 5, 3) := by decide +kernel
theorem dX8_agreesAt_21 : decode cX8_agreesAt 21 = .ok (.iconst 0, 1) := by decide +kernel
theorem dX8_agreesAt_22 : decode cX8_agreesAt 22 = .ok (.ireturn, 1) := by decide +kernel
theorem dX8_agreesAt_23 : decode cX8_agreesAt 23 = .ok (.iconst 0, 1) := by decide +kernel
theorem dX8_agreesAt_24 : decode cX8_agreesAt 24 = .ok (.istore 4, 2) := by decide +kernel
theorem dX8_agreesAt_26 : decode cX8_agreesAt 26 = .ok (.iload 4, 2) := by decide +kernel
theorem dX8_agreesAt_28 : decode cX8_agreesAt 28 = .ok (.iconst 5, 1) := by decide +kernel
theorem dX8_agreesAt_29 : decode cX8_agreesAt 29 = .ok (.if_icmp .ge 91, 3) := by decide +kernel
theorem dX8_agreesAt_32 : decode cX8_agreesAt 32 = .ok (.aload_n 1, 1) := by decide +kernel
theorem dX8_agreesAt_33 : decode cX8_agreesAt 33 = .ok (.iload_n 2, 1) := by decide +kernel
theorem dX8_agreesAt_34 : decode cX8_agreesAt 34 = .ok (.iload 4, 2) := by decide +kernel
theorem dX8_agreesAt_36 : decode cX8_agreesAt 36 = .ok (.invokevirtual 159, 3) := by decide +kernel
theorem dX8_agreesAt_39 : decode cX8_agreesAt 39 = .ok (.istore 5, 2) := by decide +kernel
theorem dX8_agreesAt_41 : decode cX8_agreesAt 41 = .ok (.iload 5, 2) := by decide +kernel
theorem dX8_agreesAt_43 : decode cX8_agreesAt 43 = .ok (.bipush (-3), 2) := by decide +kernel
theorem dX8_agreesAt_45 : decode cX8_agreesAt 45 = .ok (.if_icmp .ne 6, 3) := by decide +kernel
theorem dX8_agreesAt_48 : decode cX8_agreesAt 48 = .ok (.goto 66, 3) := by decide +kernel
theorem dX8_agreesAt_51 : decode cX8_agreesAt 51 = .ok (.aload_n 0, 1) := by decide +kernel
theorem dX8_agreesAt_52 : decode cX8_agreesAt 52 = .ok (.getfield 12, 3) := by decide +kernel
theorem dX8_agreesAt_55 : decode cX8_agreesAt 55 = .ok (.iload_n 3, 1) := by decide +kernel
theorem dX8_agreesAt_56 : decode cX8_agreesAt 56 = .ok (.iload 4, 2) := by decide +kernel
theorem dX8_agreesAt_58 : decode cX8_agreesAt 58 = .ok (.invokevirtual 233, 3) := by decide +kernel
theorem dX8_agreesAt_61 : decode cX8_agreesAt 61 = .ok (.istore 6, 2) := by decide +kernel
theorem dX8_agreesAt_63 : decode cX8_agreesAt 63 = .ok (.iload 5, 2) := by decide +kernel
theorem dX8_agreesAt_65 : decode cX8_agreesAt 65 = .ok (.bipush (-2), 2) := by decide +kernel
theorem dX8_agreesAt_67 : decode cX8_agreesAt 67 = .ok (.if_icmp .ne 7, 3) := by decide +kernel
theorem dX8_agreesAt_70 : decode cX8_agreesAt 70 = .ok (.iconst 1, 1) := by decide +kernel
theorem dX8_agreesAt_71 : decode cX8_agreesAt 71 = .ok (.goto 4, 3) := by decide +kernel
theorem dX8_agreesAt_74 : decode cX8_agreesAt 74 = .ok (.iconst 0, 1) := by decide +kernel
theorem dX8_agreesAt_75 : decode cX8_agreesAt 75 = .ok (.iload 6, 2) := by decide +kernel
theorem dX8_agreesAt_77 : decode cX8_agreesAt 77 = .ok (.bipush (-2), 2) := by decide +kernel
theorem dX8_agreesAt_79 : decode cX8_agreesAt 79 = .ok (.if_icmp .ne 7, 3) := by decide +kernel
theorem dX8_agreesAt_82 : decode cX8_agreesAt 82 = .ok (.iconst 1, 1) := by decide +kernel
theorem dX8_agreesAt_83 : decode cX8_agreesAt 83 = .ok (.goto 4, 3) := by decide +kernel
theorem dX8_agreesAt_86 : decode cX8_agreesAt 86 = .ok (.iconst 0, 1) := by decide +kernel
theorem dX8_agreesAt_87 : decode cX8_agreesAt 87 = .ok (.if_icmp .eq 5, 3) := by decide +kernel
theorem dX8_agreesAt_90 : decode cX8_agreesAt 90 = .ok (.iconst 0, 1) := by decide +kernel
theorem dX8_agreesAt_91 : decode cX8_agreesAt 91 = .ok (.ireturn, 1) := by decide +kernel
theorem dX8_agreesAt_92 : decode cX8_agreesAt 92 = .ok (.iload 5, 2) := by decide +kernel
theorem dX8_agreesAt_94 : decode cX8_agreesAt 94 = .ok (.bipush (-2), 2) := by decide +kernel
theorem dX8_agreesAt_96 : decode cX8_agreesAt 96 = .ok (.if_icmp .eq 18, 3) := by decide +kernel
theorem dX8_agreesAt_99 : decode cX8_agreesAt 99 = .ok (.aload_n 0, 1) := by decide +kernel
theorem dX8_agreesAt_100 : decode cX8_agreesAt 100 = .ok (.getfield 54, 3) := by decide +kernel
theorem dX8_agreesAt_103 : decode cX8_agreesAt 103 = .ok (.iload 5, 2) := by decide +kernel
theorem dX8_agreesAt_105 : decode cX8_agreesAt 105 = .ok (.bipush 80, 2) := by decide +kernel
theorem dX8_agreesAt_107 : decode cX8_agreesAt 107 = .ok (.imul, 1) := by decide +kernel
theorem dX8_agreesAt_108 : decode cX8_agreesAt 108 = .ok (.iload 6, 2) := by decide +kernel
theorem dX8_agreesAt_110 : decode cX8_agreesAt 110 = .ok (.iadd, 1) := by decide +kernel
theorem dX8_agreesAt_111 : decode cX8_agreesAt 111 = .ok (.invokevirtual 223, 3) := by decide +kernel
theorem dX8_agreesAt_114 : decode cX8_agreesAt 114 = .ok (.iinc 4 1, 3) := by decide +kernel
theorem dX8_agreesAt_117 : decode cX8_agreesAt 117 = .ok (.goto (-91), 3) := by decide +kernel
theorem dX8_agreesAt_120 : decode cX8_agreesAt 120 = .ok (.iconst 1, 1) := by decide +kernel
theorem dX8_agreesAt_121 : decode cX8_agreesAt 121 = .ok (.ireturn, 1) := by decide +kernel
set_option maxRecDepth 20000 in
theorem ggX8_keepLead_X8_within : GoodIn wsX8_keepLead wsX8_within := goodIn_r _ [5] (by decide +kernel) (by decide +kernel)
set_option maxRecDepth 20000 in
theorem gX8_keepLead_X8_within : GoodIn wsX8_keepLead (va_wsS RX8 65 yX8_within wsX8_within) := goodIn_app (goodIn_of _ (by decide +kernel)) ggX8_keepLead_X8_within
set_option maxRecDepth 20000 in
theorem ggX8_keepLead_X5_holdLead : GoodIn wsX8_keepLead wsX5_holdLead := goodIn_r _ [9, 10, 11, 12, 29, 30, 31, 32, 33] (by decide +kernel) (by decide +kernel)
set_option maxRecDepth 20000 in
theorem gX8_keepLead_X5_holdLead_n315 : GoodIn wsX8_keepLead (wsX5_holdLead) := ggX8_keepLead_X5_holdLead
theorem dX8_keepLead_0 : decode cX8_keepLead 0 = .ok (.iload_n 2, 1) := by decide +kernel
theorem dX8_keepLead_1 : decode cX8_keepLead 1 = .ok (.aload_n 0, 1) := by decide +kernel
theorem dX8_keepLead_2 : decode cX8_keepLead 2 = .ok (.getfield 12, 3) := by decide +kernel
theorem dX8_keepLead_5 : decode cX8_keepLead 5 = .ok (.getfield 69, 3) := by decide +kernel
theorem dX8_keepLead_8 : decode cX8_keepLead 8 = .ok (.iconst 4, 1) := by decide +kernel
theorem dX8_keepLead_9 : decode cX8_keepLead 9 = .ok (.imul, 1) := by decide +kernel
theorem dX8_keepLead_10 : decode cX8_keepLead 10 = .ok (.invokestatic 65, 3) := by decide +kernel
theorem dX8_keepLead_13 : decode cX8_keepLead 13 = .ok (.ifCond .ne 5, 3) := by decide +kernel
theorem dX8_keepLead_16 : decode cX8_keepLead 16 = .ok (.iconst (-1), 1) := by decide +kernel
theorem dX8_keepLead_17 : decode cX8_keepLead 17 = .ok (.ireturn, 1) := by decide +kernel
theorem dX8_keepLead_18 : decode cX8_keepLead 18 = .ok (.aload_n 1, 1) := by decide +kernel
theorem dX8_keepLead_19 : decode cX8_keepLead 19 = .ok (.aload_n 0, 1) := by decide +kernel
theorem dX8_keepLead_20 : decode cX8_keepLead 20 = .ok (.getfield 12, 3) := by decide +kernel
theorem dX8_keepLead_23 : decode cX8_keepLead 23 = .ok (.getfield 309, 3) := by decide +kernel
theorem dX8_keepLead_26 : decode cX8_keepLead 26 = .ok (.iload_n 2, 1) := by decide +kernel
theorem dX8_keepLead_27 : decode cX8_keepLead 27 = .ok (.iaload, 1) := by decide +kernel
theorem dX8_keepLead_28 : decode cX8_keepLead 28 = .ok (.aload_n 0, 1) := by decide +kernel
theorem dX8_keepLead_29 : decode cX8_keepLead 29 = .ok (.getfield 12, 3) := by decide +kernel
theorem dX8_keepLead_32 : decode cX8_keepLead 32 = .ok (.getfield 312, 3) := by decide +kernel
theorem dX8_keepLead_35 : decode cX8_keepLead 35 = .ok (.iload_n 2, 1) := by decide +kernel
theorem dX8_keepLead_36 : decode cX8_keepLead 36 = .ok (.iaload, 1) := by decide +kernel
theorem dX8_keepLead_37 : decode cX8_keepLead 37 = .ok (.invokevirtual 315, 3) := by decide +kernel
theorem dX8_keepLead_40 : decode cX8_keepLead 40 = .ok (.iconst 0, 1) := by decide +kernel
theorem dX8_keepLead_41 : decode cX8_keepLead 41 = .ok (.ireturn, 1) := by decide +kernel
set_option maxRecDepth 20000 in
theorem ggX8_keepActs_X5_holdRow : GoodIn wsX8_keepActs wsX5_holdRow := goodIn_r _ [10, 11, 12, 13, 14, 15, 16, 17, 30, 31, 32, 33, 34] (by decide +kernel) (by decide +kernel)
set_option maxRecDepth 20000 in
theorem gX8_keepActs_X5_holdRow_n250 : GoodIn wsX8_keepActs (wsX5_holdRow) := ggX8_keepActs_X5_holdRow
theorem dX8_keepActs_0 : decode cX8_keepActs 0 = .ok (.aload_n 0, 1) := by decide +kernel
theorem dX8_keepActs_1 : decode cX8_keepActs 1 = .ok (.getfield 81, 3) := by decide +kernel
theorem dX8_keepActs_4 : decode cX8_keepActs 4 = .ok (.ifCond .ne 5, 3) := by decide +kernel
theorem dX8_keepActs_7 : decode cX8_keepActs 7 = .ok (.iconst (-1), 1) := by decide +kernel
theorem dX8_keepActs_8 : decode cX8_keepActs 8 = .ok (.ireturn, 1) := by decide +kernel
theorem dX8_keepActs_9 : decode cX8_keepActs 9 = .ok (.aload_n 0, 1) := by decide +kernel
theorem dX8_keepActs_10 : decode cX8_keepActs 10 = .ok (.getfield 19, 3) := by decide +kernel
theorem dX8_keepActs_13 : decode cX8_keepActs 13 = .ok (.getfield 88, 3) := by decide +kernel
theorem dX8_keepActs_16 : decode cX8_keepActs 16 = .ok (.bipush 60, 2) := by decide +kernel
theorem dX8_keepActs_18 : decode cX8_keepActs 18 = .ok (.invokestatic 318, 3) := by decide +kernel
theorem dX8_keepActs_21 : decode cX8_keepActs 21 = .ok (.istore_n 2, 1) := by decide +kernel
theorem dX8_keepActs_22 : decode cX8_keepActs 22 = .ok (.aload_n 1, 1) := by decide +kernel
theorem dX8_keepActs_23 : decode cX8_keepActs 23 = .ok (.iconst 3, 1) := by decide +kernel
theorem dX8_keepActs_24 : decode cX8_keepActs 24 = .ok (.iload_n 2, 1) := by decide +kernel
theorem dX8_keepActs_25 : decode cX8_keepActs 25 = .ok (.invokevirtual 250, 3) := by decide +kernel
theorem dX8_keepActs_28 : decode cX8_keepActs 28 = .ok (.iconst 0, 1) := by decide +kernel
theorem dX8_keepActs_29 : decode cX8_keepActs 29 = .ok (.istore_n 3, 1) := by decide +kernel
theorem dX8_keepActs_30 : decode cX8_keepActs 30 = .ok (.iload_n 3, 1) := by decide +kernel
theorem dX8_keepActs_31 : decode cX8_keepActs 31 = .ok (.iload_n 2, 1) := by decide +kernel
theorem dX8_keepActs_32 : decode cX8_keepActs 32 = .ok (.if_icmp .ge 35, 3) := by decide +kernel
theorem dX8_keepActs_35 : decode cX8_keepActs 35 = .ok (.aload_n 1, 1) := by decide +kernel
theorem dX8_keepActs_36 : decode cX8_keepActs 36 = .ok (.getfield 271, 3) := by decide +kernel
theorem dX8_keepActs_39 : decode cX8_keepActs 39 = .ok (.iload_n 3, 1) := by decide +kernel
theorem dX8_keepActs_40 : decode cX8_keepActs 40 = .ok (.aload_n 0, 1) := by decide +kernel
theorem dX8_keepActs_41 : decode cX8_keepActs 41 = .ok (.getfield 19, 3) := by decide +kernel
theorem dX8_keepActs_44 : decode cX8_keepActs 44 = .ok (.getfield 132, 3) := by decide +kernel
theorem dX8_keepActs_47 : decode cX8_keepActs 47 = .ok (.aload_n 0, 1) := by decide +kernel
theorem dX8_keepActs_48 : decode cX8_keepActs 48 = .ok (.getfield 19, 3) := by decide +kernel
theorem dX8_keepActs_51 : decode cX8_keepActs 51 = .ok (.getfield 88, 3) := by decide +kernel
theorem dX8_keepActs_54 : decode cX8_keepActs 54 = .ok (.iload_n 2, 1) := by decide +kernel
theorem dX8_keepActs_55 : decode cX8_keepActs 55 = .ok (.isub, 1) := by decide +kernel
theorem dX8_keepActs_56 : decode cX8_keepActs 56 = .ok (.iload_n 3, 1) := by decide +kernel
theorem dX8_keepActs_57 : decode cX8_keepActs 57 = .ok (.iadd, 1) := by decide +kernel
theorem dX8_keepActs_58 : decode cX8_keepActs 58 = .ok (.iaload, 1) := by decide +kernel
theorem dX8_keepActs_59 : decode cX8_keepActs 59 = .ok (.i2l, 1) := by decide +kernel
theorem dX8_keepActs_60 : decode cX8_keepActs 60 = .ok (.lastore, 1) := by decide +kernel
theorem dX8_keepActs_61 : decode cX8_keepActs 61 = .ok (.iinc 3 1, 3) := by decide +kernel
theorem dX8_keepActs_64 : decode cX8_keepActs 64 = .ok (.goto (-34), 3) := by decide +kernel
theorem dX8_keepActs_67 : decode cX8_keepActs 67 = .ok (.iconst 0, 1) := by decide +kernel
theorem dX8_keepActs_68 : decode cX8_keepActs 68 = .ok (.ireturn, 1) := by decide +kernel
set_option maxRecDepth 20000 in
theorem ggX8_keepSigns_X8_within : GoodIn wsX8_keepSigns wsX8_within := goodIn_r _ [5] (by decide +kernel) (by decide +kernel)
set_option maxRecDepth 20000 in
theorem gX8_keepSigns_X8_within : GoodIn wsX8_keepSigns (va_wsS RX8 65 yX8_within wsX8_within) := goodIn_app (goodIn_of _ (by decide +kernel)) ggX8_keepSigns_X8_within
set_option maxRecDepth 20000 in
theorem ggX8_keepSigns_X5_holdRow : GoodIn wsX8_keepSigns wsX5_holdRow := goodIn_r _ [9, 10, 11, 12, 13, 14, 15, 16, 37, 38, 39, 40, 41] (by decide +kernel) (by decide +kernel)
set_option maxRecDepth 20000 in
theorem gX8_keepSigns_X5_holdRow_n250 : GoodIn wsX8_keepSigns (wsX5_holdRow) := ggX8_keepSigns_X5_holdRow
theorem dX8_keepSigns_0 : decode cX8_keepSigns 0 = .ok (.iload_n 2, 1) := by decide +kernel
theorem dX8_keepSigns_1 : decode cX8_keepSigns 1 = .ok (.aload_n 0, 1) := by decide +kernel
theorem dX8_keepSigns_2 : decode cX8_keepSigns 2 = .ok (.getfield 26, 3) := by decide +kernel
theorem dX8_keepSigns_5 : decode cX8_keepSigns 5 = .ok (.getfield 139, 3) := by decide +kernel
theorem dX8_keepSigns_8 : decode cX8_keepSigns 8 = .ok (.invokestatic 65, 3) := by decide +kernel
theorem dX8_keepSigns_11 : decode cX8_keepSigns 11 = .ok (.ifCond .ne 5, 3) := by decide +kernel
theorem dX8_keepSigns_14 : decode cX8_keepSigns 14 = .ok (.iconst (-1), 1) := by decide +kernel
theorem dX8_keepSigns_15 : decode cX8_keepSigns 15 = .ok (.ireturn, 1) := by decide +kernel
theorem dX8_keepSigns_16 : decode cX8_keepSigns 16 = .ok (.aload_n 0, 1) := by decide +kernel
theorem dX8_keepSigns_17 : decode cX8_keepSigns 17 = .ok (.getfield 26, 3) := by decide +kernel
theorem dX8_keepSigns_20 : decode cX8_keepSigns 20 = .ok (.getfield 142, 3) := by decide +kernel
theorem dX8_keepSigns_23 : decode cX8_keepSigns 23 = .ok (.iload_n 2, 1) := by decide +kernel
theorem dX8_keepSigns_24 : decode cX8_keepSigns 24 = .ok (.aaload, 1) := by decide +kernel
theorem dX8_keepSigns_25 : decode cX8_keepSigns 25 = .ok (.astore_n 3, 1) := by decide +kernel
theorem dX8_keepSigns_26 : decode cX8_keepSigns 26 = .ok (.aload_n 1, 1) := by decide +kernel
theorem dX8_keepSigns_27 : decode cX8_keepSigns 27 = .ok (.iconst 4, 1) := by decide +kernel
theorem dX8_keepSigns_28 : decode cX8_keepSigns 28 = .ok (.aload_n 3, 1) := by decide +kernel
theorem dX8_keepSigns_29 : decode cX8_keepSigns 29 = .ok (.getfield 146, 3) := by decide +kernel
theorem dX8_keepSigns_32 : decode cX8_keepSigns 32 = .ok (.invokevirtual 250, 3) := by decide +kernel
theorem dX8_keepSigns_35 : decode cX8_keepSigns 35 = .ok (.iconst 0, 1) := by decide +kernel
theorem dX8_keepSigns_36 : decode cX8_keepSigns 36 = .ok (.istore 4, 2) := by decide +kernel
theorem dX8_keepSigns_38 : decode cX8_keepSigns 38 = .ok (.iload 4, 2) := by decide +kernel
theorem dX8_keepSigns_40 : decode cX8_keepSigns 40 = .ok (.aload_n 3, 1) := by decide +kernel
theorem dX8_keepSigns_41 : decode cX8_keepSigns 41 = .ok (.getfield 146, 3) := by decide +kernel
theorem dX8_keepSigns_44 : decode cX8_keepSigns 44 = .ok (.if_icmp .ge 24, 3) := by decide +kernel
theorem dX8_keepSigns_47 : decode cX8_keepSigns 47 = .ok (.aload_n 1, 1) := by decide +kernel
theorem dX8_keepSigns_48 : decode cX8_keepSigns 48 = .ok (.getfield 271, 3) := by decide +kernel
theorem dX8_keepSigns_51 : decode cX8_keepSigns 51 = .ok (.iload 4, 2) := by decide +kernel
theorem dX8_keepSigns_53 : decode cX8_keepSigns 53 = .ok (.aload_n 3, 1) := by decide +kernel
theorem dX8_keepSigns_54 : decode cX8_keepSigns 54 = .ok (.getfield 163, 3) := by decide +kernel
theorem dX8_keepSigns_57 : decode cX8_keepSigns 57 = .ok (.iload 4, 2) := by decide +kernel
theorem dX8_keepSigns_59 : decode cX8_keepSigns 59 = .ok (.iaload, 1) := by decide +kernel
theorem dX8_keepSigns_60 : decode cX8_keepSigns 60 = .ok (.i2l, 1) := by decide +kernel
theorem dX8_keepSigns_61 : decode cX8_keepSigns 61 = .ok (.lastore, 1) := by decide +kernel
theorem dX8_keepSigns_62 : decode cX8_keepSigns 62 = .ok (.iinc 4 1, 3) := by decide +kernel
theorem dX8_keepSigns_65 : decode cX8_keepSigns 65 = .ok (.goto (-27), 3) := by decide +kernel
theorem dX8_keepSigns_68 : decode cX8_keepSigns 68 = .ok (.iconst 0, 1) := by decide +kernel
theorem dX8_keepSigns_69 : decode cX8_keepSigns 69 = .ok (.ireturn, 1) := by decide +kernel
theorem dX9_init_0 : decode cX9_init 0 = .ok (.aload_n 0, 1) := by decide +kernel
theorem dX9_init_1 : decode cX9_init 1 = .ok (.invokespecial 1, 3) := by decide +kernel
theorem dX9_init_4 : decode cX9_init 4 = .ok (.aload_n 0, 1) := by decide +kernel
theorem dX9_init_5 : decode cX9_init 5 = .ok (.bipush 10, 2) := by decide +kernel
theorem dX9_init_7 : decode cX9_init 7 = .ok (.newarray .int, 2) := by decide +kernel
theorem dX9_init_9 : decode cX9_init 9 = .ok (.putfield 7, 3) := by decide +kernel
theorem dX9_init_12 : decode cX9_init 12 = .ok (.aload_n 0, 1) := by decide +kernel
theorem dX9_init_13 : decode cX9_init 13 = .ok (.bipush 10, 2) := by decide +kernel
theorem dX9_init_15 : decode cX9_init 15 = .ok (.newarray .boolean, 2) := by decide +kernel
theorem dX9_init_17 : decode cX9_init 17 = .ok (.putfield 13, 3) := by decide +kernel
theorem dX9_init_20 : decode cX9_init 20 = .ok (.aload_n 0, 1) := by decide +kernel
theorem dX9_init_21 : decode cX9_init 21 = .ok (.bipush 40, 2) := by decide +kernel
theorem dX9_init_23 : decode cX9_init 23 = .ok (.newarray .int, 2) := by decide +kernel
theorem dX9_init_25 : decode cX9_init 25 = .ok (.putfield 17, 3) := by decide +kernel
theorem dX9_init_28 : decode cX9_init 28 = .ok (.aload_n 0, 1) := by decide +kernel
theorem dX9_init_29 : decode cX9_init 29 = .ok (.bipush 40, 2) := by decide +kernel
theorem dX9_init_31 : decode cX9_init 31 = .ok (.newarray .int, 2) := by decide +kernel
theorem dX9_init_33 : decode cX9_init 33 = .ok (.putfield 20, 3) := by decide +kernel
theorem dX9_init_36 : decode cX9_init 36 = .ok (.aload_n 0, 1) := by decide +kernel
theorem dX9_init_37 : decode cX9_init 37 = .ok (.sipush 200, 3) := by decide +kernel
theorem dX9_init_40 : decode cX9_init 40 = .ok (.newarray .int, 2) := by decide +kernel
theorem dX9_init_42 : decode cX9_init 42 = .ok (.putfield 23, 3) := by decide +kernel
theorem dX9_init_45 : decode cX9_init 45 = .ok (.aload_n 0, 1) := by decide +kernel
theorem dX9_init_46 : decode cX9_init 46 = .ok (.sipush 200, 3) := by decide +kernel
theorem dX9_init_49 : decode cX9_init 49 = .ok (.newarray .int, 2) := by decide +kernel
theorem dX9_init_51 : decode cX9_init 51 = .ok (.putfield 26, 3) := by decide +kernel
theorem dX9_init_54 : decode cX9_init 54 = .ok (.aload_n 0, 1) := by decide +kernel
theorem dX9_init_55 : decode cX9_init 55 = .ok (.sipush 200, 3) := by decide +kernel
theorem dX9_init_58 : decode cX9_init 58 = .ok (.newarray .int, 2) := by decide +kernel
theorem dX9_init_60 : decode cX9_init 60 = .ok (.putfield 29, 3) := by decide +kernel
theorem dX9_init_63 : decode cX9_init 63 = .ok (.aload_n 0, 1) := by decide +kernel
theorem dX9_init_64 : decode cX9_init 64 = .ok (.sipush 200, 3) := by decide +kernel
theorem dX9_init_67 : decode cX9_init 67 = .ok (.newarray .int, 2) := by decide +kernel
theorem dX9_init_69 : decode cX9_init 69 = .ok (.putfield 32, 3) := by decide +kernel
theorem dX9_init_72 : decode cX9_init 72 = .ok (.aload_n 0, 1) := by decide +kernel
theorem dX9_init_73 : decode cX9_init 73 = .ok (.sipush 150, 3) := by decide +kernel
theorem dX9_init_76 : decode cX9_init 76 = .ok (.newarray .int, 2) := by decide +kernel
theorem dX9_init_78 : decode cX9_init 78 = .ok (.putfield 35, 3) := by decide +kernel
theorem dX9_init_81 : decode cX9_init 81 = .ok (.aload_n 0, 1) := by decide +kernel
theorem dX9_init_82 : decode cX9_init 82 = .ok (.sipush 900, 3) := by decide +kernel
theorem dX9_init_85 : decode cX9_init 85 = .ok (.newarray .int, 2) := by decide +kernel
theorem dX9_init_87 : decode cX9_init 87 = .ok (.putfield 38, 3) := by decide +kernel
theorem dX9_init_90 : decode cX9_init 90 = .ok (.aload_n 0, 1) := by decide +kernel
theorem dX9_init_91 : decode cX9_init 91 = .ok (.sipush 4500, 3) := by decide +kernel
theorem dX9_init_94 : decode cX9_init 94 = .ok (.newarray .int, 2) := by decide +kernel
theorem dX9_init_96 : decode cX9_init 96 = .ok (.putfield 41, 3) := by decide +kernel
theorem dX9_init_99 : decode cX9_init 99 = .ok (.aload_n 0, 1) := by decide +kernel
theorem dX9_init_100 : decode cX9_init 100 = .ok (.sipush 150, 3) := by decide +kernel
theorem dX9_init_103 : decode cX9_init 103 = .ok (.newarray .int, 2) := by decide +kernel
theorem dX9_init_105 : decode cX9_init 105 = .ok (.putfield 44, 3) := by decide +kernel
theorem dX9_init_108 : decode cX9_init 108 = .ok (.aload_n 0, 1) := by decide +kernel
theorem dX9_init_109 : decode cX9_init 109 = .ok (.sipush 150, 3) := by decide +kernel
theorem dX9_init_112 : decode cX9_init 112 = .ok (.newarray .int, 2) := by decide +kernel
theorem dX9_init_114 : decode cX9_init 114 = .ok (.putfield 47, 3) := by decide +kernel
theorem dX9_init_117 : decode cX9_init 117 = .ok (.aload_n 0, 1) := by decide +kernel
theorem dX9_init_118 : decode cX9_init 118 = .ok (.sipush 30150, 3) := by decide +kernel
theorem dX9_init_121 : decode cX9_init 121 = .ok (.newarray .byte, 2) := by decide +kernel
theorem dX9_init_123 : decode cX9_init 123 = .ok (.putfield 50, 3) := by decide +kernel
theorem dX9_init_126 : decode cX9_init 126 = .ok (.aload_n 0, 1) := by decide +kernel
theorem dX9_init_127 : decode cX9_init 127 = .ok (.sipush 150, 3) := by decide +kernel
theorem dX9_init_130 : decode cX9_init 130 = .ok (.newarray .int, 2) := by decide +kernel
theorem dX9_init_132 : decode cX9_init 132 = .ok (.putfield 54, 3) := by decide +kernel
theorem dX9_init_135 : decode cX9_init 135 = .ok (.aload_n 0, 1) := by decide +kernel
theorem dX9_init_136 : decode cX9_init 136 = .ok (.sipush 900, 3) := by decide +kernel
theorem dX9_init_139 : decode cX9_init 139 = .ok (.newarray .int, 2) := by decide +kernel
theorem dX9_init_141 : decode cX9_init 141 = .ok (.putfield 57, 3) := by decide +kernel
theorem dX9_init_144 : decode cX9_init 144 = .ok (.aload_n 0, 1) := by decide +kernel
theorem dX9_init_145 : decode cX9_init 145 = .ok (.sipush 4500, 3) := by decide +kernel
theorem dX9_init_148 : decode cX9_init 148 = .ok (.newarray .int, 2) := by decide +kernel
theorem dX9_init_150 : decode cX9_init 150 = .ok (.putfield 60, 3) := by decide +kernel
theorem dX9_init_153 : decode cX9_init 153 = .ok (.aload_n 0, 1) := by decide +kernel
theorem dX9_init_154 : decode cX9_init 154 = .ok (.sipush 150, 3) := by decide +kernel
theorem dX9_init_157 : decode cX9_init 157 = .ok (.newarray .int, 2) := by decide +kernel
theorem dX9_init_159 : decode cX9_init 159 = .ok (.putfield 63, 3) := by decide +kernel
theorem dX9_init_162 : decode cX9_init 162 = .ok (.aload_n 0, 1) := by decide +kernel
theorem dX9_init_163 : decode cX9_init 163 = .ok (.sipush 150, 3) := by decide +kernel
theorem dX9_init_166 : decode cX9_init 166 = .ok (.newarray .int, 2) := by decide +kernel
theorem dX9_init_168 : decode cX9_init 168 = .ok (.putfield 66, 3) := by decide +kernel
theorem dX9_init_171 : decode cX9_init 171 = .ok (.aload_n 0, 1) := by decide +kernel
theorem dX9_init_172 : decode cX9_init 172 = .ok (.sipush 30150, 3) := by decide +kernel
theorem dX9_init_175 : decode cX9_init 175 = .ok (.newarray .byte, 2) := by decide +kernel
theorem dX9_init_177 : decode cX9_init 177 = .ok (.putfield 69, 3) := by decide +kernel
theorem dX9_init_180 : decode cX9_init 180 = .ok (.aload_n 0, 1) := by decide +kernel
theorem dX9_init_181 : decode cX9_init 181 = .ok (.bipush 6, 2) := by decide +kernel
theorem dX9_init_183 : decode cX9_init 183 = .ok (.newarray .int, 2) := by decide +kernel
theorem dX9_init_185 : decode cX9_init 185 = .ok (.putfield 72, 3) := by decide +kernel
theorem dX9_init_188 : decode cX9_init 188 = .ok (.aload_n 0, 1) := by decide +kernel
theorem dX9_init_189 : decode cX9_init 189 = .ok (.sipush 900, 3) := by decide +kernel
theorem dX9_init_192 : decode cX9_init 192 = .ok (.newarray .int, 2) := by decide +kernel
theorem dX9_init_194 : decode cX9_init 194 = .ok (.putfield 75, 3) := by decide +kernel
theorem dX9_init_197 : decode cX9_init 197 = .ok (.aload_n 0, 1) := by decide +kernel
theorem dX9_init_198 : decode cX9_init 198 = .ok (.bipush 6, 2) := by decide +kernel
theorem dX9_init_200 : decode cX9_init 200 = .ok (.newarray .int, 2) := by decide +kernel
theorem dX9_init_202 : decode cX9_init 202 = .ok (.putfield 78, 3) := by decide +kernel
theorem dX9_init_205 : decode cX9_init 205 = .ok (.aload_n 0, 1) := by decide +kernel
theorem dX9_init_206 : decode cX9_init 206 = .ok (.bipush 6, 2) := by decide +kernel
theorem dX9_init_208 : decode cX9_init 208 = .ok (.newarray .int, 2) := by decide +kernel
theorem dX9_init_210 : decode cX9_init 210 = .ok (.putfield 81, 3) := by decide +kernel
theorem dX9_init_213 : decode cX9_init 213 = .ok (.aload_n 0, 1) := by decide +kernel
theorem dX9_init_214 : decode cX9_init 214 = .ok (.bipush 30, 2) := by decide +kernel
theorem dX9_init_216 : decode cX9_init 216 = .ok (.newarray .int, 2) := by decide +kernel
theorem dX9_init_218 : decode cX9_init 218 = .ok (.dup, 1) := by decide +kernel
theorem dX9_init_219 : decode cX9_init 219 = .ok (.iconst 0, 1) := by decide +kernel
theorem dX9_init_220 : decode cX9_init 220 = .ok (.bipush 7, 2) := by decide +kernel
theorem dX9_init_222 : decode cX9_init 222 = .ok (.iastore, 1) := by decide +kernel
theorem dX9_init_223 : decode cX9_init 223 = .ok (.dup, 1) := by decide +kernel
theorem dX9_init_224 : decode cX9_init 224 = .ok (.iconst 1, 1) := by decide +kernel
theorem dX9_init_225 : decode cX9_init 225 = .ok (.bipush 7, 2) := by decide +kernel
theorem dX9_init_227 : decode cX9_init 227 = .ok (.iastore, 1) := by decide +kernel
theorem dX9_init_228 : decode cX9_init 228 = .ok (.dup, 1) := by decide +kernel
theorem dX9_init_229 : decode cX9_init 229 = .ok (.iconst 2, 1) := by decide +kernel
theorem dX9_init_230 : decode cX9_init 230 = .ok (.bipush 7, 2) := by decide +kernel
theorem dX9_init_232 : decode cX9_init 232 = .ok (.iastore, 1) := by decide +kernel
theorem dX9_init_233 : decode cX9_init 233 = .ok (.dup, 1) := by decide +kernel
theorem dX9_init_234 : decode cX9_init 234 = .ok (.iconst 3, 1) := by decide +kernel
theorem dX9_init_235 : decode cX9_init 235 = .ok (.bipush 7, 2) := by decide +kernel
theorem dX9_init_237 : decode cX9_init 237 = .ok (.iastore, 1) := by decide +kernel
theorem dX9_init_238 : decode cX9_init 238 = .ok (.dup, 1) := by decide +kernel
theorem dX9_init_239 : decode cX9_init 239 = .ok (.iconst 4, 1) := by decide +kernel
theorem dX9_init_240 : decode cX9_init 240 = .ok (.bipush 7, 2) := by decide +kernel
theorem dX9_init_242 : decode cX9_init 242 = .ok (.iastore, 1) := by decide +kernel
theorem dX9_init_243 : decode cX9_init 243 = .ok (.dup, 1) := by decide +kernel
theorem dX9_init_244 : decode cX9_init 244 = .ok (.iconst 5, 1) := by decide +kernel
theorem dX9_init_245 : decode cX9_init 245 = .ok (.bipush 7, 2) := by decide +kernel
theorem dX9_init_247 : decode cX9_init 247 = .ok (.iastore, 1) := by decide +kernel
theorem dX9_init_248 : decode cX9_init 248 = .ok (.dup, 1) := by decide +kernel
theorem dX9_init_249 : decode cX9_init 249 = .ok (.bipush 6, 2) := by decide +kernel
theorem dX9_init_251 : decode cX9_init 251 = .ok (.bipush 7, 2) := by decide +kernel
theorem dX9_init_253 : decode cX9_init 253 = .ok (.iastore, 1) := by decide +kernel
theorem dX9_init_254 : decode cX9_init 254 = .ok (.dup, 1) := by decide +kernel
theorem dX9_init_255 : decode cX9_init 255 = .ok (.bipush 7, 2) := by decide +kernel
theorem dX9_init_257 : decode cX9_init 257 = .ok (.bipush 7, 2) := by decide +kernel
theorem dX9_init_259 : decode cX9_init 259 = .ok (.iastore, 1) := by decide +kernel
theorem dX9_init_260 : decode cX9_init 260 = .ok (.dup, 1) := by decide +kernel
theorem dX9_init_261 : decode cX9_init 261 = .ok (.bipush 8, 2) := by decide +kernel
theorem dX9_init_263 : decode cX9_init 263 = .ok (.bipush 7, 2) := by decide +kernel
theorem dX9_init_265 : decode cX9_init 265 = .ok (.iastore, 1) := by decide +kernel
theorem dX9_init_266 : decode cX9_init 266 = .ok (.dup, 1) := by decide +kernel
theorem dX9_init_267 : decode cX9_init 267 = .ok (.bipush 9, 2) := by decide +kernel
theorem dX9_init_269 : decode cX9_init 269 = .ok (.bipush 7, 2) := by decide +kernel
theorem dX9_init_271 : decode cX9_init 271 = .ok (.iastore, 1) := by decide +kernel
theorem dX9_init_272 : decode cX9_init 272 = .ok (.dup, 1) := by decide +kernel
theorem dX9_init_273 : decode cX9_init 273 = .ok (.bipush 10, 2) := by decide +kernel
theorem dX9_init_275 : decode cX9_init 275 = .ok (.bipush 7, 2) := by decide +kernel
theorem dX9_init_277 : decode cX9_init 277 = .ok (.iastore, 1) := by decide +kernel
theorem dX9_init_278 : decode cX9_init 278 = .ok (.dup, 1) := by decide +kernel
theorem dX9_init_279 : decode cX9_init 279 = .ok (.bipush 11, 2) := by decide +kernel
theorem dX9_init_281 : decode cX9_init 281 = .ok (.bipush 7, 2) := by decide +kernel
theorem dX9_init_283 : decode cX9_init 283 = .ok (.iastore, 1) := by decide +kernel
theorem dX9_init_284 : decode cX9_init 284 = .ok (.dup, 1) := by decide +kernel
theorem dX9_init_285 : decode cX9_init 285 = .ok (.bipush 12, 2) := by decide +kernel
theorem dX9_init_287 : decode cX9_init 287 = .ok (.bipush 7, 2) := by decide +kernel
theorem dX9_init_289 : decode cX9_init 289 = .ok (.iastore, 1) := by decide +kernel
theorem dX9_init_290 : decode cX9_init 290 = .ok (.dup, 1) := by decide +kernel
theorem dX9_init_291 : decode cX9_init 291 = .ok (.bipush 13, 2) := by decide +kernel
theorem dX9_init_293 : decode cX9_init 293 = .ok (.bipush 7, 2) := by decide +kernel
theorem dX9_init_295 : decode cX9_init 295 = .ok (.iastore, 1) := by decide +kernel
theorem dX9_init_296 : decode cX9_init 296 = .ok (.dup, 1) := by decide +kernel
theorem dX9_init_297 : decode cX9_init 297 = .ok (.bipush 14, 2) := by decide +kernel
theorem dX9_init_299 : decode cX9_init 299 = .ok (.bipush 7, 2) := by decide +kernel
theorem dX9_init_301 : decode cX9_init 301 = .ok (.iastore, 1) := by decide +kernel
theorem dX9_init_302 : decode cX9_init 302 = .ok (.dup, 1) := by decide +kernel
theorem dX9_init_303 : decode cX9_init 303 = .ok (.bipush 15, 2) := by decide +kernel
theorem dX9_init_305 : decode cX9_init 305 = .ok (.bipush 7, 2) := by decide +kernel
theorem dX9_init_307 : decode cX9_init 307 = .ok (.iastore, 1) := by decide +kernel
theorem dX9_init_308 : decode cX9_init 308 = .ok (.dup, 1) := by decide +kernel
theorem dX9_init_309 : decode cX9_init 309 = .ok (.bipush 16, 2) := by decide +kernel
theorem dX9_init_311 : decode cX9_init 311 = .ok (.bipush 7, 2) := by decide +kernel
theorem dX9_init_313 : decode cX9_init 313 = .ok (.iastore, 1) := by decide +kernel
theorem dX9_init_314 : decode cX9_init 314 = .ok (.dup, 1) := by decide +kernel
theorem dX9_init_315 : decode cX9_init 315 = .ok (.bipush 17, 2) := by decide +kernel
theorem dX9_init_317 : decode cX9_init 317 = .ok (.bipush 7, 2) := by decide +kernel
theorem dX9_init_319 : decode cX9_init 319 = .ok (.iastore, 1) := by decide +kernel
theorem dX9_init_320 : decode cX9_init 320 = .ok (.dup, 1) := by decide +kernel
theorem dX9_init_321 : decode cX9_init 321 = .ok (.bipush 18, 2) := by decide +kernel
theorem dX9_init_323 : decode cX9_init 323 = .ok (.bipush 7, 2) := by decide +kernel
theorem dX9_init_325 : decode cX9_init 325 = .ok (.iastore, 1) := by decide +kernel
theorem dX9_init_326 : decode cX9_init 326 = .ok (.dup, 1) := by decide +kernel
theorem dX9_init_327 : decode cX9_init 327 = .ok (.bipush 19, 2) := by decide +kernel
theorem dX9_init_329 : decode cX9_init 329 = .ok (.bipush 7, 2) := by decide +kernel
theorem dX9_init_331 : decode cX9_init 331 = .ok (.iastore, 1) := by decide +kernel
theorem dX9_init_332 : decode cX9_init 332 = .ok (.dup, 1) := by decide +kernel
theorem dX9_init_333 : decode cX9_init 333 = .ok (.bipush 20, 2) := by decide +kernel
theorem dX9_init_335 : decode cX9_init 335 = .ok (.bipush 7, 2) := by decide +kernel
theorem dX9_init_337 : decode cX9_init 337 = .ok (.iastore, 1) := by decide +kernel
theorem dX9_init_338 : decode cX9_init 338 = .ok (.dup, 1) := by decide +kernel
theorem dX9_init_339 : decode cX9_init 339 = .ok (.bipush 21, 2) := by decide +kernel
theorem dX9_init_341 : decode cX9_init 341 = .ok (.bipush 7, 2) := by decide +kernel
theorem dX9_init_343 : decode cX9_init 343 = .ok (.iastore, 1) := by decide +kernel
theorem dX9_init_344 : decode cX9_init 344 = .ok (.dup, 1) := by decide +kernel
theorem dX9_init_345 : decode cX9_init 345 = .ok (.bipush 22, 2) := by decide +kernel
theorem dX9_init_347 : decode cX9_init 347 = .ok (.bipush 7, 2) := by decide +kernel
theorem dX9_init_349 : decode cX9_init 349 = .ok (.iastore, 1) := by decide +kernel
theorem dX9_init_350 : decode cX9_init 350 = .ok (.dup, 1) := by decide +kernel
theorem dX9_init_351 : decode cX9_init 351 = .ok (.bipush 23, 2) := by decide +kernel
theorem dX9_init_353 : decode cX9_init 353 = .ok (.bipush 7, 2) := by decide +kernel
theorem dX9_init_355 : decode cX9_init 355 = .ok (.iastore, 1) := by decide +kernel
theorem dX9_init_356 : decode cX9_init 356 = .ok (.dup, 1) := by decide +kernel
theorem dX9_init_357 : decode cX9_init 357 = .ok (.bipush 24, 2) := by decide +kernel
theorem dX9_init_359 : decode cX9_init 359 = .ok (.bipush 7, 2) := by decide +kernel
theorem dX9_init_361 : decode cX9_init 361 = .ok (.iastore, 1) := by decide +kernel
theorem dX9_init_362 : decode cX9_init 362 = .ok (.dup, 1) := by decide +kernel
theorem dX9_init_363 : decode cX9_init 363 = .ok (.bipush 25, 2) := by decide +kernel
theorem dX9_init_365 : decode cX9_init 365 = .ok (.bipush 7, 2) := by decide +kernel
theorem dX9_init_367 : decode cX9_init 367 = .ok (.iastore, 1) := by decide +kernel
theorem dX9_init_368 : decode cX9_init 368 = .ok (.dup, 1) := by decide +kernel
theorem dX9_init_369 : decode cX9_init 369 = .ok (.bipush 26, 2) := by decide +kernel
theorem dX9_init_371 : decode cX9_init 371 = .ok (.bipush 7, 2) := by decide +kernel
theorem dX9_init_373 : decode cX9_init 373 = .ok (.iastore, 1) := by decide +kernel
theorem dX9_init_374 : decode cX9_init 374 = .ok (.dup, 1) := by decide +kernel
theorem dX9_init_375 : decode cX9_init 375 = .ok (.bipush 27, 2) := by decide +kernel
theorem dX9_init_377 : decode cX9_init 377 = .ok (.bipush 7, 2) := by decide +kernel
theorem dX9_init_379 : decode cX9_init 379 = .ok (.iastore, 1) := by decide +kernel
theorem dX9_init_380 : decode cX9_init 380 = .ok (.dup, 1) := by decide +kernel
theorem dX9_init_381 : decode cX9_init 381 = .ok (.bipush 28, 2) := by decide +kernel
theorem dX9_init_383 : decode cX9_init 383 = .ok (.bipush 7, 2) := by decide +kernel
theorem dX9_init_385 : decode cX9_init 385 = .ok (.iastore, 1) := by decide +kernel
theorem dX9_init_386 : decode cX9_init 386 = .ok (.dup, 1) := by decide +kernel
theorem dX9_init_387 : decode cX9_init 387 = .ok (.bipush 29, 2) := by decide +kernel
theorem dX9_init_389 : decode cX9_init 389 = .ok (.bipush 7, 2) := by decide +kernel
theorem dX9_init_391 : decode cX9_init 391 = .ok (.iastore, 1) := by decide +kernel
theorem dX9_init_392 : decode cX9_init 392 = .ok (.putfield 84, 3) := by decide +kernel
theorem dX9_init_395 : decode cX9_init 395 = .ok (.aload_n 0, 1) := by decide +kernel
theorem dX9_init_396 : decode cX9_init 396 = .ok (.sipush 480, 3) := by decide +kernel
theorem dX9_init_399 : decode cX9_init 399 = .ok (.newarray .boolean, 2) := by decide +kernel
theorem dX9_init_401 : decode cX9_init 401 = .ok (.putfield 87, 3) := by decide +kernel
theorem dX9_init_404 : decode cX9_init 404 = .ok (.aload_n 0, 1) := by decide +kernel
theorem dX9_init_405 : decode cX9_init 405 = .ok (.bipush 80, 2) := by decide +kernel
theorem dX9_init_407 : decode cX9_init 407 = .ok (.newarray .boolean, 2) := by decide +kernel
theorem dX9_init_409 : decode cX9_init 409 = .ok (.putfield 90, 3) := by decide +kernel
theorem dX9_init_412 : decode cX9_init 412 = .ok (.aload_n 0, 1) := by decide +kernel
theorem dX9_init_413 : decode cX9_init 413 = .ok (.bipush 8, 2) := by decide +kernel
theorem dX9_init_415 : decode cX9_init 415 = .ok (.newarray .int, 2) := by decide +kernel
theorem dX9_init_417 : decode cX9_init 417 = .ok (.putfield 93, 3) := by decide +kernel
theorem dX9_init_420 : decode cX9_init 420 = .ok (.aload_n 0, 1) := by decide +kernel
theorem dX9_init_421 : decode cX9_init 421 = .ok (.bipush 8, 2) := by decide +kernel
theorem dX9_init_423 : decode cX9_init 423 = .ok (.newarray .int, 2) := by decide +kernel
theorem dX9_init_425 : decode cX9_init 425 = .ok (.putfield 96, 3) := by decide +kernel
theorem dX9_init_428 : decode cX9_init 428 = .ok (.aload_n 0, 1) := by decide +kernel
theorem dX9_init_429 : decode cX9_init 429 = .ok (.bipush 8, 2) := by decide +kernel
theorem dX9_init_431 : decode cX9_init 431 = .ok (.newarray .int, 2) := by decide +kernel
theorem dX9_init_433 : decode cX9_init 433 = .ok (.putfield 99, 3) := by decide +kernel
theorem dX9_init_436 : decode cX9_init 436 = .ok (.aload_n 0, 1) := by decide +kernel
theorem dX9_init_437 : decode cX9_init 437 = .ok (.bipush 8, 2) := by decide +kernel
theorem dX9_init_439 : decode cX9_init 439 = .ok (.newarray .int, 2) := by decide +kernel
theorem dX9_init_441 : decode cX9_init 441 = .ok (.putfield 102, 3) := by decide +kernel
theorem dX9_init_444 : decode cX9_init 444 = .ok (.aload_n 0, 1) := by decide +kernel
theorem dX9_init_445 : decode cX9_init 445 = .ok (.sipush 480, 3) := by decide +kernel
theorem dX9_init_448 : decode cX9_init 448 = .ok (.newarray .long, 2) := by decide +kernel
theorem dX9_init_450 : decode cX9_init 450 = .ok (.putfield 105, 3) := by decide +kernel
theorem dX9_init_453 : decode cX9_init 453 = .ok (.aload_n 0, 1) := by decide +kernel
theorem dX9_init_454 : decode cX9_init 454 = .ok (.bipush 60, 2) := by decide +kernel
theorem dX9_init_456 : decode cX9_init 456 = .ok (.newarray .long, 2) := by decide +kernel
theorem dX9_init_458 : decode cX9_init 458 = .ok (.putfield 109, 3) := by decide +kernel
theorem dX9_init_461 : decode cX9_init 461 = .ok (.return_, 1) := by decide +kernel
theorem dX9_thrown_0 : decode cX9_thrown 0 = .ok (.aload_n 0, 1) := by decide +kernel
theorem dX9_thrown_1 : decode cX9_thrown 1 = .ok (.getfield 112, 3) := by decide +kernel
theorem dX9_thrown_4 : decode cX9_thrown 4 = .ok (.ireturn, 1) := by decide +kernel
theorem dX9_isIn_0 : decode cX9_isIn 0 = .ok (.lload_n 0, 1) := by decide +kernel
theorem dX9_isIn_1 : decode cX9_isIn 1 = .ok (.lload_n 2, 1) := by decide +kernel
theorem dX9_isIn_2 : decode cX9_isIn 2 = .ok (.lcmp, 1) := by decide +kernel
theorem dX9_isIn_3 : decode cX9_isIn 3 = .ok (.ifCond .lt 14, 3) := by decide +kernel
theorem dX9_isIn_6 : decode cX9_isIn 6 = .ok (.lload_n 0, 1) := by decide +kernel
theorem dX9_isIn_7 : decode cX9_isIn 7 = .ok (.lload 4, 2) := by decide +kernel
theorem dX9_isIn_9 : decode cX9_isIn 9 = .ok (.lcmp, 1) := by decide +kernel
theorem dX9_isIn_10 : decode cX9_isIn 10 = .ok (.ifCond .gt 7, 3) := by decide +kernel
theorem dX9_isIn_13 : decode cX9_isIn 13 = .ok (.iconst 1, 1) := by decide +kernel
theorem dX9_isIn_14 : decode cX9_isIn 14 = .ok (.goto 4, 3) := by decide +kernel
theorem dX9_isIn_17 : decode cX9_isIn 17 = .ok (.iconst 0, 1) := by decide +kernel
theorem dX9_isIn_18 : decode cX9_isIn 18 = .ok (.ireturn, 1) := by decide +kernel
theorem dX9_isCell_0 : decode cX9_isCell 0 = .ok (.iload_n 1, 1) := by decide +kernel
theorem dX9_isCell_1 : decode cX9_isCell 1 = .ok (.ifCond .lt 15, 3) := by decide +kernel
theorem dX9_isCell_4 : decode cX9_isCell 4 = .ok (.iload_n 1, 1) := by decide +kernel
theorem dX9_isCell_5 : decode cX9_isCell 5 = .ok (.aload_n 0, 1) := by decide +kernel
theorem dX9_isCell_6 : decode cX9_isCell 6 = .ok (.getfield 116, 3) := by decide +kernel
theorem dX9_isCell_9 : decode cX9_isCell 9 = .ok (.if_icmp .ge 7, 3) := by decide +kernel
theorem dX9_isCell_12 : decode cX9_isCell 12 = .ok (.iconst 1, 1) := by decide +kernel
theorem dX9_isCell_13 : decode cX9_isCell 13 = .ok (.goto 4, 3) := by decide +kernel
theorem dX9_isCell_16 : decode cX9_isCell 16 = .ok (.iconst 0, 1) := by decide +kernel
theorem dX9_isCell_17 : decode cX9_isCell 17 = .ok (.ireturn, 1) := by decide +kernel
set_option maxRecDepth 20000 in
theorem ggX9_cell_X9_isIn : GoodIn wsX9_cell wsX9_isIn := goodIn_r _ [9] (by decide +kernel) (by decide +kernel)
set_option maxRecDepth 20000 in
theorem gX9_cell_X9_isIn : GoodIn wsX9_cell (va_wsS RX9 121 yX9_isIn wsX9_isIn) := goodIn_app (goodIn_of _ (by decide +kernel)) ggX9_cell_X9_isIn
theorem dX9_cell_0 : decode cX9_cell 0 = .ok (.aload_n 0, 1) := by decide +kernel
theorem dX9_cell_1 : decode cX9_cell 1 = .ok (.iconst 0, 1) := by decide +kernel
theorem dX9_cell_2 : decode cX9_cell 2 = .ok (.putfield 112, 3) := by decide +kernel
theorem dX9_cell_5 : decode cX9_cell 5 = .ok (.iload_n 1, 1) := by decide +kernel
theorem dX9_cell_6 : decode cX9_cell 6 = .ok (.i2l, 1) := by decide +kernel
theorem dX9_cell_7 : decode cX9_cell 7 = .ok (.lconst 0, 1) := by decide +kernel
theorem dX9_cell_8 : decode cX9_cell 8 = .ok (.ldc2_w 119, 3) := by decide +kernel
theorem dX9_cell_11 : decode cX9_cell 11 = .ok (.invokestatic 121, 3) := by decide +kernel
theorem dX9_cell_14 : decode cX9_cell 14 = .ok (.ifCond .ne 5, 3) := by decide +kernel
theorem dX9_cell_17 : decode cX9_cell 17 = .ok (.iconst (-1), 1) := by decide +kernel
theorem dX9_cell_18 : decode cX9_cell 18 = .ok (.ireturn, 1) := by decide +kernel
theorem dX9_cell_19 : decode cX9_cell 19 = .ok (.aload_n 0, 1) := by decide +kernel
theorem dX9_cell_20 : decode cX9_cell 20 = .ok (.getfield 116, 3) := by decide +kernel
theorem dX9_cell_23 : decode cX9_cell 23 = .ok (.bipush 10, 2) := by decide +kernel
theorem dX9_cell_25 : decode cX9_cell 25 = .ok (.if_icmp .ne 6, 3) := by decide +kernel
theorem dX9_cell_28 : decode cX9_cell 28 = .ok (.bipush (-2), 2) := by decide +kernel
theorem dX9_cell_30 : decode cX9_cell 30 = .ok (.ireturn, 1) := by decide +kernel
theorem dX9_cell_31 : decode cX9_cell 31 = .ok (.aload_n 0, 1) := by decide +kernel
theorem dX9_cell_32 : decode cX9_cell 32 = .ok (.getfield 7, 3) := by decide +kernel
theorem dX9_cell_35 : decode cX9_cell 35 = .ok (.aload_n 0, 1) := by decide +kernel
theorem dX9_cell_36 : decode cX9_cell 36 = .ok (.getfield 116, 3) := by decide +kernel
theorem dX9_cell_39 : decode cX9_cell 39 = .ok (.iload_n 1, 1) := by decide +kernel
theorem dX9_cell_40 : decode cX9_cell 40 = .ok (.iastore, 1) := by decide +kernel
theorem dX9_cell_41 : decode cX9_cell 41 = .ok (.aload_n 0, 1) := by decide +kernel
theorem dX9_cell_42 : decode cX9_cell 42 = .ok (.getfield 13, 3) := by decide +kernel
theorem dX9_cell_45 : decode cX9_cell 45 = .ok (.aload_n 0, 1) := by decide +kernel
theorem dX9_cell_46 : decode cX9_cell 46 = .ok (.getfield 116, 3) := by decide +kernel
theorem dX9_cell_49 : decode cX9_cell 49 = .ok (.iload_n 2, 1) := by decide +kernel
theorem dX9_cell_50 : decode cX9_cell 50 = .ok (.bastore, 1) := by decide +kernel
theorem dX9_cell_51 : decode cX9_cell 51 = .ok (.aload_n 0, 1) := by decide +kernel
theorem dX9_cell_52 : decode cX9_cell 52 = .ok (.dup, 1) := by decide +kernel
theorem dX9_cell_53 : decode cX9_cell 53 = .ok (.getfield 116, 3) := by decide +kernel
theorem dX9_cell_56 : decode cX9_cell 56 = .ok (.iconst 1, 1) := by decide +kernel
theorem dX9_cell_57 : decode cX9_cell 57 = .ok (.iadd, 1) := by decide +kernel
theorem dX9_cell_58 : decode cX9_cell 58 = .ok (.putfield 116, 3) := by decide +kernel
theorem dX9_cell_61 : decode cX9_cell 61 = .ok (.aload_n 0, 1) := by decide +kernel
theorem dX9_cell_62 : decode cX9_cell 62 = .ok (.getfield 116, 3) := by decide +kernel
theorem dX9_cell_65 : decode cX9_cell 65 = .ok (.iconst 1, 1) := by decide +kernel
theorem dX9_cell_66 : decode cX9_cell 66 = .ok (.isub, 1) := by decide +kernel
theorem dX9_cell_67 : decode cX9_cell 67 = .ok (.ireturn, 1) := by decide +kernel
set_option maxRecDepth 20000 in
theorem ggX9_lead_X9_isCell : GoodIn wsX9_lead wsX9_isCell := goodIn_r _ [10, 11, 15, 16, 17, 18, 19, 20, 21, 22, 23, 24, 25, 26, 27, 28, 29, 30, 31, 32, 33, 34, 35, 36, 37, 38, 39, 40, 41, 42, 43, 44, 45, 46, 47, 48, 49, 50, 51, 52, 53, 54, 55, 56, 57, 58, 59, 60, 61, 62, 63, 64, 65, 66] (by decide +kernel) (by decide +kernel)
set_option maxRecDepth 20000 in
theorem gX9_lead_X9_isCell : GoodIn wsX9_lead (wsV RX9 125 RX9 yX9_isCell wsX9_isCell) := goodIn_app (goodIn_of _ (by decide +kernel)) ggX9_lead_X9_isCell
set_option maxRecDepth 20000 in
theorem ggX9_lead_X9_isIn : GoodIn wsX9_lead wsX9_isIn := goodIn_r _ [14] (by decide +kernel) (by decide +kernel)
set_option maxRecDepth 20000 in
theorem gX9_lead_X9_isIn : GoodIn wsX9_lead (va_wsS RX9 121 yX9_isIn wsX9_isIn) := goodIn_app (goodIn_of _ (by decide +kernel)) ggX9_lead_X9_isIn
theorem dX9_lead_0 : decode cX9_lead 0 = .ok (.aload_n 0, 1) := by decide +kernel
theorem dX9_lead_1 : decode cX9_lead 1 = .ok (.iconst 0, 1) := by decide +kernel
theorem dX9_lead_2 : decode cX9_lead 2 = .ok (.putfield 112, 3) := by decide +kernel
theorem dX9_lead_5 : decode cX9_lead 5 = .ok (.aload_n 0, 1) := by decide +kernel
theorem dX9_lead_6 : decode cX9_lead 6 = .ok (.iload_n 1, 1) := by decide +kernel
theorem dX9_lead_7 : decode cX9_lead 7 = .ok (.invokevirtual 125, 3) := by decide +kernel
theorem dX9_lead_10 : decode cX9_lead 10 = .ok (.ifCond .eq 40, 3) := by decide +kernel
theorem dX9_lead_13 : decode cX9_lead 13 = .ok (.iload_n 2, 1) := by decide +kernel
theorem dX9_lead_14 : decode cX9_lead 14 = .ok (.i2l, 1) := by decide +kernel
theorem dX9_lead_15 : decode cX9_lead 15 = .ok (.lconst 0, 1) := by decide +kernel
theorem dX9_lead_16 : decode cX9_lead 16 = .ok (.ldc2_w 119, 3) := by decide +kernel
theorem dX9_lead_19 : decode cX9_lead 19 = .ok (.invokestatic 121, 3) := by decide +kernel
theorem dX9_lead_22 : decode cX9_lead 22 = .ok (.ifCond .eq 28, 3) := by decide +kernel
theorem dX9_lead_25 : decode cX9_lead 25 = .ok (.iload_n 3, 1) := by decide +kernel
theorem dX9_lead_26 : decode cX9_lead 26 = .ok (.i2l, 1) := by decide +kernel
theorem dX9_lead_27 : decode cX9_lead 27 = .ok (.lconst 0, 1) := by decide +kernel
theorem dX9_lead_28 : decode cX9_lead 28 = .ok (.ldc2_w 129, 3) := by decide +kernel
theorem dX9_lead_31 : decode cX9_lead 31 = .ok (.invokestatic 121, 3) := by decide +kernel
theorem dX9_lead_34 : decode cX9_lead 34 = .ok (.ifCond .eq 16, 3) := by decide +kernel
theorem dX9_lead_37 : decode cX9_lead 37 = .ok (.iload_n 3, 1) := by decide +kernel
theorem dX9_lead_38 : decode cX9_lead 38 = .ok (.ifCond .le 14, 3) := by decide +kernel
theorem dX9_lead_41 : decode cX9_lead 41 = .ok (.aload_n 0, 1) := by decide +kernel
theorem dX9_lead_42 : decode cX9_lead 42 = .ok (.iload 4, 2) := by decide +kernel
theorem dX9_lead_44 : decode cX9_lead 44 = .ok (.invokevirtual 125, 3) := by decide +kernel
theorem dX9_lead_47 : decode cX9_lead 47 = .ok (.ifCond .ne 5, 3) := by decide +kernel
theorem dX9_lead_50 : decode cX9_lead 50 = .ok (.iconst (-1), 1) := by decide +kernel
theorem dX9_lead_51 : decode cX9_lead 51 = .ok (.ireturn, 1) := by decide +kernel
theorem dX9_lead_52 : decode cX9_lead 52 = .ok (.aload_n 0, 1) := by decide +kernel
theorem dX9_lead_53 : decode cX9_lead 53 = .ok (.getfield 17, 3) := by decide +kernel
theorem dX9_lead_56 : decode cX9_lead 56 = .ok (.iconst 4, 1) := by decide +kernel
theorem dX9_lead_57 : decode cX9_lead 57 = .ok (.iload_n 1, 1) := by decide +kernel
theorem dX9_lead_58 : decode cX9_lead 58 = .ok (.imul, 1) := by decide +kernel
theorem dX9_lead_59 : decode cX9_lead 59 = .ok (.iload_n 2, 1) := by decide +kernel
theorem dX9_lead_60 : decode cX9_lead 60 = .ok (.iadd, 1) := by decide +kernel
theorem dX9_lead_61 : decode cX9_lead 61 = .ok (.iaload, 1) := by decide +kernel
theorem dX9_lead_62 : decode cX9_lead 62 = .ok (.istore 5, 2) := by decide +kernel
theorem dX9_lead_64 : decode cX9_lead 64 = .ok (.aload_n 0, 1) := by decide +kernel
theorem dX9_lead_65 : decode cX9_lead 65 = .ok (.getfield 17, 3) := by decide +kernel
theorem dX9_lead_68 : decode cX9_lead 68 = .ok (.iconst 4, 1) := by decide +kernel
theorem dX9_lead_69 : decode cX9_lead 69 = .ok (.iload_n 1, 1) := by decide +kernel
theorem dX9_lead_70 : decode cX9_lead 70 = .ok (.imul, 1) := by decide +kernel
theorem dX9_lead_71 : decode cX9_lead 71 = .ok (.iload_n 2, 1) := by decide +kernel
theorem dX9_lead_72 : decode cX9_lead 72 = .ok (.iadd, 1) := by decide +kernel
theorem dX9_lead_73 : decode cX9_lead 73 = .ok (.iload_n 3, 1) := by decide +kernel
theorem dX9_lead_74 : decode cX9_lead 74 = .ok (.iastore, 1) := by decide +kernel
theorem dX9_lead_75 : decode cX9_lead 75 = .ok (.aload_n 0, 1) := by decide +kernel
theorem dX9_lead_76 : decode cX9_lead 76 = .ok (.getfield 20, 3) := by decide +kernel
theorem dX9_lead_79 : decode cX9_lead 79 = .ok (.iconst 4, 1) := by decide +kernel
theorem dX9_lead_80 : decode cX9_lead 80 = .ok (.iload_n 1, 1) := by decide +kernel
theorem dX9_lead_81 : decode cX9_lead 81 = .ok (.imul, 1) := by decide +kernel
theorem dX9_lead_82 : decode cX9_lead 82 = .ok (.iload_n 2, 1) := by decide +kernel
theorem dX9_lead_83 : decode cX9_lead 83 = .ok (.iadd, 1) := by decide +kernel
theorem dX9_lead_84 : decode cX9_lead 84 = .ok (.iload_n 3, 1) := by decide +kernel
theorem dX9_lead_85 : decode cX9_lead 85 = .ok (.ifCond .le 8, 3) := by decide +kernel
theorem dX9_lead_88 : decode cX9_lead 88 = .ok (.iload 4, 2) := by decide +kernel
theorem dX9_lead_90 : decode cX9_lead 90 = .ok (.goto 4, 3) := by decide +kernel
theorem dX9_lead_93 : decode cX9_lead 93 = .ok (.iconst 0, 1) := by decide +kernel
theorem dX9_lead_94 : decode cX9_lead 94 = .ok (.iastore, 1) := by decide +kernel
theorem dX9_lead_95 : decode cX9_lead 95 = .ok (.iload 5, 2) := by decide +kernel
theorem dX9_lead_97 : decode cX9_lead 97 = .ok (.ireturn, 1) := by decide +kernel
theorem dX9_slide_0 : decode cX9_slide 0 = .ok (.iconst 0, 1) := by decide +kernel
theorem dX9_slide_1 : decode cX9_slide 1 = .ok (.istore_n 2, 1) := by decide +kernel
theorem dX9_slide_2 : decode cX9_slide 2 = .ok (.iload_n 2, 1) := by decide +kernel
theorem dX9_slide_3 : decode cX9_slide 3 = .ok (.bipush 10, 2) := by decide +kernel
theorem dX9_slide_5 : decode cX9_slide 5 = .ok (.if_icmp .ge 43, 3) := by decide +kernel
theorem dX9_slide_8 : decode cX9_slide 8 = .ok (.aload_n 0, 1) := by decide +kernel
theorem dX9_slide_9 : decode cX9_slide 9 = .ok (.getfield 17, 3) := by decide +kernel
theorem dX9_slide_12 : decode cX9_slide 12 = .ok (.iconst 4, 1) := by decide +kernel
theorem dX9_slide_13 : decode cX9_slide 13 = .ok (.aload_n 0, 1) := by decide +kernel
theorem dX9_slide_14 : decode cX9_slide 14 = .ok (.getfield 131, 3) := by decide +kernel
theorem dX9_slide_17 : decode cX9_slide 17 = .ok (.imul, 1) := by decide +kernel
theorem dX9_slide_18 : decode cX9_slide 18 = .ok (.iload_n 1, 1) := by decide +kernel
theorem dX9_slide_19 : decode cX9_slide 19 = .ok (.iadd, 1) := by decide +kernel
theorem dX9_slide_20 : decode cX9_slide 20 = .ok (.iaload, 1) := by decide +kernel
theorem dX9_slide_21 : decode cX9_slide 21 = .ok (.iconst 3, 1) := by decide +kernel
theorem dX9_slide_22 : decode cX9_slide 22 = .ok (.if_icmp .ne 26, 3) := by decide +kernel
theorem dX9_slide_25 : decode cX9_slide 25 = .ok (.aload_n 0, 1) := by decide +kernel
theorem dX9_slide_26 : decode cX9_slide 26 = .ok (.aload_n 0, 1) := by decide +kernel
theorem dX9_slide_27 : decode cX9_slide 27 = .ok (.getfield 20, 3) := by decide +kernel
theorem dX9_slide_30 : decode cX9_slide 30 = .ok (.iconst 4, 1) := by decide +kernel
theorem dX9_slide_31 : decode cX9_slide 31 = .ok (.aload_n 0, 1) := by decide +kernel
theorem dX9_slide_32 : decode cX9_slide 32 = .ok (.getfield 131, 3) := by decide +kernel
theorem dX9_slide_35 : decode cX9_slide 35 = .ok (.imul, 1) := by decide +kernel
theorem dX9_slide_36 : decode cX9_slide 36 = .ok (.iload_n 1, 1) := by decide +kernel
theorem dX9_slide_37 : decode cX9_slide 37 = .ok (.iadd, 1) := by decide +kernel
theorem dX9_slide_38 : decode cX9_slide 38 = .ok (.iaload, 1) := by decide +kernel
theorem dX9_slide_39 : decode cX9_slide 39 = .ok (.putfield 131, 3) := by decide +kernel
theorem dX9_slide_42 : decode cX9_slide 42 = .ok (.iinc 2 1, 3) := by decide +kernel
theorem dX9_slide_45 : decode cX9_slide 45 = .ok (.goto (-43), 3) := by decide +kernel
theorem dX9_slide_48 : decode cX9_slide 48 = .ok (.return_, 1) := by decide +kernel
set_option maxRecDepth 20000 in
theorem ggX9_step_X9_slide : GoodIn wsX9_step wsX9_slide := goodIn_r _ [12, 6, 4, 7, 13, 14, 15, 16, 17, 18, 19, 20, 21, 22, 23, 24, 25, 26, 27, 28, 29, 30, 31, 32, 33, 34, 35, 36, 37, 38, 39, 40, 41, 42, 43, 44, 45, 46, 47, 48, 49, 50, 51, 52, 53, 54, 55, 56, 57, 58, 59, 60, 61, 62, 63, 64] (by decide +kernel) (by decide +kernel)
set_option maxRecDepth 20000 in
theorem gX9_step_X9_slide : GoodIn wsX9_step (wsV RX9 144 RX9 yX9_slide wsX9_slide) := goodIn_app (goodIn_of _ (by decide +kernel)) ggX9_step_X9_slide
theorem dX9_step_0 : decode cX9_step 0 = .ok (.aload_n 0, 1) := by decide +kernel
theorem dX9_step_1 : decode cX9_step 1 = .ok (.iconst 0, 1) := by decide +kernel
theorem dX9_step_2 : decode cX9_step 2 = .ok (.putfield 134, 3) := by decide +kernel
theorem dX9_step_5 : decode cX9_step 5 = .ok (.iload_n 1, 1) := by decide +kernel
theorem dX9_step_6 : decode cX9_step 6 = .ok (.iconst 4, 1) := by decide +kernel
theorem dX9_step_7 : decode cX9_step 7 = .ok (.if_icmp .ne 29, 3) := by decide +kernel
theorem dX9_step_10 : decode cX9_step 10 = .ok (.aload_n 0, 1) := by decide +kernel
theorem dX9_step_11 : decode cX9_step 11 = .ok (.aload_n 0, 1) := by decide +kernel
theorem dX9_step_12 : decode cX9_step 12 = .ok (.getfield 138, 3) := by decide +kernel
theorem dX9_step_15 : decode cX9_step 15 = .ok (.aload_n 0, 1) := by decide +kernel
theorem dX9_step_16 : decode cX9_step 16 = .ok (.getfield 13, 3) := by decide +kernel
theorem dX9_step_19 : decode cX9_step 19 = .ok (.aload_n 0, 1) := by decide +kernel
theorem dX9_step_20 : decode cX9_step 20 = .ok (.getfield 131, 3) := by decide +kernel
theorem dX9_step_23 : decode cX9_step 23 = .ok (.baload, 1) := by decide +kernel
theorem dX9_step_24 : decode cX9_step 24 = .ok (.if_icmp .eq 7, 3) := by decide +kernel
theorem dX9_step_27 : decode cX9_step 27 = .ok (.iconst 1, 1) := by decide +kernel
theorem dX9_step_28 : decode cX9_step 28 = .ok (.goto 4, 3) := by decide +kernel
theorem dX9_step_31 : decode cX9_step 31 = .ok (.iconst 0, 1) := by decide +kernel
theorem dX9_step_32 : decode cX9_step 32 = .ok (.putfield 138, 3) := by decide +kernel
theorem dX9_step_35 : decode cX9_step 35 = .ok (.return_, 1) := by decide +kernel
theorem dX9_step_36 : decode cX9_step 36 = .ok (.iload_n 1, 1) := by decide +kernel
theorem dX9_step_37 : decode cX9_step 37 = .ok (.aload_n 0, 1) := by decide +kernel
theorem dX9_step_38 : decode cX9_step 38 = .ok (.getfield 141, 3) := by decide +kernel
theorem dX9_step_41 : decode cX9_step 41 = .ok (.iadd, 1) := by decide +kernel
theorem dX9_step_42 : decode cX9_step 42 = .ok (.iconst 4, 1) := by decide +kernel
theorem dX9_step_43 : decode cX9_step 43 = .ok (.irem, 1) := by decide +kernel
theorem dX9_step_44 : decode cX9_step 44 = .ok (.istore_n 2, 1) := by decide +kernel
theorem dX9_step_45 : decode cX9_step 45 = .ok (.aload_n 0, 1) := by decide +kernel
theorem dX9_step_46 : decode cX9_step 46 = .ok (.getfield 17, 3) := by decide +kernel
theorem dX9_step_49 : decode cX9_step 49 = .ok (.iconst 4, 1) := by decide +kernel
theorem dX9_step_50 : decode cX9_step 50 = .ok (.aload_n 0, 1) := by decide +kernel
theorem dX9_step_51 : decode cX9_step 51 = .ok (.getfield 131, 3) := by decide +kernel
theorem dX9_step_54 : decode cX9_step 54 = .ok (.imul, 1) := by decide +kernel
theorem dX9_step_55 : decode cX9_step 55 = .ok (.iload_n 2, 1) := by decide +kernel
theorem dX9_step_56 : decode cX9_step 56 = .ok (.iadd, 1) := by decide +kernel
theorem dX9_step_57 : decode cX9_step 57 = .ok (.iaload, 1) := by decide +kernel
theorem dX9_step_58 : decode cX9_step 58 = .ok (.istore_n 3, 1) := by decide +kernel
theorem dX9_step_59 : decode cX9_step 59 = .ok (.iload_n 3, 1) := by decide +kernel
theorem dX9_step_60 : decode cX9_step 60 = .ok (.ifCond .eq 20, 3) := by decide +kernel
theorem dX9_step_63 : decode cX9_step 63 = .ok (.iload_n 3, 1) := by decide +kernel
theorem dX9_step_64 : decode cX9_step 64 = .ok (.iconst 2, 1) := by decide +kernel
theorem dX9_step_65 : decode cX9_step 65 = .ok (.if_icmp .eq 8, 3) := by decide +kernel
theorem dX9_step_68 : decode cX9_step 68 = .ok (.iload_n 3, 1) := by decide +kernel
theorem dX9_step_69 : decode cX9_step 69 = .ok (.iconst 5, 1) := by decide +kernel
theorem dX9_step_70 : decode cX9_step 70 = .ok (.if_icmp .ne 16, 3) := by decide +kernel
theorem dX9_step_73 : decode cX9_step 73 = .ok (.aload_n 0, 1) := by decide +kernel
theorem dX9_step_74 : decode cX9_step 74 = .ok (.getfield 138, 3) := by decide +kernel
theorem dX9_step_77 : decode cX9_step 77 = .ok (.ifCond .ne 9, 3) := by decide +kernel
theorem dX9_step_80 : decode cX9_step 80 = .ok (.aload_n 0, 1) := by decide +kernel
theorem dX9_step_81 : decode cX9_step 81 = .ok (.iconst 1, 1) := by decide +kernel
theorem dX9_step_82 : decode cX9_step 82 = .ok (.putfield 134, 3) := by decide +kernel
theorem dX9_step_85 : decode cX9_step 85 = .ok (.return_, 1) := by decide +kernel
theorem dX9_step_86 : decode cX9_step 86 = .ok (.aload_n 0, 1) := by decide +kernel
theorem dX9_step_87 : decode cX9_step 87 = .ok (.aload_n 0, 1) := by decide +kernel
theorem dX9_step_88 : decode cX9_step 88 = .ok (.getfield 20, 3) := by decide +kernel
theorem dX9_step_91 : decode cX9_step 91 = .ok (.iconst 4, 1) := by decide +kernel
theorem dX9_step_92 : decode cX9_step 92 = .ok (.aload_n 0, 1) := by decide +kernel
theorem dX9_step_93 : decode cX9_step 93 = .ok (.getfield 131, 3) := by decide +kernel
theorem dX9_step_96 : decode cX9_step 96 = .ok (.imul, 1) := by decide +kernel
theorem dX9_step_97 : decode cX9_step 97 = .ok (.iload_n 2, 1) := by decide +kernel
theorem dX9_step_98 : decode cX9_step 98 = .ok (.iadd, 1) := by decide +kernel
theorem dX9_step_99 : decode cX9_step 99 = .ok (.iaload, 1) := by decide +kernel
theorem dX9_step_100 : decode cX9_step 100 = .ok (.putfield 131, 3) := by decide +kernel
theorem dX9_step_103 : decode cX9_step 103 = .ok (.iload_n 3, 1) := by decide +kernel
theorem dX9_step_104 : decode cX9_step 104 = .ok (.iconst 3, 1) := by decide +kernel
theorem dX9_step_105 : decode cX9_step 105 = .ok (.if_icmp .ne 8, 3) := by decide +kernel
theorem dX9_step_108 : decode cX9_step 108 = .ok (.aload_n 0, 1) := by decide +kernel
theorem dX9_step_109 : decode cX9_step 109 = .ok (.iload_n 2, 1) := by decide +kernel
theorem dX9_step_110 : decode cX9_step 110 = .ok (.invokevirtual 144, 3) := by decide +kernel
theorem dX9_step_113 : decode cX9_step 113 = .ok (.aload_n 0, 1) := by decide +kernel
theorem dX9_step_114 : decode cX9_step 114 = .ok (.iload_n 3, 1) := by decide +kernel
theorem dX9_step_115 : decode cX9_step 115 = .ok (.iconst 4, 1) := by decide +kernel
theorem dX9_step_116 : decode cX9_step 116 = .ok (.if_icmp .ne 14, 3) := by decide +kernel
theorem dX9_step_119 : decode cX9_step 119 = .ok (.aload_n 0, 1) := by decide +kernel
theorem dX9_step_120 : decode cX9_step 120 = .ok (.getfield 141, 3) := by decide +kernel
theorem dX9_step_123 : decode cX9_step 123 = .ok (.iconst 1, 1) := by decide +kernel
theorem dX9_step_124 : decode cX9_step 124 = .ok (.iadd, 1) := by decide +kernel
theorem dX9_step_125 : decode cX9_step 125 = .ok (.iconst 4, 1) := by decide +kernel
theorem dX9_step_126 : decode cX9_step 126 = .ok (.irem, 1) := by decide +kernel
theorem dX9_step_127 : decode cX9_step 127 = .ok (.goto 7, 3) := by decide +kernel
theorem dX9_step_130 : decode cX9_step 130 = .ok (.aload_n 0, 1) := by decide +kernel
theorem dX9_step_131 : decode cX9_step 131 = .ok (.getfield 141, 3) := by decide +kernel
theorem dX9_step_134 : decode cX9_step 134 = .ok (.putfield 141, 3) := by decide +kernel
theorem dX9_step_137 : decode cX9_step 137 = .ok (.aload_n 0, 1) := by decide +kernel
theorem dX9_step_138 : decode cX9_step 138 = .ok (.aload_n 0, 1) := by decide +kernel
theorem dX9_step_139 : decode cX9_step 139 = .ok (.getfield 138, 3) := by decide +kernel
theorem dX9_step_142 : decode cX9_step 142 = .ok (.ifCond .eq 12, 3) := by decide +kernel
theorem dX9_step_145 : decode cX9_step 145 = .ok (.iload_n 3, 1) := by decide +kernel
theorem dX9_step_146 : decode cX9_step 146 = .ok (.iconst 5, 1) := by decide +kernel
theorem dX9_step_147 : decode cX9_step 147 = .ok (.if_icmp .eq 7, 3) := by decide +kernel
theorem dX9_step_150 : decode cX9_step 150 = .ok (.iconst 1, 1) := by decide +kernel
theorem dX9_step_151 : decode cX9_step 151 = .ok (.goto 4, 3) := by decide +kernel
theorem dX9_step_154 : decode cX9_step 154 = .ok (.iconst 0, 1) := by decide +kernel
theorem dX9_step_155 : decode cX9_step 155 = .ok (.putfield 138, 3) := by decide +kernel
theorem dX9_step_158 : decode cX9_step 158 = .ok (.return_, 1) := by decide +kernel
theorem dX9_stand_0 : decode cX9_stand 0 = .ok (.aload_n 0, 1) := by decide +kernel
theorem dX9_stand_1 : decode cX9_stand 1 = .ok (.aload_n 0, 1) := by decide +kernel
theorem dX9_stand_2 : decode cX9_stand 2 = .ok (.getfield 148, 3) := by decide +kernel
theorem dX9_stand_5 : decode cX9_stand 5 = .ok (.putfield 131, 3) := by decide +kernel
theorem dX9_stand_8 : decode cX9_stand 8 = .ok (.aload_n 0, 1) := by decide +kernel
theorem dX9_stand_9 : decode cX9_stand 9 = .ok (.aload_n 0, 1) := by decide +kernel
theorem dX9_stand_10 : decode cX9_stand 10 = .ok (.getfield 151, 3) := by decide +kernel
theorem dX9_stand_13 : decode cX9_stand 13 = .ok (.putfield 141, 3) := by decide +kernel
theorem dX9_stand_16 : decode cX9_stand 16 = .ok (.aload_n 0, 1) := by decide +kernel
theorem dX9_stand_17 : decode cX9_stand 17 = .ok (.aload_n 0, 1) := by decide +kernel
theorem dX9_stand_18 : decode cX9_stand 18 = .ok (.getfield 154, 3) := by decide +kernel
theorem dX9_stand_21 : decode cX9_stand 21 = .ok (.putfield 138, 3) := by decide +kernel
theorem dX9_stand_24 : decode cX9_stand 24 = .ok (.return_, 1) := by decide +kernel
set_option maxRecDepth 20000 in
theorem ggX9_start_X9_isIn : GoodIn wsX9_start wsX9_isIn := goodIn_r _ [25] (by decide +kernel) (by decide +kernel)
set_option maxRecDepth 20000 in
theorem gX9_start_X9_isIn : GoodIn wsX9_start (va_wsS RX9 121 yX9_isIn wsX9_isIn) := goodIn_app (goodIn_of _ (by decide +kernel)) ggX9_start_X9_isIn
theorem dX9_start_0 : decode cX9_start 0 = .ok (.aload_n 0, 1) := by decide +kernel
theorem dX9_start_1 : decode cX9_start 1 = .ok (.iconst 0, 1) := by decide +kernel
theorem dX9_start_2 : decode cX9_start 2 = .ok (.putfield 112, 3) := by decide +kernel
theorem dX9_start_5 : decode cX9_start 5 = .ok (.iload_n 1, 1) := by decide +kernel
theorem dX9_start_6 : decode cX9_start 6 = .ok (.i2l, 1) := by decide +kernel
theorem dX9_start_7 : decode cX9_start 7 = .ok (.lconst 1, 1) := by decide +kernel
theorem dX9_start_8 : decode cX9_start 8 = .ok (.ldc2_w 157, 3) := by decide +kernel
theorem dX9_start_11 : decode cX9_start 11 = .ok (.invokestatic 121, 3) := by decide +kernel
theorem dX9_start_14 : decode cX9_start 14 = .ok (.ifCond .ne 5, 3) := by decide +kernel
theorem dX9_start_17 : decode cX9_start 17 = .ok (.iconst (-1), 1) := by decide +kernel
theorem dX9_start_18 : decode cX9_start 18 = .ok (.ireturn, 1) := by decide +kernel
theorem dX9_start_19 : decode cX9_start 19 = .ok (.aload_n 0, 1) := by decide +kernel
theorem dX9_start_20 : decode cX9_start 20 = .ok (.getfield 116, 3) := by decide +kernel
theorem dX9_start_23 : decode cX9_start 23 = .ok (.ifCond .ne 6, 3) := by decide +kernel
theorem dX9_start_26 : decode cX9_start 26 = .ok (.bipush (-2), 2) := by decide +kernel
theorem dX9_start_28 : decode cX9_start 28 = .ok (.ireturn, 1) := by decide +kernel
theorem dX9_start_29 : decode cX9_start 29 = .ok (.aload_n 0, 1) := by decide +kernel
theorem dX9_start_30 : decode cX9_start 30 = .ok (.iconst 1, 1) := by decide +kernel
theorem dX9_start_31 : decode cX9_start 31 = .ok (.putfield 159, 3) := by decide +kernel
theorem dX9_start_34 : decode cX9_start 34 = .ok (.aload_n 0, 1) := by decide +kernel
theorem dX9_start_35 : decode cX9_start 35 = .ok (.iconst 0, 1) := by decide +kernel
theorem dX9_start_36 : decode cX9_start 36 = .ok (.putfield 148, 3) := by decide +kernel
theorem dX9_start_39 : decode cX9_start 39 = .ok (.aload_n 0, 1) := by decide +kernel
theorem dX9_start_40 : decode cX9_start 40 = .ok (.iconst 0, 1) := by decide +kernel
theorem dX9_start_41 : decode cX9_start 41 = .ok (.putfield 151, 3) := by decide +kernel
theorem dX9_start_44 : decode cX9_start 44 = .ok (.aload_n 0, 1) := by decide +kernel
theorem dX9_start_45 : decode cX9_start 45 = .ok (.iconst 0, 1) := by decide +kernel
theorem dX9_start_46 : decode cX9_start 46 = .ok (.putfield 154, 3) := by decide +kernel
theorem dX9_start_49 : decode cX9_start 49 = .ok (.aload_n 0, 1) := by decide +kernel
theorem dX9_start_50 : decode cX9_start 50 = .ok (.bipush (-2), 2) := by decide +kernel
theorem dX9_start_52 : decode cX9_start 52 = .ok (.putfield 162, 3) := by decide +kernel
theorem dX9_start_55 : decode cX9_start 55 = .ok (.aload_n 0, 1) := by decide +kernel
theorem dX9_start_56 : decode cX9_start 56 = .ok (.iconst 0, 1) := by decide +kernel
theorem dX9_start_57 : decode cX9_start 57 = .ok (.putfield 165, 3) := by decide +kernel
theorem dX9_start_60 : decode cX9_start 60 = .ok (.aload_n 0, 1) := by decide +kernel
theorem dX9_start_61 : decode cX9_start 61 = .ok (.iconst 0, 1) := by decide +kernel
theorem dX9_start_62 : decode cX9_start 62 = .ok (.putfield 168, 3) := by decide +kernel
theorem dX9_start_65 : decode cX9_start 65 = .ok (.aload_n 0, 1) := by decide +kernel
theorem dX9_start_66 : decode cX9_start 66 = .ok (.aload_n 0, 1) := by decide +kernel
theorem dX9_start_67 : decode cX9_start 67 = .ok (.getfield 7, 3) := by decide +kernel
theorem dX9_start_70 : decode cX9_start 70 = .ok (.iconst 0, 1) := by decide +kernel
theorem dX9_start_71 : decode cX9_start 71 = .ok (.iaload, 1) := by decide +kernel
theorem dX9_start_72 : decode cX9_start 72 = .ok (.putfield 171, 3) := by decide +kernel
theorem dX9_start_75 : decode cX9_start 75 = .ok (.aload_n 0, 1) := by decide +kernel
theorem dX9_start_76 : decode cX9_start 76 = .ok (.iload_n 1, 1) := by decide +kernel
theorem dX9_start_77 : decode cX9_start 77 = .ok (.putfield 174, 3) := by decide +kernel
theorem dX9_start_80 : decode cX9_start 80 = .ok (.aload_n 0, 1) := by decide +kernel
theorem dX9_start_81 : decode cX9_start 81 = .ok (.iconst 1, 1) := by decide +kernel
theorem dX9_start_82 : decode cX9_start 82 = .ok (.putfield 177, 3) := by decide +kernel
theorem dX9_start_85 : decode cX9_start 85 = .ok (.aload_n 0, 1) := by decide +kernel
theorem dX9_start_86 : decode cX9_start 86 = .ok (.iconst 0, 1) := by decide +kernel
theorem dX9_start_87 : decode cX9_start 87 = .ok (.putfield 180, 3) := by decide +kernel
theorem dX9_start_90 : decode cX9_start 90 = .ok (.aload_n 0, 1) := by decide +kernel
theorem dX9_start_91 : decode cX9_start 91 = .ok (.getfield 35, 3) := by decide +kernel
theorem dX9_start_94 : decode cX9_start 94 = .ok (.iconst 0, 1) := by decide +kernel
theorem dX9_start_95 : decode cX9_start 95 = .ok (.iconst 1, 1) := by decide +kernel
theorem dX9_start_96 : decode cX9_start 96 = .ok (.iastore, 1) := by decide +kernel
theorem dX9_start_97 : decode cX9_start 97 = .ok (.aload_n 0, 1) := by decide +kernel
theorem dX9_start_98 : decode cX9_start 98 = .ok (.getfield 38, 3) := by decide +kernel
theorem dX9_start_101 : decode cX9_start 101 = .ok (.iconst 0, 1) := by decide +kernel
theorem dX9_start_102 : decode cX9_start 102 = .ok (.aload_n 0, 1) := by decide +kernel
theorem dX9_start_103 : decode cX9_start 103 = .ok (.getfield 7, 3) := by decide +kernel
theorem dX9_start_106 : decode cX9_start 106 = .ok (.iconst 0, 1) := by decide +kernel
theorem dX9_start_107 : decode cX9_start 107 = .ok (.iaload, 1) := by decide +kernel
theorem dX9_start_108 : decode cX9_start 108 = .ok (.iastore, 1) := by decide +kernel
theorem dX9_start_109 : decode cX9_start 109 = .ok (.iconst 0, 1) := by decide +kernel
theorem dX9_start_110 : decode cX9_start 110 = .ok (.istore_n 2, 1) := by decide +kernel
theorem dX9_start_111 : decode cX9_start 111 = .ok (.iload_n 2, 1) := by decide +kernel
theorem dX9_start_112 : decode cX9_start 112 = .ok (.iconst 5, 1) := by decide +kernel
theorem dX9_start_113 : decode cX9_start 113 = .ok (.if_icmp .ge 17, 3) := by decide +kernel
theorem dX9_start_116 : decode cX9_start 116 = .ok (.aload_n 0, 1) := by decide +kernel
theorem dX9_start_117 : decode cX9_start 117 = .ok (.getfield 41, 3) := by decide +kernel
theorem dX9_start_120 : decode cX9_start 120 = .ok (.iload_n 2, 1) := by decide +kernel
theorem dX9_start_121 : decode cX9_start 121 = .ok (.bipush (-3), 2) := by decide +kernel
theorem dX9_start_123 : decode cX9_start 123 = .ok (.iastore, 1) := by decide +kernel
theorem dX9_start_124 : decode cX9_start 124 = .ok (.iinc 2 1, 3) := by decide +kernel
theorem dX9_start_127 : decode cX9_start 127 = .ok (.goto (-16), 3) := by decide +kernel
theorem dX9_start_130 : decode cX9_start 130 = .ok (.aload_n 0, 1) := by decide +kernel
theorem dX9_start_131 : decode cX9_start 131 = .ok (.getfield 44, 3) := by decide +kernel
theorem dX9_start_134 : decode cX9_start 134 = .ok (.iconst 0, 1) := by decide +kernel
theorem dX9_start_135 : decode cX9_start 135 = .ok (.iconst 0, 1) := by decide +kernel
theorem dX9_start_136 : decode cX9_start 136 = .ok (.iastore, 1) := by decide +kernel
theorem dX9_start_137 : decode cX9_start 137 = .ok (.aload_n 0, 1) := by decide +kernel
theorem dX9_start_138 : decode cX9_start 138 = .ok (.getfield 47, 3) := by decide +kernel
theorem dX9_start_141 : decode cX9_start 141 = .ok (.iconst 0, 1) := by decide +kernel
theorem dX9_start_142 : decode cX9_start 142 = .ok (.bipush (-2), 2) := by decide +kernel
theorem dX9_start_144 : decode cX9_start 144 = .ok (.iastore, 1) := by decide +kernel
theorem dX9_start_145 : decode cX9_start 145 = .ok (.aload_n 0, 1) := by decide +kernel
theorem dX9_start_146 : decode cX9_start 146 = .ok (.getfield 50, 3) := by decide +kernel
theorem dX9_start_149 : decode cX9_start 149 = .ok (.iconst 0, 1) := by decide +kernel
theorem dX9_start_150 : decode cX9_start 150 = .ok (.iconst 0, 1) := by decide +kernel
theorem dX9_start_151 : decode cX9_start 151 = .ok (.bastore, 1) := by decide +kernel
theorem dX9_start_152 : decode cX9_start 152 = .ok (.iconst 0, 1) := by decide +kernel
theorem dX9_start_153 : decode cX9_start 153 = .ok (.ireturn, 1) := by decide +kernel
theorem dX9_liesHere_0 : decode cX9_liesHere 0 = .ok (.aload_n 0, 1) := by decide +kernel
theorem dX9_liesHere_1 : decode cX9_liesHere 1 = .ok (.getfield 162, 3) := by decide +kernel
theorem dX9_liesHere_4 : decode cX9_liesHere 4 = .ok (.aload_n 0, 1) := by decide +kernel
theorem dX9_liesHere_5 : decode cX9_liesHere 5 = .ok (.getfield 148, 3) := by decide +kernel
theorem dX9_liesHere_8 : decode cX9_liesHere 8 = .ok (.if_icmp .ne 7, 3) := by decide +kernel
theorem dX9_liesHere_11 : decode cX9_liesHere 11 = .ok (.iconst 1, 1) := by decide +kernel
theorem dX9_liesHere_12 : decode cX9_liesHere 12 = .ok (.goto 4, 3) := by decide +kernel
theorem dX9_liesHere_15 : decode cX9_liesHere 15 = .ok (.iconst 0, 1) := by decide +kernel
theorem dX9_liesHere_16 : decode cX9_liesHere 16 = .ok (.ireturn, 1) := by decide +kernel
theorem dX9_come_0 : decode cX9_come 0 = .ok (.aload_n 0, 1) := by decide +kernel
theorem dX9_come_1 : decode cX9_come 1 = .ok (.getfield 183, 3) := by decide +kernel
theorem dX9_come_4 : decode cX9_come 4 = .ok (.sipush 150, 3) := by decide +kernel
theorem dX9_come_7 : decode cX9_come 7 = .ok (.if_icmp .ne 9, 3) := by decide +kernel
theorem dX9_come_10 : decode cX9_come 10 = .ok (.aload_n 0, 1) := by decide +kernel
theorem dX9_come_11 : decode cX9_come 11 = .ok (.iconst 1, 1) := by decide +kernel
theorem dX9_come_12 : decode cX9_come 12 = .ok (.putfield 180, 3) := by decide +kernel
theorem dX9_come_15 : decode cX9_come 15 = .ok (.return_, 1) := by decide +kernel
theorem dX9_come_16 : decode cX9_come 16 = .ok (.aload_n 0, 1) := by decide +kernel
theorem dX9_come_17 : decode cX9_come 17 = .ok (.getfield 183, 3) := by decide +kernel
theorem dX9_come_20 : decode cX9_come 20 = .ok (.istore_n 3, 1) := by decide +kernel
theorem dX9_come_21 : decode cX9_come 21 = .ok (.aload_n 0, 1) := by decide +kernel
theorem dX9_come_22 : decode cX9_come 22 = .ok (.getfield 54, 3) := by decide +kernel
theorem dX9_come_25 : decode cX9_come 25 = .ok (.iload_n 3, 1) := by decide +kernel
theorem dX9_come_26 : decode cX9_come 26 = .ok (.aload_n 0, 1) := by decide +kernel
theorem dX9_come_27 : decode cX9_come 27 = .ok (.getfield 35, 3) := by decide +kernel
theorem dX9_come_30 : decode cX9_come 30 = .ok (.iload_n 1, 1) := by decide +kernel
theorem dX9_come_31 : decode cX9_come 31 = .ok (.iaload, 1) := by decide +kernel
theorem dX9_come_32 : decode cX9_come 32 = .ok (.iastore, 1) := by decide +kernel
theorem dX9_come_33 : decode cX9_come 33 = .ok (.aload_n 0, 1) := by decide +kernel
theorem dX9_come_34 : decode cX9_come 34 = .ok (.getfield 63, 3) := by decide +kernel
theorem dX9_come_37 : decode cX9_come 37 = .ok (.iload_n 3, 1) := by decide +kernel
theorem dX9_come_38 : decode cX9_come 38 = .ok (.iload_n 2, 1) := by decide +kernel
theorem dX9_come_39 : decode cX9_come 39 = .ok (.iastore, 1) := by decide +kernel
theorem dX9_come_40 : decode cX9_come 40 = .ok (.aload_n 0, 1) := by decide +kernel
theorem dX9_come_41 : decode cX9_come 41 = .ok (.getfield 66, 3) := by decide +kernel
theorem dX9_come_44 : decode cX9_come 44 = .ok (.iload_n 3, 1) := by decide +kernel
theorem dX9_come_45 : decode cX9_come 45 = .ok (.aload_n 0, 1) := by decide +kernel
theorem dX9_come_46 : decode cX9_come 46 = .ok (.getfield 47, 3) := by decide +kernel
theorem dX9_come_49 : decode cX9_come 49 = .ok (.iload_n 1, 1) := by decide +kernel
theorem dX9_come_50 : decode cX9_come 50 = .ok (.iaload, 1) := by decide +kernel
theorem dX9_come_51 : decode cX9_come 51 = .ok (.iastore, 1) := by decide +kernel
theorem dX9_come_52 : decode cX9_come 52 = .ok (.iconst 0, 1) := by decide +kernel
theorem dX9_come_53 : decode cX9_come 53 = .ok (.istore 4, 2) := by decide +kernel
theorem dX9_come_55 : decode cX9_come 55 = .ok (.iload 4, 2) := by decide +kernel
theorem dX9_come_57 : decode cX9_come 57 = .ok (.bipush 6, 2) := by decide +kernel
theorem dX9_come_59 : decode cX9_come 59 = .ok (.if_icmp .ge 82, 3) := by decide +kernel
theorem dX9_come_62 : decode cX9_come 62 = .ok (.aload_n 0, 1) := by decide +kernel
theorem dX9_come_63 : decode cX9_come 63 = .ok (.getfield 57, 3) := by decide +kernel
theorem dX9_come_66 : decode cX9_come 66 = .ok (.bipush 6, 2) := by decide +kernel
theorem dX9_come_68 : decode cX9_come 68 = .ok (.iload_n 3, 1) := by decide +kernel
theorem dX9_come_69 : decode cX9_come 69 = .ok (.imul, 1) := by decide +kernel
theorem dX9_come_70 : decode cX9_come 70 = .ok (.iload 4, 2) := by decide +kernel
theorem dX9_come_72 : decode cX9_come 72 = .ok (.iadd, 1) := by decide +kernel
theorem dX9_come_73 : decode cX9_come 73 = .ok (.aload_n 0, 1) := by decide +kernel
theorem dX9_come_74 : decode cX9_come 74 = .ok (.getfield 38, 3) := by decide +kernel
theorem dX9_come_77 : decode cX9_come 77 = .ok (.bipush 6, 2) := by decide +kernel
theorem dX9_come_79 : decode cX9_come 79 = .ok (.iload_n 1, 1) := by decide +kernel
theorem dX9_come_80 : decode cX9_come 80 = .ok (.imul, 1) := by decide +kernel
theorem dX9_come_81 : decode cX9_come 81 = .ok (.iload 4, 2) := by decide +kernel
theorem dX9_come_83 : decode cX9_come 83 = .ok (.iadd, 1) := by decide +kernel
theorem dX9_come_84 : decode cX9_come 84 = .ok (.iaload, 1) := by decide +kernel
theorem dX9_come_85 : decode cX9_come 85 = .ok (.iastore, 1) := by decide +kernel
theorem dX9_come_86 : decode cX9_come 86 = .ok (.iconst 0, 1) := by decide +kernel
theorem dX9_come_87 : decode cX9_come 87 = .ok (.istore 5, 2) := by decide +kernel
theorem dX9_come_89 : decode cX9_come 89 = .ok (.iload 5, 2) := by decide +kernel
theorem dX9_come_91 : decode cX9_come 91 = .ok (.iconst 5, 1) := by decide +kernel
theorem dX9_come_92 : decode cX9_come 92 = .ok (.if_icmp .ge 43, 3) := by decide +kernel
theorem dX9_come_95 : decode cX9_come 95 = .ok (.aload_n 0, 1) := by decide +kernel
theorem dX9_come_96 : decode cX9_come 96 = .ok (.getfield 60, 3) := by decide +kernel
theorem dX9_come_99 : decode cX9_come 99 = .ok (.bipush 30, 2) := by decide +kernel
theorem dX9_come_101 : decode cX9_come 101 = .ok (.iload_n 3, 1) := by decide +kernel
theorem dX9_come_102 : decode cX9_come 102 = .ok (.imul, 1) := by decide +kernel
theorem dX9_come_103 : decode cX9_come 103 = .ok (.iconst 5, 1) := by decide +kernel
theorem dX9_come_104 : decode cX9_come 104 = .ok (.iload 4, 2) := by decide +kernel
theorem dX9_come_106 : decode cX9_come 106 = .ok (.imul, 1) := by decide +kernel
theorem dX9_come_107 : decode cX9_come 107 = .ok (.iadd, 1) := by decide +kernel
theorem dX9_come_108 : decode cX9_come 108 = .ok (.iload 5, 2) := by decide +kernel
theorem dX9_come_110 : decode cX9_come 110 = .ok (.iadd, 1) := by decide +kernel
theorem dX9_come_111 : decode cX9_come 111 = .ok (.aload_n 0, 1) := by decide +kernel
theorem dX9_come_112 : decode cX9_come 112 = .ok (.getfield 41, 3) := by decide +kernel
theorem dX9_come_115 : decode cX9_come 115 = .ok (.bipush 30, 2) := by decide +kernel
theorem dX9_come_117 : decode cX9_come 117 = .ok (.iload_n 1, 1) := by decide +kernel
theorem dX9_come_118 : decode cX9_come 118 = .ok (.imul, 1) := by decide +kernel
theorem dX9_come_119 : decode cX9_come 119 = .ok (.iconst 5, 1) := by decide +kernel
theorem dX9_come_120 : decode cX9_come 120 = .ok (.iload 4, 2) := by decide +kernel
theorem dX9_come_122 : decode cX9_come 122 = .ok (.imul, 1) := by decide +kernel
theorem dX9_come_123 : decode cX9_come 123 = .ok (.iadd, 1) := by decide +kernel
theorem dX9_come_124 : decode cX9_come 124 = .ok (.iload 5, 2) := by decide +kernel
theorem dX9_come_126 : decode cX9_come 126 = .ok (.iadd, 1) := by decide +kernel
theorem dX9_come_127 : decode cX9_come 127 = .ok (.iaload, 1) := by decide +kernel
theorem dX9_come_128 : decode cX9_come 128 = .ok (.iastore, 1) := by decide +kernel
theorem dX9_come_129 : decode cX9_come 129 = .ok (.iinc 5 1, 3) := by decide +kernel
theorem dX9_come_132 : decode cX9_come 132 = .ok (.goto (-43), 3) := by decide +kernel
theorem dX9_come_135 : decode cX9_come 135 = .ok (.iinc 4 1, 3) := by decide +kernel
theorem dX9_come_138 : decode cX9_come 138 = .ok (.goto (-83), 3) := by decide +kernel
theorem dX9_come_141 : decode cX9_come 141 = .ok (.iconst 0, 1) := by decide +kernel
theorem dX9_come_142 : decode cX9_come 142 = .ok (.istore 4, 2) := by decide +kernel
theorem dX9_come_144 : decode cX9_come 144 = .ok (.iload 4, 2) := by decide +kernel
theorem dX9_come_146 : decode cX9_come 146 = .ok (.aload_n 0, 1) := by decide +kernel
theorem dX9_come_147 : decode cX9_come 147 = .ok (.getfield 168, 3) := by decide +kernel
theorem dX9_come_150 : decode cX9_come 150 = .ok (.if_icmp .ge 35, 3) := by decide +kernel
theorem dX9_come_153 : decode cX9_come 153 = .ok (.aload_n 0, 1) := by decide +kernel
theorem dX9_come_154 : decode cX9_come 154 = .ok (.getfield 69, 3) := by decide +kernel
theorem dX9_come_157 : decode cX9_come 157 = .ok (.sipush 201, 3) := by decide +kernel
theorem dX9_come_160 : decode cX9_come 160 = .ok (.iload_n 3, 1) := by decide +kernel
theorem dX9_come_161 : decode cX9_come 161 = .ok (.imul, 1) := by decide +kernel
theorem dX9_come_162 : decode cX9_come 162 = .ok (.iload 4, 2) := by decide +kernel
theorem dX9_come_164 : decode cX9_come 164 = .ok (.iadd, 1) := by decide +kernel
theorem dX9_come_165 : decode cX9_come 165 = .ok (.aload_n 0, 1) := by decide +kernel
theorem dX9_come_166 : decode cX9_come 166 = .ok (.getfield 50, 3) := by decide +kernel
theorem dX9_come_169 : decode cX9_come 169 = .ok (.sipush 201, 3) := by decide +kernel
theorem dX9_come_172 : decode cX9_come 172 = .ok (.iload_n 1, 1) := by decide +kernel
theorem dX9_come_173 : decode cX9_come 173 = .ok (.imul, 1) := by decide +kernel
theorem dX9_come_174 : decode cX9_come 174 = .ok (.iload 4, 2) := by decide +kernel
theorem dX9_come_176 : decode cX9_come 176 = .ok (.iadd, 1) := by decide +kernel
theorem dX9_come_177 : decode cX9_come 177 = .ok (.baload, 1) := by decide +kernel
theorem dX9_come_178 : decode cX9_come 178 = .ok (.bastore, 1) := by decide +kernel
theorem dX9_come_179 : decode cX9_come 179 = .ok (.iinc 4 1, 3) := by decide +kernel
theorem dX9_come_182 : decode cX9_come 182 = .ok (.goto (-38), 3) := by decide +kernel
theorem dX9_come_185 : decode cX9_come 185 = .ok (.aload_n 0, 1) := by decide +kernel
theorem dX9_come_186 : decode cX9_come 186 = .ok (.getfield 69, 3) := by decide +kernel
theorem dX9_come_189 : decode cX9_come 189 = .ok (.sipush 201, 3) := by decide +kernel
theorem dX9_come_192 : decode cX9_come 192 = .ok (.iload_n 3, 1) := by decide +kernel
theorem dX9_come_193 : decode cX9_come 193 = .ok (.imul, 1) := by decide +kernel
theorem dX9_come_194 : decode cX9_come 194 = .ok (.aload_n 0, 1) := by decide +kernel
theorem dX9_come_195 : decode cX9_come 195 = .ok (.getfield 168, 3) := by decide +kernel
theorem dX9_come_198 : decode cX9_come 198 = .ok (.iadd, 1) := by decide +kernel
theorem dX9_come_199 : decode cX9_come 199 = .ok (.iload_n 2, 1) := by decide +kernel
theorem dX9_come_200 : decode cX9_come 200 = .ok (.i2b, 1) := by decide +kernel
theorem dX9_come_201 : decode cX9_come 201 = .ok (.bastore, 1) := by decide +kernel
theorem dX9_come_202 : decode cX9_come 202 = .ok (.aload_n 0, 1) := by decide +kernel
theorem dX9_come_203 : decode cX9_come 203 = .ok (.dup, 1) := by decide +kernel
theorem dX9_come_204 : decode cX9_come 204 = .ok (.getfield 183, 3) := by decide +kernel
theorem dX9_come_207 : decode cX9_come 207 = .ok (.iconst 1, 1) := by decide +kernel
theorem dX9_come_208 : decode cX9_come 208 = .ok (.iadd, 1) := by decide +kernel
theorem dX9_come_209 : decode cX9_come 209 = .ok (.putfield 183, 3) := by decide +kernel
theorem dX9_come_212 : decode cX9_come 212 = .ok (.return_, 1) := by decide +kernel
theorem dX9_learn_0 : decode cX9_learn 0 = .ok (.aload_n 0, 1) := by decide +kernel
theorem dX9_learn_1 : decode cX9_learn 1 = .ok (.getfield 180, 3) := by decide +kernel
theorem dX9_learn_4 : decode cX9_learn 4 = .ok (.ifCond .ne 24, 3) := by decide +kernel
theorem dX9_learn_7 : decode cX9_learn 7 = .ok (.aload_n 0, 1) := by decide +kernel
theorem dX9_learn_8 : decode cX9_learn 8 = .ok (.getfield 60, 3) := by decide +kernel
theorem dX9_learn_11 : decode cX9_learn 11 = .ok (.bipush 30, 2) := by decide +kernel
theorem dX9_learn_13 : decode cX9_learn 13 = .ok (.aload_n 0, 1) := by decide +kernel
theorem dX9_learn_14 : decode cX9_learn 14 = .ok (.getfield 183, 3) := by decide +kernel
theorem dX9_learn_17 : decode cX9_learn 17 = .ok (.iconst 1, 1) := by decide +kernel
theorem dX9_learn_18 : decode cX9_learn 18 = .ok (.isub, 1) := by decide +kernel
theorem dX9_learn_19 : decode cX9_learn 19 = .ok (.imul, 1) := by decide +kernel
theorem dX9_learn_20 : decode cX9_learn 20 = .ok (.iconst 5, 1) := by decide +kernel
theorem dX9_learn_21 : decode cX9_learn 21 = .ok (.iload_n 1, 1) := by decide +kernel
theorem dX9_learn_22 : decode cX9_learn 22 = .ok (.imul, 1) := by decide +kernel
theorem dX9_learn_23 : decode cX9_learn 23 = .ok (.iadd, 1) := by decide +kernel
theorem dX9_learn_24 : decode cX9_learn 24 = .ok (.iload_n 2, 1) := by decide +kernel
theorem dX9_learn_25 : decode cX9_learn 25 = .ok (.iadd, 1) := by decide +kernel
theorem dX9_learn_26 : decode cX9_learn 26 = .ok (.iload_n 3, 1) := by decide +kernel
theorem dX9_learn_27 : decode cX9_learn 27 = .ok (.iastore, 1) := by decide +kernel
theorem dX9_learn_28 : decode cX9_learn 28 = .ok (.return_, 1) := by decide +kernel
set_option maxRecDepth 20000 in
theorem ggX9_fits_X9_liesHere : GoodIn wsX9_fits wsX9_liesHere := goodIn_r _ [9, 10, 3, 11, 12, 13, 14, 15, 16, 17, 18, 19, 20, 21, 22, 23, 24, 25, 26, 27, 28, 29, 30, 31, 32, 33, 34, 35, 36, 37, 38, 39, 40, 41, 42, 43, 44, 45, 46, 47, 48, 49, 50, 51, 52, 53, 54, 55, 56, 57, 58, 59, 60, 61, 62] (by decide +kernel) (by decide +kernel)
set_option maxRecDepth 20000 in
theorem gX9_fits_X9_liesHere : GoodIn wsX9_fits (wsV RX9 186 RX9 yX9_liesHere wsX9_liesHere) := goodIn_app (goodIn_of _ (by decide +kernel)) ggX9_fits_X9_liesHere
theorem dX9_fits_0 : decode cX9_fits 0 = .ok (.aload_n 0, 1) := by decide +kernel
theorem dX9_fits_1 : decode cX9_fits 1 = .ok (.getfield 38, 3) := by decide +kernel
theorem dX9_fits_4 : decode cX9_fits 4 = .ok (.bipush 6, 2) := by decide +kernel
theorem dX9_fits_6 : decode cX9_fits 6 = .ok (.iload_n 1, 1) := by decide +kernel
theorem dX9_fits_7 : decode cX9_fits 7 = .ok (.imul, 1) := by decide +kernel
theorem dX9_fits_8 : decode cX9_fits 8 = .ok (.iload_n 2, 1) := by decide +kernel
theorem dX9_fits_9 : decode cX9_fits 9 = .ok (.iadd, 1) := by decide +kernel
theorem dX9_fits_10 : decode cX9_fits 10 = .ok (.iaload, 1) := by decide +kernel
theorem dX9_fits_11 : decode cX9_fits 11 = .ok (.aload_n 0, 1) := by decide +kernel
theorem dX9_fits_12 : decode cX9_fits 12 = .ok (.getfield 7, 3) := by decide +kernel
theorem dX9_fits_15 : decode cX9_fits 15 = .ok (.aload_n 0, 1) := by decide +kernel
theorem dX9_fits_16 : decode cX9_fits 16 = .ok (.getfield 148, 3) := by decide +kernel
theorem dX9_fits_19 : decode cX9_fits 19 = .ok (.iaload, 1) := by decide +kernel
theorem dX9_fits_20 : decode cX9_fits 20 = .ok (.if_icmp .ne 29, 3) := by decide +kernel
theorem dX9_fits_23 : decode cX9_fits 23 = .ok (.aload_n 0, 1) := by decide +kernel
theorem dX9_fits_24 : decode cX9_fits 24 = .ok (.getfield 47, 3) := by decide +kernel
theorem dX9_fits_27 : decode cX9_fits 27 = .ok (.iload_n 1, 1) := by decide +kernel
theorem dX9_fits_28 : decode cX9_fits 28 = .ok (.iaload, 1) := by decide +kernel
theorem dX9_fits_29 : decode cX9_fits 29 = .ok (.iload_n 2, 1) := by decide +kernel
theorem dX9_fits_30 : decode cX9_fits 30 = .ok (.if_icmp .ne 7, 3) := by decide +kernel
theorem dX9_fits_33 : decode cX9_fits 33 = .ok (.iconst 1, 1) := by decide +kernel
theorem dX9_fits_34 : decode cX9_fits 34 = .ok (.goto 4, 3) := by decide +kernel
theorem dX9_fits_37 : decode cX9_fits 37 = .ok (.iconst 0, 1) := by decide +kernel
theorem dX9_fits_38 : decode cX9_fits 38 = .ok (.aload_n 0, 1) := by decide +kernel
theorem dX9_fits_39 : decode cX9_fits 39 = .ok (.invokevirtual 186, 3) := by decide +kernel
theorem dX9_fits_42 : decode cX9_fits 42 = .ok (.if_icmp .ne 7, 3) := by decide +kernel
theorem dX9_fits_45 : decode cX9_fits 45 = .ok (.iconst 1, 1) := by decide +kernel
theorem dX9_fits_46 : decode cX9_fits 46 = .ok (.goto 4, 3) := by decide +kernel
theorem dX9_fits_49 : decode cX9_fits 49 = .ok (.iconst 0, 1) := by decide +kernel
theorem dX9_fits_50 : decode cX9_fits 50 = .ok (.ireturn, 1) := by decide +kernel
set_option maxRecDepth 20000 in
theorem ggX9_comeKnown_X9_fits : GoodIn wsX9_comeKnown wsX9_fits := goodIn_r _ [8, 9, 10, 11, 12, 13, 14, 15, 7, 16, 17, 33, 34, 35, 36, 37, 38, 39, 40, 41, 42, 43, 44, 45, 46, 47, 48, 49, 50, 51, 52, 53, 54, 55, 56, 57, 58, 59, 60, 61, 62, 63, 64, 65, 66, 67, 68, 69, 70, 71, 72, 73, 74, 75, 76, 77, 78, 79, 80, 81, 82, 83, 84] (by decide +kernel) (by decide +kernel)
set_option maxRecDepth 20000 in
theorem gX9_comeKnown_X9_fits : GoodIn wsX9_comeKnown (wsV RX9 190 RX9 yX9_fits wsX9_fits) := goodIn_app (goodIn_of _ (by decide +kernel)) ggX9_comeKnown_X9_fits
set_option maxRecDepth 20000 in
theorem ggX9_comeKnown_X9_come : GoodIn wsX9_comeKnown wsX9_come := goodIn_r _ [21, 22, 23, 24, 25, 26, 27, 12, 28, 9, 29, 1, 30, 31, 32, 33, 34, 35, 36, 37, 38, 39, 40, 41, 42, 43, 44, 45, 46, 47, 48, 49, 50, 51, 52, 53, 54, 55, 56, 57, 58, 59, 60, 61, 62, 63, 64, 65, 66, 67, 68, 69, 70, 71, 72, 73, 74, 75, 76, 77, 78, 79, 80, 81, 82, 83, 84] (by decide +kernel) (by decide +kernel)
set_option maxRecDepth 20000 in
theorem gX9_comeKnown_X9_come : GoodIn wsX9_comeKnown (wsV RX9 194 RX9 yX9_come wsX9_come) := goodIn_app (goodIn_of _ (by decide +kernel)) ggX9_comeKnown_X9_come
theorem dX9_comeKnown_0 : decode cX9_comeKnown 0 = .ok (.aload_n 0, 1) := by decide +kernel
theorem dX9_comeKnown_1 : decode cX9_comeKnown 1 = .ok (.getfield 41, 3) := by decide +kernel
theorem dX9_comeKnown_4 : decode cX9_comeKnown 4 = .ok (.bipush 30, 2) := by decide +kernel
theorem dX9_comeKnown_6 : decode cX9_comeKnown 6 = .ok (.iload_n 1, 1) := by decide +kernel
theorem dX9_comeKnown_7 : decode cX9_comeKnown 7 = .ok (.imul, 1) := by decide +kernel
theorem dX9_comeKnown_8 : decode cX9_comeKnown 8 = .ok (.iconst 5, 1) := by decide +kernel
theorem dX9_comeKnown_9 : decode cX9_comeKnown 9 = .ok (.aload_n 0, 1) := by decide +kernel
theorem dX9_comeKnown_10 : decode cX9_comeKnown 10 = .ok (.getfield 44, 3) := by decide +kernel
theorem dX9_comeKnown_13 : decode cX9_comeKnown 13 = .ok (.iload_n 1, 1) := by decide +kernel
theorem dX9_comeKnown_14 : decode cX9_comeKnown 14 = .ok (.iaload, 1) := by decide +kernel
theorem dX9_comeKnown_15 : decode cX9_comeKnown 15 = .ok (.imul, 1) := by decide +kernel
theorem dX9_comeKnown_16 : decode cX9_comeKnown 16 = .ok (.iadd, 1) := by decide +kernel
theorem dX9_comeKnown_17 : decode cX9_comeKnown 17 = .ok (.iload_n 2, 1) := by decide +kernel
theorem dX9_comeKnown_18 : decode cX9_comeKnown 18 = .ok (.iadd, 1) := by decide +kernel
theorem dX9_comeKnown_19 : decode cX9_comeKnown 19 = .ok (.iaload, 1) := by decide +kernel
theorem dX9_comeKnown_20 : decode cX9_comeKnown 20 = .ok (.istore_n 3, 1) := by decide +kernel
theorem dX9_comeKnown_21 : decode cX9_comeKnown 21 = .ok (.iload_n 3, 1) := by decide +kernel
theorem dX9_comeKnown_22 : decode cX9_comeKnown 22 = .ok (.bipush (-2), 2) := by decide +kernel
theorem dX9_comeKnown_24 : decode cX9_comeKnown 24 = .ok (.if_icmp .ne 12, 3) := by decide +kernel
theorem dX9_comeKnown_27 : decode cX9_comeKnown 27 = .ok (.aload_n 0, 1) := by decide +kernel
theorem dX9_comeKnown_28 : decode cX9_comeKnown 28 = .ok (.getfield 44, 3) := by decide +kernel
theorem dX9_comeKnown_31 : decode cX9_comeKnown 31 = .ok (.iload_n 1, 1) := by decide +kernel
theorem dX9_comeKnown_32 : decode cX9_comeKnown 32 = .ok (.iaload, 1) := by decide +kernel
theorem dX9_comeKnown_33 : decode cX9_comeKnown 33 = .ok (.goto 4, 3) := by decide +kernel
theorem dX9_comeKnown_36 : decode cX9_comeKnown 36 = .ok (.iload_n 3, 1) := by decide +kernel
theorem dX9_comeKnown_37 : decode cX9_comeKnown 37 = .ok (.istore 4, 2) := by decide +kernel
theorem dX9_comeKnown_39 : decode cX9_comeKnown 39 = .ok (.iload_n 3, 1) := by decide +kernel
theorem dX9_comeKnown_40 : decode cX9_comeKnown 40 = .ok (.bipush (-2), 2) := by decide +kernel
theorem dX9_comeKnown_42 : decode cX9_comeKnown 42 = .ok (.if_icmp .ne 7, 3) := by decide +kernel
theorem dX9_comeKnown_45 : decode cX9_comeKnown 45 = .ok (.iconst 1, 1) := by decide +kernel
theorem dX9_comeKnown_46 : decode cX9_comeKnown 46 = .ok (.goto 4, 3) := by decide +kernel
theorem dX9_comeKnown_49 : decode cX9_comeKnown 49 = .ok (.iconst 0, 1) := by decide +kernel
theorem dX9_comeKnown_50 : decode cX9_comeKnown 50 = .ok (.aload_n 0, 1) := by decide +kernel
theorem dX9_comeKnown_51 : decode cX9_comeKnown 51 = .ok (.getfield 165, 3) := by decide +kernel
theorem dX9_comeKnown_54 : decode cX9_comeKnown 54 = .ok (.if_icmp .ne 20, 3) := by decide +kernel
theorem dX9_comeKnown_57 : decode cX9_comeKnown 57 = .ok (.aload_n 0, 1) := by decide +kernel
theorem dX9_comeKnown_58 : decode cX9_comeKnown 58 = .ok (.iload_n 1, 1) := by decide +kernel
theorem dX9_comeKnown_59 : decode cX9_comeKnown 59 = .ok (.iload 4, 2) := by decide +kernel
theorem dX9_comeKnown_61 : decode cX9_comeKnown 61 = .ok (.invokevirtual 190, 3) := by decide +kernel
theorem dX9_comeKnown_64 : decode cX9_comeKnown 64 = .ok (.ifCond .eq 10, 3) := by decide +kernel
theorem dX9_comeKnown_67 : decode cX9_comeKnown 67 = .ok (.aload_n 0, 1) := by decide +kernel
theorem dX9_comeKnown_68 : decode cX9_comeKnown 68 = .ok (.iload_n 1, 1) := by decide +kernel
theorem dX9_comeKnown_69 : decode cX9_comeKnown 69 = .ok (.iload 4, 2) := by decide +kernel
theorem dX9_comeKnown_71 : decode cX9_comeKnown 71 = .ok (.invokevirtual 194, 3) := by decide +kernel
theorem dX9_comeKnown_74 : decode cX9_comeKnown 74 = .ok (.return_, 1) := by decide +kernel
set_option maxRecDepth 20000 in
theorem ggX9_comeUnknown_X9_come : GoodIn wsX9_comeUnknown wsX9_come := goodIn_r _ [16, 6, 4, 7, 3, 17, 18, 19, 8, 20, 11, 21, 22, 23, 24, 38, 39, 40, 41, 42, 43, 44, 45, 46, 47, 48, 49, 50, 51, 52, 53, 54, 55, 56, 57, 58, 59, 60, 61, 62, 63, 64, 65, 66, 67, 68, 69, 70, 71, 72, 73, 74, 75, 76, 77, 78, 79, 80, 81, 82, 83, 84, 85, 86, 87, 88, 89] (by decide +kernel) (by decide +kernel)
set_option maxRecDepth 20000 in
theorem gX9_comeUnknown_X9_come : GoodIn wsX9_comeUnknown (wsV RX9 194 RX9 yX9_come wsX9_come) := goodIn_app (goodIn_of _ (by decide +kernel)) ggX9_comeUnknown_X9_come
set_option maxRecDepth 20000 in
theorem ggX9_comeUnknown_X9_learn : GoodIn wsX9_comeUnknown wsX9_learn := goodIn_r _ [28, 4, 11, 6, 38, 39, 40, 41, 42, 43, 44, 45, 46, 47, 48, 49, 50, 51, 52, 53, 54, 55, 56, 57, 58, 59, 60, 61, 62, 63, 64, 65, 66, 67, 68, 69, 70, 71, 72, 73, 74, 75, 76, 77, 78, 79, 80, 81, 82, 83, 84, 85, 86, 87, 88, 89] (by decide +kernel) (by decide +kernel)
set_option maxRecDepth 20000 in
theorem gX9_comeUnknown_X9_learn : GoodIn wsX9_comeUnknown (wsV RX9 198 RX9 yX9_learn wsX9_learn) := goodIn_app (goodIn_of _ (by decide +kernel)) ggX9_comeUnknown_X9_learn
set_option maxRecDepth 20000 in
theorem ggX9_comeUnknown_X9_fits : GoodIn wsX9_comeUnknown wsX9_fits := goodIn_r _ [32, 20, 9, 10, 19, 33, 34, 35, 15, 36, 37, 38, 39, 40, 41, 42, 43, 44, 45, 46, 47, 48, 49, 50, 51, 52, 53, 54, 55, 56, 57, 58, 59, 60, 61, 62, 63, 64, 65, 66, 67, 68, 69, 70, 71, 72, 73, 74, 75, 76, 77, 78, 79, 80, 81, 82, 83, 84, 85, 86, 87, 88, 89] (by decide +kernel) (by decide +kernel)
set_option maxRecDepth 20000 in
theorem gX9_comeUnknown_X9_fits : GoodIn wsX9_comeUnknown (wsV RX9 190 RX9 yX9_fits wsX9_fits) := goodIn_app (goodIn_of _ (by decide +kernel)) ggX9_comeUnknown_X9_fits
set_option maxRecDepth 20000 in
theorem ggX9_comeUnknown_X9_liesHere : GoodIn wsX9_comeUnknown wsX9_liesHere := goodIn_r _ [36, 37, 10, 38, 39, 40, 41, 42, 43, 44, 45, 46, 47, 48, 49, 50, 51, 52, 53, 54, 55, 56, 57, 58, 59, 60, 61, 62, 63, 64, 65, 66, 67, 68, 69, 70, 71, 72, 73, 74, 75, 76, 77, 78, 79, 80, 81, 82, 83, 84, 85, 86, 87, 88, 89] (by decide +kernel) (by decide +kernel)
set_option maxRecDepth 20000 in
theorem gX9_comeUnknown_X9_liesHere : GoodIn wsX9_comeUnknown (wsV RX9 186 RX9 yX9_liesHere wsX9_liesHere) := goodIn_app (goodIn_of _ (by decide +kernel)) ggX9_comeUnknown_X9_liesHere
theorem dX9_comeUnknown_0 : decode cX9_comeUnknown 0 = .ok (.aload_n 0, 1) := by decide +kernel
theorem dX9_comeUnknown_1 : decode cX9_comeUnknown 1 = .ok (.getfield 44, 3) := by decide +kernel
theorem dX9_comeUnknown_4 : decode cX9_comeUnknown 4 = .ok (.iload_n 1, 1) := by decide +kernel
theorem dX9_comeUnknown_5 : decode cX9_comeUnknown 5 = .ok (.iaload, 1) := by decide +kernel
theorem dX9_comeUnknown_6 : decode cX9_comeUnknown 6 = .ok (.istore_n 3, 1) := by decide +kernel
theorem dX9_comeUnknown_7 : decode cX9_comeUnknown 7 = .ok (.aload_n 0, 1) := by decide +kernel
theorem dX9_comeUnknown_8 : decode cX9_comeUnknown 8 = .ok (.getfield 165, 3) := by decide +kernel
theorem dX9_comeUnknown_11 : decode cX9_comeUnknown 11 = .ok (.ifCond .eq 18, 3) := by decide +kernel
theorem dX9_comeUnknown_14 : decode cX9_comeUnknown 14 = .ok (.aload_n 0, 1) := by decide +kernel
theorem dX9_comeUnknown_15 : decode cX9_comeUnknown 15 = .ok (.iload_n 1, 1) := by decide +kernel
theorem dX9_comeUnknown_16 : decode cX9_comeUnknown 16 = .ok (.iload_n 3, 1) := by decide +kernel
theorem dX9_comeUnknown_17 : decode cX9_comeUnknown 17 = .ok (.invokevirtual 194, 3) := by decide +kernel
theorem dX9_comeUnknown_20 : decode cX9_comeUnknown 20 = .ok (.aload_n 0, 1) := by decide +kernel
theorem dX9_comeUnknown_21 : decode cX9_comeUnknown 21 = .ok (.iload_n 3, 1) := by decide +kernel
theorem dX9_comeUnknown_22 : decode cX9_comeUnknown 22 = .ok (.iload_n 2, 1) := by decide +kernel
theorem dX9_comeUnknown_23 : decode cX9_comeUnknown 23 = .ok (.bipush (-2), 2) := by decide +kernel
theorem dX9_comeUnknown_25 : decode cX9_comeUnknown 25 = .ok (.invokevirtual 198, 3) := by decide +kernel
theorem dX9_comeUnknown_28 : decode cX9_comeUnknown 28 = .ok (.return_, 1) := by decide +kernel
theorem dX9_comeUnknown_29 : decode cX9_comeUnknown 29 = .ok (.iconst 0, 1) := by decide +kernel
theorem dX9_comeUnknown_30 : decode cX9_comeUnknown 30 = .ok (.istore 4, 2) := by decide +kernel
theorem dX9_comeUnknown_32 : decode cX9_comeUnknown 32 = .ok (.iload 4, 2) := by decide +kernel
theorem dX9_comeUnknown_34 : decode cX9_comeUnknown 34 = .ok (.aload_n 0, 1) := by decide +kernel
theorem dX9_comeUnknown_35 : decode cX9_comeUnknown 35 = .ok (.getfield 35, 3) := by decide +kernel
theorem dX9_comeUnknown_38 : decode cX9_comeUnknown 38 = .ok (.iload_n 1, 1) := by decide +kernel
theorem dX9_comeUnknown_39 : decode cX9_comeUnknown 39 = .ok (.iaload, 1) := by decide +kernel
theorem dX9_comeUnknown_40 : decode cX9_comeUnknown 40 = .ok (.if_icmp .ge 41, 3) := by decide +kernel
theorem dX9_comeUnknown_43 : decode cX9_comeUnknown 43 = .ok (.aload_n 0, 1) := by decide +kernel
theorem dX9_comeUnknown_44 : decode cX9_comeUnknown 44 = .ok (.getfield 180, 3) := by decide +kernel
theorem dX9_comeUnknown_47 : decode cX9_comeUnknown 47 = .ok (.ifCond .ne 34, 3) := by decide +kernel
theorem dX9_comeUnknown_50 : decode cX9_comeUnknown 50 = .ok (.aload_n 0, 1) := by decide +kernel
theorem dX9_comeUnknown_51 : decode cX9_comeUnknown 51 = .ok (.iload_n 1, 1) := by decide +kernel
theorem dX9_comeUnknown_52 : decode cX9_comeUnknown 52 = .ok (.iload 4, 2) := by decide +kernel
theorem dX9_comeUnknown_54 : decode cX9_comeUnknown 54 = .ok (.invokevirtual 190, 3) := by decide +kernel
theorem dX9_comeUnknown_57 : decode cX9_comeUnknown 57 = .ok (.ifCond .eq 18, 3) := by decide +kernel
theorem dX9_comeUnknown_60 : decode cX9_comeUnknown 60 = .ok (.aload_n 0, 1) := by decide +kernel
theorem dX9_comeUnknown_61 : decode cX9_comeUnknown 61 = .ok (.iload_n 1, 1) := by decide +kernel
theorem dX9_comeUnknown_62 : decode cX9_comeUnknown 62 = .ok (.iload 4, 2) := by decide +kernel
theorem dX9_comeUnknown_64 : decode cX9_comeUnknown 64 = .ok (.invokevirtual 194, 3) := by decide +kernel
theorem dX9_comeUnknown_67 : decode cX9_comeUnknown 67 = .ok (.aload_n 0, 1) := by decide +kernel
theorem dX9_comeUnknown_68 : decode cX9_comeUnknown 68 = .ok (.iload_n 3, 1) := by decide +kernel
theorem dX9_comeUnknown_69 : decode cX9_comeUnknown 69 = .ok (.iload_n 2, 1) := by decide +kernel
theorem dX9_comeUnknown_70 : decode cX9_comeUnknown 70 = .ok (.iload 4, 2) := by decide +kernel
theorem dX9_comeUnknown_72 : decode cX9_comeUnknown 72 = .ok (.invokevirtual 198, 3) := by decide +kernel
theorem dX9_comeUnknown_75 : decode cX9_comeUnknown 75 = .ok (.iinc 4 1, 3) := by decide +kernel
theorem dX9_comeUnknown_78 : decode cX9_comeUnknown 78 = .ok (.goto (-46), 3) := by decide +kernel
theorem dX9_comeUnknown_81 : decode cX9_comeUnknown 81 = .ok (.aload_n 0, 1) := by decide +kernel
theorem dX9_comeUnknown_82 : decode cX9_comeUnknown 82 = .ok (.getfield 35, 3) := by decide +kernel
theorem dX9_comeUnknown_85 : decode cX9_comeUnknown 85 = .ok (.iload_n 1, 1) := by decide +kernel
theorem dX9_comeUnknown_86 : decode cX9_comeUnknown 86 = .ok (.iaload, 1) := by decide +kernel
theorem dX9_comeUnknown_87 : decode cX9_comeUnknown 87 = .ok (.aload_n 0, 1) := by decide +kernel
theorem dX9_comeUnknown_88 : decode cX9_comeUnknown 88 = .ok (.getfield 174, 3) := by decide +kernel
theorem dX9_comeUnknown_91 : decode cX9_comeUnknown 91 = .ok (.if_icmp .ge 123, 3) := by decide +kernel
theorem dX9_comeUnknown_94 : decode cX9_comeUnknown 94 = .ok (.aload_n 0, 1) := by decide +kernel
theorem dX9_comeUnknown_95 : decode cX9_comeUnknown 95 = .ok (.invokevirtual 186, 3) := by decide +kernel
theorem dX9_comeUnknown_98 : decode cX9_comeUnknown 98 = .ok (.ifCond .ne 116, 3) := by decide +kernel
theorem dX9_comeUnknown_101 : decode cX9_comeUnknown 101 = .ok (.aload_n 0, 1) := by decide +kernel
theorem dX9_comeUnknown_102 : decode cX9_comeUnknown 102 = .ok (.getfield 180, 3) := by decide +kernel
theorem dX9_comeUnknown_105 : decode cX9_comeUnknown 105 = .ok (.ifCond .ne 109, 3) := by decide +kernel
theorem dX9_comeUnknown_108 : decode cX9_comeUnknown 108 = .ok (.aload_n 0, 1) := by decide +kernel
theorem dX9_comeUnknown_109 : decode cX9_comeUnknown 109 = .ok (.getfield 35, 3) := by decide +kernel
theorem dX9_comeUnknown_112 : decode cX9_comeUnknown 112 = .ok (.iload_n 1, 1) := by decide +kernel
theorem dX9_comeUnknown_113 : decode cX9_comeUnknown 113 = .ok (.iaload, 1) := by decide +kernel
theorem dX9_comeUnknown_114 : decode cX9_comeUnknown 114 = .ok (.istore 4, 2) := by decide +kernel
theorem dX9_comeUnknown_116 : decode cX9_comeUnknown 116 = .ok (.aload_n 0, 1) := by decide +kernel
theorem dX9_comeUnknown_117 : decode cX9_comeUnknown 117 = .ok (.iload_n 1, 1) := by decide +kernel
theorem dX9_comeUnknown_118 : decode cX9_comeUnknown 118 = .ok (.iload 4, 2) := by decide +kernel
theorem dX9_comeUnknown_120 : decode cX9_comeUnknown 120 = .ok (.invokevirtual 194, 3) := by decide +kernel
theorem dX9_comeUnknown_123 : decode cX9_comeUnknown 123 = .ok (.aload_n 0, 1) := by decide +kernel
theorem dX9_comeUnknown_124 : decode cX9_comeUnknown 124 = .ok (.iload_n 3, 1) := by decide +kernel
theorem dX9_comeUnknown_125 : decode cX9_comeUnknown 125 = .ok (.iload_n 2, 1) := by decide +kernel
theorem dX9_comeUnknown_126 : decode cX9_comeUnknown 126 = .ok (.iload 4, 2) := by decide +kernel
theorem dX9_comeUnknown_128 : decode cX9_comeUnknown 128 = .ok (.invokevirtual 198, 3) := by decide +kernel
theorem dX9_comeUnknown_131 : decode cX9_comeUnknown 131 = .ok (.aload_n 0, 1) := by decide +kernel
theorem dX9_comeUnknown_132 : decode cX9_comeUnknown 132 = .ok (.getfield 180, 3) := by decide +kernel
theorem dX9_comeUnknown_135 : decode cX9_comeUnknown 135 = .ok (.ifCond .ne 79, 3) := by decide +kernel
theorem dX9_comeUnknown_138 : decode cX9_comeUnknown 138 = .ok (.aload_n 0, 1) := by decide +kernel
theorem dX9_comeUnknown_139 : decode cX9_comeUnknown 139 = .ok (.getfield 183, 3) := by decide +kernel
theorem dX9_comeUnknown_142 : decode cX9_comeUnknown 142 = .ok (.iconst 1, 1) := by decide +kernel
theorem dX9_comeUnknown_143 : decode cX9_comeUnknown 143 = .ok (.isub, 1) := by decide +kernel
theorem dX9_comeUnknown_144 : decode cX9_comeUnknown 144 = .ok (.istore 5, 2) := by decide +kernel
theorem dX9_comeUnknown_146 : decode cX9_comeUnknown 146 = .ok (.aload_n 0, 1) := by decide +kernel
theorem dX9_comeUnknown_147 : decode cX9_comeUnknown 147 = .ok (.getfield 54, 3) := by decide +kernel
theorem dX9_comeUnknown_150 : decode cX9_comeUnknown 150 = .ok (.iload 5, 2) := by decide +kernel
theorem dX9_comeUnknown_152 : decode cX9_comeUnknown 152 = .ok (.iload 4, 2) := by decide +kernel
theorem dX9_comeUnknown_154 : decode cX9_comeUnknown 154 = .ok (.iconst 1, 1) := by decide +kernel
theorem dX9_comeUnknown_155 : decode cX9_comeUnknown 155 = .ok (.iadd, 1) := by decide +kernel
theorem dX9_comeUnknown_156 : decode cX9_comeUnknown 156 = .ok (.iastore, 1) := by decide +kernel
theorem dX9_comeUnknown_157 : decode cX9_comeUnknown 157 = .ok (.aload_n 0, 1) := by decide +kernel
theorem dX9_comeUnknown_158 : decode cX9_comeUnknown 158 = .ok (.getfield 57, 3) := by decide +kernel
theorem dX9_comeUnknown_161 : decode cX9_comeUnknown 161 = .ok (.bipush 6, 2) := by decide +kernel
theorem dX9_comeUnknown_163 : decode cX9_comeUnknown 163 = .ok (.iload 5, 2) := by decide +kernel
theorem dX9_comeUnknown_165 : decode cX9_comeUnknown 165 = .ok (.imul, 1) := by decide +kernel
theorem dX9_comeUnknown_166 : decode cX9_comeUnknown 166 = .ok (.iload 4, 2) := by decide +kernel
theorem dX9_comeUnknown_168 : decode cX9_comeUnknown 168 = .ok (.iadd, 1) := by decide +kernel
theorem dX9_comeUnknown_169 : decode cX9_comeUnknown 169 = .ok (.aload_n 0, 1) := by decide +kernel
theorem dX9_comeUnknown_170 : decode cX9_comeUnknown 170 = .ok (.getfield 7, 3) := by decide +kernel
theorem dX9_comeUnknown_173 : decode cX9_comeUnknown 173 = .ok (.aload_n 0, 1) := by decide +kernel
theorem dX9_comeUnknown_174 : decode cX9_comeUnknown 174 = .ok (.getfield 148, 3) := by decide +kernel
theorem dX9_comeUnknown_177 : decode cX9_comeUnknown 177 = .ok (.iaload, 1) := by decide +kernel
theorem dX9_comeUnknown_178 : decode cX9_comeUnknown 178 = .ok (.iastore, 1) := by decide +kernel
theorem dX9_comeUnknown_179 : decode cX9_comeUnknown 179 = .ok (.iconst 0, 1) := by decide +kernel
theorem dX9_comeUnknown_180 : decode cX9_comeUnknown 180 = .ok (.istore 6, 2) := by decide +kernel
theorem dX9_comeUnknown_182 : decode cX9_comeUnknown 182 = .ok (.iload 6, 2) := by decide +kernel
theorem dX9_comeUnknown_184 : decode cX9_comeUnknown 184 = .ok (.iconst 5, 1) := by decide +kernel
theorem dX9_comeUnknown_185 : decode cX9_comeUnknown 185 = .ok (.if_icmp .ge 29, 3) := by decide +kernel
theorem dX9_comeUnknown_188 : decode cX9_comeUnknown 188 = .ok (.aload_n 0, 1) := by decide +kernel
theorem dX9_comeUnknown_189 : decode cX9_comeUnknown 189 = .ok (.getfield 60, 3) := by decide +kernel
theorem dX9_comeUnknown_192 : decode cX9_comeUnknown 192 = .ok (.bipush 30, 2) := by decide +kernel
theorem dX9_comeUnknown_194 : decode cX9_comeUnknown 194 = .ok (.iload 5, 2) := by decide +kernel
theorem dX9_comeUnknown_196 : decode cX9_comeUnknown 196 = .ok (.imul, 1) := by decide +kernel
theorem dX9_comeUnknown_197 : decode cX9_comeUnknown 197 = .ok (.iconst 5, 1) := by decide +kernel
theorem dX9_comeUnknown_198 : decode cX9_comeUnknown 198 = .ok (.iload 4, 2) := by decide +kernel
theorem dX9_comeUnknown_200 : decode cX9_comeUnknown 200 = .ok (.imul, 1) := by decide +kernel
theorem dX9_comeUnknown_201 : decode cX9_comeUnknown 201 = .ok (.iadd, 1) := by decide +kernel
theorem dX9_comeUnknown_202 : decode cX9_comeUnknown 202 = .ok (.iload 6, 2) := by decide +kernel
theorem dX9_comeUnknown_204 : decode cX9_comeUnknown 204 = .ok (.iadd, 1) := by decide +kernel
theorem dX9_comeUnknown_205 : decode cX9_comeUnknown 205 = .ok (.bipush (-3), 2) := by decide +kernel
theorem dX9_comeUnknown_207 : decode cX9_comeUnknown 207 = .ok (.iastore, 1) := by decide +kernel
theorem dX9_comeUnknown_208 : decode cX9_comeUnknown 208 = .ok (.iinc 6 1, 3) := by decide +kernel
theorem dX9_comeUnknown_211 : decode cX9_comeUnknown 211 = .ok (.goto (-29), 3) := by decide +kernel
theorem dX9_comeUnknown_214 : decode cX9_comeUnknown 214 = .ok (.return_, 1) := by decide +kernel
theorem dX9_takeCome_0 : decode cX9_takeCome 0 = .ok (.aload_n 0, 1) := by decide +kernel
theorem dX9_takeCome_1 : decode cX9_takeCome 1 = .ok (.aload_n 0, 1) := by decide +kernel
theorem dX9_takeCome_2 : decode cX9_takeCome 2 = .ok (.getfield 180, 3) := by decide +kernel
theorem dX9_takeCome_5 : decode cX9_takeCome 5 = .ok (.ifCond .eq 7, 3) := by decide +kernel
theorem dX9_takeCome_8 : decode cX9_takeCome 8 = .ok (.iconst 0, 1) := by decide +kernel
theorem dX9_takeCome_9 : decode cX9_takeCome 9 = .ok (.goto 7, 3) := by decide +kernel
theorem dX9_takeCome_12 : decode cX9_takeCome 12 = .ok (.aload_n 0, 1) := by decide +kernel
theorem dX9_takeCome_13 : decode cX9_takeCome 13 = .ok (.getfield 183, 3) := by decide +kernel
theorem dX9_takeCome_16 : decode cX9_takeCome 16 = .ok (.putfield 177, 3) := by decide +kernel
theorem dX9_takeCome_19 : decode cX9_takeCome 19 = .ok (.iconst 0, 1) := by decide +kernel
theorem dX9_takeCome_20 : decode cX9_takeCome 20 = .ok (.istore_n 1, 1) := by decide +kernel
theorem dX9_takeCome_21 : decode cX9_takeCome 21 = .ok (.iload_n 1, 1) := by decide +kernel
theorem dX9_takeCome_22 : decode cX9_takeCome 22 = .ok (.aload_n 0, 1) := by decide +kernel
theorem dX9_takeCome_23 : decode cX9_takeCome 23 = .ok (.getfield 177, 3) := by decide +kernel
theorem dX9_takeCome_26 : decode cX9_takeCome 26 = .ok (.if_icmp .ge 157, 3) := by decide +kernel
theorem dX9_takeCome_29 : decode cX9_takeCome 29 = .ok (.aload_n 0, 1) := by decide +kernel
theorem dX9_takeCome_30 : decode cX9_takeCome 30 = .ok (.getfield 35, 3) := by decide +kernel
theorem dX9_takeCome_33 : decode cX9_takeCome 33 = .ok (.iload_n 1, 1) := by decide +kernel
theorem dX9_takeCome_34 : decode cX9_takeCome 34 = .ok (.aload_n 0, 1) := by decide +kernel
theorem dX9_takeCome_35 : decode cX9_takeCome 35 = .ok (.getfield 54, 3) := by decide +kernel
theorem dX9_takeCome_38 : decode cX9_takeCome 38 = .ok (.iload_n 1, 1) := by decide +kernel
theorem dX9_takeCome_39 : decode cX9_takeCome 39 = .ok (.iaload, 1) := by decide +kernel
theorem dX9_takeCome_40 : decode cX9_takeCome 40 = .ok (.iastore, 1) := by decide +kernel
theorem dX9_takeCome_41 : decode cX9_takeCome 41 = .ok (.aload_n 0, 1) := by decide +kernel
theorem dX9_takeCome_42 : decode cX9_takeCome 42 = .ok (.getfield 44, 3) := by decide +kernel
theorem dX9_takeCome_45 : decode cX9_takeCome 45 = .ok (.iload_n 1, 1) := by decide +kernel
theorem dX9_takeCome_46 : decode cX9_takeCome 46 = .ok (.aload_n 0, 1) := by decide +kernel
theorem dX9_takeCome_47 : decode cX9_takeCome 47 = .ok (.getfield 63, 3) := by decide +kernel
theorem dX9_takeCome_50 : decode cX9_takeCome 50 = .ok (.iload_n 1, 1) := by decide +kernel
theorem dX9_takeCome_51 : decode cX9_takeCome 51 = .ok (.iaload, 1) := by decide +kernel
theorem dX9_takeCome_52 : decode cX9_takeCome 52 = .ok (.iastore, 1) := by decide +kernel
theorem dX9_takeCome_53 : decode cX9_takeCome 53 = .ok (.aload_n 0, 1) := by decide +kernel
theorem dX9_takeCome_54 : decode cX9_takeCome 54 = .ok (.getfield 47, 3) := by decide +kernel
theorem dX9_takeCome_57 : decode cX9_takeCome 57 = .ok (.iload_n 1, 1) := by decide +kernel
theorem dX9_takeCome_58 : decode cX9_takeCome 58 = .ok (.aload_n 0, 1) := by decide +kernel
theorem dX9_takeCome_59 : decode cX9_takeCome 59 = .ok (.getfield 66, 3) := by decide +kernel
theorem dX9_takeCome_62 : decode cX9_takeCome 62 = .ok (.iload_n 1, 1) := by decide +kernel
theorem dX9_takeCome_63 : decode cX9_takeCome 63 = .ok (.iaload, 1) := by decide +kernel
theorem dX9_takeCome_64 : decode cX9_takeCome 64 = .ok (.iastore, 1) := by decide +kernel
theorem dX9_takeCome_65 : decode cX9_takeCome 65 = .ok (.iconst 0, 1) := by decide +kernel
theorem dX9_takeCome_66 : decode cX9_takeCome 66 = .ok (.istore_n 2, 1) := by decide +kernel
theorem dX9_takeCome_67 : decode cX9_takeCome 67 = .ok (.iload_n 2, 1) := by decide +kernel
theorem dX9_takeCome_68 : decode cX9_takeCome 68 = .ok (.bipush 6, 2) := by decide +kernel
theorem dX9_takeCome_70 : decode cX9_takeCome 70 = .ok (.if_icmp .ge 31, 3) := by decide +kernel
theorem dX9_takeCome_73 : decode cX9_takeCome 73 = .ok (.aload_n 0, 1) := by decide +kernel
theorem dX9_takeCome_74 : decode cX9_takeCome 74 = .ok (.getfield 38, 3) := by decide +kernel
theorem dX9_takeCome_77 : decode cX9_takeCome 77 = .ok (.bipush 6, 2) := by decide +kernel
theorem dX9_takeCome_79 : decode cX9_takeCome 79 = .ok (.iload_n 1, 1) := by decide +kernel
theorem dX9_takeCome_80 : decode cX9_takeCome 80 = .ok (.imul, 1) := by decide +kernel
theorem dX9_takeCome_81 : decode cX9_takeCome 81 = .ok (.iload_n 2, 1) := by decide +kernel
theorem dX9_takeCome_82 : decode cX9_takeCome 82 = .ok (.iadd, 1) := by decide +kernel
theorem dX9_takeCome_83 : decode cX9_takeCome 83 = .ok (.aload_n 0, 1) := by decide +kernel
theorem dX9_takeCome_84 : decode cX9_takeCome 84 = .ok (.getfield 57, 3) := by decide +kernel
theorem dX9_takeCome_87 : decode cX9_takeCome 87 = .ok (.bipush 6, 2) := by decide +kernel
theorem dX9_takeCome_89 : decode cX9_takeCome 89 = .ok (.iload_n 1, 1) := by decide +kernel
theorem dX9_takeCome_90 : decode cX9_takeCome 90 = .ok (.imul, 1) := by decide +kernel
theorem dX9_takeCome_91 : decode cX9_takeCome 91 = .ok (.iload_n 2, 1) := by decide +kernel
theorem dX9_takeCome_92 : decode cX9_takeCome 92 = .ok (.iadd, 1) := by decide +kernel
theorem dX9_takeCome_93 : decode cX9_takeCome 93 = .ok (.iaload, 1) := by decide +kernel
theorem dX9_takeCome_94 : decode cX9_takeCome 94 = .ok (.iastore, 1) := by decide +kernel
theorem dX9_takeCome_95 : decode cX9_takeCome 95 = .ok (.iinc 2 1, 3) := by decide +kernel
theorem dX9_takeCome_98 : decode cX9_takeCome 98 = .ok (.goto (-31), 3) := by decide +kernel
theorem dX9_takeCome_101 : decode cX9_takeCome 101 = .ok (.iconst 0, 1) := by decide +kernel
theorem dX9_takeCome_102 : decode cX9_takeCome 102 = .ok (.istore_n 2, 1) := by decide +kernel
theorem dX9_takeCome_103 : decode cX9_takeCome 103 = .ok (.iload_n 2, 1) := by decide +kernel
theorem dX9_takeCome_104 : decode cX9_takeCome 104 = .ok (.bipush 30, 2) := by decide +kernel
theorem dX9_takeCome_106 : decode cX9_takeCome 106 = .ok (.if_icmp .ge 31, 3) := by decide +kernel
theorem dX9_takeCome_109 : decode cX9_takeCome 109 = .ok (.aload_n 0, 1) := by decide +kernel
theorem dX9_takeCome_110 : decode cX9_takeCome 110 = .ok (.getfield 41, 3) := by decide +kernel
theorem dX9_takeCome_113 : decode cX9_takeCome 113 = .ok (.bipush 30, 2) := by decide +kernel
theorem dX9_takeCome_115 : decode cX9_takeCome 115 = .ok (.iload_n 1, 1) := by decide +kernel
theorem dX9_takeCome_116 : decode cX9_takeCome 116 = .ok (.imul, 1) := by decide +kernel
theorem dX9_takeCome_117 : decode cX9_takeCome 117 = .ok (.iload_n 2, 1) := by decide +kernel
theorem dX9_takeCome_118 : decode cX9_takeCome 118 = .ok (.iadd, 1) := by decide +kernel
theorem dX9_takeCome_119 : decode cX9_takeCome 119 = .ok (.aload_n 0, 1) := by decide +kernel
theorem dX9_takeCome_120 : decode cX9_takeCome 120 = .ok (.getfield 60, 3) := by decide +kernel
theorem dX9_takeCome_123 : decode cX9_takeCome 123 = .ok (.bipush 30, 2) := by decide +kernel
theorem dX9_takeCome_125 : decode cX9_takeCome 125 = .ok (.iload_n 1, 1) := by decide +kernel
theorem dX9_takeCome_126 : decode cX9_takeCome 126 = .ok (.imul, 1) := by decide +kernel
theorem dX9_takeCome_127 : decode cX9_takeCome 127 = .ok (.iload_n 2, 1) := by decide +kernel
theorem dX9_takeCome_128 : decode cX9_takeCome 128 = .ok (.iadd, 1) := by decide +kernel
theorem dX9_takeCome_129 : decode cX9_takeCome 129 = .ok (.iaload, 1) := by decide +kernel
theorem dX9_takeCome_130 : decode cX9_takeCome 130 = .ok (.iastore, 1) := by decide +kernel
theorem dX9_takeCome_131 : decode cX9_takeCome 131 = .ok (.iinc 2 1, 3) := by decide +kernel
theorem dX9_takeCome_134 : decode cX9_takeCome 134 = .ok (.goto (-31), 3) := by decide +kernel
theorem dX9_takeCome_137 : decode cX9_takeCome 137 = .ok (.iconst 0, 1) := by decide +kernel
theorem dX9_takeCome_138 : decode cX9_takeCome 138 = .ok (.istore_n 2, 1) := by decide +kernel
theorem dX9_takeCome_139 : decode cX9_takeCome 139 = .ok (.iload_n 2, 1) := by decide +kernel
theorem dX9_takeCome_140 : decode cX9_takeCome 140 = .ok (.aload_n 0, 1) := by decide +kernel
theorem dX9_takeCome_141 : decode cX9_takeCome 141 = .ok (.getfield 168, 3) := by decide +kernel
theorem dX9_takeCome_144 : decode cX9_takeCome 144 = .ok (.if_icmp .gt 33, 3) := by decide +kernel
theorem dX9_takeCome_147 : decode cX9_takeCome 147 = .ok (.aload_n 0, 1) := by decide +kernel
theorem dX9_takeCome_148 : decode cX9_takeCome 148 = .ok (.getfield 50, 3) := by decide +kernel
theorem dX9_takeCome_151 : decode cX9_takeCome 151 = .ok (.sipush 201, 3) := by decide +kernel
theorem dX9_takeCome_154 : decode cX9_takeCome 154 = .ok (.iload_n 1, 1) := by decide +kernel
theorem dX9_takeCome_155 : decode cX9_takeCome 155 = .ok (.imul, 1) := by decide +kernel
theorem dX9_takeCome_156 : decode cX9_takeCome 156 = .ok (.iload_n 2, 1) := by decide +kernel
theorem dX9_takeCome_157 : decode cX9_takeCome 157 = .ok (.iadd, 1) := by decide +kernel
theorem dX9_takeCome_158 : decode cX9_takeCome 158 = .ok (.aload_n 0, 1) := by decide +kernel
theorem dX9_takeCome_159 : decode cX9_takeCome 159 = .ok (.getfield 69, 3) := by decide +kernel
theorem dX9_takeCome_162 : decode cX9_takeCome 162 = .ok (.sipush 201, 3) := by decide +kernel
theorem dX9_takeCome_165 : decode cX9_takeCome 165 = .ok (.iload_n 1, 1) := by decide +kernel
theorem dX9_takeCome_166 : decode cX9_takeCome 166 = .ok (.imul, 1) := by decide +kernel
theorem dX9_takeCome_167 : decode cX9_takeCome 167 = .ok (.iload_n 2, 1) := by decide +kernel
theorem dX9_takeCome_168 : decode cX9_takeCome 168 = .ok (.iadd, 1) := by decide +kernel
theorem dX9_takeCome_169 : decode cX9_takeCome 169 = .ok (.baload, 1) := by decide +kernel
theorem dX9_takeCome_170 : decode cX9_takeCome 170 = .ok (.bastore, 1) := by decide +kernel
theorem dX9_takeCome_171 : decode cX9_takeCome 171 = .ok (.iinc 2 1, 3) := by decide +kernel
theorem dX9_takeCome_174 : decode cX9_takeCome 174 = .ok (.goto (-35), 3) := by decide +kernel
theorem dX9_takeCome_177 : decode cX9_takeCome 177 = .ok (.iinc 1 1, 3) := by decide +kernel
theorem dX9_takeCome_180 : decode cX9_takeCome 180 = .ok (.goto (-159), 3) := by decide +kernel
theorem dX9_takeCome_183 : decode cX9_takeCome 183 = .ok (.return_, 1) := by decide +kernel
set_option maxRecDepth 20000 in
theorem ggX9_movePebble_X9_liesHere : GoodIn wsX9_movePebble wsX9_liesHere := goodIn_r _ [12, 1, 2, 13, 14, 15, 16, 17, 18, 19, 20, 21, 22, 23, 24, 25, 26, 27, 28, 29, 30, 31, 32, 33, 34, 35, 36, 37, 38, 39, 40, 41, 42, 43, 44, 45, 46, 47, 48, 49, 50, 51, 52, 53, 54, 55, 56, 57, 58, 59, 60, 61, 62, 63, 64] (by decide +kernel) (by decide +kernel)
set_option maxRecDepth 20000 in
theorem gX9_movePebble_X9_liesHere : GoodIn wsX9_movePebble (wsV RX9 186 RX9 yX9_liesHere wsX9_liesHere) := goodIn_app (goodIn_of _ (by decide +kernel)) ggX9_movePebble_X9_liesHere
theorem dX9_movePebble_0 : decode cX9_movePebble 0 = .ok (.aload_n 0, 1) := by decide +kernel
theorem dX9_movePebble_1 : decode cX9_movePebble 1 = .ok (.getfield 162, 3) := by decide +kernel
theorem dX9_movePebble_4 : decode cX9_movePebble 4 = .ok (.ifCond .lt 14, 3) := by decide +kernel
theorem dX9_movePebble_7 : decode cX9_movePebble 7 = .ok (.aload_n 0, 1) := by decide +kernel
theorem dX9_movePebble_8 : decode cX9_movePebble 8 = .ok (.invokevirtual 186, 3) := by decide +kernel
theorem dX9_movePebble_11 : decode cX9_movePebble 11 = .ok (.ifCond .eq 7, 3) := by decide +kernel
theorem dX9_movePebble_14 : decode cX9_movePebble 14 = .ok (.iconst 1, 1) := by decide +kernel
theorem dX9_movePebble_15 : decode cX9_movePebble 15 = .ok (.goto 4, 3) := by decide +kernel
theorem dX9_movePebble_18 : decode cX9_movePebble 18 = .ok (.iconst 0, 1) := by decide +kernel
theorem dX9_movePebble_19 : decode cX9_movePebble 19 = .ok (.istore_n 1, 1) := by decide +kernel
theorem dX9_movePebble_20 : decode cX9_movePebble 20 = .ok (.aload_n 0, 1) := by decide +kernel
theorem dX9_movePebble_21 : decode cX9_movePebble 21 = .ok (.getfield 162, 3) := by decide +kernel
theorem dX9_movePebble_24 : decode cX9_movePebble 24 = .ok (.ifCond .ge 7, 3) := by decide +kernel
theorem dX9_movePebble_27 : decode cX9_movePebble 27 = .ok (.iconst 1, 1) := by decide +kernel
theorem dX9_movePebble_28 : decode cX9_movePebble 28 = .ok (.goto 4, 3) := by decide +kernel
theorem dX9_movePebble_31 : decode cX9_movePebble 31 = .ok (.iconst 0, 1) := by decide +kernel
theorem dX9_movePebble_32 : decode cX9_movePebble 32 = .ok (.istore_n 2, 1) := by decide +kernel
theorem dX9_movePebble_33 : decode cX9_movePebble 33 = .ok (.aload_n 0, 1) := by decide +kernel
theorem dX9_movePebble_34 : decode cX9_movePebble 34 = .ok (.iload_n 1, 1) := by decide +kernel
theorem dX9_movePebble_35 : decode cX9_movePebble 35 = .ok (.ifCond .eq 8, 3) := by decide +kernel
theorem dX9_movePebble_38 : decode cX9_movePebble 38 = .ok (.bipush (-2), 2) := by decide +kernel
theorem dX9_movePebble_40 : decode cX9_movePebble 40 = .ok (.goto 18, 3) := by decide +kernel
theorem dX9_movePebble_43 : decode cX9_movePebble 43 = .ok (.iload_n 2, 1) := by decide +kernel
theorem dX9_movePebble_44 : decode cX9_movePebble 44 = .ok (.ifCond .eq 10, 3) := by decide +kernel
theorem dX9_movePebble_47 : decode cX9_movePebble 47 = .ok (.aload_n 0, 1) := by decide +kernel
theorem dX9_movePebble_48 : decode cX9_movePebble 48 = .ok (.getfield 148, 3) := by decide +kernel
theorem dX9_movePebble_51 : decode cX9_movePebble 51 = .ok (.goto 7, 3) := by decide +kernel
theorem dX9_movePebble_54 : decode cX9_movePebble 54 = .ok (.aload_n 0, 1) := by decide +kernel
theorem dX9_movePebble_55 : decode cX9_movePebble 55 = .ok (.getfield 162, 3) := by decide +kernel
theorem dX9_movePebble_58 : decode cX9_movePebble 58 = .ok (.putfield 162, 3) := by decide +kernel
theorem dX9_movePebble_61 : decode cX9_movePebble 61 = .ok (.iconst 0, 1) := by decide +kernel
theorem dX9_movePebble_62 : decode cX9_movePebble 62 = .ok (.istore_n 3, 1) := by decide +kernel
theorem dX9_movePebble_63 : decode cX9_movePebble 63 = .ok (.iload_n 3, 1) := by decide +kernel
theorem dX9_movePebble_64 : decode cX9_movePebble 64 = .ok (.aload_n 0, 1) := by decide +kernel
theorem dX9_movePebble_65 : decode cX9_movePebble 65 = .ok (.getfield 177, 3) := by decide +kernel
theorem dX9_movePebble_68 : decode cX9_movePebble 68 = .ok (.if_icmp .ge 65, 3) := by decide +kernel
theorem dX9_movePebble_71 : decode cX9_movePebble 71 = .ok (.aload_n 0, 1) := by decide +kernel
theorem dX9_movePebble_72 : decode cX9_movePebble 72 = .ok (.getfield 47, 3) := by decide +kernel
theorem dX9_movePebble_75 : decode cX9_movePebble 75 = .ok (.iload_n 3, 1) := by decide +kernel
theorem dX9_movePebble_76 : decode cX9_movePebble 76 = .ok (.iload_n 1, 1) := by decide +kernel
theorem dX9_movePebble_77 : decode cX9_movePebble 77 = .ok (.ifCond .eq 8, 3) := by decide +kernel
theorem dX9_movePebble_80 : decode cX9_movePebble 80 = .ok (.bipush (-2), 2) := by decide +kernel
theorem dX9_movePebble_82 : decode cX9_movePebble 82 = .ok (.goto 22, 3) := by decide +kernel
theorem dX9_movePebble_85 : decode cX9_movePebble 85 = .ok (.iload_n 2, 1) := by decide +kernel
theorem dX9_movePebble_86 : decode cX9_movePebble 86 = .ok (.ifCond .eq 12, 3) := by decide +kernel
theorem dX9_movePebble_89 : decode cX9_movePebble 89 = .ok (.aload_n 0, 1) := by decide +kernel
theorem dX9_movePebble_90 : decode cX9_movePebble 90 = .ok (.getfield 44, 3) := by decide +kernel
theorem dX9_movePebble_93 : decode cX9_movePebble 93 = .ok (.iload_n 3, 1) := by decide +kernel
theorem dX9_movePebble_94 : decode cX9_movePebble 94 = .ok (.iaload, 1) := by decide +kernel
theorem dX9_movePebble_95 : decode cX9_movePebble 95 = .ok (.goto 9, 3) := by decide +kernel
theorem dX9_movePebble_98 : decode cX9_movePebble 98 = .ok (.aload_n 0, 1) := by decide +kernel
theorem dX9_movePebble_99 : decode cX9_movePebble 99 = .ok (.getfield 47, 3) := by decide +kernel
theorem dX9_movePebble_102 : decode cX9_movePebble 102 = .ok (.iload_n 3, 1) := by decide +kernel
theorem dX9_movePebble_103 : decode cX9_movePebble 103 = .ok (.iaload, 1) := by decide +kernel
theorem dX9_movePebble_104 : decode cX9_movePebble 104 = .ok (.iastore, 1) := by decide +kernel
theorem dX9_movePebble_105 : decode cX9_movePebble 105 = .ok (.aload_n 0, 1) := by decide +kernel
theorem dX9_movePebble_106 : decode cX9_movePebble 106 = .ok (.getfield 50, 3) := by decide +kernel
theorem dX9_movePebble_109 : decode cX9_movePebble 109 = .ok (.sipush 201, 3) := by decide +kernel
theorem dX9_movePebble_112 : decode cX9_movePebble 112 = .ok (.iload_n 3, 1) := by decide +kernel
theorem dX9_movePebble_113 : decode cX9_movePebble 113 = .ok (.imul, 1) := by decide +kernel
theorem dX9_movePebble_114 : decode cX9_movePebble 114 = .ok (.aload_n 0, 1) := by decide +kernel
theorem dX9_movePebble_115 : decode cX9_movePebble 115 = .ok (.getfield 168, 3) := by decide +kernel
theorem dX9_movePebble_118 : decode cX9_movePebble 118 = .ok (.iadd, 1) := by decide +kernel
theorem dX9_movePebble_119 : decode cX9_movePebble 119 = .ok (.aload_n 0, 1) := by decide +kernel
theorem dX9_movePebble_120 : decode cX9_movePebble 120 = .ok (.getfield 44, 3) := by decide +kernel
theorem dX9_movePebble_123 : decode cX9_movePebble 123 = .ok (.iload_n 3, 1) := by decide +kernel
theorem dX9_movePebble_124 : decode cX9_movePebble 124 = .ok (.iaload, 1) := by decide +kernel
theorem dX9_movePebble_125 : decode cX9_movePebble 125 = .ok (.i2b, 1) := by decide +kernel
theorem dX9_movePebble_126 : decode cX9_movePebble 126 = .ok (.bastore, 1) := by decide +kernel
theorem dX9_movePebble_127 : decode cX9_movePebble 127 = .ok (.iinc 3 1, 3) := by decide +kernel
theorem dX9_movePebble_130 : decode cX9_movePebble 130 = .ok (.goto (-67), 3) := by decide +kernel
theorem dX9_movePebble_133 : decode cX9_movePebble 133 = .ok (.return_, 1) := by decide +kernel
set_option maxRecDepth 20000 in
theorem ggX9_act_X9_isIn : GoodIn wsX9_act wsX9_isIn := goodIn_r _ [26] (by decide +kernel) (by decide +kernel)
set_option maxRecDepth 20000 in
theorem gX9_act_X9_isIn : GoodIn wsX9_act (va_wsS RX9 121 yX9_isIn wsX9_isIn) := goodIn_app (goodIn_of _ (by decide +kernel)) ggX9_act_X9_isIn
set_option maxRecDepth 20000 in
theorem ggX9_act_X9_movePebble : GoodIn wsX9_act wsX9_movePebble := goodIn_r _ [30, 31, 7, 14, 32, 17, 33, 4, 34, 35, 36, 25, 37, 86, 87, 88, 89, 90, 91, 92, 93, 94, 95, 96, 97, 98, 99, 100, 101, 102, 103, 104, 105, 106, 107, 108, 109, 110, 111, 112, 113, 114, 115, 116, 117, 118, 119, 120, 121, 122, 123, 124, 125, 126, 127, 128, 129, 130, 131, 132, 133, 134, 135, 136, 137] (by decide +kernel) (by decide +kernel)
set_option maxRecDepth 20000 in
theorem gX9_act_X9_movePebble : GoodIn wsX9_act (wsV RX9 202 RX9 yX9_movePebble wsX9_movePebble) := goodIn_app (goodIn_of _ (by decide +kernel)) ggX9_act_X9_movePebble
set_option maxRecDepth 20000 in
theorem ggX9_act_X9_stand : GoodIn wsX9_act wsX9_stand := goodIn_r _ [41, 7, 6, 9, 8, 11, 10, 86, 87, 88, 89, 90, 91, 92, 93, 94, 95, 96, 97, 98, 99, 100, 101, 102, 103, 104, 105, 106, 107, 108, 109, 110, 111, 112, 113, 114, 115, 116, 117, 118, 119, 120, 121, 122, 123, 124, 125, 126, 127, 128, 129, 130, 131, 132, 133, 134, 135, 136, 137] (by decide +kernel) (by decide +kernel)
set_option maxRecDepth 20000 in
theorem gX9_act_X9_stand : GoodIn wsX9_act (wsV RX9 205 RX9 yX9_stand wsX9_stand) := goodIn_app (goodIn_of _ (by decide +kernel)) ggX9_act_X9_stand
set_option maxRecDepth 20000 in
theorem ggX9_act_X9_step : GoodIn wsX9_act wsX9_step := goodIn_r _ [45, 12, 10, 46, 6, 8, 47, 48, 49, 50, 51, 25, 52, 86, 87, 88, 89, 90, 91, 92, 93, 94, 95, 96, 97, 98, 99, 100, 101, 102, 103, 104, 105, 106, 107, 108, 109, 110, 111, 112, 113, 114, 115, 116, 117, 118, 119, 120, 121, 122, 123, 124, 125, 126, 127, 128, 129, 130, 131, 132, 133, 134, 135, 136, 137] (by decide +kernel) (by decide +kernel)
set_option maxRecDepth 20000 in
theorem gX9_act_X9_step : GoodIn wsX9_act (wsV RX9 208 RX9 yX9_step wsX9_step) := goodIn_app (goodIn_of _ (by decide +kernel)) ggX9_act_X9_step
set_option maxRecDepth 20000 in
theorem ggX9_act_X9_comeUnknown : GoodIn wsX9_act wsX9_comeUnknown := goodIn_r _ [56, 17, 5, 57, 15, 58, 13, 59, 60, 21, 7, 61, 62, 63, 64, 25, 65, 66, 67, 32, 68, 16, 4, 69, 33, 70, 71, 72, 73, 74, 75, 76, 77, 34, 35, 36, 37, 31, 86, 87, 88, 89, 90, 91, 92, 93, 94, 95, 96, 97, 98, 99, 100, 101, 102, 103, 104, 105, 106, 107, 108, 109, 110, 111, 112, 113, 114, 115, 116, 117, 118, 119, 120, 121, 122, 123, 124, 125, 126, 127, 128, 129, 130, 131, 132, 133, 134, 135, 136, 137] (by decide +kernel) (by decide +kernel)
set_option maxRecDepth 20000 in
theorem gX9_act_X9_comeUnknown : GoodIn wsX9_act (wsV RX9 211 RX9 yX9_comeUnknown wsX9_comeUnknown) := goodIn_app (goodIn_of _ (by decide +kernel)) ggX9_act_X9_comeUnknown
set_option maxRecDepth 20000 in
theorem ggX9_act_X9_comeKnown : GoodIn wsX9_act wsX9_comeKnown := goodIn_r _ [81, 16, 17, 5, 74, 75, 76, 25, 77, 68, 21, 7, 32, 34, 35, 36, 37, 31, 62, 63, 64, 65, 13, 15, 59, 57, 66, 67, 60, 61, 4, 69, 33, 86, 87, 88, 89, 90, 91, 92, 93, 94, 95, 96, 97, 98, 99, 100, 101, 102, 103, 104, 105, 106, 107, 108, 109, 110, 111, 112, 113, 114, 115, 116, 117, 118, 119, 120, 121, 122, 123, 124, 125, 126, 127, 128, 129, 130, 131, 132, 133, 134, 135, 136, 137] (by decide +kernel) (by decide +kernel)
set_option maxRecDepth 20000 in
theorem gX9_act_X9_comeKnown : GoodIn wsX9_act (wsV RX9 214 RX9 yX9_comeKnown wsX9_comeKnown) := goodIn_app (goodIn_of _ (by decide +kernel)) ggX9_act_X9_comeKnown
set_option maxRecDepth 20000 in
theorem ggX9_act_X9_takeCome : GoodIn wsX9_act wsX9_takeCome := goodIn_r _ [85, 15, 13, 14, 57, 59, 17, 66, 32, 67, 68, 60, 16, 61, 4, 33, 69, 86, 87, 88, 89, 90, 91, 92, 93, 94, 95, 96, 97, 98, 99, 100, 101, 102, 103, 104, 105, 106, 107, 108, 109, 110, 111, 112, 113, 114, 115, 116, 117, 118, 119, 120, 121, 122, 123, 124, 125, 126, 127, 128, 129, 130, 131, 132, 133, 134, 135, 136, 137] (by decide +kernel) (by decide +kernel)
set_option maxRecDepth 20000 in
theorem gX9_act_X9_takeCome : GoodIn wsX9_act (wsV RX9 217 RX9 yX9_takeCome wsX9_takeCome) := goodIn_app (goodIn_of _ (by decide +kernel)) ggX9_act_X9_takeCome
set_option maxRecDepth 20000 in
theorem ggX9_act_X9_liesHere : GoodIn wsX9_act wsX9_liesHere := goodIn_r _ [37, 31, 7, 86, 87, 88, 89, 90, 91, 92, 93, 94, 95, 96, 97, 98, 99, 100, 101, 102, 103, 104, 105, 106, 107, 108, 109, 110, 111, 112, 113, 114, 115, 116, 117, 118, 119, 120, 121, 122, 123, 124, 125, 126, 127, 128, 129, 130, 131, 132, 133, 134, 135, 136, 137] (by decide +kernel) (by decide +kernel)
set_option maxRecDepth 20000 in
theorem gX9_act_X9_liesHere : GoodIn wsX9_act (wsV RX9 186 RX9 yX9_liesHere wsX9_liesHere) := goodIn_app (goodIn_of _ (by decide +kernel)) ggX9_act_X9_liesHere
theorem dX9_act_0 : decode cX9_act 0 = .ok (.aload_n 0, 1) := by decide +kernel
theorem dX9_act_1 : decode cX9_act 1 = .ok (.iconst 0, 1) := by decide +kernel
theorem dX9_act_2 : decode cX9_act 2 = .ok (.putfield 112, 3) := by decide +kernel
theorem dX9_act_5 : decode cX9_act 5 = .ok (.iload_n 1, 1) := by decide +kernel
theorem dX9_act_6 : decode cX9_act 6 = .ok (.i2l, 1) := by decide +kernel
theorem dX9_act_7 : decode cX9_act 7 = .ok (.lconst 0, 1) := by decide +kernel
theorem dX9_act_8 : decode cX9_act 8 = .ok (.ldc2_w 129, 3) := by decide +kernel
theorem dX9_act_11 : decode cX9_act 11 = .ok (.invokestatic 121, 3) := by decide +kernel
theorem dX9_act_14 : decode cX9_act 14 = .ok (.ifCond .ne 5, 3) := by decide +kernel
theorem dX9_act_17 : decode cX9_act 17 = .ok (.iconst (-1), 1) := by decide +kernel
theorem dX9_act_18 : decode cX9_act 18 = .ok (.ireturn, 1) := by decide +kernel
theorem dX9_act_19 : decode cX9_act 19 = .ok (.aload_n 0, 1) := by decide +kernel
theorem dX9_act_20 : decode cX9_act 20 = .ok (.getfield 159, 3) := by decide +kernel
theorem dX9_act_23 : decode cX9_act 23 = .ok (.ifCond .ne 6, 3) := by decide +kernel
theorem dX9_act_26 : decode cX9_act 26 = .ok (.bipush (-2), 2) := by decide +kernel
theorem dX9_act_28 : decode cX9_act 28 = .ok (.ireturn, 1) := by decide +kernel
theorem dX9_act_29 : decode cX9_act 29 = .ok (.aload_n 0, 1) := by decide +kernel
theorem dX9_act_30 : decode cX9_act 30 = .ok (.getfield 168, 3) := by decide +kernel
theorem dX9_act_33 : decode cX9_act 33 = .ok (.sipush 200, 3) := by decide +kernel
theorem dX9_act_36 : decode cX9_act 36 = .ok (.if_icmp .ne 6, 3) := by decide +kernel
theorem dX9_act_39 : decode cX9_act 39 = .ok (.bipush (-3), 2) := by decide +kernel
theorem dX9_act_41 : decode cX9_act 41 = .ok (.ireturn, 1) := by decide +kernel
theorem dX9_act_42 : decode cX9_act 42 = .ok (.aload_n 0, 1) := by decide +kernel
theorem dX9_act_43 : decode cX9_act 43 = .ok (.dup, 1) := by decide +kernel
theorem dX9_act_44 : decode cX9_act 44 = .ok (.getfield 168, 3) := by decide +kernel
theorem dX9_act_47 : decode cX9_act 47 = .ok (.iconst 1, 1) := by decide +kernel
theorem dX9_act_48 : decode cX9_act 48 = .ok (.iadd, 1) := by decide +kernel
theorem dX9_act_49 : decode cX9_act 49 = .ok (.putfield 168, 3) := by decide +kernel
theorem dX9_act_52 : decode cX9_act 52 = .ok (.aload_n 0, 1) := by decide +kernel
theorem dX9_act_53 : decode cX9_act 53 = .ok (.iconst 0, 1) := by decide +kernel
theorem dX9_act_54 : decode cX9_act 54 = .ok (.putfield 165, 3) := by decide +kernel
theorem dX9_act_57 : decode cX9_act 57 = .ok (.iload_n 1, 1) := by decide +kernel
theorem dX9_act_58 : decode cX9_act 58 = .ok (.iconst 5, 1) := by decide +kernel
theorem dX9_act_59 : decode cX9_act 59 = .ok (.if_icmp .ne 10, 3) := by decide +kernel
theorem dX9_act_62 : decode cX9_act 62 = .ok (.aload_n 0, 1) := by decide +kernel
theorem dX9_act_63 : decode cX9_act 63 = .ok (.invokevirtual 202, 3) := by decide +kernel
theorem dX9_act_66 : decode cX9_act 66 = .ok (.goto 116, 3) := by decide +kernel
theorem dX9_act_69 : decode cX9_act 69 = .ok (.aload_n 0, 1) := by decide +kernel
theorem dX9_act_70 : decode cX9_act 70 = .ok (.invokevirtual 205, 3) := by decide +kernel
theorem dX9_act_73 : decode cX9_act 73 = .ok (.aload_n 0, 1) := by decide +kernel
theorem dX9_act_74 : decode cX9_act 74 = .ok (.iload_n 1, 1) := by decide +kernel
theorem dX9_act_75 : decode cX9_act 75 = .ok (.invokevirtual 208, 3) := by decide +kernel
theorem dX9_act_78 : decode cX9_act 78 = .ok (.aload_n 0, 1) := by decide +kernel
theorem dX9_act_79 : decode cX9_act 79 = .ok (.aload_n 0, 1) := by decide +kernel
theorem dX9_act_80 : decode cX9_act 80 = .ok (.getfield 131, 3) := by decide +kernel
theorem dX9_act_83 : decode cX9_act 83 = .ok (.putfield 148, 3) := by decide +kernel
theorem dX9_act_86 : decode cX9_act 86 = .ok (.aload_n 0, 1) := by decide +kernel
theorem dX9_act_87 : decode cX9_act 87 = .ok (.aload_n 0, 1) := by decide +kernel
theorem dX9_act_88 : decode cX9_act 88 = .ok (.getfield 141, 3) := by decide +kernel
theorem dX9_act_91 : decode cX9_act 91 = .ok (.putfield 151, 3) := by decide +kernel
theorem dX9_act_94 : decode cX9_act 94 = .ok (.aload_n 0, 1) := by decide +kernel
theorem dX9_act_95 : decode cX9_act 95 = .ok (.aload_n 0, 1) := by decide +kernel
theorem dX9_act_96 : decode cX9_act 96 = .ok (.getfield 138, 3) := by decide +kernel
theorem dX9_act_99 : decode cX9_act 99 = .ok (.putfield 154, 3) := by decide +kernel
theorem dX9_act_102 : decode cX9_act 102 = .ok (.aload_n 0, 1) := by decide +kernel
theorem dX9_act_103 : decode cX9_act 103 = .ok (.aload_n 0, 1) := by decide +kernel
theorem dX9_act_104 : decode cX9_act 104 = .ok (.getfield 134, 3) := by decide +kernel
theorem dX9_act_107 : decode cX9_act 107 = .ok (.putfield 165, 3) := by decide +kernel
theorem dX9_act_110 : decode cX9_act 110 = .ok (.aload_n 0, 1) := by decide +kernel
theorem dX9_act_111 : decode cX9_act 111 = .ok (.iconst 0, 1) := by decide +kernel
theorem dX9_act_112 : decode cX9_act 112 = .ok (.putfield 183, 3) := by decide +kernel
theorem dX9_act_115 : decode cX9_act 115 = .ok (.iconst 0, 1) := by decide +kernel
theorem dX9_act_116 : decode cX9_act 116 = .ok (.istore_n 2, 1) := by decide +kernel
theorem dX9_act_117 : decode cX9_act 117 = .ok (.iload_n 2, 1) := by decide +kernel
theorem dX9_act_118 : decode cX9_act 118 = .ok (.aload_n 0, 1) := by decide +kernel
theorem dX9_act_119 : decode cX9_act 119 = .ok (.getfield 177, 3) := by decide +kernel
theorem dX9_act_122 : decode cX9_act 122 = .ok (.if_icmp .ge 56, 3) := by decide +kernel
theorem dX9_act_125 : decode cX9_act 125 = .ok (.aload_n 0, 1) := by decide +kernel
theorem dX9_act_126 : decode cX9_act 126 = .ok (.getfield 180, 3) := by decide +kernel
theorem dX9_act_129 : decode cX9_act 129 = .ok (.ifCond .ne 49, 3) := by decide +kernel
theorem dX9_act_132 : decode cX9_act 132 = .ok (.aload_n 0, 1) := by decide +kernel
theorem dX9_act_133 : decode cX9_act 133 = .ok (.getfield 41, 3) := by decide +kernel
theorem dX9_act_136 : decode cX9_act 136 = .ok (.bipush 30, 2) := by decide +kernel
theorem dX9_act_138 : decode cX9_act 138 = .ok (.iload_n 2, 1) := by decide +kernel
theorem dX9_act_139 : decode cX9_act 139 = .ok (.imul, 1) := by decide +kernel
theorem dX9_act_140 : decode cX9_act 140 = .ok (.iconst 5, 1) := by decide +kernel
theorem dX9_act_141 : decode cX9_act 141 = .ok (.aload_n 0, 1) := by decide +kernel
theorem dX9_act_142 : decode cX9_act 142 = .ok (.getfield 44, 3) := by decide +kernel
theorem dX9_act_145 : decode cX9_act 145 = .ok (.iload_n 2, 1) := by decide +kernel
theorem dX9_act_146 : decode cX9_act 146 = .ok (.iaload, 1) := by decide +kernel
theorem dX9_act_147 : decode cX9_act 147 = .ok (.imul, 1) := by decide +kernel
theorem dX9_act_148 : decode cX9_act 148 = .ok (.iadd, 1) := by decide +kernel
theorem dX9_act_149 : decode cX9_act 149 = .ok (.iload_n 1, 1) := by decide +kernel
theorem dX9_act_150 : decode cX9_act 150 = .ok (.iadd, 1) := by decide +kernel
theorem dX9_act_151 : decode cX9_act 151 = .ok (.iaload, 1) := by decide +kernel
theorem dX9_act_152 : decode cX9_act 152 = .ok (.bipush (-3), 2) := by decide +kernel
theorem dX9_act_154 : decode cX9_act 154 = .ok (.if_icmp .ne 12, 3) := by decide +kernel
theorem dX9_act_157 : decode cX9_act 157 = .ok (.aload_n 0, 1) := by decide +kernel
theorem dX9_act_158 : decode cX9_act 158 = .ok (.iload_n 2, 1) := by decide +kernel
theorem dX9_act_159 : decode cX9_act 159 = .ok (.iload_n 1, 1) := by decide +kernel
theorem dX9_act_160 : decode cX9_act 160 = .ok (.invokevirtual 211, 3) := by decide +kernel
theorem dX9_act_163 : decode cX9_act 163 = .ok (.goto 9, 3) := by decide +kernel
theorem dX9_act_166 : decode cX9_act 166 = .ok (.aload_n 0, 1) := by decide +kernel
theorem dX9_act_167 : decode cX9_act 167 = .ok (.iload_n 2, 1) := by decide +kernel
theorem dX9_act_168 : decode cX9_act 168 = .ok (.iload_n 1, 1) := by decide +kernel
theorem dX9_act_169 : decode cX9_act 169 = .ok (.invokevirtual 214, 3) := by decide +kernel
theorem dX9_act_172 : decode cX9_act 172 = .ok (.iinc 2 1, 3) := by decide +kernel
theorem dX9_act_175 : decode cX9_act 175 = .ok (.goto (-58), 3) := by decide +kernel
theorem dX9_act_178 : decode cX9_act 178 = .ok (.aload_n 0, 1) := by decide +kernel
theorem dX9_act_179 : decode cX9_act 179 = .ok (.invokevirtual 217, 3) := by decide +kernel
theorem dX9_act_182 : decode cX9_act 182 = .ok (.aload_n 0, 1) := by decide +kernel
theorem dX9_act_183 : decode cX9_act 183 = .ok (.getfield 23, 3) := by decide +kernel
theorem dX9_act_186 : decode cX9_act 186 = .ok (.aload_n 0, 1) := by decide +kernel
theorem dX9_act_187 : decode cX9_act 187 = .ok (.getfield 168, 3) := by decide +kernel
theorem dX9_act_190 : decode cX9_act 190 = .ok (.iconst 1, 1) := by decide +kernel
theorem dX9_act_191 : decode cX9_act 191 = .ok (.isub, 1) := by decide +kernel
theorem dX9_act_192 : decode cX9_act 192 = .ok (.iload_n 1, 1) := by decide +kernel
theorem dX9_act_193 : decode cX9_act 193 = .ok (.iastore, 1) := by decide +kernel
theorem dX9_act_194 : decode cX9_act 194 = .ok (.aload_n 0, 1) := by decide +kernel
theorem dX9_act_195 : decode cX9_act 195 = .ok (.getfield 26, 3) := by decide +kernel
theorem dX9_act_198 : decode cX9_act 198 = .ok (.aload_n 0, 1) := by decide +kernel
theorem dX9_act_199 : decode cX9_act 199 = .ok (.getfield 168, 3) := by decide +kernel
theorem dX9_act_202 : decode cX9_act 202 = .ok (.iconst 1, 1) := by decide +kernel
theorem dX9_act_203 : decode cX9_act 203 = .ok (.isub, 1) := by decide +kernel
theorem dX9_act_204 : decode cX9_act 204 = .ok (.aload_n 0, 1) := by decide +kernel
theorem dX9_act_205 : decode cX9_act 205 = .ok (.getfield 165, 3) := by decide +kernel
theorem dX9_act_208 : decode cX9_act 208 = .ok (.ifCond .eq 7, 3) := by decide +kernel
theorem dX9_act_211 : decode cX9_act 211 = .ok (.iconst 1, 1) := by decide +kernel
theorem dX9_act_212 : decode cX9_act 212 = .ok (.goto 4, 3) := by decide +kernel
theorem dX9_act_215 : decode cX9_act 215 = .ok (.iconst 0, 1) := by decide +kernel
theorem dX9_act_216 : decode cX9_act 216 = .ok (.iastore, 1) := by decide +kernel
theorem dX9_act_217 : decode cX9_act 217 = .ok (.aload_n 0, 1) := by decide +kernel
theorem dX9_act_218 : decode cX9_act 218 = .ok (.getfield 29, 3) := by decide +kernel
theorem dX9_act_221 : decode cX9_act 221 = .ok (.aload_n 0, 1) := by decide +kernel
theorem dX9_act_222 : decode cX9_act 222 = .ok (.getfield 168, 3) := by decide +kernel
theorem dX9_act_225 : decode cX9_act 225 = .ok (.iconst 1, 1) := by decide +kernel
theorem dX9_act_226 : decode cX9_act 226 = .ok (.isub, 1) := by decide +kernel
theorem dX9_act_227 : decode cX9_act 227 = .ok (.aload_n 0, 1) := by decide +kernel
theorem dX9_act_228 : decode cX9_act 228 = .ok (.getfield 7, 3) := by decide +kernel
theorem dX9_act_231 : decode cX9_act 231 = .ok (.aload_n 0, 1) := by decide +kernel
theorem dX9_act_232 : decode cX9_act 232 = .ok (.getfield 148, 3) := by decide +kernel
theorem dX9_act_235 : decode cX9_act 235 = .ok (.iaload, 1) := by decide +kernel
theorem dX9_act_236 : decode cX9_act 236 = .ok (.iastore, 1) := by decide +kernel
theorem dX9_act_237 : decode cX9_act 237 = .ok (.aload_n 0, 1) := by decide +kernel
theorem dX9_act_238 : decode cX9_act 238 = .ok (.getfield 32, 3) := by decide +kernel
theorem dX9_act_241 : decode cX9_act 241 = .ok (.aload_n 0, 1) := by decide +kernel
theorem dX9_act_242 : decode cX9_act 242 = .ok (.getfield 168, 3) := by decide +kernel
theorem dX9_act_245 : decode cX9_act 245 = .ok (.iconst 1, 1) := by decide +kernel
theorem dX9_act_246 : decode cX9_act 246 = .ok (.isub, 1) := by decide +kernel
theorem dX9_act_247 : decode cX9_act 247 = .ok (.aload_n 0, 1) := by decide +kernel
theorem dX9_act_248 : decode cX9_act 248 = .ok (.invokevirtual 186, 3) := by decide +kernel
theorem dX9_act_251 : decode cX9_act 251 = .ok (.ifCond .eq 7, 3) := by decide +kernel
theorem dX9_act_254 : decode cX9_act 254 = .ok (.iconst 1, 1) := by decide +kernel
theorem dX9_act_255 : decode cX9_act 255 = .ok (.goto 4, 3) := by decide +kernel
theorem dX9_act_258 : decode cX9_act 258 = .ok (.iconst 0, 1) := by decide +kernel
theorem dX9_act_259 : decode cX9_act 259 = .ok (.iastore, 1) := by decide +kernel
theorem dX9_act_260 : decode cX9_act 260 = .ok (.aload_n 0, 1) := by decide +kernel
theorem dX9_act_261 : decode cX9_act 261 = .ok (.getfield 165, 3) := by decide +kernel
theorem dX9_act_264 : decode cX9_act 264 = .ok (.ifCond .eq 7, 3) := by decide +kernel
theorem dX9_act_267 : decode cX9_act 267 = .ok (.iconst 1, 1) := by decide +kernel
theorem dX9_act_268 : decode cX9_act 268 = .ok (.goto 4, 3) := by decide +kernel
theorem dX9_act_271 : decode cX9_act 271 = .ok (.iconst 0, 1) := by decide +kernel
theorem dX9_act_272 : decode cX9_act 272 = .ok (.ireturn, 1) := by decide +kernel
set_option maxRecDepth 20000 in
theorem ggX9_seen_X9_isIn : GoodIn wsX9_seen wsX9_isIn := goodIn_r _ [11] (by decide +kernel) (by decide +kernel)
set_option maxRecDepth 20000 in
theorem gX9_seen_X9_isIn : GoodIn wsX9_seen (va_wsS RX9 121 yX9_isIn wsX9_isIn) := goodIn_app (goodIn_of _ (by decide +kernel)) ggX9_seen_X9_isIn
set_option maxRecDepth 20000 in
theorem ggX9_seen_X9_liesHere : GoodIn wsX9_seen wsX9_liesHere := goodIn_r _ [15, 5, 7, 16, 17, 18, 19, 20, 21, 22, 23, 24, 25, 26, 27, 28, 29, 30, 31, 32, 33, 34, 35, 36, 37, 38, 39, 40, 41, 42, 43, 44, 45, 46, 47, 48, 49, 50, 51, 52, 53, 54, 55, 56, 57, 58, 59, 60, 61, 62, 63, 64, 65, 66, 67] (by decide +kernel) (by decide +kernel)
set_option maxRecDepth 20000 in
theorem gX9_seen_X9_liesHere : GoodIn wsX9_seen (wsV RX9 186 RX9 yX9_liesHere wsX9_liesHere) := goodIn_app (goodIn_of _ (by decide +kernel)) ggX9_seen_X9_liesHere
