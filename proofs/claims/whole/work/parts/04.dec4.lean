theorem dX9_seen_0 : decode cX9_seen 0 = .ok (.aload_n 0, 1) := by decide +kernel
theorem dX9_seen_1 : decode cX9_seen 1 = .ok (.iconst 0, 1) := by decide +kernel
theorem dX9_seen_2 : decode cX9_seen 2 = .ok (.putfield 112, 3) := by decide +kernel
theorem dX9_seen_5 : decode cX9_seen 5 = .ok (.iload_n 1, 1) := by decide +kernel
theorem dX9_seen_6 : decode cX9_seen 6 = .ok (.i2l, 1) := by decide +kernel
theorem dX9_seen_7 : decode cX9_seen 7 = .ok (.lconst 0, 1) := by decide +kernel
theorem dX9_seen_8 : decode cX9_seen 8 = .ok (.ldc2_w 119, 3) := by decide +kernel
theorem dX9_seen_11 : decode cX9_seen 11 = .ok (.invokestatic 121, 3) := by decide +kernel
theorem dX9_seen_14 : decode cX9_seen 14 = .ok (.ifCond .ne 5, 3) := by decide +kernel
theorem dX9_seen_17 : decode cX9_seen 17 = .ok (.iconst (-1), 1) := by decide +kernel
theorem dX9_seen_18 : decode cX9_seen 18 = .ok (.ireturn, 1) := by decide +kernel
theorem dX9_seen_19 : decode cX9_seen 19 = .ok (.aload_n 0, 1) := by decide +kernel
theorem dX9_seen_20 : decode cX9_seen 20 = .ok (.getfield 159, 3) := by decide +kernel
theorem dX9_seen_23 : decode cX9_seen 23 = .ok (.ifCond .ne 6, 3) := by decide +kernel
theorem dX9_seen_26 : decode cX9_seen 26 = .ok (.bipush (-2), 2) := by decide +kernel
theorem dX9_seen_28 : decode cX9_seen 28 = .ok (.ireturn, 1) := by decide +kernel
theorem dX9_seen_29 : decode cX9_seen 29 = .ok (.iload_n 1, 1) := by decide +kernel
theorem dX9_seen_30 : decode cX9_seen 30 = .ok (.iconst 1, 1) := by decide +kernel
theorem dX9_seen_31 : decode cX9_seen 31 = .ok (.if_icmp .ne 10, 3) := by decide +kernel
theorem dX9_seen_34 : decode cX9_seen 34 = .ok (.aload_n 0, 1) := by decide +kernel
theorem dX9_seen_35 : decode cX9_seen 35 = .ok (.invokevirtual 186, 3) := by decide +kernel
theorem dX9_seen_38 : decode cX9_seen 38 = .ok (.goto 27, 3) := by decide +kernel
theorem dX9_seen_41 : decode cX9_seen 41 = .ok (.iload_n 1, 1) := by decide +kernel
theorem dX9_seen_42 : decode cX9_seen 42 = .ok (.iconst 2, 1) := by decide +kernel
theorem dX9_seen_43 : decode cX9_seen 43 = .ok (.if_icmp .ne 10, 3) := by decide +kernel
theorem dX9_seen_46 : decode cX9_seen 46 = .ok (.aload_n 0, 1) := by decide +kernel
theorem dX9_seen_47 : decode cX9_seen 47 = .ok (.getfield 165, 3) := by decide +kernel
theorem dX9_seen_50 : decode cX9_seen 50 = .ok (.goto 15, 3) := by decide +kernel
theorem dX9_seen_53 : decode cX9_seen 53 = .ok (.aload_n 0, 1) := by decide +kernel
theorem dX9_seen_54 : decode cX9_seen 54 = .ok (.getfield 162, 3) := by decide +kernel
theorem dX9_seen_57 : decode cX9_seen 57 = .ok (.ifCond .ge 7, 3) := by decide +kernel
theorem dX9_seen_60 : decode cX9_seen 60 = .ok (.iconst 1, 1) := by decide +kernel
theorem dX9_seen_61 : decode cX9_seen 61 = .ok (.goto 4, 3) := by decide +kernel
theorem dX9_seen_64 : decode cX9_seen 64 = .ok (.iconst 0, 1) := by decide +kernel
theorem dX9_seen_65 : decode cX9_seen 65 = .ok (.istore_n 2, 1) := by decide +kernel
theorem dX9_seen_66 : decode cX9_seen 66 = .ok (.iload_n 1, 1) := by decide +kernel
theorem dX9_seen_67 : decode cX9_seen 67 = .ok (.ifCond .ne 15, 3) := by decide +kernel
theorem dX9_seen_70 : decode cX9_seen 70 = .ok (.aload_n 0, 1) := by decide +kernel
theorem dX9_seen_71 : decode cX9_seen 71 = .ok (.getfield 7, 3) := by decide +kernel
theorem dX9_seen_74 : decode cX9_seen 74 = .ok (.aload_n 0, 1) := by decide +kernel
theorem dX9_seen_75 : decode cX9_seen 75 = .ok (.getfield 148, 3) := by decide +kernel
theorem dX9_seen_78 : decode cX9_seen 78 = .ok (.iaload, 1) := by decide +kernel
theorem dX9_seen_79 : decode cX9_seen 79 = .ok (.goto 12, 3) := by decide +kernel
theorem dX9_seen_82 : decode cX9_seen 82 = .ok (.iload_n 2, 1) := by decide +kernel
theorem dX9_seen_83 : decode cX9_seen 83 = .ok (.ifCond .eq 7, 3) := by decide +kernel
theorem dX9_seen_86 : decode cX9_seen 86 = .ok (.iconst 1, 1) := by decide +kernel
theorem dX9_seen_87 : decode cX9_seen 87 = .ok (.goto 4, 3) := by decide +kernel
theorem dX9_seen_90 : decode cX9_seen 90 = .ok (.iconst 0, 1) := by decide +kernel
theorem dX9_seen_91 : decode cX9_seen 91 = .ok (.ireturn, 1) := by decide +kernel
set_option maxRecDepth 20000 in
theorem ggX9_walk_X9_isIn : GoodIn wsX9_walk wsX9_isIn := goodIn_r _ [12] (by decide +kernel) (by decide +kernel)
set_option maxRecDepth 20000 in
theorem gX9_walk_X9_isIn : GoodIn wsX9_walk (va_wsS RX9 121 yX9_isIn wsX9_isIn) := goodIn_app (goodIn_of _ (by decide +kernel)) ggX9_walk_X9_isIn
theorem dX9_walk_0 : decode cX9_walk 0 = .ok (.aload_n 0, 1) := by decide +kernel
theorem dX9_walk_1 : decode cX9_walk 1 = .ok (.iconst 0, 1) := by decide +kernel
theorem dX9_walk_2 : decode cX9_walk 2 = .ok (.putfield 112, 3) := by decide +kernel
theorem dX9_walk_5 : decode cX9_walk 5 = .ok (.aload_n 0, 1) := by decide +kernel
theorem dX9_walk_6 : decode cX9_walk 6 = .ok (.getfield 159, 3) := by decide +kernel
theorem dX9_walk_9 : decode cX9_walk 9 = .ok (.ifCond .eq 27, 3) := by decide +kernel
theorem dX9_walk_12 : decode cX9_walk 12 = .ok (.iload_n 1, 1) := by decide +kernel
theorem dX9_walk_13 : decode cX9_walk 13 = .ok (.ifCond .lt 23, 3) := by decide +kernel
theorem dX9_walk_16 : decode cX9_walk 16 = .ok (.iload_n 1, 1) := by decide +kernel
theorem dX9_walk_17 : decode cX9_walk 17 = .ok (.aload_n 0, 1) := by decide +kernel
theorem dX9_walk_18 : decode cX9_walk 18 = .ok (.getfield 168, 3) := by decide +kernel
theorem dX9_walk_21 : decode cX9_walk 21 = .ok (.if_icmp .ge 15, 3) := by decide +kernel
theorem dX9_walk_24 : decode cX9_walk 24 = .ok (.iload_n 2, 1) := by decide +kernel
theorem dX9_walk_25 : decode cX9_walk 25 = .ok (.i2l, 1) := by decide +kernel
theorem dX9_walk_26 : decode cX9_walk 26 = .ok (.lconst 0, 1) := by decide +kernel
theorem dX9_walk_27 : decode cX9_walk 27 = .ok (.ldc2_w 119, 3) := by decide +kernel
theorem dX9_walk_30 : decode cX9_walk 30 = .ok (.invokestatic 121, 3) := by decide +kernel
theorem dX9_walk_33 : decode cX9_walk 33 = .ok (.ifCond .ne 5, 3) := by decide +kernel
theorem dX9_walk_36 : decode cX9_walk 36 = .ok (.iconst (-1), 1) := by decide +kernel
theorem dX9_walk_37 : decode cX9_walk 37 = .ok (.ireturn, 1) := by decide +kernel
theorem dX9_walk_38 : decode cX9_walk 38 = .ok (.iload_n 2, 1) := by decide +kernel
theorem dX9_walk_39 : decode cX9_walk 39 = .ok (.ifCond .ne 12, 3) := by decide +kernel
theorem dX9_walk_42 : decode cX9_walk 42 = .ok (.aload_n 0, 1) := by decide +kernel
theorem dX9_walk_43 : decode cX9_walk 43 = .ok (.getfield 23, 3) := by decide +kernel
theorem dX9_walk_46 : decode cX9_walk 46 = .ok (.iload_n 1, 1) := by decide +kernel
theorem dX9_walk_47 : decode cX9_walk 47 = .ok (.iaload, 1) := by decide +kernel
theorem dX9_walk_48 : decode cX9_walk 48 = .ok (.goto 37, 3) := by decide +kernel
theorem dX9_walk_51 : decode cX9_walk 51 = .ok (.iload_n 2, 1) := by decide +kernel
theorem dX9_walk_52 : decode cX9_walk 52 = .ok (.iconst 1, 1) := by decide +kernel
theorem dX9_walk_53 : decode cX9_walk 53 = .ok (.if_icmp .ne 12, 3) := by decide +kernel
theorem dX9_walk_56 : decode cX9_walk 56 = .ok (.aload_n 0, 1) := by decide +kernel
theorem dX9_walk_57 : decode cX9_walk 57 = .ok (.getfield 26, 3) := by decide +kernel
theorem dX9_walk_60 : decode cX9_walk 60 = .ok (.iload_n 1, 1) := by decide +kernel
theorem dX9_walk_61 : decode cX9_walk 61 = .ok (.iaload, 1) := by decide +kernel
theorem dX9_walk_62 : decode cX9_walk 62 = .ok (.goto 23, 3) := by decide +kernel
theorem dX9_walk_65 : decode cX9_walk 65 = .ok (.iload_n 2, 1) := by decide +kernel
theorem dX9_walk_66 : decode cX9_walk 66 = .ok (.iconst 2, 1) := by decide +kernel
theorem dX9_walk_67 : decode cX9_walk 67 = .ok (.if_icmp .ne 12, 3) := by decide +kernel
theorem dX9_walk_70 : decode cX9_walk 70 = .ok (.aload_n 0, 1) := by decide +kernel
theorem dX9_walk_71 : decode cX9_walk 71 = .ok (.getfield 29, 3) := by decide +kernel
theorem dX9_walk_74 : decode cX9_walk 74 = .ok (.iload_n 1, 1) := by decide +kernel
theorem dX9_walk_75 : decode cX9_walk 75 = .ok (.iaload, 1) := by decide +kernel
theorem dX9_walk_76 : decode cX9_walk 76 = .ok (.goto 9, 3) := by decide +kernel
theorem dX9_walk_79 : decode cX9_walk 79 = .ok (.aload_n 0, 1) := by decide +kernel
theorem dX9_walk_80 : decode cX9_walk 80 = .ok (.getfield 32, 3) := by decide +kernel
theorem dX9_walk_83 : decode cX9_walk 83 = .ok (.iload_n 1, 1) := by decide +kernel
theorem dX9_walk_84 : decode cX9_walk 84 = .ok (.iaload, 1) := by decide +kernel
theorem dX9_walk_85 : decode cX9_walk 85 = .ok (.ireturn, 1) := by decide +kernel
theorem dX9_sheets_0 : decode cX9_sheets 0 = .ok (.aload_n 0, 1) := by decide +kernel
theorem dX9_sheets_1 : decode cX9_sheets 1 = .ok (.iconst 0, 1) := by decide +kernel
theorem dX9_sheets_2 : decode cX9_sheets 2 = .ok (.putfield 112, 3) := by decide +kernel
theorem dX9_sheets_5 : decode cX9_sheets 5 = .ok (.aload_n 0, 1) := by decide +kernel
theorem dX9_sheets_6 : decode cX9_sheets 6 = .ok (.getfield 159, 3) := by decide +kernel
theorem dX9_sheets_9 : decode cX9_sheets 9 = .ok (.ifCond .ne 8, 3) := by decide +kernel
theorem dX9_sheets_12 : decode cX9_sheets 12 = .ok (.bipush (-2), 2) := by decide +kernel
theorem dX9_sheets_14 : decode cX9_sheets 14 = .ok (.goto 19, 3) := by decide +kernel
theorem dX9_sheets_17 : decode cX9_sheets 17 = .ok (.aload_n 0, 1) := by decide +kernel
theorem dX9_sheets_18 : decode cX9_sheets 18 = .ok (.getfield 180, 3) := by decide +kernel
theorem dX9_sheets_21 : decode cX9_sheets 21 = .ok (.ifCond .eq 8, 3) := by decide +kernel
theorem dX9_sheets_24 : decode cX9_sheets 24 = .ok (.bipush (-3), 2) := by decide +kernel
theorem dX9_sheets_26 : decode cX9_sheets 26 = .ok (.goto 7, 3) := by decide +kernel
theorem dX9_sheets_29 : decode cX9_sheets 29 = .ok (.aload_n 0, 1) := by decide +kernel
theorem dX9_sheets_30 : decode cX9_sheets 30 = .ok (.getfield 177, 3) := by decide +kernel
theorem dX9_sheets_33 : decode cX9_sheets 33 = .ok (.ireturn, 1) := by decide +kernel
theorem dX9_isSheet_0 : decode cX9_isSheet 0 = .ok (.aload_n 0, 1) := by decide +kernel
theorem dX9_isSheet_1 : decode cX9_isSheet 1 = .ok (.getfield 159, 3) := by decide +kernel
theorem dX9_isSheet_4 : decode cX9_isSheet 4 = .ok (.ifCond .eq 19, 3) := by decide +kernel
theorem dX9_isSheet_7 : decode cX9_isSheet 7 = .ok (.iload_n 1, 1) := by decide +kernel
theorem dX9_isSheet_8 : decode cX9_isSheet 8 = .ok (.ifCond .lt 15, 3) := by decide +kernel
theorem dX9_isSheet_11 : decode cX9_isSheet 11 = .ok (.iload_n 1, 1) := by decide +kernel
theorem dX9_isSheet_12 : decode cX9_isSheet 12 = .ok (.aload_n 0, 1) := by decide +kernel
theorem dX9_isSheet_13 : decode cX9_isSheet 13 = .ok (.getfield 177, 3) := by decide +kernel
theorem dX9_isSheet_16 : decode cX9_isSheet 16 = .ok (.if_icmp .ge 7, 3) := by decide +kernel
theorem dX9_isSheet_19 : decode cX9_isSheet 19 = .ok (.iconst 1, 1) := by decide +kernel
theorem dX9_isSheet_20 : decode cX9_isSheet 20 = .ok (.goto 4, 3) := by decide +kernel
theorem dX9_isSheet_23 : decode cX9_isSheet 23 = .ok (.iconst 0, 1) := by decide +kernel
theorem dX9_isSheet_24 : decode cX9_isSheet 24 = .ok (.ireturn, 1) := by decide +kernel
set_option maxRecDepth 20000 in
theorem ggX9_isPlace_X9_isSheet : GoodIn wsX9_isPlace wsX9_isSheet := goodIn_r _ [6, 7, 8, 9, 10, 11, 12, 13, 14, 15, 16, 17, 18, 19, 20, 21, 22, 23, 24, 25, 26, 27, 28, 29, 30, 31, 32, 33, 34, 35, 36, 37, 38, 39, 40, 41, 42, 43, 44, 45, 46, 47, 48, 49, 50, 51, 52, 53, 54, 55, 56, 57, 58, 59, 60] (by decide +kernel) (by decide +kernel)
set_option maxRecDepth 20000 in
theorem gX9_isPlace_X9_isSheet : GoodIn wsX9_isPlace (wsV RX9 220 RX9 yX9_isSheet wsX9_isSheet) := goodIn_app (goodIn_of _ (by decide +kernel)) ggX9_isPlace_X9_isSheet
theorem dX9_isPlace_0 : decode cX9_isPlace 0 = .ok (.aload_n 0, 1) := by decide +kernel
theorem dX9_isPlace_1 : decode cX9_isPlace 1 = .ok (.iload_n 1, 1) := by decide +kernel
theorem dX9_isPlace_2 : decode cX9_isPlace 2 = .ok (.invokevirtual 220, 3) := by decide +kernel
theorem dX9_isPlace_5 : decode cX9_isPlace 5 = .ok (.ifCond .eq 21, 3) := by decide +kernel
theorem dX9_isPlace_8 : decode cX9_isPlace 8 = .ok (.iload_n 2, 1) := by decide +kernel
theorem dX9_isPlace_9 : decode cX9_isPlace 9 = .ok (.ifCond .lt 17, 3) := by decide +kernel
theorem dX9_isPlace_12 : decode cX9_isPlace 12 = .ok (.iload_n 2, 1) := by decide +kernel
theorem dX9_isPlace_13 : decode cX9_isPlace 13 = .ok (.aload_n 0, 1) := by decide +kernel
theorem dX9_isPlace_14 : decode cX9_isPlace 14 = .ok (.getfield 35, 3) := by decide +kernel
theorem dX9_isPlace_17 : decode cX9_isPlace 17 = .ok (.iload_n 1, 1) := by decide +kernel
theorem dX9_isPlace_18 : decode cX9_isPlace 18 = .ok (.iaload, 1) := by decide +kernel
theorem dX9_isPlace_19 : decode cX9_isPlace 19 = .ok (.if_icmp .ge 7, 3) := by decide +kernel
theorem dX9_isPlace_22 : decode cX9_isPlace 22 = .ok (.iconst 1, 1) := by decide +kernel
theorem dX9_isPlace_23 : decode cX9_isPlace 23 = .ok (.goto 4, 3) := by decide +kernel
theorem dX9_isPlace_26 : decode cX9_isPlace 26 = .ok (.iconst 0, 1) := by decide +kernel
theorem dX9_isPlace_27 : decode cX9_isPlace 27 = .ok (.ireturn, 1) := by decide +kernel
set_option maxRecDepth 20000 in
theorem ggX9_sheet_X9_isSheet : GoodIn wsX9_sheet wsX9_isSheet := goodIn_r _ [11, 12, 13, 17, 18, 19, 20, 21, 22, 23, 24, 25, 26, 27, 28, 29, 30, 31, 32, 33, 34, 35, 36, 37, 38, 39, 40, 41, 42, 43, 44, 45, 46, 47, 48, 49, 50, 51, 52, 53, 54, 55, 56, 57, 58, 59, 60, 61, 62, 63, 64, 65, 66, 67, 68] (by decide +kernel) (by decide +kernel)
set_option maxRecDepth 20000 in
theorem gX9_sheet_X9_isSheet : GoodIn wsX9_sheet (wsV RX9 220 RX9 yX9_isSheet wsX9_isSheet) := goodIn_app (goodIn_of _ (by decide +kernel)) ggX9_sheet_X9_isSheet
set_option maxRecDepth 20000 in
theorem ggX9_sheet_X9_isIn : GoodIn wsX9_sheet wsX9_isIn := goodIn_r _ [16] (by decide +kernel) (by decide +kernel)
set_option maxRecDepth 20000 in
theorem gX9_sheet_X9_isIn : GoodIn wsX9_sheet (va_wsS RX9 121 yX9_isIn wsX9_isIn) := goodIn_app (goodIn_of _ (by decide +kernel)) ggX9_sheet_X9_isIn
theorem dX9_sheet_0 : decode cX9_sheet 0 = .ok (.aload_n 0, 1) := by decide +kernel
theorem dX9_sheet_1 : decode cX9_sheet 1 = .ok (.iconst 0, 1) := by decide +kernel
theorem dX9_sheet_2 : decode cX9_sheet 2 = .ok (.putfield 112, 3) := by decide +kernel
theorem dX9_sheet_5 : decode cX9_sheet 5 = .ok (.aload_n 0, 1) := by decide +kernel
theorem dX9_sheet_6 : decode cX9_sheet 6 = .ok (.iload_n 1, 1) := by decide +kernel
theorem dX9_sheet_7 : decode cX9_sheet 7 = .ok (.invokevirtual 220, 3) := by decide +kernel
theorem dX9_sheet_10 : decode cX9_sheet 10 = .ok (.ifCond .eq 15, 3) := by decide +kernel
theorem dX9_sheet_13 : decode cX9_sheet 13 = .ok (.iload_n 2, 1) := by decide +kernel
theorem dX9_sheet_14 : decode cX9_sheet 14 = .ok (.i2l, 1) := by decide +kernel
theorem dX9_sheet_15 : decode cX9_sheet 15 = .ok (.lconst 0, 1) := by decide +kernel
theorem dX9_sheet_16 : decode cX9_sheet 16 = .ok (.ldc2_w 119, 3) := by decide +kernel
theorem dX9_sheet_19 : decode cX9_sheet 19 = .ok (.invokestatic 121, 3) := by decide +kernel
theorem dX9_sheet_22 : decode cX9_sheet 22 = .ok (.ifCond .ne 5, 3) := by decide +kernel
theorem dX9_sheet_25 : decode cX9_sheet 25 = .ok (.iconst (-1), 1) := by decide +kernel
theorem dX9_sheet_26 : decode cX9_sheet 26 = .ok (.ireturn, 1) := by decide +kernel
theorem dX9_sheet_27 : decode cX9_sheet 27 = .ok (.iload_n 2, 1) := by decide +kernel
theorem dX9_sheet_28 : decode cX9_sheet 28 = .ok (.iconst 3, 1) := by decide +kernel
theorem dX9_sheet_29 : decode cX9_sheet 29 = .ok (.if_icmp .ge 37, 3) := by decide +kernel
theorem dX9_sheet_32 : decode cX9_sheet 32 = .ok (.iload_n 2, 1) := by decide +kernel
theorem dX9_sheet_33 : decode cX9_sheet 33 = .ok (.ifCond .ne 12, 3) := by decide +kernel
theorem dX9_sheet_36 : decode cX9_sheet 36 = .ok (.aload_n 0, 1) := by decide +kernel
theorem dX9_sheet_37 : decode cX9_sheet 37 = .ok (.getfield 35, 3) := by decide +kernel
theorem dX9_sheet_40 : decode cX9_sheet 40 = .ok (.iload_n 1, 1) := by decide +kernel
theorem dX9_sheet_41 : decode cX9_sheet 41 = .ok (.iaload, 1) := by decide +kernel
theorem dX9_sheet_42 : decode cX9_sheet 42 = .ok (.goto 23, 3) := by decide +kernel
theorem dX9_sheet_45 : decode cX9_sheet 45 = .ok (.iload_n 2, 1) := by decide +kernel
theorem dX9_sheet_46 : decode cX9_sheet 46 = .ok (.iconst 1, 1) := by decide +kernel
theorem dX9_sheet_47 : decode cX9_sheet 47 = .ok (.if_icmp .ne 12, 3) := by decide +kernel
theorem dX9_sheet_50 : decode cX9_sheet 50 = .ok (.aload_n 0, 1) := by decide +kernel
theorem dX9_sheet_51 : decode cX9_sheet 51 = .ok (.getfield 44, 3) := by decide +kernel
theorem dX9_sheet_54 : decode cX9_sheet 54 = .ok (.iload_n 1, 1) := by decide +kernel
theorem dX9_sheet_55 : decode cX9_sheet 55 = .ok (.iaload, 1) := by decide +kernel
theorem dX9_sheet_56 : decode cX9_sheet 56 = .ok (.goto 9, 3) := by decide +kernel
theorem dX9_sheet_59 : decode cX9_sheet 59 = .ok (.aload_n 0, 1) := by decide +kernel
theorem dX9_sheet_60 : decode cX9_sheet 60 = .ok (.getfield 47, 3) := by decide +kernel
theorem dX9_sheet_63 : decode cX9_sheet 63 = .ok (.iload_n 1, 1) := by decide +kernel
theorem dX9_sheet_64 : decode cX9_sheet 64 = .ok (.iaload, 1) := by decide +kernel
theorem dX9_sheet_65 : decode cX9_sheet 65 = .ok (.ireturn, 1) := by decide +kernel
theorem dX9_sheet_66 : decode cX9_sheet 66 = .ok (.iconst 0, 1) := by decide +kernel
theorem dX9_sheet_67 : decode cX9_sheet 67 = .ok (.istore_n 3, 1) := by decide +kernel
theorem dX9_sheet_68 : decode cX9_sheet 68 = .ok (.iconst 0, 1) := by decide +kernel
theorem dX9_sheet_69 : decode cX9_sheet 69 = .ok (.istore 4, 2) := by decide +kernel
theorem dX9_sheet_71 : decode cX9_sheet 71 = .ok (.iload 4, 2) := by decide +kernel
theorem dX9_sheet_73 : decode cX9_sheet 73 = .ok (.iconst 5, 1) := by decide +kernel
theorem dX9_sheet_74 : decode cX9_sheet 74 = .ok (.aload_n 0, 1) := by decide +kernel
theorem dX9_sheet_75 : decode cX9_sheet 75 = .ok (.getfield 35, 3) := by decide +kernel
theorem dX9_sheet_78 : decode cX9_sheet 78 = .ok (.iload_n 1, 1) := by decide +kernel
theorem dX9_sheet_79 : decode cX9_sheet 79 = .ok (.iaload, 1) := by decide +kernel
theorem dX9_sheet_80 : decode cX9_sheet 80 = .ok (.imul, 1) := by decide +kernel
theorem dX9_sheet_81 : decode cX9_sheet 81 = .ok (.if_icmp .ge 34, 3) := by decide +kernel
theorem dX9_sheet_84 : decode cX9_sheet 84 = .ok (.iload_n 3, 1) := by decide +kernel
theorem dX9_sheet_85 : decode cX9_sheet 85 = .ok (.aload_n 0, 1) := by decide +kernel
theorem dX9_sheet_86 : decode cX9_sheet 86 = .ok (.getfield 41, 3) := by decide +kernel
theorem dX9_sheet_89 : decode cX9_sheet 89 = .ok (.bipush 30, 2) := by decide +kernel
theorem dX9_sheet_91 : decode cX9_sheet 91 = .ok (.iload_n 1, 1) := by decide +kernel
theorem dX9_sheet_92 : decode cX9_sheet 92 = .ok (.imul, 1) := by decide +kernel
theorem dX9_sheet_93 : decode cX9_sheet 93 = .ok (.iload 4, 2) := by decide +kernel
theorem dX9_sheet_95 : decode cX9_sheet 95 = .ok (.iadd, 1) := by decide +kernel
theorem dX9_sheet_96 : decode cX9_sheet 96 = .ok (.iaload, 1) := by decide +kernel
theorem dX9_sheet_97 : decode cX9_sheet 97 = .ok (.bipush (-3), 2) := by decide +kernel
theorem dX9_sheet_99 : decode cX9_sheet 99 = .ok (.if_icmp .eq 7, 3) := by decide +kernel
theorem dX9_sheet_102 : decode cX9_sheet 102 = .ok (.iconst 1, 1) := by decide +kernel
theorem dX9_sheet_103 : decode cX9_sheet 103 = .ok (.goto 4, 3) := by decide +kernel
theorem dX9_sheet_106 : decode cX9_sheet 106 = .ok (.iconst 0, 1) := by decide +kernel
theorem dX9_sheet_107 : decode cX9_sheet 107 = .ok (.iadd, 1) := by decide +kernel
theorem dX9_sheet_108 : decode cX9_sheet 108 = .ok (.istore_n 3, 1) := by decide +kernel
theorem dX9_sheet_109 : decode cX9_sheet 109 = .ok (.iinc 4 1, 3) := by decide +kernel
theorem dX9_sheet_112 : decode cX9_sheet 112 = .ok (.goto (-41), 3) := by decide +kernel
theorem dX9_sheet_115 : decode cX9_sheet 115 = .ok (.iload_n 3, 1) := by decide +kernel
theorem dX9_sheet_116 : decode cX9_sheet 116 = .ok (.ireturn, 1) := by decide +kernel
set_option maxRecDepth 20000 in
theorem ggX9_leads_X9_isPlace : GoodIn wsX9_leads wsX9_isPlace := goodIn_r _ [8, 9, 10, 11, 12, 7, 13, 14, 15, 19, 20, 21, 22, 23, 24, 25, 26, 27, 28, 29, 30, 31, 32, 33, 34, 35, 36, 37, 38, 39, 40, 41, 42, 43, 44, 45, 46, 47, 48, 49, 50, 51, 52, 53, 54, 55, 56, 57, 58, 59, 60, 61, 62, 63, 64, 65, 66, 67, 68, 69, 70] (by decide +kernel) (by decide +kernel)
set_option maxRecDepth 20000 in
theorem gX9_leads_X9_isPlace : GoodIn wsX9_leads (wsV RX9 223 RX9 yX9_isPlace wsX9_isPlace) := goodIn_app (goodIn_of _ (by decide +kernel)) ggX9_leads_X9_isPlace
set_option maxRecDepth 20000 in
theorem ggX9_leads_X9_isIn : GoodIn wsX9_leads wsX9_isIn := goodIn_r _ [18] (by decide +kernel) (by decide +kernel)
set_option maxRecDepth 20000 in
theorem gX9_leads_X9_isIn : GoodIn wsX9_leads (va_wsS RX9 121 yX9_isIn wsX9_isIn) := goodIn_app (goodIn_of _ (by decide +kernel)) ggX9_leads_X9_isIn
theorem dX9_leads_0 : decode cX9_leads 0 = .ok (.aload_n 0, 1) := by decide +kernel
theorem dX9_leads_1 : decode cX9_leads 1 = .ok (.iconst 0, 1) := by decide +kernel
theorem dX9_leads_2 : decode cX9_leads 2 = .ok (.putfield 112, 3) := by decide +kernel
theorem dX9_leads_5 : decode cX9_leads 5 = .ok (.aload_n 0, 1) := by decide +kernel
theorem dX9_leads_6 : decode cX9_leads 6 = .ok (.iload_n 1, 1) := by decide +kernel
theorem dX9_leads_7 : decode cX9_leads 7 = .ok (.iload_n 2, 1) := by decide +kernel
theorem dX9_leads_8 : decode cX9_leads 8 = .ok (.invokevirtual 223, 3) := by decide +kernel
theorem dX9_leads_11 : decode cX9_leads 11 = .ok (.ifCond .eq 15, 3) := by decide +kernel
theorem dX9_leads_14 : decode cX9_leads 14 = .ok (.iload_n 3, 1) := by decide +kernel
theorem dX9_leads_15 : decode cX9_leads 15 = .ok (.i2l, 1) := by decide +kernel
theorem dX9_leads_16 : decode cX9_leads 16 = .ok (.lconst 0, 1) := by decide +kernel
theorem dX9_leads_17 : decode cX9_leads 17 = .ok (.ldc2_w 226, 3) := by decide +kernel
theorem dX9_leads_20 : decode cX9_leads 20 = .ok (.invokestatic 121, 3) := by decide +kernel
theorem dX9_leads_23 : decode cX9_leads 23 = .ok (.ifCond .ne 7, 3) := by decide +kernel
theorem dX9_leads_26 : decode cX9_leads 26 = .ok (.iconst (-1), 1) := by decide +kernel
theorem dX9_leads_27 : decode cX9_leads 27 = .ok (.goto 18, 3) := by decide +kernel
theorem dX9_leads_30 : decode cX9_leads 30 = .ok (.aload_n 0, 1) := by decide +kernel
theorem dX9_leads_31 : decode cX9_leads 31 = .ok (.getfield 41, 3) := by decide +kernel
theorem dX9_leads_34 : decode cX9_leads 34 = .ok (.bipush 30, 2) := by decide +kernel
theorem dX9_leads_36 : decode cX9_leads 36 = .ok (.iload_n 1, 1) := by decide +kernel
theorem dX9_leads_37 : decode cX9_leads 37 = .ok (.imul, 1) := by decide +kernel
theorem dX9_leads_38 : decode cX9_leads 38 = .ok (.iconst 5, 1) := by decide +kernel
theorem dX9_leads_39 : decode cX9_leads 39 = .ok (.iload_n 2, 1) := by decide +kernel
theorem dX9_leads_40 : decode cX9_leads 40 = .ok (.imul, 1) := by decide +kernel
theorem dX9_leads_41 : decode cX9_leads 41 = .ok (.iadd, 1) := by decide +kernel
theorem dX9_leads_42 : decode cX9_leads 42 = .ok (.iload_n 3, 1) := by decide +kernel
theorem dX9_leads_43 : decode cX9_leads 43 = .ok (.iadd, 1) := by decide +kernel
theorem dX9_leads_44 : decode cX9_leads 44 = .ok (.iaload, 1) := by decide +kernel
theorem dX9_leads_45 : decode cX9_leads 45 = .ok (.ireturn, 1) := by decide +kernel
set_option maxRecDepth 20000 in
theorem ggX9_sign_X9_isPlace : GoodIn wsX9_sign wsX9_isPlace := goodIn_r _ [7, 8, 9, 10, 11, 6, 12, 13, 14, 15, 16, 17, 18, 19, 20, 21, 22, 23, 24, 25, 26, 27, 28, 29, 30, 31, 32, 33, 34, 35, 36, 37, 38, 39, 40, 41, 42, 43, 44, 45, 46, 47, 48, 49, 50, 51, 52, 53, 54, 55, 56, 57, 58, 59, 60, 61, 62, 63, 64, 65, 66] (by decide +kernel) (by decide +kernel)
set_option maxRecDepth 20000 in
theorem gX9_sign_X9_isPlace : GoodIn wsX9_sign (wsV RX9 223 RX9 yX9_isPlace wsX9_isPlace) := goodIn_app (goodIn_of _ (by decide +kernel)) ggX9_sign_X9_isPlace
theorem dX9_sign_0 : decode cX9_sign 0 = .ok (.aload_n 0, 1) := by decide +kernel
theorem dX9_sign_1 : decode cX9_sign 1 = .ok (.iconst 0, 1) := by decide +kernel
theorem dX9_sign_2 : decode cX9_sign 2 = .ok (.putfield 112, 3) := by decide +kernel
theorem dX9_sign_5 : decode cX9_sign 5 = .ok (.aload_n 0, 1) := by decide +kernel
theorem dX9_sign_6 : decode cX9_sign 6 = .ok (.iload_n 1, 1) := by decide +kernel
theorem dX9_sign_7 : decode cX9_sign 7 = .ok (.iload_n 2, 1) := by decide +kernel
theorem dX9_sign_8 : decode cX9_sign 8 = .ok (.invokevirtual 223, 3) := by decide +kernel
theorem dX9_sign_11 : decode cX9_sign 11 = .ok (.ifCond .eq 17, 3) := by decide +kernel
theorem dX9_sign_14 : decode cX9_sign 14 = .ok (.aload_n 0, 1) := by decide +kernel
theorem dX9_sign_15 : decode cX9_sign 15 = .ok (.getfield 38, 3) := by decide +kernel
theorem dX9_sign_18 : decode cX9_sign 18 = .ok (.bipush 6, 2) := by decide +kernel
theorem dX9_sign_20 : decode cX9_sign 20 = .ok (.iload_n 1, 1) := by decide +kernel
theorem dX9_sign_21 : decode cX9_sign 21 = .ok (.imul, 1) := by decide +kernel
theorem dX9_sign_22 : decode cX9_sign 22 = .ok (.iload_n 2, 1) := by decide +kernel
theorem dX9_sign_23 : decode cX9_sign 23 = .ok (.iadd, 1) := by decide +kernel
theorem dX9_sign_24 : decode cX9_sign 24 = .ok (.iaload, 1) := by decide +kernel
theorem dX9_sign_25 : decode cX9_sign 25 = .ok (.goto 4, 3) := by decide +kernel
theorem dX9_sign_28 : decode cX9_sign 28 = .ok (.iconst (-1), 1) := by decide +kernel
theorem dX9_sign_29 : decode cX9_sign 29 = .ok (.ireturn, 1) := by decide +kernel
theorem dX9_measure_0 : decode cX9_measure 0 = .ok (.iconst 0, 1) := by decide +kernel
theorem dX9_measure_1 : decode cX9_measure 1 = .ok (.istore_n 3, 1) := by decide +kernel
theorem dX9_measure_2 : decode cX9_measure 2 = .ok (.iload_n 3, 1) := by decide +kernel
theorem dX9_measure_3 : decode cX9_measure 3 = .ok (.bipush 6, 2) := by decide +kernel
theorem dX9_measure_5 : decode cX9_measure 5 = .ok (.if_icmp .ge 25, 3) := by decide +kernel
theorem dX9_measure_8 : decode cX9_measure 8 = .ok (.aload_n 0, 1) := by decide +kernel
theorem dX9_measure_9 : decode cX9_measure 9 = .ok (.getfield 72, 3) := by decide +kernel
theorem dX9_measure_12 : decode cX9_measure 12 = .ok (.iload_n 3, 1) := by decide +kernel
theorem dX9_measure_13 : decode cX9_measure 13 = .ok (.iload_n 3, 1) := by decide +kernel
theorem dX9_measure_14 : decode cX9_measure 14 = .ok (.iload_n 2, 1) := by decide +kernel
theorem dX9_measure_15 : decode cX9_measure 15 = .ok (.if_icmp .ne 7, 3) := by decide +kernel
theorem dX9_measure_18 : decode cX9_measure 18 = .ok (.iconst 0, 1) := by decide +kernel
theorem dX9_measure_19 : decode cX9_measure 19 = .ok (.goto 4, 3) := by decide +kernel
theorem dX9_measure_22 : decode cX9_measure 22 = .ok (.iconst (-1), 1) := by decide +kernel
theorem dX9_measure_23 : decode cX9_measure 23 = .ok (.iastore, 1) := by decide +kernel
theorem dX9_measure_24 : decode cX9_measure 24 = .ok (.iinc 3 1, 3) := by decide +kernel
theorem dX9_measure_27 : decode cX9_measure 27 = .ok (.goto (-25), 3) := by decide +kernel
theorem dX9_measure_30 : decode cX9_measure 30 = .ok (.iconst 0, 1) := by decide +kernel
theorem dX9_measure_31 : decode cX9_measure 31 = .ok (.istore_n 3, 1) := by decide +kernel
theorem dX9_measure_32 : decode cX9_measure 32 = .ok (.iload_n 3, 1) := by decide +kernel
theorem dX9_measure_33 : decode cX9_measure 33 = .ok (.bipush 6, 2) := by decide +kernel
theorem dX9_measure_35 : decode cX9_measure 35 = .ok (.if_icmp .ge 83, 3) := by decide +kernel
theorem dX9_measure_38 : decode cX9_measure 38 = .ok (.iconst 0, 1) := by decide +kernel
theorem dX9_measure_39 : decode cX9_measure 39 = .ok (.istore 4, 2) := by decide +kernel
theorem dX9_measure_41 : decode cX9_measure 41 = .ok (.iload 4, 2) := by decide +kernel
theorem dX9_measure_43 : decode cX9_measure 43 = .ok (.iconst 5, 1) := by decide +kernel
theorem dX9_measure_44 : decode cX9_measure 44 = .ok (.aload_n 0, 1) := by decide +kernel
theorem dX9_measure_45 : decode cX9_measure 45 = .ok (.getfield 35, 3) := by decide +kernel
theorem dX9_measure_48 : decode cX9_measure 48 = .ok (.iload_n 1, 1) := by decide +kernel
theorem dX9_measure_49 : decode cX9_measure 49 = .ok (.iaload, 1) := by decide +kernel
theorem dX9_measure_50 : decode cX9_measure 50 = .ok (.imul, 1) := by decide +kernel
theorem dX9_measure_51 : decode cX9_measure 51 = .ok (.if_icmp .ge 61, 3) := by decide +kernel
theorem dX9_measure_54 : decode cX9_measure 54 = .ok (.aload_n 0, 1) := by decide +kernel
theorem dX9_measure_55 : decode cX9_measure 55 = .ok (.getfield 41, 3) := by decide +kernel
theorem dX9_measure_58 : decode cX9_measure 58 = .ok (.bipush 30, 2) := by decide +kernel
theorem dX9_measure_60 : decode cX9_measure 60 = .ok (.iload_n 1, 1) := by decide +kernel
theorem dX9_measure_61 : decode cX9_measure 61 = .ok (.imul, 1) := by decide +kernel
theorem dX9_measure_62 : decode cX9_measure 62 = .ok (.iload 4, 2) := by decide +kernel
theorem dX9_measure_64 : decode cX9_measure 64 = .ok (.iadd, 1) := by decide +kernel
theorem dX9_measure_65 : decode cX9_measure 65 = .ok (.iaload, 1) := by decide +kernel
theorem dX9_measure_66 : decode cX9_measure 66 = .ok (.istore 5, 2) := by decide +kernel
theorem dX9_measure_68 : decode cX9_measure 68 = .ok (.aload_n 0, 1) := by decide +kernel
theorem dX9_measure_69 : decode cX9_measure 69 = .ok (.getfield 72, 3) := by decide +kernel
theorem dX9_measure_72 : decode cX9_measure 72 = .ok (.iload 4, 2) := by decide +kernel
theorem dX9_measure_74 : decode cX9_measure 74 = .ok (.iconst 5, 1) := by decide +kernel
theorem dX9_measure_75 : decode cX9_measure 75 = .ok (.idiv, 1) := by decide +kernel
theorem dX9_measure_76 : decode cX9_measure 76 = .ok (.iaload, 1) := by decide +kernel
theorem dX9_measure_77 : decode cX9_measure 77 = .ok (.iload_n 3, 1) := by decide +kernel
theorem dX9_measure_78 : decode cX9_measure 78 = .ok (.if_icmp .ne 28, 3) := by decide +kernel
theorem dX9_measure_81 : decode cX9_measure 81 = .ok (.iload 5, 2) := by decide +kernel
theorem dX9_measure_83 : decode cX9_measure 83 = .ok (.ifCond .lt 23, 3) := by decide +kernel
theorem dX9_measure_86 : decode cX9_measure 86 = .ok (.aload_n 0, 1) := by decide +kernel
theorem dX9_measure_87 : decode cX9_measure 87 = .ok (.getfield 72, 3) := by decide +kernel
theorem dX9_measure_90 : decode cX9_measure 90 = .ok (.iload 5, 2) := by decide +kernel
theorem dX9_measure_92 : decode cX9_measure 92 = .ok (.iaload, 1) := by decide +kernel
theorem dX9_measure_93 : decode cX9_measure 93 = .ok (.ifCond .ge 13, 3) := by decide +kernel
theorem dX9_measure_96 : decode cX9_measure 96 = .ok (.aload_n 0, 1) := by decide +kernel
theorem dX9_measure_97 : decode cX9_measure 97 = .ok (.getfield 72, 3) := by decide +kernel
theorem dX9_measure_100 : decode cX9_measure 100 = .ok (.iload 5, 2) := by decide +kernel
theorem dX9_measure_102 : decode cX9_measure 102 = .ok (.iload_n 3, 1) := by decide +kernel
theorem dX9_measure_103 : decode cX9_measure 103 = .ok (.iconst 1, 1) := by decide +kernel
theorem dX9_measure_104 : decode cX9_measure 104 = .ok (.iadd, 1) := by decide +kernel
theorem dX9_measure_105 : decode cX9_measure 105 = .ok (.iastore, 1) := by decide +kernel
theorem dX9_measure_106 : decode cX9_measure 106 = .ok (.iinc 4 1, 3) := by decide +kernel
theorem dX9_measure_109 : decode cX9_measure 109 = .ok (.goto (-68), 3) := by decide +kernel
theorem dX9_measure_112 : decode cX9_measure 112 = .ok (.iinc 3 1, 3) := by decide +kernel
theorem dX9_measure_115 : decode cX9_measure 115 = .ok (.goto (-83), 3) := by decide +kernel
theorem dX9_measure_118 : decode cX9_measure 118 = .ok (.return_, 1) := by decide +kernel
set_option maxRecDepth 20000 in
theorem ggX9_known_X9_measure : GoodIn wsX9_known wsX9_measure := goodIn_r _ [13, 7, 6, 8, 14, 15, 16, 17, 18, 19, 20, 21, 22, 23, 24, 25, 26, 27, 28, 29, 30, 31, 32, 33, 34, 35, 36, 37, 38, 39, 40, 41, 42, 43, 44, 45, 46, 47, 48, 49, 50, 51, 52, 53, 54, 55, 56, 57, 58, 59, 60, 61, 62, 63, 64, 65] (by decide +kernel) (by decide +kernel)
set_option maxRecDepth 20000 in
theorem gX9_known_X9_measure : GoodIn wsX9_known (wsV RX9 228 RX9 yX9_measure wsX9_measure) := goodIn_app (goodIn_of _ (by decide +kernel)) ggX9_known_X9_measure
theorem dX9_known_0 : decode cX9_known 0 = .ok (.aload_n 0, 1) := by decide +kernel
theorem dX9_known_1 : decode cX9_known 1 = .ok (.iconst 0, 1) := by decide +kernel
theorem dX9_known_2 : decode cX9_known 2 = .ok (.putfield 112, 3) := by decide +kernel
theorem dX9_known_5 : decode cX9_known 5 = .ok (.aload_n 0, 1) := by decide +kernel
theorem dX9_known_6 : decode cX9_known 6 = .ok (.getfield 159, 3) := by decide +kernel
theorem dX9_known_9 : decode cX9_known 9 = .ok (.ifCond .eq 10, 3) := by decide +kernel
theorem dX9_known_12 : decode cX9_known 12 = .ok (.aload_n 0, 1) := by decide +kernel
theorem dX9_known_13 : decode cX9_known 13 = .ok (.getfield 180, 3) := by decide +kernel
theorem dX9_known_16 : decode cX9_known 16 = .ok (.ifCond .eq 18, 3) := by decide +kernel
theorem dX9_known_19 : decode cX9_known 19 = .ok (.aload_n 0, 1) := by decide +kernel
theorem dX9_known_20 : decode cX9_known 20 = .ok (.getfield 159, 3) := by decide +kernel
theorem dX9_known_23 : decode cX9_known 23 = .ok (.ifCond .ne 8, 3) := by decide +kernel
theorem dX9_known_26 : decode cX9_known 26 = .ok (.bipush (-2), 2) := by decide +kernel
theorem dX9_known_28 : decode cX9_known 28 = .ok (.goto 5, 3) := by decide +kernel
theorem dX9_known_31 : decode cX9_known 31 = .ok (.bipush (-3), 2) := by decide +kernel
theorem dX9_known_33 : decode cX9_known 33 = .ok (.ireturn, 1) := by decide +kernel
theorem dX9_known_34 : decode cX9_known 34 = .ok (.aload_n 0, 1) := by decide +kernel
theorem dX9_known_35 : decode cX9_known 35 = .ok (.getfield 177, 3) := by decide +kernel
theorem dX9_known_38 : decode cX9_known 38 = .ok (.iconst 1, 1) := by decide +kernel
theorem dX9_known_39 : decode cX9_known 39 = .ok (.if_icmp .eq 5, 3) := by decide +kernel
theorem dX9_known_42 : decode cX9_known 42 = .ok (.iconst 0, 1) := by decide +kernel
theorem dX9_known_43 : decode cX9_known 43 = .ok (.ireturn, 1) := by decide +kernel
theorem dX9_known_44 : decode cX9_known 44 = .ok (.aload_n 0, 1) := by decide +kernel
theorem dX9_known_45 : decode cX9_known 45 = .ok (.iconst 0, 1) := by decide +kernel
theorem dX9_known_46 : decode cX9_known 46 = .ok (.aload_n 0, 1) := by decide +kernel
theorem dX9_known_47 : decode cX9_known 47 = .ok (.getfield 44, 3) := by decide +kernel
theorem dX9_known_50 : decode cX9_known 50 = .ok (.iconst 0, 1) := by decide +kernel
theorem dX9_known_51 : decode cX9_known 51 = .ok (.iaload, 1) := by decide +kernel
theorem dX9_known_52 : decode cX9_known 52 = .ok (.invokevirtual 228, 3) := by decide +kernel
theorem dX9_known_55 : decode cX9_known 55 = .ok (.iconst 1, 1) := by decide +kernel
theorem dX9_known_56 : decode cX9_known 56 = .ok (.istore_n 1, 1) := by decide +kernel
theorem dX9_known_57 : decode cX9_known 57 = .ok (.iconst 0, 1) := by decide +kernel
theorem dX9_known_58 : decode cX9_known 58 = .ok (.istore_n 2, 1) := by decide +kernel
theorem dX9_known_59 : decode cX9_known 59 = .ok (.iload_n 2, 1) := by decide +kernel
theorem dX9_known_60 : decode cX9_known 60 = .ok (.iconst 5, 1) := by decide +kernel
theorem dX9_known_61 : decode cX9_known 61 = .ok (.aload_n 0, 1) := by decide +kernel
theorem dX9_known_62 : decode cX9_known 62 = .ok (.getfield 35, 3) := by decide +kernel
theorem dX9_known_65 : decode cX9_known 65 = .ok (.iconst 0, 1) := by decide +kernel
theorem dX9_known_66 : decode cX9_known 66 = .ok (.iaload, 1) := by decide +kernel
theorem dX9_known_67 : decode cX9_known 67 = .ok (.imul, 1) := by decide +kernel
theorem dX9_known_68 : decode cX9_known 68 = .ok (.if_icmp .ge 41, 3) := by decide +kernel
theorem dX9_known_71 : decode cX9_known 71 = .ok (.iload_n 1, 1) := by decide +kernel
theorem dX9_known_72 : decode cX9_known 72 = .ok (.ifCond .eq 29, 3) := by decide +kernel
theorem dX9_known_75 : decode cX9_known 75 = .ok (.aload_n 0, 1) := by decide +kernel
theorem dX9_known_76 : decode cX9_known 76 = .ok (.getfield 72, 3) := by decide +kernel
theorem dX9_known_79 : decode cX9_known 79 = .ok (.iload_n 2, 1) := by decide +kernel
theorem dX9_known_80 : decode cX9_known 80 = .ok (.iconst 5, 1) := by decide +kernel
theorem dX9_known_81 : decode cX9_known 81 = .ok (.idiv, 1) := by decide +kernel
theorem dX9_known_82 : decode cX9_known 82 = .ok (.iaload, 1) := by decide +kernel
theorem dX9_known_83 : decode cX9_known 83 = .ok (.ifCond .lt 14, 3) := by decide +kernel
theorem dX9_known_86 : decode cX9_known 86 = .ok (.aload_n 0, 1) := by decide +kernel
theorem dX9_known_87 : decode cX9_known 87 = .ok (.getfield 41, 3) := by decide +kernel
theorem dX9_known_90 : decode cX9_known 90 = .ok (.iload_n 2, 1) := by decide +kernel
theorem dX9_known_91 : decode cX9_known 91 = .ok (.iaload, 1) := by decide +kernel
theorem dX9_known_92 : decode cX9_known 92 = .ok (.bipush (-3), 2) := by decide +kernel
theorem dX9_known_94 : decode cX9_known 94 = .ok (.if_icmp .eq 7, 3) := by decide +kernel
theorem dX9_known_97 : decode cX9_known 97 = .ok (.iconst 1, 1) := by decide +kernel
theorem dX9_known_98 : decode cX9_known 98 = .ok (.goto 4, 3) := by decide +kernel
theorem dX9_known_101 : decode cX9_known 101 = .ok (.iconst 0, 1) := by decide +kernel
theorem dX9_known_102 : decode cX9_known 102 = .ok (.istore_n 1, 1) := by decide +kernel
theorem dX9_known_103 : decode cX9_known 103 = .ok (.iinc 2 1, 3) := by decide +kernel
theorem dX9_known_106 : decode cX9_known 106 = .ok (.goto (-47), 3) := by decide +kernel
theorem dX9_known_109 : decode cX9_known 109 = .ok (.iload_n 1, 1) := by decide +kernel
theorem dX9_known_110 : decode cX9_known 110 = .ok (.ifCond .eq 7, 3) := by decide +kernel
theorem dX9_known_113 : decode cX9_known 113 = .ok (.iconst 1, 1) := by decide +kernel
theorem dX9_known_114 : decode cX9_known 114 = .ok (.goto 4, 3) := by decide +kernel
theorem dX9_known_117 : decode cX9_known 117 = .ok (.iconst 0, 1) := by decide +kernel
theorem dX9_known_118 : decode cX9_known 118 = .ok (.ireturn, 1) := by decide +kernel
set_option maxRecDepth 20000 in
theorem ggX9_one_X9_isIn : GoodIn wsX9_one wsX9_isIn := goodIn_r _ [10] (by decide +kernel) (by decide +kernel)
set_option maxRecDepth 20000 in
theorem gX9_one_X9_isIn : GoodIn wsX9_one (va_wsS RX9 121 yX9_isIn wsX9_isIn) := goodIn_app (goodIn_of _ (by decide +kernel)) ggX9_one_X9_isIn
theorem dX9_one_0 : decode cX9_one 0 = .ok (.aload_n 0, 1) := by decide +kernel
theorem dX9_one_1 : decode cX9_one 1 = .ok (.iconst 0, 1) := by decide +kernel
theorem dX9_one_2 : decode cX9_one 2 = .ok (.putfield 112, 3) := by decide +kernel
theorem dX9_one_5 : decode cX9_one 5 = .ok (.aload_n 0, 1) := by decide +kernel
theorem dX9_one_6 : decode cX9_one 6 = .ok (.getfield 159, 3) := by decide +kernel
theorem dX9_one_9 : decode cX9_one 9 = .ok (.ifCond .eq 10, 3) := by decide +kernel
theorem dX9_one_12 : decode cX9_one 12 = .ok (.aload_n 0, 1) := by decide +kernel
theorem dX9_one_13 : decode cX9_one 13 = .ok (.getfield 180, 3) := by decide +kernel
theorem dX9_one_16 : decode cX9_one 16 = .ok (.ifCond .eq 18, 3) := by decide +kernel
theorem dX9_one_19 : decode cX9_one 19 = .ok (.aload_n 0, 1) := by decide +kernel
theorem dX9_one_20 : decode cX9_one 20 = .ok (.getfield 159, 3) := by decide +kernel
theorem dX9_one_23 : decode cX9_one 23 = .ok (.ifCond .ne 8, 3) := by decide +kernel
theorem dX9_one_26 : decode cX9_one 26 = .ok (.bipush (-2), 2) := by decide +kernel
theorem dX9_one_28 : decode cX9_one 28 = .ok (.goto 5, 3) := by decide +kernel
theorem dX9_one_31 : decode cX9_one 31 = .ok (.bipush (-3), 2) := by decide +kernel
theorem dX9_one_33 : decode cX9_one 33 = .ok (.ireturn, 1) := by decide +kernel
theorem dX9_one_34 : decode cX9_one 34 = .ok (.iload_n 1, 1) := by decide +kernel
theorem dX9_one_35 : decode cX9_one 35 = .ok (.i2l, 1) := by decide +kernel
theorem dX9_one_36 : decode cX9_one 36 = .ok (.lconst 0, 1) := by decide +kernel
theorem dX9_one_37 : decode cX9_one 37 = .ok (.aload_n 0, 1) := by decide +kernel
theorem dX9_one_38 : decode cX9_one 38 = .ok (.getfield 168, 3) := by decide +kernel
theorem dX9_one_41 : decode cX9_one 41 = .ok (.i2l, 1) := by decide +kernel
theorem dX9_one_42 : decode cX9_one 42 = .ok (.invokestatic 121, 3) := by decide +kernel
theorem dX9_one_45 : decode cX9_one 45 = .ok (.ifCond .eq 24, 3) := by decide +kernel
theorem dX9_one_48 : decode cX9_one 48 = .ok (.iload_n 2, 1) := by decide +kernel
theorem dX9_one_49 : decode cX9_one 49 = .ok (.i2l, 1) := by decide +kernel
theorem dX9_one_50 : decode cX9_one 50 = .ok (.lconst 0, 1) := by decide +kernel
theorem dX9_one_51 : decode cX9_one 51 = .ok (.aload_n 0, 1) := by decide +kernel
theorem dX9_one_52 : decode cX9_one 52 = .ok (.getfield 168, 3) := by decide +kernel
theorem dX9_one_55 : decode cX9_one 55 = .ok (.i2l, 1) := by decide +kernel
theorem dX9_one_56 : decode cX9_one 56 = .ok (.invokestatic 121, 3) := by decide +kernel
theorem dX9_one_59 : decode cX9_one 59 = .ok (.ifCond .eq 10, 3) := by decide +kernel
theorem dX9_one_62 : decode cX9_one 62 = .ok (.aload_n 0, 1) := by decide +kernel
theorem dX9_one_63 : decode cX9_one 63 = .ok (.getfield 177, 3) := by decide +kernel
theorem dX9_one_66 : decode cX9_one 66 = .ok (.ifCond .ne 5, 3) := by decide +kernel
theorem dX9_one_69 : decode cX9_one 69 = .ok (.iconst (-1), 1) := by decide +kernel
theorem dX9_one_70 : decode cX9_one 70 = .ok (.ireturn, 1) := by decide +kernel
theorem dX9_one_71 : decode cX9_one 71 = .ok (.iconst 0, 1) := by decide +kernel
theorem dX9_one_72 : decode cX9_one 72 = .ok (.istore_n 3, 1) := by decide +kernel
theorem dX9_one_73 : decode cX9_one 73 = .ok (.iconst 0, 1) := by decide +kernel
theorem dX9_one_74 : decode cX9_one 74 = .ok (.istore 4, 2) := by decide +kernel
theorem dX9_one_76 : decode cX9_one 76 = .ok (.iload 4, 2) := by decide +kernel
theorem dX9_one_78 : decode cX9_one 78 = .ok (.aload_n 0, 1) := by decide +kernel
theorem dX9_one_79 : decode cX9_one 79 = .ok (.getfield 177, 3) := by decide +kernel
theorem dX9_one_82 : decode cX9_one 82 = .ok (.if_icmp .ge 46, 3) := by decide +kernel
theorem dX9_one_85 : decode cX9_one 85 = .ok (.iload_n 3, 1) := by decide +kernel
theorem dX9_one_86 : decode cX9_one 86 = .ok (.aload_n 0, 1) := by decide +kernel
theorem dX9_one_87 : decode cX9_one 87 = .ok (.getfield 50, 3) := by decide +kernel
theorem dX9_one_90 : decode cX9_one 90 = .ok (.sipush 201, 3) := by decide +kernel
theorem dX9_one_93 : decode cX9_one 93 = .ok (.iload 4, 2) := by decide +kernel
theorem dX9_one_95 : decode cX9_one 95 = .ok (.imul, 1) := by decide +kernel
theorem dX9_one_96 : decode cX9_one 96 = .ok (.iload_n 1, 1) := by decide +kernel
theorem dX9_one_97 : decode cX9_one 97 = .ok (.iadd, 1) := by decide +kernel
theorem dX9_one_98 : decode cX9_one 98 = .ok (.baload, 1) := by decide +kernel
theorem dX9_one_99 : decode cX9_one 99 = .ok (.aload_n 0, 1) := by decide +kernel
theorem dX9_one_100 : decode cX9_one 100 = .ok (.getfield 50, 3) := by decide +kernel
theorem dX9_one_103 : decode cX9_one 103 = .ok (.sipush 201, 3) := by decide +kernel
theorem dX9_one_106 : decode cX9_one 106 = .ok (.iload 4, 2) := by decide +kernel
theorem dX9_one_108 : decode cX9_one 108 = .ok (.imul, 1) := by decide +kernel
theorem dX9_one_109 : decode cX9_one 109 = .ok (.iload_n 2, 1) := by decide +kernel
theorem dX9_one_110 : decode cX9_one 110 = .ok (.iadd, 1) := by decide +kernel
theorem dX9_one_111 : decode cX9_one 111 = .ok (.baload, 1) := by decide +kernel
theorem dX9_one_112 : decode cX9_one 112 = .ok (.if_icmp .ne 7, 3) := by decide +kernel
theorem dX9_one_115 : decode cX9_one 115 = .ok (.iconst 1, 1) := by decide +kernel
theorem dX9_one_116 : decode cX9_one 116 = .ok (.goto 4, 3) := by decide +kernel
theorem dX9_one_119 : decode cX9_one 119 = .ok (.iconst 0, 1) := by decide +kernel
theorem dX9_one_120 : decode cX9_one 120 = .ok (.iadd, 1) := by decide +kernel
theorem dX9_one_121 : decode cX9_one 121 = .ok (.istore_n 3, 1) := by decide +kernel
theorem dX9_one_122 : decode cX9_one 122 = .ok (.iinc 4 1, 3) := by decide +kernel
theorem dX9_one_125 : decode cX9_one 125 = .ok (.goto (-49), 3) := by decide +kernel
theorem dX9_one_128 : decode cX9_one 128 = .ok (.iload_n 3, 1) := by decide +kernel
theorem dX9_one_129 : decode cX9_one 129 = .ok (.aload_n 0, 1) := by decide +kernel
theorem dX9_one_130 : decode cX9_one 130 = .ok (.getfield 177, 3) := by decide +kernel
theorem dX9_one_133 : decode cX9_one 133 = .ok (.if_icmp .ne 7, 3) := by decide +kernel
theorem dX9_one_136 : decode cX9_one 136 = .ok (.iconst 1, 1) := by decide +kernel
theorem dX9_one_137 : decode cX9_one 137 = .ok (.goto 12, 3) := by decide +kernel
theorem dX9_one_140 : decode cX9_one 140 = .ok (.iload_n 3, 1) := by decide +kernel
theorem dX9_one_141 : decode cX9_one 141 = .ok (.ifCond .ne 7, 3) := by decide +kernel
theorem dX9_one_144 : decode cX9_one 144 = .ok (.iconst 0, 1) := by decide +kernel
theorem dX9_one_145 : decode cX9_one 145 = .ok (.goto 4, 3) := by decide +kernel
theorem dX9_one_148 : decode cX9_one 148 = .ok (.iconst 2, 1) := by decide +kernel
theorem dX9_one_149 : decode cX9_one 149 = .ok (.ireturn, 1) := by decide +kernel
theorem dX9_show_0 : decode cX9_show 0 = .ok (.aload_n 0, 1) := by decide +kernel
theorem dX9_show_1 : decode cX9_show 1 = .ok (.getfield 44, 3) := by decide +kernel
theorem dX9_show_4 : decode cX9_show 4 = .ok (.iload_n 1, 1) := by decide +kernel
theorem dX9_show_5 : decode cX9_show 5 = .ok (.iaload, 1) := by decide +kernel
theorem dX9_show_6 : decode cX9_show 6 = .ok (.istore 4, 2) := by decide +kernel
theorem dX9_show_8 : decode cX9_show 8 = .ok (.iconst 1, 1) := by decide +kernel
theorem dX9_show_9 : decode cX9_show 9 = .ok (.istore 5, 2) := by decide +kernel
theorem dX9_show_11 : decode cX9_show 11 = .ok (.iconst 1, 1) := by decide +kernel
theorem dX9_show_12 : decode cX9_show 12 = .ok (.istore 6, 2) := by decide +kernel
theorem dX9_show_14 : decode cX9_show 14 = .ok (.iload 6, 2) := by decide +kernel
theorem dX9_show_16 : decode cX9_show 16 = .ok (.iload_n 2, 1) := by decide +kernel
theorem dX9_show_17 : decode cX9_show 17 = .ok (.if_icmp .ge 15, 3) := by decide +kernel
theorem dX9_show_20 : decode cX9_show 20 = .ok (.iload 5, 2) := by decide +kernel
theorem dX9_show_22 : decode cX9_show 22 = .ok (.iconst 5, 1) := by decide +kernel
theorem dX9_show_23 : decode cX9_show 23 = .ok (.imul, 1) := by decide +kernel
theorem dX9_show_24 : decode cX9_show 24 = .ok (.istore 5, 2) := by decide +kernel
theorem dX9_show_26 : decode cX9_show 26 = .ok (.iinc 6 1, 3) := by decide +kernel
theorem dX9_show_29 : decode cX9_show 29 = .ok (.goto (-15), 3) := by decide +kernel
theorem dX9_show_32 : decode cX9_show 32 = .ok (.iconst 0, 1) := by decide +kernel
theorem dX9_show_33 : decode cX9_show 33 = .ok (.istore 6, 2) := by decide +kernel
theorem dX9_show_35 : decode cX9_show 35 = .ok (.iload 6, 2) := by decide +kernel
theorem dX9_show_37 : decode cX9_show 37 = .ok (.iload_n 2, 1) := by decide +kernel
theorem dX9_show_38 : decode cX9_show 38 = .ok (.if_icmp .ge 167, 3) := by decide +kernel
theorem dX9_show_41 : decode cX9_show 41 = .ok (.iload_n 3, 1) := by decide +kernel
theorem dX9_show_42 : decode cX9_show 42 = .ok (.iload 5, 2) := by decide +kernel
theorem dX9_show_44 : decode cX9_show 44 = .ok (.idiv, 1) := by decide +kernel
theorem dX9_show_45 : decode cX9_show 45 = .ok (.iconst 5, 1) := by decide +kernel
theorem dX9_show_46 : decode cX9_show 46 = .ok (.irem, 1) := by decide +kernel
theorem dX9_show_47 : decode cX9_show 47 = .ok (.istore 7, 2) := by decide +kernel
theorem dX9_show_49 : decode cX9_show 49 = .ok (.iload 5, 2) := by decide +kernel
theorem dX9_show_51 : decode cX9_show 51 = .ok (.iconst 5, 1) := by decide +kernel
theorem dX9_show_52 : decode cX9_show 52 = .ok (.if_icmp .ge 7, 3) := by decide +kernel
theorem dX9_show_55 : decode cX9_show 55 = .ok (.iconst 1, 1) := by decide +kernel
theorem dX9_show_56 : decode cX9_show 56 = .ok (.goto 7, 3) := by decide +kernel
theorem dX9_show_59 : decode cX9_show 59 = .ok (.iload 5, 2) := by decide +kernel
theorem dX9_show_61 : decode cX9_show 61 = .ok (.iconst 5, 1) := by decide +kernel
theorem dX9_show_62 : decode cX9_show 62 = .ok (.idiv, 1) := by decide +kernel
theorem dX9_show_63 : decode cX9_show 63 = .ok (.istore 5, 2) := by decide +kernel
theorem dX9_show_65 : decode cX9_show 65 = .ok (.iload 4, 2) := by decide +kernel
theorem dX9_show_67 : decode cX9_show 67 = .ok (.ifCond .ge 8, 3) := by decide +kernel
theorem dX9_show_70 : decode cX9_show 70 = .ok (.bipush (-3), 2) := by decide +kernel
theorem dX9_show_72 : decode cX9_show 72 = .ok (.goto 20, 3) := by decide +kernel
theorem dX9_show_75 : decode cX9_show 75 = .ok (.aload_n 0, 1) := by decide +kernel
theorem dX9_show_76 : decode cX9_show 76 = .ok (.getfield 41, 3) := by decide +kernel
theorem dX9_show_79 : decode cX9_show 79 = .ok (.bipush 30, 2) := by decide +kernel
theorem dX9_show_81 : decode cX9_show 81 = .ok (.iload_n 1, 1) := by decide +kernel
theorem dX9_show_82 : decode cX9_show 82 = .ok (.imul, 1) := by decide +kernel
theorem dX9_show_83 : decode cX9_show 83 = .ok (.iconst 5, 1) := by decide +kernel
theorem dX9_show_84 : decode cX9_show 84 = .ok (.iload 4, 2) := by decide +kernel
theorem dX9_show_86 : decode cX9_show 86 = .ok (.imul, 1) := by decide +kernel
theorem dX9_show_87 : decode cX9_show 87 = .ok (.iadd, 1) := by decide +kernel
theorem dX9_show_88 : decode cX9_show 88 = .ok (.iload 7, 2) := by decide +kernel
theorem dX9_show_90 : decode cX9_show 90 = .ok (.iadd, 1) := by decide +kernel
theorem dX9_show_91 : decode cX9_show 91 = .ok (.iaload, 1) := by decide +kernel
theorem dX9_show_92 : decode cX9_show 92 = .ok (.istore 8, 2) := by decide +kernel
theorem dX9_show_94 : decode cX9_show 94 = .ok (.iload 8, 2) := by decide +kernel
theorem dX9_show_96 : decode cX9_show 96 = .ok (.bipush (-2), 2) := by decide +kernel
theorem dX9_show_98 : decode cX9_show 98 = .ok (.if_icmp .ne 7, 3) := by decide +kernel
theorem dX9_show_101 : decode cX9_show 101 = .ok (.iconst 1, 1) := by decide +kernel
theorem dX9_show_102 : decode cX9_show 102 = .ok (.goto 4, 3) := by decide +kernel
theorem dX9_show_105 : decode cX9_show 105 = .ok (.iconst 0, 1) := by decide +kernel
theorem dX9_show_106 : decode cX9_show 106 = .ok (.istore 9, 2) := by decide +kernel
theorem dX9_show_108 : decode cX9_show 108 = .ok (.iload 9, 2) := by decide +kernel
theorem dX9_show_110 : decode cX9_show 110 = .ok (.ifCond .eq 8, 3) := by decide +kernel
theorem dX9_show_113 : decode cX9_show 113 = .ok (.iload 4, 2) := by decide +kernel
theorem dX9_show_115 : decode cX9_show 115 = .ok (.goto 16, 3) := by decide +kernel
theorem dX9_show_118 : decode cX9_show 118 = .ok (.iload 8, 2) := by decide +kernel
theorem dX9_show_120 : decode cX9_show 120 = .ok (.bipush (-3), 2) := by decide +kernel
theorem dX9_show_122 : decode cX9_show 122 = .ok (.if_icmp .ne 7, 3) := by decide +kernel
theorem dX9_show_125 : decode cX9_show 125 = .ok (.iconst (-1), 1) := by decide +kernel
theorem dX9_show_126 : decode cX9_show 126 = .ok (.goto 5, 3) := by decide +kernel
theorem dX9_show_129 : decode cX9_show 129 = .ok (.iload 8, 2) := by decide +kernel
theorem dX9_show_131 : decode cX9_show 131 = .ok (.istore 4, 2) := by decide +kernel
theorem dX9_show_133 : decode cX9_show 133 = .ok (.aload_n 0, 1) := by decide +kernel
theorem dX9_show_134 : decode cX9_show 134 = .ok (.getfield 75, 3) := by decide +kernel
theorem dX9_show_137 : decode cX9_show 137 = .ok (.bipush 6, 2) := by decide +kernel
theorem dX9_show_139 : decode cX9_show 139 = .ok (.iload_n 1, 1) := by decide +kernel
theorem dX9_show_140 : decode cX9_show 140 = .ok (.imul, 1) := by decide +kernel
theorem dX9_show_141 : decode cX9_show 141 = .ok (.iload 6, 2) := by decide +kernel
theorem dX9_show_143 : decode cX9_show 143 = .ok (.iadd, 1) := by decide +kernel
theorem dX9_show_144 : decode cX9_show 144 = .ok (.iload 4, 2) := by decide +kernel
theorem dX9_show_146 : decode cX9_show 146 = .ok (.ifCond .ge 7, 3) := by decide +kernel
theorem dX9_show_149 : decode cX9_show 149 = .ok (.iconst 0, 1) := by decide +kernel
theorem dX9_show_150 : decode cX9_show 150 = .ok (.goto 48, 3) := by decide +kernel
theorem dX9_show_153 : decode cX9_show 153 = .ok (.iconst 1, 1) := by decide +kernel
theorem dX9_show_154 : decode cX9_show 154 = .ok (.iload 9, 2) := by decide +kernel
theorem dX9_show_156 : decode cX9_show 156 = .ok (.ifCond .eq 7, 3) := by decide +kernel
theorem dX9_show_159 : decode cX9_show 159 = .ok (.iconst 1, 1) := by decide +kernel
theorem dX9_show_160 : decode cX9_show 160 = .ok (.goto 4, 3) := by decide +kernel
theorem dX9_show_163 : decode cX9_show 163 = .ok (.iconst 0, 1) := by decide +kernel
theorem dX9_show_164 : decode cX9_show 164 = .ok (.iadd, 1) := by decide +kernel
theorem dX9_show_165 : decode cX9_show 165 = .ok (.iconst 2, 1) := by decide +kernel
theorem dX9_show_166 : decode cX9_show 166 = .ok (.aload_n 0, 1) := by decide +kernel
theorem dX9_show_167 : decode cX9_show 167 = .ok (.getfield 38, 3) := by decide +kernel
theorem dX9_show_170 : decode cX9_show 170 = .ok (.bipush 6, 2) := by decide +kernel
theorem dX9_show_172 : decode cX9_show 172 = .ok (.iload_n 1, 1) := by decide +kernel
theorem dX9_show_173 : decode cX9_show 173 = .ok (.imul, 1) := by decide +kernel
theorem dX9_show_174 : decode cX9_show 174 = .ok (.iload 4, 2) := by decide +kernel
theorem dX9_show_176 : decode cX9_show 176 = .ok (.iadd, 1) := by decide +kernel
theorem dX9_show_177 : decode cX9_show 177 = .ok (.iaload, 1) := by decide +kernel
theorem dX9_show_178 : decode cX9_show 178 = .ok (.imul, 1) := by decide +kernel
theorem dX9_show_179 : decode cX9_show 179 = .ok (.iadd, 1) := by decide +kernel
theorem dX9_show_180 : decode cX9_show 180 = .ok (.aload_n 0, 1) := by decide +kernel
theorem dX9_show_181 : decode cX9_show 181 = .ok (.getfield 47, 3) := by decide +kernel
theorem dX9_show_184 : decode cX9_show 184 = .ok (.iload_n 1, 1) := by decide +kernel
theorem dX9_show_185 : decode cX9_show 185 = .ok (.iaload, 1) := by decide +kernel
theorem dX9_show_186 : decode cX9_show 186 = .ok (.iload 4, 2) := by decide +kernel
theorem dX9_show_188 : decode cX9_show 188 = .ok (.if_icmp .ne 8, 3) := by decide +kernel
theorem dX9_show_191 : decode cX9_show 191 = .ok (.bipush 8, 2) := by decide +kernel
theorem dX9_show_193 : decode cX9_show 193 = .ok (.goto 4, 3) := by decide +kernel
theorem dX9_show_196 : decode cX9_show 196 = .ok (.iconst 0, 1) := by decide +kernel
theorem dX9_show_197 : decode cX9_show 197 = .ok (.iadd, 1) := by decide +kernel
theorem dX9_show_198 : decode cX9_show 198 = .ok (.iastore, 1) := by decide +kernel
theorem dX9_show_199 : decode cX9_show 199 = .ok (.iinc 6 1, 3) := by decide +kernel
theorem dX9_show_202 : decode cX9_show 202 = .ok (.goto (-167), 3) := by decide +kernel
theorem dX9_show_205 : decode cX9_show 205 = .ok (.return_, 1) := by decide +kernel
set_option maxRecDepth 20000 in
theorem ggX9_partsOf_X9_show : GoodIn wsX9_partsOf wsX9_show := goodIn_r _ [7, 8, 9, 2, 10, 11, 12, 13, 14, 15, 16, 17, 18, 19, 20, 21, 22, 23, 24, 25, 26, 27, 28, 29, 30, 31, 32, 33, 34, 35, 36, 37, 38, 39, 40, 41, 42, 43, 44, 45, 46, 47, 48, 49, 50, 51, 52, 53, 54, 55, 56, 57, 58, 59, 60, 61, 62, 63] (by decide +kernel) (by decide +kernel)
set_option maxRecDepth 20000 in
theorem gX9_partsOf_X9_show : GoodIn wsX9_partsOf (wsV RX9 231 RX9 yX9_show wsX9_show) := goodIn_app (goodIn_of _ (by decide +kernel)) ggX9_partsOf_X9_show
theorem dX9_partsOf_0 : decode cX9_partsOf 0 = .ok (.iconst 0, 1) := by decide +kernel
theorem dX9_partsOf_1 : decode cX9_partsOf 1 = .ok (.istore_n 3, 1) := by decide +kernel
theorem dX9_partsOf_2 : decode cX9_partsOf 2 = .ok (.iload_n 3, 1) := by decide +kernel
theorem dX9_partsOf_3 : decode cX9_partsOf 3 = .ok (.aload_n 0, 1) := by decide +kernel
theorem dX9_partsOf_4 : decode cX9_partsOf 4 = .ok (.getfield 177, 3) := by decide +kernel
theorem dX9_partsOf_7 : decode cX9_partsOf 7 = .ok (.if_icmp .ge 16, 3) := by decide +kernel
theorem dX9_partsOf_10 : decode cX9_partsOf 10 = .ok (.aload_n 0, 1) := by decide +kernel
theorem dX9_partsOf_11 : decode cX9_partsOf 11 = .ok (.iload_n 3, 1) := by decide +kernel
theorem dX9_partsOf_12 : decode cX9_partsOf 12 = .ok (.iload_n 1, 1) := by decide +kernel
theorem dX9_partsOf_13 : decode cX9_partsOf 13 = .ok (.iload_n 2, 1) := by decide +kernel
theorem dX9_partsOf_14 : decode cX9_partsOf 14 = .ok (.invokevirtual 231, 3) := by decide +kernel
theorem dX9_partsOf_17 : decode cX9_partsOf 17 = .ok (.iinc 3 1, 3) := by decide +kernel
theorem dX9_partsOf_20 : decode cX9_partsOf 20 = .ok (.goto (-18), 3) := by decide +kernel
theorem dX9_partsOf_23 : decode cX9_partsOf 23 = .ok (.iconst 0, 1) := by decide +kernel
theorem dX9_partsOf_24 : decode cX9_partsOf 24 = .ok (.istore_n 3, 1) := by decide +kernel
theorem dX9_partsOf_25 : decode cX9_partsOf 25 = .ok (.iconst 0, 1) := by decide +kernel
theorem dX9_partsOf_26 : decode cX9_partsOf 26 = .ok (.istore 4, 2) := by decide +kernel
theorem dX9_partsOf_28 : decode cX9_partsOf 28 = .ok (.iload 4, 2) := by decide +kernel
theorem dX9_partsOf_30 : decode cX9_partsOf 30 = .ok (.aload_n 0, 1) := by decide +kernel
theorem dX9_partsOf_31 : decode cX9_partsOf 31 = .ok (.getfield 177, 3) := by decide +kernel
theorem dX9_partsOf_34 : decode cX9_partsOf 34 = .ok (.if_icmp .ge 117, 3) := by decide +kernel
theorem dX9_partsOf_37 : decode cX9_partsOf 37 = .ok (.iconst 1, 1) := by decide +kernel
theorem dX9_partsOf_38 : decode cX9_partsOf 38 = .ok (.istore 5, 2) := by decide +kernel
theorem dX9_partsOf_40 : decode cX9_partsOf 40 = .ok (.iconst 0, 1) := by decide +kernel
theorem dX9_partsOf_41 : decode cX9_partsOf 41 = .ok (.istore 6, 2) := by decide +kernel
theorem dX9_partsOf_43 : decode cX9_partsOf 43 = .ok (.iload 6, 2) := by decide +kernel
theorem dX9_partsOf_45 : decode cX9_partsOf 45 = .ok (.iload 4, 2) := by decide +kernel
theorem dX9_partsOf_47 : decode cX9_partsOf 47 = .ok (.if_icmp .ge 85, 3) := by decide +kernel
theorem dX9_partsOf_50 : decode cX9_partsOf 50 = .ok (.iload 5, 2) := by decide +kernel
theorem dX9_partsOf_52 : decode cX9_partsOf 52 = .ok (.ifCond .eq 80, 3) := by decide +kernel
theorem dX9_partsOf_55 : decode cX9_partsOf 55 = .ok (.iconst 1, 1) := by decide +kernel
theorem dX9_partsOf_56 : decode cX9_partsOf 56 = .ok (.istore 7, 2) := by decide +kernel
theorem dX9_partsOf_58 : decode cX9_partsOf 58 = .ok (.iconst 0, 1) := by decide +kernel
theorem dX9_partsOf_59 : decode cX9_partsOf 59 = .ok (.istore 8, 2) := by decide +kernel
theorem dX9_partsOf_61 : decode cX9_partsOf 61 = .ok (.iload 8, 2) := by decide +kernel
theorem dX9_partsOf_63 : decode cX9_partsOf 63 = .ok (.iload_n 1, 1) := by decide +kernel
theorem dX9_partsOf_64 : decode cX9_partsOf 64 = .ok (.if_icmp .ge 50, 3) := by decide +kernel
theorem dX9_partsOf_67 : decode cX9_partsOf 67 = .ok (.iload 7, 2) := by decide +kernel
theorem dX9_partsOf_69 : decode cX9_partsOf 69 = .ok (.ifCond .eq 45, 3) := by decide +kernel
theorem dX9_partsOf_72 : decode cX9_partsOf 72 = .ok (.aload_n 0, 1) := by decide +kernel
theorem dX9_partsOf_73 : decode cX9_partsOf 73 = .ok (.getfield 75, 3) := by decide +kernel
theorem dX9_partsOf_76 : decode cX9_partsOf 76 = .ok (.bipush 6, 2) := by decide +kernel
theorem dX9_partsOf_78 : decode cX9_partsOf 78 = .ok (.iload 4, 2) := by decide +kernel
theorem dX9_partsOf_80 : decode cX9_partsOf 80 = .ok (.imul, 1) := by decide +kernel
theorem dX9_partsOf_81 : decode cX9_partsOf 81 = .ok (.iload 8, 2) := by decide +kernel
theorem dX9_partsOf_83 : decode cX9_partsOf 83 = .ok (.iadd, 1) := by decide +kernel
theorem dX9_partsOf_84 : decode cX9_partsOf 84 = .ok (.iaload, 1) := by decide +kernel
theorem dX9_partsOf_85 : decode cX9_partsOf 85 = .ok (.aload_n 0, 1) := by decide +kernel
theorem dX9_partsOf_86 : decode cX9_partsOf 86 = .ok (.getfield 75, 3) := by decide +kernel
theorem dX9_partsOf_89 : decode cX9_partsOf 89 = .ok (.bipush 6, 2) := by decide +kernel
theorem dX9_partsOf_91 : decode cX9_partsOf 91 = .ok (.iload 6, 2) := by decide +kernel
theorem dX9_partsOf_93 : decode cX9_partsOf 93 = .ok (.imul, 1) := by decide +kernel
theorem dX9_partsOf_94 : decode cX9_partsOf 94 = .ok (.iload 8, 2) := by decide +kernel
theorem dX9_partsOf_96 : decode cX9_partsOf 96 = .ok (.iadd, 1) := by decide +kernel
theorem dX9_partsOf_97 : decode cX9_partsOf 97 = .ok (.iaload, 1) := by decide +kernel
theorem dX9_partsOf_98 : decode cX9_partsOf 98 = .ok (.if_icmp .ne 7, 3) := by decide +kernel
theorem dX9_partsOf_101 : decode cX9_partsOf 101 = .ok (.iconst 1, 1) := by decide +kernel
theorem dX9_partsOf_102 : decode cX9_partsOf 102 = .ok (.goto 4, 3) := by decide +kernel
theorem dX9_partsOf_105 : decode cX9_partsOf 105 = .ok (.iconst 0, 1) := by decide +kernel
theorem dX9_partsOf_106 : decode cX9_partsOf 106 = .ok (.istore 7, 2) := by decide +kernel
theorem dX9_partsOf_108 : decode cX9_partsOf 108 = .ok (.iinc 8 1, 3) := by decide +kernel
theorem dX9_partsOf_111 : decode cX9_partsOf 111 = .ok (.goto (-50), 3) := by decide +kernel
theorem dX9_partsOf_114 : decode cX9_partsOf 114 = .ok (.iload 7, 2) := by decide +kernel
theorem dX9_partsOf_116 : decode cX9_partsOf 116 = .ok (.ifCond .ne 7, 3) := by decide +kernel
theorem dX9_partsOf_119 : decode cX9_partsOf 119 = .ok (.iconst 1, 1) := by decide +kernel
theorem dX9_partsOf_120 : decode cX9_partsOf 120 = .ok (.goto 4, 3) := by decide +kernel
theorem dX9_partsOf_123 : decode cX9_partsOf 123 = .ok (.iconst 0, 1) := by decide +kernel
theorem dX9_partsOf_124 : decode cX9_partsOf 124 = .ok (.istore 5, 2) := by decide +kernel
theorem dX9_partsOf_126 : decode cX9_partsOf 126 = .ok (.iinc 6 1, 3) := by decide +kernel
theorem dX9_partsOf_129 : decode cX9_partsOf 129 = .ok (.goto (-86), 3) := by decide +kernel
theorem dX9_partsOf_132 : decode cX9_partsOf 132 = .ok (.iload_n 3, 1) := by decide +kernel
theorem dX9_partsOf_133 : decode cX9_partsOf 133 = .ok (.iload 5, 2) := by decide +kernel
theorem dX9_partsOf_135 : decode cX9_partsOf 135 = .ok (.ifCond .eq 7, 3) := by decide +kernel
theorem dX9_partsOf_138 : decode cX9_partsOf 138 = .ok (.iconst 1, 1) := by decide +kernel
theorem dX9_partsOf_139 : decode cX9_partsOf 139 = .ok (.goto 4, 3) := by decide +kernel
theorem dX9_partsOf_142 : decode cX9_partsOf 142 = .ok (.iconst 0, 1) := by decide +kernel
theorem dX9_partsOf_143 : decode cX9_partsOf 143 = .ok (.iadd, 1) := by decide +kernel
theorem dX9_partsOf_144 : decode cX9_partsOf 144 = .ok (.istore_n 3, 1) := by decide +kernel
theorem dX9_partsOf_145 : decode cX9_partsOf 145 = .ok (.iinc 4 1, 3) := by decide +kernel
theorem dX9_partsOf_148 : decode cX9_partsOf 148 = .ok (.goto (-120), 3) := by decide +kernel
theorem dX9_partsOf_151 : decode cX9_partsOf 151 = .ok (.iload_n 3, 1) := by decide +kernel
theorem dX9_partsOf_152 : decode cX9_partsOf 152 = .ok (.ireturn, 1) := by decide +kernel
theorem dX9_rowsOf_0 : decode cX9_rowsOf 0 = .ok (.iconst 1, 1) := by decide +kernel
theorem dX9_rowsOf_1 : decode cX9_rowsOf 1 = .ok (.istore_n 1, 1) := by decide +kernel
theorem dX9_rowsOf_2 : decode cX9_rowsOf 2 = .ok (.iconst 0, 1) := by decide +kernel
theorem dX9_rowsOf_3 : decode cX9_rowsOf 3 = .ok (.istore_n 2, 1) := by decide +kernel
theorem dX9_rowsOf_4 : decode cX9_rowsOf 4 = .ok (.iload_n 2, 1) := by decide +kernel
theorem dX9_rowsOf_5 : decode cX9_rowsOf 5 = .ok (.iload_n 0, 1) := by decide +kernel
theorem dX9_rowsOf_6 : decode cX9_rowsOf 6 = .ok (.if_icmp .ge 13, 3) := by decide +kernel
theorem dX9_rowsOf_9 : decode cX9_rowsOf 9 = .ok (.iload_n 1, 1) := by decide +kernel
theorem dX9_rowsOf_10 : decode cX9_rowsOf 10 = .ok (.iconst 5, 1) := by decide +kernel
theorem dX9_rowsOf_11 : decode cX9_rowsOf 11 = .ok (.imul, 1) := by decide +kernel
theorem dX9_rowsOf_12 : decode cX9_rowsOf 12 = .ok (.istore_n 1, 1) := by decide +kernel
theorem dX9_rowsOf_13 : decode cX9_rowsOf 13 = .ok (.iinc 2 1, 3) := by decide +kernel
theorem dX9_rowsOf_16 : decode cX9_rowsOf 16 = .ok (.goto (-12), 3) := by decide +kernel
theorem dX9_rowsOf_19 : decode cX9_rowsOf 19 = .ok (.iload_n 1, 1) := by decide +kernel
theorem dX9_rowsOf_20 : decode cX9_rowsOf 20 = .ok (.ireturn, 1) := by decide +kernel
set_option maxRecDepth 20000 in
theorem ggX9_part_X9_isIn : GoodIn wsX9_part wsX9_isIn := goodIn_r _ [9] (by decide +kernel) (by decide +kernel)
set_option maxRecDepth 20000 in
theorem gX9_part_X9_isIn : GoodIn wsX9_part (va_wsS RX9 121 yX9_isIn wsX9_isIn) := goodIn_app (goodIn_of _ (by decide +kernel)) ggX9_part_X9_isIn
set_option maxRecDepth 20000 in
theorem ggX9_part_X9_rowsOf : GoodIn wsX9_part wsX9_rowsOf := goodIn_r _ [12] (by decide +kernel) (by decide +kernel)
set_option maxRecDepth 20000 in
theorem gX9_part_X9_rowsOf : GoodIn wsX9_part (va_wsS RX9 234 yX9_rowsOf wsX9_rowsOf) := goodIn_app (goodIn_of _ (by decide +kernel)) ggX9_part_X9_rowsOf
set_option maxRecDepth 20000 in
theorem ggX9_part_X9_partsOf : GoodIn wsX9_part wsX9_partsOf := goodIn_r _ [16, 5, 17, 18, 19, 20, 8, 21, 22, 23, 24, 25, 26, 27, 28, 29, 30, 31, 32, 33, 34, 35, 36, 37, 38, 39, 40, 41, 42, 43, 44, 45, 46, 47, 48, 49, 50, 51, 52, 53, 54, 55, 56, 57, 58, 59, 60, 61, 62, 63, 64, 65, 66, 67, 68, 69, 70, 71, 72, 73, 74, 75, 76, 77] (by decide +kernel) (by decide +kernel)
set_option maxRecDepth 20000 in
theorem gX9_part_X9_partsOf : GoodIn wsX9_part (wsV RX9 238 RX9 yX9_partsOf wsX9_partsOf) := goodIn_app (goodIn_of _ (by decide +kernel)) ggX9_part_X9_partsOf
theorem dX9_part_0 : decode cX9_part 0 = .ok (.aload_n 0, 1) := by decide +kernel
theorem dX9_part_1 : decode cX9_part 1 = .ok (.iconst 0, 1) := by decide +kernel
theorem dX9_part_2 : decode cX9_part 2 = .ok (.putfield 112, 3) := by decide +kernel
theorem dX9_part_5 : decode cX9_part 5 = .ok (.iload_n 1, 1) := by decide +kernel
theorem dX9_part_6 : decode cX9_part 6 = .ok (.i2l, 1) := by decide +kernel
theorem dX9_part_7 : decode cX9_part 7 = .ok (.lconst 1, 1) := by decide +kernel
theorem dX9_part_8 : decode cX9_part 8 = .ok (.ldc2_w 157, 3) := by decide +kernel
theorem dX9_part_11 : decode cX9_part 11 = .ok (.invokestatic 121, 3) := by decide +kernel
theorem dX9_part_14 : decode cX9_part 14 = .ok (.ifCond .eq 19, 3) := by decide +kernel
theorem dX9_part_17 : decode cX9_part 17 = .ok (.iload_n 2, 1) := by decide +kernel
theorem dX9_part_18 : decode cX9_part 18 = .ok (.i2l, 1) := by decide +kernel
theorem dX9_part_19 : decode cX9_part 19 = .ok (.lconst 0, 1) := by decide +kernel
theorem dX9_part_20 : decode cX9_part 20 = .ok (.iload_n 1, 1) := by decide +kernel
theorem dX9_part_21 : decode cX9_part 21 = .ok (.invokestatic 234, 3) := by decide +kernel
theorem dX9_part_24 : decode cX9_part 24 = .ok (.iconst 1, 1) := by decide +kernel
theorem dX9_part_25 : decode cX9_part 25 = .ok (.isub, 1) := by decide +kernel
theorem dX9_part_26 : decode cX9_part 26 = .ok (.i2l, 1) := by decide +kernel
theorem dX9_part_27 : decode cX9_part 27 = .ok (.invokestatic 121, 3) := by decide +kernel
theorem dX9_part_30 : decode cX9_part 30 = .ok (.ifCond .ne 5, 3) := by decide +kernel
theorem dX9_part_33 : decode cX9_part 33 = .ok (.iconst (-1), 1) := by decide +kernel
theorem dX9_part_34 : decode cX9_part 34 = .ok (.ireturn, 1) := by decide +kernel
theorem dX9_part_35 : decode cX9_part 35 = .ok (.aload_n 0, 1) := by decide +kernel
theorem dX9_part_36 : decode cX9_part 36 = .ok (.getfield 159, 3) := by decide +kernel
theorem dX9_part_39 : decode cX9_part 39 = .ok (.ifCond .eq 10, 3) := by decide +kernel
theorem dX9_part_42 : decode cX9_part 42 = .ok (.aload_n 0, 1) := by decide +kernel
theorem dX9_part_43 : decode cX9_part 43 = .ok (.getfield 180, 3) := by decide +kernel
theorem dX9_part_46 : decode cX9_part 46 = .ok (.ifCond .eq 18, 3) := by decide +kernel
theorem dX9_part_49 : decode cX9_part 49 = .ok (.aload_n 0, 1) := by decide +kernel
theorem dX9_part_50 : decode cX9_part 50 = .ok (.getfield 159, 3) := by decide +kernel
theorem dX9_part_53 : decode cX9_part 53 = .ok (.ifCond .ne 8, 3) := by decide +kernel
theorem dX9_part_56 : decode cX9_part 56 = .ok (.bipush (-2), 2) := by decide +kernel
theorem dX9_part_58 : decode cX9_part 58 = .ok (.goto 5, 3) := by decide +kernel
theorem dX9_part_61 : decode cX9_part 61 = .ok (.bipush (-3), 2) := by decide +kernel
theorem dX9_part_63 : decode cX9_part 63 = .ok (.ireturn, 1) := by decide +kernel
theorem dX9_part_64 : decode cX9_part 64 = .ok (.aload_n 0, 1) := by decide +kernel
theorem dX9_part_65 : decode cX9_part 65 = .ok (.getfield 177, 3) := by decide +kernel
theorem dX9_part_68 : decode cX9_part 68 = .ok (.ifCond .ne 7, 3) := by decide +kernel
theorem dX9_part_71 : decode cX9_part 71 = .ok (.iconst (-1), 1) := by decide +kernel
theorem dX9_part_72 : decode cX9_part 72 = .ok (.goto 9, 3) := by decide +kernel
theorem dX9_part_75 : decode cX9_part 75 = .ok (.aload_n 0, 1) := by decide +kernel
theorem dX9_part_76 : decode cX9_part 76 = .ok (.iload_n 1, 1) := by decide +kernel
theorem dX9_part_77 : decode cX9_part 77 = .ok (.iload_n 2, 1) := by decide +kernel
theorem dX9_part_78 : decode cX9_part 78 = .ok (.invokevirtual 238, 3) := by decide +kernel
theorem dX9_part_81 : decode cX9_part 81 = .ok (.ireturn, 1) := by decide +kernel
set_option maxRecDepth 20000 in
theorem ggX9_next_X9_isIn : GoodIn wsX9_next wsX9_isIn := goodIn_r _ [9] (by decide +kernel) (by decide +kernel)
set_option maxRecDepth 20000 in
theorem gX9_next_X9_isIn : GoodIn wsX9_next (va_wsS RX9 121 yX9_isIn wsX9_isIn) := goodIn_app (goodIn_of _ (by decide +kernel)) ggX9_next_X9_isIn
set_option maxRecDepth 20000 in
theorem ggX9_next_X9_rowsOf : GoodIn wsX9_next wsX9_rowsOf := goodIn_r _ [12] (by decide +kernel) (by decide +kernel)
set_option maxRecDepth 20000 in
theorem gX9_next_X9_rowsOf : GoodIn wsX9_next (va_wsS RX9 234 yX9_rowsOf wsX9_rowsOf) := goodIn_app (goodIn_of _ (by decide +kernel)) ggX9_next_X9_rowsOf
set_option maxRecDepth 20000 in
theorem ggX9_next_X9_partsOf : GoodIn wsX9_next wsX9_partsOf := goodIn_r _ [16, 5, 17, 18, 19, 20, 8, 21, 22, 23, 24, 25, 26, 27, 28, 29, 30, 31, 32, 33, 34, 35, 36, 37, 38, 39, 40, 41, 42, 43, 44, 45, 46, 47, 48, 49, 50, 51, 52, 53, 54, 55, 56, 57, 58, 59, 60, 61, 62, 63, 64, 65, 66, 67, 68, 69, 70, 71, 72, 73, 74, 75, 76, 77] (by decide +kernel) (by decide +kernel)
set_option maxRecDepth 20000 in
theorem gX9_next_X9_partsOf : GoodIn wsX9_next (wsV RX9 238 RX9 yX9_partsOf wsX9_partsOf) := goodIn_app (goodIn_of _ (by decide +kernel)) ggX9_next_X9_partsOf
theorem dX9_next_0 : decode cX9_next 0 = .ok (.aload_n 0, 1) := by decide +kernel
theorem dX9_next_1 : decode cX9_next 1 = .ok (.iconst 0, 1) := by decide +kernel
theorem dX9_next_2 : decode cX9_next 2 = .ok (.putfield 112, 3) := by decide +kernel
theorem dX9_next_5 : decode cX9_next 5 = .ok (.iload_n 1, 1) := by decide +kernel
theorem dX9_next_6 : decode cX9_next 6 = .ok (.i2l, 1) := by decide +kernel
theorem dX9_next_7 : decode cX9_next 7 = .ok (.lconst 1, 1) := by decide +kernel
theorem dX9_next_8 : decode cX9_next 8 = .ok (.ldc2_w 119, 3) := by decide +kernel
theorem dX9_next_11 : decode cX9_next 11 = .ok (.invokestatic 121, 3) := by decide +kernel
theorem dX9_next_14 : decode cX9_next 14 = .ok (.ifCond .ne 5, 3) := by decide +kernel
theorem dX9_next_17 : decode cX9_next 17 = .ok (.iconst (-1), 1) := by decide +kernel
theorem dX9_next_18 : decode cX9_next 18 = .ok (.ireturn, 1) := by decide +kernel
theorem dX9_next_19 : decode cX9_next 19 = .ok (.aload_n 0, 1) := by decide +kernel
theorem dX9_next_20 : decode cX9_next 20 = .ok (.getfield 159, 3) := by decide +kernel
theorem dX9_next_23 : decode cX9_next 23 = .ok (.ifCond .eq 10, 3) := by decide +kernel
theorem dX9_next_26 : decode cX9_next 26 = .ok (.aload_n 0, 1) := by decide +kernel
theorem dX9_next_27 : decode cX9_next 27 = .ok (.getfield 180, 3) := by decide +kernel
theorem dX9_next_30 : decode cX9_next 30 = .ok (.ifCond .eq 18, 3) := by decide +kernel
theorem dX9_next_33 : decode cX9_next 33 = .ok (.aload_n 0, 1) := by decide +kernel
theorem dX9_next_34 : decode cX9_next 34 = .ok (.getfield 159, 3) := by decide +kernel
theorem dX9_next_37 : decode cX9_next 37 = .ok (.ifCond .ne 8, 3) := by decide +kernel
theorem dX9_next_40 : decode cX9_next 40 = .ok (.bipush (-2), 2) := by decide +kernel
theorem dX9_next_42 : decode cX9_next 42 = .ok (.goto 5, 3) := by decide +kernel
theorem dX9_next_45 : decode cX9_next 45 = .ok (.bipush (-3), 2) := by decide +kernel
theorem dX9_next_47 : decode cX9_next 47 = .ok (.ireturn, 1) := by decide +kernel
theorem dX9_next_48 : decode cX9_next 48 = .ok (.aload_n 0, 1) := by decide +kernel
theorem dX9_next_49 : decode cX9_next 49 = .ok (.getfield 177, 3) := by decide +kernel
theorem dX9_next_52 : decode cX9_next 52 = .ok (.ifCond .ne 5, 3) := by decide +kernel
theorem dX9_next_55 : decode cX9_next 55 = .ok (.iconst (-1), 1) := by decide +kernel
theorem dX9_next_56 : decode cX9_next 56 = .ok (.ireturn, 1) := by decide +kernel
theorem dX9_next_57 : decode cX9_next 57 = .ok (.iconst 0, 1) := by decide +kernel
theorem dX9_next_58 : decode cX9_next 58 = .ok (.istore_n 2, 1) := by decide +kernel
theorem dX9_next_59 : decode cX9_next 59 = .ok (.iconst 0, 1) := by decide +kernel
theorem dX9_next_60 : decode cX9_next 60 = .ok (.istore_n 3, 1) := by decide +kernel
theorem dX9_next_61 : decode cX9_next 61 = .ok (.iconst 1, 1) := by decide +kernel
theorem dX9_next_62 : decode cX9_next 62 = .ok (.istore 4, 2) := by decide +kernel
theorem dX9_next_64 : decode cX9_next 64 = .ok (.iload 4, 2) := by decide +kernel
theorem dX9_next_66 : decode cX9_next 66 = .ok (.iload_n 1, 1) := by decide +kernel
theorem dX9_next_67 : decode cX9_next 67 = .ok (.if_icmp .gt 71, 3) := by decide +kernel
theorem dX9_next_70 : decode cX9_next 70 = .ok (.iconst 0, 1) := by decide +kernel
theorem dX9_next_71 : decode cX9_next 71 = .ok (.istore 5, 2) := by decide +kernel
theorem dX9_next_73 : decode cX9_next 73 = .ok (.iload 5, 2) := by decide +kernel
theorem dX9_next_75 : decode cX9_next 75 = .ok (.iload 4, 2) := by decide +kernel
theorem dX9_next_77 : decode cX9_next 77 = .ok (.invokestatic 234, 3) := by decide +kernel
theorem dX9_next_80 : decode cX9_next 80 = .ok (.if_icmp .ge 52, 3) := by decide +kernel
theorem dX9_next_83 : decode cX9_next 83 = .ok (.aload_n 0, 1) := by decide +kernel
theorem dX9_next_84 : decode cX9_next 84 = .ok (.iload 4, 2) := by decide +kernel
theorem dX9_next_86 : decode cX9_next 86 = .ok (.iload 5, 2) := by decide +kernel
theorem dX9_next_88 : decode cX9_next 88 = .ok (.invokevirtual 238, 3) := by decide +kernel
theorem dX9_next_91 : decode cX9_next 91 = .ok (.istore 6, 2) := by decide +kernel
theorem dX9_next_93 : decode cX9_next 93 = .ok (.iload 6, 2) := by decide +kernel
theorem dX9_next_95 : decode cX9_next 95 = .ok (.iload_n 3, 1) := by decide +kernel
theorem dX9_next_96 : decode cX9_next 96 = .ok (.if_icmp .le 15, 3) := by decide +kernel
theorem dX9_next_99 : decode cX9_next 99 = .ok (.sipush 200, 3) := by decide +kernel
theorem dX9_next_102 : decode cX9_next 102 = .ok (.iload 4, 2) := by decide +kernel
theorem dX9_next_104 : decode cX9_next 104 = .ok (.imul, 1) := by decide +kernel
theorem dX9_next_105 : decode cX9_next 105 = .ok (.iload 5, 2) := by decide +kernel
theorem dX9_next_107 : decode cX9_next 107 = .ok (.iadd, 1) := by decide +kernel
theorem dX9_next_108 : decode cX9_next 108 = .ok (.goto 4, 3) := by decide +kernel
theorem dX9_next_111 : decode cX9_next 111 = .ok (.iload_n 2, 1) := by decide +kernel
theorem dX9_next_112 : decode cX9_next 112 = .ok (.istore_n 2, 1) := by decide +kernel
theorem dX9_next_113 : decode cX9_next 113 = .ok (.iload 6, 2) := by decide +kernel
theorem dX9_next_115 : decode cX9_next 115 = .ok (.iload_n 3, 1) := by decide +kernel
theorem dX9_next_116 : decode cX9_next 116 = .ok (.if_icmp .le 8, 3) := by decide +kernel
theorem dX9_next_119 : decode cX9_next 119 = .ok (.iload 6, 2) := by decide +kernel
theorem dX9_next_121 : decode cX9_next 121 = .ok (.goto 4, 3) := by decide +kernel
theorem dX9_next_124 : decode cX9_next 124 = .ok (.iload_n 3, 1) := by decide +kernel
theorem dX9_next_125 : decode cX9_next 125 = .ok (.istore_n 3, 1) := by decide +kernel
theorem dX9_next_126 : decode cX9_next 126 = .ok (.iinc 5 1, 3) := by decide +kernel
theorem dX9_next_129 : decode cX9_next 129 = .ok (.goto (-56), 3) := by decide +kernel
theorem dX9_next_132 : decode cX9_next 132 = .ok (.iinc 4 1, 3) := by decide +kernel
theorem dX9_next_135 : decode cX9_next 135 = .ok (.goto (-71), 3) := by decide +kernel
theorem dX9_next_138 : decode cX9_next 138 = .ok (.iload_n 2, 1) := by decide +kernel
theorem dX9_next_139 : decode cX9_next 139 = .ok (.ireturn, 1) := by decide +kernel
set_option maxRecDepth 20000 in
theorem ggX9_distance_X9_measure : GoodIn wsX9_distance wsX9_measure := goodIn_r _ [6, 1, 7, 8, 9, 10, 11, 12, 13, 14, 15, 16, 17, 18, 19, 20, 21, 22, 23, 24, 25, 26, 27, 28, 29, 30, 31, 32, 33, 34, 35, 36, 37, 38, 39, 40, 41, 42, 43, 44, 45, 46, 47, 48, 49, 50, 51, 52, 53, 54, 55, 56, 57, 58, 59, 60] (by decide +kernel) (by decide +kernel)
set_option maxRecDepth 20000 in
theorem gX9_distance_X9_measure : GoodIn wsX9_distance (wsV RX9 228 RX9 yX9_measure wsX9_measure) := goodIn_app (goodIn_of _ (by decide +kernel)) ggX9_distance_X9_measure
theorem dX9_distance_0 : decode cX9_distance 0 = .ok (.aload_n 0, 1) := by decide +kernel
theorem dX9_distance_1 : decode cX9_distance 1 = .ok (.iload_n 1, 1) := by decide +kernel
theorem dX9_distance_2 : decode cX9_distance 2 = .ok (.iload_n 2, 1) := by decide +kernel
theorem dX9_distance_3 : decode cX9_distance 3 = .ok (.invokevirtual 228, 3) := by decide +kernel
theorem dX9_distance_6 : decode cX9_distance 6 = .ok (.aload_n 0, 1) := by decide +kernel
theorem dX9_distance_7 : decode cX9_distance 7 = .ok (.getfield 72, 3) := by decide +kernel
theorem dX9_distance_10 : decode cX9_distance 10 = .ok (.iload_n 3, 1) := by decide +kernel
theorem dX9_distance_11 : decode cX9_distance 11 = .ok (.iaload, 1) := by decide +kernel
theorem dX9_distance_12 : decode cX9_distance 12 = .ok (.ireturn, 1) := by decide +kernel
set_option maxRecDepth 20000 in
theorem ggX9_go_X9_isPlace : GoodIn wsX9_go wsX9_isPlace := goodIn_r _ [10, 11, 12, 13, 14, 9, 15, 16, 17, 27, 28, 29, 30, 31, 32, 33, 34, 35, 36, 37, 38, 39, 40, 41, 42, 43, 44, 45, 46, 47, 48, 49, 50, 51, 52, 53, 54, 55, 56, 57, 58, 59, 60, 61, 62, 63, 64, 65, 66, 67, 68, 69, 70, 71, 72, 73, 74, 75, 76, 77, 78] (by decide +kernel) (by decide +kernel)
set_option maxRecDepth 20000 in
theorem gX9_go_X9_isPlace : GoodIn wsX9_go (wsV RX9 223 RX9 yX9_isPlace wsX9_isPlace) := goodIn_app (goodIn_of _ (by decide +kernel)) ggX9_go_X9_isPlace
set_option maxRecDepth 20000 in
theorem ggX9_go_X9_distance : GoodIn wsX9_go wsX9_distance := goodIn_r _ [21, 22, 23, 24, 25, 9, 26, 11, 3, 27, 28, 29, 30, 31, 32, 33, 34, 35, 36, 37, 38, 39, 40, 41, 42, 43, 44, 45, 46, 47, 48, 49, 50, 51, 52, 53, 54, 55, 56, 57, 58, 59, 60, 61, 62, 63, 64, 65, 66, 67, 68, 69, 70, 71, 72, 73, 74, 75, 76, 77, 78] (by decide +kernel) (by decide +kernel)
set_option maxRecDepth 20000 in
theorem gX9_go_X9_distance : GoodIn wsX9_go (wsV RX9 242 RX9 yX9_distance wsX9_distance) := goodIn_app (goodIn_of _ (by decide +kernel)) ggX9_go_X9_distance
theorem dX9_go_0 : decode cX9_go 0 = .ok (.aload_n 0, 1) := by decide +kernel
theorem dX9_go_1 : decode cX9_go 1 = .ok (.iconst 0, 1) := by decide +kernel
theorem dX9_go_2 : decode cX9_go 2 = .ok (.putfield 112, 3) := by decide +kernel
theorem dX9_go_5 : decode cX9_go 5 = .ok (.aload_n 0, 1) := by decide +kernel
theorem dX9_go_6 : decode cX9_go 6 = .ok (.iload_n 1, 1) := by decide +kernel
theorem dX9_go_7 : decode cX9_go 7 = .ok (.iload_n 2, 1) := by decide +kernel
theorem dX9_go_8 : decode cX9_go 8 = .ok (.invokevirtual 223, 3) := by decide +kernel
theorem dX9_go_11 : decode cX9_go 11 = .ok (.ifCond .ne 5, 3) := by decide +kernel
theorem dX9_go_14 : decode cX9_go 14 = .ok (.iconst (-1), 1) := by decide +kernel
theorem dX9_go_15 : decode cX9_go 15 = .ok (.ireturn, 1) := by decide +kernel
theorem dX9_go_16 : decode cX9_go 16 = .ok (.aload_n 0, 1) := by decide +kernel
theorem dX9_go_17 : decode cX9_go 17 = .ok (.iload_n 1, 1) := by decide +kernel
theorem dX9_go_18 : decode cX9_go 18 = .ok (.aload_n 0, 1) := by decide +kernel
theorem dX9_go_19 : decode cX9_go 19 = .ok (.getfield 44, 3) := by decide +kernel
theorem dX9_go_22 : decode cX9_go 22 = .ok (.iload_n 1, 1) := by decide +kernel
theorem dX9_go_23 : decode cX9_go 23 = .ok (.iaload, 1) := by decide +kernel
theorem dX9_go_24 : decode cX9_go 24 = .ok (.iload_n 2, 1) := by decide +kernel
theorem dX9_go_25 : decode cX9_go 25 = .ok (.invokevirtual 242, 3) := by decide +kernel
theorem dX9_go_28 : decode cX9_go 28 = .ok (.istore_n 3, 1) := by decide +kernel
theorem dX9_go_29 : decode cX9_go 29 = .ok (.iload_n 3, 1) := by decide +kernel
theorem dX9_go_30 : decode cX9_go 30 = .ok (.ifCond .ge 6, 3) := by decide +kernel
theorem dX9_go_33 : decode cX9_go 33 = .ok (.bipush (-2), 2) := by decide +kernel
theorem dX9_go_35 : decode cX9_go 35 = .ok (.ireturn, 1) := by decide +kernel
theorem dX9_go_36 : decode cX9_go 36 = .ok (.aload_n 0, 1) := by decide +kernel
theorem dX9_go_37 : decode cX9_go 37 = .ok (.getfield 44, 3) := by decide +kernel
theorem dX9_go_40 : decode cX9_go 40 = .ok (.iload_n 1, 1) := by decide +kernel
theorem dX9_go_41 : decode cX9_go 41 = .ok (.iaload, 1) := by decide +kernel
theorem dX9_go_42 : decode cX9_go 42 = .ok (.istore 4, 2) := by decide +kernel
theorem dX9_go_44 : decode cX9_go 44 = .ok (.iconst 0, 1) := by decide +kernel
theorem dX9_go_45 : decode cX9_go 45 = .ok (.istore 5, 2) := by decide +kernel
theorem dX9_go_47 : decode cX9_go 47 = .ok (.iload 5, 2) := by decide +kernel
theorem dX9_go_49 : decode cX9_go 49 = .ok (.iload_n 3, 1) := by decide +kernel
theorem dX9_go_50 : decode cX9_go 50 = .ok (.if_icmp .ge 101, 3) := by decide +kernel
theorem dX9_go_53 : decode cX9_go 53 = .ok (.iload_n 3, 1) := by decide +kernel
theorem dX9_go_54 : decode cX9_go 54 = .ok (.iload 5, 2) := by decide +kernel
theorem dX9_go_56 : decode cX9_go 56 = .ok (.isub, 1) := by decide +kernel
theorem dX9_go_57 : decode cX9_go 57 = .ok (.iconst 1, 1) := by decide +kernel
theorem dX9_go_58 : decode cX9_go 58 = .ok (.isub, 1) := by decide +kernel
theorem dX9_go_59 : decode cX9_go 59 = .ok (.istore 6, 2) := by decide +kernel
theorem dX9_go_61 : decode cX9_go 61 = .ok (.iconst 4, 1) := by decide +kernel
theorem dX9_go_62 : decode cX9_go 62 = .ok (.istore 7, 2) := by decide +kernel
theorem dX9_go_64 : decode cX9_go 64 = .ok (.iload 7, 2) := by decide +kernel
theorem dX9_go_66 : decode cX9_go 66 = .ok (.ifCond .lt 55, 3) := by decide +kernel
theorem dX9_go_69 : decode cX9_go 69 = .ok (.aload_n 0, 1) := by decide +kernel
theorem dX9_go_70 : decode cX9_go 70 = .ok (.getfield 41, 3) := by decide +kernel
theorem dX9_go_73 : decode cX9_go 73 = .ok (.bipush 30, 2) := by decide +kernel
theorem dX9_go_75 : decode cX9_go 75 = .ok (.iload_n 1, 1) := by decide +kernel
theorem dX9_go_76 : decode cX9_go 76 = .ok (.imul, 1) := by decide +kernel
theorem dX9_go_77 : decode cX9_go 77 = .ok (.iconst 5, 1) := by decide +kernel
theorem dX9_go_78 : decode cX9_go 78 = .ok (.iload 4, 2) := by decide +kernel
theorem dX9_go_80 : decode cX9_go 80 = .ok (.imul, 1) := by decide +kernel
theorem dX9_go_81 : decode cX9_go 81 = .ok (.iadd, 1) := by decide +kernel
theorem dX9_go_82 : decode cX9_go 82 = .ok (.iload 7, 2) := by decide +kernel
theorem dX9_go_84 : decode cX9_go 84 = .ok (.iadd, 1) := by decide +kernel
theorem dX9_go_85 : decode cX9_go 85 = .ok (.iaload, 1) := by decide +kernel
theorem dX9_go_86 : decode cX9_go 86 = .ok (.istore 8, 2) := by decide +kernel
theorem dX9_go_88 : decode cX9_go 88 = .ok (.iload 8, 2) := by decide +kernel
theorem dX9_go_90 : decode cX9_go 90 = .ok (.ifCond .lt 25, 3) := by decide +kernel
theorem dX9_go_93 : decode cX9_go 93 = .ok (.aload_n 0, 1) := by decide +kernel
theorem dX9_go_94 : decode cX9_go 94 = .ok (.iload_n 1, 1) := by decide +kernel
theorem dX9_go_95 : decode cX9_go 95 = .ok (.iload 8, 2) := by decide +kernel
theorem dX9_go_97 : decode cX9_go 97 = .ok (.iload_n 2, 1) := by decide +kernel
theorem dX9_go_98 : decode cX9_go 98 = .ok (.invokevirtual 242, 3) := by decide +kernel
theorem dX9_go_101 : decode cX9_go 101 = .ok (.iload 6, 2) := by decide +kernel
theorem dX9_go_103 : decode cX9_go 103 = .ok (.if_icmp .ne 12, 3) := by decide +kernel
theorem dX9_go_106 : decode cX9_go 106 = .ok (.aload_n 0, 1) := by decide +kernel
theorem dX9_go_107 : decode cX9_go 107 = .ok (.getfield 78, 3) := by decide +kernel
theorem dX9_go_110 : decode cX9_go 110 = .ok (.iload 5, 2) := by decide +kernel
theorem dX9_go_112 : decode cX9_go 112 = .ok (.iload 7, 2) := by decide +kernel
theorem dX9_go_114 : decode cX9_go 114 = .ok (.iastore, 1) := by decide +kernel
theorem dX9_go_115 : decode cX9_go 115 = .ok (.iinc 7 (-1), 3) := by decide +kernel
theorem dX9_go_118 : decode cX9_go 118 = .ok (.goto (-54), 3) := by decide +kernel
theorem dX9_go_121 : decode cX9_go 121 = .ok (.aload_n 0, 1) := by decide +kernel
theorem dX9_go_122 : decode cX9_go 122 = .ok (.getfield 41, 3) := by decide +kernel
theorem dX9_go_125 : decode cX9_go 125 = .ok (.bipush 30, 2) := by decide +kernel
theorem dX9_go_127 : decode cX9_go 127 = .ok (.iload_n 1, 1) := by decide +kernel
theorem dX9_go_128 : decode cX9_go 128 = .ok (.imul, 1) := by decide +kernel
theorem dX9_go_129 : decode cX9_go 129 = .ok (.iconst 5, 1) := by decide +kernel
theorem dX9_go_130 : decode cX9_go 130 = .ok (.iload 4, 2) := by decide +kernel
theorem dX9_go_132 : decode cX9_go 132 = .ok (.imul, 1) := by decide +kernel
theorem dX9_go_133 : decode cX9_go 133 = .ok (.iadd, 1) := by decide +kernel
theorem dX9_go_134 : decode cX9_go 134 = .ok (.aload_n 0, 1) := by decide +kernel
theorem dX9_go_135 : decode cX9_go 135 = .ok (.getfield 78, 3) := by decide +kernel
theorem dX9_go_138 : decode cX9_go 138 = .ok (.iload 5, 2) := by decide +kernel
theorem dX9_go_140 : decode cX9_go 140 = .ok (.iaload, 1) := by decide +kernel
theorem dX9_go_141 : decode cX9_go 141 = .ok (.iadd, 1) := by decide +kernel
theorem dX9_go_142 : decode cX9_go 142 = .ok (.iaload, 1) := by decide +kernel
theorem dX9_go_143 : decode cX9_go 143 = .ok (.istore 4, 2) := by decide +kernel
theorem dX9_go_145 : decode cX9_go 145 = .ok (.iinc 5 1, 3) := by decide +kernel
theorem dX9_go_148 : decode cX9_go 148 = .ok (.goto (-101), 3) := by decide +kernel
theorem dX9_go_151 : decode cX9_go 151 = .ok (.aload_n 0, 1) := by decide +kernel
theorem dX9_go_152 : decode cX9_go 152 = .ok (.iload_n 3, 1) := by decide +kernel
theorem dX9_go_153 : decode cX9_go 153 = .ok (.putfield 246, 3) := by decide +kernel
theorem dX9_go_156 : decode cX9_go 156 = .ok (.iload_n 3, 1) := by decide +kernel
theorem dX9_go_157 : decode cX9_go 157 = .ok (.ireturn, 1) := by decide +kernel
theorem dX9_way_0 : decode cX9_way 0 = .ok (.aload_n 0, 1) := by decide +kernel
theorem dX9_way_1 : decode cX9_way 1 = .ok (.iconst 0, 1) := by decide +kernel
theorem dX9_way_2 : decode cX9_way 2 = .ok (.putfield 112, 3) := by decide +kernel
theorem dX9_way_5 : decode cX9_way 5 = .ok (.iload_n 1, 1) := by decide +kernel
theorem dX9_way_6 : decode cX9_way 6 = .ok (.ifCond .lt 11, 3) := by decide +kernel
theorem dX9_way_9 : decode cX9_way 9 = .ok (.iload_n 1, 1) := by decide +kernel
theorem dX9_way_10 : decode cX9_way 10 = .ok (.aload_n 0, 1) := by decide +kernel
theorem dX9_way_11 : decode cX9_way 11 = .ok (.getfield 246, 3) := by decide +kernel
theorem dX9_way_14 : decode cX9_way 14 = .ok (.if_icmp .lt 7, 3) := by decide +kernel
theorem dX9_way_17 : decode cX9_way 17 = .ok (.iconst (-1), 1) := by decide +kernel
theorem dX9_way_18 : decode cX9_way 18 = .ok (.goto 9, 3) := by decide +kernel
theorem dX9_way_21 : decode cX9_way 21 = .ok (.aload_n 0, 1) := by decide +kernel
theorem dX9_way_22 : decode cX9_way 22 = .ok (.getfield 78, 3) := by decide +kernel
theorem dX9_way_25 : decode cX9_way 25 = .ok (.iload_n 1, 1) := by decide +kernel
theorem dX9_way_26 : decode cX9_way 26 = .ok (.iaload, 1) := by decide +kernel
theorem dX9_way_27 : decode cX9_way 27 = .ok (.ireturn, 1) := by decide +kernel
set_option maxRecDepth 20000 in
theorem ggX9_hand_X9_isIn : GoodIn wsX9_hand wsX9_isIn := goodIn_r _ [10] (by decide +kernel) (by decide +kernel)
set_option maxRecDepth 20000 in
theorem gX9_hand_X9_isIn : GoodIn wsX9_hand (va_wsS RX9 121 yX9_isIn wsX9_isIn) := goodIn_app (goodIn_of _ (by decide +kernel)) ggX9_hand_X9_isIn
theorem dX9_hand_0 : decode cX9_hand 0 = .ok (.aload_n 0, 1) := by decide +kernel
theorem dX9_hand_1 : decode cX9_hand 1 = .ok (.iconst 0, 1) := by decide +kernel
theorem dX9_hand_2 : decode cX9_hand 2 = .ok (.putfield 112, 3) := by decide +kernel
theorem dX9_hand_5 : decode cX9_hand 5 = .ok (.iload_n 1, 1) := by decide +kernel
theorem dX9_hand_6 : decode cX9_hand 6 = .ok (.i2l, 1) := by decide +kernel
theorem dX9_hand_7 : decode cX9_hand 7 = .ok (.lconst 0, 1) := by decide +kernel
theorem dX9_hand_8 : decode cX9_hand 8 = .ok (.ldc2_w 129, 3) := by decide +kernel
theorem dX9_hand_11 : decode cX9_hand 11 = .ok (.invokestatic 121, 3) := by decide +kernel
theorem dX9_hand_14 : decode cX9_hand 14 = .ok (.ifCond .eq 27, 3) := by decide +kernel
theorem dX9_hand_17 : decode cX9_hand 17 = .ok (.iload_n 2, 1) := by decide +kernel
theorem dX9_hand_18 : decode cX9_hand 18 = .ok (.i2l, 1) := by decide +kernel
theorem dX9_hand_19 : decode cX9_hand 19 = .ok (.lconst 0, 1) := by decide +kernel
theorem dX9_hand_20 : decode cX9_hand 20 = .ok (.ldc2_w 119, 3) := by decide +kernel
theorem dX9_hand_23 : decode cX9_hand 23 = .ok (.invokestatic 121, 3) := by decide +kernel
theorem dX9_hand_26 : decode cX9_hand 26 = .ok (.ifCond .eq 15, 3) := by decide +kernel
theorem dX9_hand_29 : decode cX9_hand 29 = .ok (.iload_n 3, 1) := by decide +kernel
theorem dX9_hand_30 : decode cX9_hand 30 = .ok (.i2l, 1) := by decide +kernel
theorem dX9_hand_31 : decode cX9_hand 31 = .ok (.lconst 0, 1) := by decide +kernel
theorem dX9_hand_32 : decode cX9_hand 32 = .ok (.ldc2_w 249, 3) := by decide +kernel
theorem dX9_hand_35 : decode cX9_hand 35 = .ok (.invokestatic 121, 3) := by decide +kernel
theorem dX9_hand_38 : decode cX9_hand 38 = .ok (.ifCond .ne 5, 3) := by decide +kernel
theorem dX9_hand_41 : decode cX9_hand 41 = .ok (.iconst (-1), 1) := by decide +kernel
theorem dX9_hand_42 : decode cX9_hand 42 = .ok (.ireturn, 1) := by decide +kernel
theorem dX9_hand_43 : decode cX9_hand 43 = .ok (.aload_n 0, 1) := by decide +kernel
theorem dX9_hand_44 : decode cX9_hand 44 = .ok (.getfield 81, 3) := by decide +kernel
theorem dX9_hand_47 : decode cX9_hand 47 = .ok (.iload_n 1, 1) := by decide +kernel
theorem dX9_hand_48 : decode cX9_hand 48 = .ok (.iload_n 2, 1) := by decide +kernel
theorem dX9_hand_49 : decode cX9_hand 49 = .ok (.iastore, 1) := by decide +kernel
theorem dX9_hand_50 : decode cX9_hand 50 = .ok (.iload_n 3, 1) := by decide +kernel
theorem dX9_hand_51 : decode cX9_hand 51 = .ok (.istore 4, 2) := by decide +kernel
theorem dX9_hand_53 : decode cX9_hand 53 = .ok (.iconst 0, 1) := by decide +kernel
theorem dX9_hand_54 : decode cX9_hand 54 = .ok (.istore 5, 2) := by decide +kernel
theorem dX9_hand_56 : decode cX9_hand 56 = .ok (.iload 5, 2) := by decide +kernel
theorem dX9_hand_58 : decode cX9_hand 58 = .ok (.iconst 5, 1) := by decide +kernel
theorem dX9_hand_59 : decode cX9_hand 59 = .ok (.if_icmp .ge 32, 3) := by decide +kernel
theorem dX9_hand_62 : decode cX9_hand 62 = .ok (.aload_n 0, 1) := by decide +kernel
theorem dX9_hand_63 : decode cX9_hand 63 = .ok (.getfield 84, 3) := by decide +kernel
theorem dX9_hand_66 : decode cX9_hand 66 = .ok (.iconst 5, 1) := by decide +kernel
theorem dX9_hand_67 : decode cX9_hand 67 = .ok (.iload_n 1, 1) := by decide +kernel
theorem dX9_hand_68 : decode cX9_hand 68 = .ok (.imul, 1) := by decide +kernel
theorem dX9_hand_69 : decode cX9_hand 69 = .ok (.iload 5, 2) := by decide +kernel
theorem dX9_hand_71 : decode cX9_hand 71 = .ok (.iadd, 1) := by decide +kernel
theorem dX9_hand_72 : decode cX9_hand 72 = .ok (.iload 4, 2) := by decide +kernel
theorem dX9_hand_74 : decode cX9_hand 74 = .ok (.bipush 8, 2) := by decide +kernel
theorem dX9_hand_76 : decode cX9_hand 76 = .ok (.irem, 1) := by decide +kernel
theorem dX9_hand_77 : decode cX9_hand 77 = .ok (.iastore, 1) := by decide +kernel
theorem dX9_hand_78 : decode cX9_hand 78 = .ok (.iload 4, 2) := by decide +kernel
theorem dX9_hand_80 : decode cX9_hand 80 = .ok (.bipush 8, 2) := by decide +kernel
theorem dX9_hand_82 : decode cX9_hand 82 = .ok (.idiv, 1) := by decide +kernel
theorem dX9_hand_83 : decode cX9_hand 83 = .ok (.istore 4, 2) := by decide +kernel
theorem dX9_hand_85 : decode cX9_hand 85 = .ok (.iinc 5 1, 3) := by decide +kernel
theorem dX9_hand_88 : decode cX9_hand 88 = .ok (.goto (-32), 3) := by decide +kernel
theorem dX9_hand_91 : decode cX9_hand 91 = .ok (.iconst 0, 1) := by decide +kernel
theorem dX9_hand_92 : decode cX9_hand 92 = .ok (.ireturn, 1) := by decide +kernel
theorem dX9_fits__0 : decode cX9_fits_ 0 = .ok (.aload_n 0, 1) := by decide +kernel
theorem dX9_fits__1 : decode cX9_fits_ 1 = .ok (.iconst 0, 1) := by decide +kernel
theorem dX9_fits__2 : decode cX9_fits_ 2 = .ok (.putfield 112, 3) := by decide +kernel
theorem dX9_fits__5 : decode cX9_fits_ 5 = .ok (.aload_n 0, 1) := by decide +kernel
theorem dX9_fits__6 : decode cX9_fits_ 6 = .ok (.getfield 159, 3) := by decide +kernel
theorem dX9_fits__9 : decode cX9_fits_ 9 = .ok (.ifCond .ne 6, 3) := by decide +kernel
theorem dX9_fits__12 : decode cX9_fits_ 12 = .ok (.bipush (-2), 2) := by decide +kernel
theorem dX9_fits__14 : decode cX9_fits_ 14 = .ok (.ireturn, 1) := by decide +kernel
theorem dX9_fits__15 : decode cX9_fits_ 15 = .ok (.aload_n 0, 1) := by decide +kernel
theorem dX9_fits__16 : decode cX9_fits_ 16 = .ok (.getfield 81, 3) := by decide +kernel
theorem dX9_fits__19 : decode cX9_fits_ 19 = .ok (.iconst 0, 1) := by decide +kernel
theorem dX9_fits__20 : decode cX9_fits_ 20 = .ok (.iaload, 1) := by decide +kernel
theorem dX9_fits__21 : decode cX9_fits_ 21 = .ok (.aload_n 0, 1) := by decide +kernel
theorem dX9_fits__22 : decode cX9_fits_ 22 = .ok (.getfield 171, 3) := by decide +kernel
theorem dX9_fits__25 : decode cX9_fits_ 25 = .ok (.if_icmp .eq 6, 3) := by decide +kernel
theorem dX9_fits__28 : decode cX9_fits_ 28 = .ok (.bipush (-4), 2) := by decide +kernel
theorem dX9_fits__30 : decode cX9_fits_ 30 = .ok (.ireturn, 1) := by decide +kernel
theorem dX9_fits__31 : decode cX9_fits_ 31 = .ok (.iconst 0, 1) := by decide +kernel
theorem dX9_fits__32 : decode cX9_fits_ 32 = .ok (.istore_n 1, 1) := by decide +kernel
theorem dX9_fits__33 : decode cX9_fits_ 33 = .ok (.bipush (-2), 2) := by decide +kernel
theorem dX9_fits__35 : decode cX9_fits_ 35 = .ok (.istore_n 2, 1) := by decide +kernel
theorem dX9_fits__36 : decode cX9_fits_ 36 = .ok (.iconst 0, 1) := by decide +kernel
theorem dX9_fits__37 : decode cX9_fits_ 37 = .ok (.istore_n 3, 1) := by decide +kernel
theorem dX9_fits__38 : decode cX9_fits_ 38 = .ok (.iload_n 3, 1) := by decide +kernel
theorem dX9_fits__39 : decode cX9_fits_ 39 = .ok (.aload_n 0, 1) := by decide +kernel
theorem dX9_fits__40 : decode cX9_fits_ 40 = .ok (.getfield 168, 3) := by decide +kernel
theorem dX9_fits__43 : decode cX9_fits_ 43 = .ok (.if_icmp .ge 164, 3) := by decide +kernel
theorem dX9_fits__46 : decode cX9_fits_ 46 = .ok (.aload_n 0, 1) := by decide +kernel
theorem dX9_fits__47 : decode cX9_fits_ 47 = .ok (.getfield 23, 3) := by decide +kernel
theorem dX9_fits__50 : decode cX9_fits_ 50 = .ok (.iload_n 3, 1) := by decide +kernel
theorem dX9_fits__51 : decode cX9_fits_ 51 = .ok (.iaload, 1) := by decide +kernel
theorem dX9_fits__52 : decode cX9_fits_ 52 = .ok (.istore 4, 2) := by decide +kernel
theorem dX9_fits__54 : decode cX9_fits_ 54 = .ok (.iconst 0, 1) := by decide +kernel
theorem dX9_fits__55 : decode cX9_fits_ 55 = .ok (.istore 5, 2) := by decide +kernel
theorem dX9_fits__57 : decode cX9_fits_ 57 = .ok (.iload 4, 2) := by decide +kernel
theorem dX9_fits__59 : decode cX9_fits_ 59 = .ok (.iconst 5, 1) := by decide +kernel
theorem dX9_fits__60 : decode cX9_fits_ 60 = .ok (.if_icmp .ne 26, 3) := by decide +kernel
theorem dX9_fits__63 : decode cX9_fits_ 63 = .ok (.iload_n 2, 1) := by decide +kernel
theorem dX9_fits__64 : decode cX9_fits_ 64 = .ok (.ifCond .ge 7, 3) := by decide +kernel
theorem dX9_fits__67 : decode cX9_fits_ 67 = .ok (.iload_n 1, 1) := by decide +kernel
theorem dX9_fits__68 : decode cX9_fits_ 68 = .ok (.goto 14, 3) := by decide +kernel
theorem dX9_fits__71 : decode cX9_fits_ 71 = .ok (.iload_n 2, 1) := by decide +kernel
theorem dX9_fits__72 : decode cX9_fits_ 72 = .ok (.iload_n 1, 1) := by decide +kernel
theorem dX9_fits__73 : decode cX9_fits_ 73 = .ok (.if_icmp .ne 8, 3) := by decide +kernel
theorem dX9_fits__76 : decode cX9_fits_ 76 = .ok (.bipush (-2), 2) := by decide +kernel
theorem dX9_fits__78 : decode cX9_fits_ 78 = .ok (.goto 4, 3) := by decide +kernel
theorem dX9_fits__81 : decode cX9_fits_ 81 = .ok (.iload_n 2, 1) := by decide +kernel
theorem dX9_fits__82 : decode cX9_fits_ 82 = .ok (.istore_n 2, 1) := by decide +kernel
theorem dX9_fits__83 : decode cX9_fits_ 83 = .ok (.goto 61, 3) := by decide +kernel
theorem dX9_fits__86 : decode cX9_fits_ 86 = .ok (.aload_n 0, 1) := by decide +kernel
theorem dX9_fits__87 : decode cX9_fits_ 87 = .ok (.getfield 84, 3) := by decide +kernel
theorem dX9_fits__90 : decode cX9_fits_ 90 = .ok (.iconst 5, 1) := by decide +kernel
theorem dX9_fits__91 : decode cX9_fits_ 91 = .ok (.iload_n 1, 1) := by decide +kernel
theorem dX9_fits__92 : decode cX9_fits_ 92 = .ok (.imul, 1) := by decide +kernel
theorem dX9_fits__93 : decode cX9_fits_ 93 = .ok (.iload 4, 2) := by decide +kernel
theorem dX9_fits__95 : decode cX9_fits_ 95 = .ok (.iadd, 1) := by decide +kernel
theorem dX9_fits__96 : decode cX9_fits_ 96 = .ok (.iaload, 1) := by decide +kernel
theorem dX9_fits__97 : decode cX9_fits_ 97 = .ok (.istore 6, 2) := by decide +kernel
theorem dX9_fits__99 : decode cX9_fits_ 99 = .ok (.iload 6, 2) := by decide +kernel
theorem dX9_fits__101 : decode cX9_fits_ 101 = .ok (.bipush 7, 2) := by decide +kernel
theorem dX9_fits__103 : decode cX9_fits_ 103 = .ok (.if_icmp .ne 7, 3) := by decide +kernel
theorem dX9_fits__106 : decode cX9_fits_ 106 = .ok (.iload_n 3, 1) := by decide +kernel
theorem dX9_fits__107 : decode cX9_fits_ 107 = .ok (.iconst 1, 1) := by decide +kernel
theorem dX9_fits__108 : decode cX9_fits_ 108 = .ok (.iadd, 1) := by decide +kernel
theorem dX9_fits__109 : decode cX9_fits_ 109 = .ok (.ireturn, 1) := by decide +kernel
theorem dX9_fits__110 : decode cX9_fits_ 110 = .ok (.iload 6, 2) := by decide +kernel
theorem dX9_fits__112 : decode cX9_fits_ 112 = .ok (.bipush 6, 2) := by decide +kernel
theorem dX9_fits__114 : decode cX9_fits_ 114 = .ok (.if_icmp .ne 13, 3) := by decide +kernel
theorem dX9_fits__117 : decode cX9_fits_ 117 = .ok (.iload 4, 2) := by decide +kernel
theorem dX9_fits__119 : decode cX9_fits_ 119 = .ok (.iconst 4, 1) := by decide +kernel
theorem dX9_fits__120 : decode cX9_fits_ 120 = .ok (.if_icmp .ge 7, 3) := by decide +kernel
theorem dX9_fits__123 : decode cX9_fits_ 123 = .ok (.iconst 1, 1) := by decide +kernel
theorem dX9_fits__124 : decode cX9_fits_ 124 = .ok (.goto 4, 3) := by decide +kernel
theorem dX9_fits__127 : decode cX9_fits_ 127 = .ok (.iconst 0, 1) := by decide +kernel
theorem dX9_fits__128 : decode cX9_fits_ 128 = .ok (.istore 5, 2) := by decide +kernel
theorem dX9_fits__130 : decode cX9_fits_ 130 = .ok (.iload 6, 2) := by decide +kernel
theorem dX9_fits__132 : decode cX9_fits_ 132 = .ok (.bipush 6, 2) := by decide +kernel
theorem dX9_fits__134 : decode cX9_fits_ 134 = .ok (.if_icmp .ne 7, 3) := by decide +kernel
theorem dX9_fits__137 : decode cX9_fits_ 137 = .ok (.iload_n 1, 1) := by decide +kernel
theorem dX9_fits__138 : decode cX9_fits_ 138 = .ok (.goto 5, 3) := by decide +kernel
theorem dX9_fits__141 : decode cX9_fits_ 141 = .ok (.iload 6, 2) := by decide +kernel
theorem dX9_fits__143 : decode cX9_fits_ 143 = .ok (.istore_n 1, 1) := by decide +kernel
theorem dX9_fits__144 : decode cX9_fits_ 144 = .ok (.iload 5, 2) := by decide +kernel
theorem dX9_fits__146 : decode cX9_fits_ 146 = .ok (.ifCond .eq 7, 3) := by decide +kernel
theorem dX9_fits__149 : decode cX9_fits_ 149 = .ok (.iconst 1, 1) := by decide +kernel
theorem dX9_fits__150 : decode cX9_fits_ 150 = .ok (.goto 4, 3) := by decide +kernel
theorem dX9_fits__153 : decode cX9_fits_ 153 = .ok (.iconst 0, 1) := by decide +kernel
theorem dX9_fits__154 : decode cX9_fits_ 154 = .ok (.aload_n 0, 1) := by decide +kernel
theorem dX9_fits__155 : decode cX9_fits_ 155 = .ok (.getfield 26, 3) := by decide +kernel
theorem dX9_fits__158 : decode cX9_fits_ 158 = .ok (.iload_n 3, 1) := by decide +kernel
theorem dX9_fits__159 : decode cX9_fits_ 159 = .ok (.iaload, 1) := by decide +kernel
theorem dX9_fits__160 : decode cX9_fits_ 160 = .ok (.if_icmp .ne 37, 3) := by decide +kernel
theorem dX9_fits__163 : decode cX9_fits_ 163 = .ok (.aload_n 0, 1) := by decide +kernel
theorem dX9_fits__164 : decode cX9_fits_ 164 = .ok (.getfield 81, 3) := by decide +kernel
theorem dX9_fits__167 : decode cX9_fits_ 167 = .ok (.iload_n 1, 1) := by decide +kernel
theorem dX9_fits__168 : decode cX9_fits_ 168 = .ok (.iaload, 1) := by decide +kernel
theorem dX9_fits__169 : decode cX9_fits_ 169 = .ok (.aload_n 0, 1) := by decide +kernel
theorem dX9_fits__170 : decode cX9_fits_ 170 = .ok (.getfield 29, 3) := by decide +kernel
theorem dX9_fits__173 : decode cX9_fits_ 173 = .ok (.iload_n 3, 1) := by decide +kernel
theorem dX9_fits__174 : decode cX9_fits_ 174 = .ok (.iaload, 1) := by decide +kernel
theorem dX9_fits__175 : decode cX9_fits_ 175 = .ok (.if_icmp .ne 22, 3) := by decide +kernel
theorem dX9_fits__178 : decode cX9_fits_ 178 = .ok (.iload_n 2, 1) := by decide +kernel
theorem dX9_fits__179 : decode cX9_fits_ 179 = .ok (.iload_n 1, 1) := by decide +kernel
theorem dX9_fits__180 : decode cX9_fits_ 180 = .ok (.if_icmp .ne 7, 3) := by decide +kernel
theorem dX9_fits__183 : decode cX9_fits_ 183 = .ok (.iconst 1, 1) := by decide +kernel
theorem dX9_fits__184 : decode cX9_fits_ 184 = .ok (.goto 4, 3) := by decide +kernel
theorem dX9_fits__187 : decode cX9_fits_ 187 = .ok (.iconst 0, 1) := by decide +kernel
theorem dX9_fits__188 : decode cX9_fits_ 188 = .ok (.aload_n 0, 1) := by decide +kernel
theorem dX9_fits__189 : decode cX9_fits_ 189 = .ok (.getfield 32, 3) := by decide +kernel
theorem dX9_fits__192 : decode cX9_fits_ 192 = .ok (.iload_n 3, 1) := by decide +kernel
theorem dX9_fits__193 : decode cX9_fits_ 193 = .ok (.iaload, 1) := by decide +kernel
theorem dX9_fits__194 : decode cX9_fits_ 194 = .ok (.if_icmp .eq 7, 3) := by decide +kernel
theorem dX9_fits__197 : decode cX9_fits_ 197 = .ok (.iload_n 3, 1) := by decide +kernel
theorem dX9_fits__198 : decode cX9_fits_ 198 = .ok (.iconst 1, 1) := by decide +kernel
theorem dX9_fits__199 : decode cX9_fits_ 199 = .ok (.iadd, 1) := by decide +kernel
theorem dX9_fits__200 : decode cX9_fits_ 200 = .ok (.ireturn, 1) := by decide +kernel
theorem dX9_fits__201 : decode cX9_fits_ 201 = .ok (.iinc 3 1, 3) := by decide +kernel
theorem dX9_fits__204 : decode cX9_fits_ 204 = .ok (.goto (-166), 3) := by decide +kernel
theorem dX9_fits__207 : decode cX9_fits_ 207 = .ok (.iconst 0, 1) := by decide +kernel
theorem dX9_fits__208 : decode cX9_fits_ 208 = .ok (.ireturn, 1) := by decide +kernel
theorem dX9_standing_0 : decode cX9_standing 0 = .ok (.bipush 8, 2) := by decide +kernel
theorem dX9_standing_2 : decode cX9_standing 2 = .ok (.aload_n 0, 1) := by decide +kernel
theorem dX9_standing_3 : decode cX9_standing 3 = .ok (.getfield 131, 3) := by decide +kernel
theorem dX9_standing_6 : decode cX9_standing 6 = .ok (.imul, 1) := by decide +kernel
theorem dX9_standing_7 : decode cX9_standing 7 = .ok (.iconst 2, 1) := by decide +kernel
theorem dX9_standing_8 : decode cX9_standing 8 = .ok (.aload_n 0, 1) := by decide +kernel
theorem dX9_standing_9 : decode cX9_standing 9 = .ok (.getfield 141, 3) := by decide +kernel
theorem dX9_standing_12 : decode cX9_standing 12 = .ok (.imul, 1) := by decide +kernel
theorem dX9_standing_13 : decode cX9_standing 13 = .ok (.iadd, 1) := by decide +kernel
theorem dX9_standing_14 : decode cX9_standing 14 = .ok (.aload_n 0, 1) := by decide +kernel
theorem dX9_standing_15 : decode cX9_standing 15 = .ok (.getfield 138, 3) := by decide +kernel
theorem dX9_standing_18 : decode cX9_standing 18 = .ok (.ifCond .eq 7, 3) := by decide +kernel
theorem dX9_standing_21 : decode cX9_standing 21 = .ok (.iconst 1, 1) := by decide +kernel
theorem dX9_standing_22 : decode cX9_standing 22 = .ok (.goto 4, 3) := by decide +kernel
theorem dX9_standing_25 : decode cX9_standing 25 = .ok (.iconst 0, 1) := by decide +kernel
theorem dX9_standing_26 : decode cX9_standing 26 = .ok (.iadd, 1) := by decide +kernel
theorem dX9_standing_27 : decode cX9_standing 27 = .ok (.ireturn, 1) := by decide +kernel
theorem dX9_standAt_0 : decode cX9_standAt 0 = .ok (.aload_n 0, 1) := by decide +kernel
theorem dX9_standAt_1 : decode cX9_standAt 1 = .ok (.iload_n 1, 1) := by decide +kernel
theorem dX9_standAt_2 : decode cX9_standAt 2 = .ok (.bipush 8, 2) := by decide +kernel
theorem dX9_standAt_4 : decode cX9_standAt 4 = .ok (.idiv, 1) := by decide +kernel
theorem dX9_standAt_5 : decode cX9_standAt 5 = .ok (.putfield 131, 3) := by decide +kernel
theorem dX9_standAt_8 : decode cX9_standAt 8 = .ok (.aload_n 0, 1) := by decide +kernel
theorem dX9_standAt_9 : decode cX9_standAt 9 = .ok (.iload_n 1, 1) := by decide +kernel
theorem dX9_standAt_10 : decode cX9_standAt 10 = .ok (.iconst 2, 1) := by decide +kernel
theorem dX9_standAt_11 : decode cX9_standAt 11 = .ok (.idiv, 1) := by decide +kernel
theorem dX9_standAt_12 : decode cX9_standAt 12 = .ok (.iconst 4, 1) := by decide +kernel
theorem dX9_standAt_13 : decode cX9_standAt 13 = .ok (.irem, 1) := by decide +kernel
theorem dX9_standAt_14 : decode cX9_standAt 14 = .ok (.putfield 141, 3) := by decide +kernel
theorem dX9_standAt_17 : decode cX9_standAt 17 = .ok (.aload_n 0, 1) := by decide +kernel
theorem dX9_standAt_18 : decode cX9_standAt 18 = .ok (.iload_n 1, 1) := by decide +kernel
theorem dX9_standAt_19 : decode cX9_standAt 19 = .ok (.iconst 2, 1) := by decide +kernel
theorem dX9_standAt_20 : decode cX9_standAt 20 = .ok (.irem, 1) := by decide +kernel
theorem dX9_standAt_21 : decode cX9_standAt 21 = .ok (.iconst 1, 1) := by decide +kernel
theorem dX9_standAt_22 : decode cX9_standAt 22 = .ok (.if_icmp .ne 7, 3) := by decide +kernel
theorem dX9_standAt_25 : decode cX9_standAt 25 = .ok (.iconst 1, 1) := by decide +kernel
theorem dX9_standAt_26 : decode cX9_standAt 26 = .ok (.goto 4, 3) := by decide +kernel
theorem dX9_standAt_29 : decode cX9_standAt 29 = .ok (.iconst 0, 1) := by decide +kernel
theorem dX9_standAt_30 : decode cX9_standAt 30 = .ok (.putfield 138, 3) := by decide +kernel
theorem dX9_standAt_33 : decode cX9_standAt 33 = .ok (.return_, 1) := by decide +kernel
set_option maxRecDepth 20000 in
theorem ggX9_isTrue_X9_isSheet : GoodIn wsX9_isTrue wsX9_isSheet := goodIn_r _ [13, 14, 15, 44, 45, 46, 47, 48, 49, 50, 51, 52, 53, 54, 55, 56, 57, 58, 59, 60, 61, 62, 63, 64, 65, 66, 67, 68, 69, 70, 71, 72, 73, 74, 75, 76, 77, 78, 79, 80, 81, 82, 83, 84, 85, 86, 87, 88, 89, 90, 91, 92, 93, 94, 95] (by decide +kernel) (by decide +kernel)
set_option maxRecDepth 20000 in
theorem gX9_isTrue_X9_isSheet : GoodIn wsX9_isTrue (wsV RX9 220 RX9 yX9_isSheet wsX9_isSheet) := goodIn_app (goodIn_of _ (by decide +kernel)) ggX9_isTrue_X9_isSheet
set_option maxRecDepth 20000 in
theorem ggX9_isTrue_X9_stand : GoodIn wsX9_isTrue wsX9_stand := goodIn_r _ [19, 20, 4, 21, 22, 23, 24, 44, 45, 46, 47, 48, 49, 50, 51, 52, 53, 54, 55, 56, 57, 58, 59, 60, 61, 62, 63, 64, 65, 66, 67, 68, 69, 70, 71, 72, 73, 74, 75, 76, 77, 78, 79, 80, 81, 82, 83, 84, 85, 86, 87, 88, 89, 90, 91, 92, 93, 94, 95] (by decide +kernel) (by decide +kernel)
set_option maxRecDepth 20000 in
theorem gX9_isTrue_X9_stand : GoodIn wsX9_isTrue (wsV RX9 205 RX9 yX9_stand wsX9_stand) := goodIn_app (goodIn_of _ (by decide +kernel)) ggX9_isTrue_X9_stand
set_option maxRecDepth 20000 in
theorem ggX9_isTrue_X9_standing : GoodIn wsX9_isTrue wsX9_standing := goodIn_r _ [28, 4, 22, 24, 44, 45, 46, 47, 48, 49, 50, 51, 52, 53, 54, 55, 56, 57, 58, 59, 60, 61, 62, 63, 64, 65, 66, 67, 68, 69, 70, 71, 72, 73, 74, 75, 76, 77, 78, 79, 80, 81, 82, 83, 84, 85, 86, 87, 88, 89, 90, 91, 92, 93, 94, 95] (by decide +kernel) (by decide +kernel)
set_option maxRecDepth 20000 in
theorem gX9_isTrue_X9_standing : GoodIn wsX9_isTrue (wsV RX9 251 RX9 yX9_standing wsX9_standing) := goodIn_app (goodIn_of _ (by decide +kernel)) ggX9_isTrue_X9_standing
set_option maxRecDepth 20000 in
theorem ggX9_isTrue_X9_standAt : GoodIn wsX9_isTrue wsX9_standAt := goodIn_r _ [32, 4, 22, 24, 44, 45, 46, 47, 48, 49, 50, 51, 52, 53, 54, 55, 56, 57, 58, 59, 60, 61, 62, 63, 64, 65, 66, 67, 68, 69, 70, 71, 72, 73, 74, 75, 76, 77, 78, 79, 80, 81, 82, 83, 84, 85, 86, 87, 88, 89, 90, 91, 92, 93, 94, 95] (by decide +kernel) (by decide +kernel)
set_option maxRecDepth 20000 in
theorem gX9_isTrue_X9_standAt : GoodIn wsX9_isTrue (wsV RX9 255 RX9 yX9_standAt wsX9_standAt) := goodIn_app (goodIn_of _ (by decide +kernel)) ggX9_isTrue_X9_standAt
set_option maxRecDepth 20000 in
theorem ggX9_isTrue_X9_step : GoodIn wsX9_isTrue wsX9_step := goodIn_r _ [36, 8, 24, 37, 4, 22, 38, 39, 40, 41, 42, 12, 43, 44, 45, 46, 47, 48, 49, 50, 51, 52, 53, 54, 55, 56, 57, 58, 59, 60, 61, 62, 63, 64, 65, 66, 67, 68, 69, 70, 71, 72, 73, 74, 75, 76, 77, 78, 79, 80, 81, 82, 83, 84, 85, 86, 87, 88, 89, 90, 91, 92, 93, 94, 95] (by decide +kernel) (by decide +kernel)
set_option maxRecDepth 20000 in
theorem gX9_isTrue_X9_step : GoodIn wsX9_isTrue (wsV RX9 208 RX9 yX9_step wsX9_step) := goodIn_app (goodIn_of _ (by decide +kernel)) ggX9_isTrue_X9_step
theorem dX9_isTrue_0 : decode cX9_isTrue 0 = .ok (.aload_n 0, 1) := by decide +kernel
theorem dX9_isTrue_1 : decode cX9_isTrue 1 = .ok (.iconst 0, 1) := by decide +kernel
theorem dX9_isTrue_2 : decode cX9_isTrue 2 = .ok (.putfield 112, 3) := by decide +kernel
theorem dX9_isTrue_5 : decode cX9_isTrue 5 = .ok (.aload_n 0, 1) := by decide +kernel
theorem dX9_isTrue_6 : decode cX9_isTrue 6 = .ok (.iload_n 1, 1) := by decide +kernel
theorem dX9_isTrue_7 : decode cX9_isTrue 7 = .ok (.invokevirtual 220, 3) := by decide +kernel
theorem dX9_isTrue_10 : decode cX9_isTrue 10 = .ok (.ifCond .ne 5, 3) := by decide +kernel
theorem dX9_isTrue_13 : decode cX9_isTrue 13 = .ok (.iconst (-1), 1) := by decide +kernel
theorem dX9_isTrue_14 : decode cX9_isTrue 14 = .ok (.ireturn, 1) := by decide +kernel
theorem dX9_isTrue_15 : decode cX9_isTrue 15 = .ok (.iconst 0, 1) := by decide +kernel
theorem dX9_isTrue_16 : decode cX9_isTrue 16 = .ok (.istore_n 2, 1) := by decide +kernel
theorem dX9_isTrue_17 : decode cX9_isTrue 17 = .ok (.iload_n 2, 1) := by decide +kernel
theorem dX9_isTrue_18 : decode cX9_isTrue 18 = .ok (.sipush 480, 3) := by decide +kernel
theorem dX9_isTrue_21 : decode cX9_isTrue 21 = .ok (.if_icmp .ge 16, 3) := by decide +kernel
theorem dX9_isTrue_24 : decode cX9_isTrue 24 = .ok (.aload_n 0, 1) := by decide +kernel
theorem dX9_isTrue_25 : decode cX9_isTrue 25 = .ok (.getfield 87, 3) := by decide +kernel
theorem dX9_isTrue_28 : decode cX9_isTrue 28 = .ok (.iload_n 2, 1) := by decide +kernel
theorem dX9_isTrue_29 : decode cX9_isTrue 29 = .ok (.iconst 0, 1) := by decide +kernel
theorem dX9_isTrue_30 : decode cX9_isTrue 30 = .ok (.bastore, 1) := by decide +kernel
theorem dX9_isTrue_31 : decode cX9_isTrue 31 = .ok (.iinc 2 1, 3) := by decide +kernel
theorem dX9_isTrue_34 : decode cX9_isTrue 34 = .ok (.goto (-17), 3) := by decide +kernel
theorem dX9_isTrue_37 : decode cX9_isTrue 37 = .ok (.aload_n 0, 1) := by decide +kernel
theorem dX9_isTrue_38 : decode cX9_isTrue 38 = .ok (.invokevirtual 205, 3) := by decide +kernel
theorem dX9_isTrue_41 : decode cX9_isTrue 41 = .ok (.aload_n 0, 1) := by decide +kernel
theorem dX9_isTrue_42 : decode cX9_isTrue 42 = .ok (.getfield 7, 3) := by decide +kernel
theorem dX9_isTrue_45 : decode cX9_isTrue 45 = .ok (.aload_n 0, 1) := by decide +kernel
theorem dX9_isTrue_46 : decode cX9_isTrue 46 = .ok (.getfield 131, 3) := by decide +kernel
theorem dX9_isTrue_49 : decode cX9_isTrue 49 = .ok (.iaload, 1) := by decide +kernel
theorem dX9_isTrue_50 : decode cX9_isTrue 50 = .ok (.aload_n 0, 1) := by decide +kernel
theorem dX9_isTrue_51 : decode cX9_isTrue 51 = .ok (.getfield 38, 3) := by decide +kernel
theorem dX9_isTrue_54 : decode cX9_isTrue 54 = .ok (.bipush 6, 2) := by decide +kernel
theorem dX9_isTrue_56 : decode cX9_isTrue 56 = .ok (.iload_n 1, 1) := by decide +kernel
theorem dX9_isTrue_57 : decode cX9_isTrue 57 = .ok (.imul, 1) := by decide +kernel
theorem dX9_isTrue_58 : decode cX9_isTrue 58 = .ok (.aload_n 0, 1) := by decide +kernel
theorem dX9_isTrue_59 : decode cX9_isTrue 59 = .ok (.getfield 44, 3) := by decide +kernel
theorem dX9_isTrue_62 : decode cX9_isTrue 62 = .ok (.iload_n 1, 1) := by decide +kernel
theorem dX9_isTrue_63 : decode cX9_isTrue 63 = .ok (.iaload, 1) := by decide +kernel
theorem dX9_isTrue_64 : decode cX9_isTrue 64 = .ok (.iadd, 1) := by decide +kernel
theorem dX9_isTrue_65 : decode cX9_isTrue 65 = .ok (.iaload, 1) := by decide +kernel
theorem dX9_isTrue_66 : decode cX9_isTrue 66 = .ok (.if_icmp .eq 5, 3) := by decide +kernel
theorem dX9_isTrue_69 : decode cX9_isTrue 69 = .ok (.iconst 0, 1) := by decide +kernel
theorem dX9_isTrue_70 : decode cX9_isTrue 70 = .ok (.ireturn, 1) := by decide +kernel
theorem dX9_isTrue_71 : decode cX9_isTrue 71 = .ok (.aload_n 0, 1) := by decide +kernel
theorem dX9_isTrue_72 : decode cX9_isTrue 72 = .ok (.getfield 87, 3) := by decide +kernel
theorem dX9_isTrue_75 : decode cX9_isTrue 75 = .ok (.bipush 80, 2) := by decide +kernel
theorem dX9_isTrue_77 : decode cX9_isTrue 77 = .ok (.aload_n 0, 1) := by decide +kernel
theorem dX9_isTrue_78 : decode cX9_isTrue 78 = .ok (.getfield 44, 3) := by decide +kernel
theorem dX9_isTrue_81 : decode cX9_isTrue 81 = .ok (.iload_n 1, 1) := by decide +kernel
theorem dX9_isTrue_82 : decode cX9_isTrue 82 = .ok (.iaload, 1) := by decide +kernel
theorem dX9_isTrue_83 : decode cX9_isTrue 83 = .ok (.imul, 1) := by decide +kernel
theorem dX9_isTrue_84 : decode cX9_isTrue 84 = .ok (.aload_n 0, 1) := by decide +kernel
theorem dX9_isTrue_85 : decode cX9_isTrue 85 = .ok (.invokevirtual 251, 3) := by decide +kernel
theorem dX9_isTrue_88 : decode cX9_isTrue 88 = .ok (.iadd, 1) := by decide +kernel
theorem dX9_isTrue_89 : decode cX9_isTrue 89 = .ok (.iconst 1, 1) := by decide +kernel
theorem dX9_isTrue_90 : decode cX9_isTrue 90 = .ok (.bastore, 1) := by decide +kernel
theorem dX9_isTrue_91 : decode cX9_isTrue 91 = .ok (.iconst 1, 1) := by decide +kernel
theorem dX9_isTrue_92 : decode cX9_isTrue 92 = .ok (.istore_n 2, 1) := by decide +kernel
theorem dX9_isTrue_93 : decode cX9_isTrue 93 = .ok (.iload_n 2, 1) := by decide +kernel
theorem dX9_isTrue_94 : decode cX9_isTrue 94 = .ok (.ifCond .eq 195, 3) := by decide +kernel
theorem dX9_isTrue_97 : decode cX9_isTrue 97 = .ok (.iconst 0, 1) := by decide +kernel
theorem dX9_isTrue_98 : decode cX9_isTrue 98 = .ok (.istore_n 2, 1) := by decide +kernel
theorem dX9_isTrue_99 : decode cX9_isTrue 99 = .ok (.iconst 0, 1) := by decide +kernel
theorem dX9_isTrue_100 : decode cX9_isTrue 100 = .ok (.istore_n 3, 1) := by decide +kernel
theorem dX9_isTrue_101 : decode cX9_isTrue 101 = .ok (.iload_n 3, 1) := by decide +kernel
theorem dX9_isTrue_102 : decode cX9_isTrue 102 = .ok (.sipush 480, 3) := by decide +kernel
theorem dX9_isTrue_105 : decode cX9_isTrue 105 = .ok (.if_icmp .ge 181, 3) := by decide +kernel
theorem dX9_isTrue_108 : decode cX9_isTrue 108 = .ok (.iconst 0, 1) := by decide +kernel
theorem dX9_isTrue_109 : decode cX9_isTrue 109 = .ok (.istore 4, 2) := by decide +kernel
theorem dX9_isTrue_111 : decode cX9_isTrue 111 = .ok (.iload 4, 2) := by decide +kernel
theorem dX9_isTrue_113 : decode cX9_isTrue 113 = .ok (.iconst 5, 1) := by decide +kernel
theorem dX9_isTrue_114 : decode cX9_isTrue 114 = .ok (.if_icmp .ge 166, 3) := by decide +kernel
theorem dX9_isTrue_117 : decode cX9_isTrue 117 = .ok (.aload_n 0, 1) := by decide +kernel
theorem dX9_isTrue_118 : decode cX9_isTrue 118 = .ok (.getfield 87, 3) := by decide +kernel
theorem dX9_isTrue_121 : decode cX9_isTrue 121 = .ok (.iload_n 3, 1) := by decide +kernel
theorem dX9_isTrue_122 : decode cX9_isTrue 122 = .ok (.baload, 1) := by decide +kernel
theorem dX9_isTrue_123 : decode cX9_isTrue 123 = .ok (.ifCond .eq 157, 3) := by decide +kernel
theorem dX9_isTrue_126 : decode cX9_isTrue 126 = .ok (.aload_n 0, 1) := by decide +kernel
theorem dX9_isTrue_127 : decode cX9_isTrue 127 = .ok (.getfield 41, 3) := by decide +kernel
theorem dX9_isTrue_130 : decode cX9_isTrue 130 = .ok (.bipush 30, 2) := by decide +kernel
theorem dX9_isTrue_132 : decode cX9_isTrue 132 = .ok (.iload_n 1, 1) := by decide +kernel
theorem dX9_isTrue_133 : decode cX9_isTrue 133 = .ok (.imul, 1) := by decide +kernel
theorem dX9_isTrue_134 : decode cX9_isTrue 134 = .ok (.iconst 5, 1) := by decide +kernel
theorem dX9_isTrue_135 : decode cX9_isTrue 135 = .ok (.iload_n 3, 1) := by decide +kernel
theorem dX9_isTrue_136 : decode cX9_isTrue 136 = .ok (.bipush 80, 2) := by decide +kernel
theorem dX9_isTrue_138 : decode cX9_isTrue 138 = .ok (.idiv, 1) := by decide +kernel
theorem dX9_isTrue_139 : decode cX9_isTrue 139 = .ok (.imul, 1) := by decide +kernel
theorem dX9_isTrue_140 : decode cX9_isTrue 140 = .ok (.iadd, 1) := by decide +kernel
theorem dX9_isTrue_141 : decode cX9_isTrue 141 = .ok (.iload 4, 2) := by decide +kernel
theorem dX9_isTrue_143 : decode cX9_isTrue 143 = .ok (.iadd, 1) := by decide +kernel
theorem dX9_isTrue_144 : decode cX9_isTrue 144 = .ok (.iaload, 1) := by decide +kernel
theorem dX9_isTrue_145 : decode cX9_isTrue 145 = .ok (.istore 5, 2) := by decide +kernel
theorem dX9_isTrue_147 : decode cX9_isTrue 147 = .ok (.iload 5, 2) := by decide +kernel
theorem dX9_isTrue_149 : decode cX9_isTrue 149 = .ok (.bipush (-3), 2) := by decide +kernel
theorem dX9_isTrue_151 : decode cX9_isTrue 151 = .ok (.if_icmp .ne 6, 3) := by decide +kernel
theorem dX9_isTrue_154 : decode cX9_isTrue 154 = .ok (.goto 120, 3) := by decide +kernel
theorem dX9_isTrue_157 : decode cX9_isTrue 157 = .ok (.aload_n 0, 1) := by decide +kernel
theorem dX9_isTrue_158 : decode cX9_isTrue 158 = .ok (.iload_n 3, 1) := by decide +kernel
theorem dX9_isTrue_159 : decode cX9_isTrue 159 = .ok (.bipush 80, 2) := by decide +kernel
theorem dX9_isTrue_161 : decode cX9_isTrue 161 = .ok (.irem, 1) := by decide +kernel
theorem dX9_isTrue_162 : decode cX9_isTrue 162 = .ok (.invokevirtual 255, 3) := by decide +kernel
theorem dX9_isTrue_165 : decode cX9_isTrue 165 = .ok (.aload_n 0, 1) := by decide +kernel
theorem dX9_isTrue_166 : decode cX9_isTrue 166 = .ok (.iload 4, 2) := by decide +kernel
theorem dX9_isTrue_168 : decode cX9_isTrue 168 = .ok (.invokevirtual 208, 3) := by decide +kernel
theorem dX9_isTrue_171 : decode cX9_isTrue 171 = .ok (.iload 5, 2) := by decide +kernel
theorem dX9_isTrue_173 : decode cX9_isTrue 173 = .ok (.bipush (-2), 2) := by decide +kernel
theorem dX9_isTrue_175 : decode cX9_isTrue 175 = .ok (.if_icmp .ne 10, 3) := by decide +kernel
theorem dX9_isTrue_178 : decode cX9_isTrue 178 = .ok (.iload_n 3, 1) := by decide +kernel
theorem dX9_isTrue_179 : decode cX9_isTrue 179 = .ok (.bipush 80, 2) := by decide +kernel
theorem dX9_isTrue_181 : decode cX9_isTrue 181 = .ok (.idiv, 1) := by decide +kernel
theorem dX9_isTrue_182 : decode cX9_isTrue 182 = .ok (.goto 5, 3) := by decide +kernel
theorem dX9_isTrue_185 : decode cX9_isTrue 185 = .ok (.iload 5, 2) := by decide +kernel
theorem dX9_isTrue_187 : decode cX9_isTrue 187 = .ok (.istore 6, 2) := by decide +kernel
theorem dX9_isTrue_189 : decode cX9_isTrue 189 = .ok (.aload_n 0, 1) := by decide +kernel
theorem dX9_isTrue_190 : decode cX9_isTrue 190 = .ok (.getfield 134, 3) := by decide +kernel
theorem dX9_isTrue_193 : decode cX9_isTrue 193 = .ok (.iload 5, 2) := by decide +kernel
theorem dX9_isTrue_195 : decode cX9_isTrue 195 = .ok (.bipush (-2), 2) := by decide +kernel
theorem dX9_isTrue_197 : decode cX9_isTrue 197 = .ok (.if_icmp .ne 7, 3) := by decide +kernel
theorem dX9_isTrue_200 : decode cX9_isTrue 200 = .ok (.iconst 1, 1) := by decide +kernel
theorem dX9_isTrue_201 : decode cX9_isTrue 201 = .ok (.goto 4, 3) := by decide +kernel
theorem dX9_isTrue_204 : decode cX9_isTrue 204 = .ok (.iconst 0, 1) := by decide +kernel
theorem dX9_isTrue_205 : decode cX9_isTrue 205 = .ok (.if_icmp .ne 27, 3) := by decide +kernel
theorem dX9_isTrue_208 : decode cX9_isTrue 208 = .ok (.aload_n 0, 1) := by decide +kernel
theorem dX9_isTrue_209 : decode cX9_isTrue 209 = .ok (.getfield 7, 3) := by decide +kernel
theorem dX9_isTrue_212 : decode cX9_isTrue 212 = .ok (.aload_n 0, 1) := by decide +kernel
theorem dX9_isTrue_213 : decode cX9_isTrue 213 = .ok (.getfield 131, 3) := by decide +kernel
theorem dX9_isTrue_216 : decode cX9_isTrue 216 = .ok (.iaload, 1) := by decide +kernel
theorem dX9_isTrue_217 : decode cX9_isTrue 217 = .ok (.aload_n 0, 1) := by decide +kernel
theorem dX9_isTrue_218 : decode cX9_isTrue 218 = .ok (.getfield 38, 3) := by decide +kernel
theorem dX9_isTrue_221 : decode cX9_isTrue 221 = .ok (.bipush 6, 2) := by decide +kernel
theorem dX9_isTrue_223 : decode cX9_isTrue 223 = .ok (.iload_n 1, 1) := by decide +kernel
theorem dX9_isTrue_224 : decode cX9_isTrue 224 = .ok (.imul, 1) := by decide +kernel
theorem dX9_isTrue_225 : decode cX9_isTrue 225 = .ok (.iload 6, 2) := by decide +kernel
theorem dX9_isTrue_227 : decode cX9_isTrue 227 = .ok (.iadd, 1) := by decide +kernel
theorem dX9_isTrue_228 : decode cX9_isTrue 228 = .ok (.iaload, 1) := by decide +kernel
theorem dX9_isTrue_229 : decode cX9_isTrue 229 = .ok (.if_icmp .eq 5, 3) := by decide +kernel
theorem dX9_isTrue_232 : decode cX9_isTrue 232 = .ok (.iconst 0, 1) := by decide +kernel
theorem dX9_isTrue_233 : decode cX9_isTrue 233 = .ok (.ireturn, 1) := by decide +kernel
theorem dX9_isTrue_234 : decode cX9_isTrue 234 = .ok (.bipush 80, 2) := by decide +kernel
theorem dX9_isTrue_236 : decode cX9_isTrue 236 = .ok (.iload 6, 2) := by decide +kernel
theorem dX9_isTrue_238 : decode cX9_isTrue 238 = .ok (.imul, 1) := by decide +kernel
theorem dX9_isTrue_239 : decode cX9_isTrue 239 = .ok (.aload_n 0, 1) := by decide +kernel
theorem dX9_isTrue_240 : decode cX9_isTrue 240 = .ok (.invokevirtual 251, 3) := by decide +kernel
theorem dX9_isTrue_243 : decode cX9_isTrue 243 = .ok (.iadd, 1) := by decide +kernel
theorem dX9_isTrue_244 : decode cX9_isTrue 244 = .ok (.istore 7, 2) := by decide +kernel
theorem dX9_isTrue_246 : decode cX9_isTrue 246 = .ok (.iload_n 2, 1) := by decide +kernel
theorem dX9_isTrue_247 : decode cX9_isTrue 247 = .ok (.ifCond .ne 13, 3) := by decide +kernel
theorem dX9_isTrue_250 : decode cX9_isTrue 250 = .ok (.aload_n 0, 1) := by decide +kernel
theorem dX9_isTrue_251 : decode cX9_isTrue 251 = .ok (.getfield 87, 3) := by decide +kernel
theorem dX9_isTrue_254 : decode cX9_isTrue 254 = .ok (.iload 7, 2) := by decide +kernel
theorem dX9_isTrue_256 : decode cX9_isTrue 256 = .ok (.baload, 1) := by decide +kernel
theorem dX9_isTrue_257 : decode cX9_isTrue 257 = .ok (.ifCond .ne 7, 3) := by decide +kernel
theorem dX9_isTrue_260 : decode cX9_isTrue 260 = .ok (.iconst 1, 1) := by decide +kernel
theorem dX9_isTrue_261 : decode cX9_isTrue 261 = .ok (.goto 4, 3) := by decide +kernel
theorem dX9_isTrue_264 : decode cX9_isTrue 264 = .ok (.iconst 0, 1) := by decide +kernel
theorem dX9_isTrue_265 : decode cX9_isTrue 265 = .ok (.istore_n 2, 1) := by decide +kernel
theorem dX9_isTrue_266 : decode cX9_isTrue 266 = .ok (.aload_n 0, 1) := by decide +kernel
theorem dX9_isTrue_267 : decode cX9_isTrue 267 = .ok (.getfield 87, 3) := by decide +kernel
theorem dX9_isTrue_270 : decode cX9_isTrue 270 = .ok (.iload 7, 2) := by decide +kernel
theorem dX9_isTrue_272 : decode cX9_isTrue 272 = .ok (.iconst 1, 1) := by decide +kernel
theorem dX9_isTrue_273 : decode cX9_isTrue 273 = .ok (.bastore, 1) := by decide +kernel
theorem dX9_isTrue_274 : decode cX9_isTrue 274 = .ok (.iinc 4 1, 3) := by decide +kernel
theorem dX9_isTrue_277 : decode cX9_isTrue 277 = .ok (.goto (-166), 3) := by decide +kernel
theorem dX9_isTrue_280 : decode cX9_isTrue 280 = .ok (.iinc 3 1, 3) := by decide +kernel
theorem dX9_isTrue_283 : decode cX9_isTrue 283 = .ok (.goto (-182), 3) := by decide +kernel
theorem dX9_isTrue_286 : decode cX9_isTrue 286 = .ok (.goto (-193), 3) := by decide +kernel
theorem dX9_isTrue_289 : decode cX9_isTrue 289 = .ok (.iconst 1, 1) := by decide +kernel
theorem dX9_isTrue_290 : decode cX9_isTrue 290 = .ok (.ireturn, 1) := by decide +kernel
set_option maxRecDepth 20000 in
theorem ggX9_count_X9_isIn : GoodIn wsX9_count wsX9_isIn := goodIn_r _ [13] (by decide +kernel) (by decide +kernel)
set_option maxRecDepth 20000 in
theorem gX9_count_X9_isIn : GoodIn wsX9_count (va_wsS RX9 121 yX9_isIn wsX9_isIn) := goodIn_app (goodIn_of _ (by decide +kernel)) ggX9_count_X9_isIn
theorem dX9_count_0 : decode cX9_count 0 = .ok (.aload_n 0, 1) := by decide +kernel
theorem dX9_count_1 : decode cX9_count 1 = .ok (.iconst 0, 1) := by decide +kernel
theorem dX9_count_2 : decode cX9_count 2 = .ok (.putfield 112, 3) := by decide +kernel
theorem dX9_count_5 : decode cX9_count 5 = .ok (.iload_n 1, 1) := by decide +kernel
theorem dX9_count_6 : decode cX9_count 6 = .ok (.i2l, 1) := by decide +kernel
theorem dX9_count_7 : decode cX9_count 7 = .ok (.lconst 0, 1) := by decide +kernel
theorem dX9_count_8 : decode cX9_count 8 = .ok (.ldc2_w 129, 3) := by decide +kernel
theorem dX9_count_11 : decode cX9_count 11 = .ok (.invokestatic 121, 3) := by decide +kernel
theorem dX9_count_14 : decode cX9_count 14 = .ok (.ifCond .ne 5, 3) := by decide +kernel
theorem dX9_count_17 : decode cX9_count 17 = .ok (.iconst (-1), 1) := by decide +kernel
theorem dX9_count_18 : decode cX9_count 18 = .ok (.ireturn, 1) := by decide +kernel
theorem dX9_count_19 : decode cX9_count 19 = .ok (.iload_n 1, 1) := by decide +kernel
theorem dX9_count_20 : decode cX9_count 20 = .ok (.ifCond .ne 8, 3) := by decide +kernel
theorem dX9_count_23 : decode cX9_count 23 = .ok (.aload_n 0, 1) := by decide +kernel
theorem dX9_count_24 : decode cX9_count 24 = .ok (.getfield 116, 3) := by decide +kernel
theorem dX9_count_27 : decode cX9_count 27 = .ok (.ireturn, 1) := by decide +kernel
theorem dX9_count_28 : decode cX9_count 28 = .ok (.aload_n 0, 1) := by decide +kernel
theorem dX9_count_29 : decode cX9_count 29 = .ok (.getfield 159, 3) := by decide +kernel
theorem dX9_count_32 : decode cX9_count 32 = .ok (.ifCond .ne 6, 3) := by decide +kernel
theorem dX9_count_35 : decode cX9_count 35 = .ok (.bipush (-2), 2) := by decide +kernel
theorem dX9_count_37 : decode cX9_count 37 = .ok (.ireturn, 1) := by decide +kernel
theorem dX9_count_38 : decode cX9_count 38 = .ok (.iload_n 1, 1) := by decide +kernel
theorem dX9_count_39 : decode cX9_count 39 = .ok (.tableswitch 57 1 4 #[29, 34, 39, 52], 29) := by decide +kernel
theorem dX9_count_68 : decode cX9_count 68 = .ok (.aload_n 0, 1) := by decide +kernel
theorem dX9_count_69 : decode cX9_count 69 = .ok (.getfield 148, 3) := by decide +kernel
theorem dX9_count_72 : decode cX9_count 72 = .ok (.ireturn, 1) := by decide +kernel
theorem dX9_count_73 : decode cX9_count 73 = .ok (.aload_n 0, 1) := by decide +kernel
theorem dX9_count_74 : decode cX9_count 74 = .ok (.getfield 151, 3) := by decide +kernel
theorem dX9_count_77 : decode cX9_count 77 = .ok (.ireturn, 1) := by decide +kernel
theorem dX9_count_78 : decode cX9_count 78 = .ok (.aload_n 0, 1) := by decide +kernel
theorem dX9_count_79 : decode cX9_count 79 = .ok (.getfield 154, 3) := by decide +kernel
theorem dX9_count_82 : decode cX9_count 82 = .ok (.ifCond .eq 7, 3) := by decide +kernel
theorem dX9_count_85 : decode cX9_count 85 = .ok (.iconst 1, 1) := by decide +kernel
theorem dX9_count_86 : decode cX9_count 86 = .ok (.goto 4, 3) := by decide +kernel
theorem dX9_count_89 : decode cX9_count 89 = .ok (.iconst 0, 1) := by decide +kernel
theorem dX9_count_90 : decode cX9_count 90 = .ok (.ireturn, 1) := by decide +kernel
theorem dX9_count_91 : decode cX9_count 91 = .ok (.aload_n 0, 1) := by decide +kernel
theorem dX9_count_92 : decode cX9_count 92 = .ok (.getfield 168, 3) := by decide +kernel
theorem dX9_count_95 : decode cX9_count 95 = .ok (.ireturn, 1) := by decide +kernel
theorem dX9_count_96 : decode cX9_count 96 = .ok (.aload_n 0, 1) := by decide +kernel
theorem dX9_count_97 : decode cX9_count 97 = .ok (.getfield 162, 3) := by decide +kernel
theorem dX9_count_100 : decode cX9_count 100 = .ok (.ireturn, 1) := by decide +kernel
set_option maxRecDepth 20000 in
theorem ggX9_reached_X9_stand : GoodIn wsX9_reached wsX9_stand := goodIn_r _ [8, 9, 10, 11, 12, 13, 14, 35, 36, 37, 38, 39, 40, 41, 42, 43, 44, 45, 46, 47, 48, 49, 50, 51, 52, 53, 54, 55, 56, 57, 58, 59, 60, 61, 62, 63, 64, 65, 66, 67, 68, 69, 70, 71, 72, 73, 74, 75, 76, 77, 78, 79, 80, 81, 82, 83, 84, 85, 86] (by decide +kernel) (by decide +kernel)
set_option maxRecDepth 20000 in
theorem gX9_reached_X9_stand : GoodIn wsX9_reached (wsV RX9 205 RX9 yX9_stand wsX9_stand) := goodIn_app (goodIn_of _ (by decide +kernel)) ggX9_reached_X9_stand
set_option maxRecDepth 20000 in
theorem ggX9_reached_X9_standing : GoodIn wsX9_reached wsX9_standing := goodIn_r _ [18, 10, 12, 14, 35, 36, 37, 38, 39, 40, 41, 42, 43, 44, 45, 46, 47, 48, 49, 50, 51, 52, 53, 54, 55, 56, 57, 58, 59, 60, 61, 62, 63, 64, 65, 66, 67, 68, 69, 70, 71, 72, 73, 74, 75, 76, 77, 78, 79, 80, 81, 82, 83, 84, 85, 86] (by decide +kernel) (by decide +kernel)
set_option maxRecDepth 20000 in
theorem gX9_reached_X9_standing : GoodIn wsX9_reached (wsV RX9 251 RX9 yX9_standing wsX9_standing) := goodIn_app (goodIn_of _ (by decide +kernel)) ggX9_reached_X9_standing
set_option maxRecDepth 20000 in
theorem ggX9_reached_X9_standAt : GoodIn wsX9_reached wsX9_standAt := goodIn_r _ [22, 10, 12, 14, 35, 36, 37, 38, 39, 40, 41, 42, 43, 44, 45, 46, 47, 48, 49, 50, 51, 52, 53, 54, 55, 56, 57, 58, 59, 60, 61, 62, 63, 64, 65, 66, 67, 68, 69, 70, 71, 72, 73, 74, 75, 76, 77, 78, 79, 80, 81, 82, 83, 84, 85, 86] (by decide +kernel) (by decide +kernel)
set_option maxRecDepth 20000 in
theorem gX9_reached_X9_standAt : GoodIn wsX9_reached (wsV RX9 255 RX9 yX9_standAt wsX9_standAt) := goodIn_app (goodIn_of _ (by decide +kernel)) ggX9_reached_X9_standAt
set_option maxRecDepth 20000 in
theorem ggX9_reached_X9_step : GoodIn wsX9_reached wsX9_step := goodIn_r _ [26, 27, 14, 28, 10, 12, 29, 30, 31, 32, 33, 7, 34, 35, 36, 37, 38, 39, 40, 41, 42, 43, 44, 45, 46, 47, 48, 49, 50, 51, 52, 53, 54, 55, 56, 57, 58, 59, 60, 61, 62, 63, 64, 65, 66, 67, 68, 69, 70, 71, 72, 73, 74, 75, 76, 77, 78, 79, 80, 81, 82, 83, 84, 85, 86] (by decide +kernel) (by decide +kernel)
set_option maxRecDepth 20000 in
theorem gX9_reached_X9_step : GoodIn wsX9_reached (wsV RX9 208 RX9 yX9_step wsX9_step) := goodIn_app (goodIn_of _ (by decide +kernel)) ggX9_reached_X9_step
theorem dX9_reached_0 : decode cX9_reached 0 = .ok (.aload_n 0, 1) := by decide +kernel
theorem dX9_reached_1 : decode cX9_reached 1 = .ok (.iconst 0, 1) := by decide +kernel
theorem dX9_reached_2 : decode cX9_reached 2 = .ok (.putfield 112, 3) := by decide +kernel
theorem dX9_reached_5 : decode cX9_reached 5 = .ok (.aload_n 0, 1) := by decide +kernel
theorem dX9_reached_6 : decode cX9_reached 6 = .ok (.getfield 159, 3) := by decide +kernel
theorem dX9_reached_9 : decode cX9_reached 9 = .ok (.ifCond .ne 6, 3) := by decide +kernel
theorem dX9_reached_12 : decode cX9_reached 12 = .ok (.bipush (-2), 2) := by decide +kernel
theorem dX9_reached_14 : decode cX9_reached 14 = .ok (.ireturn, 1) := by decide +kernel
theorem dX9_reached_15 : decode cX9_reached 15 = .ok (.iconst 0, 1) := by decide +kernel
theorem dX9_reached_16 : decode cX9_reached 16 = .ok (.istore_n 1, 1) := by decide +kernel
theorem dX9_reached_17 : decode cX9_reached 17 = .ok (.iload_n 1, 1) := by decide +kernel
theorem dX9_reached_18 : decode cX9_reached 18 = .ok (.bipush 80, 2) := by decide +kernel
theorem dX9_reached_20 : decode cX9_reached 20 = .ok (.if_icmp .ge 16, 3) := by decide +kernel
theorem dX9_reached_23 : decode cX9_reached 23 = .ok (.aload_n 0, 1) := by decide +kernel
theorem dX9_reached_24 : decode cX9_reached 24 = .ok (.getfield 90, 3) := by decide +kernel
theorem dX9_reached_27 : decode cX9_reached 27 = .ok (.iload_n 1, 1) := by decide +kernel
theorem dX9_reached_28 : decode cX9_reached 28 = .ok (.iconst 0, 1) := by decide +kernel
theorem dX9_reached_29 : decode cX9_reached 29 = .ok (.bastore, 1) := by decide +kernel
theorem dX9_reached_30 : decode cX9_reached 30 = .ok (.iinc 1 1, 3) := by decide +kernel
theorem dX9_reached_33 : decode cX9_reached 33 = .ok (.goto (-16), 3) := by decide +kernel
theorem dX9_reached_36 : decode cX9_reached 36 = .ok (.aload_n 0, 1) := by decide +kernel
theorem dX9_reached_37 : decode cX9_reached 37 = .ok (.invokevirtual 205, 3) := by decide +kernel
theorem dX9_reached_40 : decode cX9_reached 40 = .ok (.aload_n 0, 1) := by decide +kernel
theorem dX9_reached_41 : decode cX9_reached 41 = .ok (.getfield 90, 3) := by decide +kernel
theorem dX9_reached_44 : decode cX9_reached 44 = .ok (.aload_n 0, 1) := by decide +kernel
theorem dX9_reached_45 : decode cX9_reached 45 = .ok (.invokevirtual 251, 3) := by decide +kernel
theorem dX9_reached_48 : decode cX9_reached 48 = .ok (.iconst 1, 1) := by decide +kernel
theorem dX9_reached_49 : decode cX9_reached 49 = .ok (.bastore, 1) := by decide +kernel
theorem dX9_reached_50 : decode cX9_reached 50 = .ok (.iconst 1, 1) := by decide +kernel
theorem dX9_reached_51 : decode cX9_reached 51 = .ok (.istore_n 1, 1) := by decide +kernel
theorem dX9_reached_52 : decode cX9_reached 52 = .ok (.iconst 1, 1) := by decide +kernel
theorem dX9_reached_53 : decode cX9_reached 53 = .ok (.istore_n 2, 1) := by decide +kernel
theorem dX9_reached_54 : decode cX9_reached 54 = .ok (.iload_n 2, 1) := by decide +kernel
theorem dX9_reached_55 : decode cX9_reached 55 = .ok (.ifCond .eq 86, 3) := by decide +kernel
theorem dX9_reached_58 : decode cX9_reached 58 = .ok (.iconst 0, 1) := by decide +kernel
theorem dX9_reached_59 : decode cX9_reached 59 = .ok (.istore_n 2, 1) := by decide +kernel
theorem dX9_reached_60 : decode cX9_reached 60 = .ok (.iconst 0, 1) := by decide +kernel
theorem dX9_reached_61 : decode cX9_reached 61 = .ok (.istore_n 3, 1) := by decide +kernel
theorem dX9_reached_62 : decode cX9_reached 62 = .ok (.iload_n 3, 1) := by decide +kernel
theorem dX9_reached_63 : decode cX9_reached 63 = .ok (.bipush 80, 2) := by decide +kernel
theorem dX9_reached_65 : decode cX9_reached 65 = .ok (.if_icmp .ge 73, 3) := by decide +kernel
theorem dX9_reached_68 : decode cX9_reached 68 = .ok (.iconst 0, 1) := by decide +kernel
theorem dX9_reached_69 : decode cX9_reached 69 = .ok (.istore 4, 2) := by decide +kernel
theorem dX9_reached_71 : decode cX9_reached 71 = .ok (.iload 4, 2) := by decide +kernel
theorem dX9_reached_73 : decode cX9_reached 73 = .ok (.iconst 5, 1) := by decide +kernel
theorem dX9_reached_74 : decode cX9_reached 74 = .ok (.if_icmp .ge 58, 3) := by decide +kernel
theorem dX9_reached_77 : decode cX9_reached 77 = .ok (.aload_n 0, 1) := by decide +kernel
theorem dX9_reached_78 : decode cX9_reached 78 = .ok (.getfield 90, 3) := by decide +kernel
theorem dX9_reached_81 : decode cX9_reached 81 = .ok (.iload_n 3, 1) := by decide +kernel
theorem dX9_reached_82 : decode cX9_reached 82 = .ok (.baload, 1) := by decide +kernel
theorem dX9_reached_83 : decode cX9_reached 83 = .ok (.ifCond .eq 49, 3) := by decide +kernel
theorem dX9_reached_86 : decode cX9_reached 86 = .ok (.aload_n 0, 1) := by decide +kernel
theorem dX9_reached_87 : decode cX9_reached 87 = .ok (.iload_n 3, 1) := by decide +kernel
theorem dX9_reached_88 : decode cX9_reached 88 = .ok (.invokevirtual 255, 3) := by decide +kernel
theorem dX9_reached_91 : decode cX9_reached 91 = .ok (.aload_n 0, 1) := by decide +kernel
theorem dX9_reached_92 : decode cX9_reached 92 = .ok (.iload 4, 2) := by decide +kernel
theorem dX9_reached_94 : decode cX9_reached 94 = .ok (.invokevirtual 208, 3) := by decide +kernel
theorem dX9_reached_97 : decode cX9_reached 97 = .ok (.aload_n 0, 1) := by decide +kernel
theorem dX9_reached_98 : decode cX9_reached 98 = .ok (.invokevirtual 251, 3) := by decide +kernel
theorem dX9_reached_101 : decode cX9_reached 101 = .ok (.istore 5, 2) := by decide +kernel
theorem dX9_reached_103 : decode cX9_reached 103 = .ok (.aload_n 0, 1) := by decide +kernel
theorem dX9_reached_104 : decode cX9_reached 104 = .ok (.getfield 90, 3) := by decide +kernel
theorem dX9_reached_107 : decode cX9_reached 107 = .ok (.iload 5, 2) := by decide +kernel
theorem dX9_reached_109 : decode cX9_reached 109 = .ok (.baload, 1) := by decide +kernel
theorem dX9_reached_110 : decode cX9_reached 110 = .ok (.ifCond .ne 16, 3) := by decide +kernel
theorem dX9_reached_113 : decode cX9_reached 113 = .ok (.aload_n 0, 1) := by decide +kernel
theorem dX9_reached_114 : decode cX9_reached 114 = .ok (.getfield 90, 3) := by decide +kernel
theorem dX9_reached_117 : decode cX9_reached 117 = .ok (.iload 5, 2) := by decide +kernel
theorem dX9_reached_119 : decode cX9_reached 119 = .ok (.iconst 1, 1) := by decide +kernel
theorem dX9_reached_120 : decode cX9_reached 120 = .ok (.bastore, 1) := by decide +kernel
theorem dX9_reached_121 : decode cX9_reached 121 = .ok (.iinc 1 1, 3) := by decide +kernel
theorem dX9_reached_124 : decode cX9_reached 124 = .ok (.iconst 1, 1) := by decide +kernel
theorem dX9_reached_125 : decode cX9_reached 125 = .ok (.istore_n 2, 1) := by decide +kernel
theorem dX9_reached_126 : decode cX9_reached 126 = .ok (.iinc 4 1, 3) := by decide +kernel
theorem dX9_reached_129 : decode cX9_reached 129 = .ok (.goto (-58), 3) := by decide +kernel
theorem dX9_reached_132 : decode cX9_reached 132 = .ok (.iinc 3 1, 3) := by decide +kernel
theorem dX9_reached_135 : decode cX9_reached 135 = .ok (.goto (-73), 3) := by decide +kernel
theorem dX9_reached_138 : decode cX9_reached 138 = .ok (.goto (-84), 3) := by decide +kernel
theorem dX9_reached_141 : decode cX9_reached 141 = .ok (.iload_n 1, 1) := by decide +kernel
theorem dX9_reached_142 : decode cX9_reached 142 = .ok (.ireturn, 1) := by decide +kernel
