theorem dX8_cell_0 : decode cX8_cell 0 = .ok (.iload_n 1, 1) := by decide +kernel
theorem dX8_cell_1 : decode cX8_cell 1 = .ok (.iconst 4, 1) := by decide +kernel
theorem dX8_cell_2 : decode cX8_cell 2 = .ok (.invokestatic 65, 3) := by decide +kernel
theorem dX8_cell_5 : decode cX8_cell 5 = .ok (.ifCond .ne 5, 3) := by decide +kernel
theorem dX8_cell_8 : decode cX8_cell 8 = .ok (.iconst (-1), 1) := by decide +kernel
theorem dX8_cell_9 : decode cX8_cell 9 = .ok (.ireturn, 1) := by decide +kernel
theorem dX8_cell_10 : decode cX8_cell 10 = .ok (.aload_n 0, 1) := by decide +kernel
theorem dX8_cell_11 : decode cX8_cell 11 = .ok (.getfield 12, 3) := by decide +kernel
theorem dX8_cell_14 : decode cX8_cell 14 = .ok (.getfield 69, 3) := by decide +kernel
theorem dX8_cell_17 : decode cX8_cell 17 = .ok (.bipush 10, 2) := by decide +kernel
theorem dX8_cell_19 : decode cX8_cell 19 = .ok (.if_icmp .lt 6, 3) := by decide +kernel
theorem dX8_cell_22 : decode cX8_cell 22 = .ok (.bipush (-2), 2) := by decide +kernel
theorem dX8_cell_24 : decode cX8_cell 24 = .ok (.ireturn, 1) := by decide +kernel
theorem dX8_cell_25 : decode cX8_cell 25 = .ok (.aload_n 0, 1) := by decide +kernel
theorem dX8_cell_26 : decode cX8_cell 26 = .ok (.getfield 12, 3) := by decide +kernel
theorem dX8_cell_29 : decode cX8_cell 29 = .ok (.iload_n 1, 1) := by decide +kernel
theorem dX8_cell_30 : decode cX8_cell 30 = .ok (.iload_n 2, 1) := by decide +kernel
theorem dX8_cell_31 : decode cX8_cell 31 = .ok (.invokevirtual 73, 3) := by decide +kernel
theorem dX8_cell_34 : decode cX8_cell 34 = .ok (.ireturn, 1) := by decide +kernel
set_option maxRecDepth 20000 in
theorem ggX8_lead_X8_within : GoodIn wsX8_lead wsX8_within := goodIn_r _ [5] (by decide +kernel) (by decide +kernel)
set_option maxRecDepth 20000 in
theorem gX8_lead_X8_within : GoodIn wsX8_lead (va_wsS RX8 65 yX8_within wsX8_within) := goodIn_app (goodIn_of _ (by decide +kernel)) ggX8_lead_X8_within
set_option maxRecDepth 20000 in
theorem ggX8_lead_X1_setLead : GoodIn wsX8_lead wsX1_setLead := goodIn_r _ [9, 10, 11, 21, 22, 23, 24, 25, 26, 27] (by decide +kernel) (by decide +kernel)
set_option maxRecDepth 20000 in
theorem gX8_lead_X1_setLead_n77 : GoodIn wsX8_lead (wsX1_setLead) := ggX8_lead_X1_setLead
theorem dX8_lead_0 : decode cX8_lead 0 = .ok (.iload_n 1, 1) := by decide +kernel
theorem dX8_lead_1 : decode cX8_lead 1 = .ok (.aload_n 0, 1) := by decide +kernel
theorem dX8_lead_2 : decode cX8_lead 2 = .ok (.getfield 12, 3) := by decide +kernel
theorem dX8_lead_5 : decode cX8_lead 5 = .ok (.getfield 69, 3) := by decide +kernel
theorem dX8_lead_8 : decode cX8_lead 8 = .ok (.invokestatic 65, 3) := by decide +kernel
theorem dX8_lead_11 : decode cX8_lead 11 = .ok (.ifCond .eq 20, 3) := by decide +kernel
theorem dX8_lead_14 : decode cX8_lead 14 = .ok (.iload_n 2, 1) := by decide +kernel
theorem dX8_lead_15 : decode cX8_lead 15 = .ok (.iconst 4, 1) := by decide +kernel
theorem dX8_lead_16 : decode cX8_lead 16 = .ok (.invokestatic 65, 3) := by decide +kernel
theorem dX8_lead_19 : decode cX8_lead 19 = .ok (.ifCond .eq 12, 3) := by decide +kernel
theorem dX8_lead_22 : decode cX8_lead 22 = .ok (.iload_n 3, 1) := by decide +kernel
theorem dX8_lead_23 : decode cX8_lead 23 = .ok (.bipush 6, 2) := by decide +kernel
theorem dX8_lead_25 : decode cX8_lead 25 = .ok (.invokestatic 65, 3) := by decide +kernel
theorem dX8_lead_28 : decode cX8_lead 28 = .ok (.ifCond .ne 5, 3) := by decide +kernel
theorem dX8_lead_31 : decode cX8_lead 31 = .ok (.iconst (-1), 1) := by decide +kernel
theorem dX8_lead_32 : decode cX8_lead 32 = .ok (.ireturn, 1) := by decide +kernel
theorem dX8_lead_33 : decode cX8_lead 33 = .ok (.iload_n 3, 1) := by decide +kernel
theorem dX8_lead_34 : decode cX8_lead 34 = .ok (.ifCond .eq 20, 3) := by decide +kernel
theorem dX8_lead_37 : decode cX8_lead 37 = .ok (.iload 4, 2) := by decide +kernel
theorem dX8_lead_39 : decode cX8_lead 39 = .ok (.aload_n 0, 1) := by decide +kernel
theorem dX8_lead_40 : decode cX8_lead 40 = .ok (.getfield 12, 3) := by decide +kernel
theorem dX8_lead_43 : decode cX8_lead 43 = .ok (.getfield 69, 3) := by decide +kernel
theorem dX8_lead_46 : decode cX8_lead 46 = .ok (.invokestatic 65, 3) := by decide +kernel
theorem dX8_lead_49 : decode cX8_lead 49 = .ok (.ifCond .ne 5, 3) := by decide +kernel
theorem dX8_lead_52 : decode cX8_lead 52 = .ok (.iconst (-1), 1) := by decide +kernel
theorem dX8_lead_53 : decode cX8_lead 53 = .ok (.ireturn, 1) := by decide +kernel
theorem dX8_lead_54 : decode cX8_lead 54 = .ok (.aload_n 0, 1) := by decide +kernel
theorem dX8_lead_55 : decode cX8_lead 55 = .ok (.getfield 12, 3) := by decide +kernel
theorem dX8_lead_58 : decode cX8_lead 58 = .ok (.iload_n 1, 1) := by decide +kernel
theorem dX8_lead_59 : decode cX8_lead 59 = .ok (.iconst 4, 1) := by decide +kernel
theorem dX8_lead_60 : decode cX8_lead 60 = .ok (.imul, 1) := by decide +kernel
theorem dX8_lead_61 : decode cX8_lead 61 = .ok (.iload_n 2, 1) := by decide +kernel
theorem dX8_lead_62 : decode cX8_lead 62 = .ok (.iadd, 1) := by decide +kernel
theorem dX8_lead_63 : decode cX8_lead 63 = .ok (.iload_n 3, 1) := by decide +kernel
theorem dX8_lead_64 : decode cX8_lead 64 = .ok (.iload_n 3, 1) := by decide +kernel
theorem dX8_lead_65 : decode cX8_lead 65 = .ok (.ifCond .ne 7, 3) := by decide +kernel
theorem dX8_lead_68 : decode cX8_lead 68 = .ok (.iload_n 1, 1) := by decide +kernel
theorem dX8_lead_69 : decode cX8_lead 69 = .ok (.goto 5, 3) := by decide +kernel
theorem dX8_lead_72 : decode cX8_lead 72 = .ok (.iload 4, 2) := by decide +kernel
theorem dX8_lead_74 : decode cX8_lead 74 = .ok (.invokevirtual 77, 3) := by decide +kernel
theorem dX8_lead_77 : decode cX8_lead 77 = .ok (.ireturn, 1) := by decide +kernel
set_option maxRecDepth 20000 in
theorem ggX8_start_X1_begin : GoodIn wsX8_start wsX1_begin := goodIn_r _ [8, 9, 10, 11, 12, 13, 63, 64, 65, 66, 67, 68, 69] (by decide +kernel) (by decide +kernel)
set_option maxRecDepth 20000 in
theorem gX8_start_X1_begin_n85 : GoodIn wsX8_start (wsX1_begin) := ggX8_start_X1_begin
set_option maxRecDepth 20000 in
theorem ggX8_start_X0_begin : GoodIn wsX8_start wsX0_begin := goodIn_r _ [17, 18, 19, 20, 21, 22, 23, 15, 24, 25, 26, 27, 28, 29, 30, 31, 32, 33, 34, 35, 36, 37, 38, 39, 40, 41, 42, 43, 44, 45, 46, 47, 48, 49, 50, 51, 52, 53, 73, 74, 75, 76, 77, 78, 79, 80, 81, 82, 83] (by decide +kernel) (by decide +kernel)
set_option maxRecDepth 20000 in
theorem gX8_start_X0_begin_n95 : GoodIn wsX8_start (wsX0_begin) := ggX8_start_X0_begin
theorem dX8_start_0 : decode cX8_start 0 = .ok (.iload_n 1, 1) := by decide +kernel
theorem dX8_start_1 : decode cX8_start 1 = .ok (.iconst 1, 1) := by decide +kernel
theorem dX8_start_2 : decode cX8_start 2 = .ok (.if_icmp .lt 9, 3) := by decide +kernel
theorem dX8_start_5 : decode cX8_start 5 = .ok (.iload_n 1, 1) := by decide +kernel
theorem dX8_start_6 : decode cX8_start 6 = .ok (.bipush 6, 2) := by decide +kernel
theorem dX8_start_8 : decode cX8_start 8 = .ok (.if_icmp .le 5, 3) := by decide +kernel
theorem dX8_start_11 : decode cX8_start 11 = .ok (.iconst (-1), 1) := by decide +kernel
theorem dX8_start_12 : decode cX8_start 12 = .ok (.ireturn, 1) := by decide +kernel
theorem dX8_start_13 : decode cX8_start 13 = .ok (.aload_n 0, 1) := by decide +kernel
theorem dX8_start_14 : decode cX8_start 14 = .ok (.getfield 12, 3) := by decide +kernel
theorem dX8_start_17 : decode cX8_start 17 = .ok (.getfield 69, 3) := by decide +kernel
theorem dX8_start_20 : decode cX8_start 20 = .ok (.ifCond .ne 6, 3) := by decide +kernel
theorem dX8_start_23 : decode cX8_start 23 = .ok (.bipush (-2), 2) := by decide +kernel
theorem dX8_start_25 : decode cX8_start 25 = .ok (.ireturn, 1) := by decide +kernel
theorem dX8_start_26 : decode cX8_start 26 = .ok (.aload_n 0, 1) := by decide +kernel
theorem dX8_start_27 : decode cX8_start 27 = .ok (.iconst 1, 1) := by decide +kernel
theorem dX8_start_28 : decode cX8_start 28 = .ok (.putfield 81, 3) := by decide +kernel
theorem dX8_start_31 : decode cX8_start 31 = .ok (.aload_n 0, 1) := by decide +kernel
theorem dX8_start_32 : decode cX8_start 32 = .ok (.getfield 12, 3) := by decide +kernel
theorem dX8_start_35 : decode cX8_start 35 = .ok (.invokevirtual 85, 3) := by decide +kernel
theorem dX8_start_38 : decode cX8_start 38 = .ok (.aload_n 0, 1) := by decide +kernel
theorem dX8_start_39 : decode cX8_start 39 = .ok (.getfield 19, 3) := by decide +kernel
theorem dX8_start_42 : decode cX8_start 42 = .ok (.iconst 0, 1) := by decide +kernel
theorem dX8_start_43 : decode cX8_start 43 = .ok (.putfield 88, 3) := by decide +kernel
theorem dX8_start_46 : decode cX8_start 46 = .ok (.aload_n 0, 1) := by decide +kernel
theorem dX8_start_47 : decode cX8_start 47 = .ok (.getfield 26, 3) := by decide +kernel
theorem dX8_start_50 : decode cX8_start 50 = .ok (.iload_n 1, 1) := by decide +kernel
theorem dX8_start_51 : decode cX8_start 51 = .ok (.aload_n 0, 1) := by decide +kernel
theorem dX8_start_52 : decode cX8_start 52 = .ok (.getfield 12, 3) := by decide +kernel
theorem dX8_start_55 : decode cX8_start 55 = .ok (.getfield 91, 3) := by decide +kernel
theorem dX8_start_58 : decode cX8_start 58 = .ok (.iconst 0, 1) := by decide +kernel
theorem dX8_start_59 : decode cX8_start 59 = .ok (.iaload, 1) := by decide +kernel
theorem dX8_start_60 : decode cX8_start 60 = .ok (.invokevirtual 95, 3) := by decide +kernel
theorem dX8_start_63 : decode cX8_start 63 = .ok (.iconst 0, 1) := by decide +kernel
theorem dX8_start_64 : decode cX8_start 64 = .ok (.ireturn, 1) := by decide +kernel
set_option maxRecDepth 20000 in
theorem ggX8_act_X8_within : GoodIn wsX8_act wsX8_within := goodIn_r _ [8] (by decide +kernel) (by decide +kernel)
set_option maxRecDepth 20000 in
theorem gX8_act_X8_within : GoodIn wsX8_act (va_wsS RX8 65 yX8_within wsX8_within) := goodIn_app (goodIn_of _ (by decide +kernel)) ggX8_act_X8_within
set_option maxRecDepth 20000 in
theorem ggX8_act_X1_perform : GoodIn wsX8_act wsX1_perform := goodIn_r _ [12, 13, 14, 15, 16, 10, 17, 18, 19, 7, 20, 21, 22, 23, 24, 25, 26, 27, 28, 29, 30, 31, 32, 33, 34, 35, 36, 37, 146, 147, 148, 149, 150, 151, 152] (by decide +kernel) (by decide +kernel)
set_option maxRecDepth 20000 in
theorem gX8_act_X1_perform_n98 : GoodIn wsX8_act (wsX1_perform) := ggX8_act_X1_perform
set_option maxRecDepth 20000 in
theorem ggX8_act_X1_sight : GoodIn wsX8_act wsX1_sight := goodIn_r _ [40, 13, 41, 18, 19, 7, 20, 42, 43, 146, 147, 148, 149, 150, 151, 152] (by decide +kernel) (by decide +kernel)
set_option maxRecDepth 20000 in
theorem gX8_act_X1_sight_n102 : GoodIn wsX8_act (wsX1_sight) := ggX8_act_X1_sight
set_option maxRecDepth 20000 in
theorem ggX8_act_X7_add : GoodIn wsX8_act wsX7_add := goodIn_r _ [47, 48, 49, 50, 143, 144, 145] (by decide +kernel) (by decide +kernel)
set_option maxRecDepth 20000 in
theorem gX8_act_X7_add_n106 : GoodIn wsX8_act (wsX7_add) := ggX8_act_X7_add
set_option maxRecDepth 20000 in
theorem ggX8_act_X0_advance : GoodIn wsX8_act wsX0_advance := goodIn_r _ [54, 55, 56, 57, 58, 59, 60, 61, 62, 52, 63, 64, 65, 66, 67, 68, 69, 70, 71, 72, 73, 74, 75, 76, 77, 78, 79, 80, 81, 82, 83, 84, 85, 86, 42, 7, 43, 87, 88, 89, 90, 91, 92, 93, 94, 95, 96, 97, 98, 99, 100, 101, 102, 103, 104, 105, 106, 107, 108, 109, 110, 111, 112, 113, 114, 115, 116, 117, 118, 119, 120, 121, 122, 123, 124, 125, 126, 127, 128, 129, 130, 131, 132, 133, 153, 154, 155, 156, 157, 158, 159, 160, 161, 162, 163] (by decide +kernel) (by decide +kernel)
set_option maxRecDepth 20000 in
theorem gX8_act_X0_advance_n109 : GoodIn wsX8_act (wsX0_advance) := ggX8_act_X0_advance
theorem dX8_act_0 : decode cX8_act 0 = .ok (.iload_n 1, 1) := by decide +kernel
theorem dX8_act_1 : decode cX8_act 1 = .ok (.bipush 6, 2) := by decide +kernel
theorem dX8_act_3 : decode cX8_act 3 = .ok (.invokestatic 65, 3) := by decide +kernel
theorem dX8_act_6 : decode cX8_act 6 = .ok (.ifCond .ne 5, 3) := by decide +kernel
theorem dX8_act_9 : decode cX8_act 9 = .ok (.iconst (-1), 1) := by decide +kernel
theorem dX8_act_10 : decode cX8_act 10 = .ok (.ireturn, 1) := by decide +kernel
theorem dX8_act_11 : decode cX8_act 11 = .ok (.aload_n 0, 1) := by decide +kernel
theorem dX8_act_12 : decode cX8_act 12 = .ok (.getfield 81, 3) := by decide +kernel
theorem dX8_act_15 : decode cX8_act 15 = .ok (.ifCond .ne 6, 3) := by decide +kernel
theorem dX8_act_18 : decode cX8_act 18 = .ok (.bipush (-2), 2) := by decide +kernel
theorem dX8_act_20 : decode cX8_act 20 = .ok (.ireturn, 1) := by decide +kernel
theorem dX8_act_21 : decode cX8_act 21 = .ok (.aload_n 0, 1) := by decide +kernel
theorem dX8_act_22 : decode cX8_act 22 = .ok (.getfield 19, 3) := by decide +kernel
theorem dX8_act_25 : decode cX8_act 25 = .ok (.getfield 88, 3) := by decide +kernel
theorem dX8_act_28 : decode cX8_act 28 = .ok (.sipush 200, 3) := by decide +kernel
theorem dX8_act_31 : decode cX8_act 31 = .ok (.if_icmp .lt 6, 3) := by decide +kernel
theorem dX8_act_34 : decode cX8_act 34 = .ok (.bipush (-3), 2) := by decide +kernel
theorem dX8_act_36 : decode cX8_act 36 = .ok (.ireturn, 1) := by decide +kernel
theorem dX8_act_37 : decode cX8_act 37 = .ok (.aload_n 0, 1) := by decide +kernel
theorem dX8_act_38 : decode cX8_act 38 = .ok (.getfield 12, 3) := by decide +kernel
theorem dX8_act_41 : decode cX8_act 41 = .ok (.iload_n 1, 1) := by decide +kernel
theorem dX8_act_42 : decode cX8_act 42 = .ok (.invokevirtual 98, 3) := by decide +kernel
theorem dX8_act_45 : decode cX8_act 45 = .ok (.istore_n 2, 1) := by decide +kernel
theorem dX8_act_46 : decode cX8_act 46 = .ok (.aload_n 0, 1) := by decide +kernel
theorem dX8_act_47 : decode cX8_act 47 = .ok (.getfield 12, 3) := by decide +kernel
theorem dX8_act_50 : decode cX8_act 50 = .ok (.iload_n 2, 1) := by decide +kernel
theorem dX8_act_51 : decode cX8_act 51 = .ok (.invokevirtual 102, 3) := by decide +kernel
theorem dX8_act_54 : decode cX8_act 54 = .ok (.istore_n 3, 1) := by decide +kernel
theorem dX8_act_55 : decode cX8_act 55 = .ok (.aload_n 0, 1) := by decide +kernel
theorem dX8_act_56 : decode cX8_act 56 = .ok (.getfield 19, 3) := by decide +kernel
theorem dX8_act_59 : decode cX8_act 59 = .ok (.iload_n 1, 1) := by decide +kernel
theorem dX8_act_60 : decode cX8_act 60 = .ok (.iload_n 3, 1) := by decide +kernel
theorem dX8_act_61 : decode cX8_act 61 = .ok (.invokevirtual 106, 3) := by decide +kernel
theorem dX8_act_64 : decode cX8_act 64 = .ok (.aload_n 0, 1) := by decide +kernel
theorem dX8_act_65 : decode cX8_act 65 = .ok (.getfield 26, 3) := by decide +kernel
theorem dX8_act_68 : decode cX8_act 68 = .ok (.iload_n 1, 1) := by decide +kernel
theorem dX8_act_69 : decode cX8_act 69 = .ok (.iload_n 3, 1) := by decide +kernel
theorem dX8_act_70 : decode cX8_act 70 = .ok (.invokevirtual 109, 3) := by decide +kernel
theorem dX8_act_73 : decode cX8_act 73 = .ok (.iload_n 2, 1) := by decide +kernel
theorem dX8_act_74 : decode cX8_act 74 = .ok (.ifCond .eq 7, 3) := by decide +kernel
theorem dX8_act_77 : decode cX8_act 77 = .ok (.iconst 1, 1) := by decide +kernel
theorem dX8_act_78 : decode cX8_act 78 = .ok (.goto 4, 3) := by decide +kernel
theorem dX8_act_81 : decode cX8_act 81 = .ok (.iconst 0, 1) := by decide +kernel
theorem dX8_act_82 : decode cX8_act 82 = .ok (.ireturn, 1) := by decide +kernel
set_option maxRecDepth 20000 in
theorem ggX8_seen_X8_within : GoodIn wsX8_seen wsX8_within := goodIn_r _ [7] (by decide +kernel) (by decide +kernel)
set_option maxRecDepth 20000 in
theorem gX8_seen_X8_within : GoodIn wsX8_seen (va_wsS RX8 65 yX8_within wsX8_within) := goodIn_app (goodIn_of _ (by decide +kernel)) ggX8_seen_X8_within
set_option maxRecDepth 20000 in
theorem ggX8_seen_X7_bumpedLast : GoodIn wsX8_seen wsX7_bumpedLast := goodIn_r _ [11, 12, 13, 14, 6, 15, 50, 51, 52] (by decide +kernel) (by decide +kernel)
set_option maxRecDepth 20000 in
theorem gX8_seen_X7_bumpedLast_n112 : GoodIn wsX8_seen (wsX7_bumpedLast) := ggX8_seen_X7_bumpedLast
set_option maxRecDepth 20000 in
theorem ggX8_seen_X1_sight : GoodIn wsX8_seen wsX1_sight := goodIn_r _ [19, 20, 21, 22, 23, 6, 24, 25, 26, 43, 44, 45, 46, 47, 48, 49] (by decide +kernel) (by decide +kernel)
set_option maxRecDepth 20000 in
theorem gX8_seen_X1_sight_n102 : GoodIn wsX8_seen (wsX1_sight) := ggX8_seen_X1_sight
set_option maxRecDepth 20000 in
theorem ggX8_seen_X8_signOf : GoodIn wsX8_seen wsX8_signOf := goodIn_r _ [29] (by decide +kernel) (by decide +kernel)
set_option maxRecDepth 20000 in
theorem gX8_seen_X8_signOf : GoodIn wsX8_seen (va_wsS RX8 116 yX8_signOf wsX8_signOf) := goodIn_app (goodIn_of _ (by decide +kernel)) ggX8_seen_X8_signOf
set_option maxRecDepth 20000 in
theorem ggX8_seen_X8_pebbleOf : GoodIn wsX8_seen wsX8_pebbleOf := goodIn_r _ [32] (by decide +kernel) (by decide +kernel)
set_option maxRecDepth 20000 in
theorem gX8_seen_X8_pebbleOf : GoodIn wsX8_seen (va_wsS RX8 120 yX8_pebbleOf wsX8_pebbleOf) := goodIn_app (goodIn_of _ (by decide +kernel)) ggX8_seen_X8_pebbleOf
set_option maxRecDepth 20000 in
theorem ggX8_seen_X8_bumpOf : GoodIn wsX8_seen wsX8_bumpOf := goodIn_r _ [15] (by decide +kernel) (by decide +kernel)
set_option maxRecDepth 20000 in
theorem gX8_seen_X8_bumpOf : GoodIn wsX8_seen (va_wsS RX8 123 yX8_bumpOf wsX8_bumpOf) := goodIn_app (goodIn_of _ (by decide +kernel)) ggX8_seen_X8_bumpOf
theorem dX8_seen_0 : decode cX8_seen 0 = .ok (.iload_n 1, 1) := by decide +kernel
theorem dX8_seen_1 : decode cX8_seen 1 = .ok (.iconst 4, 1) := by decide +kernel
theorem dX8_seen_2 : decode cX8_seen 2 = .ok (.invokestatic 65, 3) := by decide +kernel
theorem dX8_seen_5 : decode cX8_seen 5 = .ok (.ifCond .ne 5, 3) := by decide +kernel
theorem dX8_seen_8 : decode cX8_seen 8 = .ok (.iconst (-1), 1) := by decide +kernel
theorem dX8_seen_9 : decode cX8_seen 9 = .ok (.ireturn, 1) := by decide +kernel
theorem dX8_seen_10 : decode cX8_seen 10 = .ok (.aload_n 0, 1) := by decide +kernel
theorem dX8_seen_11 : decode cX8_seen 11 = .ok (.getfield 81, 3) := by decide +kernel
theorem dX8_seen_14 : decode cX8_seen 14 = .ok (.ifCond .ne 6, 3) := by decide +kernel
theorem dX8_seen_17 : decode cX8_seen 17 = .ok (.bipush (-2), 2) := by decide +kernel
theorem dX8_seen_19 : decode cX8_seen 19 = .ok (.ireturn, 1) := by decide +kernel
theorem dX8_seen_20 : decode cX8_seen 20 = .ok (.aload_n 0, 1) := by decide +kernel
theorem dX8_seen_21 : decode cX8_seen 21 = .ok (.getfield 12, 3) := by decide +kernel
theorem dX8_seen_24 : decode cX8_seen 24 = .ok (.aload_n 0, 1) := by decide +kernel
theorem dX8_seen_25 : decode cX8_seen 25 = .ok (.getfield 19, 3) := by decide +kernel
theorem dX8_seen_28 : decode cX8_seen 28 = .ok (.invokevirtual 112, 3) := by decide +kernel
theorem dX8_seen_31 : decode cX8_seen 31 = .ok (.invokevirtual 102, 3) := by decide +kernel
theorem dX8_seen_34 : decode cX8_seen 34 = .ok (.istore_n 2, 1) := by decide +kernel
theorem dX8_seen_35 : decode cX8_seen 35 = .ok (.iload_n 1, 1) := by decide +kernel
theorem dX8_seen_36 : decode cX8_seen 36 = .ok (.tableswitch 43 0 2 #[28, 33, 38], 28) := by decide +kernel
theorem dX8_seen_64 : decode cX8_seen 64 = .ok (.iload_n 2, 1) := by decide +kernel
theorem dX8_seen_65 : decode cX8_seen 65 = .ok (.invokestatic 116, 3) := by decide +kernel
theorem dX8_seen_68 : decode cX8_seen 68 = .ok (.ireturn, 1) := by decide +kernel
theorem dX8_seen_69 : decode cX8_seen 69 = .ok (.iload_n 2, 1) := by decide +kernel
theorem dX8_seen_70 : decode cX8_seen 70 = .ok (.invokestatic 120, 3) := by decide +kernel
theorem dX8_seen_73 : decode cX8_seen 73 = .ok (.ireturn, 1) := by decide +kernel
theorem dX8_seen_74 : decode cX8_seen 74 = .ok (.iload_n 2, 1) := by decide +kernel
theorem dX8_seen_75 : decode cX8_seen 75 = .ok (.invokestatic 123, 3) := by decide +kernel
theorem dX8_seen_78 : decode cX8_seen 78 = .ok (.ireturn, 1) := by decide +kernel
theorem dX8_seen_79 : decode cX8_seen 79 = .ok (.aload_n 0, 1) := by decide +kernel
theorem dX8_seen_80 : decode cX8_seen 80 = .ok (.getfield 12, 3) := by decide +kernel
theorem dX8_seen_83 : decode cX8_seen 83 = .ok (.getfield 126, 3) := by decide +kernel
theorem dX8_seen_86 : decode cX8_seen 86 = .ok (.bipush (-2), 2) := by decide +kernel
theorem dX8_seen_88 : decode cX8_seen 88 = .ok (.if_icmp .ne 7, 3) := by decide +kernel
theorem dX8_seen_91 : decode cX8_seen 91 = .ok (.iconst 1, 1) := by decide +kernel
theorem dX8_seen_92 : decode cX8_seen 92 = .ok (.goto 4, 3) := by decide +kernel
theorem dX8_seen_95 : decode cX8_seen 95 = .ok (.iconst 0, 1) := by decide +kernel
theorem dX8_seen_96 : decode cX8_seen 96 = .ok (.ireturn, 1) := by decide +kernel
set_option maxRecDepth 20000 in
theorem ggX8_walk_X8_within : GoodIn wsX8_walk wsX8_within := goodIn_r _ [5] (by decide +kernel) (by decide +kernel)
set_option maxRecDepth 20000 in
theorem gX8_walk_X8_within : GoodIn wsX8_walk (va_wsS RX8 65 yX8_within wsX8_within) := goodIn_app (goodIn_of _ (by decide +kernel)) ggX8_walk_X8_within
set_option maxRecDepth 20000 in
theorem ggX8_walk_X8_bumpOf : GoodIn wsX8_walk wsX8_bumpOf := goodIn_r _ [8] (by decide +kernel) (by decide +kernel)
set_option maxRecDepth 20000 in
theorem gX8_walk_X8_bumpOf : GoodIn wsX8_walk (va_wsS RX8 123 yX8_bumpOf wsX8_bumpOf) := goodIn_app (goodIn_of _ (by decide +kernel)) ggX8_walk_X8_bumpOf
set_option maxRecDepth 20000 in
theorem ggX8_walk_X8_signOf : GoodIn wsX8_walk wsX8_signOf := goodIn_r _ [11] (by decide +kernel) (by decide +kernel)
set_option maxRecDepth 20000 in
theorem gX8_walk_X8_signOf : GoodIn wsX8_walk (va_wsS RX8 116 yX8_signOf wsX8_signOf) := goodIn_app (goodIn_of _ (by decide +kernel)) ggX8_walk_X8_signOf
set_option maxRecDepth 20000 in
theorem ggX8_walk_X8_pebbleOf : GoodIn wsX8_walk wsX8_pebbleOf := goodIn_r _ [14] (by decide +kernel) (by decide +kernel)
set_option maxRecDepth 20000 in
theorem gX8_walk_X8_pebbleOf : GoodIn wsX8_walk (va_wsS RX8 120 yX8_pebbleOf wsX8_pebbleOf) := goodIn_app (goodIn_of _ (by decide +kernel)) ggX8_walk_X8_pebbleOf
theorem dX8_walk_0 : decode cX8_walk 0 = .ok (.iload_n 1, 1) := by decide +kernel
theorem dX8_walk_1 : decode cX8_walk 1 = .ok (.aload_n 0, 1) := by decide +kernel
theorem dX8_walk_2 : decode cX8_walk 2 = .ok (.getfield 19, 3) := by decide +kernel
theorem dX8_walk_5 : decode cX8_walk 5 = .ok (.getfield 88, 3) := by decide +kernel
theorem dX8_walk_8 : decode cX8_walk 8 = .ok (.invokestatic 65, 3) := by decide +kernel
theorem dX8_walk_11 : decode cX8_walk 11 = .ok (.ifCond .eq 11, 3) := by decide +kernel
theorem dX8_walk_14 : decode cX8_walk 14 = .ok (.iload_n 2, 1) := by decide +kernel
theorem dX8_walk_15 : decode cX8_walk 15 = .ok (.iconst 4, 1) := by decide +kernel
theorem dX8_walk_16 : decode cX8_walk 16 = .ok (.invokestatic 65, 3) := by decide +kernel
theorem dX8_walk_19 : decode cX8_walk 19 = .ok (.ifCond .ne 5, 3) := by decide +kernel
theorem dX8_walk_22 : decode cX8_walk 22 = .ok (.iconst (-1), 1) := by decide +kernel
theorem dX8_walk_23 : decode cX8_walk 23 = .ok (.ireturn, 1) := by decide +kernel
theorem dX8_walk_24 : decode cX8_walk 24 = .ok (.aload_n 0, 1) := by decide +kernel
theorem dX8_walk_25 : decode cX8_walk 25 = .ok (.getfield 19, 3) := by decide +kernel
theorem dX8_walk_28 : decode cX8_walk 28 = .ok (.getfield 129, 3) := by decide +kernel
theorem dX8_walk_31 : decode cX8_walk 31 = .ok (.iload_n 1, 1) := by decide +kernel
theorem dX8_walk_32 : decode cX8_walk 32 = .ok (.iaload, 1) := by decide +kernel
theorem dX8_walk_33 : decode cX8_walk 33 = .ok (.istore_n 3, 1) := by decide +kernel
theorem dX8_walk_34 : decode cX8_walk 34 = .ok (.iload_n 2, 1) := by decide +kernel
theorem dX8_walk_35 : decode cX8_walk 35 = .ok (.tableswitch 45 0 2 #[25, 35, 40], 25) := by decide +kernel
theorem dX8_walk_60 : decode cX8_walk 60 = .ok (.aload_n 0, 1) := by decide +kernel
theorem dX8_walk_61 : decode cX8_walk 61 = .ok (.getfield 19, 3) := by decide +kernel
theorem dX8_walk_64 : decode cX8_walk 64 = .ok (.getfield 132, 3) := by decide +kernel
theorem dX8_walk_67 : decode cX8_walk 67 = .ok (.iload_n 1, 1) := by decide +kernel
theorem dX8_walk_68 : decode cX8_walk 68 = .ok (.iaload, 1) := by decide +kernel
theorem dX8_walk_69 : decode cX8_walk 69 = .ok (.ireturn, 1) := by decide +kernel
theorem dX8_walk_70 : decode cX8_walk 70 = .ok (.iload_n 3, 1) := by decide +kernel
theorem dX8_walk_71 : decode cX8_walk 71 = .ok (.invokestatic 123, 3) := by decide +kernel
theorem dX8_walk_74 : decode cX8_walk 74 = .ok (.ireturn, 1) := by decide +kernel
theorem dX8_walk_75 : decode cX8_walk 75 = .ok (.iload_n 3, 1) := by decide +kernel
theorem dX8_walk_76 : decode cX8_walk 76 = .ok (.invokestatic 116, 3) := by decide +kernel
theorem dX8_walk_79 : decode cX8_walk 79 = .ok (.ireturn, 1) := by decide +kernel
theorem dX8_walk_80 : decode cX8_walk 80 = .ok (.iload_n 3, 1) := by decide +kernel
theorem dX8_walk_81 : decode cX8_walk 81 = .ok (.invokestatic 120, 3) := by decide +kernel
theorem dX8_walk_84 : decode cX8_walk 84 = .ok (.ireturn, 1) := by decide +kernel
set_option maxRecDepth 20000 in
theorem ggX8_sheets_X8_unmapped : GoodIn wsX8_sheets wsX8_unmapped := goodIn_r _ [6, 7, 1, 8, 9, 10, 11, 12, 13, 14, 15, 16, 17, 18, 19, 20, 21, 22] (by decide +kernel) (by decide +kernel)
set_option maxRecDepth 20000 in
theorem gX8_sheets_X8_unmapped : GoodIn wsX8_sheets (wsV RX8 135 RX8 yX8_unmapped wsX8_unmapped) := goodIn_app (goodIn_of _ (by decide +kernel)) ggX8_sheets_X8_unmapped
theorem dX8_sheets_0 : decode cX8_sheets 0 = .ok (.aload_n 0, 1) := by decide +kernel
theorem dX8_sheets_1 : decode cX8_sheets 1 = .ok (.invokevirtual 135, 3) := by decide +kernel
theorem dX8_sheets_4 : decode cX8_sheets 4 = .ok (.istore_n 1, 1) := by decide +kernel
theorem dX8_sheets_5 : decode cX8_sheets 5 = .ok (.iload_n 1, 1) := by decide +kernel
theorem dX8_sheets_6 : decode cX8_sheets 6 = .ok (.ifCond .eq 7, 3) := by decide +kernel
theorem dX8_sheets_9 : decode cX8_sheets 9 = .ok (.iload_n 1, 1) := by decide +kernel
theorem dX8_sheets_10 : decode cX8_sheets 10 = .ok (.goto 10, 3) := by decide +kernel
theorem dX8_sheets_13 : decode cX8_sheets 13 = .ok (.aload_n 0, 1) := by decide +kernel
theorem dX8_sheets_14 : decode cX8_sheets 14 = .ok (.getfield 26, 3) := by decide +kernel
theorem dX8_sheets_17 : decode cX8_sheets 17 = .ok (.getfield 139, 3) := by decide +kernel
theorem dX8_sheets_20 : decode cX8_sheets 20 = .ok (.ireturn, 1) := by decide +kernel
set_option maxRecDepth 20000 in
theorem ggX8_sheet_X8_within : GoodIn wsX8_sheet wsX8_within := goodIn_r _ [5] (by decide +kernel) (by decide +kernel)
set_option maxRecDepth 20000 in
theorem gX8_sheet_X8_within : GoodIn wsX8_sheet (va_wsS RX8 65 yX8_within wsX8_within) := goodIn_app (goodIn_of _ (by decide +kernel)) ggX8_sheet_X8_within
set_option maxRecDepth 20000 in
theorem ggX8_sheet_X4_countKnown : GoodIn wsX8_sheet wsX4_countKnown := goodIn_r _ [9, 10, 11, 27, 28, 29, 30, 31] (by decide +kernel) (by decide +kernel)
set_option maxRecDepth 20000 in
theorem gX8_sheet_X4_countKnown_n153 : GoodIn wsX8_sheet (wsX4_countKnown) := ggX8_sheet_X4_countKnown
theorem dX8_sheet_0 : decode cX8_sheet 0 = .ok (.iload_n 1, 1) := by decide +kernel
theorem dX8_sheet_1 : decode cX8_sheet 1 = .ok (.aload_n 0, 1) := by decide +kernel
theorem dX8_sheet_2 : decode cX8_sheet 2 = .ok (.getfield 26, 3) := by decide +kernel
theorem dX8_sheet_5 : decode cX8_sheet 5 = .ok (.getfield 139, 3) := by decide +kernel
theorem dX8_sheet_8 : decode cX8_sheet 8 = .ok (.invokestatic 65, 3) := by decide +kernel
theorem dX8_sheet_11 : decode cX8_sheet 11 = .ok (.ifCond .eq 11, 3) := by decide +kernel
theorem dX8_sheet_14 : decode cX8_sheet 14 = .ok (.iload_n 2, 1) := by decide +kernel
theorem dX8_sheet_15 : decode cX8_sheet 15 = .ok (.iconst 4, 1) := by decide +kernel
theorem dX8_sheet_16 : decode cX8_sheet 16 = .ok (.invokestatic 65, 3) := by decide +kernel
theorem dX8_sheet_19 : decode cX8_sheet 19 = .ok (.ifCond .ne 5, 3) := by decide +kernel
theorem dX8_sheet_22 : decode cX8_sheet 22 = .ok (.iconst (-1), 1) := by decide +kernel
theorem dX8_sheet_23 : decode cX8_sheet 23 = .ok (.ireturn, 1) := by decide +kernel
theorem dX8_sheet_24 : decode cX8_sheet 24 = .ok (.aload_n 0, 1) := by decide +kernel
theorem dX8_sheet_25 : decode cX8_sheet 25 = .ok (.getfield 26, 3) := by decide +kernel
theorem dX8_sheet_28 : decode cX8_sheet 28 = .ok (.getfield 142, 3) := by decide +kernel
theorem dX8_sheet_31 : decode cX8_sheet 31 = .ok (.iload_n 1, 1) := by decide +kernel
theorem dX8_sheet_32 : decode cX8_sheet 32 = .ok (.aaload, 1) := by decide +kernel
theorem dX8_sheet_33 : decode cX8_sheet 33 = .ok (.astore_n 3, 1) := by decide +kernel
theorem dX8_sheet_34 : decode cX8_sheet 34 = .ok (.iload_n 2, 1) := by decide +kernel
theorem dX8_sheet_35 : decode cX8_sheet 35 = .ok (.tableswitch 40 0 2 #[25, 30, 35], 25) := by decide +kernel
theorem dX8_sheet_60 : decode cX8_sheet 60 = .ok (.aload_n 3, 1) := by decide +kernel
theorem dX8_sheet_61 : decode cX8_sheet 61 = .ok (.getfield 146, 3) := by decide +kernel
theorem dX8_sheet_64 : decode cX8_sheet 64 = .ok (.ireturn, 1) := by decide +kernel
theorem dX8_sheet_65 : decode cX8_sheet 65 = .ok (.aload_n 3, 1) := by decide +kernel
theorem dX8_sheet_66 : decode cX8_sheet 66 = .ok (.getfield 149, 3) := by decide +kernel
theorem dX8_sheet_69 : decode cX8_sheet 69 = .ok (.ireturn, 1) := by decide +kernel
theorem dX8_sheet_70 : decode cX8_sheet 70 = .ok (.aload_n 3, 1) := by decide +kernel
theorem dX8_sheet_71 : decode cX8_sheet 71 = .ok (.getfield 152, 3) := by decide +kernel
theorem dX8_sheet_74 : decode cX8_sheet 74 = .ok (.ireturn, 1) := by decide +kernel
theorem dX8_sheet_75 : decode cX8_sheet 75 = .ok (.aload_n 3, 1) := by decide +kernel
theorem dX8_sheet_76 : decode cX8_sheet 76 = .ok (.invokevirtual 153, 3) := by decide +kernel
theorem dX8_sheet_79 : decode cX8_sheet 79 = .ok (.ireturn, 1) := by decide +kernel
set_option maxRecDepth 20000 in
theorem ggX8_leads_X8_isPlace : GoodIn wsX8_leads wsX8_isPlace := goodIn_r _ [6, 1, 7, 8, 5, 9, 15, 16, 17, 18, 19, 20, 21, 22, 23, 24, 25, 26, 27, 28, 29, 30, 31, 32, 33, 34] (by decide +kernel) (by decide +kernel)
set_option maxRecDepth 20000 in
theorem gX8_leads_X8_isPlace : GoodIn wsX8_leads (wsV RX8 156 RX8 yX8_isPlace wsX8_isPlace) := goodIn_app (goodIn_of _ (by decide +kernel)) ggX8_leads_X8_isPlace
set_option maxRecDepth 20000 in
theorem ggX8_leads_X8_within : GoodIn wsX8_leads wsX8_within := goodIn_r _ [9] (by decide +kernel) (by decide +kernel)
set_option maxRecDepth 20000 in
theorem gX8_leads_X8_within : GoodIn wsX8_leads (va_wsS RX8 65 yX8_within wsX8_within) := goodIn_app (goodIn_of _ (by decide +kernel)) ggX8_leads_X8_within
set_option maxRecDepth 20000 in
theorem ggX8_leads_X4_leadFrom : GoodIn wsX8_leads wsX4_leadFrom := goodIn_r _ [13, 14, 30, 31, 32, 33, 34] (by decide +kernel) (by decide +kernel)
set_option maxRecDepth 20000 in
theorem gX8_leads_X4_leadFrom_n159 : GoodIn wsX8_leads (wsX4_leadFrom) := ggX8_leads_X4_leadFrom
theorem dX8_leads_0 : decode cX8_leads 0 = .ok (.aload_n 0, 1) := by decide +kernel
theorem dX8_leads_1 : decode cX8_leads 1 = .ok (.iload_n 1, 1) := by decide +kernel
theorem dX8_leads_2 : decode cX8_leads 2 = .ok (.iload_n 2, 1) := by decide +kernel
theorem dX8_leads_3 : decode cX8_leads 3 = .ok (.invokevirtual 156, 3) := by decide +kernel
theorem dX8_leads_6 : decode cX8_leads 6 = .ok (.ifCond .eq 11, 3) := by decide +kernel
theorem dX8_leads_9 : decode cX8_leads 9 = .ok (.iload_n 3, 1) := by decide +kernel
theorem dX8_leads_10 : decode cX8_leads 10 = .ok (.iconst 5, 1) := by decide +kernel
theorem dX8_leads_11 : decode cX8_leads 11 = .ok (.invokestatic 65, 3) := by decide +kernel
theorem dX8_leads_14 : decode cX8_leads 14 = .ok (.ifCond .ne 5, 3) := by decide +kernel
theorem dX8_leads_17 : decode cX8_leads 17 = .ok (.iconst (-1), 1) := by decide +kernel
theorem dX8_leads_18 : decode cX8_leads 18 = .ok (.ireturn, 1) := by decide +kernel
theorem dX8_leads_19 : decode cX8_leads 19 = .ok (.aload_n 0, 1) := by decide +kernel
theorem dX8_leads_20 : decode cX8_leads 20 = .ok (.getfield 26, 3) := by decide +kernel
theorem dX8_leads_23 : decode cX8_leads 23 = .ok (.getfield 142, 3) := by decide +kernel
theorem dX8_leads_26 : decode cX8_leads 26 = .ok (.iload_n 1, 1) := by decide +kernel
theorem dX8_leads_27 : decode cX8_leads 27 = .ok (.aaload, 1) := by decide +kernel
theorem dX8_leads_28 : decode cX8_leads 28 = .ok (.iload_n 2, 1) := by decide +kernel
theorem dX8_leads_29 : decode cX8_leads 29 = .ok (.iload_n 3, 1) := by decide +kernel
theorem dX8_leads_30 : decode cX8_leads 30 = .ok (.invokevirtual 159, 3) := by decide +kernel
theorem dX8_leads_33 : decode cX8_leads 33 = .ok (.ireturn, 1) := by decide +kernel
set_option maxRecDepth 20000 in
theorem ggX8_sign_X8_isPlace : GoodIn wsX8_sign wsX8_isPlace := goodIn_r _ [6, 1, 7, 8, 5, 9, 10, 11, 12, 13, 14, 15, 16, 17, 18, 19, 20, 21, 22, 23, 24, 25, 26, 27, 28, 29] (by decide +kernel) (by decide +kernel)
set_option maxRecDepth 20000 in
theorem gX8_sign_X8_isPlace : GoodIn wsX8_sign (wsV RX8 156 RX8 yX8_isPlace wsX8_isPlace) := goodIn_app (goodIn_of _ (by decide +kernel)) ggX8_sign_X8_isPlace
theorem dX8_sign_0 : decode cX8_sign 0 = .ok (.aload_n 0, 1) := by decide +kernel
theorem dX8_sign_1 : decode cX8_sign 1 = .ok (.iload_n 1, 1) := by decide +kernel
theorem dX8_sign_2 : decode cX8_sign 2 = .ok (.iload_n 2, 1) := by decide +kernel
theorem dX8_sign_3 : decode cX8_sign 3 = .ok (.invokevirtual 156, 3) := by decide +kernel
theorem dX8_sign_6 : decode cX8_sign 6 = .ok (.ifCond .eq 20, 3) := by decide +kernel
theorem dX8_sign_9 : decode cX8_sign 9 = .ok (.aload_n 0, 1) := by decide +kernel
theorem dX8_sign_10 : decode cX8_sign 10 = .ok (.getfield 26, 3) := by decide +kernel
theorem dX8_sign_13 : decode cX8_sign 13 = .ok (.getfield 142, 3) := by decide +kernel
theorem dX8_sign_16 : decode cX8_sign 16 = .ok (.iload_n 1, 1) := by decide +kernel
theorem dX8_sign_17 : decode cX8_sign 17 = .ok (.aaload, 1) := by decide +kernel
theorem dX8_sign_18 : decode cX8_sign 18 = .ok (.getfield 163, 3) := by decide +kernel
theorem dX8_sign_21 : decode cX8_sign 21 = .ok (.iload_n 2, 1) := by decide +kernel
theorem dX8_sign_22 : decode cX8_sign 22 = .ok (.iaload, 1) := by decide +kernel
theorem dX8_sign_23 : decode cX8_sign 23 = .ok (.goto 4, 3) := by decide +kernel
theorem dX8_sign_26 : decode cX8_sign 26 = .ok (.iconst (-1), 1) := by decide +kernel
theorem dX8_sign_27 : decode cX8_sign 27 = .ok (.ireturn, 1) := by decide +kernel
set_option maxRecDepth 20000 in
theorem ggX8_known_X8_unmapped : GoodIn wsX8_known wsX8_unmapped := goodIn_r _ [6, 7, 1, 34, 35, 36, 37, 38, 39, 40, 41, 42, 43, 44, 45, 46, 47, 48] (by decide +kernel) (by decide +kernel)
set_option maxRecDepth 20000 in
theorem gX8_known_X8_unmapped : GoodIn wsX8_known (wsV RX8 135 RX8 yX8_unmapped wsX8_unmapped) := goodIn_app (goodIn_of _ (by decide +kernel)) ggX8_known_X8_unmapped
set_option maxRecDepth 20000 in
theorem ggX8_known_X8_isExplored : GoodIn wsX8_known wsX8_isExplored := goodIn_r _ [11, 12, 13, 14, 15, 16, 17, 18, 19, 20, 21, 22, 23, 5, 24, 25, 26, 27, 28, 29, 30, 31, 32, 33, 34, 35, 36, 37, 38, 39, 40, 41, 42, 49, 50, 51, 52, 53, 54, 55, 56] (by decide +kernel) (by decide +kernel)
set_option maxRecDepth 20000 in
theorem gX8_known_X8_isExplored : GoodIn wsX8_known (wsV RX8 164 RX8 yX8_isExplored wsX8_isExplored) := goodIn_app (goodIn_of _ (by decide +kernel)) ggX8_known_X8_isExplored
theorem dX8_known_0 : decode cX8_known 0 = .ok (.aload_n 0, 1) := by decide +kernel
theorem dX8_known_1 : decode cX8_known 1 = .ok (.invokevirtual 135, 3) := by decide +kernel
theorem dX8_known_4 : decode cX8_known 4 = .ok (.istore_n 1, 1) := by decide +kernel
theorem dX8_known_5 : decode cX8_known 5 = .ok (.iload_n 1, 1) := by decide +kernel
theorem dX8_known_6 : decode cX8_known 6 = .ok (.ifCond .eq 5, 3) := by decide +kernel
theorem dX8_known_9 : decode cX8_known 9 = .ok (.iload_n 1, 1) := by decide +kernel
theorem dX8_known_10 : decode cX8_known 10 = .ok (.ireturn, 1) := by decide +kernel
theorem dX8_known_11 : decode cX8_known 11 = .ok (.aload_n 0, 1) := by decide +kernel
theorem dX8_known_12 : decode cX8_known 12 = .ok (.getfield 26, 3) := by decide +kernel
theorem dX8_known_15 : decode cX8_known 15 = .ok (.getfield 139, 3) := by decide +kernel
theorem dX8_known_18 : decode cX8_known 18 = .ok (.iconst 1, 1) := by decide +kernel
theorem dX8_known_19 : decode cX8_known 19 = .ok (.if_icmp .ne 23, 3) := by decide +kernel
theorem dX8_known_22 : decode cX8_known 22 = .ok (.aload_n 0, 1) := by decide +kernel
theorem dX8_known_23 : decode cX8_known 23 = .ok (.aload_n 0, 1) := by decide +kernel
theorem dX8_known_24 : decode cX8_known 24 = .ok (.getfield 26, 3) := by decide +kernel
theorem dX8_known_27 : decode cX8_known 27 = .ok (.getfield 142, 3) := by decide +kernel
theorem dX8_known_30 : decode cX8_known 30 = .ok (.iconst 0, 1) := by decide +kernel
theorem dX8_known_31 : decode cX8_known 31 = .ok (.aaload, 1) := by decide +kernel
theorem dX8_known_32 : decode cX8_known 32 = .ok (.invokevirtual 164, 3) := by decide +kernel
theorem dX8_known_35 : decode cX8_known 35 = .ok (.ifCond .eq 7, 3) := by decide +kernel
theorem dX8_known_38 : decode cX8_known 38 = .ok (.iconst 1, 1) := by decide +kernel
theorem dX8_known_39 : decode cX8_known 39 = .ok (.goto 4, 3) := by decide +kernel
theorem dX8_known_42 : decode cX8_known 42 = .ok (.iconst 0, 1) := by decide +kernel
theorem dX8_known_43 : decode cX8_known 43 = .ok (.ireturn, 1) := by decide +kernel
set_option maxRecDepth 20000 in
theorem ggX8_one_X8_unsheeted : GoodIn wsX8_one wsX8_unsheeted := goodIn_r _ [7, 2, 8, 9, 10, 6, 11, 12, 29, 30, 31, 32, 33, 34, 35, 36, 37, 41, 42, 43, 44, 45, 46] (by decide +kernel) (by decide +kernel)
set_option maxRecDepth 20000 in
theorem gX8_one_X8_unsheeted : GoodIn wsX8_one (wsV RX8 168 RX8 yX8_unsheeted wsX8_unsheeted) := goodIn_app (goodIn_of _ (by decide +kernel)) ggX8_one_X8_unsheeted
set_option maxRecDepth 20000 in
theorem ggX8_one_X8_within : GoodIn wsX8_one wsX8_within := goodIn_r _ [15] (by decide +kernel) (by decide +kernel)
set_option maxRecDepth 20000 in
theorem gX8_one_X8_within : GoodIn wsX8_one (va_wsS RX8 65 yX8_within wsX8_within) := goodIn_app (goodIn_of _ (by decide +kernel)) ggX8_one_X8_within
set_option maxRecDepth 20000 in
theorem ggX8_one_X8_placeBehind : GoodIn wsX8_one wsX8_placeBehind := goodIn_r _ [19, 1, 20, 21, 22, 23, 24, 25, 26, 27, 28, 29, 30, 31, 32, 33, 34, 35, 36, 37, 38, 39, 40, 47, 48, 49, 50, 51] (by decide +kernel) (by decide +kernel)
set_option maxRecDepth 20000 in
theorem gX8_one_X8_placeBehind : GoodIn wsX8_one (wsV RX8 171 RX8 yX8_placeBehind wsX8_placeBehind) := goodIn_app (goodIn_of _ (by decide +kernel)) ggX8_one_X8_placeBehind
theorem dX8_one_0 : decode cX8_one 0 = .ok (.aload_n 0, 1) := by decide +kernel
theorem dX8_one_1 : decode cX8_one 1 = .ok (.invokevirtual 168, 3) := by decide +kernel
theorem dX8_one_4 : decode cX8_one 4 = .ok (.istore_n 3, 1) := by decide +kernel
theorem dX8_one_5 : decode cX8_one 5 = .ok (.iload_n 3, 1) := by decide +kernel
theorem dX8_one_6 : decode cX8_one 6 = .ok (.ifCond .eq 5, 3) := by decide +kernel
theorem dX8_one_9 : decode cX8_one 9 = .ok (.iload_n 3, 1) := by decide +kernel
theorem dX8_one_10 : decode cX8_one 10 = .ok (.ireturn, 1) := by decide +kernel
theorem dX8_one_11 : decode cX8_one 11 = .ok (.iload_n 1, 1) := by decide +kernel
theorem dX8_one_12 : decode cX8_one 12 = .ok (.aload_n 0, 1) := by decide +kernel
theorem dX8_one_13 : decode cX8_one 13 = .ok (.getfield 19, 3) := by decide +kernel
theorem dX8_one_16 : decode cX8_one 16 = .ok (.getfield 88, 3) := by decide +kernel
theorem dX8_one_19 : decode cX8_one 19 = .ok (.iconst 1, 1) := by decide +kernel
theorem dX8_one_20 : decode cX8_one 20 = .ok (.iadd, 1) := by decide +kernel
theorem dX8_one_21 : decode cX8_one 21 = .ok (.invokestatic 65, 3) := by decide +kernel
theorem dX8_one_24 : decode cX8_one 24 = .ok (.ifCond .eq 19, 3) := by decide +kernel
theorem dX8_one_27 : decode cX8_one 27 = .ok (.iload_n 2, 1) := by decide +kernel
theorem dX8_one_28 : decode cX8_one 28 = .ok (.aload_n 0, 1) := by decide +kernel
theorem dX8_one_29 : decode cX8_one 29 = .ok (.getfield 19, 3) := by decide +kernel
theorem dX8_one_32 : decode cX8_one 32 = .ok (.getfield 88, 3) := by decide +kernel
theorem dX8_one_35 : decode cX8_one 35 = .ok (.iconst 1, 1) := by decide +kernel
theorem dX8_one_36 : decode cX8_one 36 = .ok (.iadd, 1) := by decide +kernel
theorem dX8_one_37 : decode cX8_one 37 = .ok (.invokestatic 65, 3) := by decide +kernel
theorem dX8_one_40 : decode cX8_one 40 = .ok (.ifCond .ne 5, 3) := by decide +kernel
theorem dX8_one_43 : decode cX8_one 43 = .ok (.iconst (-1), 1) := by decide +kernel
theorem dX8_one_44 : decode cX8_one 44 = .ok (.ireturn, 1) := by decide +kernel
theorem dX8_one_45 : decode cX8_one 45 = .ok (.iconst 0, 1) := by decide +kernel
theorem dX8_one_46 : decode cX8_one 46 = .ok (.istore 4, 2) := by decide +kernel
theorem dX8_one_48 : decode cX8_one 48 = .ok (.iconst 0, 1) := by decide +kernel
theorem dX8_one_49 : decode cX8_one 49 = .ok (.istore 5, 2) := by decide +kernel
theorem dX8_one_51 : decode cX8_one 51 = .ok (.iload 5, 2) := by decide +kernel
theorem dX8_one_53 : decode cX8_one 53 = .ok (.aload_n 0, 1) := by decide +kernel
theorem dX8_one_54 : decode cX8_one 54 = .ok (.getfield 26, 3) := by decide +kernel
theorem dX8_one_57 : decode cX8_one 57 = .ok (.getfield 139, 3) := by decide +kernel
theorem dX8_one_60 : decode cX8_one 60 = .ok (.if_icmp .ge 41, 3) := by decide +kernel
theorem dX8_one_63 : decode cX8_one 63 = .ok (.aload_n 0, 1) := by decide +kernel
theorem dX8_one_64 : decode cX8_one 64 = .ok (.getfield 26, 3) := by decide +kernel
theorem dX8_one_67 : decode cX8_one 67 = .ok (.getfield 142, 3) := by decide +kernel
theorem dX8_one_70 : decode cX8_one 70 = .ok (.iload 5, 2) := by decide +kernel
theorem dX8_one_72 : decode cX8_one 72 = .ok (.aaload, 1) := by decide +kernel
theorem dX8_one_73 : decode cX8_one 73 = .ok (.astore 6, 2) := by decide +kernel
theorem dX8_one_75 : decode cX8_one 75 = .ok (.aload_n 0, 1) := by decide +kernel
theorem dX8_one_76 : decode cX8_one 76 = .ok (.aload 6, 2) := by decide +kernel
theorem dX8_one_78 : decode cX8_one 78 = .ok (.iload_n 1, 1) := by decide +kernel
theorem dX8_one_79 : decode cX8_one 79 = .ok (.invokevirtual 171, 3) := by decide +kernel
theorem dX8_one_82 : decode cX8_one 82 = .ok (.aload_n 0, 1) := by decide +kernel
theorem dX8_one_83 : decode cX8_one 83 = .ok (.aload 6, 2) := by decide +kernel
theorem dX8_one_85 : decode cX8_one 85 = .ok (.iload_n 2, 1) := by decide +kernel
theorem dX8_one_86 : decode cX8_one 86 = .ok (.invokevirtual 171, 3) := by decide +kernel
theorem dX8_one_89 : decode cX8_one 89 = .ok (.if_icmp .ne 6, 3) := by decide +kernel
theorem dX8_one_92 : decode cX8_one 92 = .ok (.iinc 4 1, 3) := by decide +kernel
theorem dX8_one_95 : decode cX8_one 95 = .ok (.iinc 5 1, 3) := by decide +kernel
theorem dX8_one_98 : decode cX8_one 98 = .ok (.goto (-47), 3) := by decide +kernel
theorem dX8_one_101 : decode cX8_one 101 = .ok (.iload 4, 2) := by decide +kernel
theorem dX8_one_103 : decode cX8_one 103 = .ok (.ifCond .ne 5, 3) := by decide +kernel
theorem dX8_one_106 : decode cX8_one 106 = .ok (.iconst 0, 1) := by decide +kernel
theorem dX8_one_107 : decode cX8_one 107 = .ok (.ireturn, 1) := by decide +kernel
theorem dX8_one_108 : decode cX8_one 108 = .ok (.iload 4, 2) := by decide +kernel
theorem dX8_one_110 : decode cX8_one 110 = .ok (.aload_n 0, 1) := by decide +kernel
theorem dX8_one_111 : decode cX8_one 111 = .ok (.getfield 26, 3) := by decide +kernel
theorem dX8_one_114 : decode cX8_one 114 = .ok (.getfield 139, 3) := by decide +kernel
theorem dX8_one_117 : decode cX8_one 117 = .ok (.if_icmp .ne 7, 3) := by decide +kernel
theorem dX8_one_120 : decode cX8_one 120 = .ok (.iconst 1, 1) := by decide +kernel
theorem dX8_one_121 : decode cX8_one 121 = .ok (.goto 4, 3) := by decide +kernel
theorem dX8_one_124 : decode cX8_one 124 = .ok (.iconst 2, 1) := by decide +kernel
theorem dX8_one_125 : decode cX8_one 125 = .ok (.ireturn, 1) := by decide +kernel
set_option maxRecDepth 20000 in
theorem ggX8_part_X8_within : GoodIn wsX8_part wsX8_within := goodIn_r _ [7] (by decide +kernel) (by decide +kernel)
set_option maxRecDepth 20000 in
theorem gX8_part_X8_within : GoodIn wsX8_part (va_wsS RX8 65 yX8_within wsX8_within) := goodIn_app (goodIn_of _ (by decide +kernel)) ggX8_part_X8_within
set_option maxRecDepth 20000 in
theorem ggX8_part_X8_unsheeted : GoodIn wsX8_part wsX8_unsheeted := goodIn_r _ [11, 3, 12, 13, 14, 6, 15, 16, 59, 60, 61, 62, 63, 64, 65, 66, 67, 68, 69, 70, 71, 72, 73] (by decide +kernel) (by decide +kernel)
set_option maxRecDepth 20000 in
theorem gX8_part_X8_unsheeted : GoodIn wsX8_part (wsV RX8 168 RX8 yX8_unsheeted wsX8_unsheeted) := goodIn_app (goodIn_of _ (by decide +kernel)) ggX8_part_X8_unsheeted
set_option maxRecDepth 20000 in
theorem ggX8_part_X2_countSets : GoodIn wsX8_part wsX2_countSets := goodIn_r _ [20, 21, 22, 23, 24, 25, 26, 18, 27, 28, 29, 30, 31, 32, 33, 34, 35, 36, 37, 38, 39, 40, 41, 42, 43, 44, 45, 46, 47, 48, 49, 50, 51, 52, 53, 54, 6, 55, 56, 57, 58, 74, 75, 76, 77, 68, 69, 70, 71, 72, 73, 78, 79, 80, 81, 82, 83, 84, 85, 86] (by decide +kernel) (by decide +kernel)
set_option maxRecDepth 20000 in
theorem gX8_part_X2_countSets_n178 : GoodIn wsX8_part (wsX2_countSets) := ggX8_part_X2_countSets
theorem dX8_part_0 : decode cX8_part 0 = .ok (.iload_n 1, 1) := by decide +kernel
theorem dX8_part_1 : decode cX8_part 1 = .ok (.iconst 1, 1) := by decide +kernel
theorem dX8_part_2 : decode cX8_part 2 = .ok (.if_icmp .lt 21, 3) := by decide +kernel
theorem dX8_part_5 : decode cX8_part 5 = .ok (.iload_n 1, 1) := by decide +kernel
theorem dX8_part_6 : decode cX8_part 6 = .ok (.bipush 6, 2) := by decide +kernel
theorem dX8_part_8 : decode cX8_part 8 = .ok (.if_icmp .gt 15, 3) := by decide +kernel
theorem dX8_part_11 : decode cX8_part 11 = .ok (.iload_n 2, 1) := by decide +kernel
theorem dX8_part_12 : decode cX8_part 12 = .ok (.getstatic 175, 3) := by decide +kernel
theorem dX8_part_15 : decode cX8_part 15 = .ok (.iload_n 1, 1) := by decide +kernel
theorem dX8_part_16 : decode cX8_part 16 = .ok (.iaload, 1) := by decide +kernel
theorem dX8_part_17 : decode cX8_part 17 = .ok (.invokestatic 65, 3) := by decide +kernel
theorem dX8_part_20 : decode cX8_part 20 = .ok (.ifCond .ne 5, 3) := by decide +kernel
theorem dX8_part_23 : decode cX8_part 23 = .ok (.iconst (-1), 1) := by decide +kernel
theorem dX8_part_24 : decode cX8_part 24 = .ok (.ireturn, 1) := by decide +kernel
theorem dX8_part_25 : decode cX8_part 25 = .ok (.aload_n 0, 1) := by decide +kernel
theorem dX8_part_26 : decode cX8_part 26 = .ok (.invokevirtual 168, 3) := by decide +kernel
theorem dX8_part_29 : decode cX8_part 29 = .ok (.istore_n 3, 1) := by decide +kernel
theorem dX8_part_30 : decode cX8_part 30 = .ok (.iload_n 3, 1) := by decide +kernel
theorem dX8_part_31 : decode cX8_part 31 = .ok (.ifCond .eq 7, 3) := by decide +kernel
theorem dX8_part_34 : decode cX8_part 34 = .ok (.iload_n 3, 1) := by decide +kernel
theorem dX8_part_35 : decode cX8_part 35 = .ok (.goto 16, 3) := by decide +kernel
theorem dX8_part_38 : decode cX8_part 38 = .ok (.aload_n 0, 1) := by decide +kernel
theorem dX8_part_39 : decode cX8_part 39 = .ok (.getfield 33, 3) := by decide +kernel
theorem dX8_part_42 : decode cX8_part 42 = .ok (.aload_n 0, 1) := by decide +kernel
theorem dX8_part_43 : decode cX8_part 43 = .ok (.getfield 26, 3) := by decide +kernel
theorem dX8_part_46 : decode cX8_part 46 = .ok (.iload_n 1, 1) := by decide +kernel
theorem dX8_part_47 : decode cX8_part 47 = .ok (.iload_n 2, 1) := by decide +kernel
theorem dX8_part_48 : decode cX8_part 48 = .ok (.invokevirtual 178, 3) := by decide +kernel
theorem dX8_part_51 : decode cX8_part 51 = .ok (.ireturn, 1) := by decide +kernel
set_option maxRecDepth 20000 in
theorem ggX8_next_X8_unsheeted : GoodIn wsX8_next wsX8_unsheeted := goodIn_r _ [7, 2, 8, 9, 10, 6, 11, 12, 59, 60, 61, 62, 63, 64, 65, 66, 67, 68, 69, 70, 71, 72, 73] (by decide +kernel) (by decide +kernel)
set_option maxRecDepth 20000 in
theorem gX8_next_X8_unsheeted : GoodIn wsX8_next (wsV RX8 168 RX8 yX8_unsheeted wsX8_unsheeted) := goodIn_app (goodIn_of _ (by decide +kernel)) ggX8_next_X8_unsheeted
set_option maxRecDepth 20000 in
theorem ggX8_next_X2_bestRow : GoodIn wsX8_next wsX2_bestRow := goodIn_r _ [16, 17, 18, 19, 14, 20, 21, 22, 23, 24, 25, 26, 27, 28, 29, 30, 31, 32, 33, 34, 35, 36, 37, 38, 39, 40, 41, 42, 43, 44, 45, 46, 47, 48, 49, 50, 51, 52, 53, 54, 6, 55, 56, 57, 58, 68, 69, 70, 71, 72, 73, 74, 75, 76, 77, 78, 79, 80, 81, 82, 83, 84, 85, 86] (by decide +kernel) (by decide +kernel)
set_option maxRecDepth 20000 in
theorem gX8_next_X2_bestRow_n182 : GoodIn wsX8_next (wsX2_bestRow) := ggX8_next_X2_bestRow
theorem dX8_next_0 : decode cX8_next 0 = .ok (.iload_n 1, 1) := by decide +kernel
theorem dX8_next_1 : decode cX8_next 1 = .ok (.iconst 1, 1) := by decide +kernel
theorem dX8_next_2 : decode cX8_next 2 = .ok (.if_icmp .lt 8, 3) := by decide +kernel
theorem dX8_next_5 : decode cX8_next 5 = .ok (.iload_n 1, 1) := by decide +kernel
theorem dX8_next_6 : decode cX8_next 6 = .ok (.iconst 3, 1) := by decide +kernel
theorem dX8_next_7 : decode cX8_next 7 = .ok (.if_icmp .le 5, 3) := by decide +kernel
theorem dX8_next_10 : decode cX8_next 10 = .ok (.iconst (-1), 1) := by decide +kernel
theorem dX8_next_11 : decode cX8_next 11 = .ok (.ireturn, 1) := by decide +kernel
theorem dX8_next_12 : decode cX8_next 12 = .ok (.aload_n 0, 1) := by decide +kernel
theorem dX8_next_13 : decode cX8_next 13 = .ok (.invokevirtual 168, 3) := by decide +kernel
theorem dX8_next_16 : decode cX8_next 16 = .ok (.istore_n 2, 1) := by decide +kernel
theorem dX8_next_17 : decode cX8_next 17 = .ok (.iload_n 2, 1) := by decide +kernel
theorem dX8_next_18 : decode cX8_next 18 = .ok (.ifCond .eq 7, 3) := by decide +kernel
theorem dX8_next_21 : decode cX8_next 21 = .ok (.iload_n 2, 1) := by decide +kernel
theorem dX8_next_22 : decode cX8_next 22 = .ok (.goto 15, 3) := by decide +kernel
theorem dX8_next_25 : decode cX8_next 25 = .ok (.aload_n 0, 1) := by decide +kernel
theorem dX8_next_26 : decode cX8_next 26 = .ok (.getfield 33, 3) := by decide +kernel
theorem dX8_next_29 : decode cX8_next 29 = .ok (.aload_n 0, 1) := by decide +kernel
theorem dX8_next_30 : decode cX8_next 30 = .ok (.getfield 26, 3) := by decide +kernel
theorem dX8_next_33 : decode cX8_next 33 = .ok (.iload_n 1, 1) := by decide +kernel
theorem dX8_next_34 : decode cX8_next 34 = .ok (.invokevirtual 182, 3) := by decide +kernel
theorem dX8_next_37 : decode cX8_next 37 = .ok (.ireturn, 1) := by decide +kernel
set_option maxRecDepth 20000 in
theorem ggX8_go_X8_isPlace : GoodIn wsX8_go wsX8_isPlace := goodIn_r _ [7, 2, 8, 9, 6, 10, 43, 44, 45, 46, 47, 48, 49, 50, 51, 52, 53, 54, 55, 56, 57, 61, 62, 63, 64, 65] (by decide +kernel) (by decide +kernel)
set_option maxRecDepth 20000 in
theorem gX8_go_X8_isPlace : GoodIn wsX8_go (wsV RX8 156 RX8 yX8_isPlace wsX8_isPlace) := goodIn_app (goodIn_of _ (by decide +kernel)) ggX8_go_X8_isPlace
set_option maxRecDepth 20000 in
theorem ggX8_go_X3_find : GoodIn wsX8_go wsX3_find := goodIn_r _ [14, 15, 16, 17, 18, 19, 20, 12, 21, 22, 23, 24, 25, 26, 27, 28, 29, 30, 31, 32, 33, 34, 35, 36, 37, 38, 39, 40, 41, 42, 58, 59, 60, 61, 62, 63, 64, 65] (by decide +kernel) (by decide +kernel)
set_option maxRecDepth 20000 in
theorem gX8_go_X3_find_n186 : GoodIn wsX8_go (wsX3_find) := ggX8_go_X3_find
theorem dX8_go_0 : decode cX8_go 0 = .ok (.aload_n 0, 1) := by decide +kernel
theorem dX8_go_1 : decode cX8_go 1 = .ok (.iload_n 1, 1) := by decide +kernel
theorem dX8_go_2 : decode cX8_go 2 = .ok (.iload_n 2, 1) := by decide +kernel
theorem dX8_go_3 : decode cX8_go 3 = .ok (.invokevirtual 156, 3) := by decide +kernel
theorem dX8_go_6 : decode cX8_go 6 = .ok (.ifCond .ne 5, 3) := by decide +kernel
theorem dX8_go_9 : decode cX8_go 9 = .ok (.iconst (-1), 1) := by decide +kernel
theorem dX8_go_10 : decode cX8_go 10 = .ok (.ireturn, 1) := by decide +kernel
theorem dX8_go_11 : decode cX8_go 11 = .ok (.aload_n 0, 1) := by decide +kernel
theorem dX8_go_12 : decode cX8_go 12 = .ok (.getfield 40, 3) := by decide +kernel
theorem dX8_go_15 : decode cX8_go 15 = .ok (.aload_n 0, 1) := by decide +kernel
theorem dX8_go_16 : decode cX8_go 16 = .ok (.getfield 26, 3) := by decide +kernel
theorem dX8_go_19 : decode cX8_go 19 = .ok (.getfield 142, 3) := by decide +kernel
theorem dX8_go_22 : decode cX8_go 22 = .ok (.iload_n 1, 1) := by decide +kernel
theorem dX8_go_23 : decode cX8_go 23 = .ok (.aaload, 1) := by decide +kernel
theorem dX8_go_24 : decode cX8_go 24 = .ok (.iload_n 2, 1) := by decide +kernel
theorem dX8_go_25 : decode cX8_go 25 = .ok (.invokevirtual 186, 3) := by decide +kernel
theorem dX8_go_28 : decode cX8_go 28 = .ok (.ifCond .eq 13, 3) := by decide +kernel
theorem dX8_go_31 : decode cX8_go 31 = .ok (.aload_n 0, 1) := by decide +kernel
theorem dX8_go_32 : decode cX8_go 32 = .ok (.getfield 40, 3) := by decide +kernel
theorem dX8_go_35 : decode cX8_go 35 = .ok (.getfield 190, 3) := by decide +kernel
theorem dX8_go_38 : decode cX8_go 38 = .ok (.goto 5, 3) := by decide +kernel
theorem dX8_go_41 : decode cX8_go 41 = .ok (.bipush (-2), 2) := by decide +kernel
theorem dX8_go_43 : decode cX8_go 43 = .ok (.ireturn, 1) := by decide +kernel
set_option maxRecDepth 20000 in
theorem ggX8_way_X8_within : GoodIn wsX8_way wsX8_within := goodIn_r _ [5] (by decide +kernel) (by decide +kernel)
set_option maxRecDepth 20000 in
theorem gX8_way_X8_within : GoodIn wsX8_way (va_wsS RX8 65 yX8_within wsX8_within) := goodIn_app (goodIn_of _ (by decide +kernel)) ggX8_way_X8_within
theorem dX8_way_0 : decode cX8_way 0 = .ok (.iload_n 1, 1) := by decide +kernel
theorem dX8_way_1 : decode cX8_way 1 = .ok (.aload_n 0, 1) := by decide +kernel
theorem dX8_way_2 : decode cX8_way 2 = .ok (.getfield 40, 3) := by decide +kernel
theorem dX8_way_5 : decode cX8_way 5 = .ok (.getfield 190, 3) := by decide +kernel
theorem dX8_way_8 : decode cX8_way 8 = .ok (.invokestatic 65, 3) := by decide +kernel
theorem dX8_way_11 : decode cX8_way 11 = .ok (.ifCond .eq 15, 3) := by decide +kernel
theorem dX8_way_14 : decode cX8_way 14 = .ok (.aload_n 0, 1) := by decide +kernel
theorem dX8_way_15 : decode cX8_way 15 = .ok (.getfield 40, 3) := by decide +kernel
theorem dX8_way_18 : decode cX8_way 18 = .ok (.getfield 191, 3) := by decide +kernel
theorem dX8_way_21 : decode cX8_way 21 = .ok (.iload_n 1, 1) := by decide +kernel
theorem dX8_way_22 : decode cX8_way 22 = .ok (.iaload, 1) := by decide +kernel
theorem dX8_way_23 : decode cX8_way 23 = .ok (.goto 4, 3) := by decide +kernel
theorem dX8_way_26 : decode cX8_way 26 = .ok (.iconst (-1), 1) := by decide +kernel
theorem dX8_way_27 : decode cX8_way 27 = .ok (.ireturn, 1) := by decide +kernel
set_option maxRecDepth 20000 in
theorem ggX8_hand_X8_within : GoodIn wsX8_hand wsX8_within := goodIn_r _ [6] (by decide +kernel) (by decide +kernel)
set_option maxRecDepth 20000 in
theorem gX8_hand_X8_within : GoodIn wsX8_hand (va_wsS RX8 65 yX8_within wsX8_within) := goodIn_app (goodIn_of _ (by decide +kernel)) ggX8_hand_X8_within
set_option maxRecDepth 20000 in
theorem ggX8_hand_X8_handLead : GoodIn wsX8_hand wsX8_handLead := goodIn_r _ [9] (by decide +kernel) (by decide +kernel)
set_option maxRecDepth 20000 in
theorem gX8_hand_X8_handLead : GoodIn wsX8_hand (va_wsS RX8 193 yX8_handLead wsX8_handLead) := goodIn_app (goodIn_of _ (by decide +kernel)) ggX8_hand_X8_handLead
set_option maxRecDepth 20000 in
theorem ggX8_hand_X4_setLead : GoodIn wsX8_hand wsX4_setLead := goodIn_r _ [13, 14, 24, 25, 26, 27, 28] (by decide +kernel) (by decide +kernel)
set_option maxRecDepth 20000 in
theorem gX8_hand_X4_setLead_n196 : GoodIn wsX8_hand (wsX4_setLead) := ggX8_hand_X4_setLead
theorem dX8_hand_0 : decode cX8_hand 0 = .ok (.iload_n 1, 1) := by decide +kernel
theorem dX8_hand_1 : decode cX8_hand 1 = .ok (.bipush 6, 2) := by decide +kernel
theorem dX8_hand_3 : decode cX8_hand 3 = .ok (.invokestatic 65, 3) := by decide +kernel
theorem dX8_hand_6 : decode cX8_hand 6 = .ok (.ifCond .eq 20, 3) := by decide +kernel
theorem dX8_hand_9 : decode cX8_hand 9 = .ok (.iload_n 2, 1) := by decide +kernel
theorem dX8_hand_10 : decode cX8_hand 10 = .ok (.iconst 4, 1) := by decide +kernel
theorem dX8_hand_11 : decode cX8_hand 11 = .ok (.invokestatic 65, 3) := by decide +kernel
theorem dX8_hand_14 : decode cX8_hand 14 = .ok (.ifCond .eq 12, 3) := by decide +kernel
theorem dX8_hand_17 : decode cX8_hand 17 = .ok (.iload_n 3, 1) := by decide +kernel
theorem dX8_hand_18 : decode cX8_hand 18 = .ok (.ldc 192, 2) := by decide +kernel
theorem dX8_hand_20 : decode cX8_hand 20 = .ok (.invokestatic 65, 3) := by decide +kernel
theorem dX8_hand_23 : decode cX8_hand 23 = .ok (.ifCond .ne 5, 3) := by decide +kernel
theorem dX8_hand_26 : decode cX8_hand 26 = .ok (.iconst (-1), 1) := by decide +kernel
theorem dX8_hand_27 : decode cX8_hand 27 = .ok (.ireturn, 1) := by decide +kernel
theorem dX8_hand_28 : decode cX8_hand 28 = .ok (.aload_n 0, 1) := by decide +kernel
theorem dX8_hand_29 : decode cX8_hand 29 = .ok (.getfield 47, 3) := by decide +kernel
theorem dX8_hand_32 : decode cX8_hand 32 = .ok (.getfield 163, 3) := by decide +kernel
theorem dX8_hand_35 : decode cX8_hand 35 = .ok (.iload_n 1, 1) := by decide +kernel
theorem dX8_hand_36 : decode cX8_hand 36 = .ok (.iload_n 2, 1) := by decide +kernel
theorem dX8_hand_37 : decode cX8_hand 37 = .ok (.iastore, 1) := by decide +kernel
theorem dX8_hand_38 : decode cX8_hand 38 = .ok (.iconst 0, 1) := by decide +kernel
theorem dX8_hand_39 : decode cX8_hand 39 = .ok (.istore 4, 2) := by decide +kernel
theorem dX8_hand_41 : decode cX8_hand 41 = .ok (.iload 4, 2) := by decide +kernel
theorem dX8_hand_43 : decode cX8_hand 43 = .ok (.iconst 5, 1) := by decide +kernel
theorem dX8_hand_44 : decode cX8_hand 44 = .ok (.if_icmp .ge 34, 3) := by decide +kernel
theorem dX8_hand_47 : decode cX8_hand 47 = .ok (.aload_n 0, 1) := by decide +kernel
theorem dX8_hand_48 : decode cX8_hand 48 = .ok (.getfield 47, 3) := by decide +kernel
theorem dX8_hand_51 : decode cX8_hand 51 = .ok (.iload_n 1, 1) := by decide +kernel
theorem dX8_hand_52 : decode cX8_hand 52 = .ok (.iload 4, 2) := by decide +kernel
theorem dX8_hand_54 : decode cX8_hand 54 = .ok (.iload_n 1, 1) := by decide +kernel
theorem dX8_hand_55 : decode cX8_hand 55 = .ok (.iload 4, 2) := by decide +kernel
theorem dX8_hand_57 : decode cX8_hand 57 = .ok (.iload_n 3, 1) := by decide +kernel
theorem dX8_hand_58 : decode cX8_hand 58 = .ok (.iconst 3, 1) := by decide +kernel
theorem dX8_hand_59 : decode cX8_hand 59 = .ok (.iload 4, 2) := by decide +kernel
theorem dX8_hand_61 : decode cX8_hand 61 = .ok (.imul, 1) := by decide +kernel
theorem dX8_hand_62 : decode cX8_hand 62 = .ok (.ishr, 1) := by decide +kernel
theorem dX8_hand_63 : decode cX8_hand 63 = .ok (.bipush 7, 2) := by decide +kernel
theorem dX8_hand_65 : decode cX8_hand 65 = .ok (.iand, 1) := by decide +kernel
theorem dX8_hand_66 : decode cX8_hand 66 = .ok (.invokestatic 193, 3) := by decide +kernel
theorem dX8_hand_69 : decode cX8_hand 69 = .ok (.invokevirtual 196, 3) := by decide +kernel
theorem dX8_hand_72 : decode cX8_hand 72 = .ok (.iinc 4 1, 3) := by decide +kernel
theorem dX8_hand_75 : decode cX8_hand 75 = .ok (.goto (-34), 3) := by decide +kernel
theorem dX8_hand_78 : decode cX8_hand 78 = .ok (.iconst 0, 1) := by decide +kernel
theorem dX8_hand_79 : decode cX8_hand 79 = .ok (.ireturn, 1) := by decide +kernel
set_option maxRecDepth 20000 in
theorem ggX8_fits_X4_returnToStart : GoodIn wsX8_fits wsX4_returnToStart := goodIn_r _ [8, 9, 10, 48, 49, 50, 51, 52] (by decide +kernel) (by decide +kernel)
set_option maxRecDepth 20000 in
theorem gX8_fits_X4_returnToStart_n199 : GoodIn wsX8_fits (wsX4_returnToStart) := ggX8_fits_X4_returnToStart
set_option maxRecDepth 20000 in
theorem ggX8_fits_X4_follow : GoodIn wsX8_fits wsX4_follow := goodIn_r _ [13, 9, 14, 15, 16, 6, 17, 10, 18, 19, 20, 21, 22, 23, 24, 25, 26, 27, 28, 29, 30, 31, 32, 33, 34, 35, 36, 37, 38, 48, 49, 50, 51, 52] (by decide +kernel) (by decide +kernel)
set_option maxRecDepth 20000 in
theorem gX8_fits_X4_follow_n202 : GoodIn wsX8_fits (wsX4_follow) := ggX8_fits_X4_follow
theorem dX8_fits_0 : decode cX8_fits 0 = .ok (.aload_n 0, 1) := by decide +kernel
theorem dX8_fits_1 : decode cX8_fits 1 = .ok (.getfield 81, 3) := by decide +kernel
theorem dX8_fits_4 : decode cX8_fits 4 = .ok (.ifCond .ne 6, 3) := by decide +kernel
theorem dX8_fits_7 : decode cX8_fits 7 = .ok (.bipush (-2), 2) := by decide +kernel
theorem dX8_fits_9 : decode cX8_fits 9 = .ok (.ireturn, 1) := by decide +kernel
theorem dX8_fits_10 : decode cX8_fits 10 = .ok (.aload_n 0, 1) := by decide +kernel
theorem dX8_fits_11 : decode cX8_fits 11 = .ok (.getfield 47, 3) := by decide +kernel
theorem dX8_fits_14 : decode cX8_fits 14 = .ok (.invokevirtual 199, 3) := by decide +kernel
theorem dX8_fits_17 : decode cX8_fits 17 = .ok (.aload_n 0, 1) := by decide +kernel
theorem dX8_fits_18 : decode cX8_fits 18 = .ok (.getfield 47, 3) := by decide +kernel
theorem dX8_fits_21 : decode cX8_fits 21 = .ok (.getfield 163, 3) := by decide +kernel
theorem dX8_fits_24 : decode cX8_fits 24 = .ok (.iconst 0, 1) := by decide +kernel
theorem dX8_fits_25 : decode cX8_fits 25 = .ok (.iaload, 1) := by decide +kernel
theorem dX8_fits_26 : decode cX8_fits 26 = .ok (.aload_n 0, 1) := by decide +kernel
theorem dX8_fits_27 : decode cX8_fits 27 = .ok (.getfield 12, 3) := by decide +kernel
theorem dX8_fits_30 : decode cX8_fits 30 = .ok (.getfield 91, 3) := by decide +kernel
theorem dX8_fits_33 : decode cX8_fits 33 = .ok (.iconst 0, 1) := by decide +kernel
theorem dX8_fits_34 : decode cX8_fits 34 = .ok (.iaload, 1) := by decide +kernel
theorem dX8_fits_35 : decode cX8_fits 35 = .ok (.if_icmp .eq 6, 3) := by decide +kernel
theorem dX8_fits_38 : decode cX8_fits 38 = .ok (.bipush (-4), 2) := by decide +kernel
theorem dX8_fits_40 : decode cX8_fits 40 = .ok (.ireturn, 1) := by decide +kernel
theorem dX8_fits_41 : decode cX8_fits 41 = .ok (.iconst 0, 1) := by decide +kernel
theorem dX8_fits_42 : decode cX8_fits 42 = .ok (.istore_n 1, 1) := by decide +kernel
theorem dX8_fits_43 : decode cX8_fits 43 = .ok (.iload_n 1, 1) := by decide +kernel
theorem dX8_fits_44 : decode cX8_fits 44 = .ok (.aload_n 0, 1) := by decide +kernel
theorem dX8_fits_45 : decode cX8_fits 45 = .ok (.getfield 19, 3) := by decide +kernel
theorem dX8_fits_48 : decode cX8_fits 48 = .ok (.getfield 88, 3) := by decide +kernel
theorem dX8_fits_51 : decode cX8_fits 51 = .ok (.if_icmp .ge 41, 3) := by decide +kernel
theorem dX8_fits_54 : decode cX8_fits 54 = .ok (.aload_n 0, 1) := by decide +kernel
theorem dX8_fits_55 : decode cX8_fits 55 = .ok (.getfield 47, 3) := by decide +kernel
theorem dX8_fits_58 : decode cX8_fits 58 = .ok (.aload_n 0, 1) := by decide +kernel
theorem dX8_fits_59 : decode cX8_fits 59 = .ok (.getfield 19, 3) := by decide +kernel
theorem dX8_fits_62 : decode cX8_fits 62 = .ok (.getfield 132, 3) := by decide +kernel
theorem dX8_fits_65 : decode cX8_fits 65 = .ok (.iload_n 1, 1) := by decide +kernel
theorem dX8_fits_66 : decode cX8_fits 66 = .ok (.iaload, 1) := by decide +kernel
theorem dX8_fits_67 : decode cX8_fits 67 = .ok (.aload_n 0, 1) := by decide +kernel
theorem dX8_fits_68 : decode cX8_fits 68 = .ok (.getfield 19, 3) := by decide +kernel
theorem dX8_fits_71 : decode cX8_fits 71 = .ok (.getfield 129, 3) := by decide +kernel
theorem dX8_fits_74 : decode cX8_fits 74 = .ok (.iload_n 1, 1) := by decide +kernel
theorem dX8_fits_75 : decode cX8_fits 75 = .ok (.iaload, 1) := by decide +kernel
theorem dX8_fits_76 : decode cX8_fits 76 = .ok (.invokevirtual 202, 3) := by decide +kernel
theorem dX8_fits_79 : decode cX8_fits 79 = .ok (.ifCond .ne 7, 3) := by decide +kernel
theorem dX8_fits_82 : decode cX8_fits 82 = .ok (.iload_n 1, 1) := by decide +kernel
theorem dX8_fits_83 : decode cX8_fits 83 = .ok (.iconst 1, 1) := by decide +kernel
theorem dX8_fits_84 : decode cX8_fits 84 = .ok (.iadd, 1) := by decide +kernel
theorem dX8_fits_85 : decode cX8_fits 85 = .ok (.ireturn, 1) := by decide +kernel
theorem dX8_fits_86 : decode cX8_fits 86 = .ok (.iinc 1 1, 3) := by decide +kernel
theorem dX8_fits_89 : decode cX8_fits 89 = .ok (.goto (-46), 3) := by decide +kernel
theorem dX8_fits_92 : decode cX8_fits 92 = .ok (.iconst 0, 1) := by decide +kernel
theorem dX8_fits_93 : decode cX8_fits 93 = .ok (.ireturn, 1) := by decide +kernel
set_option maxRecDepth 20000 in
theorem ggX8_isTrue_X8_within : GoodIn wsX8_isTrue wsX8_within := goodIn_r _ [5] (by decide +kernel) (by decide +kernel)
set_option maxRecDepth 20000 in
theorem gX8_isTrue_X8_within : GoodIn wsX8_isTrue (va_wsS RX8 65 yX8_within wsX8_within) := goodIn_app (goodIn_of _ (by decide +kernel)) ggX8_isTrue_X8_within
set_option maxRecDepth 20000 in
theorem ggX8_isTrue_X8_agreesWithHouse : GoodIn wsX8_isTrue wsX8_agreesWithHouse := goodIn_r _ [9, 10, 11, 12, 13, 14, 15, 16, 17, 18, 19, 20, 21, 3, 4, 5, 22, 23, 24, 25, 26, 27, 28, 29, 30, 31, 32, 33, 34, 35, 36, 37, 38, 39, 40, 41, 42, 43, 44, 45, 46, 47, 48, 49, 50, 51, 52, 53, 54, 55, 56, 57, 58, 59, 66, 67, 68, 69, 70, 71, 72, 73, 74, 75, 76, 77, 78, 79, 80] (by decide +kernel) (by decide +kernel)
set_option maxRecDepth 20000 in
theorem gX8_isTrue_X8_agreesWithHouse : GoodIn wsX8_isTrue (wsV RX8 205 RX8 yX8_agreesWithHouse wsX8_agreesWithHouse) := goodIn_app (goodIn_of _ (by decide +kernel)) ggX8_isTrue_X8_agreesWithHouse
theorem dX8_isTrue_0 : decode cX8_isTrue 0 = .ok (.iload_n 1, 1) := by decide +kernel
theorem dX8_isTrue_1 : decode cX8_isTrue 1 = .ok (.aload_n 0, 1) := by decide +kernel
theorem dX8_isTrue_2 : decode cX8_isTrue 2 = .ok (.getfield 26, 3) := by decide +kernel
theorem dX8_isTrue_5 : decode cX8_isTrue 5 = .ok (.getfield 139, 3) := by decide +kernel
theorem dX8_isTrue_8 : decode cX8_isTrue 8 = .ok (.invokestatic 65, 3) := by decide +kernel
theorem dX8_isTrue_11 : decode cX8_isTrue 11 = .ok (.ifCond .ne 5, 3) := by decide +kernel
theorem dX8_isTrue_14 : decode cX8_isTrue 14 = .ok (.iconst (-1), 1) := by decide +kernel
theorem dX8_isTrue_15 : decode cX8_isTrue 15 = .ok (.ireturn, 1) := by decide +kernel
theorem dX8_isTrue_16 : decode cX8_isTrue 16 = .ok (.aload_n 0, 1) := by decide +kernel
theorem dX8_isTrue_17 : decode cX8_isTrue 17 = .ok (.aload_n 0, 1) := by decide +kernel
theorem dX8_isTrue_18 : decode cX8_isTrue 18 = .ok (.getfield 26, 3) := by decide +kernel
theorem dX8_isTrue_21 : decode cX8_isTrue 21 = .ok (.getfield 142, 3) := by decide +kernel
theorem dX8_isTrue_24 : decode cX8_isTrue 24 = .ok (.iload_n 1, 1) := by decide +kernel
theorem dX8_isTrue_25 : decode cX8_isTrue 25 = .ok (.aaload, 1) := by decide +kernel
theorem dX8_isTrue_26 : decode cX8_isTrue 26 = .ok (.invokevirtual 205, 3) := by decide +kernel
theorem dX8_isTrue_29 : decode cX8_isTrue 29 = .ok (.ifCond .eq 7, 3) := by decide +kernel
theorem dX8_isTrue_32 : decode cX8_isTrue 32 = .ok (.iconst 1, 1) := by decide +kernel
theorem dX8_isTrue_33 : decode cX8_isTrue 33 = .ok (.goto 4, 3) := by decide +kernel
theorem dX8_isTrue_36 : decode cX8_isTrue 36 = .ok (.iconst 0, 1) := by decide +kernel
theorem dX8_isTrue_37 : decode cX8_isTrue 37 = .ok (.ireturn, 1) := by decide +kernel
set_option maxRecDepth 20000 in
theorem ggX8_count_X8_within : GoodIn wsX8_count wsX8_within := goodIn_r _ [7] (by decide +kernel) (by decide +kernel)
set_option maxRecDepth 20000 in
theorem gX8_count_X8_within : GoodIn wsX8_count (va_wsS RX8 65 yX8_within wsX8_within) := goodIn_app (goodIn_of _ (by decide +kernel)) ggX8_count_X8_within
set_option maxRecDepth 20000 in
theorem ggX8_count_X8_cellOf : GoodIn wsX8_count wsX8_cellOf := goodIn_r _ [10] (by decide +kernel) (by decide +kernel)
set_option maxRecDepth 20000 in
theorem gX8_count_X8_cellOf : GoodIn wsX8_count (va_wsS RX8 211 yX8_cellOf wsX8_cellOf) := goodIn_app (goodIn_of _ (by decide +kernel)) ggX8_count_X8_cellOf
set_option maxRecDepth 20000 in
theorem ggX8_count_X8_turnOf : GoodIn wsX8_count wsX8_turnOf := goodIn_r _ [13] (by decide +kernel) (by decide +kernel)
set_option maxRecDepth 20000 in
theorem gX8_count_X8_turnOf : GoodIn wsX8_count (va_wsS RX8 214 yX8_turnOf wsX8_turnOf) := goodIn_app (goodIn_of _ (by decide +kernel)) ggX8_count_X8_turnOf
set_option maxRecDepth 20000 in
theorem ggX8_count_X8_switchOf : GoodIn wsX8_count wsX8_switchOf := goodIn_r _ [16] (by decide +kernel) (by decide +kernel)
set_option maxRecDepth 20000 in
theorem gX8_count_X8_switchOf : GoodIn wsX8_count (va_wsS RX8 217 yX8_switchOf wsX8_switchOf) := goodIn_app (goodIn_of _ (by decide +kernel)) ggX8_count_X8_switchOf
theorem dX8_count_0 : decode cX8_count 0 = .ok (.iload_n 1, 1) := by decide +kernel
theorem dX8_count_1 : decode cX8_count 1 = .ok (.bipush 6, 2) := by decide +kernel
theorem dX8_count_3 : decode cX8_count 3 = .ok (.invokestatic 65, 3) := by decide +kernel
theorem dX8_count_6 : decode cX8_count 6 = .ok (.ifCond .ne 5, 3) := by decide +kernel
theorem dX8_count_9 : decode cX8_count 9 = .ok (.iconst (-1), 1) := by decide +kernel
theorem dX8_count_10 : decode cX8_count 10 = .ok (.ireturn, 1) := by decide +kernel
theorem dX8_count_11 : decode cX8_count 11 = .ok (.iload_n 1, 1) := by decide +kernel
theorem dX8_count_12 : decode cX8_count 12 = .ok (.ifCond .ne 11, 3) := by decide +kernel
theorem dX8_count_15 : decode cX8_count 15 = .ok (.aload_n 0, 1) := by decide +kernel
theorem dX8_count_16 : decode cX8_count 16 = .ok (.getfield 12, 3) := by decide +kernel
theorem dX8_count_19 : decode cX8_count 19 = .ok (.getfield 69, 3) := by decide +kernel
theorem dX8_count_22 : decode cX8_count 22 = .ok (.ireturn, 1) := by decide +kernel
theorem dX8_count_23 : decode cX8_count 23 = .ok (.aload_n 0, 1) := by decide +kernel
theorem dX8_count_24 : decode cX8_count 24 = .ok (.getfield 81, 3) := by decide +kernel
theorem dX8_count_27 : decode cX8_count 27 = .ok (.ifCond .ne 6, 3) := by decide +kernel
theorem dX8_count_30 : decode cX8_count 30 = .ok (.bipush (-2), 2) := by decide +kernel
theorem dX8_count_32 : decode cX8_count 32 = .ok (.ireturn, 1) := by decide +kernel
theorem dX8_count_33 : decode cX8_count 33 = .ok (.iload_n 1, 1) := by decide +kernel
theorem dX8_count_34 : decode cX8_count 34 = .ok (.tableswitch 71 1 4 #[30, 41, 52, 63], 30) := by decide +kernel
theorem dX8_count_64 : decode cX8_count 64 = .ok (.aload_n 0, 1) := by decide +kernel
theorem dX8_count_65 : decode cX8_count 65 = .ok (.getfield 12, 3) := by decide +kernel
theorem dX8_count_68 : decode cX8_count 68 = .ok (.getfield 208, 3) := by decide +kernel
theorem dX8_count_71 : decode cX8_count 71 = .ok (.invokestatic 211, 3) := by decide +kernel
theorem dX8_count_74 : decode cX8_count 74 = .ok (.ireturn, 1) := by decide +kernel
theorem dX8_count_75 : decode cX8_count 75 = .ok (.aload_n 0, 1) := by decide +kernel
theorem dX8_count_76 : decode cX8_count 76 = .ok (.getfield 12, 3) := by decide +kernel
theorem dX8_count_79 : decode cX8_count 79 = .ok (.getfield 208, 3) := by decide +kernel
theorem dX8_count_82 : decode cX8_count 82 = .ok (.invokestatic 214, 3) := by decide +kernel
theorem dX8_count_85 : decode cX8_count 85 = .ok (.ireturn, 1) := by decide +kernel
theorem dX8_count_86 : decode cX8_count 86 = .ok (.aload_n 0, 1) := by decide +kernel
theorem dX8_count_87 : decode cX8_count 87 = .ok (.getfield 12, 3) := by decide +kernel
theorem dX8_count_90 : decode cX8_count 90 = .ok (.getfield 208, 3) := by decide +kernel
theorem dX8_count_93 : decode cX8_count 93 = .ok (.invokestatic 217, 3) := by decide +kernel
theorem dX8_count_96 : decode cX8_count 96 = .ok (.ireturn, 1) := by decide +kernel
theorem dX8_count_97 : decode cX8_count 97 = .ok (.aload_n 0, 1) := by decide +kernel
theorem dX8_count_98 : decode cX8_count 98 = .ok (.getfield 19, 3) := by decide +kernel
theorem dX8_count_101 : decode cX8_count 101 = .ok (.getfield 88, 3) := by decide +kernel
theorem dX8_count_104 : decode cX8_count 104 = .ok (.ireturn, 1) := by decide +kernel
theorem dX8_count_105 : decode cX8_count 105 = .ok (.aload_n 0, 1) := by decide +kernel
theorem dX8_count_106 : decode cX8_count 106 = .ok (.getfield 12, 3) := by decide +kernel
theorem dX8_count_109 : decode cX8_count 109 = .ok (.getfield 126, 3) := by decide +kernel
theorem dX8_count_112 : decode cX8_count 112 = .ok (.ireturn, 1) := by decide +kernel
set_option maxRecDepth 20000 in
theorem ggX8_reached_X6_clear : GoodIn wsX8_reached wsX6_clear := goodIn_r _ [7, 8, 9, 10, 52, 53, 54] (by decide +kernel) (by decide +kernel)
set_option maxRecDepth 20000 in
theorem gX8_reached_X6_clear_n220 : GoodIn wsX8_reached (wsX6_clear) := ggX8_reached_X6_clear
set_option maxRecDepth 20000 in
theorem ggX8_reached_X6_addOnce : GoodIn wsX8_reached wsX6_addOnce := goodIn_r _ [13, 9, 10, 8, 14, 15, 16, 52, 53, 54] (by decide +kernel) (by decide +kernel)
set_option maxRecDepth 20000 in
theorem gX8_reached_X6_addOnce_n223 : GoodIn wsX8_reached (wsX6_addOnce) := ggX8_reached_X6_addOnce
set_option maxRecDepth 20000 in
theorem ggX8_reached_X1_after : GoodIn wsX8_reached wsX1_after := goodIn_r _ [20, 21, 22, 23, 24, 15, 25, 26, 27, 28, 29, 30, 31, 32, 33, 34, 18, 35, 45, 46, 47, 48, 49, 50, 51] (by decide +kernel) (by decide +kernel)
set_option maxRecDepth 20000 in
theorem gX8_reached_X1_after_n233 : GoodIn wsX8_reached (wsX1_after) := ggX8_reached_X1_after
theorem dX8_reached_0 : decode cX8_reached 0 = .ok (.aload_n 0, 1) := by decide +kernel
theorem dX8_reached_1 : decode cX8_reached 1 = .ok (.getfield 81, 3) := by decide +kernel
theorem dX8_reached_4 : decode cX8_reached 4 = .ok (.ifCond .ne 6, 3) := by decide +kernel
theorem dX8_reached_7 : decode cX8_reached 7 = .ok (.bipush (-2), 2) := by decide +kernel
theorem dX8_reached_9 : decode cX8_reached 9 = .ok (.ireturn, 1) := by decide +kernel
theorem dX8_reached_10 : decode cX8_reached 10 = .ok (.aload_n 0, 1) := by decide +kernel
theorem dX8_reached_11 : decode cX8_reached 11 = .ok (.getfield 54, 3) := by decide +kernel
theorem dX8_reached_14 : decode cX8_reached 14 = .ok (.invokevirtual 220, 3) := by decide +kernel
theorem dX8_reached_17 : decode cX8_reached 17 = .ok (.aload_n 0, 1) := by decide +kernel
theorem dX8_reached_18 : decode cX8_reached 18 = .ok (.getfield 54, 3) := by decide +kernel
theorem dX8_reached_21 : decode cX8_reached 21 = .ok (.aload_n 0, 1) := by decide +kernel
theorem dX8_reached_22 : decode cX8_reached 22 = .ok (.getfield 12, 3) := by decide +kernel
theorem dX8_reached_25 : decode cX8_reached 25 = .ok (.getfield 208, 3) := by decide +kernel
theorem dX8_reached_28 : decode cX8_reached 28 = .ok (.invokevirtual 223, 3) := by decide +kernel
theorem dX8_reached_31 : decode cX8_reached 31 = .ok (.iconst 0, 1) := by decide +kernel
theorem dX8_reached_32 : decode cX8_reached 32 = .ok (.istore_n 1, 1) := by decide +kernel
theorem dX8_reached_33 : decode cX8_reached 33 = .ok (.iload_n 1, 1) := by decide +kernel
theorem dX8_reached_34 : decode cX8_reached 34 = .ok (.aload_n 0, 1) := by decide +kernel
theorem dX8_reached_35 : decode cX8_reached 35 = .ok (.getfield 54, 3) := by decide +kernel
theorem dX8_reached_38 : decode cX8_reached 38 = .ok (.getfield 227, 3) := by decide +kernel
theorem dX8_reached_41 : decode cX8_reached 41 = .ok (.if_icmp .ge 52, 3) := by decide +kernel
theorem dX8_reached_44 : decode cX8_reached 44 = .ok (.iload_n 1, 1) := by decide +kernel
theorem dX8_reached_45 : decode cX8_reached 45 = .ok (.bipush 80, 2) := by decide +kernel
theorem dX8_reached_47 : decode cX8_reached 47 = .ok (.if_icmp .ge 46, 3) := by decide +kernel
theorem dX8_reached_50 : decode cX8_reached 50 = .ok (.iconst 0, 1) := by decide +kernel
theorem dX8_reached_51 : decode cX8_reached 51 = .ok (.istore_n 2, 1) := by decide +kernel
theorem dX8_reached_52 : decode cX8_reached 52 = .ok (.iload_n 2, 1) := by decide +kernel
theorem dX8_reached_53 : decode cX8_reached 53 = .ok (.iconst 5, 1) := by decide +kernel
theorem dX8_reached_54 : decode cX8_reached 54 = .ok (.if_icmp .ge 33, 3) := by decide +kernel
theorem dX8_reached_57 : decode cX8_reached 57 = .ok (.aload_n 0, 1) := by decide +kernel
theorem dX8_reached_58 : decode cX8_reached 58 = .ok (.getfield 54, 3) := by decide +kernel
theorem dX8_reached_61 : decode cX8_reached 61 = .ok (.aload_n 0, 1) := by decide +kernel
theorem dX8_reached_62 : decode cX8_reached 62 = .ok (.getfield 12, 3) := by decide +kernel
theorem dX8_reached_65 : decode cX8_reached 65 = .ok (.aload_n 0, 1) := by decide +kernel
theorem dX8_reached_66 : decode cX8_reached 66 = .ok (.getfield 54, 3) := by decide +kernel
theorem dX8_reached_69 : decode cX8_reached 69 = .ok (.getfield 230, 3) := by decide +kernel
theorem dX8_reached_72 : decode cX8_reached 72 = .ok (.iload_n 1, 1) := by decide +kernel
theorem dX8_reached_73 : decode cX8_reached 73 = .ok (.iaload, 1) := by decide +kernel
theorem dX8_reached_74 : decode cX8_reached 74 = .ok (.iload_n 2, 1) := by decide +kernel
theorem dX8_reached_75 : decode cX8_reached 75 = .ok (.invokevirtual 233, 3) := by decide +kernel
theorem dX8_reached_78 : decode cX8_reached 78 = .ok (.invokevirtual 223, 3) := by decide +kernel
theorem dX8_reached_81 : decode cX8_reached 81 = .ok (.iinc 2 1, 3) := by decide +kernel
theorem dX8_reached_84 : decode cX8_reached 84 = .ok (.goto (-32), 3) := by decide +kernel
theorem dX8_reached_87 : decode cX8_reached 87 = .ok (.iinc 1 1, 3) := by decide +kernel
theorem dX8_reached_90 : decode cX8_reached 90 = .ok (.goto (-57), 3) := by decide +kernel
theorem dX8_reached_93 : decode cX8_reached 93 = .ok (.aload_n 0, 1) := by decide +kernel
theorem dX8_reached_94 : decode cX8_reached 94 = .ok (.getfield 54, 3) := by decide +kernel
theorem dX8_reached_97 : decode cX8_reached 97 = .ok (.getfield 227, 3) := by decide +kernel
theorem dX8_reached_100 : decode cX8_reached 100 = .ok (.ireturn, 1) := by decide +kernel
set_option maxRecDepth 20000 in
theorem ggX8_keep_X8_within : GoodIn wsX8_keep wsX8_within := goodIn_r _ [5] (by decide +kernel) (by decide +kernel)
set_option maxRecDepth 20000 in
theorem gX8_keep_X8_within : GoodIn wsX8_keep (va_wsS RX8 65 yX8_within wsX8_within) := goodIn_app (goodIn_of _ (by decide +kernel)) ggX8_keep_X8_within
set_option maxRecDepth 20000 in
theorem ggX8_keep_X8_keepLead : GoodIn wsX8_keep wsX8_keepLead := goodIn_r _ [9, 10, 2, 3, 4, 5, 11, 12, 13, 14, 15, 16, 17, 42, 43, 44, 45, 46, 47, 48, 49, 50, 56, 57, 58, 59, 60, 61, 62, 51, 52, 53, 54, 55] (by decide +kernel) (by decide +kernel)
set_option maxRecDepth 20000 in
theorem gX8_keep_X8_keepLead : GoodIn wsX8_keep (wsV RX8 239 RX8 yX8_keepLead wsX8_keepLead) := goodIn_app (goodIn_of _ (by decide +kernel)) ggX8_keep_X8_keepLead
set_option maxRecDepth 20000 in
theorem ggX8_keep_X8_keepActs : GoodIn wsX8_keep wsX8_keepActs := goodIn_r _ [21, 22, 23, 24, 25, 26, 27, 28, 12, 29, 30, 15, 31, 32, 33, 34, 35, 36, 42, 43, 44, 45, 46, 47, 48, 49, 50, 63, 64, 65, 51, 52, 53, 54, 55] (by decide +kernel) (by decide +kernel)
set_option maxRecDepth 20000 in
theorem gX8_keep_X8_keepActs : GoodIn wsX8_keep (wsV RX8 243 RX8 yX8_keepActs wsX8_keepActs) := goodIn_app (goodIn_of _ (by decide +kernel)) ggX8_keep_X8_keepActs
set_option maxRecDepth 20000 in
theorem ggX8_keep_X8_keepSigns : GoodIn wsX8_keep wsX8_keepSigns := goodIn_r _ [40, 41, 2, 3, 4, 5, 28, 12, 29, 30, 15, 31, 32, 33, 34, 35, 36, 42, 43, 44, 45, 46, 47, 48, 49, 50, 66, 67, 68, 69, 70, 71, 72, 73, 74, 75, 76, 51, 52, 53, 54, 55] (by decide +kernel) (by decide +kernel)
set_option maxRecDepth 20000 in
theorem gX8_keep_X8_keepSigns : GoodIn wsX8_keep (wsV RX8 247 RX8 yX8_keepSigns wsX8_keepSigns) := goodIn_app (goodIn_of _ (by decide +kernel)) ggX8_keep_X8_keepSigns
theorem dX8_keep_0 : decode cX8_keep 0 = .ok (.iload_n 1, 1) := by decide +kernel
theorem dX8_keep_1 : decode cX8_keep 1 = .ok (.bipush 8, 2) := by decide +kernel
theorem dX8_keep_3 : decode cX8_keep 3 = .ok (.invokestatic 65, 3) := by decide +kernel
theorem dX8_keep_6 : decode cX8_keep 6 = .ok (.ifCond .ne 5, 3) := by decide +kernel
theorem dX8_keep_9 : decode cX8_keep 9 = .ok (.iconst (-1), 1) := by decide +kernel
theorem dX8_keep_10 : decode cX8_keep 10 = .ok (.ireturn, 1) := by decide +kernel
theorem dX8_keep_11 : decode cX8_keep 11 = .ok (.iload_n 2, 1) := by decide +kernel
theorem dX8_keep_12 : decode cX8_keep 12 = .ok (.tableswitch 83 0 4 #[36, 48, 83, 60, 71], 36) := by decide +kernel
theorem dX8_keep_48 : decode cX8_keep 48 = .ok (.aload_n 0, 1) := by decide +kernel
theorem dX8_keep_49 : decode cX8_keep 49 = .ok (.getfield 60, 3) := by decide +kernel
theorem dX8_keep_52 : decode cX8_keep 52 = .ok (.iload_n 1, 1) := by decide +kernel
theorem dX8_keep_53 : decode cX8_keep 53 = .ok (.aaload, 1) := by decide +kernel
theorem dX8_keep_54 : decode cX8_keep 54 = .ok (.iconst 0, 1) := by decide +kernel
theorem dX8_keep_55 : decode cX8_keep 55 = .ok (.putfield 236, 3) := by decide +kernel
theorem dX8_keep_58 : decode cX8_keep 58 = .ok (.iconst 0, 1) := by decide +kernel
theorem dX8_keep_59 : decode cX8_keep 59 = .ok (.ireturn, 1) := by decide +kernel
theorem dX8_keep_60 : decode cX8_keep 60 = .ok (.aload_n 0, 1) := by decide +kernel
theorem dX8_keep_61 : decode cX8_keep 61 = .ok (.aload_n 0, 1) := by decide +kernel
theorem dX8_keep_62 : decode cX8_keep 62 = .ok (.getfield 60, 3) := by decide +kernel
theorem dX8_keep_65 : decode cX8_keep 65 = .ok (.iload_n 1, 1) := by decide +kernel
theorem dX8_keep_66 : decode cX8_keep 66 = .ok (.aaload, 1) := by decide +kernel
theorem dX8_keep_67 : decode cX8_keep 67 = .ok (.iload_n 3, 1) := by decide +kernel
theorem dX8_keep_68 : decode cX8_keep 68 = .ok (.invokevirtual 239, 3) := by decide +kernel
theorem dX8_keep_71 : decode cX8_keep 71 = .ok (.ireturn, 1) := by decide +kernel
theorem dX8_keep_72 : decode cX8_keep 72 = .ok (.aload_n 0, 1) := by decide +kernel
theorem dX8_keep_73 : decode cX8_keep 73 = .ok (.aload_n 0, 1) := by decide +kernel
theorem dX8_keep_74 : decode cX8_keep 74 = .ok (.getfield 60, 3) := by decide +kernel
theorem dX8_keep_77 : decode cX8_keep 77 = .ok (.iload_n 1, 1) := by decide +kernel
theorem dX8_keep_78 : decode cX8_keep 78 = .ok (.aaload, 1) := by decide +kernel
theorem dX8_keep_79 : decode cX8_keep 79 = .ok (.invokevirtual 243, 3) := by decide +kernel
theorem dX8_keep_82 : decode cX8_keep 82 = .ok (.ireturn, 1) := by decide +kernel
theorem dX8_keep_83 : decode cX8_keep 83 = .ok (.aload_n 0, 1) := by decide +kernel
theorem dX8_keep_84 : decode cX8_keep 84 = .ok (.aload_n 0, 1) := by decide +kernel
theorem dX8_keep_85 : decode cX8_keep 85 = .ok (.getfield 60, 3) := by decide +kernel
theorem dX8_keep_88 : decode cX8_keep 88 = .ok (.iload_n 1, 1) := by decide +kernel
theorem dX8_keep_89 : decode cX8_keep 89 = .ok (.aaload, 1) := by decide +kernel
theorem dX8_keep_90 : decode cX8_keep 90 = .ok (.iload_n 3, 1) := by decide +kernel
theorem dX8_keep_91 : decode cX8_keep 91 = .ok (.invokevirtual 247, 3) := by decide +kernel
theorem dX8_keep_94 : decode cX8_keep 94 = .ok (.ireturn, 1) := by decide +kernel
theorem dX8_keep_95 : decode cX8_keep 95 = .ok (.iconst (-1), 1) := by decide +kernel
theorem dX8_keep_96 : decode cX8_keep 96 = .ok (.ireturn, 1) := by decide +kernel
set_option maxRecDepth 20000 in
theorem ggX8_make_X8_within : GoodIn wsX8_make wsX8_within := goodIn_r _ [5] (by decide +kernel) (by decide +kernel)
set_option maxRecDepth 20000 in
theorem gX8_make_X8_within : GoodIn wsX8_make (va_wsS RX8 65 yX8_within wsX8_within) := goodIn_app (goodIn_of _ (by decide +kernel)) ggX8_make_X8_within
set_option maxRecDepth 20000 in
theorem ggX8_make_X5_holdRow : GoodIn wsX8_make wsX5_holdRow := goodIn_r _ [9, 10, 11, 12, 13, 14, 15, 16, 26, 27, 28, 29, 30] (by decide +kernel) (by decide +kernel)
set_option maxRecDepth 20000 in
theorem gX8_make_X5_holdRow_n250 : GoodIn wsX8_make (wsX5_holdRow) := ggX8_make_X5_holdRow
theorem dX8_make_0 : decode cX8_make 0 = .ok (.iload_n 1, 1) := by decide +kernel
theorem dX8_make_1 : decode cX8_make 1 = .ok (.bipush 8, 2) := by decide +kernel
theorem dX8_make_3 : decode cX8_make 3 = .ok (.invokestatic 65, 3) := by decide +kernel
theorem dX8_make_6 : decode cX8_make 6 = .ok (.ifCond .eq 19, 3) := by decide +kernel
theorem dX8_make_9 : decode cX8_make 9 = .ok (.iload_n 2, 1) := by decide +kernel
theorem dX8_make_10 : decode cX8_make 10 = .ok (.iconst 3, 1) := by decide +kernel
theorem dX8_make_11 : decode cX8_make 11 = .ok (.if_icmp .eq 8, 3) := by decide +kernel
theorem dX8_make_14 : decode cX8_make 14 = .ok (.iload_n 2, 1) := by decide +kernel
theorem dX8_make_15 : decode cX8_make 15 = .ok (.iconst 4, 1) := by decide +kernel
theorem dX8_make_16 : decode cX8_make 16 = .ok (.if_icmp .ne 9, 3) := by decide +kernel
theorem dX8_make_19 : decode cX8_make 19 = .ok (.iload_n 3, 1) := by decide +kernel
theorem dX8_make_20 : decode cX8_make 20 = .ok (.bipush 60, 2) := by decide +kernel
theorem dX8_make_22 : decode cX8_make 22 = .ok (.if_icmp .le 5, 3) := by decide +kernel
theorem dX8_make_25 : decode cX8_make 25 = .ok (.iconst (-1), 1) := by decide +kernel
theorem dX8_make_26 : decode cX8_make 26 = .ok (.ireturn, 1) := by decide +kernel
theorem dX8_make_27 : decode cX8_make 27 = .ok (.iload_n 3, 1) := by decide +kernel
theorem dX8_make_28 : decode cX8_make 28 = .ok (.ifCond .ge 6, 3) := by decide +kernel
theorem dX8_make_31 : decode cX8_make 31 = .ok (.bipush (-14), 2) := by decide +kernel
theorem dX8_make_33 : decode cX8_make 33 = .ok (.ireturn, 1) := by decide +kernel
theorem dX8_make_34 : decode cX8_make 34 = .ok (.aload_n 0, 1) := by decide +kernel
theorem dX8_make_35 : decode cX8_make 35 = .ok (.getfield 60, 3) := by decide +kernel
theorem dX8_make_38 : decode cX8_make 38 = .ok (.iload_n 1, 1) := by decide +kernel
theorem dX8_make_39 : decode cX8_make 39 = .ok (.aaload, 1) := by decide +kernel
theorem dX8_make_40 : decode cX8_make 40 = .ok (.iload_n 2, 1) := by decide +kernel
theorem dX8_make_41 : decode cX8_make 41 = .ok (.iload_n 3, 1) := by decide +kernel
theorem dX8_make_42 : decode cX8_make 42 = .ok (.invokevirtual 250, 3) := by decide +kernel
theorem dX8_make_45 : decode cX8_make 45 = .ok (.iconst 0, 1) := by decide +kernel
theorem dX8_make_46 : decode cX8_make 46 = .ok (.ireturn, 1) := by decide +kernel
set_option maxRecDepth 20000 in
theorem ggX8_element_X8_within : GoodIn wsX8_element wsX8_within := goodIn_r _ [9] (by decide +kernel) (by decide +kernel)
set_option maxRecDepth 20000 in
theorem gX8_element_X8_within : GoodIn wsX8_element (va_wsS RX8 65 yX8_within wsX8_within) := goodIn_app (goodIn_of _ (by decide +kernel)) ggX8_element_X8_within
set_option maxRecDepth 20000 in
theorem ggX8_element_X5_isRow : GoodIn wsX8_element wsX5_isRow := goodIn_r _ [13, 14, 24, 25, 26, 27, 28] (by decide +kernel) (by decide +kernel)
set_option maxRecDepth 20000 in
theorem gX8_element_X5_isRow_n260 : GoodIn wsX8_element (wsX5_isRow) := ggX8_element_X5_isRow
theorem dX8_element_0 : decode cX8_element 0 = .ok (.iload_n 1, 1) := by decide +kernel
theorem dX8_element_1 : decode cX8_element 1 = .ok (.bipush 8, 2) := by decide +kernel
theorem dX8_element_3 : decode cX8_element 3 = .ok (.invokestatic 65, 3) := by decide +kernel
theorem dX8_element_6 : decode cX8_element 6 = .ok (.ifCond .ne 13, 3) := by decide +kernel
theorem dX8_element_9 : decode cX8_element 9 = .ok (.new 253, 3) := by decide +kernel
theorem dX8_element_12 : decode cX8_element 12 = .ok (.dup, 1) := by decide +kernel
theorem dX8_element_13 : decode cX8_element 13 = .ok (.ldc 255, 2) := by decide +kernel
theorem dX8_element_15 : decode cX8_element 15 = .ok (.invokespecial 257, 3) := by decide +kernel
theorem dX8_element_18 : decode cX8_element 18 = .ok (.athrow, 1) := by decide +kernel
theorem dX8_element_19 : decode cX8_element 19 = .ok (.aload_n 0, 1) := by decide +kernel
theorem dX8_element_20 : decode cX8_element 20 = .ok (.getfield 60, 3) := by decide +kernel
theorem dX8_element_23 : decode cX8_element 23 = .ok (.iload_n 1, 1) := by decide +kernel
theorem dX8_element_24 : decode cX8_element 24 = .ok (.aaload, 1) := by decide +kernel
theorem dX8_element_25 : decode cX8_element 25 = .ok (.astore_n 3, 1) := by decide +kernel
theorem dX8_element_26 : decode cX8_element 26 = .ok (.aload_n 3, 1) := by decide +kernel
theorem dX8_element_27 : decode cX8_element 27 = .ok (.invokevirtual 260, 3) := by decide +kernel
theorem dX8_element_30 : decode cX8_element 30 = .ok (.ifCond .ne 14, 3) := by decide +kernel
theorem dX8_element_33 : decode cX8_element 33 = .ok (.new 263, 3) := by decide +kernel
theorem dX8_element_36 : decode cX8_element 36 = .ok (.dup, 1) := by decide +kernel
theorem dX8_element_37 : decode cX8_element 37 = .ok (.ldc_w 265, 3) := by decide +kernel
theorem dX8_element_40 : decode cX8_element 40 = .ok (.invokespecial 267, 3) := by decide +kernel
theorem dX8_element_43 : decode cX8_element 43 = .ok (.athrow, 1) := by decide +kernel
theorem dX8_element_44 : decode cX8_element 44 = .ok (.iload_n 2, 1) := by decide +kernel
theorem dX8_element_45 : decode cX8_element 45 = .ok (.aload_n 3, 1) := by decide +kernel
theorem dX8_element_46 : decode cX8_element 46 = .ok (.getfield 268, 3) := by decide +kernel
theorem dX8_element_49 : decode cX8_element 49 = .ok (.invokestatic 65, 3) := by decide +kernel
theorem dX8_element_52 : decode cX8_element 52 = .ok (.ifCond .ne 14, 3) := by decide +kernel
theorem dX8_element_55 : decode cX8_element 55 = .ok (.new 263, 3) := by decide +kernel
theorem dX8_element_58 : decode cX8_element 58 = .ok (.dup, 1) := by decide +kernel
theorem dX8_element_59 : decode cX8_element 59 = .ok (.ldc_w 269, 3) := by decide +kernel
theorem dX8_element_62 : decode cX8_element 62 = .ok (.invokespecial 267, 3) := by decide +kernel
theorem dX8_element_65 : decode cX8_element 65 = .ok (.athrow, 1) := by decide +kernel
theorem dX8_element_66 : decode cX8_element 66 = .ok (.aload_n 3, 1) := by decide +kernel
theorem dX8_element_67 : decode cX8_element 67 = .ok (.getfield 271, 3) := by decide +kernel
theorem dX8_element_70 : decode cX8_element 70 = .ok (.iload_n 2, 1) := by decide +kernel
theorem dX8_element_71 : decode cX8_element 71 = .ok (.laload, 1) := by decide +kernel
theorem dX8_element_72 : decode cX8_element 72 = .ok (.lreturn, 1) := by decide +kernel
set_option maxRecDepth 20000 in
theorem ggX8_copy_X8_within : GoodIn wsX8_copy wsX8_within := goodIn_r _ [9] (by decide +kernel) (by decide +kernel)
set_option maxRecDepth 20000 in
theorem gX8_copy_X8_within : GoodIn wsX8_copy (va_wsS RX8 65 yX8_within wsX8_within) := goodIn_app (goodIn_of _ (by decide +kernel)) ggX8_copy_X8_within
set_option maxRecDepth 20000 in
theorem ggX8_copy_X5_isRow : GoodIn wsX8_copy wsX5_isRow := goodIn_r _ [13, 14, 28, 29, 30, 31, 32] (by decide +kernel) (by decide +kernel)
set_option maxRecDepth 20000 in
theorem gX8_copy_X5_isRow_n260 : GoodIn wsX8_copy (wsX5_isRow) := ggX8_copy_X5_isRow
set_option maxRecDepth 20000 in
theorem ggX8_copy_X5_hasStretch : GoodIn wsX8_copy wsX5_hasStretch := goodIn_r _ [17, 18, 28, 29, 30, 31, 32] (by decide +kernel) (by decide +kernel)
set_option maxRecDepth 20000 in
theorem gX8_copy_X5_hasStretch_n275 : GoodIn wsX8_copy (wsX5_hasStretch) := ggX8_copy_X5_hasStretch
theorem dX8_copy_0 : decode cX8_copy 0 = .ok (.iload_n 1, 1) := by decide +kernel
theorem dX8_copy_1 : decode cX8_copy 1 = .ok (.bipush 8, 2) := by decide +kernel
theorem dX8_copy_3 : decode cX8_copy 3 = .ok (.invokestatic 65, 3) := by decide +kernel
theorem dX8_copy_6 : decode cX8_copy 6 = .ok (.ifCond .eq 12, 3) := by decide +kernel
theorem dX8_copy_9 : decode cX8_copy 9 = .ok (.iload_n 3, 1) := by decide +kernel
theorem dX8_copy_10 : decode cX8_copy 10 = .ok (.bipush 8, 2) := by decide +kernel
theorem dX8_copy_12 : decode cX8_copy 12 = .ok (.invokestatic 65, 3) := by decide +kernel
theorem dX8_copy_15 : decode cX8_copy 15 = .ok (.ifCond .ne 5, 3) := by decide +kernel
theorem dX8_copy_18 : decode cX8_copy 18 = .ok (.iconst (-1), 1) := by decide +kernel
theorem dX8_copy_19 : decode cX8_copy 19 = .ok (.ireturn, 1) := by decide +kernel
theorem dX8_copy_20 : decode cX8_copy 20 = .ok (.aload_n 0, 1) := by decide +kernel
theorem dX8_copy_21 : decode cX8_copy 21 = .ok (.getfield 60, 3) := by decide +kernel
theorem dX8_copy_24 : decode cX8_copy 24 = .ok (.iload_n 1, 1) := by decide +kernel
theorem dX8_copy_25 : decode cX8_copy 25 = .ok (.aaload, 1) := by decide +kernel
theorem dX8_copy_26 : decode cX8_copy 26 = .ok (.astore 6, 2) := by decide +kernel
theorem dX8_copy_28 : decode cX8_copy 28 = .ok (.aload_n 0, 1) := by decide +kernel
theorem dX8_copy_29 : decode cX8_copy 29 = .ok (.getfield 60, 3) := by decide +kernel
theorem dX8_copy_32 : decode cX8_copy 32 = .ok (.iload_n 3, 1) := by decide +kernel
theorem dX8_copy_33 : decode cX8_copy 33 = .ok (.aaload, 1) := by decide +kernel
theorem dX8_copy_34 : decode cX8_copy 34 = .ok (.astore 7, 2) := by decide +kernel
theorem dX8_copy_36 : decode cX8_copy 36 = .ok (.aload 6, 2) := by decide +kernel
theorem dX8_copy_38 : decode cX8_copy 38 = .ok (.getfield 236, 3) := by decide +kernel
theorem dX8_copy_41 : decode cX8_copy 41 = .ok (.ifCond .eq 11, 3) := by decide +kernel
theorem dX8_copy_44 : decode cX8_copy 44 = .ok (.aload 7, 2) := by decide +kernel
theorem dX8_copy_46 : decode cX8_copy 46 = .ok (.getfield 236, 3) := by decide +kernel
theorem dX8_copy_49 : decode cX8_copy 49 = .ok (.ifCond .ne 6, 3) := by decide +kernel
theorem dX8_copy_52 : decode cX8_copy 52 = .ok (.bipush (-11), 2) := by decide +kernel
theorem dX8_copy_54 : decode cX8_copy 54 = .ok (.ireturn, 1) := by decide +kernel
theorem dX8_copy_55 : decode cX8_copy 55 = .ok (.aload 6, 2) := by decide +kernel
theorem dX8_copy_57 : decode cX8_copy 57 = .ok (.invokevirtual 260, 3) := by decide +kernel
theorem dX8_copy_60 : decode cX8_copy 60 = .ok (.ifCond .eq 16, 3) := by decide +kernel
theorem dX8_copy_63 : decode cX8_copy 63 = .ok (.aload 6, 2) := by decide +kernel
theorem dX8_copy_65 : decode cX8_copy 65 = .ok (.getfield 236, 3) := by decide +kernel
theorem dX8_copy_68 : decode cX8_copy 68 = .ok (.aload 7, 2) := by decide +kernel
theorem dX8_copy_70 : decode cX8_copy 70 = .ok (.getfield 236, 3) := by decide +kernel
theorem dX8_copy_73 : decode cX8_copy 73 = .ok (.if_icmp .eq 6, 3) := by decide +kernel
theorem dX8_copy_76 : decode cX8_copy 76 = .ok (.bipush (-12), 2) := by decide +kernel
theorem dX8_copy_78 : decode cX8_copy 78 = .ok (.ireturn, 1) := by decide +kernel
theorem dX8_copy_79 : decode cX8_copy 79 = .ok (.aload 6, 2) := by decide +kernel
theorem dX8_copy_81 : decode cX8_copy 81 = .ok (.iload_n 2, 1) := by decide +kernel
theorem dX8_copy_82 : decode cX8_copy 82 = .ok (.iload 5, 2) := by decide +kernel
theorem dX8_copy_84 : decode cX8_copy 84 = .ok (.invokevirtual 275, 3) := by decide +kernel
theorem dX8_copy_87 : decode cX8_copy 87 = .ok (.ifCond .eq 15, 3) := by decide +kernel
theorem dX8_copy_90 : decode cX8_copy 90 = .ok (.aload 7, 2) := by decide +kernel
theorem dX8_copy_92 : decode cX8_copy 92 = .ok (.iload 4, 2) := by decide +kernel
theorem dX8_copy_94 : decode cX8_copy 94 = .ok (.iload 5, 2) := by decide +kernel
theorem dX8_copy_96 : decode cX8_copy 96 = .ok (.invokevirtual 275, 3) := by decide +kernel
theorem dX8_copy_99 : decode cX8_copy 99 = .ok (.ifCond .ne 6, 3) := by decide +kernel
theorem dX8_copy_102 : decode cX8_copy 102 = .ok (.bipush (-13), 2) := by decide +kernel
theorem dX8_copy_104 : decode cX8_copy 104 = .ok (.ireturn, 1) := by decide +kernel
theorem dX8_copy_105 : decode cX8_copy 105 = .ok (.aload 6, 2) := by decide +kernel
theorem dX8_copy_107 : decode cX8_copy 107 = .ok (.getfield 271, 3) := by decide +kernel
theorem dX8_copy_110 : decode cX8_copy 110 = .ok (.iload_n 2, 1) := by decide +kernel
theorem dX8_copy_111 : decode cX8_copy 111 = .ok (.aload 7, 2) := by decide +kernel
theorem dX8_copy_113 : decode cX8_copy 113 = .ok (.getfield 271, 3) := by decide +kernel
theorem dX8_copy_116 : decode cX8_copy 116 = .ok (.iload 4, 2) := by decide +kernel
theorem dX8_copy_118 : decode cX8_copy 118 = .ok (.iload 5, 2) := by decide +kernel
theorem dX8_copy_120 : decode cX8_copy 120 = .ok (.invokestatic 278, 3) := by decide +kernel
theorem dX8_copy_123 : decode cX8_copy 123 = .ok (.iload 5, 2) := by decide +kernel
theorem dX8_copy_125 : decode cX8_copy 125 = .ok (.ireturn, 1) := by decide +kernel
set_option maxRecDepth 20000 in
theorem ggX8_weight_X8_leadless : GoodIn wsX8_weight wsX8_leadless := goodIn_r _ [6, 1, 7, 8, 5, 9, 13, 14, 15, 16, 17, 18, 19, 20, 21, 22, 23, 24, 25, 26] (by decide +kernel) (by decide +kernel)
set_option maxRecDepth 20000 in
theorem gX8_weight_X8_leadless : GoodIn wsX8_weight (wsV RX8 284 RX8 yX8_leadless wsX8_leadless) := goodIn_app (goodIn_of _ (by decide +kernel)) ggX8_weight_X8_leadless
set_option maxRecDepth 20000 in
theorem ggX8_weight_X8_weightOf : GoodIn wsX8_weight wsX8_weightOf := goodIn_r _ [12] (by decide +kernel) (by decide +kernel)
set_option maxRecDepth 20000 in
theorem gX8_weight_X8_weightOf : GoodIn wsX8_weight (va_wsS RX8 293 yX8_weightOf wsX8_weightOf) := goodIn_app (goodIn_of _ (by decide +kernel)) ggX8_weight_X8_weightOf
theorem dX8_weight_0 : decode cX8_weight 0 = .ok (.aload_n 0, 1) := by decide +kernel
theorem dX8_weight_1 : decode cX8_weight 1 = .ok (.iload_n 1, 1) := by decide +kernel
theorem dX8_weight_2 : decode cX8_weight 2 = .ok (.invokevirtual 284, 3) := by decide +kernel
theorem dX8_weight_5 : decode cX8_weight 5 = .ok (.istore_n 2, 1) := by decide +kernel
theorem dX8_weight_6 : decode cX8_weight 6 = .ok (.iload_n 2, 1) := by decide +kernel
theorem dX8_weight_7 : decode cX8_weight 7 = .ok (.ifCond .eq 7, 3) := by decide +kernel
theorem dX8_weight_10 : decode cX8_weight 10 = .ok (.iload_n 2, 1) := by decide +kernel
theorem dX8_weight_11 : decode cX8_weight 11 = .ok (.goto 24, 3) := by decide +kernel
theorem dX8_weight_14 : decode cX8_weight 14 = .ok (.aload_n 0, 1) := by decide +kernel
theorem dX8_weight_15 : decode cX8_weight 15 = .ok (.getfield 60, 3) := by decide +kernel
theorem dX8_weight_18 : decode cX8_weight 18 = .ok (.iload_n 1, 1) := by decide +kernel
theorem dX8_weight_19 : decode cX8_weight 19 = .ok (.aaload, 1) := by decide +kernel
theorem dX8_weight_20 : decode cX8_weight 20 = .ok (.getfield 287, 3) := by decide +kernel
theorem dX8_weight_23 : decode cX8_weight 23 = .ok (.aload_n 0, 1) := by decide +kernel
theorem dX8_weight_24 : decode cX8_weight 24 = .ok (.getfield 60, 3) := by decide +kernel
theorem dX8_weight_27 : decode cX8_weight 27 = .ok (.iload_n 1, 1) := by decide +kernel
theorem dX8_weight_28 : decode cX8_weight 28 = .ok (.aaload, 1) := by decide +kernel
theorem dX8_weight_29 : decode cX8_weight 29 = .ok (.getfield 290, 3) := by decide +kernel
theorem dX8_weight_32 : decode cX8_weight 32 = .ok (.invokestatic 293, 3) := by decide +kernel
theorem dX8_weight_35 : decode cX8_weight 35 = .ok (.ireturn, 1) := by decide +kernel
set_option maxRecDepth 20000 in
theorem ggX8_toss_X8_leadless : GoodIn wsX8_toss wsX8_leadless := goodIn_r _ [7, 2, 8, 9, 6, 10, 18, 19, 20, 21, 22, 23, 24, 25, 26, 27, 28, 29, 30, 31] (by decide +kernel) (by decide +kernel)
set_option maxRecDepth 20000 in
theorem gX8_toss_X8_leadless : GoodIn wsX8_toss (wsV RX8 284 RX8 yX8_leadless wsX8_leadless) := goodIn_app (goodIn_of _ (by decide +kernel)) ggX8_toss_X8_leadless
set_option maxRecDepth 20000 in
theorem ggX8_toss_X5_fail : GoodIn wsX8_toss wsX5_fail := goodIn_ca (goodIn_r _ [14, 15, 16, 17, 27, 28, 29, 30, 31] (by decide +kernel) (by decide +kernel)) (goodIn_sub (fun _ h => List.mem_cons_of_mem _ (List.mem_append_right _ h)) (by decide +kernel))
set_option maxRecDepth 20000 in
theorem gX8_toss_X5_fail_n296 : GoodIn wsX8_toss (wsX5_fail) := ggX8_toss_X5_fail
theorem dX8_toss_0 : decode cX8_toss 0 = .ok (.aload_n 0, 1) := by decide +kernel
theorem dX8_toss_1 : decode cX8_toss 1 = .ok (.iload_n 1, 1) := by decide +kernel
theorem dX8_toss_2 : decode cX8_toss 2 = .ok (.invokevirtual 284, 3) := by decide +kernel
theorem dX8_toss_5 : decode cX8_toss 5 = .ok (.istore_n 2, 1) := by decide +kernel
theorem dX8_toss_6 : decode cX8_toss 6 = .ok (.iload_n 2, 1) := by decide +kernel
theorem dX8_toss_7 : decode cX8_toss 7 = .ok (.ifCond .eq 5, 3) := by decide +kernel
theorem dX8_toss_10 : decode cX8_toss 10 = .ok (.iload_n 2, 1) := by decide +kernel
theorem dX8_toss_11 : decode cX8_toss 11 = .ok (.ireturn, 1) := by decide +kernel
theorem dX8_toss_12 : decode cX8_toss 12 = .ok (.aload_n 0, 1) := by decide +kernel
theorem dX8_toss_13 : decode cX8_toss 13 = .ok (.getfield 60, 3) := by decide +kernel
theorem dX8_toss_16 : decode cX8_toss 16 = .ok (.iload_n 1, 1) := by decide +kernel
theorem dX8_toss_17 : decode cX8_toss 17 = .ok (.aaload, 1) := by decide +kernel
theorem dX8_toss_18 : decode cX8_toss 18 = .ok (.astore_n 3, 1) := by decide +kernel
theorem dX8_toss_19 : decode cX8_toss 19 = .ok (.aload_n 3, 1) := by decide +kernel
theorem dX8_toss_20 : decode cX8_toss 20 = .ok (.invokevirtual 296, 3) := by decide +kernel
theorem dX8_toss_23 : decode cX8_toss 23 = .ok (.goto 10, 3) := by decide +kernel
theorem dX8_toss_26 : decode cX8_toss 26 = .ok (.astore 4, 2) := by decide +kernel
theorem dX8_toss_28 : decode cX8_toss 28 = .ok (.aload_n 3, 1) := by decide +kernel
theorem dX8_toss_29 : decode cX8_toss 29 = .ok (.getfield 290, 3) := by decide +kernel
theorem dX8_toss_32 : decode cX8_toss 32 = .ok (.ireturn, 1) := by decide +kernel
theorem dX8_toss_33 : decode cX8_toss 33 = .ok (.bipush (-15), 2) := by decide +kernel
theorem dX8_toss_35 : decode cX8_toss 35 = .ok (.ireturn, 1) := by decide +kernel
theorem dX8_within_0 : decode cX8_within 0 = .ok (.iload_n 0, 1) := by decide +kernel
theorem dX8_within_1 : decode cX8_within 1 = .ok (.ifCond .lt 12, 3) := by decide +kernel
theorem dX8_within_4 : decode cX8_within 4 = .ok (.iload_n 0, 1) := by decide +kernel
theorem dX8_within_5 : decode cX8_within 5 = .ok (.iload_n 1, 1) := by decide +kernel
theorem dX8_within_6 : decode cX8_within 6 = .ok (.if_icmp .ge 7, 3) := by decide +kernel
theorem dX8_within_9 : decode cX8_within 9 = .ok (.iconst 1, 1) := by decide +kernel
theorem dX8_within_10 : decode cX8_within 10 = .ok (.goto 4, 3) := by decide +kernel
theorem dX8_within_13 : decode cX8_within 13 = .ok (.iconst 0, 1) := by decide +kernel
theorem dX8_within_14 : decode cX8_within 14 = .ok (.ireturn, 1) := by decide +kernel
theorem dX8_bumpOf_0 : decode cX8_bumpOf 0 = .ok (.iload_n 0, 1) := by decide +kernel
theorem dX8_bumpOf_1 : decode cX8_bumpOf 1 = .ok (.bipush 8, 2) := by decide +kernel
theorem dX8_bumpOf_3 : decode cX8_bumpOf 3 = .ok (.idiv, 1) := by decide +kernel
theorem dX8_bumpOf_4 : decode cX8_bumpOf 4 = .ok (.ireturn, 1) := by decide +kernel
theorem dX8_signOf_0 : decode cX8_signOf 0 = .ok (.iload_n 0, 1) := by decide +kernel
theorem dX8_signOf_1 : decode cX8_signOf 1 = .ok (.iconst 2, 1) := by decide +kernel
theorem dX8_signOf_2 : decode cX8_signOf 2 = .ok (.idiv, 1) := by decide +kernel
theorem dX8_signOf_3 : decode cX8_signOf 3 = .ok (.iconst 4, 1) := by decide +kernel
theorem dX8_signOf_4 : decode cX8_signOf 4 = .ok (.irem, 1) := by decide +kernel
theorem dX8_signOf_5 : decode cX8_signOf 5 = .ok (.ireturn, 1) := by decide +kernel
theorem dX8_pebbleOf_0 : decode cX8_pebbleOf 0 = .ok (.iload_n 0, 1) := by decide +kernel
theorem dX8_pebbleOf_1 : decode cX8_pebbleOf 1 = .ok (.iconst 2, 1) := by decide +kernel
theorem dX8_pebbleOf_2 : decode cX8_pebbleOf 2 = .ok (.irem, 1) := by decide +kernel
theorem dX8_pebbleOf_3 : decode cX8_pebbleOf 3 = .ok (.ireturn, 1) := by decide +kernel
theorem dX8_sightOf_0 : decode cX8_sightOf 0 = .ok (.iload_n 0, 1) := by decide +kernel
theorem dX8_sightOf_1 : decode cX8_sightOf 1 = .ok (.ifCond .eq 8, 3) := by decide +kernel
theorem dX8_sightOf_4 : decode cX8_sightOf 4 = .ok (.bipush 8, 2) := by decide +kernel
theorem dX8_sightOf_6 : decode cX8_sightOf 6 = .ok (.goto 4, 3) := by decide +kernel
theorem dX8_sightOf_9 : decode cX8_sightOf 9 = .ok (.iconst 0, 1) := by decide +kernel
theorem dX8_sightOf_10 : decode cX8_sightOf 10 = .ok (.iconst 2, 1) := by decide +kernel
theorem dX8_sightOf_11 : decode cX8_sightOf 11 = .ok (.iload_n 1, 1) := by decide +kernel
theorem dX8_sightOf_12 : decode cX8_sightOf 12 = .ok (.imul, 1) := by decide +kernel
theorem dX8_sightOf_13 : decode cX8_sightOf 13 = .ok (.iadd, 1) := by decide +kernel
theorem dX8_sightOf_14 : decode cX8_sightOf 14 = .ok (.iload_n 2, 1) := by decide +kernel
theorem dX8_sightOf_15 : decode cX8_sightOf 15 = .ok (.ifCond .eq 7, 3) := by decide +kernel
theorem dX8_sightOf_18 : decode cX8_sightOf 18 = .ok (.iconst 1, 1) := by decide +kernel
theorem dX8_sightOf_19 : decode cX8_sightOf 19 = .ok (.goto 4, 3) := by decide +kernel
theorem dX8_sightOf_22 : decode cX8_sightOf 22 = .ok (.iconst 0, 1) := by decide +kernel
theorem dX8_sightOf_23 : decode cX8_sightOf 23 = .ok (.iadd, 1) := by decide +kernel
theorem dX8_sightOf_24 : decode cX8_sightOf 24 = .ok (.ireturn, 1) := by decide +kernel
theorem dX8_standOf_0 : decode cX8_standOf 0 = .ok (.iload_n 0, 1) := by decide +kernel
theorem dX8_standOf_1 : decode cX8_standOf 1 = .ok (.iconst 4, 1) := by decide +kernel
theorem dX8_standOf_2 : decode cX8_standOf 2 = .ok (.imul, 1) := by decide +kernel
theorem dX8_standOf_3 : decode cX8_standOf 3 = .ok (.iload_n 1, 1) := by decide +kernel
theorem dX8_standOf_4 : decode cX8_standOf 4 = .ok (.iadd, 1) := by decide +kernel
theorem dX8_standOf_5 : decode cX8_standOf 5 = .ok (.iconst 2, 1) := by decide +kernel
theorem dX8_standOf_6 : decode cX8_standOf 6 = .ok (.imul, 1) := by decide +kernel
theorem dX8_standOf_7 : decode cX8_standOf 7 = .ok (.iload_n 2, 1) := by decide +kernel
theorem dX8_standOf_8 : decode cX8_standOf 8 = .ok (.iadd, 1) := by decide +kernel
theorem dX8_standOf_9 : decode cX8_standOf 9 = .ok (.ireturn, 1) := by decide +kernel
theorem dX8_cellOf_0 : decode cX8_cellOf 0 = .ok (.iload_n 0, 1) := by decide +kernel
theorem dX8_cellOf_1 : decode cX8_cellOf 1 = .ok (.iconst 2, 1) := by decide +kernel
theorem dX8_cellOf_2 : decode cX8_cellOf 2 = .ok (.idiv, 1) := by decide +kernel
theorem dX8_cellOf_3 : decode cX8_cellOf 3 = .ok (.iconst 4, 1) := by decide +kernel
theorem dX8_cellOf_4 : decode cX8_cellOf 4 = .ok (.idiv, 1) := by decide +kernel
theorem dX8_cellOf_5 : decode cX8_cellOf 5 = .ok (.ireturn, 1) := by decide +kernel
theorem dX8_turnOf_0 : decode cX8_turnOf 0 = .ok (.iload_n 0, 1) := by decide +kernel
theorem dX8_turnOf_1 : decode cX8_turnOf 1 = .ok (.iconst 2, 1) := by decide +kernel
theorem dX8_turnOf_2 : decode cX8_turnOf 2 = .ok (.idiv, 1) := by decide +kernel
theorem dX8_turnOf_3 : decode cX8_turnOf 3 = .ok (.iconst 4, 1) := by decide +kernel
theorem dX8_turnOf_4 : decode cX8_turnOf 4 = .ok (.irem, 1) := by decide +kernel
theorem dX8_turnOf_5 : decode cX8_turnOf 5 = .ok (.ireturn, 1) := by decide +kernel
theorem dX8_switchOf_0 : decode cX8_switchOf 0 = .ok (.iload_n 0, 1) := by decide +kernel
theorem dX8_switchOf_1 : decode cX8_switchOf 1 = .ok (.iconst 2, 1) := by decide +kernel
theorem dX8_switchOf_2 : decode cX8_switchOf 2 = .ok (.irem, 1) := by decide +kernel
theorem dX8_switchOf_3 : decode cX8_switchOf 3 = .ok (.ireturn, 1) := by decide +kernel
theorem dX8_weightOf_0 : decode cX8_weightOf 0 = .ok (.bipush 10, 2) := by decide +kernel
theorem dX8_weightOf_2 : decode cX8_weightOf 2 = .ok (.iload_n 1, 1) := by decide +kernel
theorem dX8_weightOf_3 : decode cX8_weightOf 3 = .ok (.iadd, 1) := by decide +kernel
theorem dX8_weightOf_4 : decode cX8_weightOf 4 = .ok (.istore_n 2, 1) := by decide +kernel
theorem dX8_weightOf_5 : decode cX8_weightOf 5 = .ok (.iload_n 0, 1) := by decide +kernel
theorem dX8_weightOf_6 : decode cX8_weightOf 6 = .ok (.tableswitch 64 0 5 #[38, 64, 40, 45, 51, 57], 38) := by decide +kernel
theorem dX8_weightOf_44 : decode cX8_weightOf 44 = .ok (.iconst 1, 1) := by decide +kernel
theorem dX8_weightOf_45 : decode cX8_weightOf 45 = .ok (.ireturn, 1) := by decide +kernel
theorem dX8_weightOf_46 : decode cX8_weightOf 46 = .ok (.iload_n 2, 1) := by decide +kernel
theorem dX8_weightOf_47 : decode cX8_weightOf 47 = .ok (.bipush 100, 2) := by decide +kernel
theorem dX8_weightOf_49 : decode cX8_weightOf 49 = .ok (.iadd, 1) := by decide +kernel
theorem dX8_weightOf_50 : decode cX8_weightOf 50 = .ok (.ireturn, 1) := by decide +kernel
theorem dX8_weightOf_51 : decode cX8_weightOf 51 = .ok (.iload_n 2, 1) := by decide +kernel
theorem dX8_weightOf_52 : decode cX8_weightOf 52 = .ok (.sipush 1000, 3) := by decide +kernel
theorem dX8_weightOf_55 : decode cX8_weightOf 55 = .ok (.iadd, 1) := by decide +kernel
theorem dX8_weightOf_56 : decode cX8_weightOf 56 = .ok (.ireturn, 1) := by decide +kernel
theorem dX8_weightOf_57 : decode cX8_weightOf 57 = .ok (.iload_n 2, 1) := by decide +kernel
theorem dX8_weightOf_58 : decode cX8_weightOf 58 = .ok (.sipush 2000, 3) := by decide +kernel
theorem dX8_weightOf_61 : decode cX8_weightOf 61 = .ok (.iadd, 1) := by decide +kernel
theorem dX8_weightOf_62 : decode cX8_weightOf 62 = .ok (.ireturn, 1) := by decide +kernel
theorem dX8_weightOf_63 : decode cX8_weightOf 63 = .ok (.iconst 2, 1) := by decide +kernel
theorem dX8_weightOf_64 : decode cX8_weightOf 64 = .ok (.iload_n 2, 1) := by decide +kernel
theorem dX8_weightOf_65 : decode cX8_weightOf 65 = .ok (.bipush 100, 2) := by decide +kernel
theorem dX8_weightOf_67 : decode cX8_weightOf 67 = .ok (.iadd, 1) := by decide +kernel
theorem dX8_weightOf_68 : decode cX8_weightOf 68 = .ok (.imul, 1) := by decide +kernel
theorem dX8_weightOf_69 : decode cX8_weightOf 69 = .ok (.ireturn, 1) := by decide +kernel
theorem dX8_weightOf_70 : decode cX8_weightOf 70 = .ok (.iload_n 2, 1) := by decide +kernel
theorem dX8_weightOf_71 : decode cX8_weightOf 71 = .ok (.ireturn, 1) := by decide +kernel
theorem dX8_handLead_0 : decode cX8_handLead 0 = .ok (.iload_n 2, 1) := by decide +kernel
theorem dX8_handLead_1 : decode cX8_handLead 1 = .ok (.bipush 7, 2) := by decide +kernel
theorem dX8_handLead_3 : decode cX8_handLead 3 = .ok (.if_icmp .ne 6, 3) := by decide +kernel
theorem dX8_handLead_6 : decode cX8_handLead 6 = .ok (.bipush (-3), 2) := by decide +kernel
theorem dX8_handLead_8 : decode cX8_handLead 8 = .ok (.ireturn, 1) := by decide +kernel
theorem dX8_handLead_9 : decode cX8_handLead 9 = .ok (.iload_n 2, 1) := by decide +kernel
theorem dX8_handLead_10 : decode cX8_handLead 10 = .ok (.bipush 6, 2) := by decide +kernel
theorem dX8_handLead_12 : decode cX8_handLead 12 = .ok (.if_icmp .ne 15, 3) := by decide +kernel
theorem dX8_handLead_15 : decode cX8_handLead 15 = .ok (.iload_n 1, 1) := by decide +kernel
theorem dX8_handLead_16 : decode cX8_handLead 16 = .ok (.iconst 4, 1) := by decide +kernel
theorem dX8_handLead_17 : decode cX8_handLead 17 = .ok (.if_icmp .ne 7, 3) := by decide +kernel
theorem dX8_handLead_20 : decode cX8_handLead 20 = .ok (.iload_n 0, 1) := by decide +kernel
theorem dX8_handLead_21 : decode cX8_handLead 21 = .ok (.goto 5, 3) := by decide +kernel
theorem dX8_handLead_24 : decode cX8_handLead 24 = .ok (.bipush (-2), 2) := by decide +kernel
theorem dX8_handLead_26 : decode cX8_handLead 26 = .ok (.ireturn, 1) := by decide +kernel
theorem dX8_handLead_27 : decode cX8_handLead 27 = .ok (.iload_n 2, 1) := by decide +kernel
theorem dX8_handLead_28 : decode cX8_handLead 28 = .ok (.ireturn, 1) := by decide +kernel
theorem dX8_unmapped_0 : decode cX8_unmapped 0 = .ok (.aload_n 0, 1) := by decide +kernel
theorem dX8_unmapped_1 : decode cX8_unmapped 1 = .ok (.getfield 81, 3) := by decide +kernel
theorem dX8_unmapped_4 : decode cX8_unmapped 4 = .ok (.ifCond .ne 6, 3) := by decide +kernel
theorem dX8_unmapped_7 : decode cX8_unmapped 7 = .ok (.bipush (-2), 2) := by decide +kernel
theorem dX8_unmapped_9 : decode cX8_unmapped 9 = .ok (.ireturn, 1) := by decide +kernel
theorem dX8_unmapped_10 : decode cX8_unmapped 10 = .ok (.aload_n 0, 1) := by decide +kernel
theorem dX8_unmapped_11 : decode cX8_unmapped 11 = .ok (.getfield 26, 3) := by decide +kernel
theorem dX8_unmapped_14 : decode cX8_unmapped 14 = .ok (.getfield 299, 3) := by decide +kernel
theorem dX8_unmapped_17 : decode cX8_unmapped 17 = .ok (.ifCond .eq 8, 3) := by decide +kernel
theorem dX8_unmapped_20 : decode cX8_unmapped 20 = .ok (.bipush (-3), 2) := by decide +kernel
theorem dX8_unmapped_22 : decode cX8_unmapped 22 = .ok (.goto 4, 3) := by decide +kernel
theorem dX8_unmapped_25 : decode cX8_unmapped 25 = .ok (.iconst 0, 1) := by decide +kernel
theorem dX8_unmapped_26 : decode cX8_unmapped 26 = .ok (.ireturn, 1) := by decide +kernel
set_option maxRecDepth 20000 in
theorem ggX8_unsheeted_X8_unmapped : GoodIn wsX8_unsheeted wsX8_unmapped := goodIn_r _ [6, 7, 1, 8, 9, 10, 11, 12, 13, 14, 15, 16, 17, 18, 19, 20, 21, 22] (by decide +kernel) (by decide +kernel)
set_option maxRecDepth 20000 in
theorem gX8_unsheeted_X8_unmapped : GoodIn wsX8_unsheeted (wsV RX8 135 RX8 yX8_unmapped wsX8_unmapped) := goodIn_app (goodIn_of _ (by decide +kernel)) ggX8_unsheeted_X8_unmapped
theorem dX8_unsheeted_0 : decode cX8_unsheeted 0 = .ok (.aload_n 0, 1) := by decide +kernel
theorem dX8_unsheeted_1 : decode cX8_unsheeted 1 = .ok (.invokevirtual 135, 3) := by decide +kernel
theorem dX8_unsheeted_4 : decode cX8_unsheeted 4 = .ok (.istore_n 1, 1) := by decide +kernel
theorem dX8_unsheeted_5 : decode cX8_unsheeted 5 = .ok (.iload_n 1, 1) := by decide +kernel
theorem dX8_unsheeted_6 : decode cX8_unsheeted 6 = .ok (.ifCond .eq 5, 3) := by decide +kernel
theorem dX8_unsheeted_9 : decode cX8_unsheeted 9 = .ok (.iload_n 1, 1) := by decide +kernel
theorem dX8_unsheeted_10 : decode cX8_unsheeted 10 = .ok (.ireturn, 1) := by decide +kernel
theorem dX8_unsheeted_11 : decode cX8_unsheeted 11 = .ok (.aload_n 0, 1) := by decide +kernel
theorem dX8_unsheeted_12 : decode cX8_unsheeted 12 = .ok (.getfield 26, 3) := by decide +kernel
theorem dX8_unsheeted_15 : decode cX8_unsheeted 15 = .ok (.getfield 139, 3) := by decide +kernel
theorem dX8_unsheeted_18 : decode cX8_unsheeted 18 = .ok (.ifCond .ne 7, 3) := by decide +kernel
theorem dX8_unsheeted_21 : decode cX8_unsheeted 21 = .ok (.iconst (-1), 1) := by decide +kernel
theorem dX8_unsheeted_22 : decode cX8_unsheeted 22 = .ok (.goto 4, 3) := by decide +kernel
theorem dX8_unsheeted_25 : decode cX8_unsheeted 25 = .ok (.iconst 0, 1) := by decide +kernel
theorem dX8_unsheeted_26 : decode cX8_unsheeted 26 = .ok (.ireturn, 1) := by decide +kernel
set_option maxRecDepth 20000 in
theorem ggX8_leadless_X8_within : GoodIn wsX8_leadless wsX8_within := goodIn_r _ [5] (by decide +kernel) (by decide +kernel)
set_option maxRecDepth 20000 in
theorem gX8_leadless_X8_within : GoodIn wsX8_leadless (va_wsS RX8 65 yX8_within wsX8_within) := goodIn_app (goodIn_of _ (by decide +kernel)) ggX8_leadless_X8_within
theorem dX8_leadless_0 : decode cX8_leadless 0 = .ok (.iload_n 1, 1) := by decide +kernel
theorem dX8_leadless_1 : decode cX8_leadless 1 = .ok (.bipush 8, 2) := by decide +kernel
theorem dX8_leadless_3 : decode cX8_leadless 3 = .ok (.invokestatic 65, 3) := by decide +kernel
theorem dX8_leadless_6 : decode cX8_leadless 6 = .ok (.ifCond .ne 5, 3) := by decide +kernel
theorem dX8_leadless_9 : decode cX8_leadless 9 = .ok (.iconst (-1), 1) := by decide +kernel
theorem dX8_leadless_10 : decode cX8_leadless 10 = .ok (.ireturn, 1) := by decide +kernel
theorem dX8_leadless_11 : decode cX8_leadless 11 = .ok (.aload_n 0, 1) := by decide +kernel
theorem dX8_leadless_12 : decode cX8_leadless 12 = .ok (.getfield 60, 3) := by decide +kernel
theorem dX8_leadless_15 : decode cX8_leadless 15 = .ok (.iload_n 1, 1) := by decide +kernel
theorem dX8_leadless_16 : decode cX8_leadless 16 = .ok (.aaload, 1) := by decide +kernel
theorem dX8_leadless_17 : decode cX8_leadless 17 = .ok (.getfield 236, 3) := by decide +kernel
theorem dX8_leadless_20 : decode cX8_leadless 20 = .ok (.ifCond .ne 6, 3) := by decide +kernel
theorem dX8_leadless_23 : decode cX8_leadless 23 = .ok (.bipush (-11), 2) := by decide +kernel
theorem dX8_leadless_25 : decode cX8_leadless 25 = .ok (.ireturn, 1) := by decide +kernel
theorem dX8_leadless_26 : decode cX8_leadless 26 = .ok (.aload_n 0, 1) := by decide +kernel
theorem dX8_leadless_27 : decode cX8_leadless 27 = .ok (.getfield 60, 3) := by decide +kernel
theorem dX8_leadless_30 : decode cX8_leadless 30 = .ok (.iload_n 1, 1) := by decide +kernel
theorem dX8_leadless_31 : decode cX8_leadless 31 = .ok (.aaload, 1) := by decide +kernel
theorem dX8_leadless_32 : decode cX8_leadless 32 = .ok (.getfield 236, 3) := by decide +kernel
theorem dX8_leadless_35 : decode cX8_leadless 35 = .ok (.iconst 1, 1) := by decide +kernel
theorem dX8_leadless_36 : decode cX8_leadless 36 = .ok (.if_icmp .ne 7, 3) := by decide +kernel
theorem dX8_leadless_39 : decode cX8_leadless 39 = .ok (.iconst 0, 1) := by decide +kernel
theorem dX8_leadless_40 : decode cX8_leadless 40 = .ok (.goto 5, 3) := by decide +kernel
theorem dX8_leadless_43 : decode cX8_leadless 43 = .ok (.bipush (-12), 2) := by decide +kernel
theorem dX8_leadless_45 : decode cX8_leadless 45 = .ok (.ireturn, 1) := by decide +kernel
set_option maxRecDepth 20000 in
theorem ggX8_isPlace_X8_within : GoodIn wsX8_isPlace wsX8_within := goodIn_r _ [5] (by decide +kernel) (by decide +kernel)
set_option maxRecDepth 20000 in
theorem gX8_isPlace_X8_within : GoodIn wsX8_isPlace (va_wsS RX8 65 yX8_within wsX8_within) := goodIn_app (goodIn_of _ (by decide +kernel)) ggX8_isPlace_X8_within
theorem dX8_isPlace_0 : decode cX8_isPlace 0 = .ok (.iload_n 1, 1) := by decide +kernel
theorem dX8_isPlace_1 : decode cX8_isPlace 1 = .ok (.aload_n 0, 1) := by decide +kernel
theorem dX8_isPlace_2 : decode cX8_isPlace 2 = .ok (.getfield 26, 3) := by decide +kernel
theorem dX8_isPlace_5 : decode cX8_isPlace 5 = .ok (.getfield 139, 3) := by decide +kernel
theorem dX8_isPlace_8 : decode cX8_isPlace 8 = .ok (.invokestatic 65, 3) := by decide +kernel
theorem dX8_isPlace_11 : decode cX8_isPlace 11 = .ok (.ifCond .eq 26, 3) := by decide +kernel
theorem dX8_isPlace_14 : decode cX8_isPlace 14 = .ok (.iload_n 2, 1) := by decide +kernel
theorem dX8_isPlace_15 : decode cX8_isPlace 15 = .ok (.aload_n 0, 1) := by decide +kernel
theorem dX8_isPlace_16 : decode cX8_isPlace 16 = .ok (.getfield 26, 3) := by decide +kernel
theorem dX8_isPlace_19 : decode cX8_isPlace 19 = .ok (.getfield 142, 3) := by decide +kernel
theorem dX8_isPlace_22 : decode cX8_isPlace 22 = .ok (.iload_n 1, 1) := by decide +kernel
theorem dX8_isPlace_23 : decode cX8_isPlace 23 = .ok (.aaload, 1) := by decide +kernel
theorem dX8_isPlace_24 : decode cX8_isPlace 24 = .ok (.getfield 146, 3) := by decide +kernel
theorem dX8_isPlace_27 : decode cX8_isPlace 27 = .ok (.invokestatic 65, 3) := by decide +kernel
theorem dX8_isPlace_30 : decode cX8_isPlace 30 = .ok (.ifCond .eq 7, 3) := by decide +kernel
theorem dX8_isPlace_33 : decode cX8_isPlace 33 = .ok (.iconst 1, 1) := by decide +kernel
theorem dX8_isPlace_34 : decode cX8_isPlace 34 = .ok (.goto 4, 3) := by decide +kernel
theorem dX8_isPlace_37 : decode cX8_isPlace 37 = .ok (.iconst 0, 1) := by decide +kernel
theorem dX8_isPlace_38 : decode cX8_isPlace 38 = .ok (.ireturn, 1) := by decide +kernel
set_option maxRecDepth 20000 in
theorem ggX8_isExplored_X6_clear : GoodIn wsX8_isExplored wsX6_clear := goodIn_r _ [5, 6, 7, 8, 38, 39, 40] (by decide +kernel) (by decide +kernel)
set_option maxRecDepth 20000 in
theorem gX8_isExplored_X6_clear_n220 : GoodIn wsX8_isExplored (wsX6_clear) := ggX8_isExplored_X6_clear
set_option maxRecDepth 20000 in
theorem ggX8_isExplored_X6_addOnce : GoodIn wsX8_isExplored wsX6_addOnce := goodIn_r _ [11, 7, 8, 6, 12, 13, 14, 38, 39, 40] (by decide +kernel) (by decide +kernel)
set_option maxRecDepth 20000 in
theorem gX8_isExplored_X6_addOnce_n223 : GoodIn wsX8_isExplored (wsX6_addOnce) := ggX8_isExplored_X6_addOnce
set_option maxRecDepth 20000 in
theorem ggX8_isExplored_X4_leadFrom : GoodIn wsX8_isExplored wsX4_leadFrom := goodIn_r _ [18, 19, 33, 34, 35, 36, 37] (by decide +kernel) (by decide +kernel)
set_option maxRecDepth 20000 in
theorem gX8_isExplored_X4_leadFrom_n159 : GoodIn wsX8_isExplored (wsX4_leadFrom) := ggX8_isExplored_X4_leadFrom
set_option maxRecDepth 20000 in
theorem ggX8_isExplored_X4_placeAfter : GoodIn wsX8_isExplored wsX4_placeAfter := goodIn_r _ [22, 23, 15, 17, 16, 18, 19, 33, 34, 35, 36, 37] (by decide +kernel) (by decide +kernel)
set_option maxRecDepth 20000 in
theorem gX8_isExplored_X4_placeAfter_n302 : GoodIn wsX8_isExplored (wsX4_placeAfter) := ggX8_isExplored_X4_placeAfter
theorem dX8_isExplored_0 : decode cX8_isExplored 0 = .ok (.aload_n 0, 1) := by decide +kernel
theorem dX8_isExplored_1 : decode cX8_isExplored 1 = .ok (.getfield 54, 3) := by decide +kernel
theorem dX8_isExplored_4 : decode cX8_isExplored 4 = .ok (.invokevirtual 220, 3) := by decide +kernel
theorem dX8_isExplored_7 : decode cX8_isExplored 7 = .ok (.aload_n 0, 1) := by decide +kernel
theorem dX8_isExplored_8 : decode cX8_isExplored 8 = .ok (.getfield 54, 3) := by decide +kernel
theorem dX8_isExplored_11 : decode cX8_isExplored 11 = .ok (.aload_n 1, 1) := by decide +kernel
theorem dX8_isExplored_12 : decode cX8_isExplored 12 = .ok (.getfield 149, 3) := by decide +kernel
theorem dX8_isExplored_15 : decode cX8_isExplored 15 = .ok (.invokevirtual 223, 3) := by decide +kernel
theorem dX8_isExplored_18 : decode cX8_isExplored 18 = .ok (.iconst 0, 1) := by decide +kernel
theorem dX8_isExplored_19 : decode cX8_isExplored 19 = .ok (.istore_n 2, 1) := by decide +kernel
theorem dX8_isExplored_20 : decode cX8_isExplored 20 = .ok (.iload_n 2, 1) := by decide +kernel
theorem dX8_isExplored_21 : decode cX8_isExplored 21 = .ok (.aload_n 0, 1) := by decide +kernel
theorem dX8_isExplored_22 : decode cX8_isExplored 22 = .ok (.getfield 54, 3) := by decide +kernel
theorem dX8_isExplored_25 : decode cX8_isExplored 25 = .ok (.getfield 227, 3) := by decide +kernel
theorem dX8_isExplored_28 : decode cX8_isExplored 28 = .ok (.if_icmp .ge 68, 3) := by decide +kernel
theorem dX8_isExplored_31 : decode cX8_isExplored 31 = .ok (.iload_n 2, 1) := by decide +kernel
theorem dX8_isExplored_32 : decode cX8_isExplored 32 = .ok (.bipush 6, 2) := by decide +kernel
theorem dX8_isExplored_34 : decode cX8_isExplored 34 = .ok (.if_icmp .ge 62, 3) := by decide +kernel
theorem dX8_isExplored_37 : decode cX8_isExplored 37 = .ok (.aload_n 0, 1) := by decide +kernel
theorem dX8_isExplored_38 : decode cX8_isExplored 38 = .ok (.getfield 54, 3) := by decide +kernel
theorem dX8_isExplored_41 : decode cX8_isExplored 41 = .ok (.getfield 230, 3) := by decide +kernel
theorem dX8_isExplored_44 : decode cX8_isExplored 44 = .ok (.iload_n 2, 1) := by decide +kernel
theorem dX8_isExplored_45 : decode cX8_isExplored 45 = .ok (.iaload, 1) := by decide +kernel
theorem dX8_isExplored_46 : decode cX8_isExplored 46 = .ok (.istore_n 3, 1) := by decide +kernel
theorem dX8_isExplored_47 : decode cX8_isExplored 47 = .ok (.iconst 0, 1) := by decide +kernel
theorem dX8_isExplored_48 : decode cX8_isExplored 48 = .ok (.istore 4, 2) := by decide +kernel
theorem dX8_isExplored_50 : decode cX8_isExplored 50 = .ok (.iload 4, 2) := by decide +kernel
theorem dX8_isExplored_52 : decode cX8_isExplored 52 = .ok (.iconst 5, 1) := by decide +kernel
theorem dX8_isExplored_53 : decode cX8_isExplored 53 = .ok (.if_icmp .ge 37, 3) := by decide +kernel
theorem dX8_isExplored_56 : decode cX8_isExplored 56 = .ok (.aload_n 1, 1) := by decide +kernel
theorem dX8_isExplored_57 : decode cX8_isExplored 57 = .ok (.iload_n 3, 1) := by decide +kernel
theorem dX8_isExplored_58 : decode cX8_isExplored 58 = .ok (.iload 4, 2) := by decide +kernel
theorem dX8_isExplored_60 : decode cX8_isExplored 60 = .ok (.invokevirtual 159, 3) := by decide +kernel
theorem dX8_isExplored_63 : decode cX8_isExplored 63 = .ok (.bipush (-3), 2) := by decide +kernel
theorem dX8_isExplored_65 : decode cX8_isExplored 65 = .ok (.if_icmp .ne 5, 3) := by decide +kernel
theorem dX8_isExplored_68 : decode cX8_isExplored 68 = .ok (.iconst 0, 1) := by decide +kernel
theorem dX8_isExplored_69 : decode cX8_isExplored 69 = .ok (.ireturn, 1) := by decide +kernel
theorem dX8_isExplored_70 : decode cX8_isExplored 70 = .ok (.aload_n 0, 1) := by decide +kernel
theorem dX8_isExplored_71 : decode cX8_isExplored 71 = .ok (.getfield 54, 3) := by decide +kernel
theorem dX8_isExplored_74 : decode cX8_isExplored 74 = .ok (.aload_n 1, 1) := by decide +kernel
theorem dX8_isExplored_75 : decode cX8_isExplored 75 = .ok (.iload_n 3, 1) := by decide +kernel
theorem dX8_isExplored_76 : decode cX8_isExplored 76 = .ok (.iload 4, 2) := by decide +kernel
theorem dX8_isExplored_78 : decode cX8_isExplored 78 = .ok (.invokevirtual 302, 3) := by decide +kernel
theorem dX8_isExplored_81 : decode cX8_isExplored 81 = .ok (.invokevirtual 223, 3) := by decide +kernel
theorem dX8_isExplored_84 : decode cX8_isExplored 84 = .ok (.iinc 4 1, 3) := by decide +kernel
theorem dX8_isExplored_87 : decode cX8_isExplored 87 = .ok (.goto (-37), 3) := by decide +kernel
theorem dX8_isExplored_90 : decode cX8_isExplored 90 = .ok (.iinc 2 1, 3) := by decide +kernel
theorem dX8_isExplored_93 : decode cX8_isExplored 93 = .ok (.goto (-73), 3) := by decide +kernel
theorem dX8_isExplored_96 : decode cX8_isExplored 96 = .ok (.iconst 1, 1) := by decide +kernel
theorem dX8_isExplored_97 : decode cX8_isExplored 97 = .ok (.ireturn, 1) := by decide +kernel
set_option maxRecDepth 20000 in
theorem ggX8_placeBehind_X4_placeAfter : GoodIn wsX8_placeBehind wsX4_placeAfter := goodIn_r _ [5, 6, 7, 8, 3, 9, 10, 23, 24, 25, 26, 27] (by decide +kernel) (by decide +kernel)
set_option maxRecDepth 20000 in
theorem gX8_placeBehind_X4_placeAfter_n302 : GoodIn wsX8_placeBehind (wsX4_placeAfter) := ggX8_placeBehind_X4_placeAfter
theorem dX8_placeBehind_0 : decode cX8_placeBehind 0 = .ok (.iconst 0, 1) := by decide +kernel
theorem dX8_placeBehind_1 : decode cX8_placeBehind 1 = .ok (.istore_n 3, 1) := by decide +kernel
theorem dX8_placeBehind_2 : decode cX8_placeBehind 2 = .ok (.iconst 0, 1) := by decide +kernel
theorem dX8_placeBehind_3 : decode cX8_placeBehind 3 = .ok (.istore 4, 2) := by decide +kernel
theorem dX8_placeBehind_5 : decode cX8_placeBehind 5 = .ok (.iload 4, 2) := by decide +kernel
theorem dX8_placeBehind_7 : decode cX8_placeBehind 7 = .ok (.iload_n 2, 1) := by decide +kernel
theorem dX8_placeBehind_8 : decode cX8_placeBehind 8 = .ok (.if_icmp .ge 39, 3) := by decide +kernel
theorem dX8_placeBehind_11 : decode cX8_placeBehind 11 = .ok (.aload_n 0, 1) := by decide +kernel
theorem dX8_placeBehind_12 : decode cX8_placeBehind 12 = .ok (.getfield 19, 3) := by decide +kernel
theorem dX8_placeBehind_15 : decode cX8_placeBehind 15 = .ok (.getfield 132, 3) := by decide +kernel
theorem dX8_placeBehind_18 : decode cX8_placeBehind 18 = .ok (.iload 4, 2) := by decide +kernel
theorem dX8_placeBehind_20 : decode cX8_placeBehind 20 = .ok (.iaload, 1) := by decide +kernel
theorem dX8_placeBehind_21 : decode cX8_placeBehind 21 = .ok (.iconst 5, 1) := by decide +kernel
theorem dX8_placeBehind_22 : decode cX8_placeBehind 22 = .ok (.if_icmp .eq 19, 3) := by decide +kernel
theorem dX8_placeBehind_25 : decode cX8_placeBehind 25 = .ok (.aload_n 1, 1) := by decide +kernel
theorem dX8_placeBehind_26 : decode cX8_placeBehind 26 = .ok (.iload_n 3, 1) := by decide +kernel
theorem dX8_placeBehind_27 : decode cX8_placeBehind 27 = .ok (.aload_n 0, 1) := by decide +kernel
theorem dX8_placeBehind_28 : decode cX8_placeBehind 28 = .ok (.getfield 19, 3) := by decide +kernel
theorem dX8_placeBehind_31 : decode cX8_placeBehind 31 = .ok (.getfield 132, 3) := by decide +kernel
theorem dX8_placeBehind_34 : decode cX8_placeBehind 34 = .ok (.iload 4, 2) := by decide +kernel
theorem dX8_placeBehind_36 : decode cX8_placeBehind 36 = .ok (.iaload, 1) := by decide +kernel
theorem dX8_placeBehind_37 : decode cX8_placeBehind 37 = .ok (.invokevirtual 302, 3) := by decide +kernel
theorem dX8_placeBehind_40 : decode cX8_placeBehind 40 = .ok (.istore_n 3, 1) := by decide +kernel
theorem dX8_placeBehind_41 : decode cX8_placeBehind 41 = .ok (.iinc 4 1, 3) := by decide +kernel
theorem dX8_placeBehind_44 : decode cX8_placeBehind 44 = .ok (.goto (-39), 3) := by decide +kernel
theorem dX8_placeBehind_47 : decode cX8_placeBehind 47 = .ok (.iload_n 3, 1) := by decide +kernel
theorem dX8_placeBehind_48 : decode cX8_placeBehind 48 = .ok (.ireturn, 1) := by decide +kernel
set_option maxRecDepth 20000 in
theorem ggX8_agreesWithHouse_X6_clear : GoodIn wsX8_agreesWithHouse wsX6_clear := goodIn_r _ [6, 7, 8, 9, 66, 67, 68] (by decide +kernel) (by decide +kernel)
set_option maxRecDepth 20000 in
theorem gX8_agreesWithHouse_X6_clear_n220 : GoodIn wsX8_agreesWithHouse (wsX6_clear) := ggX8_agreesWithHouse_X6_clear
set_option maxRecDepth 20000 in
theorem ggX8_agreesWithHouse_X6_addOnce : GoodIn wsX8_agreesWithHouse wsX6_addOnce := goodIn_r _ [12, 8, 9, 7, 13, 14, 15, 66, 67, 68] (by decide +kernel) (by decide +kernel)
set_option maxRecDepth 20000 in
theorem gX8_agreesWithHouse_X6_addOnce_n223 : GoodIn wsX8_agreesWithHouse (wsX6_addOnce) := ggX8_agreesWithHouse_X6_addOnce
set_option maxRecDepth 20000 in
theorem ggX8_agreesWithHouse_X8_agreesAt : GoodIn wsX8_agreesWithHouse wsX8_agreesAt := goodIn_r _ [19, 2, 1, 20, 21, 14, 22, 23, 24, 25, 26, 27, 28, 29, 30, 31, 32, 33, 34, 35, 36, 37, 38, 39, 40, 41, 42, 43, 44, 10, 4, 11, 12, 8, 9, 7, 13, 15, 54, 55, 56, 57, 58, 45, 46, 47, 48, 49, 50, 51, 52, 53, 59, 60, 61, 62, 63, 64, 65, 66, 67, 68] (by decide +kernel) (by decide +kernel)
set_option maxRecDepth 20000 in
theorem gX8_agreesWithHouse_X8_agreesAt : GoodIn wsX8_agreesWithHouse (wsV RX8 305 RX8 yX8_agreesAt wsX8_agreesAt) := goodIn_app (goodIn_of _ (by decide +kernel)) ggX8_agreesWithHouse_X8_agreesAt
theorem dX8_agreesWithHouse_0 : decode cX8_agreesWithHouse 0 = .ok (.aload_n 0, 1) := by decide +kernel
theorem dX8_agreesWithHouse_1 : decode cX8_agreesWithHouse 1 = .ok (.getfield 54, 3) := by decide +kernel
theorem dX8_agreesWithHouse_4 : decode cX8_agreesWithHouse 4 = .ok (.invokevirtual 220, 3) := by decide +kernel
theorem dX8_agreesWithHouse_7 : decode cX8_agreesWithHouse 7 = .ok (.aload_n 0, 1) := by decide +kernel
theorem dX8_agreesWithHouse_8 : decode cX8_agreesWithHouse 8 = .ok (.getfield 54, 3) := by decide +kernel
theorem dX8_agreesWithHouse_11 : decode cX8_agreesWithHouse 11 = .ok (.aload_n 1, 1) := by decide +kernel
theorem dX8_agreesWithHouse_12 : decode cX8_agreesWithHouse 12 = .ok (.getfield 149, 3) := by decide +kernel
theorem dX8_agreesWithHouse_15 : decode cX8_agreesWithHouse 15 = .ok (.bipush 80, 2) := by decide +kernel
theorem dX8_agreesWithHouse_17 : decode cX8_agreesWithHouse 17 = .ok (.imul, 1) := by decide +kernel
theorem dX8_agreesWithHouse_18 : decode cX8_agreesWithHouse 18 = .ok (.aload_n 0, 1) := by decide +kernel
theorem dX8_agreesWithHouse_19 : decode cX8_agreesWithHouse 19 = .ok (.getfield 12, 3) := by decide +kernel
theorem dX8_agreesWithHouse_22 : decode cX8_agreesWithHouse 22 = .ok (.getfield 208, 3) := by decide +kernel
theorem dX8_agreesWithHouse_25 : decode cX8_agreesWithHouse 25 = .ok (.iadd, 1) := by decide +kernel
theorem dX8_agreesWithHouse_26 : decode cX8_agreesWithHouse 26 = .ok (.invokevirtual 223, 3) := by decide +kernel
theorem dX8_agreesWithHouse_29 : decode cX8_agreesWithHouse 29 = .ok (.iconst 0, 1) := by decide +kernel
theorem dX8_agreesWithHouse_30 : decode cX8_agreesWithHouse 30 = .ok (.istore_n 2, 1) := by decide +kernel
theorem dX8_agreesWithHouse_31 : decode cX8_agreesWithHouse 31 = .ok (.iload_n 2, 1) := by decide +kernel
theorem dX8_agreesWithHouse_32 : decode cX8_agreesWithHouse 32 = .ok (.aload_n 0, 1) := by decide +kernel
theorem dX8_agreesWithHouse_33 : decode cX8_agreesWithHouse 33 = .ok (.getfield 54, 3) := by decide +kernel
theorem dX8_agreesWithHouse_36 : decode cX8_agreesWithHouse 36 = .ok (.getfield 227, 3) := by decide +kernel
theorem dX8_agreesWithHouse_39 : decode cX8_agreesWithHouse 39 = .ok (.if_icmp .ge 44, 3) := by decide +kernel
theorem dX8_agreesWithHouse_42 : decode cX8_agreesWithHouse 42 = .ok (.iload_n 2, 1) := by decide +kernel
theorem dX8_agreesWithHouse_43 : decode cX8_agreesWithHouse 43 = .ok (.sipush 480, 3) := by decide +kernel
theorem dX8_agreesWithHouse_46 : decode cX8_agreesWithHouse 46 = .ok (.if_icmp .ge 37, 3) := by decide +kernel
theorem dX8_agreesWithHouse_49 : decode cX8_agreesWithHouse 49 = .ok (.aload_n 0, 1) := by decide +kernel
theorem dX8_agreesWithHouse_50 : decode cX8_agreesWithHouse 50 = .ok (.getfield 54, 3) := by decide +kernel
theorem dX8_agreesWithHouse_53 : decode cX8_agreesWithHouse 53 = .ok (.getfield 230, 3) := by decide +kernel
theorem dX8_agreesWithHouse_56 : decode cX8_agreesWithHouse 56 = .ok (.iload_n 2, 1) := by decide +kernel
theorem dX8_agreesWithHouse_57 : decode cX8_agreesWithHouse 57 = .ok (.iaload, 1) := by decide +kernel
theorem dX8_agreesWithHouse_58 : decode cX8_agreesWithHouse 58 = .ok (.istore_n 3, 1) := by decide +kernel
theorem dX8_agreesWithHouse_59 : decode cX8_agreesWithHouse 59 = .ok (.aload_n 0, 1) := by decide +kernel
theorem dX8_agreesWithHouse_60 : decode cX8_agreesWithHouse 60 = .ok (.aload_n 1, 1) := by decide +kernel
theorem dX8_agreesWithHouse_61 : decode cX8_agreesWithHouse 61 = .ok (.iload_n 3, 1) := by decide +kernel
theorem dX8_agreesWithHouse_62 : decode cX8_agreesWithHouse 62 = .ok (.bipush 80, 2) := by decide +kernel
theorem dX8_agreesWithHouse_64 : decode cX8_agreesWithHouse 64 = .ok (.idiv, 1) := by decide +kernel
theorem dX8_agreesWithHouse_65 : decode cX8_agreesWithHouse 65 = .ok (.iload_n 3, 1) := by decide +kernel
theorem dX8_agreesWithHouse_66 : decode cX8_agreesWithHouse 66 = .ok (.bipush 80, 2) := by decide +kernel
theorem dX8_agreesWithHouse_68 : decode cX8_agreesWithHouse 68 = .ok (.irem, 1) := by decide +kernel
theorem dX8_agreesWithHouse_69 : decode cX8_agreesWithHouse 69 = .ok (.invokevirtual 305, 3) := by decide +kernel
theorem dX8_agreesWithHouse_72 : decode cX8_agreesWithHouse 72 = .ok (.ifCond .ne 5, 3) := by decide +kernel
theorem dX8_agreesWithHouse_75 : decode cX8_agreesWithHouse 75 = .ok (.iconst 0, 1) := by decide +kernel
theorem dX8_agreesWithHouse_76 : decode cX8_agreesWithHouse 76 = .ok (.ireturn, 1) := by decide +kernel
theorem dX8_agreesWithHouse_77 : decode cX8_agreesWithHouse 77 = .ok (.iinc 2 1, 3) := by decide +kernel
theorem dX8_agreesWithHouse_80 : decode cX8_agreesWithHouse 80 = .ok (.goto (-49), 3) := by decide +kernel
theorem dX8_agreesWithHouse_83 : decode cX8_agreesWithHouse 83 = .ok (.iconst 1, 1) := by decide +kernel
theorem dX8_agreesWithHouse_84 : decode cX8_agreesWithHouse 84 = .ok (.ireturn, 1) := by decide +kernel
set_option maxRecDepth 20000 in
theorem ggX8_agreesAt_X8_cellOf : GoodIn wsX8_agreesAt wsX8_cellOf := goodIn_r _ [6] (by decide +kernel) (by decide +kernel)
set_option maxRecDepth 20000 in
theorem gX8_agreesAt_X8_cellOf : GoodIn wsX8_agreesAt (va_wsS RX8 211 yX8_cellOf wsX8_cellOf) := goodIn_app (goodIn_of _ (by decide +kernel)) ggX8_agreesAt_X8_cellOf
set_option maxRecDepth 20000 in
theorem ggX8_agreesAt_X4_leadFrom : GoodIn wsX8_agreesAt wsX4_leadFrom := goodIn_r _ [10, 11, 38, 39, 40, 41, 42] (by decide +kernel) (by decide +kernel)
set_option maxRecDepth 20000 in
theorem gX8_agreesAt_X4_leadFrom_n159 : GoodIn wsX8_agreesAt (wsX4_leadFrom) := ggX8_agreesAt_X4_leadFrom
set_option maxRecDepth 20000 in
theorem ggX8_agreesAt_X1_after : GoodIn wsX8_agreesAt wsX1_after := goodIn_r _ [15, 16, 17, 18, 4, 5, 6, 19, 20, 21, 22, 23, 24, 25, 26, 27, 13, 28, 52, 53, 54, 55, 56, 57, 58] (by decide +kernel) (by decide +kernel)
set_option maxRecDepth 20000 in
theorem gX8_agreesAt_X1_after_n233 : GoodIn wsX8_agreesAt (wsX1_after) := ggX8_agreesAt_X1_after
set_option maxRecDepth 20000 in
theorem ggX8_agreesAt_X6_addOnce : GoodIn wsX8_agreesAt wsX6_addOnce := goodIn_r _ [32, 33, 34, 35, 36, 5, 37, 59, 60, 61] (by decide +kernel) (by decide +kernel)
set_option maxRecDepth 20000 in
theorem gX8_agreesAt_X6_addOnce_n223 : GoodIn wsX8_agreesAt (wsX6_addOnce) := ggX8_agreesAt_X6_addOnce
