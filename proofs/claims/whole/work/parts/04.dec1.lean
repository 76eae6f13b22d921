theorem dX0_init_0 : decode cX0_init 0 = .ok (.aload_n 0, 1) := by decide +kernel
theorem dX0_init_1 : decode cX0_init 1 = .ok (.invokespecial 3, 3) := by decide +kernel
theorem dX0_init_4 : decode cX0_init 4 = .ok (.aload_n 0, 1) := by decide +kernel
theorem dX0_init_5 : decode cX0_init 5 = .ok (.sipush 151, 3) := by decide +kernel
theorem dX0_init_8 : decode cX0_init 8 = .ok (.anewarray 9, 3) := by decide +kernel
theorem dX0_init_11 : decode cX0_init 11 = .ok (.putfield 11, 3) := by decide +kernel
theorem dX0_init_14 : decode cX0_init 14 = .ok (.aload_n 0, 1) := by decide +kernel
theorem dX0_init_15 : decode cX0_init 15 = .ok (.sipush 151, 3) := by decide +kernel
theorem dX0_init_18 : decode cX0_init 18 = .ok (.anewarray 9, 3) := by decide +kernel
theorem dX0_init_21 : decode cX0_init 21 = .ok (.putfield 17, 3) := by decide +kernel
theorem dX0_init_24 : decode cX0_init 24 = .ok (.return_, 1) := by decide +kernel
set_option maxRecDepth 20000 in
theorem ggX0_begin_X0_blank : GoodIn wsX0_begin wsX0_blank := goodIn_r _ [8, 9, 10, 11, 12, 13, 14, 15, 16, 17, 18, 19, 20, 21, 22, 23, 24, 44, 45, 46, 47, 48] (by decide +kernel) (by decide +kernel)
set_option maxRecDepth 20000 in
theorem gX0_begin_X0_blank : GoodIn wsX0_begin (va_wsS RX0 31 yX0_blank wsX0_blank) := goodIn_app (goodIn_of _ (by decide +kernel)) ggX0_begin_X0_blank
set_option maxRecDepth 20000 in
theorem ggX0_begin_X4_begin : GoodIn wsX0_begin wsX4_begin := goodIn_r _ [27, 19, 28, 21, 22, 23, 24, 29, 30, 31, 11, 32, 18, 33, 34, 35, 36, 37, 20, 44, 45, 46, 47, 48] (by decide +kernel) (by decide +kernel)
set_option maxRecDepth 20000 in
theorem gX0_begin_X4_begin_n35 : GoodIn wsX0_begin (wsX4_begin) := ggX0_begin_X4_begin
theorem dX0_begin_0 : decode cX0_begin 0 = .ok (.aload_n 0, 1) := by decide +kernel
theorem dX0_begin_1 : decode cX0_begin 1 = .ok (.iload_n 1, 1) := by decide +kernel
theorem dX0_begin_2 : decode cX0_begin 2 = .ok (.putfield 20, 3) := by decide +kernel
theorem dX0_begin_5 : decode cX0_begin 5 = .ok (.aload_n 0, 1) := by decide +kernel
theorem dX0_begin_6 : decode cX0_begin 6 = .ok (.iconst 0, 1) := by decide +kernel
theorem dX0_begin_7 : decode cX0_begin 7 = .ok (.putfield 24, 3) := by decide +kernel
theorem dX0_begin_10 : decode cX0_begin 10 = .ok (.aload_n 0, 1) := by decide +kernel
theorem dX0_begin_11 : decode cX0_begin 11 = .ok (.iconst 1, 1) := by decide +kernel
theorem dX0_begin_12 : decode cX0_begin 12 = .ok (.putfield 28, 3) := by decide +kernel
theorem dX0_begin_15 : decode cX0_begin 15 = .ok (.aload_n 0, 1) := by decide +kernel
theorem dX0_begin_16 : decode cX0_begin 16 = .ok (.getfield 11, 3) := by decide +kernel
theorem dX0_begin_19 : decode cX0_begin 19 = .ok (.iconst 0, 1) := by decide +kernel
theorem dX0_begin_20 : decode cX0_begin 20 = .ok (.invokestatic 31, 3) := by decide +kernel
theorem dX0_begin_23 : decode cX0_begin 23 = .ok (.iload_n 2, 1) := by decide +kernel
theorem dX0_begin_24 : decode cX0_begin 24 = .ok (.invokevirtual 35, 3) := by decide +kernel
theorem dX0_begin_27 : decode cX0_begin 27 = .ok (.return_, 1) := by decide +kernel
set_option maxRecDepth 20000 in
theorem ggX0_blank_X4_init : GoodIn wsX0_blank wsX4_init := goodIn_r _ [5, 6, 7, 8, 9, 10, 11, 12, 13, 14, 15, 16, 17, 18, 19, 20, 21] (by decide +kernel) (by decide +kernel)
set_option maxRecDepth 20000 in
theorem gX0_blank_X4_init_n39 : GoodIn wsX0_blank (wsX4_init) := ggX0_blank_X4_init
theorem dX0_blank_0 : decode cX0_blank 0 = .ok (.aload_n 0, 1) := by decide +kernel
theorem dX0_blank_1 : decode cX0_blank 1 = .ok (.iload_n 1, 1) := by decide +kernel
theorem dX0_blank_2 : decode cX0_blank 2 = .ok (.aaload, 1) := by decide +kernel
theorem dX0_blank_3 : decode cX0_blank 3 = .ok (.ifnonnull 13, 3) := by decide +kernel
theorem dX0_blank_6 : decode cX0_blank 6 = .ok (.aload_n 0, 1) := by decide +kernel
theorem dX0_blank_7 : decode cX0_blank 7 = .ok (.iload_n 1, 1) := by decide +kernel
theorem dX0_blank_8 : decode cX0_blank 8 = .ok (.new 9, 3) := by decide +kernel
theorem dX0_blank_11 : decode cX0_blank 11 = .ok (.dup, 1) := by decide +kernel
theorem dX0_blank_12 : decode cX0_blank 12 = .ok (.invokespecial 39, 3) := by decide +kernel
theorem dX0_blank_15 : decode cX0_blank 15 = .ok (.aastore, 1) := by decide +kernel
theorem dX0_blank_16 : decode cX0_blank 16 = .ok (.aload_n 0, 1) := by decide +kernel
theorem dX0_blank_17 : decode cX0_blank 17 = .ok (.iload_n 1, 1) := by decide +kernel
theorem dX0_blank_18 : decode cX0_blank 18 = .ok (.aaload, 1) := by decide +kernel
theorem dX0_blank_19 : decode cX0_blank 19 = .ok (.areturn, 1) := by decide +kernel
set_option maxRecDepth 20000 in
theorem ggX0_advance_X0_movePebbles : GoodIn wsX0_advance wsX0_movePebbles := goodIn_r _ [10, 2, 3, 11, 12, 13, 14, 15, 16, 84, 85, 86, 87, 88, 89, 90, 91, 92, 93, 94] (by decide +kernel) (by decide +kernel)
set_option maxRecDepth 20000 in
theorem gX0_advance_X0_movePebbles : GoodIn wsX0_advance (wsV RX0 40 RX0 yX0_movePebbles wsX0_movePebbles) := goodIn_app (goodIn_of _ (by decide +kernel)) ggX0_advance_X0_movePebbles
set_option maxRecDepth 20000 in
theorem ggX0_advance_X0_spread : GoodIn wsX0_advance wsX0_spread := goodIn_r _ [20, 21, 12, 22, 23, 24, 25, 26, 27, 28, 29, 30, 31, 32, 33, 15, 34, 35, 36, 37, 38, 39, 9, 40, 1, 4, 41, 42, 43, 44, 45, 46, 47, 48, 49, 50, 51, 52, 53, 54, 55, 56, 57, 58, 59, 60, 61, 62, 63, 16, 64, 65, 66, 67, 68, 69, 70, 71, 72, 73, 74, 75, 76, 77, 78, 79, 80, 81, 82, 83, 90, 91, 92, 93, 94, 84, 85, 86, 87, 88, 89] (by decide +kernel) (by decide +kernel)
set_option maxRecDepth 20000 in
theorem gX0_advance_X0_spread : GoodIn wsX0_advance (wsV RX0 46 RX0 yX0_spread wsX0_spread) := goodIn_app (goodIn_of _ (by decide +kernel)) ggX0_advance_X0_spread
theorem dX0_advance_0 : decode cX0_advance 0 = .ok (.iload_n 1, 1) := by decide +kernel
theorem dX0_advance_1 : decode cX0_advance 1 = .ok (.iconst 5, 1) := by decide +kernel
theorem dX0_advance_2 : decode cX0_advance 2 = .ok (.if_icmp .ne 8, 3) := by decide +kernel
theorem dX0_advance_5 : decode cX0_advance 5 = .ok (.aload_n 0, 1) := by decide +kernel
theorem dX0_advance_6 : decode cX0_advance 6 = .ok (.invokevirtual 40, 3) := by decide +kernel
theorem dX0_advance_9 : decode cX0_advance 9 = .ok (.return_, 1) := by decide +kernel
theorem dX0_advance_10 : decode cX0_advance 10 = .ok (.aload_n 0, 1) := by decide +kernel
theorem dX0_advance_11 : decode cX0_advance 11 = .ok (.iconst 0, 1) := by decide +kernel
theorem dX0_advance_12 : decode cX0_advance 12 = .ok (.putfield 43, 3) := by decide +kernel
theorem dX0_advance_15 : decode cX0_advance 15 = .ok (.iconst 0, 1) := by decide +kernel
theorem dX0_advance_16 : decode cX0_advance 16 = .ok (.istore_n 3, 1) := by decide +kernel
theorem dX0_advance_17 : decode cX0_advance 17 = .ok (.iload_n 3, 1) := by decide +kernel
theorem dX0_advance_18 : decode cX0_advance 18 = .ok (.aload_n 0, 1) := by decide +kernel
theorem dX0_advance_19 : decode cX0_advance 19 = .ok (.getfield 28, 3) := by decide +kernel
theorem dX0_advance_22 : decode cX0_advance 22 = .ok (.if_icmp .ge 21, 3) := by decide +kernel
theorem dX0_advance_25 : decode cX0_advance 25 = .ok (.aload_n 0, 1) := by decide +kernel
theorem dX0_advance_26 : decode cX0_advance 26 = .ok (.aload_n 0, 1) := by decide +kernel
theorem dX0_advance_27 : decode cX0_advance 27 = .ok (.getfield 11, 3) := by decide +kernel
theorem dX0_advance_30 : decode cX0_advance 30 = .ok (.iload_n 3, 1) := by decide +kernel
theorem dX0_advance_31 : decode cX0_advance 31 = .ok (.aaload, 1) := by decide +kernel
theorem dX0_advance_32 : decode cX0_advance 32 = .ok (.iload_n 1, 1) := by decide +kernel
theorem dX0_advance_33 : decode cX0_advance 33 = .ok (.iload_n 2, 1) := by decide +kernel
theorem dX0_advance_34 : decode cX0_advance 34 = .ok (.invokevirtual 46, 3) := by decide +kernel
theorem dX0_advance_37 : decode cX0_advance 37 = .ok (.iinc 3 1, 3) := by decide +kernel
theorem dX0_advance_40 : decode cX0_advance 40 = .ok (.goto (-23), 3) := by decide +kernel
theorem dX0_advance_43 : decode cX0_advance 43 = .ok (.aload_n 0, 1) := by decide +kernel
theorem dX0_advance_44 : decode cX0_advance 44 = .ok (.getfield 11, 3) := by decide +kernel
theorem dX0_advance_47 : decode cX0_advance 47 = .ok (.astore_n 3, 1) := by decide +kernel
theorem dX0_advance_48 : decode cX0_advance 48 = .ok (.aload_n 0, 1) := by decide +kernel
theorem dX0_advance_49 : decode cX0_advance 49 = .ok (.aload_n 0, 1) := by decide +kernel
theorem dX0_advance_50 : decode cX0_advance 50 = .ok (.getfield 17, 3) := by decide +kernel
theorem dX0_advance_53 : decode cX0_advance 53 = .ok (.putfield 11, 3) := by decide +kernel
theorem dX0_advance_56 : decode cX0_advance 56 = .ok (.aload_n 0, 1) := by decide +kernel
theorem dX0_advance_57 : decode cX0_advance 57 = .ok (.aload_n 3, 1) := by decide +kernel
theorem dX0_advance_58 : decode cX0_advance 58 = .ok (.putfield 17, 3) := by decide +kernel
theorem dX0_advance_61 : decode cX0_advance 61 = .ok (.aload_n 0, 1) := by decide +kernel
theorem dX0_advance_62 : decode cX0_advance 62 = .ok (.aload_n 0, 1) := by decide +kernel
theorem dX0_advance_63 : decode cX0_advance 63 = .ok (.getfield 24, 3) := by decide +kernel
theorem dX0_advance_66 : decode cX0_advance 66 = .ok (.ifCond .ne 13, 3) := by decide +kernel
theorem dX0_advance_69 : decode cX0_advance 69 = .ok (.aload_n 0, 1) := by decide +kernel
theorem dX0_advance_70 : decode cX0_advance 70 = .ok (.getfield 43, 3) := by decide +kernel
theorem dX0_advance_73 : decode cX0_advance 73 = .ok (.sipush 150, 3) := by decide +kernel
theorem dX0_advance_76 : decode cX0_advance 76 = .ok (.if_icmp .le 7, 3) := by decide +kernel
theorem dX0_advance_79 : decode cX0_advance 79 = .ok (.iconst 1, 1) := by decide +kernel
theorem dX0_advance_80 : decode cX0_advance 80 = .ok (.goto 4, 3) := by decide +kernel
theorem dX0_advance_83 : decode cX0_advance 83 = .ok (.iconst 0, 1) := by decide +kernel
theorem dX0_advance_84 : decode cX0_advance 84 = .ok (.putfield 24, 3) := by decide +kernel
theorem dX0_advance_87 : decode cX0_advance 87 = .ok (.aload_n 0, 1) := by decide +kernel
theorem dX0_advance_88 : decode cX0_advance 88 = .ok (.aload_n 0, 1) := by decide +kernel
theorem dX0_advance_89 : decode cX0_advance 89 = .ok (.getfield 24, 3) := by decide +kernel
theorem dX0_advance_92 : decode cX0_advance 92 = .ok (.ifCond .eq 7, 3) := by decide +kernel
theorem dX0_advance_95 : decode cX0_advance 95 = .ok (.iconst 0, 1) := by decide +kernel
theorem dX0_advance_96 : decode cX0_advance 96 = .ok (.goto 7, 3) := by decide +kernel
theorem dX0_advance_99 : decode cX0_advance 99 = .ok (.aload_n 0, 1) := by decide +kernel
theorem dX0_advance_100 : decode cX0_advance 100 = .ok (.getfield 43, 3) := by decide +kernel
theorem dX0_advance_103 : decode cX0_advance 103 = .ok (.putfield 28, 3) := by decide +kernel
theorem dX0_advance_106 : decode cX0_advance 106 = .ok (.return_, 1) := by decide +kernel
set_option maxRecDepth 20000 in
theorem ggX0_movePebbles_X4_movePebble : GoodIn wsX0_movePebbles wsX4_movePebble := goodIn_r _ [6, 7, 8, 15, 16, 17, 18, 19] (by decide +kernel) (by decide +kernel)
set_option maxRecDepth 20000 in
theorem gX0_movePebbles_X4_movePebble_n50 : GoodIn wsX0_movePebbles (wsX4_movePebble) := ggX0_movePebbles_X4_movePebble
theorem dX0_movePebbles_0 : decode cX0_movePebbles 0 = .ok (.iconst 0, 1) := by decide +kernel
theorem dX0_movePebbles_1 : decode cX0_movePebbles 1 = .ok (.istore_n 1, 1) := by decide +kernel
theorem dX0_movePebbles_2 : decode cX0_movePebbles 2 = .ok (.iload_n 1, 1) := by decide +kernel
theorem dX0_movePebbles_3 : decode cX0_movePebbles 3 = .ok (.aload_n 0, 1) := by decide +kernel
theorem dX0_movePebbles_4 : decode cX0_movePebbles 4 = .ok (.getfield 28, 3) := by decide +kernel
theorem dX0_movePebbles_7 : decode cX0_movePebbles 7 = .ok (.if_icmp .ge 18, 3) := by decide +kernel
theorem dX0_movePebbles_10 : decode cX0_movePebbles 10 = .ok (.aload_n 0, 1) := by decide +kernel
theorem dX0_movePebbles_11 : decode cX0_movePebbles 11 = .ok (.getfield 11, 3) := by decide +kernel
theorem dX0_movePebbles_14 : decode cX0_movePebbles 14 = .ok (.iload_n 1, 1) := by decide +kernel
theorem dX0_movePebbles_15 : decode cX0_movePebbles 15 = .ok (.aaload, 1) := by decide +kernel
theorem dX0_movePebbles_16 : decode cX0_movePebbles 16 = .ok (.invokevirtual 50, 3) := by decide +kernel
theorem dX0_movePebbles_19 : decode cX0_movePebbles 19 = .ok (.iinc 1 1, 3) := by decide +kernel
theorem dX0_movePebbles_22 : decode cX0_movePebbles 22 = .ok (.goto (-20), 3) := by decide +kernel
theorem dX0_movePebbles_25 : decode cX0_movePebbles 25 = .ok (.return_, 1) := by decide +kernel
set_option maxRecDepth 20000 in
theorem ggX0_spread_X4_sightAfter : GoodIn wsX0_spread wsX4_sightAfter := goodIn_r _ [4, 5, 6, 7, 2, 8, 9, 10, 11, 12, 13, 14, 15, 16, 17, 18, 70, 71, 72, 73, 74] (by decide +kernel) (by decide +kernel)
set_option maxRecDepth 20000 in
theorem gX0_spread_X4_sightAfter_n56 : GoodIn wsX0_spread (wsX4_sightAfter) := ggX0_spread_X4_sightAfter
set_option maxRecDepth 20000 in
theorem ggX0_spread_X4_leadFrom : GoodIn wsX0_spread wsX4_leadFrom := goodIn_r _ [8, 9, 70, 71, 72, 73, 74] (by decide +kernel) (by decide +kernel)
set_option maxRecDepth 20000 in
theorem gX0_spread_X4_leadFrom_n60 : GoodIn wsX0_spread (wsX4_leadFrom) := ggX0_spread_X4_leadFrom
set_option maxRecDepth 20000 in
theorem ggX0_spread_X0_put : GoodIn wsX0_spread wsX0_put := goodIn_r _ [23, 24, 25, 26, 27, 22, 28, 29, 30, 2, 31, 32, 33, 34, 35, 36, 14, 9, 15, 37, 38, 39, 40, 41, 42, 43, 44, 45, 46, 47, 48, 49, 50, 51, 52, 53, 17, 54, 55, 56, 57, 58, 59, 60, 5, 6, 7, 8, 75, 76, 77, 78, 79, 80, 70, 71, 72, 73, 74] (by decide +kernel) (by decide +kernel)
set_option maxRecDepth 20000 in
theorem gX0_spread_X0_put : GoodIn wsX0_spread (wsV RX0 63 RX0 yX0_put wsX0_put) := goodIn_app (goodIn_of _ (by decide +kernel)) ggX0_spread_X0_put
set_option maxRecDepth 20000 in
theorem ggX0_spread_X0_guess : GoodIn wsX0_spread wsX0_guess := goodIn_r _ [64, 65, 66, 17, 67, 19, 20, 21, 22, 23, 24, 25, 26, 27, 28, 29, 30, 2, 31, 32, 33, 34, 35, 36, 14, 9, 15, 37, 38, 39, 40, 41, 42, 43, 44, 45, 46, 47, 48, 49, 50, 51, 52, 53, 54, 55, 56, 57, 58, 59, 60, 5, 6, 7, 8, 11, 12, 13, 16, 18, 68, 69, 70, 71, 72, 73, 74, 75, 76, 77, 78, 79, 80] (by decide +kernel) (by decide +kernel)
set_option maxRecDepth 20000 in
theorem gX0_spread_X0_guess : GoodIn wsX0_spread (wsV RX0 67 RX0 yX0_guess wsX0_guess) := goodIn_app (goodIn_of _ (by decide +kernel)) ggX0_spread_X0_guess
theorem dX0_spread_0 : decode cX0_spread 0 = .ok (.aload_n 1, 1) := by decide +kernel
theorem dX0_spread_1 : decode cX0_spread 1 = .ok (.aload_n 1, 1) := by decide +kernel
theorem dX0_spread_2 : decode cX0_spread 2 = .ok (.getfield 53, 3) := by decide +kernel
theorem dX0_spread_5 : decode cX0_spread 5 = .ok (.iload_n 2, 1) := by decide +kernel
theorem dX0_spread_6 : decode cX0_spread 6 = .ok (.invokevirtual 56, 3) := by decide +kernel
theorem dX0_spread_9 : decode cX0_spread 9 = .ok (.istore 4, 2) := by decide +kernel
theorem dX0_spread_11 : decode cX0_spread 11 = .ok (.iload 4, 2) := by decide +kernel
theorem dX0_spread_13 : decode cX0_spread 13 = .ok (.iload_n 3, 1) := by decide +kernel
theorem dX0_spread_14 : decode cX0_spread 14 = .ok (.if_icmp .ne 22, 3) := by decide +kernel
theorem dX0_spread_17 : decode cX0_spread 17 = .ok (.aload_n 0, 1) := by decide +kernel
theorem dX0_spread_18 : decode cX0_spread 18 = .ok (.aload_n 1, 1) := by decide +kernel
theorem dX0_spread_19 : decode cX0_spread 19 = .ok (.iload_n 2, 1) := by decide +kernel
theorem dX0_spread_20 : decode cX0_spread 20 = .ok (.aload_n 1, 1) := by decide +kernel
theorem dX0_spread_21 : decode cX0_spread 21 = .ok (.aload_n 1, 1) := by decide +kernel
theorem dX0_spread_22 : decode cX0_spread 22 = .ok (.getfield 53, 3) := by decide +kernel
theorem dX0_spread_25 : decode cX0_spread 25 = .ok (.iload_n 2, 1) := by decide +kernel
theorem dX0_spread_26 : decode cX0_spread 26 = .ok (.invokevirtual 60, 3) := by decide +kernel
theorem dX0_spread_29 : decode cX0_spread 29 = .ok (.iload_n 3, 1) := by decide +kernel
theorem dX0_spread_30 : decode cX0_spread 30 = .ok (.invokevirtual 63, 3) := by decide +kernel
theorem dX0_spread_33 : decode cX0_spread 33 = .ok (.goto 17, 3) := by decide +kernel
theorem dX0_spread_36 : decode cX0_spread 36 = .ok (.iload 4, 2) := by decide +kernel
theorem dX0_spread_38 : decode cX0_spread 38 = .ok (.bipush (-3), 2) := by decide +kernel
theorem dX0_spread_40 : decode cX0_spread 40 = .ok (.if_icmp .ne 10, 3) := by decide +kernel
theorem dX0_spread_43 : decode cX0_spread 43 = .ok (.aload_n 0, 1) := by decide +kernel
theorem dX0_spread_44 : decode cX0_spread 44 = .ok (.aload_n 1, 1) := by decide +kernel
theorem dX0_spread_45 : decode cX0_spread 45 = .ok (.iload_n 2, 1) := by decide +kernel
theorem dX0_spread_46 : decode cX0_spread 46 = .ok (.iload_n 3, 1) := by decide +kernel
theorem dX0_spread_47 : decode cX0_spread 47 = .ok (.invokevirtual 67, 3) := by decide +kernel
theorem dX0_spread_50 : decode cX0_spread 50 = .ok (.return_, 1) := by decide +kernel
set_option maxRecDepth 20000 in
theorem ggX0_guess_X8_bumpOf : GoodIn wsX0_guess wsX8_bumpOf := goodIn_r _ [4] (by decide +kernel) (by decide +kernel)
set_option maxRecDepth 20000 in
theorem gX0_guess_X8_bumpOf_n70 : GoodIn wsX0_guess (wsX8_bumpOf) := ggX0_guess_X8_bumpOf
set_option maxRecDepth 20000 in
theorem ggX0_guess_X0_put : GoodIn wsX0_guess wsX0_put := goodIn_r _ [9, 10, 11, 12, 13, 8, 14, 15, 16, 17, 18, 19, 20, 21, 22, 23, 24, 25, 26, 27, 28, 29, 30, 31, 32, 33, 34, 35, 36, 37, 38, 39, 40, 41, 42, 43, 3, 44, 45, 46, 47, 48, 49, 50, 51, 52, 53, 54, 67, 68, 69, 70, 71, 72, 62, 63, 64, 65, 66] (by decide +kernel) (by decide +kernel)
set_option maxRecDepth 20000 in
theorem gX0_guess_X0_put : GoodIn wsX0_guess (wsV RX0 63 RX0 yX0_put wsX0_put) := goodIn_app (goodIn_of _ (by decide +kernel)) ggX0_guess_X0_put
set_option maxRecDepth 20000 in
theorem ggX0_guess_X4_sightAt : GoodIn wsX0_guess wsX4_sightAt := goodIn_r _ [57, 24, 26, 58, 3, 59, 62, 63, 64, 65, 66] (by decide +kernel) (by decide +kernel)
set_option maxRecDepth 20000 in
theorem gX0_guess_X4_sightAt_n77 : GoodIn wsX0_guess (wsX4_sightAt) := ggX0_guess_X4_sightAt
set_option maxRecDepth 20000 in
theorem ggX0_guess_X8_pebbleOf : GoodIn wsX0_guess wsX8_pebbleOf := goodIn_r _ [61] (by decide +kernel) (by decide +kernel)
set_option maxRecDepth 20000 in
theorem gX0_guess_X8_pebbleOf_n81 : GoodIn wsX0_guess (wsX8_pebbleOf) := ggX0_guess_X8_pebbleOf
theorem dX0_guess_0 : decode cX0_guess 0 = .ok (.iload_n 3, 1) := by decide +kernel
theorem dX0_guess_1 : decode cX0_guess 1 = .ok (.invokestatic 70, 3) := by decide +kernel
theorem dX0_guess_4 : decode cX0_guess 4 = .ok (.iconst 1, 1) := by decide +kernel
theorem dX0_guess_5 : decode cX0_guess 5 = .ok (.if_icmp .ne 13, 3) := by decide +kernel
theorem dX0_guess_8 : decode cX0_guess 8 = .ok (.aload_n 0, 1) := by decide +kernel
theorem dX0_guess_9 : decode cX0_guess 9 = .ok (.aload_n 1, 1) := by decide +kernel
theorem dX0_guess_10 : decode cX0_guess 10 = .ok (.iload_n 2, 1) := by decide +kernel
theorem dX0_guess_11 : decode cX0_guess 11 = .ok (.bipush (-2), 2) := by decide +kernel
theorem dX0_guess_13 : decode cX0_guess 13 = .ok (.iload_n 3, 1) := by decide +kernel
theorem dX0_guess_14 : decode cX0_guess 14 = .ok (.invokevirtual 63, 3) := by decide +kernel
theorem dX0_guess_17 : decode cX0_guess 17 = .ok (.return_, 1) := by decide +kernel
theorem dX0_guess_18 : decode cX0_guess 18 = .ok (.iconst 0, 1) := by decide +kernel
theorem dX0_guess_19 : decode cX0_guess 19 = .ok (.istore 4, 2) := by decide +kernel
theorem dX0_guess_21 : decode cX0_guess 21 = .ok (.iload 4, 2) := by decide +kernel
theorem dX0_guess_23 : decode cX0_guess 23 = .ok (.aload_n 1, 1) := by decide +kernel
theorem dX0_guess_24 : decode cX0_guess 24 = .ok (.getfield 74, 3) := by decide +kernel
theorem dX0_guess_27 : decode cX0_guess 27 = .ok (.if_icmp .ge 29, 3) := by decide +kernel
theorem dX0_guess_30 : decode cX0_guess 30 = .ok (.aload_n 1, 1) := by decide +kernel
theorem dX0_guess_31 : decode cX0_guess 31 = .ok (.iload 4, 2) := by decide +kernel
theorem dX0_guess_33 : decode cX0_guess 33 = .ok (.iconst 0, 1) := by decide +kernel
theorem dX0_guess_34 : decode cX0_guess 34 = .ok (.invokevirtual 77, 3) := by decide +kernel
theorem dX0_guess_37 : decode cX0_guess 37 = .ok (.iload_n 3, 1) := by decide +kernel
theorem dX0_guess_38 : decode cX0_guess 38 = .ok (.if_icmp .ne 12, 3) := by decide +kernel
theorem dX0_guess_41 : decode cX0_guess 41 = .ok (.aload_n 0, 1) := by decide +kernel
theorem dX0_guess_42 : decode cX0_guess 42 = .ok (.aload_n 1, 1) := by decide +kernel
theorem dX0_guess_43 : decode cX0_guess 43 = .ok (.iload_n 2, 1) := by decide +kernel
theorem dX0_guess_44 : decode cX0_guess 44 = .ok (.iload 4, 2) := by decide +kernel
theorem dX0_guess_46 : decode cX0_guess 46 = .ok (.iload_n 3, 1) := by decide +kernel
theorem dX0_guess_47 : decode cX0_guess 47 = .ok (.invokevirtual 63, 3) := by decide +kernel
theorem dX0_guess_50 : decode cX0_guess 50 = .ok (.iinc 4 1, 3) := by decide +kernel
theorem dX0_guess_53 : decode cX0_guess 53 = .ok (.goto (-32), 3) := by decide +kernel
theorem dX0_guess_56 : decode cX0_guess 56 = .ok (.aload_n 1, 1) := by decide +kernel
theorem dX0_guess_57 : decode cX0_guess 57 = .ok (.getfield 74, 3) := by decide +kernel
theorem dX0_guess_60 : decode cX0_guess 60 = .ok (.aload_n 0, 1) := by decide +kernel
theorem dX0_guess_61 : decode cX0_guess 61 = .ok (.getfield 20, 3) := by decide +kernel
theorem dX0_guess_64 : decode cX0_guess 64 = .ok (.if_icmp .ge 21, 3) := by decide +kernel
theorem dX0_guess_67 : decode cX0_guess 67 = .ok (.iload_n 3, 1) := by decide +kernel
theorem dX0_guess_68 : decode cX0_guess 68 = .ok (.invokestatic 81, 3) := by decide +kernel
theorem dX0_guess_71 : decode cX0_guess 71 = .ok (.ifCond .ne 14, 3) := by decide +kernel
theorem dX0_guess_74 : decode cX0_guess 74 = .ok (.aload_n 0, 1) := by decide +kernel
theorem dX0_guess_75 : decode cX0_guess 75 = .ok (.aload_n 1, 1) := by decide +kernel
theorem dX0_guess_76 : decode cX0_guess 76 = .ok (.iload_n 2, 1) := by decide +kernel
theorem dX0_guess_77 : decode cX0_guess 77 = .ok (.aload_n 1, 1) := by decide +kernel
theorem dX0_guess_78 : decode cX0_guess 78 = .ok (.getfield 74, 3) := by decide +kernel
theorem dX0_guess_81 : decode cX0_guess 81 = .ok (.iload_n 3, 1) := by decide +kernel
theorem dX0_guess_82 : decode cX0_guess 82 = .ok (.invokevirtual 63, 3) := by decide +kernel
theorem dX0_guess_85 : decode cX0_guess 85 = .ok (.return_, 1) := by decide +kernel
set_option maxRecDepth 20000 in
theorem ggX0_put_X0_blank : GoodIn wsX0_put wsX0_blank := goodIn_r _ [6, 7, 8, 9, 10, 11, 12, 13, 14, 15, 16, 17, 18, 19, 20, 21, 22, 54, 55, 56, 57, 58] (by decide +kernel) (by decide +kernel)
set_option maxRecDepth 20000 in
theorem gX0_put_X0_blank : GoodIn wsX0_put (va_wsS RX0 31 yX0_blank wsX0_blank) := goodIn_app (goodIn_of _ (by decide +kernel)) ggX0_put_X0_blank
set_option maxRecDepth 20000 in
theorem ggX0_put_X4_become : GoodIn wsX0_put wsX4_become := goodIn_r _ [25, 16, 26, 27, 28, 29, 17, 30, 31, 18, 54, 55, 56, 57, 58] (by decide +kernel) (by decide +kernel)
set_option maxRecDepth 20000 in
theorem gX0_put_X4_become_n84 : GoodIn wsX0_put (wsX4_become) := ggX0_put_X4_become
set_option maxRecDepth 20000 in
theorem ggX0_put_X4_setLead : GoodIn wsX0_put wsX4_setLead := goodIn_r _ [34, 17, 54, 55, 56, 57, 58] (by decide +kernel) (by decide +kernel)
set_option maxRecDepth 20000 in
theorem gX0_put_X4_setLead_n88 : GoodIn wsX0_put (wsX4_setLead) := ggX0_put_X4_setLead
set_option maxRecDepth 20000 in
theorem ggX0_put_X8_signOf : GoodIn wsX0_put wsX8_signOf := goodIn_r _ [37] (by decide +kernel) (by decide +kernel)
set_option maxRecDepth 20000 in
theorem gX0_put_X8_signOf_n92 : GoodIn wsX0_put (wsX8_signOf) := ggX0_put_X8_signOf
set_option maxRecDepth 20000 in
theorem ggX0_put_X4_openPlace : GoodIn wsX0_put wsX4_openPlace := goodIn_r _ [40, 16, 30, 54, 55, 56, 57, 58] (by decide +kernel) (by decide +kernel)
set_option maxRecDepth 20000 in
theorem gX0_put_X4_openPlace_n95 : GoodIn wsX0_put (wsX4_openPlace) := ggX0_put_X4_openPlace
set_option maxRecDepth 20000 in
theorem ggX0_put_X4_placeAfter : GoodIn wsX0_put wsX4_placeAfter := goodIn_r _ [43, 44, 45, 46, 9, 47, 17, 54, 55, 56, 57, 58] (by decide +kernel) (by decide +kernel)
set_option maxRecDepth 20000 in
theorem gX0_put_X4_placeAfter_n98 : GoodIn wsX0_put (wsX4_placeAfter) := ggX0_put_X4_placeAfter
theorem dX0_put_0 : decode cX0_put 0 = .ok (.aload_n 0, 1) := by decide +kernel
theorem dX0_put_1 : decode cX0_put 1 = .ok (.getfield 43, 3) := by decide +kernel
theorem dX0_put_4 : decode cX0_put 4 = .ok (.sipush 150, 3) := by decide +kernel
theorem dX0_put_7 : decode cX0_put 7 = .ok (.if_icmp .le 4, 3) := by decide +kernel
theorem dX0_put_10 : decode cX0_put 10 = .ok (.return_, 1) := by decide +kernel
theorem dX0_put_11 : decode cX0_put 11 = .ok (.aload_n 0, 1) := by decide +kernel
theorem dX0_put_12 : decode cX0_put 12 = .ok (.getfield 17, 3) := by decide +kernel
theorem dX0_put_15 : decode cX0_put 15 = .ok (.aload_n 0, 1) := by decide +kernel
theorem dX0_put_16 : decode cX0_put 16 = .ok (.getfield 43, 3) := by decide +kernel
theorem dX0_put_19 : decode cX0_put 19 = .ok (.invokestatic 31, 3) := by decide +kernel
theorem dX0_put_22 : decode cX0_put 22 = .ok (.astore 5, 2) := by decide +kernel
theorem dX0_put_24 : decode cX0_put 24 = .ok (.aload_n 0, 1) := by decide +kernel
theorem dX0_put_25 : decode cX0_put 25 = .ok (.dup, 1) := by decide +kernel
theorem dX0_put_26 : decode cX0_put 26 = .ok (.getfield 43, 3) := by decide +kernel
theorem dX0_put_29 : decode cX0_put 29 = .ok (.iconst 1, 1) := by decide +kernel
theorem dX0_put_30 : decode cX0_put 30 = .ok (.iadd, 1) := by decide +kernel
theorem dX0_put_31 : decode cX0_put 31 = .ok (.putfield 43, 3) := by decide +kernel
theorem dX0_put_34 : decode cX0_put 34 = .ok (.aload 5, 2) := by decide +kernel
theorem dX0_put_36 : decode cX0_put 36 = .ok (.aload_n 1, 1) := by decide +kernel
theorem dX0_put_37 : decode cX0_put 37 = .ok (.invokevirtual 84, 3) := by decide +kernel
theorem dX0_put_40 : decode cX0_put 40 = .ok (.aload 5, 2) := by decide +kernel
theorem dX0_put_42 : decode cX0_put 42 = .ok (.aload 5, 2) := by decide +kernel
theorem dX0_put_44 : decode cX0_put 44 = .ok (.getfield 53, 3) := by decide +kernel
theorem dX0_put_47 : decode cX0_put 47 = .ok (.iload_n 2, 1) := by decide +kernel
theorem dX0_put_48 : decode cX0_put 48 = .ok (.iload_n 3, 1) := by decide +kernel
theorem dX0_put_49 : decode cX0_put 49 = .ok (.invokevirtual 88, 3) := by decide +kernel
theorem dX0_put_52 : decode cX0_put 52 = .ok (.iload_n 3, 1) := by decide +kernel
theorem dX0_put_53 : decode cX0_put 53 = .ok (.aload 5, 2) := by decide +kernel
theorem dX0_put_55 : decode cX0_put 55 = .ok (.getfield 74, 3) := by decide +kernel
theorem dX0_put_58 : decode cX0_put 58 = .ok (.if_icmp .ne 13, 3) := by decide +kernel
theorem dX0_put_61 : decode cX0_put 61 = .ok (.aload 5, 2) := by decide +kernel
theorem dX0_put_63 : decode cX0_put 63 = .ok (.iload 4, 2) := by decide +kernel
theorem dX0_put_65 : decode cX0_put 65 = .ok (.invokestatic 92, 3) := by decide +kernel
theorem dX0_put_68 : decode cX0_put 68 = .ok (.invokevirtual 95, 3) := by decide +kernel
theorem dX0_put_71 : decode cX0_put 71 = .ok (.aload 5, 2) := by decide +kernel
theorem dX0_put_73 : decode cX0_put 73 = .ok (.aload 5, 2) := by decide +kernel
theorem dX0_put_75 : decode cX0_put 75 = .ok (.aload 5, 2) := by decide +kernel
theorem dX0_put_77 : decode cX0_put 77 = .ok (.getfield 53, 3) := by decide +kernel
theorem dX0_put_80 : decode cX0_put 80 = .ok (.iload_n 2, 1) := by decide +kernel
theorem dX0_put_81 : decode cX0_put 81 = .ok (.invokevirtual 98, 3) := by decide +kernel
theorem dX0_put_84 : decode cX0_put 84 = .ok (.putfield 53, 3) := by decide +kernel
theorem dX0_put_87 : decode cX0_put 87 = .ok (.return_, 1) := by decide +kernel
theorem dX1_init_0 : decode cX1_init 0 = .ok (.aload_n 0, 1) := by decide +kernel
theorem dX1_init_1 : decode cX1_init 1 = .ok (.invokespecial 3, 3) := by decide +kernel
theorem dX1_init_4 : decode cX1_init 4 = .ok (.aload_n 0, 1) := by decide +kernel
theorem dX1_init_5 : decode cX1_init 5 = .ok (.bipush 10, 2) := by decide +kernel
theorem dX1_init_7 : decode cX1_init 7 = .ok (.newarray .int, 2) := by decide +kernel
theorem dX1_init_9 : decode cX1_init 9 = .ok (.putfield 9, 3) := by decide +kernel
theorem dX1_init_12 : decode cX1_init 12 = .ok (.aload_n 0, 1) := by decide +kernel
theorem dX1_init_13 : decode cX1_init 13 = .ok (.bipush 10, 2) := by decide +kernel
theorem dX1_init_15 : decode cX1_init 15 = .ok (.newarray .boolean, 2) := by decide +kernel
theorem dX1_init_17 : decode cX1_init 17 = .ok (.putfield 15, 3) := by decide +kernel
theorem dX1_init_20 : decode cX1_init 20 = .ok (.aload_n 0, 1) := by decide +kernel
theorem dX1_init_21 : decode cX1_init 21 = .ok (.bipush 40, 2) := by decide +kernel
theorem dX1_init_23 : decode cX1_init 23 = .ok (.newarray .int, 2) := by decide +kernel
theorem dX1_init_25 : decode cX1_init 25 = .ok (.putfield 19, 3) := by decide +kernel
theorem dX1_init_28 : decode cX1_init 28 = .ok (.aload_n 0, 1) := by decide +kernel
theorem dX1_init_29 : decode cX1_init 29 = .ok (.bipush 40, 2) := by decide +kernel
theorem dX1_init_31 : decode cX1_init 31 = .ok (.newarray .int, 2) := by decide +kernel
theorem dX1_init_33 : decode cX1_init 33 = .ok (.putfield 22, 3) := by decide +kernel
theorem dX1_init_36 : decode cX1_init 36 = .ok (.aload_n 0, 1) := by decide +kernel
theorem dX1_init_37 : decode cX1_init 37 = .ok (.bipush (-2), 2) := by decide +kernel
theorem dX1_init_39 : decode cX1_init 39 = .ok (.putfield 25, 3) := by decide +kernel
theorem dX1_init_42 : decode cX1_init 42 = .ok (.return_, 1) := by decide +kernel
theorem dX1_addCell_0 : decode cX1_addCell 0 = .ok (.aload_n 0, 1) := by decide +kernel
theorem dX1_addCell_1 : decode cX1_addCell 1 = .ok (.getfield 29, 3) := by decide +kernel
theorem dX1_addCell_4 : decode cX1_addCell 4 = .ok (.istore_n 3, 1) := by decide +kernel
theorem dX1_addCell_5 : decode cX1_addCell 5 = .ok (.aload_n 0, 1) := by decide +kernel
theorem dX1_addCell_6 : decode cX1_addCell 6 = .ok (.getfield 9, 3) := by decide +kernel
theorem dX1_addCell_9 : decode cX1_addCell 9 = .ok (.iload_n 3, 1) := by decide +kernel
theorem dX1_addCell_10 : decode cX1_addCell 10 = .ok (.iload_n 1, 1) := by decide +kernel
theorem dX1_addCell_11 : decode cX1_addCell 11 = .ok (.iastore, 1) := by decide +kernel
theorem dX1_addCell_12 : decode cX1_addCell 12 = .ok (.aload_n 0, 1) := by decide +kernel
theorem dX1_addCell_13 : decode cX1_addCell 13 = .ok (.getfield 15, 3) := by decide +kernel
theorem dX1_addCell_16 : decode cX1_addCell 16 = .ok (.iload_n 3, 1) := by decide +kernel
theorem dX1_addCell_17 : decode cX1_addCell 17 = .ok (.iload_n 2, 1) := by decide +kernel
theorem dX1_addCell_18 : decode cX1_addCell 18 = .ok (.bastore, 1) := by decide +kernel
theorem dX1_addCell_19 : decode cX1_addCell 19 = .ok (.aload_n 0, 1) := by decide +kernel
theorem dX1_addCell_20 : decode cX1_addCell 20 = .ok (.dup, 1) := by decide +kernel
theorem dX1_addCell_21 : decode cX1_addCell 21 = .ok (.getfield 29, 3) := by decide +kernel
theorem dX1_addCell_24 : decode cX1_addCell 24 = .ok (.iconst 1, 1) := by decide +kernel
theorem dX1_addCell_25 : decode cX1_addCell 25 = .ok (.iadd, 1) := by decide +kernel
theorem dX1_addCell_26 : decode cX1_addCell 26 = .ok (.putfield 29, 3) := by decide +kernel
theorem dX1_addCell_29 : decode cX1_addCell 29 = .ok (.iload_n 3, 1) := by decide +kernel
theorem dX1_addCell_30 : decode cX1_addCell 30 = .ok (.ireturn, 1) := by decide +kernel
theorem dX1_setLead_0 : decode cX1_setLead 0 = .ok (.aload_n 0, 1) := by decide +kernel
theorem dX1_setLead_1 : decode cX1_setLead 1 = .ok (.getfield 19, 3) := by decide +kernel
theorem dX1_setLead_4 : decode cX1_setLead 4 = .ok (.iload_n 1, 1) := by decide +kernel
theorem dX1_setLead_5 : decode cX1_setLead 5 = .ok (.iaload, 1) := by decide +kernel
theorem dX1_setLead_6 : decode cX1_setLead 6 = .ok (.istore 4, 2) := by decide +kernel
theorem dX1_setLead_8 : decode cX1_setLead 8 = .ok (.aload_n 0, 1) := by decide +kernel
theorem dX1_setLead_9 : decode cX1_setLead 9 = .ok (.getfield 19, 3) := by decide +kernel
theorem dX1_setLead_12 : decode cX1_setLead 12 = .ok (.iload_n 1, 1) := by decide +kernel
theorem dX1_setLead_13 : decode cX1_setLead 13 = .ok (.iload_n 2, 1) := by decide +kernel
theorem dX1_setLead_14 : decode cX1_setLead 14 = .ok (.iastore, 1) := by decide +kernel
theorem dX1_setLead_15 : decode cX1_setLead 15 = .ok (.aload_n 0, 1) := by decide +kernel
theorem dX1_setLead_16 : decode cX1_setLead 16 = .ok (.getfield 22, 3) := by decide +kernel
theorem dX1_setLead_19 : decode cX1_setLead 19 = .ok (.iload_n 1, 1) := by decide +kernel
theorem dX1_setLead_20 : decode cX1_setLead 20 = .ok (.iload_n 3, 1) := by decide +kernel
theorem dX1_setLead_21 : decode cX1_setLead 21 = .ok (.iastore, 1) := by decide +kernel
theorem dX1_setLead_22 : decode cX1_setLead 22 = .ok (.iload 4, 2) := by decide +kernel
theorem dX1_setLead_24 : decode cX1_setLead 24 = .ok (.ireturn, 1) := by decide +kernel
set_option maxRecDepth 20000 in
theorem ggX1_begin_X8_standOf : GoodIn wsX1_begin wsX8_standOf := goodIn_r _ [5] (by decide +kernel) (by decide +kernel)
set_option maxRecDepth 20000 in
theorem gX1_begin_X8_standOf_n32 : GoodIn wsX1_begin (wsX8_standOf) := ggX1_begin_X8_standOf
theorem dX1_begin_0 : decode cX1_begin 0 = .ok (.aload_n 0, 1) := by decide +kernel
theorem dX1_begin_1 : decode cX1_begin 1 = .ok (.iconst 0, 1) := by decide +kernel
theorem dX1_begin_2 : decode cX1_begin 2 = .ok (.iconst 0, 1) := by decide +kernel
theorem dX1_begin_3 : decode cX1_begin 3 = .ok (.iconst 0, 1) := by decide +kernel
theorem dX1_begin_4 : decode cX1_begin 4 = .ok (.invokestatic 32, 3) := by decide +kernel
theorem dX1_begin_7 : decode cX1_begin 7 = .ok (.putfield 36, 3) := by decide +kernel
theorem dX1_begin_10 : decode cX1_begin 10 = .ok (.aload_n 0, 1) := by decide +kernel
theorem dX1_begin_11 : decode cX1_begin 11 = .ok (.bipush (-2), 2) := by decide +kernel
theorem dX1_begin_13 : decode cX1_begin 13 = .ok (.putfield 25, 3) := by decide +kernel
theorem dX1_begin_16 : decode cX1_begin 16 = .ok (.return_, 1) := by decide +kernel
set_option maxRecDepth 20000 in
theorem ggX1_sight_X8_cellOf : GoodIn wsX1_sight wsX8_cellOf := goodIn_r _ [6] (by decide +kernel) (by decide +kernel)
set_option maxRecDepth 20000 in
theorem gX1_sight_X8_cellOf_n39 : GoodIn wsX1_sight (wsX8_cellOf) := ggX1_sight_X8_cellOf
set_option maxRecDepth 20000 in
theorem ggX1_sight_X8_sightOf : GoodIn wsX1_sight wsX8_sightOf := goodIn_r _ [8] (by decide +kernel) (by decide +kernel)
set_option maxRecDepth 20000 in
theorem gX1_sight_X8_sightOf_n43 : GoodIn wsX1_sight (wsX8_sightOf) := ggX1_sight_X8_sightOf
theorem dX1_sight_0 : decode cX1_sight 0 = .ok (.aload_n 0, 1) := by decide +kernel
theorem dX1_sight_1 : decode cX1_sight 1 = .ok (.getfield 36, 3) := by decide +kernel
theorem dX1_sight_4 : decode cX1_sight 4 = .ok (.invokestatic 39, 3) := by decide +kernel
theorem dX1_sight_7 : decode cX1_sight 7 = .ok (.istore_n 2, 1) := by decide +kernel
theorem dX1_sight_8 : decode cX1_sight 8 = .ok (.iload_n 1, 1) := by decide +kernel
theorem dX1_sight_9 : decode cX1_sight 9 = .ok (.aload_n 0, 1) := by decide +kernel
theorem dX1_sight_10 : decode cX1_sight 10 = .ok (.getfield 9, 3) := by decide +kernel
theorem dX1_sight_13 : decode cX1_sight 13 = .ok (.iload_n 2, 1) := by decide +kernel
theorem dX1_sight_14 : decode cX1_sight 14 = .ok (.iaload, 1) := by decide +kernel
theorem dX1_sight_15 : decode cX1_sight 15 = .ok (.aload_n 0, 1) := by decide +kernel
theorem dX1_sight_16 : decode cX1_sight 16 = .ok (.getfield 25, 3) := by decide +kernel
theorem dX1_sight_19 : decode cX1_sight 19 = .ok (.iload_n 2, 1) := by decide +kernel
theorem dX1_sight_20 : decode cX1_sight 20 = .ok (.if_icmp .ne 7, 3) := by decide +kernel
theorem dX1_sight_23 : decode cX1_sight 23 = .ok (.iconst 1, 1) := by decide +kernel
theorem dX1_sight_24 : decode cX1_sight 24 = .ok (.goto 4, 3) := by decide +kernel
theorem dX1_sight_27 : decode cX1_sight 27 = .ok (.iconst 0, 1) := by decide +kernel
theorem dX1_sight_28 : decode cX1_sight 28 = .ok (.invokestatic 43, 3) := by decide +kernel
theorem dX1_sight_31 : decode cX1_sight 31 = .ok (.ireturn, 1) := by decide +kernel
set_option maxRecDepth 20000 in
theorem ggX1_perform_X1_movePebble : GoodIn wsX1_perform wsX1_movePebble := goodIn_r _ [6, 1, 7, 8, 9, 10, 28, 29, 30, 31, 32, 33, 34] (by decide +kernel) (by decide +kernel)
set_option maxRecDepth 20000 in
theorem gX1_perform_X1_movePebble : GoodIn wsX1_perform (wsV RX1 47 RX1 yX1_movePebble wsX1_movePebble) := goodIn_app (goodIn_of _ (by decide +kernel)) ggX1_perform_X1_movePebble
set_option maxRecDepth 20000 in
theorem ggX1_perform_X1_after : GoodIn wsX1_perform wsX1_after := goodIn_r _ [14, 15, 16, 17, 8, 9, 10, 18, 19, 20, 21, 22, 23, 24, 25, 26, 5, 27, 28, 29, 30, 31, 32, 33, 34] (by decide +kernel) (by decide +kernel)
set_option maxRecDepth 20000 in
theorem gX1_perform_X1_after : GoodIn wsX1_perform (wsV RX1 50 RX1 yX1_after wsX1_after) := goodIn_app (goodIn_of _ (by decide +kernel)) ggX1_perform_X1_after
theorem dX1_perform_0 : decode cX1_perform 0 = .ok (.iload_n 1, 1) := by decide +kernel
theorem dX1_perform_1 : decode cX1_perform 1 = .ok (.iconst 5, 1) := by decide +kernel
theorem dX1_perform_2 : decode cX1_perform 2 = .ok (.if_icmp .ne 9, 3) := by decide +kernel
theorem dX1_perform_5 : decode cX1_perform 5 = .ok (.aload_n 0, 1) := by decide +kernel
theorem dX1_perform_6 : decode cX1_perform 6 = .ok (.invokevirtual 47, 3) := by decide +kernel
theorem dX1_perform_9 : decode cX1_perform 9 = .ok (.iconst 0, 1) := by decide +kernel
theorem dX1_perform_10 : decode cX1_perform 10 = .ok (.ireturn, 1) := by decide +kernel
theorem dX1_perform_11 : decode cX1_perform 11 = .ok (.aload_n 0, 1) := by decide +kernel
theorem dX1_perform_12 : decode cX1_perform 12 = .ok (.aload_n 0, 1) := by decide +kernel
theorem dX1_perform_13 : decode cX1_perform 13 = .ok (.getfield 36, 3) := by decide +kernel
theorem dX1_perform_16 : decode cX1_perform 16 = .ok (.iload_n 1, 1) := by decide +kernel
theorem dX1_perform_17 : decode cX1_perform 17 = .ok (.invokevirtual 50, 3) := by decide +kernel
theorem dX1_perform_20 : decode cX1_perform 20 = .ok (.istore_n 2, 1) := by decide +kernel
theorem dX1_perform_21 : decode cX1_perform 21 = .ok (.iload_n 2, 1) := by decide +kernel
theorem dX1_perform_22 : decode cX1_perform 22 = .ok (.bipush (-2), 2) := by decide +kernel
theorem dX1_perform_24 : decode cX1_perform 24 = .ok (.if_icmp .ne 5, 3) := by decide +kernel
theorem dX1_perform_27 : decode cX1_perform 27 = .ok (.iconst 1, 1) := by decide +kernel
theorem dX1_perform_28 : decode cX1_perform 28 = .ok (.ireturn, 1) := by decide +kernel
theorem dX1_perform_29 : decode cX1_perform 29 = .ok (.aload_n 0, 1) := by decide +kernel
theorem dX1_perform_30 : decode cX1_perform 30 = .ok (.iload_n 2, 1) := by decide +kernel
theorem dX1_perform_31 : decode cX1_perform 31 = .ok (.putfield 36, 3) := by decide +kernel
theorem dX1_perform_34 : decode cX1_perform 34 = .ok (.iconst 0, 1) := by decide +kernel
theorem dX1_perform_35 : decode cX1_perform 35 = .ok (.ireturn, 1) := by decide +kernel
set_option maxRecDepth 20000 in
theorem ggX1_movePebble_X8_cellOf : GoodIn wsX1_movePebble wsX8_cellOf := goodIn_r _ [5] (by decide +kernel) (by decide +kernel)
set_option maxRecDepth 20000 in
theorem gX1_movePebble_X8_cellOf_n39 : GoodIn wsX1_movePebble (wsX8_cellOf) := ggX1_movePebble_X8_cellOf
theorem dX1_movePebble_0 : decode cX1_movePebble 0 = .ok (.aload_n 0, 1) := by decide +kernel
theorem dX1_movePebble_1 : decode cX1_movePebble 1 = .ok (.getfield 36, 3) := by decide +kernel
theorem dX1_movePebble_4 : decode cX1_movePebble 4 = .ok (.invokestatic 39, 3) := by decide +kernel
theorem dX1_movePebble_7 : decode cX1_movePebble 7 = .ok (.istore_n 1, 1) := by decide +kernel
theorem dX1_movePebble_8 : decode cX1_movePebble 8 = .ok (.aload_n 0, 1) := by decide +kernel
theorem dX1_movePebble_9 : decode cX1_movePebble 9 = .ok (.getfield 25, 3) := by decide +kernel
theorem dX1_movePebble_12 : decode cX1_movePebble 12 = .ok (.bipush (-2), 2) := by decide +kernel
theorem dX1_movePebble_14 : decode cX1_movePebble 14 = .ok (.if_icmp .ne 11, 3) := by decide +kernel
theorem dX1_movePebble_17 : decode cX1_movePebble 17 = .ok (.aload_n 0, 1) := by decide +kernel
theorem dX1_movePebble_18 : decode cX1_movePebble 18 = .ok (.iload_n 1, 1) := by decide +kernel
theorem dX1_movePebble_19 : decode cX1_movePebble 19 = .ok (.putfield 25, 3) := by decide +kernel
theorem dX1_movePebble_22 : decode cX1_movePebble 22 = .ok (.goto 17, 3) := by decide +kernel
theorem dX1_movePebble_25 : decode cX1_movePebble 25 = .ok (.aload_n 0, 1) := by decide +kernel
theorem dX1_movePebble_26 : decode cX1_movePebble 26 = .ok (.getfield 25, 3) := by decide +kernel
theorem dX1_movePebble_29 : decode cX1_movePebble 29 = .ok (.iload_n 1, 1) := by decide +kernel
theorem dX1_movePebble_30 : decode cX1_movePebble 30 = .ok (.if_icmp .ne 9, 3) := by decide +kernel
theorem dX1_movePebble_33 : decode cX1_movePebble 33 = .ok (.aload_n 0, 1) := by decide +kernel
theorem dX1_movePebble_34 : decode cX1_movePebble 34 = .ok (.bipush (-2), 2) := by decide +kernel
theorem dX1_movePebble_36 : decode cX1_movePebble 36 = .ok (.putfield 25, 3) := by decide +kernel
theorem dX1_movePebble_39 : decode cX1_movePebble 39 = .ok (.return_, 1) := by decide +kernel
set_option maxRecDepth 20000 in
theorem ggX1_after_X8_cellOf : GoodIn wsX1_after wsX8_cellOf := goodIn_r _ [6] (by decide +kernel) (by decide +kernel)
set_option maxRecDepth 20000 in
theorem gX1_after_X8_cellOf_n39 : GoodIn wsX1_after (wsX8_cellOf) := ggX1_after_X8_cellOf
set_option maxRecDepth 20000 in
theorem ggX1_after_X8_turnOf : GoodIn wsX1_after wsX8_turnOf := goodIn_r _ [8] (by decide +kernel) (by decide +kernel)
set_option maxRecDepth 20000 in
theorem gX1_after_X8_turnOf_n54 : GoodIn wsX1_after (wsX8_turnOf) := ggX1_after_X8_turnOf
set_option maxRecDepth 20000 in
theorem ggX1_after_X8_switchOf : GoodIn wsX1_after wsX8_switchOf := goodIn_r _ [10] (by decide +kernel) (by decide +kernel)
set_option maxRecDepth 20000 in
theorem gX1_after_X8_switchOf_n57 : GoodIn wsX1_after (wsX8_switchOf) := ggX1_after_X8_switchOf
set_option maxRecDepth 20000 in
theorem ggX1_after_X8_standOf : GoodIn wsX1_after wsX8_standOf := goodIn_r _ [12] (by decide +kernel) (by decide +kernel)
set_option maxRecDepth 20000 in
theorem gX1_after_X8_standOf_n32 : GoodIn wsX1_after (wsX8_standOf) := ggX1_after_X8_standOf
set_option maxRecDepth 20000 in
theorem ggX1_after_X1_slideEnd : GoodIn wsX1_after wsX1_slideEnd := goodIn_r _ [17, 2, 3, 18, 19, 20, 21, 22, 23, 24] (by decide +kernel) (by decide +kernel)
set_option maxRecDepth 20000 in
theorem gX1_after_X1_slideEnd : GoodIn wsX1_after (wsV RX1 60 RX1 yX1_slideEnd wsX1_slideEnd) := goodIn_app (goodIn_of _ (by decide +kernel)) ggX1_after_X1_slideEnd
theorem dX1_after_0 : decode cX1_after 0 = .ok (.iload_n 1, 1) := by decide +kernel
theorem dX1_after_1 : decode cX1_after 1 = .ok (.invokestatic 39, 3) := by decide +kernel
theorem dX1_after_4 : decode cX1_after 4 = .ok (.istore_n 3, 1) := by decide +kernel
theorem dX1_after_5 : decode cX1_after 5 = .ok (.iload_n 1, 1) := by decide +kernel
theorem dX1_after_6 : decode cX1_after 6 = .ok (.invokestatic 54, 3) := by decide +kernel
theorem dX1_after_9 : decode cX1_after 9 = .ok (.istore 4, 2) := by decide +kernel
theorem dX1_after_11 : decode cX1_after 11 = .ok (.iload_n 1, 1) := by decide +kernel
theorem dX1_after_12 : decode cX1_after 12 = .ok (.invokestatic 57, 3) := by decide +kernel
theorem dX1_after_15 : decode cX1_after 15 = .ok (.istore 5, 2) := by decide +kernel
theorem dX1_after_17 : decode cX1_after 17 = .ok (.iload_n 2, 1) := by decide +kernel
theorem dX1_after_18 : decode cX1_after 18 = .ok (.iconst 4, 1) := by decide +kernel
theorem dX1_after_19 : decode cX1_after 19 = .ok (.if_icmp .ne 27, 3) := by decide +kernel
theorem dX1_after_22 : decode cX1_after 22 = .ok (.aload_n 0, 1) := by decide +kernel
theorem dX1_after_23 : decode cX1_after 23 = .ok (.getfield 15, 3) := by decide +kernel
theorem dX1_after_26 : decode cX1_after 26 = .ok (.iload_n 3, 1) := by decide +kernel
theorem dX1_after_27 : decode cX1_after 27 = .ok (.baload, 1) := by decide +kernel
theorem dX1_after_28 : decode cX1_after 28 = .ok (.ifCond .eq 16, 3) := by decide +kernel
theorem dX1_after_31 : decode cX1_after 31 = .ok (.iload_n 3, 1) := by decide +kernel
theorem dX1_after_32 : decode cX1_after 32 = .ok (.iload 4, 2) := by decide +kernel
theorem dX1_after_34 : decode cX1_after 34 = .ok (.iconst 1, 1) := by decide +kernel
theorem dX1_after_35 : decode cX1_after 35 = .ok (.iload 5, 2) := by decide +kernel
theorem dX1_after_37 : decode cX1_after 37 = .ok (.isub, 1) := by decide +kernel
theorem dX1_after_38 : decode cX1_after 38 = .ok (.invokestatic 32, 3) := by decide +kernel
theorem dX1_after_41 : decode cX1_after 41 = .ok (.goto 4, 3) := by decide +kernel
theorem dX1_after_44 : decode cX1_after 44 = .ok (.iload_n 1, 1) := by decide +kernel
theorem dX1_after_45 : decode cX1_after 45 = .ok (.ireturn, 1) := by decide +kernel
theorem dX1_after_46 : decode cX1_after 46 = .ok (.iload_n 2, 1) := by decide +kernel
theorem dX1_after_47 : decode cX1_after 47 = .ok (.iload 4, 2) := by decide +kernel
theorem dX1_after_49 : decode cX1_after 49 = .ok (.iadd, 1) := by decide +kernel
theorem dX1_after_50 : decode cX1_after 50 = .ok (.iconst 4, 1) := by decide +kernel
theorem dX1_after_51 : decode cX1_after 51 = .ok (.irem, 1) := by decide +kernel
theorem dX1_after_52 : decode cX1_after 52 = .ok (.istore 6, 2) := by decide +kernel
theorem dX1_after_54 : decode cX1_after 54 = .ok (.iload_n 3, 1) := by decide +kernel
theorem dX1_after_55 : decode cX1_after 55 = .ok (.iconst 4, 1) := by decide +kernel
theorem dX1_after_56 : decode cX1_after 56 = .ok (.imul, 1) := by decide +kernel
theorem dX1_after_57 : decode cX1_after 57 = .ok (.iload 6, 2) := by decide +kernel
theorem dX1_after_59 : decode cX1_after 59 = .ok (.iadd, 1) := by decide +kernel
theorem dX1_after_60 : decode cX1_after 60 = .ok (.istore 7, 2) := by decide +kernel
theorem dX1_after_62 : decode cX1_after 62 = .ok (.aload_n 0, 1) := by decide +kernel
theorem dX1_after_63 : decode cX1_after 63 = .ok (.getfield 19, 3) := by decide +kernel
theorem dX1_after_66 : decode cX1_after 66 = .ok (.iload 7, 2) := by decide +kernel
theorem dX1_after_68 : decode cX1_after 68 = .ok (.iaload, 1) := by decide +kernel
theorem dX1_after_69 : decode cX1_after 69 = .ok (.tableswitch 131 0 5 #[39, 131, 42, 67, 88, 107], 39) := by decide +kernel
theorem dX1_after_108 : decode cX1_after 108 = .ok (.bipush (-2), 2) := by decide +kernel
theorem dX1_after_110 : decode cX1_after 110 = .ok (.ireturn, 1) := by decide +kernel
theorem dX1_after_111 : decode cX1_after 111 = .ok (.iload 5, 2) := by decide +kernel
theorem dX1_after_113 : decode cX1_after 113 = .ok (.ifCond .ne 8, 3) := by decide +kernel
theorem dX1_after_116 : decode cX1_after 116 = .ok (.bipush (-2), 2) := by decide +kernel
theorem dX1_after_118 : decode cX1_after 118 = .ok (.goto 17, 3) := by decide +kernel
theorem dX1_after_121 : decode cX1_after 121 = .ok (.aload_n 0, 1) := by decide +kernel
theorem dX1_after_122 : decode cX1_after 122 = .ok (.getfield 22, 3) := by decide +kernel
theorem dX1_after_125 : decode cX1_after 125 = .ok (.iload 7, 2) := by decide +kernel
theorem dX1_after_127 : decode cX1_after 127 = .ok (.iaload, 1) := by decide +kernel
theorem dX1_after_128 : decode cX1_after 128 = .ok (.iload 4, 2) := by decide +kernel
theorem dX1_after_130 : decode cX1_after 130 = .ok (.iload 5, 2) := by decide +kernel
theorem dX1_after_132 : decode cX1_after 132 = .ok (.invokestatic 32, 3) := by decide +kernel
theorem dX1_after_135 : decode cX1_after 135 = .ok (.ireturn, 1) := by decide +kernel
theorem dX1_after_136 : decode cX1_after 136 = .ok (.aload_n 0, 1) := by decide +kernel
theorem dX1_after_137 : decode cX1_after 137 = .ok (.aload_n 0, 1) := by decide +kernel
theorem dX1_after_138 : decode cX1_after 138 = .ok (.getfield 22, 3) := by decide +kernel
theorem dX1_after_141 : decode cX1_after 141 = .ok (.iload 7, 2) := by decide +kernel
theorem dX1_after_143 : decode cX1_after 143 = .ok (.iaload, 1) := by decide +kernel
theorem dX1_after_144 : decode cX1_after 144 = .ok (.iload 6, 2) := by decide +kernel
theorem dX1_after_146 : decode cX1_after 146 = .ok (.invokevirtual 60, 3) := by decide +kernel
theorem dX1_after_149 : decode cX1_after 149 = .ok (.iload 4, 2) := by decide +kernel
theorem dX1_after_151 : decode cX1_after 151 = .ok (.iload 5, 2) := by decide +kernel
theorem dX1_after_153 : decode cX1_after 153 = .ok (.invokestatic 32, 3) := by decide +kernel
theorem dX1_after_156 : decode cX1_after 156 = .ok (.ireturn, 1) := by decide +kernel
theorem dX1_after_157 : decode cX1_after 157 = .ok (.aload_n 0, 1) := by decide +kernel
theorem dX1_after_158 : decode cX1_after 158 = .ok (.getfield 22, 3) := by decide +kernel
theorem dX1_after_161 : decode cX1_after 161 = .ok (.iload 7, 2) := by decide +kernel
theorem dX1_after_163 : decode cX1_after 163 = .ok (.iaload, 1) := by decide +kernel
theorem dX1_after_164 : decode cX1_after 164 = .ok (.iload 4, 2) := by decide +kernel
theorem dX1_after_166 : decode cX1_after 166 = .ok (.iconst 1, 1) := by decide +kernel
theorem dX1_after_167 : decode cX1_after 167 = .ok (.iadd, 1) := by decide +kernel
theorem dX1_after_168 : decode cX1_after 168 = .ok (.iconst 4, 1) := by decide +kernel
theorem dX1_after_169 : decode cX1_after 169 = .ok (.irem, 1) := by decide +kernel
theorem dX1_after_170 : decode cX1_after 170 = .ok (.iload 5, 2) := by decide +kernel
theorem dX1_after_172 : decode cX1_after 172 = .ok (.invokestatic 32, 3) := by decide +kernel
theorem dX1_after_175 : decode cX1_after 175 = .ok (.ireturn, 1) := by decide +kernel
theorem dX1_after_176 : decode cX1_after 176 = .ok (.iload 5, 2) := by decide +kernel
theorem dX1_after_178 : decode cX1_after 178 = .ok (.ifCond .ne 8, 3) := by decide +kernel
theorem dX1_after_181 : decode cX1_after 181 = .ok (.bipush (-2), 2) := by decide +kernel
theorem dX1_after_183 : decode cX1_after 183 = .ok (.goto 16, 3) := by decide +kernel
theorem dX1_after_186 : decode cX1_after 186 = .ok (.aload_n 0, 1) := by decide +kernel
theorem dX1_after_187 : decode cX1_after 187 = .ok (.getfield 22, 3) := by decide +kernel
theorem dX1_after_190 : decode cX1_after 190 = .ok (.iload 7, 2) := by decide +kernel
theorem dX1_after_192 : decode cX1_after 192 = .ok (.iaload, 1) := by decide +kernel
theorem dX1_after_193 : decode cX1_after 193 = .ok (.iload 4, 2) := by decide +kernel
theorem dX1_after_195 : decode cX1_after 195 = .ok (.iconst 0, 1) := by decide +kernel
theorem dX1_after_196 : decode cX1_after 196 = .ok (.invokestatic 32, 3) := by decide +kernel
theorem dX1_after_199 : decode cX1_after 199 = .ok (.ireturn, 1) := by decide +kernel
theorem dX1_after_200 : decode cX1_after 200 = .ok (.aload_n 0, 1) := by decide +kernel
theorem dX1_after_201 : decode cX1_after 201 = .ok (.getfield 22, 3) := by decide +kernel
theorem dX1_after_204 : decode cX1_after 204 = .ok (.iload 7, 2) := by decide +kernel
theorem dX1_after_206 : decode cX1_after 206 = .ok (.iaload, 1) := by decide +kernel
theorem dX1_after_207 : decode cX1_after 207 = .ok (.iload 4, 2) := by decide +kernel
theorem dX1_after_209 : decode cX1_after 209 = .ok (.iload 5, 2) := by decide +kernel
theorem dX1_after_211 : decode cX1_after 211 = .ok (.invokestatic 32, 3) := by decide +kernel
theorem dX1_after_214 : decode cX1_after 214 = .ok (.ireturn, 1) := by decide +kernel
theorem dX1_slideEnd_0 : decode cX1_slideEnd 0 = .ok (.iload_n 1, 1) := by decide +kernel
theorem dX1_slideEnd_1 : decode cX1_slideEnd 1 = .ok (.istore_n 3, 1) := by decide +kernel
theorem dX1_slideEnd_2 : decode cX1_slideEnd 2 = .ok (.iconst 0, 1) := by decide +kernel
theorem dX1_slideEnd_3 : decode cX1_slideEnd 3 = .ok (.istore 4, 2) := by decide +kernel
theorem dX1_slideEnd_5 : decode cX1_slideEnd 5 = .ok (.iload 4, 2) := by decide +kernel
theorem dX1_slideEnd_7 : decode cX1_slideEnd 7 = .ok (.bipush 10, 2) := by decide +kernel
theorem dX1_slideEnd_9 : decode cX1_slideEnd 9 = .ok (.if_icmp .ge 34, 3) := by decide +kernel
theorem dX1_slideEnd_12 : decode cX1_slideEnd 12 = .ok (.aload_n 0, 1) := by decide +kernel
theorem dX1_slideEnd_13 : decode cX1_slideEnd 13 = .ok (.getfield 19, 3) := by decide +kernel
theorem dX1_slideEnd_16 : decode cX1_slideEnd 16 = .ok (.iload_n 3, 1) := by decide +kernel
theorem dX1_slideEnd_17 : decode cX1_slideEnd 17 = .ok (.iconst 4, 1) := by decide +kernel
theorem dX1_slideEnd_18 : decode cX1_slideEnd 18 = .ok (.imul, 1) := by decide +kernel
theorem dX1_slideEnd_19 : decode cX1_slideEnd 19 = .ok (.iload_n 2, 1) := by decide +kernel
theorem dX1_slideEnd_20 : decode cX1_slideEnd 20 = .ok (.iadd, 1) := by decide +kernel
theorem dX1_slideEnd_21 : decode cX1_slideEnd 21 = .ok (.iaload, 1) := by decide +kernel
theorem dX1_slideEnd_22 : decode cX1_slideEnd 22 = .ok (.iconst 3, 1) := by decide +kernel
theorem dX1_slideEnd_23 : decode cX1_slideEnd 23 = .ok (.if_icmp .ne 20, 3) := by decide +kernel
theorem dX1_slideEnd_26 : decode cX1_slideEnd 26 = .ok (.aload_n 0, 1) := by decide +kernel
theorem dX1_slideEnd_27 : decode cX1_slideEnd 27 = .ok (.getfield 22, 3) := by decide +kernel
theorem dX1_slideEnd_30 : decode cX1_slideEnd 30 = .ok (.iload_n 3, 1) := by decide +kernel
theorem dX1_slideEnd_31 : decode cX1_slideEnd 31 = .ok (.iconst 4, 1) := by decide +kernel
theorem dX1_slideEnd_32 : decode cX1_slideEnd 32 = .ok (.imul, 1) := by decide +kernel
theorem dX1_slideEnd_33 : decode cX1_slideEnd 33 = .ok (.iload_n 2, 1) := by decide +kernel
theorem dX1_slideEnd_34 : decode cX1_slideEnd 34 = .ok (.iadd, 1) := by decide +kernel
theorem dX1_slideEnd_35 : decode cX1_slideEnd 35 = .ok (.iaload, 1) := by decide +kernel
theorem dX1_slideEnd_36 : decode cX1_slideEnd 36 = .ok (.istore_n 3, 1) := by decide +kernel
theorem dX1_slideEnd_37 : decode cX1_slideEnd 37 = .ok (.iinc 4 1, 3) := by decide +kernel
theorem dX1_slideEnd_40 : decode cX1_slideEnd 40 = .ok (.goto (-35), 3) := by decide +kernel
theorem dX1_slideEnd_43 : decode cX1_slideEnd 43 = .ok (.iload_n 3, 1) := by decide +kernel
theorem dX1_slideEnd_44 : decode cX1_slideEnd 44 = .ok (.ireturn, 1) := by decide +kernel
theorem dX2_init_0 : decode cX2_init 0 = .ok (.aload_n 0, 1) := by decide +kernel
theorem dX2_init_1 : decode cX2_init 1 = .ok (.invokespecial 3, 3) := by decide +kernel
theorem dX2_init_4 : decode cX2_init 4 = .ok (.aload_n 0, 1) := by decide +kernel
theorem dX2_init_5 : decode cX2_init 5 = .ok (.sipush 150, 3) := by decide +kernel
theorem dX2_init_8 : decode cX2_init 8 = .ok (.newarray .int, 2) := by decide +kernel
theorem dX2_init_10 : decode cX2_init 10 = .ok (.putfield 9, 3) := by decide +kernel
theorem dX2_init_13 : decode cX2_init 13 = .ok (.aload_n 0, 1) := by decide +kernel
theorem dX2_init_14 : decode cX2_init 14 = .ok (.sipush 150, 3) := by decide +kernel
theorem dX2_init_17 : decode cX2_init 17 = .ok (.newarray .int, 2) := by decide +kernel
theorem dX2_init_19 : decode cX2_init 19 = .ok (.putfield 15, 3) := by decide +kernel
theorem dX2_init_22 : decode cX2_init 22 = .ok (.aload_n 0, 1) := by decide +kernel
theorem dX2_init_23 : decode cX2_init 23 = .ok (.sipush 2550, 3) := by decide +kernel
theorem dX2_init_26 : decode cX2_init 26 = .ok (.newarray .int, 2) := by decide +kernel
theorem dX2_init_28 : decode cX2_init 28 = .ok (.putfield 18, 3) := by decide +kernel
theorem dX2_init_31 : decode cX2_init 31 = .ok (.return_, 1) := by decide +kernel
set_option maxRecDepth 20000 in
theorem ggX2_bestRow_X2_countSets : GoodIn wsX2_bestRow wsX2_countSets := goodIn_r _ [5, 6, 7, 8, 9, 10, 11, 4, 12, 13, 14, 15, 16, 17, 18, 19, 20, 21, 22, 23, 24, 25, 26, 27, 28, 29, 30, 31, 32, 33, 34, 35, 36, 37, 38, 39, 40, 41, 42, 43, 44, 51, 52, 53, 54, 45, 46, 47, 48, 49, 50, 55, 56, 57, 58, 59, 60, 61, 62, 63] (by decide +kernel) (by decide +kernel)
set_option maxRecDepth 20000 in
theorem gX2_bestRow_X2_countSets : GoodIn wsX2_bestRow (wsV RX2 30 RX2 yX2_countSets wsX2_countSets) := goodIn_app (goodIn_of _ (by decide +kernel)) ggX2_bestRow_X2_countSets
theorem dX2_bestRow_0 : decode cX2_bestRow 0 = .ok (.iconst 0, 1) := by decide +kernel
theorem dX2_bestRow_1 : decode cX2_bestRow 1 = .ok (.istore_n 3, 1) := by decide +kernel
theorem dX2_bestRow_2 : decode cX2_bestRow 2 = .ok (.iconst 0, 1) := by decide +kernel
theorem dX2_bestRow_3 : decode cX2_bestRow 3 = .ok (.istore 4, 2) := by decide +kernel
theorem dX2_bestRow_5 : decode cX2_bestRow 5 = .ok (.iconst 1, 1) := by decide +kernel
theorem dX2_bestRow_6 : decode cX2_bestRow 6 = .ok (.istore 5, 2) := by decide +kernel
theorem dX2_bestRow_8 : decode cX2_bestRow 8 = .ok (.iload 5, 2) := by decide +kernel
theorem dX2_bestRow_10 : decode cX2_bestRow 10 = .ok (.iload_n 2, 1) := by decide +kernel
theorem dX2_bestRow_11 : decode cX2_bestRow 11 = .ok (.if_icmp .gt 68, 3) := by decide +kernel
theorem dX2_bestRow_14 : decode cX2_bestRow 14 = .ok (.iconst 0, 1) := by decide +kernel
theorem dX2_bestRow_15 : decode cX2_bestRow 15 = .ok (.istore 6, 2) := by decide +kernel
theorem dX2_bestRow_17 : decode cX2_bestRow 17 = .ok (.iload 6, 2) := by decide +kernel
theorem dX2_bestRow_19 : decode cX2_bestRow 19 = .ok (.getstatic 21, 3) := by decide +kernel
theorem dX2_bestRow_22 : decode cX2_bestRow 22 = .ok (.iload 5, 2) := by decide +kernel
theorem dX2_bestRow_24 : decode cX2_bestRow 24 = .ok (.iaload, 1) := by decide +kernel
theorem dX2_bestRow_25 : decode cX2_bestRow 25 = .ok (.if_icmp .ge 48, 3) := by decide +kernel
theorem dX2_bestRow_28 : decode cX2_bestRow 28 = .ok (.iload_n 3, 1) := by decide +kernel
theorem dX2_bestRow_29 : decode cX2_bestRow 29 = .ok (.aload_n 1, 1) := by decide +kernel
theorem dX2_bestRow_30 : decode cX2_bestRow 30 = .ok (.getfield 24, 3) := by decide +kernel
theorem dX2_bestRow_33 : decode cX2_bestRow 33 = .ok (.if_icmp .ge 40, 3) := by decide +kernel
theorem dX2_bestRow_36 : decode cX2_bestRow 36 = .ok (.aload_n 0, 1) := by decide +kernel
theorem dX2_bestRow_37 : decode cX2_bestRow 37 = .ok (.aload_n 1, 1) := by decide +kernel
theorem dX2_bestRow_38 : decode cX2_bestRow 38 = .ok (.iload 5, 2) := by decide +kernel
theorem dX2_bestRow_40 : decode cX2_bestRow 40 = .ok (.iload 6, 2) := by decide +kernel
theorem dX2_bestRow_42 : decode cX2_bestRow 42 = .ok (.invokevirtual 30, 3) := by decide +kernel
theorem dX2_bestRow_45 : decode cX2_bestRow 45 = .ok (.istore 7, 2) := by decide +kernel
theorem dX2_bestRow_47 : decode cX2_bestRow 47 = .ok (.iload 7, 2) := by decide +kernel
theorem dX2_bestRow_49 : decode cX2_bestRow 49 = .ok (.iload_n 3, 1) := by decide +kernel
theorem dX2_bestRow_50 : decode cX2_bestRow 50 = .ok (.if_icmp .le 17, 3) := by decide +kernel
theorem dX2_bestRow_53 : decode cX2_bestRow 53 = .ok (.iload 7, 2) := by decide +kernel
theorem dX2_bestRow_55 : decode cX2_bestRow 55 = .ok (.istore_n 3, 1) := by decide +kernel
theorem dX2_bestRow_56 : decode cX2_bestRow 56 = .ok (.sipush 200, 3) := by decide +kernel
theorem dX2_bestRow_59 : decode cX2_bestRow 59 = .ok (.iload 5, 2) := by decide +kernel
theorem dX2_bestRow_61 : decode cX2_bestRow 61 = .ok (.imul, 1) := by decide +kernel
theorem dX2_bestRow_62 : decode cX2_bestRow 62 = .ok (.iload 6, 2) := by decide +kernel
theorem dX2_bestRow_64 : decode cX2_bestRow 64 = .ok (.iadd, 1) := by decide +kernel
theorem dX2_bestRow_65 : decode cX2_bestRow 65 = .ok (.istore 4, 2) := by decide +kernel
theorem dX2_bestRow_67 : decode cX2_bestRow 67 = .ok (.iinc 6 1, 3) := by decide +kernel
theorem dX2_bestRow_70 : decode cX2_bestRow 70 = .ok (.goto (-53), 3) := by decide +kernel
theorem dX2_bestRow_73 : decode cX2_bestRow 73 = .ok (.iinc 5 1, 3) := by decide +kernel
theorem dX2_bestRow_76 : decode cX2_bestRow 76 = .ok (.goto (-68), 3) := by decide +kernel
theorem dX2_bestRow_79 : decode cX2_bestRow 79 = .ok (.iload 4, 2) := by decide +kernel
theorem dX2_bestRow_81 : decode cX2_bestRow 81 = .ok (.ireturn, 1) := by decide +kernel
set_option maxRecDepth 20000 in
theorem ggX2_countSets_X2_refine : GoodIn wsX2_countSets wsX2_refine := goodIn_r _ [8, 9, 1, 2, 3, 10, 11, 12, 13, 14, 15, 16, 17, 18, 19, 20, 21, 22, 23, 24, 25, 26, 27, 28, 29, 30, 31, 32, 33, 34, 35, 36, 37, 38, 39, 40, 41, 42, 43, 44, 45, 46, 47, 48, 49, 50, 56, 57, 58, 59, 51, 52, 53, 54, 55] (by decide +kernel) (by decide +kernel)
set_option maxRecDepth 20000 in
theorem gX2_countSets_X2_refine : GoodIn wsX2_countSets (wsV RX2 44 RX2 yX2_refine wsX2_refine) := goodIn_app (goodIn_of _ (by decide +kernel)) ggX2_countSets_X2_refine
theorem dX2_countSets_0 : decode cX2_countSets 0 = .ok (.aload_n 0, 1) := by decide +kernel
theorem dX2_countSets_1 : decode cX2_countSets 1 = .ok (.iconst 1, 1) := by decide +kernel
theorem dX2_countSets_2 : decode cX2_countSets 2 = .ok (.putfield 34, 3) := by decide +kernel
theorem dX2_countSets_5 : decode cX2_countSets 5 = .ok (.iconst 0, 1) := by decide +kernel
theorem dX2_countSets_6 : decode cX2_countSets 6 = .ok (.istore 4, 2) := by decide +kernel
theorem dX2_countSets_8 : decode cX2_countSets 8 = .ok (.iload 4, 2) := by decide +kernel
theorem dX2_countSets_10 : decode cX2_countSets 10 = .ok (.aload_n 1, 1) := by decide +kernel
theorem dX2_countSets_11 : decode cX2_countSets 11 = .ok (.getfield 24, 3) := by decide +kernel
theorem dX2_countSets_14 : decode cX2_countSets 14 = .ok (.if_icmp .ge 34, 3) := by decide +kernel
theorem dX2_countSets_17 : decode cX2_countSets 17 = .ok (.aload_n 0, 1) := by decide +kernel
theorem dX2_countSets_18 : decode cX2_countSets 18 = .ok (.getfield 9, 3) := by decide +kernel
theorem dX2_countSets_21 : decode cX2_countSets 21 = .ok (.iload 4, 2) := by decide +kernel
theorem dX2_countSets_23 : decode cX2_countSets 23 = .ok (.aload_n 1, 1) := by decide +kernel
theorem dX2_countSets_24 : decode cX2_countSets 24 = .ok (.getfield 35, 3) := by decide +kernel
theorem dX2_countSets_27 : decode cX2_countSets 27 = .ok (.iload 4, 2) := by decide +kernel
theorem dX2_countSets_29 : decode cX2_countSets 29 = .ok (.aaload, 1) := by decide +kernel
theorem dX2_countSets_30 : decode cX2_countSets 30 = .ok (.getfield 39, 3) := by decide +kernel
theorem dX2_countSets_33 : decode cX2_countSets 33 = .ok (.iastore, 1) := by decide +kernel
theorem dX2_countSets_34 : decode cX2_countSets 34 = .ok (.aload_n 0, 1) := by decide +kernel
theorem dX2_countSets_35 : decode cX2_countSets 35 = .ok (.getfield 15, 3) := by decide +kernel
theorem dX2_countSets_38 : decode cX2_countSets 38 = .ok (.iload 4, 2) := by decide +kernel
theorem dX2_countSets_40 : decode cX2_countSets 40 = .ok (.iconst 0, 1) := by decide +kernel
theorem dX2_countSets_41 : decode cX2_countSets 41 = .ok (.iastore, 1) := by decide +kernel
theorem dX2_countSets_42 : decode cX2_countSets 42 = .ok (.iinc 4 1, 3) := by decide +kernel
theorem dX2_countSets_45 : decode cX2_countSets 45 = .ok (.goto (-37), 3) := by decide +kernel
theorem dX2_countSets_48 : decode cX2_countSets 48 = .ok (.iconst 1, 1) := by decide +kernel
theorem dX2_countSets_49 : decode cX2_countSets 49 = .ok (.istore 4, 2) := by decide +kernel
theorem dX2_countSets_51 : decode cX2_countSets 51 = .ok (.iload 4, 2) := by decide +kernel
theorem dX2_countSets_53 : decode cX2_countSets 53 = .ok (.iload_n 2, 1) := by decide +kernel
theorem dX2_countSets_54 : decode cX2_countSets 54 = .ok (.if_icmp .gt 26, 3) := by decide +kernel
theorem dX2_countSets_57 : decode cX2_countSets 57 = .ok (.aload_n 0, 1) := by decide +kernel
theorem dX2_countSets_58 : decode cX2_countSets 58 = .ok (.aload_n 1, 1) := by decide +kernel
theorem dX2_countSets_59 : decode cX2_countSets 59 = .ok (.iload_n 3, 1) := by decide +kernel
theorem dX2_countSets_60 : decode cX2_countSets 60 = .ok (.getstatic 21, 3) := by decide +kernel
theorem dX2_countSets_63 : decode cX2_countSets 63 = .ok (.iload_n 2, 1) := by decide +kernel
theorem dX2_countSets_64 : decode cX2_countSets 64 = .ok (.iload 4, 2) := by decide +kernel
theorem dX2_countSets_66 : decode cX2_countSets 66 = .ok (.isub, 1) := by decide +kernel
theorem dX2_countSets_67 : decode cX2_countSets 67 = .ok (.iaload, 1) := by decide +kernel
theorem dX2_countSets_68 : decode cX2_countSets 68 = .ok (.idiv, 1) := by decide +kernel
theorem dX2_countSets_69 : decode cX2_countSets 69 = .ok (.iconst 5, 1) := by decide +kernel
theorem dX2_countSets_70 : decode cX2_countSets 70 = .ok (.irem, 1) := by decide +kernel
theorem dX2_countSets_71 : decode cX2_countSets 71 = .ok (.invokevirtual 44, 3) := by decide +kernel
theorem dX2_countSets_74 : decode cX2_countSets 74 = .ok (.iinc 4 1, 3) := by decide +kernel
theorem dX2_countSets_77 : decode cX2_countSets 77 = .ok (.goto (-26), 3) := by decide +kernel
theorem dX2_countSets_80 : decode cX2_countSets 80 = .ok (.aload_n 0, 1) := by decide +kernel
theorem dX2_countSets_81 : decode cX2_countSets 81 = .ok (.getfield 34, 3) := by decide +kernel
theorem dX2_countSets_84 : decode cX2_countSets 84 = .ok (.ireturn, 1) := by decide +kernel
set_option maxRecDepth 20000 in
theorem ggX2_refine_J7_fill_fda19 : GoodIn wsX2_refine wsJ7_fill_fda19 := goodIn_r _ [8, 9, 10, 7, 11, 12, 13, 14, 46, 47, 48, 49] (by decide +kernel) (by decide +kernel)
set_option maxRecDepth 20000 in
theorem gX2_refine_J7_fill_fda19 : GoodIn wsX2_refine (va_wsS RX2 48 yJ7_fill_fda19 wsJ7_fill_fda19) := goodIn_app (goodIn_of _ (by decide +kernel)) ggX2_refine_J7_fill_fda19
set_option maxRecDepth 20000 in
theorem ggX2_refine_X4_sightAfter : GoodIn wsX2_refine wsX4_sightAfter := goodIn_r _ [18, 19, 20, 21, 16, 22, 23, 24, 25, 26, 27, 28, 29, 30, 31, 32, 50, 51, 52, 53, 54] (by decide +kernel) (by decide +kernel)
set_option maxRecDepth 20000 in
theorem gX2_refine_X4_sightAfter_n54 : GoodIn wsX2_refine (wsX4_sightAfter) := ggX2_refine_X4_sightAfter
set_option maxRecDepth 20000 in
theorem ggX2_refine_X4_placeAfter : GoodIn wsX2_refine wsX4_placeAfter := goodIn_r _ [35, 19, 20, 21, 16, 22, 23, 50, 51, 52, 53, 54] (by decide +kernel) (by decide +kernel)
set_option maxRecDepth 20000 in
theorem gX2_refine_X4_placeAfter_n58 : GoodIn wsX2_refine (wsX4_placeAfter) := ggX2_refine_X4_placeAfter
theorem dX2_refine_0 : decode cX2_refine 0 = .ok (.aload_n 0, 1) := by decide +kernel
theorem dX2_refine_1 : decode cX2_refine 1 = .ok (.getfield 18, 3) := by decide +kernel
theorem dX2_refine_4 : decode cX2_refine 4 = .ok (.iconst 0, 1) := by decide +kernel
theorem dX2_refine_5 : decode cX2_refine 5 = .ok (.aload_n 0, 1) := by decide +kernel
theorem dX2_refine_6 : decode cX2_refine 6 = .ok (.getfield 34, 3) := by decide +kernel
theorem dX2_refine_9 : decode cX2_refine 9 = .ok (.bipush 17, 2) := by decide +kernel
theorem dX2_refine_11 : decode cX2_refine 11 = .ok (.imul, 1) := by decide +kernel
theorem dX2_refine_12 : decode cX2_refine 12 = .ok (.iconst 0, 1) := by decide +kernel
theorem dX2_refine_13 : decode cX2_refine 13 = .ok (.invokestatic 48, 3) := by decide +kernel
theorem dX2_refine_16 : decode cX2_refine 16 = .ok (.aload_n 0, 1) := by decide +kernel
theorem dX2_refine_17 : decode cX2_refine 17 = .ok (.iconst 0, 1) := by decide +kernel
theorem dX2_refine_18 : decode cX2_refine 18 = .ok (.putfield 34, 3) := by decide +kernel
theorem dX2_refine_21 : decode cX2_refine 21 = .ok (.iconst 0, 1) := by decide +kernel
theorem dX2_refine_22 : decode cX2_refine 22 = .ok (.istore_n 3, 1) := by decide +kernel
theorem dX2_refine_23 : decode cX2_refine 23 = .ok (.iload_n 3, 1) := by decide +kernel
theorem dX2_refine_24 : decode cX2_refine 24 = .ok (.aload_n 1, 1) := by decide +kernel
theorem dX2_refine_25 : decode cX2_refine 25 = .ok (.getfield 24, 3) := by decide +kernel
theorem dX2_refine_28 : decode cX2_refine 28 = .ok (.if_icmp .ge 149, 3) := by decide +kernel
theorem dX2_refine_31 : decode cX2_refine 31 = .ok (.aload_n 1, 1) := by decide +kernel
theorem dX2_refine_32 : decode cX2_refine 32 = .ok (.getfield 35, 3) := by decide +kernel
theorem dX2_refine_35 : decode cX2_refine 35 = .ok (.iload_n 3, 1) := by decide +kernel
theorem dX2_refine_36 : decode cX2_refine 36 = .ok (.aaload, 1) := by decide +kernel
theorem dX2_refine_37 : decode cX2_refine 37 = .ok (.astore 4, 2) := by decide +kernel
theorem dX2_refine_39 : decode cX2_refine 39 = .ok (.aload_n 0, 1) := by decide +kernel
theorem dX2_refine_40 : decode cX2_refine 40 = .ok (.getfield 9, 3) := by decide +kernel
theorem dX2_refine_43 : decode cX2_refine 43 = .ok (.iload_n 3, 1) := by decide +kernel
theorem dX2_refine_44 : decode cX2_refine 44 = .ok (.iaload, 1) := by decide +kernel
theorem dX2_refine_45 : decode cX2_refine 45 = .ok (.bipush (-3), 2) := by decide +kernel
theorem dX2_refine_47 : decode cX2_refine 47 = .ok (.if_icmp .ne 8, 3) := by decide +kernel
theorem dX2_refine_50 : decode cX2_refine 50 = .ok (.bipush (-3), 2) := by decide +kernel
theorem dX2_refine_52 : decode cX2_refine 52 = .ok (.goto 15, 3) := by decide +kernel
theorem dX2_refine_55 : decode cX2_refine 55 = .ok (.aload 4, 2) := by decide +kernel
theorem dX2_refine_57 : decode cX2_refine 57 = .ok (.aload_n 0, 1) := by decide +kernel
theorem dX2_refine_58 : decode cX2_refine 58 = .ok (.getfield 9, 3) := by decide +kernel
theorem dX2_refine_61 : decode cX2_refine 61 = .ok (.iload_n 3, 1) := by decide +kernel
theorem dX2_refine_62 : decode cX2_refine 62 = .ok (.iaload, 1) := by decide +kernel
theorem dX2_refine_63 : decode cX2_refine 63 = .ok (.iload_n 2, 1) := by decide +kernel
theorem dX2_refine_64 : decode cX2_refine 64 = .ok (.invokevirtual 54, 3) := by decide +kernel
theorem dX2_refine_67 : decode cX2_refine 67 = .ok (.istore 5, 2) := by decide +kernel
theorem dX2_refine_69 : decode cX2_refine 69 = .ok (.aload_n 0, 1) := by decide +kernel
theorem dX2_refine_70 : decode cX2_refine 70 = .ok (.getfield 9, 3) := by decide +kernel
theorem dX2_refine_73 : decode cX2_refine 73 = .ok (.iload_n 3, 1) := by decide +kernel
theorem dX2_refine_74 : decode cX2_refine 74 = .ok (.iload 5, 2) := by decide +kernel
theorem dX2_refine_76 : decode cX2_refine 76 = .ok (.bipush (-3), 2) := by decide +kernel
theorem dX2_refine_78 : decode cX2_refine 78 = .ok (.if_icmp .ne 8, 3) := by decide +kernel
theorem dX2_refine_81 : decode cX2_refine 81 = .ok (.bipush (-3), 2) := by decide +kernel
theorem dX2_refine_83 : decode cX2_refine 83 = .ok (.goto 15, 3) := by decide +kernel
theorem dX2_refine_86 : decode cX2_refine 86 = .ok (.aload 4, 2) := by decide +kernel
theorem dX2_refine_88 : decode cX2_refine 88 = .ok (.aload_n 0, 1) := by decide +kernel
theorem dX2_refine_89 : decode cX2_refine 89 = .ok (.getfield 9, 3) := by decide +kernel
theorem dX2_refine_92 : decode cX2_refine 92 = .ok (.iload_n 3, 1) := by decide +kernel
theorem dX2_refine_93 : decode cX2_refine 93 = .ok (.iaload, 1) := by decide +kernel
theorem dX2_refine_94 : decode cX2_refine 94 = .ok (.iload_n 2, 1) := by decide +kernel
theorem dX2_refine_95 : decode cX2_refine 95 = .ok (.invokevirtual 58, 3) := by decide +kernel
theorem dX2_refine_98 : decode cX2_refine 98 = .ok (.iastore, 1) := by decide +kernel
theorem dX2_refine_99 : decode cX2_refine 99 = .ok (.aload_n 0, 1) := by decide +kernel
theorem dX2_refine_100 : decode cX2_refine 100 = .ok (.getfield 15, 3) := by decide +kernel
theorem dX2_refine_103 : decode cX2_refine 103 = .ok (.iload_n 3, 1) := by decide +kernel
theorem dX2_refine_104 : decode cX2_refine 104 = .ok (.iaload, 1) := by decide +kernel
theorem dX2_refine_105 : decode cX2_refine 105 = .ok (.bipush 17, 2) := by decide +kernel
theorem dX2_refine_107 : decode cX2_refine 107 = .ok (.imul, 1) := by decide +kernel
theorem dX2_refine_108 : decode cX2_refine 108 = .ok (.iload 5, 2) := by decide +kernel
theorem dX2_refine_110 : decode cX2_refine 110 = .ok (.bipush (-3), 2) := by decide +kernel
theorem dX2_refine_112 : decode cX2_refine 112 = .ok (.if_icmp .ne 8, 3) := by decide +kernel
theorem dX2_refine_115 : decode cX2_refine 115 = .ok (.bipush 16, 2) := by decide +kernel
theorem dX2_refine_117 : decode cX2_refine 117 = .ok (.goto 5, 3) := by decide +kernel
theorem dX2_refine_120 : decode cX2_refine 120 = .ok (.iload 5, 2) := by decide +kernel
theorem dX2_refine_122 : decode cX2_refine 122 = .ok (.iadd, 1) := by decide +kernel
theorem dX2_refine_123 : decode cX2_refine 123 = .ok (.istore 6, 2) := by decide +kernel
theorem dX2_refine_125 : decode cX2_refine 125 = .ok (.aload_n 0, 1) := by decide +kernel
theorem dX2_refine_126 : decode cX2_refine 126 = .ok (.getfield 18, 3) := by decide +kernel
theorem dX2_refine_129 : decode cX2_refine 129 = .ok (.iload 6, 2) := by decide +kernel
theorem dX2_refine_131 : decode cX2_refine 131 = .ok (.iaload, 1) := by decide +kernel
theorem dX2_refine_132 : decode cX2_refine 132 = .ok (.ifCond .ne 24, 3) := by decide +kernel
theorem dX2_refine_135 : decode cX2_refine 135 = .ok (.aload_n 0, 1) := by decide +kernel
theorem dX2_refine_136 : decode cX2_refine 136 = .ok (.dup, 1) := by decide +kernel
theorem dX2_refine_137 : decode cX2_refine 137 = .ok (.getfield 34, 3) := by decide +kernel
theorem dX2_refine_140 : decode cX2_refine 140 = .ok (.iconst 1, 1) := by decide +kernel
theorem dX2_refine_141 : decode cX2_refine 141 = .ok (.iadd, 1) := by decide +kernel
theorem dX2_refine_142 : decode cX2_refine 142 = .ok (.putfield 34, 3) := by decide +kernel
theorem dX2_refine_145 : decode cX2_refine 145 = .ok (.aload_n 0, 1) := by decide +kernel
theorem dX2_refine_146 : decode cX2_refine 146 = .ok (.getfield 18, 3) := by decide +kernel
theorem dX2_refine_149 : decode cX2_refine 149 = .ok (.iload 6, 2) := by decide +kernel
theorem dX2_refine_151 : decode cX2_refine 151 = .ok (.aload_n 0, 1) := by decide +kernel
theorem dX2_refine_152 : decode cX2_refine 152 = .ok (.getfield 34, 3) := by decide +kernel
theorem dX2_refine_155 : decode cX2_refine 155 = .ok (.iastore, 1) := by decide +kernel
theorem dX2_refine_156 : decode cX2_refine 156 = .ok (.aload_n 0, 1) := by decide +kernel
theorem dX2_refine_157 : decode cX2_refine 157 = .ok (.getfield 15, 3) := by decide +kernel
theorem dX2_refine_160 : decode cX2_refine 160 = .ok (.iload_n 3, 1) := by decide +kernel
theorem dX2_refine_161 : decode cX2_refine 161 = .ok (.aload_n 0, 1) := by decide +kernel
theorem dX2_refine_162 : decode cX2_refine 162 = .ok (.getfield 18, 3) := by decide +kernel
theorem dX2_refine_165 : decode cX2_refine 165 = .ok (.iload 6, 2) := by decide +kernel
theorem dX2_refine_167 : decode cX2_refine 167 = .ok (.iaload, 1) := by decide +kernel
theorem dX2_refine_168 : decode cX2_refine 168 = .ok (.iconst 1, 1) := by decide +kernel
theorem dX2_refine_169 : decode cX2_refine 169 = .ok (.isub, 1) := by decide +kernel
theorem dX2_refine_170 : decode cX2_refine 170 = .ok (.iastore, 1) := by decide +kernel
theorem dX2_refine_171 : decode cX2_refine 171 = .ok (.iinc 3 1, 3) := by decide +kernel
theorem dX2_refine_174 : decode cX2_refine 174 = .ok (.goto (-151), 3) := by decide +kernel
theorem dX2_refine_177 : decode cX2_refine 177 = .ok (.return_, 1) := by decide +kernel
theorem dX3_init_0 : decode cX3_init 0 = .ok (.aload_n 0, 1) := by decide +kernel
theorem dX3_init_1 : decode cX3_init 1 = .ok (.invokespecial 3, 3) := by decide +kernel
theorem dX3_init_4 : decode cX3_init 4 = .ok (.aload_n 0, 1) := by decide +kernel
theorem dX3_init_5 : decode cX3_init 5 = .ok (.bipush 6, 2) := by decide +kernel
theorem dX3_init_7 : decode cX3_init 7 = .ok (.newarray .int, 2) := by decide +kernel
theorem dX3_init_9 : decode cX3_init 9 = .ok (.putfield 9, 3) := by decide +kernel
theorem dX3_init_12 : decode cX3_init 12 = .ok (.aload_n 0, 1) := by decide +kernel
theorem dX3_init_13 : decode cX3_init 13 = .ok (.bipush 6, 2) := by decide +kernel
theorem dX3_init_15 : decode cX3_init 15 = .ok (.newarray .int, 2) := by decide +kernel
theorem dX3_init_17 : decode cX3_init 17 = .ok (.putfield 15, 3) := by decide +kernel
theorem dX3_init_20 : decode cX3_init 20 = .ok (.return_, 1) := by decide +kernel
set_option maxRecDepth 20000 in
theorem ggX3_find_X3_measure : GoodIn wsX3_find wsX3_measure := goodIn_r _ [8, 1, 9, 10, 11, 12, 13, 14, 15, 16, 17, 18, 19, 20, 21, 22, 23, 24, 25, 30, 31, 32, 33, 34, 35, 36, 37] (by decide +kernel) (by decide +kernel)
set_option maxRecDepth 20000 in
theorem gX3_find_X3_measure : GoodIn wsX3_find (wsV RX3 18 RX3 yX3_measure wsX3_measure) := goodIn_app (goodIn_of _ (by decide +kernel)) ggX3_find_X3_measure
set_option maxRecDepth 20000 in
theorem ggX3_find_X3_nearerBy : GoodIn wsX3_find wsX3_nearerBy := goodIn_r _ [29, 1, 17, 18, 19, 20, 21, 22, 23, 24, 25, 30, 31, 32, 33, 34, 35, 36, 37] (by decide +kernel) (by decide +kernel)
set_option maxRecDepth 20000 in
theorem gX3_find_X3_nearerBy : GoodIn wsX3_find (wsV RX3 31 RX3 yX3_nearerBy wsX3_nearerBy) := goodIn_app (goodIn_of _ (by decide +kernel)) ggX3_find_X3_nearerBy
set_option maxRecDepth 20000 in
theorem ggX3_find_X4_placeAfter : GoodIn wsX3_find wsX4_placeAfter := goodIn_r _ [20, 21, 22, 23, 18, 24, 25, 33, 34, 35, 36, 37] (by decide +kernel) (by decide +kernel)
set_option maxRecDepth 20000 in
theorem gX3_find_X4_placeAfter_n35 : GoodIn wsX3_find (wsX4_placeAfter) := ggX3_find_X4_placeAfter
theorem dX3_find_0 : decode cX3_find 0 = .ok (.aload_n 0, 1) := by decide +kernel
theorem dX3_find_1 : decode cX3_find 1 = .ok (.aload_n 1, 1) := by decide +kernel
theorem dX3_find_2 : decode cX3_find 2 = .ok (.iload_n 2, 1) := by decide +kernel
theorem dX3_find_3 : decode cX3_find 3 = .ok (.invokevirtual 18, 3) := by decide +kernel
theorem dX3_find_6 : decode cX3_find 6 = .ok (.aload_n 0, 1) := by decide +kernel
theorem dX3_find_7 : decode cX3_find 7 = .ok (.getfield 9, 3) := by decide +kernel
theorem dX3_find_10 : decode cX3_find 10 = .ok (.aload_n 1, 1) := by decide +kernel
theorem dX3_find_11 : decode cX3_find 11 = .ok (.getfield 22, 3) := by decide +kernel
theorem dX3_find_14 : decode cX3_find 14 = .ok (.iaload, 1) := by decide +kernel
theorem dX3_find_15 : decode cX3_find 15 = .ok (.bipush 6, 2) := by decide +kernel
theorem dX3_find_17 : decode cX3_find 17 = .ok (.if_icmp .lt 5, 3) := by decide +kernel
theorem dX3_find_20 : decode cX3_find 20 = .ok (.iconst 0, 1) := by decide +kernel
theorem dX3_find_21 : decode cX3_find 21 = .ok (.ireturn, 1) := by decide +kernel
theorem dX3_find_22 : decode cX3_find 22 = .ok (.aload_n 0, 1) := by decide +kernel
theorem dX3_find_23 : decode cX3_find 23 = .ok (.aload_n 0, 1) := by decide +kernel
theorem dX3_find_24 : decode cX3_find 24 = .ok (.getfield 9, 3) := by decide +kernel
theorem dX3_find_27 : decode cX3_find 27 = .ok (.aload_n 1, 1) := by decide +kernel
theorem dX3_find_28 : decode cX3_find 28 = .ok (.getfield 22, 3) := by decide +kernel
theorem dX3_find_31 : decode cX3_find 31 = .ok (.iaload, 1) := by decide +kernel
theorem dX3_find_32 : decode cX3_find 32 = .ok (.putfield 28, 3) := by decide +kernel
theorem dX3_find_35 : decode cX3_find 35 = .ok (.aload_n 1, 1) := by decide +kernel
theorem dX3_find_36 : decode cX3_find 36 = .ok (.getfield 22, 3) := by decide +kernel
theorem dX3_find_39 : decode cX3_find 39 = .ok (.istore_n 3, 1) := by decide +kernel
theorem dX3_find_40 : decode cX3_find 40 = .ok (.iconst 0, 1) := by decide +kernel
theorem dX3_find_41 : decode cX3_find 41 = .ok (.istore 4, 2) := by decide +kernel
theorem dX3_find_43 : decode cX3_find 43 = .ok (.iload 4, 2) := by decide +kernel
theorem dX3_find_45 : decode cX3_find 45 = .ok (.aload_n 0, 1) := by decide +kernel
theorem dX3_find_46 : decode cX3_find 46 = .ok (.getfield 28, 3) := by decide +kernel
theorem dX3_find_49 : decode cX3_find 49 = .ok (.if_icmp .ge 35, 3) := by decide +kernel
theorem dX3_find_52 : decode cX3_find 52 = .ok (.aload_n 0, 1) := by decide +kernel
theorem dX3_find_53 : decode cX3_find 53 = .ok (.getfield 15, 3) := by decide +kernel
theorem dX3_find_56 : decode cX3_find 56 = .ok (.iload 4, 2) := by decide +kernel
theorem dX3_find_58 : decode cX3_find 58 = .ok (.aload_n 0, 1) := by decide +kernel
theorem dX3_find_59 : decode cX3_find 59 = .ok (.aload_n 1, 1) := by decide +kernel
theorem dX3_find_60 : decode cX3_find 60 = .ok (.iload_n 3, 1) := by decide +kernel
theorem dX3_find_61 : decode cX3_find 61 = .ok (.invokevirtual 31, 3) := by decide +kernel
theorem dX3_find_64 : decode cX3_find 64 = .ok (.iastore, 1) := by decide +kernel
theorem dX3_find_65 : decode cX3_find 65 = .ok (.aload_n 1, 1) := by decide +kernel
theorem dX3_find_66 : decode cX3_find 66 = .ok (.iload_n 3, 1) := by decide +kernel
theorem dX3_find_67 : decode cX3_find 67 = .ok (.aload_n 0, 1) := by decide +kernel
theorem dX3_find_68 : decode cX3_find 68 = .ok (.getfield 15, 3) := by decide +kernel
theorem dX3_find_71 : decode cX3_find 71 = .ok (.iload 4, 2) := by decide +kernel
theorem dX3_find_73 : decode cX3_find 73 = .ok (.iaload, 1) := by decide +kernel
theorem dX3_find_74 : decode cX3_find 74 = .ok (.invokevirtual 35, 3) := by decide +kernel
theorem dX3_find_77 : decode cX3_find 77 = .ok (.istore_n 3, 1) := by decide +kernel
theorem dX3_find_78 : decode cX3_find 78 = .ok (.iinc 4 1, 3) := by decide +kernel
theorem dX3_find_81 : decode cX3_find 81 = .ok (.goto (-38), 3) := by decide +kernel
theorem dX3_find_84 : decode cX3_find 84 = .ok (.iconst 1, 1) := by decide +kernel
theorem dX3_find_85 : decode cX3_find 85 = .ok (.ireturn, 1) := by decide +kernel
set_option maxRecDepth 20000 in
theorem ggX3_measure_J7_fill_53178 : GoodIn wsX3_measure wsJ7_fill_53178 := goodIn_r _ [9] (by decide +kernel) (by decide +kernel)
set_option maxRecDepth 20000 in
theorem gX3_measure_J7_fill_53178 : GoodIn wsX3_measure (va_wsS RX3 39 yJ7_fill_53178 wsJ7_fill_53178) := goodIn_app (goodIn_of _ (by decide +kernel)) ggX3_measure_J7_fill_53178
set_option maxRecDepth 20000 in
theorem ggX3_measure_X4_placeAfter : GoodIn wsX3_measure wsX4_placeAfter := goodIn_r _ [13, 14, 15, 16, 11, 17, 18, 22, 23, 24, 25, 26] (by decide +kernel) (by decide +kernel)
set_option maxRecDepth 20000 in
theorem gX3_measure_X4_placeAfter_n35 : GoodIn wsX3_measure (wsX4_placeAfter) := ggX3_measure_X4_placeAfter
theorem dX3_measure_0 : decode cX3_measure 0 = .ok (.aload_n 0, 1) := by decide +kernel
theorem dX3_measure_1 : decode cX3_measure 1 = .ok (.getfield 9, 3) := by decide +kernel
theorem dX3_measure_4 : decode cX3_measure 4 = .ok (.bipush 6, 2) := by decide +kernel
theorem dX3_measure_6 : decode cX3_measure 6 = .ok (.invokestatic 39, 3) := by decide +kernel
theorem dX3_measure_9 : decode cX3_measure 9 = .ok (.aload_n 0, 1) := by decide +kernel
theorem dX3_measure_10 : decode cX3_measure 10 = .ok (.getfield 9, 3) := by decide +kernel
theorem dX3_measure_13 : decode cX3_measure 13 = .ok (.iload_n 2, 1) := by decide +kernel
theorem dX3_measure_14 : decode cX3_measure 14 = .ok (.iconst 0, 1) := by decide +kernel
theorem dX3_measure_15 : decode cX3_measure 15 = .ok (.iastore, 1) := by decide +kernel
theorem dX3_measure_16 : decode cX3_measure 16 = .ok (.iconst 0, 1) := by decide +kernel
theorem dX3_measure_17 : decode cX3_measure 17 = .ok (.istore_n 3, 1) := by decide +kernel
theorem dX3_measure_18 : decode cX3_measure 18 = .ok (.iload_n 3, 1) := by decide +kernel
theorem dX3_measure_19 : decode cX3_measure 19 = .ok (.aload_n 1, 1) := by decide +kernel
theorem dX3_measure_20 : decode cX3_measure 20 = .ok (.getfield 45, 3) := by decide +kernel
theorem dX3_measure_23 : decode cX3_measure 23 = .ok (.if_icmp .ge 78, 3) := by decide +kernel
theorem dX3_measure_26 : decode cX3_measure 26 = .ok (.iconst 0, 1) := by decide +kernel
theorem dX3_measure_27 : decode cX3_measure 27 = .ok (.istore 4, 2) := by decide +kernel
theorem dX3_measure_29 : decode cX3_measure 29 = .ok (.iload 4, 2) := by decide +kernel
theorem dX3_measure_31 : decode cX3_measure 31 = .ok (.aload_n 1, 1) := by decide +kernel
theorem dX3_measure_32 : decode cX3_measure 32 = .ok (.getfield 45, 3) := by decide +kernel
theorem dX3_measure_35 : decode cX3_measure 35 = .ok (.if_icmp .ge 60, 3) := by decide +kernel
theorem dX3_measure_38 : decode cX3_measure 38 = .ok (.iconst 0, 1) := by decide +kernel
theorem dX3_measure_39 : decode cX3_measure 39 = .ok (.istore 5, 2) := by decide +kernel
theorem dX3_measure_41 : decode cX3_measure 41 = .ok (.iload 5, 2) := by decide +kernel
theorem dX3_measure_43 : decode cX3_measure 43 = .ok (.iconst 5, 1) := by decide +kernel
theorem dX3_measure_44 : decode cX3_measure 44 = .ok (.if_icmp .ge 45, 3) := by decide +kernel
theorem dX3_measure_47 : decode cX3_measure 47 = .ok (.aload_n 1, 1) := by decide +kernel
theorem dX3_measure_48 : decode cX3_measure 48 = .ok (.iload 4, 2) := by decide +kernel
theorem dX3_measure_50 : decode cX3_measure 50 = .ok (.iload 5, 2) := by decide +kernel
theorem dX3_measure_52 : decode cX3_measure 52 = .ok (.invokevirtual 35, 3) := by decide +kernel
theorem dX3_measure_55 : decode cX3_measure 55 = .ok (.istore 6, 2) := by decide +kernel
theorem dX3_measure_57 : decode cX3_measure 57 = .ok (.aload_n 0, 1) := by decide +kernel
theorem dX3_measure_58 : decode cX3_measure 58 = .ok (.getfield 9, 3) := by decide +kernel
theorem dX3_measure_61 : decode cX3_measure 61 = .ok (.iload 4, 2) := by decide +kernel
theorem dX3_measure_63 : decode cX3_measure 63 = .ok (.aload_n 0, 1) := by decide +kernel
theorem dX3_measure_64 : decode cX3_measure 64 = .ok (.getfield 9, 3) := by decide +kernel
theorem dX3_measure_67 : decode cX3_measure 67 = .ok (.iload 4, 2) := by decide +kernel
theorem dX3_measure_69 : decode cX3_measure 69 = .ok (.iaload, 1) := by decide +kernel
theorem dX3_measure_70 : decode cX3_measure 70 = .ok (.aload_n 0, 1) := by decide +kernel
theorem dX3_measure_71 : decode cX3_measure 71 = .ok (.getfield 9, 3) := by decide +kernel
theorem dX3_measure_74 : decode cX3_measure 74 = .ok (.iload 6, 2) := by decide +kernel
theorem dX3_measure_76 : decode cX3_measure 76 = .ok (.iaload, 1) := by decide +kernel
theorem dX3_measure_77 : decode cX3_measure 77 = .ok (.iconst 1, 1) := by decide +kernel
theorem dX3_measure_78 : decode cX3_measure 78 = .ok (.iadd, 1) := by decide +kernel
theorem dX3_measure_79 : decode cX3_measure 79 = .ok (.invokestatic 48, 3) := by decide +kernel
theorem dX3_measure_82 : decode cX3_measure 82 = .ok (.iastore, 1) := by decide +kernel
theorem dX3_measure_83 : decode cX3_measure 83 = .ok (.iinc 5 1, 3) := by decide +kernel
theorem dX3_measure_86 : decode cX3_measure 86 = .ok (.goto (-45), 3) := by decide +kernel
theorem dX3_measure_89 : decode cX3_measure 89 = .ok (.iinc 4 1, 3) := by decide +kernel
theorem dX3_measure_92 : decode cX3_measure 92 = .ok (.goto (-63), 3) := by decide +kernel
theorem dX3_measure_95 : decode cX3_measure 95 = .ok (.iinc 3 1, 3) := by decide +kernel
theorem dX3_measure_98 : decode cX3_measure 98 = .ok (.goto (-80), 3) := by decide +kernel
theorem dX3_measure_101 : decode cX3_measure 101 = .ok (.return_, 1) := by decide +kernel
set_option maxRecDepth 20000 in
theorem ggX3_nearerBy_X4_placeAfter : GoodIn wsX3_nearerBy wsX4_placeAfter := goodIn_r _ [5, 6, 7, 8, 3, 9, 10, 14, 15, 16, 17, 18] (by decide +kernel) (by decide +kernel)
set_option maxRecDepth 20000 in
theorem gX3_nearerBy_X4_placeAfter_n35 : GoodIn wsX3_nearerBy (wsX4_placeAfter) := ggX3_nearerBy_X4_placeAfter
theorem dX3_nearerBy_0 : decode cX3_nearerBy 0 = .ok (.iconst 0, 1) := by decide +kernel
theorem dX3_nearerBy_1 : decode cX3_nearerBy 1 = .ok (.istore_n 3, 1) := by decide +kernel
theorem dX3_nearerBy_2 : decode cX3_nearerBy 2 = .ok (.iload_n 3, 1) := by decide +kernel
theorem dX3_nearerBy_3 : decode cX3_nearerBy 3 = .ok (.iconst 4, 1) := by decide +kernel
theorem dX3_nearerBy_4 : decode cX3_nearerBy 4 = .ok (.if_icmp .ge 29, 3) := by decide +kernel
theorem dX3_nearerBy_7 : decode cX3_nearerBy 7 = .ok (.aload_n 0, 1) := by decide +kernel
theorem dX3_nearerBy_8 : decode cX3_nearerBy 8 = .ok (.getfield 9, 3) := by decide +kernel
theorem dX3_nearerBy_11 : decode cX3_nearerBy 11 = .ok (.aload_n 1, 1) := by decide +kernel
theorem dX3_nearerBy_12 : decode cX3_nearerBy 12 = .ok (.iload_n 2, 1) := by decide +kernel
theorem dX3_nearerBy_13 : decode cX3_nearerBy 13 = .ok (.iload_n 3, 1) := by decide +kernel
theorem dX3_nearerBy_14 : decode cX3_nearerBy 14 = .ok (.invokevirtual 35, 3) := by decide +kernel
theorem dX3_nearerBy_17 : decode cX3_nearerBy 17 = .ok (.iaload, 1) := by decide +kernel
theorem dX3_nearerBy_18 : decode cX3_nearerBy 18 = .ok (.aload_n 0, 1) := by decide +kernel
theorem dX3_nearerBy_19 : decode cX3_nearerBy 19 = .ok (.getfield 9, 3) := by decide +kernel
theorem dX3_nearerBy_22 : decode cX3_nearerBy 22 = .ok (.iload_n 2, 1) := by decide +kernel
theorem dX3_nearerBy_23 : decode cX3_nearerBy 23 = .ok (.iaload, 1) := by decide +kernel
theorem dX3_nearerBy_24 : decode cX3_nearerBy 24 = .ok (.if_icmp .lt 9, 3) := by decide +kernel
theorem dX3_nearerBy_27 : decode cX3_nearerBy 27 = .ok (.iinc 3 1, 3) := by decide +kernel
theorem dX3_nearerBy_30 : decode cX3_nearerBy 30 = .ok (.goto (-28), 3) := by decide +kernel
theorem dX3_nearerBy_33 : decode cX3_nearerBy 33 = .ok (.iload_n 3, 1) := by decide +kernel
theorem dX3_nearerBy_34 : decode cX3_nearerBy 34 = .ok (.ireturn, 1) := by decide +kernel
set_option maxRecDepth 20000 in
theorem ggX4_init_J7_fill_53178 : GoodIn wsX4_init wsJ7_fill_53178 := goodIn_r _ [11] (by decide +kernel) (by decide +kernel)
set_option maxRecDepth 20000 in
theorem gX4_init_J7_fill_53178 : GoodIn wsX4_init (va_wsS RX4 22 yJ7_fill_53178 wsJ7_fill_53178) := goodIn_app (goodIn_of _ (by decide +kernel)) ggX4_init_J7_fill_53178
theorem dX4_init_0 : decode cX4_init 0 = .ok (.aload_n 0, 1) := by decide +kernel
theorem dX4_init_1 : decode cX4_init 1 = .ok (.invokespecial 3, 3) := by decide +kernel
theorem dX4_init_4 : decode cX4_init 4 = .ok (.aload_n 0, 1) := by decide +kernel
theorem dX4_init_5 : decode cX4_init 5 = .ok (.bipush 6, 2) := by decide +kernel
theorem dX4_init_7 : decode cX4_init 7 = .ok (.newarray .int, 2) := by decide +kernel
theorem dX4_init_9 : decode cX4_init 9 = .ok (.putfield 9, 3) := by decide +kernel
theorem dX4_init_12 : decode cX4_init 12 = .ok (.aload_n 0, 1) := by decide +kernel
theorem dX4_init_13 : decode cX4_init 13 = .ok (.bipush 30, 2) := by decide +kernel
theorem dX4_init_15 : decode cX4_init 15 = .ok (.newarray .int, 2) := by decide +kernel
theorem dX4_init_17 : decode cX4_init 17 = .ok (.putfield 15, 3) := by decide +kernel
theorem dX4_init_20 : decode cX4_init 20 = .ok (.aload_n 0, 1) := by decide +kernel
theorem dX4_init_21 : decode cX4_init 21 = .ok (.bipush (-2), 2) := by decide +kernel
theorem dX4_init_23 : decode cX4_init 23 = .ok (.putfield 18, 3) := by decide +kernel
theorem dX4_init_26 : decode cX4_init 26 = .ok (.aload_n 0, 1) := by decide +kernel
theorem dX4_init_27 : decode cX4_init 27 = .ok (.getfield 15, 3) := by decide +kernel
theorem dX4_init_30 : decode cX4_init 30 = .ok (.bipush (-3), 2) := by decide +kernel
theorem dX4_init_32 : decode cX4_init 32 = .ok (.invokestatic 22, 3) := by decide +kernel
theorem dX4_init_35 : decode cX4_init 35 = .ok (.return_, 1) := by decide +kernel
set_option maxRecDepth 20000 in
theorem ggX4_begin_J7_fill_53178 : GoodIn wsX4_begin wsJ7_fill_53178 := goodIn_r _ [6] (by decide +kernel) (by decide +kernel)
set_option maxRecDepth 20000 in
theorem gX4_begin_J7_fill_53178 : GoodIn wsX4_begin (va_wsS RX4 22 yJ7_fill_53178 wsJ7_fill_53178) := goodIn_app (goodIn_of _ (by decide +kernel)) ggX4_begin_J7_fill_53178
set_option maxRecDepth 20000 in
theorem ggX4_begin_X4_openPlace : GoodIn wsX4_begin wsX4_openPlace := goodIn_r _ [11, 12, 2, 19, 20, 21, 22, 23] (by decide +kernel) (by decide +kernel)
set_option maxRecDepth 20000 in
theorem gX4_begin_X4_openPlace : GoodIn wsX4_begin (wsV RX4 31 RX4 yX4_openPlace wsX4_openPlace) := goodIn_app (goodIn_of _ (by decide +kernel)) ggX4_begin_X4_openPlace
set_option maxRecDepth 20000 in
theorem ggX4_begin_X4_returnToStart : GoodIn wsX4_begin wsX4_returnToStart := goodIn_r _ [16, 17, 18, 19, 20, 21, 22, 23] (by decide +kernel) (by decide +kernel)
set_option maxRecDepth 20000 in
theorem gX4_begin_X4_returnToStart : GoodIn wsX4_begin (wsV RX4 35 RX4 yX4_returnToStart wsX4_returnToStart) := goodIn_app (goodIn_of _ (by decide +kernel)) ggX4_begin_X4_returnToStart
theorem dX4_begin_0 : decode cX4_begin 0 = .ok (.aload_n 0, 1) := by decide +kernel
theorem dX4_begin_1 : decode cX4_begin 1 = .ok (.getfield 15, 3) := by decide +kernel
theorem dX4_begin_4 : decode cX4_begin 4 = .ok (.bipush (-3), 2) := by decide +kernel
theorem dX4_begin_6 : decode cX4_begin 6 = .ok (.invokestatic 22, 3) := by decide +kernel
theorem dX4_begin_9 : decode cX4_begin 9 = .ok (.aload_n 0, 1) := by decide +kernel
theorem dX4_begin_10 : decode cX4_begin 10 = .ok (.iconst 0, 1) := by decide +kernel
theorem dX4_begin_11 : decode cX4_begin 11 = .ok (.putfield 28, 3) := by decide +kernel
theorem dX4_begin_14 : decode cX4_begin 14 = .ok (.aload_n 0, 1) := by decide +kernel
theorem dX4_begin_15 : decode cX4_begin 15 = .ok (.iload_n 1, 1) := by decide +kernel
theorem dX4_begin_16 : decode cX4_begin 16 = .ok (.invokevirtual 31, 3) := by decide +kernel
theorem dX4_begin_19 : decode cX4_begin 19 = .ok (.aload_n 0, 1) := by decide +kernel
theorem dX4_begin_20 : decode cX4_begin 20 = .ok (.invokevirtual 35, 3) := by decide +kernel
theorem dX4_begin_23 : decode cX4_begin 23 = .ok (.return_, 1) := by decide +kernel
theorem dX4_returnToStart_0 : decode cX4_returnToStart 0 = .ok (.aload_n 0, 1) := by decide +kernel
theorem dX4_returnToStart_1 : decode cX4_returnToStart 1 = .ok (.iconst 0, 1) := by decide +kernel
theorem dX4_returnToStart_2 : decode cX4_returnToStart 2 = .ok (.putfield 38, 3) := by decide +kernel
theorem dX4_returnToStart_5 : decode cX4_returnToStart 5 = .ok (.aload_n 0, 1) := by decide +kernel
theorem dX4_returnToStart_6 : decode cX4_returnToStart 6 = .ok (.bipush (-2), 2) := by decide +kernel
theorem dX4_returnToStart_8 : decode cX4_returnToStart 8 = .ok (.putfield 18, 3) := by decide +kernel
theorem dX4_returnToStart_11 : decode cX4_returnToStart 11 = .ok (.return_, 1) := by decide +kernel
theorem dX4_become_0 : decode cX4_become 0 = .ok (.aload_n 1, 1) := by decide +kernel
theorem dX4_become_1 : decode cX4_become 1 = .ok (.getfield 9, 3) := by decide +kernel
theorem dX4_become_4 : decode cX4_become 4 = .ok (.iconst 0, 1) := by decide +kernel
theorem dX4_become_5 : decode cX4_become 5 = .ok (.aload_n 0, 1) := by decide +kernel
theorem dX4_become_6 : decode cX4_become 6 = .ok (.getfield 9, 3) := by decide +kernel
theorem dX4_become_9 : decode cX4_become 9 = .ok (.iconst 0, 1) := by decide +kernel
theorem dX4_become_10 : decode cX4_become 10 = .ok (.bipush 6, 2) := by decide +kernel
theorem dX4_become_12 : decode cX4_become 12 = .ok (.invokestatic 41, 3) := by decide +kernel
theorem dX4_become_15 : decode cX4_become 15 = .ok (.aload_n 1, 1) := by decide +kernel
theorem dX4_become_16 : decode cX4_become 16 = .ok (.getfield 15, 3) := by decide +kernel
theorem dX4_become_19 : decode cX4_become 19 = .ok (.iconst 0, 1) := by decide +kernel
theorem dX4_become_20 : decode cX4_become 20 = .ok (.aload_n 0, 1) := by decide +kernel
theorem dX4_become_21 : decode cX4_become 21 = .ok (.getfield 15, 3) := by decide +kernel
theorem dX4_become_24 : decode cX4_become 24 = .ok (.iconst 0, 1) := by decide +kernel
theorem dX4_become_25 : decode cX4_become 25 = .ok (.bipush 30, 2) := by decide +kernel
theorem dX4_become_27 : decode cX4_become 27 = .ok (.invokestatic 41, 3) := by decide +kernel
theorem dX4_become_30 : decode cX4_become 30 = .ok (.aload_n 0, 1) := by decide +kernel
theorem dX4_become_31 : decode cX4_become 31 = .ok (.aload_n 1, 1) := by decide +kernel
theorem dX4_become_32 : decode cX4_become 32 = .ok (.getfield 28, 3) := by decide +kernel
theorem dX4_become_35 : decode cX4_become 35 = .ok (.putfield 28, 3) := by decide +kernel
theorem dX4_become_38 : decode cX4_become 38 = .ok (.aload_n 0, 1) := by decide +kernel
theorem dX4_become_39 : decode cX4_become 39 = .ok (.aload_n 1, 1) := by decide +kernel
theorem dX4_become_40 : decode cX4_become 40 = .ok (.getfield 38, 3) := by decide +kernel
theorem dX4_become_43 : decode cX4_become 43 = .ok (.putfield 38, 3) := by decide +kernel
theorem dX4_become_46 : decode cX4_become 46 = .ok (.aload_n 0, 1) := by decide +kernel
theorem dX4_become_47 : decode cX4_become 47 = .ok (.aload_n 1, 1) := by decide +kernel
theorem dX4_become_48 : decode cX4_become 48 = .ok (.getfield 18, 3) := by decide +kernel
theorem dX4_become_51 : decode cX4_become 51 = .ok (.putfield 18, 3) := by decide +kernel
theorem dX4_become_54 : decode cX4_become 54 = .ok (.return_, 1) := by decide +kernel
theorem dX4_openPlace_0 : decode cX4_openPlace 0 = .ok (.aload_n 0, 1) := by decide +kernel
theorem dX4_openPlace_1 : decode cX4_openPlace 1 = .ok (.getfield 9, 3) := by decide +kernel
theorem dX4_openPlace_4 : decode cX4_openPlace 4 = .ok (.aload_n 0, 1) := by decide +kernel
theorem dX4_openPlace_5 : decode cX4_openPlace 5 = .ok (.getfield 28, 3) := by decide +kernel
theorem dX4_openPlace_8 : decode cX4_openPlace 8 = .ok (.iload_n 1, 1) := by decide +kernel
theorem dX4_openPlace_9 : decode cX4_openPlace 9 = .ok (.iastore, 1) := by decide +kernel
theorem dX4_openPlace_10 : decode cX4_openPlace 10 = .ok (.aload_n 0, 1) := by decide +kernel
theorem dX4_openPlace_11 : decode cX4_openPlace 11 = .ok (.dup, 1) := by decide +kernel
theorem dX4_openPlace_12 : decode cX4_openPlace 12 = .ok (.getfield 28, 3) := by decide +kernel
theorem dX4_openPlace_15 : decode cX4_openPlace 15 = .ok (.iconst 1, 1) := by decide +kernel
theorem dX4_openPlace_16 : decode cX4_openPlace 16 = .ok (.iadd, 1) := by decide +kernel
theorem dX4_openPlace_17 : decode cX4_openPlace 17 = .ok (.putfield 28, 3) := by decide +kernel
theorem dX4_openPlace_20 : decode cX4_openPlace 20 = .ok (.return_, 1) := by decide +kernel
theorem dX4_leadFrom_0 : decode cX4_leadFrom 0 = .ok (.aload_n 0, 1) := by decide +kernel
theorem dX4_leadFrom_1 : decode cX4_leadFrom 1 = .ok (.getfield 15, 3) := by decide +kernel
theorem dX4_leadFrom_4 : decode cX4_leadFrom 4 = .ok (.iload_n 1, 1) := by decide +kernel
theorem dX4_leadFrom_5 : decode cX4_leadFrom 5 = .ok (.iconst 5, 1) := by decide +kernel
theorem dX4_leadFrom_6 : decode cX4_leadFrom 6 = .ok (.imul, 1) := by decide +kernel
theorem dX4_leadFrom_7 : decode cX4_leadFrom 7 = .ok (.iload_n 2, 1) := by decide +kernel
theorem dX4_leadFrom_8 : decode cX4_leadFrom 8 = .ok (.iadd, 1) := by decide +kernel
theorem dX4_leadFrom_9 : decode cX4_leadFrom 9 = .ok (.iaload, 1) := by decide +kernel
theorem dX4_leadFrom_10 : decode cX4_leadFrom 10 = .ok (.ireturn, 1) := by decide +kernel
theorem dX4_setLead_0 : decode cX4_setLead 0 = .ok (.aload_n 0, 1) := by decide +kernel
theorem dX4_setLead_1 : decode cX4_setLead 1 = .ok (.getfield 15, 3) := by decide +kernel
theorem dX4_setLead_4 : decode cX4_setLead 4 = .ok (.iload_n 1, 1) := by decide +kernel
theorem dX4_setLead_5 : decode cX4_setLead 5 = .ok (.iconst 5, 1) := by decide +kernel
theorem dX4_setLead_6 : decode cX4_setLead 6 = .ok (.imul, 1) := by decide +kernel
theorem dX4_setLead_7 : decode cX4_setLead 7 = .ok (.iload_n 2, 1) := by decide +kernel
theorem dX4_setLead_8 : decode cX4_setLead 8 = .ok (.iadd, 1) := by decide +kernel
theorem dX4_setLead_9 : decode cX4_setLead 9 = .ok (.iload_n 3, 1) := by decide +kernel
theorem dX4_setLead_10 : decode cX4_setLead 10 = .ok (.iastore, 1) := by decide +kernel
theorem dX4_setLead_11 : decode cX4_setLead 11 = .ok (.return_, 1) := by decide +kernel
set_option maxRecDepth 20000 in
theorem ggX4_placeAfter_X4_leadFrom : GoodIn wsX4_placeAfter wsX4_leadFrom := goodIn_r _ [5, 6, 7, 8, 9, 10, 11] (by decide +kernel) (by decide +kernel)
set_option maxRecDepth 20000 in
theorem gX4_placeAfter_X4_leadFrom : GoodIn wsX4_placeAfter (wsV RX4 47 RX4 yX4_leadFrom wsX4_leadFrom) := goodIn_app (goodIn_of _ (by decide +kernel)) ggX4_placeAfter_X4_leadFrom
theorem dX4_placeAfter_0 : decode cX4_placeAfter 0 = .ok (.aload_n 0, 1) := by decide +kernel
theorem dX4_placeAfter_1 : decode cX4_placeAfter 1 = .ok (.iload_n 1, 1) := by decide +kernel
theorem dX4_placeAfter_2 : decode cX4_placeAfter 2 = .ok (.iload_n 2, 1) := by decide +kernel
theorem dX4_placeAfter_3 : decode cX4_placeAfter 3 = .ok (.invokevirtual 47, 3) := by decide +kernel
theorem dX4_placeAfter_6 : decode cX4_placeAfter 6 = .ok (.istore_n 3, 1) := by decide +kernel
theorem dX4_placeAfter_7 : decode cX4_placeAfter 7 = .ok (.iload_n 3, 1) := by decide +kernel
theorem dX4_placeAfter_8 : decode cX4_placeAfter 8 = .ok (.ifCond .ge 7, 3) := by decide +kernel
theorem dX4_placeAfter_11 : decode cX4_placeAfter 11 = .ok (.iload_n 1, 1) := by decide +kernel
theorem dX4_placeAfter_12 : decode cX4_placeAfter 12 = .ok (.goto 4, 3) := by decide +kernel
theorem dX4_placeAfter_15 : decode cX4_placeAfter 15 = .ok (.iload_n 3, 1) := by decide +kernel
theorem dX4_placeAfter_16 : decode cX4_placeAfter 16 = .ok (.ireturn, 1) := by decide +kernel
set_option maxRecDepth 20000 in
theorem ggX4_sightAt_X8_sightOf : GoodIn wsX4_sightAt wsX8_sightOf := goodIn_r _ [5] (by decide +kernel) (by decide +kernel)
set_option maxRecDepth 20000 in
theorem gX4_sightAt_X8_sightOf_n51 : GoodIn wsX4_sightAt (wsX8_sightOf) := ggX4_sightAt_X8_sightOf
theorem dX4_sightAt_0 : decode cX4_sightAt 0 = .ok (.iload_n 2, 1) := by decide +kernel
theorem dX4_sightAt_1 : decode cX4_sightAt 1 = .ok (.aload_n 0, 1) := by decide +kernel
theorem dX4_sightAt_2 : decode cX4_sightAt 2 = .ok (.getfield 9, 3) := by decide +kernel
theorem dX4_sightAt_5 : decode cX4_sightAt 5 = .ok (.iload_n 1, 1) := by decide +kernel
theorem dX4_sightAt_6 : decode cX4_sightAt 6 = .ok (.iaload, 1) := by decide +kernel
theorem dX4_sightAt_7 : decode cX4_sightAt 7 = .ok (.aload_n 0, 1) := by decide +kernel
theorem dX4_sightAt_8 : decode cX4_sightAt 8 = .ok (.getfield 18, 3) := by decide +kernel
theorem dX4_sightAt_11 : decode cX4_sightAt 11 = .ok (.iload_n 1, 1) := by decide +kernel
theorem dX4_sightAt_12 : decode cX4_sightAt 12 = .ok (.if_icmp .ne 7, 3) := by decide +kernel
theorem dX4_sightAt_15 : decode cX4_sightAt 15 = .ok (.iconst 1, 1) := by decide +kernel
theorem dX4_sightAt_16 : decode cX4_sightAt 16 = .ok (.goto 4, 3) := by decide +kernel
theorem dX4_sightAt_19 : decode cX4_sightAt 19 = .ok (.iconst 0, 1) := by decide +kernel
theorem dX4_sightAt_20 : decode cX4_sightAt 20 = .ok (.invokestatic 51, 3) := by decide +kernel
theorem dX4_sightAt_23 : decode cX4_sightAt 23 = .ok (.ireturn, 1) := by decide +kernel
set_option maxRecDepth 20000 in
theorem ggX4_sightAfter_X4_leadFrom : GoodIn wsX4_sightAfter wsX4_leadFrom := goodIn_r _ [5, 6, 16, 17, 18, 19, 20] (by decide +kernel) (by decide +kernel)
set_option maxRecDepth 20000 in
theorem gX4_sightAfter_X4_leadFrom : GoodIn wsX4_sightAfter (wsV RX4 47 RX4 yX4_leadFrom wsX4_leadFrom) := goodIn_app (goodIn_of _ (by decide +kernel)) ggX4_sightAfter_X4_leadFrom
set_option maxRecDepth 20000 in
theorem ggX4_sightAfter_X4_sightAt : GoodIn wsX4_sightAfter wsX4_sightAt := goodIn_r _ [10, 11, 12, 13, 14, 15, 16, 17, 18, 19, 20] (by decide +kernel) (by decide +kernel)
set_option maxRecDepth 20000 in
theorem gX4_sightAfter_X4_sightAt : GoodIn wsX4_sightAfter (wsV RX4 55 RX4 yX4_sightAt wsX4_sightAt) := goodIn_app (goodIn_of _ (by decide +kernel)) ggX4_sightAfter_X4_sightAt
theorem dX4_sightAfter_0 : decode cX4_sightAfter 0 = .ok (.aload_n 0, 1) := by decide +kernel
theorem dX4_sightAfter_1 : decode cX4_sightAfter 1 = .ok (.iload_n 1, 1) := by decide +kernel
theorem dX4_sightAfter_2 : decode cX4_sightAfter 2 = .ok (.iload_n 2, 1) := by decide +kernel
theorem dX4_sightAfter_3 : decode cX4_sightAfter 3 = .ok (.invokevirtual 47, 3) := by decide +kernel
theorem dX4_sightAfter_6 : decode cX4_sightAfter 6 = .ok (.istore_n 3, 1) := by decide +kernel
theorem dX4_sightAfter_7 : decode cX4_sightAfter 7 = .ok (.iload_n 3, 1) := by decide +kernel
theorem dX4_sightAfter_8 : decode cX4_sightAfter 8 = .ok (.bipush (-3), 2) := by decide +kernel
theorem dX4_sightAfter_10 : decode cX4_sightAfter 10 = .ok (.if_icmp .ne 6, 3) := by decide +kernel
theorem dX4_sightAfter_13 : decode cX4_sightAfter 13 = .ok (.bipush (-3), 2) := by decide +kernel
theorem dX4_sightAfter_15 : decode cX4_sightAfter 15 = .ok (.ireturn, 1) := by decide +kernel
theorem dX4_sightAfter_16 : decode cX4_sightAfter 16 = .ok (.iload_n 3, 1) := by decide +kernel
theorem dX4_sightAfter_17 : decode cX4_sightAfter 17 = .ok (.bipush (-2), 2) := by decide +kernel
theorem dX4_sightAfter_19 : decode cX4_sightAfter 19 = .ok (.if_icmp .ne 12, 3) := by decide +kernel
theorem dX4_sightAfter_22 : decode cX4_sightAfter 22 = .ok (.aload_n 0, 1) := by decide +kernel
theorem dX4_sightAfter_23 : decode cX4_sightAfter 23 = .ok (.iload_n 1, 1) := by decide +kernel
theorem dX4_sightAfter_24 : decode cX4_sightAfter 24 = .ok (.iconst 1, 1) := by decide +kernel
theorem dX4_sightAfter_25 : decode cX4_sightAfter 25 = .ok (.invokevirtual 55, 3) := by decide +kernel
theorem dX4_sightAfter_28 : decode cX4_sightAfter 28 = .ok (.goto 9, 3) := by decide +kernel
theorem dX4_sightAfter_31 : decode cX4_sightAfter 31 = .ok (.aload_n 0, 1) := by decide +kernel
theorem dX4_sightAfter_32 : decode cX4_sightAfter 32 = .ok (.iload_n 3, 1) := by decide +kernel
theorem dX4_sightAfter_33 : decode cX4_sightAfter 33 = .ok (.iconst 0, 1) := by decide +kernel
theorem dX4_sightAfter_34 : decode cX4_sightAfter 34 = .ok (.invokevirtual 55, 3) := by decide +kernel
theorem dX4_sightAfter_37 : decode cX4_sightAfter 37 = .ok (.ireturn, 1) := by decide +kernel
theorem dX4_movePebble_0 : decode cX4_movePebble 0 = .ok (.aload_n 0, 1) := by decide +kernel
theorem dX4_movePebble_1 : decode cX4_movePebble 1 = .ok (.getfield 18, 3) := by decide +kernel
theorem dX4_movePebble_4 : decode cX4_movePebble 4 = .ok (.bipush (-2), 2) := by decide +kernel
theorem dX4_movePebble_6 : decode cX4_movePebble 6 = .ok (.if_icmp .ne 14, 3) := by decide +kernel
theorem dX4_movePebble_9 : decode cX4_movePebble 9 = .ok (.aload_n 0, 1) := by decide +kernel
theorem dX4_movePebble_10 : decode cX4_movePebble 10 = .ok (.aload_n 0, 1) := by decide +kernel
theorem dX4_movePebble_11 : decode cX4_movePebble 11 = .ok (.getfield 38, 3) := by decide +kernel
theorem dX4_movePebble_14 : decode cX4_movePebble 14 = .ok (.putfield 18, 3) := by decide +kernel
theorem dX4_movePebble_17 : decode cX4_movePebble 17 = .ok (.goto 20, 3) := by decide +kernel
theorem dX4_movePebble_20 : decode cX4_movePebble 20 = .ok (.aload_n 0, 1) := by decide +kernel
theorem dX4_movePebble_21 : decode cX4_movePebble 21 = .ok (.getfield 18, 3) := by decide +kernel
theorem dX4_movePebble_24 : decode cX4_movePebble 24 = .ok (.aload_n 0, 1) := by decide +kernel
theorem dX4_movePebble_25 : decode cX4_movePebble 25 = .ok (.getfield 38, 3) := by decide +kernel
theorem dX4_movePebble_28 : decode cX4_movePebble 28 = .ok (.if_icmp .ne 9, 3) := by decide +kernel
theorem dX4_movePebble_31 : decode cX4_movePebble 31 = .ok (.aload_n 0, 1) := by decide +kernel
theorem dX4_movePebble_32 : decode cX4_movePebble 32 = .ok (.bipush (-2), 2) := by decide +kernel
theorem dX4_movePebble_34 : decode cX4_movePebble 34 = .ok (.putfield 18, 3) := by decide +kernel
theorem dX4_movePebble_37 : decode cX4_movePebble 37 = .ok (.return_, 1) := by decide +kernel
set_option maxRecDepth 20000 in
theorem ggX4_follow_X4_movePebble : GoodIn wsX4_follow wsX4_movePebble := goodIn_r _ [6, 7, 1, 29, 30, 31, 32, 33] (by decide +kernel) (by decide +kernel)
set_option maxRecDepth 20000 in
theorem gX4_follow_X4_movePebble : GoodIn wsX4_follow (wsV RX4 59 RX4 yX4_movePebble wsX4_movePebble) := goodIn_app (goodIn_of _ (by decide +kernel)) ggX4_follow_X4_movePebble
set_option maxRecDepth 20000 in
theorem ggX4_follow_X4_sightAt : GoodIn wsX4_follow wsX4_sightAt := goodIn_r _ [11, 12, 7, 13, 14, 15, 29, 30, 31, 32, 33] (by decide +kernel) (by decide +kernel)
set_option maxRecDepth 20000 in
theorem gX4_follow_X4_sightAt : GoodIn wsX4_follow (wsV RX4 55 RX4 yX4_sightAt wsX4_sightAt) := goodIn_app (goodIn_of _ (by decide +kernel)) ggX4_follow_X4_sightAt
set_option maxRecDepth 20000 in
theorem ggX4_follow_X4_sightAfter : GoodIn wsX4_follow wsX4_sightAfter := goodIn_r _ [19, 20, 21, 22, 5, 23, 24, 8, 9, 10, 11, 12, 7, 13, 14, 15, 29, 30, 31, 32, 33] (by decide +kernel) (by decide +kernel)
set_option maxRecDepth 20000 in
theorem gX4_follow_X4_sightAfter : GoodIn wsX4_follow (wsV RX4 62 RX4 yX4_sightAfter wsX4_sightAfter) := goodIn_app (goodIn_of _ (by decide +kernel)) ggX4_follow_X4_sightAfter
set_option maxRecDepth 20000 in
theorem ggX4_follow_X4_placeAfter : GoodIn wsX4_follow wsX4_placeAfter := goodIn_r _ [28, 20, 21, 22, 5, 23, 24, 29, 30, 31, 32, 33] (by decide +kernel) (by decide +kernel)
set_option maxRecDepth 20000 in
theorem gX4_follow_X4_placeAfter : GoodIn wsX4_follow (wsV RX4 65 RX4 yX4_placeAfter wsX4_placeAfter) := goodIn_app (goodIn_of _ (by decide +kernel)) ggX4_follow_X4_placeAfter
theorem dX4_follow_0 : decode cX4_follow 0 = .ok (.iload_n 1, 1) := by decide +kernel
theorem dX4_follow_1 : decode cX4_follow 1 = .ok (.iconst 5, 1) := by decide +kernel
theorem dX4_follow_2 : decode cX4_follow 2 = .ok (.if_icmp .ne 26, 3) := by decide +kernel
theorem dX4_follow_5 : decode cX4_follow 5 = .ok (.aload_n 0, 1) := by decide +kernel
theorem dX4_follow_6 : decode cX4_follow 6 = .ok (.invokevirtual 59, 3) := by decide +kernel
theorem dX4_follow_9 : decode cX4_follow 9 = .ok (.aload_n 0, 1) := by decide +kernel
theorem dX4_follow_10 : decode cX4_follow 10 = .ok (.aload_n 0, 1) := by decide +kernel
theorem dX4_follow_11 : decode cX4_follow 11 = .ok (.getfield 38, 3) := by decide +kernel
theorem dX4_follow_14 : decode cX4_follow 14 = .ok (.iconst 0, 1) := by decide +kernel
theorem dX4_follow_15 : decode cX4_follow 15 = .ok (.invokevirtual 55, 3) := by decide +kernel
theorem dX4_follow_18 : decode cX4_follow 18 = .ok (.iload_n 2, 1) := by decide +kernel
theorem dX4_follow_19 : decode cX4_follow 19 = .ok (.if_icmp .ne 7, 3) := by decide +kernel
theorem dX4_follow_22 : decode cX4_follow 22 = .ok (.iconst 1, 1) := by decide +kernel
theorem dX4_follow_23 : decode cX4_follow 23 = .ok (.goto 4, 3) := by decide +kernel
theorem dX4_follow_26 : decode cX4_follow 26 = .ok (.iconst 0, 1) := by decide +kernel
theorem dX4_follow_27 : decode cX4_follow 27 = .ok (.ireturn, 1) := by decide +kernel
theorem dX4_follow_28 : decode cX4_follow 28 = .ok (.aload_n 0, 1) := by decide +kernel
theorem dX4_follow_29 : decode cX4_follow 29 = .ok (.aload_n 0, 1) := by decide +kernel
theorem dX4_follow_30 : decode cX4_follow 30 = .ok (.getfield 38, 3) := by decide +kernel
theorem dX4_follow_33 : decode cX4_follow 33 = .ok (.iload_n 1, 1) := by decide +kernel
theorem dX4_follow_34 : decode cX4_follow 34 = .ok (.invokevirtual 62, 3) := by decide +kernel
theorem dX4_follow_37 : decode cX4_follow 37 = .ok (.iload_n 2, 1) := by decide +kernel
theorem dX4_follow_38 : decode cX4_follow 38 = .ok (.if_icmp .eq 5, 3) := by decide +kernel
theorem dX4_follow_41 : decode cX4_follow 41 = .ok (.iconst 0, 1) := by decide +kernel
theorem dX4_follow_42 : decode cX4_follow 42 = .ok (.ireturn, 1) := by decide +kernel
theorem dX4_follow_43 : decode cX4_follow 43 = .ok (.aload_n 0, 1) := by decide +kernel
theorem dX4_follow_44 : decode cX4_follow 44 = .ok (.aload_n 0, 1) := by decide +kernel
theorem dX4_follow_45 : decode cX4_follow 45 = .ok (.aload_n 0, 1) := by decide +kernel
theorem dX4_follow_46 : decode cX4_follow 46 = .ok (.getfield 38, 3) := by decide +kernel
theorem dX4_follow_49 : decode cX4_follow 49 = .ok (.iload_n 1, 1) := by decide +kernel
theorem dX4_follow_50 : decode cX4_follow 50 = .ok (.invokevirtual 65, 3) := by decide +kernel
theorem dX4_follow_53 : decode cX4_follow 53 = .ok (.putfield 38, 3) := by decide +kernel
theorem dX4_follow_56 : decode cX4_follow 56 = .ok (.iconst 1, 1) := by decide +kernel
theorem dX4_follow_57 : decode cX4_follow 57 = .ok (.ireturn, 1) := by decide +kernel
theorem dX4_countKnown_0 : decode cX4_countKnown 0 = .ok (.iconst 0, 1) := by decide +kernel
theorem dX4_countKnown_1 : decode cX4_countKnown 1 = .ok (.istore_n 1, 1) := by decide +kernel
theorem dX4_countKnown_2 : decode cX4_countKnown 2 = .ok (.iconst 0, 1) := by decide +kernel
theorem dX4_countKnown_3 : decode cX4_countKnown 3 = .ok (.istore_n 2, 1) := by decide +kernel
theorem dX4_countKnown_4 : decode cX4_countKnown 4 = .ok (.iload_n 2, 1) := by decide +kernel
theorem dX4_countKnown_5 : decode cX4_countKnown 5 = .ok (.aload_n 0, 1) := by decide +kernel
theorem dX4_countKnown_6 : decode cX4_countKnown 6 = .ok (.getfield 28, 3) := by decide +kernel
theorem dX4_countKnown_9 : decode cX4_countKnown 9 = .ok (.iconst 5, 1) := by decide +kernel
theorem dX4_countKnown_10 : decode cX4_countKnown 10 = .ok (.imul, 1) := by decide +kernel
theorem dX4_countKnown_11 : decode cX4_countKnown 11 = .ok (.if_icmp .ge 23, 3) := by decide +kernel
theorem dX4_countKnown_14 : decode cX4_countKnown 14 = .ok (.aload_n 0, 1) := by decide +kernel
theorem dX4_countKnown_15 : decode cX4_countKnown 15 = .ok (.getfield 15, 3) := by decide +kernel
theorem dX4_countKnown_18 : decode cX4_countKnown 18 = .ok (.iload_n 2, 1) := by decide +kernel
theorem dX4_countKnown_19 : decode cX4_countKnown 19 = .ok (.iaload, 1) := by decide +kernel
theorem dX4_countKnown_20 : decode cX4_countKnown 20 = .ok (.bipush (-3), 2) := by decide +kernel
theorem dX4_countKnown_22 : decode cX4_countKnown 22 = .ok (.if_icmp .eq 6, 3) := by decide +kernel
theorem dX4_countKnown_25 : decode cX4_countKnown 25 = .ok (.iinc 1 1, 3) := by decide +kernel
theorem dX4_countKnown_28 : decode cX4_countKnown 28 = .ok (.iinc 2 1, 3) := by decide +kernel
theorem dX4_countKnown_31 : decode cX4_countKnown 31 = .ok (.goto (-27), 3) := by decide +kernel
theorem dX4_countKnown_34 : decode cX4_countKnown 34 = .ok (.iload_n 1, 1) := by decide +kernel
theorem dX4_countKnown_35 : decode cX4_countKnown 35 = .ok (.ireturn, 1) := by decide +kernel
theorem dX5_init_0 : decode cX5_init 0 = .ok (.aload_n 0, 1) := by decide +kernel
theorem dX5_init_1 : decode cX5_init 1 = .ok (.invokespecial 3, 3) := by decide +kernel
theorem dX5_init_4 : decode cX5_init 4 = .ok (.aload_n 0, 1) := by decide +kernel
theorem dX5_init_5 : decode cX5_init 5 = .ok (.bipush 60, 2) := by decide +kernel
theorem dX5_init_7 : decode cX5_init 7 = .ok (.newarray .long, 2) := by decide +kernel
theorem dX5_init_9 : decode cX5_init 9 = .ok (.putfield 9, 3) := by decide +kernel
theorem dX5_init_12 : decode cX5_init 12 = .ok (.aload_n 0, 1) := by decide +kernel
theorem dX5_init_13 : decode cX5_init 13 = .ok (.iconst 0, 1) := by decide +kernel
theorem dX5_init_14 : decode cX5_init 14 = .ok (.putfield 15, 3) := by decide +kernel
theorem dX5_init_17 : decode cX5_init 17 = .ok (.return_, 1) := by decide +kernel
theorem dX5_holdLead_0 : decode cX5_holdLead 0 = .ok (.aload_n 0, 1) := by decide +kernel
theorem dX5_holdLead_1 : decode cX5_holdLead 1 = .ok (.iconst 1, 1) := by decide +kernel
theorem dX5_holdLead_2 : decode cX5_holdLead 2 = .ok (.putfield 15, 3) := by decide +kernel
theorem dX5_holdLead_5 : decode cX5_holdLead 5 = .ok (.aload_n 0, 1) := by decide +kernel
theorem dX5_holdLead_6 : decode cX5_holdLead 6 = .ok (.iload_n 1, 1) := by decide +kernel
theorem dX5_holdLead_7 : decode cX5_holdLead 7 = .ok (.putfield 19, 3) := by decide +kernel
theorem dX5_holdLead_10 : decode cX5_holdLead 10 = .ok (.aload_n 0, 1) := by decide +kernel
theorem dX5_holdLead_11 : decode cX5_holdLead 11 = .ok (.iload_n 2, 1) := by decide +kernel
theorem dX5_holdLead_12 : decode cX5_holdLead 12 = .ok (.putfield 22, 3) := by decide +kernel
theorem dX5_holdLead_15 : decode cX5_holdLead 15 = .ok (.return_, 1) := by decide +kernel
set_option maxRecDepth 20000 in
theorem ggX5_holdRow_J7_fill_d0a16 : GoodIn wsX5_holdRow wsJ7_fill_d0a16 := goodIn_r _ [7] (by decide +kernel) (by decide +kernel)
set_option maxRecDepth 20000 in
theorem gX5_holdRow_J7_fill_d0a16 : GoodIn wsX5_holdRow (va_wsS RX5 28 yJ7_fill_d0a16 wsJ7_fill_d0a16) := goodIn_app (goodIn_of _ (by decide +kernel)) ggX5_holdRow_J7_fill_d0a16
theorem dX5_holdRow_0 : decode cX5_holdRow 0 = .ok (.aload_n 0, 1) := by decide +kernel
theorem dX5_holdRow_1 : decode cX5_holdRow 1 = .ok (.iload_n 1, 1) := by decide +kernel
theorem dX5_holdRow_2 : decode cX5_holdRow 2 = .ok (.putfield 15, 3) := by decide +kernel
theorem dX5_holdRow_5 : decode cX5_holdRow 5 = .ok (.aload_n 0, 1) := by decide +kernel
theorem dX5_holdRow_6 : decode cX5_holdRow 6 = .ok (.iload_n 2, 1) := by decide +kernel
theorem dX5_holdRow_7 : decode cX5_holdRow 7 = .ok (.putfield 25, 3) := by decide +kernel
theorem dX5_holdRow_10 : decode cX5_holdRow 10 = .ok (.aload_n 0, 1) := by decide +kernel
theorem dX5_holdRow_11 : decode cX5_holdRow 11 = .ok (.getfield 9, 3) := by decide +kernel
theorem dX5_holdRow_14 : decode cX5_holdRow 14 = .ok (.lconst 0, 1) := by decide +kernel
theorem dX5_holdRow_15 : decode cX5_holdRow 15 = .ok (.invokestatic 28, 3) := by decide +kernel
theorem dX5_holdRow_18 : decode cX5_holdRow 18 = .ok (.return_, 1) := by decide +kernel
theorem dX5_isRow_0 : decode cX5_isRow 0 = .ok (.aload_n 0, 1) := by decide +kernel
theorem dX5_isRow_1 : decode cX5_isRow 1 = .ok (.getfield 15, 3) := by decide +kernel
theorem dX5_isRow_4 : decode cX5_isRow 4 = .ok (.iconst 3, 1) := by decide +kernel
theorem dX5_isRow_5 : decode cX5_isRow 5 = .ok (.if_icmp .eq 11, 3) := by decide +kernel
theorem dX5_isRow_8 : decode cX5_isRow 8 = .ok (.aload_n 0, 1) := by decide +kernel
theorem dX5_isRow_9 : decode cX5_isRow 9 = .ok (.getfield 15, 3) := by decide +kernel
theorem dX5_isRow_12 : decode cX5_isRow 12 = .ok (.iconst 4, 1) := by decide +kernel
theorem dX5_isRow_13 : decode cX5_isRow 13 = .ok (.if_icmp .ne 7, 3) := by decide +kernel
theorem dX5_isRow_16 : decode cX5_isRow 16 = .ok (.iconst 1, 1) := by decide +kernel
theorem dX5_isRow_17 : decode cX5_isRow 17 = .ok (.goto 4, 3) := by decide +kernel
theorem dX5_isRow_20 : decode cX5_isRow 20 = .ok (.iconst 0, 1) := by decide +kernel
theorem dX5_isRow_21 : decode cX5_isRow 21 = .ok (.ireturn, 1) := by decide +kernel
theorem dX5_hasStretch_0 : decode cX5_hasStretch 0 = .ok (.iload_n 1, 1) := by decide +kernel
theorem dX5_hasStretch_1 : decode cX5_hasStretch 1 = .ok (.ifCond .lt 29, 3) := by decide +kernel
theorem dX5_hasStretch_4 : decode cX5_hasStretch 4 = .ok (.iload_n 2, 1) := by decide +kernel
theorem dX5_hasStretch_5 : decode cX5_hasStretch 5 = .ok (.ifCond .lt 25, 3) := by decide +kernel
theorem dX5_hasStretch_8 : decode cX5_hasStretch 8 = .ok (.iload_n 1, 1) := by decide +kernel
theorem dX5_hasStretch_9 : decode cX5_hasStretch 9 = .ok (.aload_n 0, 1) := by decide +kernel
theorem dX5_hasStretch_10 : decode cX5_hasStretch 10 = .ok (.getfield 25, 3) := by decide +kernel
theorem dX5_hasStretch_13 : decode cX5_hasStretch 13 = .ok (.if_icmp .gt 17, 3) := by decide +kernel
theorem dX5_hasStretch_16 : decode cX5_hasStretch 16 = .ok (.iload_n 2, 1) := by decide +kernel
theorem dX5_hasStretch_17 : decode cX5_hasStretch 17 = .ok (.aload_n 0, 1) := by decide +kernel
theorem dX5_hasStretch_18 : decode cX5_hasStretch 18 = .ok (.getfield 25, 3) := by decide +kernel
theorem dX5_hasStretch_21 : decode cX5_hasStretch 21 = .ok (.iload_n 1, 1) := by decide +kernel
theorem dX5_hasStretch_22 : decode cX5_hasStretch 22 = .ok (.isub, 1) := by decide +kernel
theorem dX5_hasStretch_23 : decode cX5_hasStretch 23 = .ok (.if_icmp .gt 7, 3) := by decide +kernel
theorem dX5_hasStretch_26 : decode cX5_hasStretch 26 = .ok (.iconst 1, 1) := by decide +kernel
theorem dX5_hasStretch_27 : decode cX5_hasStretch 27 = .ok (.goto 4, 3) := by decide +kernel
theorem dX5_hasStretch_30 : decode cX5_hasStretch 30 = .ok (.iconst 0, 1) := by decide +kernel
theorem dX5_hasStretch_31 : decode cX5_hasStretch 31 = .ok (.ireturn, 1) := by decide +kernel
theorem dX5_fail_0 : decode cX5_fail 0 = .ok (.aload_n 0, 1) := by decide +kernel
theorem dX5_fail_1 : decode cX5_fail 1 = .ok (.getfield 19, 3) := by decide +kernel
theorem dX5_fail_4 : decode cX5_fail 4 = .ok (.ifCond .eq 13, 3) := by decide +kernel
theorem dX5_fail_7 : decode cX5_fail 7 = .ok (.new 34, 3) := by decide +kernel
theorem dX5_fail_10 : decode cX5_fail 10 = .ok (.dup, 1) := by decide +kernel
theorem dX5_fail_11 : decode cX5_fail 11 = .ok (.ldc 36, 2) := by decide +kernel
theorem dX5_fail_13 : decode cX5_fail 13 = .ok (.invokespecial 38, 3) := by decide +kernel
theorem dX5_fail_16 : decode cX5_fail 16 = .ok (.athrow, 1) := by decide +kernel
theorem dX5_fail_17 : decode cX5_fail 17 = .ok (.return_, 1) := by decide +kernel
theorem dX6_init_0 : decode cX6_init 0 = .ok (.aload_n 0, 1) := by decide +kernel
theorem dX6_init_1 : decode cX6_init 1 = .ok (.invokespecial 3, 3) := by decide +kernel
theorem dX6_init_4 : decode cX6_init 4 = .ok (.aload_n 0, 1) := by decide +kernel
theorem dX6_init_5 : decode cX6_init 5 = .ok (.sipush 480, 3) := by decide +kernel
theorem dX6_init_8 : decode cX6_init 8 = .ok (.newarray .int, 2) := by decide +kernel
theorem dX6_init_10 : decode cX6_init 10 = .ok (.putfield 9, 3) := by decide +kernel
theorem dX6_init_13 : decode cX6_init 13 = .ok (.aload_n 0, 1) := by decide +kernel
theorem dX6_init_14 : decode cX6_init 14 = .ok (.sipush 480, 3) := by decide +kernel
theorem dX6_init_17 : decode cX6_init 17 = .ok (.newarray .boolean, 2) := by decide +kernel
theorem dX6_init_19 : decode cX6_init 19 = .ok (.putfield 15, 3) := by decide +kernel
theorem dX6_init_22 : decode cX6_init 22 = .ok (.return_, 1) := by decide +kernel
theorem dX6_clear_0 : decode cX6_clear 0 = .ok (.iconst 0, 1) := by decide +kernel
theorem dX6_clear_1 : decode cX6_clear 1 = .ok (.istore_n 1, 1) := by decide +kernel
theorem dX6_clear_2 : decode cX6_clear 2 = .ok (.iload_n 1, 1) := by decide +kernel
theorem dX6_clear_3 : decode cX6_clear 3 = .ok (.aload_n 0, 1) := by decide +kernel
theorem dX6_clear_4 : decode cX6_clear 4 = .ok (.getfield 19, 3) := by decide +kernel
theorem dX6_clear_7 : decode cX6_clear 7 = .ok (.if_icmp .ge 21, 3) := by decide +kernel
theorem dX6_clear_10 : decode cX6_clear 10 = .ok (.aload_n 0, 1) := by decide +kernel
theorem dX6_clear_11 : decode cX6_clear 11 = .ok (.getfield 15, 3) := by decide +kernel
theorem dX6_clear_14 : decode cX6_clear 14 = .ok (.aload_n 0, 1) := by decide +kernel
theorem dX6_clear_15 : decode cX6_clear 15 = .ok (.getfield 9, 3) := by decide +kernel
theorem dX6_clear_18 : decode cX6_clear 18 = .ok (.iload_n 1, 1) := by decide +kernel
theorem dX6_clear_19 : decode cX6_clear 19 = .ok (.iaload, 1) := by decide +kernel
theorem dX6_clear_20 : decode cX6_clear 20 = .ok (.iconst 0, 1) := by decide +kernel
theorem dX6_clear_21 : decode cX6_clear 21 = .ok (.bastore, 1) := by decide +kernel
theorem dX6_clear_22 : decode cX6_clear 22 = .ok (.iinc 1 1, 3) := by decide +kernel
theorem dX6_clear_25 : decode cX6_clear 25 = .ok (.goto (-23), 3) := by decide +kernel
theorem dX6_clear_28 : decode cX6_clear 28 = .ok (.aload_n 0, 1) := by decide +kernel
theorem dX6_clear_29 : decode cX6_clear 29 = .ok (.iconst 0, 1) := by decide +kernel
theorem dX6_clear_30 : decode cX6_clear 30 = .ok (.putfield 19, 3) := by decide +kernel
theorem dX6_clear_33 : decode cX6_clear 33 = .ok (.return_, 1) := by decide +kernel
set_option maxRecDepth 20000 in
theorem ggX6_addOnce_X8_within : GoodIn wsX6_addOnce wsX8_within := goodIn_r _ [6] (by decide +kernel) (by decide +kernel)
set_option maxRecDepth 20000 in
theorem gX6_addOnce_X8_within_n23 : GoodIn wsX6_addOnce (wsX8_within) := ggX6_addOnce_X8_within
theorem dX6_addOnce_0 : decode cX6_addOnce 0 = .ok (.iload_n 1, 1) := by decide +kernel
theorem dX6_addOnce_1 : decode cX6_addOnce 1 = .ok (.sipush 480, 3) := by decide +kernel
theorem dX6_addOnce_4 : decode cX6_addOnce 4 = .ok (.invokestatic 23, 3) := by decide +kernel
theorem dX6_addOnce_7 : decode cX6_addOnce 7 = .ok (.ifCond .eq 39, 3) := by decide +kernel
theorem dX6_addOnce_10 : decode cX6_addOnce 10 = .ok (.aload_n 0, 1) := by decide +kernel
theorem dX6_addOnce_11 : decode cX6_addOnce 11 = .ok (.getfield 15, 3) := by decide +kernel
theorem dX6_addOnce_14 : decode cX6_addOnce 14 = .ok (.iload_n 1, 1) := by decide +kernel
theorem dX6_addOnce_15 : decode cX6_addOnce 15 = .ok (.baload, 1) := by decide +kernel
theorem dX6_addOnce_16 : decode cX6_addOnce 16 = .ok (.ifCond .ne 30, 3) := by decide +kernel
theorem dX6_addOnce_19 : decode cX6_addOnce 19 = .ok (.aload_n 0, 1) := by decide +kernel
theorem dX6_addOnce_20 : decode cX6_addOnce 20 = .ok (.getfield 15, 3) := by decide +kernel
theorem dX6_addOnce_23 : decode cX6_addOnce 23 = .ok (.iload_n 1, 1) := by decide +kernel
theorem dX6_addOnce_24 : decode cX6_addOnce 24 = .ok (.iconst 1, 1) := by decide +kernel
theorem dX6_addOnce_25 : decode cX6_addOnce 25 = .ok (.bastore, 1) := by decide +kernel
theorem dX6_addOnce_26 : decode cX6_addOnce 26 = .ok (.aload_n 0, 1) := by decide +kernel
theorem dX6_addOnce_27 : decode cX6_addOnce 27 = .ok (.getfield 9, 3) := by decide +kernel
theorem dX6_addOnce_30 : decode cX6_addOnce 30 = .ok (.aload_n 0, 1) := by decide +kernel
theorem dX6_addOnce_31 : decode cX6_addOnce 31 = .ok (.getfield 19, 3) := by decide +kernel
theorem dX6_addOnce_34 : decode cX6_addOnce 34 = .ok (.iload_n 1, 1) := by decide +kernel
theorem dX6_addOnce_35 : decode cX6_addOnce 35 = .ok (.iastore, 1) := by decide +kernel
theorem dX6_addOnce_36 : decode cX6_addOnce 36 = .ok (.aload_n 0, 1) := by decide +kernel
theorem dX6_addOnce_37 : decode cX6_addOnce 37 = .ok (.dup, 1) := by decide +kernel
theorem dX6_addOnce_38 : decode cX6_addOnce 38 = .ok (.getfield 19, 3) := by decide +kernel
theorem dX6_addOnce_41 : decode cX6_addOnce 41 = .ok (.iconst 1, 1) := by decide +kernel
theorem dX6_addOnce_42 : decode cX6_addOnce 42 = .ok (.iadd, 1) := by decide +kernel
theorem dX6_addOnce_43 : decode cX6_addOnce 43 = .ok (.putfield 19, 3) := by decide +kernel
theorem dX6_addOnce_46 : decode cX6_addOnce 46 = .ok (.return_, 1) := by decide +kernel
theorem dX7_init_0 : decode cX7_init 0 = .ok (.aload_n 0, 1) := by decide +kernel
theorem dX7_init_1 : decode cX7_init 1 = .ok (.invokespecial 3, 3) := by decide +kernel
theorem dX7_init_4 : decode cX7_init 4 = .ok (.aload_n 0, 1) := by decide +kernel
theorem dX7_init_5 : decode cX7_init 5 = .ok (.sipush 200, 3) := by decide +kernel
theorem dX7_init_8 : decode cX7_init 8 = .ok (.newarray .int, 2) := by decide +kernel
theorem dX7_init_10 : decode cX7_init 10 = .ok (.putfield 9, 3) := by decide +kernel
theorem dX7_init_13 : decode cX7_init 13 = .ok (.aload_n 0, 1) := by decide +kernel
theorem dX7_init_14 : decode cX7_init 14 = .ok (.sipush 200, 3) := by decide +kernel
theorem dX7_init_17 : decode cX7_init 17 = .ok (.newarray .int, 2) := by decide +kernel
theorem dX7_init_19 : decode cX7_init 19 = .ok (.putfield 15, 3) := by decide +kernel
theorem dX7_init_22 : decode cX7_init 22 = .ok (.return_, 1) := by decide +kernel
theorem dX7_add_0 : decode cX7_add 0 = .ok (.aload_n 0, 1) := by decide +kernel
theorem dX7_add_1 : decode cX7_add 1 = .ok (.getfield 9, 3) := by decide +kernel
theorem dX7_add_4 : decode cX7_add 4 = .ok (.aload_n 0, 1) := by decide +kernel
theorem dX7_add_5 : decode cX7_add 5 = .ok (.getfield 18, 3) := by decide +kernel
theorem dX7_add_8 : decode cX7_add 8 = .ok (.iload_n 1, 1) := by decide +kernel
theorem dX7_add_9 : decode cX7_add 9 = .ok (.iastore, 1) := by decide +kernel
theorem dX7_add_10 : decode cX7_add 10 = .ok (.aload_n 0, 1) := by decide +kernel
theorem dX7_add_11 : decode cX7_add 11 = .ok (.getfield 15, 3) := by decide +kernel
theorem dX7_add_14 : decode cX7_add 14 = .ok (.aload_n 0, 1) := by decide +kernel
theorem dX7_add_15 : decode cX7_add 15 = .ok (.getfield 18, 3) := by decide +kernel
theorem dX7_add_18 : decode cX7_add 18 = .ok (.iload_n 2, 1) := by decide +kernel
theorem dX7_add_19 : decode cX7_add 19 = .ok (.iastore, 1) := by decide +kernel
theorem dX7_add_20 : decode cX7_add 20 = .ok (.aload_n 0, 1) := by decide +kernel
theorem dX7_add_21 : decode cX7_add 21 = .ok (.dup, 1) := by decide +kernel
theorem dX7_add_22 : decode cX7_add 22 = .ok (.getfield 18, 3) := by decide +kernel
theorem dX7_add_25 : decode cX7_add 25 = .ok (.iconst 1, 1) := by decide +kernel
theorem dX7_add_26 : decode cX7_add 26 = .ok (.iadd, 1) := by decide +kernel
theorem dX7_add_27 : decode cX7_add 27 = .ok (.putfield 18, 3) := by decide +kernel
theorem dX7_add_30 : decode cX7_add 30 = .ok (.return_, 1) := by decide +kernel
set_option maxRecDepth 20000 in
theorem ggX7_bumpedLast_X8_bumpOf : GoodIn wsX7_bumpedLast wsX8_bumpOf := goodIn_r _ [5] (by decide +kernel) (by decide +kernel)
set_option maxRecDepth 20000 in
theorem gX7_bumpedLast_X8_bumpOf_n22 : GoodIn wsX7_bumpedLast (wsX8_bumpOf) := ggX7_bumpedLast_X8_bumpOf
theorem dX7_bumpedLast_0 : decode cX7_bumpedLast 0 = .ok (.aload_n 0, 1) := by decide +kernel
theorem dX7_bumpedLast_1 : decode cX7_bumpedLast 1 = .ok (.getfield 18, 3) := by decide +kernel
theorem dX7_bumpedLast_4 : decode cX7_bumpedLast 4 = .ok (.ifCond .le 25, 3) := by decide +kernel
theorem dX7_bumpedLast_7 : decode cX7_bumpedLast 7 = .ok (.aload_n 0, 1) := by decide +kernel
theorem dX7_bumpedLast_8 : decode cX7_bumpedLast 8 = .ok (.getfield 15, 3) := by decide +kernel
theorem dX7_bumpedLast_11 : decode cX7_bumpedLast 11 = .ok (.aload_n 0, 1) := by decide +kernel
theorem dX7_bumpedLast_12 : decode cX7_bumpedLast 12 = .ok (.getfield 18, 3) := by decide +kernel
theorem dX7_bumpedLast_15 : decode cX7_bumpedLast 15 = .ok (.iconst 1, 1) := by decide +kernel
theorem dX7_bumpedLast_16 : decode cX7_bumpedLast 16 = .ok (.isub, 1) := by decide +kernel
theorem dX7_bumpedLast_17 : decode cX7_bumpedLast 17 = .ok (.iaload, 1) := by decide +kernel
theorem dX7_bumpedLast_18 : decode cX7_bumpedLast 18 = .ok (.invokestatic 22, 3) := by decide +kernel
theorem dX7_bumpedLast_21 : decode cX7_bumpedLast 21 = .ok (.iconst 1, 1) := by decide +kernel
theorem dX7_bumpedLast_22 : decode cX7_bumpedLast 22 = .ok (.if_icmp .ne 7, 3) := by decide +kernel
theorem dX7_bumpedLast_25 : decode cX7_bumpedLast 25 = .ok (.iconst 1, 1) := by decide +kernel
theorem dX7_bumpedLast_26 : decode cX7_bumpedLast 26 = .ok (.goto 4, 3) := by decide +kernel
theorem dX7_bumpedLast_29 : decode cX7_bumpedLast 29 = .ok (.iconst 0, 1) := by decide +kernel
theorem dX7_bumpedLast_30 : decode cX7_bumpedLast 30 = .ok (.ireturn, 1) := by decide +kernel
set_option maxRecDepth 20000 in
theorem ggX8_init_X1_init : GoodIn wsX8_init wsX1_init := goodIn_r _ [37, 38, 2, 3, 39, 40, 41, 42, 43, 44, 45, 89, 90, 91, 92, 93, 94, 95] (by decide +kernel) (by decide +kernel)
set_option maxRecDepth 20000 in
theorem gX8_init_X1_init_n11 : GoodIn wsX8_init (wsX1_init) := ggX8_init_X1_init
set_option maxRecDepth 20000 in
theorem ggX8_init_X7_init : GoodIn wsX8_init wsX7_init := goodIn_r _ [47, 48, 2, 3, 39, 49, 50, 105, 106, 107] (by decide +kernel) (by decide +kernel)
set_option maxRecDepth 20000 in
theorem gX8_init_X7_init_n18 : GoodIn wsX8_init (wsX7_init) := ggX8_init_X7_init
set_option maxRecDepth 20000 in
theorem ggX8_init_X0_init : GoodIn wsX8_init wsX0_init := goodIn_r _ [52, 53, 2, 3, 54, 55, 56, 108, 109, 110, 111, 112, 113] (by decide +kernel) (by decide +kernel)
set_option maxRecDepth 20000 in
theorem gX8_init_X0_init_n25 : GoodIn wsX8_init (wsX0_init) := ggX8_init_X0_init
set_option maxRecDepth 20000 in
theorem ggX8_init_X2_init : GoodIn wsX8_init wsX2_init := goodIn_r _ [58, 59, 2, 3, 39, 60, 61, 62, 114, 115, 116, 117] (by decide +kernel) (by decide +kernel)
set_option maxRecDepth 20000 in
theorem gX8_init_X2_init_n32 : GoodIn wsX8_init (wsX2_init) := ggX8_init_X2_init
set_option maxRecDepth 20000 in
theorem ggX8_init_X3_init : GoodIn wsX8_init wsX3_init := goodIn_r _ [64, 65, 2, 3, 39, 66, 67, 118, 119, 120] (by decide +kernel) (by decide +kernel)
set_option maxRecDepth 20000 in
theorem gX8_init_X3_init_n39 : GoodIn wsX8_init (wsX3_init) := ggX8_init_X3_init
set_option maxRecDepth 20000 in
theorem ggX8_init_X4_init : GoodIn wsX8_init wsX4_init := goodIn_r _ [69, 70, 2, 3, 39, 71, 72, 73, 74, 75, 76, 77, 121, 122, 123, 124, 125] (by decide +kernel) (by decide +kernel)
set_option maxRecDepth 20000 in
theorem gX8_init_X4_init_n46 : GoodIn wsX8_init (wsX4_init) := ggX8_init_X4_init
set_option maxRecDepth 20000 in
theorem ggX8_init_X6_init : GoodIn wsX8_init wsX6_init := goodIn_r _ [79, 80, 2, 3, 39, 81, 41, 82, 126, 127, 128] (by decide +kernel) (by decide +kernel)
set_option maxRecDepth 20000 in
theorem gX8_init_X6_init_n53 : GoodIn wsX8_init (wsX6_init) := ggX8_init_X6_init
set_option maxRecDepth 20000 in
theorem ggX8_init_X5_init : GoodIn wsX8_init wsX5_init := goodIn_r _ [84, 85, 2, 3, 86, 87, 88, 129, 130, 131, 132, 133] (by decide +kernel) (by decide +kernel)
set_option maxRecDepth 20000 in
theorem gX8_init_X5_init_n64 : GoodIn wsX8_init (wsX5_init) := ggX8_init_X5_init
theorem dX8_init_0 : decode cX8_init 0 = .ok (.aload_n 0, 1) := by decide +kernel
theorem dX8_init_1 : decode cX8_init 1 = .ok (.invokespecial 3, 3) := by decide +kernel
theorem dX8_init_4 : decode cX8_init 4 = .ok (.aload_n 0, 1) := by decide +kernel
theorem dX8_init_5 : decode cX8_init 5 = .ok (.new 9, 3) := by decide +kernel
theorem dX8_init_8 : decode cX8_init 8 = .ok (.dup, 1) := by decide +kernel
theorem dX8_init_9 : decode cX8_init 9 = .ok (.invokespecial 11, 3) := by decide +kernel
theorem dX8_init_12 : decode cX8_init 12 = .ok (.putfield 12, 3) := by decide +kernel
theorem dX8_init_15 : decode cX8_init 15 = .ok (.aload_n 0, 1) := by decide +kernel
theorem dX8_init_16 : decode cX8_init 16 = .ok (.new 16, 3) := by decide +kernel
theorem dX8_init_19 : decode cX8_init 19 = .ok (.dup, 1) := by decide +kernel
theorem dX8_init_20 : decode cX8_init 20 = .ok (.invokespecial 18, 3) := by decide +kernel
theorem dX8_init_23 : decode cX8_init 23 = .ok (.putfield 19, 3) := by decide +kernel
theorem dX8_init_26 : decode cX8_init 26 = .ok (.aload_n 0, 1) := by decide +kernel
theorem dX8_init_27 : decode cX8_init 27 = .ok (.new 23, 3) := by decide +kernel
theorem dX8_init_30 : decode cX8_init 30 = .ok (.dup, 1) := by decide +kernel
theorem dX8_init_31 : decode cX8_init 31 = .ok (.invokespecial 25, 3) := by decide +kernel
theorem dX8_init_34 : decode cX8_init 34 = .ok (.putfield 26, 3) := by decide +kernel
theorem dX8_init_37 : decode cX8_init 37 = .ok (.aload_n 0, 1) := by decide +kernel
theorem dX8_init_38 : decode cX8_init 38 = .ok (.new 30, 3) := by decide +kernel
theorem dX8_init_41 : decode cX8_init 41 = .ok (.dup, 1) := by decide +kernel
theorem dX8_init_42 : decode cX8_init 42 = .ok (.invokespecial 32, 3) := by decide +kernel
theorem dX8_init_45 : decode cX8_init 45 = .ok (.putfield 33, 3) := by decide +kernel
theorem dX8_init_48 : decode cX8_init 48 = .ok (.aload_n 0, 1) := by decide +kernel
theorem dX8_init_49 : decode cX8_init 49 = .ok (.new 37, 3) := by decide +kernel
theorem dX8_init_52 : decode cX8_init 52 = .ok (.dup, 1) := by decide +kernel
theorem dX8_init_53 : decode cX8_init 53 = .ok (.invokespecial 39, 3) := by decide +kernel
theorem dX8_init_56 : decode cX8_init 56 = .ok (.putfield 40, 3) := by decide +kernel
theorem dX8_init_59 : decode cX8_init 59 = .ok (.aload_n 0, 1) := by decide +kernel
theorem dX8_init_60 : decode cX8_init 60 = .ok (.new 44, 3) := by decide +kernel
theorem dX8_init_63 : decode cX8_init 63 = .ok (.dup, 1) := by decide +kernel
theorem dX8_init_64 : decode cX8_init 64 = .ok (.invokespecial 46, 3) := by decide +kernel
theorem dX8_init_67 : decode cX8_init 67 = .ok (.putfield 47, 3) := by decide +kernel
theorem dX8_init_70 : decode cX8_init 70 = .ok (.aload_n 0, 1) := by decide +kernel
theorem dX8_init_71 : decode cX8_init 71 = .ok (.new 51, 3) := by decide +kernel
theorem dX8_init_74 : decode cX8_init 74 = .ok (.dup, 1) := by decide +kernel
theorem dX8_init_75 : decode cX8_init 75 = .ok (.invokespecial 53, 3) := by decide +kernel
theorem dX8_init_78 : decode cX8_init 78 = .ok (.putfield 54, 3) := by decide +kernel
theorem dX8_init_81 : decode cX8_init 81 = .ok (.aload_n 0, 1) := by decide +kernel
theorem dX8_init_82 : decode cX8_init 82 = .ok (.bipush 8, 2) := by decide +kernel
theorem dX8_init_84 : decode cX8_init 84 = .ok (.anewarray 58, 3) := by decide +kernel
theorem dX8_init_87 : decode cX8_init 87 = .ok (.putfield 60, 3) := by decide +kernel
theorem dX8_init_90 : decode cX8_init 90 = .ok (.iconst 0, 1) := by decide +kernel
theorem dX8_init_91 : decode cX8_init 91 = .ok (.istore_n 1, 1) := by decide +kernel
theorem dX8_init_92 : decode cX8_init 92 = .ok (.iload_n 1, 1) := by decide +kernel
theorem dX8_init_93 : decode cX8_init 93 = .ok (.bipush 8, 2) := by decide +kernel
theorem dX8_init_95 : decode cX8_init 95 = .ok (.if_icmp .ge 22, 3) := by decide +kernel
theorem dX8_init_98 : decode cX8_init 98 = .ok (.aload_n 0, 1) := by decide +kernel
theorem dX8_init_99 : decode cX8_init 99 = .ok (.getfield 60, 3) := by decide +kernel
theorem dX8_init_102 : decode cX8_init 102 = .ok (.iload_n 1, 1) := by decide +kernel
theorem dX8_init_103 : decode cX8_init 103 = .ok (.new 58, 3) := by decide +kernel
theorem dX8_init_106 : decode cX8_init 106 = .ok (.dup, 1) := by decide +kernel
theorem dX8_init_107 : decode cX8_init 107 = .ok (.invokespecial 64, 3) := by decide +kernel
theorem dX8_init_110 : decode cX8_init 110 = .ok (.aastore, 1) := by decide +kernel
theorem dX8_init_111 : decode cX8_init 111 = .ok (.iinc 1 1, 3) := by decide +kernel
theorem dX8_init_114 : decode cX8_init 114 = .ok (.goto (-22), 3) := by decide +kernel
theorem dX8_init_117 : decode cX8_init 117 = .ok (.return_, 1) := by decide +kernel
set_option maxRecDepth 20000 in
theorem ggX8_cell_X8_within : GoodIn wsX8_cell wsX8_within := goodIn_r _ [5] (by decide +kernel) (by decide +kernel)
set_option maxRecDepth 20000 in
theorem gX8_cell_X8_within : GoodIn wsX8_cell (va_wsS RX8 65 yX8_within wsX8_within) := goodIn_app (goodIn_of _ (by decide +kernel)) ggX8_cell_X8_within
set_option maxRecDepth 20000 in
theorem ggX8_cell_X1_addCell : GoodIn wsX8_cell wsX1_addCell := goodIn_r _ [9, 10, 11, 12, 22, 23, 24, 25, 26, 27, 28] (by decide +kernel) (by decide +kernel)
set_option maxRecDepth 20000 in
theorem gX8_cell_X1_addCell_n73 : GoodIn wsX8_cell (wsX1_addCell) := ggX8_cell_X1_addCell
