theorem dX2_init_0 : decode cX2_init 0 = .ok (.aload_n 0, 1) := by decide +kernel
theorem dX2_init_1 : decode cX2_init 1 = .ok (.invokespecial 3, 3) := by decide +kernel
theorem dX2_init_4 : decode cX2_init 4 = .ok (.aload_n 0, 1) := by decide +kernel
theorem dX2_init_5 : decode cX2_init 5 = .ok (.iconst 0, 1) := by decide +kernel
theorem dX2_init_6 : decode cX2_init 6 = .ok (.putfield 9, 3) := by decide +kernel
theorem dX2_init_9 : decode cX2_init 9 = .ok (.aload_n 0, 1) := by decide +kernel
theorem dX2_init_10 : decode cX2_init 10 = .ok (.bipush 9, 2) := by decide +kernel
theorem dX2_init_12 : decode cX2_init 12 = .ok (.newarray .int, 2) := by decide +kernel
theorem dX2_init_14 : decode cX2_init 14 = .ok (.putfield 15, 3) := by decide +kernel
theorem dX2_init_17 : decode cX2_init 17 = .ok (.return_, 1) := by decide +kernel
theorem dX2_add_0 : decode cX2_add 0 = .ok (.aload_n 0, 1) := by decide +kernel
theorem dX2_add_1 : decode cX2_add 1 = .ok (.getfield 9, 3) := by decide +kernel
theorem dX2_add_4 : decode cX2_add 4 = .ok (.bipush 9, 2) := by decide +kernel
theorem dX2_add_6 : decode cX2_add 6 = .ok (.if_icmp .ge 23, 3) := by decide +kernel
theorem dX2_add_9 : decode cX2_add 9 = .ok (.aload_n 0, 1) := by decide +kernel
theorem dX2_add_10 : decode cX2_add 10 = .ok (.getfield 15, 3) := by decide +kernel
theorem dX2_add_13 : decode cX2_add 13 = .ok (.aload_n 0, 1) := by decide +kernel
theorem dX2_add_14 : decode cX2_add 14 = .ok (.getfield 9, 3) := by decide +kernel
theorem dX2_add_17 : decode cX2_add 17 = .ok (.iload_n 1, 1) := by decide +kernel
theorem dX2_add_18 : decode cX2_add 18 = .ok (.iastore, 1) := by decide +kernel
theorem dX2_add_19 : decode cX2_add 19 = .ok (.aload_n 0, 1) := by decide +kernel
theorem dX2_add_20 : decode cX2_add 20 = .ok (.dup, 1) := by decide +kernel
theorem dX2_add_21 : decode cX2_add 21 = .ok (.getfield 9, 3) := by decide +kernel
theorem dX2_add_24 : decode cX2_add 24 = .ok (.iconst 1, 1) := by decide +kernel
theorem dX2_add_25 : decode cX2_add 25 = .ok (.iadd, 1) := by decide +kernel
theorem dX2_add_26 : decode cX2_add 26 = .ok (.putfield 9, 3) := by decide +kernel
theorem dX2_add_29 : decode cX2_add 29 = .ok (.return_, 1) := by decide +kernel
theorem dX2_figure_0 : decode cX2_figure 0 = .ok (.aload_n 0, 1) := by decide +kernel
theorem dX2_figure_1 : decode cX2_figure 1 = .ok (.getfield 15, 3) := by decide +kernel
theorem dX2_figure_4 : decode cX2_figure 4 = .ok (.iload_n 1, 1) := by decide +kernel
theorem dX2_figure_5 : decode cX2_figure 5 = .ok (.iaload, 1) := by decide +kernel
theorem dX2_figure_6 : decode cX2_figure 6 = .ok (.bipush 48, 2) := by decide +kernel
theorem dX2_figure_8 : decode cX2_figure 8 = .ok (.isub, 1) := by decide +kernel
theorem dX2_figure_9 : decode cX2_figure 9 = .ok (.ireturn, 1) := by decide +kernel
set_option maxRecDepth 20000 in
theorem ggX2_isFigure_X2_figure : GoodIn wsX2_isFigure wsX2_figure := goodIn_r _ [5, 6, 7, 8] (by decide +kernel) (by decide +kernel)
set_option maxRecDepth 20000 in
theorem gX2_isFigure_X2_figure : GoodIn wsX2_isFigure (wsV RX2 19 RX2 yX2_figure wsX2_figure) := goodIn_app (goodIn_of _ (by decide +kernel)) ggX2_isFigure_X2_figure
theorem dX2_isFigure_0 : decode cX2_isFigure 0 = .ok (.aload_n 0, 1) := by decide +kernel
theorem dX2_isFigure_1 : decode cX2_isFigure 1 = .ok (.iload_n 1, 1) := by decide +kernel
theorem dX2_isFigure_2 : decode cX2_isFigure 2 = .ok (.invokevirtual 19, 3) := by decide +kernel
theorem dX2_isFigure_5 : decode cX2_isFigure 5 = .ok (.ifCond .lt 16, 3) := by decide +kernel
theorem dX2_isFigure_8 : decode cX2_isFigure 8 = .ok (.aload_n 0, 1) := by decide +kernel
theorem dX2_isFigure_9 : decode cX2_isFigure 9 = .ok (.iload_n 1, 1) := by decide +kernel
theorem dX2_isFigure_10 : decode cX2_isFigure 10 = .ok (.invokevirtual 19, 3) := by decide +kernel
theorem dX2_isFigure_13 : decode cX2_isFigure 13 = .ok (.iload_n 2, 1) := by decide +kernel
theorem dX2_isFigure_14 : decode cX2_isFigure 14 = .ok (.if_icmp .gt 7, 3) := by decide +kernel
theorem dX2_isFigure_17 : decode cX2_isFigure 17 = .ok (.iconst 1, 1) := by decide +kernel
theorem dX2_isFigure_18 : decode cX2_isFigure 18 = .ok (.goto 4, 3) := by decide +kernel
theorem dX2_isFigure_21 : decode cX2_isFigure 21 = .ok (.iconst 0, 1) := by decide +kernel
theorem dX2_isFigure_22 : decode cX2_isFigure 22 = .ok (.ireturn, 1) := by decide +kernel
set_option maxRecDepth 20000 in
theorem ggX2_hasOnlyFigures_X2_isFigure : GoodIn wsX2_hasOnlyFigures wsX2_isFigure := goodIn_r _ [6, 7, 8, 9, 5, 10, 11, 12, 13] (by decide +kernel) (by decide +kernel)
set_option maxRecDepth 20000 in
theorem gX2_hasOnlyFigures_X2_isFigure : GoodIn wsX2_hasOnlyFigures (wsV RX2 23 RX2 yX2_isFigure wsX2_isFigure) := goodIn_app (goodIn_of _ (by decide +kernel)) ggX2_hasOnlyFigures_X2_isFigure
theorem dX2_hasOnlyFigures_0 : decode cX2_hasOnlyFigures 0 = .ok (.iconst 0, 1) := by decide +kernel
theorem dX2_hasOnlyFigures_1 : decode cX2_hasOnlyFigures 1 = .ok (.istore_n 2, 1) := by decide +kernel
theorem dX2_hasOnlyFigures_2 : decode cX2_hasOnlyFigures 2 = .ok (.iload_n 2, 1) := by decide +kernel
theorem dX2_hasOnlyFigures_3 : decode cX2_hasOnlyFigures 3 = .ok (.aload_n 0, 1) := by decide +kernel
theorem dX2_hasOnlyFigures_4 : decode cX2_hasOnlyFigures 4 = .ok (.getfield 9, 3) := by decide +kernel
theorem dX2_hasOnlyFigures_7 : decode cX2_hasOnlyFigures 7 = .ok (.if_icmp .ge 20, 3) := by decide +kernel
theorem dX2_hasOnlyFigures_10 : decode cX2_hasOnlyFigures 10 = .ok (.aload_n 0, 1) := by decide +kernel
theorem dX2_hasOnlyFigures_11 : decode cX2_hasOnlyFigures 11 = .ok (.iload_n 2, 1) := by decide +kernel
theorem dX2_hasOnlyFigures_12 : decode cX2_hasOnlyFigures 12 = .ok (.iload_n 1, 1) := by decide +kernel
theorem dX2_hasOnlyFigures_13 : decode cX2_hasOnlyFigures 13 = .ok (.invokevirtual 23, 3) := by decide +kernel
theorem dX2_hasOnlyFigures_16 : decode cX2_hasOnlyFigures 16 = .ok (.ifCond .ne 5, 3) := by decide +kernel
theorem dX2_hasOnlyFigures_19 : decode cX2_hasOnlyFigures 19 = .ok (.iconst 0, 1) := by decide +kernel
theorem dX2_hasOnlyFigures_20 : decode cX2_hasOnlyFigures 20 = .ok (.ireturn, 1) := by decide +kernel
theorem dX2_hasOnlyFigures_21 : decode cX2_hasOnlyFigures 21 = .ok (.iinc 2 1, 3) := by decide +kernel
theorem dX2_hasOnlyFigures_24 : decode cX2_hasOnlyFigures 24 = .ok (.goto (-22), 3) := by decide +kernel
theorem dX2_hasOnlyFigures_27 : decode cX2_hasOnlyFigures 27 = .ok (.iconst 1, 1) := by decide +kernel
theorem dX2_hasOnlyFigures_28 : decode cX2_hasOnlyFigures 28 = .ok (.ireturn, 1) := by decide +kernel
set_option maxRecDepth 20000 in
theorem ggX3_init_X1_init : GoodIn wsX3_init wsX1_init := goodIn_r _ [15, 16, 2, 3, 17, 18, 19, 20, 21, 8, 22, 23, 24, 25, 26, 27, 28, 29, 30, 31, 32, 33, 34, 35, 36, 37, 38, 39, 40] (by decide +kernel) (by decide +kernel)
set_option maxRecDepth 20000 in
theorem gX3_init_X1_init_n11 : GoodIn wsX3_init (wsX1_init) := ggX3_init_X1_init
theorem dX3_init_0 : decode cX3_init 0 = .ok (.aload_n 0, 1) := by decide +kernel
theorem dX3_init_1 : decode cX3_init 1 = .ok (.invokespecial 3, 3) := by decide +kernel
theorem dX3_init_4 : decode cX3_init 4 = .ok (.aload_n 0, 1) := by decide +kernel
theorem dX3_init_5 : decode cX3_init 5 = .ok (.new 9, 3) := by decide +kernel
theorem dX3_init_8 : decode cX3_init 8 = .ok (.dup, 1) := by decide +kernel
theorem dX3_init_9 : decode cX3_init 9 = .ok (.invokespecial 11, 3) := by decide +kernel
theorem dX3_init_12 : decode cX3_init 12 = .ok (.putfield 12, 3) := by decide +kernel
theorem dX3_init_15 : decode cX3_init 15 = .ok (.aload_n 0, 1) := by decide +kernel
theorem dX3_init_16 : decode cX3_init 16 = .ok (.bipush 20, 2) := by decide +kernel
theorem dX3_init_18 : decode cX3_init 18 = .ok (.newarray .int, 2) := by decide +kernel
theorem dX3_init_20 : decode cX3_init 20 = .ok (.putfield 18, 3) := by decide +kernel
theorem dX3_init_23 : decode cX3_init 23 = .ok (.aload_n 0, 1) := by decide +kernel
theorem dX3_init_24 : decode cX3_init 24 = .ok (.bipush 20, 2) := by decide +kernel
theorem dX3_init_26 : decode cX3_init 26 = .ok (.newarray .int, 2) := by decide +kernel
theorem dX3_init_28 : decode cX3_init 28 = .ok (.putfield 22, 3) := by decide +kernel
theorem dX3_init_31 : decode cX3_init 31 = .ok (.aload_n 0, 1) := by decide +kernel
theorem dX3_init_32 : decode cX3_init 32 = .ok (.bipush 20, 2) := by decide +kernel
theorem dX3_init_34 : decode cX3_init 34 = .ok (.newarray .int, 2) := by decide +kernel
theorem dX3_init_36 : decode cX3_init 36 = .ok (.putfield 25, 3) := by decide +kernel
theorem dX3_init_39 : decode cX3_init 39 = .ok (.aload_n 0, 1) := by decide +kernel
theorem dX3_init_40 : decode cX3_init 40 = .ok (.bipush 20, 2) := by decide +kernel
theorem dX3_init_42 : decode cX3_init 42 = .ok (.newarray .int, 2) := by decide +kernel
theorem dX3_init_44 : decode cX3_init 44 = .ok (.putfield 28, 3) := by decide +kernel
theorem dX3_init_47 : decode cX3_init 47 = .ok (.aload_n 0, 1) := by decide +kernel
theorem dX3_init_48 : decode cX3_init 48 = .ok (.bipush 20, 2) := by decide +kernel
theorem dX3_init_50 : decode cX3_init 50 = .ok (.newarray .int, 2) := by decide +kernel
theorem dX3_init_52 : decode cX3_init 52 = .ok (.putfield 31, 3) := by decide +kernel
theorem dX3_init_55 : decode cX3_init 55 = .ok (.return_, 1) := by decide +kernel
theorem dX3_goes_0 : decode cX3_goes 0 = .ok (.aload_n 0, 1) := by decide +kernel
theorem dX3_goes_1 : decode cX3_goes 1 = .ok (.getfield 18, 3) := by decide +kernel
theorem dX3_goes_4 : decode cX3_goes 4 = .ok (.iconst 0, 1) := by decide +kernel
theorem dX3_goes_5 : decode cX3_goes 5 = .ok (.iaload, 1) := by decide +kernel
theorem dX3_goes_6 : decode cX3_goes 6 = .ok (.ireturn, 1) := by decide +kernel
theorem dX3_fewestPages_0 : decode cX3_fewestPages 0 = .ok (.aload_n 0, 1) := by decide +kernel
theorem dX3_fewestPages_1 : decode cX3_fewestPages 1 = .ok (.getfield 22, 3) := by decide +kernel
theorem dX3_fewestPages_4 : decode cX3_fewestPages 4 = .ok (.iconst 0, 1) := by decide +kernel
theorem dX3_fewestPages_5 : decode cX3_fewestPages 5 = .ok (.iaload, 1) := by decide +kernel
theorem dX3_fewestPages_6 : decode cX3_fewestPages 6 = .ok (.ireturn, 1) := by decide +kernel
theorem dX3_leastRagged_0 : decode cX3_leastRagged 0 = .ok (.aload_n 0, 1) := by decide +kernel
theorem dX3_leastRagged_1 : decode cX3_leastRagged 1 = .ok (.getfield 28, 3) := by decide +kernel
theorem dX3_leastRagged_4 : decode cX3_leastRagged 4 = .ok (.iconst 0, 1) := by decide +kernel
theorem dX3_leastRagged_5 : decode cX3_leastRagged 5 = .ok (.iaload, 1) := by decide +kernel
theorem dX3_leastRagged_6 : decode cX3_leastRagged 6 = .ok (.ireturn, 1) := by decide +kernel
theorem dX3_goesInFewest_0 : decode cX3_goesInFewest 0 = .ok (.aload_n 0, 1) := by decide +kernel
theorem dX3_goesInFewest_1 : decode cX3_goesInFewest 1 = .ok (.getfield 25, 3) := by decide +kernel
theorem dX3_goesInFewest_4 : decode cX3_goesInFewest 4 = .ok (.iconst 0, 1) := by decide +kernel
theorem dX3_goesInFewest_5 : decode cX3_goesInFewest 5 = .ok (.iaload, 1) := by decide +kernel
theorem dX3_goesInFewest_6 : decode cX3_goesInFewest 6 = .ok (.ireturn, 1) := by decide +kernel
theorem dX3_figure_0 : decode cX3_figure 0 = .ok (.aload_n 0, 1) := by decide +kernel
theorem dX3_figure_1 : decode cX3_figure 1 = .ok (.getfield 31, 3) := by decide +kernel
theorem dX3_figure_4 : decode cX3_figure 4 = .ok (.iconst 0, 1) := by decide +kernel
theorem dX3_figure_5 : decode cX3_figure 5 = .ok (.iaload, 1) := by decide +kernel
theorem dX3_figure_6 : decode cX3_figure 6 = .ok (.iconst 2, 1) := by decide +kernel
theorem dX3_figure_7 : decode cX3_figure 7 = .ok (.aload_n 1, 1) := by decide +kernel
theorem dX3_figure_8 : decode cX3_figure 8 = .ok (.getfield 34, 3) := by decide +kernel
theorem dX3_figure_11 : decode cX3_figure 11 = .ok (.iconst 1, 1) := by decide +kernel
theorem dX3_figure_12 : decode cX3_figure 12 = .ok (.isub, 1) := by decide +kernel
theorem dX3_figure_13 : decode cX3_figure 13 = .ok (.iload_n 2, 1) := by decide +kernel
theorem dX3_figure_14 : decode cX3_figure 14 = .ok (.isub, 1) := by decide +kernel
theorem dX3_figure_15 : decode cX3_figure 15 = .ok (.imul, 1) := by decide +kernel
theorem dX3_figure_16 : decode cX3_figure 16 = .ok (.ishr, 1) := by decide +kernel
theorem dX3_figure_17 : decode cX3_figure 17 = .ok (.iconst 3, 1) := by decide +kernel
theorem dX3_figure_18 : decode cX3_figure 18 = .ok (.iand, 1) := by decide +kernel
theorem dX3_figure_19 : decode cX3_figure 19 = .ok (.ireturn, 1) := by decide +kernel
set_option maxRecDepth 20000 in
theorem ggX3_run_X3_clear : GoodIn wsX3_run wsX3_clear := goodIn_r _ [9, 2, 10, 3, 11, 12, 90, 91, 92, 93, 94, 95] (by decide +kernel) (by decide +kernel)
set_option maxRecDepth 20000 in
theorem gX3_run_X3_clear : GoodIn wsX3_run (wsV RX3 40 RX3 yX3_clear wsX3_clear) := goodIn_app (goodIn_of _ (by decide +kernel)) ggX3_run_X3_clear
set_option maxRecDepth 20000 in
theorem ggX3_run_X1_whyNot : GoodIn wsX3_run wsX1_whyNot := goodIn_r _ [17, 18, 19, 20, 21, 22, 23, 24, 25, 26, 27, 28, 29, 30, 31, 32, 33, 34, 35, 36, 16, 37, 38, 39, 40, 41, 42, 43, 44, 96, 97, 98, 99, 100, 101, 102, 103, 104, 105, 106, 107, 83, 84, 85, 86, 87, 88, 89] (by decide +kernel) (by decide +kernel)
set_option maxRecDepth 20000 in
theorem gX3_run_X1_whyNot : GoodIn wsX3_run (wsV RX3 44 RX1 yX1_whyNot wsX1_whyNot) := goodIn_app (goodIn_of _ (by decide +kernel)) ggX3_run_X1_whyNot
set_option maxRecDepth 20000 in
theorem ggX3_run_X1_put : GoodIn wsX3_run wsX1_put := goodIn_r _ [48, 49, 50, 51, 52, 16, 53, 54, 18, 39, 40, 38, 55, 56, 57, 58, 59, 60, 61, 62, 63, 41, 42, 43, 44, 96, 97, 98, 99, 100, 101, 102, 103, 104, 105, 106, 107, 83, 84, 85, 86, 87, 88, 89] (by decide +kernel) (by decide +kernel)
set_option maxRecDepth 20000 in
theorem gX3_run_X1_put : GoodIn wsX3_run (wsV RX3 48 RX1 yX1_put wsX1_put) := goodIn_app (goodIn_of _ (by decide +kernel)) ggX3_run_X1_put
set_option maxRecDepth 20000 in
theorem ggX3_run_X3_growPage : GoodIn wsX3_run wsX3_growPage := goodIn_r _ [67, 1, 4, 68, 69, 70, 8, 71, 72, 11, 10, 12, 73, 74, 75, 16, 76, 19, 39, 40, 55, 30, 31, 32, 23, 33, 25, 77, 27, 28, 29, 78, 79, 80, 81, 82, 2, 3, 13, 14, 15, 17, 18, 20, 21, 22, 24, 26, 34, 35, 36, 37, 38, 41, 42, 43, 44, 45, 46, 47, 48, 49, 50, 51, 52, 53, 54, 56, 57, 58, 59, 60, 61, 62, 63, 64, 65, 66, 83, 84, 85, 86, 87, 88, 89, 90, 91, 92, 93, 94, 95, 96, 97, 98, 99, 100, 101, 102, 103, 104, 105, 106, 107] (by decide +kernel) (by decide +kernel)
set_option maxRecDepth 20000 in
theorem gX3_run_X3_growPage : GoodIn wsX3_run (wsV RX3 52 RX3 yX3_growPage wsX3_growPage) := goodIn_app (goodIn_of _ (by decide +kernel)) ggX3_run_X3_growPage
theorem dX3_run_0 : decode cX3_run 0 = .ok (.iconst 2, 1) := by decide +kernel
theorem dX3_run_1 : decode cX3_run 1 = .ok (.aload_n 1, 1) := by decide +kernel
theorem dX3_run_2 : decode cX3_run 2 = .ok (.getfield 34, 3) := by decide +kernel
theorem dX3_run_5 : decode cX3_run 5 = .ok (.imul, 1) := by decide +kernel
theorem dX3_run_6 : decode cX3_run 6 = .ok (.istore_n 2, 1) := by decide +kernel
theorem dX3_run_7 : decode cX3_run 7 = .ok (.aload_n 0, 1) := by decide +kernel
theorem dX3_run_8 : decode cX3_run 8 = .ok (.iload_n 2, 1) := by decide +kernel
theorem dX3_run_9 : decode cX3_run 9 = .ok (.invokevirtual 40, 3) := by decide +kernel
theorem dX3_run_12 : decode cX3_run 12 = .ok (.aload_n 0, 1) := by decide +kernel
theorem dX3_run_13 : decode cX3_run 13 = .ok (.getfield 18, 3) := by decide +kernel
theorem dX3_run_16 : decode cX3_run 16 = .ok (.iload_n 2, 1) := by decide +kernel
theorem dX3_run_17 : decode cX3_run 17 = .ok (.iconst 1, 1) := by decide +kernel
theorem dX3_run_18 : decode cX3_run 18 = .ok (.iastore, 1) := by decide +kernel
theorem dX3_run_19 : decode cX3_run 19 = .ok (.aload_n 0, 1) := by decide +kernel
theorem dX3_run_20 : decode cX3_run 20 = .ok (.getfield 25, 3) := by decide +kernel
theorem dX3_run_23 : decode cX3_run 23 = .ok (.iload_n 2, 1) := by decide +kernel
theorem dX3_run_24 : decode cX3_run 24 = .ok (.iconst 1, 1) := by decide +kernel
theorem dX3_run_25 : decode cX3_run 25 = .ok (.iastore, 1) := by decide +kernel
theorem dX3_run_26 : decode cX3_run 26 = .ok (.aload_n 0, 1) := by decide +kernel
theorem dX3_run_27 : decode cX3_run 27 = .ok (.getfield 18, 3) := by decide +kernel
theorem dX3_run_30 : decode cX3_run 30 = .ok (.iload_n 2, 1) := by decide +kernel
theorem dX3_run_31 : decode cX3_run 31 = .ok (.iconst 1, 1) := by decide +kernel
theorem dX3_run_32 : decode cX3_run 32 = .ok (.iadd, 1) := by decide +kernel
theorem dX3_run_33 : decode cX3_run 33 = .ok (.iconst 1, 1) := by decide +kernel
theorem dX3_run_34 : decode cX3_run 34 = .ok (.iastore, 1) := by decide +kernel
theorem dX3_run_35 : decode cX3_run 35 = .ok (.aload_n 0, 1) := by decide +kernel
theorem dX3_run_36 : decode cX3_run 36 = .ok (.getfield 25, 3) := by decide +kernel
theorem dX3_run_39 : decode cX3_run 39 = .ok (.iload_n 2, 1) := by decide +kernel
theorem dX3_run_40 : decode cX3_run 40 = .ok (.iconst 1, 1) := by decide +kernel
theorem dX3_run_41 : decode cX3_run 41 = .ok (.iadd, 1) := by decide +kernel
theorem dX3_run_42 : decode cX3_run 42 = .ok (.iconst 1, 1) := by decide +kernel
theorem dX3_run_43 : decode cX3_run 43 = .ok (.iastore, 1) := by decide +kernel
theorem dX3_run_44 : decode cX3_run 44 = .ok (.aload_n 1, 1) := by decide +kernel
theorem dX3_run_45 : decode cX3_run 45 = .ok (.getfield 34, 3) := by decide +kernel
theorem dX3_run_48 : decode cX3_run 48 = .ok (.iconst 1, 1) := by decide +kernel
theorem dX3_run_49 : decode cX3_run 49 = .ok (.isub, 1) := by decide +kernel
theorem dX3_run_50 : decode cX3_run 50 = .ok (.istore_n 3, 1) := by decide +kernel
theorem dX3_run_51 : decode cX3_run 51 = .ok (.iload_n 3, 1) := by decide +kernel
theorem dX3_run_52 : decode cX3_run 52 = .ok (.ifCond .lt 47, 3) := by decide +kernel
theorem dX3_run_55 : decode cX3_run 55 = .ok (.aload_n 0, 1) := by decide +kernel
theorem dX3_run_56 : decode cX3_run 56 = .ok (.iconst 2, 1) := by decide +kernel
theorem dX3_run_57 : decode cX3_run 57 = .ok (.iload_n 3, 1) := by decide +kernel
theorem dX3_run_58 : decode cX3_run 58 = .ok (.imul, 1) := by decide +kernel
theorem dX3_run_59 : decode cX3_run 59 = .ok (.invokevirtual 40, 3) := by decide +kernel
theorem dX3_run_62 : decode cX3_run 62 = .ok (.aload_n 0, 1) := by decide +kernel
theorem dX3_run_63 : decode cX3_run 63 = .ok (.getfield 12, 3) := by decide +kernel
theorem dX3_run_66 : decode cX3_run 66 = .ok (.aload_n 1, 1) := by decide +kernel
theorem dX3_run_67 : decode cX3_run 67 = .ok (.iload_n 3, 1) := by decide +kernel
theorem dX3_run_68 : decode cX3_run 68 = .ok (.iconst 2, 1) := by decide +kernel
theorem dX3_run_69 : decode cX3_run 69 = .ok (.invokevirtual 44, 3) := by decide +kernel
theorem dX3_run_72 : decode cX3_run 72 = .ok (.ifCond .ne 21, 3) := by decide +kernel
theorem dX3_run_75 : decode cX3_run 75 = .ok (.aload_n 0, 1) := by decide +kernel
theorem dX3_run_76 : decode cX3_run 76 = .ok (.getfield 12, 3) := by decide +kernel
theorem dX3_run_79 : decode cX3_run 79 = .ok (.aload_n 1, 1) := by decide +kernel
theorem dX3_run_80 : decode cX3_run 80 = .ok (.iload_n 3, 1) := by decide +kernel
theorem dX3_run_81 : decode cX3_run 81 = .ok (.iconst 2, 1) := by decide +kernel
theorem dX3_run_82 : decode cX3_run 82 = .ok (.invokevirtual 48, 3) := by decide +kernel
theorem dX3_run_85 : decode cX3_run 85 = .ok (.aload_n 0, 1) := by decide +kernel
theorem dX3_run_86 : decode cX3_run 86 = .ok (.aload_n 1, 1) := by decide +kernel
theorem dX3_run_87 : decode cX3_run 87 = .ok (.iload_n 3, 1) := by decide +kernel
theorem dX3_run_88 : decode cX3_run 88 = .ok (.iload_n 3, 1) := by decide +kernel
theorem dX3_run_89 : decode cX3_run 89 = .ok (.iconst 2, 1) := by decide +kernel
theorem dX3_run_90 : decode cX3_run 90 = .ok (.invokevirtual 52, 3) := by decide +kernel
theorem dX3_run_93 : decode cX3_run 93 = .ok (.iinc 3 (-1), 3) := by decide +kernel
theorem dX3_run_96 : decode cX3_run 96 = .ok (.goto (-45), 3) := by decide +kernel
theorem dX3_run_99 : decode cX3_run 99 = .ok (.return_, 1) := by decide +kernel
theorem dX3_clear_0 : decode cX3_clear 0 = .ok (.iload_n 1, 1) := by decide +kernel
theorem dX3_clear_1 : decode cX3_clear 1 = .ok (.istore_n 2, 1) := by decide +kernel
theorem dX3_clear_2 : decode cX3_clear 2 = .ok (.iload_n 2, 1) := by decide +kernel
theorem dX3_clear_3 : decode cX3_clear 3 = .ok (.iload_n 1, 1) := by decide +kernel
theorem dX3_clear_4 : decode cX3_clear 4 = .ok (.iconst 2, 1) := by decide +kernel
theorem dX3_clear_5 : decode cX3_clear 5 = .ok (.iadd, 1) := by decide +kernel
theorem dX3_clear_6 : decode cX3_clear 6 = .ok (.if_icmp .ge 44, 3) := by decide +kernel
theorem dX3_clear_9 : decode cX3_clear 9 = .ok (.aload_n 0, 1) := by decide +kernel
theorem dX3_clear_10 : decode cX3_clear 10 = .ok (.getfield 18, 3) := by decide +kernel
theorem dX3_clear_13 : decode cX3_clear 13 = .ok (.iload_n 2, 1) := by decide +kernel
theorem dX3_clear_14 : decode cX3_clear 14 = .ok (.iconst 0, 1) := by decide +kernel
theorem dX3_clear_15 : decode cX3_clear 15 = .ok (.iastore, 1) := by decide +kernel
theorem dX3_clear_16 : decode cX3_clear 16 = .ok (.aload_n 0, 1) := by decide +kernel
theorem dX3_clear_17 : decode cX3_clear 17 = .ok (.getfield 22, 3) := by decide +kernel
theorem dX3_clear_20 : decode cX3_clear 20 = .ok (.iload_n 2, 1) := by decide +kernel
theorem dX3_clear_21 : decode cX3_clear 21 = .ok (.iconst 0, 1) := by decide +kernel
theorem dX3_clear_22 : decode cX3_clear 22 = .ok (.iastore, 1) := by decide +kernel
theorem dX3_clear_23 : decode cX3_clear 23 = .ok (.aload_n 0, 1) := by decide +kernel
theorem dX3_clear_24 : decode cX3_clear 24 = .ok (.getfield 25, 3) := by decide +kernel
theorem dX3_clear_27 : decode cX3_clear 27 = .ok (.iload_n 2, 1) := by decide +kernel
theorem dX3_clear_28 : decode cX3_clear 28 = .ok (.iconst 0, 1) := by decide +kernel
theorem dX3_clear_29 : decode cX3_clear 29 = .ok (.iastore, 1) := by decide +kernel
theorem dX3_clear_30 : decode cX3_clear 30 = .ok (.aload_n 0, 1) := by decide +kernel
theorem dX3_clear_31 : decode cX3_clear 31 = .ok (.getfield 28, 3) := by decide +kernel
theorem dX3_clear_34 : decode cX3_clear 34 = .ok (.iload_n 2, 1) := by decide +kernel
theorem dX3_clear_35 : decode cX3_clear 35 = .ok (.iconst 0, 1) := by decide +kernel
theorem dX3_clear_36 : decode cX3_clear 36 = .ok (.iastore, 1) := by decide +kernel
theorem dX3_clear_37 : decode cX3_clear 37 = .ok (.aload_n 0, 1) := by decide +kernel
theorem dX3_clear_38 : decode cX3_clear 38 = .ok (.getfield 31, 3) := by decide +kernel
theorem dX3_clear_41 : decode cX3_clear 41 = .ok (.iload_n 2, 1) := by decide +kernel
theorem dX3_clear_42 : decode cX3_clear 42 = .ok (.iconst 0, 1) := by decide +kernel
theorem dX3_clear_43 : decode cX3_clear 43 = .ok (.iastore, 1) := by decide +kernel
theorem dX3_clear_44 : decode cX3_clear 44 = .ok (.iinc 2 1, 3) := by decide +kernel
theorem dX3_clear_47 : decode cX3_clear 47 = .ok (.goto (-45), 3) := by decide +kernel
theorem dX3_clear_50 : decode cX3_clear 50 = .ok (.return_, 1) := by decide +kernel
set_option maxRecDepth 20000 in
theorem ggX3_growPage_X3_endPage : GoodIn wsX3_growPage wsX3_endPage := goodIn_r _ [7, 2, 1, 8, 9, 10, 11, 12, 13, 14, 15, 16, 17, 18, 19, 20, 21, 22, 23, 24, 25, 26, 27, 28, 29, 30, 31, 32, 33, 34, 6, 35, 36, 37, 85, 86, 87, 88, 89, 90, 78, 79, 80, 81, 82, 83, 84, 91, 92, 93, 94, 95, 96, 97, 98, 99, 100, 101, 102] (by decide +kernel) (by decide +kernel)
set_option maxRecDepth 20000 in
theorem gX3_growPage_X3_endPage : GoodIn wsX3_growPage (wsV RX3 56 RX3 yX3_endPage wsX3_endPage) := goodIn_app (goodIn_of _ (by decide +kernel)) ggX3_growPage_X3_endPage
set_option maxRecDepth 20000 in
theorem ggX3_growPage_X1_whyNot : GoodIn wsX3_growPage wsX1_whyNot := goodIn_r _ [41, 42, 17, 43, 44, 45, 24, 46, 26, 47, 28, 29, 30, 21, 22, 23, 25, 48, 49, 50, 15, 51, 52, 18, 19, 53, 54, 55, 56, 91, 92, 93, 94, 95, 96, 97, 98, 99, 100, 101, 102, 78, 79, 80, 81, 82, 83, 84] (by decide +kernel) (by decide +kernel)
set_option maxRecDepth 20000 in
theorem gX3_growPage_X1_whyNot : GoodIn wsX3_growPage (wsV RX3 44 RX1 yX1_whyNot wsX1_whyNot) := goodIn_app (goodIn_of _ (by decide +kernel)) ggX3_growPage_X1_whyNot
set_option maxRecDepth 20000 in
theorem ggX3_growPage_X1_put : GoodIn wsX3_growPage wsX1_put := goodIn_r _ [60, 61, 62, 63, 64, 15, 65, 66, 42, 18, 19, 52, 20, 67, 68, 69, 70, 71, 72, 73, 74, 53, 54, 55, 56, 91, 92, 93, 94, 95, 96, 97, 98, 99, 100, 101, 102, 78, 79, 80, 81, 82, 83, 84] (by decide +kernel) (by decide +kernel)
set_option maxRecDepth 20000 in
theorem gX3_growPage_X1_put : GoodIn wsX3_growPage (wsV RX3 48 RX1 yX1_put wsX1_put) := goodIn_app (goodIn_of _ (by decide +kernel)) ggX3_growPage_X1_put
set_option maxRecDepth 20000 in
theorem ggX3_growPage_X3_growPage : GoodIn wsX3_growPage wsX3_growPage := goodIn_r _ [0, 1, 2, 3, 4, 5, 6, 7, 8, 9, 10, 11, 12, 13, 14, 15, 16, 17, 18, 19, 20, 21, 22, 23, 24, 25, 26, 27, 28, 29, 30, 31, 32, 33, 34, 35, 36, 37, 38, 39, 40, 41, 42, 43, 44, 45, 46, 47, 48, 49, 50, 51, 52, 53, 54, 55, 56, 57, 58, 59, 60, 61, 62, 63, 64, 65, 66, 67, 68, 69, 70, 71, 72, 73, 74, 75, 76, 77, 78, 79, 80, 81, 82, 83, 84, 85, 86, 87, 88, 89, 90, 91, 92, 93, 94, 95, 96, 97, 98, 99, 100, 101, 102] (by decide +kernel) (by decide +kernel)
set_option maxRecDepth 20000 in
theorem gX3_growPage_X3_growPage : GoodIn wsX3_growPage (wsV RX3 52 RX3 yX3_growPage wsX3_growPage) := goodIn_app (goodIn_of _ (by decide +kernel)) ggX3_growPage_X3_growPage
theorem dX3_growPage_0 : decode cX3_growPage 0 = .ok (.aload_n 0, 1) := by decide +kernel
theorem dX3_growPage_1 : decode cX3_growPage 1 = .ok (.aload_n 1, 1) := by decide +kernel
theorem dX3_growPage_2 : decode cX3_growPage 2 = .ok (.iload_n 2, 1) := by decide +kernel
theorem dX3_growPage_3 : decode cX3_growPage 3 = .ok (.iload_n 3, 1) := by decide +kernel
theorem dX3_growPage_4 : decode cX3_growPage 4 = .ok (.iload 4, 2) := by decide +kernel
theorem dX3_growPage_6 : decode cX3_growPage 6 = .ok (.invokevirtual 56, 3) := by decide +kernel
theorem dX3_growPage_9 : decode cX3_growPage 9 = .ok (.iload_n 3, 1) := by decide +kernel
theorem dX3_growPage_10 : decode cX3_growPage 10 = .ok (.iconst 1, 1) := by decide +kernel
theorem dX3_growPage_11 : decode cX3_growPage 11 = .ok (.iadd, 1) := by decide +kernel
theorem dX3_growPage_12 : decode cX3_growPage 12 = .ok (.istore 5, 2) := by decide +kernel
theorem dX3_growPage_14 : decode cX3_growPage 14 = .ok (.iload 5, 2) := by decide +kernel
theorem dX3_growPage_16 : decode cX3_growPage 16 = .ok (.aload_n 1, 1) := by decide +kernel
theorem dX3_growPage_17 : decode cX3_growPage 17 = .ok (.getfield 34, 3) := by decide +kernel
theorem dX3_growPage_20 : decode cX3_growPage 20 = .ok (.if_icmp .lt 4, 3) := by decide +kernel
theorem dX3_growPage_23 : decode cX3_growPage 23 = .ok (.return_, 1) := by decide +kernel
theorem dX3_growPage_24 : decode cX3_growPage 24 = .ok (.iconst 0, 1) := by decide +kernel
theorem dX3_growPage_25 : decode cX3_growPage 25 = .ok (.istore 6, 2) := by decide +kernel
theorem dX3_growPage_27 : decode cX3_growPage 27 = .ok (.iload 6, 2) := by decide +kernel
theorem dX3_growPage_29 : decode cX3_growPage 29 = .ok (.iconst 1, 1) := by decide +kernel
theorem dX3_growPage_30 : decode cX3_growPage 30 = .ok (.if_icmp .gt 51, 3) := by decide +kernel
theorem dX3_growPage_33 : decode cX3_growPage 33 = .ok (.aload_n 0, 1) := by decide +kernel
theorem dX3_growPage_34 : decode cX3_growPage 34 = .ok (.getfield 12, 3) := by decide +kernel
theorem dX3_growPage_37 : decode cX3_growPage 37 = .ok (.aload_n 1, 1) := by decide +kernel
theorem dX3_growPage_38 : decode cX3_growPage 38 = .ok (.iload 5, 2) := by decide +kernel
theorem dX3_growPage_40 : decode cX3_growPage 40 = .ok (.iload 6, 2) := by decide +kernel
theorem dX3_growPage_42 : decode cX3_growPage 42 = .ok (.invokevirtual 44, 3) := by decide +kernel
theorem dX3_growPage_45 : decode cX3_growPage 45 = .ok (.ifCond .ne 30, 3) := by decide +kernel
theorem dX3_growPage_48 : decode cX3_growPage 48 = .ok (.aload_n 0, 1) := by decide +kernel
theorem dX3_growPage_49 : decode cX3_growPage 49 = .ok (.getfield 12, 3) := by decide +kernel
theorem dX3_growPage_52 : decode cX3_growPage 52 = .ok (.aload_n 1, 1) := by decide +kernel
theorem dX3_growPage_53 : decode cX3_growPage 53 = .ok (.iload 5, 2) := by decide +kernel
theorem dX3_growPage_55 : decode cX3_growPage 55 = .ok (.iload 6, 2) := by decide +kernel
theorem dX3_growPage_57 : decode cX3_growPage 57 = .ok (.invokevirtual 48, 3) := by decide +kernel
theorem dX3_growPage_60 : decode cX3_growPage 60 = .ok (.aload_n 0, 1) := by decide +kernel
theorem dX3_growPage_61 : decode cX3_growPage 61 = .ok (.aload_n 1, 1) := by decide +kernel
theorem dX3_growPage_62 : decode cX3_growPage 62 = .ok (.iload_n 2, 1) := by decide +kernel
theorem dX3_growPage_63 : decode cX3_growPage 63 = .ok (.iload 5, 2) := by decide +kernel
theorem dX3_growPage_65 : decode cX3_growPage 65 = .ok (.iload 4, 2) := by decide +kernel
theorem dX3_growPage_67 : decode cX3_growPage 67 = .ok (.iconst 2, 1) := by decide +kernel
theorem dX3_growPage_68 : decode cX3_growPage 68 = .ok (.ishl, 1) := by decide +kernel
theorem dX3_growPage_69 : decode cX3_growPage 69 = .ok (.iload 6, 2) := by decide +kernel
theorem dX3_growPage_71 : decode cX3_growPage 71 = .ok (.ior, 1) := by decide +kernel
theorem dX3_growPage_72 : decode cX3_growPage 72 = .ok (.invokevirtual 52, 3) := by decide +kernel
theorem dX3_growPage_75 : decode cX3_growPage 75 = .ok (.iinc 6 1, 3) := by decide +kernel
theorem dX3_growPage_78 : decode cX3_growPage 78 = .ok (.goto (-51), 3) := by decide +kernel
theorem dX3_growPage_81 : decode cX3_growPage 81 = .ok (.return_, 1) := by decide +kernel
set_option maxRecDepth 20000 in
theorem ggX3_endPage_X1_raggedOfPage : GoodIn wsX3_endPage wsX1_raggedOfPage := goodIn_r _ [11, 12, 13, 14, 15, 16, 17, 18, 19, 20, 21, 40, 41, 42, 43, 44, 45, 46, 47, 48, 49, 50, 51, 52, 53, 54, 55, 56, 57, 58] (by decide +kernel) (by decide +kernel)
set_option maxRecDepth 20000 in
theorem gX3_endPage_X1_raggedOfPage : GoodIn wsX3_endPage (wsV RX3 59 RX1 yX1_raggedOfPage wsX1_raggedOfPage) := goodIn_app (goodIn_of _ (by decide +kernel)) ggX3_endPage_X1_raggedOfPage
set_option maxRecDepth 20000 in
theorem ggX3_endPage_X0_wantsLeftPage : GoodIn wsX3_endPage wsX0_wantsLeftPage := goodIn_r _ [25, 21, 40, 41, 42, 43, 44, 45, 46] (by decide +kernel) (by decide +kernel)
set_option maxRecDepth 20000 in
theorem gX3_endPage_X0_wantsLeftPage : GoodIn wsX3_endPage (wsV RX3 63 RX0 yX0_wantsLeftPage wsX0_wantsLeftPage) := goodIn_app (goodIn_of _ (by decide +kernel)) ggX3_endPage_X0_wantsLeftPage
set_option maxRecDepth 20000 in
theorem ggX3_endPage_X0_isSpread : GoodIn wsX3_endPage wsX0_isSpread := goodIn_r _ [20, 21, 40, 41, 42, 43, 44, 45, 46] (by decide +kernel) (by decide +kernel)
set_option maxRecDepth 20000 in
theorem gX3_endPage_X0_isSpread : GoodIn wsX3_endPage (wsV RX3 67 RX0 yX0_isSpread wsX0_isSpread) := goodIn_app (goodIn_of _ (by decide +kernel)) ggX3_endPage_X0_isSpread
set_option maxRecDepth 20000 in
theorem ggX3_endPage_X3_offer : GoodIn wsX3_endPage wsX3_offer := goodIn_r _ [31, 32, 5, 4, 6, 33, 34, 35, 36, 37, 38, 39] (by decide +kernel) (by decide +kernel)
set_option maxRecDepth 20000 in
theorem gX3_endPage_X3_offer : GoodIn wsX3_endPage (wsV RX3 73 RX3 yX3_offer wsX3_offer) := goodIn_app (goodIn_of _ (by decide +kernel)) ggX3_endPage_X3_offer
theorem dX3_endPage_0 : decode cX3_endPage 0 = .ok (.aload_n 0, 1) := by decide +kernel
theorem dX3_endPage_1 : decode cX3_endPage 1 = .ok (.getfield 12, 3) := by decide +kernel
theorem dX3_endPage_4 : decode cX3_endPage 4 = .ok (.aload_n 1, 1) := by decide +kernel
theorem dX3_endPage_5 : decode cX3_endPage 5 = .ok (.iload_n 3, 1) := by decide +kernel
theorem dX3_endPage_6 : decode cX3_endPage 6 = .ok (.invokevirtual 59, 3) := by decide +kernel
theorem dX3_endPage_9 : decode cX3_endPage 9 = .ok (.istore 5, 2) := by decide +kernel
theorem dX3_endPage_11 : decode cX3_endPage 11 = .ok (.iload 4, 2) := by decide +kernel
theorem dX3_endPage_13 : decode cX3_endPage 13 = .ok (.iconst 2, 1) := by decide +kernel
theorem dX3_endPage_14 : decode cX3_endPage 14 = .ok (.aload_n 1, 1) := by decide +kernel
theorem dX3_endPage_15 : decode cX3_endPage 15 = .ok (.getfield 34, 3) := by decide +kernel
theorem dX3_endPage_18 : decode cX3_endPage 18 = .ok (.iconst 1, 1) := by decide +kernel
theorem dX3_endPage_19 : decode cX3_endPage 19 = .ok (.isub, 1) := by decide +kernel
theorem dX3_endPage_20 : decode cX3_endPage 20 = .ok (.iload_n 3, 1) := by decide +kernel
theorem dX3_endPage_21 : decode cX3_endPage 21 = .ok (.isub, 1) := by decide +kernel
theorem dX3_endPage_22 : decode cX3_endPage 22 = .ok (.imul, 1) := by decide +kernel
theorem dX3_endPage_23 : decode cX3_endPage 23 = .ok (.ishl, 1) := by decide +kernel
theorem dX3_endPage_24 : decode cX3_endPage 24 = .ok (.istore 6, 2) := by decide +kernel
theorem dX3_endPage_26 : decode cX3_endPage 26 = .ok (.iconst 0, 1) := by decide +kernel
theorem dX3_endPage_27 : decode cX3_endPage 27 = .ok (.istore 7, 2) := by decide +kernel
theorem dX3_endPage_29 : decode cX3_endPage 29 = .ok (.iload 7, 2) := by decide +kernel
theorem dX3_endPage_31 : decode cX3_endPage 31 = .ok (.iconst 1, 1) := by decide +kernel
theorem dX3_endPage_32 : decode cX3_endPage 32 = .ok (.if_icmp .gt 121, 3) := by decide +kernel
theorem dX3_endPage_35 : decode cX3_endPage 35 = .ok (.iload 7, 2) := by decide +kernel
theorem dX3_endPage_37 : decode cX3_endPage 37 = .ok (.ifCond .ne 15, 3) := by decide +kernel
theorem dX3_endPage_40 : decode cX3_endPage 40 = .ok (.aload_n 1, 1) := by decide +kernel
theorem dX3_endPage_41 : decode cX3_endPage 41 = .ok (.iload_n 2, 1) := by decide +kernel
theorem dX3_endPage_42 : decode cX3_endPage 42 = .ok (.invokevirtual 63, 3) := by decide +kernel
theorem dX3_endPage_45 : decode cX3_endPage 45 = .ok (.ifCond .eq 7, 3) := by decide +kernel
theorem dX3_endPage_48 : decode cX3_endPage 48 = .ok (.iconst 1, 1) := by decide +kernel
theorem dX3_endPage_49 : decode cX3_endPage 49 = .ok (.goto 4, 3) := by decide +kernel
theorem dX3_endPage_52 : decode cX3_endPage 52 = .ok (.iconst 0, 1) := by decide +kernel
theorem dX3_endPage_53 : decode cX3_endPage 53 = .ok (.istore 8, 2) := by decide +kernel
theorem dX3_endPage_55 : decode cX3_endPage 55 = .ok (.iload 8, 2) := by decide +kernel
theorem dX3_endPage_57 : decode cX3_endPage 57 = .ok (.aload_n 1, 1) := by decide +kernel
theorem dX3_endPage_58 : decode cX3_endPage 58 = .ok (.iload_n 2, 1) := by decide +kernel
theorem dX3_endPage_59 : decode cX3_endPage 59 = .ok (.invokevirtual 67, 3) := by decide +kernel
theorem dX3_endPage_62 : decode cX3_endPage 62 = .ok (.ifCond .eq 7, 3) := by decide +kernel
theorem dX3_endPage_65 : decode cX3_endPage 65 = .ok (.iconst 2, 1) := by decide +kernel
theorem dX3_endPage_66 : decode cX3_endPage 66 = .ok (.goto 4, 3) := by decide +kernel
theorem dX3_endPage_69 : decode cX3_endPage 69 = .ok (.iconst 1, 1) := by decide +kernel
theorem dX3_endPage_70 : decode cX3_endPage 70 = .ok (.iadd, 1) := by decide +kernel
theorem dX3_endPage_71 : decode cX3_endPage 71 = .ok (.istore 9, 2) := by decide +kernel
theorem dX3_endPage_73 : decode cX3_endPage 73 = .ok (.iconst 2, 1) := by decide +kernel
theorem dX3_endPage_74 : decode cX3_endPage 74 = .ok (.iload_n 3, 1) := by decide +kernel
theorem dX3_endPage_75 : decode cX3_endPage 75 = .ok (.iconst 1, 1) := by decide +kernel
theorem dX3_endPage_76 : decode cX3_endPage 76 = .ok (.iadd, 1) := by decide +kernel
theorem dX3_endPage_77 : decode cX3_endPage 77 = .ok (.imul, 1) := by decide +kernel
theorem dX3_endPage_78 : decode cX3_endPage 78 = .ok (.iload 7, 2) := by decide +kernel
theorem dX3_endPage_80 : decode cX3_endPage 80 = .ok (.iload 9, 2) := by decide +kernel
theorem dX3_endPage_82 : decode cX3_endPage 82 = .ok (.iadd, 1) := by decide +kernel
theorem dX3_endPage_83 : decode cX3_endPage 83 = .ok (.iconst 2, 1) := by decide +kernel
theorem dX3_endPage_84 : decode cX3_endPage 84 = .ok (.irem, 1) := by decide +kernel
theorem dX3_endPage_85 : decode cX3_endPage 85 = .ok (.iadd, 1) := by decide +kernel
theorem dX3_endPage_86 : decode cX3_endPage 86 = .ok (.istore 10, 2) := by decide +kernel
theorem dX3_endPage_88 : decode cX3_endPage 88 = .ok (.iload 5, 2) := by decide +kernel
theorem dX3_endPage_90 : decode cX3_endPage 90 = .ok (.iload 8, 2) := by decide +kernel
theorem dX3_endPage_92 : decode cX3_endPage 92 = .ok (.aload_n 1, 1) := by decide +kernel
theorem dX3_endPage_93 : decode cX3_endPage 93 = .ok (.getfield 70, 3) := by decide +kernel
theorem dX3_endPage_96 : decode cX3_endPage 96 = .ok (.imul, 1) := by decide +kernel
theorem dX3_endPage_97 : decode cX3_endPage 97 = .ok (.aload_n 1, 1) := by decide +kernel
theorem dX3_endPage_98 : decode cX3_endPage 98 = .ok (.getfield 70, 3) := by decide +kernel
theorem dX3_endPage_101 : decode cX3_endPage 101 = .ok (.imul, 1) := by decide +kernel
theorem dX3_endPage_102 : decode cX3_endPage 102 = .ok (.iadd, 1) := by decide +kernel
theorem dX3_endPage_103 : decode cX3_endPage 103 = .ok (.aload_n 0, 1) := by decide +kernel
theorem dX3_endPage_104 : decode cX3_endPage 104 = .ok (.getfield 28, 3) := by decide +kernel
theorem dX3_endPage_107 : decode cX3_endPage 107 = .ok (.iload 10, 2) := by decide +kernel
theorem dX3_endPage_109 : decode cX3_endPage 109 = .ok (.iaload, 1) := by decide +kernel
theorem dX3_endPage_110 : decode cX3_endPage 110 = .ok (.iadd, 1) := by decide +kernel
theorem dX3_endPage_111 : decode cX3_endPage 111 = .ok (.istore 11, 2) := by decide +kernel
theorem dX3_endPage_113 : decode cX3_endPage 113 = .ok (.aload_n 0, 1) := by decide +kernel
theorem dX3_endPage_114 : decode cX3_endPage 114 = .ok (.iconst 2, 1) := by decide +kernel
theorem dX3_endPage_115 : decode cX3_endPage 115 = .ok (.iload_n 2, 1) := by decide +kernel
theorem dX3_endPage_116 : decode cX3_endPage 116 = .ok (.imul, 1) := by decide +kernel
theorem dX3_endPage_117 : decode cX3_endPage 117 = .ok (.iload 7, 2) := by decide +kernel
theorem dX3_endPage_119 : decode cX3_endPage 119 = .ok (.iadd, 1) := by decide +kernel
theorem dX3_endPage_120 : decode cX3_endPage 120 = .ok (.iload 10, 2) := by decide +kernel
theorem dX3_endPage_122 : decode cX3_endPage 122 = .ok (.iload 9, 2) := by decide +kernel
theorem dX3_endPage_124 : decode cX3_endPage 124 = .ok (.aload_n 0, 1) := by decide +kernel
theorem dX3_endPage_125 : decode cX3_endPage 125 = .ok (.getfield 22, 3) := by decide +kernel
theorem dX3_endPage_128 : decode cX3_endPage 128 = .ok (.iload 10, 2) := by decide +kernel
theorem dX3_endPage_130 : decode cX3_endPage 130 = .ok (.iaload, 1) := by decide +kernel
theorem dX3_endPage_131 : decode cX3_endPage 131 = .ok (.iadd, 1) := by decide +kernel
theorem dX3_endPage_132 : decode cX3_endPage 132 = .ok (.iload 11, 2) := by decide +kernel
theorem dX3_endPage_134 : decode cX3_endPage 134 = .ok (.iload 6, 2) := by decide +kernel
theorem dX3_endPage_136 : decode cX3_endPage 136 = .ok (.aload_n 0, 1) := by decide +kernel
theorem dX3_endPage_137 : decode cX3_endPage 137 = .ok (.getfield 31, 3) := by decide +kernel
theorem dX3_endPage_140 : decode cX3_endPage 140 = .ok (.iload 10, 2) := by decide +kernel
theorem dX3_endPage_142 : decode cX3_endPage 142 = .ok (.iaload, 1) := by decide +kernel
theorem dX3_endPage_143 : decode cX3_endPage 143 = .ok (.ior, 1) := by decide +kernel
theorem dX3_endPage_144 : decode cX3_endPage 144 = .ok (.invokevirtual 73, 3) := by decide +kernel
theorem dX3_endPage_147 : decode cX3_endPage 147 = .ok (.iinc 7 1, 3) := by decide +kernel
theorem dX3_endPage_150 : decode cX3_endPage 150 = .ok (.goto (-121), 3) := by decide +kernel
theorem dX3_endPage_153 : decode cX3_endPage 153 = .ok (.return_, 1) := by decide +kernel
theorem dX3_offer_0 : decode cX3_offer 0 = .ok (.aload_n 0, 1) := by decide +kernel
theorem dX3_offer_1 : decode cX3_offer 1 = .ok (.getfield 18, 3) := by decide +kernel
theorem dX3_offer_4 : decode cX3_offer 4 = .ok (.iload_n 2, 1) := by decide +kernel
theorem dX3_offer_5 : decode cX3_offer 5 = .ok (.iaload, 1) := by decide +kernel
theorem dX3_offer_6 : decode cX3_offer 6 = .ok (.ifCond .ne 4, 3) := by decide +kernel
theorem dX3_offer_9 : decode cX3_offer 9 = .ok (.return_, 1) := by decide +kernel
theorem dX3_offer_10 : decode cX3_offer 10 = .ok (.aload_n 0, 1) := by decide +kernel
theorem dX3_offer_11 : decode cX3_offer 11 = .ok (.getfield 18, 3) := by decide +kernel
theorem dX3_offer_14 : decode cX3_offer 14 = .ok (.iload_n 1, 1) := by decide +kernel
theorem dX3_offer_15 : decode cX3_offer 15 = .ok (.iaload, 1) := by decide +kernel
theorem dX3_offer_16 : decode cX3_offer 16 = .ok (.ifCond .eq 13, 3) := by decide +kernel
theorem dX3_offer_19 : decode cX3_offer 19 = .ok (.iload_n 3, 1) := by decide +kernel
theorem dX3_offer_20 : decode cX3_offer 20 = .ok (.aload_n 0, 1) := by decide +kernel
theorem dX3_offer_21 : decode cX3_offer 21 = .ok (.getfield 22, 3) := by decide +kernel
theorem dX3_offer_24 : decode cX3_offer 24 = .ok (.iload_n 1, 1) := by decide +kernel
theorem dX3_offer_25 : decode cX3_offer 25 = .ok (.iaload, 1) := by decide +kernel
theorem dX3_offer_26 : decode cX3_offer 26 = .ok (.if_icmp .ge 7, 3) := by decide +kernel
theorem dX3_offer_29 : decode cX3_offer 29 = .ok (.iconst 1, 1) := by decide +kernel
theorem dX3_offer_30 : decode cX3_offer 30 = .ok (.goto 4, 3) := by decide +kernel
theorem dX3_offer_33 : decode cX3_offer 33 = .ok (.iconst 0, 1) := by decide +kernel
theorem dX3_offer_34 : decode cX3_offer 34 = .ok (.istore 6, 2) := by decide +kernel
theorem dX3_offer_36 : decode cX3_offer 36 = .ok (.iload 6, 2) := by decide +kernel
theorem dX3_offer_38 : decode cX3_offer 38 = .ok (.ifCond .ne 17, 3) := by decide +kernel
theorem dX3_offer_41 : decode cX3_offer 41 = .ok (.iload_n 3, 1) := by decide +kernel
theorem dX3_offer_42 : decode cX3_offer 42 = .ok (.aload_n 0, 1) := by decide +kernel
theorem dX3_offer_43 : decode cX3_offer 43 = .ok (.getfield 22, 3) := by decide +kernel
theorem dX3_offer_46 : decode cX3_offer 46 = .ok (.iload_n 1, 1) := by decide +kernel
theorem dX3_offer_47 : decode cX3_offer 47 = .ok (.iaload, 1) := by decide +kernel
theorem dX3_offer_48 : decode cX3_offer 48 = .ok (.if_icmp .ne 7, 3) := by decide +kernel
theorem dX3_offer_51 : decode cX3_offer 51 = .ok (.iconst 1, 1) := by decide +kernel
theorem dX3_offer_52 : decode cX3_offer 52 = .ok (.goto 4, 3) := by decide +kernel
theorem dX3_offer_55 : decode cX3_offer 55 = .ok (.iconst 0, 1) := by decide +kernel
theorem dX3_offer_56 : decode cX3_offer 56 = .ok (.istore 7, 2) := by decide +kernel
theorem dX3_offer_58 : decode cX3_offer 58 = .ok (.iload 7, 2) := by decide +kernel
theorem dX3_offer_60 : decode cX3_offer 60 = .ok (.ifCond .eq 40, 3) := by decide +kernel
theorem dX3_offer_63 : decode cX3_offer 63 = .ok (.iload 4, 2) := by decide +kernel
theorem dX3_offer_65 : decode cX3_offer 65 = .ok (.aload_n 0, 1) := by decide +kernel
theorem dX3_offer_66 : decode cX3_offer 66 = .ok (.getfield 28, 3) := by decide +kernel
theorem dX3_offer_69 : decode cX3_offer 69 = .ok (.iload_n 1, 1) := by decide +kernel
theorem dX3_offer_70 : decode cX3_offer 70 = .ok (.iaload, 1) := by decide +kernel
theorem dX3_offer_71 : decode cX3_offer 71 = .ok (.if_icmp .lt 25, 3) := by decide +kernel
theorem dX3_offer_74 : decode cX3_offer 74 = .ok (.iload 4, 2) := by decide +kernel
theorem dX3_offer_76 : decode cX3_offer 76 = .ok (.aload_n 0, 1) := by decide +kernel
theorem dX3_offer_77 : decode cX3_offer 77 = .ok (.getfield 28, 3) := by decide +kernel
theorem dX3_offer_80 : decode cX3_offer 80 = .ok (.iload_n 1, 1) := by decide +kernel
theorem dX3_offer_81 : decode cX3_offer 81 = .ok (.iaload, 1) := by decide +kernel
theorem dX3_offer_82 : decode cX3_offer 82 = .ok (.if_icmp .ne 18, 3) := by decide +kernel
theorem dX3_offer_85 : decode cX3_offer 85 = .ok (.iload 5, 2) := by decide +kernel
theorem dX3_offer_87 : decode cX3_offer 87 = .ok (.aload_n 0, 1) := by decide +kernel
theorem dX3_offer_88 : decode cX3_offer 88 = .ok (.getfield 31, 3) := by decide +kernel
theorem dX3_offer_91 : decode cX3_offer 91 = .ok (.iload_n 1, 1) := by decide +kernel
theorem dX3_offer_92 : decode cX3_offer 92 = .ok (.iaload, 1) := by decide +kernel
theorem dX3_offer_93 : decode cX3_offer 93 = .ok (.if_icmp .ge 7, 3) := by decide +kernel
theorem dX3_offer_96 : decode cX3_offer 96 = .ok (.iconst 1, 1) := by decide +kernel
theorem dX3_offer_97 : decode cX3_offer 97 = .ok (.goto 4, 3) := by decide +kernel
theorem dX3_offer_100 : decode cX3_offer 100 = .ok (.iconst 0, 1) := by decide +kernel
theorem dX3_offer_101 : decode cX3_offer 101 = .ok (.istore 8, 2) := by decide +kernel
theorem dX3_offer_103 : decode cX3_offer 103 = .ok (.aload_n 0, 1) := by decide +kernel
theorem dX3_offer_104 : decode cX3_offer 104 = .ok (.getfield 18, 3) := by decide +kernel
theorem dX3_offer_107 : decode cX3_offer 107 = .ok (.iload_n 1, 1) := by decide +kernel
theorem dX3_offer_108 : decode cX3_offer 108 = .ok (.dup2, 1) := by decide +kernel
theorem dX3_offer_109 : decode cX3_offer 109 = .ok (.iaload, 1) := by decide +kernel
theorem dX3_offer_110 : decode cX3_offer 110 = .ok (.aload_n 0, 1) := by decide +kernel
theorem dX3_offer_111 : decode cX3_offer 111 = .ok (.getfield 18, 3) := by decide +kernel
theorem dX3_offer_114 : decode cX3_offer 114 = .ok (.iload_n 2, 1) := by decide +kernel
theorem dX3_offer_115 : decode cX3_offer 115 = .ok (.iaload, 1) := by decide +kernel
theorem dX3_offer_116 : decode cX3_offer 116 = .ok (.iadd, 1) := by decide +kernel
theorem dX3_offer_117 : decode cX3_offer 117 = .ok (.iastore, 1) := by decide +kernel
theorem dX3_offer_118 : decode cX3_offer 118 = .ok (.iload 6, 2) := by decide +kernel
theorem dX3_offer_120 : decode cX3_offer 120 = .ok (.ifCond .eq 18, 3) := by decide +kernel
theorem dX3_offer_123 : decode cX3_offer 123 = .ok (.aload_n 0, 1) := by decide +kernel
theorem dX3_offer_124 : decode cX3_offer 124 = .ok (.getfield 25, 3) := by decide +kernel
theorem dX3_offer_127 : decode cX3_offer 127 = .ok (.iload_n 1, 1) := by decide +kernel
theorem dX3_offer_128 : decode cX3_offer 128 = .ok (.aload_n 0, 1) := by decide +kernel
theorem dX3_offer_129 : decode cX3_offer 129 = .ok (.getfield 25, 3) := by decide +kernel
theorem dX3_offer_132 : decode cX3_offer 132 = .ok (.iload_n 2, 1) := by decide +kernel
theorem dX3_offer_133 : decode cX3_offer 133 = .ok (.iaload, 1) := by decide +kernel
theorem dX3_offer_134 : decode cX3_offer 134 = .ok (.iastore, 1) := by decide +kernel
theorem dX3_offer_135 : decode cX3_offer 135 = .ok (.goto 23, 3) := by decide +kernel
theorem dX3_offer_138 : decode cX3_offer 138 = .ok (.iload 7, 2) := by decide +kernel
theorem dX3_offer_140 : decode cX3_offer 140 = .ok (.ifCond .eq 18, 3) := by decide +kernel
theorem dX3_offer_143 : decode cX3_offer 143 = .ok (.aload_n 0, 1) := by decide +kernel
theorem dX3_offer_144 : decode cX3_offer 144 = .ok (.getfield 25, 3) := by decide +kernel
theorem dX3_offer_147 : decode cX3_offer 147 = .ok (.iload_n 1, 1) := by decide +kernel
theorem dX3_offer_148 : decode cX3_offer 148 = .ok (.dup2, 1) := by decide +kernel
theorem dX3_offer_149 : decode cX3_offer 149 = .ok (.iaload, 1) := by decide +kernel
theorem dX3_offer_150 : decode cX3_offer 150 = .ok (.aload_n 0, 1) := by decide +kernel
theorem dX3_offer_151 : decode cX3_offer 151 = .ok (.getfield 25, 3) := by decide +kernel
theorem dX3_offer_154 : decode cX3_offer 154 = .ok (.iload_n 2, 1) := by decide +kernel
theorem dX3_offer_155 : decode cX3_offer 155 = .ok (.iaload, 1) := by decide +kernel
theorem dX3_offer_156 : decode cX3_offer 156 = .ok (.iadd, 1) := by decide +kernel
theorem dX3_offer_157 : decode cX3_offer 157 = .ok (.iastore, 1) := by decide +kernel
theorem dX3_offer_158 : decode cX3_offer 158 = .ok (.iload 6, 2) := by decide +kernel
theorem dX3_offer_160 : decode cX3_offer 160 = .ok (.ifCond .ne 8, 3) := by decide +kernel
theorem dX3_offer_163 : decode cX3_offer 163 = .ok (.iload 8, 2) := by decide +kernel
theorem dX3_offer_165 : decode cX3_offer 165 = .ok (.ifCond .eq 26, 3) := by decide +kernel
theorem dX3_offer_168 : decode cX3_offer 168 = .ok (.aload_n 0, 1) := by decide +kernel
theorem dX3_offer_169 : decode cX3_offer 169 = .ok (.getfield 22, 3) := by decide +kernel
theorem dX3_offer_172 : decode cX3_offer 172 = .ok (.iload_n 1, 1) := by decide +kernel
theorem dX3_offer_173 : decode cX3_offer 173 = .ok (.iload_n 3, 1) := by decide +kernel
theorem dX3_offer_174 : decode cX3_offer 174 = .ok (.iastore, 1) := by decide +kernel
theorem dX3_offer_175 : decode cX3_offer 175 = .ok (.aload_n 0, 1) := by decide +kernel
theorem dX3_offer_176 : decode cX3_offer 176 = .ok (.getfield 28, 3) := by decide +kernel
theorem dX3_offer_179 : decode cX3_offer 179 = .ok (.iload_n 1, 1) := by decide +kernel
theorem dX3_offer_180 : decode cX3_offer 180 = .ok (.iload 4, 2) := by decide +kernel
theorem dX3_offer_182 : decode cX3_offer 182 = .ok (.iastore, 1) := by decide +kernel
theorem dX3_offer_183 : decode cX3_offer 183 = .ok (.aload_n 0, 1) := by decide +kernel
theorem dX3_offer_184 : decode cX3_offer 184 = .ok (.getfield 31, 3) := by decide +kernel
theorem dX3_offer_187 : decode cX3_offer 187 = .ok (.iload_n 1, 1) := by decide +kernel
theorem dX3_offer_188 : decode cX3_offer 188 = .ok (.iload 5, 2) := by decide +kernel
theorem dX3_offer_190 : decode cX3_offer 190 = .ok (.iastore, 1) := by decide +kernel
theorem dX3_offer_191 : decode cX3_offer 191 = .ok (.return_, 1) := by decide +kernel
theorem dX4_init_0 : decode cX4_init 0 = .ok (.aload_n 0, 1) := by decide +kernel
theorem dX4_init_1 : decode cX4_init 1 = .ok (.invokespecial 3, 3) := by decide +kernel
theorem dX4_init_4 : decode cX4_init 4 = .ok (.aload_n 0, 1) := by decide +kernel
theorem dX4_init_5 : decode cX4_init 5 = .ok (.iconst 4, 1) := by decide +kernel
theorem dX4_init_6 : decode cX4_init 6 = .ok (.newarray .int, 2) := by decide +kernel
theorem dX4_init_8 : decode cX4_init 8 = .ok (.putfield 9, 3) := by decide +kernel
theorem dX4_init_11 : decode cX4_init 11 = .ok (.aload_n 0, 1) := by decide +kernel
theorem dX4_init_12 : decode cX4_init 12 = .ok (.iconst 4, 1) := by decide +kernel
theorem dX4_init_13 : decode cX4_init 13 = .ok (.newarray .int, 2) := by decide +kernel
theorem dX4_init_15 : decode cX4_init 15 = .ok (.putfield 15, 3) := by decide +kernel
theorem dX4_init_18 : decode cX4_init 18 = .ok (.aload_n 0, 1) := by decide +kernel
theorem dX4_init_19 : decode cX4_init 19 = .ok (.iconst 0, 1) := by decide +kernel
theorem dX4_init_20 : decode cX4_init 20 = .ok (.putfield 18, 3) := by decide +kernel
theorem dX4_init_23 : decode cX4_init 23 = .ok (.aload_n 0, 1) := by decide +kernel
theorem dX4_init_24 : decode cX4_init 24 = .ok (.iconst 0, 1) := by decide +kernel
theorem dX4_init_25 : decode cX4_init 25 = .ok (.putfield 22, 3) := by decide +kernel
theorem dX4_init_28 : decode cX4_init 28 = .ok (.aload_n 0, 1) := by decide +kernel
theorem dX4_init_29 : decode cX4_init 29 = .ok (.iconst 0, 1) := by decide +kernel
theorem dX4_init_30 : decode cX4_init 30 = .ok (.putfield 25, 3) := by decide +kernel
theorem dX4_init_33 : decode cX4_init 33 = .ok (.return_, 1) := by decide +kernel
set_option maxRecDepth 20000 in
theorem ggX4_findGood_X4_setFrom : GoodIn wsX4_findGood wsX4_setFrom := goodIn_r _ [8, 9, 10, 11, 12, 13, 7, 14, 1, 2, 3, 15, 16, 17, 18, 19, 20, 21, 22, 23, 24, 25, 26, 27, 28, 29, 30, 31, 32, 33, 4, 5, 6, 39, 40, 41, 42, 43, 44, 45, 34, 35, 36, 37, 38] (by decide +kernel) (by decide +kernel)
set_option maxRecDepth 20000 in
theorem gX4_findGood_X4_setFrom : GoodIn wsX4_findGood (wsV RX4 28 RX4 yX4_setFrom wsX4_setFrom) := goodIn_app (goodIn_of _ (by decide +kernel)) ggX4_findGood_X4_setFrom
theorem dX4_findGood_0 : decode cX4_findGood 0 = .ok (.aload_n 0, 1) := by decide +kernel
theorem dX4_findGood_1 : decode cX4_findGood 1 = .ok (.iconst 0, 1) := by decide +kernel
theorem dX4_findGood_2 : decode cX4_findGood 2 = .ok (.putfield 18, 3) := by decide +kernel
theorem dX4_findGood_5 : decode cX4_findGood 5 = .ok (.aload_n 0, 1) := by decide +kernel
theorem dX4_findGood_6 : decode cX4_findGood 6 = .ok (.iconst 0, 1) := by decide +kernel
theorem dX4_findGood_7 : decode cX4_findGood 7 = .ok (.putfield 22, 3) := by decide +kernel
theorem dX4_findGood_10 : decode cX4_findGood 10 = .ok (.aload_n 0, 1) := by decide +kernel
theorem dX4_findGood_11 : decode cX4_findGood 11 = .ok (.iconst 0, 1) := by decide +kernel
theorem dX4_findGood_12 : decode cX4_findGood 12 = .ok (.putfield 25, 3) := by decide +kernel
theorem dX4_findGood_15 : decode cX4_findGood 15 = .ok (.aload_n 0, 1) := by decide +kernel
theorem dX4_findGood_16 : decode cX4_findGood 16 = .ok (.aload_n 1, 1) := by decide +kernel
theorem dX4_findGood_17 : decode cX4_findGood 17 = .ok (.iload_n 2, 1) := by decide +kernel
theorem dX4_findGood_18 : decode cX4_findGood 18 = .ok (.iconst 0, 1) := by decide +kernel
theorem dX4_findGood_19 : decode cX4_findGood 19 = .ok (.invokevirtual 28, 3) := by decide +kernel
theorem dX4_findGood_22 : decode cX4_findGood 22 = .ok (.return_, 1) := by decide +kernel
set_option maxRecDepth 20000 in
theorem ggX4_setFrom_X4_keep : GoodIn wsX4_setFrom wsX4_keep := goodIn_r _ [7, 2, 8, 9, 10, 11, 12, 13, 14, 15, 40, 41, 42, 43, 44] (by decide +kernel) (by decide +kernel)
set_option maxRecDepth 20000 in
theorem gX4_setFrom_X4_keep : GoodIn wsX4_setFrom (wsV RX4 37 RX4 yX4_keep wsX4_keep) := goodIn_app (goodIn_of _ (by decide +kernel)) ggX4_setFrom_X4_keep
set_option maxRecDepth 20000 in
theorem ggX4_setFrom_X4_fits : GoodIn wsX4_setFrom wsX4_fits := goodIn_r _ [19, 2, 20, 21, 22, 23, 24, 25, 26, 27, 28, 29, 40, 41, 42, 43, 44, 33, 34, 35, 36, 37, 38, 39] (by decide +kernel) (by decide +kernel)
set_option maxRecDepth 20000 in
theorem gX4_setFrom_X4_fits : GoodIn wsX4_setFrom (wsV RX4 41 RX4 yX4_fits wsX4_fits) := goodIn_app (goodIn_of _ (by decide +kernel)) ggX4_setFrom_X4_fits
set_option maxRecDepth 20000 in
theorem ggX4_setFrom_X4_setFrom : GoodIn wsX4_setFrom wsX4_setFrom := goodIn_r _ [0, 1, 2, 3, 4, 5, 6, 7, 8, 9, 10, 11, 12, 13, 14, 15, 16, 17, 18, 19, 20, 21, 22, 23, 24, 25, 26, 27, 28, 29, 30, 31, 32, 33, 34, 35, 36, 37, 38, 39, 40, 41, 42, 43, 44] (by decide +kernel) (by decide +kernel)
set_option maxRecDepth 20000 in
theorem gX4_setFrom_X4_setFrom : GoodIn wsX4_setFrom (wsV RX4 28 RX4 yX4_setFrom wsX4_setFrom) := goodIn_app (goodIn_of _ (by decide +kernel)) ggX4_setFrom_X4_setFrom
theorem dX4_setFrom_0 : decode cX4_setFrom 0 = .ok (.iload_n 3, 1) := by decide +kernel
theorem dX4_setFrom_1 : decode cX4_setFrom 1 = .ok (.aload_n 1, 1) := by decide +kernel
theorem dX4_setFrom_2 : decode cX4_setFrom 2 = .ok (.getfield 32, 3) := by decide +kernel
theorem dX4_setFrom_5 : decode cX4_setFrom 5 = .ok (.iload_n 2, 1) := by decide +kernel
theorem dX4_setFrom_6 : decode cX4_setFrom 6 = .ok (.iaload, 1) := by decide +kernel
theorem dX4_setFrom_7 : decode cX4_setFrom 7 = .ok (.if_icmp .ge 8, 3) := by decide +kernel
theorem dX4_setFrom_10 : decode cX4_setFrom 10 = .ok (.iload_n 3, 1) := by decide +kernel
theorem dX4_setFrom_11 : decode cX4_setFrom 11 = .ok (.iconst 4, 1) := by decide +kernel
theorem dX4_setFrom_12 : decode cX4_setFrom 12 = .ok (.if_icmp .lt 9, 3) := by decide +kernel
theorem dX4_setFrom_15 : decode cX4_setFrom 15 = .ok (.aload_n 0, 1) := by decide +kernel
theorem dX4_setFrom_16 : decode cX4_setFrom 16 = .ok (.iload_n 3, 1) := by decide +kernel
theorem dX4_setFrom_17 : decode cX4_setFrom 17 = .ok (.invokevirtual 37, 3) := by decide +kernel
theorem dX4_setFrom_20 : decode cX4_setFrom 20 = .ok (.return_, 1) := by decide +kernel
theorem dX4_setFrom_21 : decode cX4_setFrom 21 = .ok (.iconst 0, 1) := by decide +kernel
theorem dX4_setFrom_22 : decode cX4_setFrom 22 = .ok (.istore 4, 2) := by decide +kernel
theorem dX4_setFrom_24 : decode cX4_setFrom 24 = .ok (.iload 4, 2) := by decide +kernel
theorem dX4_setFrom_26 : decode cX4_setFrom 26 = .ok (.bipush 12, 2) := by decide +kernel
theorem dX4_setFrom_28 : decode cX4_setFrom 28 = .ok (.if_icmp .ge 36, 3) := by decide +kernel
theorem dX4_setFrom_31 : decode cX4_setFrom 31 = .ok (.aload_n 0, 1) := by decide +kernel
theorem dX4_setFrom_32 : decode cX4_setFrom 32 = .ok (.getfield 9, 3) := by decide +kernel
theorem dX4_setFrom_35 : decode cX4_setFrom 35 = .ok (.iload_n 3, 1) := by decide +kernel
theorem dX4_setFrom_36 : decode cX4_setFrom 36 = .ok (.iload 4, 2) := by decide +kernel
theorem dX4_setFrom_38 : decode cX4_setFrom 38 = .ok (.iastore, 1) := by decide +kernel
theorem dX4_setFrom_39 : decode cX4_setFrom 39 = .ok (.aload_n 0, 1) := by decide +kernel
theorem dX4_setFrom_40 : decode cX4_setFrom 40 = .ok (.aload_n 1, 1) := by decide +kernel
theorem dX4_setFrom_41 : decode cX4_setFrom 41 = .ok (.iload_n 2, 1) := by decide +kernel
theorem dX4_setFrom_42 : decode cX4_setFrom 42 = .ok (.iload_n 3, 1) := by decide +kernel
theorem dX4_setFrom_43 : decode cX4_setFrom 43 = .ok (.invokevirtual 41, 3) := by decide +kernel
theorem dX4_setFrom_46 : decode cX4_setFrom 46 = .ok (.ifCond .eq 12, 3) := by decide +kernel
theorem dX4_setFrom_49 : decode cX4_setFrom 49 = .ok (.aload_n 0, 1) := by decide +kernel
theorem dX4_setFrom_50 : decode cX4_setFrom 50 = .ok (.aload_n 1, 1) := by decide +kernel
theorem dX4_setFrom_51 : decode cX4_setFrom 51 = .ok (.iload_n 2, 1) := by decide +kernel
theorem dX4_setFrom_52 : decode cX4_setFrom 52 = .ok (.iload_n 3, 1) := by decide +kernel
theorem dX4_setFrom_53 : decode cX4_setFrom 53 = .ok (.iconst 1, 1) := by decide +kernel
theorem dX4_setFrom_54 : decode cX4_setFrom 54 = .ok (.iadd, 1) := by decide +kernel
theorem dX4_setFrom_55 : decode cX4_setFrom 55 = .ok (.invokevirtual 28, 3) := by decide +kernel
theorem dX4_setFrom_58 : decode cX4_setFrom 58 = .ok (.iinc 4 1, 3) := by decide +kernel
theorem dX4_setFrom_61 : decode cX4_setFrom 61 = .ok (.goto (-37), 3) := by decide +kernel
theorem dX4_setFrom_64 : decode cX4_setFrom 64 = .ok (.return_, 1) := by decide +kernel
theorem dX4_keep_0 : decode cX4_keep 0 = .ok (.iload_n 1, 1) := by decide +kernel
theorem dX4_keep_1 : decode cX4_keep 1 = .ok (.ifCond .ne 7, 3) := by decide +kernel
theorem dX4_keep_4 : decode cX4_keep 4 = .ok (.iconst 0, 1) := by decide +kernel
theorem dX4_keep_5 : decode cX4_keep 5 = .ok (.goto 15, 3) := by decide +kernel
theorem dX4_keep_8 : decode cX4_keep 8 = .ok (.aload_n 0, 1) := by decide +kernel
theorem dX4_keep_9 : decode cX4_keep 9 = .ok (.getfield 9, 3) := by decide +kernel
theorem dX4_keep_12 : decode cX4_keep 12 = .ok (.iload_n 1, 1) := by decide +kernel
theorem dX4_keep_13 : decode cX4_keep 13 = .ok (.iconst 1, 1) := by decide +kernel
theorem dX4_keep_14 : decode cX4_keep 14 = .ok (.isub, 1) := by decide +kernel
theorem dX4_keep_15 : decode cX4_keep 15 = .ok (.iaload, 1) := by decide +kernel
theorem dX4_keep_16 : decode cX4_keep 16 = .ok (.iconst 4, 1) := by decide +kernel
theorem dX4_keep_17 : decode cX4_keep 17 = .ok (.idiv, 1) := by decide +kernel
theorem dX4_keep_18 : decode cX4_keep 18 = .ok (.iconst 1, 1) := by decide +kernel
theorem dX4_keep_19 : decode cX4_keep 19 = .ok (.iadd, 1) := by decide +kernel
theorem dX4_keep_20 : decode cX4_keep 20 = .ok (.istore_n 2, 1) := by decide +kernel
theorem dX4_keep_21 : decode cX4_keep 21 = .ok (.aload_n 0, 1) := by decide +kernel
theorem dX4_keep_22 : decode cX4_keep 22 = .ok (.dup, 1) := by decide +kernel
theorem dX4_keep_23 : decode cX4_keep 23 = .ok (.getfield 18, 3) := by decide +kernel
theorem dX4_keep_26 : decode cX4_keep 26 = .ok (.iconst 1, 1) := by decide +kernel
theorem dX4_keep_27 : decode cX4_keep 27 = .ok (.iadd, 1) := by decide +kernel
theorem dX4_keep_28 : decode cX4_keep 28 = .ok (.putfield 18, 3) := by decide +kernel
theorem dX4_keep_31 : decode cX4_keep 31 = .ok (.aload_n 0, 1) := by decide +kernel
theorem dX4_keep_32 : decode cX4_keep 32 = .ok (.getfield 18, 3) := by decide +kernel
theorem dX4_keep_35 : decode cX4_keep 35 = .ok (.iconst 1, 1) := by decide +kernel
theorem dX4_keep_36 : decode cX4_keep 36 = .ok (.if_icmp .eq 11, 3) := by decide +kernel
theorem dX4_keep_39 : decode cX4_keep 39 = .ok (.iload_n 2, 1) := by decide +kernel
theorem dX4_keep_40 : decode cX4_keep 40 = .ok (.aload_n 0, 1) := by decide +kernel
theorem dX4_keep_41 : decode cX4_keep 41 = .ok (.getfield 22, 3) := by decide +kernel
theorem dX4_keep_44 : decode cX4_keep 44 = .ok (.if_icmp .ge 27, 3) := by decide +kernel
theorem dX4_keep_47 : decode cX4_keep 47 = .ok (.aload_n 0, 1) := by decide +kernel
theorem dX4_keep_48 : decode cX4_keep 48 = .ok (.iload_n 2, 1) := by decide +kernel
theorem dX4_keep_49 : decode cX4_keep 49 = .ok (.putfield 22, 3) := by decide +kernel
theorem dX4_keep_52 : decode cX4_keep 52 = .ok (.aload_n 0, 1) := by decide +kernel
theorem dX4_keep_53 : decode cX4_keep 53 = .ok (.iconst 0, 1) := by decide +kernel
theorem dX4_keep_54 : decode cX4_keep 54 = .ok (.putfield 25, 3) := by decide +kernel
theorem dX4_keep_57 : decode cX4_keep 57 = .ok (.aload_n 0, 1) := by decide +kernel
theorem dX4_keep_58 : decode cX4_keep 58 = .ok (.getfield 9, 3) := by decide +kernel
theorem dX4_keep_61 : decode cX4_keep 61 = .ok (.iconst 0, 1) := by decide +kernel
theorem dX4_keep_62 : decode cX4_keep 62 = .ok (.aload_n 0, 1) := by decide +kernel
theorem dX4_keep_63 : decode cX4_keep 63 = .ok (.getfield 15, 3) := by decide +kernel
theorem dX4_keep_66 : decode cX4_keep 66 = .ok (.iconst 0, 1) := by decide +kernel
theorem dX4_keep_67 : decode cX4_keep 67 = .ok (.iload_n 1, 1) := by decide +kernel
theorem dX4_keep_68 : decode cX4_keep 68 = .ok (.invokestatic 45, 3) := by decide +kernel
theorem dX4_keep_71 : decode cX4_keep 71 = .ok (.iload_n 2, 1) := by decide +kernel
theorem dX4_keep_72 : decode cX4_keep 72 = .ok (.aload_n 0, 1) := by decide +kernel
theorem dX4_keep_73 : decode cX4_keep 73 = .ok (.getfield 22, 3) := by decide +kernel
theorem dX4_keep_76 : decode cX4_keep 76 = .ok (.if_icmp .ne 13, 3) := by decide +kernel
theorem dX4_keep_79 : decode cX4_keep 79 = .ok (.aload_n 0, 1) := by decide +kernel
theorem dX4_keep_80 : decode cX4_keep 80 = .ok (.dup, 1) := by decide +kernel
theorem dX4_keep_81 : decode cX4_keep 81 = .ok (.getfield 25, 3) := by decide +kernel
theorem dX4_keep_84 : decode cX4_keep 84 = .ok (.iconst 1, 1) := by decide +kernel
theorem dX4_keep_85 : decode cX4_keep 85 = .ok (.iadd, 1) := by decide +kernel
theorem dX4_keep_86 : decode cX4_keep 86 = .ok (.putfield 25, 3) := by decide +kernel
theorem dX4_keep_89 : decode cX4_keep 89 = .ok (.return_, 1) := by decide +kernel
set_option maxRecDepth 20000 in
theorem ggX4_fits_X0_speakerColumn : GoodIn wsX4_fits wsX0_speakerColumn := goodIn_r _ [10, 11, 17, 18, 19, 20, 21, 22, 23] (by decide +kernel) (by decide +kernel)
set_option maxRecDepth 20000 in
theorem gX4_fits_X0_speakerColumn : GoodIn wsX4_fits (wsV RX4 51 RX0 yX0_speakerColumn wsX0_speakerColumn) := goodIn_app (goodIn_of _ (by decide +kernel)) ggX4_fits_X0_speakerColumn
theorem dX4_fits_0 : decode cX4_fits 0 = .ok (.aload_n 1, 1) := by decide +kernel
theorem dX4_fits_1 : decode cX4_fits 1 = .ok (.iload_n 2, 1) := by decide +kernel
theorem dX4_fits_2 : decode cX4_fits 2 = .ok (.iload_n 3, 1) := by decide +kernel
theorem dX4_fits_3 : decode cX4_fits 3 = .ok (.invokevirtual 51, 3) := by decide +kernel
theorem dX4_fits_6 : decode cX4_fits 6 = .ok (.istore 4, 2) := by decide +kernel
theorem dX4_fits_8 : decode cX4_fits 8 = .ok (.aload_n 0, 1) := by decide +kernel
theorem dX4_fits_9 : decode cX4_fits 9 = .ok (.getfield 9, 3) := by decide +kernel
theorem dX4_fits_12 : decode cX4_fits 12 = .ok (.iload_n 3, 1) := by decide +kernel
theorem dX4_fits_13 : decode cX4_fits 13 = .ok (.iaload, 1) := by decide +kernel
theorem dX4_fits_14 : decode cX4_fits 14 = .ok (.iconst 4, 1) := by decide +kernel
theorem dX4_fits_15 : decode cX4_fits 15 = .ok (.idiv, 1) := by decide +kernel
theorem dX4_fits_16 : decode cX4_fits 16 = .ok (.istore 5, 2) := by decide +kernel
theorem dX4_fits_18 : decode cX4_fits 18 = .ok (.aload_n 0, 1) := by decide +kernel
theorem dX4_fits_19 : decode cX4_fits 19 = .ok (.getfield 9, 3) := by decide +kernel
theorem dX4_fits_22 : decode cX4_fits 22 = .ok (.iload_n 3, 1) := by decide +kernel
theorem dX4_fits_23 : decode cX4_fits 23 = .ok (.iaload, 1) := by decide +kernel
theorem dX4_fits_24 : decode cX4_fits 24 = .ok (.iconst 4, 1) := by decide +kernel
theorem dX4_fits_25 : decode cX4_fits 25 = .ok (.irem, 1) := by decide +kernel
theorem dX4_fits_26 : decode cX4_fits 26 = .ok (.istore 6, 2) := by decide +kernel
theorem dX4_fits_28 : decode cX4_fits 28 = .ok (.iload_n 3, 1) := by decide +kernel
theorem dX4_fits_29 : decode cX4_fits 29 = .ok (.ifCond .le 20, 3) := by decide +kernel
theorem dX4_fits_32 : decode cX4_fits 32 = .ok (.aload_n 0, 1) := by decide +kernel
theorem dX4_fits_33 : decode cX4_fits 33 = .ok (.getfield 9, 3) := by decide +kernel
theorem dX4_fits_36 : decode cX4_fits 36 = .ok (.iload_n 3, 1) := by decide +kernel
theorem dX4_fits_37 : decode cX4_fits 37 = .ok (.iaload, 1) := by decide +kernel
theorem dX4_fits_38 : decode cX4_fits 38 = .ok (.aload_n 0, 1) := by decide +kernel
theorem dX4_fits_39 : decode cX4_fits 39 = .ok (.getfield 9, 3) := by decide +kernel
theorem dX4_fits_42 : decode cX4_fits 42 = .ok (.iload_n 3, 1) := by decide +kernel
theorem dX4_fits_43 : decode cX4_fits 43 = .ok (.iconst 1, 1) := by decide +kernel
theorem dX4_fits_44 : decode cX4_fits 44 = .ok (.isub, 1) := by decide +kernel
theorem dX4_fits_45 : decode cX4_fits 45 = .ok (.iaload, 1) := by decide +kernel
theorem dX4_fits_46 : decode cX4_fits 46 = .ok (.if_icmp .le 15, 3) := by decide +kernel
theorem dX4_fits_49 : decode cX4_fits 49 = .ok (.iload 6, 2) := by decide +kernel
theorem dX4_fits_51 : decode cX4_fits 51 = .ok (.iload 4, 2) := by decide +kernel
theorem dX4_fits_53 : decode cX4_fits 53 = .ok (.isub, 1) := by decide +kernel
theorem dX4_fits_54 : decode cX4_fits 54 = .ok (.invokestatic 55, 3) := by decide +kernel
theorem dX4_fits_57 : decode cX4_fits 57 = .ok (.iconst 1, 1) := by decide +kernel
theorem dX4_fits_58 : decode cX4_fits 58 = .ok (.if_icmp .le 5, 3) := by decide +kernel
theorem dX4_fits_61 : decode cX4_fits 61 = .ok (.iconst 0, 1) := by decide +kernel
theorem dX4_fits_62 : decode cX4_fits 62 = .ok (.ireturn, 1) := by decide +kernel
theorem dX4_fits_63 : decode cX4_fits 63 = .ok (.iconst 0, 1) := by decide +kernel
theorem dX4_fits_64 : decode cX4_fits 64 = .ok (.istore 7, 2) := by decide +kernel
theorem dX4_fits_66 : decode cX4_fits 66 = .ok (.iload 7, 2) := by decide +kernel
theorem dX4_fits_68 : decode cX4_fits 68 = .ok (.iload_n 3, 1) := by decide +kernel
theorem dX4_fits_69 : decode cX4_fits 69 = .ok (.if_icmp .ge 65, 3) := by decide +kernel
theorem dX4_fits_72 : decode cX4_fits 72 = .ok (.aload_n 1, 1) := by decide +kernel
theorem dX4_fits_73 : decode cX4_fits 73 = .ok (.iload_n 2, 1) := by decide +kernel
theorem dX4_fits_74 : decode cX4_fits 74 = .ok (.iload 7, 2) := by decide +kernel
theorem dX4_fits_76 : decode cX4_fits 76 = .ok (.invokevirtual 51, 3) := by decide +kernel
theorem dX4_fits_79 : decode cX4_fits 79 = .ok (.istore 8, 2) := by decide +kernel
theorem dX4_fits_81 : decode cX4_fits 81 = .ok (.aload_n 0, 1) := by decide +kernel
theorem dX4_fits_82 : decode cX4_fits 82 = .ok (.getfield 9, 3) := by decide +kernel
theorem dX4_fits_85 : decode cX4_fits 85 = .ok (.iload 7, 2) := by decide +kernel
theorem dX4_fits_87 : decode cX4_fits 87 = .ok (.iaload, 1) := by decide +kernel
theorem dX4_fits_88 : decode cX4_fits 88 = .ok (.iconst 4, 1) := by decide +kernel
theorem dX4_fits_89 : decode cX4_fits 89 = .ok (.idiv, 1) := by decide +kernel
theorem dX4_fits_90 : decode cX4_fits 90 = .ok (.iload 5, 2) := by decide +kernel
theorem dX4_fits_92 : decode cX4_fits 92 = .ok (.if_icmp .ne 7, 3) := by decide +kernel
theorem dX4_fits_95 : decode cX4_fits 95 = .ok (.iconst 1, 1) := by decide +kernel
theorem dX4_fits_96 : decode cX4_fits 96 = .ok (.goto 4, 3) := by decide +kernel
theorem dX4_fits_99 : decode cX4_fits 99 = .ok (.iconst 0, 1) := by decide +kernel
theorem dX4_fits_100 : decode cX4_fits 100 = .ok (.istore 9, 2) := by decide +kernel
theorem dX4_fits_102 : decode cX4_fits 102 = .ok (.iload 9, 2) := by decide +kernel
theorem dX4_fits_104 : decode cX4_fits 104 = .ok (.ifCond .eq 10, 3) := by decide +kernel
theorem dX4_fits_107 : decode cX4_fits 107 = .ok (.iload 8, 2) := by decide +kernel
theorem dX4_fits_109 : decode cX4_fits 109 = .ok (.iload 4, 2) := by decide +kernel
theorem dX4_fits_111 : decode cX4_fits 111 = .ok (.if_icmp .gt 15, 3) := by decide +kernel
theorem dX4_fits_114 : decode cX4_fits 114 = .ok (.iload 9, 2) := by decide +kernel
theorem dX4_fits_116 : decode cX4_fits 116 = .ok (.ifCond .ne 12, 3) := by decide +kernel
theorem dX4_fits_119 : decode cX4_fits 119 = .ok (.iload 6, 2) := by decide +kernel
theorem dX4_fits_121 : decode cX4_fits 121 = .ok (.iload 8, 2) := by decide +kernel
theorem dX4_fits_123 : decode cX4_fits 123 = .ok (.if_icmp .ne 5, 3) := by decide +kernel
theorem dX4_fits_126 : decode cX4_fits 126 = .ok (.iconst 0, 1) := by decide +kernel
theorem dX4_fits_127 : decode cX4_fits 127 = .ok (.ireturn, 1) := by decide +kernel
theorem dX4_fits_128 : decode cX4_fits 128 = .ok (.iinc 7 1, 3) := by decide +kernel
theorem dX4_fits_131 : decode cX4_fits 131 = .ok (.goto (-65), 3) := by decide +kernel
theorem dX4_fits_134 : decode cX4_fits 134 = .ok (.iconst 1, 1) := by decide +kernel
theorem dX4_fits_135 : decode cX4_fits 135 = .ok (.ireturn, 1) := by decide +kernel
set_option maxRecDepth 20000 in
theorem ggX5_init_X0_init : GoodIn wsX5_init wsX0_init := goodIn_r _ [27, 28, 2, 3, 29, 30, 31, 32, 33, 34, 35, 36, 75, 76, 77, 78, 79, 80, 81] (by decide +kernel) (by decide +kernel)
set_option maxRecDepth 20000 in
theorem gX5_init_X0_init_n9 : GoodIn wsX5_init (wsX0_init) := ggX5_init_X0_init
set_option maxRecDepth 20000 in
theorem ggX5_init_X2_init : GoodIn wsX5_init wsX2_init := goodIn_r _ [38, 39, 2, 3, 40, 31, 41, 89, 90] (by decide +kernel) (by decide +kernel)
set_option maxRecDepth 20000 in
theorem gX5_init_X2_init_n18 : GoodIn wsX5_init (wsX2_init) := ggX5_init_X2_init
set_option maxRecDepth 20000 in
theorem ggX5_init_X1_init : GoodIn wsX5_init wsX1_init := goodIn_r _ [43, 44, 2, 3, 45, 46, 47, 48, 49, 31, 50, 51, 52, 53, 54, 55, 56, 91, 92, 93, 94, 95, 96, 97, 98, 99, 100, 101, 102] (by decide +kernel) (by decide +kernel)
set_option maxRecDepth 20000 in
theorem gX5_init_X1_init_n25 : GoodIn wsX5_init (wsX1_init) := ggX5_init_X1_init
set_option maxRecDepth 20000 in
theorem ggX5_init_X3_init : GoodIn wsX5_init wsX3_init := goodIn_r _ [58, 59, 2, 3, 60, 13, 14, 61, 31, 62, 63, 64, 65, 66, 42, 43, 44, 45, 46, 47, 48, 49, 50, 51, 52, 53, 54, 55, 56, 91, 92, 93, 94, 95, 96, 97, 98, 99, 100, 101, 102, 103, 104, 105, 106, 107, 108] (by decide +kernel) (by decide +kernel)
set_option maxRecDepth 20000 in
theorem gX5_init_X3_init_n32 : GoodIn wsX5_init (wsX3_init) := ggX5_init_X3_init
set_option maxRecDepth 20000 in
theorem ggX5_init_X4_init : GoodIn wsX5_init wsX4_init := goodIn_r _ [68, 69, 2, 3, 31, 70, 71, 72, 73, 74, 109, 110, 111, 112, 113] (by decide +kernel) (by decide +kernel)
set_option maxRecDepth 20000 in
theorem gX5_init_X4_init_n39 : GoodIn wsX5_init (wsX4_init) := ggX5_init_X4_init
theorem dX5_init_0 : decode cX5_init 0 = .ok (.aload_n 0, 1) := by decide +kernel
theorem dX5_init_1 : decode cX5_init 1 = .ok (.invokespecial 1, 3) := by decide +kernel
theorem dX5_init_4 : decode cX5_init 4 = .ok (.aload_n 0, 1) := by decide +kernel
theorem dX5_init_5 : decode cX5_init 5 = .ok (.new 7, 3) := by decide +kernel
theorem dX5_init_8 : decode cX5_init 8 = .ok (.dup, 1) := by decide +kernel
theorem dX5_init_9 : decode cX5_init 9 = .ok (.invokespecial 9, 3) := by decide +kernel
theorem dX5_init_12 : decode cX5_init 12 = .ok (.putfield 10, 3) := by decide +kernel
theorem dX5_init_15 : decode cX5_init 15 = .ok (.aload_n 0, 1) := by decide +kernel
theorem dX5_init_16 : decode cX5_init 16 = .ok (.new 16, 3) := by decide +kernel
theorem dX5_init_19 : decode cX5_init 19 = .ok (.dup, 1) := by decide +kernel
theorem dX5_init_20 : decode cX5_init 20 = .ok (.invokespecial 18, 3) := by decide +kernel
theorem dX5_init_23 : decode cX5_init 23 = .ok (.putfield 19, 3) := by decide +kernel
theorem dX5_init_26 : decode cX5_init 26 = .ok (.aload_n 0, 1) := by decide +kernel
theorem dX5_init_27 : decode cX5_init 27 = .ok (.new 23, 3) := by decide +kernel
theorem dX5_init_30 : decode cX5_init 30 = .ok (.dup, 1) := by decide +kernel
theorem dX5_init_31 : decode cX5_init 31 = .ok (.invokespecial 25, 3) := by decide +kernel
theorem dX5_init_34 : decode cX5_init 34 = .ok (.putfield 26, 3) := by decide +kernel
theorem dX5_init_37 : decode cX5_init 37 = .ok (.aload_n 0, 1) := by decide +kernel
theorem dX5_init_38 : decode cX5_init 38 = .ok (.new 30, 3) := by decide +kernel
theorem dX5_init_41 : decode cX5_init 41 = .ok (.dup, 1) := by decide +kernel
theorem dX5_init_42 : decode cX5_init 42 = .ok (.invokespecial 32, 3) := by decide +kernel
theorem dX5_init_45 : decode cX5_init 45 = .ok (.putfield 33, 3) := by decide +kernel
theorem dX5_init_48 : decode cX5_init 48 = .ok (.aload_n 0, 1) := by decide +kernel
theorem dX5_init_49 : decode cX5_init 49 = .ok (.new 37, 3) := by decide +kernel
theorem dX5_init_52 : decode cX5_init 52 = .ok (.dup, 1) := by decide +kernel
theorem dX5_init_53 : decode cX5_init 53 = .ok (.invokespecial 39, 3) := by decide +kernel
theorem dX5_init_56 : decode cX5_init 56 = .ok (.putfield 40, 3) := by decide +kernel
theorem dX5_init_59 : decode cX5_init 59 = .ok (.aload_n 0, 1) := by decide +kernel
theorem dX5_init_60 : decode cX5_init 60 = .ok (.iconst 2, 1) := by decide +kernel
theorem dX5_init_61 : decode cX5_init 61 = .ok (.anewarray 7, 3) := by decide +kernel
theorem dX5_init_64 : decode cX5_init 64 = .ok (.putfield 44, 3) := by decide +kernel
theorem dX5_init_67 : decode cX5_init 67 = .ok (.aload_n 0, 1) := by decide +kernel
theorem dX5_init_68 : decode cX5_init 68 = .ok (.iconst 0, 1) := by decide +kernel
theorem dX5_init_69 : decode cX5_init 69 = .ok (.putfield 48, 3) := by decide +kernel
theorem dX5_init_72 : decode cX5_init 72 = .ok (.iconst 0, 1) := by decide +kernel
theorem dX5_init_73 : decode cX5_init 73 = .ok (.istore_n 1, 1) := by decide +kernel
theorem dX5_init_74 : decode cX5_init 74 = .ok (.iload_n 1, 1) := by decide +kernel
theorem dX5_init_75 : decode cX5_init 75 = .ok (.iconst 2, 1) := by decide +kernel
theorem dX5_init_76 : decode cX5_init 76 = .ok (.if_icmp .ge 22, 3) := by decide +kernel
theorem dX5_init_79 : decode cX5_init 79 = .ok (.aload_n 0, 1) := by decide +kernel
theorem dX5_init_80 : decode cX5_init 80 = .ok (.getfield 44, 3) := by decide +kernel
theorem dX5_init_83 : decode cX5_init 83 = .ok (.iload_n 1, 1) := by decide +kernel
theorem dX5_init_84 : decode cX5_init 84 = .ok (.new 7, 3) := by decide +kernel
theorem dX5_init_87 : decode cX5_init 87 = .ok (.dup, 1) := by decide +kernel
theorem dX5_init_88 : decode cX5_init 88 = .ok (.invokespecial 9, 3) := by decide +kernel
theorem dX5_init_91 : decode cX5_init 91 = .ok (.aastore, 1) := by decide +kernel
theorem dX5_init_92 : decode cX5_init 92 = .ok (.iinc 1 1, 3) := by decide +kernel
theorem dX5_init_95 : decode cX5_init 95 = .ok (.goto (-21), 3) := by decide +kernel
theorem dX5_init_98 : decode cX5_init 98 = .ok (.return_, 1) := by decide +kernel
set_option maxRecDepth 20000 in
theorem ggX5_panel_X5_isFeature : GoodIn wsX5_panel wsX5_isFeature := goodIn_r _ [10] (by decide +kernel) (by decide +kernel)
set_option maxRecDepth 20000 in
theorem gX5_panel_X5_isFeature : GoodIn wsX5_panel (va_wsS RX5 52 yX5_isFeature wsX5_isFeature) := goodIn_app (goodIn_of _ (by decide +kernel)) ggX5_panel_X5_isFeature
theorem dX5_panel_0 : decode cX5_panel 0 = .ok (.iconst 0, 1) := by decide +kernel
theorem dX5_panel_1 : decode cX5_panel 1 = .ok (.iload_n 1, 1) := by decide +kernel
theorem dX5_panel_2 : decode cX5_panel 2 = .ok (.invokestatic 52, 3) := by decide +kernel
theorem dX5_panel_5 : decode cX5_panel 5 = .ok (.ifCond .eq 19, 3) := by decide +kernel
theorem dX5_panel_8 : decode cX5_panel 8 = .ok (.iconst 1, 1) := by decide +kernel
theorem dX5_panel_9 : decode cX5_panel 9 = .ok (.iload_n 2, 1) := by decide +kernel
theorem dX5_panel_10 : decode cX5_panel 10 = .ok (.invokestatic 52, 3) := by decide +kernel
theorem dX5_panel_13 : decode cX5_panel 13 = .ok (.ifCond .eq 11, 3) := by decide +kernel
theorem dX5_panel_16 : decode cX5_panel 16 = .ok (.iconst 2, 1) := by decide +kernel
theorem dX5_panel_17 : decode cX5_panel 17 = .ok (.iload_n 3, 1) := by decide +kernel
theorem dX5_panel_18 : decode cX5_panel 18 = .ok (.invokestatic 52, 3) := by decide +kernel
theorem dX5_panel_21 : decode cX5_panel 21 = .ok (.ifCond .ne 6, 3) := by decide +kernel
theorem dX5_panel_24 : decode cX5_panel 24 = .ok (.bipush (-2), 2) := by decide +kernel
theorem dX5_panel_26 : decode cX5_panel 26 = .ok (.ireturn, 1) := by decide +kernel
theorem dX5_panel_27 : decode cX5_panel 27 = .ok (.aload_n 0, 1) := by decide +kernel
theorem dX5_panel_28 : decode cX5_panel 28 = .ok (.getfield 10, 3) := by decide +kernel
theorem dX5_panel_31 : decode cX5_panel 31 = .ok (.getfield 56, 3) := by decide +kernel
theorem dX5_panel_34 : decode cX5_panel 34 = .ok (.bipush 9, 2) := by decide +kernel
theorem dX5_panel_36 : decode cX5_panel 36 = .ok (.if_icmp .lt 6, 3) := by decide +kernel
theorem dX5_panel_39 : decode cX5_panel 39 = .ok (.bipush (-4), 2) := by decide +kernel
theorem dX5_panel_41 : decode cX5_panel 41 = .ok (.ireturn, 1) := by decide +kernel
theorem dX5_panel_42 : decode cX5_panel 42 = .ok (.aload_n 0, 1) := by decide +kernel
theorem dX5_panel_43 : decode cX5_panel 43 = .ok (.getfield 10, 3) := by decide +kernel
theorem dX5_panel_46 : decode cX5_panel 46 = .ok (.getfield 56, 3) := by decide +kernel
theorem dX5_panel_49 : decode cX5_panel 49 = .ok (.istore 4, 2) := by decide +kernel
theorem dX5_panel_51 : decode cX5_panel 51 = .ok (.aload_n 0, 1) := by decide +kernel
theorem dX5_panel_52 : decode cX5_panel 52 = .ok (.getfield 10, 3) := by decide +kernel
theorem dX5_panel_55 : decode cX5_panel 55 = .ok (.getfield 59, 3) := by decide +kernel
theorem dX5_panel_58 : decode cX5_panel 58 = .ok (.iload 4, 2) := by decide +kernel
theorem dX5_panel_60 : decode cX5_panel 60 = .ok (.iload_n 1, 1) := by decide +kernel
theorem dX5_panel_61 : decode cX5_panel 61 = .ok (.iastore, 1) := by decide +kernel
theorem dX5_panel_62 : decode cX5_panel 62 = .ok (.aload_n 0, 1) := by decide +kernel
theorem dX5_panel_63 : decode cX5_panel 63 = .ok (.getfield 10, 3) := by decide +kernel
theorem dX5_panel_66 : decode cX5_panel 66 = .ok (.getfield 63, 3) := by decide +kernel
theorem dX5_panel_69 : decode cX5_panel 69 = .ok (.iload 4, 2) := by decide +kernel
theorem dX5_panel_71 : decode cX5_panel 71 = .ok (.iload_n 2, 1) := by decide +kernel
theorem dX5_panel_72 : decode cX5_panel 72 = .ok (.iastore, 1) := by decide +kernel
theorem dX5_panel_73 : decode cX5_panel 73 = .ok (.aload_n 0, 1) := by decide +kernel
theorem dX5_panel_74 : decode cX5_panel 74 = .ok (.getfield 10, 3) := by decide +kernel
theorem dX5_panel_77 : decode cX5_panel 77 = .ok (.getfield 66, 3) := by decide +kernel
theorem dX5_panel_80 : decode cX5_panel 80 = .ok (.iload 4, 2) := by decide +kernel
theorem dX5_panel_82 : decode cX5_panel 82 = .ok (.iload_n 3, 1) := by decide +kernel
theorem dX5_panel_83 : decode cX5_panel 83 = .ok (.iastore, 1) := by decide +kernel
theorem dX5_panel_84 : decode cX5_panel 84 = .ok (.aload_n 0, 1) := by decide +kernel
theorem dX5_panel_85 : decode cX5_panel 85 = .ok (.getfield 10, 3) := by decide +kernel
theorem dX5_panel_88 : decode cX5_panel 88 = .ok (.getfield 69, 3) := by decide +kernel
theorem dX5_panel_91 : decode cX5_panel 91 = .ok (.iload 4, 2) := by decide +kernel
theorem dX5_panel_93 : decode cX5_panel 93 = .ok (.iconst 0, 1) := by decide +kernel
theorem dX5_panel_94 : decode cX5_panel 94 = .ok (.iastore, 1) := by decide +kernel
theorem dX5_panel_95 : decode cX5_panel 95 = .ok (.aload_n 0, 1) := by decide +kernel
theorem dX5_panel_96 : decode cX5_panel 96 = .ok (.getfield 10, 3) := by decide +kernel
theorem dX5_panel_99 : decode cX5_panel 99 = .ok (.iload 4, 2) := by decide +kernel
theorem dX5_panel_101 : decode cX5_panel 101 = .ok (.iconst 1, 1) := by decide +kernel
theorem dX5_panel_102 : decode cX5_panel 102 = .ok (.iadd, 1) := by decide +kernel
theorem dX5_panel_103 : decode cX5_panel 103 = .ok (.putfield 56, 3) := by decide +kernel
theorem dX5_panel_106 : decode cX5_panel 106 = .ok (.iload 4, 2) := by decide +kernel
theorem dX5_panel_108 : decode cX5_panel 108 = .ok (.ireturn, 1) := by decide +kernel
theorem dX5_pop_0 : decode cX5_pop 0 = .ok (.aload_n 0, 1) := by decide +kernel
theorem dX5_pop_1 : decode cX5_pop 1 = .ok (.getfield 10, 3) := by decide +kernel
theorem dX5_pop_4 : decode cX5_pop 4 = .ok (.getfield 56, 3) := by decide +kernel
theorem dX5_pop_7 : decode cX5_pop 7 = .ok (.iconst 1, 1) := by decide +kernel
theorem dX5_pop_8 : decode cX5_pop 8 = .ok (.if_icmp .ge 6, 3) := by decide +kernel
theorem dX5_pop_11 : decode cX5_pop 11 = .ok (.bipush (-5), 2) := by decide +kernel
theorem dX5_pop_13 : decode cX5_pop 13 = .ok (.ireturn, 1) := by decide +kernel
theorem dX5_pop_14 : decode cX5_pop 14 = .ok (.aload_n 0, 1) := by decide +kernel
theorem dX5_pop_15 : decode cX5_pop 15 = .ok (.getfield 10, 3) := by decide +kernel
theorem dX5_pop_18 : decode cX5_pop 18 = .ok (.dup, 1) := by decide +kernel
theorem dX5_pop_19 : decode cX5_pop 19 = .ok (.getfield 56, 3) := by decide +kernel
theorem dX5_pop_22 : decode cX5_pop 22 = .ok (.iconst 1, 1) := by decide +kernel
theorem dX5_pop_23 : decode cX5_pop 23 = .ok (.isub, 1) := by decide +kernel
theorem dX5_pop_24 : decode cX5_pop 24 = .ok (.putfield 56, 3) := by decide +kernel
theorem dX5_pop_27 : decode cX5_pop 27 = .ok (.aload_n 0, 1) := by decide +kernel
theorem dX5_pop_28 : decode cX5_pop 28 = .ok (.getfield 10, 3) := by decide +kernel
theorem dX5_pop_31 : decode cX5_pop 31 = .ok (.getfield 56, 3) := by decide +kernel
theorem dX5_pop_34 : decode cX5_pop 34 = .ok (.ireturn, 1) := by decide +kernel
set_option maxRecDepth 20000 in
theorem ggX5_change_X0_has : GoodIn wsX5_change wsX0_has := goodIn_r _ [9, 10, 30, 31, 32, 33, 34, 35, 36] (by decide +kernel) (by decide +kernel)
set_option maxRecDepth 20000 in
theorem gX5_change_X0_has : GoodIn wsX5_change (wsV RX5 72 RX0 yX0_has wsX0_has) := goodIn_app (goodIn_of _ (by decide +kernel)) ggX5_change_X0_has
set_option maxRecDepth 20000 in
theorem ggX5_change_X5_isFeature : GoodIn wsX5_change wsX5_isFeature := goodIn_r _ [14] (by decide +kernel) (by decide +kernel)
set_option maxRecDepth 20000 in
theorem gX5_change_X5_isFeature : GoodIn wsX5_change (va_wsS RX5 52 yX5_isFeature wsX5_isFeature) := goodIn_app (goodIn_of _ (by decide +kernel)) ggX5_change_X5_isFeature
set_option maxRecDepth 20000 in
theorem ggX5_change_X0_feature : GoodIn wsX5_change wsX0_feature := goodIn_r _ [18, 19, 20, 21, 22, 30, 31, 32, 33, 34, 35, 36] (by decide +kernel) (by decide +kernel)
set_option maxRecDepth 20000 in
theorem gX5_change_X0_feature : GoodIn wsX5_change (wsV RX5 76 RX0 yX0_feature wsX0_feature) := goodIn_app (goodIn_of _ (by decide +kernel)) ggX5_change_X0_feature
theorem dX5_change_0 : decode cX5_change 0 = .ok (.aload_n 0, 1) := by decide +kernel
theorem dX5_change_1 : decode cX5_change 1 = .ok (.getfield 10, 3) := by decide +kernel
theorem dX5_change_4 : decode cX5_change 4 = .ok (.iload_n 1, 1) := by decide +kernel
theorem dX5_change_5 : decode cX5_change 5 = .ok (.invokevirtual 72, 3) := by decide +kernel
theorem dX5_change_8 : decode cX5_change 8 = .ok (.ifCond .ne 5, 3) := by decide +kernel
theorem dX5_change_11 : decode cX5_change 11 = .ok (.iconst (-1), 1) := by decide +kernel
theorem dX5_change_12 : decode cX5_change 12 = .ok (.ireturn, 1) := by decide +kernel
theorem dX5_change_13 : decode cX5_change 13 = .ok (.iload_n 2, 1) := by decide +kernel
theorem dX5_change_14 : decode cX5_change 14 = .ok (.iload_n 3, 1) := by decide +kernel
theorem dX5_change_15 : decode cX5_change 15 = .ok (.invokestatic 52, 3) := by decide +kernel
theorem dX5_change_18 : decode cX5_change 18 = .ok (.ifCond .ne 6, 3) := by decide +kernel
theorem dX5_change_21 : decode cX5_change 21 = .ok (.bipush (-2), 2) := by decide +kernel
theorem dX5_change_23 : decode cX5_change 23 = .ok (.ireturn, 1) := by decide +kernel
theorem dX5_change_24 : decode cX5_change 24 = .ok (.aload_n 0, 1) := by decide +kernel
theorem dX5_change_25 : decode cX5_change 25 = .ok (.getfield 10, 3) := by decide +kernel
theorem dX5_change_28 : decode cX5_change 28 = .ok (.iload_n 1, 1) := by decide +kernel
theorem dX5_change_29 : decode cX5_change 29 = .ok (.iload_n 2, 1) := by decide +kernel
theorem dX5_change_30 : decode cX5_change 30 = .ok (.invokevirtual 76, 3) := by decide +kernel
theorem dX5_change_33 : decode cX5_change 33 = .ok (.istore 4, 2) := by decide +kernel
theorem dX5_change_35 : decode cX5_change 35 = .ok (.iload_n 2, 1) := by decide +kernel
theorem dX5_change_36 : decode cX5_change 36 = .ok (.ifCond .ne 16, 3) := by decide +kernel
theorem dX5_change_39 : decode cX5_change 39 = .ok (.aload_n 0, 1) := by decide +kernel
theorem dX5_change_40 : decode cX5_change 40 = .ok (.getfield 10, 3) := by decide +kernel
theorem dX5_change_43 : decode cX5_change 43 = .ok (.getfield 59, 3) := by decide +kernel
theorem dX5_change_46 : decode cX5_change 46 = .ok (.iload_n 1, 1) := by decide +kernel
theorem dX5_change_47 : decode cX5_change 47 = .ok (.iload_n 3, 1) := by decide +kernel
theorem dX5_change_48 : decode cX5_change 48 = .ok (.iastore, 1) := by decide +kernel
theorem dX5_change_49 : decode cX5_change 49 = .ok (.goto 31, 3) := by decide +kernel
theorem dX5_change_52 : decode cX5_change 52 = .ok (.iload_n 2, 1) := by decide +kernel
theorem dX5_change_53 : decode cX5_change 53 = .ok (.iconst 1, 1) := by decide +kernel
theorem dX5_change_54 : decode cX5_change 54 = .ok (.if_icmp .ne 16, 3) := by decide +kernel
theorem dX5_change_57 : decode cX5_change 57 = .ok (.aload_n 0, 1) := by decide +kernel
theorem dX5_change_58 : decode cX5_change 58 = .ok (.getfield 10, 3) := by decide +kernel
theorem dX5_change_61 : decode cX5_change 61 = .ok (.getfield 63, 3) := by decide +kernel
theorem dX5_change_64 : decode cX5_change 64 = .ok (.iload_n 1, 1) := by decide +kernel
theorem dX5_change_65 : decode cX5_change 65 = .ok (.iload_n 3, 1) := by decide +kernel
theorem dX5_change_66 : decode cX5_change 66 = .ok (.iastore, 1) := by decide +kernel
theorem dX5_change_67 : decode cX5_change 67 = .ok (.goto 13, 3) := by decide +kernel
theorem dX5_change_70 : decode cX5_change 70 = .ok (.aload_n 0, 1) := by decide +kernel
theorem dX5_change_71 : decode cX5_change 71 = .ok (.getfield 10, 3) := by decide +kernel
theorem dX5_change_74 : decode cX5_change 74 = .ok (.getfield 66, 3) := by decide +kernel
theorem dX5_change_77 : decode cX5_change 77 = .ok (.iload_n 1, 1) := by decide +kernel
theorem dX5_change_78 : decode cX5_change 78 = .ok (.iload_n 3, 1) := by decide +kernel
theorem dX5_change_79 : decode cX5_change 79 = .ok (.iastore, 1) := by decide +kernel
theorem dX5_change_80 : decode cX5_change 80 = .ok (.iload 4, 2) := by decide +kernel
theorem dX5_change_82 : decode cX5_change 82 = .ok (.ireturn, 1) := by decide +kernel
theorem dX5_high_0 : decode cX5_high 0 = .ok (.iload_n 1, 1) := by decide +kernel
theorem dX5_high_1 : decode cX5_high 1 = .ok (.bipush 6, 2) := by decide +kernel
theorem dX5_high_3 : decode cX5_high 3 = .ok (.if_icmp .lt 9, 3) := by decide +kernel
theorem dX5_high_6 : decode cX5_high 6 = .ok (.iload_n 1, 1) := by decide +kernel
theorem dX5_high_7 : decode cX5_high 7 = .ok (.bipush 20, 2) := by decide +kernel
theorem dX5_high_9 : decode cX5_high 9 = .ok (.if_icmp .le 6, 3) := by decide +kernel
theorem dX5_high_12 : decode cX5_high 12 = .ok (.bipush (-2), 2) := by decide +kernel
theorem dX5_high_14 : decode cX5_high 14 = .ok (.ireturn, 1) := by decide +kernel
theorem dX5_high_15 : decode cX5_high 15 = .ok (.aload_n 0, 1) := by decide +kernel
theorem dX5_high_16 : decode cX5_high 16 = .ok (.getfield 10, 3) := by decide +kernel
theorem dX5_high_19 : decode cX5_high 19 = .ok (.getfield 80, 3) := by decide +kernel
theorem dX5_high_22 : decode cX5_high 22 = .ok (.istore_n 2, 1) := by decide +kernel
theorem dX5_high_23 : decode cX5_high 23 = .ok (.aload_n 0, 1) := by decide +kernel
theorem dX5_high_24 : decode cX5_high 24 = .ok (.getfield 10, 3) := by decide +kernel
theorem dX5_high_27 : decode cX5_high 27 = .ok (.iload_n 1, 1) := by decide +kernel
theorem dX5_high_28 : decode cX5_high 28 = .ok (.putfield 80, 3) := by decide +kernel
theorem dX5_high_31 : decode cX5_high 31 = .ok (.iload_n 2, 1) := by decide +kernel
theorem dX5_high_32 : decode cX5_high 32 = .ok (.ireturn, 1) := by decide +kernel
set_option maxRecDepth 20000 in
theorem ggX5_of_X0_has : GoodIn wsX5_of wsX0_has := goodIn_r _ [6, 7, 23, 24, 25, 26, 27, 28, 29] (by decide +kernel) (by decide +kernel)
set_option maxRecDepth 20000 in
theorem gX5_of_X0_has : GoodIn wsX5_of (wsV RX5 72 RX0 yX0_has wsX0_has) := goodIn_app (goodIn_of _ (by decide +kernel)) ggX5_of_X0_has
set_option maxRecDepth 20000 in
theorem ggX5_of_X0_feature : GoodIn wsX5_of wsX0_feature := goodIn_r _ [11, 12, 13, 14, 15, 23, 24, 25, 26, 27, 28, 29] (by decide +kernel) (by decide +kernel)
set_option maxRecDepth 20000 in
theorem gX5_of_X0_feature : GoodIn wsX5_of (wsV RX5 76 RX0 yX0_feature wsX0_feature) := goodIn_app (goodIn_of _ (by decide +kernel)) ggX5_of_X0_feature
theorem dX5_of_0 : decode cX5_of 0 = .ok (.aload_n 0, 1) := by decide +kernel
theorem dX5_of_1 : decode cX5_of 1 = .ok (.getfield 10, 3) := by decide +kernel
theorem dX5_of_4 : decode cX5_of 4 = .ok (.iload_n 1, 1) := by decide +kernel
theorem dX5_of_5 : decode cX5_of 5 = .ok (.invokevirtual 72, 3) := by decide +kernel
theorem dX5_of_8 : decode cX5_of 8 = .ok (.ifCond .ne 5, 3) := by decide +kernel
theorem dX5_of_11 : decode cX5_of 11 = .ok (.iconst (-1), 1) := by decide +kernel
theorem dX5_of_12 : decode cX5_of 12 = .ok (.ireturn, 1) := by decide +kernel
theorem dX5_of_13 : decode cX5_of 13 = .ok (.iload_n 2, 1) := by decide +kernel
theorem dX5_of_14 : decode cX5_of 14 = .ok (.ifCond .lt 8, 3) := by decide +kernel
theorem dX5_of_17 : decode cX5_of 17 = .ok (.iload_n 2, 1) := by decide +kernel
theorem dX5_of_18 : decode cX5_of 18 = .ok (.iconst 3, 1) := by decide +kernel
theorem dX5_of_19 : decode cX5_of 19 = .ok (.if_icmp .le 6, 3) := by decide +kernel
theorem dX5_of_22 : decode cX5_of 22 = .ok (.bipush (-2), 2) := by decide +kernel
theorem dX5_of_24 : decode cX5_of 24 = .ok (.ireturn, 1) := by decide +kernel
theorem dX5_of_25 : decode cX5_of 25 = .ok (.aload_n 0, 1) := by decide +kernel
theorem dX5_of_26 : decode cX5_of 26 = .ok (.getfield 10, 3) := by decide +kernel
theorem dX5_of_29 : decode cX5_of 29 = .ok (.iload_n 1, 1) := by decide +kernel
theorem dX5_of_30 : decode cX5_of 30 = .ok (.iload_n 2, 1) := by decide +kernel
theorem dX5_of_31 : decode cX5_of 31 = .ok (.invokevirtual 76, 3) := by decide +kernel
theorem dX5_of_34 : decode cX5_of 34 = .ok (.ireturn, 1) := by decide +kernel
set_option maxRecDepth 20000 in
theorem ggX5_tier_X0_has : GoodIn wsX5_tier wsX0_has := goodIn_r _ [7, 8, 35, 36, 37, 38, 39, 40, 41] (by decide +kernel) (by decide +kernel)
set_option maxRecDepth 20000 in
theorem gX5_tier_X0_has : GoodIn wsX5_tier (wsV RX5 72 RX0 yX0_has wsX0_has) := goodIn_app (goodIn_of _ (by decide +kernel)) ggX5_tier_X0_has
set_option maxRecDepth 20000 in
theorem ggX5_tier_X0_tierHeight : GoodIn wsX5_tier wsX0_tierHeight := goodIn_r _ [12, 13, 14, 15, 16, 17, 35, 36, 37, 38, 39, 40, 41] (by decide +kernel) (by decide +kernel)
set_option maxRecDepth 20000 in
theorem gX5_tier_X0_tierHeight : GoodIn wsX5_tier (wsV RX5 83 RX0 yX0_tierHeight wsX0_tierHeight) := goodIn_app (goodIn_of _ (by decide +kernel)) ggX5_tier_X0_tierHeight
set_option maxRecDepth 20000 in
theorem ggX5_tier_X0_tierGaps : GoodIn wsX5_tier wsX0_tierGaps := goodIn_r _ [21, 13, 22, 10, 11, 6, 12, 14, 15, 16, 17, 35, 36, 37, 38, 39, 40, 41] (by decide +kernel) (by decide +kernel)
set_option maxRecDepth 20000 in
theorem gX5_tier_X0_tierGaps : GoodIn wsX5_tier (wsV RX5 86 RX0 yX0_tierGaps wsX0_tierGaps) := goodIn_app (goodIn_of _ (by decide +kernel)) ggX5_tier_X0_tierGaps
set_option maxRecDepth 20000 in
theorem ggX5_tier_X0_tierWidth : GoodIn wsX5_tier wsX0_tierWidth := goodIn_r _ [26, 27, 35, 36, 37, 38, 39, 40, 41] (by decide +kernel) (by decide +kernel)
set_option maxRecDepth 20000 in
theorem gX5_tier_X0_tierWidth : GoodIn wsX5_tier (wsV RX5 89 RX0 yX0_tierWidth wsX0_tierWidth) := goodIn_app (goodIn_of _ (by decide +kernel)) ggX5_tier_X0_tierWidth
theorem dX5_tier_0 : decode cX5_tier 0 = .ok (.aload_n 0, 1) := by decide +kernel
theorem dX5_tier_1 : decode cX5_tier 1 = .ok (.getfield 10, 3) := by decide +kernel
theorem dX5_tier_4 : decode cX5_tier 4 = .ok (.iload_n 1, 1) := by decide +kernel
theorem dX5_tier_5 : decode cX5_tier 5 = .ok (.invokevirtual 72, 3) := by decide +kernel
theorem dX5_tier_8 : decode cX5_tier 8 = .ok (.ifCond .ne 5, 3) := by decide +kernel
theorem dX5_tier_11 : decode cX5_tier 11 = .ok (.iconst (-1), 1) := by decide +kernel
theorem dX5_tier_12 : decode cX5_tier 12 = .ok (.ireturn, 1) := by decide +kernel
theorem dX5_tier_13 : decode cX5_tier 13 = .ok (.iload_n 2, 1) := by decide +kernel
theorem dX5_tier_14 : decode cX5_tier 14 = .ok (.iconst 1, 1) := by decide +kernel
theorem dX5_tier_15 : decode cX5_tier 15 = .ok (.if_icmp .lt 21, 3) := by decide +kernel
theorem dX5_tier_18 : decode cX5_tier 18 = .ok (.iload_n 2, 1) := by decide +kernel
theorem dX5_tier_19 : decode cX5_tier 19 = .ok (.iconst 4, 1) := by decide +kernel
theorem dX5_tier_20 : decode cX5_tier 20 = .ok (.if_icmp .gt 16, 3) := by decide +kernel
theorem dX5_tier_23 : decode cX5_tier 23 = .ok (.iload_n 1, 1) := by decide +kernel
theorem dX5_tier_24 : decode cX5_tier 24 = .ok (.iload_n 2, 1) := by decide +kernel
theorem dX5_tier_25 : decode cX5_tier 25 = .ok (.iadd, 1) := by decide +kernel
theorem dX5_tier_26 : decode cX5_tier 26 = .ok (.aload_n 0, 1) := by decide +kernel
theorem dX5_tier_27 : decode cX5_tier 27 = .ok (.getfield 10, 3) := by decide +kernel
theorem dX5_tier_30 : decode cX5_tier 30 = .ok (.getfield 56, 3) := by decide +kernel
theorem dX5_tier_33 : decode cX5_tier 33 = .ok (.if_icmp .le 6, 3) := by decide +kernel
theorem dX5_tier_36 : decode cX5_tier 36 = .ok (.bipush (-2), 2) := by decide +kernel
theorem dX5_tier_38 : decode cX5_tier 38 = .ok (.ireturn, 1) := by decide +kernel
theorem dX5_tier_39 : decode cX5_tier 39 = .ok (.iload_n 3, 1) := by decide +kernel
theorem dX5_tier_40 : decode cX5_tier 40 = .ok (.ifCond .ne 13, 3) := by decide +kernel
theorem dX5_tier_43 : decode cX5_tier 43 = .ok (.aload_n 0, 1) := by decide +kernel
theorem dX5_tier_44 : decode cX5_tier 44 = .ok (.getfield 10, 3) := by decide +kernel
theorem dX5_tier_47 : decode cX5_tier 47 = .ok (.iload_n 1, 1) := by decide +kernel
theorem dX5_tier_48 : decode cX5_tier 48 = .ok (.iload_n 2, 1) := by decide +kernel
theorem dX5_tier_49 : decode cX5_tier 49 = .ok (.invokevirtual 83, 3) := by decide +kernel
theorem dX5_tier_52 : decode cX5_tier 52 = .ok (.ireturn, 1) := by decide +kernel
theorem dX5_tier_53 : decode cX5_tier 53 = .ok (.iload_n 3, 1) := by decide +kernel
theorem dX5_tier_54 : decode cX5_tier 54 = .ok (.iconst 1, 1) := by decide +kernel
theorem dX5_tier_55 : decode cX5_tier 55 = .ok (.if_icmp .ne 13, 3) := by decide +kernel
theorem dX5_tier_58 : decode cX5_tier 58 = .ok (.aload_n 0, 1) := by decide +kernel
theorem dX5_tier_59 : decode cX5_tier 59 = .ok (.getfield 10, 3) := by decide +kernel
theorem dX5_tier_62 : decode cX5_tier 62 = .ok (.iload_n 1, 1) := by decide +kernel
theorem dX5_tier_63 : decode cX5_tier 63 = .ok (.iload_n 2, 1) := by decide +kernel
theorem dX5_tier_64 : decode cX5_tier 64 = .ok (.invokevirtual 86, 3) := by decide +kernel
theorem dX5_tier_67 : decode cX5_tier 67 = .ok (.ireturn, 1) := by decide +kernel
theorem dX5_tier_68 : decode cX5_tier 68 = .ok (.iload_n 3, 1) := by decide +kernel
theorem dX5_tier_69 : decode cX5_tier 69 = .ok (.bipush 10, 2) := by decide +kernel
theorem dX5_tier_71 : decode cX5_tier 71 = .ok (.if_icmp .lt 11, 3) := by decide +kernel
theorem dX5_tier_74 : decode cX5_tier 74 = .ok (.iload_n 3, 1) := by decide +kernel
theorem dX5_tier_75 : decode cX5_tier 75 = .ok (.bipush 10, 2) := by decide +kernel
theorem dX5_tier_77 : decode cX5_tier 77 = .ok (.iload_n 2, 1) := by decide +kernel
theorem dX5_tier_78 : decode cX5_tier 78 = .ok (.iadd, 1) := by decide +kernel
theorem dX5_tier_79 : decode cX5_tier 79 = .ok (.if_icmp .lt 6, 3) := by decide +kernel
theorem dX5_tier_82 : decode cX5_tier 82 = .ok (.bipush (-2), 2) := by decide +kernel
theorem dX5_tier_84 : decode cX5_tier 84 = .ok (.ireturn, 1) := by decide +kernel
theorem dX5_tier_85 : decode cX5_tier 85 = .ok (.aload_n 0, 1) := by decide +kernel
theorem dX5_tier_86 : decode cX5_tier 86 = .ok (.getfield 10, 3) := by decide +kernel
theorem dX5_tier_89 : decode cX5_tier 89 = .ok (.iload_n 1, 1) := by decide +kernel
theorem dX5_tier_90 : decode cX5_tier 90 = .ok (.iload_n 2, 1) := by decide +kernel
theorem dX5_tier_91 : decode cX5_tier 91 = .ok (.iload_n 3, 1) := by decide +kernel
theorem dX5_tier_92 : decode cX5_tier 92 = .ok (.bipush 10, 2) := by decide +kernel
theorem dX5_tier_94 : decode cX5_tier 94 = .ok (.isub, 1) := by decide +kernel
theorem dX5_tier_95 : decode cX5_tier 95 = .ok (.invokevirtual 89, 3) := by decide +kernel
theorem dX5_tier_98 : decode cX5_tier 98 = .ok (.ireturn, 1) := by decide +kernel
theorem dX5_isFeature_0 : decode cX5_isFeature 0 = .ok (.iload_n 0, 1) := by decide +kernel
theorem dX5_isFeature_1 : decode cX5_isFeature 1 = .ok (.tableswitch 76 0 2 #[27, 44, 61], 27) := by decide +kernel
theorem dX5_isFeature_28 : decode cX5_isFeature 28 = .ok (.iload_n 1, 1) := by decide +kernel
theorem dX5_isFeature_29 : decode cX5_isFeature 29 = .ok (.iconst 1, 1) := by decide +kernel
theorem dX5_isFeature_30 : decode cX5_isFeature 30 = .ok (.if_icmp .lt 13, 3) := by decide +kernel
theorem dX5_isFeature_33 : decode cX5_isFeature 33 = .ok (.iload_n 1, 1) := by decide +kernel
theorem dX5_isFeature_34 : decode cX5_isFeature 34 = .ok (.bipush 9, 2) := by decide +kernel
theorem dX5_isFeature_36 : decode cX5_isFeature 36 = .ok (.if_icmp .gt 7, 3) := by decide +kernel
theorem dX5_isFeature_39 : decode cX5_isFeature 39 = .ok (.iconst 1, 1) := by decide +kernel
theorem dX5_isFeature_40 : decode cX5_isFeature 40 = .ok (.goto 4, 3) := by decide +kernel
theorem dX5_isFeature_43 : decode cX5_isFeature 43 = .ok (.iconst 0, 1) := by decide +kernel
theorem dX5_isFeature_44 : decode cX5_isFeature 44 = .ok (.ireturn, 1) := by decide +kernel
theorem dX5_isFeature_45 : decode cX5_isFeature 45 = .ok (.iload_n 1, 1) := by decide +kernel
theorem dX5_isFeature_46 : decode cX5_isFeature 46 = .ok (.iconst 1, 1) := by decide +kernel
theorem dX5_isFeature_47 : decode cX5_isFeature 47 = .ok (.if_icmp .lt 13, 3) := by decide +kernel
theorem dX5_isFeature_50 : decode cX5_isFeature 50 = .ok (.iload_n 1, 1) := by decide +kernel
theorem dX5_isFeature_51 : decode cX5_isFeature 51 = .ok (.bipush 6, 2) := by decide +kernel
theorem dX5_isFeature_53 : decode cX5_isFeature 53 = .ok (.if_icmp .gt 7, 3) := by decide +kernel
theorem dX5_isFeature_56 : decode cX5_isFeature 56 = .ok (.iconst 1, 1) := by decide +kernel
theorem dX5_isFeature_57 : decode cX5_isFeature 57 = .ok (.goto 4, 3) := by decide +kernel
theorem dX5_isFeature_60 : decode cX5_isFeature 60 = .ok (.iconst 0, 1) := by decide +kernel
theorem dX5_isFeature_61 : decode cX5_isFeature 61 = .ok (.ireturn, 1) := by decide +kernel
theorem dX5_isFeature_62 : decode cX5_isFeature 62 = .ok (.iload_n 1, 1) := by decide +kernel
theorem dX5_isFeature_63 : decode cX5_isFeature 63 = .ok (.ifCond .lt 12, 3) := by decide +kernel
theorem dX5_isFeature_66 : decode cX5_isFeature 66 = .ok (.iload_n 1, 1) := by decide +kernel
theorem dX5_isFeature_67 : decode cX5_isFeature 67 = .ok (.iconst 3, 1) := by decide +kernel
theorem dX5_isFeature_68 : decode cX5_isFeature 68 = .ok (.if_icmp .gt 7, 3) := by decide +kernel
theorem dX5_isFeature_71 : decode cX5_isFeature 71 = .ok (.iconst 1, 1) := by decide +kernel
theorem dX5_isFeature_72 : decode cX5_isFeature 72 = .ok (.goto 4, 3) := by decide +kernel
theorem dX5_isFeature_75 : decode cX5_isFeature 75 = .ok (.iconst 0, 1) := by decide +kernel
theorem dX5_isFeature_76 : decode cX5_isFeature 76 = .ok (.ireturn, 1) := by decide +kernel
theorem dX5_isFeature_77 : decode cX5_isFeature 77 = .ok (.iconst 0, 1) := by decide +kernel
theorem dX5_isFeature_78 : decode cX5_isFeature 78 = .ok (.ireturn, 1) := by decide +kernel
set_option maxRecDepth 20000 in
theorem ggX5_say_X2_add : GoodIn wsX5_say wsX2_add := goodIn_r _ [7, 8, 9, 17, 18] (by decide +kernel) (by decide +kernel)
set_option maxRecDepth 20000 in
theorem gX5_say_X2_add : GoodIn wsX5_say (wsV RX5 96 RX2 yX2_add wsX2_add) := goodIn_app (goodIn_of _ (by decide +kernel)) ggX5_say_X2_add
