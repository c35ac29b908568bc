theorem dX6_tryOne_0 : decode cX6_tryOne 0 = .ok (.aload_n 0, 1) := by decide +kernel
theorem dX6_tryOne_1 : decode cX6_tryOne 1 = .ok (.iload_n 1, 1) := by decide +kernel
theorem dX6_tryOne_2 : decode cX6_tryOne 2 = .ok (.invokevirtual 147, 3) := by decide +kernel
theorem dX6_tryOne_5 : decode cX6_tryOne 5 = .ok (.aload_n 0, 1) := by decide +kernel
theorem dX6_tryOne_6 : decode cX6_tryOne 6 = .ok (.invokevirtual 134, 3) := by decide +kernel
theorem dX6_tryOne_9 : decode cX6_tryOne 9 = .ok (.ifCond .lt 4, 3) := by decide +kernel
theorem dX6_tryOne_12 : decode cX6_tryOne 12 = .ok (.return_, 1) := by decide +kernel
theorem dX6_tryOne_13 : decode cX6_tryOne 13 = .ok (.aload_n 0, 1) := by decide +kernel
theorem dX6_tryOne_14 : decode cX6_tryOne 14 = .ok (.dup, 1) := by decide +kernel
theorem dX6_tryOne_15 : decode cX6_tryOne 15 = .ok (.getfield 150, 3) := by decide +kernel
theorem dX6_tryOne_18 : decode cX6_tryOne 18 = .ok (.iconst 1, 1) := by decide +kernel
theorem dX6_tryOne_19 : decode cX6_tryOne 19 = .ok (.iadd, 1) := by decide +kernel
theorem dX6_tryOne_20 : decode cX6_tryOne 20 = .ok (.putfield 150, 3) := by decide +kernel
theorem dX6_tryOne_23 : decode cX6_tryOne 23 = .ok (.aload_n 0, 1) := by decide +kernel
theorem dX6_tryOne_24 : decode cX6_tryOne 24 = .ok (.getfield 153, 3) := by decide +kernel
theorem dX6_tryOne_27 : decode cX6_tryOne 27 = .ok (.ifCond .lt 14, 3) := by decide +kernel
theorem dX6_tryOne_30 : decode cX6_tryOne 30 = .ok (.aload_n 0, 1) := by decide +kernel
theorem dX6_tryOne_31 : decode cX6_tryOne 31 = .ok (.getfield 107, 3) := by decide +kernel
theorem dX6_tryOne_34 : decode cX6_tryOne 34 = .ok (.aload_n 0, 1) := by decide +kernel
theorem dX6_tryOne_35 : decode cX6_tryOne 35 = .ok (.getfield 156, 3) := by decide +kernel
theorem dX6_tryOne_38 : decode cX6_tryOne 38 = .ok (.if_icmp .ge 29, 3) := by decide +kernel
theorem dX6_tryOne_41 : decode cX6_tryOne 41 = .ok (.aload_n 0, 1) := by decide +kernel
theorem dX6_tryOne_42 : decode cX6_tryOne 42 = .ok (.aload_n 0, 1) := by decide +kernel
theorem dX6_tryOne_43 : decode cX6_tryOne 43 = .ok (.getfield 107, 3) := by decide +kernel
theorem dX6_tryOne_46 : decode cX6_tryOne 46 = .ok (.putfield 156, 3) := by decide +kernel
theorem dX6_tryOne_49 : decode cX6_tryOne 49 = .ok (.aload_n 0, 1) := by decide +kernel
theorem dX6_tryOne_50 : decode cX6_tryOne 50 = .ok (.iconst 0, 1) := by decide +kernel
theorem dX6_tryOne_51 : decode cX6_tryOne 51 = .ok (.putfield 159, 3) := by decide +kernel
theorem dX6_tryOne_54 : decode cX6_tryOne 54 = .ok (.aload_n 0, 1) := by decide +kernel
theorem dX6_tryOne_55 : decode cX6_tryOne 55 = .ok (.iload_n 1, 1) := by decide +kernel
theorem dX6_tryOne_56 : decode cX6_tryOne 56 = .ok (.putfield 153, 3) := by decide +kernel
theorem dX6_tryOne_59 : decode cX6_tryOne 59 = .ok (.aload_n 0, 1) := by decide +kernel
theorem dX6_tryOne_60 : decode cX6_tryOne 60 = .ok (.aload_n 0, 1) := by decide +kernel
theorem dX6_tryOne_61 : decode cX6_tryOne 61 = .ok (.getfield 94, 3) := by decide +kernel
theorem dX6_tryOne_64 : decode cX6_tryOne 64 = .ok (.putfield 162, 3) := by decide +kernel
theorem dX6_tryOne_67 : decode cX6_tryOne 67 = .ok (.aload_n 0, 1) := by decide +kernel
theorem dX6_tryOne_68 : decode cX6_tryOne 68 = .ok (.getfield 107, 3) := by decide +kernel
theorem dX6_tryOne_71 : decode cX6_tryOne 71 = .ok (.aload_n 0, 1) := by decide +kernel
theorem dX6_tryOne_72 : decode cX6_tryOne 72 = .ok (.getfield 156, 3) := by decide +kernel
theorem dX6_tryOne_75 : decode cX6_tryOne 75 = .ok (.if_icmp .ne 62, 3) := by decide +kernel
theorem dX6_tryOne_78 : decode cX6_tryOne 78 = .ok (.aload_n 0, 1) := by decide +kernel
theorem dX6_tryOne_79 : decode cX6_tryOne 79 = .ok (.dup, 1) := by decide +kernel
theorem dX6_tryOne_80 : decode cX6_tryOne 80 = .ok (.getfield 159, 3) := by decide +kernel
theorem dX6_tryOne_83 : decode cX6_tryOne 83 = .ok (.iconst 1, 1) := by decide +kernel
theorem dX6_tryOne_84 : decode cX6_tryOne 84 = .ok (.iadd, 1) := by decide +kernel
theorem dX6_tryOne_85 : decode cX6_tryOne 85 = .ok (.putfield 159, 3) := by decide +kernel
theorem dX6_tryOne_88 : decode cX6_tryOne 88 = .ok (.aload_n 0, 1) := by decide +kernel
theorem dX6_tryOne_89 : decode cX6_tryOne 89 = .ok (.aload_n 0, 1) := by decide +kernel
theorem dX6_tryOne_90 : decode cX6_tryOne 90 = .ok (.getfield 94, 3) := by decide +kernel
theorem dX6_tryOne_93 : decode cX6_tryOne 93 = .ok (.aload_n 0, 1) := by decide +kernel
theorem dX6_tryOne_94 : decode cX6_tryOne 94 = .ok (.getfield 162, 3) := by decide +kernel
theorem dX6_tryOne_97 : decode cX6_tryOne 97 = .ok (.if_icmp .ge 7, 3) := by decide +kernel
theorem dX6_tryOne_100 : decode cX6_tryOne 100 = .ok (.iload_n 1, 1) := by decide +kernel
theorem dX6_tryOne_101 : decode cX6_tryOne 101 = .ok (.goto 7, 3) := by decide +kernel
theorem dX6_tryOne_104 : decode cX6_tryOne 104 = .ok (.aload_n 0, 1) := by decide +kernel
theorem dX6_tryOne_105 : decode cX6_tryOne 105 = .ok (.getfield 153, 3) := by decide +kernel
theorem dX6_tryOne_108 : decode cX6_tryOne 108 = .ok (.putfield 153, 3) := by decide +kernel
theorem dX6_tryOne_111 : decode cX6_tryOne 111 = .ok (.aload_n 0, 1) := by decide +kernel
theorem dX6_tryOne_112 : decode cX6_tryOne 112 = .ok (.aload_n 0, 1) := by decide +kernel
theorem dX6_tryOne_113 : decode cX6_tryOne 113 = .ok (.getfield 94, 3) := by decide +kernel
theorem dX6_tryOne_116 : decode cX6_tryOne 116 = .ok (.aload_n 0, 1) := by decide +kernel
theorem dX6_tryOne_117 : decode cX6_tryOne 117 = .ok (.getfield 162, 3) := by decide +kernel
theorem dX6_tryOne_120 : decode cX6_tryOne 120 = .ok (.if_icmp .ge 10, 3) := by decide +kernel
theorem dX6_tryOne_123 : decode cX6_tryOne 123 = .ok (.aload_n 0, 1) := by decide +kernel
theorem dX6_tryOne_124 : decode cX6_tryOne 124 = .ok (.getfield 94, 3) := by decide +kernel
theorem dX6_tryOne_127 : decode cX6_tryOne 127 = .ok (.goto 7, 3) := by decide +kernel
theorem dX6_tryOne_130 : decode cX6_tryOne 130 = .ok (.aload_n 0, 1) := by decide +kernel
theorem dX6_tryOne_131 : decode cX6_tryOne 131 = .ok (.getfield 162, 3) := by decide +kernel
theorem dX6_tryOne_134 : decode cX6_tryOne 134 = .ok (.putfield 162, 3) := by decide +kernel
theorem dX6_tryOne_137 : decode cX6_tryOne 137 = .ok (.return_, 1) := by decide +kernel
set_option maxRecDepth 20000 in
theorem ggX6_tryAll_X6_many : GoodIn wsX6_tryAll wsX6_many := goodIn_r _ [10, 11, 79, 80, 81, 82, 83, 84, 85, 86, 87, 88, 89, 90, 91, 92, 93, 94, 95, 96, 97, 98, 99, 100, 101, 102, 103, 104, 105, 106, 107] (by decide +kernel) (by decide +kernel)
set_option maxRecDepth 20000 in
theorem gX6_tryAll_X6_many : GoodIn wsX6_tryAll (wsV RX6 47 RX6 yX6_many wsX6_many) := goodIn_app (goodIn_of _ (by decide +kernel)) ggX6_tryAll_X6_many
set_option maxRecDepth 20000 in
theorem ggX6_tryAll_X6_tryOne : GoodIn wsX6_tryAll wsX6_tryOne := goodIn_r _ [15, 1, 5, 16, 2, 3, 17, 4, 18, 19, 20, 9, 21, 22, 6, 7, 8, 10, 11, 23, 24, 25, 26, 27, 28, 29, 30, 31, 32, 33, 34, 35, 36, 37, 38, 39, 40, 41, 42, 43, 44, 45, 46, 47, 48, 49, 50, 51, 52, 53, 54, 55, 56, 57, 58, 59, 60, 61, 62, 63, 64, 65, 66, 67, 68, 69, 70, 71, 72, 73, 74, 75, 76, 77, 78, 79, 80, 81, 82, 83, 84, 85, 86, 87, 88, 89, 90, 91, 92, 93, 94, 95, 96, 97, 98, 99, 100, 101, 102, 103, 104, 105, 106, 107] (by decide +kernel) (by decide +kernel)
set_option maxRecDepth 20000 in
theorem gX6_tryAll_X6_tryOne : GoodIn wsX6_tryAll (wsV RX6 165 RX6 yX6_tryOne wsX6_tryOne) := goodIn_app (goodIn_of _ (by decide +kernel)) ggX6_tryAll_X6_tryOne
theorem dX6_tryAll_0 : decode cX6_tryAll 0 = .ok (.aload_n 0, 1) := by decide +kernel
theorem dX6_tryAll_1 : decode cX6_tryAll 1 = .ok (.iconst 0, 1) := by decide +kernel
theorem dX6_tryAll_2 : decode cX6_tryAll 2 = .ok (.putfield 150, 3) := by decide +kernel
theorem dX6_tryAll_5 : decode cX6_tryAll 5 = .ok (.aload_n 0, 1) := by decide +kernel
theorem dX6_tryAll_6 : decode cX6_tryAll 6 = .ok (.bipush (-6), 2) := by decide +kernel
theorem dX6_tryAll_8 : decode cX6_tryAll 8 = .ok (.putfield 156, 3) := by decide +kernel
theorem dX6_tryAll_11 : decode cX6_tryAll 11 = .ok (.aload_n 0, 1) := by decide +kernel
theorem dX6_tryAll_12 : decode cX6_tryAll 12 = .ok (.bipush (-6), 2) := by decide +kernel
theorem dX6_tryAll_14 : decode cX6_tryAll 14 = .ok (.putfield 159, 3) := by decide +kernel
theorem dX6_tryAll_17 : decode cX6_tryAll 17 = .ok (.aload_n 0, 1) := by decide +kernel
theorem dX6_tryAll_18 : decode cX6_tryAll 18 = .ok (.bipush (-6), 2) := by decide +kernel
theorem dX6_tryAll_20 : decode cX6_tryAll 20 = .ok (.putfield 162, 3) := by decide +kernel
theorem dX6_tryAll_23 : decode cX6_tryAll 23 = .ok (.aload_n 0, 1) := by decide +kernel
theorem dX6_tryAll_24 : decode cX6_tryAll 24 = .ok (.bipush (-6), 2) := by decide +kernel
theorem dX6_tryAll_26 : decode cX6_tryAll 26 = .ok (.putfield 153, 3) := by decide +kernel
theorem dX6_tryAll_29 : decode cX6_tryAll 29 = .ok (.iconst 1, 1) := by decide +kernel
theorem dX6_tryAll_30 : decode cX6_tryAll 30 = .ok (.istore_n 1, 1) := by decide +kernel
theorem dX6_tryAll_31 : decode cX6_tryAll 31 = .ok (.iconst 0, 1) := by decide +kernel
theorem dX6_tryAll_32 : decode cX6_tryAll 32 = .ok (.istore_n 2, 1) := by decide +kernel
theorem dX6_tryAll_33 : decode cX6_tryAll 33 = .ok (.iload_n 2, 1) := by decide +kernel
theorem dX6_tryAll_34 : decode cX6_tryAll 34 = .ok (.aload_n 0, 1) := by decide +kernel
theorem dX6_tryAll_35 : decode cX6_tryAll 35 = .ok (.invokevirtual 47, 3) := by decide +kernel
theorem dX6_tryAll_38 : decode cX6_tryAll 38 = .ok (.if_icmp .ge 13, 3) := by decide +kernel
theorem dX6_tryAll_41 : decode cX6_tryAll 41 = .ok (.iload_n 1, 1) := by decide +kernel
theorem dX6_tryAll_42 : decode cX6_tryAll 42 = .ok (.iconst 3, 1) := by decide +kernel
theorem dX6_tryAll_43 : decode cX6_tryAll 43 = .ok (.imul, 1) := by decide +kernel
theorem dX6_tryAll_44 : decode cX6_tryAll 44 = .ok (.istore_n 1, 1) := by decide +kernel
theorem dX6_tryAll_45 : decode cX6_tryAll 45 = .ok (.iinc 2 1, 3) := by decide +kernel
theorem dX6_tryAll_48 : decode cX6_tryAll 48 = .ok (.goto (-15), 3) := by decide +kernel
theorem dX6_tryAll_51 : decode cX6_tryAll 51 = .ok (.iconst 0, 1) := by decide +kernel
theorem dX6_tryAll_52 : decode cX6_tryAll 52 = .ok (.istore_n 2, 1) := by decide +kernel
theorem dX6_tryAll_53 : decode cX6_tryAll 53 = .ok (.iload_n 2, 1) := by decide +kernel
theorem dX6_tryAll_54 : decode cX6_tryAll 54 = .ok (.iload_n 1, 1) := by decide +kernel
theorem dX6_tryAll_55 : decode cX6_tryAll 55 = .ok (.if_icmp .ge 14, 3) := by decide +kernel
theorem dX6_tryAll_58 : decode cX6_tryAll 58 = .ok (.aload_n 0, 1) := by decide +kernel
theorem dX6_tryAll_59 : decode cX6_tryAll 59 = .ok (.iload_n 2, 1) := by decide +kernel
theorem dX6_tryAll_60 : decode cX6_tryAll 60 = .ok (.invokevirtual 165, 3) := by decide +kernel
theorem dX6_tryAll_63 : decode cX6_tryAll 63 = .ok (.iinc 2 1, 3) := by decide +kernel
theorem dX6_tryAll_66 : decode cX6_tryAll 66 = .ok (.goto (-13), 3) := by decide +kernel
theorem dX6_tryAll_69 : decode cX6_tryAll 69 = .ok (.return_, 1) := by decide +kernel
set_option maxRecDepth 20000 in
theorem ggX6_bestFigure_X6_many : GoodIn wsX6_bestFigure wsX6_many := goodIn_r _ [7, 8, 13, 14, 15, 16, 17, 18, 19, 20, 21, 22, 23, 24, 25, 26, 27, 28, 29, 30, 31, 32, 33, 34, 35, 36, 37, 38, 39, 40, 41] (by decide +kernel) (by decide +kernel)
set_option maxRecDepth 20000 in
theorem gX6_bestFigure_X6_many : GoodIn wsX6_bestFigure (wsV RX6 47 RX6 yX6_many wsX6_many) := goodIn_app (goodIn_of _ (by decide +kernel)) ggX6_bestFigure_X6_many
set_option maxRecDepth 20000 in
theorem ggX6_bestFigure_X6_layNumber : GoodIn wsX6_bestFigure wsX6_layNumber := goodIn_r _ [12, 2, 3, 4, 5, 6, 7, 8, 13, 14, 15, 16, 17, 18, 19, 20, 21, 22, 23, 24, 25, 26, 27, 28, 29, 30, 31, 32, 33, 34, 35, 36, 37, 38, 39, 40, 41] (by decide +kernel) (by decide +kernel)
set_option maxRecDepth 20000 in
theorem gX6_bestFigure_X6_layNumber : GoodIn wsX6_bestFigure (wsV RX6 147 RX6 yX6_layNumber wsX6_layNumber) := goodIn_app (goodIn_of _ (by decide +kernel)) ggX6_bestFigure_X6_layNumber
theorem dX6_bestFigure_0 : decode cX6_bestFigure 0 = .ok (.aload_n 0, 1) := by decide +kernel
theorem dX6_bestFigure_1 : decode cX6_bestFigure 1 = .ok (.getfield 153, 3) := by decide +kernel
theorem dX6_bestFigure_4 : decode cX6_bestFigure 4 = .ok (.ifCond .lt 11, 3) := by decide +kernel
theorem dX6_bestFigure_7 : decode cX6_bestFigure 7 = .ok (.iload_n 1, 1) := by decide +kernel
theorem dX6_bestFigure_8 : decode cX6_bestFigure 8 = .ok (.aload_n 0, 1) := by decide +kernel
theorem dX6_bestFigure_9 : decode cX6_bestFigure 9 = .ok (.invokevirtual 47, 3) := by decide +kernel
theorem dX6_bestFigure_12 : decode cX6_bestFigure 12 = .ok (.if_icmp .lt 6, 3) := by decide +kernel
theorem dX6_bestFigure_15 : decode cX6_bestFigure 15 = .ok (.bipush (-6), 2) := by decide +kernel
theorem dX6_bestFigure_17 : decode cX6_bestFigure 17 = .ok (.ireturn, 1) := by decide +kernel
theorem dX6_bestFigure_18 : decode cX6_bestFigure 18 = .ok (.aload_n 0, 1) := by decide +kernel
theorem dX6_bestFigure_19 : decode cX6_bestFigure 19 = .ok (.aload_n 0, 1) := by decide +kernel
theorem dX6_bestFigure_20 : decode cX6_bestFigure 20 = .ok (.getfield 153, 3) := by decide +kernel
theorem dX6_bestFigure_23 : decode cX6_bestFigure 23 = .ok (.invokevirtual 147, 3) := by decide +kernel
theorem dX6_bestFigure_26 : decode cX6_bestFigure 26 = .ok (.aload_n 0, 1) := by decide +kernel
theorem dX6_bestFigure_27 : decode cX6_bestFigure 27 = .ok (.getfield 29, 3) := by decide +kernel
theorem dX6_bestFigure_30 : decode cX6_bestFigure 30 = .ok (.iload_n 1, 1) := by decide +kernel
theorem dX6_bestFigure_31 : decode cX6_bestFigure 31 = .ok (.iaload, 1) := by decide +kernel
theorem dX6_bestFigure_32 : decode cX6_bestFigure 32 = .ok (.ireturn, 1) := by decide +kernel
set_option maxRecDepth 20000 in
theorem ggX6_best_X6_in : GoodIn wsX6_best wsX6_in := goodIn_r _ [8] (by decide +kernel) (by decide +kernel)
set_option maxRecDepth 20000 in
theorem gX6_best_X6_in : GoodIn wsX6_best (va_wsS RX6 51 yX6_in wsX6_in) := goodIn_app (goodIn_of _ (by decide +kernel)) ggX6_best_X6_in
set_option maxRecDepth 20000 in
theorem ggX6_best_X6_tryAll : GoodIn wsX6_best wsX6_tryAll := goodIn_r _ [12, 3, 1, 4, 2, 13, 14, 15, 16, 7, 17, 18, 19, 20, 21, 22, 23, 24, 25, 26, 27, 28, 29, 30, 31, 32, 33, 34, 35, 36, 37, 38, 39, 40, 41, 42, 43, 44, 45, 46, 47, 48, 49, 50, 51, 52, 53, 54, 55, 56, 57, 58, 59, 60, 61, 62, 63, 64, 65, 66, 67, 68, 69, 70, 71, 72, 73, 74, 75, 76, 77, 78, 79, 80, 81, 82, 83, 84, 85, 90, 91, 92, 93, 94, 95, 96, 97, 98, 99, 100, 101, 102, 103, 104, 105, 106, 107, 108, 109, 110, 111, 112, 113, 114, 115, 116, 117, 118] (by decide +kernel) (by decide +kernel)
set_option maxRecDepth 20000 in
theorem gX6_best_X6_tryAll : GoodIn wsX6_best (wsV RX6 168 RX6 yX6_tryAll wsX6_tryAll) := goodIn_app (goodIn_of _ (by decide +kernel)) ggX6_best_X6_tryAll
set_option maxRecDepth 20000 in
theorem ggX6_best_X6_bestFigure : GoodIn wsX6_best wsX6_bestFigure := goodIn_r _ [89, 13, 29, 14, 15, 16, 7, 17, 18, 25, 26, 27, 28, 90, 91, 92, 93, 94, 95, 96, 97, 98, 99, 100, 101, 102, 103, 104, 105, 106, 107, 108, 109, 110, 111, 112, 113, 114, 115, 116, 117, 118] (by decide +kernel) (by decide +kernel)
set_option maxRecDepth 20000 in
theorem gX6_best_X6_bestFigure : GoodIn wsX6_best (wsV RX6 171 RX6 yX6_bestFigure wsX6_bestFigure) := goodIn_app (goodIn_of _ (by decide +kernel)) ggX6_best_X6_bestFigure
theorem dX6_best_0 : decode cX6_best 0 = .ok (.iload_n 1, 1) := by decide +kernel
theorem dX6_best_1 : decode cX6_best 1 = .ok (.iconst 0, 1) := by decide +kernel
theorem dX6_best_2 : decode cX6_best 2 = .ok (.iconst 3, 1) := by decide +kernel
theorem dX6_best_3 : decode cX6_best 3 = .ok (.invokestatic 51, 3) := by decide +kernel
theorem dX6_best_6 : decode cX6_best 6 = .ok (.ifCond .ne 17, 3) := by decide +kernel
theorem dX6_best_9 : decode cX6_best 9 = .ok (.iload_n 1, 1) := by decide +kernel
theorem dX6_best_10 : decode cX6_best 10 = .ok (.bipush 10, 2) := by decide +kernel
theorem dX6_best_12 : decode cX6_best 12 = .ok (.bipush 18, 2) := by decide +kernel
theorem dX6_best_14 : decode cX6_best 14 = .ok (.invokestatic 51, 3) := by decide +kernel
theorem dX6_best_17 : decode cX6_best 17 = .ok (.ifCond .ne 6, 3) := by decide +kernel
theorem dX6_best_20 : decode cX6_best 20 = .ok (.bipush (-2), 2) := by decide +kernel
theorem dX6_best_22 : decode cX6_best 22 = .ok (.ireturn, 1) := by decide +kernel
theorem dX6_best_23 : decode cX6_best 23 = .ok (.aload_n 0, 1) := by decide +kernel
theorem dX6_best_24 : decode cX6_best 24 = .ok (.invokevirtual 168, 3) := by decide +kernel
theorem dX6_best_27 : decode cX6_best 27 = .ok (.iload_n 1, 1) := by decide +kernel
theorem dX6_best_28 : decode cX6_best 28 = .ok (.tableswitch 52 0 3 #[32, 37, 42, 47], 32) := by decide +kernel
theorem dX6_best_60 : decode cX6_best 60 = .ok (.aload_n 0, 1) := by decide +kernel
theorem dX6_best_61 : decode cX6_best 61 = .ok (.getfield 156, 3) := by decide +kernel
theorem dX6_best_64 : decode cX6_best 64 = .ok (.ireturn, 1) := by decide +kernel
theorem dX6_best_65 : decode cX6_best 65 = .ok (.aload_n 0, 1) := by decide +kernel
theorem dX6_best_66 : decode cX6_best 66 = .ok (.getfield 162, 3) := by decide +kernel
theorem dX6_best_69 : decode cX6_best 69 = .ok (.ireturn, 1) := by decide +kernel
theorem dX6_best_70 : decode cX6_best 70 = .ok (.aload_n 0, 1) := by decide +kernel
theorem dX6_best_71 : decode cX6_best 71 = .ok (.getfield 150, 3) := by decide +kernel
theorem dX6_best_74 : decode cX6_best 74 = .ok (.ireturn, 1) := by decide +kernel
theorem dX6_best_75 : decode cX6_best 75 = .ok (.aload_n 0, 1) := by decide +kernel
theorem dX6_best_76 : decode cX6_best 76 = .ok (.getfield 159, 3) := by decide +kernel
theorem dX6_best_79 : decode cX6_best 79 = .ok (.ireturn, 1) := by decide +kernel
theorem dX6_best_80 : decode cX6_best 80 = .ok (.aload_n 0, 1) := by decide +kernel
theorem dX6_best_81 : decode cX6_best 81 = .ok (.iload_n 1, 1) := by decide +kernel
theorem dX6_best_82 : decode cX6_best 82 = .ok (.bipush 10, 2) := by decide +kernel
theorem dX6_best_84 : decode cX6_best 84 = .ok (.isub, 1) := by decide +kernel
theorem dX6_best_85 : decode cX6_best 85 = .ok (.invokevirtual 171, 3) := by decide +kernel
theorem dX6_best_88 : decode cX6_best 88 = .ok (.ireturn, 1) := by decide +kernel
set_option maxRecDepth 20000 in
theorem ggX6_lay_X6_tryAll : GoodIn wsX6_lay wsX6_tryAll := goodIn_r _ [9, 10, 11, 12, 13, 1, 14, 15, 16, 8, 17, 18, 19, 20, 21, 22, 23, 24, 25, 26, 27, 28, 4, 29, 30, 31, 32, 33, 34, 35, 36, 37, 38, 39, 40, 41, 42, 43, 44, 45, 46, 47, 48, 49, 50, 51, 52, 53, 54, 55, 56, 57, 58, 59, 60, 61, 62, 63, 64, 65, 66, 67, 68, 69, 70, 71, 72, 73, 74, 75, 76, 77, 78, 79, 80, 81, 82, 83, 84, 85, 86, 87, 88, 89, 90, 91, 92, 93, 94, 95, 96, 97, 98, 99, 100, 101, 102, 103, 104, 105, 106, 107, 108, 109, 110, 111, 112, 113] (by decide +kernel) (by decide +kernel)
set_option maxRecDepth 20000 in
theorem gX6_lay_X6_tryAll : GoodIn wsX6_lay (wsV RX6 168 RX6 yX6_tryAll wsX6_tryAll) := goodIn_app (goodIn_of _ (by decide +kernel)) ggX6_lay_X6_tryAll
set_option maxRecDepth 20000 in
theorem ggX6_lay_X6_layNumber : GoodIn wsX6_lay wsX6_layNumber := goodIn_r _ [28, 4, 14, 15, 16, 8, 17, 18, 85, 86, 87, 88, 89, 90, 91, 92, 93, 94, 95, 96, 97, 98, 99, 100, 101, 102, 103, 104, 105, 106, 107, 108, 109, 110, 111, 112, 113] (by decide +kernel) (by decide +kernel)
set_option maxRecDepth 20000 in
theorem gX6_lay_X6_layNumber : GoodIn wsX6_lay (wsV RX6 147 RX6 yX6_layNumber wsX6_layNumber) := goodIn_app (goodIn_of _ (by decide +kernel)) ggX6_lay_X6_layNumber
set_option maxRecDepth 20000 in
theorem ggX6_lay_X6_many : GoodIn wsX6_lay wsX6_many := goodIn_r _ [17, 18, 85, 86, 87, 88, 89, 90, 91, 92, 93, 94, 95, 96, 97, 98, 99, 100, 101, 102, 103, 104, 105, 106, 107, 108, 109, 110, 111, 112, 113] (by decide +kernel) (by decide +kernel)
set_option maxRecDepth 20000 in
theorem gX6_lay_X6_many : GoodIn wsX6_lay (wsV RX6 47 RX6 yX6_many wsX6_many) := goodIn_app (goodIn_of _ (by decide +kernel)) ggX6_lay_X6_many
theorem dX6_lay_0 : decode cX6_lay 0 = .ok (.aload_n 0, 1) := by decide +kernel
theorem dX6_lay_1 : decode cX6_lay 1 = .ok (.invokevirtual 168, 3) := by decide +kernel
theorem dX6_lay_4 : decode cX6_lay 4 = .ok (.aload_n 0, 1) := by decide +kernel
theorem dX6_lay_5 : decode cX6_lay 5 = .ok (.getfield 153, 3) := by decide +kernel
theorem dX6_lay_8 : decode cX6_lay 8 = .ok (.ifCond .ge 6, 3) := by decide +kernel
theorem dX6_lay_11 : decode cX6_lay 11 = .ok (.bipush (-5), 2) := by decide +kernel
theorem dX6_lay_13 : decode cX6_lay 13 = .ok (.ireturn, 1) := by decide +kernel
theorem dX6_lay_14 : decode cX6_lay 14 = .ok (.aload_n 0, 1) := by decide +kernel
theorem dX6_lay_15 : decode cX6_lay 15 = .ok (.aload_n 0, 1) := by decide +kernel
theorem dX6_lay_16 : decode cX6_lay 16 = .ok (.getfield 153, 3) := by decide +kernel
theorem dX6_lay_19 : decode cX6_lay 19 = .ok (.invokevirtual 147, 3) := by decide +kernel
theorem dX6_lay_22 : decode cX6_lay 22 = .ok (.aload_n 0, 1) := by decide +kernel
theorem dX6_lay_23 : decode cX6_lay 23 = .ok (.aload_n 0, 1) := by decide +kernel
theorem dX6_lay_24 : decode cX6_lay 24 = .ok (.invokevirtual 47, 3) := by decide +kernel
theorem dX6_lay_27 : decode cX6_lay 27 = .ok (.putfield 128, 3) := by decide +kernel
theorem dX6_lay_30 : decode cX6_lay 30 = .ok (.iconst 0, 1) := by decide +kernel
theorem dX6_lay_31 : decode cX6_lay 31 = .ok (.istore_n 1, 1) := by decide +kernel
theorem dX6_lay_32 : decode cX6_lay 32 = .ok (.iload_n 1, 1) := by decide +kernel
theorem dX6_lay_33 : decode cX6_lay 33 = .ok (.aload_n 0, 1) := by decide +kernel
theorem dX6_lay_34 : decode cX6_lay 34 = .ok (.getfield 128, 3) := by decide +kernel
theorem dX6_lay_37 : decode cX6_lay 37 = .ok (.if_icmp .ge 24, 3) := by decide +kernel
theorem dX6_lay_40 : decode cX6_lay 40 = .ok (.aload_n 0, 1) := by decide +kernel
theorem dX6_lay_41 : decode cX6_lay 41 = .ok (.getfield 20, 3) := by decide +kernel
theorem dX6_lay_44 : decode cX6_lay 44 = .ok (.iload_n 1, 1) := by decide +kernel
theorem dX6_lay_45 : decode cX6_lay 45 = .ok (.bipush 48, 2) := by decide +kernel
theorem dX6_lay_47 : decode cX6_lay 47 = .ok (.aload_n 0, 1) := by decide +kernel
theorem dX6_lay_48 : decode cX6_lay 48 = .ok (.getfield 29, 3) := by decide +kernel
theorem dX6_lay_51 : decode cX6_lay 51 = .ok (.iload_n 1, 1) := by decide +kernel
theorem dX6_lay_52 : decode cX6_lay 52 = .ok (.iaload, 1) := by decide +kernel
theorem dX6_lay_53 : decode cX6_lay 53 = .ok (.iadd, 1) := by decide +kernel
theorem dX6_lay_54 : decode cX6_lay 54 = .ok (.iastore, 1) := by decide +kernel
theorem dX6_lay_55 : decode cX6_lay 55 = .ok (.iinc 1 1, 3) := by decide +kernel
theorem dX6_lay_58 : decode cX6_lay 58 = .ok (.goto (-26), 3) := by decide +kernel
theorem dX6_lay_61 : decode cX6_lay 61 = .ok (.aload_n 0, 1) := by decide +kernel
theorem dX6_lay_62 : decode cX6_lay 62 = .ok (.getfield 128, 3) := by decide +kernel
theorem dX6_lay_65 : decode cX6_lay 65 = .ok (.ireturn, 1) := by decide +kernel
set_option maxRecDepth 20000 in
theorem ggX6_talk_X6_isPanel : GoodIn wsX6_talk wsX6_isPanel := goodIn_r _ [8, 9, 10, 11, 7, 12, 2, 13, 14, 15, 20, 21, 22, 23, 24, 25, 26, 27, 28, 29, 30, 31, 32, 33, 34, 35, 36, 37, 38, 39, 40, 41, 42, 43, 44, 45, 46, 47, 48] (by decide +kernel) (by decide +kernel)
set_option maxRecDepth 20000 in
theorem gX6_talk_X6_isPanel : GoodIn wsX6_talk (wsV RX6 59 RX6 yX6_isPanel wsX6_isPanel) := goodIn_app (goodIn_of _ (by decide +kernel)) ggX6_talk_X6_isPanel
set_option maxRecDepth 20000 in
theorem ggX6_talk_X6_hasFigures : GoodIn wsX6_talk wsX6_hasFigures := goodIn_r _ [19, 1, 3, 13, 14, 7, 15, 20, 21, 22, 23, 24, 25, 26, 27, 28, 29, 30, 31, 32, 33, 34, 35, 36, 37, 38, 39, 40, 41, 42, 43, 44, 45, 46, 47, 48] (by decide +kernel) (by decide +kernel)
set_option maxRecDepth 20000 in
theorem gX6_talk_X6_hasFigures : GoodIn wsX6_talk (wsV RX6 131 RX6 yX6_hasFigures wsX6_hasFigures) := goodIn_app (goodIn_of _ (by decide +kernel)) ggX6_talk_X6_hasFigures
theorem dX6_talk_0 : decode cX6_talk 0 = .ok (.aload_n 0, 1) := by decide +kernel
theorem dX6_talk_1 : decode cX6_talk 1 = .ok (.iload_n 1, 1) := by decide +kernel
theorem dX6_talk_2 : decode cX6_talk 2 = .ok (.invokevirtual 59, 3) := by decide +kernel
theorem dX6_talk_5 : decode cX6_talk 5 = .ok (.ifCond .ne 5, 3) := by decide +kernel
theorem dX6_talk_8 : decode cX6_talk 8 = .ok (.iconst (-1), 1) := by decide +kernel
theorem dX6_talk_9 : decode cX6_talk 9 = .ok (.ireturn, 1) := by decide +kernel
theorem dX6_talk_10 : decode cX6_talk 10 = .ok (.aload_n 0, 1) := by decide +kernel
theorem dX6_talk_11 : decode cX6_talk 11 = .ok (.getfield 128, 3) := by decide +kernel
theorem dX6_talk_14 : decode cX6_talk 14 = .ok (.iconst 4, 1) := by decide +kernel
theorem dX6_talk_15 : decode cX6_talk 15 = .ok (.if_icmp .gt 11, 3) := by decide +kernel
theorem dX6_talk_18 : decode cX6_talk 18 = .ok (.aload_n 0, 1) := by decide +kernel
theorem dX6_talk_19 : decode cX6_talk 19 = .ok (.iconst 3, 1) := by decide +kernel
theorem dX6_talk_20 : decode cX6_talk 20 = .ok (.invokevirtual 131, 3) := by decide +kernel
theorem dX6_talk_23 : decode cX6_talk 23 = .ok (.ifCond .ne 6, 3) := by decide +kernel
theorem dX6_talk_26 : decode cX6_talk 26 = .ok (.bipush (-7), 2) := by decide +kernel
theorem dX6_talk_28 : decode cX6_talk 28 = .ok (.ireturn, 1) := by decide +kernel
theorem dX6_talk_29 : decode cX6_talk 29 = .ok (.iconst 0, 1) := by decide +kernel
theorem dX6_talk_30 : decode cX6_talk 30 = .ok (.istore_n 2, 1) := by decide +kernel
theorem dX6_talk_31 : decode cX6_talk 31 = .ok (.iload_n 2, 1) := by decide +kernel
theorem dX6_talk_32 : decode cX6_talk 32 = .ok (.aload_n 0, 1) := by decide +kernel
theorem dX6_talk_33 : decode cX6_talk 33 = .ok (.getfield 128, 3) := by decide +kernel
theorem dX6_talk_36 : decode cX6_talk 36 = .ok (.if_icmp .ge 31, 3) := by decide +kernel
theorem dX6_talk_39 : decode cX6_talk 39 = .ok (.aload_n 0, 1) := by decide +kernel
theorem dX6_talk_40 : decode cX6_talk 40 = .ok (.getfield 7, 3) := by decide +kernel
theorem dX6_talk_43 : decode cX6_talk 43 = .ok (.bipush 36, 2) := by decide +kernel
theorem dX6_talk_45 : decode cX6_talk 45 = .ok (.iconst 4, 1) := by decide +kernel
theorem dX6_talk_46 : decode cX6_talk 46 = .ok (.iload_n 1, 1) := by decide +kernel
theorem dX6_talk_47 : decode cX6_talk 47 = .ok (.imul, 1) := by decide +kernel
theorem dX6_talk_48 : decode cX6_talk 48 = .ok (.iadd, 1) := by decide +kernel
theorem dX6_talk_49 : decode cX6_talk 49 = .ok (.iload_n 2, 1) := by decide +kernel
theorem dX6_talk_50 : decode cX6_talk 50 = .ok (.iadd, 1) := by decide +kernel
theorem dX6_talk_51 : decode cX6_talk 51 = .ok (.aload_n 0, 1) := by decide +kernel
theorem dX6_talk_52 : decode cX6_talk 52 = .ok (.getfield 20, 3) := by decide +kernel
theorem dX6_talk_55 : decode cX6_talk 55 = .ok (.iload_n 2, 1) := by decide +kernel
theorem dX6_talk_56 : decode cX6_talk 56 = .ok (.iaload, 1) := by decide +kernel
theorem dX6_talk_57 : decode cX6_talk 57 = .ok (.bipush 48, 2) := by decide +kernel
theorem dX6_talk_59 : decode cX6_talk 59 = .ok (.isub, 1) := by decide +kernel
theorem dX6_talk_60 : decode cX6_talk 60 = .ok (.iastore, 1) := by decide +kernel
theorem dX6_talk_61 : decode cX6_talk 61 = .ok (.iinc 2 1, 3) := by decide +kernel
theorem dX6_talk_64 : decode cX6_talk 64 = .ok (.goto (-33), 3) := by decide +kernel
theorem dX6_talk_67 : decode cX6_talk 67 = .ok (.aload_n 0, 1) := by decide +kernel
theorem dX6_talk_68 : decode cX6_talk 68 = .ok (.getfield 7, 3) := by decide +kernel
theorem dX6_talk_71 : decode cX6_talk 71 = .ok (.bipush 27, 2) := by decide +kernel
theorem dX6_talk_73 : decode cX6_talk 73 = .ok (.iload_n 1, 1) := by decide +kernel
theorem dX6_talk_74 : decode cX6_talk 74 = .ok (.iadd, 1) := by decide +kernel
theorem dX6_talk_75 : decode cX6_talk 75 = .ok (.aload_n 0, 1) := by decide +kernel
theorem dX6_talk_76 : decode cX6_talk 76 = .ok (.getfield 128, 3) := by decide +kernel
theorem dX6_talk_79 : decode cX6_talk 79 = .ok (.iastore, 1) := by decide +kernel
theorem dX6_talk_80 : decode cX6_talk 80 = .ok (.aload_n 0, 1) := by decide +kernel
theorem dX6_talk_81 : decode cX6_talk 81 = .ok (.iconst 0, 1) := by decide +kernel
theorem dX6_talk_82 : decode cX6_talk 82 = .ok (.putfield 128, 3) := by decide +kernel
theorem dX6_talk_85 : decode cX6_talk 85 = .ok (.aload_n 0, 1) := by decide +kernel
theorem dX6_talk_86 : decode cX6_talk 86 = .ok (.getfield 7, 3) := by decide +kernel
theorem dX6_talk_89 : decode cX6_talk 89 = .ok (.bipush 27, 2) := by decide +kernel
theorem dX6_talk_91 : decode cX6_talk 91 = .ok (.iload_n 1, 1) := by decide +kernel
theorem dX6_talk_92 : decode cX6_talk 92 = .ok (.iadd, 1) := by decide +kernel
theorem dX6_talk_93 : decode cX6_talk 93 = .ok (.iaload, 1) := by decide +kernel
theorem dX6_talk_94 : decode cX6_talk 94 = .ok (.ireturn, 1) := by decide +kernel
theorem dX6_speakerAt_0 : decode cX6_speakerAt 0 = .ok (.aload_n 0, 1) := by decide +kernel
theorem dX6_speakerAt_1 : decode cX6_speakerAt 1 = .ok (.getfield 7, 3) := by decide +kernel
theorem dX6_speakerAt_4 : decode cX6_speakerAt 4 = .ok (.bipush 36, 2) := by decide +kernel
theorem dX6_speakerAt_6 : decode cX6_speakerAt 6 = .ok (.iconst 4, 1) := by decide +kernel
theorem dX6_speakerAt_7 : decode cX6_speakerAt 7 = .ok (.iload_n 1, 1) := by decide +kernel
theorem dX6_speakerAt_8 : decode cX6_speakerAt 8 = .ok (.imul, 1) := by decide +kernel
theorem dX6_speakerAt_9 : decode cX6_speakerAt 9 = .ok (.iadd, 1) := by decide +kernel
theorem dX6_speakerAt_10 : decode cX6_speakerAt 10 = .ok (.iload_n 2, 1) := by decide +kernel
theorem dX6_speakerAt_11 : decode cX6_speakerAt 11 = .ok (.iadd, 1) := by decide +kernel
theorem dX6_speakerAt_12 : decode cX6_speakerAt 12 = .ok (.iaload, 1) := by decide +kernel
theorem dX6_speakerAt_13 : decode cX6_speakerAt 13 = .ok (.ireturn, 1) := by decide +kernel
set_option maxRecDepth 20000 in
theorem ggX6_speaker_X6_isPanel : GoodIn wsX6_speaker wsX6_isPanel := goodIn_r _ [6, 7, 8, 9, 5, 10, 1, 11, 12, 13, 18, 19, 20, 21, 22, 23, 24, 25, 26, 27, 28, 29, 30, 31, 32, 33, 34, 35, 36, 37, 38, 39, 40, 41, 42, 43, 44, 45, 46] (by decide +kernel) (by decide +kernel)
set_option maxRecDepth 20000 in
theorem gX6_speaker_X6_isPanel : GoodIn wsX6_speaker (wsV RX6 59 RX6 yX6_isPanel wsX6_isPanel) := goodIn_app (goodIn_of _ (by decide +kernel)) ggX6_speaker_X6_isPanel
set_option maxRecDepth 20000 in
theorem ggX6_speaker_X6_in : GoodIn wsX6_speaker wsX6_in := goodIn_r _ [13] (by decide +kernel) (by decide +kernel)
set_option maxRecDepth 20000 in
theorem gX6_speaker_X6_in : GoodIn wsX6_speaker (va_wsS RX6 51 yX6_in wsX6_in) := goodIn_app (goodIn_of _ (by decide +kernel)) ggX6_speaker_X6_in
set_option maxRecDepth 20000 in
theorem ggX6_speaker_X6_speakerAt : GoodIn wsX6_speaker wsX6_speakerAt := goodIn_r _ [17, 1, 18, 19, 20, 21, 22, 23, 24, 25, 26, 27, 28, 29, 30, 31, 32, 33, 34, 35, 36, 37, 38, 39, 40, 41, 42, 43, 44, 45, 46] (by decide +kernel) (by decide +kernel)
set_option maxRecDepth 20000 in
theorem gX6_speaker_X6_speakerAt : GoodIn wsX6_speaker (wsV RX6 174 RX6 yX6_speakerAt wsX6_speakerAt) := goodIn_app (goodIn_of _ (by decide +kernel)) ggX6_speaker_X6_speakerAt
theorem dX6_speaker_0 : decode cX6_speaker 0 = .ok (.aload_n 0, 1) := by decide +kernel
theorem dX6_speaker_1 : decode cX6_speaker 1 = .ok (.iload_n 1, 1) := by decide +kernel
theorem dX6_speaker_2 : decode cX6_speaker 2 = .ok (.invokevirtual 59, 3) := by decide +kernel
theorem dX6_speaker_5 : decode cX6_speaker 5 = .ok (.ifCond .ne 5, 3) := by decide +kernel
theorem dX6_speaker_8 : decode cX6_speaker 8 = .ok (.iconst (-1), 1) := by decide +kernel
theorem dX6_speaker_9 : decode cX6_speaker 9 = .ok (.ireturn, 1) := by decide +kernel
theorem dX6_speaker_10 : decode cX6_speaker 10 = .ok (.iload_n 2, 1) := by decide +kernel
theorem dX6_speaker_11 : decode cX6_speaker 11 = .ok (.iconst 0, 1) := by decide +kernel
theorem dX6_speaker_12 : decode cX6_speaker 12 = .ok (.aload_n 0, 1) := by decide +kernel
theorem dX6_speaker_13 : decode cX6_speaker 13 = .ok (.getfield 7, 3) := by decide +kernel
theorem dX6_speaker_16 : decode cX6_speaker 16 = .ok (.bipush 27, 2) := by decide +kernel
theorem dX6_speaker_18 : decode cX6_speaker 18 = .ok (.iload_n 1, 1) := by decide +kernel
theorem dX6_speaker_19 : decode cX6_speaker 19 = .ok (.iadd, 1) := by decide +kernel
theorem dX6_speaker_20 : decode cX6_speaker 20 = .ok (.iaload, 1) := by decide +kernel
theorem dX6_speaker_21 : decode cX6_speaker 21 = .ok (.iconst 1, 1) := by decide +kernel
theorem dX6_speaker_22 : decode cX6_speaker 22 = .ok (.isub, 1) := by decide +kernel
theorem dX6_speaker_23 : decode cX6_speaker 23 = .ok (.invokestatic 51, 3) := by decide +kernel
theorem dX6_speaker_26 : decode cX6_speaker 26 = .ok (.ifCond .eq 12, 3) := by decide +kernel
theorem dX6_speaker_29 : decode cX6_speaker 29 = .ok (.aload_n 0, 1) := by decide +kernel
theorem dX6_speaker_30 : decode cX6_speaker 30 = .ok (.iload_n 1, 1) := by decide +kernel
theorem dX6_speaker_31 : decode cX6_speaker 31 = .ok (.iload_n 2, 1) := by decide +kernel
theorem dX6_speaker_32 : decode cX6_speaker 32 = .ok (.invokevirtual 174, 3) := by decide +kernel
theorem dX6_speaker_35 : decode cX6_speaker 35 = .ok (.goto 5, 3) := by decide +kernel
theorem dX6_speaker_38 : decode cX6_speaker 38 = .ok (.bipush (-6), 2) := by decide +kernel
theorem dX6_speaker_40 : decode cX6_speaker 40 = .ok (.ireturn, 1) := by decide +kernel
theorem dX6_isBehind_0 : decode cX6_isBehind 0 = .ok (.aload_n 0, 1) := by decide +kernel
theorem dX6_isBehind_1 : decode cX6_isBehind 1 = .ok (.getfield 41, 3) := by decide +kernel
theorem dX6_isBehind_4 : decode cX6_isBehind 4 = .ok (.iload_n 1, 1) := by decide +kernel
theorem dX6_isBehind_5 : decode cX6_isBehind 5 = .ok (.iaload, 1) := by decide +kernel
theorem dX6_isBehind_6 : decode cX6_isBehind 6 = .ok (.aload_n 0, 1) := by decide +kernel
theorem dX6_isBehind_7 : decode cX6_isBehind 7 = .ok (.getfield 41, 3) := by decide +kernel
theorem dX6_isBehind_10 : decode cX6_isBehind 10 = .ok (.iload_n 1, 1) := by decide +kernel
theorem dX6_isBehind_11 : decode cX6_isBehind 11 = .ok (.iconst 1, 1) := by decide +kernel
theorem dX6_isBehind_12 : decode cX6_isBehind 12 = .ok (.isub, 1) := by decide +kernel
theorem dX6_isBehind_13 : decode cX6_isBehind 13 = .ok (.iaload, 1) := by decide +kernel
theorem dX6_isBehind_14 : decode cX6_isBehind 14 = .ok (.if_icmp .gt 37, 3) := by decide +kernel
theorem dX6_isBehind_17 : decode cX6_isBehind 17 = .ok (.aload_n 0, 1) := by decide +kernel
theorem dX6_isBehind_18 : decode cX6_isBehind 18 = .ok (.getfield 41, 3) := by decide +kernel
theorem dX6_isBehind_21 : decode cX6_isBehind 21 = .ok (.iload_n 1, 1) := by decide +kernel
theorem dX6_isBehind_22 : decode cX6_isBehind 22 = .ok (.iaload, 1) := by decide +kernel
theorem dX6_isBehind_23 : decode cX6_isBehind 23 = .ok (.aload_n 0, 1) := by decide +kernel
theorem dX6_isBehind_24 : decode cX6_isBehind 24 = .ok (.getfield 41, 3) := by decide +kernel
theorem dX6_isBehind_27 : decode cX6_isBehind 27 = .ok (.iload_n 1, 1) := by decide +kernel
theorem dX6_isBehind_28 : decode cX6_isBehind 28 = .ok (.iconst 1, 1) := by decide +kernel
theorem dX6_isBehind_29 : decode cX6_isBehind 29 = .ok (.isub, 1) := by decide +kernel
theorem dX6_isBehind_30 : decode cX6_isBehind 30 = .ok (.iaload, 1) := by decide +kernel
theorem dX6_isBehind_31 : decode cX6_isBehind 31 = .ok (.if_icmp .ne 24, 3) := by decide +kernel
theorem dX6_isBehind_34 : decode cX6_isBehind 34 = .ok (.aload_n 0, 1) := by decide +kernel
theorem dX6_isBehind_35 : decode cX6_isBehind 35 = .ok (.getfield 44, 3) := by decide +kernel
theorem dX6_isBehind_38 : decode cX6_isBehind 38 = .ok (.iload_n 1, 1) := by decide +kernel
theorem dX6_isBehind_39 : decode cX6_isBehind 39 = .ok (.iaload, 1) := by decide +kernel
theorem dX6_isBehind_40 : decode cX6_isBehind 40 = .ok (.aload_n 0, 1) := by decide +kernel
theorem dX6_isBehind_41 : decode cX6_isBehind 41 = .ok (.getfield 44, 3) := by decide +kernel
theorem dX6_isBehind_44 : decode cX6_isBehind 44 = .ok (.iload_n 1, 1) := by decide +kernel
theorem dX6_isBehind_45 : decode cX6_isBehind 45 = .ok (.iconst 1, 1) := by decide +kernel
theorem dX6_isBehind_46 : decode cX6_isBehind 46 = .ok (.isub, 1) := by decide +kernel
theorem dX6_isBehind_47 : decode cX6_isBehind 47 = .ok (.iaload, 1) := by decide +kernel
theorem dX6_isBehind_48 : decode cX6_isBehind 48 = .ok (.if_icmp .le 7, 3) := by decide +kernel
theorem dX6_isBehind_51 : decode cX6_isBehind 51 = .ok (.iconst 1, 1) := by decide +kernel
theorem dX6_isBehind_52 : decode cX6_isBehind 52 = .ok (.goto 4, 3) := by decide +kernel
theorem dX6_isBehind_55 : decode cX6_isBehind 55 = .ok (.iconst 0, 1) := by decide +kernel
theorem dX6_isBehind_56 : decode cX6_isBehind 56 = .ok (.ireturn, 1) := by decide +kernel
set_option maxRecDepth 20000 in
theorem ggX6_isNear_X6_speakerAt : GoodIn wsX6_isNear wsX6_speakerAt := goodIn_r _ [6, 7, 11, 12, 13, 14, 15, 16, 17, 18, 19, 20, 21, 22, 23, 24, 25, 26, 27, 28, 29, 30, 31, 32, 33, 34, 35, 36, 37, 38, 39] (by decide +kernel) (by decide +kernel)
set_option maxRecDepth 20000 in
theorem gX6_isNear_X6_speakerAt : GoodIn wsX6_isNear (wsV RX6 174 RX6 yX6_speakerAt wsX6_speakerAt) := goodIn_app (goodIn_of _ (by decide +kernel)) ggX6_isNear_X6_speakerAt
set_option maxRecDepth 20000 in
theorem ggX6_isNear_X6_in : GoodIn wsX6_isNear wsX6_in := goodIn_r _ [10] (by decide +kernel) (by decide +kernel)
set_option maxRecDepth 20000 in
theorem gX6_isNear_X6_in : GoodIn wsX6_isNear (va_wsS RX6 51 yX6_in wsX6_in) := goodIn_app (goodIn_of _ (by decide +kernel)) ggX6_isNear_X6_in
theorem dX6_isNear_0 : decode cX6_isNear 0 = .ok (.aload_n 0, 1) := by decide +kernel
theorem dX6_isNear_1 : decode cX6_isNear 1 = .ok (.getfield 44, 3) := by decide +kernel
theorem dX6_isNear_4 : decode cX6_isNear 4 = .ok (.iload_n 2, 1) := by decide +kernel
theorem dX6_isNear_5 : decode cX6_isNear 5 = .ok (.iaload, 1) := by decide +kernel
theorem dX6_isNear_6 : decode cX6_isNear 6 = .ok (.aload_n 0, 1) := by decide +kernel
theorem dX6_isNear_7 : decode cX6_isNear 7 = .ok (.iload_n 1, 1) := by decide +kernel
theorem dX6_isNear_8 : decode cX6_isNear 8 = .ok (.iload_n 2, 1) := by decide +kernel
theorem dX6_isNear_9 : decode cX6_isNear 9 = .ok (.invokevirtual 174, 3) := by decide +kernel
theorem dX6_isNear_12 : decode cX6_isNear 12 = .ok (.isub, 1) := by decide +kernel
theorem dX6_isNear_13 : decode cX6_isNear 13 = .ok (.iconst (-1), 1) := by decide +kernel
theorem dX6_isNear_14 : decode cX6_isNear 14 = .ok (.iconst 1, 1) := by decide +kernel
theorem dX6_isNear_15 : decode cX6_isNear 15 = .ok (.invokestatic 51, 3) := by decide +kernel
theorem dX6_isNear_18 : decode cX6_isNear 18 = .ok (.ireturn, 1) := by decide +kernel
set_option maxRecDepth 20000 in
theorem ggX6_goTogether_X6_speakerAt : GoodIn wsX6_goTogether wsX6_speakerAt := goodIn_r _ [7, 8, 9, 10, 11, 12, 13, 14, 15, 16, 17, 18, 19, 20, 21, 22, 23, 24, 25, 26, 27, 28, 29, 30, 31, 32, 33, 34, 35, 36, 37] (by decide +kernel) (by decide +kernel)
set_option maxRecDepth 20000 in
theorem gX6_goTogether_X6_speakerAt : GoodIn wsX6_goTogether (wsV RX6 174 RX6 yX6_speakerAt wsX6_speakerAt) := goodIn_app (goodIn_of _ (by decide +kernel)) ggX6_goTogether_X6_speakerAt
theorem dX6_goTogether_0 : decode cX6_goTogether 0 = .ok (.aload_n 0, 1) := by decide +kernel
theorem dX6_goTogether_1 : decode cX6_goTogether 1 = .ok (.getfield 41, 3) := by decide +kernel
theorem dX6_goTogether_4 : decode cX6_goTogether 4 = .ok (.iload_n 2, 1) := by decide +kernel
theorem dX6_goTogether_5 : decode cX6_goTogether 5 = .ok (.iaload, 1) := by decide +kernel
theorem dX6_goTogether_6 : decode cX6_goTogether 6 = .ok (.aload_n 0, 1) := by decide +kernel
theorem dX6_goTogether_7 : decode cX6_goTogether 7 = .ok (.getfield 41, 3) := by decide +kernel
theorem dX6_goTogether_10 : decode cX6_goTogether 10 = .ok (.iload_n 3, 1) := by decide +kernel
theorem dX6_goTogether_11 : decode cX6_goTogether 11 = .ok (.iaload, 1) := by decide +kernel
theorem dX6_goTogether_12 : decode cX6_goTogether 12 = .ok (.if_icmp .ne 22, 3) := by decide +kernel
theorem dX6_goTogether_15 : decode cX6_goTogether 15 = .ok (.aload_n 0, 1) := by decide +kernel
theorem dX6_goTogether_16 : decode cX6_goTogether 16 = .ok (.iload_n 1, 1) := by decide +kernel
theorem dX6_goTogether_17 : decode cX6_goTogether 17 = .ok (.iload_n 2, 1) := by decide +kernel
theorem dX6_goTogether_18 : decode cX6_goTogether 18 = .ok (.invokevirtual 174, 3) := by decide +kernel
theorem dX6_goTogether_21 : decode cX6_goTogether 21 = .ok (.aload_n 0, 1) := by decide +kernel
theorem dX6_goTogether_22 : decode cX6_goTogether 22 = .ok (.iload_n 1, 1) := by decide +kernel
theorem dX6_goTogether_23 : decode cX6_goTogether 23 = .ok (.iload_n 3, 1) := by decide +kernel
theorem dX6_goTogether_24 : decode cX6_goTogether 24 = .ok (.invokevirtual 174, 3) := by decide +kernel
theorem dX6_goTogether_27 : decode cX6_goTogether 27 = .ok (.if_icmp .le 7, 3) := by decide +kernel
theorem dX6_goTogether_30 : decode cX6_goTogether 30 = .ok (.iconst 1, 1) := by decide +kernel
theorem dX6_goTogether_31 : decode cX6_goTogether 31 = .ok (.goto 4, 3) := by decide +kernel
theorem dX6_goTogether_34 : decode cX6_goTogether 34 = .ok (.iconst 0, 1) := by decide +kernel
theorem dX6_goTogether_35 : decode cX6_goTogether 35 = .ok (.istore 4, 2) := by decide +kernel
theorem dX6_goTogether_37 : decode cX6_goTogether 37 = .ok (.aload_n 0, 1) := by decide +kernel
theorem dX6_goTogether_38 : decode cX6_goTogether 38 = .ok (.getfield 41, 3) := by decide +kernel
theorem dX6_goTogether_41 : decode cX6_goTogether 41 = .ok (.iload_n 2, 1) := by decide +kernel
theorem dX6_goTogether_42 : decode cX6_goTogether 42 = .ok (.iaload, 1) := by decide +kernel
theorem dX6_goTogether_43 : decode cX6_goTogether 43 = .ok (.aload_n 0, 1) := by decide +kernel
theorem dX6_goTogether_44 : decode cX6_goTogether 44 = .ok (.getfield 41, 3) := by decide +kernel
theorem dX6_goTogether_47 : decode cX6_goTogether 47 = .ok (.iload_n 3, 1) := by decide +kernel
theorem dX6_goTogether_48 : decode cX6_goTogether 48 = .ok (.iaload, 1) := by decide +kernel
theorem dX6_goTogether_49 : decode cX6_goTogether 49 = .ok (.if_icmp .le 22, 3) := by decide +kernel
theorem dX6_goTogether_52 : decode cX6_goTogether 52 = .ok (.aload_n 0, 1) := by decide +kernel
theorem dX6_goTogether_53 : decode cX6_goTogether 53 = .ok (.getfield 44, 3) := by decide +kernel
theorem dX6_goTogether_56 : decode cX6_goTogether 56 = .ok (.iload_n 2, 1) := by decide +kernel
theorem dX6_goTogether_57 : decode cX6_goTogether 57 = .ok (.iaload, 1) := by decide +kernel
theorem dX6_goTogether_58 : decode cX6_goTogether 58 = .ok (.aload_n 0, 1) := by decide +kernel
theorem dX6_goTogether_59 : decode cX6_goTogether 59 = .ok (.iload_n 1, 1) := by decide +kernel
theorem dX6_goTogether_60 : decode cX6_goTogether 60 = .ok (.iload_n 3, 1) := by decide +kernel
theorem dX6_goTogether_61 : decode cX6_goTogether 61 = .ok (.invokevirtual 174, 3) := by decide +kernel
theorem dX6_goTogether_64 : decode cX6_goTogether 64 = .ok (.if_icmp .ne 7, 3) := by decide +kernel
theorem dX6_goTogether_67 : decode cX6_goTogether 67 = .ok (.iconst 1, 1) := by decide +kernel
theorem dX6_goTogether_68 : decode cX6_goTogether 68 = .ok (.goto 4, 3) := by decide +kernel
theorem dX6_goTogether_71 : decode cX6_goTogether 71 = .ok (.iconst 0, 1) := by decide +kernel
theorem dX6_goTogether_72 : decode cX6_goTogether 72 = .ok (.istore 5, 2) := by decide +kernel
theorem dX6_goTogether_74 : decode cX6_goTogether 74 = .ok (.aload_n 0, 1) := by decide +kernel
theorem dX6_goTogether_75 : decode cX6_goTogether 75 = .ok (.getfield 41, 3) := by decide +kernel
theorem dX6_goTogether_78 : decode cX6_goTogether 78 = .ok (.iload_n 3, 1) := by decide +kernel
theorem dX6_goTogether_79 : decode cX6_goTogether 79 = .ok (.iaload, 1) := by decide +kernel
theorem dX6_goTogether_80 : decode cX6_goTogether 80 = .ok (.aload_n 0, 1) := by decide +kernel
theorem dX6_goTogether_81 : decode cX6_goTogether 81 = .ok (.getfield 41, 3) := by decide +kernel
theorem dX6_goTogether_84 : decode cX6_goTogether 84 = .ok (.iload_n 2, 1) := by decide +kernel
theorem dX6_goTogether_85 : decode cX6_goTogether 85 = .ok (.iaload, 1) := by decide +kernel
theorem dX6_goTogether_86 : decode cX6_goTogether 86 = .ok (.if_icmp .le 22, 3) := by decide +kernel
theorem dX6_goTogether_89 : decode cX6_goTogether 89 = .ok (.aload_n 0, 1) := by decide +kernel
theorem dX6_goTogether_90 : decode cX6_goTogether 90 = .ok (.getfield 44, 3) := by decide +kernel
theorem dX6_goTogether_93 : decode cX6_goTogether 93 = .ok (.iload_n 3, 1) := by decide +kernel
theorem dX6_goTogether_94 : decode cX6_goTogether 94 = .ok (.iaload, 1) := by decide +kernel
theorem dX6_goTogether_95 : decode cX6_goTogether 95 = .ok (.aload_n 0, 1) := by decide +kernel
theorem dX6_goTogether_96 : decode cX6_goTogether 96 = .ok (.iload_n 1, 1) := by decide +kernel
theorem dX6_goTogether_97 : decode cX6_goTogether 97 = .ok (.iload_n 2, 1) := by decide +kernel
theorem dX6_goTogether_98 : decode cX6_goTogether 98 = .ok (.invokevirtual 174, 3) := by decide +kernel
theorem dX6_goTogether_101 : decode cX6_goTogether 101 = .ok (.if_icmp .ne 7, 3) := by decide +kernel
theorem dX6_goTogether_104 : decode cX6_goTogether 104 = .ok (.iconst 1, 1) := by decide +kernel
theorem dX6_goTogether_105 : decode cX6_goTogether 105 = .ok (.goto 4, 3) := by decide +kernel
theorem dX6_goTogether_108 : decode cX6_goTogether 108 = .ok (.iconst 0, 1) := by decide +kernel
theorem dX6_goTogether_109 : decode cX6_goTogether 109 = .ok (.istore 6, 2) := by decide +kernel
theorem dX6_goTogether_111 : decode cX6_goTogether 111 = .ok (.iload 4, 2) := by decide +kernel
theorem dX6_goTogether_113 : decode cX6_goTogether 113 = .ok (.ifCond .ne 17, 3) := by decide +kernel
theorem dX6_goTogether_116 : decode cX6_goTogether 116 = .ok (.iload 5, 2) := by decide +kernel
theorem dX6_goTogether_118 : decode cX6_goTogether 118 = .ok (.ifCond .ne 12, 3) := by decide +kernel
theorem dX6_goTogether_121 : decode cX6_goTogether 121 = .ok (.iload 6, 2) := by decide +kernel
theorem dX6_goTogether_123 : decode cX6_goTogether 123 = .ok (.ifCond .ne 7, 3) := by decide +kernel
theorem dX6_goTogether_126 : decode cX6_goTogether 126 = .ok (.iconst 1, 1) := by decide +kernel
theorem dX6_goTogether_127 : decode cX6_goTogether 127 = .ok (.goto 4, 3) := by decide +kernel
theorem dX6_goTogether_130 : decode cX6_goTogether 130 = .ok (.iconst 0, 1) := by decide +kernel
theorem dX6_goTogether_131 : decode cX6_goTogether 131 = .ok (.ireturn, 1) := by decide +kernel
set_option maxRecDepth 20000 in
theorem ggX6_isGoodSetting_X6_isNear : GoodIn wsX6_isGoodSetting wsX6_isNear := goodIn_r _ [6, 7, 8, 9, 10, 5, 11, 1, 12, 13, 14, 24, 25, 26, 27, 28, 29, 30, 31, 32, 33, 34, 35, 36, 37, 38, 39, 40, 41, 42, 43, 44, 45, 46, 47, 48, 49, 50, 51, 52] (by decide +kernel) (by decide +kernel)
set_option maxRecDepth 20000 in
theorem gX6_isGoodSetting_X6_isNear : GoodIn wsX6_isGoodSetting (wsV RX6 177 RX6 yX6_isNear wsX6_isNear) := goodIn_app (goodIn_of _ (by decide +kernel)) ggX6_isGoodSetting_X6_isNear
set_option maxRecDepth 20000 in
theorem ggX6_isGoodSetting_X6_isBehind : GoodIn wsX6_isGoodSetting wsX6_isBehind := goodIn_r _ [18, 19, 7, 24, 25, 26, 27, 28, 29, 30, 31, 32, 33, 34, 35, 36, 37, 38, 39, 40, 41, 42, 43, 44, 45, 46, 47, 48, 49, 50, 51, 52] (by decide +kernel) (by decide +kernel)
set_option maxRecDepth 20000 in
theorem gX6_isGoodSetting_X6_isBehind : GoodIn wsX6_isGoodSetting (wsV RX6 180 RX6 yX6_isBehind wsX6_isBehind) := goodIn_app (goodIn_of _ (by decide +kernel)) ggX6_isGoodSetting_X6_isBehind
set_option maxRecDepth 20000 in
theorem ggX6_isGoodSetting_X6_goTogether : GoodIn wsX6_isGoodSetting wsX6_goTogether := goodIn_r _ [23, 19, 7, 8, 9, 10, 5, 11, 1, 24, 25, 26, 27, 28, 29, 30, 31, 32, 33, 34, 35, 36, 37, 38, 39, 40, 41, 42, 43, 44, 45, 46, 47, 48, 49, 50, 51, 52] (by decide +kernel) (by decide +kernel)
set_option maxRecDepth 20000 in
theorem gX6_isGoodSetting_X6_goTogether : GoodIn wsX6_isGoodSetting (wsV RX6 183 RX6 yX6_goTogether wsX6_goTogether) := goodIn_app (goodIn_of _ (by decide +kernel)) ggX6_isGoodSetting_X6_goTogether
theorem dX6_isGoodSetting_0 : decode cX6_isGoodSetting 0 = .ok (.iconst 1, 1) := by decide +kernel
theorem dX6_isGoodSetting_1 : decode cX6_isGoodSetting 1 = .ok (.istore_n 2, 1) := by decide +kernel
theorem dX6_isGoodSetting_2 : decode cX6_isGoodSetting 2 = .ok (.iconst 0, 1) := by decide +kernel
theorem dX6_isGoodSetting_3 : decode cX6_isGoodSetting 3 = .ok (.istore_n 3, 1) := by decide +kernel
theorem dX6_isGoodSetting_4 : decode cX6_isGoodSetting 4 = .ok (.iload_n 3, 1) := by decide +kernel
theorem dX6_isGoodSetting_5 : decode cX6_isGoodSetting 5 = .ok (.aload_n 0, 1) := by decide +kernel
theorem dX6_isGoodSetting_6 : decode cX6_isGoodSetting 6 = .ok (.getfield 7, 3) := by decide +kernel
theorem dX6_isGoodSetting_9 : decode cX6_isGoodSetting 9 = .ok (.bipush 27, 2) := by decide +kernel
theorem dX6_isGoodSetting_11 : decode cX6_isGoodSetting 11 = .ok (.iload_n 1, 1) := by decide +kernel
theorem dX6_isGoodSetting_12 : decode cX6_isGoodSetting 12 = .ok (.iadd, 1) := by decide +kernel
theorem dX6_isGoodSetting_13 : decode cX6_isGoodSetting 13 = .ok (.iaload, 1) := by decide +kernel
theorem dX6_isGoodSetting_14 : decode cX6_isGoodSetting 14 = .ok (.if_icmp .ge 86, 3) := by decide +kernel
theorem dX6_isGoodSetting_17 : decode cX6_isGoodSetting 17 = .ok (.iload_n 2, 1) := by decide +kernel
theorem dX6_isGoodSetting_18 : decode cX6_isGoodSetting 18 = .ok (.ifCond .eq 28, 3) := by decide +kernel
theorem dX6_isGoodSetting_21 : decode cX6_isGoodSetting 21 = .ok (.aload_n 0, 1) := by decide +kernel
theorem dX6_isGoodSetting_22 : decode cX6_isGoodSetting 22 = .ok (.iload_n 1, 1) := by decide +kernel
theorem dX6_isGoodSetting_23 : decode cX6_isGoodSetting 23 = .ok (.iload_n 3, 1) := by decide +kernel
theorem dX6_isGoodSetting_24 : decode cX6_isGoodSetting 24 = .ok (.invokevirtual 177, 3) := by decide +kernel
theorem dX6_isGoodSetting_27 : decode cX6_isGoodSetting 27 = .ok (.ifCond .eq 19, 3) := by decide +kernel
theorem dX6_isGoodSetting_30 : decode cX6_isGoodSetting 30 = .ok (.iload_n 3, 1) := by decide +kernel
theorem dX6_isGoodSetting_31 : decode cX6_isGoodSetting 31 = .ok (.ifCond .eq 11, 3) := by decide +kernel
theorem dX6_isGoodSetting_34 : decode cX6_isGoodSetting 34 = .ok (.aload_n 0, 1) := by decide +kernel
theorem dX6_isGoodSetting_35 : decode cX6_isGoodSetting 35 = .ok (.iload_n 3, 1) := by decide +kernel
theorem dX6_isGoodSetting_36 : decode cX6_isGoodSetting 36 = .ok (.invokevirtual 180, 3) := by decide +kernel
theorem dX6_isGoodSetting_39 : decode cX6_isGoodSetting 39 = .ok (.ifCond .eq 7, 3) := by decide +kernel
theorem dX6_isGoodSetting_42 : decode cX6_isGoodSetting 42 = .ok (.iconst 1, 1) := by decide +kernel
theorem dX6_isGoodSetting_43 : decode cX6_isGoodSetting 43 = .ok (.goto 4, 3) := by decide +kernel
theorem dX6_isGoodSetting_46 : decode cX6_isGoodSetting 46 = .ok (.iconst 0, 1) := by decide +kernel
theorem dX6_isGoodSetting_47 : decode cX6_isGoodSetting 47 = .ok (.istore_n 2, 1) := by decide +kernel
theorem dX6_isGoodSetting_48 : decode cX6_isGoodSetting 48 = .ok (.iload_n 3, 1) := by decide +kernel
theorem dX6_isGoodSetting_49 : decode cX6_isGoodSetting 49 = .ok (.iconst 1, 1) := by decide +kernel
theorem dX6_isGoodSetting_50 : decode cX6_isGoodSetting 50 = .ok (.iadd, 1) := by decide +kernel
theorem dX6_isGoodSetting_51 : decode cX6_isGoodSetting 51 = .ok (.istore 4, 2) := by decide +kernel
theorem dX6_isGoodSetting_53 : decode cX6_isGoodSetting 53 = .ok (.iload 4, 2) := by decide +kernel
theorem dX6_isGoodSetting_55 : decode cX6_isGoodSetting 55 = .ok (.aload_n 0, 1) := by decide +kernel
theorem dX6_isGoodSetting_56 : decode cX6_isGoodSetting 56 = .ok (.getfield 7, 3) := by decide +kernel
theorem dX6_isGoodSetting_59 : decode cX6_isGoodSetting 59 = .ok (.bipush 27, 2) := by decide +kernel
theorem dX6_isGoodSetting_61 : decode cX6_isGoodSetting 61 = .ok (.iload_n 1, 1) := by decide +kernel
theorem dX6_isGoodSetting_62 : decode cX6_isGoodSetting 62 = .ok (.iadd, 1) := by decide +kernel
theorem dX6_isGoodSetting_63 : decode cX6_isGoodSetting 63 = .ok (.iaload, 1) := by decide +kernel
theorem dX6_isGoodSetting_64 : decode cX6_isGoodSetting 64 = .ok (.if_icmp .ge 30, 3) := by decide +kernel
theorem dX6_isGoodSetting_67 : decode cX6_isGoodSetting 67 = .ok (.iload_n 2, 1) := by decide +kernel
theorem dX6_isGoodSetting_68 : decode cX6_isGoodSetting 68 = .ok (.ifCond .eq 18, 3) := by decide +kernel
theorem dX6_isGoodSetting_71 : decode cX6_isGoodSetting 71 = .ok (.aload_n 0, 1) := by decide +kernel
theorem dX6_isGoodSetting_72 : decode cX6_isGoodSetting 72 = .ok (.iload_n 1, 1) := by decide +kernel
theorem dX6_isGoodSetting_73 : decode cX6_isGoodSetting 73 = .ok (.iload_n 3, 1) := by decide +kernel
theorem dX6_isGoodSetting_74 : decode cX6_isGoodSetting 74 = .ok (.iload 4, 2) := by decide +kernel
theorem dX6_isGoodSetting_76 : decode cX6_isGoodSetting 76 = .ok (.invokevirtual 183, 3) := by decide +kernel
theorem dX6_isGoodSetting_79 : decode cX6_isGoodSetting 79 = .ok (.ifCond .eq 7, 3) := by decide +kernel
theorem dX6_isGoodSetting_82 : decode cX6_isGoodSetting 82 = .ok (.iconst 1, 1) := by decide +kernel
theorem dX6_isGoodSetting_83 : decode cX6_isGoodSetting 83 = .ok (.goto 4, 3) := by decide +kernel
theorem dX6_isGoodSetting_86 : decode cX6_isGoodSetting 86 = .ok (.iconst 0, 1) := by decide +kernel
theorem dX6_isGoodSetting_87 : decode cX6_isGoodSetting 87 = .ok (.istore_n 2, 1) := by decide +kernel
theorem dX6_isGoodSetting_88 : decode cX6_isGoodSetting 88 = .ok (.iinc 4 1, 3) := by decide +kernel
theorem dX6_isGoodSetting_91 : decode cX6_isGoodSetting 91 = .ok (.goto (-38), 3) := by decide +kernel
theorem dX6_isGoodSetting_94 : decode cX6_isGoodSetting 94 = .ok (.iinc 3 1, 3) := by decide +kernel
theorem dX6_isGoodSetting_97 : decode cX6_isGoodSetting 97 = .ok (.goto (-93), 3) := by decide +kernel
theorem dX6_isGoodSetting_100 : decode cX6_isGoodSetting 100 = .ok (.iload_n 2, 1) := by decide +kernel
theorem dX6_isGoodSetting_101 : decode cX6_isGoodSetting 101 = .ok (.ireturn, 1) := by decide +kernel
theorem dX6_laySetting_0 : decode cX6_laySetting 0 = .ok (.iload_n 2, 1) := by decide +kernel
theorem dX6_laySetting_1 : decode cX6_laySetting 1 = .ok (.istore_n 3, 1) := by decide +kernel
theorem dX6_laySetting_2 : decode cX6_laySetting 2 = .ok (.aload_n 0, 1) := by decide +kernel
theorem dX6_laySetting_3 : decode cX6_laySetting 3 = .ok (.getfield 7, 3) := by decide +kernel
theorem dX6_laySetting_6 : decode cX6_laySetting 6 = .ok (.bipush 27, 2) := by decide +kernel
theorem dX6_laySetting_8 : decode cX6_laySetting 8 = .ok (.iload_n 1, 1) := by decide +kernel
theorem dX6_laySetting_9 : decode cX6_laySetting 9 = .ok (.iadd, 1) := by decide +kernel
theorem dX6_laySetting_10 : decode cX6_laySetting 10 = .ok (.iaload, 1) := by decide +kernel
theorem dX6_laySetting_11 : decode cX6_laySetting 11 = .ok (.iconst 1, 1) := by decide +kernel
theorem dX6_laySetting_12 : decode cX6_laySetting 12 = .ok (.isub, 1) := by decide +kernel
theorem dX6_laySetting_13 : decode cX6_laySetting 13 = .ok (.istore 4, 2) := by decide +kernel
theorem dX6_laySetting_15 : decode cX6_laySetting 15 = .ok (.iload 4, 2) := by decide +kernel
theorem dX6_laySetting_17 : decode cX6_laySetting 17 = .ok (.ifCond .lt 37, 3) := by decide +kernel
theorem dX6_laySetting_20 : decode cX6_laySetting 20 = .ok (.aload_n 0, 1) := by decide +kernel
theorem dX6_laySetting_21 : decode cX6_laySetting 21 = .ok (.getfield 41, 3) := by decide +kernel
theorem dX6_laySetting_24 : decode cX6_laySetting 24 = .ok (.iload 4, 2) := by decide +kernel
theorem dX6_laySetting_26 : decode cX6_laySetting 26 = .ok (.iload_n 3, 1) := by decide +kernel
theorem dX6_laySetting_27 : decode cX6_laySetting 27 = .ok (.bipush 12, 2) := by decide +kernel
theorem dX6_laySetting_29 : decode cX6_laySetting 29 = .ok (.irem, 1) := by decide +kernel
theorem dX6_laySetting_30 : decode cX6_laySetting 30 = .ok (.iconst 4, 1) := by decide +kernel
theorem dX6_laySetting_31 : decode cX6_laySetting 31 = .ok (.idiv, 1) := by decide +kernel
theorem dX6_laySetting_32 : decode cX6_laySetting 32 = .ok (.iastore, 1) := by decide +kernel
theorem dX6_laySetting_33 : decode cX6_laySetting 33 = .ok (.aload_n 0, 1) := by decide +kernel
theorem dX6_laySetting_34 : decode cX6_laySetting 34 = .ok (.getfield 44, 3) := by decide +kernel
theorem dX6_laySetting_37 : decode cX6_laySetting 37 = .ok (.iload 4, 2) := by decide +kernel
theorem dX6_laySetting_39 : decode cX6_laySetting 39 = .ok (.iload_n 3, 1) := by decide +kernel
theorem dX6_laySetting_40 : decode cX6_laySetting 40 = .ok (.iconst 4, 1) := by decide +kernel
theorem dX6_laySetting_41 : decode cX6_laySetting 41 = .ok (.irem, 1) := by decide +kernel
theorem dX6_laySetting_42 : decode cX6_laySetting 42 = .ok (.iastore, 1) := by decide +kernel
theorem dX6_laySetting_43 : decode cX6_laySetting 43 = .ok (.iload_n 3, 1) := by decide +kernel
theorem dX6_laySetting_44 : decode cX6_laySetting 44 = .ok (.bipush 12, 2) := by decide +kernel
theorem dX6_laySetting_46 : decode cX6_laySetting 46 = .ok (.idiv, 1) := by decide +kernel
theorem dX6_laySetting_47 : decode cX6_laySetting 47 = .ok (.istore_n 3, 1) := by decide +kernel
theorem dX6_laySetting_48 : decode cX6_laySetting 48 = .ok (.iinc 4 (-1), 3) := by decide +kernel
theorem dX6_laySetting_51 : decode cX6_laySetting 51 = .ok (.goto (-36), 3) := by decide +kernel
theorem dX6_laySetting_54 : decode cX6_laySetting 54 = .ok (.return_, 1) := by decide +kernel
theorem dX6_deepOf_0 : decode cX6_deepOf 0 = .ok (.iconst 0, 1) := by decide +kernel
theorem dX6_deepOf_1 : decode cX6_deepOf 1 = .ok (.istore_n 2, 1) := by decide +kernel
theorem dX6_deepOf_2 : decode cX6_deepOf 2 = .ok (.iconst 0, 1) := by decide +kernel
theorem dX6_deepOf_3 : decode cX6_deepOf 3 = .ok (.istore_n 3, 1) := by decide +kernel
theorem dX6_deepOf_4 : decode cX6_deepOf 4 = .ok (.iload_n 3, 1) := by decide +kernel
theorem dX6_deepOf_5 : decode cX6_deepOf 5 = .ok (.aload_n 0, 1) := by decide +kernel
theorem dX6_deepOf_6 : decode cX6_deepOf 6 = .ok (.getfield 7, 3) := by decide +kernel
theorem dX6_deepOf_9 : decode cX6_deepOf 9 = .ok (.bipush 27, 2) := by decide +kernel
theorem dX6_deepOf_11 : decode cX6_deepOf 11 = .ok (.iload_n 1, 1) := by decide +kernel
theorem dX6_deepOf_12 : decode cX6_deepOf 12 = .ok (.iadd, 1) := by decide +kernel
theorem dX6_deepOf_13 : decode cX6_deepOf 13 = .ok (.iaload, 1) := by decide +kernel
theorem dX6_deepOf_14 : decode cX6_deepOf 14 = .ok (.if_icmp .ge 34, 3) := by decide +kernel
theorem dX6_deepOf_17 : decode cX6_deepOf 17 = .ok (.aload_n 0, 1) := by decide +kernel
theorem dX6_deepOf_18 : decode cX6_deepOf 18 = .ok (.getfield 41, 3) := by decide +kernel
theorem dX6_deepOf_21 : decode cX6_deepOf 21 = .ok (.iload_n 3, 1) := by decide +kernel
theorem dX6_deepOf_22 : decode cX6_deepOf 22 = .ok (.iaload, 1) := by decide +kernel
theorem dX6_deepOf_23 : decode cX6_deepOf 23 = .ok (.iconst 1, 1) := by decide +kernel
theorem dX6_deepOf_24 : decode cX6_deepOf 24 = .ok (.iadd, 1) := by decide +kernel
theorem dX6_deepOf_25 : decode cX6_deepOf 25 = .ok (.iload_n 2, 1) := by decide +kernel
theorem dX6_deepOf_26 : decode cX6_deepOf 26 = .ok (.if_icmp .le 14, 3) := by decide +kernel
theorem dX6_deepOf_29 : decode cX6_deepOf 29 = .ok (.aload_n 0, 1) := by decide +kernel
theorem dX6_deepOf_30 : decode cX6_deepOf 30 = .ok (.getfield 41, 3) := by decide +kernel
theorem dX6_deepOf_33 : decode cX6_deepOf 33 = .ok (.iload_n 3, 1) := by decide +kernel
theorem dX6_deepOf_34 : decode cX6_deepOf 34 = .ok (.iaload, 1) := by decide +kernel
theorem dX6_deepOf_35 : decode cX6_deepOf 35 = .ok (.iconst 1, 1) := by decide +kernel
theorem dX6_deepOf_36 : decode cX6_deepOf 36 = .ok (.iadd, 1) := by decide +kernel
theorem dX6_deepOf_37 : decode cX6_deepOf 37 = .ok (.goto 4, 3) := by decide +kernel
theorem dX6_deepOf_40 : decode cX6_deepOf 40 = .ok (.iload_n 2, 1) := by decide +kernel
theorem dX6_deepOf_41 : decode cX6_deepOf 41 = .ok (.istore_n 2, 1) := by decide +kernel
theorem dX6_deepOf_42 : decode cX6_deepOf 42 = .ok (.iinc 3 1, 3) := by decide +kernel
theorem dX6_deepOf_45 : decode cX6_deepOf 45 = .ok (.goto (-41), 3) := by decide +kernel
theorem dX6_deepOf_48 : decode cX6_deepOf 48 = .ok (.iload_n 2, 1) := by decide +kernel
theorem dX6_deepOf_49 : decode cX6_deepOf 49 = .ok (.ireturn, 1) := by decide +kernel
set_option maxRecDepth 20000 in
theorem ggX6_tryAllSettings_X6_laySetting : GoodIn wsX6_tryAllSettings wsX6_laySetting := goodIn_r _ [10, 5, 11, 12, 40, 41, 42, 43, 44, 45, 46, 47, 48, 49, 50, 51, 52, 53, 54, 55, 56, 57, 58, 59, 60, 61, 62, 63, 64, 65, 66, 67, 68] (by decide +kernel) (by decide +kernel)
set_option maxRecDepth 20000 in
theorem gX6_tryAllSettings_X6_laySetting : GoodIn wsX6_tryAllSettings (wsV RX6 198 RX6 yX6_laySetting wsX6_laySetting) := goodIn_app (goodIn_of _ (by decide +kernel)) ggX6_tryAllSettings_X6_laySetting
set_option maxRecDepth 20000 in
theorem ggX6_tryAllSettings_X6_isGoodSetting : GoodIn wsX6_tryAllSettings wsX6_isGoodSetting := goodIn_r _ [16, 5, 17, 18, 19, 9, 20, 12, 21, 22, 23, 24, 25, 26, 27, 28, 29, 30, 31, 11, 32, 33, 34, 35, 40, 41, 42, 43, 44, 45, 46, 47, 48, 49, 50, 51, 52, 53, 54, 55, 56, 57, 58, 59, 60, 61, 62, 63, 64, 65, 66, 67, 68] (by decide +kernel) (by decide +kernel)
set_option maxRecDepth 20000 in
theorem gX6_tryAllSettings_X6_isGoodSetting : GoodIn wsX6_tryAllSettings (wsV RX6 201 RX6 yX6_isGoodSetting wsX6_isGoodSetting) := goodIn_app (goodIn_of _ (by decide +kernel)) ggX6_tryAllSettings_X6_isGoodSetting
set_option maxRecDepth 20000 in
theorem ggX6_tryAllSettings_X6_deepOf : GoodIn wsX6_tryAllSettings wsX6_deepOf := goodIn_r _ [39, 5, 11, 40, 41, 42, 43, 44, 45, 46, 47, 48, 49, 50, 51, 52, 53, 54, 55, 56, 57, 58, 59, 60, 61, 62, 63, 64, 65, 66, 67, 68] (by decide +kernel) (by decide +kernel)
set_option maxRecDepth 20000 in
theorem gX6_tryAllSettings_X6_deepOf : GoodIn wsX6_tryAllSettings (wsV RX6 204 RX6 yX6_deepOf wsX6_deepOf) := goodIn_app (goodIn_of _ (by decide +kernel)) ggX6_tryAllSettings_X6_deepOf
theorem dX6_tryAllSettings_0 : decode cX6_tryAllSettings 0 = .ok (.aload_n 0, 1) := by decide +kernel
theorem dX6_tryAllSettings_1 : decode cX6_tryAllSettings 1 = .ok (.iconst 0, 1) := by decide +kernel
theorem dX6_tryAllSettings_2 : decode cX6_tryAllSettings 2 = .ok (.putfield 186, 3) := by decide +kernel
theorem dX6_tryAllSettings_5 : decode cX6_tryAllSettings 5 = .ok (.aload_n 0, 1) := by decide +kernel
theorem dX6_tryAllSettings_6 : decode cX6_tryAllSettings 6 = .ok (.bipush (-6), 2) := by decide +kernel
theorem dX6_tryAllSettings_8 : decode cX6_tryAllSettings 8 = .ok (.putfield 189, 3) := by decide +kernel
theorem dX6_tryAllSettings_11 : decode cX6_tryAllSettings 11 = .ok (.aload_n 0, 1) := by decide +kernel
theorem dX6_tryAllSettings_12 : decode cX6_tryAllSettings 12 = .ok (.bipush (-6), 2) := by decide +kernel
theorem dX6_tryAllSettings_14 : decode cX6_tryAllSettings 14 = .ok (.putfield 192, 3) := by decide +kernel
theorem dX6_tryAllSettings_17 : decode cX6_tryAllSettings 17 = .ok (.aload_n 0, 1) := by decide +kernel
theorem dX6_tryAllSettings_18 : decode cX6_tryAllSettings 18 = .ok (.bipush (-6), 2) := by decide +kernel
theorem dX6_tryAllSettings_20 : decode cX6_tryAllSettings 20 = .ok (.putfield 195, 3) := by decide +kernel
theorem dX6_tryAllSettings_23 : decode cX6_tryAllSettings 23 = .ok (.iconst 1, 1) := by decide +kernel
theorem dX6_tryAllSettings_24 : decode cX6_tryAllSettings 24 = .ok (.istore_n 2, 1) := by decide +kernel
theorem dX6_tryAllSettings_25 : decode cX6_tryAllSettings 25 = .ok (.iconst 0, 1) := by decide +kernel
theorem dX6_tryAllSettings_26 : decode cX6_tryAllSettings 26 = .ok (.istore_n 3, 1) := by decide +kernel
theorem dX6_tryAllSettings_27 : decode cX6_tryAllSettings 27 = .ok (.iload_n 3, 1) := by decide +kernel
theorem dX6_tryAllSettings_28 : decode cX6_tryAllSettings 28 = .ok (.aload_n 0, 1) := by decide +kernel
theorem dX6_tryAllSettings_29 : decode cX6_tryAllSettings 29 = .ok (.getfield 7, 3) := by decide +kernel
theorem dX6_tryAllSettings_32 : decode cX6_tryAllSettings 32 = .ok (.bipush 27, 2) := by decide +kernel
theorem dX6_tryAllSettings_34 : decode cX6_tryAllSettings 34 = .ok (.iload_n 1, 1) := by decide +kernel
theorem dX6_tryAllSettings_35 : decode cX6_tryAllSettings 35 = .ok (.iadd, 1) := by decide +kernel
theorem dX6_tryAllSettings_36 : decode cX6_tryAllSettings 36 = .ok (.iaload, 1) := by decide +kernel
theorem dX6_tryAllSettings_37 : decode cX6_tryAllSettings 37 = .ok (.if_icmp .ge 14, 3) := by decide +kernel
theorem dX6_tryAllSettings_40 : decode cX6_tryAllSettings 40 = .ok (.iload_n 2, 1) := by decide +kernel
theorem dX6_tryAllSettings_41 : decode cX6_tryAllSettings 41 = .ok (.bipush 12, 2) := by decide +kernel
theorem dX6_tryAllSettings_43 : decode cX6_tryAllSettings 43 = .ok (.imul, 1) := by decide +kernel
theorem dX6_tryAllSettings_44 : decode cX6_tryAllSettings 44 = .ok (.istore_n 2, 1) := by decide +kernel
theorem dX6_tryAllSettings_45 : decode cX6_tryAllSettings 45 = .ok (.iinc 3 1, 3) := by decide +kernel
theorem dX6_tryAllSettings_48 : decode cX6_tryAllSettings 48 = .ok (.goto (-21), 3) := by decide +kernel
theorem dX6_tryAllSettings_51 : decode cX6_tryAllSettings 51 = .ok (.iconst 0, 1) := by decide +kernel
theorem dX6_tryAllSettings_52 : decode cX6_tryAllSettings 52 = .ok (.istore_n 3, 1) := by decide +kernel
theorem dX6_tryAllSettings_53 : decode cX6_tryAllSettings 53 = .ok (.iload_n 3, 1) := by decide +kernel
theorem dX6_tryAllSettings_54 : decode cX6_tryAllSettings 54 = .ok (.iload_n 2, 1) := by decide +kernel
theorem dX6_tryAllSettings_55 : decode cX6_tryAllSettings 55 = .ok (.if_icmp .ge 95, 3) := by decide +kernel
theorem dX6_tryAllSettings_58 : decode cX6_tryAllSettings 58 = .ok (.aload_n 0, 1) := by decide +kernel
theorem dX6_tryAllSettings_59 : decode cX6_tryAllSettings 59 = .ok (.iload_n 1, 1) := by decide +kernel
theorem dX6_tryAllSettings_60 : decode cX6_tryAllSettings 60 = .ok (.iload_n 3, 1) := by decide +kernel
theorem dX6_tryAllSettings_61 : decode cX6_tryAllSettings 61 = .ok (.invokevirtual 198, 3) := by decide +kernel
theorem dX6_tryAllSettings_64 : decode cX6_tryAllSettings 64 = .ok (.aload_n 0, 1) := by decide +kernel
theorem dX6_tryAllSettings_65 : decode cX6_tryAllSettings 65 = .ok (.iload_n 1, 1) := by decide +kernel
theorem dX6_tryAllSettings_66 : decode cX6_tryAllSettings 66 = .ok (.invokevirtual 201, 3) := by decide +kernel
theorem dX6_tryAllSettings_69 : decode cX6_tryAllSettings 69 = .ok (.ifCond .eq 75, 3) := by decide +kernel
theorem dX6_tryAllSettings_72 : decode cX6_tryAllSettings 72 = .ok (.aload_n 0, 1) := by decide +kernel
theorem dX6_tryAllSettings_73 : decode cX6_tryAllSettings 73 = .ok (.iload_n 1, 1) := by decide +kernel
theorem dX6_tryAllSettings_74 : decode cX6_tryAllSettings 74 = .ok (.invokevirtual 204, 3) := by decide +kernel
theorem dX6_tryAllSettings_77 : decode cX6_tryAllSettings 77 = .ok (.istore 4, 2) := by decide +kernel
theorem dX6_tryAllSettings_79 : decode cX6_tryAllSettings 79 = .ok (.aload_n 0, 1) := by decide +kernel
theorem dX6_tryAllSettings_80 : decode cX6_tryAllSettings 80 = .ok (.dup, 1) := by decide +kernel
theorem dX6_tryAllSettings_81 : decode cX6_tryAllSettings 81 = .ok (.getfield 186, 3) := by decide +kernel
theorem dX6_tryAllSettings_84 : decode cX6_tryAllSettings 84 = .ok (.iconst 1, 1) := by decide +kernel
theorem dX6_tryAllSettings_85 : decode cX6_tryAllSettings 85 = .ok (.iadd, 1) := by decide +kernel
theorem dX6_tryAllSettings_86 : decode cX6_tryAllSettings 86 = .ok (.putfield 186, 3) := by decide +kernel
theorem dX6_tryAllSettings_89 : decode cX6_tryAllSettings 89 = .ok (.aload_n 0, 1) := by decide +kernel
theorem dX6_tryAllSettings_90 : decode cX6_tryAllSettings 90 = .ok (.getfield 195, 3) := by decide +kernel
theorem dX6_tryAllSettings_93 : decode cX6_tryAllSettings 93 = .ok (.ifCond .lt 12, 3) := by decide +kernel
theorem dX6_tryAllSettings_96 : decode cX6_tryAllSettings 96 = .ok (.iload 4, 2) := by decide +kernel
theorem dX6_tryAllSettings_98 : decode cX6_tryAllSettings 98 = .ok (.aload_n 0, 1) := by decide +kernel
theorem dX6_tryAllSettings_99 : decode cX6_tryAllSettings 99 = .ok (.getfield 189, 3) := by decide +kernel
theorem dX6_tryAllSettings_102 : decode cX6_tryAllSettings 102 = .ok (.if_icmp .ge 19, 3) := by decide +kernel
theorem dX6_tryAllSettings_105 : decode cX6_tryAllSettings 105 = .ok (.aload_n 0, 1) := by decide +kernel
theorem dX6_tryAllSettings_106 : decode cX6_tryAllSettings 106 = .ok (.iload 4, 2) := by decide +kernel
theorem dX6_tryAllSettings_108 : decode cX6_tryAllSettings 108 = .ok (.putfield 189, 3) := by decide +kernel
theorem dX6_tryAllSettings_111 : decode cX6_tryAllSettings 111 = .ok (.aload_n 0, 1) := by decide +kernel
theorem dX6_tryAllSettings_112 : decode cX6_tryAllSettings 112 = .ok (.iconst 0, 1) := by decide +kernel
theorem dX6_tryAllSettings_113 : decode cX6_tryAllSettings 113 = .ok (.putfield 192, 3) := by decide +kernel
theorem dX6_tryAllSettings_116 : decode cX6_tryAllSettings 116 = .ok (.aload_n 0, 1) := by decide +kernel
theorem dX6_tryAllSettings_117 : decode cX6_tryAllSettings 117 = .ok (.iload_n 3, 1) := by decide +kernel
theorem dX6_tryAllSettings_118 : decode cX6_tryAllSettings 118 = .ok (.putfield 195, 3) := by decide +kernel
theorem dX6_tryAllSettings_121 : decode cX6_tryAllSettings 121 = .ok (.aload_n 0, 1) := by decide +kernel
theorem dX6_tryAllSettings_122 : decode cX6_tryAllSettings 122 = .ok (.dup, 1) := by decide +kernel
theorem dX6_tryAllSettings_123 : decode cX6_tryAllSettings 123 = .ok (.getfield 192, 3) := by decide +kernel
theorem dX6_tryAllSettings_126 : decode cX6_tryAllSettings 126 = .ok (.iload 4, 2) := by decide +kernel
theorem dX6_tryAllSettings_128 : decode cX6_tryAllSettings 128 = .ok (.aload_n 0, 1) := by decide +kernel
theorem dX6_tryAllSettings_129 : decode cX6_tryAllSettings 129 = .ok (.getfield 189, 3) := by decide +kernel
theorem dX6_tryAllSettings_132 : decode cX6_tryAllSettings 132 = .ok (.if_icmp .ne 7, 3) := by decide +kernel
theorem dX6_tryAllSettings_135 : decode cX6_tryAllSettings 135 = .ok (.iconst 1, 1) := by decide +kernel
theorem dX6_tryAllSettings_136 : decode cX6_tryAllSettings 136 = .ok (.goto 4, 3) := by decide +kernel
theorem dX6_tryAllSettings_139 : decode cX6_tryAllSettings 139 = .ok (.iconst 0, 1) := by decide +kernel
theorem dX6_tryAllSettings_140 : decode cX6_tryAllSettings 140 = .ok (.iadd, 1) := by decide +kernel
theorem dX6_tryAllSettings_141 : decode cX6_tryAllSettings 141 = .ok (.putfield 192, 3) := by decide +kernel
theorem dX6_tryAllSettings_144 : decode cX6_tryAllSettings 144 = .ok (.iinc 3 1, 3) := by decide +kernel
theorem dX6_tryAllSettings_147 : decode cX6_tryAllSettings 147 = .ok (.goto (-94), 3) := by decide +kernel
theorem dX6_tryAllSettings_150 : decode cX6_tryAllSettings 150 = .ok (.return_, 1) := by decide +kernel
set_option maxRecDepth 20000 in
theorem ggX6_firstAt_X6_laySetting : GoodIn wsX6_firstAt wsX6_laySetting := goodIn_r _ [9, 2, 3, 4, 10, 11, 12, 13, 14, 15, 16, 17, 18, 19, 20, 21, 22, 23, 24, 25, 26, 27, 28, 29, 30, 31, 32, 33, 34, 35, 36, 37, 38] (by decide +kernel) (by decide +kernel)
set_option maxRecDepth 20000 in
theorem gX6_firstAt_X6_laySetting : GoodIn wsX6_firstAt (wsV RX6 198 RX6 yX6_laySetting wsX6_laySetting) := goodIn_app (goodIn_of _ (by decide +kernel)) ggX6_firstAt_X6_laySetting
theorem dX6_firstAt_0 : decode cX6_firstAt 0 = .ok (.aload_n 0, 1) := by decide +kernel
theorem dX6_firstAt_1 : decode cX6_firstAt 1 = .ok (.getfield 195, 3) := by decide +kernel
theorem dX6_firstAt_4 : decode cX6_firstAt 4 = .ok (.ifCond .lt 16, 3) := by decide +kernel
theorem dX6_firstAt_7 : decode cX6_firstAt 7 = .ok (.iload_n 2, 1) := by decide +kernel
theorem dX6_firstAt_8 : decode cX6_firstAt 8 = .ok (.aload_n 0, 1) := by decide +kernel
theorem dX6_firstAt_9 : decode cX6_firstAt 9 = .ok (.getfield 7, 3) := by decide +kernel
theorem dX6_firstAt_12 : decode cX6_firstAt 12 = .ok (.bipush 27, 2) := by decide +kernel
theorem dX6_firstAt_14 : decode cX6_firstAt 14 = .ok (.iload_n 1, 1) := by decide +kernel
theorem dX6_firstAt_15 : decode cX6_firstAt 15 = .ok (.iadd, 1) := by decide +kernel
theorem dX6_firstAt_16 : decode cX6_firstAt 16 = .ok (.iaload, 1) := by decide +kernel
theorem dX6_firstAt_17 : decode cX6_firstAt 17 = .ok (.if_icmp .lt 6, 3) := by decide +kernel
theorem dX6_firstAt_20 : decode cX6_firstAt 20 = .ok (.bipush (-6), 2) := by decide +kernel
theorem dX6_firstAt_22 : decode cX6_firstAt 22 = .ok (.ireturn, 1) := by decide +kernel
theorem dX6_firstAt_23 : decode cX6_firstAt 23 = .ok (.aload_n 0, 1) := by decide +kernel
theorem dX6_firstAt_24 : decode cX6_firstAt 24 = .ok (.iload_n 1, 1) := by decide +kernel
theorem dX6_firstAt_25 : decode cX6_firstAt 25 = .ok (.aload_n 0, 1) := by decide +kernel
theorem dX6_firstAt_26 : decode cX6_firstAt 26 = .ok (.getfield 195, 3) := by decide +kernel
theorem dX6_firstAt_29 : decode cX6_firstAt 29 = .ok (.invokevirtual 198, 3) := by decide +kernel
theorem dX6_firstAt_32 : decode cX6_firstAt 32 = .ok (.iconst 4, 1) := by decide +kernel
theorem dX6_firstAt_33 : decode cX6_firstAt 33 = .ok (.aload_n 0, 1) := by decide +kernel
theorem dX6_firstAt_34 : decode cX6_firstAt 34 = .ok (.getfield 41, 3) := by decide +kernel
theorem dX6_firstAt_37 : decode cX6_firstAt 37 = .ok (.iload_n 2, 1) := by decide +kernel
theorem dX6_firstAt_38 : decode cX6_firstAt 38 = .ok (.iaload, 1) := by decide +kernel
theorem dX6_firstAt_39 : decode cX6_firstAt 39 = .ok (.imul, 1) := by decide +kernel
theorem dX6_firstAt_40 : decode cX6_firstAt 40 = .ok (.aload_n 0, 1) := by decide +kernel
theorem dX6_firstAt_41 : decode cX6_firstAt 41 = .ok (.getfield 44, 3) := by decide +kernel
theorem dX6_firstAt_44 : decode cX6_firstAt 44 = .ok (.iload_n 2, 1) := by decide +kernel
theorem dX6_firstAt_45 : decode cX6_firstAt 45 = .ok (.iaload, 1) := by decide +kernel
theorem dX6_firstAt_46 : decode cX6_firstAt 46 = .ok (.iadd, 1) := by decide +kernel
theorem dX6_firstAt_47 : decode cX6_firstAt 47 = .ok (.ireturn, 1) := by decide +kernel
set_option maxRecDepth 20000 in
theorem ggX6_good_X6_isPanel : GoodIn wsX6_good wsX6_isPanel := goodIn_r _ [8, 9, 10, 11, 7, 12, 13, 14, 15, 16, 56, 57, 58, 59, 60, 61, 62, 63, 64, 65, 66, 67, 68, 69, 70, 71, 72, 73, 74, 75, 76, 77, 78, 79, 80, 81, 82, 83, 84] (by decide +kernel) (by decide +kernel)
set_option maxRecDepth 20000 in
theorem gX6_good_X6_isPanel : GoodIn wsX6_good (wsV RX6 59 RX6 yX6_isPanel wsX6_isPanel) := goodIn_app (goodIn_of _ (by decide +kernel)) ggX6_good_X6_isPanel
set_option maxRecDepth 20000 in
theorem ggX6_good_X6_in : GoodIn wsX6_good wsX6_in := goodIn_r _ [16] (by decide +kernel) (by decide +kernel)
set_option maxRecDepth 20000 in
theorem gX6_good_X6_in : GoodIn wsX6_good (va_wsS RX6 51 yX6_in wsX6_in) := goodIn_app (goodIn_of _ (by decide +kernel)) ggX6_good_X6_in
set_option maxRecDepth 20000 in
theorem ggX6_good_X6_tryAllSettings : GoodIn wsX6_good wsX6_tryAllSettings := goodIn_r _ [20, 1, 2, 3, 21, 13, 22, 23, 24, 7, 25, 26, 27, 28, 29, 30, 31, 32, 33, 34, 35, 36, 37, 38, 39, 14, 15, 16, 40, 41, 42, 43, 44, 45, 46, 47, 48, 49, 50, 51, 56, 57, 58, 59, 60, 61, 62, 63, 64, 65, 66, 67, 68, 69, 70, 71, 72, 73, 74, 75, 76, 77, 78, 79, 80, 81, 82, 83, 84] (by decide +kernel) (by decide +kernel)
set_option maxRecDepth 20000 in
theorem gX6_good_X6_tryAllSettings : GoodIn wsX6_good (wsV RX6 207 RX6 yX6_tryAllSettings wsX6_tryAllSettings) := goodIn_app (goodIn_of _ (by decide +kernel)) ggX6_good_X6_tryAllSettings
set_option maxRecDepth 20000 in
theorem ggX6_good_X6_firstAt : GoodIn wsX6_good wsX6_firstAt := goodIn_r _ [55, 21, 13, 26, 27, 22, 23, 24, 7, 25, 56, 57, 58, 59, 60, 61, 62, 63, 64, 65, 66, 67, 68, 69, 70, 71, 72, 73, 74, 75, 76, 77, 78, 79, 80, 81, 82, 83, 84] (by decide +kernel) (by decide +kernel)
set_option maxRecDepth 20000 in
theorem gX6_good_X6_firstAt : GoodIn wsX6_good (wsV RX6 210 RX6 yX6_firstAt wsX6_firstAt) := goodIn_app (goodIn_of _ (by decide +kernel)) ggX6_good_X6_firstAt
theorem dX6_good_0 : decode cX6_good 0 = .ok (.aload_n 0, 1) := by decide +kernel
theorem dX6_good_1 : decode cX6_good 1 = .ok (.iload_n 1, 1) := by decide +kernel
theorem dX6_good_2 : decode cX6_good 2 = .ok (.invokevirtual 59, 3) := by decide +kernel
theorem dX6_good_5 : decode cX6_good 5 = .ok (.ifCond .ne 5, 3) := by decide +kernel
theorem dX6_good_8 : decode cX6_good 8 = .ok (.iconst (-1), 1) := by decide +kernel
theorem dX6_good_9 : decode cX6_good 9 = .ok (.ireturn, 1) := by decide +kernel
theorem dX6_good_10 : decode cX6_good 10 = .ok (.iload_n 2, 1) := by decide +kernel
theorem dX6_good_11 : decode cX6_good 11 = .ok (.iconst 0, 1) := by decide +kernel
theorem dX6_good_12 : decode cX6_good 12 = .ok (.iconst 2, 1) := by decide +kernel
theorem dX6_good_13 : decode cX6_good 13 = .ok (.invokestatic 51, 3) := by decide +kernel
theorem dX6_good_16 : decode cX6_good 16 = .ok (.ifCond .ne 17, 3) := by decide +kernel
theorem dX6_good_19 : decode cX6_good 19 = .ok (.iload_n 2, 1) := by decide +kernel
theorem dX6_good_20 : decode cX6_good 20 = .ok (.bipush 10, 2) := by decide +kernel
theorem dX6_good_22 : decode cX6_good 22 = .ok (.bipush 13, 2) := by decide +kernel
theorem dX6_good_24 : decode cX6_good 24 = .ok (.invokestatic 51, 3) := by decide +kernel
theorem dX6_good_27 : decode cX6_good 27 = .ok (.ifCond .ne 6, 3) := by decide +kernel
theorem dX6_good_30 : decode cX6_good 30 = .ok (.bipush (-2), 2) := by decide +kernel
theorem dX6_good_32 : decode cX6_good 32 = .ok (.ireturn, 1) := by decide +kernel
theorem dX6_good_33 : decode cX6_good 33 = .ok (.aload_n 0, 1) := by decide +kernel
theorem dX6_good_34 : decode cX6_good 34 = .ok (.iload_n 1, 1) := by decide +kernel
theorem dX6_good_35 : decode cX6_good 35 = .ok (.invokevirtual 207, 3) := by decide +kernel
theorem dX6_good_38 : decode cX6_good 38 = .ok (.iload_n 2, 1) := by decide +kernel
theorem dX6_good_39 : decode cX6_good 39 = .ok (.tableswitch 40 0 2 #[25, 30, 35], 25) := by decide +kernel
theorem dX6_good_64 : decode cX6_good 64 = .ok (.aload_n 0, 1) := by decide +kernel
theorem dX6_good_65 : decode cX6_good 65 = .ok (.getfield 186, 3) := by decide +kernel
theorem dX6_good_68 : decode cX6_good 68 = .ok (.ireturn, 1) := by decide +kernel
theorem dX6_good_69 : decode cX6_good 69 = .ok (.aload_n 0, 1) := by decide +kernel
theorem dX6_good_70 : decode cX6_good 70 = .ok (.getfield 189, 3) := by decide +kernel
theorem dX6_good_73 : decode cX6_good 73 = .ok (.ireturn, 1) := by decide +kernel
theorem dX6_good_74 : decode cX6_good 74 = .ok (.aload_n 0, 1) := by decide +kernel
theorem dX6_good_75 : decode cX6_good 75 = .ok (.getfield 192, 3) := by decide +kernel
theorem dX6_good_78 : decode cX6_good 78 = .ok (.ireturn, 1) := by decide +kernel
theorem dX6_good_79 : decode cX6_good 79 = .ok (.aload_n 0, 1) := by decide +kernel
theorem dX6_good_80 : decode cX6_good 80 = .ok (.iload_n 1, 1) := by decide +kernel
theorem dX6_good_81 : decode cX6_good 81 = .ok (.iload_n 2, 1) := by decide +kernel
theorem dX6_good_82 : decode cX6_good 82 = .ok (.bipush 10, 2) := by decide +kernel
theorem dX6_good_84 : decode cX6_good 84 = .ok (.isub, 1) := by decide +kernel
theorem dX6_good_85 : decode cX6_good 85 = .ok (.invokevirtual 210, 3) := by decide +kernel
theorem dX6_good_88 : decode cX6_good 88 = .ok (.ireturn, 1) := by decide +kernel
set_option maxRecDepth 20000 in
theorem ggX6_isSetting_X6_in : GoodIn wsX6_isSetting wsX6_in := goodIn_r _ [7] (by decide +kernel) (by decide +kernel)
set_option maxRecDepth 20000 in
theorem gX6_isSetting_X6_in : GoodIn wsX6_isSetting (va_wsS RX6 51 yX6_in wsX6_in) := goodIn_app (goodIn_of _ (by decide +kernel)) ggX6_isSetting_X6_in
theorem dX6_isSetting_0 : decode cX6_isSetting 0 = .ok (.aload_n 0, 1) := by decide +kernel
theorem dX6_isSetting_1 : decode cX6_isSetting 1 = .ok (.getfield 128, 3) := by decide +kernel
theorem dX6_isSetting_4 : decode cX6_isSetting 4 = .ok (.iconst 2, 1) := by decide +kernel
theorem dX6_isSetting_5 : decode cX6_isSetting 5 = .ok (.aload_n 0, 1) := by decide +kernel
theorem dX6_isSetting_6 : decode cX6_isSetting 6 = .ok (.getfield 7, 3) := by decide +kernel
theorem dX6_isSetting_9 : decode cX6_isSetting 9 = .ok (.bipush 27, 2) := by decide +kernel
theorem dX6_isSetting_11 : decode cX6_isSetting 11 = .ok (.iload_n 1, 1) := by decide +kernel
theorem dX6_isSetting_12 : decode cX6_isSetting 12 = .ok (.iadd, 1) := by decide +kernel
theorem dX6_isSetting_13 : decode cX6_isSetting 13 = .ok (.iaload, 1) := by decide +kernel
theorem dX6_isSetting_14 : decode cX6_isSetting 14 = .ok (.imul, 1) := by decide +kernel
theorem dX6_isSetting_15 : decode cX6_isSetting 15 = .ok (.if_icmp .ne 7, 3) := by decide +kernel
theorem dX6_isSetting_18 : decode cX6_isSetting 18 = .ok (.iconst 1, 1) := by decide +kernel
theorem dX6_isSetting_19 : decode cX6_isSetting 19 = .ok (.goto 4, 3) := by decide +kernel
theorem dX6_isSetting_22 : decode cX6_isSetting 22 = .ok (.iconst 0, 1) := by decide +kernel
theorem dX6_isSetting_23 : decode cX6_isSetting 23 = .ok (.istore_n 2, 1) := by decide +kernel
theorem dX6_isSetting_24 : decode cX6_isSetting 24 = .ok (.iconst 0, 1) := by decide +kernel
theorem dX6_isSetting_25 : decode cX6_isSetting 25 = .ok (.istore_n 3, 1) := by decide +kernel
theorem dX6_isSetting_26 : decode cX6_isSetting 26 = .ok (.iload_n 3, 1) := by decide +kernel
theorem dX6_isSetting_27 : decode cX6_isSetting 27 = .ok (.aload_n 0, 1) := by decide +kernel
theorem dX6_isSetting_28 : decode cX6_isSetting 28 = .ok (.getfield 128, 3) := by decide +kernel
theorem dX6_isSetting_31 : decode cX6_isSetting 31 = .ok (.if_icmp .ge 38, 3) := by decide +kernel
theorem dX6_isSetting_34 : decode cX6_isSetting 34 = .ok (.iload_n 2, 1) := by decide +kernel
theorem dX6_isSetting_35 : decode cX6_isSetting 35 = .ok (.ifCond .eq 34, 3) := by decide +kernel
theorem dX6_isSetting_38 : decode cX6_isSetting 38 = .ok (.aload_n 0, 1) := by decide +kernel
theorem dX6_isSetting_39 : decode cX6_isSetting 39 = .ok (.getfield 20, 3) := by decide +kernel
theorem dX6_isSetting_42 : decode cX6_isSetting 42 = .ok (.iload_n 3, 1) := by decide +kernel
theorem dX6_isSetting_43 : decode cX6_isSetting 43 = .ok (.iaload, 1) := by decide +kernel
theorem dX6_isSetting_44 : decode cX6_isSetting 44 = .ok (.bipush 48, 2) := by decide +kernel
theorem dX6_isSetting_46 : decode cX6_isSetting 46 = .ok (.iload_n 3, 1) := by decide +kernel
theorem dX6_isSetting_47 : decode cX6_isSetting 47 = .ok (.iconst 2, 1) := by decide +kernel
theorem dX6_isSetting_48 : decode cX6_isSetting 48 = .ok (.irem, 1) := by decide +kernel
theorem dX6_isSetting_49 : decode cX6_isSetting 49 = .ok (.ifCond .ne 8, 3) := by decide +kernel
theorem dX6_isSetting_52 : decode cX6_isSetting 52 = .ok (.bipush 50, 2) := by decide +kernel
theorem dX6_isSetting_54 : decode cX6_isSetting 54 = .ok (.goto 5, 3) := by decide +kernel
theorem dX6_isSetting_57 : decode cX6_isSetting 57 = .ok (.bipush 51, 2) := by decide +kernel
theorem dX6_isSetting_59 : decode cX6_isSetting 59 = .ok (.invokestatic 51, 3) := by decide +kernel
theorem dX6_isSetting_62 : decode cX6_isSetting 62 = .ok (.istore_n 2, 1) := by decide +kernel
theorem dX6_isSetting_63 : decode cX6_isSetting 63 = .ok (.iinc 3 1, 3) := by decide +kernel
theorem dX6_isSetting_66 : decode cX6_isSetting 66 = .ok (.goto (-40), 3) := by decide +kernel
theorem dX6_isSetting_69 : decode cX6_isSetting 69 = .ok (.iload_n 2, 1) := by decide +kernel
theorem dX6_isSetting_70 : decode cX6_isSetting 70 = .ok (.ireturn, 1) := by decide +kernel
set_option maxRecDepth 20000 in
theorem ggX6_isGood_X6_isPanel : GoodIn wsX6_isGood wsX6_isPanel := goodIn_r _ [9, 10, 11, 12, 8, 13, 1, 14, 15, 16, 42, 43, 44, 45, 46, 47, 48, 49, 50, 51, 52, 53, 54, 55, 56, 57, 58, 59, 60, 61, 62, 63, 64, 65, 66, 67, 68, 69, 70] (by decide +kernel) (by decide +kernel)
set_option maxRecDepth 20000 in
theorem gX6_isGood_X6_isPanel : GoodIn wsX6_isGood (wsV RX6 59 RX6 yX6_isPanel wsX6_isPanel) := goodIn_app (goodIn_of _ (by decide +kernel)) ggX6_isGood_X6_isPanel
set_option maxRecDepth 20000 in
theorem ggX6_isGood_X6_isSetting : GoodIn wsX6_isGood wsX6_isSetting := goodIn_r _ [20, 21, 1, 3, 14, 15, 8, 16, 42, 43, 44, 45, 46, 47, 48, 49, 50, 51, 52, 53, 54, 55, 56, 57, 58, 59, 60, 61, 62, 63, 64, 65, 66, 67, 68, 69, 70] (by decide +kernel) (by decide +kernel)
set_option maxRecDepth 20000 in
theorem gX6_isGood_X6_isSetting : GoodIn wsX6_isGood (wsV RX6 213 RX6 yX6_isSetting wsX6_isSetting) := goodIn_app (goodIn_of _ (by decide +kernel)) ggX6_isGood_X6_isSetting
set_option maxRecDepth 20000 in
theorem ggX6_isGood_X6_isGoodSetting : GoodIn wsX6_isGood wsX6_isGoodSetting := goodIn_r _ [25, 1, 26, 27, 28, 8, 29, 4, 30, 31, 32, 33, 14, 15, 16, 34, 35, 36, 37, 2, 38, 39, 40, 41, 42, 43, 44, 45, 46, 47, 48, 49, 50, 51, 52, 53, 54, 55, 56, 57, 58, 59, 60, 61, 62, 63, 64, 65, 66, 67, 68, 69, 70] (by decide +kernel) (by decide +kernel)
set_option maxRecDepth 20000 in
theorem gX6_isGood_X6_isGoodSetting : GoodIn wsX6_isGood (wsV RX6 201 RX6 yX6_isGoodSetting wsX6_isGoodSetting) := goodIn_app (goodIn_of _ (by decide +kernel)) ggX6_isGood_X6_isGoodSetting
theorem dX6_isGood_0 : decode cX6_isGood 0 = .ok (.aload_n 0, 1) := by decide +kernel
theorem dX6_isGood_1 : decode cX6_isGood 1 = .ok (.iload_n 1, 1) := by decide +kernel
theorem dX6_isGood_2 : decode cX6_isGood 2 = .ok (.invokevirtual 59, 3) := by decide +kernel
theorem dX6_isGood_5 : decode cX6_isGood 5 = .ok (.ifCond .ne 5, 3) := by decide +kernel
theorem dX6_isGood_8 : decode cX6_isGood 8 = .ok (.iconst (-1), 1) := by decide +kernel
theorem dX6_isGood_9 : decode cX6_isGood 9 = .ok (.ireturn, 1) := by decide +kernel
theorem dX6_isGood_10 : decode cX6_isGood 10 = .ok (.aload_n 0, 1) := by decide +kernel
theorem dX6_isGood_11 : decode cX6_isGood 11 = .ok (.iload_n 1, 1) := by decide +kernel
theorem dX6_isGood_12 : decode cX6_isGood 12 = .ok (.invokevirtual 213, 3) := by decide +kernel
theorem dX6_isGood_15 : decode cX6_isGood 15 = .ok (.ifCond .ne 6, 3) := by decide +kernel
theorem dX6_isGood_18 : decode cX6_isGood 18 = .ok (.bipush (-7), 2) := by decide +kernel
theorem dX6_isGood_20 : decode cX6_isGood 20 = .ok (.ireturn, 1) := by decide +kernel
theorem dX6_isGood_21 : decode cX6_isGood 21 = .ok (.iconst 0, 1) := by decide +kernel
theorem dX6_isGood_22 : decode cX6_isGood 22 = .ok (.istore_n 2, 1) := by decide +kernel
theorem dX6_isGood_23 : decode cX6_isGood 23 = .ok (.iload_n 2, 1) := by decide +kernel
theorem dX6_isGood_24 : decode cX6_isGood 24 = .ok (.aload_n 0, 1) := by decide +kernel
theorem dX6_isGood_25 : decode cX6_isGood 25 = .ok (.getfield 7, 3) := by decide +kernel
theorem dX6_isGood_28 : decode cX6_isGood 28 = .ok (.bipush 27, 2) := by decide +kernel
theorem dX6_isGood_30 : decode cX6_isGood 30 = .ok (.iload_n 1, 1) := by decide +kernel
theorem dX6_isGood_31 : decode cX6_isGood 31 = .ok (.iadd, 1) := by decide +kernel
theorem dX6_isGood_32 : decode cX6_isGood 32 = .ok (.iaload, 1) := by decide +kernel
theorem dX6_isGood_33 : decode cX6_isGood 33 = .ok (.if_icmp .ge 45, 3) := by decide +kernel
theorem dX6_isGood_36 : decode cX6_isGood 36 = .ok (.aload_n 0, 1) := by decide +kernel
theorem dX6_isGood_37 : decode cX6_isGood 37 = .ok (.getfield 41, 3) := by decide +kernel
theorem dX6_isGood_40 : decode cX6_isGood 40 = .ok (.iload_n 2, 1) := by decide +kernel
theorem dX6_isGood_41 : decode cX6_isGood 41 = .ok (.aload_n 0, 1) := by decide +kernel
theorem dX6_isGood_42 : decode cX6_isGood 42 = .ok (.getfield 20, 3) := by decide +kernel
theorem dX6_isGood_45 : decode cX6_isGood 45 = .ok (.iconst 2, 1) := by decide +kernel
theorem dX6_isGood_46 : decode cX6_isGood 46 = .ok (.iload_n 2, 1) := by decide +kernel
theorem dX6_isGood_47 : decode cX6_isGood 47 = .ok (.imul, 1) := by decide +kernel
theorem dX6_isGood_48 : decode cX6_isGood 48 = .ok (.iaload, 1) := by decide +kernel
theorem dX6_isGood_49 : decode cX6_isGood 49 = .ok (.bipush 48, 2) := by decide +kernel
theorem dX6_isGood_51 : decode cX6_isGood 51 = .ok (.isub, 1) := by decide +kernel
theorem dX6_isGood_52 : decode cX6_isGood 52 = .ok (.iastore, 1) := by decide +kernel
theorem dX6_isGood_53 : decode cX6_isGood 53 = .ok (.aload_n 0, 1) := by decide +kernel
theorem dX6_isGood_54 : decode cX6_isGood 54 = .ok (.getfield 44, 3) := by decide +kernel
theorem dX6_isGood_57 : decode cX6_isGood 57 = .ok (.iload_n 2, 1) := by decide +kernel
theorem dX6_isGood_58 : decode cX6_isGood 58 = .ok (.aload_n 0, 1) := by decide +kernel
theorem dX6_isGood_59 : decode cX6_isGood 59 = .ok (.getfield 20, 3) := by decide +kernel
theorem dX6_isGood_62 : decode cX6_isGood 62 = .ok (.iconst 2, 1) := by decide +kernel
theorem dX6_isGood_63 : decode cX6_isGood 63 = .ok (.iload_n 2, 1) := by decide +kernel
theorem dX6_isGood_64 : decode cX6_isGood 64 = .ok (.imul, 1) := by decide +kernel
theorem dX6_isGood_65 : decode cX6_isGood 65 = .ok (.iconst 1, 1) := by decide +kernel
theorem dX6_isGood_66 : decode cX6_isGood 66 = .ok (.iadd, 1) := by decide +kernel
theorem dX6_isGood_67 : decode cX6_isGood 67 = .ok (.iaload, 1) := by decide +kernel
theorem dX6_isGood_68 : decode cX6_isGood 68 = .ok (.bipush 48, 2) := by decide +kernel
theorem dX6_isGood_70 : decode cX6_isGood 70 = .ok (.isub, 1) := by decide +kernel
theorem dX6_isGood_71 : decode cX6_isGood 71 = .ok (.iastore, 1) := by decide +kernel
theorem dX6_isGood_72 : decode cX6_isGood 72 = .ok (.iinc 2 1, 3) := by decide +kernel
theorem dX6_isGood_75 : decode cX6_isGood 75 = .ok (.goto (-52), 3) := by decide +kernel
theorem dX6_isGood_78 : decode cX6_isGood 78 = .ok (.aload_n 0, 1) := by decide +kernel
theorem dX6_isGood_79 : decode cX6_isGood 79 = .ok (.iload_n 1, 1) := by decide +kernel
theorem dX6_isGood_80 : decode cX6_isGood 80 = .ok (.invokevirtual 201, 3) := by decide +kernel
theorem dX6_isGood_83 : decode cX6_isGood 83 = .ok (.ifCond .eq 7, 3) := by decide +kernel
theorem dX6_isGood_86 : decode cX6_isGood 86 = .ok (.iconst 1, 1) := by decide +kernel
theorem dX6_isGood_87 : decode cX6_isGood 87 = .ok (.goto 4, 3) := by decide +kernel
theorem dX6_isGood_90 : decode cX6_isGood 90 = .ok (.iconst 0, 1) := by decide +kernel
theorem dX6_isGood_91 : decode cX6_isGood 91 = .ok (.ireturn, 1) := by decide +kernel
set_option maxRecDepth 20000 in
theorem ggX6_image_X6_in : GoodIn wsX6_image wsX6_in := goodIn_r _ [7] (by decide +kernel) (by decide +kernel)
set_option maxRecDepth 20000 in
theorem gX6_image_X6_in : GoodIn wsX6_image (va_wsS RX6 51 yX6_in wsX6_in) := goodIn_app (goodIn_of _ (by decide +kernel)) ggX6_image_X6_in
theorem dX6_image_0 : decode cX6_image 0 = .ok (.iload_n 1, 1) := by decide +kernel
theorem dX6_image_1 : decode cX6_image 1 = .ok (.iconst 0, 1) := by decide +kernel
theorem dX6_image_2 : decode cX6_image 2 = .ok (.iconst 1, 1) := by decide +kernel
theorem dX6_image_3 : decode cX6_image 3 = .ok (.invokestatic 51, 3) := by decide +kernel
theorem dX6_image_6 : decode cX6_image 6 = .ok (.ifCond .ne 6, 3) := by decide +kernel
theorem dX6_image_9 : decode cX6_image 9 = .ok (.bipush (-2), 2) := by decide +kernel
theorem dX6_image_11 : decode cX6_image 11 = .ok (.ireturn, 1) := by decide +kernel
theorem dX6_image_12 : decode cX6_image 12 = .ok (.iconst 0, 1) := by decide +kernel
theorem dX6_image_13 : decode cX6_image 13 = .ok (.istore_n 2, 1) := by decide +kernel
theorem dX6_image_14 : decode cX6_image 14 = .ok (.iload_n 2, 1) := by decide +kernel
theorem dX6_image_15 : decode cX6_image 15 = .ok (.bipush 74, 2) := by decide +kernel
theorem dX6_image_17 : decode cX6_image 17 = .ok (.if_icmp .ge 26, 3) := by decide +kernel
theorem dX6_image_20 : decode cX6_image 20 = .ok (.aload_n 0, 1) := by decide +kernel
theorem dX6_image_21 : decode cX6_image 21 = .ok (.getfield 13, 3) := by decide +kernel
theorem dX6_image_24 : decode cX6_image 24 = .ok (.bipush 74, 2) := by decide +kernel
theorem dX6_image_26 : decode cX6_image 26 = .ok (.iload_n 1, 1) := by decide +kernel
theorem dX6_image_27 : decode cX6_image 27 = .ok (.imul, 1) := by decide +kernel
theorem dX6_image_28 : decode cX6_image 28 = .ok (.iload_n 2, 1) := by decide +kernel
theorem dX6_image_29 : decode cX6_image 29 = .ok (.iadd, 1) := by decide +kernel
theorem dX6_image_30 : decode cX6_image 30 = .ok (.aload_n 0, 1) := by decide +kernel
theorem dX6_image_31 : decode cX6_image 31 = .ok (.getfield 7, 3) := by decide +kernel
theorem dX6_image_34 : decode cX6_image 34 = .ok (.iload_n 2, 1) := by decide +kernel
theorem dX6_image_35 : decode cX6_image 35 = .ok (.iaload, 1) := by decide +kernel
theorem dX6_image_36 : decode cX6_image 36 = .ok (.iastore, 1) := by decide +kernel
theorem dX6_image_37 : decode cX6_image 37 = .ok (.iinc 2 1, 3) := by decide +kernel
theorem dX6_image_40 : decode cX6_image 40 = .ok (.goto (-26), 3) := by decide +kernel
theorem dX6_image_43 : decode cX6_image 43 = .ok (.aload_n 0, 1) := by decide +kernel
theorem dX6_image_44 : decode cX6_image 44 = .ok (.getfield 16, 3) := by decide +kernel
theorem dX6_image_47 : decode cX6_image 47 = .ok (.iload_n 1, 1) := by decide +kernel
theorem dX6_image_48 : decode cX6_image 48 = .ok (.iconst 1, 1) := by decide +kernel
theorem dX6_image_49 : decode cX6_image 49 = .ok (.bastore, 1) := by decide +kernel
theorem dX6_image_50 : decode cX6_image 50 = .ok (.iconst 1, 1) := by decide +kernel
theorem dX6_image_51 : decode cX6_image 51 = .ok (.ireturn, 1) := by decide +kernel
set_option maxRecDepth 20000 in
theorem ggX6_restore_X6_in : GoodIn wsX6_restore wsX6_in := goodIn_r _ [7] (by decide +kernel) (by decide +kernel)
set_option maxRecDepth 20000 in
theorem gX6_restore_X6_in : GoodIn wsX6_restore (va_wsS RX6 51 yX6_in wsX6_in) := goodIn_app (goodIn_of _ (by decide +kernel)) ggX6_restore_X6_in
theorem dX6_restore_0 : decode cX6_restore 0 = .ok (.iload_n 1, 1) := by decide +kernel
theorem dX6_restore_1 : decode cX6_restore 1 = .ok (.iconst 0, 1) := by decide +kernel
theorem dX6_restore_2 : decode cX6_restore 2 = .ok (.iconst 1, 1) := by decide +kernel
theorem dX6_restore_3 : decode cX6_restore 3 = .ok (.invokestatic 51, 3) := by decide +kernel
theorem dX6_restore_6 : decode cX6_restore 6 = .ok (.ifCond .ne 6, 3) := by decide +kernel
theorem dX6_restore_9 : decode cX6_restore 9 = .ok (.bipush (-2), 2) := by decide +kernel
theorem dX6_restore_11 : decode cX6_restore 11 = .ok (.ireturn, 1) := by decide +kernel
theorem dX6_restore_12 : decode cX6_restore 12 = .ok (.aload_n 0, 1) := by decide +kernel
theorem dX6_restore_13 : decode cX6_restore 13 = .ok (.getfield 16, 3) := by decide +kernel
theorem dX6_restore_16 : decode cX6_restore 16 = .ok (.iload_n 1, 1) := by decide +kernel
theorem dX6_restore_17 : decode cX6_restore 17 = .ok (.baload, 1) := by decide +kernel
theorem dX6_restore_18 : decode cX6_restore 18 = .ok (.ifCond .ne 6, 3) := by decide +kernel
theorem dX6_restore_21 : decode cX6_restore 21 = .ok (.bipush (-3), 2) := by decide +kernel
theorem dX6_restore_23 : decode cX6_restore 23 = .ok (.ireturn, 1) := by decide +kernel
theorem dX6_restore_24 : decode cX6_restore 24 = .ok (.iconst 0, 1) := by decide +kernel
theorem dX6_restore_25 : decode cX6_restore 25 = .ok (.istore_n 2, 1) := by decide +kernel
theorem dX6_restore_26 : decode cX6_restore 26 = .ok (.iload_n 2, 1) := by decide +kernel
theorem dX6_restore_27 : decode cX6_restore 27 = .ok (.bipush 74, 2) := by decide +kernel
theorem dX6_restore_29 : decode cX6_restore 29 = .ok (.if_icmp .ge 26, 3) := by decide +kernel
theorem dX6_restore_32 : decode cX6_restore 32 = .ok (.aload_n 0, 1) := by decide +kernel
theorem dX6_restore_33 : decode cX6_restore 33 = .ok (.getfield 7, 3) := by decide +kernel
theorem dX6_restore_36 : decode cX6_restore 36 = .ok (.iload_n 2, 1) := by decide +kernel
theorem dX6_restore_37 : decode cX6_restore 37 = .ok (.aload_n 0, 1) := by decide +kernel
theorem dX6_restore_38 : decode cX6_restore 38 = .ok (.getfield 13, 3) := by decide +kernel
theorem dX6_restore_41 : decode cX6_restore 41 = .ok (.bipush 74, 2) := by decide +kernel
theorem dX6_restore_43 : decode cX6_restore 43 = .ok (.iload_n 1, 1) := by decide +kernel
theorem dX6_restore_44 : decode cX6_restore 44 = .ok (.imul, 1) := by decide +kernel
theorem dX6_restore_45 : decode cX6_restore 45 = .ok (.iload_n 2, 1) := by decide +kernel
theorem dX6_restore_46 : decode cX6_restore 46 = .ok (.iadd, 1) := by decide +kernel
theorem dX6_restore_47 : decode cX6_restore 47 = .ok (.iaload, 1) := by decide +kernel
theorem dX6_restore_48 : decode cX6_restore 48 = .ok (.iastore, 1) := by decide +kernel
theorem dX6_restore_49 : decode cX6_restore 49 = .ok (.iinc 2 1, 3) := by decide +kernel
theorem dX6_restore_52 : decode cX6_restore 52 = .ok (.goto (-26), 3) := by decide +kernel
theorem dX6_restore_55 : decode cX6_restore 55 = .ok (.iconst 1, 1) := by decide +kernel
theorem dX6_restore_56 : decode cX6_restore 56 = .ok (.ireturn, 1) := by decide +kernel
set_option maxRecDepth 20000 in
theorem ggX6_balloons_X6_many : GoodIn wsX6_balloons wsX6_many := goodIn_r _ [6, 1, 7, 8, 9, 10, 11, 12, 13, 14, 15, 16, 17, 18, 19, 20, 21, 22, 23, 24, 25, 26, 27, 28, 29, 30, 31, 32, 33, 34, 35] (by decide +kernel) (by decide +kernel)
set_option maxRecDepth 20000 in
theorem gX6_balloons_X6_many : GoodIn wsX6_balloons (wsV RX6 47 RX6 yX6_many wsX6_many) := goodIn_app (goodIn_of _ (by decide +kernel)) ggX6_balloons_X6_many
theorem dX6_balloons_0 : decode cX6_balloons 0 = .ok (.iconst 0, 1) := by decide +kernel
theorem dX6_balloons_1 : decode cX6_balloons 1 = .ok (.istore_n 1, 1) := by decide +kernel
theorem dX6_balloons_2 : decode cX6_balloons 2 = .ok (.iconst 0, 1) := by decide +kernel
theorem dX6_balloons_3 : decode cX6_balloons 3 = .ok (.istore_n 2, 1) := by decide +kernel
theorem dX6_balloons_4 : decode cX6_balloons 4 = .ok (.iload_n 2, 1) := by decide +kernel
theorem dX6_balloons_5 : decode cX6_balloons 5 = .ok (.aload_n 0, 1) := by decide +kernel
theorem dX6_balloons_6 : decode cX6_balloons 6 = .ok (.invokevirtual 47, 3) := by decide +kernel
theorem dX6_balloons_9 : decode cX6_balloons 9 = .ok (.if_icmp .ge 21, 3) := by decide +kernel
theorem dX6_balloons_12 : decode cX6_balloons 12 = .ok (.iload_n 1, 1) := by decide +kernel
theorem dX6_balloons_13 : decode cX6_balloons 13 = .ok (.aload_n 0, 1) := by decide +kernel
theorem dX6_balloons_14 : decode cX6_balloons 14 = .ok (.getfield 7, 3) := by decide +kernel
theorem dX6_balloons_17 : decode cX6_balloons 17 = .ok (.bipush 27, 2) := by decide +kernel
theorem dX6_balloons_19 : decode cX6_balloons 19 = .ok (.iload_n 2, 1) := by decide +kernel
theorem dX6_balloons_20 : decode cX6_balloons 20 = .ok (.iadd, 1) := by decide +kernel
theorem dX6_balloons_21 : decode cX6_balloons 21 = .ok (.iaload, 1) := by decide +kernel
theorem dX6_balloons_22 : decode cX6_balloons 22 = .ok (.iadd, 1) := by decide +kernel
theorem dX6_balloons_23 : decode cX6_balloons 23 = .ok (.istore_n 1, 1) := by decide +kernel
theorem dX6_balloons_24 : decode cX6_balloons 24 = .ok (.iinc 2 1, 3) := by decide +kernel
theorem dX6_balloons_27 : decode cX6_balloons 27 = .ok (.goto (-23), 3) := by decide +kernel
theorem dX6_balloons_30 : decode cX6_balloons 30 = .ok (.iload_n 1, 1) := by decide +kernel
theorem dX6_balloons_31 : decode cX6_balloons 31 = .ok (.ireturn, 1) := by decide +kernel
set_option maxRecDepth 20000 in
theorem ggX6_count_X6_many : GoodIn wsX6_count wsX6_many := goodIn_r _ [8, 1, 13, 14, 15, 16, 17, 18, 19, 20, 21, 22, 23, 24, 25, 26, 27, 28, 29, 30, 31, 32, 33, 34, 35, 36, 37, 38, 39, 40, 41] (by decide +kernel) (by decide +kernel)
set_option maxRecDepth 20000 in
theorem gX6_count_X6_many : GoodIn wsX6_count (wsV RX6 47 RX6 yX6_many wsX6_many) := goodIn_app (goodIn_of _ (by decide +kernel)) ggX6_count_X6_many
set_option maxRecDepth 20000 in
theorem ggX6_count_X6_balloons : GoodIn wsX6_count wsX6_balloons := goodIn_r _ [12, 1, 4, 5, 6, 7, 8, 13, 14, 15, 16, 17, 18, 19, 20, 21, 22, 23, 24, 25, 26, 27, 28, 29, 30, 31, 32, 33, 34, 35, 36, 37, 38, 39, 40, 41] (by decide +kernel) (by decide +kernel)
set_option maxRecDepth 20000 in
theorem gX6_count_X6_balloons : GoodIn wsX6_count (wsV RX6 216 RX6 yX6_balloons wsX6_balloons) := goodIn_app (goodIn_of _ (by decide +kernel)) ggX6_count_X6_balloons
theorem dX6_count_0 : decode cX6_count 0 = .ok (.iload_n 1, 1) := by decide +kernel
theorem dX6_count_1 : decode cX6_count 1 = .ok (.tableswitch 88 0 4 #[35, 40, 48, 53, 58], 35) := by decide +kernel
theorem dX6_count_36 : decode cX6_count 36 = .ok (.aload_n 0, 1) := by decide +kernel
theorem dX6_count_37 : decode cX6_count 37 = .ok (.invokevirtual 47, 3) := by decide +kernel
theorem dX6_count_40 : decode cX6_count 40 = .ok (.ireturn, 1) := by decide +kernel
theorem dX6_count_41 : decode cX6_count 41 = .ok (.aload_n 0, 1) := by decide +kernel
theorem dX6_count_42 : decode cX6_count 42 = .ok (.getfield 7, 3) := by decide +kernel
theorem dX6_count_45 : decode cX6_count 45 = .ok (.bipush 73, 2) := by decide +kernel
theorem dX6_count_47 : decode cX6_count 47 = .ok (.iaload, 1) := by decide +kernel
theorem dX6_count_48 : decode cX6_count 48 = .ok (.ireturn, 1) := by decide +kernel
theorem dX6_count_49 : decode cX6_count 49 = .ok (.aload_n 0, 1) := by decide +kernel
theorem dX6_count_50 : decode cX6_count 50 = .ok (.getfield 128, 3) := by decide +kernel
theorem dX6_count_53 : decode cX6_count 53 = .ok (.ireturn, 1) := by decide +kernel
theorem dX6_count_54 : decode cX6_count 54 = .ok (.aload_n 0, 1) := by decide +kernel
theorem dX6_count_55 : decode cX6_count 55 = .ok (.invokevirtual 216, 3) := by decide +kernel
theorem dX6_count_58 : decode cX6_count 58 = .ok (.ireturn, 1) := by decide +kernel
theorem dX6_count_59 : decode cX6_count 59 = .ok (.aload_n 0, 1) := by decide +kernel
theorem dX6_count_60 : decode cX6_count 60 = .ok (.getfield 16, 3) := by decide +kernel
theorem dX6_count_63 : decode cX6_count 63 = .ok (.iconst 0, 1) := by decide +kernel
theorem dX6_count_64 : decode cX6_count 64 = .ok (.baload, 1) := by decide +kernel
theorem dX6_count_65 : decode cX6_count 65 = .ok (.ifCond .eq 7, 3) := by decide +kernel
theorem dX6_count_68 : decode cX6_count 68 = .ok (.iconst 1, 1) := by decide +kernel
theorem dX6_count_69 : decode cX6_count 69 = .ok (.goto 4, 3) := by decide +kernel
theorem dX6_count_72 : decode cX6_count 72 = .ok (.iconst 0, 1) := by decide +kernel
theorem dX6_count_73 : decode cX6_count 73 = .ok (.aload_n 0, 1) := by decide +kernel
theorem dX6_count_74 : decode cX6_count 74 = .ok (.getfield 16, 3) := by decide +kernel
theorem dX6_count_77 : decode cX6_count 77 = .ok (.iconst 1, 1) := by decide +kernel
theorem dX6_count_78 : decode cX6_count 78 = .ok (.baload, 1) := by decide +kernel
theorem dX6_count_79 : decode cX6_count 79 = .ok (.ifCond .eq 7, 3) := by decide +kernel
theorem dX6_count_82 : decode cX6_count 82 = .ok (.iconst 2, 1) := by decide +kernel
theorem dX6_count_83 : decode cX6_count 83 = .ok (.goto 4, 3) := by decide +kernel
theorem dX6_count_86 : decode cX6_count 86 = .ok (.iconst 0, 1) := by decide +kernel
theorem dX6_count_87 : decode cX6_count 87 = .ok (.iadd, 1) := by decide +kernel
theorem dX6_count_88 : decode cX6_count 88 = .ok (.ireturn, 1) := by decide +kernel
theorem dX6_count_89 : decode cX6_count 89 = .ok (.bipush (-2), 2) := by decide +kernel
theorem dX6_count_91 : decode cX6_count 91 = .ok (.ireturn, 1) := by decide +kernel
theorem dJ9_abs_0f7a4_0 : decode cJ9_abs_0f7a4 0 = .ok (.iload_n 0, 1) := by decide +kernel
theorem dJ9_abs_0f7a4_1 : decode cJ9_abs_0f7a4 1 = .ok (.ifCond .ge 8, 3) := by decide +kernel
theorem dJ9_abs_0f7a4_4 : decode cJ9_abs_0f7a4 4 = .ok (.iload_n 0, 1) := by decide +kernel
theorem dJ9_abs_0f7a4_5 : decode cJ9_abs_0f7a4 5 = .ok (.ineg, 1) := by decide +kernel
theorem dJ9_abs_0f7a4_6 : decode cJ9_abs_0f7a4 6 = .ok (.goto 4, 3) := by decide +kernel
theorem dJ9_abs_0f7a4_9 : decode cJ9_abs_0f7a4 9 = .ok (.iload_n 0, 1) := by decide +kernel
theorem dJ9_abs_0f7a4_10 : decode cJ9_abs_0f7a4 10 = .ok (.ireturn, 1) := by decide +kernel
theorem dJ9_max_7cf53_0 : decode cJ9_max_7cf53 0 = .ok (.iload_n 0, 1) := by decide +kernel
theorem dJ9_max_7cf53_1 : decode cJ9_max_7cf53 1 = .ok (.iload_n 1, 1) := by decide +kernel
theorem dJ9_max_7cf53_2 : decode cJ9_max_7cf53 2 = .ok (.if_icmp .lt 7, 3) := by decide +kernel
theorem dJ9_max_7cf53_5 : decode cJ9_max_7cf53 5 = .ok (.iload_n 0, 1) := by decide +kernel
theorem dJ9_max_7cf53_6 : decode cJ9_max_7cf53 6 = .ok (.goto 4, 3) := by decide +kernel
theorem dJ9_max_7cf53_9 : decode cJ9_max_7cf53 9 = .ok (.iload_n 1, 1) := by decide +kernel
theorem dJ9_max_7cf53_10 : decode cJ9_max_7cf53 10 = .ok (.ireturn, 1) := by decide +kernel
set_option maxRecDepth 20000 in
theorem ggL_law_X5_init : GoodIn wsL_law wsX5_init := goodIn_r _ [8, 9, 10, 11, 12, 13, 14, 15, 16, 17, 18, 19, 20, 21, 22, 23, 24, 25, 26, 27, 28, 29, 30, 31, 32, 33, 34, 35, 36, 37, 38, 39, 40, 41, 42, 43, 44, 45, 46, 47, 48, 49, 50, 51, 52, 53, 54, 55, 56, 57, 58, 59, 60, 61, 62, 63, 64, 65, 66, 67, 68, 69, 70, 71, 72, 73, 74, 75, 76, 77, 78, 79, 80, 81, 82, 682, 683, 684, 685, 686, 687, 688, 646, 647, 648, 649, 650, 651, 652, 689, 690, 691, 692, 693, 694, 695, 696, 697, 698, 699, 700, 701, 702, 703, 704, 705, 706, 707, 708, 709, 710, 711, 712, 713] (by decide +kernel) (by decide +kernel)
set_option maxRecDepth 20000 in
theorem gL_law_X5_init : GoodIn wsL_law (wsX5_init) := ggL_law_X5_init
set_option maxRecDepth 20000 in
theorem ggL_law_X6_init : GoodIn wsL_law wsX6_init := goodIn_r _ [85, 86, 10, 11, 39, 87, 88, 89, 90, 91, 92, 93, 94, 95, 96, 97, 98, 99, 653, 654, 655, 656, 657, 658, 659, 660, 661, 662, 663, 664, 665, 666, 667, 668, 669, 670, 671, 672, 673, 674, 675, 676, 677, 678, 679, 680, 681] (by decide +kernel) (by decide +kernel)
set_option maxRecDepth 20000 in
theorem gL_law_X6_init : GoodIn wsL_law (wsX6_init) := ggL_law_X6_init
set_option maxRecDepth 20000 in
theorem ggL_law_X5_panel : GoodIn wsL_law wsX5_panel := goodIn_r _ [103, 15, 104, 105, 106, 107, 108, 109, 110, 2, 111, 646, 647, 648, 649, 650, 651, 652, 682, 683, 684, 685, 686, 687, 688] (by decide +kernel) (by decide +kernel)
set_option maxRecDepth 20000 in
theorem gL_law_X5_panel : GoodIn wsL_law (wsV RL 13 RX5 yX5_panel wsX5_panel) := goodIn_app (goodIn_of _ (by decide +kernel)) ggL_law_X5_panel
set_option maxRecDepth 20000 in
theorem ggL_law_X6_panel : GoodIn wsL_law wsX6_panel := goodIn_r _ [115, 87, 116, 117, 5, 118, 119, 120, 121, 122, 123, 124, 125, 653, 654, 655, 656, 657, 658, 659, 660, 661, 662, 663, 664, 665, 666, 667, 668, 669, 670, 671, 672, 673, 674, 675, 676, 677, 678, 679, 680, 681] (by decide +kernel) (by decide +kernel)
set_option maxRecDepth 20000 in
theorem gL_law_X6_panel : GoodIn wsL_law (wsV RL 17 RX6 yX6_panel wsX6_panel) := goodIn_app (goodIn_of _ (by decide +kernel)) ggL_law_X6_panel
set_option maxRecDepth 20000 in
theorem ggL_law_X5_pop : GoodIn wsL_law wsX5_pop := goodIn_r _ [129, 15, 104, 646, 647, 648, 649, 650, 651, 652, 682, 683, 684, 685, 686, 687, 688] (by decide +kernel) (by decide +kernel)
set_option maxRecDepth 20000 in
theorem gL_law_X5_pop : GoodIn wsL_law (wsV RL 18 RX5 yX5_pop wsX5_pop) := goodIn_app (goodIn_of _ (by decide +kernel)) ggL_law_X5_pop
set_option maxRecDepth 20000 in
theorem ggL_law_X6_pop : GoodIn wsL_law wsX6_pop := goodIn_r _ [133, 87, 122, 123, 124, 5, 125, 653, 654, 655, 656, 657, 658, 659, 660, 661, 662, 663, 664, 665, 666, 667, 668, 669, 670, 671, 672, 673, 674, 675, 676, 677, 678, 679, 680, 681] (by decide +kernel) (by decide +kernel)
set_option maxRecDepth 20000 in
theorem gL_law_X6_pop : GoodIn wsL_law (wsV RL 22 RX6 yX6_pop wsX6_pop) := goodIn_app (goodIn_of _ (by decide +kernel)) ggL_law_X6_pop
set_option maxRecDepth 20000 in
theorem ggL_law_X5_change : GoodIn wsL_law wsX5_change := goodIn_r _ [137, 15, 105, 106, 107, 138, 139, 140, 14, 141, 37, 109, 110, 2, 111, 142, 143, 144, 145, 40, 41, 42, 43, 646, 647, 648, 649, 650, 651, 652, 682, 683, 684, 685, 686, 687, 688] (by decide +kernel) (by decide +kernel)
set_option maxRecDepth 20000 in
theorem gL_law_X5_change : GoodIn wsL_law (wsV RL 23 RX5 yX5_change wsX5_change) := goodIn_app (goodIn_of _ (by decide +kernel)) ggL_law_X5_change
set_option maxRecDepth 20000 in
theorem ggL_law_X6_change : GoodIn wsL_law wsX6_change := goodIn_r _ [149, 87, 150, 151, 152, 5, 153, 122, 123, 124, 125, 119, 120, 121, 116, 117, 118, 653, 654, 655, 656, 657, 658, 659, 660, 661, 662, 663, 664, 665, 666, 667, 668, 669, 670, 671, 672, 673, 674, 675, 676, 677, 678, 679, 680, 681] (by decide +kernel) (by decide +kernel)
set_option maxRecDepth 20000 in
theorem gL_law_X6_change : GoodIn wsL_law (wsV RL 26 RX6 yX6_change wsX6_change) := goodIn_app (goodIn_of _ (by decide +kernel)) ggL_law_X6_change
set_option maxRecDepth 20000 in
theorem ggL_law_X5_high : GoodIn wsL_law wsX5_high := goodIn_r _ [157, 15, 158, 646, 647, 648, 649, 650, 651, 652, 682, 683, 684, 685, 686, 687, 688] (by decide +kernel) (by decide +kernel)
set_option maxRecDepth 20000 in
theorem gL_law_X5_high : GoodIn wsL_law (wsV RL 27 RX5 yX5_high wsX5_high) := goodIn_app (goodIn_of _ (by decide +kernel)) ggL_law_X5_high
set_option maxRecDepth 20000 in
theorem ggL_law_X6_high : GoodIn wsL_law wsX6_high := goodIn_r _ [162, 87, 119, 120, 5, 121, 653, 654, 655, 656, 657, 658, 659, 660, 661, 662, 663, 664, 665, 666, 667, 668, 669, 670, 671, 672, 673, 674, 675, 676, 677, 678, 679, 680, 681] (by decide +kernel) (by decide +kernel)
set_option maxRecDepth 20000 in
theorem gL_law_X6_high : GoodIn wsL_law (wsV RL 31 RX6 yX6_high wsX6_high) := goodIn_app (goodIn_of _ (by decide +kernel)) ggL_law_X6_high
set_option maxRecDepth 20000 in
theorem ggL_law_X5_of : GoodIn wsL_law wsX5_of := goodIn_r _ [166, 15, 138, 139, 140, 14, 141, 37, 142, 143, 144, 145, 40, 41, 42, 43, 646, 647, 648, 649, 650, 651, 652, 682, 683, 684, 685, 686, 687, 688] (by decide +kernel) (by decide +kernel)
set_option maxRecDepth 20000 in
theorem gL_law_X5_of : GoodIn wsL_law (wsV RL 32 RX5 yX5_of wsX5_of) := goodIn_app (goodIn_of _ (by decide +kernel)) ggL_law_X5_of
set_option maxRecDepth 20000 in
theorem ggL_law_X6_of : GoodIn wsL_law wsX6_of := goodIn_r _ [170, 87, 150, 151, 152, 5, 153, 122, 123, 124, 125, 119, 120, 121, 653, 654, 655, 656, 657, 658, 659, 660, 661, 662, 663, 664, 665, 666, 667, 668, 669, 670, 671, 672, 673, 674, 675, 676, 677, 678, 679, 680, 681] (by decide +kernel) (by decide +kernel)
set_option maxRecDepth 20000 in
theorem gL_law_X6_of : GoodIn wsL_law (wsV RL 36 RX6 yX6_of wsX6_of) := goodIn_app (goodIn_of _ (by decide +kernel)) ggL_law_X6_of
set_option maxRecDepth 20000 in
theorem ggL_law_X5_tier : GoodIn wsL_law wsX5_tier := goodIn_r _ [174, 15, 104, 138, 139, 140, 14, 141, 37, 175, 176, 177, 178, 41, 179, 180, 181, 182, 183, 184, 185, 186, 187, 188, 189, 190, 191, 40, 646, 647, 648, 649, 650, 651, 652, 682, 683, 684, 685, 686, 687, 688] (by decide +kernel) (by decide +kernel)
set_option maxRecDepth 20000 in
theorem gL_law_X5_tier : GoodIn wsL_law (wsV RL 37 RX5 yX5_tier wsX5_tier) := goodIn_app (goodIn_of _ (by decide +kernel)) ggL_law_X5_tier
set_option maxRecDepth 20000 in
theorem ggL_law_X6_tier : GoodIn wsL_law wsX6_tier := goodIn_r _ [195, 92, 150, 151, 152, 5, 153, 122, 123, 124, 125, 87, 119, 120, 121, 196, 197, 198, 199, 200, 201, 202, 203, 204, 205, 206, 207, 93, 208, 209, 210, 211, 653, 654, 655, 656, 657, 658, 659, 660, 661, 662, 663, 664, 665, 666, 667, 668, 669, 670, 671, 672, 673, 674, 675, 676, 677, 678, 679, 680, 681] (by decide +kernel) (by decide +kernel)
set_option maxRecDepth 20000 in
theorem gL_law_X6_tier : GoodIn wsL_law (wsV RL 40 RX6 yX6_tier wsX6_tier) := goodIn_app (goodIn_of _ (by decide +kernel)) ggL_law_X6_tier
set_option maxRecDepth 20000 in
theorem ggL_law_X5_say : GoodIn wsL_law wsX5_say := goodIn_r _ [215, 19, 216, 217, 218, 219, 18, 220, 48, 49, 646, 647, 648, 649, 650, 651, 652, 689, 690] (by decide +kernel) (by decide +kernel)
set_option maxRecDepth 20000 in
theorem gL_law_X5_say : GoodIn wsL_law (wsV RL 41 RX5 yX5_say wsX5_say) := goodIn_app (goodIn_of _ (by decide +kernel)) ggL_law_X5_say
set_option maxRecDepth 20000 in
theorem ggL_law_X6_say : GoodIn wsL_law wsX6_say := goodIn_r _ [224, 225, 91, 119, 120, 5, 121, 653, 654, 655, 656, 657, 658, 659, 660, 661, 662, 663, 664, 665, 666, 667, 668, 669, 670, 671, 672, 673, 674, 675, 676, 677, 678, 679, 680, 681] (by decide +kernel) (by decide +kernel)
set_option maxRecDepth 20000 in
theorem gL_law_X6_say : GoodIn wsL_law (wsV RL 44 RX6 yX6_say wsX6_say) := goodIn_app (goodIn_of _ (by decide +kernel)) ggL_law_X6_say
set_option maxRecDepth 20000 in
theorem ggL_law_X5_wipe : GoodIn wsL_law wsX5_wipe := goodIn_r _ [229, 19, 216, 646, 647, 648, 649, 650, 651, 652, 689, 690] (by decide +kernel) (by decide +kernel)
set_option maxRecDepth 20000 in
theorem gL_law_X5_wipe : GoodIn wsL_law (wsV RL 45 RX5 yX5_wipe wsX5_wipe) := goodIn_app (goodIn_of _ (by decide +kernel)) ggL_law_X5_wipe
set_option maxRecDepth 20000 in
theorem ggL_law_X6_wipe : GoodIn wsL_law wsX6_wipe := goodIn_r _ [233, 225, 653, 654, 655, 656, 657, 658, 659, 660, 661, 662, 663, 664, 665, 666, 667, 668, 669, 670, 671, 672, 673, 674, 675, 676, 677, 678, 679, 680, 681] (by decide +kernel) (by decide +kernel)
set_option maxRecDepth 20000 in
theorem gL_law_X6_wipe : GoodIn wsL_law (wsV RL 48 RX6 yX6_wipe wsX6_wipe) := goodIn_app (goodIn_of _ (by decide +kernel)) ggL_law_X6_wipe
set_option maxRecDepth 20000 in
theorem ggL_law_X5_judge : GoodIn wsL_law wsX5_judge := goodIn_r _ [237, 23, 15, 19, 238, 239, 240, 241, 2, 242, 216, 104, 243, 244, 245, 18, 246, 48, 247, 248, 249, 250, 251, 252, 253, 254, 49, 255, 256, 257, 22, 258, 53, 259, 260, 261, 262, 263, 264, 61, 265, 266, 267, 268, 14, 269, 42, 270, 271, 272, 273, 274, 275, 276, 277, 278, 279, 280, 281, 282, 62, 63, 283, 180, 181, 182, 284, 285, 286, 287, 58, 288, 289, 290, 291, 60, 64, 292, 293, 294, 295, 296, 297, 298, 299, 646, 647, 648, 649, 650, 651, 652, 691, 692, 693, 694, 695, 696, 697, 698, 699, 700, 701, 702, 689, 690, 682, 683, 684, 685, 686, 687, 688] (by decide +kernel) (by decide +kernel)
set_option maxRecDepth 20000 in
theorem gL_law_X5_judge : GoodIn wsL_law (wsV RL 49 RX5 yX5_judge wsX5_judge) := goodIn_app (goodIn_of _ (by decide +kernel)) ggL_law_X5_judge
set_option maxRecDepth 20000 in
theorem ggL_law_X6_judge : GoodIn wsL_law wsX6_judge := goodIn_r _ [303, 304, 119, 120, 5, 121, 305, 306, 307, 308, 225, 122, 123, 124, 125, 87, 309, 310, 311, 312, 91, 313, 314, 315, 316, 94, 317, 318, 319, 320, 321, 322, 323, 324, 325, 326, 327, 328, 329, 330, 331, 332, 333, 334, 335, 336, 337, 338, 339, 340, 341, 342, 196, 197, 198, 199, 343, 344, 345, 346, 95, 96, 97, 347, 348, 349, 350, 351, 352, 353, 354, 200, 201, 202, 203, 355, 356, 357, 358, 359, 360, 361, 362, 653, 654, 655, 656, 657, 658, 659, 660, 661, 662, 663, 664, 665, 666, 667, 668, 669, 670, 671, 672, 673, 674, 675, 676, 677, 678, 679, 680, 681] (by decide +kernel) (by decide +kernel)
set_option maxRecDepth 20000 in
theorem gL_law_X6_judge : GoodIn wsL_law (wsV RL 52 RX6 yX6_judge wsX6_judge) := goodIn_app (goodIn_of _ (by decide +kernel)) ggL_law_X6_judge
set_option maxRecDepth 20000 in
theorem ggL_law_X5_told : GoodIn wsL_law wsX5_told := goodIn_r _ [366, 23, 15, 19, 367, 368, 369, 370, 239, 240, 241, 2, 242, 216, 104, 243, 244, 245, 18, 246, 48, 247, 248, 249, 250, 251, 252, 253, 254, 49, 255, 256, 257, 22, 258, 53, 259, 260, 261, 262, 263, 264, 61, 265, 266, 267, 268, 14, 269, 42, 270, 271, 272, 273, 274, 275, 276, 277, 278, 279, 280, 281, 282, 62, 63, 283, 180, 181, 182, 284, 285, 286, 287, 58, 288, 289, 290, 291, 60, 64, 292, 293, 294, 295, 296, 297, 298, 299, 371, 372, 373, 374, 54, 55, 56, 57, 59, 375, 376, 377, 378, 379, 380, 381, 382, 646, 647, 648, 649, 650, 651, 652, 691, 692, 693, 694, 695, 696, 697, 698, 699, 700, 701, 702, 689, 690, 682, 683, 684, 685, 686, 687, 688] (by decide +kernel) (by decide +kernel)
set_option maxRecDepth 20000 in
theorem gL_law_X5_told : GoodIn wsL_law (wsV RL 53 RX5 yX5_told wsX5_told) := goodIn_app (goodIn_of _ (by decide +kernel)) ggL_law_X5_told
set_option maxRecDepth 20000 in
theorem ggL_law_X6_told : GoodIn wsL_law wsX6_told := goodIn_r _ [386, 321, 322, 323, 324, 119, 120, 5, 121, 305, 306, 307, 308, 225, 122, 123, 124, 125, 87, 309, 310, 311, 312, 91, 313, 314, 315, 316, 94, 317, 318, 319, 320, 325, 326, 304, 327, 328, 329, 330, 331, 332, 333, 334, 335, 336, 337, 338, 339, 340, 341, 342, 196, 197, 198, 199, 343, 344, 345, 346, 95, 96, 97, 347, 348, 349, 350, 351, 352, 353, 354, 200, 201, 202, 203, 355, 356, 357, 358, 359, 360, 361, 362, 653, 654, 655, 656, 657, 658, 659, 660, 661, 662, 663, 664, 665, 666, 667, 668, 669, 670, 671, 672, 673, 674, 675, 676, 677, 678, 679, 680, 681] (by decide +kernel) (by decide +kernel)
set_option maxRecDepth 20000 in
theorem gL_law_X6_told : GoodIn wsL_law (wsV RL 56 RX6 yX6_told wsX6_told) := goodIn_app (goodIn_of _ (by decide +kernel)) ggL_law_X6_told
set_option maxRecDepth 20000 in
theorem ggL_law_X5_at : GoodIn wsL_law wsX5_at := goodIn_r _ [390, 15, 23, 19, 391, 392, 393, 138, 139, 140, 14, 141, 37, 239, 240, 241, 2, 242, 216, 104, 243, 244, 245, 18, 246, 48, 247, 248, 249, 250, 251, 252, 253, 254, 49, 255, 256, 257, 22, 258, 53, 259, 260, 261, 262, 263, 264, 61, 265, 266, 267, 268, 269, 42, 270, 271, 272, 273, 274, 275, 276, 277, 278, 279, 280, 281, 282, 62, 63, 283, 180, 181, 182, 284, 285, 286, 287, 58, 288, 289, 290, 291, 60, 64, 292, 293, 294, 295, 296, 297, 298, 299, 371, 372, 373, 374, 54, 55, 56, 57, 59, 375, 376, 377, 378, 379, 380, 381, 382, 394, 395, 396, 397, 398, 189, 190, 191, 40, 646, 647, 648, 649, 650, 651, 652, 691, 692, 693, 694, 695, 696, 697, 698, 699, 700, 701, 702, 682, 683, 684, 685, 686, 687, 688, 689, 690] (by decide +kernel) (by decide +kernel)
set_option maxRecDepth 20000 in
theorem gL_law_X5_at : GoodIn wsL_law (wsV RL 57 RX5 yX5_at wsX5_at) := goodIn_app (goodIn_of _ (by decide +kernel)) ggL_law_X5_at
set_option maxRecDepth 20000 in
theorem ggL_law_X6_at : GoodIn wsL_law wsX6_at := goodIn_r _ [402, 95, 96, 97, 150, 151, 152, 5, 153, 122, 123, 124, 125, 87, 119, 120, 121, 305, 306, 307, 308, 225, 309, 310, 311, 312, 91, 313, 314, 315, 316, 94, 317, 318, 319, 320, 321, 322, 323, 324, 325, 326, 304, 327, 328, 329, 330, 331, 332, 333, 334, 335, 336, 337, 338, 339, 340, 341, 342, 196, 197, 198, 199, 343, 344, 345, 346, 347, 348, 349, 350, 351, 352, 353, 354, 200, 201, 202, 203, 355, 356, 357, 358, 359, 360, 361, 362, 403, 404, 405, 406, 92, 204, 205, 206, 207, 93, 208, 209, 210, 211, 653, 654, 655, 656, 657, 658, 659, 660, 661, 662, 663, 664, 665, 666, 667, 668, 669, 670, 671, 672, 673, 674, 675, 676, 677, 678, 679, 680, 681] (by decide +kernel) (by decide +kernel)
set_option maxRecDepth 20000 in
theorem gL_law_X6_at : GoodIn wsL_law (wsV RL 60 RX6 yX6_at wsX6_at) := goodIn_app (goodIn_of _ (by decide +kernel)) ggL_law_X6_at
set_option maxRecDepth 20000 in
theorem ggL_law_X5_best : GoodIn wsL_law wsX5_best := goodIn_r _ [410, 15, 27, 138, 139, 140, 14, 141, 37, 411, 412, 413, 26, 414, 415, 70, 72, 69, 416, 417, 418, 419, 71, 73, 74, 420, 262, 263, 22, 264, 61, 265, 266, 267, 268, 269, 42, 270, 271, 272, 273, 274, 275, 276, 277, 278, 279, 280, 281, 282, 62, 63, 283, 180, 181, 182, 421, 285, 286, 287, 58, 288, 289, 290, 291, 60, 64, 292, 293, 294, 295, 296, 297, 298, 299, 422, 423, 424, 425, 426, 427, 428, 429, 430, 431, 380, 381, 382, 432, 433, 434, 435, 436, 437, 438, 439, 440, 441, 442, 443, 444, 445, 446, 447, 448, 449, 450, 451, 452, 453, 454, 455, 456, 457, 646, 647, 648, 649, 650, 651, 652, 682, 683, 684, 685, 686, 687, 688, 703, 704, 705, 706, 707, 708, 691, 692, 693, 694, 695, 696, 697, 698, 699, 700, 701, 702] (by decide +kernel) (by decide +kernel)
set_option maxRecDepth 20000 in
theorem gL_law_X5_best : GoodIn wsL_law (wsV RL 61 RX5 yX5_best wsX5_best) := goodIn_app (goodIn_of _ (by decide +kernel)) ggL_law_X5_best
set_option maxRecDepth 20000 in
theorem ggL_law_X6_best : GoodIn wsL_law wsX6_best := goodIn_r _ [461, 462, 463, 464, 465, 119, 120, 5, 121, 466, 467, 468, 469, 470, 122, 123, 124, 125, 87, 471, 472, 473, 474, 321, 322, 475, 476, 477, 478, 94, 317, 318, 319, 320, 323, 324, 325, 326, 304, 327, 328, 329, 330, 331, 332, 333, 334, 335, 336, 337, 338, 339, 340, 341, 342, 196, 197, 198, 199, 343, 344, 345, 346, 95, 96, 97, 347, 348, 349, 350, 351, 352, 353, 354, 200, 201, 202, 203, 355, 356, 357, 358, 359, 360, 361, 362, 479, 480, 481, 482, 653, 654, 655, 656, 657, 658, 659, 660, 661, 662, 663, 664, 665, 666, 667, 668, 669, 670, 671, 672, 673, 674, 675, 676, 677, 678, 679, 680, 681] (by decide +kernel) (by decide +kernel)
set_option maxRecDepth 20000 in
theorem gL_law_X6_best : GoodIn wsL_law (wsV RL 64 RX6 yX6_best wsX6_best) := goodIn_app (goodIn_of _ (by decide +kernel)) ggL_law_X6_best
set_option maxRecDepth 20000 in
theorem ggL_law_X5_lay : GoodIn wsL_law wsX5_lay := goodIn_r _ [486, 27, 15, 19, 216, 104, 411, 412, 413, 26, 414, 415, 70, 72, 69, 416, 417, 418, 419, 71, 73, 74, 420, 262, 263, 22, 264, 61, 265, 266, 267, 268, 14, 269, 42, 270, 271, 272, 273, 274, 275, 276, 277, 278, 279, 280, 281, 282, 62, 63, 283, 180, 181, 182, 421, 285, 286, 287, 58, 288, 289, 290, 291, 60, 64, 292, 293, 294, 295, 296, 297, 298, 299, 422, 423, 424, 425, 426, 427, 428, 429, 430, 431, 380, 381, 382, 432, 433, 434, 435, 436, 437, 438, 439, 440, 441, 454, 455, 456, 457, 217, 218, 219, 18, 220, 48, 49, 646, 647, 648, 649, 650, 651, 652, 689, 690, 682, 683, 684, 685, 686, 687, 688, 703, 704, 705, 706, 707, 708, 691, 692, 693, 694, 695, 696, 697, 698, 699, 700, 701, 702] (by decide +kernel) (by decide +kernel)
set_option maxRecDepth 20000 in
theorem gL_law_X5_lay : GoodIn wsL_law (wsV RL 65 RX5 yX5_lay wsX5_lay) := goodIn_app (goodIn_of _ (by decide +kernel)) ggL_law_X5_lay
set_option maxRecDepth 20000 in
theorem ggL_law_X6_lay : GoodIn wsL_law wsX6_lay := goodIn_r _ [490, 470, 225, 91, 94, 466, 467, 468, 5, 469, 464, 462, 465, 463, 122, 123, 124, 125, 87, 471, 472, 473, 474, 321, 322, 475, 476, 477, 478, 317, 318, 319, 320, 323, 324, 325, 326, 304, 327, 328, 329, 330, 331, 332, 333, 334, 335, 336, 337, 338, 339, 340, 341, 342, 196, 197, 198, 199, 343, 344, 345, 346, 95, 96, 97, 347, 348, 349, 350, 351, 352, 353, 354, 200, 201, 202, 203, 355, 356, 357, 358, 359, 360, 361, 362, 653, 654, 655, 656, 657, 658, 659, 660, 661, 662, 663, 664, 665, 666, 667, 668, 669, 670, 671, 672, 673, 674, 675, 676, 677, 678, 679, 680, 681] (by decide +kernel) (by decide +kernel)
set_option maxRecDepth 20000 in
theorem gL_law_X6_lay : GoodIn wsL_law (wsV RL 68 RX6 yX6_lay wsX6_lay) := goodIn_app (goodIn_of _ (by decide +kernel)) ggL_law_X6_lay
set_option maxRecDepth 20000 in
theorem ggL_law_X5_talk : GoodIn wsL_law wsX5_talk := goodIn_r _ [494, 15, 19, 216, 495, 108, 138, 139, 140, 14, 141, 37, 243, 244, 245, 18, 246, 48, 247, 248, 249, 250, 251, 252, 253, 254, 49, 496, 646, 647, 648, 649, 650, 651, 652, 689, 690, 682, 683, 684, 685, 686, 687, 688] (by decide +kernel) (by decide +kernel)
set_option maxRecDepth 20000 in
theorem gL_law_X5_talk : GoodIn wsL_law (wsV RL 69 RX5 yX5_talk wsX5_talk) := goodIn_app (goodIn_of _ (by decide +kernel)) ggL_law_X5_talk
set_option maxRecDepth 20000 in
theorem ggL_law_X6_talk : GoodIn wsL_law wsX6_talk := goodIn_r _ [500, 225, 87, 91, 150, 151, 152, 5, 153, 122, 123, 124, 125, 119, 120, 121, 309, 310, 311, 312, 653, 654, 655, 656, 657, 658, 659, 660, 661, 662, 663, 664, 665, 666, 667, 668, 669, 670, 671, 672, 673, 674, 675, 676, 677, 678, 679, 680, 681] (by decide +kernel) (by decide +kernel)
set_option maxRecDepth 20000 in
theorem gL_law_X6_talk : GoodIn wsL_law (wsV RL 72 RX6 yX6_talk wsX6_talk) := goodIn_app (goodIn_of _ (by decide +kernel)) ggL_law_X6_talk
set_option maxRecDepth 20000 in
theorem ggL_law_X5_speaker : GoodIn wsL_law wsX5_speaker := goodIn_r _ [504, 15, 108, 138, 139, 140, 14, 141, 37, 505, 506, 507, 508, 44, 646, 647, 648, 649, 650, 651, 652, 682, 683, 684, 685, 686, 687, 688] (by decide +kernel) (by decide +kernel)
set_option maxRecDepth 20000 in
theorem gL_law_X5_speaker : GoodIn wsL_law (wsV RL 73 RX5 yX5_speaker wsX5_speaker) := goodIn_app (goodIn_of _ (by decide +kernel)) ggL_law_X5_speaker
set_option maxRecDepth 20000 in
theorem ggL_law_X6_speaker : GoodIn wsL_law wsX6_speaker := goodIn_r _ [512, 87, 150, 151, 152, 5, 153, 122, 123, 124, 125, 119, 120, 121, 513, 514, 515, 516, 653, 654, 655, 656, 657, 658, 659, 660, 661, 662, 663, 664, 665, 666, 667, 668, 669, 670, 671, 672, 673, 674, 675, 676, 677, 678, 679, 680, 681] (by decide +kernel) (by decide +kernel)
set_option maxRecDepth 20000 in
theorem gL_law_X6_speaker : GoodIn wsL_law (wsV RL 76 RX6 yX6_speaker wsX6_speaker) := goodIn_app (goodIn_of _ (by decide +kernel)) ggL_law_X6_speaker
set_option maxRecDepth 20000 in
theorem ggL_law_X5_good : GoodIn wsL_law wsX5_good := goodIn_r _ [520, 15, 108, 31, 521, 522, 523, 524, 138, 139, 140, 14, 141, 37, 525, 526, 527, 30, 528, 80, 81, 82, 529, 530, 531, 532, 533, 78, 534, 535, 536, 537, 79, 538, 539, 540, 541, 542, 543, 544, 545, 546, 547, 181, 548, 549, 506, 507, 508, 44, 646, 647, 648, 649, 650, 651, 652, 682, 683, 684, 685, 686, 687, 688, 709, 710, 711, 712, 713] (by decide +kernel) (by decide +kernel)
set_option maxRecDepth 20000 in
theorem gL_law_X5_good : GoodIn wsL_law (wsV RL 77 RX5 yX5_good wsX5_good) := goodIn_app (goodIn_of _ (by decide +kernel)) ggL_law_X5_good
set_option maxRecDepth 20000 in
theorem ggL_law_X6_good : GoodIn wsL_law wsX6_good := goodIn_r _ [553, 554, 555, 556, 150, 151, 152, 5, 153, 122, 123, 124, 125, 87, 119, 120, 121, 557, 558, 559, 560, 561, 562, 563, 564, 565, 98, 99, 566, 567, 568, 569, 570, 571, 572, 573, 513, 514, 515, 516, 574, 575, 576, 577, 578, 579, 580, 581, 582, 583, 584, 585, 586, 587, 588, 589, 653, 654, 655, 656, 657, 658, 659, 660, 661, 662, 663, 664, 665, 666, 667, 668, 669, 670, 671, 672, 673, 674, 675, 676, 677, 678, 679, 680, 681] (by decide +kernel) (by decide +kernel)
set_option maxRecDepth 20000 in
theorem gL_law_X6_good : GoodIn wsL_law (wsV RL 80 RX6 yX6_good wsX6_good) := goodIn_app (goodIn_of _ (by decide +kernel)) ggL_law_X6_good
set_option maxRecDepth 20000 in
theorem ggL_law_X5_isGood : GoodIn wsL_law wsX5_isGood := goodIn_r _ [593, 15, 108, 31, 594, 19, 138, 139, 140, 14, 141, 37, 595, 596, 597, 2, 598, 216, 599, 248, 249, 18, 250, 251, 252, 253, 254, 49, 496, 600, 543, 544, 30, 545, 78, 546, 547, 181, 548, 549, 506, 507, 508, 44, 646, 647, 648, 649, 650, 651, 652, 682, 683, 684, 685, 686, 687, 688, 709, 710, 711, 712, 713, 689, 690] (by decide +kernel) (by decide +kernel)
set_option maxRecDepth 20000 in
theorem gL_law_X5_isGood : GoodIn wsL_law (wsV RL 81 RX5 yX5_isGood wsX5_isGood) := goodIn_app (goodIn_of _ (by decide +kernel)) ggL_law_X5_isGood
set_option maxRecDepth 20000 in
theorem ggL_law_X6_isGood : GoodIn wsL_law wsX6_isGood := goodIn_r _ [604, 87, 98, 91, 99, 150, 151, 152, 5, 153, 122, 123, 124, 125, 119, 120, 121, 605, 606, 607, 608, 225, 566, 567, 568, 569, 570, 571, 572, 573, 513, 514, 515, 516, 574, 575, 576, 577, 578, 579, 580, 581, 653, 654, 655, 656, 657, 658, 659, 660, 661, 662, 663, 664, 665, 666, 667, 668, 669, 670, 671, 672, 673, 674, 675, 676, 677, 678, 679, 680, 681] (by decide +kernel) (by decide +kernel)
set_option maxRecDepth 20000 in
theorem gL_law_X6_isGood : GoodIn wsL_law (wsV RL 84 RX6 yX6_isGood wsX6_isGood) := goodIn_app (goodIn_of _ (by decide +kernel)) ggL_law_X6_isGood
set_option maxRecDepth 20000 in
theorem ggL_law_X5_image : GoodIn wsL_law wsX5_image := goodIn_r _ [612, 32, 15, 33, 613, 614, 615, 14, 616, 37, 38, 40, 617, 539, 540, 541, 41, 42, 43, 44, 646, 647, 648, 649, 650, 651, 652, 682, 683, 684, 685, 686, 687, 688] (by decide +kernel) (by decide +kernel)
set_option maxRecDepth 20000 in
theorem gL_law_X5_image : GoodIn wsL_law (wsV RL 85 RX5 yX5_image wsX5_image) := goodIn_app (goodIn_of _ (by decide +kernel)) ggL_law_X5_image
set_option maxRecDepth 20000 in
theorem ggL_law_X6_image : GoodIn wsL_law wsX6_image := goodIn_r _ [621, 88, 87, 90, 119, 120, 5, 121, 653, 654, 655, 656, 657, 658, 659, 660, 661, 662, 663, 664, 665, 666, 667, 668, 669, 670, 671, 672, 673, 674, 675, 676, 677, 678, 679, 680, 681] (by decide +kernel) (by decide +kernel)
set_option maxRecDepth 20000 in
theorem gL_law_X6_image : GoodIn wsL_law (wsV RL 88 RX6 yX6_image wsX6_image) := goodIn_app (goodIn_of _ (by decide +kernel)) ggL_law_X6_image
set_option maxRecDepth 20000 in
theorem ggL_law_X5_restore : GoodIn wsL_law wsX5_restore := goodIn_r _ [625, 33, 15, 32, 613, 614, 615, 14, 616, 37, 38, 40, 617, 539, 540, 541, 41, 42, 43, 44, 646, 647, 648, 649, 650, 651, 652, 682, 683, 684, 685, 686, 687, 688] (by decide +kernel) (by decide +kernel)
set_option maxRecDepth 20000 in
theorem gL_law_X5_restore : GoodIn wsL_law (wsV RL 89 RX5 yX5_restore wsX5_restore) := goodIn_app (goodIn_of _ (by decide +kernel)) ggL_law_X5_restore
set_option maxRecDepth 20000 in
theorem ggL_law_X6_restore : GoodIn wsL_law wsX6_restore := goodIn_r _ [629, 90, 87, 88, 119, 120, 5, 121, 653, 654, 655, 656, 657, 658, 659, 660, 661, 662, 663, 664, 665, 666, 667, 668, 669, 670, 671, 672, 673, 674, 675, 676, 677, 678, 679, 680, 681] (by decide +kernel) (by decide +kernel)
set_option maxRecDepth 20000 in
theorem gL_law_X6_restore : GoodIn wsL_law (wsV RL 92 RX6 yX6_restore wsX6_restore) := goodIn_app (goodIn_of _ (by decide +kernel)) ggL_law_X6_restore
set_option maxRecDepth 20000 in
theorem ggL_law_X5_count : GoodIn wsL_law wsX5_count := goodIn_r _ [633, 15, 104, 158, 19, 216, 33, 634, 635, 636, 14, 637, 37, 43, 646, 647, 648, 649, 650, 651, 652, 682, 683, 684, 685, 686, 687, 688, 689, 690] (by decide +kernel) (by decide +kernel)
set_option maxRecDepth 20000 in
theorem gL_law_X5_count : GoodIn wsL_law (wsV RL 93 RX5 yX5_count wsX5_count) := goodIn_app (goodIn_of _ (by decide +kernel)) ggL_law_X5_count
set_option maxRecDepth 20000 in
theorem ggL_law_X6_count : GoodIn wsL_law wsX6_count := goodIn_r _ [641, 87, 225, 90, 122, 123, 124, 5, 125, 642, 643, 644, 645, 653, 654, 655, 656, 657, 658, 659, 660, 661, 662, 663, 664, 665, 666, 667, 668, 669, 670, 671, 672, 673, 674, 675, 676, 677, 678, 679, 680, 681] (by decide +kernel) (by decide +kernel)
set_option maxRecDepth 20000 in
theorem gL_law_X6_count : GoodIn wsL_law (wsV RL 96 RX6 yX6_count wsX6_count) := goodIn_app (goodIn_of _ (by decide +kernel)) ggL_law_X6_count
theorem dL_law_0 : decode cL_law 0 = .ok (.new 7, 3) := by decide +kernel
theorem dL_law_3 : decode cL_law 3 = .ok (.dup, 1) := by decide +kernel
theorem dL_law_4 : decode cL_law 4 = .ok (.invokespecial 9, 3) := by decide +kernel
theorem dL_law_7 : decode cL_law 7 = .ok (.astore_n 1, 1) := by decide +kernel
theorem dL_law_8 : decode cL_law 8 = .ok (.new 10, 3) := by decide +kernel
theorem dL_law_11 : decode cL_law 11 = .ok (.dup, 1) := by decide +kernel
theorem dL_law_12 : decode cL_law 12 = .ok (.invokespecial 12, 3) := by decide +kernel
theorem dL_law_15 : decode cL_law 15 = .ok (.astore_n 2, 1) := by decide +kernel
theorem dL_law_16 : decode cL_law 16 = .ok (.iconst 0, 1) := by decide +kernel
theorem dL_law_17 : decode cL_law 17 = .ok (.istore_n 3, 1) := by decide +kernel
theorem dL_law_18 : decode cL_law 18 = .ok (.iload_n 3, 1) := by decide +kernel
theorem dL_law_19 : decode cL_law 19 = .ok (.aload_n 0, 1) := by decide +kernel
theorem dL_law_20 : decode cL_law 20 = .ok (.arraylength, 1) := by decide +kernel
theorem dL_law_21 : decode cL_law 21 = .ok (.iconst 4, 1) := by decide +kernel
theorem dL_law_22 : decode cL_law 22 = .ok (.isub, 1) := by decide +kernel
theorem dL_law_23 : decode cL_law 23 = .ok (.if_icmp .gt 641, 3) := by decide +kernel
theorem dL_law_26 : decode cL_law 26 = .ok (.aload_n 0, 1) := by decide +kernel
theorem dL_law_27 : decode cL_law 27 = .ok (.iload_n 3, 1) := by decide +kernel
theorem dL_law_28 : decode cL_law 28 = .ok (.iaload, 1) := by decide +kernel
theorem dL_law_29 : decode cL_law 29 = .ok (.bipush 31, 2) := by decide +kernel
theorem dL_law_31 : decode cL_law 31 = .ok (.iand, 1) := by decide +kernel
theorem dL_law_32 : decode cL_law 32 = .ok (.tableswitch 626 0 19 #[96, 139, 152, 195, 218, 251, 294, 317, 330, 353, 376, 409, 432, 445, 468, 501, 534, 557, 580, 603], 96) := by decide +kernel
theorem dL_law_128 : decode cL_law 128 = .ok (.aload_n 1, 1) := by decide +kernel
theorem dL_law_129 : decode cL_law 129 = .ok (.aload_n 0, 1) := by decide +kernel
theorem dL_law_130 : decode cL_law 130 = .ok (.iload_n 3, 1) := by decide +kernel
theorem dL_law_131 : decode cL_law 131 = .ok (.iconst 1, 1) := by decide +kernel
theorem dL_law_132 : decode cL_law 132 = .ok (.iadd, 1) := by decide +kernel
theorem dL_law_133 : decode cL_law 133 = .ok (.iaload, 1) := by decide +kernel
theorem dL_law_134 : decode cL_law 134 = .ok (.aload_n 0, 1) := by decide +kernel
theorem dL_law_135 : decode cL_law 135 = .ok (.iload_n 3, 1) := by decide +kernel
theorem dL_law_136 : decode cL_law 136 = .ok (.iconst 2, 1) := by decide +kernel
theorem dL_law_137 : decode cL_law 137 = .ok (.iadd, 1) := by decide +kernel
theorem dL_law_138 : decode cL_law 138 = .ok (.iaload, 1) := by decide +kernel
theorem dL_law_139 : decode cL_law 139 = .ok (.aload_n 0, 1) := by decide +kernel
theorem dL_law_140 : decode cL_law 140 = .ok (.iload_n 3, 1) := by decide +kernel
theorem dL_law_141 : decode cL_law 141 = .ok (.iconst 3, 1) := by decide +kernel
theorem dL_law_142 : decode cL_law 142 = .ok (.iadd, 1) := by decide +kernel
theorem dL_law_143 : decode cL_law 143 = .ok (.iaload, 1) := by decide +kernel
theorem dL_law_144 : decode cL_law 144 = .ok (.invokevirtual 13, 3) := by decide +kernel
theorem dL_law_147 : decode cL_law 147 = .ok (.aload_n 2, 1) := by decide +kernel
theorem dL_law_148 : decode cL_law 148 = .ok (.aload_n 0, 1) := by decide +kernel
theorem dL_law_149 : decode cL_law 149 = .ok (.iload_n 3, 1) := by decide +kernel
theorem dL_law_150 : decode cL_law 150 = .ok (.iconst 1, 1) := by decide +kernel
theorem dL_law_151 : decode cL_law 151 = .ok (.iadd, 1) := by decide +kernel
theorem dL_law_152 : decode cL_law 152 = .ok (.iaload, 1) := by decide +kernel
theorem dL_law_153 : decode cL_law 153 = .ok (.aload_n 0, 1) := by decide +kernel
theorem dL_law_154 : decode cL_law 154 = .ok (.iload_n 3, 1) := by decide +kernel
theorem dL_law_155 : decode cL_law 155 = .ok (.iconst 2, 1) := by decide +kernel
theorem dL_law_156 : decode cL_law 156 = .ok (.iadd, 1) := by decide +kernel
theorem dL_law_157 : decode cL_law 157 = .ok (.iaload, 1) := by decide +kernel
theorem dL_law_158 : decode cL_law 158 = .ok (.aload_n 0, 1) := by decide +kernel
theorem dL_law_159 : decode cL_law 159 = .ok (.iload_n 3, 1) := by decide +kernel
theorem dL_law_160 : decode cL_law 160 = .ok (.iconst 3, 1) := by decide +kernel
theorem dL_law_161 : decode cL_law 161 = .ok (.iadd, 1) := by decide +kernel
theorem dL_law_162 : decode cL_law 162 = .ok (.iaload, 1) := by decide +kernel
theorem dL_law_163 : decode cL_law 163 = .ok (.invokevirtual 17, 3) := by decide +kernel
theorem dL_law_166 : decode cL_law 166 = .ok (.if_icmp .eq 492, 3) := by decide +kernel
theorem dL_law_169 : decode cL_law 169 = .ok (.iconst 0, 1) := by decide +kernel
theorem dL_law_170 : decode cL_law 170 = .ok (.ireturn, 1) := by decide +kernel
theorem dL_law_171 : decode cL_law 171 = .ok (.aload_n 1, 1) := by decide +kernel
theorem dL_law_172 : decode cL_law 172 = .ok (.invokevirtual 18, 3) := by decide +kernel
theorem dL_law_175 : decode cL_law 175 = .ok (.aload_n 2, 1) := by decide +kernel
theorem dL_law_176 : decode cL_law 176 = .ok (.invokevirtual 22, 3) := by decide +kernel
theorem dL_law_179 : decode cL_law 179 = .ok (.if_icmp .eq 479, 3) := by decide +kernel
theorem dL_law_182 : decode cL_law 182 = .ok (.iconst 0, 1) := by decide +kernel
theorem dL_law_183 : decode cL_law 183 = .ok (.ireturn, 1) := by decide +kernel
theorem dL_law_184 : decode cL_law 184 = .ok (.aload_n 1, 1) := by decide +kernel
theorem dL_law_185 : decode cL_law 185 = .ok (.aload_n 0, 1) := by decide +kernel
theorem dL_law_186 : decode cL_law 186 = .ok (.iload_n 3, 1) := by decide +kernel
theorem dL_law_187 : decode cL_law 187 = .ok (.iconst 1, 1) := by decide +kernel
theorem dL_law_188 : decode cL_law 188 = .ok (.iadd, 1) := by decide +kernel
theorem dL_law_189 : decode cL_law 189 = .ok (.iaload, 1) := by decide +kernel
theorem dL_law_190 : decode cL_law 190 = .ok (.aload_n 0, 1) := by decide +kernel
theorem dL_law_191 : decode cL_law 191 = .ok (.iload_n 3, 1) := by decide +kernel
theorem dL_law_192 : decode cL_law 192 = .ok (.iconst 2, 1) := by decide +kernel
theorem dL_law_193 : decode cL_law 193 = .ok (.iadd, 1) := by decide +kernel
theorem dL_law_194 : decode cL_law 194 = .ok (.iaload, 1) := by decide +kernel
theorem dL_law_195 : decode cL_law 195 = .ok (.aload_n 0, 1) := by decide +kernel
theorem dL_law_196 : decode cL_law 196 = .ok (.iload_n 3, 1) := by decide +kernel
theorem dL_law_197 : decode cL_law 197 = .ok (.iconst 3, 1) := by decide +kernel
theorem dL_law_198 : decode cL_law 198 = .ok (.iadd, 1) := by decide +kernel
theorem dL_law_199 : decode cL_law 199 = .ok (.iaload, 1) := by decide +kernel
theorem dL_law_200 : decode cL_law 200 = .ok (.invokevirtual 23, 3) := by decide +kernel
theorem dL_law_203 : decode cL_law 203 = .ok (.aload_n 2, 1) := by decide +kernel
theorem dL_law_204 : decode cL_law 204 = .ok (.aload_n 0, 1) := by decide +kernel
theorem dL_law_205 : decode cL_law 205 = .ok (.iload_n 3, 1) := by decide +kernel
theorem dL_law_206 : decode cL_law 206 = .ok (.iconst 1, 1) := by decide +kernel
theorem dL_law_207 : decode cL_law 207 = .ok (.iadd, 1) := by decide +kernel
theorem dL_law_208 : decode cL_law 208 = .ok (.iaload, 1) := by decide +kernel
theorem dL_law_209 : decode cL_law 209 = .ok (.aload_n 0, 1) := by decide +kernel
theorem dL_law_210 : decode cL_law 210 = .ok (.iload_n 3, 1) := by decide +kernel
theorem dL_law_211 : decode cL_law 211 = .ok (.iconst 2, 1) := by decide +kernel
theorem dL_law_212 : decode cL_law 212 = .ok (.iadd, 1) := by decide +kernel
theorem dL_law_213 : decode cL_law 213 = .ok (.iaload, 1) := by decide +kernel
theorem dL_law_214 : decode cL_law 214 = .ok (.aload_n 0, 1) := by decide +kernel
theorem dL_law_215 : decode cL_law 215 = .ok (.iload_n 3, 1) := by decide +kernel
theorem dL_law_216 : decode cL_law 216 = .ok (.iconst 3, 1) := by decide +kernel
theorem dL_law_217 : decode cL_law 217 = .ok (.iadd, 1) := by decide +kernel
theorem dL_law_218 : decode cL_law 218 = .ok (.iaload, 1) := by decide +kernel
theorem dL_law_219 : decode cL_law 219 = .ok (.invokevirtual 26, 3) := by decide +kernel
theorem dL_law_222 : decode cL_law 222 = .ok (.if_icmp .eq 436, 3) := by decide +kernel
theorem dL_law_225 : decode cL_law 225 = .ok (.iconst 0, 1) := by decide +kernel
theorem dL_law_226 : decode cL_law 226 = .ok (.ireturn, 1) := by decide +kernel
theorem dL_law_227 : decode cL_law 227 = .ok (.aload_n 1, 1) := by decide +kernel
theorem dL_law_228 : decode cL_law 228 = .ok (.aload_n 0, 1) := by decide +kernel
theorem dL_law_229 : decode cL_law 229 = .ok (.iload_n 3, 1) := by decide +kernel
theorem dL_law_230 : decode cL_law 230 = .ok (.iconst 1, 1) := by decide +kernel
theorem dL_law_231 : decode cL_law 231 = .ok (.iadd, 1) := by decide +kernel
theorem dL_law_232 : decode cL_law 232 = .ok (.iaload, 1) := by decide +kernel
theorem dL_law_233 : decode cL_law 233 = .ok (.invokevirtual 27, 3) := by decide +kernel
theorem dL_law_236 : decode cL_law 236 = .ok (.aload_n 2, 1) := by decide +kernel
theorem dL_law_237 : decode cL_law 237 = .ok (.aload_n 0, 1) := by decide +kernel
theorem dL_law_238 : decode cL_law 238 = .ok (.iload_n 3, 1) := by decide +kernel
theorem dL_law_239 : decode cL_law 239 = .ok (.iconst 1, 1) := by decide +kernel
theorem dL_law_240 : decode cL_law 240 = .ok (.iadd, 1) := by decide +kernel
theorem dL_law_241 : decode cL_law 241 = .ok (.iaload, 1) := by decide +kernel
theorem dL_law_242 : decode cL_law 242 = .ok (.invokevirtual 31, 3) := by decide +kernel
theorem dL_law_245 : decode cL_law 245 = .ok (.if_icmp .eq 413, 3) := by decide +kernel
theorem dL_law_248 : decode cL_law 248 = .ok (.iconst 0, 1) := by decide +kernel
theorem dL_law_249 : decode cL_law 249 = .ok (.ireturn, 1) := by decide +kernel
theorem dL_law_250 : decode cL_law 250 = .ok (.aload_n 1, 1) := by decide +kernel
theorem dL_law_251 : decode cL_law 251 = .ok (.aload_n 0, 1) := by decide +kernel
theorem dL_law_252 : decode cL_law 252 = .ok (.iload_n 3, 1) := by decide +kernel
theorem dL_law_253 : decode cL_law 253 = .ok (.iconst 1, 1) := by decide +kernel
theorem dL_law_254 : decode cL_law 254 = .ok (.iadd, 1) := by decide +kernel
theorem dL_law_255 : decode cL_law 255 = .ok (.iaload, 1) := by decide +kernel
theorem dL_law_256 : decode cL_law 256 = .ok (.aload_n 0, 1) := by decide +kernel
theorem dL_law_257 : decode cL_law 257 = .ok (.iload_n 3, 1) := by decide +kernel
theorem dL_law_258 : decode cL_law 258 = .ok (.iconst 2, 1) := by decide +kernel
theorem dL_law_259 : decode cL_law 259 = .ok (.iadd, 1) := by decide +kernel
theorem dL_law_260 : decode cL_law 260 = .ok (.iaload, 1) := by decide +kernel
theorem dL_law_261 : decode cL_law 261 = .ok (.invokevirtual 32, 3) := by decide +kernel
theorem dL_law_264 : decode cL_law 264 = .ok (.aload_n 2, 1) := by decide +kernel
theorem dL_law_265 : decode cL_law 265 = .ok (.aload_n 0, 1) := by decide +kernel
theorem dL_law_266 : decode cL_law 266 = .ok (.iload_n 3, 1) := by decide +kernel
theorem dL_law_267 : decode cL_law 267 = .ok (.iconst 1, 1) := by decide +kernel
theorem dL_law_268 : decode cL_law 268 = .ok (.iadd, 1) := by decide +kernel
theorem dL_law_269 : decode cL_law 269 = .ok (.iaload, 1) := by decide +kernel
theorem dL_law_270 : decode cL_law 270 = .ok (.aload_n 0, 1) := by decide +kernel
theorem dL_law_271 : decode cL_law 271 = .ok (.iload_n 3, 1) := by decide +kernel
theorem dL_law_272 : decode cL_law 272 = .ok (.iconst 2, 1) := by decide +kernel
theorem dL_law_273 : decode cL_law 273 = .ok (.iadd, 1) := by decide +kernel
theorem dL_law_274 : decode cL_law 274 = .ok (.iaload, 1) := by decide +kernel
theorem dL_law_275 : decode cL_law 275 = .ok (.invokevirtual 36, 3) := by decide +kernel
theorem dL_law_278 : decode cL_law 278 = .ok (.if_icmp .eq 380, 3) := by decide +kernel
theorem dL_law_281 : decode cL_law 281 = .ok (.iconst 0, 1) := by decide +kernel
theorem dL_law_282 : decode cL_law 282 = .ok (.ireturn, 1) := by decide +kernel
theorem dL_law_283 : decode cL_law 283 = .ok (.aload_n 1, 1) := by decide +kernel
theorem dL_law_284 : decode cL_law 284 = .ok (.aload_n 0, 1) := by decide +kernel
theorem dL_law_285 : decode cL_law 285 = .ok (.iload_n 3, 1) := by decide +kernel
theorem dL_law_286 : decode cL_law 286 = .ok (.iconst 1, 1) := by decide +kernel
theorem dL_law_287 : decode cL_law 287 = .ok (.iadd, 1) := by decide +kernel
theorem dL_law_288 : decode cL_law 288 = .ok (.iaload, 1) := by decide +kernel
theorem dL_law_289 : decode cL_law 289 = .ok (.aload_n 0, 1) := by decide +kernel
theorem dL_law_290 : decode cL_law 290 = .ok (.iload_n 3, 1) := by decide +kernel
theorem dL_law_291 : decode cL_law 291 = .ok (.iconst 2, 1) := by decide +kernel
theorem dL_law_292 : decode cL_law 292 = .ok (.iadd, 1) := by decide +kernel
theorem dL_law_293 : decode cL_law 293 = .ok (.iaload, 1) := by decide +kernel
theorem dL_law_294 : decode cL_law 294 = .ok (.aload_n 0, 1) := by decide +kernel
theorem dL_law_295 : decode cL_law 295 = .ok (.iload_n 3, 1) := by decide +kernel
theorem dL_law_296 : decode cL_law 296 = .ok (.iconst 3, 1) := by decide +kernel
theorem dL_law_297 : decode cL_law 297 = .ok (.iadd, 1) := by decide +kernel
theorem dL_law_298 : decode cL_law 298 = .ok (.iaload, 1) := by decide +kernel
theorem dL_law_299 : decode cL_law 299 = .ok (.invokevirtual 37, 3) := by decide +kernel
theorem dL_law_302 : decode cL_law 302 = .ok (.aload_n 2, 1) := by decide +kernel
theorem dL_law_303 : decode cL_law 303 = .ok (.aload_n 0, 1) := by decide +kernel
theorem dL_law_304 : decode cL_law 304 = .ok (.iload_n 3, 1) := by decide +kernel
theorem dL_law_305 : decode cL_law 305 = .ok (.iconst 1, 1) := by decide +kernel
theorem dL_law_306 : decode cL_law 306 = .ok (.iadd, 1) := by decide +kernel
theorem dL_law_307 : decode cL_law 307 = .ok (.iaload, 1) := by decide +kernel
theorem dL_law_308 : decode cL_law 308 = .ok (.aload_n 0, 1) := by decide +kernel
theorem dL_law_309 : decode cL_law 309 = .ok (.iload_n 3, 1) := by decide +kernel
theorem dL_law_310 : decode cL_law 310 = .ok (.iconst 2, 1) := by decide +kernel
theorem dL_law_311 : decode cL_law 311 = .ok (.iadd, 1) := by decide +kernel
theorem dL_law_312 : decode cL_law 312 = .ok (.iaload, 1) := by decide +kernel
theorem dL_law_313 : decode cL_law 313 = .ok (.aload_n 0, 1) := by decide +kernel
theorem dL_law_314 : decode cL_law 314 = .ok (.iload_n 3, 1) := by decide +kernel
theorem dL_law_315 : decode cL_law 315 = .ok (.iconst 3, 1) := by decide +kernel
theorem dL_law_316 : decode cL_law 316 = .ok (.iadd, 1) := by decide +kernel
theorem dL_law_317 : decode cL_law 317 = .ok (.iaload, 1) := by decide +kernel
theorem dL_law_318 : decode cL_law 318 = .ok (.invokevirtual 40, 3) := by decide +kernel
theorem dL_law_321 : decode cL_law 321 = .ok (.if_icmp .eq 337, 3) := by decide +kernel
theorem dL_law_324 : decode cL_law 324 = .ok (.iconst 0, 1) := by decide +kernel
theorem dL_law_325 : decode cL_law 325 = .ok (.ireturn, 1) := by decide +kernel
theorem dL_law_326 : decode cL_law 326 = .ok (.aload_n 1, 1) := by decide +kernel
theorem dL_law_327 : decode cL_law 327 = .ok (.aload_n 0, 1) := by decide +kernel
theorem dL_law_328 : decode cL_law 328 = .ok (.iload_n 3, 1) := by decide +kernel
theorem dL_law_329 : decode cL_law 329 = .ok (.iconst 1, 1) := by decide +kernel
theorem dL_law_330 : decode cL_law 330 = .ok (.iadd, 1) := by decide +kernel
theorem dL_law_331 : decode cL_law 331 = .ok (.iaload, 1) := by decide +kernel
theorem dL_law_332 : decode cL_law 332 = .ok (.invokevirtual 41, 3) := by decide +kernel
theorem dL_law_335 : decode cL_law 335 = .ok (.aload_n 2, 1) := by decide +kernel
theorem dL_law_336 : decode cL_law 336 = .ok (.aload_n 0, 1) := by decide +kernel
theorem dL_law_337 : decode cL_law 337 = .ok (.iload_n 3, 1) := by decide +kernel
theorem dL_law_338 : decode cL_law 338 = .ok (.iconst 1, 1) := by decide +kernel
theorem dL_law_339 : decode cL_law 339 = .ok (.iadd, 1) := by decide +kernel
theorem dL_law_340 : decode cL_law 340 = .ok (.iaload, 1) := by decide +kernel
theorem dL_law_341 : decode cL_law 341 = .ok (.invokevirtual 44, 3) := by decide +kernel
theorem dL_law_344 : decode cL_law 344 = .ok (.if_icmp .eq 314, 3) := by decide +kernel
theorem dL_law_347 : decode cL_law 347 = .ok (.iconst 0, 1) := by decide +kernel
theorem dL_law_348 : decode cL_law 348 = .ok (.ireturn, 1) := by decide +kernel
theorem dL_law_349 : decode cL_law 349 = .ok (.aload_n 1, 1) := by decide +kernel
theorem dL_law_350 : decode cL_law 350 = .ok (.invokevirtual 45, 3) := by decide +kernel
theorem dL_law_353 : decode cL_law 353 = .ok (.aload_n 2, 1) := by decide +kernel
theorem dL_law_354 : decode cL_law 354 = .ok (.invokevirtual 48, 3) := by decide +kernel
theorem dL_law_357 : decode cL_law 357 = .ok (.if_icmp .eq 301, 3) := by decide +kernel
theorem dL_law_360 : decode cL_law 360 = .ok (.iconst 0, 1) := by decide +kernel
theorem dL_law_361 : decode cL_law 361 = .ok (.ireturn, 1) := by decide +kernel
theorem dL_law_362 : decode cL_law 362 = .ok (.aload_n 1, 1) := by decide +kernel
theorem dL_law_363 : decode cL_law 363 = .ok (.aload_n 0, 1) := by decide +kernel
theorem dL_law_364 : decode cL_law 364 = .ok (.iload_n 3, 1) := by decide +kernel
theorem dL_law_365 : decode cL_law 365 = .ok (.iconst 1, 1) := by decide +kernel
theorem dL_law_366 : decode cL_law 366 = .ok (.iadd, 1) := by decide +kernel
theorem dL_law_367 : decode cL_law 367 = .ok (.iaload, 1) := by decide +kernel
theorem dL_law_368 : decode cL_law 368 = .ok (.invokevirtual 49, 3) := by decide +kernel
theorem dL_law_371 : decode cL_law 371 = .ok (.aload_n 2, 1) := by decide +kernel
theorem dL_law_372 : decode cL_law 372 = .ok (.aload_n 0, 1) := by decide +kernel
theorem dL_law_373 : decode cL_law 373 = .ok (.iload_n 3, 1) := by decide +kernel
theorem dL_law_374 : decode cL_law 374 = .ok (.iconst 1, 1) := by decide +kernel
theorem dL_law_375 : decode cL_law 375 = .ok (.iadd, 1) := by decide +kernel
theorem dL_law_376 : decode cL_law 376 = .ok (.iaload, 1) := by decide +kernel
theorem dL_law_377 : decode cL_law 377 = .ok (.invokevirtual 52, 3) := by decide +kernel
theorem dL_law_380 : decode cL_law 380 = .ok (.if_icmp .eq 278, 3) := by decide +kernel
theorem dL_law_383 : decode cL_law 383 = .ok (.iconst 0, 1) := by decide +kernel
theorem dL_law_384 : decode cL_law 384 = .ok (.ireturn, 1) := by decide +kernel
theorem dL_law_385 : decode cL_law 385 = .ok (.aload_n 1, 1) := by decide +kernel
theorem dL_law_386 : decode cL_law 386 = .ok (.aload_n 0, 1) := by decide +kernel
theorem dL_law_387 : decode cL_law 387 = .ok (.iload_n 3, 1) := by decide +kernel
theorem dL_law_388 : decode cL_law 388 = .ok (.iconst 1, 1) := by decide +kernel
theorem dL_law_389 : decode cL_law 389 = .ok (.iadd, 1) := by decide +kernel
theorem dL_law_390 : decode cL_law 390 = .ok (.iaload, 1) := by decide +kernel
theorem dL_law_391 : decode cL_law 391 = .ok (.invokevirtual 53, 3) := by decide +kernel
theorem dL_law_394 : decode cL_law 394 = .ok (.aload_n 2, 1) := by decide +kernel
theorem dL_law_395 : decode cL_law 395 = .ok (.aload_n 0, 1) := by decide +kernel
theorem dL_law_396 : decode cL_law 396 = .ok (.iload_n 3, 1) := by decide +kernel
theorem dL_law_397 : decode cL_law 397 = .ok (.iconst 1, 1) := by decide +kernel
theorem dL_law_398 : decode cL_law 398 = .ok (.iadd, 1) := by decide +kernel
theorem dL_law_399 : decode cL_law 399 = .ok (.iaload, 1) := by decide +kernel
theorem dL_law_400 : decode cL_law 400 = .ok (.invokevirtual 56, 3) := by decide +kernel
theorem dL_law_403 : decode cL_law 403 = .ok (.if_icmp .eq 255, 3) := by decide +kernel
theorem dL_law_406 : decode cL_law 406 = .ok (.iconst 0, 1) := by decide +kernel
theorem dL_law_407 : decode cL_law 407 = .ok (.ireturn, 1) := by decide +kernel
theorem dL_law_408 : decode cL_law 408 = .ok (.aload_n 1, 1) := by decide +kernel
theorem dL_law_409 : decode cL_law 409 = .ok (.aload_n 0, 1) := by decide +kernel
theorem dL_law_410 : decode cL_law 410 = .ok (.iload_n 3, 1) := by decide +kernel
theorem dL_law_411 : decode cL_law 411 = .ok (.iconst 1, 1) := by decide +kernel
theorem dL_law_412 : decode cL_law 412 = .ok (.iadd, 1) := by decide +kernel
theorem dL_law_413 : decode cL_law 413 = .ok (.iaload, 1) := by decide +kernel
theorem dL_law_414 : decode cL_law 414 = .ok (.aload_n 0, 1) := by decide +kernel
theorem dL_law_415 : decode cL_law 415 = .ok (.iload_n 3, 1) := by decide +kernel
theorem dL_law_416 : decode cL_law 416 = .ok (.iconst 2, 1) := by decide +kernel
theorem dL_law_417 : decode cL_law 417 = .ok (.iadd, 1) := by decide +kernel
theorem dL_law_418 : decode cL_law 418 = .ok (.iaload, 1) := by decide +kernel
theorem dL_law_419 : decode cL_law 419 = .ok (.invokevirtual 57, 3) := by decide +kernel
theorem dL_law_422 : decode cL_law 422 = .ok (.aload_n 2, 1) := by decide +kernel
theorem dL_law_423 : decode cL_law 423 = .ok (.aload_n 0, 1) := by decide +kernel
theorem dL_law_424 : decode cL_law 424 = .ok (.iload_n 3, 1) := by decide +kernel
theorem dL_law_425 : decode cL_law 425 = .ok (.iconst 1, 1) := by decide +kernel
theorem dL_law_426 : decode cL_law 426 = .ok (.iadd, 1) := by decide +kernel
theorem dL_law_427 : decode cL_law 427 = .ok (.iaload, 1) := by decide +kernel
theorem dL_law_428 : decode cL_law 428 = .ok (.aload_n 0, 1) := by decide +kernel
theorem dL_law_429 : decode cL_law 429 = .ok (.iload_n 3, 1) := by decide +kernel
theorem dL_law_430 : decode cL_law 430 = .ok (.iconst 2, 1) := by decide +kernel
theorem dL_law_431 : decode cL_law 431 = .ok (.iadd, 1) := by decide +kernel
theorem dL_law_432 : decode cL_law 432 = .ok (.iaload, 1) := by decide +kernel
theorem dL_law_433 : decode cL_law 433 = .ok (.invokevirtual 60, 3) := by decide +kernel
theorem dL_law_436 : decode cL_law 436 = .ok (.if_icmp .eq 222, 3) := by decide +kernel
theorem dL_law_439 : decode cL_law 439 = .ok (.iconst 0, 1) := by decide +kernel
theorem dL_law_440 : decode cL_law 440 = .ok (.ireturn, 1) := by decide +kernel
theorem dL_law_441 : decode cL_law 441 = .ok (.aload_n 1, 1) := by decide +kernel
theorem dL_law_442 : decode cL_law 442 = .ok (.aload_n 0, 1) := by decide +kernel
theorem dL_law_443 : decode cL_law 443 = .ok (.iload_n 3, 1) := by decide +kernel
theorem dL_law_444 : decode cL_law 444 = .ok (.iconst 1, 1) := by decide +kernel
theorem dL_law_445 : decode cL_law 445 = .ok (.iadd, 1) := by decide +kernel
theorem dL_law_446 : decode cL_law 446 = .ok (.iaload, 1) := by decide +kernel
theorem dL_law_447 : decode cL_law 447 = .ok (.invokevirtual 61, 3) := by decide +kernel
theorem dL_law_450 : decode cL_law 450 = .ok (.aload_n 2, 1) := by decide +kernel
theorem dL_law_451 : decode cL_law 451 = .ok (.aload_n 0, 1) := by decide +kernel
theorem dL_law_452 : decode cL_law 452 = .ok (.iload_n 3, 1) := by decide +kernel
theorem dL_law_453 : decode cL_law 453 = .ok (.iconst 1, 1) := by decide +kernel
theorem dL_law_454 : decode cL_law 454 = .ok (.iadd, 1) := by decide +kernel
theorem dL_law_455 : decode cL_law 455 = .ok (.iaload, 1) := by decide +kernel
theorem dL_law_456 : decode cL_law 456 = .ok (.invokevirtual 64, 3) := by decide +kernel
theorem dL_law_459 : decode cL_law 459 = .ok (.if_icmp .eq 199, 3) := by decide +kernel
theorem dL_law_462 : decode cL_law 462 = .ok (.iconst 0, 1) := by decide +kernel
theorem dL_law_463 : decode cL_law 463 = .ok (.ireturn, 1) := by decide +kernel
theorem dL_law_464 : decode cL_law 464 = .ok (.aload_n 1, 1) := by decide +kernel
theorem dL_law_465 : decode cL_law 465 = .ok (.invokevirtual 65, 3) := by decide +kernel
theorem dL_law_468 : decode cL_law 468 = .ok (.aload_n 2, 1) := by decide +kernel
theorem dL_law_469 : decode cL_law 469 = .ok (.invokevirtual 68, 3) := by decide +kernel
theorem dL_law_472 : decode cL_law 472 = .ok (.if_icmp .eq 186, 3) := by decide +kernel
theorem dL_law_475 : decode cL_law 475 = .ok (.iconst 0, 1) := by decide +kernel
theorem dL_law_476 : decode cL_law 476 = .ok (.ireturn, 1) := by decide +kernel
theorem dL_law_477 : decode cL_law 477 = .ok (.aload_n 1, 1) := by decide +kernel
theorem dL_law_478 : decode cL_law 478 = .ok (.aload_n 0, 1) := by decide +kernel
theorem dL_law_479 : decode cL_law 479 = .ok (.iload_n 3, 1) := by decide +kernel
theorem dL_law_480 : decode cL_law 480 = .ok (.iconst 1, 1) := by decide +kernel
theorem dL_law_481 : decode cL_law 481 = .ok (.iadd, 1) := by decide +kernel
theorem dL_law_482 : decode cL_law 482 = .ok (.iaload, 1) := by decide +kernel
theorem dL_law_483 : decode cL_law 483 = .ok (.invokevirtual 69, 3) := by decide +kernel
theorem dL_law_486 : decode cL_law 486 = .ok (.aload_n 2, 1) := by decide +kernel
theorem dL_law_487 : decode cL_law 487 = .ok (.aload_n 0, 1) := by decide +kernel
theorem dL_law_488 : decode cL_law 488 = .ok (.iload_n 3, 1) := by decide +kernel
theorem dL_law_489 : decode cL_law 489 = .ok (.iconst 1, 1) := by decide +kernel
theorem dL_law_490 : decode cL_law 490 = .ok (.iadd, 1) := by decide +kernel
theorem dL_law_491 : decode cL_law 491 = .ok (.iaload, 1) := by decide +kernel
theorem dL_law_492 : decode cL_law 492 = .ok (.invokevirtual 72, 3) := by decide +kernel
theorem dL_law_495 : decode cL_law 495 = .ok (.if_icmp .eq 163, 3) := by decide +kernel
theorem dL_law_498 : decode cL_law 498 = .ok (.iconst 0, 1) := by decide +kernel
theorem dL_law_499 : decode cL_law 499 = .ok (.ireturn, 1) := by decide +kernel
theorem dL_law_500 : decode cL_law 500 = .ok (.aload_n 1, 1) := by decide +kernel
theorem dL_law_501 : decode cL_law 501 = .ok (.aload_n 0, 1) := by decide +kernel
theorem dL_law_502 : decode cL_law 502 = .ok (.iload_n 3, 1) := by decide +kernel
theorem dL_law_503 : decode cL_law 503 = .ok (.iconst 1, 1) := by decide +kernel
theorem dL_law_504 : decode cL_law 504 = .ok (.iadd, 1) := by decide +kernel
theorem dL_law_505 : decode cL_law 505 = .ok (.iaload, 1) := by decide +kernel
theorem dL_law_506 : decode cL_law 506 = .ok (.aload_n 0, 1) := by decide +kernel
theorem dL_law_507 : decode cL_law 507 = .ok (.iload_n 3, 1) := by decide +kernel
theorem dL_law_508 : decode cL_law 508 = .ok (.iconst 2, 1) := by decide +kernel
theorem dL_law_509 : decode cL_law 509 = .ok (.iadd, 1) := by decide +kernel
theorem dL_law_510 : decode cL_law 510 = .ok (.iaload, 1) := by decide +kernel
theorem dL_law_511 : decode cL_law 511 = .ok (.invokevirtual 73, 3) := by decide +kernel
theorem dL_law_514 : decode cL_law 514 = .ok (.aload_n 2, 1) := by decide +kernel
theorem dL_law_515 : decode cL_law 515 = .ok (.aload_n 0, 1) := by decide +kernel
theorem dL_law_516 : decode cL_law 516 = .ok (.iload_n 3, 1) := by decide +kernel
theorem dL_law_517 : decode cL_law 517 = .ok (.iconst 1, 1) := by decide +kernel
theorem dL_law_518 : decode cL_law 518 = .ok (.iadd, 1) := by decide +kernel
theorem dL_law_519 : decode cL_law 519 = .ok (.iaload, 1) := by decide +kernel
theorem dL_law_520 : decode cL_law 520 = .ok (.aload_n 0, 1) := by decide +kernel
theorem dL_law_521 : decode cL_law 521 = .ok (.iload_n 3, 1) := by decide +kernel
theorem dL_law_522 : decode cL_law 522 = .ok (.iconst 2, 1) := by decide +kernel
theorem dL_law_523 : decode cL_law 523 = .ok (.iadd, 1) := by decide +kernel
theorem dL_law_524 : decode cL_law 524 = .ok (.iaload, 1) := by decide +kernel
theorem dL_law_525 : decode cL_law 525 = .ok (.invokevirtual 76, 3) := by decide +kernel
theorem dL_law_528 : decode cL_law 528 = .ok (.if_icmp .eq 130, 3) := by decide +kernel
theorem dL_law_531 : decode cL_law 531 = .ok (.iconst 0, 1) := by decide +kernel
theorem dL_law_532 : decode cL_law 532 = .ok (.ireturn, 1) := by decide +kernel
theorem dL_law_533 : decode cL_law 533 = .ok (.aload_n 1, 1) := by decide +kernel
theorem dL_law_534 : decode cL_law 534 = .ok (.aload_n 0, 1) := by decide +kernel
theorem dL_law_535 : decode cL_law 535 = .ok (.iload_n 3, 1) := by decide +kernel
theorem dL_law_536 : decode cL_law 536 = .ok (.iconst 1, 1) := by decide +kernel
theorem dL_law_537 : decode cL_law 537 = .ok (.iadd, 1) := by decide +kernel
theorem dL_law_538 : decode cL_law 538 = .ok (.iaload, 1) := by decide +kernel
theorem dL_law_539 : decode cL_law 539 = .ok (.aload_n 0, 1) := by decide +kernel
theorem dL_law_540 : decode cL_law 540 = .ok (.iload_n 3, 1) := by decide +kernel
theorem dL_law_541 : decode cL_law 541 = .ok (.iconst 2, 1) := by decide +kernel
theorem dL_law_542 : decode cL_law 542 = .ok (.iadd, 1) := by decide +kernel
theorem dL_law_543 : decode cL_law 543 = .ok (.iaload, 1) := by decide +kernel
theorem dL_law_544 : decode cL_law 544 = .ok (.invokevirtual 77, 3) := by decide +kernel
theorem dL_law_547 : decode cL_law 547 = .ok (.aload_n 2, 1) := by decide +kernel
theorem dL_law_548 : decode cL_law 548 = .ok (.aload_n 0, 1) := by decide +kernel
theorem dL_law_549 : decode cL_law 549 = .ok (.iload_n 3, 1) := by decide +kernel
theorem dL_law_550 : decode cL_law 550 = .ok (.iconst 1, 1) := by decide +kernel
theorem dL_law_551 : decode cL_law 551 = .ok (.iadd, 1) := by decide +kernel
theorem dL_law_552 : decode cL_law 552 = .ok (.iaload, 1) := by decide +kernel
theorem dL_law_553 : decode cL_law 553 = .ok (.aload_n 0, 1) := by decide +kernel
theorem dL_law_554 : decode cL_law 554 = .ok (.iload_n 3, 1) := by decide +kernel
theorem dL_law_555 : decode cL_law 555 = .ok (.iconst 2, 1) := by decide +kernel
theorem dL_law_556 : decode cL_law 556 = .ok (.iadd, 1) := by decide +kernel
theorem dL_law_557 : decode cL_law 557 = .ok (.iaload, 1) := by decide +kernel
theorem dL_law_558 : decode cL_law 558 = .ok (.invokevirtual 80, 3) := by decide +kernel
theorem dL_law_561 : decode cL_law 561 = .ok (.if_icmp .eq 97, 3) := by decide +kernel
theorem dL_law_564 : decode cL_law 564 = .ok (.iconst 0, 1) := by decide +kernel
theorem dL_law_565 : decode cL_law 565 = .ok (.ireturn, 1) := by decide +kernel
theorem dL_law_566 : decode cL_law 566 = .ok (.aload_n 1, 1) := by decide +kernel
theorem dL_law_567 : decode cL_law 567 = .ok (.aload_n 0, 1) := by decide +kernel
theorem dL_law_568 : decode cL_law 568 = .ok (.iload_n 3, 1) := by decide +kernel
theorem dL_law_569 : decode cL_law 569 = .ok (.iconst 1, 1) := by decide +kernel
theorem dL_law_570 : decode cL_law 570 = .ok (.iadd, 1) := by decide +kernel
theorem dL_law_571 : decode cL_law 571 = .ok (.iaload, 1) := by decide +kernel
theorem dL_law_572 : decode cL_law 572 = .ok (.invokevirtual 81, 3) := by decide +kernel
theorem dL_law_575 : decode cL_law 575 = .ok (.aload_n 2, 1) := by decide +kernel
theorem dL_law_576 : decode cL_law 576 = .ok (.aload_n 0, 1) := by decide +kernel
theorem dL_law_577 : decode cL_law 577 = .ok (.iload_n 3, 1) := by decide +kernel
theorem dL_law_578 : decode cL_law 578 = .ok (.iconst 1, 1) := by decide +kernel
theorem dL_law_579 : decode cL_law 579 = .ok (.iadd, 1) := by decide +kernel
theorem dL_law_580 : decode cL_law 580 = .ok (.iaload, 1) := by decide +kernel
theorem dL_law_581 : decode cL_law 581 = .ok (.invokevirtual 84, 3) := by decide +kernel
theorem dL_law_584 : decode cL_law 584 = .ok (.if_icmp .eq 74, 3) := by decide +kernel
theorem dL_law_587 : decode cL_law 587 = .ok (.iconst 0, 1) := by decide +kernel
theorem dL_law_588 : decode cL_law 588 = .ok (.ireturn, 1) := by decide +kernel
theorem dL_law_589 : decode cL_law 589 = .ok (.aload_n 1, 1) := by decide +kernel
theorem dL_law_590 : decode cL_law 590 = .ok (.aload_n 0, 1) := by decide +kernel
theorem dL_law_591 : decode cL_law 591 = .ok (.iload_n 3, 1) := by decide +kernel
theorem dL_law_592 : decode cL_law 592 = .ok (.iconst 1, 1) := by decide +kernel
theorem dL_law_593 : decode cL_law 593 = .ok (.iadd, 1) := by decide +kernel
theorem dL_law_594 : decode cL_law 594 = .ok (.iaload, 1) := by decide +kernel
theorem dL_law_595 : decode cL_law 595 = .ok (.invokevirtual 85, 3) := by decide +kernel
theorem dL_law_598 : decode cL_law 598 = .ok (.aload_n 2, 1) := by decide +kernel
theorem dL_law_599 : decode cL_law 599 = .ok (.aload_n 0, 1) := by decide +kernel
theorem dL_law_600 : decode cL_law 600 = .ok (.iload_n 3, 1) := by decide +kernel
theorem dL_law_601 : decode cL_law 601 = .ok (.iconst 1, 1) := by decide +kernel
theorem dL_law_602 : decode cL_law 602 = .ok (.iadd, 1) := by decide +kernel
theorem dL_law_603 : decode cL_law 603 = .ok (.iaload, 1) := by decide +kernel
theorem dL_law_604 : decode cL_law 604 = .ok (.invokevirtual 88, 3) := by decide +kernel
theorem dL_law_607 : decode cL_law 607 = .ok (.if_icmp .eq 51, 3) := by decide +kernel
theorem dL_law_610 : decode cL_law 610 = .ok (.iconst 0, 1) := by decide +kernel
theorem dL_law_611 : decode cL_law 611 = .ok (.ireturn, 1) := by decide +kernel
theorem dL_law_612 : decode cL_law 612 = .ok (.aload_n 1, 1) := by decide +kernel
theorem dL_law_613 : decode cL_law 613 = .ok (.aload_n 0, 1) := by decide +kernel
theorem dL_law_614 : decode cL_law 614 = .ok (.iload_n 3, 1) := by decide +kernel
theorem dL_law_615 : decode cL_law 615 = .ok (.iconst 1, 1) := by decide +kernel
theorem dL_law_616 : decode cL_law 616 = .ok (.iadd, 1) := by decide +kernel
theorem dL_law_617 : decode cL_law 617 = .ok (.iaload, 1) := by decide +kernel
theorem dL_law_618 : decode cL_law 618 = .ok (.invokevirtual 89, 3) := by decide +kernel
theorem dL_law_621 : decode cL_law 621 = .ok (.aload_n 2, 1) := by decide +kernel
theorem dL_law_622 : decode cL_law 622 = .ok (.aload_n 0, 1) := by decide +kernel
theorem dL_law_623 : decode cL_law 623 = .ok (.iload_n 3, 1) := by decide +kernel
theorem dL_law_624 : decode cL_law 624 = .ok (.iconst 1, 1) := by decide +kernel
theorem dL_law_625 : decode cL_law 625 = .ok (.iadd, 1) := by decide +kernel
theorem dL_law_626 : decode cL_law 626 = .ok (.iaload, 1) := by decide +kernel
theorem dL_law_627 : decode cL_law 627 = .ok (.invokevirtual 92, 3) := by decide +kernel
theorem dL_law_630 : decode cL_law 630 = .ok (.if_icmp .eq 28, 3) := by decide +kernel
theorem dL_law_633 : decode cL_law 633 = .ok (.iconst 0, 1) := by decide +kernel
theorem dL_law_634 : decode cL_law 634 = .ok (.ireturn, 1) := by decide +kernel
theorem dL_law_635 : decode cL_law 635 = .ok (.aload_n 1, 1) := by decide +kernel
theorem dL_law_636 : decode cL_law 636 = .ok (.aload_n 0, 1) := by decide +kernel
theorem dL_law_637 : decode cL_law 637 = .ok (.iload_n 3, 1) := by decide +kernel
theorem dL_law_638 : decode cL_law 638 = .ok (.iconst 1, 1) := by decide +kernel
theorem dL_law_639 : decode cL_law 639 = .ok (.iadd, 1) := by decide +kernel
theorem dL_law_640 : decode cL_law 640 = .ok (.iaload, 1) := by decide +kernel
theorem dL_law_641 : decode cL_law 641 = .ok (.invokevirtual 93, 3) := by decide +kernel
theorem dL_law_644 : decode cL_law 644 = .ok (.aload_n 2, 1) := by decide +kernel
theorem dL_law_645 : decode cL_law 645 = .ok (.aload_n 0, 1) := by decide +kernel
theorem dL_law_646 : decode cL_law 646 = .ok (.iload_n 3, 1) := by decide +kernel
theorem dL_law_647 : decode cL_law 647 = .ok (.iconst 1, 1) := by decide +kernel
theorem dL_law_648 : decode cL_law 648 = .ok (.iadd, 1) := by decide +kernel
theorem dL_law_649 : decode cL_law 649 = .ok (.iaload, 1) := by decide +kernel
theorem dL_law_650 : decode cL_law 650 = .ok (.invokevirtual 96, 3) := by decide +kernel
theorem dL_law_653 : decode cL_law 653 = .ok (.if_icmp .eq 5, 3) := by decide +kernel
theorem dL_law_656 : decode cL_law 656 = .ok (.iconst 0, 1) := by decide +kernel
theorem dL_law_657 : decode cL_law 657 = .ok (.ireturn, 1) := by decide +kernel
theorem dL_law_658 : decode cL_law 658 = .ok (.iinc 3 4, 3) := by decide +kernel
theorem dL_law_661 : decode cL_law 661 = .ok (.goto (-643), 3) := by decide +kernel
theorem dL_law_664 : decode cL_law 664 = .ok (.iconst 1, 1) := by decide +kernel
theorem dL_law_665 : decode cL_law 665 = .ok (.ireturn, 1) := by decide +kernel
