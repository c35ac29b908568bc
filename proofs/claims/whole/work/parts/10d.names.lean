theorem dX5_say_0 : decode cX5_say 0 = .ok (.iload_n 1, 1) := by decide +kernel
theorem dX5_say_1 : decode cX5_say 1 = .ok (.bipush 33, 2) := by decide +kernel
theorem dX5_say_3 : decode cX5_say 3 = .ok (.if_icmp .lt 9, 3) := by decide +kernel
theorem dX5_say_6 : decode cX5_say 6 = .ok (.iload_n 1, 1) := by decide +kernel
theorem dX5_say_7 : decode cX5_say 7 = .ok (.bipush 126, 2) := by decide +kernel
theorem dX5_say_9 : decode cX5_say 9 = .ok (.if_icmp .le 6, 3) := by decide +kernel
theorem dX5_say_12 : decode cX5_say 12 = .ok (.bipush (-2), 2) := by decide +kernel
theorem dX5_say_14 : decode cX5_say 14 = .ok (.ireturn, 1) := by decide +kernel
theorem dX5_say_15 : decode cX5_say 15 = .ok (.aload_n 0, 1) := by decide +kernel
theorem dX5_say_16 : decode cX5_say 16 = .ok (.getfield 19, 3) := by decide +kernel
theorem dX5_say_19 : decode cX5_say 19 = .ok (.getfield 93, 3) := by decide +kernel
theorem dX5_say_22 : decode cX5_say 22 = .ok (.bipush 9, 2) := by decide +kernel
theorem dX5_say_24 : decode cX5_say 24 = .ok (.if_icmp .lt 6, 3) := by decide +kernel
theorem dX5_say_27 : decode cX5_say 27 = .ok (.bipush (-4), 2) := by decide +kernel
theorem dX5_say_29 : decode cX5_say 29 = .ok (.ireturn, 1) := by decide +kernel
theorem dX5_say_30 : decode cX5_say 30 = .ok (.aload_n 0, 1) := by decide +kernel
theorem dX5_say_31 : decode cX5_say 31 = .ok (.getfield 19, 3) := by decide +kernel
theorem dX5_say_34 : decode cX5_say 34 = .ok (.iload_n 1, 1) := by decide +kernel
theorem dX5_say_35 : decode cX5_say 35 = .ok (.invokevirtual 96, 3) := by decide +kernel
theorem dX5_say_38 : decode cX5_say 38 = .ok (.aload_n 0, 1) := by decide +kernel
theorem dX5_say_39 : decode cX5_say 39 = .ok (.getfield 19, 3) := by decide +kernel
theorem dX5_say_42 : decode cX5_say 42 = .ok (.getfield 93, 3) := by decide +kernel
theorem dX5_say_45 : decode cX5_say 45 = .ok (.ireturn, 1) := by decide +kernel
theorem dX5_wipe_0 : decode cX5_wipe 0 = .ok (.aload_n 0, 1) := by decide +kernel
theorem dX5_wipe_1 : decode cX5_wipe 1 = .ok (.getfield 19, 3) := by decide +kernel
theorem dX5_wipe_4 : decode cX5_wipe 4 = .ok (.getfield 93, 3) := by decide +kernel
theorem dX5_wipe_7 : decode cX5_wipe 7 = .ok (.istore_n 1, 1) := by decide +kernel
theorem dX5_wipe_8 : decode cX5_wipe 8 = .ok (.aload_n 0, 1) := by decide +kernel
theorem dX5_wipe_9 : decode cX5_wipe 9 = .ok (.getfield 19, 3) := by decide +kernel
theorem dX5_wipe_12 : decode cX5_wipe 12 = .ok (.iconst 0, 1) := by decide +kernel
theorem dX5_wipe_13 : decode cX5_wipe 13 = .ok (.putfield 93, 3) := by decide +kernel
theorem dX5_wipe_16 : decode cX5_wipe 16 = .ok (.iload_n 1, 1) := by decide +kernel
theorem dX5_wipe_17 : decode cX5_wipe 17 = .ok (.ireturn, 1) := by decide +kernel
set_option maxRecDepth 20000 in
theorem ggX5_judge_X5_padIsLayout : GoodIn wsX5_judge wsX5_padIsLayout := goodIn_r _ [9, 3, 10, 2, 11, 12, 13, 14, 15, 16, 17, 18, 19, 20, 21, 22, 23, 24, 25, 26, 85, 86, 87, 88, 89, 90, 91, 104, 105, 106, 107, 108, 109, 110, 111, 112] (by decide +kernel) (by decide +kernel)
set_option maxRecDepth 20000 in
theorem gX5_judge_X5_padIsLayout : GoodIn wsX5_judge (wsV RX5 100 RX5 yX5_padIsLayout wsX5_padIsLayout) := goodIn_app (goodIn_of _ (by decide +kernel)) ggX5_judge_X5_padIsLayout
set_option maxRecDepth 20000 in
theorem ggX5_judge_X1_pour : GoodIn wsX5_judge wsX1_pour := goodIn_r _ [31, 32, 33, 34, 23, 24, 15, 25, 26, 35, 36, 37, 30, 38, 39, 40, 41, 42, 43, 44, 45, 46, 47, 48, 49, 50, 51, 52, 53, 54, 55, 56, 57, 58, 59, 60, 61, 62, 63, 64, 65, 66, 67, 68, 69, 70, 71, 72, 73, 74, 75, 76, 77, 78, 79, 80, 81, 82, 83, 84, 92, 93, 94, 95, 96, 97, 98, 99, 100, 101, 102, 103, 106, 107, 108, 109, 110, 111, 112, 104, 105] (by decide +kernel) (by decide +kernel)
set_option maxRecDepth 20000 in
theorem gX5_judge_X1_pour : GoodIn wsX5_judge (wsV RX5 104 RX1 yX1_pour wsX1_pour) := goodIn_app (goodIn_of _ (by decide +kernel)) ggX5_judge_X1_pour
theorem dX5_judge_0 : decode cX5_judge 0 = .ok (.iload_n 1, 1) := by decide +kernel
theorem dX5_judge_1 : decode cX5_judge 1 = .ok (.ifCond .lt 8, 3) := by decide +kernel
theorem dX5_judge_4 : decode cX5_judge 4 = .ok (.iload_n 1, 1) := by decide +kernel
theorem dX5_judge_5 : decode cX5_judge 5 = .ok (.iconst 1, 1) := by decide +kernel
theorem dX5_judge_6 : decode cX5_judge 6 = .ok (.if_icmp .le 6, 3) := by decide +kernel
theorem dX5_judge_9 : decode cX5_judge 9 = .ok (.bipush (-2), 2) := by decide +kernel
theorem dX5_judge_11 : decode cX5_judge 11 = .ok (.ireturn, 1) := by decide +kernel
theorem dX5_judge_12 : decode cX5_judge 12 = .ok (.aload_n 0, 1) := by decide +kernel
theorem dX5_judge_13 : decode cX5_judge 13 = .ok (.invokevirtual 100, 3) := by decide +kernel
theorem dX5_judge_16 : decode cX5_judge 16 = .ok (.ifCond .ne 6, 3) := by decide +kernel
theorem dX5_judge_19 : decode cX5_judge 19 = .ok (.bipush (-7), 2) := by decide +kernel
theorem dX5_judge_21 : decode cX5_judge 21 = .ok (.ireturn, 1) := by decide +kernel
theorem dX5_judge_22 : decode cX5_judge 22 = .ok (.aload_n 0, 1) := by decide +kernel
theorem dX5_judge_23 : decode cX5_judge 23 = .ok (.getfield 26, 3) := by decide +kernel
theorem dX5_judge_26 : decode cX5_judge 26 = .ok (.aload_n 0, 1) := by decide +kernel
theorem dX5_judge_27 : decode cX5_judge 27 = .ok (.getfield 10, 3) := by decide +kernel
theorem dX5_judge_30 : decode cX5_judge 30 = .ok (.aload_n 0, 1) := by decide +kernel
theorem dX5_judge_31 : decode cX5_judge 31 = .ok (.getfield 19, 3) := by decide +kernel
theorem dX5_judge_34 : decode cX5_judge 34 = .ok (.invokevirtual 104, 3) := by decide +kernel
theorem dX5_judge_37 : decode cX5_judge 37 = .ok (.istore_n 2, 1) := by decide +kernel
theorem dX5_judge_38 : decode cX5_judge 38 = .ok (.iload_n 2, 1) := by decide +kernel
theorem dX5_judge_39 : decode cX5_judge 39 = .ok (.ifCond .ne 6, 3) := by decide +kernel
theorem dX5_judge_42 : decode cX5_judge 42 = .ok (.bipush (-6), 2) := by decide +kernel
theorem dX5_judge_44 : decode cX5_judge 44 = .ok (.ireturn, 1) := by decide +kernel
theorem dX5_judge_45 : decode cX5_judge 45 = .ok (.iload_n 1, 1) := by decide +kernel
theorem dX5_judge_46 : decode cX5_judge 46 = .ok (.ifCond .ne 13, 3) := by decide +kernel
theorem dX5_judge_49 : decode cX5_judge 49 = .ok (.aload_n 0, 1) := by decide +kernel
theorem dX5_judge_50 : decode cX5_judge 50 = .ok (.getfield 26, 3) := by decide +kernel
theorem dX5_judge_53 : decode cX5_judge 53 = .ok (.getfield 108, 3) := by decide +kernel
theorem dX5_judge_56 : decode cX5_judge 56 = .ok (.goto 4, 3) := by decide +kernel
theorem dX5_judge_59 : decode cX5_judge 59 = .ok (.iload_n 2, 1) := by decide +kernel
theorem dX5_judge_60 : decode cX5_judge 60 = .ok (.ireturn, 1) := by decide +kernel
set_option maxRecDepth 20000 in
theorem ggX5_told_X5_padIsLayout : GoodIn wsX5_told wsX5_padIsLayout := goodIn_r _ [12, 3, 13, 2, 14, 15, 16, 17, 18, 19, 20, 21, 22, 23, 24, 25, 26, 27, 28, 29, 105, 106, 107, 108, 109, 110, 111, 124, 125, 126, 127, 128, 129, 130, 131, 132] (by decide +kernel) (by decide +kernel)
set_option maxRecDepth 20000 in
theorem gX5_told_X5_padIsLayout : GoodIn wsX5_told (wsV RX5 100 RX5 yX5_padIsLayout wsX5_padIsLayout) := goodIn_app (goodIn_of _ (by decide +kernel)) ggX5_told_X5_padIsLayout
set_option maxRecDepth 20000 in
theorem ggX5_told_X1_pour : GoodIn wsX5_told wsX1_pour := goodIn_r _ [34, 35, 36, 37, 26, 27, 18, 28, 29, 38, 39, 40, 33, 41, 42, 43, 44, 45, 46, 47, 48, 49, 50, 51, 52, 53, 54, 55, 56, 57, 58, 59, 60, 61, 62, 63, 64, 65, 66, 67, 68, 69, 70, 71, 72, 73, 74, 75, 76, 77, 78, 79, 80, 81, 82, 83, 84, 85, 86, 87, 112, 113, 114, 115, 116, 117, 118, 119, 120, 121, 122, 123, 126, 127, 128, 129, 130, 131, 132, 124, 125] (by decide +kernel) (by decide +kernel)
set_option maxRecDepth 20000 in
theorem gX5_told_X1_pour : GoodIn wsX5_told (wsV RX5 104 RX1 yX1_pour wsX1_pour) := goodIn_app (goodIn_of _ (by decide +kernel)) ggX5_told_X1_pour
set_option maxRecDepth 20000 in
theorem ggX5_told_X1_numberPages : GoodIn wsX5_told wsX1_numberPages := goodIn_r _ [91, 92, 93, 94, 95, 36, 73, 96, 97, 98, 99, 33, 100, 43, 50, 51, 52, 47, 53, 49, 54, 55, 56, 57, 101, 102, 103, 104, 63, 64, 79, 112, 113, 114, 115, 116, 117, 118, 119, 120, 121, 122, 123, 126, 127, 128, 129, 130, 131, 132] (by decide +kernel) (by decide +kernel)
set_option maxRecDepth 20000 in
theorem gX5_told_X1_numberPages : GoodIn wsX5_told (wsV RX5 111 RX1 yX1_numberPages wsX1_numberPages) := goodIn_app (goodIn_of _ (by decide +kernel)) ggX5_told_X1_numberPages
theorem dX5_told_0 : decode cX5_told 0 = .ok (.iload_n 1, 1) := by decide +kernel
theorem dX5_told_1 : decode cX5_told 1 = .ok (.ifCond .lt 8, 3) := by decide +kernel
theorem dX5_told_4 : decode cX5_told 4 = .ok (.iload_n 1, 1) := by decide +kernel
theorem dX5_told_5 : decode cX5_told 5 = .ok (.iconst 3, 1) := by decide +kernel
theorem dX5_told_6 : decode cX5_told 6 = .ok (.if_icmp .le 6, 3) := by decide +kernel
theorem dX5_told_9 : decode cX5_told 9 = .ok (.bipush (-2), 2) := by decide +kernel
theorem dX5_told_11 : decode cX5_told 11 = .ok (.ireturn, 1) := by decide +kernel
theorem dX5_told_12 : decode cX5_told 12 = .ok (.aload_n 0, 1) := by decide +kernel
theorem dX5_told_13 : decode cX5_told 13 = .ok (.invokevirtual 100, 3) := by decide +kernel
theorem dX5_told_16 : decode cX5_told 16 = .ok (.ifCond .ne 6, 3) := by decide +kernel
theorem dX5_told_19 : decode cX5_told 19 = .ok (.bipush (-7), 2) := by decide +kernel
theorem dX5_told_21 : decode cX5_told 21 = .ok (.ireturn, 1) := by decide +kernel
theorem dX5_told_22 : decode cX5_told 22 = .ok (.aload_n 0, 1) := by decide +kernel
theorem dX5_told_23 : decode cX5_told 23 = .ok (.getfield 26, 3) := by decide +kernel
theorem dX5_told_26 : decode cX5_told 26 = .ok (.aload_n 0, 1) := by decide +kernel
theorem dX5_told_27 : decode cX5_told 27 = .ok (.getfield 10, 3) := by decide +kernel
theorem dX5_told_30 : decode cX5_told 30 = .ok (.aload_n 0, 1) := by decide +kernel
theorem dX5_told_31 : decode cX5_told 31 = .ok (.getfield 19, 3) := by decide +kernel
theorem dX5_told_34 : decode cX5_told 34 = .ok (.invokevirtual 104, 3) := by decide +kernel
theorem dX5_told_37 : decode cX5_told 37 = .ok (.ifCond .eq 6, 3) := by decide +kernel
theorem dX5_told_40 : decode cX5_told 40 = .ok (.bipush (-5), 2) := by decide +kernel
theorem dX5_told_42 : decode cX5_told 42 = .ok (.ireturn, 1) := by decide +kernel
theorem dX5_told_43 : decode cX5_told 43 = .ok (.aload_n 0, 1) := by decide +kernel
theorem dX5_told_44 : decode cX5_told 44 = .ok (.getfield 26, 3) := by decide +kernel
theorem dX5_told_47 : decode cX5_told 47 = .ok (.aload_n 0, 1) := by decide +kernel
theorem dX5_told_48 : decode cX5_told 48 = .ok (.getfield 10, 3) := by decide +kernel
theorem dX5_told_51 : decode cX5_told 51 = .ok (.invokevirtual 111, 3) := by decide +kernel
theorem dX5_told_54 : decode cX5_told 54 = .ok (.iload_n 1, 1) := by decide +kernel
theorem dX5_told_55 : decode cX5_told 55 = .ok (.tableswitch 49 0 2 #[25, 33, 41], 25) := by decide +kernel
theorem dX5_told_80 : decode cX5_told 80 = .ok (.aload_n 0, 1) := by decide +kernel
theorem dX5_told_81 : decode cX5_told 81 = .ok (.getfield 26, 3) := by decide +kernel
theorem dX5_told_84 : decode cX5_told 84 = .ok (.getfield 115, 3) := by decide +kernel
theorem dX5_told_87 : decode cX5_told 87 = .ok (.ireturn, 1) := by decide +kernel
theorem dX5_told_88 : decode cX5_told 88 = .ok (.aload_n 0, 1) := by decide +kernel
theorem dX5_told_89 : decode cX5_told 89 = .ok (.getfield 26, 3) := by decide +kernel
theorem dX5_told_92 : decode cX5_told 92 = .ok (.getfield 118, 3) := by decide +kernel
theorem dX5_told_95 : decode cX5_told 95 = .ok (.ireturn, 1) := by decide +kernel
theorem dX5_told_96 : decode cX5_told 96 = .ok (.aload_n 0, 1) := by decide +kernel
theorem dX5_told_97 : decode cX5_told 97 = .ok (.getfield 26, 3) := by decide +kernel
theorem dX5_told_100 : decode cX5_told 100 = .ok (.getfield 121, 3) := by decide +kernel
theorem dX5_told_103 : decode cX5_told 103 = .ok (.ireturn, 1) := by decide +kernel
theorem dX5_told_104 : decode cX5_told 104 = .ok (.aload_n 0, 1) := by decide +kernel
theorem dX5_told_105 : decode cX5_told 105 = .ok (.getfield 26, 3) := by decide +kernel
theorem dX5_told_108 : decode cX5_told 108 = .ok (.getfield 124, 3) := by decide +kernel
theorem dX5_told_111 : decode cX5_told 111 = .ok (.ireturn, 1) := by decide +kernel
set_option maxRecDepth 20000 in
theorem ggX5_at_X0_has : GoodIn wsX5_at wsX0_has := goodIn_r _ [11, 12, 137, 138, 139, 140, 141, 142, 143] (by decide +kernel) (by decide +kernel)
set_option maxRecDepth 20000 in
theorem gX5_at_X0_has : GoodIn wsX5_at (wsV RX5 72 RX0 yX0_has wsX0_has) := goodIn_app (goodIn_of _ (by decide +kernel)) ggX5_at_X0_has
set_option maxRecDepth 20000 in
theorem ggX5_at_X5_padIsLayout : GoodIn wsX5_at wsX5_padIsLayout := goodIn_r _ [17, 3, 18, 1, 19, 20, 21, 22, 23, 24, 25, 26, 27, 28, 29, 30, 31, 32, 33, 34, 118, 119, 120, 121, 122, 123, 124, 144, 145, 137, 138, 139, 140, 141, 142, 143] (by decide +kernel) (by decide +kernel)
set_option maxRecDepth 20000 in
theorem gX5_at_X5_padIsLayout : GoodIn wsX5_at (wsV RX5 100 RX5 yX5_padIsLayout wsX5_padIsLayout) := goodIn_app (goodIn_of _ (by decide +kernel)) ggX5_at_X5_padIsLayout
set_option maxRecDepth 20000 in
theorem ggX5_at_X1_pour : GoodIn wsX5_at wsX1_pour := goodIn_r _ [39, 40, 41, 42, 31, 32, 23, 33, 34, 43, 44, 45, 38, 46, 47, 48, 49, 50, 51, 10, 52, 53, 54, 55, 56, 57, 58, 59, 60, 61, 62, 63, 64, 65, 66, 67, 68, 69, 70, 71, 72, 73, 74, 75, 76, 77, 78, 79, 80, 81, 82, 83, 84, 85, 86, 87, 88, 89, 90, 91, 125, 126, 127, 128, 129, 130, 131, 132, 133, 134, 135, 136, 137, 138, 139, 140, 141, 142, 143, 144, 145] (by decide +kernel) (by decide +kernel)
set_option maxRecDepth 20000 in
theorem gX5_at_X1_pour : GoodIn wsX5_at (wsV RX5 104 RX1 yX1_pour wsX1_pour) := goodIn_app (goodIn_of _ (by decide +kernel)) ggX5_at_X1_pour
set_option maxRecDepth 20000 in
theorem ggX5_at_X1_numberPages : GoodIn wsX5_at wsX1_numberPages := goodIn_r _ [95, 96, 97, 98, 99, 41, 77, 100, 101, 102, 103, 38, 104, 48, 54, 55, 56, 10, 57, 53, 58, 59, 60, 61, 105, 106, 107, 108, 67, 68, 83, 125, 126, 127, 128, 129, 130, 131, 132, 133, 134, 135, 136, 137, 138, 139, 140, 141, 142, 143] (by decide +kernel) (by decide +kernel)
set_option maxRecDepth 20000 in
theorem gX5_at_X1_numberPages : GoodIn wsX5_at (wsV RX5 111 RX1 yX1_numberPages wsX1_numberPages) := goodIn_app (goodIn_of _ (by decide +kernel)) ggX5_at_X1_numberPages
set_option maxRecDepth 20000 in
theorem ggX5_at_X1_width : GoodIn wsX5_at wsX1_width := goodIn_r _ [112, 41, 77, 47, 58, 59, 60, 10, 61, 53, 113, 114, 115, 116, 117, 137, 138, 139, 140, 141, 142, 143, 125, 126, 127, 128, 129, 130, 131, 132, 133, 134, 135, 136] (by decide +kernel) (by decide +kernel)
set_option maxRecDepth 20000 in
theorem gX5_at_X1_width : GoodIn wsX5_at (wsV RX5 136 RX1 yX1_width wsX1_width) := goodIn_app (goodIn_of _ (by decide +kernel)) ggX5_at_X1_width
theorem dX5_at_0 : decode cX5_at 0 = .ok (.aload_n 0, 1) := by decide +kernel
theorem dX5_at_1 : decode cX5_at 1 = .ok (.getfield 10, 3) := by decide +kernel
theorem dX5_at_4 : decode cX5_at 4 = .ok (.iload_n 1, 1) := by decide +kernel
theorem dX5_at_5 : decode cX5_at 5 = .ok (.invokevirtual 72, 3) := by decide +kernel
theorem dX5_at_8 : decode cX5_at 8 = .ok (.ifCond .ne 5, 3) := by decide +kernel
theorem dX5_at_11 : decode cX5_at 11 = .ok (.iconst (-1), 1) := by decide +kernel
theorem dX5_at_12 : decode cX5_at 12 = .ok (.ireturn, 1) := by decide +kernel
theorem dX5_at_13 : decode cX5_at 13 = .ok (.iload_n 2, 1) := by decide +kernel
theorem dX5_at_14 : decode cX5_at 14 = .ok (.ifCond .lt 8, 3) := by decide +kernel
theorem dX5_at_17 : decode cX5_at 17 = .ok (.iload_n 2, 1) := by decide +kernel
theorem dX5_at_18 : decode cX5_at 18 = .ok (.iconst 3, 1) := by decide +kernel
theorem dX5_at_19 : decode cX5_at 19 = .ok (.if_icmp .le 6, 3) := by decide +kernel
theorem dX5_at_22 : decode cX5_at 22 = .ok (.bipush (-2), 2) := by decide +kernel
theorem dX5_at_24 : decode cX5_at 24 = .ok (.ireturn, 1) := by decide +kernel
theorem dX5_at_25 : decode cX5_at 25 = .ok (.aload_n 0, 1) := by decide +kernel
theorem dX5_at_26 : decode cX5_at 26 = .ok (.invokevirtual 100, 3) := by decide +kernel
theorem dX5_at_29 : decode cX5_at 29 = .ok (.ifCond .ne 6, 3) := by decide +kernel
theorem dX5_at_32 : decode cX5_at 32 = .ok (.bipush (-7), 2) := by decide +kernel
theorem dX5_at_34 : decode cX5_at 34 = .ok (.ireturn, 1) := by decide +kernel
theorem dX5_at_35 : decode cX5_at 35 = .ok (.aload_n 0, 1) := by decide +kernel
theorem dX5_at_36 : decode cX5_at 36 = .ok (.getfield 26, 3) := by decide +kernel
theorem dX5_at_39 : decode cX5_at 39 = .ok (.aload_n 0, 1) := by decide +kernel
theorem dX5_at_40 : decode cX5_at 40 = .ok (.getfield 10, 3) := by decide +kernel
theorem dX5_at_43 : decode cX5_at 43 = .ok (.aload_n 0, 1) := by decide +kernel
theorem dX5_at_44 : decode cX5_at 44 = .ok (.getfield 19, 3) := by decide +kernel
theorem dX5_at_47 : decode cX5_at 47 = .ok (.invokevirtual 104, 3) := by decide +kernel
theorem dX5_at_50 : decode cX5_at 50 = .ok (.ifCond .eq 6, 3) := by decide +kernel
theorem dX5_at_53 : decode cX5_at 53 = .ok (.bipush (-5), 2) := by decide +kernel
theorem dX5_at_55 : decode cX5_at 55 = .ok (.ireturn, 1) := by decide +kernel
theorem dX5_at_56 : decode cX5_at 56 = .ok (.aload_n 0, 1) := by decide +kernel
theorem dX5_at_57 : decode cX5_at 57 = .ok (.getfield 26, 3) := by decide +kernel
theorem dX5_at_60 : decode cX5_at 60 = .ok (.aload_n 0, 1) := by decide +kernel
theorem dX5_at_61 : decode cX5_at 61 = .ok (.getfield 10, 3) := by decide +kernel
theorem dX5_at_64 : decode cX5_at 64 = .ok (.invokevirtual 111, 3) := by decide +kernel
theorem dX5_at_67 : decode cX5_at 67 = .ok (.iload_n 2, 1) := by decide +kernel
theorem dX5_at_68 : decode cX5_at 68 = .ok (.tableswitch 58 0 2 #[28, 38, 48], 28) := by decide +kernel
theorem dX5_at_96 : decode cX5_at 96 = .ok (.aload_n 0, 1) := by decide +kernel
theorem dX5_at_97 : decode cX5_at 97 = .ok (.getfield 26, 3) := by decide +kernel
theorem dX5_at_100 : decode cX5_at 100 = .ok (.getfield 127, 3) := by decide +kernel
theorem dX5_at_103 : decode cX5_at 103 = .ok (.iload_n 1, 1) := by decide +kernel
theorem dX5_at_104 : decode cX5_at 104 = .ok (.iaload, 1) := by decide +kernel
theorem dX5_at_105 : decode cX5_at 105 = .ok (.ireturn, 1) := by decide +kernel
theorem dX5_at_106 : decode cX5_at 106 = .ok (.aload_n 0, 1) := by decide +kernel
theorem dX5_at_107 : decode cX5_at 107 = .ok (.getfield 26, 3) := by decide +kernel
theorem dX5_at_110 : decode cX5_at 110 = .ok (.getfield 130, 3) := by decide +kernel
theorem dX5_at_113 : decode cX5_at 113 = .ok (.iload_n 1, 1) := by decide +kernel
theorem dX5_at_114 : decode cX5_at 114 = .ok (.iaload, 1) := by decide +kernel
theorem dX5_at_115 : decode cX5_at 115 = .ok (.ireturn, 1) := by decide +kernel
theorem dX5_at_116 : decode cX5_at 116 = .ok (.aload_n 0, 1) := by decide +kernel
theorem dX5_at_117 : decode cX5_at 117 = .ok (.getfield 26, 3) := by decide +kernel
theorem dX5_at_120 : decode cX5_at 120 = .ok (.getfield 133, 3) := by decide +kernel
theorem dX5_at_123 : decode cX5_at 123 = .ok (.iload_n 1, 1) := by decide +kernel
theorem dX5_at_124 : decode cX5_at 124 = .ok (.iaload, 1) := by decide +kernel
theorem dX5_at_125 : decode cX5_at 125 = .ok (.ireturn, 1) := by decide +kernel
theorem dX5_at_126 : decode cX5_at 126 = .ok (.aload_n 0, 1) := by decide +kernel
theorem dX5_at_127 : decode cX5_at 127 = .ok (.getfield 26, 3) := by decide +kernel
theorem dX5_at_130 : decode cX5_at 130 = .ok (.aload_n 0, 1) := by decide +kernel
theorem dX5_at_131 : decode cX5_at 131 = .ok (.getfield 10, 3) := by decide +kernel
theorem dX5_at_134 : decode cX5_at 134 = .ok (.iload_n 1, 1) := by decide +kernel
theorem dX5_at_135 : decode cX5_at 135 = .ok (.invokevirtual 136, 3) := by decide +kernel
theorem dX5_at_138 : decode cX5_at 138 = .ok (.ireturn, 1) := by decide +kernel
set_option maxRecDepth 20000 in
theorem ggX5_best_X0_has : GoodIn wsX5_best wsX0_has := goodIn_r _ [7, 8, 121, 122, 123, 124, 125, 126, 127] (by decide +kernel) (by decide +kernel)
set_option maxRecDepth 20000 in
theorem gX5_best_X0_has : GoodIn wsX5_best (wsV RX5 72 RX0 yX0_has wsX0_has) := goodIn_app (goodIn_of _ (by decide +kernel)) ggX5_best_X0_has
set_option maxRecDepth 20000 in
theorem ggX5_best_X3_run : GoodIn wsX5_best wsX3_run := goodIn_r _ [13, 14, 15, 16, 17, 18, 19, 20, 12, 21, 22, 23, 24, 25, 26, 27, 28, 29, 30, 31, 32, 33, 34, 6, 35, 36, 37, 38, 39, 40, 41, 42, 43, 44, 45, 46, 47, 48, 49, 50, 51, 52, 53, 54, 55, 56, 57, 58, 59, 60, 61, 62, 63, 64, 65, 66, 67, 68, 69, 70, 71, 72, 73, 74, 75, 76, 77, 78, 79, 80, 81, 82, 83, 84, 85, 86, 87, 88, 89, 90, 91, 92, 93, 121, 122, 123, 124, 125, 126, 127, 128, 129, 130, 131, 132, 133, 134, 135, 136, 137, 138, 139, 140, 141, 142, 143, 144, 145] (by decide +kernel) (by decide +kernel)
set_option maxRecDepth 20000 in
theorem gX5_best_X3_run : GoodIn wsX5_best (wsV RX5 140 RX3 yX3_run wsX3_run) := goodIn_app (goodIn_of _ (by decide +kernel)) ggX5_best_X3_run
set_option maxRecDepth 20000 in
theorem ggX5_best_X3_goes : GoodIn wsX5_best wsX3_goes := goodIn_r _ [97, 15, 128, 129, 130, 131, 132, 133] (by decide +kernel) (by decide +kernel)
set_option maxRecDepth 20000 in
theorem gX5_best_X3_goes : GoodIn wsX5_best (wsV RX5 143 RX3 yX3_goes wsX3_goes) := goodIn_app (goodIn_of _ (by decide +kernel)) ggX5_best_X3_goes
set_option maxRecDepth 20000 in
theorem ggX5_best_X3_fewestPages : GoodIn wsX5_best wsX3_fewestPages := goodIn_r _ [101, 22, 128, 129, 130, 131, 132, 133] (by decide +kernel) (by decide +kernel)
set_option maxRecDepth 20000 in
theorem gX5_best_X3_fewestPages : GoodIn wsX5_best (wsV RX5 147 RX3 yX3_fewestPages wsX3_fewestPages) := goodIn_app (goodIn_of _ (by decide +kernel)) ggX5_best_X3_fewestPages
set_option maxRecDepth 20000 in
theorem ggX5_best_X3_leastRagged : GoodIn wsX5_best wsX3_leastRagged := goodIn_r _ [105, 23, 128, 129, 130, 131, 132, 133] (by decide +kernel) (by decide +kernel)
set_option maxRecDepth 20000 in
theorem gX5_best_X3_leastRagged : GoodIn wsX5_best (wsV RX5 150 RX3 yX3_leastRagged wsX3_leastRagged) := goodIn_app (goodIn_of _ (by decide +kernel)) ggX5_best_X3_leastRagged
set_option maxRecDepth 20000 in
theorem ggX5_best_X3_goesInFewest : GoodIn wsX5_best wsX3_goesInFewest := goodIn_r _ [109, 16, 128, 129, 130, 131, 132, 133] (by decide +kernel) (by decide +kernel)
set_option maxRecDepth 20000 in
theorem gX5_best_X3_goesInFewest : GoodIn wsX5_best (wsV RX5 153 RX3 yX3_goesInFewest wsX3_goesInFewest) := goodIn_app (goodIn_of _ (by decide +kernel)) ggX5_best_X3_goesInFewest
set_option maxRecDepth 20000 in
theorem ggX5_best_X3_figure : GoodIn wsX5_best wsX3_figure := goodIn_r _ [113, 24, 14, 128, 129, 130, 131, 132, 133, 121, 122, 123, 124, 125, 126, 127] (by decide +kernel) (by decide +kernel)
set_option maxRecDepth 20000 in
theorem gX5_best_X3_figure : GoodIn wsX5_best (wsV RX5 156 RX3 yX3_figure wsX3_figure) := goodIn_app (goodIn_of _ (by decide +kernel)) ggX5_best_X3_figure
theorem dX5_best_0 : decode cX5_best 0 = .ok (.iload_n 1, 1) := by decide +kernel
theorem dX5_best_1 : decode cX5_best 1 = .ok (.bipush 10, 2) := by decide +kernel
theorem dX5_best_3 : decode cX5_best 3 = .ok (.if_icmp .lt 13, 3) := by decide +kernel
theorem dX5_best_6 : decode cX5_best 6 = .ok (.iload_n 1, 1) := by decide +kernel
theorem dX5_best_7 : decode cX5_best 7 = .ok (.bipush 19, 2) := by decide +kernel
theorem dX5_best_9 : decode cX5_best 9 = .ok (.if_icmp .ge 7, 3) := by decide +kernel
theorem dX5_best_12 : decode cX5_best 12 = .ok (.iconst 1, 1) := by decide +kernel
theorem dX5_best_13 : decode cX5_best 13 = .ok (.goto 4, 3) := by decide +kernel
theorem dX5_best_16 : decode cX5_best 16 = .ok (.iconst 0, 1) := by decide +kernel
theorem dX5_best_17 : decode cX5_best 17 = .ok (.istore_n 2, 1) := by decide +kernel
theorem dX5_best_18 : decode cX5_best 18 = .ok (.iload_n 2, 1) := by decide +kernel
theorem dX5_best_19 : decode cX5_best 19 = .ok (.ifCond .ne 15, 3) := by decide +kernel
theorem dX5_best_22 : decode cX5_best 22 = .ok (.iload_n 1, 1) := by decide +kernel
theorem dX5_best_23 : decode cX5_best 23 = .ok (.ifCond .lt 8, 3) := by decide +kernel
theorem dX5_best_26 : decode cX5_best 26 = .ok (.iload_n 1, 1) := by decide +kernel
theorem dX5_best_27 : decode cX5_best 27 = .ok (.iconst 3, 1) := by decide +kernel
theorem dX5_best_28 : decode cX5_best 28 = .ok (.if_icmp .le 6, 3) := by decide +kernel
theorem dX5_best_31 : decode cX5_best 31 = .ok (.bipush (-2), 2) := by decide +kernel
theorem dX5_best_33 : decode cX5_best 33 = .ok (.ireturn, 1) := by decide +kernel
theorem dX5_best_34 : decode cX5_best 34 = .ok (.iload_n 2, 1) := by decide +kernel
theorem dX5_best_35 : decode cX5_best 35 = .ok (.ifCond .eq 20, 3) := by decide +kernel
theorem dX5_best_38 : decode cX5_best 38 = .ok (.aload_n 0, 1) := by decide +kernel
theorem dX5_best_39 : decode cX5_best 39 = .ok (.getfield 10, 3) := by decide +kernel
theorem dX5_best_42 : decode cX5_best 42 = .ok (.iload_n 1, 1) := by decide +kernel
theorem dX5_best_43 : decode cX5_best 43 = .ok (.bipush 10, 2) := by decide +kernel
theorem dX5_best_45 : decode cX5_best 45 = .ok (.isub, 1) := by decide +kernel
theorem dX5_best_46 : decode cX5_best 46 = .ok (.invokevirtual 72, 3) := by decide +kernel
theorem dX5_best_49 : decode cX5_best 49 = .ok (.ifCond .ne 6, 3) := by decide +kernel
theorem dX5_best_52 : decode cX5_best 52 = .ok (.bipush (-6), 2) := by decide +kernel
theorem dX5_best_54 : decode cX5_best 54 = .ok (.ireturn, 1) := by decide +kernel
theorem dX5_best_55 : decode cX5_best 55 = .ok (.aload_n 0, 1) := by decide +kernel
theorem dX5_best_56 : decode cX5_best 56 = .ok (.getfield 33, 3) := by decide +kernel
theorem dX5_best_59 : decode cX5_best 59 = .ok (.aload_n 0, 1) := by decide +kernel
theorem dX5_best_60 : decode cX5_best 60 = .ok (.getfield 10, 3) := by decide +kernel
theorem dX5_best_63 : decode cX5_best 63 = .ok (.invokevirtual 140, 3) := by decide +kernel
theorem dX5_best_66 : decode cX5_best 66 = .ok (.iload_n 1, 1) := by decide +kernel
theorem dX5_best_67 : decode cX5_best 67 = .ok (.iconst 2, 1) := by decide +kernel
theorem dX5_best_68 : decode cX5_best 68 = .ok (.if_icmp .ne 11, 3) := by decide +kernel
theorem dX5_best_71 : decode cX5_best 71 = .ok (.aload_n 0, 1) := by decide +kernel
theorem dX5_best_72 : decode cX5_best 72 = .ok (.getfield 33, 3) := by decide +kernel
theorem dX5_best_75 : decode cX5_best 75 = .ok (.invokevirtual 143, 3) := by decide +kernel
theorem dX5_best_78 : decode cX5_best 78 = .ok (.ireturn, 1) := by decide +kernel
theorem dX5_best_79 : decode cX5_best 79 = .ok (.aload_n 0, 1) := by decide +kernel
theorem dX5_best_80 : decode cX5_best 80 = .ok (.getfield 33, 3) := by decide +kernel
theorem dX5_best_83 : decode cX5_best 83 = .ok (.invokevirtual 143, 3) := by decide +kernel
theorem dX5_best_86 : decode cX5_best 86 = .ok (.ifCond .ne 6, 3) := by decide +kernel
theorem dX5_best_89 : decode cX5_best 89 = .ok (.bipush (-6), 2) := by decide +kernel
theorem dX5_best_91 : decode cX5_best 91 = .ok (.ireturn, 1) := by decide +kernel
theorem dX5_best_92 : decode cX5_best 92 = .ok (.iload_n 1, 1) := by decide +kernel
theorem dX5_best_93 : decode cX5_best 93 = .ok (.tableswitch 55 0 3 #[31, 39, 55, 47], 31) := by decide +kernel
theorem dX5_best_124 : decode cX5_best 124 = .ok (.aload_n 0, 1) := by decide +kernel
theorem dX5_best_125 : decode cX5_best 125 = .ok (.getfield 33, 3) := by decide +kernel
theorem dX5_best_128 : decode cX5_best 128 = .ok (.invokevirtual 147, 3) := by decide +kernel
theorem dX5_best_131 : decode cX5_best 131 = .ok (.ireturn, 1) := by decide +kernel
theorem dX5_best_132 : decode cX5_best 132 = .ok (.aload_n 0, 1) := by decide +kernel
theorem dX5_best_133 : decode cX5_best 133 = .ok (.getfield 33, 3) := by decide +kernel
theorem dX5_best_136 : decode cX5_best 136 = .ok (.invokevirtual 150, 3) := by decide +kernel
theorem dX5_best_139 : decode cX5_best 139 = .ok (.ireturn, 1) := by decide +kernel
theorem dX5_best_140 : decode cX5_best 140 = .ok (.aload_n 0, 1) := by decide +kernel
theorem dX5_best_141 : decode cX5_best 141 = .ok (.getfield 33, 3) := by decide +kernel
theorem dX5_best_144 : decode cX5_best 144 = .ok (.invokevirtual 153, 3) := by decide +kernel
theorem dX5_best_147 : decode cX5_best 147 = .ok (.ireturn, 1) := by decide +kernel
theorem dX5_best_148 : decode cX5_best 148 = .ok (.aload_n 0, 1) := by decide +kernel
theorem dX5_best_149 : decode cX5_best 149 = .ok (.getfield 33, 3) := by decide +kernel
theorem dX5_best_152 : decode cX5_best 152 = .ok (.aload_n 0, 1) := by decide +kernel
theorem dX5_best_153 : decode cX5_best 153 = .ok (.getfield 10, 3) := by decide +kernel
theorem dX5_best_156 : decode cX5_best 156 = .ok (.iload_n 1, 1) := by decide +kernel
theorem dX5_best_157 : decode cX5_best 157 = .ok (.bipush 10, 2) := by decide +kernel
theorem dX5_best_159 : decode cX5_best 159 = .ok (.isub, 1) := by decide +kernel
theorem dX5_best_160 : decode cX5_best 160 = .ok (.invokevirtual 156, 3) := by decide +kernel
theorem dX5_best_163 : decode cX5_best 163 = .ok (.ireturn, 1) := by decide +kernel
set_option maxRecDepth 20000 in
theorem ggX5_lay_X3_run : GoodIn wsX5_lay wsX3_run := goodIn_r _ [10, 11, 12, 13, 14, 15, 16, 17, 9, 18, 19, 20, 21, 22, 23, 24, 25, 26, 27, 28, 29, 30, 31, 32, 33, 34, 35, 36, 37, 38, 39, 40, 41, 42, 43, 44, 45, 46, 47, 48, 49, 50, 51, 52, 53, 54, 55, 56, 57, 58, 59, 60, 61, 62, 63, 64, 65, 66, 67, 68, 69, 70, 71, 72, 73, 74, 75, 76, 77, 78, 79, 80, 81, 82, 83, 84, 85, 86, 87, 88, 89, 90, 91, 116, 117, 118, 119, 120, 121, 122, 123, 124, 125, 126, 127, 128, 129, 130, 131, 132, 133, 134, 135, 136, 137, 138, 139, 140] (by decide +kernel) (by decide +kernel)
set_option maxRecDepth 20000 in
theorem gX5_lay_X3_run : GoodIn wsX5_lay (wsV RX5 140 RX3 yX3_run wsX3_run) := goodIn_app (goodIn_of _ (by decide +kernel)) ggX5_lay_X3_run
set_option maxRecDepth 20000 in
theorem ggX5_lay_X3_goes : GoodIn wsX5_lay wsX3_goes := goodIn_r _ [95, 12, 123, 124, 125, 126, 127, 128] (by decide +kernel) (by decide +kernel)
set_option maxRecDepth 20000 in
theorem gX5_lay_X3_goes : GoodIn wsX5_lay (wsV RX5 143 RX3 yX3_goes wsX3_goes) := goodIn_app (goodIn_of _ (by decide +kernel)) ggX5_lay_X3_goes
set_option maxRecDepth 20000 in
theorem ggX5_lay_X3_figure : GoodIn wsX5_lay wsX3_figure := goodIn_r _ [99, 21, 11, 123, 124, 125, 126, 127, 128, 116, 117, 118, 119, 120, 121, 122] (by decide +kernel) (by decide +kernel)
set_option maxRecDepth 20000 in
theorem gX5_lay_X3_figure : GoodIn wsX5_lay (wsV RX5 156 RX3 yX3_figure wsX3_figure) := goodIn_app (goodIn_of _ (by decide +kernel)) ggX5_lay_X3_figure
set_option maxRecDepth 20000 in
theorem ggX5_lay_X2_add : GoodIn wsX5_lay wsX2_add := goodIn_r _ [104, 105, 106, 114, 115] (by decide +kernel) (by decide +kernel)
set_option maxRecDepth 20000 in
theorem gX5_lay_X2_add : GoodIn wsX5_lay (wsV RX5 96 RX2 yX2_add wsX2_add) := goodIn_app (goodIn_of _ (by decide +kernel)) ggX5_lay_X2_add
theorem dX5_lay_0 : decode cX5_lay 0 = .ok (.aload_n 0, 1) := by decide +kernel
theorem dX5_lay_1 : decode cX5_lay 1 = .ok (.getfield 33, 3) := by decide +kernel
theorem dX5_lay_4 : decode cX5_lay 4 = .ok (.aload_n 0, 1) := by decide +kernel
theorem dX5_lay_5 : decode cX5_lay 5 = .ok (.getfield 10, 3) := by decide +kernel
theorem dX5_lay_8 : decode cX5_lay 8 = .ok (.invokevirtual 140, 3) := by decide +kernel
theorem dX5_lay_11 : decode cX5_lay 11 = .ok (.aload_n 0, 1) := by decide +kernel
theorem dX5_lay_12 : decode cX5_lay 12 = .ok (.getfield 33, 3) := by decide +kernel
theorem dX5_lay_15 : decode cX5_lay 15 = .ok (.invokevirtual 143, 3) := by decide +kernel
theorem dX5_lay_18 : decode cX5_lay 18 = .ok (.ifCond .ne 6, 3) := by decide +kernel
theorem dX5_lay_21 : decode cX5_lay 21 = .ok (.bipush (-5), 2) := by decide +kernel
theorem dX5_lay_23 : decode cX5_lay 23 = .ok (.ireturn, 1) := by decide +kernel
theorem dX5_lay_24 : decode cX5_lay 24 = .ok (.aload_n 0, 1) := by decide +kernel
theorem dX5_lay_25 : decode cX5_lay 25 = .ok (.getfield 19, 3) := by decide +kernel
theorem dX5_lay_28 : decode cX5_lay 28 = .ok (.iconst 0, 1) := by decide +kernel
theorem dX5_lay_29 : decode cX5_lay 29 = .ok (.putfield 93, 3) := by decide +kernel
theorem dX5_lay_32 : decode cX5_lay 32 = .ok (.iconst 0, 1) := by decide +kernel
theorem dX5_lay_33 : decode cX5_lay 33 = .ok (.istore_n 1, 1) := by decide +kernel
theorem dX5_lay_34 : decode cX5_lay 34 = .ok (.iload_n 1, 1) := by decide +kernel
theorem dX5_lay_35 : decode cX5_lay 35 = .ok (.aload_n 0, 1) := by decide +kernel
theorem dX5_lay_36 : decode cX5_lay 36 = .ok (.getfield 10, 3) := by decide +kernel
theorem dX5_lay_39 : decode cX5_lay 39 = .ok (.getfield 56, 3) := by decide +kernel
theorem dX5_lay_42 : decode cX5_lay 42 = .ok (.if_icmp .ge 31, 3) := by decide +kernel
theorem dX5_lay_45 : decode cX5_lay 45 = .ok (.aload_n 0, 1) := by decide +kernel
theorem dX5_lay_46 : decode cX5_lay 46 = .ok (.getfield 19, 3) := by decide +kernel
theorem dX5_lay_49 : decode cX5_lay 49 = .ok (.bipush 48, 2) := by decide +kernel
theorem dX5_lay_51 : decode cX5_lay 51 = .ok (.aload_n 0, 1) := by decide +kernel
theorem dX5_lay_52 : decode cX5_lay 52 = .ok (.getfield 33, 3) := by decide +kernel
theorem dX5_lay_55 : decode cX5_lay 55 = .ok (.aload_n 0, 1) := by decide +kernel
theorem dX5_lay_56 : decode cX5_lay 56 = .ok (.getfield 10, 3) := by decide +kernel
theorem dX5_lay_59 : decode cX5_lay 59 = .ok (.iload_n 1, 1) := by decide +kernel
theorem dX5_lay_60 : decode cX5_lay 60 = .ok (.invokevirtual 156, 3) := by decide +kernel
theorem dX5_lay_63 : decode cX5_lay 63 = .ok (.iadd, 1) := by decide +kernel
theorem dX5_lay_64 : decode cX5_lay 64 = .ok (.invokevirtual 96, 3) := by decide +kernel
theorem dX5_lay_67 : decode cX5_lay 67 = .ok (.iinc 1 1, 3) := by decide +kernel
theorem dX5_lay_70 : decode cX5_lay 70 = .ok (.goto (-36), 3) := by decide +kernel
theorem dX5_lay_73 : decode cX5_lay 73 = .ok (.aload_n 0, 1) := by decide +kernel
theorem dX5_lay_74 : decode cX5_lay 74 = .ok (.getfield 19, 3) := by decide +kernel
theorem dX5_lay_77 : decode cX5_lay 77 = .ok (.getfield 93, 3) := by decide +kernel
theorem dX5_lay_80 : decode cX5_lay 80 = .ok (.ireturn, 1) := by decide +kernel
set_option maxRecDepth 20000 in
theorem ggX5_padIsLayout_X2_hasOnlyFigures : GoodIn wsX5_padIsLayout wsX2_hasOnlyFigures := goodIn_r _ [9, 10, 11, 12, 13, 8, 14, 15, 16, 17, 18, 19, 27, 28] (by decide +kernel) (by decide +kernel)
set_option maxRecDepth 20000 in
theorem gX5_padIsLayout_X2_hasOnlyFigures : GoodIn wsX5_padIsLayout (wsV RX5 159 RX2 yX2_hasOnlyFigures wsX2_hasOnlyFigures) := goodIn_app (goodIn_of _ (by decide +kernel)) ggX5_padIsLayout_X2_hasOnlyFigures
theorem dX5_padIsLayout_0 : decode cX5_padIsLayout 0 = .ok (.aload_n 0, 1) := by decide +kernel
theorem dX5_padIsLayout_1 : decode cX5_padIsLayout 1 = .ok (.getfield 19, 3) := by decide +kernel
theorem dX5_padIsLayout_4 : decode cX5_padIsLayout 4 = .ok (.getfield 93, 3) := by decide +kernel
theorem dX5_padIsLayout_7 : decode cX5_padIsLayout 7 = .ok (.aload_n 0, 1) := by decide +kernel
theorem dX5_padIsLayout_8 : decode cX5_padIsLayout 8 = .ok (.getfield 10, 3) := by decide +kernel
theorem dX5_padIsLayout_11 : decode cX5_padIsLayout 11 = .ok (.getfield 56, 3) := by decide +kernel
theorem dX5_padIsLayout_14 : decode cX5_padIsLayout 14 = .ok (.if_icmp .ne 18, 3) := by decide +kernel
theorem dX5_padIsLayout_17 : decode cX5_padIsLayout 17 = .ok (.aload_n 0, 1) := by decide +kernel
theorem dX5_padIsLayout_18 : decode cX5_padIsLayout 18 = .ok (.getfield 19, 3) := by decide +kernel
theorem dX5_padIsLayout_21 : decode cX5_padIsLayout 21 = .ok (.iconst 2, 1) := by decide +kernel
theorem dX5_padIsLayout_22 : decode cX5_padIsLayout 22 = .ok (.invokevirtual 159, 3) := by decide +kernel
theorem dX5_padIsLayout_25 : decode cX5_padIsLayout 25 = .ok (.ifCond .eq 7, 3) := by decide +kernel
theorem dX5_padIsLayout_28 : decode cX5_padIsLayout 28 = .ok (.iconst 1, 1) := by decide +kernel
theorem dX5_padIsLayout_29 : decode cX5_padIsLayout 29 = .ok (.goto 4, 3) := by decide +kernel
theorem dX5_padIsLayout_32 : decode cX5_padIsLayout 32 = .ok (.iconst 0, 1) := by decide +kernel
theorem dX5_padIsLayout_33 : decode cX5_padIsLayout 33 = .ok (.ireturn, 1) := by decide +kernel
set_option maxRecDepth 20000 in
theorem ggX5_talk_X0_has : GoodIn wsX5_talk wsX0_has := goodIn_r _ [10, 11, 37, 38, 39, 40, 41, 42, 43] (by decide +kernel) (by decide +kernel)
set_option maxRecDepth 20000 in
theorem gX5_talk_X0_has : GoodIn wsX5_talk (wsV RX5 72 RX0 yX0_has wsX0_has) := goodIn_app (goodIn_of _ (by decide +kernel)) ggX5_talk_X0_has
set_option maxRecDepth 20000 in
theorem ggX5_talk_X2_hasOnlyFigures : GoodIn wsX5_talk wsX2_hasOnlyFigures := goodIn_r _ [16, 17, 18, 19, 20, 15, 21, 22, 23, 24, 25, 26, 35, 36] (by decide +kernel) (by decide +kernel)
set_option maxRecDepth 20000 in
theorem gX5_talk_X2_hasOnlyFigures : GoodIn wsX5_talk (wsV RX5 159 RX2 yX2_hasOnlyFigures wsX2_hasOnlyFigures) := goodIn_app (goodIn_of _ (by decide +kernel)) ggX5_talk_X2_hasOnlyFigures
set_option maxRecDepth 20000 in
theorem ggX5_talk_X2_figure : GoodIn wsX5_talk wsX2_figure := goodIn_r _ [25, 26, 35, 36] (by decide +kernel) (by decide +kernel)
set_option maxRecDepth 20000 in
theorem gX5_talk_X2_figure : GoodIn wsX5_talk (wsV RX5 165 RX2 yX2_figure wsX2_figure) := goodIn_app (goodIn_of _ (by decide +kernel)) ggX5_talk_X2_figure
theorem dX5_talk_0 : decode cX5_talk 0 = .ok (.aload_n 0, 1) := by decide +kernel
theorem dX5_talk_1 : decode cX5_talk 1 = .ok (.getfield 10, 3) := by decide +kernel
theorem dX5_talk_4 : decode cX5_talk 4 = .ok (.iload_n 1, 1) := by decide +kernel
theorem dX5_talk_5 : decode cX5_talk 5 = .ok (.invokevirtual 72, 3) := by decide +kernel
theorem dX5_talk_8 : decode cX5_talk 8 = .ok (.ifCond .ne 5, 3) := by decide +kernel
theorem dX5_talk_11 : decode cX5_talk 11 = .ok (.iconst (-1), 1) := by decide +kernel
theorem dX5_talk_12 : decode cX5_talk 12 = .ok (.ireturn, 1) := by decide +kernel
theorem dX5_talk_13 : decode cX5_talk 13 = .ok (.aload_n 0, 1) := by decide +kernel
theorem dX5_talk_14 : decode cX5_talk 14 = .ok (.getfield 19, 3) := by decide +kernel
theorem dX5_talk_17 : decode cX5_talk 17 = .ok (.getfield 93, 3) := by decide +kernel
theorem dX5_talk_20 : decode cX5_talk 20 = .ok (.iconst 4, 1) := by decide +kernel
theorem dX5_talk_21 : decode cX5_talk 21 = .ok (.if_icmp .gt 14, 3) := by decide +kernel
theorem dX5_talk_24 : decode cX5_talk 24 = .ok (.aload_n 0, 1) := by decide +kernel
theorem dX5_talk_25 : decode cX5_talk 25 = .ok (.getfield 19, 3) := by decide +kernel
theorem dX5_talk_28 : decode cX5_talk 28 = .ok (.iconst 3, 1) := by decide +kernel
theorem dX5_talk_29 : decode cX5_talk 29 = .ok (.invokevirtual 159, 3) := by decide +kernel
theorem dX5_talk_32 : decode cX5_talk 32 = .ok (.ifCond .ne 6, 3) := by decide +kernel
theorem dX5_talk_35 : decode cX5_talk 35 = .ok (.bipush (-7), 2) := by decide +kernel
theorem dX5_talk_37 : decode cX5_talk 37 = .ok (.ireturn, 1) := by decide +kernel
theorem dX5_talk_38 : decode cX5_talk 38 = .ok (.aload_n 0, 1) := by decide +kernel
theorem dX5_talk_39 : decode cX5_talk 39 = .ok (.getfield 19, 3) := by decide +kernel
theorem dX5_talk_42 : decode cX5_talk 42 = .ok (.getfield 93, 3) := by decide +kernel
theorem dX5_talk_45 : decode cX5_talk 45 = .ok (.istore_n 2, 1) := by decide +kernel
theorem dX5_talk_46 : decode cX5_talk 46 = .ok (.iconst 0, 1) := by decide +kernel
theorem dX5_talk_47 : decode cX5_talk 47 = .ok (.istore_n 3, 1) := by decide +kernel
theorem dX5_talk_48 : decode cX5_talk 48 = .ok (.iload_n 3, 1) := by decide +kernel
theorem dX5_talk_49 : decode cX5_talk 49 = .ok (.iload_n 2, 1) := by decide +kernel
theorem dX5_talk_50 : decode cX5_talk 50 = .ok (.if_icmp .ge 30, 3) := by decide +kernel
theorem dX5_talk_53 : decode cX5_talk 53 = .ok (.aload_n 0, 1) := by decide +kernel
theorem dX5_talk_54 : decode cX5_talk 54 = .ok (.getfield 10, 3) := by decide +kernel
theorem dX5_talk_57 : decode cX5_talk 57 = .ok (.getfield 162, 3) := by decide +kernel
theorem dX5_talk_60 : decode cX5_talk 60 = .ok (.iload_n 1, 1) := by decide +kernel
theorem dX5_talk_61 : decode cX5_talk 61 = .ok (.iconst 4, 1) := by decide +kernel
theorem dX5_talk_62 : decode cX5_talk 62 = .ok (.imul, 1) := by decide +kernel
theorem dX5_talk_63 : decode cX5_talk 63 = .ok (.iload_n 3, 1) := by decide +kernel
theorem dX5_talk_64 : decode cX5_talk 64 = .ok (.iadd, 1) := by decide +kernel
theorem dX5_talk_65 : decode cX5_talk 65 = .ok (.aload_n 0, 1) := by decide +kernel
theorem dX5_talk_66 : decode cX5_talk 66 = .ok (.getfield 19, 3) := by decide +kernel
theorem dX5_talk_69 : decode cX5_talk 69 = .ok (.iload_n 3, 1) := by decide +kernel
theorem dX5_talk_70 : decode cX5_talk 70 = .ok (.invokevirtual 165, 3) := by decide +kernel
theorem dX5_talk_73 : decode cX5_talk 73 = .ok (.iastore, 1) := by decide +kernel
theorem dX5_talk_74 : decode cX5_talk 74 = .ok (.iinc 3 1, 3) := by decide +kernel
theorem dX5_talk_77 : decode cX5_talk 77 = .ok (.goto (-29), 3) := by decide +kernel
theorem dX5_talk_80 : decode cX5_talk 80 = .ok (.aload_n 0, 1) := by decide +kernel
theorem dX5_talk_81 : decode cX5_talk 81 = .ok (.getfield 10, 3) := by decide +kernel
theorem dX5_talk_84 : decode cX5_talk 84 = .ok (.getfield 69, 3) := by decide +kernel
theorem dX5_talk_87 : decode cX5_talk 87 = .ok (.iload_n 1, 1) := by decide +kernel
theorem dX5_talk_88 : decode cX5_talk 88 = .ok (.iload_n 2, 1) := by decide +kernel
theorem dX5_talk_89 : decode cX5_talk 89 = .ok (.iastore, 1) := by decide +kernel
theorem dX5_talk_90 : decode cX5_talk 90 = .ok (.aload_n 0, 1) := by decide +kernel
theorem dX5_talk_91 : decode cX5_talk 91 = .ok (.getfield 19, 3) := by decide +kernel
theorem dX5_talk_94 : decode cX5_talk 94 = .ok (.iconst 0, 1) := by decide +kernel
theorem dX5_talk_95 : decode cX5_talk 95 = .ok (.putfield 93, 3) := by decide +kernel
theorem dX5_talk_98 : decode cX5_talk 98 = .ok (.iload_n 2, 1) := by decide +kernel
theorem dX5_talk_99 : decode cX5_talk 99 = .ok (.ireturn, 1) := by decide +kernel
set_option maxRecDepth 20000 in
theorem ggX5_speaker_X0_has : GoodIn wsX5_speaker wsX0_has := goodIn_r _ [7, 8, 21, 22, 23, 24, 25, 26, 27] (by decide +kernel) (by decide +kernel)
set_option maxRecDepth 20000 in
theorem gX5_speaker_X0_has : GoodIn wsX5_speaker (wsV RX5 72 RX0 yX0_has wsX0_has) := goodIn_app (goodIn_of _ (by decide +kernel)) ggX5_speaker_X0_has
set_option maxRecDepth 20000 in
theorem ggX5_speaker_X0_speakerColumn : GoodIn wsX5_speaker wsX0_speakerColumn := goodIn_r _ [12, 13, 21, 22, 23, 24, 25, 26, 27] (by decide +kernel) (by decide +kernel)
set_option maxRecDepth 20000 in
theorem gX5_speaker_X0_speakerColumn : GoodIn wsX5_speaker (wsV RX5 168 RX0 yX0_speakerColumn wsX0_speakerColumn) := goodIn_app (goodIn_of _ (by decide +kernel)) ggX5_speaker_X0_speakerColumn
theorem dX5_speaker_0 : decode cX5_speaker 0 = .ok (.aload_n 0, 1) := by decide +kernel
theorem dX5_speaker_1 : decode cX5_speaker 1 = .ok (.getfield 10, 3) := by decide +kernel
theorem dX5_speaker_4 : decode cX5_speaker 4 = .ok (.iload_n 1, 1) := by decide +kernel
theorem dX5_speaker_5 : decode cX5_speaker 5 = .ok (.invokevirtual 72, 3) := by decide +kernel
theorem dX5_speaker_8 : decode cX5_speaker 8 = .ok (.ifCond .ne 5, 3) := by decide +kernel
theorem dX5_speaker_11 : decode cX5_speaker 11 = .ok (.iconst (-1), 1) := by decide +kernel
theorem dX5_speaker_12 : decode cX5_speaker 12 = .ok (.ireturn, 1) := by decide +kernel
theorem dX5_speaker_13 : decode cX5_speaker 13 = .ok (.iload_n 2, 1) := by decide +kernel
theorem dX5_speaker_14 : decode cX5_speaker 14 = .ok (.ifCond .lt 16, 3) := by decide +kernel
theorem dX5_speaker_17 : decode cX5_speaker 17 = .ok (.iload_n 2, 1) := by decide +kernel
theorem dX5_speaker_18 : decode cX5_speaker 18 = .ok (.aload_n 0, 1) := by decide +kernel
theorem dX5_speaker_19 : decode cX5_speaker 19 = .ok (.getfield 10, 3) := by decide +kernel
theorem dX5_speaker_22 : decode cX5_speaker 22 = .ok (.getfield 69, 3) := by decide +kernel
theorem dX5_speaker_25 : decode cX5_speaker 25 = .ok (.iload_n 1, 1) := by decide +kernel
theorem dX5_speaker_26 : decode cX5_speaker 26 = .ok (.iaload, 1) := by decide +kernel
theorem dX5_speaker_27 : decode cX5_speaker 27 = .ok (.if_icmp .lt 6, 3) := by decide +kernel
theorem dX5_speaker_30 : decode cX5_speaker 30 = .ok (.bipush (-6), 2) := by decide +kernel
theorem dX5_speaker_32 : decode cX5_speaker 32 = .ok (.ireturn, 1) := by decide +kernel
theorem dX5_speaker_33 : decode cX5_speaker 33 = .ok (.aload_n 0, 1) := by decide +kernel
theorem dX5_speaker_34 : decode cX5_speaker 34 = .ok (.getfield 10, 3) := by decide +kernel
theorem dX5_speaker_37 : decode cX5_speaker 37 = .ok (.iload_n 1, 1) := by decide +kernel
theorem dX5_speaker_38 : decode cX5_speaker 38 = .ok (.iload_n 2, 1) := by decide +kernel
theorem dX5_speaker_39 : decode cX5_speaker 39 = .ok (.invokevirtual 168, 3) := by decide +kernel
theorem dX5_speaker_42 : decode cX5_speaker 42 = .ok (.ireturn, 1) := by decide +kernel
set_option maxRecDepth 20000 in
theorem ggX5_good_X0_has : GoodIn wsX5_good wsX0_has := goodIn_r _ [12, 13, 57, 58, 59, 60, 61, 62, 63] (by decide +kernel) (by decide +kernel)
set_option maxRecDepth 20000 in
theorem gX5_good_X0_has : GoodIn wsX5_good (wsV RX5 72 RX0 yX0_has wsX0_has) := goodIn_app (goodIn_of _ (by decide +kernel)) ggX5_good_X0_has
set_option maxRecDepth 20000 in
theorem ggX5_good_X4_findGood : GoodIn wsX5_good wsX4_findGood := goodIn_r _ [18, 19, 20, 21, 22, 23, 24, 17, 25, 26, 27, 28, 29, 30, 31, 32, 33, 34, 35, 36, 37, 38, 39, 40, 41, 42, 43, 44, 45, 46, 47, 11, 48, 49, 64, 65, 66, 67, 68, 57, 58, 59, 60, 61, 62, 63] (by decide +kernel) (by decide +kernel)
set_option maxRecDepth 20000 in
theorem gX5_good_X4_findGood : GoodIn wsX5_good (wsV RX5 171 RX4 yX4_findGood wsX4_findGood) := goodIn_app (goodIn_of _ (by decide +kernel)) ggX5_good_X4_findGood
theorem dX5_good_0 : decode cX5_good 0 = .ok (.aload_n 0, 1) := by decide +kernel
theorem dX5_good_1 : decode cX5_good 1 = .ok (.getfield 10, 3) := by decide +kernel
theorem dX5_good_4 : decode cX5_good 4 = .ok (.iload_n 1, 1) := by decide +kernel
theorem dX5_good_5 : decode cX5_good 5 = .ok (.invokevirtual 72, 3) := by decide +kernel
theorem dX5_good_8 : decode cX5_good 8 = .ok (.ifCond .ne 5, 3) := by decide +kernel
theorem dX5_good_11 : decode cX5_good 11 = .ok (.iconst (-1), 1) := by decide +kernel
theorem dX5_good_12 : decode cX5_good 12 = .ok (.ireturn, 1) := by decide +kernel
theorem dX5_good_13 : decode cX5_good 13 = .ok (.iload_n 2, 1) := by decide +kernel
theorem dX5_good_14 : decode cX5_good 14 = .ok (.bipush 10, 2) := by decide +kernel
theorem dX5_good_16 : decode cX5_good 16 = .ok (.if_icmp .lt 13, 3) := by decide +kernel
theorem dX5_good_19 : decode cX5_good 19 = .ok (.iload_n 2, 1) := by decide +kernel
theorem dX5_good_20 : decode cX5_good 20 = .ok (.bipush 14, 2) := by decide +kernel
theorem dX5_good_22 : decode cX5_good 22 = .ok (.if_icmp .ge 7, 3) := by decide +kernel
theorem dX5_good_25 : decode cX5_good 25 = .ok (.iconst 1, 1) := by decide +kernel
theorem dX5_good_26 : decode cX5_good 26 = .ok (.goto 4, 3) := by decide +kernel
theorem dX5_good_29 : decode cX5_good 29 = .ok (.iconst 0, 1) := by decide +kernel
theorem dX5_good_30 : decode cX5_good 30 = .ok (.istore_n 3, 1) := by decide +kernel
theorem dX5_good_31 : decode cX5_good 31 = .ok (.iload_n 3, 1) := by decide +kernel
theorem dX5_good_32 : decode cX5_good 32 = .ok (.ifCond .ne 15, 3) := by decide +kernel
theorem dX5_good_35 : decode cX5_good 35 = .ok (.iload_n 2, 1) := by decide +kernel
theorem dX5_good_36 : decode cX5_good 36 = .ok (.ifCond .lt 8, 3) := by decide +kernel
theorem dX5_good_39 : decode cX5_good 39 = .ok (.iload_n 2, 1) := by decide +kernel
theorem dX5_good_40 : decode cX5_good 40 = .ok (.iconst 2, 1) := by decide +kernel
theorem dX5_good_41 : decode cX5_good 41 = .ok (.if_icmp .le 6, 3) := by decide +kernel
theorem dX5_good_44 : decode cX5_good 44 = .ok (.bipush (-2), 2) := by decide +kernel
theorem dX5_good_46 : decode cX5_good 46 = .ok (.ireturn, 1) := by decide +kernel
theorem dX5_good_47 : decode cX5_good 47 = .ok (.iload_n 3, 1) := by decide +kernel
theorem dX5_good_48 : decode cX5_good 48 = .ok (.ifCond .eq 22, 3) := by decide +kernel
theorem dX5_good_51 : decode cX5_good 51 = .ok (.iload_n 2, 1) := by decide +kernel
theorem dX5_good_52 : decode cX5_good 52 = .ok (.bipush 10, 2) := by decide +kernel
theorem dX5_good_54 : decode cX5_good 54 = .ok (.isub, 1) := by decide +kernel
theorem dX5_good_55 : decode cX5_good 55 = .ok (.aload_n 0, 1) := by decide +kernel
theorem dX5_good_56 : decode cX5_good 56 = .ok (.getfield 10, 3) := by decide +kernel
theorem dX5_good_59 : decode cX5_good 59 = .ok (.getfield 69, 3) := by decide +kernel
theorem dX5_good_62 : decode cX5_good 62 = .ok (.iload_n 1, 1) := by decide +kernel
theorem dX5_good_63 : decode cX5_good 63 = .ok (.iaload, 1) := by decide +kernel
theorem dX5_good_64 : decode cX5_good 64 = .ok (.if_icmp .lt 6, 3) := by decide +kernel
theorem dX5_good_67 : decode cX5_good 67 = .ok (.bipush (-6), 2) := by decide +kernel
theorem dX5_good_69 : decode cX5_good 69 = .ok (.ireturn, 1) := by decide +kernel
theorem dX5_good_70 : decode cX5_good 70 = .ok (.aload_n 0, 1) := by decide +kernel
theorem dX5_good_71 : decode cX5_good 71 = .ok (.getfield 40, 3) := by decide +kernel
theorem dX5_good_74 : decode cX5_good 74 = .ok (.aload_n 0, 1) := by decide +kernel
theorem dX5_good_75 : decode cX5_good 75 = .ok (.getfield 10, 3) := by decide +kernel
theorem dX5_good_78 : decode cX5_good 78 = .ok (.iload_n 1, 1) := by decide +kernel
theorem dX5_good_79 : decode cX5_good 79 = .ok (.invokevirtual 171, 3) := by decide +kernel
theorem dX5_good_82 : decode cX5_good 82 = .ok (.iload_n 2, 1) := by decide +kernel
theorem dX5_good_83 : decode cX5_good 83 = .ok (.ifCond .ne 11, 3) := by decide +kernel
theorem dX5_good_86 : decode cX5_good 86 = .ok (.aload_n 0, 1) := by decide +kernel
theorem dX5_good_87 : decode cX5_good 87 = .ok (.getfield 40, 3) := by decide +kernel
theorem dX5_good_90 : decode cX5_good 90 = .ok (.getfield 175, 3) := by decide +kernel
theorem dX5_good_93 : decode cX5_good 93 = .ok (.ireturn, 1) := by decide +kernel
theorem dX5_good_94 : decode cX5_good 94 = .ok (.aload_n 0, 1) := by decide +kernel
theorem dX5_good_95 : decode cX5_good 95 = .ok (.getfield 40, 3) := by decide +kernel
theorem dX5_good_98 : decode cX5_good 98 = .ok (.getfield 175, 3) := by decide +kernel
theorem dX5_good_101 : decode cX5_good 101 = .ok (.ifCond .ne 6, 3) := by decide +kernel
theorem dX5_good_104 : decode cX5_good 104 = .ok (.bipush (-6), 2) := by decide +kernel
theorem dX5_good_106 : decode cX5_good 106 = .ok (.ireturn, 1) := by decide +kernel
theorem dX5_good_107 : decode cX5_good 107 = .ok (.iload_n 2, 1) := by decide +kernel
theorem dX5_good_108 : decode cX5_good 108 = .ok (.iconst 1, 1) := by decide +kernel
theorem dX5_good_109 : decode cX5_good 109 = .ok (.if_icmp .ne 11, 3) := by decide +kernel
theorem dX5_good_112 : decode cX5_good 112 = .ok (.aload_n 0, 1) := by decide +kernel
theorem dX5_good_113 : decode cX5_good 113 = .ok (.getfield 40, 3) := by decide +kernel
theorem dX5_good_116 : decode cX5_good 116 = .ok (.getfield 178, 3) := by decide +kernel
theorem dX5_good_119 : decode cX5_good 119 = .ok (.ireturn, 1) := by decide +kernel
theorem dX5_good_120 : decode cX5_good 120 = .ok (.iload_n 2, 1) := by decide +kernel
theorem dX5_good_121 : decode cX5_good 121 = .ok (.iconst 2, 1) := by decide +kernel
theorem dX5_good_122 : decode cX5_good 122 = .ok (.if_icmp .ne 13, 3) := by decide +kernel
theorem dX5_good_125 : decode cX5_good 125 = .ok (.aload_n 0, 1) := by decide +kernel
theorem dX5_good_126 : decode cX5_good 126 = .ok (.getfield 40, 3) := by decide +kernel
theorem dX5_good_129 : decode cX5_good 129 = .ok (.getfield 181, 3) := by decide +kernel
theorem dX5_good_132 : decode cX5_good 132 = .ok (.goto 15, 3) := by decide +kernel
theorem dX5_good_135 : decode cX5_good 135 = .ok (.aload_n 0, 1) := by decide +kernel
theorem dX5_good_136 : decode cX5_good 136 = .ok (.getfield 40, 3) := by decide +kernel
theorem dX5_good_139 : decode cX5_good 139 = .ok (.getfield 184, 3) := by decide +kernel
theorem dX5_good_142 : decode cX5_good 142 = .ok (.iload_n 2, 1) := by decide +kernel
theorem dX5_good_143 : decode cX5_good 143 = .ok (.bipush 10, 2) := by decide +kernel
theorem dX5_good_145 : decode cX5_good 145 = .ok (.isub, 1) := by decide +kernel
theorem dX5_good_146 : decode cX5_good 146 = .ok (.iaload, 1) := by decide +kernel
theorem dX5_good_147 : decode cX5_good 147 = .ok (.ireturn, 1) := by decide +kernel
set_option maxRecDepth 20000 in
theorem ggX5_isGood_X0_has : GoodIn wsX5_isGood wsX0_has := goodIn_r _ [10, 11, 51, 52, 53, 54, 55, 56, 57] (by decide +kernel) (by decide +kernel)
set_option maxRecDepth 20000 in
theorem gX5_isGood_X0_has : GoodIn wsX5_isGood (wsV RX5 72 RX0 yX0_has wsX0_has) := goodIn_app (goodIn_of _ (by decide +kernel)) ggX5_isGood_X0_has
set_option maxRecDepth 20000 in
theorem ggX5_isGood_X5_padIsSetting : GoodIn wsX5_isGood wsX5_padIsSetting := goodIn_r _ [16, 5, 17, 1, 2, 18, 19, 20, 21, 22, 23, 24, 25, 26, 27, 44, 45, 46, 47, 48, 49, 50, 63, 64, 51, 52, 53, 54, 55, 56, 57] (by decide +kernel) (by decide +kernel)
set_option maxRecDepth 20000 in
theorem gX5_isGood_X5_padIsSetting : GoodIn wsX5_isGood (wsV RX5 187 RX5 yX5_padIsSetting wsX5_padIsSetting) := goodIn_app (goodIn_of _ (by decide +kernel)) ggX5_isGood_X5_padIsSetting
set_option maxRecDepth 20000 in
theorem ggX5_isGood_X2_figure : GoodIn wsX5_isGood wsX2_figure := goodIn_r _ [26, 27, 63, 64] (by decide +kernel) (by decide +kernel)
set_option maxRecDepth 20000 in
theorem gX5_isGood_X2_figure : GoodIn wsX5_isGood (wsV RX5 165 RX2 yX2_figure wsX2_figure) := goodIn_app (goodIn_of _ (by decide +kernel)) ggX5_isGood_X2_figure
set_option maxRecDepth 20000 in
theorem ggX5_isGood_X4_fits : GoodIn wsX5_isGood wsX4_fits := goodIn_r _ [33, 34, 35, 36, 37, 38, 39, 40, 41, 9, 42, 43, 58, 59, 60, 61, 62, 51, 52, 53, 54, 55, 56, 57] (by decide +kernel) (by decide +kernel)
set_option maxRecDepth 20000 in
theorem gX5_isGood_X4_fits : GoodIn wsX5_isGood (wsV RX5 193 RX4 yX4_fits wsX4_fits) := goodIn_app (goodIn_of _ (by decide +kernel)) ggX5_isGood_X4_fits
theorem dX5_isGood_0 : decode cX5_isGood 0 = .ok (.aload_n 0, 1) := by decide +kernel
theorem dX5_isGood_1 : decode cX5_isGood 1 = .ok (.getfield 10, 3) := by decide +kernel
theorem dX5_isGood_4 : decode cX5_isGood 4 = .ok (.iload_n 1, 1) := by decide +kernel
theorem dX5_isGood_5 : decode cX5_isGood 5 = .ok (.invokevirtual 72, 3) := by decide +kernel
theorem dX5_isGood_8 : decode cX5_isGood 8 = .ok (.ifCond .ne 5, 3) := by decide +kernel
theorem dX5_isGood_11 : decode cX5_isGood 11 = .ok (.iconst (-1), 1) := by decide +kernel
theorem dX5_isGood_12 : decode cX5_isGood 12 = .ok (.ireturn, 1) := by decide +kernel
theorem dX5_isGood_13 : decode cX5_isGood 13 = .ok (.aload_n 0, 1) := by decide +kernel
theorem dX5_isGood_14 : decode cX5_isGood 14 = .ok (.iload_n 1, 1) := by decide +kernel
theorem dX5_isGood_15 : decode cX5_isGood 15 = .ok (.invokevirtual 187, 3) := by decide +kernel
theorem dX5_isGood_18 : decode cX5_isGood 18 = .ok (.ifCond .ne 6, 3) := by decide +kernel
theorem dX5_isGood_21 : decode cX5_isGood 21 = .ok (.bipush (-7), 2) := by decide +kernel
theorem dX5_isGood_23 : decode cX5_isGood 23 = .ok (.ireturn, 1) := by decide +kernel
theorem dX5_isGood_24 : decode cX5_isGood 24 = .ok (.iconst 0, 1) := by decide +kernel
theorem dX5_isGood_25 : decode cX5_isGood 25 = .ok (.istore_n 2, 1) := by decide +kernel
theorem dX5_isGood_26 : decode cX5_isGood 26 = .ok (.iload_n 2, 1) := by decide +kernel
theorem dX5_isGood_27 : decode cX5_isGood 27 = .ok (.aload_n 0, 1) := by decide +kernel
theorem dX5_isGood_28 : decode cX5_isGood 28 = .ok (.getfield 10, 3) := by decide +kernel
theorem dX5_isGood_31 : decode cX5_isGood 31 = .ok (.getfield 69, 3) := by decide +kernel
theorem dX5_isGood_34 : decode cX5_isGood 34 = .ok (.iload_n 1, 1) := by decide +kernel
theorem dX5_isGood_35 : decode cX5_isGood 35 = .ok (.iaload, 1) := by decide +kernel
theorem dX5_isGood_36 : decode cX5_isGood 36 = .ok (.if_icmp .ge 61, 3) := by decide +kernel
theorem dX5_isGood_39 : decode cX5_isGood 39 = .ok (.aload_n 0, 1) := by decide +kernel
theorem dX5_isGood_40 : decode cX5_isGood 40 = .ok (.getfield 40, 3) := by decide +kernel
theorem dX5_isGood_43 : decode cX5_isGood 43 = .ok (.getfield 190, 3) := by decide +kernel
theorem dX5_isGood_46 : decode cX5_isGood 46 = .ok (.iload_n 2, 1) := by decide +kernel
theorem dX5_isGood_47 : decode cX5_isGood 47 = .ok (.iconst 4, 1) := by decide +kernel
theorem dX5_isGood_48 : decode cX5_isGood 48 = .ok (.aload_n 0, 1) := by decide +kernel
theorem dX5_isGood_49 : decode cX5_isGood 49 = .ok (.getfield 19, 3) := by decide +kernel
theorem dX5_isGood_52 : decode cX5_isGood 52 = .ok (.iconst 2, 1) := by decide +kernel
theorem dX5_isGood_53 : decode cX5_isGood 53 = .ok (.iload_n 2, 1) := by decide +kernel
theorem dX5_isGood_54 : decode cX5_isGood 54 = .ok (.imul, 1) := by decide +kernel
theorem dX5_isGood_55 : decode cX5_isGood 55 = .ok (.invokevirtual 165, 3) := by decide +kernel
theorem dX5_isGood_58 : decode cX5_isGood 58 = .ok (.imul, 1) := by decide +kernel
theorem dX5_isGood_59 : decode cX5_isGood 59 = .ok (.aload_n 0, 1) := by decide +kernel
theorem dX5_isGood_60 : decode cX5_isGood 60 = .ok (.getfield 19, 3) := by decide +kernel
theorem dX5_isGood_63 : decode cX5_isGood 63 = .ok (.iconst 2, 1) := by decide +kernel
theorem dX5_isGood_64 : decode cX5_isGood 64 = .ok (.iload_n 2, 1) := by decide +kernel
theorem dX5_isGood_65 : decode cX5_isGood 65 = .ok (.imul, 1) := by decide +kernel
theorem dX5_isGood_66 : decode cX5_isGood 66 = .ok (.iconst 1, 1) := by decide +kernel
theorem dX5_isGood_67 : decode cX5_isGood 67 = .ok (.iadd, 1) := by decide +kernel
theorem dX5_isGood_68 : decode cX5_isGood 68 = .ok (.invokevirtual 165, 3) := by decide +kernel
theorem dX5_isGood_71 : decode cX5_isGood 71 = .ok (.iadd, 1) := by decide +kernel
theorem dX5_isGood_72 : decode cX5_isGood 72 = .ok (.iastore, 1) := by decide +kernel
theorem dX5_isGood_73 : decode cX5_isGood 73 = .ok (.aload_n 0, 1) := by decide +kernel
theorem dX5_isGood_74 : decode cX5_isGood 74 = .ok (.getfield 40, 3) := by decide +kernel
theorem dX5_isGood_77 : decode cX5_isGood 77 = .ok (.aload_n 0, 1) := by decide +kernel
theorem dX5_isGood_78 : decode cX5_isGood 78 = .ok (.getfield 10, 3) := by decide +kernel
theorem dX5_isGood_81 : decode cX5_isGood 81 = .ok (.iload_n 1, 1) := by decide +kernel
theorem dX5_isGood_82 : decode cX5_isGood 82 = .ok (.iload_n 2, 1) := by decide +kernel
theorem dX5_isGood_83 : decode cX5_isGood 83 = .ok (.invokevirtual 193, 3) := by decide +kernel
theorem dX5_isGood_86 : decode cX5_isGood 86 = .ok (.ifCond .ne 5, 3) := by decide +kernel
theorem dX5_isGood_89 : decode cX5_isGood 89 = .ok (.iconst 0, 1) := by decide +kernel
theorem dX5_isGood_90 : decode cX5_isGood 90 = .ok (.ireturn, 1) := by decide +kernel
theorem dX5_isGood_91 : decode cX5_isGood 91 = .ok (.iinc 2 1, 3) := by decide +kernel
theorem dX5_isGood_94 : decode cX5_isGood 94 = .ok (.goto (-68), 3) := by decide +kernel
theorem dX5_isGood_97 : decode cX5_isGood 97 = .ok (.iconst 1, 1) := by decide +kernel
theorem dX5_isGood_98 : decode cX5_isGood 98 = .ok (.ireturn, 1) := by decide +kernel
set_option maxRecDepth 20000 in
theorem ggX5_padIsSetting_X2_isFigure : GoodIn wsX5_padIsSetting wsX2_isFigure := goodIn_r _ [9, 10, 11, 12, 8, 13, 14, 22, 23] (by decide +kernel) (by decide +kernel)
set_option maxRecDepth 20000 in
theorem gX5_padIsSetting_X2_isFigure : GoodIn wsX5_padIsSetting (wsV RX5 197 RX2 yX2_isFigure wsX2_isFigure) := goodIn_app (goodIn_of _ (by decide +kernel)) ggX5_padIsSetting_X2_isFigure
theorem dX5_padIsSetting_0 : decode cX5_padIsSetting 0 = .ok (.aload_n 0, 1) := by decide +kernel
theorem dX5_padIsSetting_1 : decode cX5_padIsSetting 1 = .ok (.getfield 19, 3) := by decide +kernel
theorem dX5_padIsSetting_4 : decode cX5_padIsSetting 4 = .ok (.getfield 93, 3) := by decide +kernel
theorem dX5_padIsSetting_7 : decode cX5_padIsSetting 7 = .ok (.iconst 2, 1) := by decide +kernel
theorem dX5_padIsSetting_8 : decode cX5_padIsSetting 8 = .ok (.aload_n 0, 1) := by decide +kernel
theorem dX5_padIsSetting_9 : decode cX5_padIsSetting 9 = .ok (.getfield 10, 3) := by decide +kernel
theorem dX5_padIsSetting_12 : decode cX5_padIsSetting 12 = .ok (.getfield 69, 3) := by decide +kernel
theorem dX5_padIsSetting_15 : decode cX5_padIsSetting 15 = .ok (.iload_n 1, 1) := by decide +kernel
theorem dX5_padIsSetting_16 : decode cX5_padIsSetting 16 = .ok (.iaload, 1) := by decide +kernel
theorem dX5_padIsSetting_17 : decode cX5_padIsSetting 17 = .ok (.imul, 1) := by decide +kernel
theorem dX5_padIsSetting_18 : decode cX5_padIsSetting 18 = .ok (.if_icmp .eq 5, 3) := by decide +kernel
theorem dX5_padIsSetting_21 : decode cX5_padIsSetting 21 = .ok (.iconst 0, 1) := by decide +kernel
theorem dX5_padIsSetting_22 : decode cX5_padIsSetting 22 = .ok (.ireturn, 1) := by decide +kernel
theorem dX5_padIsSetting_23 : decode cX5_padIsSetting 23 = .ok (.iconst 0, 1) := by decide +kernel
theorem dX5_padIsSetting_24 : decode cX5_padIsSetting 24 = .ok (.istore_n 2, 1) := by decide +kernel
theorem dX5_padIsSetting_25 : decode cX5_padIsSetting 25 = .ok (.iload_n 2, 1) := by decide +kernel
theorem dX5_padIsSetting_26 : decode cX5_padIsSetting 26 = .ok (.aload_n 0, 1) := by decide +kernel
theorem dX5_padIsSetting_27 : decode cX5_padIsSetting 27 = .ok (.getfield 10, 3) := by decide +kernel
theorem dX5_padIsSetting_30 : decode cX5_padIsSetting 30 = .ok (.getfield 69, 3) := by decide +kernel
theorem dX5_padIsSetting_33 : decode cX5_padIsSetting 33 = .ok (.iload_n 1, 1) := by decide +kernel
theorem dX5_padIsSetting_34 : decode cX5_padIsSetting 34 = .ok (.iaload, 1) := by decide +kernel
theorem dX5_padIsSetting_35 : decode cX5_padIsSetting 35 = .ok (.if_icmp .ge 41, 3) := by decide +kernel
theorem dX5_padIsSetting_38 : decode cX5_padIsSetting 38 = .ok (.aload_n 0, 1) := by decide +kernel
theorem dX5_padIsSetting_39 : decode cX5_padIsSetting 39 = .ok (.getfield 19, 3) := by decide +kernel
theorem dX5_padIsSetting_42 : decode cX5_padIsSetting 42 = .ok (.iconst 2, 1) := by decide +kernel
theorem dX5_padIsSetting_43 : decode cX5_padIsSetting 43 = .ok (.iload_n 2, 1) := by decide +kernel
theorem dX5_padIsSetting_44 : decode cX5_padIsSetting 44 = .ok (.imul, 1) := by decide +kernel
theorem dX5_padIsSetting_45 : decode cX5_padIsSetting 45 = .ok (.iconst 2, 1) := by decide +kernel
theorem dX5_padIsSetting_46 : decode cX5_padIsSetting 46 = .ok (.invokevirtual 197, 3) := by decide +kernel
theorem dX5_padIsSetting_49 : decode cX5_padIsSetting 49 = .ok (.ifCond .eq 19, 3) := by decide +kernel
theorem dX5_padIsSetting_52 : decode cX5_padIsSetting 52 = .ok (.aload_n 0, 1) := by decide +kernel
theorem dX5_padIsSetting_53 : decode cX5_padIsSetting 53 = .ok (.getfield 19, 3) := by decide +kernel
theorem dX5_padIsSetting_56 : decode cX5_padIsSetting 56 = .ok (.iconst 2, 1) := by decide +kernel
theorem dX5_padIsSetting_57 : decode cX5_padIsSetting 57 = .ok (.iload_n 2, 1) := by decide +kernel
theorem dX5_padIsSetting_58 : decode cX5_padIsSetting 58 = .ok (.imul, 1) := by decide +kernel
theorem dX5_padIsSetting_59 : decode cX5_padIsSetting 59 = .ok (.iconst 1, 1) := by decide +kernel
theorem dX5_padIsSetting_60 : decode cX5_padIsSetting 60 = .ok (.iadd, 1) := by decide +kernel
theorem dX5_padIsSetting_61 : decode cX5_padIsSetting 61 = .ok (.iconst 3, 1) := by decide +kernel
theorem dX5_padIsSetting_62 : decode cX5_padIsSetting 62 = .ok (.invokevirtual 197, 3) := by decide +kernel
theorem dX5_padIsSetting_65 : decode cX5_padIsSetting 65 = .ok (.ifCond .ne 5, 3) := by decide +kernel
theorem dX5_padIsSetting_68 : decode cX5_padIsSetting 68 = .ok (.iconst 0, 1) := by decide +kernel
theorem dX5_padIsSetting_69 : decode cX5_padIsSetting 69 = .ok (.ireturn, 1) := by decide +kernel
theorem dX5_padIsSetting_70 : decode cX5_padIsSetting 70 = .ok (.iinc 2 1, 3) := by decide +kernel
theorem dX5_padIsSetting_73 : decode cX5_padIsSetting 73 = .ok (.goto (-48), 3) := by decide +kernel
theorem dX5_padIsSetting_76 : decode cX5_padIsSetting 76 = .ok (.iconst 1, 1) := by decide +kernel
theorem dX5_padIsSetting_77 : decode cX5_padIsSetting 77 = .ok (.ireturn, 1) := by decide +kernel
set_option maxRecDepth 20000 in
theorem ggX5_image_X0_copyFrom : GoodIn wsX5_image wsX0_copyFrom := goodIn_r _ [8, 9, 10, 11, 12, 13, 14, 15, 16, 17, 18, 19, 27, 28, 29, 30, 31, 32, 33] (by decide +kernel) (by decide +kernel)
set_option maxRecDepth 20000 in
theorem gX5_image_X0_copyFrom : GoodIn wsX5_image (wsV RX5 200 RX0 yX0_copyFrom wsX0_copyFrom) := goodIn_app (goodIn_of _ (by decide +kernel)) ggX5_image_X0_copyFrom
theorem dX5_image_0 : decode cX5_image 0 = .ok (.iload_n 1, 1) := by decide +kernel
theorem dX5_image_1 : decode cX5_image 1 = .ok (.ifCond .lt 8, 3) := by decide +kernel
theorem dX5_image_4 : decode cX5_image 4 = .ok (.iload_n 1, 1) := by decide +kernel
theorem dX5_image_5 : decode cX5_image 5 = .ok (.iconst 2, 1) := by decide +kernel
theorem dX5_image_6 : decode cX5_image 6 = .ok (.if_icmp .lt 6, 3) := by decide +kernel
theorem dX5_image_9 : decode cX5_image 9 = .ok (.bipush (-2), 2) := by decide +kernel
theorem dX5_image_11 : decode cX5_image 11 = .ok (.ireturn, 1) := by decide +kernel
theorem dX5_image_12 : decode cX5_image 12 = .ok (.aload_n 0, 1) := by decide +kernel
theorem dX5_image_13 : decode cX5_image 13 = .ok (.getfield 44, 3) := by decide +kernel
theorem dX5_image_16 : decode cX5_image 16 = .ok (.iload_n 1, 1) := by decide +kernel
theorem dX5_image_17 : decode cX5_image 17 = .ok (.aaload, 1) := by decide +kernel
theorem dX5_image_18 : decode cX5_image 18 = .ok (.aload_n 0, 1) := by decide +kernel
theorem dX5_image_19 : decode cX5_image 19 = .ok (.getfield 10, 3) := by decide +kernel
theorem dX5_image_22 : decode cX5_image 22 = .ok (.invokevirtual 200, 3) := by decide +kernel
theorem dX5_image_25 : decode cX5_image 25 = .ok (.aload_n 0, 1) := by decide +kernel
theorem dX5_image_26 : decode cX5_image 26 = .ok (.dup, 1) := by decide +kernel
theorem dX5_image_27 : decode cX5_image 27 = .ok (.getfield 48, 3) := by decide +kernel
theorem dX5_image_30 : decode cX5_image 30 = .ok (.iconst 1, 1) := by decide +kernel
theorem dX5_image_31 : decode cX5_image 31 = .ok (.iload_n 1, 1) := by decide +kernel
theorem dX5_image_32 : decode cX5_image 32 = .ok (.ishl, 1) := by decide +kernel
theorem dX5_image_33 : decode cX5_image 33 = .ok (.ior, 1) := by decide +kernel
theorem dX5_image_34 : decode cX5_image 34 = .ok (.putfield 48, 3) := by decide +kernel
theorem dX5_image_37 : decode cX5_image 37 = .ok (.iconst 1, 1) := by decide +kernel
theorem dX5_image_38 : decode cX5_image 38 = .ok (.ireturn, 1) := by decide +kernel
set_option maxRecDepth 20000 in
theorem ggX5_restore_X0_copyFrom : GoodIn wsX5_restore wsX0_copyFrom := goodIn_r _ [8, 9, 10, 11, 12, 13, 14, 15, 16, 17, 18, 19, 27, 28, 29, 30, 31, 32, 33] (by decide +kernel) (by decide +kernel)
set_option maxRecDepth 20000 in
theorem gX5_restore_X0_copyFrom : GoodIn wsX5_restore (wsV RX5 200 RX0 yX0_copyFrom wsX0_copyFrom) := goodIn_app (goodIn_of _ (by decide +kernel)) ggX5_restore_X0_copyFrom
theorem dX5_restore_0 : decode cX5_restore 0 = .ok (.iload_n 1, 1) := by decide +kernel
theorem dX5_restore_1 : decode cX5_restore 1 = .ok (.ifCond .lt 8, 3) := by decide +kernel
theorem dX5_restore_4 : decode cX5_restore 4 = .ok (.iload_n 1, 1) := by decide +kernel
theorem dX5_restore_5 : decode cX5_restore 5 = .ok (.iconst 2, 1) := by decide +kernel
theorem dX5_restore_6 : decode cX5_restore 6 = .ok (.if_icmp .lt 6, 3) := by decide +kernel
theorem dX5_restore_9 : decode cX5_restore 9 = .ok (.bipush (-2), 2) := by decide +kernel
theorem dX5_restore_11 : decode cX5_restore 11 = .ok (.ireturn, 1) := by decide +kernel
theorem dX5_restore_12 : decode cX5_restore 12 = .ok (.aload_n 0, 1) := by decide +kernel
theorem dX5_restore_13 : decode cX5_restore 13 = .ok (.getfield 48, 3) := by decide +kernel
theorem dX5_restore_16 : decode cX5_restore 16 = .ok (.iconst 1, 1) := by decide +kernel
theorem dX5_restore_17 : decode cX5_restore 17 = .ok (.iload_n 1, 1) := by decide +kernel
theorem dX5_restore_18 : decode cX5_restore 18 = .ok (.ishl, 1) := by decide +kernel
theorem dX5_restore_19 : decode cX5_restore 19 = .ok (.iand, 1) := by decide +kernel
theorem dX5_restore_20 : decode cX5_restore 20 = .ok (.ifCond .ne 6, 3) := by decide +kernel
theorem dX5_restore_23 : decode cX5_restore 23 = .ok (.bipush (-3), 2) := by decide +kernel
theorem dX5_restore_25 : decode cX5_restore 25 = .ok (.ireturn, 1) := by decide +kernel
theorem dX5_restore_26 : decode cX5_restore 26 = .ok (.aload_n 0, 1) := by decide +kernel
theorem dX5_restore_27 : decode cX5_restore 27 = .ok (.getfield 10, 3) := by decide +kernel
theorem dX5_restore_30 : decode cX5_restore 30 = .ok (.aload_n 0, 1) := by decide +kernel
theorem dX5_restore_31 : decode cX5_restore 31 = .ok (.getfield 44, 3) := by decide +kernel
theorem dX5_restore_34 : decode cX5_restore 34 = .ok (.iload_n 1, 1) := by decide +kernel
theorem dX5_restore_35 : decode cX5_restore 35 = .ok (.aaload, 1) := by decide +kernel
theorem dX5_restore_36 : decode cX5_restore 36 = .ok (.invokevirtual 200, 3) := by decide +kernel
theorem dX5_restore_39 : decode cX5_restore 39 = .ok (.iconst 1, 1) := by decide +kernel
theorem dX5_restore_40 : decode cX5_restore 40 = .ok (.ireturn, 1) := by decide +kernel
set_option maxRecDepth 20000 in
theorem ggX5_count_X0_allBalloons : GoodIn wsX5_count wsX0_allBalloons := goodIn_r _ [11, 12, 13, 21, 22, 23, 24, 25, 26, 27] (by decide +kernel) (by decide +kernel)
set_option maxRecDepth 20000 in
theorem gX5_count_X0_allBalloons : GoodIn wsX5_count (wsV RX5 203 RX0 yX0_allBalloons wsX0_allBalloons) := goodIn_app (goodIn_of _ (by decide +kernel)) ggX5_count_X0_allBalloons
theorem dX5_count_0 : decode cX5_count 0 = .ok (.iload_n 1, 1) := by decide +kernel
theorem dX5_count_1 : decode cX5_count 1 = .ok (.tableswitch 72 0 4 #[35, 43, 51, 59, 67], 35) := by decide +kernel
theorem dX5_count_36 : decode cX5_count 36 = .ok (.aload_n 0, 1) := by decide +kernel
theorem dX5_count_37 : decode cX5_count 37 = .ok (.getfield 10, 3) := by decide +kernel
theorem dX5_count_40 : decode cX5_count 40 = .ok (.getfield 56, 3) := by decide +kernel
theorem dX5_count_43 : decode cX5_count 43 = .ok (.ireturn, 1) := by decide +kernel
theorem dX5_count_44 : decode cX5_count 44 = .ok (.aload_n 0, 1) := by decide +kernel
theorem dX5_count_45 : decode cX5_count 45 = .ok (.getfield 10, 3) := by decide +kernel
theorem dX5_count_48 : decode cX5_count 48 = .ok (.getfield 80, 3) := by decide +kernel
theorem dX5_count_51 : decode cX5_count 51 = .ok (.ireturn, 1) := by decide +kernel
theorem dX5_count_52 : decode cX5_count 52 = .ok (.aload_n 0, 1) := by decide +kernel
theorem dX5_count_53 : decode cX5_count 53 = .ok (.getfield 19, 3) := by decide +kernel
theorem dX5_count_56 : decode cX5_count 56 = .ok (.getfield 93, 3) := by decide +kernel
theorem dX5_count_59 : decode cX5_count 59 = .ok (.ireturn, 1) := by decide +kernel
theorem dX5_count_60 : decode cX5_count 60 = .ok (.aload_n 0, 1) := by decide +kernel
theorem dX5_count_61 : decode cX5_count 61 = .ok (.getfield 10, 3) := by decide +kernel
theorem dX5_count_64 : decode cX5_count 64 = .ok (.invokevirtual 203, 3) := by decide +kernel
theorem dX5_count_67 : decode cX5_count 67 = .ok (.ireturn, 1) := by decide +kernel
theorem dX5_count_68 : decode cX5_count 68 = .ok (.aload_n 0, 1) := by decide +kernel
theorem dX5_count_69 : decode cX5_count 69 = .ok (.getfield 48, 3) := by decide +kernel
theorem dX5_count_72 : decode cX5_count 72 = .ok (.ireturn, 1) := by decide +kernel
theorem dX5_count_73 : decode cX5_count 73 = .ok (.bipush (-2), 2) := by decide +kernel
theorem dX5_count_75 : decode cX5_count 75 = .ok (.ireturn, 1) := by decide +kernel
theorem dX6_init_0 : decode cX6_init 0 = .ok (.aload_n 0, 1) := by decide +kernel
theorem dX6_init_1 : decode cX6_init 1 = .ok (.invokespecial 1, 3) := by decide +kernel
theorem dX6_init_4 : decode cX6_init 4 = .ok (.aload_n 0, 1) := by decide +kernel
theorem dX6_init_5 : decode cX6_init 5 = .ok (.bipush 74, 2) := by decide +kernel
theorem dX6_init_7 : decode cX6_init 7 = .ok (.newarray .int, 2) := by decide +kernel
theorem dX6_init_9 : decode cX6_init 9 = .ok (.putfield 7, 3) := by decide +kernel
theorem dX6_init_12 : decode cX6_init 12 = .ok (.aload_n 0, 1) := by decide +kernel
theorem dX6_init_13 : decode cX6_init 13 = .ok (.sipush 148, 3) := by decide +kernel
theorem dX6_init_16 : decode cX6_init 16 = .ok (.newarray .int, 2) := by decide +kernel
theorem dX6_init_18 : decode cX6_init 18 = .ok (.putfield 13, 3) := by decide +kernel
theorem dX6_init_21 : decode cX6_init 21 = .ok (.aload_n 0, 1) := by decide +kernel
theorem dX6_init_22 : decode cX6_init 22 = .ok (.iconst 2, 1) := by decide +kernel
theorem dX6_init_23 : decode cX6_init 23 = .ok (.newarray .boolean, 2) := by decide +kernel
theorem dX6_init_25 : decode cX6_init 25 = .ok (.putfield 16, 3) := by decide +kernel
theorem dX6_init_28 : decode cX6_init 28 = .ok (.aload_n 0, 1) := by decide +kernel
theorem dX6_init_29 : decode cX6_init 29 = .ok (.bipush 9, 2) := by decide +kernel
theorem dX6_init_31 : decode cX6_init 31 = .ok (.newarray .int, 2) := by decide +kernel
theorem dX6_init_33 : decode cX6_init 33 = .ok (.putfield 20, 3) := by decide +kernel
theorem dX6_init_36 : decode cX6_init 36 = .ok (.aload_n 0, 1) := by decide +kernel
theorem dX6_init_37 : decode cX6_init 37 = .ok (.iconst 4, 1) := by decide +kernel
theorem dX6_init_38 : decode cX6_init 38 = .ok (.newarray .int, 2) := by decide +kernel
theorem dX6_init_40 : decode cX6_init 40 = .ok (.putfield 23, 3) := by decide +kernel
theorem dX6_init_43 : decode cX6_init 43 = .ok (.aload_n 0, 1) := by decide +kernel
theorem dX6_init_44 : decode cX6_init 44 = .ok (.iconst 4, 1) := by decide +kernel
theorem dX6_init_45 : decode cX6_init 45 = .ok (.newarray .int, 2) := by decide +kernel
theorem dX6_init_47 : decode cX6_init 47 = .ok (.putfield 26, 3) := by decide +kernel
theorem dX6_init_50 : decode cX6_init 50 = .ok (.aload_n 0, 1) := by decide +kernel
theorem dX6_init_51 : decode cX6_init 51 = .ok (.bipush 9, 2) := by decide +kernel
theorem dX6_init_53 : decode cX6_init 53 = .ok (.newarray .int, 2) := by decide +kernel
theorem dX6_init_55 : decode cX6_init 55 = .ok (.putfield 29, 3) := by decide +kernel
theorem dX6_init_58 : decode cX6_init 58 = .ok (.aload_n 0, 1) := by decide +kernel
theorem dX6_init_59 : decode cX6_init 59 = .ok (.bipush 9, 2) := by decide +kernel
theorem dX6_init_61 : decode cX6_init 61 = .ok (.newarray .int, 2) := by decide +kernel
theorem dX6_init_63 : decode cX6_init 63 = .ok (.putfield 32, 3) := by decide +kernel
theorem dX6_init_66 : decode cX6_init 66 = .ok (.aload_n 0, 1) := by decide +kernel
theorem dX6_init_67 : decode cX6_init 67 = .ok (.bipush 9, 2) := by decide +kernel
theorem dX6_init_69 : decode cX6_init 69 = .ok (.newarray .int, 2) := by decide +kernel
theorem dX6_init_71 : decode cX6_init 71 = .ok (.putfield 35, 3) := by decide +kernel
theorem dX6_init_74 : decode cX6_init 74 = .ok (.aload_n 0, 1) := by decide +kernel
theorem dX6_init_75 : decode cX6_init 75 = .ok (.bipush 9, 2) := by decide +kernel
theorem dX6_init_77 : decode cX6_init 77 = .ok (.newarray .int, 2) := by decide +kernel
theorem dX6_init_79 : decode cX6_init 79 = .ok (.putfield 38, 3) := by decide +kernel
theorem dX6_init_82 : decode cX6_init 82 = .ok (.aload_n 0, 1) := by decide +kernel
theorem dX6_init_83 : decode cX6_init 83 = .ok (.iconst 4, 1) := by decide +kernel
theorem dX6_init_84 : decode cX6_init 84 = .ok (.newarray .int, 2) := by decide +kernel
theorem dX6_init_86 : decode cX6_init 86 = .ok (.putfield 41, 3) := by decide +kernel
theorem dX6_init_89 : decode cX6_init 89 = .ok (.aload_n 0, 1) := by decide +kernel
theorem dX6_init_90 : decode cX6_init 90 = .ok (.iconst 4, 1) := by decide +kernel
theorem dX6_init_91 : decode cX6_init 91 = .ok (.newarray .int, 2) := by decide +kernel
theorem dX6_init_93 : decode cX6_init 93 = .ok (.putfield 44, 3) := by decide +kernel
theorem dX6_init_96 : decode cX6_init 96 = .ok (.aload_n 0, 1) := by decide +kernel
theorem dX6_init_97 : decode cX6_init 97 = .ok (.getfield 7, 3) := by decide +kernel
theorem dX6_init_100 : decode cX6_init 100 = .ok (.bipush 73, 2) := by decide +kernel
theorem dX6_init_102 : decode cX6_init 102 = .ok (.bipush 10, 2) := by decide +kernel
theorem dX6_init_104 : decode cX6_init 104 = .ok (.iastore, 1) := by decide +kernel
theorem dX6_init_105 : decode cX6_init 105 = .ok (.return_, 1) := by decide +kernel
theorem dX6_in_0 : decode cX6_in 0 = .ok (.iload_n 0, 1) := by decide +kernel
theorem dX6_in_1 : decode cX6_in 1 = .ok (.iload_n 1, 1) := by decide +kernel
theorem dX6_in_2 : decode cX6_in 2 = .ok (.if_icmp .lt 12, 3) := by decide +kernel
theorem dX6_in_5 : decode cX6_in 5 = .ok (.iload_n 0, 1) := by decide +kernel
theorem dX6_in_6 : decode cX6_in 6 = .ok (.iload_n 2, 1) := by decide +kernel
theorem dX6_in_7 : decode cX6_in 7 = .ok (.if_icmp .gt 7, 3) := by decide +kernel
theorem dX6_in_10 : decode cX6_in 10 = .ok (.iconst 1, 1) := by decide +kernel
theorem dX6_in_11 : decode cX6_in 11 = .ok (.goto 4, 3) := by decide +kernel
theorem dX6_in_14 : decode cX6_in 14 = .ok (.iconst 0, 1) := by decide +kernel
theorem dX6_in_15 : decode cX6_in 15 = .ok (.ireturn, 1) := by decide +kernel
theorem dX6_many_0 : decode cX6_many 0 = .ok (.aload_n 0, 1) := by decide +kernel
theorem dX6_many_1 : decode cX6_many 1 = .ok (.getfield 7, 3) := by decide +kernel
theorem dX6_many_4 : decode cX6_many 4 = .ok (.bipush 72, 2) := by decide +kernel
theorem dX6_many_6 : decode cX6_many 6 = .ok (.iaload, 1) := by decide +kernel
theorem dX6_many_7 : decode cX6_many 7 = .ok (.ireturn, 1) := by decide +kernel
set_option maxRecDepth 20000 in
theorem ggX6_isPanel_X6_many : GoodIn wsX6_isPanel wsX6_many := goodIn_r _ [5, 6, 10, 11, 12, 13, 14, 15, 16, 17, 18, 19, 20, 21, 22, 23, 24, 25, 26, 27, 28, 29, 30, 31, 32, 33, 34, 35, 36, 37, 38] (by decide +kernel) (by decide +kernel)
set_option maxRecDepth 20000 in
theorem gX6_isPanel_X6_many : GoodIn wsX6_isPanel (wsV RX6 47 RX6 yX6_many wsX6_many) := goodIn_app (goodIn_of _ (by decide +kernel)) ggX6_isPanel_X6_many
set_option maxRecDepth 20000 in
theorem ggX6_isPanel_X6_in : GoodIn wsX6_isPanel wsX6_in := goodIn_r _ [9] (by decide +kernel) (by decide +kernel)
set_option maxRecDepth 20000 in
theorem gX6_isPanel_X6_in : GoodIn wsX6_isPanel (va_wsS RX6 51 yX6_in wsX6_in) := goodIn_app (goodIn_of _ (by decide +kernel)) ggX6_isPanel_X6_in
theorem dX6_isPanel_0 : decode cX6_isPanel 0 = .ok (.iload_n 1, 1) := by decide +kernel
theorem dX6_isPanel_1 : decode cX6_isPanel 1 = .ok (.iconst 0, 1) := by decide +kernel
theorem dX6_isPanel_2 : decode cX6_isPanel 2 = .ok (.aload_n 0, 1) := by decide +kernel
theorem dX6_isPanel_3 : decode cX6_isPanel 3 = .ok (.invokevirtual 47, 3) := by decide +kernel
theorem dX6_isPanel_6 : decode cX6_isPanel 6 = .ok (.iconst 1, 1) := by decide +kernel
theorem dX6_isPanel_7 : decode cX6_isPanel 7 = .ok (.isub, 1) := by decide +kernel
theorem dX6_isPanel_8 : decode cX6_isPanel 8 = .ok (.invokestatic 51, 3) := by decide +kernel
theorem dX6_isPanel_11 : decode cX6_isPanel 11 = .ok (.ireturn, 1) := by decide +kernel
set_option maxRecDepth 20000 in
theorem ggX6_fits_X6_in : GoodIn wsX6_fits wsX6_in := goodIn_r _ [4] (by decide +kernel) (by decide +kernel)
set_option maxRecDepth 20000 in
theorem gX6_fits_X6_in : GoodIn wsX6_fits (va_wsS RX6 51 yX6_in wsX6_in) := goodIn_app (goodIn_of _ (by decide +kernel)) ggX6_fits_X6_in
theorem dX6_fits_0 : decode cX6_fits 0 = .ok (.iload_n 0, 1) := by decide +kernel
theorem dX6_fits_1 : decode cX6_fits 1 = .ok (.ifCond .ne 13, 3) := by decide +kernel
theorem dX6_fits_4 : decode cX6_fits 4 = .ok (.iload_n 1, 1) := by decide +kernel
theorem dX6_fits_5 : decode cX6_fits 5 = .ok (.iconst 1, 1) := by decide +kernel
theorem dX6_fits_6 : decode cX6_fits 6 = .ok (.bipush 9, 2) := by decide +kernel
theorem dX6_fits_8 : decode cX6_fits 8 = .ok (.invokestatic 51, 3) := by decide +kernel
theorem dX6_fits_11 : decode cX6_fits 11 = .ok (.goto 24, 3) := by decide +kernel
theorem dX6_fits_14 : decode cX6_fits 14 = .ok (.iload_n 0, 1) := by decide +kernel
theorem dX6_fits_15 : decode cX6_fits 15 = .ok (.iconst 1, 1) := by decide +kernel
theorem dX6_fits_16 : decode cX6_fits 16 = .ok (.if_icmp .ne 13, 3) := by decide +kernel
theorem dX6_fits_19 : decode cX6_fits 19 = .ok (.iload_n 1, 1) := by decide +kernel
theorem dX6_fits_20 : decode cX6_fits 20 = .ok (.iconst 1, 1) := by decide +kernel
theorem dX6_fits_21 : decode cX6_fits 21 = .ok (.bipush 6, 2) := by decide +kernel
theorem dX6_fits_23 : decode cX6_fits 23 = .ok (.invokestatic 51, 3) := by decide +kernel
theorem dX6_fits_26 : decode cX6_fits 26 = .ok (.goto 9, 3) := by decide +kernel
theorem dX6_fits_29 : decode cX6_fits 29 = .ok (.iload_n 1, 1) := by decide +kernel
theorem dX6_fits_30 : decode cX6_fits 30 = .ok (.iconst 0, 1) := by decide +kernel
theorem dX6_fits_31 : decode cX6_fits 31 = .ok (.iconst 3, 1) := by decide +kernel
theorem dX6_fits_32 : decode cX6_fits 32 = .ok (.invokestatic 51, 3) := by decide +kernel
theorem dX6_fits_35 : decode cX6_fits 35 = .ok (.ireturn, 1) := by decide +kernel
set_option maxRecDepth 20000 in
theorem ggX6_panel_X6_fits : GoodIn wsX6_panel wsX6_fits := goodIn_r _ [5, 6, 7, 4, 8] (by decide +kernel) (by decide +kernel)
set_option maxRecDepth 20000 in
theorem gX6_panel_X6_fits : GoodIn wsX6_panel (va_wsS RX6 55 yX6_fits wsX6_fits) := goodIn_app (goodIn_of _ (by decide +kernel)) ggX6_panel_X6_fits
set_option maxRecDepth 20000 in
theorem ggX6_panel_X6_many : GoodIn wsX6_panel wsX6_many := goodIn_r _ [12, 1, 13, 14, 15, 16, 17, 18, 19, 20, 21, 22, 23, 24, 25, 26, 27, 28, 29, 30, 31, 32, 33, 34, 35, 36, 37, 38, 39, 40, 41] (by decide +kernel) (by decide +kernel)
set_option maxRecDepth 20000 in
theorem gX6_panel_X6_many : GoodIn wsX6_panel (wsV RX6 47 RX6 yX6_many wsX6_many) := goodIn_app (goodIn_of _ (by decide +kernel)) ggX6_panel_X6_many
theorem dX6_panel_0 : decode cX6_panel 0 = .ok (.iconst 0, 1) := by decide +kernel
theorem dX6_panel_1 : decode cX6_panel 1 = .ok (.iload_n 1, 1) := by decide +kernel
theorem dX6_panel_2 : decode cX6_panel 2 = .ok (.invokestatic 55, 3) := by decide +kernel
theorem dX6_panel_5 : decode cX6_panel 5 = .ok (.ifCond .eq 19, 3) := by decide +kernel
theorem dX6_panel_8 : decode cX6_panel 8 = .ok (.iconst 1, 1) := by decide +kernel
theorem dX6_panel_9 : decode cX6_panel 9 = .ok (.iload_n 2, 1) := by decide +kernel
theorem dX6_panel_10 : decode cX6_panel 10 = .ok (.invokestatic 55, 3) := by decide +kernel
theorem dX6_panel_13 : decode cX6_panel 13 = .ok (.ifCond .eq 11, 3) := by decide +kernel
theorem dX6_panel_16 : decode cX6_panel 16 = .ok (.iconst 2, 1) := by decide +kernel
theorem dX6_panel_17 : decode cX6_panel 17 = .ok (.iload_n 3, 1) := by decide +kernel
theorem dX6_panel_18 : decode cX6_panel 18 = .ok (.invokestatic 55, 3) := by decide +kernel
theorem dX6_panel_21 : decode cX6_panel 21 = .ok (.ifCond .ne 6, 3) := by decide +kernel
theorem dX6_panel_24 : decode cX6_panel 24 = .ok (.bipush (-2), 2) := by decide +kernel
theorem dX6_panel_26 : decode cX6_panel 26 = .ok (.ireturn, 1) := by decide +kernel
theorem dX6_panel_27 : decode cX6_panel 27 = .ok (.aload_n 0, 1) := by decide +kernel
theorem dX6_panel_28 : decode cX6_panel 28 = .ok (.invokevirtual 47, 3) := by decide +kernel
theorem dX6_panel_31 : decode cX6_panel 31 = .ok (.istore 4, 2) := by decide +kernel
theorem dX6_panel_33 : decode cX6_panel 33 = .ok (.iload 4, 2) := by decide +kernel
theorem dX6_panel_35 : decode cX6_panel 35 = .ok (.bipush 9, 2) := by decide +kernel
theorem dX6_panel_37 : decode cX6_panel 37 = .ok (.if_icmp .ne 6, 3) := by decide +kernel
theorem dX6_panel_40 : decode cX6_panel 40 = .ok (.bipush (-4), 2) := by decide +kernel
theorem dX6_panel_42 : decode cX6_panel 42 = .ok (.ireturn, 1) := by decide +kernel
theorem dX6_panel_43 : decode cX6_panel 43 = .ok (.aload_n 0, 1) := by decide +kernel
theorem dX6_panel_44 : decode cX6_panel 44 = .ok (.getfield 7, 3) := by decide +kernel
theorem dX6_panel_47 : decode cX6_panel 47 = .ok (.iconst 0, 1) := by decide +kernel
theorem dX6_panel_48 : decode cX6_panel 48 = .ok (.iload 4, 2) := by decide +kernel
theorem dX6_panel_50 : decode cX6_panel 50 = .ok (.iadd, 1) := by decide +kernel
theorem dX6_panel_51 : decode cX6_panel 51 = .ok (.iload_n 1, 1) := by decide +kernel
theorem dX6_panel_52 : decode cX6_panel 52 = .ok (.iastore, 1) := by decide +kernel
theorem dX6_panel_53 : decode cX6_panel 53 = .ok (.aload_n 0, 1) := by decide +kernel
theorem dX6_panel_54 : decode cX6_panel 54 = .ok (.getfield 7, 3) := by decide +kernel
theorem dX6_panel_57 : decode cX6_panel 57 = .ok (.bipush 9, 2) := by decide +kernel
theorem dX6_panel_59 : decode cX6_panel 59 = .ok (.iload 4, 2) := by decide +kernel
theorem dX6_panel_61 : decode cX6_panel 61 = .ok (.iadd, 1) := by decide +kernel
theorem dX6_panel_62 : decode cX6_panel 62 = .ok (.iload_n 2, 1) := by decide +kernel
theorem dX6_panel_63 : decode cX6_panel 63 = .ok (.iastore, 1) := by decide +kernel
theorem dX6_panel_64 : decode cX6_panel 64 = .ok (.aload_n 0, 1) := by decide +kernel
theorem dX6_panel_65 : decode cX6_panel 65 = .ok (.getfield 7, 3) := by decide +kernel
theorem dX6_panel_68 : decode cX6_panel 68 = .ok (.bipush 18, 2) := by decide +kernel
theorem dX6_panel_70 : decode cX6_panel 70 = .ok (.iload 4, 2) := by decide +kernel
theorem dX6_panel_72 : decode cX6_panel 72 = .ok (.iadd, 1) := by decide +kernel
theorem dX6_panel_73 : decode cX6_panel 73 = .ok (.iload_n 3, 1) := by decide +kernel
theorem dX6_panel_74 : decode cX6_panel 74 = .ok (.iastore, 1) := by decide +kernel
theorem dX6_panel_75 : decode cX6_panel 75 = .ok (.aload_n 0, 1) := by decide +kernel
theorem dX6_panel_76 : decode cX6_panel 76 = .ok (.getfield 7, 3) := by decide +kernel
theorem dX6_panel_79 : decode cX6_panel 79 = .ok (.bipush 27, 2) := by decide +kernel
theorem dX6_panel_81 : decode cX6_panel 81 = .ok (.iload 4, 2) := by decide +kernel
theorem dX6_panel_83 : decode cX6_panel 83 = .ok (.iadd, 1) := by decide +kernel
theorem dX6_panel_84 : decode cX6_panel 84 = .ok (.iconst 0, 1) := by decide +kernel
theorem dX6_panel_85 : decode cX6_panel 85 = .ok (.iastore, 1) := by decide +kernel
theorem dX6_panel_86 : decode cX6_panel 86 = .ok (.aload_n 0, 1) := by decide +kernel
theorem dX6_panel_87 : decode cX6_panel 87 = .ok (.getfield 7, 3) := by decide +kernel
theorem dX6_panel_90 : decode cX6_panel 90 = .ok (.bipush 72, 2) := by decide +kernel
theorem dX6_panel_92 : decode cX6_panel 92 = .ok (.dup2, 1) := by decide +kernel
theorem dX6_panel_93 : decode cX6_panel 93 = .ok (.iaload, 1) := by decide +kernel
theorem dX6_panel_94 : decode cX6_panel 94 = .ok (.iconst 1, 1) := by decide +kernel
theorem dX6_panel_95 : decode cX6_panel 95 = .ok (.iadd, 1) := by decide +kernel
theorem dX6_panel_96 : decode cX6_panel 96 = .ok (.iastore, 1) := by decide +kernel
theorem dX6_panel_97 : decode cX6_panel 97 = .ok (.iload 4, 2) := by decide +kernel
theorem dX6_panel_99 : decode cX6_panel 99 = .ok (.ireturn, 1) := by decide +kernel
set_option maxRecDepth 20000 in
theorem ggX6_pop_X6_many : GoodIn wsX6_pop wsX6_many := goodIn_r _ [6, 1, 7, 8, 9, 10, 11, 12, 13, 14, 15, 16, 17, 18, 19, 20, 21, 22, 23, 24, 25, 26, 27, 28, 29, 30, 31, 32, 33, 34, 35] (by decide +kernel) (by decide +kernel)
set_option maxRecDepth 20000 in
theorem gX6_pop_X6_many : GoodIn wsX6_pop (wsV RX6 47 RX6 yX6_many wsX6_many) := goodIn_app (goodIn_of _ (by decide +kernel)) ggX6_pop_X6_many
theorem dX6_pop_0 : decode cX6_pop 0 = .ok (.aload_n 0, 1) := by decide +kernel
theorem dX6_pop_1 : decode cX6_pop 1 = .ok (.invokevirtual 47, 3) := by decide +kernel
theorem dX6_pop_4 : decode cX6_pop 4 = .ok (.ifCond .ne 6, 3) := by decide +kernel
theorem dX6_pop_7 : decode cX6_pop 7 = .ok (.bipush (-5), 2) := by decide +kernel
theorem dX6_pop_9 : decode cX6_pop 9 = .ok (.ireturn, 1) := by decide +kernel
theorem dX6_pop_10 : decode cX6_pop 10 = .ok (.aload_n 0, 1) := by decide +kernel
theorem dX6_pop_11 : decode cX6_pop 11 = .ok (.getfield 7, 3) := by decide +kernel
theorem dX6_pop_14 : decode cX6_pop 14 = .ok (.bipush 72, 2) := by decide +kernel
theorem dX6_pop_16 : decode cX6_pop 16 = .ok (.dup2, 1) := by decide +kernel
theorem dX6_pop_17 : decode cX6_pop 17 = .ok (.iaload, 1) := by decide +kernel
theorem dX6_pop_18 : decode cX6_pop 18 = .ok (.iconst 1, 1) := by decide +kernel
theorem dX6_pop_19 : decode cX6_pop 19 = .ok (.isub, 1) := by decide +kernel
theorem dX6_pop_20 : decode cX6_pop 20 = .ok (.iastore, 1) := by decide +kernel
theorem dX6_pop_21 : decode cX6_pop 21 = .ok (.aload_n 0, 1) := by decide +kernel
theorem dX6_pop_22 : decode cX6_pop 22 = .ok (.getfield 7, 3) := by decide +kernel
theorem dX6_pop_25 : decode cX6_pop 25 = .ok (.bipush 27, 2) := by decide +kernel
theorem dX6_pop_27 : decode cX6_pop 27 = .ok (.aload_n 0, 1) := by decide +kernel
theorem dX6_pop_28 : decode cX6_pop 28 = .ok (.invokevirtual 47, 3) := by decide +kernel
theorem dX6_pop_31 : decode cX6_pop 31 = .ok (.iadd, 1) := by decide +kernel
theorem dX6_pop_32 : decode cX6_pop 32 = .ok (.iconst 0, 1) := by decide +kernel
theorem dX6_pop_33 : decode cX6_pop 33 = .ok (.iastore, 1) := by decide +kernel
theorem dX6_pop_34 : decode cX6_pop 34 = .ok (.aload_n 0, 1) := by decide +kernel
theorem dX6_pop_35 : decode cX6_pop 35 = .ok (.invokevirtual 47, 3) := by decide +kernel
theorem dX6_pop_38 : decode cX6_pop 38 = .ok (.ireturn, 1) := by decide +kernel
set_option maxRecDepth 20000 in
theorem ggX6_change_X6_isPanel : GoodIn wsX6_change wsX6_isPanel := goodIn_r _ [6, 7, 8, 9, 5, 10, 1, 11, 12, 13, 17, 18, 19, 20, 21, 22, 23, 24, 25, 26, 27, 28, 29, 30, 31, 32, 33, 34, 35, 36, 37, 38, 39, 40, 41, 42, 43, 44, 45] (by decide +kernel) (by decide +kernel)
set_option maxRecDepth 20000 in
theorem gX6_change_X6_isPanel : GoodIn wsX6_change (wsV RX6 59 RX6 yX6_isPanel wsX6_isPanel) := goodIn_app (goodIn_of _ (by decide +kernel)) ggX6_change_X6_isPanel
set_option maxRecDepth 20000 in
theorem ggX6_change_X6_in : GoodIn wsX6_change wsX6_in := goodIn_r _ [13] (by decide +kernel) (by decide +kernel)
set_option maxRecDepth 20000 in
theorem gX6_change_X6_in : GoodIn wsX6_change (va_wsS RX6 51 yX6_in wsX6_in) := goodIn_app (goodIn_of _ (by decide +kernel)) ggX6_change_X6_in
set_option maxRecDepth 20000 in
theorem ggX6_change_X6_fits : GoodIn wsX6_change wsX6_fits := goodIn_r _ [16, 11, 12, 5, 13] (by decide +kernel) (by decide +kernel)
set_option maxRecDepth 20000 in
theorem gX6_change_X6_fits : GoodIn wsX6_change (va_wsS RX6 55 yX6_fits wsX6_fits) := goodIn_app (goodIn_of _ (by decide +kernel)) ggX6_change_X6_fits
theorem dX6_change_0 : decode cX6_change 0 = .ok (.aload_n 0, 1) := by decide +kernel
theorem dX6_change_1 : decode cX6_change 1 = .ok (.iload_n 1, 1) := by decide +kernel
theorem dX6_change_2 : decode cX6_change 2 = .ok (.invokevirtual 59, 3) := by decide +kernel
theorem dX6_change_5 : decode cX6_change 5 = .ok (.ifCond .ne 5, 3) := by decide +kernel
theorem dX6_change_8 : decode cX6_change 8 = .ok (.iconst (-1), 1) := by decide +kernel
theorem dX6_change_9 : decode cX6_change 9 = .ok (.ireturn, 1) := by decide +kernel
theorem dX6_change_10 : decode cX6_change 10 = .ok (.iload_n 2, 1) := by decide +kernel
theorem dX6_change_11 : decode cX6_change 11 = .ok (.iconst 0, 1) := by decide +kernel
theorem dX6_change_12 : decode cX6_change 12 = .ok (.iconst 2, 1) := by decide +kernel
theorem dX6_change_13 : decode cX6_change 13 = .ok (.invokestatic 51, 3) := by decide +kernel
theorem dX6_change_16 : decode cX6_change 16 = .ok (.ifCond .eq 11, 3) := by decide +kernel
theorem dX6_change_19 : decode cX6_change 19 = .ok (.iload_n 2, 1) := by decide +kernel
theorem dX6_change_20 : decode cX6_change 20 = .ok (.iload_n 3, 1) := by decide +kernel
theorem dX6_change_21 : decode cX6_change 21 = .ok (.invokestatic 55, 3) := by decide +kernel
theorem dX6_change_24 : decode cX6_change 24 = .ok (.ifCond .ne 6, 3) := by decide +kernel
theorem dX6_change_27 : decode cX6_change 27 = .ok (.bipush (-2), 2) := by decide +kernel
theorem dX6_change_29 : decode cX6_change 29 = .ok (.ireturn, 1) := by decide +kernel
theorem dX6_change_30 : decode cX6_change 30 = .ok (.aload_n 0, 1) := by decide +kernel
theorem dX6_change_31 : decode cX6_change 31 = .ok (.getfield 7, 3) := by decide +kernel
theorem dX6_change_34 : decode cX6_change 34 = .ok (.bipush 9, 2) := by decide +kernel
theorem dX6_change_36 : decode cX6_change 36 = .ok (.iload_n 2, 1) := by decide +kernel
theorem dX6_change_37 : decode cX6_change 37 = .ok (.imul, 1) := by decide +kernel
theorem dX6_change_38 : decode cX6_change 38 = .ok (.iload_n 1, 1) := by decide +kernel
theorem dX6_change_39 : decode cX6_change 39 = .ok (.iadd, 1) := by decide +kernel
theorem dX6_change_40 : decode cX6_change 40 = .ok (.iaload, 1) := by decide +kernel
theorem dX6_change_41 : decode cX6_change 41 = .ok (.istore 4, 2) := by decide +kernel
theorem dX6_change_43 : decode cX6_change 43 = .ok (.aload_n 0, 1) := by decide +kernel
theorem dX6_change_44 : decode cX6_change 44 = .ok (.getfield 7, 3) := by decide +kernel
theorem dX6_change_47 : decode cX6_change 47 = .ok (.bipush 9, 2) := by decide +kernel
theorem dX6_change_49 : decode cX6_change 49 = .ok (.iload_n 2, 1) := by decide +kernel
theorem dX6_change_50 : decode cX6_change 50 = .ok (.imul, 1) := by decide +kernel
theorem dX6_change_51 : decode cX6_change 51 = .ok (.iload_n 1, 1) := by decide +kernel
theorem dX6_change_52 : decode cX6_change 52 = .ok (.iadd, 1) := by decide +kernel
theorem dX6_change_53 : decode cX6_change 53 = .ok (.iload_n 3, 1) := by decide +kernel
theorem dX6_change_54 : decode cX6_change 54 = .ok (.iastore, 1) := by decide +kernel
theorem dX6_change_55 : decode cX6_change 55 = .ok (.iload 4, 2) := by decide +kernel
theorem dX6_change_57 : decode cX6_change 57 = .ok (.ireturn, 1) := by decide +kernel
set_option maxRecDepth 20000 in
theorem ggX6_high_X6_in : GoodIn wsX6_high wsX6_in := goodIn_r _ [5] (by decide +kernel) (by decide +kernel)
set_option maxRecDepth 20000 in
theorem gX6_high_X6_in : GoodIn wsX6_high (va_wsS RX6 51 yX6_in wsX6_in) := goodIn_app (goodIn_of _ (by decide +kernel)) ggX6_high_X6_in
theorem dX6_high_0 : decode cX6_high 0 = .ok (.iload_n 1, 1) := by decide +kernel
theorem dX6_high_1 : decode cX6_high 1 = .ok (.bipush 6, 2) := by decide +kernel
theorem dX6_high_3 : decode cX6_high 3 = .ok (.bipush 20, 2) := by decide +kernel
theorem dX6_high_5 : decode cX6_high 5 = .ok (.invokestatic 51, 3) := by decide +kernel
theorem dX6_high_8 : decode cX6_high 8 = .ok (.ifCond .ne 6, 3) := by decide +kernel
theorem dX6_high_11 : decode cX6_high 11 = .ok (.bipush (-2), 2) := by decide +kernel
theorem dX6_high_13 : decode cX6_high 13 = .ok (.ireturn, 1) := by decide +kernel
theorem dX6_high_14 : decode cX6_high 14 = .ok (.aload_n 0, 1) := by decide +kernel
theorem dX6_high_15 : decode cX6_high 15 = .ok (.getfield 7, 3) := by decide +kernel
theorem dX6_high_18 : decode cX6_high 18 = .ok (.bipush 73, 2) := by decide +kernel
theorem dX6_high_20 : decode cX6_high 20 = .ok (.iaload, 1) := by decide +kernel
theorem dX6_high_21 : decode cX6_high 21 = .ok (.istore_n 2, 1) := by decide +kernel
theorem dX6_high_22 : decode cX6_high 22 = .ok (.aload_n 0, 1) := by decide +kernel
theorem dX6_high_23 : decode cX6_high 23 = .ok (.getfield 7, 3) := by decide +kernel
theorem dX6_high_26 : decode cX6_high 26 = .ok (.bipush 73, 2) := by decide +kernel
theorem dX6_high_28 : decode cX6_high 28 = .ok (.iload_n 1, 1) := by decide +kernel
theorem dX6_high_29 : decode cX6_high 29 = .ok (.iastore, 1) := by decide +kernel
theorem dX6_high_30 : decode cX6_high 30 = .ok (.iload_n 2, 1) := by decide +kernel
theorem dX6_high_31 : decode cX6_high 31 = .ok (.ireturn, 1) := by decide +kernel
set_option maxRecDepth 20000 in
theorem ggX6_of_X6_isPanel : GoodIn wsX6_of wsX6_isPanel := goodIn_r _ [6, 7, 8, 9, 5, 10, 1, 11, 12, 13, 14, 15, 16, 17, 18, 19, 20, 21, 22, 23, 24, 25, 26, 27, 28, 29, 30, 31, 32, 33, 34, 35, 36, 37, 38, 39, 40, 41, 42] (by decide +kernel) (by decide +kernel)
set_option maxRecDepth 20000 in
theorem gX6_of_X6_isPanel : GoodIn wsX6_of (wsV RX6 59 RX6 yX6_isPanel wsX6_isPanel) := goodIn_app (goodIn_of _ (by decide +kernel)) ggX6_of_X6_isPanel
set_option maxRecDepth 20000 in
theorem ggX6_of_X6_in : GoodIn wsX6_of wsX6_in := goodIn_r _ [13] (by decide +kernel) (by decide +kernel)
set_option maxRecDepth 20000 in
theorem gX6_of_X6_in : GoodIn wsX6_of (va_wsS RX6 51 yX6_in wsX6_in) := goodIn_app (goodIn_of _ (by decide +kernel)) ggX6_of_X6_in
theorem dX6_of_0 : decode cX6_of 0 = .ok (.aload_n 0, 1) := by decide +kernel
theorem dX6_of_1 : decode cX6_of 1 = .ok (.iload_n 1, 1) := by decide +kernel
theorem dX6_of_2 : decode cX6_of 2 = .ok (.invokevirtual 59, 3) := by decide +kernel
theorem dX6_of_5 : decode cX6_of 5 = .ok (.ifCond .ne 5, 3) := by decide +kernel
theorem dX6_of_8 : decode cX6_of 8 = .ok (.iconst (-1), 1) := by decide +kernel
theorem dX6_of_9 : decode cX6_of 9 = .ok (.ireturn, 1) := by decide +kernel
theorem dX6_of_10 : decode cX6_of 10 = .ok (.iload_n 2, 1) := by decide +kernel
theorem dX6_of_11 : decode cX6_of 11 = .ok (.iconst 0, 1) := by decide +kernel
theorem dX6_of_12 : decode cX6_of 12 = .ok (.iconst 3, 1) := by decide +kernel
theorem dX6_of_13 : decode cX6_of 13 = .ok (.invokestatic 51, 3) := by decide +kernel
theorem dX6_of_16 : decode cX6_of 16 = .ok (.ifCond .eq 17, 3) := by decide +kernel
theorem dX6_of_19 : decode cX6_of 19 = .ok (.aload_n 0, 1) := by decide +kernel
theorem dX6_of_20 : decode cX6_of 20 = .ok (.getfield 7, 3) := by decide +kernel
theorem dX6_of_23 : decode cX6_of 23 = .ok (.bipush 9, 2) := by decide +kernel
theorem dX6_of_25 : decode cX6_of 25 = .ok (.iload_n 2, 1) := by decide +kernel
theorem dX6_of_26 : decode cX6_of 26 = .ok (.imul, 1) := by decide +kernel
theorem dX6_of_27 : decode cX6_of 27 = .ok (.iload_n 1, 1) := by decide +kernel
theorem dX6_of_28 : decode cX6_of 28 = .ok (.iadd, 1) := by decide +kernel
theorem dX6_of_29 : decode cX6_of 29 = .ok (.iaload, 1) := by decide +kernel
theorem dX6_of_30 : decode cX6_of 30 = .ok (.goto 5, 3) := by decide +kernel
theorem dX6_of_33 : decode cX6_of 33 = .ok (.bipush (-2), 2) := by decide +kernel
theorem dX6_of_35 : decode cX6_of 35 = .ok (.ireturn, 1) := by decide +kernel
theorem dX6_heightOf_0 : decode cX6_heightOf 0 = .ok (.iconst 0, 1) := by decide +kernel
theorem dX6_heightOf_1 : decode cX6_heightOf 1 = .ok (.istore_n 3, 1) := by decide +kernel
theorem dX6_heightOf_2 : decode cX6_heightOf 2 = .ok (.iload_n 1, 1) := by decide +kernel
theorem dX6_heightOf_3 : decode cX6_heightOf 3 = .ok (.istore 4, 2) := by decide +kernel
theorem dX6_heightOf_5 : decode cX6_heightOf 5 = .ok (.iload 4, 2) := by decide +kernel
theorem dX6_heightOf_7 : decode cX6_heightOf 7 = .ok (.iload_n 1, 1) := by decide +kernel
theorem dX6_heightOf_8 : decode cX6_heightOf 8 = .ok (.iload_n 2, 1) := by decide +kernel
theorem dX6_heightOf_9 : decode cX6_heightOf 9 = .ok (.iadd, 1) := by decide +kernel
theorem dX6_heightOf_10 : decode cX6_heightOf 10 = .ok (.if_icmp .ge 38, 3) := by decide +kernel
theorem dX6_heightOf_13 : decode cX6_heightOf 13 = .ok (.aload_n 0, 1) := by decide +kernel
theorem dX6_heightOf_14 : decode cX6_heightOf 14 = .ok (.getfield 7, 3) := by decide +kernel
theorem dX6_heightOf_17 : decode cX6_heightOf 17 = .ok (.bipush 9, 2) := by decide +kernel
theorem dX6_heightOf_19 : decode cX6_heightOf 19 = .ok (.iload 4, 2) := by decide +kernel
theorem dX6_heightOf_21 : decode cX6_heightOf 21 = .ok (.iadd, 1) := by decide +kernel
theorem dX6_heightOf_22 : decode cX6_heightOf 22 = .ok (.iaload, 1) := by decide +kernel
theorem dX6_heightOf_23 : decode cX6_heightOf 23 = .ok (.iload_n 3, 1) := by decide +kernel
theorem dX6_heightOf_24 : decode cX6_heightOf 24 = .ok (.if_icmp .le 16, 3) := by decide +kernel
theorem dX6_heightOf_27 : decode cX6_heightOf 27 = .ok (.aload_n 0, 1) := by decide +kernel
theorem dX6_heightOf_28 : decode cX6_heightOf 28 = .ok (.getfield 7, 3) := by decide +kernel
theorem dX6_heightOf_31 : decode cX6_heightOf 31 = .ok (.bipush 9, 2) := by decide +kernel
theorem dX6_heightOf_33 : decode cX6_heightOf 33 = .ok (.iload 4, 2) := by decide +kernel
theorem dX6_heightOf_35 : decode cX6_heightOf 35 = .ok (.iadd, 1) := by decide +kernel
theorem dX6_heightOf_36 : decode cX6_heightOf 36 = .ok (.iaload, 1) := by decide +kernel
theorem dX6_heightOf_37 : decode cX6_heightOf 37 = .ok (.goto 4, 3) := by decide +kernel
theorem dX6_heightOf_40 : decode cX6_heightOf 40 = .ok (.iload_n 3, 1) := by decide +kernel
theorem dX6_heightOf_41 : decode cX6_heightOf 41 = .ok (.istore_n 3, 1) := by decide +kernel
theorem dX6_heightOf_42 : decode cX6_heightOf 42 = .ok (.iinc 4 1, 3) := by decide +kernel
theorem dX6_heightOf_45 : decode cX6_heightOf 45 = .ok (.goto (-40), 3) := by decide +kernel
theorem dX6_heightOf_48 : decode cX6_heightOf 48 = .ok (.iload_n 3, 1) := by decide +kernel
theorem dX6_heightOf_49 : decode cX6_heightOf 49 = .ok (.ireturn, 1) := by decide +kernel
set_option maxRecDepth 20000 in
theorem ggX6_gapsOf_X6_heightOf : GoodIn wsX6_gapsOf wsX6_heightOf := goodIn_r _ [6, 1, 7, 8, 9, 10, 11, 12, 13, 14, 15, 16, 17, 18, 19, 20, 21, 22, 23, 24, 25, 26, 27, 28, 29, 30, 31, 32, 33, 34, 35] (by decide +kernel) (by decide +kernel)
set_option maxRecDepth 20000 in
theorem gX6_gapsOf_X6_heightOf : GoodIn wsX6_gapsOf (wsV RX6 63 RX6 yX6_heightOf wsX6_heightOf) := goodIn_app (goodIn_of _ (by decide +kernel)) ggX6_gapsOf_X6_heightOf
