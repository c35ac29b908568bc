theorem dX6_gapsOf_0 : decode cX6_gapsOf 0 = .ok (.aload_n 0, 1) := by decide +kernel
theorem dX6_gapsOf_1 : decode cX6_gapsOf 1 = .ok (.iload_n 1, 1) := by decide +kernel
theorem dX6_gapsOf_2 : decode cX6_gapsOf 2 = .ok (.iload_n 2, 1) := by decide +kernel
theorem dX6_gapsOf_3 : decode cX6_gapsOf 3 = .ok (.invokevirtual 63, 3) := by decide +kernel
theorem dX6_gapsOf_6 : decode cX6_gapsOf 6 = .ok (.istore_n 3, 1) := by decide +kernel
theorem dX6_gapsOf_7 : decode cX6_gapsOf 7 = .ok (.iconst 0, 1) := by decide +kernel
theorem dX6_gapsOf_8 : decode cX6_gapsOf 8 = .ok (.istore 4, 2) := by decide +kernel
theorem dX6_gapsOf_10 : decode cX6_gapsOf 10 = .ok (.iload_n 1, 1) := by decide +kernel
theorem dX6_gapsOf_11 : decode cX6_gapsOf 11 = .ok (.istore 5, 2) := by decide +kernel
theorem dX6_gapsOf_13 : decode cX6_gapsOf 13 = .ok (.iload 5, 2) := by decide +kernel
theorem dX6_gapsOf_15 : decode cX6_gapsOf 15 = .ok (.iload_n 1, 1) := by decide +kernel
theorem dX6_gapsOf_16 : decode cX6_gapsOf 16 = .ok (.iload_n 2, 1) := by decide +kernel
theorem dX6_gapsOf_17 : decode cX6_gapsOf 17 = .ok (.iadd, 1) := by decide +kernel
theorem dX6_gapsOf_18 : decode cX6_gapsOf 18 = .ok (.if_icmp .ge 26, 3) := by decide +kernel
theorem dX6_gapsOf_21 : decode cX6_gapsOf 21 = .ok (.iload 4, 2) := by decide +kernel
theorem dX6_gapsOf_23 : decode cX6_gapsOf 23 = .ok (.iload_n 3, 1) := by decide +kernel
theorem dX6_gapsOf_24 : decode cX6_gapsOf 24 = .ok (.aload_n 0, 1) := by decide +kernel
theorem dX6_gapsOf_25 : decode cX6_gapsOf 25 = .ok (.getfield 7, 3) := by decide +kernel
theorem dX6_gapsOf_28 : decode cX6_gapsOf 28 = .ok (.bipush 9, 2) := by decide +kernel
theorem dX6_gapsOf_30 : decode cX6_gapsOf 30 = .ok (.iload 5, 2) := by decide +kernel
theorem dX6_gapsOf_32 : decode cX6_gapsOf 32 = .ok (.iadd, 1) := by decide +kernel
theorem dX6_gapsOf_33 : decode cX6_gapsOf 33 = .ok (.iaload, 1) := by decide +kernel
theorem dX6_gapsOf_34 : decode cX6_gapsOf 34 = .ok (.isub, 1) := by decide +kernel
theorem dX6_gapsOf_35 : decode cX6_gapsOf 35 = .ok (.iadd, 1) := by decide +kernel
theorem dX6_gapsOf_36 : decode cX6_gapsOf 36 = .ok (.istore 4, 2) := by decide +kernel
theorem dX6_gapsOf_38 : decode cX6_gapsOf 38 = .ok (.iinc 5 1, 3) := by decide +kernel
theorem dX6_gapsOf_41 : decode cX6_gapsOf 41 = .ok (.goto (-28), 3) := by decide +kernel
theorem dX6_gapsOf_44 : decode cX6_gapsOf 44 = .ok (.iload 4, 2) := by decide +kernel
theorem dX6_gapsOf_46 : decode cX6_gapsOf 46 = .ok (.ireturn, 1) := by decide +kernel
theorem dX6_nextWider_0 : decode cX6_nextWider 0 = .ok (.iconst 0, 1) := by decide +kernel
theorem dX6_nextWider_1 : decode cX6_nextWider 1 = .ok (.istore_n 2, 1) := by decide +kernel
theorem dX6_nextWider_2 : decode cX6_nextWider 2 = .ok (.iconst 1, 1) := by decide +kernel
theorem dX6_nextWider_3 : decode cX6_nextWider 3 = .ok (.istore_n 3, 1) := by decide +kernel
theorem dX6_nextWider_4 : decode cX6_nextWider 4 = .ok (.iload_n 3, 1) := by decide +kernel
theorem dX6_nextWider_5 : decode cX6_nextWider 5 = .ok (.iload_n 1, 1) := by decide +kernel
theorem dX6_nextWider_6 : decode cX6_nextWider 6 = .ok (.if_icmp .ge 30, 3) := by decide +kernel
theorem dX6_nextWider_9 : decode cX6_nextWider 9 = .ok (.aload_n 0, 1) := by decide +kernel
theorem dX6_nextWider_10 : decode cX6_nextWider 10 = .ok (.getfield 26, 3) := by decide +kernel
theorem dX6_nextWider_13 : decode cX6_nextWider 13 = .ok (.iload_n 3, 1) := by decide +kernel
theorem dX6_nextWider_14 : decode cX6_nextWider 14 = .ok (.iaload, 1) := by decide +kernel
theorem dX6_nextWider_15 : decode cX6_nextWider 15 = .ok (.aload_n 0, 1) := by decide +kernel
theorem dX6_nextWider_16 : decode cX6_nextWider 16 = .ok (.getfield 26, 3) := by decide +kernel
theorem dX6_nextWider_19 : decode cX6_nextWider 19 = .ok (.iload_n 2, 1) := by decide +kernel
theorem dX6_nextWider_20 : decode cX6_nextWider 20 = .ok (.iaload, 1) := by decide +kernel
theorem dX6_nextWider_21 : decode cX6_nextWider 21 = .ok (.if_icmp .le 7, 3) := by decide +kernel
theorem dX6_nextWider_24 : decode cX6_nextWider 24 = .ok (.iload_n 3, 1) := by decide +kernel
theorem dX6_nextWider_25 : decode cX6_nextWider 25 = .ok (.goto 4, 3) := by decide +kernel
theorem dX6_nextWider_28 : decode cX6_nextWider 28 = .ok (.iload_n 2, 1) := by decide +kernel
theorem dX6_nextWider_29 : decode cX6_nextWider 29 = .ok (.istore_n 2, 1) := by decide +kernel
theorem dX6_nextWider_30 : decode cX6_nextWider 30 = .ok (.iinc 3 1, 3) := by decide +kernel
theorem dX6_nextWider_33 : decode cX6_nextWider 33 = .ok (.goto (-29), 3) := by decide +kernel
theorem dX6_nextWider_36 : decode cX6_nextWider 36 = .ok (.iload_n 2, 1) := by decide +kernel
theorem dX6_nextWider_37 : decode cX6_nextWider 37 = .ok (.ireturn, 1) := by decide +kernel
set_option maxRecDepth 20000 in
theorem ggX6_layWidths_X6_nextWider : GoodIn wsX6_layWidths wsX6_nextWider := goodIn_r _ [8, 3, 9, 10, 11, 12, 13, 14, 15, 16, 17, 18, 19, 20, 21, 22, 23, 24, 25, 26, 27, 28, 29, 30, 31, 32, 33, 34, 35, 36, 37] (by decide +kernel) (by decide +kernel)
set_option maxRecDepth 20000 in
theorem gX6_layWidths_X6_nextWider : GoodIn wsX6_layWidths (wsV RX6 67 RX6 yX6_nextWider wsX6_nextWider) := goodIn_app (goodIn_of _ (by decide +kernel)) ggX6_layWidths_X6_nextWider
theorem dX6_layWidths_0 : decode cX6_layWidths 0 = .ok (.iconst 0, 1) := by decide +kernel
theorem dX6_layWidths_1 : decode cX6_layWidths 1 = .ok (.istore_n 3, 1) := by decide +kernel
theorem dX6_layWidths_2 : decode cX6_layWidths 2 = .ok (.iconst 0, 1) := by decide +kernel
theorem dX6_layWidths_3 : decode cX6_layWidths 3 = .ok (.istore 4, 2) := by decide +kernel
theorem dX6_layWidths_5 : decode cX6_layWidths 5 = .ok (.iload 4, 2) := by decide +kernel
theorem dX6_layWidths_7 : decode cX6_layWidths 7 = .ok (.iload_n 2, 1) := by decide +kernel
theorem dX6_layWidths_8 : decode cX6_layWidths 8 = .ok (.if_icmp .ge 23, 3) := by decide +kernel
theorem dX6_layWidths_11 : decode cX6_layWidths 11 = .ok (.iload_n 3, 1) := by decide +kernel
theorem dX6_layWidths_12 : decode cX6_layWidths 12 = .ok (.aload_n 0, 1) := by decide +kernel
theorem dX6_layWidths_13 : decode cX6_layWidths 13 = .ok (.getfield 7, 3) := by decide +kernel
theorem dX6_layWidths_16 : decode cX6_layWidths 16 = .ok (.iconst 0, 1) := by decide +kernel
theorem dX6_layWidths_17 : decode cX6_layWidths 17 = .ok (.iload_n 1, 1) := by decide +kernel
theorem dX6_layWidths_18 : decode cX6_layWidths 18 = .ok (.iadd, 1) := by decide +kernel
theorem dX6_layWidths_19 : decode cX6_layWidths 19 = .ok (.iload 4, 2) := by decide +kernel
theorem dX6_layWidths_21 : decode cX6_layWidths 21 = .ok (.iadd, 1) := by decide +kernel
theorem dX6_layWidths_22 : decode cX6_layWidths 22 = .ok (.iaload, 1) := by decide +kernel
theorem dX6_layWidths_23 : decode cX6_layWidths 23 = .ok (.iadd, 1) := by decide +kernel
theorem dX6_layWidths_24 : decode cX6_layWidths 24 = .ok (.istore_n 3, 1) := by decide +kernel
theorem dX6_layWidths_25 : decode cX6_layWidths 25 = .ok (.iinc 4 1, 3) := by decide +kernel
theorem dX6_layWidths_28 : decode cX6_layWidths 28 = .ok (.goto (-23), 3) := by decide +kernel
theorem dX6_layWidths_31 : decode cX6_layWidths 31 = .ok (.bipush 12, 2) := by decide +kernel
theorem dX6_layWidths_33 : decode cX6_layWidths 33 = .ok (.istore 4, 2) := by decide +kernel
theorem dX6_layWidths_35 : decode cX6_layWidths 35 = .ok (.iconst 0, 1) := by decide +kernel
theorem dX6_layWidths_36 : decode cX6_layWidths 36 = .ok (.istore 5, 2) := by decide +kernel
theorem dX6_layWidths_38 : decode cX6_layWidths 38 = .ok (.iload 5, 2) := by decide +kernel
theorem dX6_layWidths_40 : decode cX6_layWidths 40 = .ok (.iload_n 2, 1) := by decide +kernel
theorem dX6_layWidths_41 : decode cX6_layWidths 41 = .ok (.if_icmp .ge 59, 3) := by decide +kernel
theorem dX6_layWidths_44 : decode cX6_layWidths 44 = .ok (.bipush 12, 2) := by decide +kernel
theorem dX6_layWidths_46 : decode cX6_layWidths 46 = .ok (.aload_n 0, 1) := by decide +kernel
theorem dX6_layWidths_47 : decode cX6_layWidths 47 = .ok (.getfield 7, 3) := by decide +kernel
theorem dX6_layWidths_50 : decode cX6_layWidths 50 = .ok (.iconst 0, 1) := by decide +kernel
theorem dX6_layWidths_51 : decode cX6_layWidths 51 = .ok (.iload_n 1, 1) := by decide +kernel
theorem dX6_layWidths_52 : decode cX6_layWidths 52 = .ok (.iadd, 1) := by decide +kernel
theorem dX6_layWidths_53 : decode cX6_layWidths 53 = .ok (.iload 5, 2) := by decide +kernel
theorem dX6_layWidths_55 : decode cX6_layWidths 55 = .ok (.iadd, 1) := by decide +kernel
theorem dX6_layWidths_56 : decode cX6_layWidths 56 = .ok (.iaload, 1) := by decide +kernel
theorem dX6_layWidths_57 : decode cX6_layWidths 57 = .ok (.imul, 1) := by decide +kernel
theorem dX6_layWidths_58 : decode cX6_layWidths 58 = .ok (.istore 6, 2) := by decide +kernel
theorem dX6_layWidths_60 : decode cX6_layWidths 60 = .ok (.aload_n 0, 1) := by decide +kernel
theorem dX6_layWidths_61 : decode cX6_layWidths 61 = .ok (.getfield 23, 3) := by decide +kernel
theorem dX6_layWidths_64 : decode cX6_layWidths 64 = .ok (.iload 5, 2) := by decide +kernel
theorem dX6_layWidths_66 : decode cX6_layWidths 66 = .ok (.iload 6, 2) := by decide +kernel
theorem dX6_layWidths_68 : decode cX6_layWidths 68 = .ok (.iload_n 3, 1) := by decide +kernel
theorem dX6_layWidths_69 : decode cX6_layWidths 69 = .ok (.idiv, 1) := by decide +kernel
theorem dX6_layWidths_70 : decode cX6_layWidths 70 = .ok (.iastore, 1) := by decide +kernel
theorem dX6_layWidths_71 : decode cX6_layWidths 71 = .ok (.aload_n 0, 1) := by decide +kernel
theorem dX6_layWidths_72 : decode cX6_layWidths 72 = .ok (.getfield 26, 3) := by decide +kernel
theorem dX6_layWidths_75 : decode cX6_layWidths 75 = .ok (.iload 5, 2) := by decide +kernel
theorem dX6_layWidths_77 : decode cX6_layWidths 77 = .ok (.iload 6, 2) := by decide +kernel
theorem dX6_layWidths_79 : decode cX6_layWidths 79 = .ok (.iload_n 3, 1) := by decide +kernel
theorem dX6_layWidths_80 : decode cX6_layWidths 80 = .ok (.irem, 1) := by decide +kernel
theorem dX6_layWidths_81 : decode cX6_layWidths 81 = .ok (.iastore, 1) := by decide +kernel
theorem dX6_layWidths_82 : decode cX6_layWidths 82 = .ok (.iload 4, 2) := by decide +kernel
theorem dX6_layWidths_84 : decode cX6_layWidths 84 = .ok (.aload_n 0, 1) := by decide +kernel
theorem dX6_layWidths_85 : decode cX6_layWidths 85 = .ok (.getfield 23, 3) := by decide +kernel
theorem dX6_layWidths_88 : decode cX6_layWidths 88 = .ok (.iload 5, 2) := by decide +kernel
theorem dX6_layWidths_90 : decode cX6_layWidths 90 = .ok (.iaload, 1) := by decide +kernel
theorem dX6_layWidths_91 : decode cX6_layWidths 91 = .ok (.isub, 1) := by decide +kernel
theorem dX6_layWidths_92 : decode cX6_layWidths 92 = .ok (.istore 4, 2) := by decide +kernel
theorem dX6_layWidths_94 : decode cX6_layWidths 94 = .ok (.iinc 5 1, 3) := by decide +kernel
theorem dX6_layWidths_97 : decode cX6_layWidths 97 = .ok (.goto (-59), 3) := by decide +kernel
theorem dX6_layWidths_100 : decode cX6_layWidths 100 = .ok (.iload 4, 2) := by decide +kernel
theorem dX6_layWidths_102 : decode cX6_layWidths 102 = .ok (.ifCond .le 35, 3) := by decide +kernel
theorem dX6_layWidths_105 : decode cX6_layWidths 105 = .ok (.aload_n 0, 1) := by decide +kernel
theorem dX6_layWidths_106 : decode cX6_layWidths 106 = .ok (.iload_n 2, 1) := by decide +kernel
theorem dX6_layWidths_107 : decode cX6_layWidths 107 = .ok (.invokevirtual 67, 3) := by decide +kernel
theorem dX6_layWidths_110 : decode cX6_layWidths 110 = .ok (.istore 5, 2) := by decide +kernel
theorem dX6_layWidths_112 : decode cX6_layWidths 112 = .ok (.aload_n 0, 1) := by decide +kernel
theorem dX6_layWidths_113 : decode cX6_layWidths 113 = .ok (.getfield 23, 3) := by decide +kernel
theorem dX6_layWidths_116 : decode cX6_layWidths 116 = .ok (.iload 5, 2) := by decide +kernel
theorem dX6_layWidths_118 : decode cX6_layWidths 118 = .ok (.dup2, 1) := by decide +kernel
theorem dX6_layWidths_119 : decode cX6_layWidths 119 = .ok (.iaload, 1) := by decide +kernel
theorem dX6_layWidths_120 : decode cX6_layWidths 120 = .ok (.iconst 1, 1) := by decide +kernel
theorem dX6_layWidths_121 : decode cX6_layWidths 121 = .ok (.iadd, 1) := by decide +kernel
theorem dX6_layWidths_122 : decode cX6_layWidths 122 = .ok (.iastore, 1) := by decide +kernel
theorem dX6_layWidths_123 : decode cX6_layWidths 123 = .ok (.aload_n 0, 1) := by decide +kernel
theorem dX6_layWidths_124 : decode cX6_layWidths 124 = .ok (.getfield 26, 3) := by decide +kernel
theorem dX6_layWidths_127 : decode cX6_layWidths 127 = .ok (.iload 5, 2) := by decide +kernel
theorem dX6_layWidths_129 : decode cX6_layWidths 129 = .ok (.iconst (-1), 1) := by decide +kernel
theorem dX6_layWidths_130 : decode cX6_layWidths 130 = .ok (.iastore, 1) := by decide +kernel
theorem dX6_layWidths_131 : decode cX6_layWidths 131 = .ok (.iinc 4 (-1), 3) := by decide +kernel
theorem dX6_layWidths_134 : decode cX6_layWidths 134 = .ok (.goto (-34), 3) := by decide +kernel
theorem dX6_layWidths_137 : decode cX6_layWidths 137 = .ok (.return_, 1) := by decide +kernel
set_option maxRecDepth 20000 in
theorem ggX6_tier_X6_isPanel : GoodIn wsX6_tier wsX6_isPanel := goodIn_r _ [6, 7, 8, 9, 5, 10, 11, 12, 13, 14, 32, 33, 34, 35, 36, 37, 38, 39, 40, 41, 42, 43, 44, 45, 46, 47, 48, 49, 50, 51, 52, 53, 54, 55, 56, 57, 58, 59, 60] (by decide +kernel) (by decide +kernel)
set_option maxRecDepth 20000 in
theorem gX6_tier_X6_isPanel : GoodIn wsX6_tier (wsV RX6 59 RX6 yX6_isPanel wsX6_isPanel) := goodIn_app (goodIn_of _ (by decide +kernel)) ggX6_tier_X6_isPanel
set_option maxRecDepth 20000 in
theorem ggX6_tier_X6_in : GoodIn wsX6_tier wsX6_in := goodIn_r _ [14] (by decide +kernel) (by decide +kernel)
set_option maxRecDepth 20000 in
theorem gX6_tier_X6_in : GoodIn wsX6_tier (va_wsS RX6 51 yX6_in wsX6_in) := goodIn_app (goodIn_of _ (by decide +kernel)) ggX6_tier_X6_in
set_option maxRecDepth 20000 in
theorem ggX6_tier_X6_many : GoodIn wsX6_tier wsX6_many := goodIn_r _ [10, 11, 32, 33, 34, 35, 36, 37, 38, 39, 40, 41, 42, 43, 44, 45, 46, 47, 48, 49, 50, 51, 52, 53, 54, 55, 56, 57, 58, 59, 60] (by decide +kernel) (by decide +kernel)
set_option maxRecDepth 20000 in
theorem gX6_tier_X6_many : GoodIn wsX6_tier (wsV RX6 47 RX6 yX6_many wsX6_many) := goodIn_app (goodIn_of _ (by decide +kernel)) ggX6_tier_X6_many
set_option maxRecDepth 20000 in
theorem ggX6_tier_X6_heightOf : GoodIn wsX6_tier wsX6_heightOf := goodIn_r _ [18, 11, 32, 33, 34, 35, 36, 37, 38, 39, 40, 41, 42, 43, 44, 45, 46, 47, 48, 49, 50, 51, 52, 53, 54, 55, 56, 57, 58, 59, 60] (by decide +kernel) (by decide +kernel)
set_option maxRecDepth 20000 in
theorem gX6_tier_X6_heightOf : GoodIn wsX6_tier (wsV RX6 63 RX6 yX6_heightOf wsX6_heightOf) := goodIn_app (goodIn_of _ (by decide +kernel)) ggX6_tier_X6_heightOf
set_option maxRecDepth 20000 in
theorem ggX6_tier_X6_gapsOf : GoodIn wsX6_tier wsX6_gapsOf := goodIn_r _ [22, 11, 15, 16, 17, 5, 18, 32, 33, 34, 35, 36, 37, 38, 39, 40, 41, 42, 43, 44, 45, 46, 47, 48, 49, 50, 51, 52, 53, 54, 55, 56, 57, 58, 59, 60] (by decide +kernel) (by decide +kernel)
set_option maxRecDepth 20000 in
theorem gX6_tier_X6_gapsOf : GoodIn wsX6_tier (wsV RX6 71 RX6 yX6_gapsOf wsX6_gapsOf) := goodIn_app (goodIn_of _ (by decide +kernel)) ggX6_tier_X6_gapsOf
set_option maxRecDepth 20000 in
theorem ggX6_tier_X6_layWidths : GoodIn wsX6_tier wsX6_layWidths := goodIn_r _ [26, 11, 1, 27, 28, 29, 30, 5, 31, 32, 33, 34, 35, 36, 37, 38, 39, 40, 41, 42, 43, 44, 45, 46, 47, 48, 49, 50, 51, 52, 53, 54, 55, 56, 57, 58, 59, 60] (by decide +kernel) (by decide +kernel)
set_option maxRecDepth 20000 in
theorem gX6_tier_X6_layWidths : GoodIn wsX6_tier (wsV RX6 74 RX6 yX6_layWidths wsX6_layWidths) := goodIn_app (goodIn_of _ (by decide +kernel)) ggX6_tier_X6_layWidths
theorem dX6_tier_0 : decode cX6_tier 0 = .ok (.aload_n 0, 1) := by decide +kernel
theorem dX6_tier_1 : decode cX6_tier 1 = .ok (.iload_n 1, 1) := by decide +kernel
theorem dX6_tier_2 : decode cX6_tier 2 = .ok (.invokevirtual 59, 3) := by decide +kernel
theorem dX6_tier_5 : decode cX6_tier 5 = .ok (.ifCond .ne 5, 3) := by decide +kernel
theorem dX6_tier_8 : decode cX6_tier 8 = .ok (.iconst (-1), 1) := by decide +kernel
theorem dX6_tier_9 : decode cX6_tier 9 = .ok (.ireturn, 1) := by decide +kernel
theorem dX6_tier_10 : decode cX6_tier 10 = .ok (.iload_n 2, 1) := by decide +kernel
theorem dX6_tier_11 : decode cX6_tier 11 = .ok (.iconst 1, 1) := by decide +kernel
theorem dX6_tier_12 : decode cX6_tier 12 = .ok (.iconst 4, 1) := by decide +kernel
theorem dX6_tier_13 : decode cX6_tier 13 = .ok (.invokestatic 51, 3) := by decide +kernel
theorem dX6_tier_16 : decode cX6_tier 16 = .ok (.ifCond .eq 35, 3) := by decide +kernel
theorem dX6_tier_19 : decode cX6_tier 19 = .ok (.iload_n 1, 1) := by decide +kernel
theorem dX6_tier_20 : decode cX6_tier 20 = .ok (.iload_n 2, 1) := by decide +kernel
theorem dX6_tier_21 : decode cX6_tier 21 = .ok (.iadd, 1) := by decide +kernel
theorem dX6_tier_22 : decode cX6_tier 22 = .ok (.aload_n 0, 1) := by decide +kernel
theorem dX6_tier_23 : decode cX6_tier 23 = .ok (.invokevirtual 47, 3) := by decide +kernel
theorem dX6_tier_26 : decode cX6_tier 26 = .ok (.if_icmp .gt 25, 3) := by decide +kernel
theorem dX6_tier_29 : decode cX6_tier 29 = .ok (.iload_n 3, 1) := by decide +kernel
theorem dX6_tier_30 : decode cX6_tier 30 = .ok (.iconst 0, 1) := by decide +kernel
theorem dX6_tier_31 : decode cX6_tier 31 = .ok (.iconst 1, 1) := by decide +kernel
theorem dX6_tier_32 : decode cX6_tier 32 = .ok (.invokestatic 51, 3) := by decide +kernel
theorem dX6_tier_35 : decode cX6_tier 35 = .ok (.ifCond .ne 19, 3) := by decide +kernel
theorem dX6_tier_38 : decode cX6_tier 38 = .ok (.iload_n 3, 1) := by decide +kernel
theorem dX6_tier_39 : decode cX6_tier 39 = .ok (.bipush 10, 2) := by decide +kernel
theorem dX6_tier_41 : decode cX6_tier 41 = .ok (.bipush 9, 2) := by decide +kernel
theorem dX6_tier_43 : decode cX6_tier 43 = .ok (.iload_n 2, 1) := by decide +kernel
theorem dX6_tier_44 : decode cX6_tier 44 = .ok (.iadd, 1) := by decide +kernel
theorem dX6_tier_45 : decode cX6_tier 45 = .ok (.invokestatic 51, 3) := by decide +kernel
theorem dX6_tier_48 : decode cX6_tier 48 = .ok (.ifCond .ne 6, 3) := by decide +kernel
theorem dX6_tier_51 : decode cX6_tier 51 = .ok (.bipush (-2), 2) := by decide +kernel
theorem dX6_tier_53 : decode cX6_tier 53 = .ok (.ireturn, 1) := by decide +kernel
theorem dX6_tier_54 : decode cX6_tier 54 = .ok (.iload_n 3, 1) := by decide +kernel
theorem dX6_tier_55 : decode cX6_tier 55 = .ok (.ifCond .ne 10, 3) := by decide +kernel
theorem dX6_tier_58 : decode cX6_tier 58 = .ok (.aload_n 0, 1) := by decide +kernel
theorem dX6_tier_59 : decode cX6_tier 59 = .ok (.iload_n 1, 1) := by decide +kernel
theorem dX6_tier_60 : decode cX6_tier 60 = .ok (.iload_n 2, 1) := by decide +kernel
theorem dX6_tier_61 : decode cX6_tier 61 = .ok (.invokevirtual 63, 3) := by decide +kernel
theorem dX6_tier_64 : decode cX6_tier 64 = .ok (.ireturn, 1) := by decide +kernel
theorem dX6_tier_65 : decode cX6_tier 65 = .ok (.iload_n 3, 1) := by decide +kernel
theorem dX6_tier_66 : decode cX6_tier 66 = .ok (.iconst 1, 1) := by decide +kernel
theorem dX6_tier_67 : decode cX6_tier 67 = .ok (.if_icmp .ne 10, 3) := by decide +kernel
theorem dX6_tier_70 : decode cX6_tier 70 = .ok (.aload_n 0, 1) := by decide +kernel
theorem dX6_tier_71 : decode cX6_tier 71 = .ok (.iload_n 1, 1) := by decide +kernel
theorem dX6_tier_72 : decode cX6_tier 72 = .ok (.iload_n 2, 1) := by decide +kernel
theorem dX6_tier_73 : decode cX6_tier 73 = .ok (.invokevirtual 71, 3) := by decide +kernel
theorem dX6_tier_76 : decode cX6_tier 76 = .ok (.ireturn, 1) := by decide +kernel
theorem dX6_tier_77 : decode cX6_tier 77 = .ok (.aload_n 0, 1) := by decide +kernel
theorem dX6_tier_78 : decode cX6_tier 78 = .ok (.iload_n 1, 1) := by decide +kernel
theorem dX6_tier_79 : decode cX6_tier 79 = .ok (.iload_n 2, 1) := by decide +kernel
theorem dX6_tier_80 : decode cX6_tier 80 = .ok (.invokevirtual 74, 3) := by decide +kernel
theorem dX6_tier_83 : decode cX6_tier 83 = .ok (.aload_n 0, 1) := by decide +kernel
theorem dX6_tier_84 : decode cX6_tier 84 = .ok (.getfield 23, 3) := by decide +kernel
theorem dX6_tier_87 : decode cX6_tier 87 = .ok (.iload_n 3, 1) := by decide +kernel
theorem dX6_tier_88 : decode cX6_tier 88 = .ok (.bipush 10, 2) := by decide +kernel
theorem dX6_tier_90 : decode cX6_tier 90 = .ok (.isub, 1) := by decide +kernel
theorem dX6_tier_91 : decode cX6_tier 91 = .ok (.iaload, 1) := by decide +kernel
theorem dX6_tier_92 : decode cX6_tier 92 = .ok (.ireturn, 1) := by decide +kernel
theorem dX6_isKind_0 : decode cX6_isKind 0 = .ok (.aload_n 0, 1) := by decide +kernel
theorem dX6_isKind_1 : decode cX6_isKind 1 = .ok (.getfield 7, 3) := by decide +kernel
theorem dX6_isKind_4 : decode cX6_isKind 4 = .ok (.bipush 18, 2) := by decide +kernel
theorem dX6_isKind_6 : decode cX6_isKind 6 = .ok (.iload_n 1, 1) := by decide +kernel
theorem dX6_isKind_7 : decode cX6_isKind 7 = .ok (.iadd, 1) := by decide +kernel
theorem dX6_isKind_8 : decode cX6_isKind 8 = .ok (.iaload, 1) := by decide +kernel
theorem dX6_isKind_9 : decode cX6_isKind 9 = .ok (.iload_n 2, 1) := by decide +kernel
theorem dX6_isKind_10 : decode cX6_isKind 10 = .ok (.if_icmp .ne 7, 3) := by decide +kernel
theorem dX6_isKind_13 : decode cX6_isKind 13 = .ok (.iconst 1, 1) := by decide +kernel
theorem dX6_isKind_14 : decode cX6_isKind 14 = .ok (.goto 4, 3) := by decide +kernel
theorem dX6_isKind_17 : decode cX6_isKind 17 = .ok (.iconst 0, 1) := by decide +kernel
theorem dX6_isKind_18 : decode cX6_isKind 18 = .ok (.ireturn, 1) := by decide +kernel
set_option maxRecDepth 20000 in
theorem ggX6_isBy_X6_isKind : GoodIn wsX6_isBy wsX6_isKind := goodIn_r _ [5, 6, 7, 8, 9, 10, 11, 12, 13, 14, 15, 16, 17, 18, 19, 20, 21, 22, 23, 24, 25, 26, 27, 28, 29, 30, 31, 32, 33, 34, 35] (by decide +kernel) (by decide +kernel)
set_option maxRecDepth 20000 in
theorem gX6_isBy_X6_isKind : GoodIn wsX6_isBy (wsV RX6 78 RX6 yX6_isKind wsX6_isKind) := goodIn_app (goodIn_of _ (by decide +kernel)) ggX6_isBy_X6_isKind
theorem dX6_isBy_0 : decode cX6_isBy 0 = .ok (.aload_n 0, 1) := by decide +kernel
theorem dX6_isBy_1 : decode cX6_isBy 1 = .ok (.iload_n 1, 1) := by decide +kernel
theorem dX6_isBy_2 : decode cX6_isBy 2 = .ok (.iconst 1, 1) := by decide +kernel
theorem dX6_isBy_3 : decode cX6_isBy 3 = .ok (.invokevirtual 78, 3) := by decide +kernel
theorem dX6_isBy_6 : decode cX6_isBy 6 = .ok (.ifCond .ne 12, 3) := by decide +kernel
theorem dX6_isBy_9 : decode cX6_isBy 9 = .ok (.aload_n 0, 1) := by decide +kernel
theorem dX6_isBy_10 : decode cX6_isBy 10 = .ok (.iload_n 1, 1) := by decide +kernel
theorem dX6_isBy_11 : decode cX6_isBy 11 = .ok (.iconst 2, 1) := by decide +kernel
theorem dX6_isBy_12 : decode cX6_isBy 12 = .ok (.invokevirtual 78, 3) := by decide +kernel
theorem dX6_isBy_15 : decode cX6_isBy 15 = .ok (.ifCond .eq 7, 3) := by decide +kernel
theorem dX6_isBy_18 : decode cX6_isBy 18 = .ok (.iconst 1, 1) := by decide +kernel
theorem dX6_isBy_19 : decode cX6_isBy 19 = .ok (.goto 4, 3) := by decide +kernel
theorem dX6_isBy_22 : decode cX6_isBy 22 = .ok (.iconst 0, 1) := by decide +kernel
theorem dX6_isBy_23 : decode cX6_isBy 23 = .ok (.ireturn, 1) := by decide +kernel
set_option maxRecDepth 20000 in
theorem ggX6_whyNot_X6_isBy : GoodIn wsX6_whyNot wsX6_isBy := goodIn_r _ [7, 8, 9, 10, 6, 11, 12, 22, 23, 24, 25, 26, 27, 28, 29, 30, 31, 32, 33, 34, 35, 36, 37, 38, 39, 40, 41, 42, 43, 44, 45, 46, 47, 48, 49, 50] (by decide +kernel) (by decide +kernel)
set_option maxRecDepth 20000 in
theorem gX6_whyNot_X6_isBy : GoodIn wsX6_whyNot (wsV RX6 85 RX6 yX6_isBy wsX6_isBy) := goodIn_app (goodIn_of _ (by decide +kernel)) ggX6_whyNot_X6_isBy
set_option maxRecDepth 20000 in
theorem ggX6_whyNot_X6_isKind : GoodIn wsX6_whyNot wsX6_isKind := goodIn_r _ [11, 12, 22, 23, 24, 25, 26, 27, 28, 29, 30, 31, 32, 33, 34, 35, 36, 37, 38, 39, 40, 41, 42, 43, 44, 45, 46, 47, 48, 49, 50] (by decide +kernel) (by decide +kernel)
set_option maxRecDepth 20000 in
theorem gX6_whyNot_X6_isKind : GoodIn wsX6_whyNot (wsV RX6 78 RX6 yX6_isKind wsX6_isKind) := goodIn_app (goodIn_of _ (by decide +kernel)) ggX6_whyNot_X6_isKind
set_option maxRecDepth 20000 in
theorem ggX6_whyNot_X6_isTooHigh : GoodIn wsX6_whyNot wsX6_isTooHigh := goodIn_r _ [16, 1, 12, 17, 2, 8, 9, 10, 6, 11, 18, 19, 20, 21, 22, 23, 24, 25, 26, 27, 28, 29, 30, 31, 32, 33, 34, 35, 36, 37, 38, 39, 40, 41, 42, 43, 44, 45, 46, 47, 48, 49, 50] (by decide +kernel) (by decide +kernel)
set_option maxRecDepth 20000 in
theorem gX6_whyNot_X6_isTooHigh : GoodIn wsX6_whyNot (wsV RX6 88 RX6 yX6_isTooHigh wsX6_isTooHigh) := goodIn_app (goodIn_of _ (by decide +kernel)) ggX6_whyNot_X6_isTooHigh
theorem dX6_whyNot_0 : decode cX6_whyNot 0 = .ok (.aload_n 0, 1) := by decide +kernel
theorem dX6_whyNot_1 : decode cX6_whyNot 1 = .ok (.getfield 29, 3) := by decide +kernel
theorem dX6_whyNot_4 : decode cX6_whyNot 4 = .ok (.iload_n 1, 1) := by decide +kernel
theorem dX6_whyNot_5 : decode cX6_whyNot 5 = .ok (.iaload, 1) := by decide +kernel
theorem dX6_whyNot_6 : decode cX6_whyNot 6 = .ok (.istore_n 2, 1) := by decide +kernel
theorem dX6_whyNot_7 : decode cX6_whyNot 7 = .ok (.iload_n 2, 1) := by decide +kernel
theorem dX6_whyNot_8 : decode cX6_whyNot 8 = .ok (.iconst 2, 1) := by decide +kernel
theorem dX6_whyNot_9 : decode cX6_whyNot 9 = .ok (.if_icmp .eq 9, 3) := by decide +kernel
theorem dX6_whyNot_12 : decode cX6_whyNot 12 = .ok (.iload_n 1, 1) := by decide +kernel
theorem dX6_whyNot_13 : decode cX6_whyNot 13 = .ok (.ifCond .ne 5, 3) := by decide +kernel
theorem dX6_whyNot_16 : decode cX6_whyNot 16 = .ok (.iconst 1, 1) := by decide +kernel
theorem dX6_whyNot_17 : decode cX6_whyNot 17 = .ok (.ireturn, 1) := by decide +kernel
theorem dX6_whyNot_18 : decode cX6_whyNot 18 = .ok (.iload_n 2, 1) := by decide +kernel
theorem dX6_whyNot_19 : decode cX6_whyNot 19 = .ok (.ifCond .ne 15, 3) := by decide +kernel
theorem dX6_whyNot_22 : decode cX6_whyNot 22 = .ok (.iload_n 1, 1) := by decide +kernel
theorem dX6_whyNot_23 : decode cX6_whyNot 23 = .ok (.aload_n 0, 1) := by decide +kernel
theorem dX6_whyNot_24 : decode cX6_whyNot 24 = .ok (.getfield 81, 3) := by decide +kernel
theorem dX6_whyNot_27 : decode cX6_whyNot 27 = .ok (.isub, 1) := by decide +kernel
theorem dX6_whyNot_28 : decode cX6_whyNot 28 = .ok (.iconst 4, 1) := by decide +kernel
theorem dX6_whyNot_29 : decode cX6_whyNot 29 = .ok (.if_icmp .ne 5, 3) := by decide +kernel
theorem dX6_whyNot_32 : decode cX6_whyNot 32 = .ok (.iconst 2, 1) := by decide +kernel
theorem dX6_whyNot_33 : decode cX6_whyNot 33 = .ok (.ireturn, 1) := by decide +kernel
theorem dX6_whyNot_34 : decode cX6_whyNot 34 = .ok (.iload_n 2, 1) := by decide +kernel
theorem dX6_whyNot_35 : decode cX6_whyNot 35 = .ok (.ifCond .ne 23, 3) := by decide +kernel
theorem dX6_whyNot_38 : decode cX6_whyNot 38 = .ok (.aload_n 0, 1) := by decide +kernel
theorem dX6_whyNot_39 : decode cX6_whyNot 39 = .ok (.iload_n 1, 1) := by decide +kernel
theorem dX6_whyNot_40 : decode cX6_whyNot 40 = .ok (.invokevirtual 85, 3) := by decide +kernel
theorem dX6_whyNot_43 : decode cX6_whyNot 43 = .ok (.ifCond .ne 13, 3) := by decide +kernel
theorem dX6_whyNot_46 : decode cX6_whyNot 46 = .ok (.aload_n 0, 1) := by decide +kernel
theorem dX6_whyNot_47 : decode cX6_whyNot 47 = .ok (.iload_n 1, 1) := by decide +kernel
theorem dX6_whyNot_48 : decode cX6_whyNot 48 = .ok (.iconst 1, 1) := by decide +kernel
theorem dX6_whyNot_49 : decode cX6_whyNot 49 = .ok (.isub, 1) := by decide +kernel
theorem dX6_whyNot_50 : decode cX6_whyNot 50 = .ok (.invokevirtual 85, 3) := by decide +kernel
theorem dX6_whyNot_53 : decode cX6_whyNot 53 = .ok (.ifCond .eq 5, 3) := by decide +kernel
theorem dX6_whyNot_56 : decode cX6_whyNot 56 = .ok (.iconst 3, 1) := by decide +kernel
theorem dX6_whyNot_57 : decode cX6_whyNot 57 = .ok (.ireturn, 1) := by decide +kernel
theorem dX6_whyNot_58 : decode cX6_whyNot 58 = .ok (.iload_n 2, 1) := by decide +kernel
theorem dX6_whyNot_59 : decode cX6_whyNot 59 = .ok (.iconst 2, 1) := by decide +kernel
theorem dX6_whyNot_60 : decode cX6_whyNot 60 = .ok (.if_icmp .eq 34, 3) := by decide +kernel
theorem dX6_whyNot_63 : decode cX6_whyNot 63 = .ok (.aload_n 0, 1) := by decide +kernel
theorem dX6_whyNot_64 : decode cX6_whyNot 64 = .ok (.iload_n 1, 1) := by decide +kernel
theorem dX6_whyNot_65 : decode cX6_whyNot 65 = .ok (.iconst 2, 1) := by decide +kernel
theorem dX6_whyNot_66 : decode cX6_whyNot 66 = .ok (.invokevirtual 78, 3) := by decide +kernel
theorem dX6_whyNot_69 : decode cX6_whyNot 69 = .ok (.ifCond .ne 23, 3) := by decide +kernel
theorem dX6_whyNot_72 : decode cX6_whyNot 72 = .ok (.aload_n 0, 1) := by decide +kernel
theorem dX6_whyNot_73 : decode cX6_whyNot 73 = .ok (.iload_n 1, 1) := by decide +kernel
theorem dX6_whyNot_74 : decode cX6_whyNot 74 = .ok (.iconst 3, 1) := by decide +kernel
theorem dX6_whyNot_75 : decode cX6_whyNot 75 = .ok (.invokevirtual 78, 3) := by decide +kernel
theorem dX6_whyNot_78 : decode cX6_whyNot 78 = .ok (.ifCond .ne 14, 3) := by decide +kernel
theorem dX6_whyNot_81 : decode cX6_whyNot 81 = .ok (.aload_n 0, 1) := by decide +kernel
theorem dX6_whyNot_82 : decode cX6_whyNot 82 = .ok (.iload_n 1, 1) := by decide +kernel
theorem dX6_whyNot_83 : decode cX6_whyNot 83 = .ok (.iconst 1, 1) := by decide +kernel
theorem dX6_whyNot_84 : decode cX6_whyNot 84 = .ok (.isub, 1) := by decide +kernel
theorem dX6_whyNot_85 : decode cX6_whyNot 85 = .ok (.iconst 2, 1) := by decide +kernel
theorem dX6_whyNot_86 : decode cX6_whyNot 86 = .ok (.invokevirtual 78, 3) := by decide +kernel
theorem dX6_whyNot_89 : decode cX6_whyNot 89 = .ok (.ifCond .eq 5, 3) := by decide +kernel
theorem dX6_whyNot_92 : decode cX6_whyNot 92 = .ok (.iconst 4, 1) := by decide +kernel
theorem dX6_whyNot_93 : decode cX6_whyNot 93 = .ok (.ireturn, 1) := by decide +kernel
theorem dX6_whyNot_94 : decode cX6_whyNot 94 = .ok (.aload_n 0, 1) := by decide +kernel
theorem dX6_whyNot_95 : decode cX6_whyNot 95 = .ok (.iload_n 1, 1) := by decide +kernel
theorem dX6_whyNot_96 : decode cX6_whyNot 96 = .ok (.invokevirtual 88, 3) := by decide +kernel
theorem dX6_whyNot_99 : decode cX6_whyNot 99 = .ok (.ifCond .eq 7, 3) := by decide +kernel
theorem dX6_whyNot_102 : decode cX6_whyNot 102 = .ok (.iconst 5, 1) := by decide +kernel
theorem dX6_whyNot_103 : decode cX6_whyNot 103 = .ok (.goto 4, 3) := by decide +kernel
theorem dX6_whyNot_106 : decode cX6_whyNot 106 = .ok (.iconst 0, 1) := by decide +kernel
theorem dX6_whyNot_107 : decode cX6_whyNot 107 = .ok (.ireturn, 1) := by decide +kernel
set_option maxRecDepth 20000 in
theorem ggX6_isTooHigh_X6_isKind : GoodIn wsX6_isTooHigh wsX6_isKind := goodIn_r _ [9, 2, 14, 15, 16, 17, 18, 19, 20, 21, 22, 23, 24, 25, 26, 27, 28, 29, 30, 31, 32, 33, 34, 35, 36, 37, 38, 39, 40, 41, 42] (by decide +kernel) (by decide +kernel)
set_option maxRecDepth 20000 in
theorem gX6_isTooHigh_X6_isKind : GoodIn wsX6_isTooHigh (wsV RX6 78 RX6 yX6_isKind wsX6_isKind) := goodIn_app (goodIn_of _ (by decide +kernel)) ggX6_isTooHigh_X6_isKind
set_option maxRecDepth 20000 in
theorem ggX6_isTooHigh_X6_heightOf : GoodIn wsX6_isTooHigh wsX6_heightOf := goodIn_r _ [13, 2, 14, 15, 16, 17, 18, 19, 20, 21, 22, 23, 24, 25, 26, 27, 28, 29, 30, 31, 32, 33, 34, 35, 36, 37, 38, 39, 40, 41, 42] (by decide +kernel) (by decide +kernel)
set_option maxRecDepth 20000 in
theorem gX6_isTooHigh_X6_heightOf : GoodIn wsX6_isTooHigh (wsV RX6 63 RX6 yX6_heightOf wsX6_heightOf) := goodIn_app (goodIn_of _ (by decide +kernel)) ggX6_isTooHigh_X6_heightOf
theorem dX6_isTooHigh_0 : decode cX6_isTooHigh 0 = .ok (.aload_n 0, 1) := by decide +kernel
theorem dX6_isTooHigh_1 : decode cX6_isTooHigh 1 = .ok (.iload_n 1, 1) := by decide +kernel
theorem dX6_isTooHigh_2 : decode cX6_isTooHigh 2 = .ok (.iconst 2, 1) := by decide +kernel
theorem dX6_isTooHigh_3 : decode cX6_isTooHigh 3 = .ok (.invokevirtual 78, 3) := by decide +kernel
theorem dX6_isTooHigh_6 : decode cX6_isTooHigh 6 = .ok (.ifCond .eq 5, 3) := by decide +kernel
theorem dX6_isTooHigh_9 : decode cX6_isTooHigh 9 = .ok (.iconst 0, 1) := by decide +kernel
theorem dX6_isTooHigh_10 : decode cX6_isTooHigh 10 = .ok (.ireturn, 1) := by decide +kernel
theorem dX6_isTooHigh_11 : decode cX6_isTooHigh 11 = .ok (.aload_n 0, 1) := by decide +kernel
theorem dX6_isTooHigh_12 : decode cX6_isTooHigh 12 = .ok (.getfield 29, 3) := by decide +kernel
theorem dX6_isTooHigh_15 : decode cX6_isTooHigh 15 = .ok (.iload_n 1, 1) := by decide +kernel
theorem dX6_isTooHigh_16 : decode cX6_isTooHigh 16 = .ok (.iaload, 1) := by decide +kernel
theorem dX6_isTooHigh_17 : decode cX6_isTooHigh 17 = .ok (.iconst 2, 1) := by decide +kernel
theorem dX6_isTooHigh_18 : decode cX6_isTooHigh 18 = .ok (.if_icmp .ne 15, 3) := by decide +kernel
theorem dX6_isTooHigh_21 : decode cX6_isTooHigh 21 = .ok (.aload_n 0, 1) := by decide +kernel
theorem dX6_isTooHigh_22 : decode cX6_isTooHigh 22 = .ok (.getfield 7, 3) := by decide +kernel
theorem dX6_isTooHigh_25 : decode cX6_isTooHigh 25 = .ok (.bipush 9, 2) := by decide +kernel
theorem dX6_isTooHigh_27 : decode cX6_isTooHigh 27 = .ok (.iload_n 1, 1) := by decide +kernel
theorem dX6_isTooHigh_28 : decode cX6_isTooHigh 28 = .ok (.iadd, 1) := by decide +kernel
theorem dX6_isTooHigh_29 : decode cX6_isTooHigh 29 = .ok (.iaload, 1) := by decide +kernel
theorem dX6_isTooHigh_30 : decode cX6_isTooHigh 30 = .ok (.goto 66, 3) := by decide +kernel
theorem dX6_isTooHigh_33 : decode cX6_isTooHigh 33 = .ok (.aload_n 0, 1) := by decide +kernel
theorem dX6_isTooHigh_34 : decode cX6_isTooHigh 34 = .ok (.getfield 29, 3) := by decide +kernel
theorem dX6_isTooHigh_37 : decode cX6_isTooHigh 37 = .ok (.iload_n 1, 1) := by decide +kernel
theorem dX6_isTooHigh_38 : decode cX6_isTooHigh 38 = .ok (.iaload, 1) := by decide +kernel
theorem dX6_isTooHigh_39 : decode cX6_isTooHigh 39 = .ok (.iconst 1, 1) := by decide +kernel
theorem dX6_isTooHigh_40 : decode cX6_isTooHigh 40 = .ok (.if_icmp .ne 35, 3) := by decide +kernel
theorem dX6_isTooHigh_43 : decode cX6_isTooHigh 43 = .ok (.aload_n 0, 1) := by decide +kernel
theorem dX6_isTooHigh_44 : decode cX6_isTooHigh 44 = .ok (.getfield 91, 3) := by decide +kernel
theorem dX6_isTooHigh_47 : decode cX6_isTooHigh 47 = .ok (.aload_n 0, 1) := by decide +kernel
theorem dX6_isTooHigh_48 : decode cX6_isTooHigh 48 = .ok (.aload_n 0, 1) := by decide +kernel
theorem dX6_isTooHigh_49 : decode cX6_isTooHigh 49 = .ok (.getfield 81, 3) := by decide +kernel
theorem dX6_isTooHigh_52 : decode cX6_isTooHigh 52 = .ok (.iload_n 1, 1) := by decide +kernel
theorem dX6_isTooHigh_53 : decode cX6_isTooHigh 53 = .ok (.aload_n 0, 1) := by decide +kernel
theorem dX6_isTooHigh_54 : decode cX6_isTooHigh 54 = .ok (.getfield 81, 3) := by decide +kernel
theorem dX6_isTooHigh_57 : decode cX6_isTooHigh 57 = .ok (.isub, 1) := by decide +kernel
theorem dX6_isTooHigh_58 : decode cX6_isTooHigh 58 = .ok (.invokevirtual 63, 3) := by decide +kernel
theorem dX6_isTooHigh_61 : decode cX6_isTooHigh 61 = .ok (.iadd, 1) := by decide +kernel
theorem dX6_isTooHigh_62 : decode cX6_isTooHigh 62 = .ok (.aload_n 0, 1) := by decide +kernel
theorem dX6_isTooHigh_63 : decode cX6_isTooHigh 63 = .ok (.getfield 7, 3) := by decide +kernel
theorem dX6_isTooHigh_66 : decode cX6_isTooHigh 66 = .ok (.bipush 9, 2) := by decide +kernel
theorem dX6_isTooHigh_68 : decode cX6_isTooHigh 68 = .ok (.iload_n 1, 1) := by decide +kernel
theorem dX6_isTooHigh_69 : decode cX6_isTooHigh 69 = .ok (.iadd, 1) := by decide +kernel
theorem dX6_isTooHigh_70 : decode cX6_isTooHigh 70 = .ok (.iaload, 1) := by decide +kernel
theorem dX6_isTooHigh_71 : decode cX6_isTooHigh 71 = .ok (.iadd, 1) := by decide +kernel
theorem dX6_isTooHigh_72 : decode cX6_isTooHigh 72 = .ok (.goto 24, 3) := by decide +kernel
theorem dX6_isTooHigh_75 : decode cX6_isTooHigh 75 = .ok (.aload_n 0, 1) := by decide +kernel
theorem dX6_isTooHigh_76 : decode cX6_isTooHigh 76 = .ok (.getfield 91, 3) := by decide +kernel
theorem dX6_isTooHigh_79 : decode cX6_isTooHigh 79 = .ok (.aload_n 0, 1) := by decide +kernel
theorem dX6_isTooHigh_80 : decode cX6_isTooHigh 80 = .ok (.aload_n 0, 1) := by decide +kernel
theorem dX6_isTooHigh_81 : decode cX6_isTooHigh 81 = .ok (.getfield 81, 3) := by decide +kernel
theorem dX6_isTooHigh_84 : decode cX6_isTooHigh 84 = .ok (.iload_n 1, 1) := by decide +kernel
theorem dX6_isTooHigh_85 : decode cX6_isTooHigh 85 = .ok (.aload_n 0, 1) := by decide +kernel
theorem dX6_isTooHigh_86 : decode cX6_isTooHigh 86 = .ok (.getfield 81, 3) := by decide +kernel
theorem dX6_isTooHigh_89 : decode cX6_isTooHigh 89 = .ok (.isub, 1) := by decide +kernel
theorem dX6_isTooHigh_90 : decode cX6_isTooHigh 90 = .ok (.iconst 1, 1) := by decide +kernel
theorem dX6_isTooHigh_91 : decode cX6_isTooHigh 91 = .ok (.iadd, 1) := by decide +kernel
theorem dX6_isTooHigh_92 : decode cX6_isTooHigh 92 = .ok (.invokevirtual 63, 3) := by decide +kernel
theorem dX6_isTooHigh_95 : decode cX6_isTooHigh 95 = .ok (.iadd, 1) := by decide +kernel
theorem dX6_isTooHigh_96 : decode cX6_isTooHigh 96 = .ok (.istore_n 2, 1) := by decide +kernel
theorem dX6_isTooHigh_97 : decode cX6_isTooHigh 97 = .ok (.iload_n 2, 1) := by decide +kernel
theorem dX6_isTooHigh_98 : decode cX6_isTooHigh 98 = .ok (.aload_n 0, 1) := by decide +kernel
theorem dX6_isTooHigh_99 : decode cX6_isTooHigh 99 = .ok (.getfield 7, 3) := by decide +kernel
theorem dX6_isTooHigh_102 : decode cX6_isTooHigh 102 = .ok (.bipush 73, 2) := by decide +kernel
theorem dX6_isTooHigh_104 : decode cX6_isTooHigh 104 = .ok (.iaload, 1) := by decide +kernel
theorem dX6_isTooHigh_105 : decode cX6_isTooHigh 105 = .ok (.if_icmp .le 7, 3) := by decide +kernel
theorem dX6_isTooHigh_108 : decode cX6_isTooHigh 108 = .ok (.iconst 1, 1) := by decide +kernel
theorem dX6_isTooHigh_109 : decode cX6_isTooHigh 109 = .ok (.goto 4, 3) := by decide +kernel
theorem dX6_isTooHigh_112 : decode cX6_isTooHigh 112 = .ok (.iconst 0, 1) := by decide +kernel
theorem dX6_isTooHigh_113 : decode cX6_isTooHigh 113 = .ok (.ireturn, 1) := by decide +kernel
theorem dX6_squareLeft_0 : decode cX6_squareLeft 0 = .ok (.aload_n 0, 1) := by decide +kernel
theorem dX6_squareLeft_1 : decode cX6_squareLeft 1 = .ok (.getfield 7, 3) := by decide +kernel
theorem dX6_squareLeft_4 : decode cX6_squareLeft 4 = .ok (.bipush 73, 2) := by decide +kernel
theorem dX6_squareLeft_6 : decode cX6_squareLeft 6 = .ok (.iaload, 1) := by decide +kernel
theorem dX6_squareLeft_7 : decode cX6_squareLeft 7 = .ok (.iload_n 1, 1) := by decide +kernel
theorem dX6_squareLeft_8 : decode cX6_squareLeft 8 = .ok (.isub, 1) := by decide +kernel
theorem dX6_squareLeft_9 : decode cX6_squareLeft 9 = .ok (.istore_n 2, 1) := by decide +kernel
theorem dX6_squareLeft_10 : decode cX6_squareLeft 10 = .ok (.iload_n 2, 1) := by decide +kernel
theorem dX6_squareLeft_11 : decode cX6_squareLeft 11 = .ok (.iload_n 2, 1) := by decide +kernel
theorem dX6_squareLeft_12 : decode cX6_squareLeft 12 = .ok (.imul, 1) := by decide +kernel
theorem dX6_squareLeft_13 : decode cX6_squareLeft 13 = .ok (.ireturn, 1) := by decide +kernel
set_option maxRecDepth 20000 in
theorem ggX6_endTier_X6_isKind : GoodIn wsX6_endTier wsX6_isKind := goodIn_r _ [7, 8, 17, 18, 19, 20, 21, 22, 23, 24, 25, 26, 27, 28, 29, 30, 31, 32, 33, 34, 35, 36, 37, 38, 39, 40, 41, 42, 43, 44, 45] (by decide +kernel) (by decide +kernel)
set_option maxRecDepth 20000 in
theorem gX6_endTier_X6_isKind : GoodIn wsX6_endTier (wsV RX6 78 RX6 yX6_isKind wsX6_isKind) := goodIn_app (goodIn_of _ (by decide +kernel)) ggX6_endTier_X6_isKind
set_option maxRecDepth 20000 in
theorem ggX6_endTier_X6_gapsOf : GoodIn wsX6_endTier wsX6_gapsOf := goodIn_r _ [12, 8, 13, 14, 15, 6, 16, 17, 18, 19, 20, 21, 22, 23, 24, 25, 26, 27, 28, 29, 30, 31, 32, 33, 34, 35, 36, 37, 38, 39, 40, 41, 42, 43, 44, 45] (by decide +kernel) (by decide +kernel)
set_option maxRecDepth 20000 in
theorem gX6_endTier_X6_gapsOf : GoodIn wsX6_endTier (wsV RX6 71 RX6 yX6_gapsOf wsX6_gapsOf) := goodIn_app (goodIn_of _ (by decide +kernel)) ggX6_endTier_X6_gapsOf
theorem dX6_endTier_0 : decode cX6_endTier 0 = .ok (.iload_n 1, 1) := by decide +kernel
theorem dX6_endTier_1 : decode cX6_endTier 1 = .ok (.ifCond .le 41, 3) := by decide +kernel
theorem dX6_endTier_4 : decode cX6_endTier 4 = .ok (.aload_n 0, 1) := by decide +kernel
theorem dX6_endTier_5 : decode cX6_endTier 5 = .ok (.dup, 1) := by decide +kernel
theorem dX6_endTier_6 : decode cX6_endTier 6 = .ok (.getfield 94, 3) := by decide +kernel
theorem dX6_endTier_9 : decode cX6_endTier 9 = .ok (.aload_n 0, 1) := by decide +kernel
theorem dX6_endTier_10 : decode cX6_endTier 10 = .ok (.iload_n 1, 1) := by decide +kernel
theorem dX6_endTier_11 : decode cX6_endTier 11 = .ok (.iconst 1, 1) := by decide +kernel
theorem dX6_endTier_12 : decode cX6_endTier 12 = .ok (.isub, 1) := by decide +kernel
theorem dX6_endTier_13 : decode cX6_endTier 13 = .ok (.iconst 2, 1) := by decide +kernel
theorem dX6_endTier_14 : decode cX6_endTier 14 = .ok (.invokevirtual 78, 3) := by decide +kernel
theorem dX6_endTier_17 : decode cX6_endTier 17 = .ok (.ifCond .eq 7, 3) := by decide +kernel
theorem dX6_endTier_20 : decode cX6_endTier 20 = .ok (.iconst 0, 1) := by decide +kernel
theorem dX6_endTier_21 : decode cX6_endTier 21 = .ok (.goto 17, 3) := by decide +kernel
theorem dX6_endTier_24 : decode cX6_endTier 24 = .ok (.aload_n 0, 1) := by decide +kernel
theorem dX6_endTier_25 : decode cX6_endTier 25 = .ok (.aload_n 0, 1) := by decide +kernel
theorem dX6_endTier_26 : decode cX6_endTier 26 = .ok (.getfield 81, 3) := by decide +kernel
theorem dX6_endTier_29 : decode cX6_endTier 29 = .ok (.iload_n 1, 1) := by decide +kernel
theorem dX6_endTier_30 : decode cX6_endTier 30 = .ok (.aload_n 0, 1) := by decide +kernel
theorem dX6_endTier_31 : decode cX6_endTier 31 = .ok (.getfield 81, 3) := by decide +kernel
theorem dX6_endTier_34 : decode cX6_endTier 34 = .ok (.isub, 1) := by decide +kernel
theorem dX6_endTier_35 : decode cX6_endTier 35 = .ok (.invokevirtual 71, 3) := by decide +kernel
theorem dX6_endTier_38 : decode cX6_endTier 38 = .ok (.iadd, 1) := by decide +kernel
theorem dX6_endTier_39 : decode cX6_endTier 39 = .ok (.putfield 94, 3) := by decide +kernel
theorem dX6_endTier_42 : decode cX6_endTier 42 = .ok (.return_, 1) := by decide +kernel
set_option maxRecDepth 20000 in
theorem ggX6_endPage_X6_isKind : GoodIn wsX6_endPage wsX6_isKind := goodIn_r _ [8, 9, 18, 19, 20, 21, 22, 23, 24, 25, 26, 27, 28, 29, 30, 31, 32, 33, 34, 35, 36, 37, 38, 39, 40, 41, 42, 43, 44, 45, 46] (by decide +kernel) (by decide +kernel)
set_option maxRecDepth 20000 in
theorem gX6_endPage_X6_isKind : GoodIn wsX6_endPage (wsV RX6 78 RX6 yX6_isKind wsX6_isKind) := goodIn_app (goodIn_of _ (by decide +kernel)) ggX6_endPage_X6_isKind
set_option maxRecDepth 20000 in
theorem ggX6_endPage_X6_heightOf : GoodIn wsX6_endPage wsX6_heightOf := goodIn_r _ [13, 9, 18, 19, 20, 21, 22, 23, 24, 25, 26, 27, 28, 29, 30, 31, 32, 33, 34, 35, 36, 37, 38, 39, 40, 41, 42, 43, 44, 45, 46] (by decide +kernel) (by decide +kernel)
set_option maxRecDepth 20000 in
theorem gX6_endPage_X6_heightOf : GoodIn wsX6_endPage (wsV RX6 63 RX6 yX6_heightOf wsX6_heightOf) := goodIn_app (goodIn_of _ (by decide +kernel)) ggX6_endPage_X6_heightOf
set_option maxRecDepth 20000 in
theorem ggX6_endPage_X6_squareLeft : GoodIn wsX6_endPage wsX6_squareLeft := goodIn_r _ [17, 9, 18, 19, 20, 21, 22, 23, 24, 25, 26, 27, 28, 29, 30, 31, 32, 33, 34, 35, 36, 37, 38, 39, 40, 41, 42, 43, 44, 45, 46] (by decide +kernel) (by decide +kernel)
set_option maxRecDepth 20000 in
theorem gX6_endPage_X6_squareLeft : GoodIn wsX6_endPage (wsV RX6 97 RX6 yX6_squareLeft wsX6_squareLeft) := goodIn_app (goodIn_of _ (by decide +kernel)) ggX6_endPage_X6_squareLeft
theorem dX6_endPage_0 : decode cX6_endPage 0 = .ok (.iload_n 1, 1) := by decide +kernel
theorem dX6_endPage_1 : decode cX6_endPage 1 = .ok (.ifCond .le 46, 3) := by decide +kernel
theorem dX6_endPage_4 : decode cX6_endPage 4 = .ok (.aload_n 0, 1) := by decide +kernel
theorem dX6_endPage_5 : decode cX6_endPage 5 = .ok (.iload_n 1, 1) := by decide +kernel
theorem dX6_endPage_6 : decode cX6_endPage 6 = .ok (.iconst 1, 1) := by decide +kernel
theorem dX6_endPage_7 : decode cX6_endPage 7 = .ok (.isub, 1) := by decide +kernel
theorem dX6_endPage_8 : decode cX6_endPage 8 = .ok (.iconst 2, 1) := by decide +kernel
theorem dX6_endPage_9 : decode cX6_endPage 9 = .ok (.invokevirtual 78, 3) := by decide +kernel
theorem dX6_endPage_12 : decode cX6_endPage 12 = .ok (.ifCond .ne 35, 3) := by decide +kernel
theorem dX6_endPage_15 : decode cX6_endPage 15 = .ok (.aload_n 0, 1) := by decide +kernel
theorem dX6_endPage_16 : decode cX6_endPage 16 = .ok (.dup, 1) := by decide +kernel
theorem dX6_endPage_17 : decode cX6_endPage 17 = .ok (.getfield 94, 3) := by decide +kernel
theorem dX6_endPage_20 : decode cX6_endPage 20 = .ok (.aload_n 0, 1) := by decide +kernel
theorem dX6_endPage_21 : decode cX6_endPage 21 = .ok (.aload_n 0, 1) := by decide +kernel
theorem dX6_endPage_22 : decode cX6_endPage 22 = .ok (.getfield 91, 3) := by decide +kernel
theorem dX6_endPage_25 : decode cX6_endPage 25 = .ok (.aload_n 0, 1) := by decide +kernel
theorem dX6_endPage_26 : decode cX6_endPage 26 = .ok (.aload_n 0, 1) := by decide +kernel
theorem dX6_endPage_27 : decode cX6_endPage 27 = .ok (.getfield 81, 3) := by decide +kernel
theorem dX6_endPage_30 : decode cX6_endPage 30 = .ok (.iload_n 1, 1) := by decide +kernel
theorem dX6_endPage_31 : decode cX6_endPage 31 = .ok (.aload_n 0, 1) := by decide +kernel
theorem dX6_endPage_32 : decode cX6_endPage 32 = .ok (.getfield 81, 3) := by decide +kernel
theorem dX6_endPage_35 : decode cX6_endPage 35 = .ok (.isub, 1) := by decide +kernel
theorem dX6_endPage_36 : decode cX6_endPage 36 = .ok (.invokevirtual 63, 3) := by decide +kernel
theorem dX6_endPage_39 : decode cX6_endPage 39 = .ok (.iadd, 1) := by decide +kernel
theorem dX6_endPage_40 : decode cX6_endPage 40 = .ok (.invokevirtual 97, 3) := by decide +kernel
theorem dX6_endPage_43 : decode cX6_endPage 43 = .ok (.iadd, 1) := by decide +kernel
theorem dX6_endPage_44 : decode cX6_endPage 44 = .ok (.putfield 94, 3) := by decide +kernel
theorem dX6_endPage_47 : decode cX6_endPage 47 = .ok (.return_, 1) := by decide +kernel
set_option maxRecDepth 20000 in
theorem ggX6_beginPage_X6_endTier : GoodIn wsX6_beginPage wsX6_endTier := goodIn_r _ [12, 3, 7, 13, 14, 15, 11, 16, 17, 18, 19, 20, 21, 22, 23, 24, 25, 34, 35, 36, 37, 38, 39, 40, 41, 42, 43, 44, 45, 46, 47, 48, 49, 50, 51, 52, 53, 54, 55, 56, 57, 58, 59, 60, 61, 62] (by decide +kernel) (by decide +kernel)
set_option maxRecDepth 20000 in
theorem gX6_beginPage_X6_endTier : GoodIn wsX6_beginPage (wsV RX6 100 RX6 yX6_endTier wsX6_endTier) := goodIn_app (goodIn_of _ (by decide +kernel)) ggX6_beginPage_X6_endTier
set_option maxRecDepth 20000 in
theorem ggX6_beginPage_X6_endPage : GoodIn wsX6_beginPage wsX6_endPage := goodIn_r _ [29, 3, 6, 7, 13, 14, 15, 11, 16, 17, 22, 23, 24, 25, 30, 31, 32, 33, 34, 35, 36, 37, 38, 39, 40, 41, 42, 43, 44, 45, 46, 47, 48, 49, 50, 51, 52, 53, 54, 55, 56, 57, 58, 59, 60, 61, 62] (by decide +kernel) (by decide +kernel)
set_option maxRecDepth 20000 in
theorem gX6_beginPage_X6_endPage : GoodIn wsX6_beginPage (wsV RX6 104 RX6 yX6_endPage wsX6_endPage) := goodIn_app (goodIn_of _ (by decide +kernel)) ggX6_beginPage_X6_endPage
set_option maxRecDepth 20000 in
theorem ggX6_beginPage_X6_isKind : GoodIn wsX6_beginPage wsX6_isKind := goodIn_r _ [16, 17, 34, 35, 36, 37, 38, 39, 40, 41, 42, 43, 44, 45, 46, 47, 48, 49, 50, 51, 52, 53, 54, 55, 56, 57, 58, 59, 60, 61, 62] (by decide +kernel) (by decide +kernel)
set_option maxRecDepth 20000 in
theorem gX6_beginPage_X6_isKind : GoodIn wsX6_beginPage (wsV RX6 78 RX6 yX6_isKind wsX6_isKind) := goodIn_app (goodIn_of _ (by decide +kernel)) ggX6_beginPage_X6_isKind
set_option maxRecDepth 20000 in
theorem ggX6_beginPage_X6_squareLeft : GoodIn wsX6_beginPage wsX6_squareLeft := goodIn_r _ [33, 17, 34, 35, 36, 37, 38, 39, 40, 41, 42, 43, 44, 45, 46, 47, 48, 49, 50, 51, 52, 53, 54, 55, 56, 57, 58, 59, 60, 61, 62] (by decide +kernel) (by decide +kernel)
set_option maxRecDepth 20000 in
theorem gX6_beginPage_X6_squareLeft : GoodIn wsX6_beginPage (wsV RX6 97 RX6 yX6_squareLeft wsX6_squareLeft) := goodIn_app (goodIn_of _ (by decide +kernel)) ggX6_beginPage_X6_squareLeft
theorem dX6_beginPage_0 : decode cX6_beginPage 0 = .ok (.aload_n 0, 1) := by decide +kernel
theorem dX6_beginPage_1 : decode cX6_beginPage 1 = .ok (.iload_n 1, 1) := by decide +kernel
theorem dX6_beginPage_2 : decode cX6_beginPage 2 = .ok (.invokevirtual 100, 3) := by decide +kernel
theorem dX6_beginPage_5 : decode cX6_beginPage 5 = .ok (.aload_n 0, 1) := by decide +kernel
theorem dX6_beginPage_6 : decode cX6_beginPage 6 = .ok (.iload_n 1, 1) := by decide +kernel
theorem dX6_beginPage_7 : decode cX6_beginPage 7 = .ok (.invokevirtual 104, 3) := by decide +kernel
theorem dX6_beginPage_10 : decode cX6_beginPage 10 = .ok (.aload_n 0, 1) := by decide +kernel
theorem dX6_beginPage_11 : decode cX6_beginPage 11 = .ok (.iload_n 1, 1) := by decide +kernel
theorem dX6_beginPage_12 : decode cX6_beginPage 12 = .ok (.iconst 2, 1) := by decide +kernel
theorem dX6_beginPage_13 : decode cX6_beginPage 13 = .ok (.invokevirtual 78, 3) := by decide +kernel
theorem dX6_beginPage_16 : decode cX6_beginPage 16 = .ok (.ifCond .ne 12, 3) := by decide +kernel
theorem dX6_beginPage_19 : decode cX6_beginPage 19 = .ok (.aload_n 0, 1) := by decide +kernel
theorem dX6_beginPage_20 : decode cX6_beginPage 20 = .ok (.iload_n 1, 1) := by decide +kernel
theorem dX6_beginPage_21 : decode cX6_beginPage 21 = .ok (.iconst 3, 1) := by decide +kernel
theorem dX6_beginPage_22 : decode cX6_beginPage 22 = .ok (.invokevirtual 78, 3) := by decide +kernel
theorem dX6_beginPage_25 : decode cX6_beginPage 25 = .ok (.ifCond .eq 46, 3) := by decide +kernel
theorem dX6_beginPage_28 : decode cX6_beginPage 28 = .ok (.aload_n 0, 1) := by decide +kernel
theorem dX6_beginPage_29 : decode cX6_beginPage 29 = .ok (.getfield 107, 3) := by decide +kernel
theorem dX6_beginPage_32 : decode cX6_beginPage 32 = .ok (.iconst 2, 1) := by decide +kernel
theorem dX6_beginPage_33 : decode cX6_beginPage 33 = .ok (.irem, 1) := by decide +kernel
theorem dX6_beginPage_34 : decode cX6_beginPage 34 = .ok (.ifCond .ne 37, 3) := by decide +kernel
theorem dX6_beginPage_37 : decode cX6_beginPage 37 = .ok (.aload_n 0, 1) := by decide +kernel
theorem dX6_beginPage_38 : decode cX6_beginPage 38 = .ok (.dup, 1) := by decide +kernel
theorem dX6_beginPage_39 : decode cX6_beginPage 39 = .ok (.getfield 107, 3) := by decide +kernel
theorem dX6_beginPage_42 : decode cX6_beginPage 42 = .ok (.iconst 1, 1) := by decide +kernel
theorem dX6_beginPage_43 : decode cX6_beginPage 43 = .ok (.iadd, 1) := by decide +kernel
theorem dX6_beginPage_44 : decode cX6_beginPage 44 = .ok (.putfield 107, 3) := by decide +kernel
theorem dX6_beginPage_47 : decode cX6_beginPage 47 = .ok (.aload_n 0, 1) := by decide +kernel
theorem dX6_beginPage_48 : decode cX6_beginPage 48 = .ok (.dup, 1) := by decide +kernel
theorem dX6_beginPage_49 : decode cX6_beginPage 49 = .ok (.getfield 110, 3) := by decide +kernel
theorem dX6_beginPage_52 : decode cX6_beginPage 52 = .ok (.iconst 1, 1) := by decide +kernel
theorem dX6_beginPage_53 : decode cX6_beginPage 53 = .ok (.iadd, 1) := by decide +kernel
theorem dX6_beginPage_54 : decode cX6_beginPage 54 = .ok (.putfield 110, 3) := by decide +kernel
theorem dX6_beginPage_57 : decode cX6_beginPage 57 = .ok (.aload_n 0, 1) := by decide +kernel
theorem dX6_beginPage_58 : decode cX6_beginPage 58 = .ok (.dup, 1) := by decide +kernel
theorem dX6_beginPage_59 : decode cX6_beginPage 59 = .ok (.getfield 94, 3) := by decide +kernel
theorem dX6_beginPage_62 : decode cX6_beginPage 62 = .ok (.aload_n 0, 1) := by decide +kernel
theorem dX6_beginPage_63 : decode cX6_beginPage 63 = .ok (.iconst 0, 1) := by decide +kernel
theorem dX6_beginPage_64 : decode cX6_beginPage 64 = .ok (.invokevirtual 97, 3) := by decide +kernel
theorem dX6_beginPage_67 : decode cX6_beginPage 67 = .ok (.iadd, 1) := by decide +kernel
theorem dX6_beginPage_68 : decode cX6_beginPage 68 = .ok (.putfield 94, 3) := by decide +kernel
theorem dX6_beginPage_71 : decode cX6_beginPage 71 = .ok (.aload_n 0, 1) := by decide +kernel
theorem dX6_beginPage_72 : decode cX6_beginPage 72 = .ok (.getfield 32, 3) := by decide +kernel
theorem dX6_beginPage_75 : decode cX6_beginPage 75 = .ok (.iload_n 1, 1) := by decide +kernel
theorem dX6_beginPage_76 : decode cX6_beginPage 76 = .ok (.aload_n 0, 1) := by decide +kernel
theorem dX6_beginPage_77 : decode cX6_beginPage 77 = .ok (.getfield 107, 3) := by decide +kernel
theorem dX6_beginPage_80 : decode cX6_beginPage 80 = .ok (.iastore, 1) := by decide +kernel
theorem dX6_beginPage_81 : decode cX6_beginPage 81 = .ok (.aload_n 0, 1) := by decide +kernel
theorem dX6_beginPage_82 : decode cX6_beginPage 82 = .ok (.dup, 1) := by decide +kernel
theorem dX6_beginPage_83 : decode cX6_beginPage 83 = .ok (.getfield 107, 3) := by decide +kernel
theorem dX6_beginPage_86 : decode cX6_beginPage 86 = .ok (.aload_n 0, 1) := by decide +kernel
theorem dX6_beginPage_87 : decode cX6_beginPage 87 = .ok (.iload_n 1, 1) := by decide +kernel
theorem dX6_beginPage_88 : decode cX6_beginPage 88 = .ok (.iconst 2, 1) := by decide +kernel
theorem dX6_beginPage_89 : decode cX6_beginPage 89 = .ok (.invokevirtual 78, 3) := by decide +kernel
theorem dX6_beginPage_92 : decode cX6_beginPage 92 = .ok (.ifCond .eq 7, 3) := by decide +kernel
theorem dX6_beginPage_95 : decode cX6_beginPage 95 = .ok (.iconst 2, 1) := by decide +kernel
theorem dX6_beginPage_96 : decode cX6_beginPage 96 = .ok (.goto 4, 3) := by decide +kernel
theorem dX6_beginPage_99 : decode cX6_beginPage 99 = .ok (.iconst 1, 1) := by decide +kernel
theorem dX6_beginPage_100 : decode cX6_beginPage 100 = .ok (.iadd, 1) := by decide +kernel
theorem dX6_beginPage_101 : decode cX6_beginPage 101 = .ok (.putfield 107, 3) := by decide +kernel
theorem dX6_beginPage_104 : decode cX6_beginPage 104 = .ok (.aload_n 0, 1) := by decide +kernel
theorem dX6_beginPage_105 : decode cX6_beginPage 105 = .ok (.getfield 35, 3) := by decide +kernel
theorem dX6_beginPage_108 : decode cX6_beginPage 108 = .ok (.iload_n 1, 1) := by decide +kernel
theorem dX6_beginPage_109 : decode cX6_beginPage 109 = .ok (.iconst 0, 1) := by decide +kernel
theorem dX6_beginPage_110 : decode cX6_beginPage 110 = .ok (.iastore, 1) := by decide +kernel
theorem dX6_beginPage_111 : decode cX6_beginPage 111 = .ok (.aload_n 0, 1) := by decide +kernel
theorem dX6_beginPage_112 : decode cX6_beginPage 112 = .ok (.iconst 0, 1) := by decide +kernel
theorem dX6_beginPage_113 : decode cX6_beginPage 113 = .ok (.putfield 91, 3) := by decide +kernel
theorem dX6_beginPage_116 : decode cX6_beginPage 116 = .ok (.aload_n 0, 1) := by decide +kernel
theorem dX6_beginPage_117 : decode cX6_beginPage 117 = .ok (.iload_n 1, 1) := by decide +kernel
theorem dX6_beginPage_118 : decode cX6_beginPage 118 = .ok (.putfield 81, 3) := by decide +kernel
theorem dX6_beginPage_121 : decode cX6_beginPage 121 = .ok (.return_, 1) := by decide +kernel
set_option maxRecDepth 20000 in
theorem ggX6_put_X6_beginPage : GoodIn wsX6_put wsX6_beginPage := goodIn_r _ [12, 13, 14, 15, 3, 4, 5, 6, 16, 17, 18, 11, 19, 20, 21, 22, 23, 24, 25, 26, 27, 28, 29, 30, 31, 32, 33, 34, 35, 36, 37, 38, 39, 40, 41, 42, 43, 44, 45, 46, 47, 48, 49, 50, 51, 52, 53, 54, 55, 56, 57, 58, 59, 60, 61, 62, 63, 64, 65, 66, 67, 68, 69] (by decide +kernel) (by decide +kernel)
set_option maxRecDepth 20000 in
theorem gX6_put_X6_beginPage : GoodIn wsX6_put (wsV RX6 113 RX6 yX6_beginPage wsX6_beginPage) := goodIn_app (goodIn_of _ (by decide +kernel)) ggX6_put_X6_beginPage
set_option maxRecDepth 20000 in
theorem ggX6_put_X6_endTier : GoodIn wsX6_put wsX6_endTier := goodIn_r _ [19, 15, 6, 20, 21, 22, 11, 23, 24, 25, 26, 27, 28, 29, 30, 31, 32, 41, 42, 43, 44, 45, 46, 47, 48, 49, 50, 51, 52, 53, 54, 55, 56, 57, 58, 59, 60, 61, 62, 63, 64, 65, 66, 67, 68, 69] (by decide +kernel) (by decide +kernel)
set_option maxRecDepth 20000 in
theorem gX6_put_X6_endTier : GoodIn wsX6_put (wsV RX6 100 RX6 yX6_endTier wsX6_endTier) := goodIn_app (goodIn_of _ (by decide +kernel)) ggX6_put_X6_endTier
set_option maxRecDepth 20000 in
theorem ggX6_put_X6_heightOf : GoodIn wsX6_put wsX6_heightOf := goodIn_r _ [32, 24, 41, 42, 43, 44, 45, 46, 47, 48, 49, 50, 51, 52, 53, 54, 55, 56, 57, 58, 59, 60, 61, 62, 63, 64, 65, 66, 67, 68, 69] (by decide +kernel) (by decide +kernel)
set_option maxRecDepth 20000 in
theorem gX6_put_X6_heightOf : GoodIn wsX6_put (wsV RX6 63 RX6 yX6_heightOf wsX6_heightOf) := goodIn_app (goodIn_of _ (by decide +kernel)) ggX6_put_X6_heightOf
theorem dX6_put_0 : decode cX6_put 0 = .ok (.aload_n 0, 1) := by decide +kernel
theorem dX6_put_1 : decode cX6_put 1 = .ok (.getfield 29, 3) := by decide +kernel
theorem dX6_put_4 : decode cX6_put 4 = .ok (.iload_n 1, 1) := by decide +kernel
theorem dX6_put_5 : decode cX6_put 5 = .ok (.iaload, 1) := by decide +kernel
theorem dX6_put_6 : decode cX6_put 6 = .ok (.iconst 2, 1) := by decide +kernel
theorem dX6_put_7 : decode cX6_put 7 = .ok (.if_icmp .ne 21, 3) := by decide +kernel
theorem dX6_put_10 : decode cX6_put 10 = .ok (.aload_n 0, 1) := by decide +kernel
theorem dX6_put_11 : decode cX6_put 11 = .ok (.iload_n 1, 1) := by decide +kernel
theorem dX6_put_12 : decode cX6_put 12 = .ok (.invokevirtual 113, 3) := by decide +kernel
theorem dX6_put_15 : decode cX6_put 15 = .ok (.aload_n 0, 1) := by decide +kernel
theorem dX6_put_16 : decode cX6_put 16 = .ok (.dup, 1) := by decide +kernel
theorem dX6_put_17 : decode cX6_put 17 = .ok (.getfield 116, 3) := by decide +kernel
theorem dX6_put_20 : decode cX6_put 20 = .ok (.iconst 1, 1) := by decide +kernel
theorem dX6_put_21 : decode cX6_put 21 = .ok (.iadd, 1) := by decide +kernel
theorem dX6_put_22 : decode cX6_put 22 = .ok (.putfield 116, 3) := by decide +kernel
theorem dX6_put_25 : decode cX6_put 25 = .ok (.goto 91, 3) := by decide +kernel
theorem dX6_put_28 : decode cX6_put 28 = .ok (.aload_n 0, 1) := by decide +kernel
theorem dX6_put_29 : decode cX6_put 29 = .ok (.getfield 32, 3) := by decide +kernel
theorem dX6_put_32 : decode cX6_put 32 = .ok (.iload_n 1, 1) := by decide +kernel
theorem dX6_put_33 : decode cX6_put 33 = .ok (.aload_n 0, 1) := by decide +kernel
theorem dX6_put_34 : decode cX6_put 34 = .ok (.getfield 32, 3) := by decide +kernel
theorem dX6_put_37 : decode cX6_put 37 = .ok (.iload_n 1, 1) := by decide +kernel
theorem dX6_put_38 : decode cX6_put 38 = .ok (.iconst 1, 1) := by decide +kernel
theorem dX6_put_39 : decode cX6_put 39 = .ok (.isub, 1) := by decide +kernel
theorem dX6_put_40 : decode cX6_put 40 = .ok (.iaload, 1) := by decide +kernel
theorem dX6_put_41 : decode cX6_put 41 = .ok (.iastore, 1) := by decide +kernel
theorem dX6_put_42 : decode cX6_put 42 = .ok (.aload_n 0, 1) := by decide +kernel
theorem dX6_put_43 : decode cX6_put 43 = .ok (.getfield 35, 3) := by decide +kernel
theorem dX6_put_46 : decode cX6_put 46 = .ok (.iload_n 1, 1) := by decide +kernel
theorem dX6_put_47 : decode cX6_put 47 = .ok (.aload_n 0, 1) := by decide +kernel
theorem dX6_put_48 : decode cX6_put 48 = .ok (.getfield 35, 3) := by decide +kernel
theorem dX6_put_51 : decode cX6_put 51 = .ok (.iload_n 1, 1) := by decide +kernel
theorem dX6_put_52 : decode cX6_put 52 = .ok (.iconst 1, 1) := by decide +kernel
theorem dX6_put_53 : decode cX6_put 53 = .ok (.isub, 1) := by decide +kernel
theorem dX6_put_54 : decode cX6_put 54 = .ok (.iaload, 1) := by decide +kernel
theorem dX6_put_55 : decode cX6_put 55 = .ok (.aload_n 0, 1) := by decide +kernel
theorem dX6_put_56 : decode cX6_put 56 = .ok (.getfield 29, 3) := by decide +kernel
theorem dX6_put_59 : decode cX6_put 59 = .ok (.iload_n 1, 1) := by decide +kernel
theorem dX6_put_60 : decode cX6_put 60 = .ok (.iaload, 1) := by decide +kernel
theorem dX6_put_61 : decode cX6_put 61 = .ok (.iadd, 1) := by decide +kernel
theorem dX6_put_62 : decode cX6_put 62 = .ok (.iastore, 1) := by decide +kernel
theorem dX6_put_63 : decode cX6_put 63 = .ok (.aload_n 0, 1) := by decide +kernel
theorem dX6_put_64 : decode cX6_put 64 = .ok (.getfield 29, 3) := by decide +kernel
theorem dX6_put_67 : decode cX6_put 67 = .ok (.iload_n 1, 1) := by decide +kernel
theorem dX6_put_68 : decode cX6_put 68 = .ok (.iaload, 1) := by decide +kernel
theorem dX6_put_69 : decode cX6_put 69 = .ok (.iconst 1, 1) := by decide +kernel
theorem dX6_put_70 : decode cX6_put 70 = .ok (.if_icmp .ne 46, 3) := by decide +kernel
theorem dX6_put_73 : decode cX6_put 73 = .ok (.aload_n 0, 1) := by decide +kernel
theorem dX6_put_74 : decode cX6_put 74 = .ok (.iload_n 1, 1) := by decide +kernel
theorem dX6_put_75 : decode cX6_put 75 = .ok (.invokevirtual 100, 3) := by decide +kernel
theorem dX6_put_78 : decode cX6_put 78 = .ok (.aload_n 0, 1) := by decide +kernel
theorem dX6_put_79 : decode cX6_put 79 = .ok (.dup, 1) := by decide +kernel
theorem dX6_put_80 : decode cX6_put 80 = .ok (.getfield 91, 3) := by decide +kernel
theorem dX6_put_83 : decode cX6_put 83 = .ok (.aload_n 0, 1) := by decide +kernel
theorem dX6_put_84 : decode cX6_put 84 = .ok (.aload_n 0, 1) := by decide +kernel
theorem dX6_put_85 : decode cX6_put 85 = .ok (.getfield 81, 3) := by decide +kernel
theorem dX6_put_88 : decode cX6_put 88 = .ok (.iload_n 1, 1) := by decide +kernel
theorem dX6_put_89 : decode cX6_put 89 = .ok (.aload_n 0, 1) := by decide +kernel
theorem dX6_put_90 : decode cX6_put 90 = .ok (.getfield 81, 3) := by decide +kernel
theorem dX6_put_93 : decode cX6_put 93 = .ok (.isub, 1) := by decide +kernel
theorem dX6_put_94 : decode cX6_put 94 = .ok (.invokevirtual 63, 3) := by decide +kernel
theorem dX6_put_97 : decode cX6_put 97 = .ok (.iadd, 1) := by decide +kernel
theorem dX6_put_98 : decode cX6_put 98 = .ok (.putfield 91, 3) := by decide +kernel
theorem dX6_put_101 : decode cX6_put 101 = .ok (.aload_n 0, 1) := by decide +kernel
theorem dX6_put_102 : decode cX6_put 102 = .ok (.iload_n 1, 1) := by decide +kernel
theorem dX6_put_103 : decode cX6_put 103 = .ok (.putfield 81, 3) := by decide +kernel
theorem dX6_put_106 : decode cX6_put 106 = .ok (.aload_n 0, 1) := by decide +kernel
theorem dX6_put_107 : decode cX6_put 107 = .ok (.dup, 1) := by decide +kernel
theorem dX6_put_108 : decode cX6_put 108 = .ok (.getfield 116, 3) := by decide +kernel
theorem dX6_put_111 : decode cX6_put 111 = .ok (.iconst 1, 1) := by decide +kernel
theorem dX6_put_112 : decode cX6_put 112 = .ok (.iadd, 1) := by decide +kernel
theorem dX6_put_113 : decode cX6_put 113 = .ok (.putfield 116, 3) := by decide +kernel
theorem dX6_put_116 : decode cX6_put 116 = .ok (.aload_n 0, 1) := by decide +kernel
theorem dX6_put_117 : decode cX6_put 117 = .ok (.getfield 38, 3) := by decide +kernel
theorem dX6_put_120 : decode cX6_put 120 = .ok (.iload_n 1, 1) := by decide +kernel
theorem dX6_put_121 : decode cX6_put 121 = .ok (.iload_n 1, 1) := by decide +kernel
theorem dX6_put_122 : decode cX6_put 122 = .ok (.aload_n 0, 1) := by decide +kernel
theorem dX6_put_123 : decode cX6_put 123 = .ok (.getfield 81, 3) := by decide +kernel
theorem dX6_put_126 : decode cX6_put 126 = .ok (.isub, 1) := by decide +kernel
theorem dX6_put_127 : decode cX6_put 127 = .ok (.iastore, 1) := by decide +kernel
theorem dX6_put_128 : decode cX6_put 128 = .ok (.return_, 1) := by decide +kernel
set_option maxRecDepth 20000 in
theorem ggX6_goThrough_X6_many : GoodIn wsX6_goThrough wsX6_many := goodIn_r _ [12, 13, 62, 63, 64, 65, 66, 67, 68, 69, 70, 71, 72, 73, 74, 75, 76, 77, 78, 79, 80, 81, 82, 83, 84, 85, 86, 87, 88, 89, 90] (by decide +kernel) (by decide +kernel)
set_option maxRecDepth 20000 in
theorem gX6_goThrough_X6_many : GoodIn wsX6_goThrough (wsV RX6 47 RX6 yX6_many wsX6_many) := goodIn_app (goodIn_of _ (by decide +kernel)) ggX6_goThrough_X6_many
set_option maxRecDepth 20000 in
theorem ggX6_goThrough_X6_whyNot : GoodIn wsX6_goThrough wsX6_whyNot := goodIn_r _ [17, 18, 6, 19, 20, 21, 11, 22, 23, 24, 25, 26, 13, 27, 28, 29, 30, 5, 31, 32, 33, 34, 62, 63, 64, 65, 66, 67, 68, 69, 70, 71, 72, 73, 74, 75, 76, 77, 78, 79, 80, 81, 82, 83, 84, 85, 86, 87, 88, 89, 90] (by decide +kernel) (by decide +kernel)
set_option maxRecDepth 20000 in
theorem gX6_goThrough_X6_whyNot : GoodIn wsX6_goThrough (wsV RX6 119 RX6 yX6_whyNot wsX6_whyNot) := goodIn_app (goodIn_of _ (by decide +kernel)) ggX6_goThrough_X6_whyNot
set_option maxRecDepth 20000 in
theorem ggX6_goThrough_X6_put : GoodIn wsX6_goThrough wsX6_put := goodIn_r _ [38, 18, 3, 39, 40, 5, 6, 41, 42, 43, 44, 11, 45, 1, 4, 2, 46, 47, 48, 49, 23, 24, 25, 26, 13, 50, 51, 52, 53, 31, 32, 33, 34, 54, 55, 56, 57, 58, 59, 60, 61, 62, 63, 64, 65, 66, 67, 68, 69, 70, 71, 72, 73, 74, 75, 76, 77, 78, 79, 80, 81, 82, 83, 84, 85, 86, 87, 88, 89, 90] (by decide +kernel) (by decide +kernel)
set_option maxRecDepth 20000 in
theorem gX6_goThrough_X6_put : GoodIn wsX6_goThrough (wsV RX6 125 RX6 yX6_put wsX6_put) := goodIn_app (goodIn_of _ (by decide +kernel)) ggX6_goThrough_X6_put
set_option maxRecDepth 20000 in
theorem ggX6_goThrough_X6_endTier : GoodIn wsX6_goThrough wsX6_endTier := goodIn_r _ [49, 2, 6, 23, 24, 25, 11, 26, 13, 50, 51, 52, 53, 31, 32, 33, 34, 62, 63, 64, 65, 66, 67, 68, 69, 70, 71, 72, 73, 74, 75, 76, 77, 78, 79, 80, 81, 82, 83, 84, 85, 86, 87, 88, 89, 90] (by decide +kernel) (by decide +kernel)
set_option maxRecDepth 20000 in
theorem gX6_goThrough_X6_endTier : GoodIn wsX6_goThrough (wsV RX6 100 RX6 yX6_endTier wsX6_endTier) := goodIn_app (goodIn_of _ (by decide +kernel)) ggX6_goThrough_X6_endTier
set_option maxRecDepth 20000 in
theorem ggX6_goThrough_X6_endPage : GoodIn wsX6_goThrough wsX6_endPage := goodIn_r _ [57, 2, 5, 6, 23, 24, 25, 11, 26, 13, 31, 32, 33, 34, 58, 59, 60, 61, 62, 63, 64, 65, 66, 67, 68, 69, 70, 71, 72, 73, 74, 75, 76, 77, 78, 79, 80, 81, 82, 83, 84, 85, 86, 87, 88, 89, 90] (by decide +kernel) (by decide +kernel)
set_option maxRecDepth 20000 in
theorem gX6_goThrough_X6_endPage : GoodIn wsX6_goThrough (wsV RX6 104 RX6 yX6_endPage wsX6_endPage) := goodIn_app (goodIn_of _ (by decide +kernel)) ggX6_goThrough_X6_endPage
theorem dX6_goThrough_0 : decode cX6_goThrough 0 = .ok (.aload_n 0, 1) := by decide +kernel
theorem dX6_goThrough_1 : decode cX6_goThrough 1 = .ok (.iconst 0, 1) := by decide +kernel
theorem dX6_goThrough_2 : decode cX6_goThrough 2 = .ok (.putfield 107, 3) := by decide +kernel
theorem dX6_goThrough_5 : decode cX6_goThrough 5 = .ok (.aload_n 0, 1) := by decide +kernel
theorem dX6_goThrough_6 : decode cX6_goThrough 6 = .ok (.iconst 0, 1) := by decide +kernel
theorem dX6_goThrough_7 : decode cX6_goThrough 7 = .ok (.putfield 94, 3) := by decide +kernel
theorem dX6_goThrough_10 : decode cX6_goThrough 10 = .ok (.aload_n 0, 1) := by decide +kernel
theorem dX6_goThrough_11 : decode cX6_goThrough 11 = .ok (.iconst 0, 1) := by decide +kernel
theorem dX6_goThrough_12 : decode cX6_goThrough 12 = .ok (.putfield 116, 3) := by decide +kernel
theorem dX6_goThrough_15 : decode cX6_goThrough 15 = .ok (.aload_n 0, 1) := by decide +kernel
theorem dX6_goThrough_16 : decode cX6_goThrough 16 = .ok (.iconst 0, 1) := by decide +kernel
theorem dX6_goThrough_17 : decode cX6_goThrough 17 = .ok (.putfield 110, 3) := by decide +kernel
theorem dX6_goThrough_20 : decode cX6_goThrough 20 = .ok (.aload_n 0, 1) := by decide +kernel
theorem dX6_goThrough_21 : decode cX6_goThrough 21 = .ok (.iconst 0, 1) := by decide +kernel
theorem dX6_goThrough_22 : decode cX6_goThrough 22 = .ok (.putfield 91, 3) := by decide +kernel
theorem dX6_goThrough_25 : decode cX6_goThrough 25 = .ok (.aload_n 0, 1) := by decide +kernel
theorem dX6_goThrough_26 : decode cX6_goThrough 26 = .ok (.iconst 0, 1) := by decide +kernel
theorem dX6_goThrough_27 : decode cX6_goThrough 27 = .ok (.putfield 81, 3) := by decide +kernel
theorem dX6_goThrough_30 : decode cX6_goThrough 30 = .ok (.iconst 0, 1) := by decide +kernel
theorem dX6_goThrough_31 : decode cX6_goThrough 31 = .ok (.istore_n 1, 1) := by decide +kernel
theorem dX6_goThrough_32 : decode cX6_goThrough 32 = .ok (.iload_n 1, 1) := by decide +kernel
theorem dX6_goThrough_33 : decode cX6_goThrough 33 = .ok (.aload_n 0, 1) := by decide +kernel
theorem dX6_goThrough_34 : decode cX6_goThrough 34 = .ok (.invokevirtual 47, 3) := by decide +kernel
theorem dX6_goThrough_37 : decode cX6_goThrough 37 = .ok (.if_icmp .ge 32, 3) := by decide +kernel
theorem dX6_goThrough_40 : decode cX6_goThrough 40 = .ok (.aload_n 0, 1) := by decide +kernel
theorem dX6_goThrough_41 : decode cX6_goThrough 41 = .ok (.aload_n 0, 1) := by decide +kernel
theorem dX6_goThrough_42 : decode cX6_goThrough 42 = .ok (.iload_n 1, 1) := by decide +kernel
theorem dX6_goThrough_43 : decode cX6_goThrough 43 = .ok (.invokevirtual 119, 3) := by decide +kernel
theorem dX6_goThrough_46 : decode cX6_goThrough 46 = .ok (.putfield 122, 3) := by decide +kernel
theorem dX6_goThrough_49 : decode cX6_goThrough 49 = .ok (.aload_n 0, 1) := by decide +kernel
theorem dX6_goThrough_50 : decode cX6_goThrough 50 = .ok (.getfield 122, 3) := by decide +kernel
theorem dX6_goThrough_53 : decode cX6_goThrough 53 = .ok (.ifCond .le 5, 3) := by decide +kernel
theorem dX6_goThrough_56 : decode cX6_goThrough 56 = .ok (.iload_n 1, 1) := by decide +kernel
theorem dX6_goThrough_57 : decode cX6_goThrough 57 = .ok (.ireturn, 1) := by decide +kernel
theorem dX6_goThrough_58 : decode cX6_goThrough 58 = .ok (.aload_n 0, 1) := by decide +kernel
theorem dX6_goThrough_59 : decode cX6_goThrough 59 = .ok (.iload_n 1, 1) := by decide +kernel
theorem dX6_goThrough_60 : decode cX6_goThrough 60 = .ok (.invokevirtual 125, 3) := by decide +kernel
theorem dX6_goThrough_63 : decode cX6_goThrough 63 = .ok (.iinc 1 1, 3) := by decide +kernel
theorem dX6_goThrough_66 : decode cX6_goThrough 66 = .ok (.goto (-34), 3) := by decide +kernel
theorem dX6_goThrough_69 : decode cX6_goThrough 69 = .ok (.aload_n 0, 1) := by decide +kernel
theorem dX6_goThrough_70 : decode cX6_goThrough 70 = .ok (.bipush (-6), 2) := by decide +kernel
theorem dX6_goThrough_72 : decode cX6_goThrough 72 = .ok (.putfield 122, 3) := by decide +kernel
theorem dX6_goThrough_75 : decode cX6_goThrough 75 = .ok (.aload_n 0, 1) := by decide +kernel
theorem dX6_goThrough_76 : decode cX6_goThrough 76 = .ok (.aload_n 0, 1) := by decide +kernel
theorem dX6_goThrough_77 : decode cX6_goThrough 77 = .ok (.invokevirtual 47, 3) := by decide +kernel
theorem dX6_goThrough_80 : decode cX6_goThrough 80 = .ok (.invokevirtual 100, 3) := by decide +kernel
theorem dX6_goThrough_83 : decode cX6_goThrough 83 = .ok (.aload_n 0, 1) := by decide +kernel
theorem dX6_goThrough_84 : decode cX6_goThrough 84 = .ok (.aload_n 0, 1) := by decide +kernel
theorem dX6_goThrough_85 : decode cX6_goThrough 85 = .ok (.invokevirtual 47, 3) := by decide +kernel
theorem dX6_goThrough_88 : decode cX6_goThrough 88 = .ok (.invokevirtual 104, 3) := by decide +kernel
theorem dX6_goThrough_91 : decode cX6_goThrough 91 = .ok (.bipush (-6), 2) := by decide +kernel
theorem dX6_goThrough_93 : decode cX6_goThrough 93 = .ok (.ireturn, 1) := by decide +kernel
set_option maxRecDepth 20000 in
theorem ggX6_say_X6_in : GoodIn wsX6_say wsX6_in := goodIn_r _ [6] (by decide +kernel) (by decide +kernel)
set_option maxRecDepth 20000 in
theorem gX6_say_X6_in : GoodIn wsX6_say (va_wsS RX6 51 yX6_in wsX6_in) := goodIn_app (goodIn_of _ (by decide +kernel)) ggX6_say_X6_in
theorem dX6_say_0 : decode cX6_say 0 = .ok (.iload_n 1, 1) := by decide +kernel
theorem dX6_say_1 : decode cX6_say 1 = .ok (.bipush 33, 2) := by decide +kernel
theorem dX6_say_3 : decode cX6_say 3 = .ok (.bipush 126, 2) := by decide +kernel
theorem dX6_say_5 : decode cX6_say 5 = .ok (.invokestatic 51, 3) := by decide +kernel
theorem dX6_say_8 : decode cX6_say 8 = .ok (.ifCond .ne 6, 3) := by decide +kernel
theorem dX6_say_11 : decode cX6_say 11 = .ok (.bipush (-2), 2) := by decide +kernel
theorem dX6_say_13 : decode cX6_say 13 = .ok (.ireturn, 1) := by decide +kernel
theorem dX6_say_14 : decode cX6_say 14 = .ok (.aload_n 0, 1) := by decide +kernel
theorem dX6_say_15 : decode cX6_say 15 = .ok (.getfield 128, 3) := by decide +kernel
theorem dX6_say_18 : decode cX6_say 18 = .ok (.bipush 9, 2) := by decide +kernel
theorem dX6_say_20 : decode cX6_say 20 = .ok (.if_icmp .ne 6, 3) := by decide +kernel
theorem dX6_say_23 : decode cX6_say 23 = .ok (.bipush (-4), 2) := by decide +kernel
theorem dX6_say_25 : decode cX6_say 25 = .ok (.ireturn, 1) := by decide +kernel
theorem dX6_say_26 : decode cX6_say 26 = .ok (.aload_n 0, 1) := by decide +kernel
theorem dX6_say_27 : decode cX6_say 27 = .ok (.getfield 20, 3) := by decide +kernel
theorem dX6_say_30 : decode cX6_say 30 = .ok (.aload_n 0, 1) := by decide +kernel
theorem dX6_say_31 : decode cX6_say 31 = .ok (.getfield 128, 3) := by decide +kernel
theorem dX6_say_34 : decode cX6_say 34 = .ok (.iload_n 1, 1) := by decide +kernel
theorem dX6_say_35 : decode cX6_say 35 = .ok (.iastore, 1) := by decide +kernel
theorem dX6_say_36 : decode cX6_say 36 = .ok (.aload_n 0, 1) := by decide +kernel
theorem dX6_say_37 : decode cX6_say 37 = .ok (.dup, 1) := by decide +kernel
theorem dX6_say_38 : decode cX6_say 38 = .ok (.getfield 128, 3) := by decide +kernel
theorem dX6_say_41 : decode cX6_say 41 = .ok (.iconst 1, 1) := by decide +kernel
theorem dX6_say_42 : decode cX6_say 42 = .ok (.iadd, 1) := by decide +kernel
theorem dX6_say_43 : decode cX6_say 43 = .ok (.putfield 128, 3) := by decide +kernel
theorem dX6_say_46 : decode cX6_say 46 = .ok (.aload_n 0, 1) := by decide +kernel
theorem dX6_say_47 : decode cX6_say 47 = .ok (.getfield 128, 3) := by decide +kernel
theorem dX6_say_50 : decode cX6_say 50 = .ok (.ireturn, 1) := by decide +kernel
theorem dX6_wipe_0 : decode cX6_wipe 0 = .ok (.aload_n 0, 1) := by decide +kernel
theorem dX6_wipe_1 : decode cX6_wipe 1 = .ok (.getfield 128, 3) := by decide +kernel
theorem dX6_wipe_4 : decode cX6_wipe 4 = .ok (.istore_n 1, 1) := by decide +kernel
theorem dX6_wipe_5 : decode cX6_wipe 5 = .ok (.aload_n 0, 1) := by decide +kernel
theorem dX6_wipe_6 : decode cX6_wipe 6 = .ok (.iconst 0, 1) := by decide +kernel
theorem dX6_wipe_7 : decode cX6_wipe 7 = .ok (.putfield 128, 3) := by decide +kernel
theorem dX6_wipe_10 : decode cX6_wipe 10 = .ok (.iload_n 1, 1) := by decide +kernel
theorem dX6_wipe_11 : decode cX6_wipe 11 = .ok (.ireturn, 1) := by decide +kernel
set_option maxRecDepth 20000 in
theorem ggX6_hasFigures_X6_in : GoodIn wsX6_hasFigures wsX6_in := goodIn_r _ [6] (by decide +kernel) (by decide +kernel)
set_option maxRecDepth 20000 in
theorem gX6_hasFigures_X6_in : GoodIn wsX6_hasFigures (va_wsS RX6 51 yX6_in wsX6_in) := goodIn_app (goodIn_of _ (by decide +kernel)) ggX6_hasFigures_X6_in
theorem dX6_hasFigures_0 : decode cX6_hasFigures 0 = .ok (.iconst 1, 1) := by decide +kernel
theorem dX6_hasFigures_1 : decode cX6_hasFigures 1 = .ok (.istore_n 2, 1) := by decide +kernel
theorem dX6_hasFigures_2 : decode cX6_hasFigures 2 = .ok (.iconst 0, 1) := by decide +kernel
theorem dX6_hasFigures_3 : decode cX6_hasFigures 3 = .ok (.istore_n 3, 1) := by decide +kernel
theorem dX6_hasFigures_4 : decode cX6_hasFigures 4 = .ok (.iload_n 3, 1) := by decide +kernel
theorem dX6_hasFigures_5 : decode cX6_hasFigures 5 = .ok (.aload_n 0, 1) := by decide +kernel
theorem dX6_hasFigures_6 : decode cX6_hasFigures 6 = .ok (.getfield 128, 3) := by decide +kernel
theorem dX6_hasFigures_9 : decode cX6_hasFigures 9 = .ok (.if_icmp .ge 37, 3) := by decide +kernel
theorem dX6_hasFigures_12 : decode cX6_hasFigures 12 = .ok (.iload_n 2, 1) := by decide +kernel
theorem dX6_hasFigures_13 : decode cX6_hasFigures 13 = .ok (.ifCond .eq 25, 3) := by decide +kernel
theorem dX6_hasFigures_16 : decode cX6_hasFigures 16 = .ok (.aload_n 0, 1) := by decide +kernel
theorem dX6_hasFigures_17 : decode cX6_hasFigures 17 = .ok (.getfield 20, 3) := by decide +kernel
theorem dX6_hasFigures_20 : decode cX6_hasFigures 20 = .ok (.iload_n 3, 1) := by decide +kernel
theorem dX6_hasFigures_21 : decode cX6_hasFigures 21 = .ok (.iaload, 1) := by decide +kernel
theorem dX6_hasFigures_22 : decode cX6_hasFigures 22 = .ok (.bipush 48, 2) := by decide +kernel
theorem dX6_hasFigures_24 : decode cX6_hasFigures 24 = .ok (.bipush 48, 2) := by decide +kernel
theorem dX6_hasFigures_26 : decode cX6_hasFigures 26 = .ok (.iload_n 1, 1) := by decide +kernel
theorem dX6_hasFigures_27 : decode cX6_hasFigures 27 = .ok (.iadd, 1) := by decide +kernel
theorem dX6_hasFigures_28 : decode cX6_hasFigures 28 = .ok (.invokestatic 51, 3) := by decide +kernel
theorem dX6_hasFigures_31 : decode cX6_hasFigures 31 = .ok (.ifCond .eq 7, 3) := by decide +kernel
theorem dX6_hasFigures_34 : decode cX6_hasFigures 34 = .ok (.iconst 1, 1) := by decide +kernel
theorem dX6_hasFigures_35 : decode cX6_hasFigures 35 = .ok (.goto 4, 3) := by decide +kernel
theorem dX6_hasFigures_38 : decode cX6_hasFigures 38 = .ok (.iconst 0, 1) := by decide +kernel
theorem dX6_hasFigures_39 : decode cX6_hasFigures 39 = .ok (.istore_n 2, 1) := by decide +kernel
theorem dX6_hasFigures_40 : decode cX6_hasFigures 40 = .ok (.iinc 3 1, 3) := by decide +kernel
theorem dX6_hasFigures_43 : decode cX6_hasFigures 43 = .ok (.goto (-39), 3) := by decide +kernel
theorem dX6_hasFigures_46 : decode cX6_hasFigures 46 = .ok (.iload_n 2, 1) := by decide +kernel
theorem dX6_hasFigures_47 : decode cX6_hasFigures 47 = .ok (.ireturn, 1) := by decide +kernel
set_option maxRecDepth 20000 in
theorem ggX6_isLayout_X6_many : GoodIn wsX6_isLayout wsX6_many := goodIn_r _ [6, 7, 16, 17, 18, 19, 20, 21, 22, 23, 24, 25, 26, 27, 28, 29, 30, 31, 32, 33, 34, 35, 36, 37, 38, 39, 40, 41, 42, 43, 44] (by decide +kernel) (by decide +kernel)
set_option maxRecDepth 20000 in
theorem gX6_isLayout_X6_many : GoodIn wsX6_isLayout (wsV RX6 47 RX6 yX6_many wsX6_many) := goodIn_app (goodIn_of _ (by decide +kernel)) ggX6_isLayout_X6_many
set_option maxRecDepth 20000 in
theorem ggX6_isLayout_X6_hasFigures : GoodIn wsX6_isLayout wsX6_hasFigures := goodIn_r _ [11, 1, 12, 13, 14, 5, 15, 16, 17, 18, 19, 20, 21, 22, 23, 24, 25, 26, 27, 28, 29, 30, 31, 32, 33, 34, 35, 36, 37, 38, 39, 40, 41, 42, 43, 44] (by decide +kernel) (by decide +kernel)
set_option maxRecDepth 20000 in
theorem gX6_isLayout_X6_hasFigures : GoodIn wsX6_isLayout (wsV RX6 131 RX6 yX6_hasFigures wsX6_hasFigures) := goodIn_app (goodIn_of _ (by decide +kernel)) ggX6_isLayout_X6_hasFigures
theorem dX6_isLayout_0 : decode cX6_isLayout 0 = .ok (.aload_n 0, 1) := by decide +kernel
theorem dX6_isLayout_1 : decode cX6_isLayout 1 = .ok (.getfield 128, 3) := by decide +kernel
theorem dX6_isLayout_4 : decode cX6_isLayout 4 = .ok (.aload_n 0, 1) := by decide +kernel
theorem dX6_isLayout_5 : decode cX6_isLayout 5 = .ok (.invokevirtual 47, 3) := by decide +kernel
theorem dX6_isLayout_8 : decode cX6_isLayout 8 = .ok (.if_icmp .ne 15, 3) := by decide +kernel
theorem dX6_isLayout_11 : decode cX6_isLayout 11 = .ok (.aload_n 0, 1) := by decide +kernel
theorem dX6_isLayout_12 : decode cX6_isLayout 12 = .ok (.iconst 2, 1) := by decide +kernel
theorem dX6_isLayout_13 : decode cX6_isLayout 13 = .ok (.invokevirtual 131, 3) := by decide +kernel
theorem dX6_isLayout_16 : decode cX6_isLayout 16 = .ok (.ifCond .eq 7, 3) := by decide +kernel
theorem dX6_isLayout_19 : decode cX6_isLayout 19 = .ok (.iconst 1, 1) := by decide +kernel
theorem dX6_isLayout_20 : decode cX6_isLayout 20 = .ok (.goto 4, 3) := by decide +kernel
theorem dX6_isLayout_23 : decode cX6_isLayout 23 = .ok (.iconst 0, 1) := by decide +kernel
theorem dX6_isLayout_24 : decode cX6_isLayout 24 = .ok (.ireturn, 1) := by decide +kernel
set_option maxRecDepth 20000 in
theorem ggX6_goPad_X6_many : GoodIn wsX6_goPad wsX6_many := goodIn_r _ [7, 8, 67, 68, 69, 70, 71, 72, 73, 74, 75, 76, 77, 78, 79, 80, 81, 82, 83, 84, 85, 86, 87, 88, 89, 90, 91, 92, 93, 94, 95] (by decide +kernel) (by decide +kernel)
set_option maxRecDepth 20000 in
theorem gX6_goPad_X6_many : GoodIn wsX6_goPad (wsV RX6 47 RX6 yX6_many wsX6_many) := goodIn_app (goodIn_of _ (by decide +kernel)) ggX6_goPad_X6_many
set_option maxRecDepth 20000 in
theorem ggX6_goPad_X6_goThrough : GoodIn wsX6_goPad wsX6_goThrough := goodIn_r _ [12, 13, 14, 15, 16, 17, 18, 19, 3, 4, 5, 6, 7, 8, 20, 21, 22, 23, 1, 24, 25, 26, 27, 28, 29, 30, 31, 32, 33, 34, 35, 36, 37, 38, 39, 40, 41, 42, 43, 44, 45, 46, 47, 48, 49, 50, 51, 52, 53, 54, 55, 56, 57, 58, 59, 60, 61, 62, 63, 64, 65, 66, 67, 68, 69, 70, 71, 72, 73, 74, 75, 76, 77, 78, 79, 80, 81, 82, 83, 84, 85, 86, 87, 88, 89, 90, 91, 92, 93, 94, 95] (by decide +kernel) (by decide +kernel)
set_option maxRecDepth 20000 in
theorem gX6_goPad_X6_goThrough : GoodIn wsX6_goPad (wsV RX6 134 RX6 yX6_goThrough wsX6_goThrough) := goodIn_app (goodIn_of _ (by decide +kernel)) ggX6_goPad_X6_goThrough
theorem dX6_goPad_0 : decode cX6_goPad 0 = .ok (.iconst 0, 1) := by decide +kernel
theorem dX6_goPad_1 : decode cX6_goPad 1 = .ok (.istore_n 1, 1) := by decide +kernel
theorem dX6_goPad_2 : decode cX6_goPad 2 = .ok (.iload_n 1, 1) := by decide +kernel
theorem dX6_goPad_3 : decode cX6_goPad 3 = .ok (.aload_n 0, 1) := by decide +kernel
theorem dX6_goPad_4 : decode cX6_goPad 4 = .ok (.invokevirtual 47, 3) := by decide +kernel
theorem dX6_goPad_7 : decode cX6_goPad 7 = .ok (.if_icmp .ge 24, 3) := by decide +kernel
theorem dX6_goPad_10 : decode cX6_goPad 10 = .ok (.aload_n 0, 1) := by decide +kernel
theorem dX6_goPad_11 : decode cX6_goPad 11 = .ok (.getfield 29, 3) := by decide +kernel
theorem dX6_goPad_14 : decode cX6_goPad 14 = .ok (.iload_n 1, 1) := by decide +kernel
theorem dX6_goPad_15 : decode cX6_goPad 15 = .ok (.aload_n 0, 1) := by decide +kernel
theorem dX6_goPad_16 : decode cX6_goPad 16 = .ok (.getfield 20, 3) := by decide +kernel
theorem dX6_goPad_19 : decode cX6_goPad 19 = .ok (.iload_n 1, 1) := by decide +kernel
theorem dX6_goPad_20 : decode cX6_goPad 20 = .ok (.iaload, 1) := by decide +kernel
theorem dX6_goPad_21 : decode cX6_goPad 21 = .ok (.bipush 48, 2) := by decide +kernel
theorem dX6_goPad_23 : decode cX6_goPad 23 = .ok (.isub, 1) := by decide +kernel
theorem dX6_goPad_24 : decode cX6_goPad 24 = .ok (.iastore, 1) := by decide +kernel
theorem dX6_goPad_25 : decode cX6_goPad 25 = .ok (.iinc 1 1, 3) := by decide +kernel
theorem dX6_goPad_28 : decode cX6_goPad 28 = .ok (.goto (-26), 3) := by decide +kernel
theorem dX6_goPad_31 : decode cX6_goPad 31 = .ok (.aload_n 0, 1) := by decide +kernel
theorem dX6_goPad_32 : decode cX6_goPad 32 = .ok (.invokevirtual 134, 3) := by decide +kernel
theorem dX6_goPad_35 : decode cX6_goPad 35 = .ok (.ireturn, 1) := by decide +kernel
set_option maxRecDepth 20000 in
theorem ggX6_judge_X6_in : GoodIn wsX6_judge wsX6_in := goodIn_r _ [5] (by decide +kernel) (by decide +kernel)
set_option maxRecDepth 20000 in
theorem gX6_judge_X6_in : GoodIn wsX6_judge (va_wsS RX6 51 yX6_in wsX6_in) := goodIn_app (goodIn_of _ (by decide +kernel)) ggX6_judge_X6_in
set_option maxRecDepth 20000 in
theorem ggX6_judge_X6_isLayout : GoodIn wsX6_judge wsX6_isLayout := goodIn_r _ [9, 10, 11, 12, 13, 4, 14, 15, 16, 17, 18, 19, 20, 2, 3, 5, 83, 84, 85, 86, 87, 88, 89, 90, 91, 92, 93, 94, 95, 96, 97, 98, 99, 100, 101, 102, 103, 104, 105, 106, 107, 108, 109, 110, 111] (by decide +kernel) (by decide +kernel)
set_option maxRecDepth 20000 in
theorem gX6_judge_X6_isLayout : GoodIn wsX6_judge (wsV RX6 137 RX6 yX6_isLayout wsX6_isLayout) := goodIn_app (goodIn_of _ (by decide +kernel)) ggX6_judge_X6_isLayout
set_option maxRecDepth 20000 in
theorem ggX6_judge_X6_goPad : GoodIn wsX6_judge wsX6_goPad := goodIn_r _ [24, 25, 20, 11, 12, 13, 4, 14, 15, 26, 27, 28, 29, 30, 31, 32, 33, 34, 35, 1, 36, 37, 38, 39, 40, 41, 42, 43, 44, 45, 46, 47, 48, 49, 50, 51, 52, 53, 54, 55, 56, 57, 58, 59, 60, 61, 62, 63, 64, 65, 66, 67, 68, 69, 70, 71, 72, 73, 74, 75, 76, 77, 78, 79, 80, 81, 82, 83, 84, 85, 86, 87, 88, 89, 90, 91, 92, 93, 94, 95, 96, 97, 98, 99, 100, 101, 102, 103, 104, 105, 106, 107, 108, 109, 110, 111] (by decide +kernel) (by decide +kernel)
set_option maxRecDepth 20000 in
theorem gX6_judge_X6_goPad : GoodIn wsX6_judge (wsV RX6 141 RX6 yX6_goPad wsX6_goPad) := goodIn_app (goodIn_of _ (by decide +kernel)) ggX6_judge_X6_goPad
theorem dX6_judge_0 : decode cX6_judge 0 = .ok (.iload_n 1, 1) := by decide +kernel
theorem dX6_judge_1 : decode cX6_judge 1 = .ok (.iconst 0, 1) := by decide +kernel
theorem dX6_judge_2 : decode cX6_judge 2 = .ok (.iconst 1, 1) := by decide +kernel
theorem dX6_judge_3 : decode cX6_judge 3 = .ok (.invokestatic 51, 3) := by decide +kernel
theorem dX6_judge_6 : decode cX6_judge 6 = .ok (.ifCond .ne 6, 3) := by decide +kernel
theorem dX6_judge_9 : decode cX6_judge 9 = .ok (.bipush (-2), 2) := by decide +kernel
theorem dX6_judge_11 : decode cX6_judge 11 = .ok (.ireturn, 1) := by decide +kernel
theorem dX6_judge_12 : decode cX6_judge 12 = .ok (.aload_n 0, 1) := by decide +kernel
theorem dX6_judge_13 : decode cX6_judge 13 = .ok (.invokevirtual 137, 3) := by decide +kernel
theorem dX6_judge_16 : decode cX6_judge 16 = .ok (.ifCond .ne 6, 3) := by decide +kernel
theorem dX6_judge_19 : decode cX6_judge 19 = .ok (.bipush (-7), 2) := by decide +kernel
theorem dX6_judge_21 : decode cX6_judge 21 = .ok (.ireturn, 1) := by decide +kernel
theorem dX6_judge_22 : decode cX6_judge 22 = .ok (.aload_n 0, 1) := by decide +kernel
theorem dX6_judge_23 : decode cX6_judge 23 = .ok (.invokevirtual 141, 3) := by decide +kernel
theorem dX6_judge_26 : decode cX6_judge 26 = .ok (.istore_n 2, 1) := by decide +kernel
theorem dX6_judge_27 : decode cX6_judge 27 = .ok (.iload_n 1, 1) := by decide +kernel
theorem dX6_judge_28 : decode cX6_judge 28 = .ok (.ifCond .ne 7, 3) := by decide +kernel
theorem dX6_judge_31 : decode cX6_judge 31 = .ok (.iload_n 2, 1) := by decide +kernel
theorem dX6_judge_32 : decode cX6_judge 32 = .ok (.goto 7, 3) := by decide +kernel
theorem dX6_judge_35 : decode cX6_judge 35 = .ok (.aload_n 0, 1) := by decide +kernel
theorem dX6_judge_36 : decode cX6_judge 36 = .ok (.getfield 122, 3) := by decide +kernel
theorem dX6_judge_39 : decode cX6_judge 39 = .ok (.ireturn, 1) := by decide +kernel
set_option maxRecDepth 20000 in
theorem ggX6_told_X6_in : GoodIn wsX6_told wsX6_in := goodIn_r _ [8] (by decide +kernel) (by decide +kernel)
set_option maxRecDepth 20000 in
theorem gX6_told_X6_in : GoodIn wsX6_told (va_wsS RX6 51 yX6_in wsX6_in) := goodIn_app (goodIn_of _ (by decide +kernel)) ggX6_told_X6_in
set_option maxRecDepth 20000 in
theorem ggX6_told_X6_isLayout : GoodIn wsX6_told wsX6_isLayout := goodIn_r _ [12, 13, 14, 15, 16, 7, 17, 18, 19, 20, 21, 22, 23, 5, 6, 8, 83, 84, 85, 86, 87, 88, 89, 90, 91, 92, 93, 94, 95, 96, 97, 98, 99, 100, 101, 102, 103, 104, 105, 106, 107, 108, 109, 110, 111] (by decide +kernel) (by decide +kernel)
set_option maxRecDepth 20000 in
theorem gX6_told_X6_isLayout : GoodIn wsX6_told (wsV RX6 137 RX6 yX6_isLayout wsX6_isLayout) := goodIn_app (goodIn_of _ (by decide +kernel)) ggX6_told_X6_isLayout
set_option maxRecDepth 20000 in
theorem ggX6_told_X6_goPad : GoodIn wsX6_told wsX6_goPad := goodIn_r _ [27, 28, 23, 14, 15, 16, 7, 17, 18, 29, 30, 31, 32, 1, 2, 3, 4, 33, 34, 35, 36, 37, 38, 39, 40, 41, 42, 43, 44, 45, 46, 47, 48, 49, 50, 51, 52, 53, 54, 55, 56, 57, 58, 59, 60, 61, 62, 63, 64, 65, 66, 67, 68, 69, 70, 71, 72, 73, 74, 75, 76, 77, 78, 79, 80, 81, 82, 83, 84, 85, 86, 87, 88, 89, 90, 91, 92, 93, 94, 95, 96, 97, 98, 99, 100, 101, 102, 103, 104, 105, 106, 107, 108, 109, 110, 111] (by decide +kernel) (by decide +kernel)
set_option maxRecDepth 20000 in
theorem gX6_told_X6_goPad : GoodIn wsX6_told (wsV RX6 141 RX6 yX6_goPad wsX6_goPad) := goodIn_app (goodIn_of _ (by decide +kernel)) ggX6_told_X6_goPad
theorem dX6_told_0 : decode cX6_told 0 = .ok (.iload_n 1, 1) := by decide +kernel
theorem dX6_told_1 : decode cX6_told 1 = .ok (.iconst 0, 1) := by decide +kernel
theorem dX6_told_2 : decode cX6_told 2 = .ok (.iconst 3, 1) := by decide +kernel
theorem dX6_told_3 : decode cX6_told 3 = .ok (.invokestatic 51, 3) := by decide +kernel
theorem dX6_told_6 : decode cX6_told 6 = .ok (.ifCond .ne 6, 3) := by decide +kernel
theorem dX6_told_9 : decode cX6_told 9 = .ok (.bipush (-2), 2) := by decide +kernel
theorem dX6_told_11 : decode cX6_told 11 = .ok (.ireturn, 1) := by decide +kernel
theorem dX6_told_12 : decode cX6_told 12 = .ok (.aload_n 0, 1) := by decide +kernel
theorem dX6_told_13 : decode cX6_told 13 = .ok (.invokevirtual 137, 3) := by decide +kernel
theorem dX6_told_16 : decode cX6_told 16 = .ok (.ifCond .ne 6, 3) := by decide +kernel
theorem dX6_told_19 : decode cX6_told 19 = .ok (.bipush (-7), 2) := by decide +kernel
theorem dX6_told_21 : decode cX6_told 21 = .ok (.ireturn, 1) := by decide +kernel
theorem dX6_told_22 : decode cX6_told 22 = .ok (.aload_n 0, 1) := by decide +kernel
theorem dX6_told_23 : decode cX6_told 23 = .ok (.invokevirtual 141, 3) := by decide +kernel
theorem dX6_told_26 : decode cX6_told 26 = .ok (.ifCond .lt 6, 3) := by decide +kernel
theorem dX6_told_29 : decode cX6_told 29 = .ok (.bipush (-5), 2) := by decide +kernel
theorem dX6_told_31 : decode cX6_told 31 = .ok (.ireturn, 1) := by decide +kernel
theorem dX6_told_32 : decode cX6_told 32 = .ok (.iload_n 1, 1) := by decide +kernel
theorem dX6_told_33 : decode cX6_told 33 = .ok (.ifCond .ne 10, 3) := by decide +kernel
theorem dX6_told_36 : decode cX6_told 36 = .ok (.aload_n 0, 1) := by decide +kernel
theorem dX6_told_37 : decode cX6_told 37 = .ok (.getfield 107, 3) := by decide +kernel
theorem dX6_told_40 : decode cX6_told 40 = .ok (.goto 31, 3) := by decide +kernel
theorem dX6_told_43 : decode cX6_told 43 = .ok (.iload_n 1, 1) := by decide +kernel
theorem dX6_told_44 : decode cX6_told 44 = .ok (.iconst 1, 1) := by decide +kernel
theorem dX6_told_45 : decode cX6_told 45 = .ok (.if_icmp .ne 10, 3) := by decide +kernel
theorem dX6_told_48 : decode cX6_told 48 = .ok (.aload_n 0, 1) := by decide +kernel
theorem dX6_told_49 : decode cX6_told 49 = .ok (.getfield 94, 3) := by decide +kernel
theorem dX6_told_52 : decode cX6_told 52 = .ok (.goto 19, 3) := by decide +kernel
theorem dX6_told_55 : decode cX6_told 55 = .ok (.iload_n 1, 1) := by decide +kernel
theorem dX6_told_56 : decode cX6_told 56 = .ok (.iconst 2, 1) := by decide +kernel
theorem dX6_told_57 : decode cX6_told 57 = .ok (.if_icmp .ne 10, 3) := by decide +kernel
theorem dX6_told_60 : decode cX6_told 60 = .ok (.aload_n 0, 1) := by decide +kernel
theorem dX6_told_61 : decode cX6_told 61 = .ok (.getfield 116, 3) := by decide +kernel
theorem dX6_told_64 : decode cX6_told 64 = .ok (.goto 7, 3) := by decide +kernel
theorem dX6_told_67 : decode cX6_told 67 = .ok (.aload_n 0, 1) := by decide +kernel
theorem dX6_told_68 : decode cX6_told 68 = .ok (.getfield 110, 3) := by decide +kernel
theorem dX6_told_71 : decode cX6_told 71 = .ok (.ireturn, 1) := by decide +kernel
set_option maxRecDepth 20000 in
theorem ggX6_widthOf_X6_isKind : GoodIn wsX6_widthOf wsX6_isKind := goodIn_r _ [8, 9, 23, 24, 25, 26, 27, 28, 29, 30, 31, 32, 33, 34, 35, 36, 37, 38, 39, 40, 41, 42, 43, 44, 45, 46, 47, 48, 49, 50, 51] (by decide +kernel) (by decide +kernel)
set_option maxRecDepth 20000 in
theorem gX6_widthOf_X6_isKind : GoodIn wsX6_widthOf (wsV RX6 78 RX6 yX6_isKind wsX6_isKind) := goodIn_app (goodIn_of _ (by decide +kernel)) ggX6_widthOf_X6_isKind
set_option maxRecDepth 20000 in
theorem ggX6_widthOf_X6_many : GoodIn wsX6_widthOf wsX6_many := goodIn_r _ [13, 9, 23, 24, 25, 26, 27, 28, 29, 30, 31, 32, 33, 34, 35, 36, 37, 38, 39, 40, 41, 42, 43, 44, 45, 46, 47, 48, 49, 50, 51] (by decide +kernel) (by decide +kernel)
set_option maxRecDepth 20000 in
theorem gX6_widthOf_X6_many : GoodIn wsX6_widthOf (wsV RX6 47 RX6 yX6_many wsX6_many) := goodIn_app (goodIn_of _ (by decide +kernel)) ggX6_widthOf_X6_many
set_option maxRecDepth 20000 in
theorem ggX6_widthOf_X6_layWidths : GoodIn wsX6_widthOf wsX6_layWidths := goodIn_r _ [17, 9, 3, 18, 19, 20, 21, 7, 22, 23, 24, 25, 26, 27, 28, 29, 30, 31, 32, 33, 34, 35, 36, 37, 38, 39, 40, 41, 42, 43, 44, 45, 46, 47, 48, 49, 50, 51] (by decide +kernel) (by decide +kernel)
set_option maxRecDepth 20000 in
theorem gX6_widthOf_X6_layWidths : GoodIn wsX6_widthOf (wsV RX6 74 RX6 yX6_layWidths wsX6_layWidths) := goodIn_app (goodIn_of _ (by decide +kernel)) ggX6_widthOf_X6_layWidths
theorem dX6_widthOf_0 : decode cX6_widthOf 0 = .ok (.aload_n 0, 1) := by decide +kernel
theorem dX6_widthOf_1 : decode cX6_widthOf 1 = .ok (.iload_n 1, 1) := by decide +kernel
theorem dX6_widthOf_2 : decode cX6_widthOf 2 = .ok (.iconst 2, 1) := by decide +kernel
theorem dX6_widthOf_3 : decode cX6_widthOf 3 = .ok (.invokevirtual 78, 3) := by decide +kernel
theorem dX6_widthOf_6 : decode cX6_widthOf 6 = .ok (.ifCond .eq 6, 3) := by decide +kernel
theorem dX6_widthOf_9 : decode cX6_widthOf 9 = .ok (.bipush 24, 2) := by decide +kernel
theorem dX6_widthOf_11 : decode cX6_widthOf 11 = .ok (.ireturn, 1) := by decide +kernel
theorem dX6_widthOf_12 : decode cX6_widthOf 12 = .ok (.iload_n 1, 1) := by decide +kernel
theorem dX6_widthOf_13 : decode cX6_widthOf 13 = .ok (.aload_n 0, 1) := by decide +kernel
theorem dX6_widthOf_14 : decode cX6_widthOf 14 = .ok (.getfield 38, 3) := by decide +kernel
theorem dX6_widthOf_17 : decode cX6_widthOf 17 = .ok (.iload_n 1, 1) := by decide +kernel
theorem dX6_widthOf_18 : decode cX6_widthOf 18 = .ok (.iaload, 1) := by decide +kernel
theorem dX6_widthOf_19 : decode cX6_widthOf 19 = .ok (.isub, 1) := by decide +kernel
theorem dX6_widthOf_20 : decode cX6_widthOf 20 = .ok (.istore_n 2, 1) := by decide +kernel
theorem dX6_widthOf_21 : decode cX6_widthOf 21 = .ok (.iconst 1, 1) := by decide +kernel
theorem dX6_widthOf_22 : decode cX6_widthOf 22 = .ok (.istore_n 3, 1) := by decide +kernel
theorem dX6_widthOf_23 : decode cX6_widthOf 23 = .ok (.iload_n 2, 1) := by decide +kernel
theorem dX6_widthOf_24 : decode cX6_widthOf 24 = .ok (.iload_n 3, 1) := by decide +kernel
theorem dX6_widthOf_25 : decode cX6_widthOf 25 = .ok (.iadd, 1) := by decide +kernel
theorem dX6_widthOf_26 : decode cX6_widthOf 26 = .ok (.aload_n 0, 1) := by decide +kernel
theorem dX6_widthOf_27 : decode cX6_widthOf 27 = .ok (.invokevirtual 47, 3) := by decide +kernel
theorem dX6_widthOf_30 : decode cX6_widthOf 30 = .ok (.if_icmp .ge 20, 3) := by decide +kernel
theorem dX6_widthOf_33 : decode cX6_widthOf 33 = .ok (.aload_n 0, 1) := by decide +kernel
theorem dX6_widthOf_34 : decode cX6_widthOf 34 = .ok (.getfield 29, 3) := by decide +kernel
theorem dX6_widthOf_37 : decode cX6_widthOf 37 = .ok (.iload_n 2, 1) := by decide +kernel
theorem dX6_widthOf_38 : decode cX6_widthOf 38 = .ok (.iload_n 3, 1) := by decide +kernel
theorem dX6_widthOf_39 : decode cX6_widthOf 39 = .ok (.iadd, 1) := by decide +kernel
theorem dX6_widthOf_40 : decode cX6_widthOf 40 = .ok (.iaload, 1) := by decide +kernel
theorem dX6_widthOf_41 : decode cX6_widthOf 41 = .ok (.ifCond .ne 9, 3) := by decide +kernel
theorem dX6_widthOf_44 : decode cX6_widthOf 44 = .ok (.iinc 3 1, 3) := by decide +kernel
theorem dX6_widthOf_47 : decode cX6_widthOf 47 = .ok (.goto (-24), 3) := by decide +kernel
theorem dX6_widthOf_50 : decode cX6_widthOf 50 = .ok (.aload_n 0, 1) := by decide +kernel
theorem dX6_widthOf_51 : decode cX6_widthOf 51 = .ok (.iload_n 2, 1) := by decide +kernel
theorem dX6_widthOf_52 : decode cX6_widthOf 52 = .ok (.iload_n 3, 1) := by decide +kernel
theorem dX6_widthOf_53 : decode cX6_widthOf 53 = .ok (.invokevirtual 74, 3) := by decide +kernel
theorem dX6_widthOf_56 : decode cX6_widthOf 56 = .ok (.aload_n 0, 1) := by decide +kernel
theorem dX6_widthOf_57 : decode cX6_widthOf 57 = .ok (.getfield 23, 3) := by decide +kernel
theorem dX6_widthOf_60 : decode cX6_widthOf 60 = .ok (.aload_n 0, 1) := by decide +kernel
theorem dX6_widthOf_61 : decode cX6_widthOf 61 = .ok (.getfield 38, 3) := by decide +kernel
theorem dX6_widthOf_64 : decode cX6_widthOf 64 = .ok (.iload_n 1, 1) := by decide +kernel
theorem dX6_widthOf_65 : decode cX6_widthOf 65 = .ok (.iaload, 1) := by decide +kernel
theorem dX6_widthOf_66 : decode cX6_widthOf 66 = .ok (.iaload, 1) := by decide +kernel
theorem dX6_widthOf_67 : decode cX6_widthOf 67 = .ok (.ireturn, 1) := by decide +kernel
set_option maxRecDepth 20000 in
theorem ggX6_at_X6_isPanel : GoodIn wsX6_at wsX6_isPanel := goodIn_r _ [8, 9, 10, 11, 7, 12, 13, 14, 15, 16, 101, 102, 103, 104, 105, 106, 107, 108, 109, 110, 111, 112, 113, 114, 115, 116, 117, 118, 119, 120, 121, 122, 123, 124, 125, 126, 127, 128, 129] (by decide +kernel) (by decide +kernel)
set_option maxRecDepth 20000 in
theorem gX6_at_X6_isPanel : GoodIn wsX6_at (wsV RX6 59 RX6 yX6_isPanel wsX6_isPanel) := goodIn_app (goodIn_of _ (by decide +kernel)) ggX6_at_X6_isPanel
set_option maxRecDepth 20000 in
theorem ggX6_at_X6_in : GoodIn wsX6_at wsX6_in := goodIn_r _ [16] (by decide +kernel) (by decide +kernel)
set_option maxRecDepth 20000 in
theorem gX6_at_X6_in : GoodIn wsX6_at (va_wsS RX6 51 yX6_in wsX6_in) := goodIn_app (goodIn_of _ (by decide +kernel)) ggX6_at_X6_in
set_option maxRecDepth 20000 in
theorem ggX6_at_X6_isLayout : GoodIn wsX6_at wsX6_isLayout := goodIn_r _ [20, 21, 9, 10, 11, 7, 12, 13, 22, 23, 24, 25, 26, 14, 15, 16, 101, 102, 103, 104, 105, 106, 107, 108, 109, 110, 111, 112, 113, 114, 115, 116, 117, 118, 119, 120, 121, 122, 123, 124, 125, 126, 127, 128, 129] (by decide +kernel) (by decide +kernel)
set_option maxRecDepth 20000 in
theorem gX6_at_X6_isLayout : GoodIn wsX6_at (wsV RX6 137 RX6 yX6_isLayout wsX6_isLayout) := goodIn_app (goodIn_of _ (by decide +kernel)) ggX6_at_X6_isLayout
set_option maxRecDepth 20000 in
theorem ggX6_at_X6_goPad : GoodIn wsX6_at wsX6_goPad := goodIn_r _ [30, 31, 26, 9, 10, 11, 7, 12, 13, 32, 33, 34, 35, 36, 37, 38, 39, 40, 41, 42, 43, 44, 45, 46, 47, 48, 49, 50, 51, 52, 53, 54, 55, 56, 57, 58, 59, 60, 61, 62, 63, 64, 65, 66, 1, 2, 3, 67, 68, 69, 70, 71, 72, 73, 74, 75, 76, 77, 78, 79, 80, 81, 82, 83, 84, 85, 86, 101, 102, 103, 104, 105, 106, 107, 108, 109, 110, 111, 112, 113, 114, 115, 116, 117, 118, 119, 120, 121, 122, 123, 124, 125, 126, 127, 128, 129] (by decide +kernel) (by decide +kernel)
set_option maxRecDepth 20000 in
theorem gX6_at_X6_goPad : GoodIn wsX6_at (wsV RX6 141 RX6 yX6_goPad wsX6_goPad) := goodIn_app (goodIn_of _ (by decide +kernel)) ggX6_at_X6_goPad
set_option maxRecDepth 20000 in
theorem ggX6_at_X6_widthOf : GoodIn wsX6_at wsX6_widthOf := goodIn_r _ [90, 3, 31, 91, 51, 52, 53, 7, 54, 13, 9, 10, 11, 12, 92, 93, 94, 95, 96, 97, 98, 99, 100, 101, 102, 103, 104, 105, 106, 107, 108, 109, 110, 111, 112, 113, 114, 115, 116, 117, 118, 119, 120, 121, 122, 123, 124, 125, 126, 127, 128, 129] (by decide +kernel) (by decide +kernel)
set_option maxRecDepth 20000 in
theorem gX6_at_X6_widthOf : GoodIn wsX6_at (wsV RX6 144 RX6 yX6_widthOf wsX6_widthOf) := goodIn_app (goodIn_of _ (by decide +kernel)) ggX6_at_X6_widthOf
theorem dX6_at_0 : decode cX6_at 0 = .ok (.aload_n 0, 1) := by decide +kernel
theorem dX6_at_1 : decode cX6_at 1 = .ok (.iload_n 1, 1) := by decide +kernel
theorem dX6_at_2 : decode cX6_at 2 = .ok (.invokevirtual 59, 3) := by decide +kernel
theorem dX6_at_5 : decode cX6_at 5 = .ok (.ifCond .ne 5, 3) := by decide +kernel
theorem dX6_at_8 : decode cX6_at 8 = .ok (.iconst (-1), 1) := by decide +kernel
theorem dX6_at_9 : decode cX6_at 9 = .ok (.ireturn, 1) := by decide +kernel
theorem dX6_at_10 : decode cX6_at 10 = .ok (.iload_n 2, 1) := by decide +kernel
theorem dX6_at_11 : decode cX6_at 11 = .ok (.iconst 0, 1) := by decide +kernel
theorem dX6_at_12 : decode cX6_at 12 = .ok (.iconst 3, 1) := by decide +kernel
theorem dX6_at_13 : decode cX6_at 13 = .ok (.invokestatic 51, 3) := by decide +kernel
theorem dX6_at_16 : decode cX6_at 16 = .ok (.ifCond .ne 6, 3) := by decide +kernel
theorem dX6_at_19 : decode cX6_at 19 = .ok (.bipush (-2), 2) := by decide +kernel
theorem dX6_at_21 : decode cX6_at 21 = .ok (.ireturn, 1) := by decide +kernel
theorem dX6_at_22 : decode cX6_at 22 = .ok (.aload_n 0, 1) := by decide +kernel
theorem dX6_at_23 : decode cX6_at 23 = .ok (.invokevirtual 137, 3) := by decide +kernel
theorem dX6_at_26 : decode cX6_at 26 = .ok (.ifCond .ne 6, 3) := by decide +kernel
theorem dX6_at_29 : decode cX6_at 29 = .ok (.bipush (-7), 2) := by decide +kernel
theorem dX6_at_31 : decode cX6_at 31 = .ok (.ireturn, 1) := by decide +kernel
theorem dX6_at_32 : decode cX6_at 32 = .ok (.aload_n 0, 1) := by decide +kernel
theorem dX6_at_33 : decode cX6_at 33 = .ok (.invokevirtual 141, 3) := by decide +kernel
theorem dX6_at_36 : decode cX6_at 36 = .ok (.ifCond .lt 6, 3) := by decide +kernel
theorem dX6_at_39 : decode cX6_at 39 = .ok (.bipush (-5), 2) := by decide +kernel
theorem dX6_at_41 : decode cX6_at 41 = .ok (.ireturn, 1) := by decide +kernel
theorem dX6_at_42 : decode cX6_at 42 = .ok (.iload_n 2, 1) := by decide +kernel
theorem dX6_at_43 : decode cX6_at 43 = .ok (.ifCond .ne 12, 3) := by decide +kernel
theorem dX6_at_46 : decode cX6_at 46 = .ok (.aload_n 0, 1) := by decide +kernel
theorem dX6_at_47 : decode cX6_at 47 = .ok (.getfield 32, 3) := by decide +kernel
theorem dX6_at_50 : decode cX6_at 50 = .ok (.iload_n 1, 1) := by decide +kernel
theorem dX6_at_51 : decode cX6_at 51 = .ok (.iaload, 1) := by decide +kernel
theorem dX6_at_52 : decode cX6_at 52 = .ok (.goto 36, 3) := by decide +kernel
theorem dX6_at_55 : decode cX6_at 55 = .ok (.iload_n 2, 1) := by decide +kernel
theorem dX6_at_56 : decode cX6_at 56 = .ok (.iconst 1, 1) := by decide +kernel
theorem dX6_at_57 : decode cX6_at 57 = .ok (.if_icmp .ne 12, 3) := by decide +kernel
theorem dX6_at_60 : decode cX6_at 60 = .ok (.aload_n 0, 1) := by decide +kernel
theorem dX6_at_61 : decode cX6_at 61 = .ok (.getfield 35, 3) := by decide +kernel
theorem dX6_at_64 : decode cX6_at 64 = .ok (.iload_n 1, 1) := by decide +kernel
theorem dX6_at_65 : decode cX6_at 65 = .ok (.iaload, 1) := by decide +kernel
theorem dX6_at_66 : decode cX6_at 66 = .ok (.goto 22, 3) := by decide +kernel
theorem dX6_at_69 : decode cX6_at 69 = .ok (.iload_n 2, 1) := by decide +kernel
theorem dX6_at_70 : decode cX6_at 70 = .ok (.iconst 2, 1) := by decide +kernel
theorem dX6_at_71 : decode cX6_at 71 = .ok (.if_icmp .ne 12, 3) := by decide +kernel
theorem dX6_at_74 : decode cX6_at 74 = .ok (.aload_n 0, 1) := by decide +kernel
theorem dX6_at_75 : decode cX6_at 75 = .ok (.getfield 38, 3) := by decide +kernel
theorem dX6_at_78 : decode cX6_at 78 = .ok (.iload_n 1, 1) := by decide +kernel
theorem dX6_at_79 : decode cX6_at 79 = .ok (.iaload, 1) := by decide +kernel
theorem dX6_at_80 : decode cX6_at 80 = .ok (.goto 8, 3) := by decide +kernel
theorem dX6_at_83 : decode cX6_at 83 = .ok (.aload_n 0, 1) := by decide +kernel
theorem dX6_at_84 : decode cX6_at 84 = .ok (.iload_n 1, 1) := by decide +kernel
theorem dX6_at_85 : decode cX6_at 85 = .ok (.invokevirtual 144, 3) := by decide +kernel
theorem dX6_at_88 : decode cX6_at 88 = .ok (.ireturn, 1) := by decide +kernel
set_option maxRecDepth 20000 in
theorem ggX6_layNumber_X6_many : GoodIn wsX6_layNumber wsX6_many := goodIn_r _ [6, 7, 8, 9, 10, 11, 12, 13, 14, 15, 16, 17, 18, 19, 20, 21, 22, 23, 24, 25, 26, 27, 28, 29, 30, 31, 32, 33, 34, 35, 36] (by decide +kernel) (by decide +kernel)
set_option maxRecDepth 20000 in
theorem gX6_layNumber_X6_many : GoodIn wsX6_layNumber (wsV RX6 47 RX6 yX6_many wsX6_many) := goodIn_app (goodIn_of _ (by decide +kernel)) ggX6_layNumber_X6_many
theorem dX6_layNumber_0 : decode cX6_layNumber 0 = .ok (.iload_n 1, 1) := by decide +kernel
theorem dX6_layNumber_1 : decode cX6_layNumber 1 = .ok (.istore_n 2, 1) := by decide +kernel
theorem dX6_layNumber_2 : decode cX6_layNumber 2 = .ok (.aload_n 0, 1) := by decide +kernel
theorem dX6_layNumber_3 : decode cX6_layNumber 3 = .ok (.invokevirtual 47, 3) := by decide +kernel
theorem dX6_layNumber_6 : decode cX6_layNumber 6 = .ok (.iconst 1, 1) := by decide +kernel
theorem dX6_layNumber_7 : decode cX6_layNumber 7 = .ok (.isub, 1) := by decide +kernel
theorem dX6_layNumber_8 : decode cX6_layNumber 8 = .ok (.istore_n 3, 1) := by decide +kernel
theorem dX6_layNumber_9 : decode cX6_layNumber 9 = .ok (.iload_n 3, 1) := by decide +kernel
theorem dX6_layNumber_10 : decode cX6_layNumber 10 = .ok (.ifCond .lt 22, 3) := by decide +kernel
theorem dX6_layNumber_13 : decode cX6_layNumber 13 = .ok (.aload_n 0, 1) := by decide +kernel
theorem dX6_layNumber_14 : decode cX6_layNumber 14 = .ok (.getfield 29, 3) := by decide +kernel
theorem dX6_layNumber_17 : decode cX6_layNumber 17 = .ok (.iload_n 3, 1) := by decide +kernel
theorem dX6_layNumber_18 : decode cX6_layNumber 18 = .ok (.iload_n 2, 1) := by decide +kernel
theorem dX6_layNumber_19 : decode cX6_layNumber 19 = .ok (.iconst 3, 1) := by decide +kernel
theorem dX6_layNumber_20 : decode cX6_layNumber 20 = .ok (.irem, 1) := by decide +kernel
theorem dX6_layNumber_21 : decode cX6_layNumber 21 = .ok (.iastore, 1) := by decide +kernel
theorem dX6_layNumber_22 : decode cX6_layNumber 22 = .ok (.iload_n 2, 1) := by decide +kernel
theorem dX6_layNumber_23 : decode cX6_layNumber 23 = .ok (.iconst 3, 1) := by decide +kernel
theorem dX6_layNumber_24 : decode cX6_layNumber 24 = .ok (.idiv, 1) := by decide +kernel
theorem dX6_layNumber_25 : decode cX6_layNumber 25 = .ok (.istore_n 2, 1) := by decide +kernel
theorem dX6_layNumber_26 : decode cX6_layNumber 26 = .ok (.iinc 3 (-1), 3) := by decide +kernel
theorem dX6_layNumber_29 : decode cX6_layNumber 29 = .ok (.goto (-20), 3) := by decide +kernel
theorem dX6_layNumber_32 : decode cX6_layNumber 32 = .ok (.return_, 1) := by decide +kernel
set_option maxRecDepth 20000 in
theorem ggX6_tryOne_X6_layNumber : GoodIn wsX6_tryOne wsX6_layNumber := goodIn_r _ [12, 13, 14, 15, 16, 11, 17, 18, 75, 76, 77, 78, 79, 80, 81, 82, 83, 84, 85, 86, 87, 88, 89, 90, 91, 92, 93, 94, 95, 96, 97, 98, 99, 100, 101, 102, 103] (by decide +kernel) (by decide +kernel)
set_option maxRecDepth 20000 in
theorem gX6_tryOne_X6_layNumber : GoodIn wsX6_tryOne (wsV RX6 147 RX6 yX6_layNumber wsX6_layNumber) := goodIn_app (goodIn_of _ (by decide +kernel)) ggX6_tryOne_X6_layNumber
set_option maxRecDepth 20000 in
theorem ggX6_tryOne_X6_goThrough : GoodIn wsX6_tryOne wsX6_goThrough := goodIn_r _ [22, 3, 6, 23, 24, 25, 26, 27, 14, 15, 16, 11, 17, 18, 28, 29, 30, 31, 13, 32, 33, 34, 35, 36, 37, 38, 39, 40, 41, 42, 43, 44, 45, 46, 47, 48, 49, 50, 51, 52, 53, 54, 55, 56, 57, 58, 59, 60, 61, 62, 63, 64, 65, 66, 67, 68, 69, 70, 71, 72, 73, 74, 75, 76, 77, 78, 79, 80, 81, 82, 83, 84, 85, 86, 87, 88, 89, 90, 91, 92, 93, 94, 95, 96, 97, 98, 99, 100, 101, 102, 103] (by decide +kernel) (by decide +kernel)
set_option maxRecDepth 20000 in
theorem gX6_tryOne_X6_goThrough : GoodIn wsX6_tryOne (wsV RX6 134 RX6 yX6_goThrough wsX6_goThrough) := goodIn_app (goodIn_of _ (by decide +kernel)) ggX6_tryOne_X6_goThrough
