theorem inlX0 : ∀ w ∈ wsX00, w ∈ wsL_law := fun _ h => List.mem_append_left _ (List.mem_append_left _ (List.mem_append_left _ (List.mem_append_left _ (List.mem_append_left _ (List.mem_append_right _ h)))))
theorem inX0 : ∀ w ∈ wsX00, w ∈ lw_tbl := fun w h => wsL_law_in w (inlX0 w h)
theorem inlX1 : ∀ w ∈ wsX10, w ∈ wsL_law := fun _ h => List.mem_append_left _ (List.mem_append_left _ (List.mem_append_left _ (List.mem_append_right _ h)))
theorem inX1 : ∀ w ∈ wsX10, w ∈ lw_tbl := fun w h => wsL_law_in w (inlX1 w h)
theorem inlX2 : ∀ w ∈ wsX20, w ∈ wsL_law := fun _ h => List.mem_append_left _ (List.mem_append_left _ (List.mem_append_left _ (List.mem_append_left _ (List.mem_append_right _ h))))
theorem inX2 : ∀ w ∈ wsX20, w ∈ lw_tbl := fun w h => wsL_law_in w (inlX2 w h)
theorem inlX3 : ∀ w ∈ wsX30, w ∈ wsL_law := fun _ h => List.mem_append_left _ (List.mem_append_left _ (List.mem_append_right _ h))
theorem inX3 : ∀ w ∈ wsX30, w ∈ lw_tbl := fun w h => wsL_law_in w (inlX3 w h)
theorem inlX4 : ∀ w ∈ wsX40, w ∈ wsL_law := fun _ h => List.mem_append_left _ (List.mem_append_right _ h)
theorem inX4 : ∀ w ∈ wsX40, w ∈ lw_tbl := fun w h => wsL_law_in w (inlX4 w h)
theorem inlX5 : ∀ w ∈ wsX50, w ∈ wsL_law := fun _ h => List.mem_append_left _ (List.mem_append_left _ (List.mem_append_left _ (List.mem_append_left _ (List.mem_append_left _ (List.mem_append_left _ (List.mem_append_left _ (List.mem_append_right _ h)))))))
theorem inX5 : ∀ w ∈ wsX50, w ∈ lw_tbl := fun w h => wsL_law_in w (inlX5 w h)
theorem inlX6 : ∀ w ∈ wsX60, w ∈ wsL_law := fun _ h => List.mem_append_left _ (List.mem_append_left _ (List.mem_append_left _ (List.mem_append_left _ (List.mem_append_left _ (List.mem_append_left _ (List.mem_append_right _ h))))))
theorem inX6 : ∀ w ∈ wsX60, w ∈ lw_tbl := fun w h => wsL_law_in w (inlX6 w h)
theorem inJ9 : ∀ w ∈ wsJ90, w ∈ lw_tbl := by decide +kernel
theorem inJ10 : ∀ w ∈ wsJ100, w ∈ lw_tbl := by decide +kernel
theorem dX0_init_0 : decode cX0_init 0 = .ok (.aload_n 0, 1) := by decide +kernel
theorem dX0_init_1 : decode cX0_init 1 = .ok (.invokespecial 3, 3) := by decide +kernel
theorem dX0_init_4 : decode cX0_init 4 = .ok (.aload_n 0, 1) := by decide +kernel
theorem dX0_init_5 : decode cX0_init 5 = .ok (.iconst 0, 1) := by decide +kernel
theorem dX0_init_6 : decode cX0_init 6 = .ok (.putfield 9, 3) := by decide +kernel
theorem dX0_init_9 : decode cX0_init 9 = .ok (.aload_n 0, 1) := by decide +kernel
theorem dX0_init_10 : decode cX0_init 10 = .ok (.bipush 10, 2) := by decide +kernel
theorem dX0_init_12 : decode cX0_init 12 = .ok (.putfield 15, 3) := by decide +kernel
theorem dX0_init_15 : decode cX0_init 15 = .ok (.aload_n 0, 1) := by decide +kernel
theorem dX0_init_16 : decode cX0_init 16 = .ok (.bipush 9, 2) := by decide +kernel
theorem dX0_init_18 : decode cX0_init 18 = .ok (.newarray .int, 2) := by decide +kernel
theorem dX0_init_20 : decode cX0_init 20 = .ok (.putfield 18, 3) := by decide +kernel
theorem dX0_init_23 : decode cX0_init 23 = .ok (.aload_n 0, 1) := by decide +kernel
theorem dX0_init_24 : decode cX0_init 24 = .ok (.bipush 9, 2) := by decide +kernel
theorem dX0_init_26 : decode cX0_init 26 = .ok (.newarray .int, 2) := by decide +kernel
theorem dX0_init_28 : decode cX0_init 28 = .ok (.putfield 22, 3) := by decide +kernel
theorem dX0_init_31 : decode cX0_init 31 = .ok (.aload_n 0, 1) := by decide +kernel
theorem dX0_init_32 : decode cX0_init 32 = .ok (.bipush 9, 2) := by decide +kernel
theorem dX0_init_34 : decode cX0_init 34 = .ok (.newarray .int, 2) := by decide +kernel
theorem dX0_init_36 : decode cX0_init 36 = .ok (.putfield 25, 3) := by decide +kernel
theorem dX0_init_39 : decode cX0_init 39 = .ok (.aload_n 0, 1) := by decide +kernel
theorem dX0_init_40 : decode cX0_init 40 = .ok (.bipush 9, 2) := by decide +kernel
theorem dX0_init_42 : decode cX0_init 42 = .ok (.newarray .int, 2) := by decide +kernel
theorem dX0_init_44 : decode cX0_init 44 = .ok (.putfield 28, 3) := by decide +kernel
theorem dX0_init_47 : decode cX0_init 47 = .ok (.aload_n 0, 1) := by decide +kernel
theorem dX0_init_48 : decode cX0_init 48 = .ok (.bipush 36, 2) := by decide +kernel
theorem dX0_init_50 : decode cX0_init 50 = .ok (.newarray .int, 2) := by decide +kernel
theorem dX0_init_52 : decode cX0_init 52 = .ok (.putfield 31, 3) := by decide +kernel
theorem dX0_init_55 : decode cX0_init 55 = .ok (.return_, 1) := by decide +kernel
theorem dX0_copyFrom_0 : decode cX0_copyFrom 0 = .ok (.aload_n 0, 1) := by decide +kernel
theorem dX0_copyFrom_1 : decode cX0_copyFrom 1 = .ok (.aload_n 1, 1) := by decide +kernel
theorem dX0_copyFrom_2 : decode cX0_copyFrom 2 = .ok (.getfield 9, 3) := by decide +kernel
theorem dX0_copyFrom_5 : decode cX0_copyFrom 5 = .ok (.putfield 9, 3) := by decide +kernel
theorem dX0_copyFrom_8 : decode cX0_copyFrom 8 = .ok (.aload_n 0, 1) := by decide +kernel
theorem dX0_copyFrom_9 : decode cX0_copyFrom 9 = .ok (.aload_n 1, 1) := by decide +kernel
theorem dX0_copyFrom_10 : decode cX0_copyFrom 10 = .ok (.getfield 15, 3) := by decide +kernel
theorem dX0_copyFrom_13 : decode cX0_copyFrom 13 = .ok (.putfield 15, 3) := by decide +kernel
theorem dX0_copyFrom_16 : decode cX0_copyFrom 16 = .ok (.aload_n 1, 1) := by decide +kernel
theorem dX0_copyFrom_17 : decode cX0_copyFrom 17 = .ok (.getfield 18, 3) := by decide +kernel
theorem dX0_copyFrom_20 : decode cX0_copyFrom 20 = .ok (.iconst 0, 1) := by decide +kernel
theorem dX0_copyFrom_21 : decode cX0_copyFrom 21 = .ok (.aload_n 0, 1) := by decide +kernel
theorem dX0_copyFrom_22 : decode cX0_copyFrom 22 = .ok (.getfield 18, 3) := by decide +kernel
theorem dX0_copyFrom_25 : decode cX0_copyFrom 25 = .ok (.iconst 0, 1) := by decide +kernel
theorem dX0_copyFrom_26 : decode cX0_copyFrom 26 = .ok (.bipush 9, 2) := by decide +kernel
theorem dX0_copyFrom_28 : decode cX0_copyFrom 28 = .ok (.invokestatic 34, 3) := by decide +kernel
theorem dX0_copyFrom_31 : decode cX0_copyFrom 31 = .ok (.aload_n 1, 1) := by decide +kernel
theorem dX0_copyFrom_32 : decode cX0_copyFrom 32 = .ok (.getfield 22, 3) := by decide +kernel
theorem dX0_copyFrom_35 : decode cX0_copyFrom 35 = .ok (.iconst 0, 1) := by decide +kernel
theorem dX0_copyFrom_36 : decode cX0_copyFrom 36 = .ok (.aload_n 0, 1) := by decide +kernel
theorem dX0_copyFrom_37 : decode cX0_copyFrom 37 = .ok (.getfield 22, 3) := by decide +kernel
theorem dX0_copyFrom_40 : decode cX0_copyFrom 40 = .ok (.iconst 0, 1) := by decide +kernel
theorem dX0_copyFrom_41 : decode cX0_copyFrom 41 = .ok (.bipush 9, 2) := by decide +kernel
theorem dX0_copyFrom_43 : decode cX0_copyFrom 43 = .ok (.invokestatic 34, 3) := by decide +kernel
theorem dX0_copyFrom_46 : decode cX0_copyFrom 46 = .ok (.aload_n 1, 1) := by decide +kernel
theorem dX0_copyFrom_47 : decode cX0_copyFrom 47 = .ok (.getfield 25, 3) := by decide +kernel
theorem dX0_copyFrom_50 : decode cX0_copyFrom 50 = .ok (.iconst 0, 1) := by decide +kernel
theorem dX0_copyFrom_51 : decode cX0_copyFrom 51 = .ok (.aload_n 0, 1) := by decide +kernel
theorem dX0_copyFrom_52 : decode cX0_copyFrom 52 = .ok (.getfield 25, 3) := by decide +kernel
theorem dX0_copyFrom_55 : decode cX0_copyFrom 55 = .ok (.iconst 0, 1) := by decide +kernel
theorem dX0_copyFrom_56 : decode cX0_copyFrom 56 = .ok (.bipush 9, 2) := by decide +kernel
theorem dX0_copyFrom_58 : decode cX0_copyFrom 58 = .ok (.invokestatic 34, 3) := by decide +kernel
theorem dX0_copyFrom_61 : decode cX0_copyFrom 61 = .ok (.aload_n 1, 1) := by decide +kernel
theorem dX0_copyFrom_62 : decode cX0_copyFrom 62 = .ok (.getfield 28, 3) := by decide +kernel
theorem dX0_copyFrom_65 : decode cX0_copyFrom 65 = .ok (.iconst 0, 1) := by decide +kernel
theorem dX0_copyFrom_66 : decode cX0_copyFrom 66 = .ok (.aload_n 0, 1) := by decide +kernel
theorem dX0_copyFrom_67 : decode cX0_copyFrom 67 = .ok (.getfield 28, 3) := by decide +kernel
theorem dX0_copyFrom_70 : decode cX0_copyFrom 70 = .ok (.iconst 0, 1) := by decide +kernel
theorem dX0_copyFrom_71 : decode cX0_copyFrom 71 = .ok (.bipush 9, 2) := by decide +kernel
theorem dX0_copyFrom_73 : decode cX0_copyFrom 73 = .ok (.invokestatic 34, 3) := by decide +kernel
theorem dX0_copyFrom_76 : decode cX0_copyFrom 76 = .ok (.aload_n 1, 1) := by decide +kernel
theorem dX0_copyFrom_77 : decode cX0_copyFrom 77 = .ok (.getfield 31, 3) := by decide +kernel
theorem dX0_copyFrom_80 : decode cX0_copyFrom 80 = .ok (.iconst 0, 1) := by decide +kernel
theorem dX0_copyFrom_81 : decode cX0_copyFrom 81 = .ok (.aload_n 0, 1) := by decide +kernel
theorem dX0_copyFrom_82 : decode cX0_copyFrom 82 = .ok (.getfield 31, 3) := by decide +kernel
theorem dX0_copyFrom_85 : decode cX0_copyFrom 85 = .ok (.iconst 0, 1) := by decide +kernel
theorem dX0_copyFrom_86 : decode cX0_copyFrom 86 = .ok (.bipush 36, 2) := by decide +kernel
theorem dX0_copyFrom_88 : decode cX0_copyFrom 88 = .ok (.invokestatic 34, 3) := by decide +kernel
theorem dX0_copyFrom_91 : decode cX0_copyFrom 91 = .ok (.return_, 1) := by decide +kernel
theorem dX0_has_0 : decode cX0_has 0 = .ok (.iload_n 1, 1) := by decide +kernel
theorem dX0_has_1 : decode cX0_has 1 = .ok (.ifCond .lt 15, 3) := by decide +kernel
theorem dX0_has_4 : decode cX0_has 4 = .ok (.iload_n 1, 1) := by decide +kernel
theorem dX0_has_5 : decode cX0_has 5 = .ok (.aload_n 0, 1) := by decide +kernel
theorem dX0_has_6 : decode cX0_has 6 = .ok (.getfield 9, 3) := by decide +kernel
theorem dX0_has_9 : decode cX0_has 9 = .ok (.if_icmp .ge 7, 3) := by decide +kernel
theorem dX0_has_12 : decode cX0_has 12 = .ok (.iconst 1, 1) := by decide +kernel
theorem dX0_has_13 : decode cX0_has 13 = .ok (.goto 4, 3) := by decide +kernel
theorem dX0_has_16 : decode cX0_has 16 = .ok (.iconst 0, 1) := by decide +kernel
theorem dX0_has_17 : decode cX0_has 17 = .ok (.ireturn, 1) := by decide +kernel
theorem dX0_feature_0 : decode cX0_feature 0 = .ok (.iload_n 2, 1) := by decide +kernel
theorem dX0_feature_1 : decode cX0_feature 1 = .ok (.tableswitch 48 0 2 #[27, 34, 41], 27) := by decide +kernel
theorem dX0_feature_28 : decode cX0_feature 28 = .ok (.aload_n 0, 1) := by decide +kernel
theorem dX0_feature_29 : decode cX0_feature 29 = .ok (.getfield 18, 3) := by decide +kernel
theorem dX0_feature_32 : decode cX0_feature 32 = .ok (.iload_n 1, 1) := by decide +kernel
theorem dX0_feature_33 : decode cX0_feature 33 = .ok (.iaload, 1) := by decide +kernel
theorem dX0_feature_34 : decode cX0_feature 34 = .ok (.ireturn, 1) := by decide +kernel
theorem dX0_feature_35 : decode cX0_feature 35 = .ok (.aload_n 0, 1) := by decide +kernel
theorem dX0_feature_36 : decode cX0_feature 36 = .ok (.getfield 22, 3) := by decide +kernel
theorem dX0_feature_39 : decode cX0_feature 39 = .ok (.iload_n 1, 1) := by decide +kernel
theorem dX0_feature_40 : decode cX0_feature 40 = .ok (.iaload, 1) := by decide +kernel
theorem dX0_feature_41 : decode cX0_feature 41 = .ok (.ireturn, 1) := by decide +kernel
theorem dX0_feature_42 : decode cX0_feature 42 = .ok (.aload_n 0, 1) := by decide +kernel
theorem dX0_feature_43 : decode cX0_feature 43 = .ok (.getfield 25, 3) := by decide +kernel
theorem dX0_feature_46 : decode cX0_feature 46 = .ok (.iload_n 1, 1) := by decide +kernel
theorem dX0_feature_47 : decode cX0_feature 47 = .ok (.iaload, 1) := by decide +kernel
theorem dX0_feature_48 : decode cX0_feature 48 = .ok (.ireturn, 1) := by decide +kernel
theorem dX0_feature_49 : decode cX0_feature 49 = .ok (.aload_n 0, 1) := by decide +kernel
theorem dX0_feature_50 : decode cX0_feature 50 = .ok (.getfield 28, 3) := by decide +kernel
theorem dX0_feature_53 : decode cX0_feature 53 = .ok (.iload_n 1, 1) := by decide +kernel
theorem dX0_feature_54 : decode cX0_feature 54 = .ok (.iaload, 1) := by decide +kernel
theorem dX0_feature_55 : decode cX0_feature 55 = .ok (.ireturn, 1) := by decide +kernel
theorem dX0_isSpread_0 : decode cX0_isSpread 0 = .ok (.aload_n 0, 1) := by decide +kernel
theorem dX0_isSpread_1 : decode cX0_isSpread 1 = .ok (.getfield 25, 3) := by decide +kernel
theorem dX0_isSpread_4 : decode cX0_isSpread 4 = .ok (.iload_n 1, 1) := by decide +kernel
theorem dX0_isSpread_5 : decode cX0_isSpread 5 = .ok (.iaload, 1) := by decide +kernel
theorem dX0_isSpread_6 : decode cX0_isSpread 6 = .ok (.iconst 2, 1) := by decide +kernel
theorem dX0_isSpread_7 : decode cX0_isSpread 7 = .ok (.if_icmp .ne 7, 3) := by decide +kernel
theorem dX0_isSpread_10 : decode cX0_isSpread 10 = .ok (.iconst 1, 1) := by decide +kernel
theorem dX0_isSpread_11 : decode cX0_isSpread 11 = .ok (.goto 4, 3) := by decide +kernel
theorem dX0_isSpread_14 : decode cX0_isSpread 14 = .ok (.iconst 0, 1) := by decide +kernel
theorem dX0_isSpread_15 : decode cX0_isSpread 15 = .ok (.ireturn, 1) := by decide +kernel
theorem dX0_wantsOwnTier_0 : decode cX0_wantsOwnTier 0 = .ok (.aload_n 0, 1) := by decide +kernel
theorem dX0_wantsOwnTier_1 : decode cX0_wantsOwnTier 1 = .ok (.getfield 25, 3) := by decide +kernel
theorem dX0_wantsOwnTier_4 : decode cX0_wantsOwnTier 4 = .ok (.iload_n 1, 1) := by decide +kernel
theorem dX0_wantsOwnTier_5 : decode cX0_wantsOwnTier 5 = .ok (.iaload, 1) := by decide +kernel
theorem dX0_wantsOwnTier_6 : decode cX0_wantsOwnTier 6 = .ok (.iconst 1, 1) := by decide +kernel
theorem dX0_wantsOwnTier_7 : decode cX0_wantsOwnTier 7 = .ok (.if_icmp .eq 13, 3) := by decide +kernel
theorem dX0_wantsOwnTier_10 : decode cX0_wantsOwnTier 10 = .ok (.aload_n 0, 1) := by decide +kernel
theorem dX0_wantsOwnTier_11 : decode cX0_wantsOwnTier 11 = .ok (.getfield 25, 3) := by decide +kernel
theorem dX0_wantsOwnTier_14 : decode cX0_wantsOwnTier 14 = .ok (.iload_n 1, 1) := by decide +kernel
theorem dX0_wantsOwnTier_15 : decode cX0_wantsOwnTier 15 = .ok (.iaload, 1) := by decide +kernel
theorem dX0_wantsOwnTier_16 : decode cX0_wantsOwnTier 16 = .ok (.iconst 2, 1) := by decide +kernel
theorem dX0_wantsOwnTier_17 : decode cX0_wantsOwnTier 17 = .ok (.if_icmp .ne 7, 3) := by decide +kernel
theorem dX0_wantsOwnTier_20 : decode cX0_wantsOwnTier 20 = .ok (.iconst 1, 1) := by decide +kernel
theorem dX0_wantsOwnTier_21 : decode cX0_wantsOwnTier 21 = .ok (.goto 4, 3) := by decide +kernel
theorem dX0_wantsOwnTier_24 : decode cX0_wantsOwnTier 24 = .ok (.iconst 0, 1) := by decide +kernel
theorem dX0_wantsOwnTier_25 : decode cX0_wantsOwnTier 25 = .ok (.ireturn, 1) := by decide +kernel
theorem dX0_wantsLeftPage_0 : decode cX0_wantsLeftPage 0 = .ok (.aload_n 0, 1) := by decide +kernel
theorem dX0_wantsLeftPage_1 : decode cX0_wantsLeftPage 1 = .ok (.getfield 25, 3) := by decide +kernel
theorem dX0_wantsLeftPage_4 : decode cX0_wantsLeftPage 4 = .ok (.iload_n 1, 1) := by decide +kernel
theorem dX0_wantsLeftPage_5 : decode cX0_wantsLeftPage 5 = .ok (.iaload, 1) := by decide +kernel
theorem dX0_wantsLeftPage_6 : decode cX0_wantsLeftPage 6 = .ok (.iconst 2, 1) := by decide +kernel
theorem dX0_wantsLeftPage_7 : decode cX0_wantsLeftPage 7 = .ok (.if_icmp .eq 13, 3) := by decide +kernel
theorem dX0_wantsLeftPage_10 : decode cX0_wantsLeftPage 10 = .ok (.aload_n 0, 1) := by decide +kernel
theorem dX0_wantsLeftPage_11 : decode cX0_wantsLeftPage 11 = .ok (.getfield 25, 3) := by decide +kernel
theorem dX0_wantsLeftPage_14 : decode cX0_wantsLeftPage 14 = .ok (.iload_n 1, 1) := by decide +kernel
theorem dX0_wantsLeftPage_15 : decode cX0_wantsLeftPage 15 = .ok (.iaload, 1) := by decide +kernel
theorem dX0_wantsLeftPage_16 : decode cX0_wantsLeftPage 16 = .ok (.iconst 3, 1) := by decide +kernel
theorem dX0_wantsLeftPage_17 : decode cX0_wantsLeftPage 17 = .ok (.if_icmp .ne 7, 3) := by decide +kernel
theorem dX0_wantsLeftPage_20 : decode cX0_wantsLeftPage 20 = .ok (.iconst 1, 1) := by decide +kernel
theorem dX0_wantsLeftPage_21 : decode cX0_wantsLeftPage 21 = .ok (.goto 4, 3) := by decide +kernel
theorem dX0_wantsLeftPage_24 : decode cX0_wantsLeftPage 24 = .ok (.iconst 0, 1) := by decide +kernel
theorem dX0_wantsLeftPage_25 : decode cX0_wantsLeftPage 25 = .ok (.ireturn, 1) := by decide +kernel
theorem dX0_speakerColumn_0 : decode cX0_speakerColumn 0 = .ok (.aload_n 0, 1) := by decide +kernel
theorem dX0_speakerColumn_1 : decode cX0_speakerColumn 1 = .ok (.getfield 31, 3) := by decide +kernel
theorem dX0_speakerColumn_4 : decode cX0_speakerColumn 4 = .ok (.iload_n 1, 1) := by decide +kernel
theorem dX0_speakerColumn_5 : decode cX0_speakerColumn 5 = .ok (.iconst 4, 1) := by decide +kernel
theorem dX0_speakerColumn_6 : decode cX0_speakerColumn 6 = .ok (.imul, 1) := by decide +kernel
theorem dX0_speakerColumn_7 : decode cX0_speakerColumn 7 = .ok (.iload_n 2, 1) := by decide +kernel
theorem dX0_speakerColumn_8 : decode cX0_speakerColumn 8 = .ok (.iadd, 1) := by decide +kernel
theorem dX0_speakerColumn_9 : decode cX0_speakerColumn 9 = .ok (.iaload, 1) := by decide +kernel
theorem dX0_speakerColumn_10 : decode cX0_speakerColumn 10 = .ok (.ireturn, 1) := by decide +kernel
theorem dX0_allBalloons_0 : decode cX0_allBalloons 0 = .ok (.iconst 0, 1) := by decide +kernel
theorem dX0_allBalloons_1 : decode cX0_allBalloons 1 = .ok (.istore_n 1, 1) := by decide +kernel
theorem dX0_allBalloons_2 : decode cX0_allBalloons 2 = .ok (.iconst 0, 1) := by decide +kernel
theorem dX0_allBalloons_3 : decode cX0_allBalloons 3 = .ok (.istore_n 2, 1) := by decide +kernel
theorem dX0_allBalloons_4 : decode cX0_allBalloons 4 = .ok (.iload_n 2, 1) := by decide +kernel
theorem dX0_allBalloons_5 : decode cX0_allBalloons 5 = .ok (.aload_n 0, 1) := by decide +kernel
theorem dX0_allBalloons_6 : decode cX0_allBalloons 6 = .ok (.getfield 9, 3) := by decide +kernel
theorem dX0_allBalloons_9 : decode cX0_allBalloons 9 = .ok (.if_icmp .ge 18, 3) := by decide +kernel
theorem dX0_allBalloons_12 : decode cX0_allBalloons 12 = .ok (.iload_n 1, 1) := by decide +kernel
theorem dX0_allBalloons_13 : decode cX0_allBalloons 13 = .ok (.aload_n 0, 1) := by decide +kernel
theorem dX0_allBalloons_14 : decode cX0_allBalloons 14 = .ok (.getfield 28, 3) := by decide +kernel
theorem dX0_allBalloons_17 : decode cX0_allBalloons 17 = .ok (.iload_n 2, 1) := by decide +kernel
theorem dX0_allBalloons_18 : decode cX0_allBalloons 18 = .ok (.iaload, 1) := by decide +kernel
theorem dX0_allBalloons_19 : decode cX0_allBalloons 19 = .ok (.iadd, 1) := by decide +kernel
theorem dX0_allBalloons_20 : decode cX0_allBalloons 20 = .ok (.istore_n 1, 1) := by decide +kernel
theorem dX0_allBalloons_21 : decode cX0_allBalloons 21 = .ok (.iinc 2 1, 3) := by decide +kernel
theorem dX0_allBalloons_24 : decode cX0_allBalloons 24 = .ok (.goto (-20), 3) := by decide +kernel
theorem dX0_allBalloons_27 : decode cX0_allBalloons 27 = .ok (.iload_n 1, 1) := by decide +kernel
theorem dX0_allBalloons_28 : decode cX0_allBalloons 28 = .ok (.ireturn, 1) := by decide +kernel
theorem dX0_tierHeight_0 : decode cX0_tierHeight 0 = .ok (.iconst 0, 1) := by decide +kernel
theorem dX0_tierHeight_1 : decode cX0_tierHeight 1 = .ok (.istore_n 3, 1) := by decide +kernel
theorem dX0_tierHeight_2 : decode cX0_tierHeight 2 = .ok (.iload_n 1, 1) := by decide +kernel
theorem dX0_tierHeight_3 : decode cX0_tierHeight 3 = .ok (.istore 4, 2) := by decide +kernel
theorem dX0_tierHeight_5 : decode cX0_tierHeight 5 = .ok (.iload 4, 2) := by decide +kernel
theorem dX0_tierHeight_7 : decode cX0_tierHeight 7 = .ok (.iload_n 1, 1) := by decide +kernel
theorem dX0_tierHeight_8 : decode cX0_tierHeight 8 = .ok (.iload_n 2, 1) := by decide +kernel
theorem dX0_tierHeight_9 : decode cX0_tierHeight 9 = .ok (.iadd, 1) := by decide +kernel
theorem dX0_tierHeight_10 : decode cX0_tierHeight 10 = .ok (.if_icmp .ge 21, 3) := by decide +kernel
theorem dX0_tierHeight_13 : decode cX0_tierHeight 13 = .ok (.iload_n 3, 1) := by decide +kernel
theorem dX0_tierHeight_14 : decode cX0_tierHeight 14 = .ok (.aload_n 0, 1) := by decide +kernel
theorem dX0_tierHeight_15 : decode cX0_tierHeight 15 = .ok (.getfield 22, 3) := by decide +kernel
theorem dX0_tierHeight_18 : decode cX0_tierHeight 18 = .ok (.iload 4, 2) := by decide +kernel
theorem dX0_tierHeight_20 : decode cX0_tierHeight 20 = .ok (.iaload, 1) := by decide +kernel
theorem dX0_tierHeight_21 : decode cX0_tierHeight 21 = .ok (.invokestatic 40, 3) := by decide +kernel
theorem dX0_tierHeight_24 : decode cX0_tierHeight 24 = .ok (.istore_n 3, 1) := by decide +kernel
theorem dX0_tierHeight_25 : decode cX0_tierHeight 25 = .ok (.iinc 4 1, 3) := by decide +kernel
theorem dX0_tierHeight_28 : decode cX0_tierHeight 28 = .ok (.goto (-23), 3) := by decide +kernel
theorem dX0_tierHeight_31 : decode cX0_tierHeight 31 = .ok (.iload_n 3, 1) := by decide +kernel
theorem dX0_tierHeight_32 : decode cX0_tierHeight 32 = .ok (.ireturn, 1) := by decide +kernel
set_option maxRecDepth 20000 in
theorem ggX0_tierGaps_X0_tierHeight : GoodIn wsX0_tierGaps wsX0_tierHeight := goodIn_r _ [6, 1, 7, 8, 9, 10, 11, 12, 13, 14, 15, 16, 17] (by decide +kernel) (by decide +kernel)
set_option maxRecDepth 20000 in
theorem gX0_tierGaps_X0_tierHeight : GoodIn wsX0_tierGaps (wsV RX0 46 RX0 yX0_tierHeight wsX0_tierHeight) := goodIn_app (goodIn_of _ (by decide +kernel)) ggX0_tierGaps_X0_tierHeight
theorem dX0_tierGaps_0 : decode cX0_tierGaps 0 = .ok (.aload_n 0, 1) := by decide +kernel
theorem dX0_tierGaps_1 : decode cX0_tierGaps 1 = .ok (.iload_n 1, 1) := by decide +kernel
theorem dX0_tierGaps_2 : decode cX0_tierGaps 2 = .ok (.iload_n 2, 1) := by decide +kernel
theorem dX0_tierGaps_3 : decode cX0_tierGaps 3 = .ok (.invokevirtual 46, 3) := by decide +kernel
theorem dX0_tierGaps_6 : decode cX0_tierGaps 6 = .ok (.istore_n 3, 1) := by decide +kernel
theorem dX0_tierGaps_7 : decode cX0_tierGaps 7 = .ok (.iconst 0, 1) := by decide +kernel
theorem dX0_tierGaps_8 : decode cX0_tierGaps 8 = .ok (.istore 4, 2) := by decide +kernel
theorem dX0_tierGaps_10 : decode cX0_tierGaps 10 = .ok (.iload_n 1, 1) := by decide +kernel
theorem dX0_tierGaps_11 : decode cX0_tierGaps 11 = .ok (.istore 5, 2) := by decide +kernel
theorem dX0_tierGaps_13 : decode cX0_tierGaps 13 = .ok (.iload 5, 2) := by decide +kernel
theorem dX0_tierGaps_15 : decode cX0_tierGaps 15 = .ok (.iload_n 1, 1) := by decide +kernel
theorem dX0_tierGaps_16 : decode cX0_tierGaps 16 = .ok (.iload_n 2, 1) := by decide +kernel
theorem dX0_tierGaps_17 : decode cX0_tierGaps 17 = .ok (.iadd, 1) := by decide +kernel
theorem dX0_tierGaps_18 : decode cX0_tierGaps 18 = .ok (.if_icmp .ge 23, 3) := by decide +kernel
theorem dX0_tierGaps_21 : decode cX0_tierGaps 21 = .ok (.iload 4, 2) := by decide +kernel
theorem dX0_tierGaps_23 : decode cX0_tierGaps 23 = .ok (.iload_n 3, 1) := by decide +kernel
theorem dX0_tierGaps_24 : decode cX0_tierGaps 24 = .ok (.aload_n 0, 1) := by decide +kernel
theorem dX0_tierGaps_25 : decode cX0_tierGaps 25 = .ok (.getfield 22, 3) := by decide +kernel
theorem dX0_tierGaps_28 : decode cX0_tierGaps 28 = .ok (.iload 5, 2) := by decide +kernel
theorem dX0_tierGaps_30 : decode cX0_tierGaps 30 = .ok (.iaload, 1) := by decide +kernel
theorem dX0_tierGaps_31 : decode cX0_tierGaps 31 = .ok (.isub, 1) := by decide +kernel
theorem dX0_tierGaps_32 : decode cX0_tierGaps 32 = .ok (.iadd, 1) := by decide +kernel
theorem dX0_tierGaps_33 : decode cX0_tierGaps 33 = .ok (.istore 4, 2) := by decide +kernel
theorem dX0_tierGaps_35 : decode cX0_tierGaps 35 = .ok (.iinc 5 1, 3) := by decide +kernel
theorem dX0_tierGaps_38 : decode cX0_tierGaps 38 = .ok (.goto (-25), 3) := by decide +kernel
theorem dX0_tierGaps_41 : decode cX0_tierGaps 41 = .ok (.iload 4, 2) := by decide +kernel
theorem dX0_tierGaps_43 : decode cX0_tierGaps 43 = .ok (.ireturn, 1) := by decide +kernel
theorem dX0_tierWidth_0 : decode cX0_tierWidth 0 = .ok (.iconst 0, 1) := by decide +kernel
theorem dX0_tierWidth_1 : decode cX0_tierWidth 1 = .ok (.istore 4, 2) := by decide +kernel
theorem dX0_tierWidth_3 : decode cX0_tierWidth 3 = .ok (.iload_n 1, 1) := by decide +kernel
theorem dX0_tierWidth_4 : decode cX0_tierWidth 4 = .ok (.istore 5, 2) := by decide +kernel
theorem dX0_tierWidth_6 : decode cX0_tierWidth 6 = .ok (.iload 5, 2) := by decide +kernel
theorem dX0_tierWidth_8 : decode cX0_tierWidth 8 = .ok (.iload_n 1, 1) := by decide +kernel
theorem dX0_tierWidth_9 : decode cX0_tierWidth 9 = .ok (.iload_n 2, 1) := by decide +kernel
theorem dX0_tierWidth_10 : decode cX0_tierWidth 10 = .ok (.iadd, 1) := by decide +kernel
theorem dX0_tierWidth_11 : decode cX0_tierWidth 11 = .ok (.if_icmp .ge 21, 3) := by decide +kernel
theorem dX0_tierWidth_14 : decode cX0_tierWidth 14 = .ok (.iload 4, 2) := by decide +kernel
theorem dX0_tierWidth_16 : decode cX0_tierWidth 16 = .ok (.aload_n 0, 1) := by decide +kernel
theorem dX0_tierWidth_17 : decode cX0_tierWidth 17 = .ok (.getfield 18, 3) := by decide +kernel
theorem dX0_tierWidth_20 : decode cX0_tierWidth 20 = .ok (.iload 5, 2) := by decide +kernel
theorem dX0_tierWidth_22 : decode cX0_tierWidth 22 = .ok (.iaload, 1) := by decide +kernel
theorem dX0_tierWidth_23 : decode cX0_tierWidth 23 = .ok (.iadd, 1) := by decide +kernel
theorem dX0_tierWidth_24 : decode cX0_tierWidth 24 = .ok (.istore 4, 2) := by decide +kernel
theorem dX0_tierWidth_26 : decode cX0_tierWidth 26 = .ok (.iinc 5 1, 3) := by decide +kernel
theorem dX0_tierWidth_29 : decode cX0_tierWidth 29 = .ok (.goto (-23), 3) := by decide +kernel
theorem dX0_tierWidth_32 : decode cX0_tierWidth 32 = .ok (.iload 4, 2) := by decide +kernel
theorem dX0_tierWidth_34 : decode cX0_tierWidth 34 = .ok (.iconst 1, 1) := by decide +kernel
theorem dX0_tierWidth_35 : decode cX0_tierWidth 35 = .ok (.if_icmp .ge 5, 3) := by decide +kernel
theorem dX0_tierWidth_38 : decode cX0_tierWidth 38 = .ok (.iconst 0, 1) := by decide +kernel
theorem dX0_tierWidth_39 : decode cX0_tierWidth 39 = .ok (.ireturn, 1) := by decide +kernel
theorem dX0_tierWidth_40 : decode cX0_tierWidth 40 = .ok (.iload_n 1, 1) := by decide +kernel
theorem dX0_tierWidth_41 : decode cX0_tierWidth 41 = .ok (.iload_n 3, 1) := by decide +kernel
theorem dX0_tierWidth_42 : decode cX0_tierWidth 42 = .ok (.iadd, 1) := by decide +kernel
theorem dX0_tierWidth_43 : decode cX0_tierWidth 43 = .ok (.istore 5, 2) := by decide +kernel
theorem dX0_tierWidth_45 : decode cX0_tierWidth 45 = .ok (.bipush 12, 2) := by decide +kernel
theorem dX0_tierWidth_47 : decode cX0_tierWidth 47 = .ok (.aload_n 0, 1) := by decide +kernel
theorem dX0_tierWidth_48 : decode cX0_tierWidth 48 = .ok (.getfield 18, 3) := by decide +kernel
theorem dX0_tierWidth_51 : decode cX0_tierWidth 51 = .ok (.iload 5, 2) := by decide +kernel
theorem dX0_tierWidth_53 : decode cX0_tierWidth 53 = .ok (.iaload, 1) := by decide +kernel
theorem dX0_tierWidth_54 : decode cX0_tierWidth 54 = .ok (.imul, 1) := by decide +kernel
theorem dX0_tierWidth_55 : decode cX0_tierWidth 55 = .ok (.iload 4, 2) := by decide +kernel
theorem dX0_tierWidth_57 : decode cX0_tierWidth 57 = .ok (.irem, 1) := by decide +kernel
theorem dX0_tierWidth_58 : decode cX0_tierWidth 58 = .ok (.istore 6, 2) := by decide +kernel
theorem dX0_tierWidth_60 : decode cX0_tierWidth 60 = .ok (.bipush 12, 2) := by decide +kernel
theorem dX0_tierWidth_62 : decode cX0_tierWidth 62 = .ok (.istore 7, 2) := by decide +kernel
theorem dX0_tierWidth_64 : decode cX0_tierWidth 64 = .ok (.iconst 0, 1) := by decide +kernel
theorem dX0_tierWidth_65 : decode cX0_tierWidth 65 = .ok (.istore 8, 2) := by decide +kernel
theorem dX0_tierWidth_67 : decode cX0_tierWidth 67 = .ok (.iload_n 1, 1) := by decide +kernel
theorem dX0_tierWidth_68 : decode cX0_tierWidth 68 = .ok (.istore 9, 2) := by decide +kernel
theorem dX0_tierWidth_70 : decode cX0_tierWidth 70 = .ok (.iload 9, 2) := by decide +kernel
theorem dX0_tierWidth_72 : decode cX0_tierWidth 72 = .ok (.iload_n 1, 1) := by decide +kernel
theorem dX0_tierWidth_73 : decode cX0_tierWidth 73 = .ok (.iload_n 2, 1) := by decide +kernel
theorem dX0_tierWidth_74 : decode cX0_tierWidth 74 = .ok (.iadd, 1) := by decide +kernel
theorem dX0_tierWidth_75 : decode cX0_tierWidth 75 = .ok (.if_icmp .ge 66, 3) := by decide +kernel
theorem dX0_tierWidth_78 : decode cX0_tierWidth 78 = .ok (.bipush 12, 2) := by decide +kernel
theorem dX0_tierWidth_80 : decode cX0_tierWidth 80 = .ok (.aload_n 0, 1) := by decide +kernel
theorem dX0_tierWidth_81 : decode cX0_tierWidth 81 = .ok (.getfield 18, 3) := by decide +kernel
theorem dX0_tierWidth_84 : decode cX0_tierWidth 84 = .ok (.iload 9, 2) := by decide +kernel
theorem dX0_tierWidth_86 : decode cX0_tierWidth 86 = .ok (.iaload, 1) := by decide +kernel
theorem dX0_tierWidth_87 : decode cX0_tierWidth 87 = .ok (.imul, 1) := by decide +kernel
theorem dX0_tierWidth_88 : decode cX0_tierWidth 88 = .ok (.iload 4, 2) := by decide +kernel
theorem dX0_tierWidth_90 : decode cX0_tierWidth 90 = .ok (.irem, 1) := by decide +kernel
theorem dX0_tierWidth_91 : decode cX0_tierWidth 91 = .ok (.istore 10, 2) := by decide +kernel
theorem dX0_tierWidth_93 : decode cX0_tierWidth 93 = .ok (.iload 7, 2) := by decide +kernel
theorem dX0_tierWidth_95 : decode cX0_tierWidth 95 = .ok (.bipush 12, 2) := by decide +kernel
theorem dX0_tierWidth_97 : decode cX0_tierWidth 97 = .ok (.aload_n 0, 1) := by decide +kernel
theorem dX0_tierWidth_98 : decode cX0_tierWidth 98 = .ok (.getfield 18, 3) := by decide +kernel
theorem dX0_tierWidth_101 : decode cX0_tierWidth 101 = .ok (.iload 9, 2) := by decide +kernel
theorem dX0_tierWidth_103 : decode cX0_tierWidth 103 = .ok (.iaload, 1) := by decide +kernel
theorem dX0_tierWidth_104 : decode cX0_tierWidth 104 = .ok (.imul, 1) := by decide +kernel
theorem dX0_tierWidth_105 : decode cX0_tierWidth 105 = .ok (.iload 4, 2) := by decide +kernel
theorem dX0_tierWidth_107 : decode cX0_tierWidth 107 = .ok (.idiv, 1) := by decide +kernel
theorem dX0_tierWidth_108 : decode cX0_tierWidth 108 = .ok (.isub, 1) := by decide +kernel
theorem dX0_tierWidth_109 : decode cX0_tierWidth 109 = .ok (.istore 7, 2) := by decide +kernel
theorem dX0_tierWidth_111 : decode cX0_tierWidth 111 = .ok (.iload 10, 2) := by decide +kernel
theorem dX0_tierWidth_113 : decode cX0_tierWidth 113 = .ok (.iload 6, 2) := by decide +kernel
theorem dX0_tierWidth_115 : decode cX0_tierWidth 115 = .ok (.if_icmp .gt 17, 3) := by decide +kernel
theorem dX0_tierWidth_118 : decode cX0_tierWidth 118 = .ok (.iload 10, 2) := by decide +kernel
theorem dX0_tierWidth_120 : decode cX0_tierWidth 120 = .ok (.iload 6, 2) := by decide +kernel
theorem dX0_tierWidth_122 : decode cX0_tierWidth 122 = .ok (.if_icmp .ne 13, 3) := by decide +kernel
theorem dX0_tierWidth_125 : decode cX0_tierWidth 125 = .ok (.iload 9, 2) := by decide +kernel
theorem dX0_tierWidth_127 : decode cX0_tierWidth 127 = .ok (.iload 5, 2) := by decide +kernel
theorem dX0_tierWidth_129 : decode cX0_tierWidth 129 = .ok (.if_icmp .ge 6, 3) := by decide +kernel
theorem dX0_tierWidth_132 : decode cX0_tierWidth 132 = .ok (.iinc 8 1, 3) := by decide +kernel
theorem dX0_tierWidth_135 : decode cX0_tierWidth 135 = .ok (.iinc 9 1, 3) := by decide +kernel
theorem dX0_tierWidth_138 : decode cX0_tierWidth 138 = .ok (.goto (-68), 3) := by decide +kernel
theorem dX0_tierWidth_141 : decode cX0_tierWidth 141 = .ok (.bipush 12, 2) := by decide +kernel
theorem dX0_tierWidth_143 : decode cX0_tierWidth 143 = .ok (.aload_n 0, 1) := by decide +kernel
theorem dX0_tierWidth_144 : decode cX0_tierWidth 144 = .ok (.getfield 18, 3) := by decide +kernel
theorem dX0_tierWidth_147 : decode cX0_tierWidth 147 = .ok (.iload 5, 2) := by decide +kernel
theorem dX0_tierWidth_149 : decode cX0_tierWidth 149 = .ok (.iaload, 1) := by decide +kernel
theorem dX0_tierWidth_150 : decode cX0_tierWidth 150 = .ok (.imul, 1) := by decide +kernel
theorem dX0_tierWidth_151 : decode cX0_tierWidth 151 = .ok (.iload 4, 2) := by decide +kernel
theorem dX0_tierWidth_153 : decode cX0_tierWidth 153 = .ok (.idiv, 1) := by decide +kernel
theorem dX0_tierWidth_154 : decode cX0_tierWidth 154 = .ok (.iload 8, 2) := by decide +kernel
theorem dX0_tierWidth_156 : decode cX0_tierWidth 156 = .ok (.iload 7, 2) := by decide +kernel
theorem dX0_tierWidth_158 : decode cX0_tierWidth 158 = .ok (.if_icmp .ge 7, 3) := by decide +kernel
theorem dX0_tierWidth_161 : decode cX0_tierWidth 161 = .ok (.iconst 1, 1) := by decide +kernel
theorem dX0_tierWidth_162 : decode cX0_tierWidth 162 = .ok (.goto 4, 3) := by decide +kernel
theorem dX0_tierWidth_165 : decode cX0_tierWidth 165 = .ok (.iconst 0, 1) := by decide +kernel
theorem dX0_tierWidth_166 : decode cX0_tierWidth 166 = .ok (.iadd, 1) := by decide +kernel
theorem dX0_tierWidth_167 : decode cX0_tierWidth 167 = .ok (.ireturn, 1) := by decide +kernel
theorem dX1_init_0 : decode cX1_init 0 = .ok (.aload_n 0, 1) := by decide +kernel
theorem dX1_init_1 : decode cX1_init 1 = .ok (.invokespecial 3, 3) := by decide +kernel
theorem dX1_init_4 : decode cX1_init 4 = .ok (.aload_n 0, 1) := by decide +kernel
theorem dX1_init_5 : decode cX1_init 5 = .ok (.iconst 0, 1) := by decide +kernel
theorem dX1_init_6 : decode cX1_init 6 = .ok (.putfield 9, 3) := by decide +kernel
theorem dX1_init_9 : decode cX1_init 9 = .ok (.aload_n 0, 1) := by decide +kernel
theorem dX1_init_10 : decode cX1_init 10 = .ok (.iconst 0, 1) := by decide +kernel
theorem dX1_init_11 : decode cX1_init 11 = .ok (.putfield 15, 3) := by decide +kernel
theorem dX1_init_14 : decode cX1_init 14 = .ok (.aload_n 0, 1) := by decide +kernel
theorem dX1_init_15 : decode cX1_init 15 = .ok (.iconst 0, 1) := by decide +kernel
theorem dX1_init_16 : decode cX1_init 16 = .ok (.putfield 18, 3) := by decide +kernel
theorem dX1_init_19 : decode cX1_init 19 = .ok (.aload_n 0, 1) := by decide +kernel
theorem dX1_init_20 : decode cX1_init 20 = .ok (.iconst 0, 1) := by decide +kernel
theorem dX1_init_21 : decode cX1_init 21 = .ok (.putfield 21, 3) := by decide +kernel
theorem dX1_init_24 : decode cX1_init 24 = .ok (.aload_n 0, 1) := by decide +kernel
theorem dX1_init_25 : decode cX1_init 25 = .ok (.iconst 0, 1) := by decide +kernel
theorem dX1_init_26 : decode cX1_init 26 = .ok (.putfield 24, 3) := by decide +kernel
theorem dX1_init_29 : decode cX1_init 29 = .ok (.aload_n 0, 1) := by decide +kernel
theorem dX1_init_30 : decode cX1_init 30 = .ok (.bipush 9, 2) := by decide +kernel
theorem dX1_init_32 : decode cX1_init 32 = .ok (.newarray .int, 2) := by decide +kernel
theorem dX1_init_34 : decode cX1_init 34 = .ok (.putfield 27, 3) := by decide +kernel
theorem dX1_init_37 : decode cX1_init 37 = .ok (.aload_n 0, 1) := by decide +kernel
theorem dX1_init_38 : decode cX1_init 38 = .ok (.bipush 9, 2) := by decide +kernel
theorem dX1_init_40 : decode cX1_init 40 = .ok (.newarray .int, 2) := by decide +kernel
theorem dX1_init_42 : decode cX1_init 42 = .ok (.putfield 31, 3) := by decide +kernel
theorem dX1_init_45 : decode cX1_init 45 = .ok (.aload_n 0, 1) := by decide +kernel
theorem dX1_init_46 : decode cX1_init 46 = .ok (.bipush 9, 2) := by decide +kernel
theorem dX1_init_48 : decode cX1_init 48 = .ok (.newarray .int, 2) := by decide +kernel
theorem dX1_init_50 : decode cX1_init 50 = .ok (.putfield 34, 3) := by decide +kernel
theorem dX1_init_53 : decode cX1_init 53 = .ok (.aload_n 0, 1) := by decide +kernel
theorem dX1_init_54 : decode cX1_init 54 = .ok (.bipush 9, 2) := by decide +kernel
theorem dX1_init_56 : decode cX1_init 56 = .ok (.newarray .int, 2) := by decide +kernel
theorem dX1_init_58 : decode cX1_init 58 = .ok (.putfield 37, 3) := by decide +kernel
theorem dX1_init_61 : decode cX1_init 61 = .ok (.aload_n 0, 1) := by decide +kernel
theorem dX1_init_62 : decode cX1_init 62 = .ok (.bipush 9, 2) := by decide +kernel
theorem dX1_init_64 : decode cX1_init 64 = .ok (.newarray .int, 2) := by decide +kernel
theorem dX1_init_66 : decode cX1_init 66 = .ok (.putfield 40, 3) := by decide +kernel
theorem dX1_init_69 : decode cX1_init 69 = .ok (.aload_n 0, 1) := by decide +kernel
theorem dX1_init_70 : decode cX1_init 70 = .ok (.bipush 9, 2) := by decide +kernel
theorem dX1_init_72 : decode cX1_init 72 = .ok (.newarray .int, 2) := by decide +kernel
theorem dX1_init_74 : decode cX1_init 74 = .ok (.putfield 43, 3) := by decide +kernel
theorem dX1_init_77 : decode cX1_init 77 = .ok (.aload_n 0, 1) := by decide +kernel
theorem dX1_init_78 : decode cX1_init 78 = .ok (.bipush 9, 2) := by decide +kernel
theorem dX1_init_80 : decode cX1_init 80 = .ok (.newarray .int, 2) := by decide +kernel
theorem dX1_init_82 : decode cX1_init 82 = .ok (.putfield 46, 3) := by decide +kernel
theorem dX1_init_85 : decode cX1_init 85 = .ok (.return_, 1) := by decide +kernel
set_option maxRecDepth 20000 in
theorem ggX1_pour_X2_figure : GoodIn wsX1_pour wsX2_figure := goodIn_r _ [7, 8, 79, 80] (by decide +kernel) (by decide +kernel)
set_option maxRecDepth 20000 in
theorem gX1_pour_X2_figure : GoodIn wsX1_pour (wsV RX1 54 RX2 yX2_figure wsX2_figure) := goodIn_app (goodIn_of _ (by decide +kernel)) ggX1_pour_X2_figure
set_option maxRecDepth 20000 in
theorem ggX1_pour_X1_whyNot : GoodIn wsX1_pour wsX1_whyNot := goodIn_r _ [13, 14, 15, 16, 17, 18, 19, 20, 21, 22, 23, 24, 25, 26, 27, 28, 29, 30, 31, 32, 12, 33, 34, 35, 36, 37, 38, 39, 40, 60, 61, 62, 63, 64, 65, 66, 67, 68, 69, 70, 71, 72, 73, 74, 75, 76, 77, 78] (by decide +kernel) (by decide +kernel)
set_option maxRecDepth 20000 in
theorem gX1_pour_X1_whyNot : GoodIn wsX1_pour (wsV RX1 60 RX1 yX1_whyNot wsX1_whyNot) := goodIn_app (goodIn_of _ (by decide +kernel)) ggX1_pour_X1_whyNot
set_option maxRecDepth 20000 in
theorem ggX1_pour_X1_put : GoodIn wsX1_pour wsX1_put := goodIn_r _ [44, 45, 46, 47, 48, 12, 49, 50, 14, 35, 36, 34, 51, 52, 53, 54, 55, 56, 57, 58, 59, 37, 38, 39, 40, 60, 61, 62, 63, 64, 65, 66, 67, 68, 69, 70, 71, 72, 73, 74, 75, 76, 77, 78] (by decide +kernel) (by decide +kernel)
set_option maxRecDepth 20000 in
theorem gX1_pour_X1_put : GoodIn wsX1_pour (wsV RX1 64 RX1 yX1_put wsX1_put) := goodIn_app (goodIn_of _ (by decide +kernel)) ggX1_pour_X1_put
theorem dX1_pour_0 : decode cX1_pour 0 = .ok (.aload_n 0, 1) := by decide +kernel
theorem dX1_pour_1 : decode cX1_pour 1 = .ok (.iconst 0, 1) := by decide +kernel
theorem dX1_pour_2 : decode cX1_pour 2 = .ok (.putfield 9, 3) := by decide +kernel
theorem dX1_pour_5 : decode cX1_pour 5 = .ok (.aload_n 0, 1) := by decide +kernel
theorem dX1_pour_6 : decode cX1_pour 6 = .ok (.getfield 9, 3) := by decide +kernel
theorem dX1_pour_9 : decode cX1_pour 9 = .ok (.aload_n 1, 1) := by decide +kernel
theorem dX1_pour_10 : decode cX1_pour 10 = .ok (.getfield 49, 3) := by decide +kernel
theorem dX1_pour_13 : decode cX1_pour 13 = .ok (.if_icmp .ge 55, 3) := by decide +kernel
theorem dX1_pour_16 : decode cX1_pour 16 = .ok (.aload_n 2, 1) := by decide +kernel
theorem dX1_pour_17 : decode cX1_pour 17 = .ok (.aload_n 0, 1) := by decide +kernel
theorem dX1_pour_18 : decode cX1_pour 18 = .ok (.getfield 9, 3) := by decide +kernel
theorem dX1_pour_21 : decode cX1_pour 21 = .ok (.invokevirtual 54, 3) := by decide +kernel
theorem dX1_pour_24 : decode cX1_pour 24 = .ok (.istore_n 3, 1) := by decide +kernel
theorem dX1_pour_25 : decode cX1_pour 25 = .ok (.aload_n 0, 1) := by decide +kernel
theorem dX1_pour_26 : decode cX1_pour 26 = .ok (.aload_n 1, 1) := by decide +kernel
theorem dX1_pour_27 : decode cX1_pour 27 = .ok (.aload_n 0, 1) := by decide +kernel
theorem dX1_pour_28 : decode cX1_pour 28 = .ok (.getfield 9, 3) := by decide +kernel
theorem dX1_pour_31 : decode cX1_pour 31 = .ok (.iload_n 3, 1) := by decide +kernel
theorem dX1_pour_32 : decode cX1_pour 32 = .ok (.invokevirtual 60, 3) := by decide +kernel
theorem dX1_pour_35 : decode cX1_pour 35 = .ok (.istore 4, 2) := by decide +kernel
theorem dX1_pour_37 : decode cX1_pour 37 = .ok (.iload 4, 2) := by decide +kernel
theorem dX1_pour_39 : decode cX1_pour 39 = .ok (.ifCond .eq 6, 3) := by decide +kernel
theorem dX1_pour_42 : decode cX1_pour 42 = .ok (.iload 4, 2) := by decide +kernel
theorem dX1_pour_44 : decode cX1_pour 44 = .ok (.ireturn, 1) := by decide +kernel
theorem dX1_pour_45 : decode cX1_pour 45 = .ok (.aload_n 0, 1) := by decide +kernel
theorem dX1_pour_46 : decode cX1_pour 46 = .ok (.aload_n 1, 1) := by decide +kernel
theorem dX1_pour_47 : decode cX1_pour 47 = .ok (.aload_n 0, 1) := by decide +kernel
theorem dX1_pour_48 : decode cX1_pour 48 = .ok (.getfield 9, 3) := by decide +kernel
theorem dX1_pour_51 : decode cX1_pour 51 = .ok (.iload_n 3, 1) := by decide +kernel
theorem dX1_pour_52 : decode cX1_pour 52 = .ok (.invokevirtual 64, 3) := by decide +kernel
theorem dX1_pour_55 : decode cX1_pour 55 = .ok (.aload_n 0, 1) := by decide +kernel
theorem dX1_pour_56 : decode cX1_pour 56 = .ok (.dup, 1) := by decide +kernel
theorem dX1_pour_57 : decode cX1_pour 57 = .ok (.getfield 9, 3) := by decide +kernel
theorem dX1_pour_60 : decode cX1_pour 60 = .ok (.iconst 1, 1) := by decide +kernel
theorem dX1_pour_61 : decode cX1_pour 61 = .ok (.iadd, 1) := by decide +kernel
theorem dX1_pour_62 : decode cX1_pour 62 = .ok (.putfield 9, 3) := by decide +kernel
theorem dX1_pour_65 : decode cX1_pour 65 = .ok (.goto (-60), 3) := by decide +kernel
theorem dX1_pour_68 : decode cX1_pour 68 = .ok (.iconst 0, 1) := by decide +kernel
theorem dX1_pour_69 : decode cX1_pour 69 = .ok (.ireturn, 1) := by decide +kernel
set_option maxRecDepth 20000 in
theorem ggX1_whyNot_X0_wantsOwnTier : GoodIn wsX1_whyNot wsX0_wantsOwnTier := goodIn_r _ [7, 8, 41, 42, 43, 44, 45, 46, 47] (by decide +kernel) (by decide +kernel)
set_option maxRecDepth 20000 in
theorem gX1_whyNot_X0_wantsOwnTier : GoodIn wsX1_whyNot (wsV RX1 68 RX0 yX0_wantsOwnTier wsX0_wantsOwnTier) := goodIn_app (goodIn_of _ (by decide +kernel)) ggX1_whyNot_X0_wantsOwnTier
set_option maxRecDepth 20000 in
theorem ggX1_whyNot_X0_wantsLeftPage : GoodIn wsX1_whyNot wsX0_wantsLeftPage := goodIn_r _ [12, 8, 41, 42, 43, 44, 45, 46, 47] (by decide +kernel) (by decide +kernel)
set_option maxRecDepth 20000 in
theorem gX1_whyNot_X0_wantsLeftPage : GoodIn wsX1_whyNot (wsV RX1 72 RX0 yX0_wantsLeftPage wsX0_wantsLeftPage) := goodIn_app (goodIn_of _ (by decide +kernel)) ggX1_whyNot_X0_wantsLeftPage
set_option maxRecDepth 20000 in
theorem ggX1_whyNot_X0_isSpread : GoodIn wsX1_whyNot wsX0_isSpread := goodIn_r _ [16, 8, 41, 42, 43, 44, 45, 46, 47] (by decide +kernel) (by decide +kernel)
set_option maxRecDepth 20000 in
theorem gX1_whyNot_X0_isSpread : GoodIn wsX1_whyNot (wsV RX1 75 RX0 yX0_isSpread wsX0_isSpread) := goodIn_app (goodIn_of _ (by decide +kernel)) ggX1_whyNot_X0_isSpread
set_option maxRecDepth 20000 in
theorem ggX1_whyNot_X1_pageHeightWith : GoodIn wsX1_whyNot wsX1_pageHeightWith := goodIn_r _ [21, 22, 23, 24, 25, 26, 27, 28, 41, 42, 43, 44, 45, 46, 47, 29, 30, 31, 32, 33, 34, 35, 36, 37, 38, 39, 40] (by decide +kernel) (by decide +kernel)
set_option maxRecDepth 20000 in
theorem gX1_whyNot_X1_pageHeightWith : GoodIn wsX1_whyNot (wsV RX1 78 RX1 yX1_pageHeightWith wsX1_pageHeightWith) := goodIn_app (goodIn_of _ (by decide +kernel)) ggX1_whyNot_X1_pageHeightWith
theorem dX1_whyNot_0 : decode cX1_whyNot 0 = .ok (.iload_n 3, 1) := by decide +kernel
theorem dX1_whyNot_1 : decode cX1_whyNot 1 = .ok (.iconst 2, 1) := by decide +kernel
theorem dX1_whyNot_2 : decode cX1_whyNot 2 = .ok (.if_icmp .eq 10, 3) := by decide +kernel
theorem dX1_whyNot_5 : decode cX1_whyNot 5 = .ok (.iload_n 2, 1) := by decide +kernel
theorem dX1_whyNot_6 : decode cX1_whyNot 6 = .ok (.iconst 1, 1) := by decide +kernel
theorem dX1_whyNot_7 : decode cX1_whyNot 7 = .ok (.if_icmp .ge 5, 3) := by decide +kernel
theorem dX1_whyNot_10 : decode cX1_whyNot 10 = .ok (.iconst 1, 1) := by decide +kernel
theorem dX1_whyNot_11 : decode cX1_whyNot 11 = .ok (.ireturn, 1) := by decide +kernel
theorem dX1_whyNot_12 : decode cX1_whyNot 12 = .ok (.iload_n 3, 1) := by decide +kernel
theorem dX1_whyNot_13 : decode cX1_whyNot 13 = .ok (.ifCond .ne 19, 3) := by decide +kernel
theorem dX1_whyNot_16 : decode cX1_whyNot 16 = .ok (.aload_n 0, 1) := by decide +kernel
theorem dX1_whyNot_17 : decode cX1_whyNot 17 = .ok (.getfield 37, 3) := by decide +kernel
theorem dX1_whyNot_20 : decode cX1_whyNot 20 = .ok (.iload_n 2, 1) := by decide +kernel
theorem dX1_whyNot_21 : decode cX1_whyNot 21 = .ok (.iconst 1, 1) := by decide +kernel
theorem dX1_whyNot_22 : decode cX1_whyNot 22 = .ok (.isub, 1) := by decide +kernel
theorem dX1_whyNot_23 : decode cX1_whyNot 23 = .ok (.iaload, 1) := by decide +kernel
theorem dX1_whyNot_24 : decode cX1_whyNot 24 = .ok (.iconst 1, 1) := by decide +kernel
theorem dX1_whyNot_25 : decode cX1_whyNot 25 = .ok (.iadd, 1) := by decide +kernel
theorem dX1_whyNot_26 : decode cX1_whyNot 26 = .ok (.iconst 4, 1) := by decide +kernel
theorem dX1_whyNot_27 : decode cX1_whyNot 27 = .ok (.if_icmp .lt 5, 3) := by decide +kernel
theorem dX1_whyNot_30 : decode cX1_whyNot 30 = .ok (.iconst 2, 1) := by decide +kernel
theorem dX1_whyNot_31 : decode cX1_whyNot 31 = .ok (.ireturn, 1) := by decide +kernel
theorem dX1_whyNot_32 : decode cX1_whyNot 32 = .ok (.iload_n 3, 1) := by decide +kernel
theorem dX1_whyNot_33 : decode cX1_whyNot 33 = .ok (.ifCond .ne 23, 3) := by decide +kernel
theorem dX1_whyNot_36 : decode cX1_whyNot 36 = .ok (.aload_n 1, 1) := by decide +kernel
theorem dX1_whyNot_37 : decode cX1_whyNot 37 = .ok (.iload_n 2, 1) := by decide +kernel
theorem dX1_whyNot_38 : decode cX1_whyNot 38 = .ok (.invokevirtual 68, 3) := by decide +kernel
theorem dX1_whyNot_41 : decode cX1_whyNot 41 = .ok (.ifCond .ne 13, 3) := by decide +kernel
theorem dX1_whyNot_44 : decode cX1_whyNot 44 = .ok (.aload_n 1, 1) := by decide +kernel
theorem dX1_whyNot_45 : decode cX1_whyNot 45 = .ok (.iload_n 2, 1) := by decide +kernel
theorem dX1_whyNot_46 : decode cX1_whyNot 46 = .ok (.iconst 1, 1) := by decide +kernel
theorem dX1_whyNot_47 : decode cX1_whyNot 47 = .ok (.isub, 1) := by decide +kernel
theorem dX1_whyNot_48 : decode cX1_whyNot 48 = .ok (.invokevirtual 68, 3) := by decide +kernel
theorem dX1_whyNot_51 : decode cX1_whyNot 51 = .ok (.ifCond .eq 5, 3) := by decide +kernel
theorem dX1_whyNot_54 : decode cX1_whyNot 54 = .ok (.iconst 3, 1) := by decide +kernel
theorem dX1_whyNot_55 : decode cX1_whyNot 55 = .ok (.ireturn, 1) := by decide +kernel
theorem dX1_whyNot_56 : decode cX1_whyNot 56 = .ok (.iload_n 3, 1) := by decide +kernel
theorem dX1_whyNot_57 : decode cX1_whyNot 57 = .ok (.iconst 2, 1) := by decide +kernel
theorem dX1_whyNot_58 : decode cX1_whyNot 58 = .ok (.if_icmp .eq 23, 3) := by decide +kernel
theorem dX1_whyNot_61 : decode cX1_whyNot 61 = .ok (.aload_n 1, 1) := by decide +kernel
theorem dX1_whyNot_62 : decode cX1_whyNot 62 = .ok (.iload_n 2, 1) := by decide +kernel
theorem dX1_whyNot_63 : decode cX1_whyNot 63 = .ok (.invokevirtual 72, 3) := by decide +kernel
theorem dX1_whyNot_66 : decode cX1_whyNot 66 = .ok (.ifCond .ne 13, 3) := by decide +kernel
theorem dX1_whyNot_69 : decode cX1_whyNot 69 = .ok (.aload_n 1, 1) := by decide +kernel
theorem dX1_whyNot_70 : decode cX1_whyNot 70 = .ok (.iload_n 2, 1) := by decide +kernel
theorem dX1_whyNot_71 : decode cX1_whyNot 71 = .ok (.iconst 1, 1) := by decide +kernel
theorem dX1_whyNot_72 : decode cX1_whyNot 72 = .ok (.isub, 1) := by decide +kernel
theorem dX1_whyNot_73 : decode cX1_whyNot 73 = .ok (.invokevirtual 75, 3) := by decide +kernel
theorem dX1_whyNot_76 : decode cX1_whyNot 76 = .ok (.ifCond .eq 5, 3) := by decide +kernel
theorem dX1_whyNot_79 : decode cX1_whyNot 79 = .ok (.iconst 4, 1) := by decide +kernel
theorem dX1_whyNot_80 : decode cX1_whyNot 80 = .ok (.ireturn, 1) := by decide +kernel
theorem dX1_whyNot_81 : decode cX1_whyNot 81 = .ok (.aload_n 1, 1) := by decide +kernel
theorem dX1_whyNot_82 : decode cX1_whyNot 82 = .ok (.iload_n 2, 1) := by decide +kernel
theorem dX1_whyNot_83 : decode cX1_whyNot 83 = .ok (.invokevirtual 75, 3) := by decide +kernel
theorem dX1_whyNot_86 : decode cX1_whyNot 86 = .ok (.ifCond .ne 19, 3) := by decide +kernel
theorem dX1_whyNot_89 : decode cX1_whyNot 89 = .ok (.aload_n 0, 1) := by decide +kernel
theorem dX1_whyNot_90 : decode cX1_whyNot 90 = .ok (.aload_n 1, 1) := by decide +kernel
theorem dX1_whyNot_91 : decode cX1_whyNot 91 = .ok (.iload_n 2, 1) := by decide +kernel
theorem dX1_whyNot_92 : decode cX1_whyNot 92 = .ok (.iload_n 3, 1) := by decide +kernel
theorem dX1_whyNot_93 : decode cX1_whyNot 93 = .ok (.invokevirtual 78, 3) := by decide +kernel
theorem dX1_whyNot_96 : decode cX1_whyNot 96 = .ok (.aload_n 1, 1) := by decide +kernel
theorem dX1_whyNot_97 : decode cX1_whyNot 97 = .ok (.getfield 81, 3) := by decide +kernel
theorem dX1_whyNot_100 : decode cX1_whyNot 100 = .ok (.if_icmp .le 5, 3) := by decide +kernel
theorem dX1_whyNot_103 : decode cX1_whyNot 103 = .ok (.iconst 5, 1) := by decide +kernel
theorem dX1_whyNot_104 : decode cX1_whyNot 104 = .ok (.ireturn, 1) := by decide +kernel
theorem dX1_whyNot_105 : decode cX1_whyNot 105 = .ok (.iconst 0, 1) := by decide +kernel
theorem dX1_whyNot_106 : decode cX1_whyNot 106 = .ok (.ireturn, 1) := by decide +kernel
theorem dX1_pageHeightWith_0 : decode cX1_pageHeightWith 0 = .ok (.aload_n 1, 1) := by decide +kernel
theorem dX1_pageHeightWith_1 : decode cX1_pageHeightWith 1 = .ok (.getfield 84, 3) := by decide +kernel
theorem dX1_pageHeightWith_4 : decode cX1_pageHeightWith 4 = .ok (.iload_n 2, 1) := by decide +kernel
theorem dX1_pageHeightWith_5 : decode cX1_pageHeightWith 5 = .ok (.iaload, 1) := by decide +kernel
theorem dX1_pageHeightWith_6 : decode cX1_pageHeightWith 6 = .ok (.istore 4, 2) := by decide +kernel
theorem dX1_pageHeightWith_8 : decode cX1_pageHeightWith 8 = .ok (.iload_n 3, 1) := by decide +kernel
theorem dX1_pageHeightWith_9 : decode cX1_pageHeightWith 9 = .ok (.iconst 2, 1) := by decide +kernel
theorem dX1_pageHeightWith_10 : decode cX1_pageHeightWith 10 = .ok (.if_icmp .eq 8, 3) := by decide +kernel
theorem dX1_pageHeightWith_13 : decode cX1_pageHeightWith 13 = .ok (.iload_n 2, 1) := by decide +kernel
theorem dX1_pageHeightWith_14 : decode cX1_pageHeightWith 14 = .ok (.iconst 1, 1) := by decide +kernel
theorem dX1_pageHeightWith_15 : decode cX1_pageHeightWith 15 = .ok (.if_icmp .ge 6, 3) := by decide +kernel
theorem dX1_pageHeightWith_18 : decode cX1_pageHeightWith 18 = .ok (.iload 4, 2) := by decide +kernel
theorem dX1_pageHeightWith_20 : decode cX1_pageHeightWith 20 = .ok (.ireturn, 1) := by decide +kernel
theorem dX1_pageHeightWith_21 : decode cX1_pageHeightWith 21 = .ok (.iload_n 3, 1) := by decide +kernel
theorem dX1_pageHeightWith_22 : decode cX1_pageHeightWith 22 = .ok (.iconst 1, 1) := by decide +kernel
theorem dX1_pageHeightWith_23 : decode cX1_pageHeightWith 23 = .ok (.if_icmp .ne 24, 3) := by decide +kernel
theorem dX1_pageHeightWith_26 : decode cX1_pageHeightWith 26 = .ok (.aload_n 0, 1) := by decide +kernel
theorem dX1_pageHeightWith_27 : decode cX1_pageHeightWith 27 = .ok (.getfield 40, 3) := by decide +kernel
theorem dX1_pageHeightWith_30 : decode cX1_pageHeightWith 30 = .ok (.iload_n 2, 1) := by decide +kernel
theorem dX1_pageHeightWith_31 : decode cX1_pageHeightWith 31 = .ok (.iconst 1, 1) := by decide +kernel
theorem dX1_pageHeightWith_32 : decode cX1_pageHeightWith 32 = .ok (.isub, 1) := by decide +kernel
theorem dX1_pageHeightWith_33 : decode cX1_pageHeightWith 33 = .ok (.iaload, 1) := by decide +kernel
theorem dX1_pageHeightWith_34 : decode cX1_pageHeightWith 34 = .ok (.aload_n 0, 1) := by decide +kernel
theorem dX1_pageHeightWith_35 : decode cX1_pageHeightWith 35 = .ok (.getfield 43, 3) := by decide +kernel
theorem dX1_pageHeightWith_38 : decode cX1_pageHeightWith 38 = .ok (.iload_n 2, 1) := by decide +kernel
theorem dX1_pageHeightWith_39 : decode cX1_pageHeightWith 39 = .ok (.iconst 1, 1) := by decide +kernel
theorem dX1_pageHeightWith_40 : decode cX1_pageHeightWith 40 = .ok (.isub, 1) := by decide +kernel
theorem dX1_pageHeightWith_41 : decode cX1_pageHeightWith 41 = .ok (.iaload, 1) := by decide +kernel
theorem dX1_pageHeightWith_42 : decode cX1_pageHeightWith 42 = .ok (.iadd, 1) := by decide +kernel
theorem dX1_pageHeightWith_43 : decode cX1_pageHeightWith 43 = .ok (.iload 4, 2) := by decide +kernel
theorem dX1_pageHeightWith_45 : decode cX1_pageHeightWith 45 = .ok (.iadd, 1) := by decide +kernel
theorem dX1_pageHeightWith_46 : decode cX1_pageHeightWith 46 = .ok (.ireturn, 1) := by decide +kernel
theorem dX1_pageHeightWith_47 : decode cX1_pageHeightWith 47 = .ok (.aload_n 0, 1) := by decide +kernel
theorem dX1_pageHeightWith_48 : decode cX1_pageHeightWith 48 = .ok (.getfield 40, 3) := by decide +kernel
theorem dX1_pageHeightWith_51 : decode cX1_pageHeightWith 51 = .ok (.iload_n 2, 1) := by decide +kernel
theorem dX1_pageHeightWith_52 : decode cX1_pageHeightWith 52 = .ok (.iconst 1, 1) := by decide +kernel
theorem dX1_pageHeightWith_53 : decode cX1_pageHeightWith 53 = .ok (.isub, 1) := by decide +kernel
theorem dX1_pageHeightWith_54 : decode cX1_pageHeightWith 54 = .ok (.iaload, 1) := by decide +kernel
theorem dX1_pageHeightWith_55 : decode cX1_pageHeightWith 55 = .ok (.aload_n 0, 1) := by decide +kernel
theorem dX1_pageHeightWith_56 : decode cX1_pageHeightWith 56 = .ok (.getfield 43, 3) := by decide +kernel
theorem dX1_pageHeightWith_59 : decode cX1_pageHeightWith 59 = .ok (.iload_n 2, 1) := by decide +kernel
theorem dX1_pageHeightWith_60 : decode cX1_pageHeightWith 60 = .ok (.iconst 1, 1) := by decide +kernel
theorem dX1_pageHeightWith_61 : decode cX1_pageHeightWith 61 = .ok (.isub, 1) := by decide +kernel
theorem dX1_pageHeightWith_62 : decode cX1_pageHeightWith 62 = .ok (.iaload, 1) := by decide +kernel
theorem dX1_pageHeightWith_63 : decode cX1_pageHeightWith 63 = .ok (.iload 4, 2) := by decide +kernel
theorem dX1_pageHeightWith_65 : decode cX1_pageHeightWith 65 = .ok (.invokestatic 87, 3) := by decide +kernel
theorem dX1_pageHeightWith_68 : decode cX1_pageHeightWith 68 = .ok (.iadd, 1) := by decide +kernel
theorem dX1_pageHeightWith_69 : decode cX1_pageHeightWith 69 = .ok (.ireturn, 1) := by decide +kernel
set_option maxRecDepth 20000 in
theorem ggX1_put_X1_beginPage : GoodIn wsX1_put wsX1_beginPage := goodIn_r _ [6, 7, 8, 9, 10, 11, 12, 25, 26, 27, 28, 29, 30, 31, 32, 33, 34, 35, 36, 37, 38, 39, 40, 41, 42, 43] (by decide +kernel) (by decide +kernel)
set_option maxRecDepth 20000 in
theorem gX1_put_X1_beginPage : GoodIn wsX1_put (wsV RX1 93 RX1 yX1_beginPage wsX1_beginPage) := goodIn_app (goodIn_of _ (by decide +kernel)) ggX1_put_X1_beginPage
set_option maxRecDepth 20000 in
theorem ggX1_put_X1_beginTier : GoodIn wsX1_put wsX1_beginTier := goodIn_r _ [16, 7, 8, 9, 10, 11, 12, 25, 26, 27, 28, 29, 30, 31, 32, 33, 34, 35, 36, 37, 38, 39, 40, 41, 42, 43] (by decide +kernel) (by decide +kernel)
set_option maxRecDepth 20000 in
theorem gX1_put_X1_beginTier : GoodIn wsX1_put (wsV RX1 97 RX1 yX1_beginTier wsX1_beginTier) := goodIn_app (goodIn_of _ (by decide +kernel)) ggX1_put_X1_beginTier
set_option maxRecDepth 20000 in
theorem ggX1_put_X1_goOn : GoodIn wsX1_put wsX1_goOn := goodIn_r _ [20, 7, 8, 9, 10, 11, 21, 22, 23, 24, 12, 25, 26, 27, 28, 29, 30, 31, 32, 33, 34, 35, 36, 37, 38, 39, 40, 41, 42, 43] (by decide +kernel) (by decide +kernel)
set_option maxRecDepth 20000 in
theorem gX1_put_X1_goOn : GoodIn wsX1_put (wsV RX1 100 RX1 yX1_goOn wsX1_goOn) := goodIn_app (goodIn_of _ (by decide +kernel)) ggX1_put_X1_goOn
theorem dX1_put_0 : decode cX1_put 0 = .ok (.aload_n 0, 1) := by decide +kernel
theorem dX1_put_1 : decode cX1_put 1 = .ok (.getfield 27, 3) := by decide +kernel
theorem dX1_put_4 : decode cX1_put 4 = .ok (.iload_n 2, 1) := by decide +kernel
theorem dX1_put_5 : decode cX1_put 5 = .ok (.iload_n 3, 1) := by decide +kernel
theorem dX1_put_6 : decode cX1_put 6 = .ok (.iastore, 1) := by decide +kernel
theorem dX1_put_7 : decode cX1_put 7 = .ok (.iload_n 3, 1) := by decide +kernel
theorem dX1_put_8 : decode cX1_put 8 = .ok (.iconst 2, 1) := by decide +kernel
theorem dX1_put_9 : decode cX1_put 9 = .ok (.if_icmp .eq 8, 3) := by decide +kernel
theorem dX1_put_12 : decode cX1_put 12 = .ok (.iload_n 2, 1) := by decide +kernel
theorem dX1_put_13 : decode cX1_put 13 = .ok (.iconst 1, 1) := by decide +kernel
theorem dX1_put_14 : decode cX1_put 14 = .ok (.if_icmp .ge 12, 3) := by decide +kernel
theorem dX1_put_17 : decode cX1_put 17 = .ok (.aload_n 0, 1) := by decide +kernel
theorem dX1_put_18 : decode cX1_put 18 = .ok (.aload_n 1, 1) := by decide +kernel
theorem dX1_put_19 : decode cX1_put 19 = .ok (.iload_n 2, 1) := by decide +kernel
theorem dX1_put_20 : decode cX1_put 20 = .ok (.invokevirtual 93, 3) := by decide +kernel
theorem dX1_put_23 : decode cX1_put 23 = .ok (.goto 23, 3) := by decide +kernel
theorem dX1_put_26 : decode cX1_put 26 = .ok (.iload_n 3, 1) := by decide +kernel
theorem dX1_put_27 : decode cX1_put 27 = .ok (.iconst 1, 1) := by decide +kernel
theorem dX1_put_28 : decode cX1_put 28 = .ok (.if_icmp .ne 12, 3) := by decide +kernel
theorem dX1_put_31 : decode cX1_put 31 = .ok (.aload_n 0, 1) := by decide +kernel
theorem dX1_put_32 : decode cX1_put 32 = .ok (.aload_n 1, 1) := by decide +kernel
theorem dX1_put_33 : decode cX1_put 33 = .ok (.iload_n 2, 1) := by decide +kernel
theorem dX1_put_34 : decode cX1_put 34 = .ok (.invokevirtual 97, 3) := by decide +kernel
theorem dX1_put_37 : decode cX1_put 37 = .ok (.goto 9, 3) := by decide +kernel
theorem dX1_put_40 : decode cX1_put 40 = .ok (.aload_n 0, 1) := by decide +kernel
theorem dX1_put_41 : decode cX1_put 41 = .ok (.aload_n 1, 1) := by decide +kernel
theorem dX1_put_42 : decode cX1_put 42 = .ok (.iload_n 2, 1) := by decide +kernel
theorem dX1_put_43 : decode cX1_put 43 = .ok (.invokevirtual 100, 3) := by decide +kernel
theorem dX1_put_46 : decode cX1_put 46 = .ok (.return_, 1) := by decide +kernel
theorem dX1_beginPage_0 : decode cX1_beginPage 0 = .ok (.aload_n 0, 1) := by decide +kernel
theorem dX1_beginPage_1 : decode cX1_beginPage 1 = .ok (.getfield 34, 3) := by decide +kernel
theorem dX1_beginPage_4 : decode cX1_beginPage 4 = .ok (.iload_n 2, 1) := by decide +kernel
theorem dX1_beginPage_5 : decode cX1_beginPage 5 = .ok (.iconst 0, 1) := by decide +kernel
theorem dX1_beginPage_6 : decode cX1_beginPage 6 = .ok (.iastore, 1) := by decide +kernel
theorem dX1_beginPage_7 : decode cX1_beginPage 7 = .ok (.aload_n 0, 1) := by decide +kernel
theorem dX1_beginPage_8 : decode cX1_beginPage 8 = .ok (.getfield 37, 3) := by decide +kernel
theorem dX1_beginPage_11 : decode cX1_beginPage 11 = .ok (.iload_n 2, 1) := by decide +kernel
theorem dX1_beginPage_12 : decode cX1_beginPage 12 = .ok (.iconst 0, 1) := by decide +kernel
theorem dX1_beginPage_13 : decode cX1_beginPage 13 = .ok (.iastore, 1) := by decide +kernel
theorem dX1_beginPage_14 : decode cX1_beginPage 14 = .ok (.aload_n 0, 1) := by decide +kernel
theorem dX1_beginPage_15 : decode cX1_beginPage 15 = .ok (.getfield 40, 3) := by decide +kernel
theorem dX1_beginPage_18 : decode cX1_beginPage 18 = .ok (.iload_n 2, 1) := by decide +kernel
theorem dX1_beginPage_19 : decode cX1_beginPage 19 = .ok (.iconst 0, 1) := by decide +kernel
theorem dX1_beginPage_20 : decode cX1_beginPage 20 = .ok (.iastore, 1) := by decide +kernel
theorem dX1_beginPage_21 : decode cX1_beginPage 21 = .ok (.aload_n 0, 1) := by decide +kernel
theorem dX1_beginPage_22 : decode cX1_beginPage 22 = .ok (.getfield 43, 3) := by decide +kernel
theorem dX1_beginPage_25 : decode cX1_beginPage 25 = .ok (.iload_n 2, 1) := by decide +kernel
theorem dX1_beginPage_26 : decode cX1_beginPage 26 = .ok (.aload_n 1, 1) := by decide +kernel
theorem dX1_beginPage_27 : decode cX1_beginPage 27 = .ok (.getfield 84, 3) := by decide +kernel
theorem dX1_beginPage_30 : decode cX1_beginPage 30 = .ok (.iload_n 2, 1) := by decide +kernel
theorem dX1_beginPage_31 : decode cX1_beginPage 31 = .ok (.iaload, 1) := by decide +kernel
theorem dX1_beginPage_32 : decode cX1_beginPage 32 = .ok (.iastore, 1) := by decide +kernel
theorem dX1_beginPage_33 : decode cX1_beginPage 33 = .ok (.aload_n 0, 1) := by decide +kernel
theorem dX1_beginPage_34 : decode cX1_beginPage 34 = .ok (.getfield 46, 3) := by decide +kernel
theorem dX1_beginPage_37 : decode cX1_beginPage 37 = .ok (.iload_n 2, 1) := by decide +kernel
theorem dX1_beginPage_38 : decode cX1_beginPage 38 = .ok (.iconst 0, 1) := by decide +kernel
theorem dX1_beginPage_39 : decode cX1_beginPage 39 = .ok (.iastore, 1) := by decide +kernel
theorem dX1_beginPage_40 : decode cX1_beginPage 40 = .ok (.return_, 1) := by decide +kernel
theorem dX1_beginTier_0 : decode cX1_beginTier 0 = .ok (.aload_n 0, 1) := by decide +kernel
theorem dX1_beginTier_1 : decode cX1_beginTier 1 = .ok (.getfield 34, 3) := by decide +kernel
theorem dX1_beginTier_4 : decode cX1_beginTier 4 = .ok (.iload_n 2, 1) := by decide +kernel
theorem dX1_beginTier_5 : decode cX1_beginTier 5 = .ok (.aload_n 0, 1) := by decide +kernel
theorem dX1_beginTier_6 : decode cX1_beginTier 6 = .ok (.getfield 34, 3) := by decide +kernel
theorem dX1_beginTier_9 : decode cX1_beginTier 9 = .ok (.iload_n 2, 1) := by decide +kernel
theorem dX1_beginTier_10 : decode cX1_beginTier 10 = .ok (.iconst 1, 1) := by decide +kernel
theorem dX1_beginTier_11 : decode cX1_beginTier 11 = .ok (.isub, 1) := by decide +kernel
theorem dX1_beginTier_12 : decode cX1_beginTier 12 = .ok (.iaload, 1) := by decide +kernel
theorem dX1_beginTier_13 : decode cX1_beginTier 13 = .ok (.iconst 1, 1) := by decide +kernel
theorem dX1_beginTier_14 : decode cX1_beginTier 14 = .ok (.iadd, 1) := by decide +kernel
theorem dX1_beginTier_15 : decode cX1_beginTier 15 = .ok (.iastore, 1) := by decide +kernel
theorem dX1_beginTier_16 : decode cX1_beginTier 16 = .ok (.aload_n 0, 1) := by decide +kernel
theorem dX1_beginTier_17 : decode cX1_beginTier 17 = .ok (.getfield 37, 3) := by decide +kernel
theorem dX1_beginTier_20 : decode cX1_beginTier 20 = .ok (.iload_n 2, 1) := by decide +kernel
theorem dX1_beginTier_21 : decode cX1_beginTier 21 = .ok (.iconst 0, 1) := by decide +kernel
theorem dX1_beginTier_22 : decode cX1_beginTier 22 = .ok (.iastore, 1) := by decide +kernel
theorem dX1_beginTier_23 : decode cX1_beginTier 23 = .ok (.aload_n 0, 1) := by decide +kernel
theorem dX1_beginTier_24 : decode cX1_beginTier 24 = .ok (.getfield 40, 3) := by decide +kernel
theorem dX1_beginTier_27 : decode cX1_beginTier 27 = .ok (.iload_n 2, 1) := by decide +kernel
theorem dX1_beginTier_28 : decode cX1_beginTier 28 = .ok (.aload_n 0, 1) := by decide +kernel
theorem dX1_beginTier_29 : decode cX1_beginTier 29 = .ok (.getfield 40, 3) := by decide +kernel
theorem dX1_beginTier_32 : decode cX1_beginTier 32 = .ok (.iload_n 2, 1) := by decide +kernel
theorem dX1_beginTier_33 : decode cX1_beginTier 33 = .ok (.iconst 1, 1) := by decide +kernel
theorem dX1_beginTier_34 : decode cX1_beginTier 34 = .ok (.isub, 1) := by decide +kernel
theorem dX1_beginTier_35 : decode cX1_beginTier 35 = .ok (.iaload, 1) := by decide +kernel
theorem dX1_beginTier_36 : decode cX1_beginTier 36 = .ok (.aload_n 0, 1) := by decide +kernel
theorem dX1_beginTier_37 : decode cX1_beginTier 37 = .ok (.getfield 43, 3) := by decide +kernel
theorem dX1_beginTier_40 : decode cX1_beginTier 40 = .ok (.iload_n 2, 1) := by decide +kernel
theorem dX1_beginTier_41 : decode cX1_beginTier 41 = .ok (.iconst 1, 1) := by decide +kernel
theorem dX1_beginTier_42 : decode cX1_beginTier 42 = .ok (.isub, 1) := by decide +kernel
theorem dX1_beginTier_43 : decode cX1_beginTier 43 = .ok (.iaload, 1) := by decide +kernel
theorem dX1_beginTier_44 : decode cX1_beginTier 44 = .ok (.iadd, 1) := by decide +kernel
theorem dX1_beginTier_45 : decode cX1_beginTier 45 = .ok (.iastore, 1) := by decide +kernel
theorem dX1_beginTier_46 : decode cX1_beginTier 46 = .ok (.aload_n 0, 1) := by decide +kernel
theorem dX1_beginTier_47 : decode cX1_beginTier 47 = .ok (.getfield 43, 3) := by decide +kernel
theorem dX1_beginTier_50 : decode cX1_beginTier 50 = .ok (.iload_n 2, 1) := by decide +kernel
theorem dX1_beginTier_51 : decode cX1_beginTier 51 = .ok (.aload_n 1, 1) := by decide +kernel
theorem dX1_beginTier_52 : decode cX1_beginTier 52 = .ok (.getfield 84, 3) := by decide +kernel
theorem dX1_beginTier_55 : decode cX1_beginTier 55 = .ok (.iload_n 2, 1) := by decide +kernel
theorem dX1_beginTier_56 : decode cX1_beginTier 56 = .ok (.iaload, 1) := by decide +kernel
theorem dX1_beginTier_57 : decode cX1_beginTier 57 = .ok (.iastore, 1) := by decide +kernel
theorem dX1_beginTier_58 : decode cX1_beginTier 58 = .ok (.aload_n 0, 1) := by decide +kernel
theorem dX1_beginTier_59 : decode cX1_beginTier 59 = .ok (.getfield 46, 3) := by decide +kernel
theorem dX1_beginTier_62 : decode cX1_beginTier 62 = .ok (.iload_n 2, 1) := by decide +kernel
theorem dX1_beginTier_63 : decode cX1_beginTier 63 = .ok (.aload_n 0, 1) := by decide +kernel
theorem dX1_beginTier_64 : decode cX1_beginTier 64 = .ok (.getfield 46, 3) := by decide +kernel
theorem dX1_beginTier_67 : decode cX1_beginTier 67 = .ok (.iload_n 2, 1) := by decide +kernel
theorem dX1_beginTier_68 : decode cX1_beginTier 68 = .ok (.iconst 1, 1) := by decide +kernel
theorem dX1_beginTier_69 : decode cX1_beginTier 69 = .ok (.isub, 1) := by decide +kernel
theorem dX1_beginTier_70 : decode cX1_beginTier 70 = .ok (.iaload, 1) := by decide +kernel
theorem dX1_beginTier_71 : decode cX1_beginTier 71 = .ok (.iastore, 1) := by decide +kernel
theorem dX1_beginTier_72 : decode cX1_beginTier 72 = .ok (.return_, 1) := by decide +kernel
theorem dX1_goOn_0 : decode cX1_goOn 0 = .ok (.aload_n 0, 1) := by decide +kernel
theorem dX1_goOn_1 : decode cX1_goOn 1 = .ok (.getfield 34, 3) := by decide +kernel
theorem dX1_goOn_4 : decode cX1_goOn 4 = .ok (.iload_n 2, 1) := by decide +kernel
theorem dX1_goOn_5 : decode cX1_goOn 5 = .ok (.aload_n 0, 1) := by decide +kernel
theorem dX1_goOn_6 : decode cX1_goOn 6 = .ok (.getfield 34, 3) := by decide +kernel
theorem dX1_goOn_9 : decode cX1_goOn 9 = .ok (.iload_n 2, 1) := by decide +kernel
theorem dX1_goOn_10 : decode cX1_goOn 10 = .ok (.iconst 1, 1) := by decide +kernel
theorem dX1_goOn_11 : decode cX1_goOn 11 = .ok (.isub, 1) := by decide +kernel
theorem dX1_goOn_12 : decode cX1_goOn 12 = .ok (.iaload, 1) := by decide +kernel
theorem dX1_goOn_13 : decode cX1_goOn 13 = .ok (.iastore, 1) := by decide +kernel
theorem dX1_goOn_14 : decode cX1_goOn 14 = .ok (.aload_n 0, 1) := by decide +kernel
theorem dX1_goOn_15 : decode cX1_goOn 15 = .ok (.getfield 37, 3) := by decide +kernel
theorem dX1_goOn_18 : decode cX1_goOn 18 = .ok (.iload_n 2, 1) := by decide +kernel
theorem dX1_goOn_19 : decode cX1_goOn 19 = .ok (.aload_n 0, 1) := by decide +kernel
theorem dX1_goOn_20 : decode cX1_goOn 20 = .ok (.getfield 37, 3) := by decide +kernel
theorem dX1_goOn_23 : decode cX1_goOn 23 = .ok (.iload_n 2, 1) := by decide +kernel
theorem dX1_goOn_24 : decode cX1_goOn 24 = .ok (.iconst 1, 1) := by decide +kernel
theorem dX1_goOn_25 : decode cX1_goOn 25 = .ok (.isub, 1) := by decide +kernel
theorem dX1_goOn_26 : decode cX1_goOn 26 = .ok (.iaload, 1) := by decide +kernel
theorem dX1_goOn_27 : decode cX1_goOn 27 = .ok (.iconst 1, 1) := by decide +kernel
theorem dX1_goOn_28 : decode cX1_goOn 28 = .ok (.iadd, 1) := by decide +kernel
theorem dX1_goOn_29 : decode cX1_goOn 29 = .ok (.iastore, 1) := by decide +kernel
theorem dX1_goOn_30 : decode cX1_goOn 30 = .ok (.aload_n 0, 1) := by decide +kernel
theorem dX1_goOn_31 : decode cX1_goOn 31 = .ok (.getfield 40, 3) := by decide +kernel
theorem dX1_goOn_34 : decode cX1_goOn 34 = .ok (.iload_n 2, 1) := by decide +kernel
theorem dX1_goOn_35 : decode cX1_goOn 35 = .ok (.aload_n 0, 1) := by decide +kernel
theorem dX1_goOn_36 : decode cX1_goOn 36 = .ok (.getfield 40, 3) := by decide +kernel
theorem dX1_goOn_39 : decode cX1_goOn 39 = .ok (.iload_n 2, 1) := by decide +kernel
theorem dX1_goOn_40 : decode cX1_goOn 40 = .ok (.iconst 1, 1) := by decide +kernel
theorem dX1_goOn_41 : decode cX1_goOn 41 = .ok (.isub, 1) := by decide +kernel
theorem dX1_goOn_42 : decode cX1_goOn 42 = .ok (.iaload, 1) := by decide +kernel
theorem dX1_goOn_43 : decode cX1_goOn 43 = .ok (.iastore, 1) := by decide +kernel
theorem dX1_goOn_44 : decode cX1_goOn 44 = .ok (.aload_n 0, 1) := by decide +kernel
theorem dX1_goOn_45 : decode cX1_goOn 45 = .ok (.getfield 43, 3) := by decide +kernel
theorem dX1_goOn_48 : decode cX1_goOn 48 = .ok (.iload_n 2, 1) := by decide +kernel
theorem dX1_goOn_49 : decode cX1_goOn 49 = .ok (.aload_n 0, 1) := by decide +kernel
theorem dX1_goOn_50 : decode cX1_goOn 50 = .ok (.getfield 43, 3) := by decide +kernel
theorem dX1_goOn_53 : decode cX1_goOn 53 = .ok (.iload_n 2, 1) := by decide +kernel
theorem dX1_goOn_54 : decode cX1_goOn 54 = .ok (.iconst 1, 1) := by decide +kernel
theorem dX1_goOn_55 : decode cX1_goOn 55 = .ok (.isub, 1) := by decide +kernel
theorem dX1_goOn_56 : decode cX1_goOn 56 = .ok (.iaload, 1) := by decide +kernel
theorem dX1_goOn_57 : decode cX1_goOn 57 = .ok (.aload_n 1, 1) := by decide +kernel
theorem dX1_goOn_58 : decode cX1_goOn 58 = .ok (.getfield 84, 3) := by decide +kernel
theorem dX1_goOn_61 : decode cX1_goOn 61 = .ok (.iload_n 2, 1) := by decide +kernel
theorem dX1_goOn_62 : decode cX1_goOn 62 = .ok (.iaload, 1) := by decide +kernel
theorem dX1_goOn_63 : decode cX1_goOn 63 = .ok (.invokestatic 87, 3) := by decide +kernel
theorem dX1_goOn_66 : decode cX1_goOn 66 = .ok (.iastore, 1) := by decide +kernel
theorem dX1_goOn_67 : decode cX1_goOn 67 = .ok (.aload_n 0, 1) := by decide +kernel
theorem dX1_goOn_68 : decode cX1_goOn 68 = .ok (.getfield 43, 3) := by decide +kernel
theorem dX1_goOn_71 : decode cX1_goOn 71 = .ok (.iload_n 2, 1) := by decide +kernel
theorem dX1_goOn_72 : decode cX1_goOn 72 = .ok (.iaload, 1) := by decide +kernel
theorem dX1_goOn_73 : decode cX1_goOn 73 = .ok (.aload_n 0, 1) := by decide +kernel
theorem dX1_goOn_74 : decode cX1_goOn 74 = .ok (.getfield 43, 3) := by decide +kernel
theorem dX1_goOn_77 : decode cX1_goOn 77 = .ok (.iload_n 2, 1) := by decide +kernel
theorem dX1_goOn_78 : decode cX1_goOn 78 = .ok (.iconst 1, 1) := by decide +kernel
theorem dX1_goOn_79 : decode cX1_goOn 79 = .ok (.isub, 1) := by decide +kernel
theorem dX1_goOn_80 : decode cX1_goOn 80 = .ok (.iaload, 1) := by decide +kernel
theorem dX1_goOn_81 : decode cX1_goOn 81 = .ok (.isub, 1) := by decide +kernel
theorem dX1_goOn_82 : decode cX1_goOn 82 = .ok (.aload_n 0, 1) := by decide +kernel
theorem dX1_goOn_83 : decode cX1_goOn 83 = .ok (.getfield 37, 3) := by decide +kernel
theorem dX1_goOn_86 : decode cX1_goOn 86 = .ok (.iload_n 2, 1) := by decide +kernel
theorem dX1_goOn_87 : decode cX1_goOn 87 = .ok (.iaload, 1) := by decide +kernel
theorem dX1_goOn_88 : decode cX1_goOn 88 = .ok (.imul, 1) := by decide +kernel
theorem dX1_goOn_89 : decode cX1_goOn 89 = .ok (.istore_n 3, 1) := by decide +kernel
theorem dX1_goOn_90 : decode cX1_goOn 90 = .ok (.aload_n 0, 1) := by decide +kernel
theorem dX1_goOn_91 : decode cX1_goOn 91 = .ok (.getfield 46, 3) := by decide +kernel
theorem dX1_goOn_94 : decode cX1_goOn 94 = .ok (.iload_n 2, 1) := by decide +kernel
theorem dX1_goOn_95 : decode cX1_goOn 95 = .ok (.aload_n 0, 1) := by decide +kernel
theorem dX1_goOn_96 : decode cX1_goOn 96 = .ok (.getfield 46, 3) := by decide +kernel
theorem dX1_goOn_99 : decode cX1_goOn 99 = .ok (.iload_n 2, 1) := by decide +kernel
theorem dX1_goOn_100 : decode cX1_goOn 100 = .ok (.iconst 1, 1) := by decide +kernel
theorem dX1_goOn_101 : decode cX1_goOn 101 = .ok (.isub, 1) := by decide +kernel
theorem dX1_goOn_102 : decode cX1_goOn 102 = .ok (.iaload, 1) := by decide +kernel
theorem dX1_goOn_103 : decode cX1_goOn 103 = .ok (.iload_n 3, 1) := by decide +kernel
theorem dX1_goOn_104 : decode cX1_goOn 104 = .ok (.iadd, 1) := by decide +kernel
theorem dX1_goOn_105 : decode cX1_goOn 105 = .ok (.aload_n 0, 1) := by decide +kernel
theorem dX1_goOn_106 : decode cX1_goOn 106 = .ok (.getfield 43, 3) := by decide +kernel
theorem dX1_goOn_109 : decode cX1_goOn 109 = .ok (.iload_n 2, 1) := by decide +kernel
theorem dX1_goOn_110 : decode cX1_goOn 110 = .ok (.iaload, 1) := by decide +kernel
theorem dX1_goOn_111 : decode cX1_goOn 111 = .ok (.iadd, 1) := by decide +kernel
theorem dX1_goOn_112 : decode cX1_goOn 112 = .ok (.aload_n 1, 1) := by decide +kernel
theorem dX1_goOn_113 : decode cX1_goOn 113 = .ok (.getfield 84, 3) := by decide +kernel
theorem dX1_goOn_116 : decode cX1_goOn 116 = .ok (.iload_n 2, 1) := by decide +kernel
theorem dX1_goOn_117 : decode cX1_goOn 117 = .ok (.iaload, 1) := by decide +kernel
theorem dX1_goOn_118 : decode cX1_goOn 118 = .ok (.isub, 1) := by decide +kernel
theorem dX1_goOn_119 : decode cX1_goOn 119 = .ok (.iastore, 1) := by decide +kernel
theorem dX1_goOn_120 : decode cX1_goOn 120 = .ok (.return_, 1) := by decide +kernel
set_option maxRecDepth 20000 in
theorem ggX1_raggedOfPage_X0_isSpread : GoodIn wsX1_raggedOfPage wsX0_isSpread := goodIn_r _ [9, 10, 11, 12, 13, 14, 15, 16, 17] (by decide +kernel) (by decide +kernel)
set_option maxRecDepth 20000 in
theorem gX1_raggedOfPage_X0_isSpread : GoodIn wsX1_raggedOfPage (wsV RX1 75 RX0 yX0_isSpread wsX0_isSpread) := goodIn_app (goodIn_of _ (by decide +kernel)) ggX1_raggedOfPage_X0_isSpread
theorem dX1_raggedOfPage_0 : decode cX1_raggedOfPage 0 = .ok (.aload_n 1, 1) := by decide +kernel
theorem dX1_raggedOfPage_1 : decode cX1_raggedOfPage 1 = .ok (.iload_n 2, 1) := by decide +kernel
theorem dX1_raggedOfPage_2 : decode cX1_raggedOfPage 2 = .ok (.invokevirtual 75, 3) := by decide +kernel
theorem dX1_raggedOfPage_5 : decode cX1_raggedOfPage 5 = .ok (.ifCond .eq 5, 3) := by decide +kernel
theorem dX1_raggedOfPage_8 : decode cX1_raggedOfPage 8 = .ok (.iconst 0, 1) := by decide +kernel
theorem dX1_raggedOfPage_9 : decode cX1_raggedOfPage 9 = .ok (.ireturn, 1) := by decide +kernel
theorem dX1_raggedOfPage_10 : decode cX1_raggedOfPage 10 = .ok (.aload_n 1, 1) := by decide +kernel
theorem dX1_raggedOfPage_11 : decode cX1_raggedOfPage 11 = .ok (.getfield 81, 3) := by decide +kernel
theorem dX1_raggedOfPage_14 : decode cX1_raggedOfPage 14 = .ok (.aload_n 0, 1) := by decide +kernel
theorem dX1_raggedOfPage_15 : decode cX1_raggedOfPage 15 = .ok (.getfield 40, 3) := by decide +kernel
theorem dX1_raggedOfPage_18 : decode cX1_raggedOfPage 18 = .ok (.iload_n 2, 1) := by decide +kernel
theorem dX1_raggedOfPage_19 : decode cX1_raggedOfPage 19 = .ok (.iaload, 1) := by decide +kernel
theorem dX1_raggedOfPage_20 : decode cX1_raggedOfPage 20 = .ok (.isub, 1) := by decide +kernel
theorem dX1_raggedOfPage_21 : decode cX1_raggedOfPage 21 = .ok (.aload_n 0, 1) := by decide +kernel
theorem dX1_raggedOfPage_22 : decode cX1_raggedOfPage 22 = .ok (.getfield 43, 3) := by decide +kernel
theorem dX1_raggedOfPage_25 : decode cX1_raggedOfPage 25 = .ok (.iload_n 2, 1) := by decide +kernel
theorem dX1_raggedOfPage_26 : decode cX1_raggedOfPage 26 = .ok (.iaload, 1) := by decide +kernel
theorem dX1_raggedOfPage_27 : decode cX1_raggedOfPage 27 = .ok (.isub, 1) := by decide +kernel
theorem dX1_raggedOfPage_28 : decode cX1_raggedOfPage 28 = .ok (.istore_n 3, 1) := by decide +kernel
theorem dX1_raggedOfPage_29 : decode cX1_raggedOfPage 29 = .ok (.iload_n 3, 1) := by decide +kernel
theorem dX1_raggedOfPage_30 : decode cX1_raggedOfPage 30 = .ok (.iload_n 3, 1) := by decide +kernel
theorem dX1_raggedOfPage_31 : decode cX1_raggedOfPage 31 = .ok (.imul, 1) := by decide +kernel
theorem dX1_raggedOfPage_32 : decode cX1_raggedOfPage 32 = .ok (.aload_n 0, 1) := by decide +kernel
theorem dX1_raggedOfPage_33 : decode cX1_raggedOfPage 33 = .ok (.getfield 46, 3) := by decide +kernel
theorem dX1_raggedOfPage_36 : decode cX1_raggedOfPage 36 = .ok (.iload_n 2, 1) := by decide +kernel
theorem dX1_raggedOfPage_37 : decode cX1_raggedOfPage 37 = .ok (.iaload, 1) := by decide +kernel
theorem dX1_raggedOfPage_38 : decode cX1_raggedOfPage 38 = .ok (.iadd, 1) := by decide +kernel
theorem dX1_raggedOfPage_39 : decode cX1_raggedOfPage 39 = .ok (.ireturn, 1) := by decide +kernel
set_option maxRecDepth 20000 in
theorem ggX1_numberPages_X1_turnPage : GoodIn wsX1_numberPages wsX1_turnPage := goodIn_r _ [12, 1, 2, 4, 13, 7, 14, 15, 16, 17, 18, 19, 20, 21, 22, 23, 31, 32, 33, 34, 35, 36, 37, 38, 39, 40, 41, 42, 43, 44, 45, 46, 47, 48, 49] (by decide +kernel) (by decide +kernel)
set_option maxRecDepth 20000 in
theorem gX1_numberPages_X1_turnPage : GoodIn wsX1_numberPages (wsV RX1 103 RX1 yX1_turnPage wsX1_turnPage) := goodIn_app (goodIn_of _ (by decide +kernel)) ggX1_numberPages_X1_turnPage
set_option maxRecDepth 20000 in
theorem ggX1_numberPages_X1_raggedOfPage : GoodIn wsX1_numberPages wsX1_raggedOfPage := goodIn_r _ [27, 13, 28, 29, 30, 20, 21, 22, 17, 23, 19, 43, 44, 45, 46, 47, 48, 49, 31, 32, 33, 34, 35, 36, 37, 38, 39, 40, 41, 42] (by decide +kernel) (by decide +kernel)
set_option maxRecDepth 20000 in
theorem gX1_numberPages_X1_raggedOfPage : GoodIn wsX1_numberPages (wsV RX1 106 RX1 yX1_raggedOfPage wsX1_raggedOfPage) := goodIn_app (goodIn_of _ (by decide +kernel)) ggX1_numberPages_X1_raggedOfPage
theorem dX1_numberPages_0 : decode cX1_numberPages 0 = .ok (.aload_n 0, 1) := by decide +kernel
theorem dX1_numberPages_1 : decode cX1_numberPages 1 = .ok (.iconst 0, 1) := by decide +kernel
theorem dX1_numberPages_2 : decode cX1_numberPages 2 = .ok (.putfield 15, 3) := by decide +kernel
theorem dX1_numberPages_5 : decode cX1_numberPages 5 = .ok (.aload_n 0, 1) := by decide +kernel
theorem dX1_numberPages_6 : decode cX1_numberPages 6 = .ok (.iconst 0, 1) := by decide +kernel
theorem dX1_numberPages_7 : decode cX1_numberPages 7 = .ok (.putfield 18, 3) := by decide +kernel
theorem dX1_numberPages_10 : decode cX1_numberPages 10 = .ok (.aload_n 0, 1) := by decide +kernel
theorem dX1_numberPages_11 : decode cX1_numberPages 11 = .ok (.iconst 0, 1) := by decide +kernel
theorem dX1_numberPages_12 : decode cX1_numberPages 12 = .ok (.putfield 21, 3) := by decide +kernel
theorem dX1_numberPages_15 : decode cX1_numberPages 15 = .ok (.aload_n 0, 1) := by decide +kernel
theorem dX1_numberPages_16 : decode cX1_numberPages 16 = .ok (.iconst 0, 1) := by decide +kernel
theorem dX1_numberPages_17 : decode cX1_numberPages 17 = .ok (.putfield 24, 3) := by decide +kernel
theorem dX1_numberPages_20 : decode cX1_numberPages 20 = .ok (.iconst 0, 1) := by decide +kernel
theorem dX1_numberPages_21 : decode cX1_numberPages 21 = .ok (.istore_n 2, 1) := by decide +kernel
theorem dX1_numberPages_22 : decode cX1_numberPages 22 = .ok (.iload_n 2, 1) := by decide +kernel
theorem dX1_numberPages_23 : decode cX1_numberPages 23 = .ok (.aload_n 1, 1) := by decide +kernel
theorem dX1_numberPages_24 : decode cX1_numberPages 24 = .ok (.getfield 49, 3) := by decide +kernel
theorem dX1_numberPages_27 : decode cX1_numberPages 27 = .ok (.if_icmp .ge 102, 3) := by decide +kernel
theorem dX1_numberPages_30 : decode cX1_numberPages 30 = .ok (.aload_n 0, 1) := by decide +kernel
theorem dX1_numberPages_31 : decode cX1_numberPages 31 = .ok (.getfield 27, 3) := by decide +kernel
theorem dX1_numberPages_34 : decode cX1_numberPages 34 = .ok (.iload_n 2, 1) := by decide +kernel
theorem dX1_numberPages_35 : decode cX1_numberPages 35 = .ok (.iaload, 1) := by decide +kernel
theorem dX1_numberPages_36 : decode cX1_numberPages 36 = .ok (.iconst 2, 1) := by decide +kernel
theorem dX1_numberPages_37 : decode cX1_numberPages 37 = .ok (.if_icmp .ne 12, 3) := by decide +kernel
theorem dX1_numberPages_40 : decode cX1_numberPages 40 = .ok (.aload_n 0, 1) := by decide +kernel
theorem dX1_numberPages_41 : decode cX1_numberPages 41 = .ok (.aload_n 1, 1) := by decide +kernel
theorem dX1_numberPages_42 : decode cX1_numberPages 42 = .ok (.iload_n 2, 1) := by decide +kernel
theorem dX1_numberPages_43 : decode cX1_numberPages 43 = .ok (.invokevirtual 103, 3) := by decide +kernel
theorem dX1_numberPages_46 : decode cX1_numberPages 46 = .ok (.goto 21, 3) := by decide +kernel
theorem dX1_numberPages_49 : decode cX1_numberPages 49 = .ok (.iload_n 2, 1) := by decide +kernel
theorem dX1_numberPages_50 : decode cX1_numberPages 50 = .ok (.ifCond .le 17, 3) := by decide +kernel
theorem dX1_numberPages_53 : decode cX1_numberPages 53 = .ok (.aload_n 0, 1) := by decide +kernel
theorem dX1_numberPages_54 : decode cX1_numberPages 54 = .ok (.getfield 31, 3) := by decide +kernel
theorem dX1_numberPages_57 : decode cX1_numberPages 57 = .ok (.iload_n 2, 1) := by decide +kernel
theorem dX1_numberPages_58 : decode cX1_numberPages 58 = .ok (.aload_n 0, 1) := by decide +kernel
theorem dX1_numberPages_59 : decode cX1_numberPages 59 = .ok (.getfield 31, 3) := by decide +kernel
theorem dX1_numberPages_62 : decode cX1_numberPages 62 = .ok (.iload_n 2, 1) := by decide +kernel
theorem dX1_numberPages_63 : decode cX1_numberPages 63 = .ok (.iconst 1, 1) := by decide +kernel
theorem dX1_numberPages_64 : decode cX1_numberPages 64 = .ok (.isub, 1) := by decide +kernel
theorem dX1_numberPages_65 : decode cX1_numberPages 65 = .ok (.iaload, 1) := by decide +kernel
theorem dX1_numberPages_66 : decode cX1_numberPages 66 = .ok (.iastore, 1) := by decide +kernel
theorem dX1_numberPages_67 : decode cX1_numberPages 67 = .ok (.aload_n 0, 1) := by decide +kernel
theorem dX1_numberPages_68 : decode cX1_numberPages 68 = .ok (.getfield 27, 3) := by decide +kernel
theorem dX1_numberPages_71 : decode cX1_numberPages 71 = .ok (.iload_n 2, 1) := by decide +kernel
theorem dX1_numberPages_72 : decode cX1_numberPages 72 = .ok (.iaload, 1) := by decide +kernel
theorem dX1_numberPages_73 : decode cX1_numberPages 73 = .ok (.ifCond .eq 13, 3) := by decide +kernel
theorem dX1_numberPages_76 : decode cX1_numberPages 76 = .ok (.aload_n 0, 1) := by decide +kernel
theorem dX1_numberPages_77 : decode cX1_numberPages 77 = .ok (.dup, 1) := by decide +kernel
theorem dX1_numberPages_78 : decode cX1_numberPages 78 = .ok (.getfield 21, 3) := by decide +kernel
theorem dX1_numberPages_81 : decode cX1_numberPages 81 = .ok (.iconst 1, 1) := by decide +kernel
theorem dX1_numberPages_82 : decode cX1_numberPages 82 = .ok (.iadd, 1) := by decide +kernel
theorem dX1_numberPages_83 : decode cX1_numberPages 83 = .ok (.putfield 21, 3) := by decide +kernel
theorem dX1_numberPages_86 : decode cX1_numberPages 86 = .ok (.iload_n 2, 1) := by decide +kernel
theorem dX1_numberPages_87 : decode cX1_numberPages 87 = .ok (.iconst 1, 1) := by decide +kernel
theorem dX1_numberPages_88 : decode cX1_numberPages 88 = .ok (.iadd, 1) := by decide +kernel
theorem dX1_numberPages_89 : decode cX1_numberPages 89 = .ok (.aload_n 1, 1) := by decide +kernel
theorem dX1_numberPages_90 : decode cX1_numberPages 90 = .ok (.getfield 49, 3) := by decide +kernel
theorem dX1_numberPages_93 : decode cX1_numberPages 93 = .ok (.if_icmp .eq 15, 3) := by decide +kernel
theorem dX1_numberPages_96 : decode cX1_numberPages 96 = .ok (.aload_n 0, 1) := by decide +kernel
theorem dX1_numberPages_97 : decode cX1_numberPages 97 = .ok (.getfield 27, 3) := by decide +kernel
theorem dX1_numberPages_100 : decode cX1_numberPages 100 = .ok (.iload_n 2, 1) := by decide +kernel
theorem dX1_numberPages_101 : decode cX1_numberPages 101 = .ok (.iconst 1, 1) := by decide +kernel
theorem dX1_numberPages_102 : decode cX1_numberPages 102 = .ok (.iadd, 1) := by decide +kernel
theorem dX1_numberPages_103 : decode cX1_numberPages 103 = .ok (.iaload, 1) := by decide +kernel
theorem dX1_numberPages_104 : decode cX1_numberPages 104 = .ok (.iconst 2, 1) := by decide +kernel
theorem dX1_numberPages_105 : decode cX1_numberPages 105 = .ok (.if_icmp .ne 18, 3) := by decide +kernel
theorem dX1_numberPages_108 : decode cX1_numberPages 108 = .ok (.aload_n 0, 1) := by decide +kernel
theorem dX1_numberPages_109 : decode cX1_numberPages 109 = .ok (.dup, 1) := by decide +kernel
theorem dX1_numberPages_110 : decode cX1_numberPages 110 = .ok (.getfield 24, 3) := by decide +kernel
theorem dX1_numberPages_113 : decode cX1_numberPages 113 = .ok (.aload_n 0, 1) := by decide +kernel
theorem dX1_numberPages_114 : decode cX1_numberPages 114 = .ok (.aload_n 1, 1) := by decide +kernel
theorem dX1_numberPages_115 : decode cX1_numberPages 115 = .ok (.iload_n 2, 1) := by decide +kernel
theorem dX1_numberPages_116 : decode cX1_numberPages 116 = .ok (.invokevirtual 106, 3) := by decide +kernel
theorem dX1_numberPages_119 : decode cX1_numberPages 119 = .ok (.iadd, 1) := by decide +kernel
theorem dX1_numberPages_120 : decode cX1_numberPages 120 = .ok (.putfield 24, 3) := by decide +kernel
theorem dX1_numberPages_123 : decode cX1_numberPages 123 = .ok (.iinc 2 1, 3) := by decide +kernel
theorem dX1_numberPages_126 : decode cX1_numberPages 126 = .ok (.goto (-104), 3) := by decide +kernel
theorem dX1_numberPages_129 : decode cX1_numberPages 129 = .ok (.return_, 1) := by decide +kernel
set_option maxRecDepth 20000 in
theorem ggX1_turnPage_X0_wantsLeftPage : GoodIn wsX1_turnPage wsX0_wantsLeftPage := goodIn_r _ [10, 11, 28, 29, 30, 31, 32, 33, 34] (by decide +kernel) (by decide +kernel)
set_option maxRecDepth 20000 in
theorem gX1_turnPage_X0_wantsLeftPage : GoodIn wsX1_turnPage (wsV RX1 72 RX0 yX0_wantsLeftPage wsX0_wantsLeftPage) := goodIn_app (goodIn_of _ (by decide +kernel)) ggX1_turnPage_X0_wantsLeftPage
set_option maxRecDepth 20000 in
theorem ggX1_turnPage_X0_isSpread : GoodIn wsX1_turnPage wsX0_isSpread := goodIn_r _ [15, 11, 28, 29, 30, 31, 32, 33, 34] (by decide +kernel) (by decide +kernel)
set_option maxRecDepth 20000 in
theorem gX1_turnPage_X0_isSpread : GoodIn wsX1_turnPage (wsV RX1 75 RX0 yX0_isSpread wsX0_isSpread) := goodIn_app (goodIn_of _ (by decide +kernel)) ggX1_turnPage_X0_isSpread
theorem dX1_turnPage_0 : decode cX1_turnPage 0 = .ok (.aload_n 1, 1) := by decide +kernel
theorem dX1_turnPage_1 : decode cX1_turnPage 1 = .ok (.iload_n 2, 1) := by decide +kernel
theorem dX1_turnPage_2 : decode cX1_turnPage 2 = .ok (.invokevirtual 72, 3) := by decide +kernel
theorem dX1_turnPage_5 : decode cX1_turnPage 5 = .ok (.ifCond .eq 50, 3) := by decide +kernel
theorem dX1_turnPage_8 : decode cX1_turnPage 8 = .ok (.aload_n 0, 1) := by decide +kernel
theorem dX1_turnPage_9 : decode cX1_turnPage 9 = .ok (.getfield 15, 3) := by decide +kernel
theorem dX1_turnPage_12 : decode cX1_turnPage 12 = .ok (.iconst 2, 1) := by decide +kernel
theorem dX1_turnPage_13 : decode cX1_turnPage 13 = .ok (.irem, 1) := by decide +kernel
theorem dX1_turnPage_14 : decode cX1_turnPage 14 = .ok (.ifCond .ne 41, 3) := by decide +kernel
theorem dX1_turnPage_17 : decode cX1_turnPage 17 = .ok (.aload_n 0, 1) := by decide +kernel
theorem dX1_turnPage_18 : decode cX1_turnPage 18 = .ok (.dup, 1) := by decide +kernel
theorem dX1_turnPage_19 : decode cX1_turnPage 19 = .ok (.getfield 15, 3) := by decide +kernel
theorem dX1_turnPage_22 : decode cX1_turnPage 22 = .ok (.iconst 1, 1) := by decide +kernel
theorem dX1_turnPage_23 : decode cX1_turnPage 23 = .ok (.iadd, 1) := by decide +kernel
theorem dX1_turnPage_24 : decode cX1_turnPage 24 = .ok (.putfield 15, 3) := by decide +kernel
theorem dX1_turnPage_27 : decode cX1_turnPage 27 = .ok (.aload_n 0, 1) := by decide +kernel
theorem dX1_turnPage_28 : decode cX1_turnPage 28 = .ok (.dup, 1) := by decide +kernel
theorem dX1_turnPage_29 : decode cX1_turnPage 29 = .ok (.getfield 18, 3) := by decide +kernel
theorem dX1_turnPage_32 : decode cX1_turnPage 32 = .ok (.iconst 1, 1) := by decide +kernel
theorem dX1_turnPage_33 : decode cX1_turnPage 33 = .ok (.iadd, 1) := by decide +kernel
theorem dX1_turnPage_34 : decode cX1_turnPage 34 = .ok (.putfield 18, 3) := by decide +kernel
theorem dX1_turnPage_37 : decode cX1_turnPage 37 = .ok (.aload_n 0, 1) := by decide +kernel
theorem dX1_turnPage_38 : decode cX1_turnPage 38 = .ok (.dup, 1) := by decide +kernel
theorem dX1_turnPage_39 : decode cX1_turnPage 39 = .ok (.getfield 24, 3) := by decide +kernel
theorem dX1_turnPage_42 : decode cX1_turnPage 42 = .ok (.aload_n 1, 1) := by decide +kernel
theorem dX1_turnPage_43 : decode cX1_turnPage 43 = .ok (.getfield 81, 3) := by decide +kernel
theorem dX1_turnPage_46 : decode cX1_turnPage 46 = .ok (.aload_n 1, 1) := by decide +kernel
theorem dX1_turnPage_47 : decode cX1_turnPage 47 = .ok (.getfield 81, 3) := by decide +kernel
theorem dX1_turnPage_50 : decode cX1_turnPage 50 = .ok (.imul, 1) := by decide +kernel
theorem dX1_turnPage_51 : decode cX1_turnPage 51 = .ok (.iadd, 1) := by decide +kernel
theorem dX1_turnPage_52 : decode cX1_turnPage 52 = .ok (.putfield 24, 3) := by decide +kernel
theorem dX1_turnPage_55 : decode cX1_turnPage 55 = .ok (.aload_n 0, 1) := by decide +kernel
theorem dX1_turnPage_56 : decode cX1_turnPage 56 = .ok (.getfield 31, 3) := by decide +kernel
theorem dX1_turnPage_59 : decode cX1_turnPage 59 = .ok (.iload_n 2, 1) := by decide +kernel
theorem dX1_turnPage_60 : decode cX1_turnPage 60 = .ok (.aload_n 0, 1) := by decide +kernel
theorem dX1_turnPage_61 : decode cX1_turnPage 61 = .ok (.getfield 15, 3) := by decide +kernel
theorem dX1_turnPage_64 : decode cX1_turnPage 64 = .ok (.iastore, 1) := by decide +kernel
theorem dX1_turnPage_65 : decode cX1_turnPage 65 = .ok (.aload_n 0, 1) := by decide +kernel
theorem dX1_turnPage_66 : decode cX1_turnPage 66 = .ok (.dup, 1) := by decide +kernel
theorem dX1_turnPage_67 : decode cX1_turnPage 67 = .ok (.getfield 15, 3) := by decide +kernel
theorem dX1_turnPage_70 : decode cX1_turnPage 70 = .ok (.aload_n 1, 1) := by decide +kernel
theorem dX1_turnPage_71 : decode cX1_turnPage 71 = .ok (.iload_n 2, 1) := by decide +kernel
theorem dX1_turnPage_72 : decode cX1_turnPage 72 = .ok (.invokevirtual 75, 3) := by decide +kernel
theorem dX1_turnPage_75 : decode cX1_turnPage 75 = .ok (.ifCond .eq 7, 3) := by decide +kernel
theorem dX1_turnPage_78 : decode cX1_turnPage 78 = .ok (.iconst 2, 1) := by decide +kernel
theorem dX1_turnPage_79 : decode cX1_turnPage 79 = .ok (.goto 4, 3) := by decide +kernel
theorem dX1_turnPage_82 : decode cX1_turnPage 82 = .ok (.iconst 1, 1) := by decide +kernel
theorem dX1_turnPage_83 : decode cX1_turnPage 83 = .ok (.iadd, 1) := by decide +kernel
theorem dX1_turnPage_84 : decode cX1_turnPage 84 = .ok (.putfield 15, 3) := by decide +kernel
theorem dX1_turnPage_87 : decode cX1_turnPage 87 = .ok (.return_, 1) := by decide +kernel
set_option maxRecDepth 20000 in
theorem ggX1_width_X0_isSpread : GoodIn wsX1_width wsX0_isSpread := goodIn_r _ [8, 9, 15, 16, 17, 18, 19, 20, 21] (by decide +kernel) (by decide +kernel)
set_option maxRecDepth 20000 in
theorem gX1_width_X0_isSpread : GoodIn wsX1_width (wsV RX1 75 RX0 yX0_isSpread wsX0_isSpread) := goodIn_app (goodIn_of _ (by decide +kernel)) ggX1_width_X0_isSpread
set_option maxRecDepth 20000 in
theorem ggX1_width_X0_tierWidth : GoodIn wsX1_width wsX0_tierWidth := goodIn_r _ [13, 14, 15, 16, 17, 18, 19, 20, 21] (by decide +kernel) (by decide +kernel)
set_option maxRecDepth 20000 in
theorem gX1_width_X0_tierWidth : GoodIn wsX1_width (wsV RX1 110 RX0 yX0_tierWidth wsX0_tierWidth) := goodIn_app (goodIn_of _ (by decide +kernel)) ggX1_width_X0_tierWidth
theorem dX1_width_0 : decode cX1_width 0 = .ok (.aload_n 1, 1) := by decide +kernel
theorem dX1_width_1 : decode cX1_width 1 = .ok (.iload_n 2, 1) := by decide +kernel
theorem dX1_width_2 : decode cX1_width 2 = .ok (.invokevirtual 75, 3) := by decide +kernel
theorem dX1_width_5 : decode cX1_width 5 = .ok (.ifCond .eq 6, 3) := by decide +kernel
theorem dX1_width_8 : decode cX1_width 8 = .ok (.bipush 24, 2) := by decide +kernel
theorem dX1_width_10 : decode cX1_width 10 = .ok (.ireturn, 1) := by decide +kernel
theorem dX1_width_11 : decode cX1_width 11 = .ok (.iload_n 2, 1) := by decide +kernel
theorem dX1_width_12 : decode cX1_width 12 = .ok (.iconst 1, 1) := by decide +kernel
theorem dX1_width_13 : decode cX1_width 13 = .ok (.iadd, 1) := by decide +kernel
theorem dX1_width_14 : decode cX1_width 14 = .ok (.istore_n 3, 1) := by decide +kernel
theorem dX1_width_15 : decode cX1_width 15 = .ok (.iload_n 3, 1) := by decide +kernel
theorem dX1_width_16 : decode cX1_width 16 = .ok (.aload_n 1, 1) := by decide +kernel
theorem dX1_width_17 : decode cX1_width 17 = .ok (.getfield 49, 3) := by decide +kernel
theorem dX1_width_20 : decode cX1_width 20 = .ok (.if_icmp .ge 18, 3) := by decide +kernel
theorem dX1_width_23 : decode cX1_width 23 = .ok (.aload_n 0, 1) := by decide +kernel
theorem dX1_width_24 : decode cX1_width 24 = .ok (.getfield 27, 3) := by decide +kernel
theorem dX1_width_27 : decode cX1_width 27 = .ok (.iload_n 3, 1) := by decide +kernel
theorem dX1_width_28 : decode cX1_width 28 = .ok (.iaload, 1) := by decide +kernel
theorem dX1_width_29 : decode cX1_width 29 = .ok (.ifCond .ne 9, 3) := by decide +kernel
theorem dX1_width_32 : decode cX1_width 32 = .ok (.iinc 3 1, 3) := by decide +kernel
theorem dX1_width_35 : decode cX1_width 35 = .ok (.goto (-20), 3) := by decide +kernel
theorem dX1_width_38 : decode cX1_width 38 = .ok (.iload_n 2, 1) := by decide +kernel
theorem dX1_width_39 : decode cX1_width 39 = .ok (.aload_n 0, 1) := by decide +kernel
theorem dX1_width_40 : decode cX1_width 40 = .ok (.getfield 37, 3) := by decide +kernel
theorem dX1_width_43 : decode cX1_width 43 = .ok (.iload_n 2, 1) := by decide +kernel
theorem dX1_width_44 : decode cX1_width 44 = .ok (.iaload, 1) := by decide +kernel
theorem dX1_width_45 : decode cX1_width 45 = .ok (.isub, 1) := by decide +kernel
theorem dX1_width_46 : decode cX1_width 46 = .ok (.istore 4, 2) := by decide +kernel
theorem dX1_width_48 : decode cX1_width 48 = .ok (.aload_n 1, 1) := by decide +kernel
theorem dX1_width_49 : decode cX1_width 49 = .ok (.iload 4, 2) := by decide +kernel
theorem dX1_width_51 : decode cX1_width 51 = .ok (.iload_n 3, 1) := by decide +kernel
theorem dX1_width_52 : decode cX1_width 52 = .ok (.iload 4, 2) := by decide +kernel
theorem dX1_width_54 : decode cX1_width 54 = .ok (.isub, 1) := by decide +kernel
theorem dX1_width_55 : decode cX1_width 55 = .ok (.aload_n 0, 1) := by decide +kernel
theorem dX1_width_56 : decode cX1_width 56 = .ok (.getfield 37, 3) := by decide +kernel
theorem dX1_width_59 : decode cX1_width 59 = .ok (.iload_n 2, 1) := by decide +kernel
theorem dX1_width_60 : decode cX1_width 60 = .ok (.iaload, 1) := by decide +kernel
theorem dX1_width_61 : decode cX1_width 61 = .ok (.invokevirtual 110, 3) := by decide +kernel
theorem dX1_width_64 : decode cX1_width 64 = .ok (.ireturn, 1) := by decide +kernel
