set_option maxRecDepth 100000 in
set_option maxHeartbeats 4000000 in
theorem c_X5_isFeature (l : Launch) (D : va_G) (A : Nat → Prop) (ad : Nat → Nat) (cI cB : ClassId) (u : Mem) (x0 : Int32) (x1 : Int32) : Cti l yX5_isFeature wsX5_isFeature { frames := 0, cells := 0, slots := 0, locals := 0 } D A (XW ad cI cB) [(cI, .int), (cB, .object "PanelPages$Book")] [.int x0, .int x1] u (e_X5_isFeature u x0 x1) := by
  intro r ur h
  refine Met.ofW (cc := cX5_isFeature) (maxL := 2) (ret := (some .boolean)) (by decide) rfl ?_
  intro p e s m args below meth c s₁ B hml hv
  obtain ⟨hav, hP, hK, hD⟩ := hv
  have C : Cx p m c cX5_isFeature 2 s args wsX5_isFeature RX5 D [(cI, .int), (cB, .object "PanelPages$Book")] := ⟨⟨B.exec, B.bytes, hml, findClass_of_methodNamed B.named, atoms_spec (ws := wsX5_isFeature) B.pre⟩, hK⟩
  have hr := B.returns
  have hlocks := B.notSynchronized
  refine x_entry2 (lv := [(0, .int x0), (1, .int x1)]) hav hP hD (Nat.le_of_ble_eq_true rfl) rfl ?_
  unfold e_X5_isFeature at h
  refine x_iload_n C dX5_isFeature_0 0 rfl (pc2 := 1) rfl ?_
  by_cases q0 : x0 = (0 : Int32)
  · replace h := (if_pos q0).symm.trans h
    refine x_tabI C (0 : Int32) q0 dX5_isFeature_1 (by decide) (by decide) (off := 27) (by decide) (tgt := 28) (by decide) ?_
    refine x_iload_n C dX5_isFeature_28 1 rfl (pc2 := 29) rfl ?_
    refine x_iconst (v := (1 : Int32)) C dX5_isFeature_29 (by decide) (pc2 := 30) rfl ?_
    refine x_icmp_lt C h dX5_isFeature_30 (tgt := 43) (by decide) (pc2 := 33) rfl (fun h => ?_) (fun h => ?_)
    · refine x_iconst (v := (0 : Int32)) C dX5_isFeature_43 (by decide) (pc2 := 44) rfl ?_
      exact x_zretL C hr hlocks h rfl dX5_isFeature_44
    · refine x_iload_n C dX5_isFeature_33 1 rfl (pc2 := 34) rfl ?_
      refine x_bipush (v := (9 : Int32)) C dX5_isFeature_34 (by decide) (pc2 := 36) rfl ?_
      refine x_icmp_gt C h dX5_isFeature_36 (tgt := 43) (by decide) (pc2 := 39) rfl (fun h => ?_) (fun h => ?_)
      · refine x_iconst (v := (0 : Int32)) C dX5_isFeature_43 (by decide) (pc2 := 44) rfl ?_
        exact x_zretL C hr hlocks h rfl dX5_isFeature_44
      · refine x_iconst (v := (1 : Int32)) C dX5_isFeature_39 (by decide) (pc2 := 40) rfl ?_
        refine x_goto C dX5_isFeature_40 (pc2 := 44) (by decide) ?_
        exact x_zretL C hr hlocks h rfl dX5_isFeature_44
  replace h := (if_neg q0).symm.trans h
  by_cases q1 : x0 = (1 : Int32)
  · replace h := (if_pos q1).symm.trans h
    refine x_tabI C (1 : Int32) q1 dX5_isFeature_1 (by decide) (by decide) (off := 44) (by decide) (tgt := 45) (by decide) ?_
    refine x_iload_n C dX5_isFeature_45 1 rfl (pc2 := 46) rfl ?_
    refine x_iconst (v := (1 : Int32)) C dX5_isFeature_46 (by decide) (pc2 := 47) rfl ?_
    refine x_icmp_lt C h dX5_isFeature_47 (tgt := 60) (by decide) (pc2 := 50) rfl (fun h => ?_) (fun h => ?_)
    · refine x_iconst (v := (0 : Int32)) C dX5_isFeature_60 (by decide) (pc2 := 61) rfl ?_
      exact x_zretL C hr hlocks h rfl dX5_isFeature_61
    · refine x_iload_n C dX5_isFeature_50 1 rfl (pc2 := 51) rfl ?_
      refine x_bipush (v := (6 : Int32)) C dX5_isFeature_51 (by decide) (pc2 := 53) rfl ?_
      refine x_icmp_gt C h dX5_isFeature_53 (tgt := 60) (by decide) (pc2 := 56) rfl (fun h => ?_) (fun h => ?_)
      · refine x_iconst (v := (0 : Int32)) C dX5_isFeature_60 (by decide) (pc2 := 61) rfl ?_
        exact x_zretL C hr hlocks h rfl dX5_isFeature_61
      · refine x_iconst (v := (1 : Int32)) C dX5_isFeature_56 (by decide) (pc2 := 57) rfl ?_
        refine x_goto C dX5_isFeature_57 (pc2 := 61) (by decide) ?_
        exact x_zretL C hr hlocks h rfl dX5_isFeature_61
  replace h := (if_neg q1).symm.trans h
  by_cases q2 : x0 = (2 : Int32)
  · replace h := (if_pos q2).symm.trans h
    refine x_tabI C (2 : Int32) q2 dX5_isFeature_1 (by decide) (by decide) (off := 61) (by decide) (tgt := 62) (by decide) ?_
    refine x_iload_n C dX5_isFeature_62 1 rfl (pc2 := 63) rfl ?_
    refine x_if_lt C h dX5_isFeature_63 (tgt := 75) (by decide) (pc2 := 66) rfl (fun h => ?_) (fun h => ?_)
    · refine x_iconst (v := (0 : Int32)) C dX5_isFeature_75 (by decide) (pc2 := 76) rfl ?_
      exact x_zretL C hr hlocks h rfl dX5_isFeature_76
    · refine x_iload_n C dX5_isFeature_66 1 rfl (pc2 := 67) rfl ?_
      refine x_iconst (v := (3 : Int32)) C dX5_isFeature_67 (by decide) (pc2 := 68) rfl ?_
      refine x_icmp_gt C h dX5_isFeature_68 (tgt := 75) (by decide) (pc2 := 71) rfl (fun h => ?_) (fun h => ?_)
      · refine x_iconst (v := (0 : Int32)) C dX5_isFeature_75 (by decide) (pc2 := 76) rfl ?_
        exact x_zretL C hr hlocks h rfl dX5_isFeature_76
      · refine x_iconst (v := (1 : Int32)) C dX5_isFeature_71 (by decide) (pc2 := 72) rfl ?_
        refine x_goto C dX5_isFeature_72 (pc2 := 76) (by decide) ?_
        exact x_zretL C hr hlocks h rfl dX5_isFeature_76
  replace h := (if_neg q2).symm.trans h
  have n0 := tab_ne q0
  have n1 := tab_ne q1
  have n2 := tab_ne q2
  refine x_tabO C dX5_isFeature_1 (by rw [show ((0 : Int32)).toInt = 0 from rfl] at n0; rw [show ((1 : Int32)).toInt = 1 from rfl] at n1; rw [show ((2 : Int32)).toInt = 2 from rfl] at n2; omega) (tgt := 77) (by decide) ?_
  refine x_iconst (v := (0 : Int32)) C dX5_isFeature_77 (by decide) (pc2 := 78) rfl ?_
  exact x_zretL C hr hlocks h rfl dX5_isFeature_78
set_option maxRecDepth 100000 in
set_option maxHeartbeats 4000000 in
theorem c_X5_padIsLayout (l : Launch) (D : va_G) (A : Nat → Prop) (ad : Nat → Nat) (cI cB : ClassId) (u : Mem)  : Cti l yX5_padIsLayout wsX5_padIsLayout { frames := 3, cells := 0, slots := 0, locals := 65 } D A (XW ad cI cB) [(cI, .int), (cB, .object "PanelPages$Book")] [.ref (ad 0)] u (e_X5_padIsLayout u ) := by
  intro r ur h
  refine Met.ofW (cc := cX5_padIsLayout) (maxL := 1) (ret := (some .boolean)) (by decide) rfl ?_
  intro p e s m args below meth c s₁ B hml hv
  obtain ⟨hav, hP, hK, hD⟩ := hv
  have C : Cx p m c cX5_padIsLayout 1 s args wsX5_padIsLayout RX5 D [(cI, .int), (cB, .object "PanelPages$Book")] := ⟨⟨B.exec, B.bytes, hml, findClass_of_methodNamed B.named, atoms_spec (ws := wsX5_padIsLayout) B.pre⟩, hK⟩
  have hr := B.returns
  have hlocks := B.notSynchronized
  have hiX0 : ∀ w ∈ wsX00, w ∈ wsX5_padIsLayout := by decide +kernel
  have hiX2 : ∀ w ∈ wsX20, w ∈ wsX5_padIsLayout := by decide +kernel
  have hiX5 : ∀ w ∈ wsX50, w ∈ wsX5_padIsLayout := by decide +kernel
  have f10 : Cond.fieldLink RX5 10 "PanelPages" "book" "LPanelPages$Book;" ∈ wsX5_padIsLayout := by decide +kernel
  have f19 : Cond.fieldLink RX5 19 "PanelPages" "pad" "LPanelPages$Pad;" ∈ wsX5_padIsLayout := by decide +kernel
  have f56 : Cond.fieldLink RX5 56 "PanelPages$Book" "panels" "I" ∈ wsX5_padIsLayout := by decide +kernel
  have f93 : Cond.fieldLink RX5 93 "PanelPages$Pad" "size" "I" ∈ wsX5_padIsLayout := by decide +kernel
  refine x_entry2 (lv := [(0, .ref (ad 0))]) hav hP hD (Nat.le_of_ble_eq_true rfl) rfl ?_
  unfold e_X5_padIsLayout at h
  refine x_aload_n C dX5_padIsLayout_0 0 rfl (pc2 := 1) rfl ?_
  refine x_get C hiX5 0 (xc_0 ad cI cB _) rfl 1 (by decide) f19 (v := .ref (ad 7)) rfl dX5_padIsLayout_1 (pc2 := 4) rfl ?_
  refine x_get C hiX2 7 (xc_7 ad cI cB _) rfl 0 (by decide) f93 (v := .int (u 7 0)) rfl dX5_padIsLayout_4 (pc2 := 7) rfl ?_
  refine x_aload_n C dX5_padIsLayout_7 0 rfl (pc2 := 8) rfl ?_
  refine x_get C hiX5 0 (xc_0 ad cI cB _) rfl 0 (by decide) f10 (v := .ref (ad 1)) rfl dX5_padIsLayout_8 (pc2 := 11) rfl ?_
  refine x_get C hiX0 1 (xc_1 ad cI cB _) rfl 0 (by decide) f56 (v := .int (u 1 0)) rfl dX5_padIsLayout_11 (pc2 := 14) rfl ?_
  refine x_icmp_ne C h dX5_padIsLayout_14 (tgt := 32) (by decide) (pc2 := 17) rfl (fun h => ?_) (fun h => ?_)
  · refine x_iconst (v := (0 : Int32)) C dX5_padIsLayout_32 (by decide) (pc2 := 33) rfl ?_
    exact x_zretL C hr hlocks h rfl dX5_padIsLayout_33
  · refine x_aload_n C dX5_padIsLayout_17 0 rfl (pc2 := 18) rfl ?_
    refine x_get C hiX5 0 (xc_0 ad cI cB _) rfl 1 (by decide) f19 (v := .ref (ad 7)) rfl dX5_padIsLayout_18 (pc2 := 21) rfl ?_
    refine x_iconst (v := (2 : Int32)) C dX5_padIsLayout_21 (by decide) (pc2 := 22) rfl ?_
    refine x_callVi (As := [.int (2 : Int32)]) (rest := []) (index := 159) (n := 1) C h (c_X2_hasOnlyFigures l D A ad cI cB _ _) gX5_padIsLayout_X2_hasOnlyFigures rfl (by decide +kernel) rfl rfl ⟨Nat.le_of_ble_eq_true rfl, Nat.le_of_ble_eq_true rfl⟩ (ci := 2) rfl rfl (xc_7 ad cI cB _) (XW_D ad cI cB _) rfl rfl (Nat.le_of_ble_eq_true rfl) dX5_padIsLayout_22 (pc2 := 25) rfl (fun r1 u1 h => ?_)
    refine x_if_eq C h dX5_padIsLayout_25 (tgt := 32) (by decide) (pc2 := 28) rfl (fun h => ?_) (fun h => ?_)
    · refine x_iconst (v := (0 : Int32)) C dX5_padIsLayout_32 (by decide) (pc2 := 33) rfl ?_
      exact x_zretL C hr hlocks h rfl dX5_padIsLayout_33
    · refine x_iconst (v := (1 : Int32)) C dX5_padIsLayout_28 (by decide) (pc2 := 29) rfl ?_
      refine x_goto C dX5_padIsLayout_29 (pc2 := 33) (by decide) ?_
      exact x_zretL C hr hlocks h rfl dX5_padIsLayout_33
set_option maxRecDepth 100000 in
set_option maxHeartbeats 4000000 in
theorem c_X5_padIsSetting (l : Launch) (D : va_G) (A : Nat → Prop) (ad : Nat → Nat) (cI cB : ClassId) (u : Mem) (x1 : Int32) : Cti l yX5_padIsSetting wsX5_padIsSetting { frames := 2, cells := 0, slots := 0, locals := 43 } D A (XW ad cI cB) [(cI, .int), (cB, .object "PanelPages$Book")] [.ref (ad 0), .int x1] u (e_X5_padIsSetting u x1) := by
  intro r ur h
  refine Met.ofW (cc := cX5_padIsSetting) (maxL := 3) (ret := (some .boolean)) (by decide) rfl ?_
  intro p e s m args below meth c s₁ B hml hv
  obtain ⟨hav, hP, hK, hD⟩ := hv
  have C : Cx p m c cX5_padIsSetting 3 s args wsX5_padIsSetting RX5 D [(cI, .int), (cB, .object "PanelPages$Book")] := ⟨⟨B.exec, B.bytes, hml, findClass_of_methodNamed B.named, atoms_spec (ws := wsX5_padIsSetting) B.pre⟩, hK⟩
  have hr := B.returns
  have hlocks := B.notSynchronized
  have hiX0 : ∀ w ∈ wsX00, w ∈ wsX5_padIsSetting := by decide +kernel
  have hiX2 : ∀ w ∈ wsX20, w ∈ wsX5_padIsSetting := by decide +kernel
  have hiX5 : ∀ w ∈ wsX50, w ∈ wsX5_padIsSetting := by decide +kernel
  have f10 : Cond.fieldLink RX5 10 "PanelPages" "book" "LPanelPages$Book;" ∈ wsX5_padIsSetting := by decide +kernel
  have f19 : Cond.fieldLink RX5 19 "PanelPages" "pad" "LPanelPages$Pad;" ∈ wsX5_padIsSetting := by decide +kernel
  have f69 : Cond.fieldLink RX5 69 "PanelPages$Book" "balloons" "[I" ∈ wsX5_padIsSetting := by decide +kernel
  have f93 : Cond.fieldLink RX5 93 "PanelPages$Pad" "size" "I" ∈ wsX5_padIsSetting := by decide +kernel
  refine x_entry2 (lv := [(0, .ref (ad 0)), (1, .int x1)]) hav hP hD (Nat.le_of_ble_eq_true rfl) rfl ?_
  unfold e_X5_padIsSetting at h
  have J25 : ∀ (f : Nat) (u : Mem) (x1 : Int32) (x2 : Int32), e_X5_padIsSetting_L25 f u x1 x2 = some (r, ur) → Wx p l e (headSpec wsX5_padIsSetting { frames := 2, cells := 0, slots := 0, locals := 43 }).room s m args below meth c (MQ below (Qix D A (XW ad cI cB) r ur) args s 0 0 A) D A 3 (XW ad cI cB) u 25 [(0, .ref (ad 0)), (1, .int x1), (2, .int x2)] [] := by
    intro f
    induction f with
    | zero => intro u x1 x2 h; cases h
    | succ f ih =>
      intro u x1 x2 h
      replace h : e_X5_padIsSetting_L25_b (e_X5_padIsSetting_L25 f) u x1 x2 = some (r, ur) := h
      unfold e_X5_padIsSetting_L25_b at h
      refine x_iload_n C dX5_padIsSetting_25 2 rfl (pc2 := 26) rfl ?_
      refine x_aload_n C dX5_padIsSetting_26 0 rfl (pc2 := 27) rfl ?_
      refine x_get C hiX5 0 (xc_0 ad cI cB _) rfl 0 (by decide) f10 (v := .ref (ad 1)) rfl dX5_padIsSetting_27 (pc2 := 30) rfl ?_
      refine x_get C hiX0 1 (xc_1 ad cI cB _) rfl 5 (by decide) f69 (v := .ref (ad 5)) rfl dX5_padIsSetting_30 (pc2 := 33) rfl ?_
      refine x_iload_n C dX5_padIsSetting_33 1 rfl (pc2 := 34) rfl ?_
      refine x_iald C h 5 0 (xc_5 ad cI cB _) rfl dX5_padIsSetting_34 (pc2 := 35) rfl (fun h => ?_)
      refine x_icmp_ge C h dX5_padIsSetting_35 (tgt := 76) (by decide) (pc2 := 38) rfl (fun h => ?_) (fun h => ?_)
      · refine x_iconst (v := (1 : Int32)) C dX5_padIsSetting_76 (by decide) (pc2 := 77) rfl ?_
        exact x_zretL C hr hlocks h rfl dX5_padIsSetting_77
      · refine x_aload_n C dX5_padIsSetting_38 0 rfl (pc2 := 39) rfl ?_
        refine x_get C hiX5 0 (xc_0 ad cI cB _) rfl 1 (by decide) f19 (v := .ref (ad 7)) rfl dX5_padIsSetting_39 (pc2 := 42) rfl ?_
        refine x_iconst (v := (2 : Int32)) C dX5_padIsSetting_42 (by decide) (pc2 := 43) rfl ?_
        refine x_iload_n C dX5_padIsSetting_43 2 rfl (pc2 := 44) rfl ?_
        refine x_imul C dX5_padIsSetting_44 (pc2 := 45) rfl ?_
        refine x_iconst (v := (2 : Int32)) C dX5_padIsSetting_45 (by decide) (pc2 := 46) rfl ?_
        refine x_callVi (As := [.int ((2 : Int32) * x2), .int (2 : Int32)]) (rest := []) (index := 197) (n := 2) C h (c_X2_isFigure l D A ad cI cB _ _ _) gX5_padIsSetting_X2_isFigure rfl (by decide +kernel) rfl rfl ⟨Nat.le_of_ble_eq_true rfl, Nat.le_of_ble_eq_true rfl⟩ (ci := 2) rfl rfl (xc_7 ad cI cB _) (XW_D ad cI cB _) rfl rfl (Nat.le_of_ble_eq_true rfl) dX5_padIsSetting_46 (pc2 := 49) rfl (fun r1 u1 h => ?_)
        refine x_if_eq C h dX5_padIsSetting_49 (tgt := 68) (by decide) (pc2 := 52) rfl (fun h => ?_) (fun h => ?_)
        · refine x_iconst (v := (0 : Int32)) C dX5_padIsSetting_68 (by decide) (pc2 := 69) rfl ?_
          exact x_zretL C hr hlocks h rfl dX5_padIsSetting_69
        · refine x_aload_n C dX5_padIsSetting_52 0 rfl (pc2 := 53) rfl ?_
          refine x_get C hiX5 0 (xc_0 ad cI cB _) rfl 1 (by decide) f19 (v := .ref (ad 7)) rfl dX5_padIsSetting_53 (pc2 := 56) rfl ?_
          refine x_iconst (v := (2 : Int32)) C dX5_padIsSetting_56 (by decide) (pc2 := 57) rfl ?_
          refine x_iload_n C dX5_padIsSetting_57 2 rfl (pc2 := 58) rfl ?_
          refine x_imul C dX5_padIsSetting_58 (pc2 := 59) rfl ?_
          refine x_iconst (v := (1 : Int32)) C dX5_padIsSetting_59 (by decide) (pc2 := 60) rfl ?_
          refine x_iadd C dX5_padIsSetting_60 (pc2 := 61) rfl ?_
          refine x_iconst (v := (3 : Int32)) C dX5_padIsSetting_61 (by decide) (pc2 := 62) rfl ?_
          refine x_callVi (As := [.int (((2 : Int32) * x2) + (1 : Int32)), .int (3 : Int32)]) (rest := []) (index := 197) (n := 2) C h (c_X2_isFigure l D A ad cI cB _ _ _) gX5_padIsSetting_X2_isFigure rfl (by decide +kernel) rfl rfl ⟨Nat.le_of_ble_eq_true rfl, Nat.le_of_ble_eq_true rfl⟩ (ci := 2) rfl rfl (xc_7 ad cI cB _) (XW_D ad cI cB _) rfl rfl (Nat.le_of_ble_eq_true rfl) dX5_padIsSetting_62 (pc2 := 65) rfl (fun r2 u2 h => ?_)
          refine x_if_ne C h dX5_padIsSetting_65 (tgt := 70) (by decide) (pc2 := 68) rfl (fun h => ?_) (fun h => ?_)
          · refine x_iinc C dX5_padIsSetting_70 2 rfl (1 : Int32) (by decide) rfl (by decide) (lv2 := [(2, .int (x2 + (1 : Int32))), (0, .ref (ad 0)), (1, .int x1)]) rfl (pc2 := 73) rfl ?_
            refine x_goto C dX5_padIsSetting_73 (pc2 := 25) (by decide) ?_
            refine x_sub [1, 2, 0] (lv2 := [(0, .ref (ad 0)), (1, .int x1), (2, .int (x2 + (1 : Int32)))]) rfl ?_
            exact ih _ _ _ h
          · refine x_iconst (v := (0 : Int32)) C dX5_padIsSetting_68 (by decide) (pc2 := 69) rfl ?_
            exact x_zretL C hr hlocks h rfl dX5_padIsSetting_69
  refine x_aload_n C dX5_padIsSetting_0 0 rfl (pc2 := 1) rfl ?_
  refine x_get C hiX5 0 (xc_0 ad cI cB _) rfl 1 (by decide) f19 (v := .ref (ad 7)) rfl dX5_padIsSetting_1 (pc2 := 4) rfl ?_
  refine x_get C hiX2 7 (xc_7 ad cI cB _) rfl 0 (by decide) f93 (v := .int (u 7 0)) rfl dX5_padIsSetting_4 (pc2 := 7) rfl ?_
  refine x_iconst (v := (2 : Int32)) C dX5_padIsSetting_7 (by decide) (pc2 := 8) rfl ?_
  refine x_aload_n C dX5_padIsSetting_8 0 rfl (pc2 := 9) rfl ?_
  refine x_get C hiX5 0 (xc_0 ad cI cB _) rfl 0 (by decide) f10 (v := .ref (ad 1)) rfl dX5_padIsSetting_9 (pc2 := 12) rfl ?_
  refine x_get C hiX0 1 (xc_1 ad cI cB _) rfl 5 (by decide) f69 (v := .ref (ad 5)) rfl dX5_padIsSetting_12 (pc2 := 15) rfl ?_
  refine x_iload_n C dX5_padIsSetting_15 1 rfl (pc2 := 16) rfl ?_
  refine x_iald C h 5 0 (xc_5 ad cI cB _) rfl dX5_padIsSetting_16 (pc2 := 17) rfl (fun h => ?_)
  refine x_imul C dX5_padIsSetting_17 (pc2 := 18) rfl ?_
  refine x_icmp_eq C h dX5_padIsSetting_18 (tgt := 23) (by decide) (pc2 := 21) rfl (fun h => ?_) (fun h => ?_)
  · refine x_iconst (v := (0 : Int32)) C dX5_padIsSetting_23 (by decide) (pc2 := 24) rfl ?_
    refine x_istore_n C dX5_padIsSetting_24 (by decide) (lv2 := [(2, .int (0 : Int32)), (0, .ref (ad 0)), (1, .int x1)]) rfl (pc2 := 25) rfl ?_
    refine x_sub [1, 2, 0] (lv2 := [(0, .ref (ad 0)), (1, .int x1), (2, .int (0 : Int32))]) rfl ?_
    exact J25 FU _ _ _ h
  · refine x_iconst (v := (0 : Int32)) C dX5_padIsSetting_21 (by decide) (pc2 := 22) rfl ?_
    exact x_zretL C hr hlocks h rfl dX5_padIsSetting_22
set_option maxRecDepth 100000 in
set_option maxHeartbeats 4000000 in
theorem c_X5_panel (l : Launch) (D : va_G) (A : Nat → Prop) (ad : Nat → Nat) (cI cB : ClassId) (u : Mem) (x1 : Int32) (x2 : Int32) (x3 : Int32) : Cti l yX5_panel wsX5_panel { frames := 1, cells := 0, slots := 0, locals := 21 } D A (XW ad cI cB) [(cI, .int), (cB, .object "PanelPages$Book")] [.ref (ad 0), .int x1, .int x2, .int x3] u (e_X5_panel u x1 x2 x3) := by
  intro r ur h
  refine Met.ofW (cc := cX5_panel) (maxL := 5) (ret := (some .int)) (by decide) rfl ?_
  intro p e s m args below meth c s₁ B hml hv
  obtain ⟨hav, hP, hK, hD⟩ := hv
  have C : Cx p m c cX5_panel 5 s args wsX5_panel RX5 D [(cI, .int), (cB, .object "PanelPages$Book")] := ⟨⟨B.exec, B.bytes, hml, findClass_of_methodNamed B.named, atoms_spec (ws := wsX5_panel) B.pre⟩, hK⟩
  have hr := B.returns
  have hlocks := B.notSynchronized
  have hiX0 : ∀ w ∈ wsX00, w ∈ wsX5_panel := by decide +kernel
  have hiX5 : ∀ w ∈ wsX50, w ∈ wsX5_panel := by decide +kernel
  have f10 : Cond.fieldLink RX5 10 "PanelPages" "book" "LPanelPages$Book;" ∈ wsX5_panel := by decide +kernel
  have f56 : Cond.fieldLink RX5 56 "PanelPages$Book" "panels" "I" ∈ wsX5_panel := by decide +kernel
  have f59 : Cond.fieldLink RX5 59 "PanelPages$Book" "weight" "[I" ∈ wsX5_panel := by decide +kernel
  have f63 : Cond.fieldLink RX5 63 "PanelPages$Book" "tall" "[I" ∈ wsX5_panel := by decide +kernel
  have f66 : Cond.fieldLink RX5 66 "PanelPages$Book" "kind" "[I" ∈ wsX5_panel := by decide +kernel
  have f69 : Cond.fieldLink RX5 69 "PanelPages$Book" "balloons" "[I" ∈ wsX5_panel := by decide +kernel
  refine x_entry2 (lv := [(0, .ref (ad 0)), (1, .int x1), (2, .int x2), (3, .int x3)]) hav hP hD (Nat.le_of_ble_eq_true rfl) rfl ?_
  unfold e_X5_panel at h
  refine x_iconst (v := (0 : Int32)) C dX5_panel_0 (by decide) (pc2 := 1) rfl ?_
  refine x_iload_n C dX5_panel_1 1 rfl (pc2 := 2) rfl ?_
  refine x_callSi (As := [.int (0 : Int32), .int x1]) (rest := []) (index := 52) (n := 2) C h (c_X5_isFeature l D A ad cI cB _ _ _) gX5_panel_X5_isFeature rfl (by decide +kernel) rfl rfl ⟨Nat.le_of_ble_eq_true rfl, Nat.le_of_ble_eq_true rfl⟩ (XW_D ad cI cB _) rfl rfl (Nat.le_of_ble_eq_true rfl) dX5_panel_2 (pc2 := 5) rfl (fun r1 u1 h => ?_)
  refine x_if_eq C h dX5_panel_5 (tgt := 24) (by decide) (pc2 := 8) rfl (fun h => ?_) (fun h => ?_)
  · refine x_bipush (v := (-2 : Int32)) C dX5_panel_24 (by decide) (pc2 := 26) rfl ?_
    exact x_iret C hr hlocks h dX5_panel_26
  · refine x_iconst (v := (1 : Int32)) C dX5_panel_8 (by decide) (pc2 := 9) rfl ?_
    refine x_iload_n C dX5_panel_9 2 rfl (pc2 := 10) rfl ?_
    refine x_callSi (As := [.int (1 : Int32), .int x2]) (rest := []) (index := 52) (n := 2) C h (c_X5_isFeature l D A ad cI cB _ _ _) gX5_panel_X5_isFeature rfl (by decide +kernel) rfl rfl ⟨Nat.le_of_ble_eq_true rfl, Nat.le_of_ble_eq_true rfl⟩ (XW_D ad cI cB _) rfl rfl (Nat.le_of_ble_eq_true rfl) dX5_panel_10 (pc2 := 13) rfl (fun r2 u2 h => ?_)
    refine x_if_eq C h dX5_panel_13 (tgt := 24) (by decide) (pc2 := 16) rfl (fun h => ?_) (fun h => ?_)
    · refine x_bipush (v := (-2 : Int32)) C dX5_panel_24 (by decide) (pc2 := 26) rfl ?_
      exact x_iret C hr hlocks h dX5_panel_26
    · refine x_iconst (v := (2 : Int32)) C dX5_panel_16 (by decide) (pc2 := 17) rfl ?_
      refine x_iload_n C dX5_panel_17 3 rfl (pc2 := 18) rfl ?_
      refine x_callSi (As := [.int (2 : Int32), .int x3]) (rest := []) (index := 52) (n := 2) C h (c_X5_isFeature l D A ad cI cB _ _ _) gX5_panel_X5_isFeature rfl (by decide +kernel) rfl rfl ⟨Nat.le_of_ble_eq_true rfl, Nat.le_of_ble_eq_true rfl⟩ (XW_D ad cI cB _) rfl rfl (Nat.le_of_ble_eq_true rfl) dX5_panel_18 (pc2 := 21) rfl (fun r3 u3 h => ?_)
      refine x_if_ne C h dX5_panel_21 (tgt := 27) (by decide) (pc2 := 24) rfl (fun h => ?_) (fun h => ?_)
      · refine x_aload_n C dX5_panel_27 0 rfl (pc2 := 28) rfl ?_
        refine x_get C hiX5 0 (xc_0 ad cI cB _) rfl 0 (by decide) f10 (v := .ref (ad 1)) rfl dX5_panel_28 (pc2 := 31) rfl ?_
        refine x_get C hiX0 1 (xc_1 ad cI cB _) rfl 0 (by decide) f56 (v := .int (u3 1 0)) rfl dX5_panel_31 (pc2 := 34) rfl ?_
        refine x_bipush (v := (9 : Int32)) C dX5_panel_34 (by decide) (pc2 := 36) rfl ?_
        refine x_icmp_lt C h dX5_panel_36 (tgt := 42) (by decide) (pc2 := 39) rfl (fun h => ?_) (fun h => ?_)
        · refine x_aload_n C dX5_panel_42 0 rfl (pc2 := 43) rfl ?_
          refine x_get C hiX5 0 (xc_0 ad cI cB _) rfl 0 (by decide) f10 (v := .ref (ad 1)) rfl dX5_panel_43 (pc2 := 46) rfl ?_
          refine x_get C hiX0 1 (xc_1 ad cI cB _) rfl 0 (by decide) f56 (v := .int (u3 1 0)) rfl dX5_panel_46 (pc2 := 49) rfl ?_
          refine x_istore C dX5_panel_49 (by decide) (lv2 := [(4, .int (u3 1 0)), (0, .ref (ad 0)), (1, .int x1), (2, .int x2), (3, .int x3)]) rfl (pc2 := 51) rfl ?_
          refine x_aload_n C dX5_panel_51 1 rfl (pc2 := 52) rfl ?_
          refine x_get C hiX5 0 (xc_0 ad cI cB _) rfl 0 (by decide) f10 (v := .ref (ad 1)) rfl dX5_panel_52 (pc2 := 55) rfl ?_
          refine x_get C hiX0 1 (xc_1 ad cI cB _) rfl 2 (by decide) f59 (v := .ref (ad 2)) rfl dX5_panel_55 (pc2 := 58) rfl ?_
          refine x_iload C dX5_panel_58 0 rfl (pc2 := 60) rfl ?_
          refine x_iload_n C dX5_panel_60 2 rfl (pc2 := 61) rfl ?_
          refine x_iast C h 2 0 (xc_2 ad cI cB _) rfl (u2 := (put u3 2 ((u3 1 0)).toNatClampNeg x1)) (xs_2 ad cI cB _ _ _) dX5_panel_61 (pc2 := 62) rfl (fun h => ?_)
          refine x_aload_n C dX5_panel_62 1 rfl (pc2 := 63) rfl ?_
          refine x_get C hiX5 0 (xc_0 ad cI cB _) rfl 0 (by decide) f10 (v := .ref (ad 1)) rfl dX5_panel_63 (pc2 := 66) rfl ?_
          refine x_get C hiX0 1 (xc_1 ad cI cB _) rfl 3 (by decide) f63 (v := .ref (ad 3)) rfl dX5_panel_66 (pc2 := 69) rfl ?_
          refine x_iload C dX5_panel_69 0 rfl (pc2 := 71) rfl ?_
          refine x_iload_n C dX5_panel_71 3 rfl (pc2 := 72) rfl ?_
          refine x_iast C h 3 0 (xc_3 ad cI cB _) rfl (u2 := (put (put u3 2 ((u3 1 0)).toNatClampNeg x1) 3 ((u3 1 0)).toNatClampNeg x2)) (xs_3 ad cI cB _ _ _) dX5_panel_72 (pc2 := 73) rfl (fun h => ?_)
          refine x_aload_n C dX5_panel_73 1 rfl (pc2 := 74) rfl ?_
          refine x_get C hiX5 0 (xc_0 ad cI cB _) rfl 0 (by decide) f10 (v := .ref (ad 1)) rfl dX5_panel_74 (pc2 := 77) rfl ?_
          refine x_get C hiX0 1 (xc_1 ad cI cB _) rfl 4 (by decide) f66 (v := .ref (ad 4)) rfl dX5_panel_77 (pc2 := 80) rfl ?_
          refine x_iload C dX5_panel_80 0 rfl (pc2 := 82) rfl ?_
          refine x_iload_n C dX5_panel_82 4 rfl (pc2 := 83) rfl ?_
          refine x_iast C h 4 0 (xc_4 ad cI cB _) rfl (u2 := (put (put (put u3 2 ((u3 1 0)).toNatClampNeg x1) 3 ((u3 1 0)).toNatClampNeg x2) 4 ((u3 1 0)).toNatClampNeg x3)) (xs_4 ad cI cB _ _ _) dX5_panel_83 (pc2 := 84) rfl (fun h => ?_)
          refine x_aload_n C dX5_panel_84 1 rfl (pc2 := 85) rfl ?_
          refine x_get C hiX5 0 (xc_0 ad cI cB _) rfl 0 (by decide) f10 (v := .ref (ad 1)) rfl dX5_panel_85 (pc2 := 88) rfl ?_
          refine x_get C hiX0 1 (xc_1 ad cI cB _) rfl 5 (by decide) f69 (v := .ref (ad 5)) rfl dX5_panel_88 (pc2 := 91) rfl ?_
          refine x_iload C dX5_panel_91 0 rfl (pc2 := 93) rfl ?_
          refine x_iconst (v := (0 : Int32)) C dX5_panel_93 (by decide) (pc2 := 94) rfl ?_
          refine x_iast C h 5 0 (xc_5 ad cI cB _) rfl (u2 := (put (put (put (put u3 2 ((u3 1 0)).toNatClampNeg x1) 3 ((u3 1 0)).toNatClampNeg x2) 4 ((u3 1 0)).toNatClampNeg x3) 5 ((u3 1 0)).toNatClampNeg (0 : Int32))) (xs_5 ad cI cB _ _ _) dX5_panel_94 (pc2 := 95) rfl (fun h => ?_)
          refine x_aload_n C dX5_panel_95 1 rfl (pc2 := 96) rfl ?_
          refine x_get C hiX5 0 (xc_0 ad cI cB _) rfl 0 (by decide) f10 (v := .ref (ad 1)) rfl dX5_panel_96 (pc2 := 99) rfl ?_
          refine x_iload C dX5_panel_99 0 rfl (pc2 := 101) rfl ?_
          refine x_iconst (v := (1 : Int32)) C dX5_panel_101 (by decide) (pc2 := 102) rfl ?_
          refine x_iadd C dX5_panel_102 (pc2 := 103) rfl ?_
          refine x_put C hiX0 tyX0 tyX0_ok nmX0 1 (xc_1 ad cI cB _) rfl 0 (by decide) f56 rfl rfl (Nat.le_of_ble_eq_true rfl) (u2 := (put (put (put (put (put u3 2 ((u3 1 0)).toNatClampNeg x1) 3 ((u3 1 0)).toNatClampNeg x2) 4 ((u3 1 0)).toNatClampNeg x3) 5 ((u3 1 0)).toNatClampNeg (0 : Int32)) 1 0 ((u3 1 0) + (1 : Int32)))) (xs_1_0 ad cI cB _ _) dX5_panel_103 (pc2 := 106) rfl ?_
          refine x_iload C dX5_panel_106 0 rfl (pc2 := 108) rfl ?_
          exact x_iret C hr hlocks h dX5_panel_108
        · refine x_bipush (v := (-4 : Int32)) C dX5_panel_39 (by decide) (pc2 := 41) rfl ?_
          exact x_iret C hr hlocks h dX5_panel_41
      · refine x_bipush (v := (-2 : Int32)) C dX5_panel_24 (by decide) (pc2 := 26) rfl ?_
        exact x_iret C hr hlocks h dX5_panel_26
set_option maxRecDepth 100000 in
set_option maxHeartbeats 4000000 in
theorem c_X5_pop (l : Launch) (D : va_G) (A : Nat → Prop) (ad : Nat → Nat) (cI cB : ClassId) (u : Mem)  : Cti l yX5_pop wsX5_pop { frames := 0, cells := 0, slots := 0, locals := 0 } D A (XW ad cI cB) [(cI, .int), (cB, .object "PanelPages$Book")] [.ref (ad 0)] u (e_X5_pop u ) := by
  intro r ur h
  refine Met.ofW (cc := cX5_pop) (maxL := 1) (ret := (some .int)) (by decide) rfl ?_
  intro p e s m args below meth c s₁ B hml hv
  obtain ⟨hav, hP, hK, hD⟩ := hv
  have C : Cx p m c cX5_pop 1 s args wsX5_pop RX5 D [(cI, .int), (cB, .object "PanelPages$Book")] := ⟨⟨B.exec, B.bytes, hml, findClass_of_methodNamed B.named, atoms_spec (ws := wsX5_pop) B.pre⟩, hK⟩
  have hr := B.returns
  have hlocks := B.notSynchronized
  have hiX0 : ∀ w ∈ wsX00, w ∈ wsX5_pop := by decide +kernel
  have hiX5 : ∀ w ∈ wsX50, w ∈ wsX5_pop := by decide +kernel
  have f10 : Cond.fieldLink RX5 10 "PanelPages" "book" "LPanelPages$Book;" ∈ wsX5_pop := by decide +kernel
  have f56 : Cond.fieldLink RX5 56 "PanelPages$Book" "panels" "I" ∈ wsX5_pop := by decide +kernel
  refine x_entry2 (lv := [(0, .ref (ad 0))]) hav hP hD (Nat.le_of_ble_eq_true rfl) rfl ?_
  unfold e_X5_pop at h
  refine x_aload_n C dX5_pop_0 0 rfl (pc2 := 1) rfl ?_
  refine x_get C hiX5 0 (xc_0 ad cI cB _) rfl 0 (by decide) f10 (v := .ref (ad 1)) rfl dX5_pop_1 (pc2 := 4) rfl ?_
  refine x_get C hiX0 1 (xc_1 ad cI cB _) rfl 0 (by decide) f56 (v := .int (u 1 0)) rfl dX5_pop_4 (pc2 := 7) rfl ?_
  refine x_iconst (v := (1 : Int32)) C dX5_pop_7 (by decide) (pc2 := 8) rfl ?_
  refine x_icmp_ge C h dX5_pop_8 (tgt := 14) (by decide) (pc2 := 11) rfl (fun h => ?_) (fun h => ?_)
  · refine x_aload_n C dX5_pop_14 0 rfl (pc2 := 15) rfl ?_
    refine x_get C hiX5 0 (xc_0 ad cI cB _) rfl 0 (by decide) f10 (v := .ref (ad 1)) rfl dX5_pop_15 (pc2 := 18) rfl ?_
    refine x_dup C dX5_pop_18 rfl (pc2 := 19) rfl ?_
    refine x_get C hiX0 1 (xc_1 ad cI cB _) rfl 0 (by decide) f56 (v := .int (u 1 0)) rfl dX5_pop_19 (pc2 := 22) rfl ?_
    refine x_iconst (v := (1 : Int32)) C dX5_pop_22 (by decide) (pc2 := 23) rfl ?_
    refine x_isub C dX5_pop_23 (pc2 := 24) rfl ?_
    refine x_put C hiX0 tyX0 tyX0_ok nmX0 1 (xc_1 ad cI cB _) rfl 0 (by decide) f56 rfl rfl (Nat.le_of_ble_eq_true rfl) (u2 := (put u 1 0 ((u 1 0) - (1 : Int32)))) (xs_1_0 ad cI cB _ _) dX5_pop_24 (pc2 := 27) rfl ?_
    refine x_aload_n C dX5_pop_27 0 rfl (pc2 := 28) rfl ?_
    refine x_get C hiX5 0 (xc_0 ad cI cB _) rfl 0 (by decide) f10 (v := .ref (ad 1)) rfl dX5_pop_28 (pc2 := 31) rfl ?_
    refine x_get C hiX0 1 (xc_1 ad cI cB _) rfl 0 (by decide) f56 (v := .int ((put u 1 0 ((u 1 0) - (1 : Int32))) 1 0)) rfl dX5_pop_31 (pc2 := 34) rfl ?_
    refine x_tope (y := ((u 1 0) - (1 : Int32))) rfl ?_
    exact x_iret C hr hlocks h dX5_pop_34
  · refine x_bipush (v := (-5 : Int32)) C dX5_pop_11 (by decide) (pc2 := 13) rfl ?_
    exact x_iret C hr hlocks h dX5_pop_13
set_option maxRecDepth 100000 in
set_option maxHeartbeats 4000000 in
theorem c_X5_change (l : Launch) (D : va_G) (A : Nat → Prop) (ad : Nat → Nat) (cI cB : ClassId) (u : Mem) (x1 : Int32) (x2 : Int32) (x3 : Int32) : Cti l yX5_change wsX5_change { frames := 1, cells := 0, slots := 0, locals := 22 } D A (XW ad cI cB) [(cI, .int), (cB, .object "PanelPages$Book")] [.ref (ad 0), .int x1, .int x2, .int x3] u (e_X5_change u x1 x2 x3) := by
  intro r ur h
  refine Met.ofW (cc := cX5_change) (maxL := 5) (ret := (some .int)) (by decide) rfl ?_
  intro p e s m args below meth c s₁ B hml hv
  obtain ⟨hav, hP, hK, hD⟩ := hv
  have C : Cx p m c cX5_change 5 s args wsX5_change RX5 D [(cI, .int), (cB, .object "PanelPages$Book")] := ⟨⟨B.exec, B.bytes, hml, findClass_of_methodNamed B.named, atoms_spec (ws := wsX5_change) B.pre⟩, hK⟩
  have hr := B.returns
  have hlocks := B.notSynchronized
  have hiX0 : ∀ w ∈ wsX00, w ∈ wsX5_change := by decide +kernel
  have hiX5 : ∀ w ∈ wsX50, w ∈ wsX5_change := by decide +kernel
  have f10 : Cond.fieldLink RX5 10 "PanelPages" "book" "LPanelPages$Book;" ∈ wsX5_change := by decide +kernel
  have f59 : Cond.fieldLink RX5 59 "PanelPages$Book" "weight" "[I" ∈ wsX5_change := by decide +kernel
  have f63 : Cond.fieldLink RX5 63 "PanelPages$Book" "tall" "[I" ∈ wsX5_change := by decide +kernel
  have f66 : Cond.fieldLink RX5 66 "PanelPages$Book" "kind" "[I" ∈ wsX5_change := by decide +kernel
  refine x_entry2 (lv := [(0, .ref (ad 0)), (1, .int x1), (2, .int x2), (3, .int x3)]) hav hP hD (Nat.le_of_ble_eq_true rfl) rfl ?_
  unfold e_X5_change at h
  refine x_aload_n C dX5_change_0 0 rfl (pc2 := 1) rfl ?_
  refine x_get C hiX5 0 (xc_0 ad cI cB _) rfl 0 (by decide) f10 (v := .ref (ad 1)) rfl dX5_change_1 (pc2 := 4) rfl ?_
  refine x_iload_n C dX5_change_4 1 rfl (pc2 := 5) rfl ?_
  refine x_callVi (As := [.int x1]) (rest := []) (index := 72) (n := 1) C h (c_X0_has l D A ad cI cB _ _) gX5_change_X0_has rfl (by decide +kernel) rfl rfl ⟨Nat.le_of_ble_eq_true rfl, Nat.le_of_ble_eq_true rfl⟩ (ci := 0) rfl rfl (xc_1 ad cI cB _) (XW_D ad cI cB _) rfl rfl (Nat.le_of_ble_eq_true rfl) dX5_change_5 (pc2 := 8) rfl (fun r1 u1 h => ?_)
  refine x_if_ne C h dX5_change_8 (tgt := 13) (by decide) (pc2 := 11) rfl (fun h => ?_) (fun h => ?_)
  · refine x_iload_n C dX5_change_13 2 rfl (pc2 := 14) rfl ?_
    refine x_iload_n C dX5_change_14 3 rfl (pc2 := 15) rfl ?_
    refine x_callSi (As := [.int x2, .int x3]) (rest := []) (index := 52) (n := 2) C h (c_X5_isFeature l D A ad cI cB _ _ _) gX5_change_X5_isFeature rfl (by decide +kernel) rfl rfl ⟨Nat.le_of_ble_eq_true rfl, Nat.le_of_ble_eq_true rfl⟩ (XW_D ad cI cB _) rfl rfl (Nat.le_of_ble_eq_true rfl) dX5_change_15 (pc2 := 18) rfl (fun r2 u2 h => ?_)
    refine x_if_ne C h dX5_change_18 (tgt := 24) (by decide) (pc2 := 21) rfl (fun h => ?_) (fun h => ?_)
    · refine x_aload_n C dX5_change_24 0 rfl (pc2 := 25) rfl ?_
      refine x_get C hiX5 0 (xc_0 ad cI cB _) rfl 0 (by decide) f10 (v := .ref (ad 1)) rfl dX5_change_25 (pc2 := 28) rfl ?_
      refine x_iload_n C dX5_change_28 1 rfl (pc2 := 29) rfl ?_
      refine x_iload_n C dX5_change_29 2 rfl (pc2 := 30) rfl ?_
      refine x_callVi (As := [.int x1, .int x2]) (rest := []) (index := 76) (n := 2) C h (c_X0_feature l D A ad cI cB _ _ _) gX5_change_X0_feature rfl (by decide +kernel) rfl rfl ⟨Nat.le_of_ble_eq_true rfl, Nat.le_of_ble_eq_true rfl⟩ (ci := 0) rfl rfl (xc_1 ad cI cB _) (XW_D ad cI cB _) rfl rfl (Nat.le_of_ble_eq_true rfl) dX5_change_30 (pc2 := 33) rfl (fun r3 u3 h => ?_)
      refine x_istore C dX5_change_33 (by decide) (lv2 := [(4, .int r3), (0, .ref (ad 0)), (1, .int x1), (2, .int x2), (3, .int x3)]) rfl (pc2 := 35) rfl ?_
      refine x_iload_n C dX5_change_35 3 rfl (pc2 := 36) rfl ?_
      refine x_if_ne C h dX5_change_36 (tgt := 52) (by decide) (pc2 := 39) rfl (fun h => ?_) (fun h => ?_)
      · refine x_iload_n C dX5_change_52 3 rfl (pc2 := 53) rfl ?_
        refine x_iconst (v := (1 : Int32)) C dX5_change_53 (by decide) (pc2 := 54) rfl ?_
        refine x_icmp_ne C h dX5_change_54 (tgt := 70) (by decide) (pc2 := 57) rfl (fun h => ?_) (fun h => ?_)
        · refine x_aload_n C dX5_change_70 1 rfl (pc2 := 71) rfl ?_
          refine x_get C hiX5 0 (xc_0 ad cI cB _) rfl 0 (by decide) f10 (v := .ref (ad 1)) rfl dX5_change_71 (pc2 := 74) rfl ?_
          refine x_get C hiX0 1 (xc_1 ad cI cB _) rfl 4 (by decide) f66 (v := .ref (ad 4)) rfl dX5_change_74 (pc2 := 77) rfl ?_
          refine x_iload_n C dX5_change_77 2 rfl (pc2 := 78) rfl ?_
          refine x_iload_n C dX5_change_78 4 rfl (pc2 := 79) rfl ?_
          refine x_iast C h 4 0 (xc_4 ad cI cB _) rfl (u2 := (put u3 4 (x1).toNatClampNeg x3)) (xs_4 ad cI cB _ _ _) dX5_change_79 (pc2 := 80) rfl (fun h => ?_)
          refine x_iload C dX5_change_80 0 rfl (pc2 := 82) rfl ?_
          exact x_iret C hr hlocks h dX5_change_82
        · refine x_aload_n C dX5_change_57 1 rfl (pc2 := 58) rfl ?_
          refine x_get C hiX5 0 (xc_0 ad cI cB _) rfl 0 (by decide) f10 (v := .ref (ad 1)) rfl dX5_change_58 (pc2 := 61) rfl ?_
          refine x_get C hiX0 1 (xc_1 ad cI cB _) rfl 3 (by decide) f63 (v := .ref (ad 3)) rfl dX5_change_61 (pc2 := 64) rfl ?_
          refine x_iload_n C dX5_change_64 2 rfl (pc2 := 65) rfl ?_
          refine x_iload_n C dX5_change_65 4 rfl (pc2 := 66) rfl ?_
          refine x_iast C h 3 0 (xc_3 ad cI cB _) rfl (u2 := (put u3 3 (x1).toNatClampNeg x3)) (xs_3 ad cI cB _ _ _) dX5_change_66 (pc2 := 67) rfl (fun h => ?_)
          refine x_goto C dX5_change_67 (pc2 := 80) (by decide) ?_
          refine x_iload C dX5_change_80 0 rfl (pc2 := 82) rfl ?_
          exact x_iret C hr hlocks h dX5_change_82
      · refine x_aload_n C dX5_change_39 1 rfl (pc2 := 40) rfl ?_
        refine x_get C hiX5 0 (xc_0 ad cI cB _) rfl 0 (by decide) f10 (v := .ref (ad 1)) rfl dX5_change_40 (pc2 := 43) rfl ?_
        refine x_get C hiX0 1 (xc_1 ad cI cB _) rfl 2 (by decide) f59 (v := .ref (ad 2)) rfl dX5_change_43 (pc2 := 46) rfl ?_
        refine x_iload_n C dX5_change_46 2 rfl (pc2 := 47) rfl ?_
        refine x_iload_n C dX5_change_47 4 rfl (pc2 := 48) rfl ?_
        refine x_iast C h 2 0 (xc_2 ad cI cB _) rfl (u2 := (put u3 2 (x1).toNatClampNeg x3)) (xs_2 ad cI cB _ _ _) dX5_change_48 (pc2 := 49) rfl (fun h => ?_)
        refine x_goto C dX5_change_49 (pc2 := 80) (by decide) ?_
        refine x_iload C dX5_change_80 0 rfl (pc2 := 82) rfl ?_
        exact x_iret C hr hlocks h dX5_change_82
    · refine x_bipush (v := (-2 : Int32)) C dX5_change_21 (by decide) (pc2 := 23) rfl ?_
      exact x_iret C hr hlocks h dX5_change_23
  · refine x_iconst (v := (-1 : Int32)) C dX5_change_11 (by decide) (pc2 := 12) rfl ?_
    exact x_iret C hr hlocks h dX5_change_12
set_option maxRecDepth 100000 in
set_option maxHeartbeats 4000000 in
theorem c_X5_high (l : Launch) (D : va_G) (A : Nat → Prop) (ad : Nat → Nat) (cI cB : ClassId) (u : Mem) (x1 : Int32) : Cti l yX5_high wsX5_high { frames := 0, cells := 0, slots := 0, locals := 0 } D A (XW ad cI cB) [(cI, .int), (cB, .object "PanelPages$Book")] [.ref (ad 0), .int x1] u (e_X5_high u x1) := by
  intro r ur h
  refine Met.ofW (cc := cX5_high) (maxL := 3) (ret := (some .int)) (by decide) rfl ?_
  intro p e s m args below meth c s₁ B hml hv
  obtain ⟨hav, hP, hK, hD⟩ := hv
  have C : Cx p m c cX5_high 3 s args wsX5_high RX5 D [(cI, .int), (cB, .object "PanelPages$Book")] := ⟨⟨B.exec, B.bytes, hml, findClass_of_methodNamed B.named, atoms_spec (ws := wsX5_high) B.pre⟩, hK⟩
  have hr := B.returns
  have hlocks := B.notSynchronized
  have hiX0 : ∀ w ∈ wsX00, w ∈ wsX5_high := by decide +kernel
  have hiX5 : ∀ w ∈ wsX50, w ∈ wsX5_high := by decide +kernel
  have f10 : Cond.fieldLink RX5 10 "PanelPages" "book" "LPanelPages$Book;" ∈ wsX5_high := by decide +kernel
  have f80 : Cond.fieldLink RX5 80 "PanelPages$Book" "high" "I" ∈ wsX5_high := by decide +kernel
  refine x_entry2 (lv := [(0, .ref (ad 0)), (1, .int x1)]) hav hP hD (Nat.le_of_ble_eq_true rfl) rfl ?_
  unfold e_X5_high at h
  refine x_iload_n C dX5_high_0 1 rfl (pc2 := 1) rfl ?_
  refine x_bipush (v := (6 : Int32)) C dX5_high_1 (by decide) (pc2 := 3) rfl ?_
  refine x_icmp_lt C h dX5_high_3 (tgt := 12) (by decide) (pc2 := 6) rfl (fun h => ?_) (fun h => ?_)
  · refine x_bipush (v := (-2 : Int32)) C dX5_high_12 (by decide) (pc2 := 14) rfl ?_
    exact x_iret C hr hlocks h dX5_high_14
  · refine x_iload_n C dX5_high_6 1 rfl (pc2 := 7) rfl ?_
    refine x_bipush (v := (20 : Int32)) C dX5_high_7 (by decide) (pc2 := 9) rfl ?_
    refine x_icmp_le C h dX5_high_9 (tgt := 15) (by decide) (pc2 := 12) rfl (fun h => ?_) (fun h => ?_)
    · refine x_aload_n C dX5_high_15 0 rfl (pc2 := 16) rfl ?_
      refine x_get C hiX5 0 (xc_0 ad cI cB _) rfl 0 (by decide) f10 (v := .ref (ad 1)) rfl dX5_high_16 (pc2 := 19) rfl ?_
      refine x_get C hiX0 1 (xc_1 ad cI cB _) rfl 1 (by decide) f80 (v := .int (u 1 1)) rfl dX5_high_19 (pc2 := 22) rfl ?_
      refine x_istore_n C dX5_high_22 (by decide) (lv2 := [(2, .int (u 1 1)), (0, .ref (ad 0)), (1, .int x1)]) rfl (pc2 := 23) rfl ?_
      refine x_aload_n C dX5_high_23 1 rfl (pc2 := 24) rfl ?_
      refine x_get C hiX5 0 (xc_0 ad cI cB _) rfl 0 (by decide) f10 (v := .ref (ad 1)) rfl dX5_high_24 (pc2 := 27) rfl ?_
      refine x_iload_n C dX5_high_27 2 rfl (pc2 := 28) rfl ?_
      refine x_put C hiX0 tyX0 tyX0_ok nmX0 1 (xc_1 ad cI cB _) rfl 1 (by decide) f80 rfl rfl (Nat.le_of_ble_eq_true rfl) (u2 := (put u 1 1 x1)) (xs_1_1 ad cI cB _ _) dX5_high_28 (pc2 := 31) rfl ?_
      refine x_iload_n C dX5_high_31 0 rfl (pc2 := 32) rfl ?_
      exact x_iret C hr hlocks h dX5_high_32
    · refine x_bipush (v := (-2 : Int32)) C dX5_high_12 (by decide) (pc2 := 14) rfl ?_
      exact x_iret C hr hlocks h dX5_high_14
set_option maxRecDepth 100000 in
set_option maxHeartbeats 4000000 in
theorem c_X5_of (l : Launch) (D : va_G) (A : Nat → Prop) (ad : Nat → Nat) (cI cB : ClassId) (u : Mem) (x1 : Int32) (x2 : Int32) : Cti l yX5_of wsX5_of { frames := 1, cells := 0, slots := 0, locals := 22 } D A (XW ad cI cB) [(cI, .int), (cB, .object "PanelPages$Book")] [.ref (ad 0), .int x1, .int x2] u (e_X5_of u x1 x2) := by
  intro r ur h
  refine Met.ofW (cc := cX5_of) (maxL := 3) (ret := (some .int)) (by decide) rfl ?_
  intro p e s m args below meth c s₁ B hml hv
  obtain ⟨hav, hP, hK, hD⟩ := hv
  have C : Cx p m c cX5_of 3 s args wsX5_of RX5 D [(cI, .int), (cB, .object "PanelPages$Book")] := ⟨⟨B.exec, B.bytes, hml, findClass_of_methodNamed B.named, atoms_spec (ws := wsX5_of) B.pre⟩, hK⟩
  have hr := B.returns
  have hlocks := B.notSynchronized
  have hiX5 : ∀ w ∈ wsX50, w ∈ wsX5_of := by decide +kernel
  have f10 : Cond.fieldLink RX5 10 "PanelPages" "book" "LPanelPages$Book;" ∈ wsX5_of := by decide +kernel
  refine x_entry2 (lv := [(0, .ref (ad 0)), (1, .int x1), (2, .int x2)]) hav hP hD (Nat.le_of_ble_eq_true rfl) rfl ?_
  unfold e_X5_of at h
  refine x_aload_n C dX5_of_0 0 rfl (pc2 := 1) rfl ?_
  refine x_get C hiX5 0 (xc_0 ad cI cB _) rfl 0 (by decide) f10 (v := .ref (ad 1)) rfl dX5_of_1 (pc2 := 4) rfl ?_
  refine x_iload_n C dX5_of_4 1 rfl (pc2 := 5) rfl ?_
  refine x_callVi (As := [.int x1]) (rest := []) (index := 72) (n := 1) C h (c_X0_has l D A ad cI cB _ _) gX5_of_X0_has rfl (by decide +kernel) rfl rfl ⟨Nat.le_of_ble_eq_true rfl, Nat.le_of_ble_eq_true rfl⟩ (ci := 0) rfl rfl (xc_1 ad cI cB _) (XW_D ad cI cB _) rfl rfl (Nat.le_of_ble_eq_true rfl) dX5_of_5 (pc2 := 8) rfl (fun r1 u1 h => ?_)
  refine x_if_ne C h dX5_of_8 (tgt := 13) (by decide) (pc2 := 11) rfl (fun h => ?_) (fun h => ?_)
  · refine x_iload_n C dX5_of_13 2 rfl (pc2 := 14) rfl ?_
    refine x_if_lt C h dX5_of_14 (tgt := 22) (by decide) (pc2 := 17) rfl (fun h => ?_) (fun h => ?_)
    · refine x_bipush (v := (-2 : Int32)) C dX5_of_22 (by decide) (pc2 := 24) rfl ?_
      exact x_iret C hr hlocks h dX5_of_24
    · refine x_iload_n C dX5_of_17 2 rfl (pc2 := 18) rfl ?_
      refine x_iconst (v := (3 : Int32)) C dX5_of_18 (by decide) (pc2 := 19) rfl ?_
      refine x_icmp_le C h dX5_of_19 (tgt := 25) (by decide) (pc2 := 22) rfl (fun h => ?_) (fun h => ?_)
      · refine x_aload_n C dX5_of_25 0 rfl (pc2 := 26) rfl ?_
        refine x_get C hiX5 0 (xc_0 ad cI cB _) rfl 0 (by decide) f10 (v := .ref (ad 1)) rfl dX5_of_26 (pc2 := 29) rfl ?_
        refine x_iload_n C dX5_of_29 1 rfl (pc2 := 30) rfl ?_
        refine x_iload_n C dX5_of_30 2 rfl (pc2 := 31) rfl ?_
        refine x_callVi (As := [.int x1, .int x2]) (rest := []) (index := 76) (n := 2) C h (c_X0_feature l D A ad cI cB _ _ _) gX5_of_X0_feature rfl (by decide +kernel) rfl rfl ⟨Nat.le_of_ble_eq_true rfl, Nat.le_of_ble_eq_true rfl⟩ (ci := 0) rfl rfl (xc_1 ad cI cB _) (XW_D ad cI cB _) rfl rfl (Nat.le_of_ble_eq_true rfl) dX5_of_31 (pc2 := 34) rfl (fun r2 u2 h => ?_)
        exact x_iret C hr hlocks h dX5_of_34
      · refine x_bipush (v := (-2 : Int32)) C dX5_of_22 (by decide) (pc2 := 24) rfl ?_
        exact x_iret C hr hlocks h dX5_of_24
  · refine x_iconst (v := (-1 : Int32)) C dX5_of_11 (by decide) (pc2 := 12) rfl ?_
    exact x_iret C hr hlocks h dX5_of_12
set_option maxRecDepth 100000 in
set_option maxHeartbeats 4000000 in
theorem c_X5_tier (l : Launch) (D : va_G) (A : Nat → Prop) (ad : Nat → Nat) (cI cB : ClassId) (u : Mem) (x1 : Int32) (x2 : Int32) (x3 : Int32) : Cti l yX5_tier wsX5_tier { frames := 3, cells := 0, slots := 0, locals := 89 } D A (XW ad cI cB) [(cI, .int), (cB, .object "PanelPages$Book")] [.ref (ad 0), .int x1, .int x2, .int x3] u (e_X5_tier u x1 x2 x3) := by
  intro r ur h
  refine Met.ofW (cc := cX5_tier) (maxL := 4) (ret := (some .int)) (by decide) rfl ?_
  intro p e s m args below meth c s₁ B hml hv
  obtain ⟨hav, hP, hK, hD⟩ := hv
  have C : Cx p m c cX5_tier 4 s args wsX5_tier RX5 D [(cI, .int), (cB, .object "PanelPages$Book")] := ⟨⟨B.exec, B.bytes, hml, findClass_of_methodNamed B.named, atoms_spec (ws := wsX5_tier) B.pre⟩, hK⟩
  have hr := B.returns
  have hlocks := B.notSynchronized
  have hiX0 : ∀ w ∈ wsX00, w ∈ wsX5_tier := by decide +kernel
  have hiX5 : ∀ w ∈ wsX50, w ∈ wsX5_tier := by decide +kernel
  have f10 : Cond.fieldLink RX5 10 "PanelPages" "book" "LPanelPages$Book;" ∈ wsX5_tier := by decide +kernel
  have f56 : Cond.fieldLink RX5 56 "PanelPages$Book" "panels" "I" ∈ wsX5_tier := by decide +kernel
  refine x_entry2 (lv := [(0, .ref (ad 0)), (1, .int x1), (2, .int x2), (3, .int x3)]) hav hP hD (Nat.le_of_ble_eq_true rfl) rfl ?_
  unfold e_X5_tier at h
  refine x_aload_n C dX5_tier_0 0 rfl (pc2 := 1) rfl ?_
  refine x_get C hiX5 0 (xc_0 ad cI cB _) rfl 0 (by decide) f10 (v := .ref (ad 1)) rfl dX5_tier_1 (pc2 := 4) rfl ?_
  refine x_iload_n C dX5_tier_4 1 rfl (pc2 := 5) rfl ?_
  refine x_callVi (As := [.int x1]) (rest := []) (index := 72) (n := 1) C h (c_X0_has l D A ad cI cB _ _) gX5_tier_X0_has rfl (by decide +kernel) rfl rfl ⟨Nat.le_of_ble_eq_true rfl, Nat.le_of_ble_eq_true rfl⟩ (ci := 0) rfl rfl (xc_1 ad cI cB _) (XW_D ad cI cB _) rfl rfl (Nat.le_of_ble_eq_true rfl) dX5_tier_5 (pc2 := 8) rfl (fun r1 u1 h => ?_)
  refine x_if_ne C h dX5_tier_8 (tgt := 13) (by decide) (pc2 := 11) rfl (fun h => ?_) (fun h => ?_)
  · refine x_iload_n C dX5_tier_13 2 rfl (pc2 := 14) rfl ?_
    refine x_iconst (v := (1 : Int32)) C dX5_tier_14 (by decide) (pc2 := 15) rfl ?_
    refine x_icmp_lt C h dX5_tier_15 (tgt := 36) (by decide) (pc2 := 18) rfl (fun h => ?_) (fun h => ?_)
    · refine x_bipush (v := (-2 : Int32)) C dX5_tier_36 (by decide) (pc2 := 38) rfl ?_
      exact x_iret C hr hlocks h dX5_tier_38
    · refine x_iload_n C dX5_tier_18 2 rfl (pc2 := 19) rfl ?_
      refine x_iconst (v := (4 : Int32)) C dX5_tier_19 (by decide) (pc2 := 20) rfl ?_
      refine x_icmp_gt C h dX5_tier_20 (tgt := 36) (by decide) (pc2 := 23) rfl (fun h => ?_) (fun h => ?_)
      · refine x_bipush (v := (-2 : Int32)) C dX5_tier_36 (by decide) (pc2 := 38) rfl ?_
        exact x_iret C hr hlocks h dX5_tier_38
      · refine x_iload_n C dX5_tier_23 1 rfl (pc2 := 24) rfl ?_
        refine x_iload_n C dX5_tier_24 2 rfl (pc2 := 25) rfl ?_
        refine x_iadd C dX5_tier_25 (pc2 := 26) rfl ?_
        refine x_aload_n C dX5_tier_26 0 rfl (pc2 := 27) rfl ?_
        refine x_get C hiX5 0 (xc_0 ad cI cB _) rfl 0 (by decide) f10 (v := .ref (ad 1)) rfl dX5_tier_27 (pc2 := 30) rfl ?_
        refine x_get C hiX0 1 (xc_1 ad cI cB _) rfl 0 (by decide) f56 (v := .int (u1 1 0)) rfl dX5_tier_30 (pc2 := 33) rfl ?_
        refine x_icmp_le C h dX5_tier_33 (tgt := 39) (by decide) (pc2 := 36) rfl (fun h => ?_) (fun h => ?_)
        · refine x_iload_n C dX5_tier_39 3 rfl (pc2 := 40) rfl ?_
          refine x_if_ne C h dX5_tier_40 (tgt := 53) (by decide) (pc2 := 43) rfl (fun h => ?_) (fun h => ?_)
          · refine x_iload_n C dX5_tier_53 3 rfl (pc2 := 54) rfl ?_
            refine x_iconst (v := (1 : Int32)) C dX5_tier_54 (by decide) (pc2 := 55) rfl ?_
            refine x_icmp_ne C h dX5_tier_55 (tgt := 68) (by decide) (pc2 := 58) rfl (fun h => ?_) (fun h => ?_)
            · refine x_iload_n C dX5_tier_68 3 rfl (pc2 := 69) rfl ?_
              refine x_bipush (v := (10 : Int32)) C dX5_tier_69 (by decide) (pc2 := 71) rfl ?_
              refine x_icmp_lt C h dX5_tier_71 (tgt := 82) (by decide) (pc2 := 74) rfl (fun h => ?_) (fun h => ?_)
              · refine x_bipush (v := (-2 : Int32)) C dX5_tier_82 (by decide) (pc2 := 84) rfl ?_
                exact x_iret C hr hlocks h dX5_tier_84
              · refine x_iload_n C dX5_tier_74 3 rfl (pc2 := 75) rfl ?_
                refine x_bipush (v := (10 : Int32)) C dX5_tier_75 (by decide) (pc2 := 77) rfl ?_
                refine x_iload_n C dX5_tier_77 2 rfl (pc2 := 78) rfl ?_
                refine x_iadd C dX5_tier_78 (pc2 := 79) rfl ?_
                refine x_icmp_lt C h dX5_tier_79 (tgt := 85) (by decide) (pc2 := 82) rfl (fun h => ?_) (fun h => ?_)
                · refine x_aload_n C dX5_tier_85 0 rfl (pc2 := 86) rfl ?_
                  refine x_get C hiX5 0 (xc_0 ad cI cB _) rfl 0 (by decide) f10 (v := .ref (ad 1)) rfl dX5_tier_86 (pc2 := 89) rfl ?_
                  refine x_iload_n C dX5_tier_89 1 rfl (pc2 := 90) rfl ?_
                  refine x_iload_n C dX5_tier_90 2 rfl (pc2 := 91) rfl ?_
                  refine x_iload_n C dX5_tier_91 3 rfl (pc2 := 92) rfl ?_
                  refine x_bipush (v := (10 : Int32)) C dX5_tier_92 (by decide) (pc2 := 94) rfl ?_
                  refine x_isub C dX5_tier_94 (pc2 := 95) rfl ?_
                  refine x_callVi (As := [.int x1, .int x2, .int (x3 - (10 : Int32))]) (rest := []) (index := 89) (n := 3) C h (c_X0_tierWidth l D A ad cI cB _ _ _ _) gX5_tier_X0_tierWidth rfl (by decide +kernel) rfl rfl ⟨Nat.le_of_ble_eq_true rfl, Nat.le_of_ble_eq_true rfl⟩ (ci := 0) rfl rfl (xc_1 ad cI cB _) (XW_D ad cI cB _) rfl rfl (Nat.le_of_ble_eq_true rfl) dX5_tier_95 (pc2 := 98) rfl (fun r2 u2 h => ?_)
                  exact x_iret C hr hlocks h dX5_tier_98
                · refine x_bipush (v := (-2 : Int32)) C dX5_tier_82 (by decide) (pc2 := 84) rfl ?_
                  exact x_iret C hr hlocks h dX5_tier_84
            · refine x_aload_n C dX5_tier_58 0 rfl (pc2 := 59) rfl ?_
              refine x_get C hiX5 0 (xc_0 ad cI cB _) rfl 0 (by decide) f10 (v := .ref (ad 1)) rfl dX5_tier_59 (pc2 := 62) rfl ?_
              refine x_iload_n C dX5_tier_62 1 rfl (pc2 := 63) rfl ?_
              refine x_iload_n C dX5_tier_63 2 rfl (pc2 := 64) rfl ?_
              refine x_callVi (As := [.int x1, .int x2]) (rest := []) (index := 86) (n := 2) C h (c_X0_tierGaps l D A ad cI cB _ _ _) gX5_tier_X0_tierGaps rfl (by decide +kernel) rfl rfl ⟨Nat.le_of_ble_eq_true rfl, Nat.le_of_ble_eq_true rfl⟩ (ci := 0) rfl rfl (xc_1 ad cI cB _) (XW_D ad cI cB _) rfl rfl (Nat.le_of_ble_eq_true rfl) dX5_tier_64 (pc2 := 67) rfl (fun r3 u3 h => ?_)
              exact x_iret C hr hlocks h dX5_tier_67
          · refine x_aload_n C dX5_tier_43 0 rfl (pc2 := 44) rfl ?_
            refine x_get C hiX5 0 (xc_0 ad cI cB _) rfl 0 (by decide) f10 (v := .ref (ad 1)) rfl dX5_tier_44 (pc2 := 47) rfl ?_
            refine x_iload_n C dX5_tier_47 1 rfl (pc2 := 48) rfl ?_
            refine x_iload_n C dX5_tier_48 2 rfl (pc2 := 49) rfl ?_
            refine x_callVi (As := [.int x1, .int x2]) (rest := []) (index := 83) (n := 2) C h (c_X0_tierHeight l D A ad cI cB _ _ _) gX5_tier_X0_tierHeight rfl (by decide +kernel) rfl rfl ⟨Nat.le_of_ble_eq_true rfl, Nat.le_of_ble_eq_true rfl⟩ (ci := 0) rfl rfl (xc_1 ad cI cB _) (XW_D ad cI cB _) rfl rfl (Nat.le_of_ble_eq_true rfl) dX5_tier_49 (pc2 := 52) rfl (fun r4 u4 h => ?_)
            exact x_iret C hr hlocks h dX5_tier_52
        · refine x_bipush (v := (-2 : Int32)) C dX5_tier_36 (by decide) (pc2 := 38) rfl ?_
          exact x_iret C hr hlocks h dX5_tier_38
  · refine x_iconst (v := (-1 : Int32)) C dX5_tier_11 (by decide) (pc2 := 12) rfl ?_
    exact x_iret C hr hlocks h dX5_tier_12
set_option maxRecDepth 100000 in
set_option maxHeartbeats 4000000 in
theorem c_X5_say (l : Launch) (D : va_G) (A : Nat → Prop) (ad : Nat → Nat) (cI cB : ClassId) (u : Mem) (x1 : Int32) : Cti l yX5_say wsX5_say { frames := 1, cells := 0, slots := 0, locals := 21 } D A (XW ad cI cB) [(cI, .int), (cB, .object "PanelPages$Book")] [.ref (ad 0), .int x1] u (e_X5_say u x1) := by
  intro r ur h
  refine Met.ofW (cc := cX5_say) (maxL := 2) (ret := (some .int)) (by decide) rfl ?_
  intro p e s m args below meth c s₁ B hml hv
  obtain ⟨hav, hP, hK, hD⟩ := hv
  have C : Cx p m c cX5_say 2 s args wsX5_say RX5 D [(cI, .int), (cB, .object "PanelPages$Book")] := ⟨⟨B.exec, B.bytes, hml, findClass_of_methodNamed B.named, atoms_spec (ws := wsX5_say) B.pre⟩, hK⟩
  have hr := B.returns
  have hlocks := B.notSynchronized
  have hiX2 : ∀ w ∈ wsX20, w ∈ wsX5_say := by decide +kernel
  have hiX5 : ∀ w ∈ wsX50, w ∈ wsX5_say := by decide +kernel
  have f19 : Cond.fieldLink RX5 19 "PanelPages" "pad" "LPanelPages$Pad;" ∈ wsX5_say := by decide +kernel
  have f93 : Cond.fieldLink RX5 93 "PanelPages$Pad" "size" "I" ∈ wsX5_say := by decide +kernel
  refine x_entry2 (lv := [(0, .ref (ad 0)), (1, .int x1)]) hav hP hD (Nat.le_of_ble_eq_true rfl) rfl ?_
  unfold e_X5_say at h
  refine x_iload_n C dX5_say_0 1 rfl (pc2 := 1) rfl ?_
  refine x_bipush (v := (33 : Int32)) C dX5_say_1 (by decide) (pc2 := 3) rfl ?_
  refine x_icmp_lt C h dX5_say_3 (tgt := 12) (by decide) (pc2 := 6) rfl (fun h => ?_) (fun h => ?_)
  · refine x_bipush (v := (-2 : Int32)) C dX5_say_12 (by decide) (pc2 := 14) rfl ?_
    exact x_iret C hr hlocks h dX5_say_14
  · refine x_iload_n C dX5_say_6 1 rfl (pc2 := 7) rfl ?_
    refine x_bipush (v := (126 : Int32)) C dX5_say_7 (by decide) (pc2 := 9) rfl ?_
    refine x_icmp_le C h dX5_say_9 (tgt := 15) (by decide) (pc2 := 12) rfl (fun h => ?_) (fun h => ?_)
    · refine x_aload_n C dX5_say_15 0 rfl (pc2 := 16) rfl ?_
      refine x_get C hiX5 0 (xc_0 ad cI cB _) rfl 1 (by decide) f19 (v := .ref (ad 7)) rfl dX5_say_16 (pc2 := 19) rfl ?_
      refine x_get C hiX2 7 (xc_7 ad cI cB _) rfl 0 (by decide) f93 (v := .int (u 7 0)) rfl dX5_say_19 (pc2 := 22) rfl ?_
      refine x_bipush (v := (9 : Int32)) C dX5_say_22 (by decide) (pc2 := 24) rfl ?_
      refine x_icmp_lt C h dX5_say_24 (tgt := 30) (by decide) (pc2 := 27) rfl (fun h => ?_) (fun h => ?_)
      · refine x_aload_n C dX5_say_30 0 rfl (pc2 := 31) rfl ?_
        refine x_get C hiX5 0 (xc_0 ad cI cB _) rfl 1 (by decide) f19 (v := .ref (ad 7)) rfl dX5_say_31 (pc2 := 34) rfl ?_
        refine x_iload_n C dX5_say_34 1 rfl (pc2 := 35) rfl ?_
        refine x_callVv (As := [.int x1]) (rest := []) (index := 96) (n := 1) C h (c_X2_add l D A ad cI cB _ _) gX5_say_X2_add rfl (by decide +kernel) rfl rfl ⟨Nat.le_of_ble_eq_true rfl, Nat.le_of_ble_eq_true rfl⟩ (ci := 2) rfl rfl (xc_7 ad cI cB _) (XW_D ad cI cB _) rfl rfl (Nat.le_of_ble_eq_true rfl) dX5_say_35 (pc2 := 38) rfl (fun u1 h => ?_)
        refine x_aload_n C dX5_say_38 0 rfl (pc2 := 39) rfl ?_
        refine x_get C hiX5 0 (xc_0 ad cI cB _) rfl 1 (by decide) f19 (v := .ref (ad 7)) rfl dX5_say_39 (pc2 := 42) rfl ?_
        refine x_get C hiX2 7 (xc_7 ad cI cB _) rfl 0 (by decide) f93 (v := .int (u1 7 0)) rfl dX5_say_42 (pc2 := 45) rfl ?_
        exact x_iret C hr hlocks h dX5_say_45
      · refine x_bipush (v := (-4 : Int32)) C dX5_say_27 (by decide) (pc2 := 29) rfl ?_
        exact x_iret C hr hlocks h dX5_say_29
    · refine x_bipush (v := (-2 : Int32)) C dX5_say_12 (by decide) (pc2 := 14) rfl ?_
      exact x_iret C hr hlocks h dX5_say_14
set_option maxRecDepth 100000 in
set_option maxHeartbeats 4000000 in
theorem c_X5_wipe (l : Launch) (D : va_G) (A : Nat → Prop) (ad : Nat → Nat) (cI cB : ClassId) (u : Mem)  : Cti l yX5_wipe wsX5_wipe { frames := 0, cells := 0, slots := 0, locals := 0 } D A (XW ad cI cB) [(cI, .int), (cB, .object "PanelPages$Book")] [.ref (ad 0)] u (e_X5_wipe u ) := by
  intro r ur h
  refine Met.ofW (cc := cX5_wipe) (maxL := 2) (ret := (some .int)) (by decide) rfl ?_
  intro p e s m args below meth c s₁ B hml hv
  obtain ⟨hav, hP, hK, hD⟩ := hv
  have C : Cx p m c cX5_wipe 2 s args wsX5_wipe RX5 D [(cI, .int), (cB, .object "PanelPages$Book")] := ⟨⟨B.exec, B.bytes, hml, findClass_of_methodNamed B.named, atoms_spec (ws := wsX5_wipe) B.pre⟩, hK⟩
  have hr := B.returns
  have hlocks := B.notSynchronized
  have hiX2 : ∀ w ∈ wsX20, w ∈ wsX5_wipe := by decide +kernel
  have hiX5 : ∀ w ∈ wsX50, w ∈ wsX5_wipe := by decide +kernel
  have f19 : Cond.fieldLink RX5 19 "PanelPages" "pad" "LPanelPages$Pad;" ∈ wsX5_wipe := by decide +kernel
  have f93 : Cond.fieldLink RX5 93 "PanelPages$Pad" "size" "I" ∈ wsX5_wipe := by decide +kernel
  refine x_entry2 (lv := [(0, .ref (ad 0))]) hav hP hD (Nat.le_of_ble_eq_true rfl) rfl ?_
  unfold e_X5_wipe at h
  refine x_aload_n C dX5_wipe_0 0 rfl (pc2 := 1) rfl ?_
  refine x_get C hiX5 0 (xc_0 ad cI cB _) rfl 1 (by decide) f19 (v := .ref (ad 7)) rfl dX5_wipe_1 (pc2 := 4) rfl ?_
  refine x_get C hiX2 7 (xc_7 ad cI cB _) rfl 0 (by decide) f93 (v := .int (u 7 0)) rfl dX5_wipe_4 (pc2 := 7) rfl ?_
  refine x_istore_n C dX5_wipe_7 (by decide) (lv2 := [(1, .int (u 7 0)), (0, .ref (ad 0))]) rfl (pc2 := 8) rfl ?_
  refine x_aload_n C dX5_wipe_8 1 rfl (pc2 := 9) rfl ?_
  refine x_get C hiX5 0 (xc_0 ad cI cB _) rfl 1 (by decide) f19 (v := .ref (ad 7)) rfl dX5_wipe_9 (pc2 := 12) rfl ?_
  refine x_iconst (v := (0 : Int32)) C dX5_wipe_12 (by decide) (pc2 := 13) rfl ?_
  refine x_put C hiX2 tyX2 tyX2_ok nmX2 7 (xc_7 ad cI cB _) rfl 0 (by decide) f93 rfl rfl (Nat.le_of_ble_eq_true rfl) (u2 := (put u 7 0 (0 : Int32))) (xs_7_0 ad cI cB _ _) dX5_wipe_13 (pc2 := 16) rfl ?_
  refine x_iload_n C dX5_wipe_16 0 rfl (pc2 := 17) rfl ?_
  exact x_iret C hr hlocks h dX5_wipe_17
set_option maxRecDepth 100000 in
set_option maxHeartbeats 4000000 in
theorem c_X5_judge (l : Launch) (D : va_G) (A : Nat → Prop) (ad : Nat → Nat) (cI cB : ClassId) (u : Mem) (x1 : Int32) : Cti l yX5_judge wsX5_judge { frames := 4, cells := 0, slots := 0, locals := 111 } D A (XW ad cI cB) [(cI, .int), (cB, .object "PanelPages$Book")] [.ref (ad 0), .int x1] u (e_X5_judge u x1) := by
  intro r ur h
  refine Met.ofW (cc := cX5_judge) (maxL := 3) (ret := (some .int)) (by decide) rfl ?_
  intro p e s m args below meth c s₁ B hml hv
  obtain ⟨hav, hP, hK, hD⟩ := hv
  have C : Cx p m c cX5_judge 3 s args wsX5_judge RX5 D [(cI, .int), (cB, .object "PanelPages$Book")] := ⟨⟨B.exec, B.bytes, hml, findClass_of_methodNamed B.named, atoms_spec (ws := wsX5_judge) B.pre⟩, hK⟩
  have hr := B.returns
  have hlocks := B.notSynchronized
  have hiX1 : ∀ w ∈ wsX10, w ∈ wsX5_judge := by decide +kernel
  have hiX5 : ∀ w ∈ wsX50, w ∈ wsX5_judge := by decide +kernel
  have f10 : Cond.fieldLink RX5 10 "PanelPages" "book" "LPanelPages$Book;" ∈ wsX5_judge := by decide +kernel
  have f108 : Cond.fieldLink RX5 108 "PanelPages$Layout" "poured" "I" ∈ wsX5_judge := by decide +kernel
  have f19 : Cond.fieldLink RX5 19 "PanelPages" "pad" "LPanelPages$Pad;" ∈ wsX5_judge := by decide +kernel
  have f26 : Cond.fieldLink RX5 26 "PanelPages" "layout" "LPanelPages$Layout;" ∈ wsX5_judge := by decide +kernel
  refine x_entry2 (lv := [(0, .ref (ad 0)), (1, .int x1)]) hav hP hD (Nat.le_of_ble_eq_true rfl) rfl ?_
  unfold e_X5_judge at h
  refine x_iload_n C dX5_judge_0 1 rfl (pc2 := 1) rfl ?_
  refine x_if_lt C h dX5_judge_1 (tgt := 9) (by decide) (pc2 := 4) rfl (fun h => ?_) (fun h => ?_)
  · refine x_bipush (v := (-2 : Int32)) C dX5_judge_9 (by decide) (pc2 := 11) rfl ?_
    exact x_iret C hr hlocks h dX5_judge_11
  · refine x_iload_n C dX5_judge_4 1 rfl (pc2 := 5) rfl ?_
    refine x_iconst (v := (1 : Int32)) C dX5_judge_5 (by decide) (pc2 := 6) rfl ?_
    refine x_icmp_le C h dX5_judge_6 (tgt := 12) (by decide) (pc2 := 9) rfl (fun h => ?_) (fun h => ?_)
    · refine x_aload_n C dX5_judge_12 0 rfl (pc2 := 13) rfl ?_
      refine x_callVi (As := []) (rest := []) (index := 100) (n := 0) C h (c_X5_padIsLayout l D A ad cI cB _ ) gX5_judge_X5_padIsLayout rfl (by decide +kernel) rfl rfl ⟨Nat.le_of_ble_eq_true rfl, Nat.le_of_ble_eq_true rfl⟩ (ci := 5) rfl rfl (xc_0 ad cI cB _) (XW_D ad cI cB _) rfl rfl (Nat.le_of_ble_eq_true rfl) dX5_judge_13 (pc2 := 16) rfl (fun r1 u1 h => ?_)
      refine x_if_ne C h dX5_judge_16 (tgt := 22) (by decide) (pc2 := 19) rfl (fun h => ?_) (fun h => ?_)
      · refine x_aload_n C dX5_judge_22 0 rfl (pc2 := 23) rfl ?_
        refine x_get C hiX5 0 (xc_0 ad cI cB _) rfl 2 (by decide) f26 (v := .ref (ad 9)) rfl dX5_judge_23 (pc2 := 26) rfl ?_
        refine x_aload_n C dX5_judge_26 0 rfl (pc2 := 27) rfl ?_
        refine x_get C hiX5 0 (xc_0 ad cI cB _) rfl 0 (by decide) f10 (v := .ref (ad 1)) rfl dX5_judge_27 (pc2 := 30) rfl ?_
        refine x_aload_n C dX5_judge_30 0 rfl (pc2 := 31) rfl ?_
        refine x_get C hiX5 0 (xc_0 ad cI cB _) rfl 1 (by decide) f19 (v := .ref (ad 7)) rfl dX5_judge_31 (pc2 := 34) rfl ?_
        refine x_callVi (As := [.ref (ad 1), .ref (ad 7)]) (rest := []) (index := 104) (n := 2) C h (c_X1_pour l D A ad cI cB _ ) gX5_judge_X1_pour rfl (by decide +kernel) rfl rfl ⟨Nat.le_of_ble_eq_true rfl, Nat.le_of_ble_eq_true rfl⟩ (ci := 1) rfl rfl (xc_9 ad cI cB _) (XW_D ad cI cB _) rfl rfl (Nat.le_of_ble_eq_true rfl) dX5_judge_34 (pc2 := 37) rfl (fun r2 u2 h => ?_)
        refine x_istore_n C dX5_judge_37 (by decide) (lv2 := [(2, .int r2), (0, .ref (ad 0)), (1, .int x1)]) rfl (pc2 := 38) rfl ?_
        refine x_iload_n C dX5_judge_38 0 rfl (pc2 := 39) rfl ?_
        refine x_if_ne C h dX5_judge_39 (tgt := 45) (by decide) (pc2 := 42) rfl (fun h => ?_) (fun h => ?_)
        · refine x_iload_n C dX5_judge_45 2 rfl (pc2 := 46) rfl ?_
          refine x_if_ne C h dX5_judge_46 (tgt := 59) (by decide) (pc2 := 49) rfl (fun h => ?_) (fun h => ?_)
          · refine x_iload_n C dX5_judge_59 0 rfl (pc2 := 60) rfl ?_
            exact x_iret C hr hlocks h dX5_judge_60
          · refine x_aload_n C dX5_judge_49 1 rfl (pc2 := 50) rfl ?_
            refine x_get C hiX5 0 (xc_0 ad cI cB _) rfl 2 (by decide) f26 (v := .ref (ad 9)) rfl dX5_judge_50 (pc2 := 53) rfl ?_
            refine x_get C hiX1 9 (xc_9 ad cI cB _) rfl 0 (by decide) f108 (v := .int (u2 9 0)) rfl dX5_judge_53 (pc2 := 56) rfl ?_
            refine x_goto C dX5_judge_56 (pc2 := 60) (by decide) ?_
            exact x_iret C hr hlocks h dX5_judge_60
        · refine x_bipush (v := (-6 : Int32)) C dX5_judge_42 (by decide) (pc2 := 44) rfl ?_
          exact x_iret C hr hlocks h dX5_judge_44
      · refine x_bipush (v := (-7 : Int32)) C dX5_judge_19 (by decide) (pc2 := 21) rfl ?_
        exact x_iret C hr hlocks h dX5_judge_21
    · refine x_bipush (v := (-2 : Int32)) C dX5_judge_9 (by decide) (pc2 := 11) rfl ?_
      exact x_iret C hr hlocks h dX5_judge_11
set_option maxRecDepth 100000 in
set_option maxHeartbeats 4000000 in
theorem c_X5_told (l : Launch) (D : va_G) (A : Nat → Prop) (ad : Nat → Nat) (cI cB : ClassId) (u : Mem) (x1 : Int32) : Cti l yX5_told wsX5_told { frames := 4, cells := 0, slots := 0, locals := 111 } D A (XW ad cI cB) [(cI, .int), (cB, .object "PanelPages$Book")] [.ref (ad 0), .int x1] u (e_X5_told u x1) := by
  intro r ur h
  refine Met.ofW (cc := cX5_told) (maxL := 2) (ret := (some .int)) (by decide) rfl ?_
  intro p e s m args below meth c s₁ B hml hv
  obtain ⟨hav, hP, hK, hD⟩ := hv
  have C : Cx p m c cX5_told 2 s args wsX5_told RX5 D [(cI, .int), (cB, .object "PanelPages$Book")] := ⟨⟨B.exec, B.bytes, hml, findClass_of_methodNamed B.named, atoms_spec (ws := wsX5_told) B.pre⟩, hK⟩
  have hr := B.returns
  have hlocks := B.notSynchronized
  have hiX1 : ∀ w ∈ wsX10, w ∈ wsX5_told := by decide +kernel
  have hiX5 : ∀ w ∈ wsX50, w ∈ wsX5_told := by decide +kernel
  have f10 : Cond.fieldLink RX5 10 "PanelPages" "book" "LPanelPages$Book;" ∈ wsX5_told := by decide +kernel
  have f115 : Cond.fieldLink RX5 115 "PanelPages$Layout" "pages" "I" ∈ wsX5_told := by decide +kernel
  have f118 : Cond.fieldLink RX5 118 "PanelPages$Layout" "ragged" "I" ∈ wsX5_told := by decide +kernel
  have f121 : Cond.fieldLink RX5 121 "PanelPages$Layout" "tiers" "I" ∈ wsX5_told := by decide +kernel
  have f124 : Cond.fieldLink RX5 124 "PanelPages$Layout" "blanks" "I" ∈ wsX5_told := by decide +kernel
  have f19 : Cond.fieldLink RX5 19 "PanelPages" "pad" "LPanelPages$Pad;" ∈ wsX5_told := by decide +kernel
  have f26 : Cond.fieldLink RX5 26 "PanelPages" "layout" "LPanelPages$Layout;" ∈ wsX5_told := by decide +kernel
  refine x_entry2 (lv := [(0, .ref (ad 0)), (1, .int x1)]) hav hP hD (Nat.le_of_ble_eq_true rfl) rfl ?_
  unfold e_X5_told at h
  refine x_iload_n C dX5_told_0 1 rfl (pc2 := 1) rfl ?_
  refine x_if_lt C h dX5_told_1 (tgt := 9) (by decide) (pc2 := 4) rfl (fun h => ?_) (fun h => ?_)
  · refine x_bipush (v := (-2 : Int32)) C dX5_told_9 (by decide) (pc2 := 11) rfl ?_
    exact x_iret C hr hlocks h dX5_told_11
  · refine x_iload_n C dX5_told_4 1 rfl (pc2 := 5) rfl ?_
    refine x_iconst (v := (3 : Int32)) C dX5_told_5 (by decide) (pc2 := 6) rfl ?_
    refine x_icmp_le C h dX5_told_6 (tgt := 12) (by decide) (pc2 := 9) rfl (fun h => ?_) (fun h => ?_)
    · refine x_aload_n C dX5_told_12 0 rfl (pc2 := 13) rfl ?_
      refine x_callVi (As := []) (rest := []) (index := 100) (n := 0) C h (c_X5_padIsLayout l D A ad cI cB _ ) gX5_told_X5_padIsLayout rfl (by decide +kernel) rfl rfl ⟨Nat.le_of_ble_eq_true rfl, Nat.le_of_ble_eq_true rfl⟩ (ci := 5) rfl rfl (xc_0 ad cI cB _) (XW_D ad cI cB _) rfl rfl (Nat.le_of_ble_eq_true rfl) dX5_told_13 (pc2 := 16) rfl (fun r1 u1 h => ?_)
      refine x_if_ne C h dX5_told_16 (tgt := 22) (by decide) (pc2 := 19) rfl (fun h => ?_) (fun h => ?_)
      · refine x_aload_n C dX5_told_22 0 rfl (pc2 := 23) rfl ?_
        refine x_get C hiX5 0 (xc_0 ad cI cB _) rfl 2 (by decide) f26 (v := .ref (ad 9)) rfl dX5_told_23 (pc2 := 26) rfl ?_
        refine x_aload_n C dX5_told_26 0 rfl (pc2 := 27) rfl ?_
        refine x_get C hiX5 0 (xc_0 ad cI cB _) rfl 0 (by decide) f10 (v := .ref (ad 1)) rfl dX5_told_27 (pc2 := 30) rfl ?_
        refine x_aload_n C dX5_told_30 0 rfl (pc2 := 31) rfl ?_
        refine x_get C hiX5 0 (xc_0 ad cI cB _) rfl 1 (by decide) f19 (v := .ref (ad 7)) rfl dX5_told_31 (pc2 := 34) rfl ?_
        refine x_callVi (As := [.ref (ad 1), .ref (ad 7)]) (rest := []) (index := 104) (n := 2) C h (c_X1_pour l D A ad cI cB _ ) gX5_told_X1_pour rfl (by decide +kernel) rfl rfl ⟨Nat.le_of_ble_eq_true rfl, Nat.le_of_ble_eq_true rfl⟩ (ci := 1) rfl rfl (xc_9 ad cI cB _) (XW_D ad cI cB _) rfl rfl (Nat.le_of_ble_eq_true rfl) dX5_told_34 (pc2 := 37) rfl (fun r2 u2 h => ?_)
        refine x_if_eq C h dX5_told_37 (tgt := 43) (by decide) (pc2 := 40) rfl (fun h => ?_) (fun h => ?_)
        · refine x_aload_n C dX5_told_43 0 rfl (pc2 := 44) rfl ?_
          refine x_get C hiX5 0 (xc_0 ad cI cB _) rfl 2 (by decide) f26 (v := .ref (ad 9)) rfl dX5_told_44 (pc2 := 47) rfl ?_
          refine x_aload_n C dX5_told_47 0 rfl (pc2 := 48) rfl ?_
          refine x_get C hiX5 0 (xc_0 ad cI cB _) rfl 0 (by decide) f10 (v := .ref (ad 1)) rfl dX5_told_48 (pc2 := 51) rfl ?_
          refine x_callVv (As := [.ref (ad 1)]) (rest := []) (index := 111) (n := 1) C h (c_X1_numberPages l D A ad cI cB _ ) gX5_told_X1_numberPages rfl (by decide +kernel) rfl rfl ⟨Nat.le_of_ble_eq_true rfl, Nat.le_of_ble_eq_true rfl⟩ (ci := 1) rfl rfl (xc_9 ad cI cB _) (XW_D ad cI cB _) rfl rfl (Nat.le_of_ble_eq_true rfl) dX5_told_51 (pc2 := 54) rfl (fun u3 h => ?_)
          refine x_iload_n C dX5_told_54 1 rfl (pc2 := 55) rfl ?_
          by_cases q0 : x1 = (0 : Int32)
          · replace h := (if_pos q0).symm.trans h
            refine x_tabI C (0 : Int32) q0 dX5_told_55 (by decide) (by decide) (off := 25) (by decide) (tgt := 80) (by decide) ?_
            refine x_aload_n C dX5_told_80 0 rfl (pc2 := 81) rfl ?_
            refine x_get C hiX5 0 (xc_0 ad cI cB _) rfl 2 (by decide) f26 (v := .ref (ad 9)) rfl dX5_told_81 (pc2 := 84) rfl ?_
            refine x_get C hiX1 9 (xc_9 ad cI cB _) rfl 1 (by decide) f115 (v := .int (u3 9 1)) rfl dX5_told_84 (pc2 := 87) rfl ?_
            exact x_iret C hr hlocks h dX5_told_87
          replace h := (if_neg q0).symm.trans h
          by_cases q1 : x1 = (1 : Int32)
          · replace h := (if_pos q1).symm.trans h
            refine x_tabI C (1 : Int32) q1 dX5_told_55 (by decide) (by decide) (off := 33) (by decide) (tgt := 88) (by decide) ?_
            refine x_aload_n C dX5_told_88 0 rfl (pc2 := 89) rfl ?_
            refine x_get C hiX5 0 (xc_0 ad cI cB _) rfl 2 (by decide) f26 (v := .ref (ad 9)) rfl dX5_told_89 (pc2 := 92) rfl ?_
            refine x_get C hiX1 9 (xc_9 ad cI cB _) rfl 4 (by decide) f118 (v := .int (u3 9 4)) rfl dX5_told_92 (pc2 := 95) rfl ?_
            exact x_iret C hr hlocks h dX5_told_95
          replace h := (if_neg q1).symm.trans h
          by_cases q2 : x1 = (2 : Int32)
          · replace h := (if_pos q2).symm.trans h
            refine x_tabI C (2 : Int32) q2 dX5_told_55 (by decide) (by decide) (off := 41) (by decide) (tgt := 96) (by decide) ?_
            refine x_aload_n C dX5_told_96 0 rfl (pc2 := 97) rfl ?_
            refine x_get C hiX5 0 (xc_0 ad cI cB _) rfl 2 (by decide) f26 (v := .ref (ad 9)) rfl dX5_told_97 (pc2 := 100) rfl ?_
            refine x_get C hiX1 9 (xc_9 ad cI cB _) rfl 3 (by decide) f121 (v := .int (u3 9 3)) rfl dX5_told_100 (pc2 := 103) rfl ?_
            exact x_iret C hr hlocks h dX5_told_103
          replace h := (if_neg q2).symm.trans h
          have n0 := tab_ne q0
          have n1 := tab_ne q1
          have n2 := tab_ne q2
          refine x_tabO C dX5_told_55 (by rw [show ((0 : Int32)).toInt = 0 from rfl] at n0; rw [show ((1 : Int32)).toInt = 1 from rfl] at n1; rw [show ((2 : Int32)).toInt = 2 from rfl] at n2; omega) (tgt := 104) (by decide) ?_
          refine x_aload_n C dX5_told_104 0 rfl (pc2 := 105) rfl ?_
          refine x_get C hiX5 0 (xc_0 ad cI cB _) rfl 2 (by decide) f26 (v := .ref (ad 9)) rfl dX5_told_105 (pc2 := 108) rfl ?_
          refine x_get C hiX1 9 (xc_9 ad cI cB _) rfl 2 (by decide) f124 (v := .int (u3 9 2)) rfl dX5_told_108 (pc2 := 111) rfl ?_
          exact x_iret C hr hlocks h dX5_told_111
        · refine x_bipush (v := (-5 : Int32)) C dX5_told_40 (by decide) (pc2 := 42) rfl ?_
          exact x_iret C hr hlocks h dX5_told_42
      · refine x_bipush (v := (-7 : Int32)) C dX5_told_19 (by decide) (pc2 := 21) rfl ?_
        exact x_iret C hr hlocks h dX5_told_21
    · refine x_bipush (v := (-2 : Int32)) C dX5_told_9 (by decide) (pc2 := 11) rfl ?_
      exact x_iret C hr hlocks h dX5_told_11
set_option maxRecDepth 100000 in
set_option maxHeartbeats 4000000 in
theorem c_X5_at (l : Launch) (D : va_G) (A : Nat → Prop) (ad : Nat → Nat) (cI cB : ClassId) (u : Mem) (x1 : Int32) (x2 : Int32) : Cti l yX5_at wsX5_at { frames := 4, cells := 0, slots := 0, locals := 111 } D A (XW ad cI cB) [(cI, .int), (cB, .object "PanelPages$Book")] [.ref (ad 0), .int x1, .int x2] u (e_X5_at u x1 x2) := by
  intro r ur h
  refine Met.ofW (cc := cX5_at) (maxL := 3) (ret := (some .int)) (by decide) rfl ?_
  intro p e s m args below meth c s₁ B hml hv
  obtain ⟨hav, hP, hK, hD⟩ := hv
  have C : Cx p m c cX5_at 3 s args wsX5_at RX5 D [(cI, .int), (cB, .object "PanelPages$Book")] := ⟨⟨B.exec, B.bytes, hml, findClass_of_methodNamed B.named, atoms_spec (ws := wsX5_at) B.pre⟩, hK⟩
  have hr := B.returns
  have hlocks := B.notSynchronized
  have hiX1 : ∀ w ∈ wsX10, w ∈ wsX5_at := by decide +kernel
  have hiX5 : ∀ w ∈ wsX50, w ∈ wsX5_at := by decide +kernel
  have f10 : Cond.fieldLink RX5 10 "PanelPages" "book" "LPanelPages$Book;" ∈ wsX5_at := by decide +kernel
  have f127 : Cond.fieldLink RX5 127 "PanelPages$Layout" "page" "[I" ∈ wsX5_at := by decide +kernel
  have f130 : Cond.fieldLink RX5 130 "PanelPages$Layout" "tierOnPage" "[I" ∈ wsX5_at := by decide +kernel
  have f133 : Cond.fieldLink RX5 133 "PanelPages$Layout" "place" "[I" ∈ wsX5_at := by decide +kernel
  have f19 : Cond.fieldLink RX5 19 "PanelPages" "pad" "LPanelPages$Pad;" ∈ wsX5_at := by decide +kernel
  have f26 : Cond.fieldLink RX5 26 "PanelPages" "layout" "LPanelPages$Layout;" ∈ wsX5_at := by decide +kernel
  refine x_entry2 (lv := [(0, .ref (ad 0)), (1, .int x1), (2, .int x2)]) hav hP hD (Nat.le_of_ble_eq_true rfl) rfl ?_
  unfold e_X5_at at h
  refine x_aload_n C dX5_at_0 0 rfl (pc2 := 1) rfl ?_
  refine x_get C hiX5 0 (xc_0 ad cI cB _) rfl 0 (by decide) f10 (v := .ref (ad 1)) rfl dX5_at_1 (pc2 := 4) rfl ?_
  refine x_iload_n C dX5_at_4 1 rfl (pc2 := 5) rfl ?_
  refine x_callVi (As := [.int x1]) (rest := []) (index := 72) (n := 1) C h (c_X0_has l D A ad cI cB _ _) gX5_at_X0_has rfl (by decide +kernel) rfl rfl ⟨Nat.le_of_ble_eq_true rfl, Nat.le_of_ble_eq_true rfl⟩ (ci := 0) rfl rfl (xc_1 ad cI cB _) (XW_D ad cI cB _) rfl rfl (Nat.le_of_ble_eq_true rfl) dX5_at_5 (pc2 := 8) rfl (fun r1 u1 h => ?_)
  refine x_if_ne C h dX5_at_8 (tgt := 13) (by decide) (pc2 := 11) rfl (fun h => ?_) (fun h => ?_)
  · refine x_iload_n C dX5_at_13 2 rfl (pc2 := 14) rfl ?_
    refine x_if_lt C h dX5_at_14 (tgt := 22) (by decide) (pc2 := 17) rfl (fun h => ?_) (fun h => ?_)
    · refine x_bipush (v := (-2 : Int32)) C dX5_at_22 (by decide) (pc2 := 24) rfl ?_
      exact x_iret C hr hlocks h dX5_at_24
    · refine x_iload_n C dX5_at_17 2 rfl (pc2 := 18) rfl ?_
      refine x_iconst (v := (3 : Int32)) C dX5_at_18 (by decide) (pc2 := 19) rfl ?_
      refine x_icmp_le C h dX5_at_19 (tgt := 25) (by decide) (pc2 := 22) rfl (fun h => ?_) (fun h => ?_)
      · refine x_aload_n C dX5_at_25 0 rfl (pc2 := 26) rfl ?_
        refine x_callVi (As := []) (rest := []) (index := 100) (n := 0) C h (c_X5_padIsLayout l D A ad cI cB _ ) gX5_at_X5_padIsLayout rfl (by decide +kernel) rfl rfl ⟨Nat.le_of_ble_eq_true rfl, Nat.le_of_ble_eq_true rfl⟩ (ci := 5) rfl rfl (xc_0 ad cI cB _) (XW_D ad cI cB _) rfl rfl (Nat.le_of_ble_eq_true rfl) dX5_at_26 (pc2 := 29) rfl (fun r2 u2 h => ?_)
        refine x_if_ne C h dX5_at_29 (tgt := 35) (by decide) (pc2 := 32) rfl (fun h => ?_) (fun h => ?_)
        · refine x_aload_n C dX5_at_35 0 rfl (pc2 := 36) rfl ?_
          refine x_get C hiX5 0 (xc_0 ad cI cB _) rfl 2 (by decide) f26 (v := .ref (ad 9)) rfl dX5_at_36 (pc2 := 39) rfl ?_
          refine x_aload_n C dX5_at_39 0 rfl (pc2 := 40) rfl ?_
          refine x_get C hiX5 0 (xc_0 ad cI cB _) rfl 0 (by decide) f10 (v := .ref (ad 1)) rfl dX5_at_40 (pc2 := 43) rfl ?_
          refine x_aload_n C dX5_at_43 0 rfl (pc2 := 44) rfl ?_
          refine x_get C hiX5 0 (xc_0 ad cI cB _) rfl 1 (by decide) f19 (v := .ref (ad 7)) rfl dX5_at_44 (pc2 := 47) rfl ?_
          refine x_callVi (As := [.ref (ad 1), .ref (ad 7)]) (rest := []) (index := 104) (n := 2) C h (c_X1_pour l D A ad cI cB _ ) gX5_at_X1_pour rfl (by decide +kernel) rfl rfl ⟨Nat.le_of_ble_eq_true rfl, Nat.le_of_ble_eq_true rfl⟩ (ci := 1) rfl rfl (xc_9 ad cI cB _) (XW_D ad cI cB _) rfl rfl (Nat.le_of_ble_eq_true rfl) dX5_at_47 (pc2 := 50) rfl (fun r3 u3 h => ?_)
          refine x_if_eq C h dX5_at_50 (tgt := 56) (by decide) (pc2 := 53) rfl (fun h => ?_) (fun h => ?_)
          · refine x_aload_n C dX5_at_56 0 rfl (pc2 := 57) rfl ?_
            refine x_get C hiX5 0 (xc_0 ad cI cB _) rfl 2 (by decide) f26 (v := .ref (ad 9)) rfl dX5_at_57 (pc2 := 60) rfl ?_
            refine x_aload_n C dX5_at_60 0 rfl (pc2 := 61) rfl ?_
            refine x_get C hiX5 0 (xc_0 ad cI cB _) rfl 0 (by decide) f10 (v := .ref (ad 1)) rfl dX5_at_61 (pc2 := 64) rfl ?_
            refine x_callVv (As := [.ref (ad 1)]) (rest := []) (index := 111) (n := 1) C h (c_X1_numberPages l D A ad cI cB _ ) gX5_at_X1_numberPages rfl (by decide +kernel) rfl rfl ⟨Nat.le_of_ble_eq_true rfl, Nat.le_of_ble_eq_true rfl⟩ (ci := 1) rfl rfl (xc_9 ad cI cB _) (XW_D ad cI cB _) rfl rfl (Nat.le_of_ble_eq_true rfl) dX5_at_64 (pc2 := 67) rfl (fun u4 h => ?_)
            refine x_iload_n C dX5_at_67 2 rfl (pc2 := 68) rfl ?_
            by_cases q0 : x2 = (0 : Int32)
            · replace h := (if_pos q0).symm.trans h
              refine x_tabI C (0 : Int32) q0 dX5_at_68 (by decide) (by decide) (off := 28) (by decide) (tgt := 96) (by decide) ?_
              refine x_aload_n C dX5_at_96 0 rfl (pc2 := 97) rfl ?_
              refine x_get C hiX5 0 (xc_0 ad cI cB _) rfl 2 (by decide) f26 (v := .ref (ad 9)) rfl dX5_at_97 (pc2 := 100) rfl ?_
              refine x_get C hiX1 9 (xc_9 ad cI cB _) rfl 6 (by decide) f127 (v := .ref (ad 11)) rfl dX5_at_100 (pc2 := 103) rfl ?_
              refine x_iload_n C dX5_at_103 1 rfl (pc2 := 104) rfl ?_
              refine x_iald C h 11 0 (xc_11 ad cI cB _) rfl dX5_at_104 (pc2 := 105) rfl (fun h => ?_)
              exact x_iret C hr hlocks h dX5_at_105
            replace h := (if_neg q0).symm.trans h
            by_cases q1 : x2 = (1 : Int32)
            · replace h := (if_pos q1).symm.trans h
              refine x_tabI C (1 : Int32) q1 dX5_at_68 (by decide) (by decide) (off := 38) (by decide) (tgt := 106) (by decide) ?_
              refine x_aload_n C dX5_at_106 0 rfl (pc2 := 107) rfl ?_
              refine x_get C hiX5 0 (xc_0 ad cI cB _) rfl 2 (by decide) f26 (v := .ref (ad 9)) rfl dX5_at_107 (pc2 := 110) rfl ?_
              refine x_get C hiX1 9 (xc_9 ad cI cB _) rfl 7 (by decide) f130 (v := .ref (ad 12)) rfl dX5_at_110 (pc2 := 113) rfl ?_
              refine x_iload_n C dX5_at_113 1 rfl (pc2 := 114) rfl ?_
              refine x_iald C h 12 0 (xc_12 ad cI cB _) rfl dX5_at_114 (pc2 := 115) rfl (fun h => ?_)
              exact x_iret C hr hlocks h dX5_at_115
            replace h := (if_neg q1).symm.trans h
            by_cases q2 : x2 = (2 : Int32)
            · replace h := (if_pos q2).symm.trans h
              refine x_tabI C (2 : Int32) q2 dX5_at_68 (by decide) (by decide) (off := 48) (by decide) (tgt := 116) (by decide) ?_
              refine x_aload_n C dX5_at_116 0 rfl (pc2 := 117) rfl ?_
              refine x_get C hiX5 0 (xc_0 ad cI cB _) rfl 2 (by decide) f26 (v := .ref (ad 9)) rfl dX5_at_117 (pc2 := 120) rfl ?_
              refine x_get C hiX1 9 (xc_9 ad cI cB _) rfl 8 (by decide) f133 (v := .ref (ad 13)) rfl dX5_at_120 (pc2 := 123) rfl ?_
              refine x_iload_n C dX5_at_123 1 rfl (pc2 := 124) rfl ?_
              refine x_iald C h 13 0 (xc_13 ad cI cB _) rfl dX5_at_124 (pc2 := 125) rfl (fun h => ?_)
              exact x_iret C hr hlocks h dX5_at_125
            replace h := (if_neg q2).symm.trans h
            have n0 := tab_ne q0
            have n1 := tab_ne q1
            have n2 := tab_ne q2
            refine x_tabO C dX5_at_68 (by rw [show ((0 : Int32)).toInt = 0 from rfl] at n0; rw [show ((1 : Int32)).toInt = 1 from rfl] at n1; rw [show ((2 : Int32)).toInt = 2 from rfl] at n2; omega) (tgt := 126) (by decide) ?_
            refine x_aload_n C dX5_at_126 0 rfl (pc2 := 127) rfl ?_
            refine x_get C hiX5 0 (xc_0 ad cI cB _) rfl 2 (by decide) f26 (v := .ref (ad 9)) rfl dX5_at_127 (pc2 := 130) rfl ?_
            refine x_aload_n C dX5_at_130 0 rfl (pc2 := 131) rfl ?_
            refine x_get C hiX5 0 (xc_0 ad cI cB _) rfl 0 (by decide) f10 (v := .ref (ad 1)) rfl dX5_at_131 (pc2 := 134) rfl ?_
            refine x_iload_n C dX5_at_134 1 rfl (pc2 := 135) rfl ?_
            refine x_callVi (As := [.ref (ad 1), .int x1]) (rest := []) (index := 136) (n := 2) C h (c_X1_width l D A ad cI cB _ _) gX5_at_X1_width rfl (by decide +kernel) rfl rfl ⟨Nat.le_of_ble_eq_true rfl, Nat.le_of_ble_eq_true rfl⟩ (ci := 1) rfl rfl (xc_9 ad cI cB _) (XW_D ad cI cB _) rfl rfl (Nat.le_of_ble_eq_true rfl) dX5_at_135 (pc2 := 138) rfl (fun r5 u5 h => ?_)
            exact x_iret C hr hlocks h dX5_at_138
          · refine x_bipush (v := (-5 : Int32)) C dX5_at_53 (by decide) (pc2 := 55) rfl ?_
            exact x_iret C hr hlocks h dX5_at_55
        · refine x_bipush (v := (-7 : Int32)) C dX5_at_32 (by decide) (pc2 := 34) rfl ?_
          exact x_iret C hr hlocks h dX5_at_34
      · refine x_bipush (v := (-2 : Int32)) C dX5_at_22 (by decide) (pc2 := 24) rfl ?_
        exact x_iret C hr hlocks h dX5_at_24
  · refine x_iconst (v := (-1 : Int32)) C dX5_at_11 (by decide) (pc2 := 12) rfl ?_
    exact x_iret C hr hlocks h dX5_at_12
set_option maxRecDepth 100000 in
set_option maxHeartbeats 4000000 in
theorem c_X5_best (l : Launch) (D : va_G) (A : Nat → Prop) (ad : Nat → Nat) (cI cB : ClassId) (u : Mem) (x1 : Int32) : Cti l yX5_best wsX5_best { frames := 17, cells := 0, slots := 0, locals := 448 } D A (XW ad cI cB) [(cI, .int), (cB, .object "PanelPages$Book")] [.ref (ad 0), .int x1] u (e_X5_best u x1) := by
  intro r ur h
  refine Met.ofW (cc := cX5_best) (maxL := 3) (ret := (some .int)) (by decide) rfl ?_
  intro p e s m args below meth c s₁ B hml hv
  obtain ⟨hav, hP, hK, hD⟩ := hv
  have C : Cx p m c cX5_best 3 s args wsX5_best RX5 D [(cI, .int), (cB, .object "PanelPages$Book")] := ⟨⟨B.exec, B.bytes, hml, findClass_of_methodNamed B.named, atoms_spec (ws := wsX5_best) B.pre⟩, hK⟩
  have hr := B.returns
  have hlocks := B.notSynchronized
  have hiX5 : ∀ w ∈ wsX50, w ∈ wsX5_best := by decide +kernel
  have f10 : Cond.fieldLink RX5 10 "PanelPages" "book" "LPanelPages$Book;" ∈ wsX5_best := by decide +kernel
  have f33 : Cond.fieldLink RX5 33 "PanelPages" "search" "LPanelPages$Search;" ∈ wsX5_best := by decide +kernel
  refine x_entry2 (lv := [(0, .ref (ad 0)), (1, .int x1)]) hav hP hD (Nat.le_of_ble_eq_true rfl) rfl ?_
  unfold e_X5_best at h
  have J148 : ∀ (u : Mem) (x1 : Int32), e_X5_best_J148 u x1 = some (r, ur) → Wx p l e (headSpec wsX5_best { frames := 17, cells := 0, slots := 0, locals := 448 }).room s m args below meth c (MQ below (Qix D A (XW ad cI cB) r ur) args s 0 0 A) D A 3 (XW ad cI cB) u 148 [(0, .ref (ad 0)), (1, .int x1)] [] := by
    intro u x1 h
    unfold e_X5_best_J148 at h
    refine x_aload_n C dX5_best_148 0 rfl (pc2 := 149) rfl ?_
    refine x_get C hiX5 0 (xc_0 ad cI cB _) rfl 3 (by decide) f33 (v := .ref (ad 17)) rfl dX5_best_149 (pc2 := 152) rfl ?_
    refine x_aload_n C dX5_best_152 0 rfl (pc2 := 153) rfl ?_
    refine x_get C hiX5 0 (xc_0 ad cI cB _) rfl 0 (by decide) f10 (v := .ref (ad 1)) rfl dX5_best_153 (pc2 := 156) rfl ?_
    refine x_iload_n C dX5_best_156 1 rfl (pc2 := 157) rfl ?_
    refine x_bipush (v := (10 : Int32)) C dX5_best_157 (by decide) (pc2 := 159) rfl ?_
    refine x_isub C dX5_best_159 (pc2 := 160) rfl ?_
    refine x_callVi (As := [.ref (ad 1), .int (x1 - (10 : Int32))]) (rest := []) (index := 156) (n := 2) C h (c_X3_figure l D A ad cI cB _ _) gX5_best_X3_figure rfl (by decide +kernel) rfl rfl ⟨Nat.le_of_ble_eq_true rfl, Nat.le_of_ble_eq_true rfl⟩ (ci := 3) rfl rfl (xc_17 ad cI cB _) (XW_D ad cI cB _) rfl rfl (Nat.le_of_ble_eq_true rfl) dX5_best_160 (pc2 := 163) rfl (fun r8 u8 h => ?_)
    exact x_iret C hr hlocks h dX5_best_163
  have J55 : ∀ (u : Mem) (x1 : Int32), e_X5_best_J55 u x1 = some (r, ur) → Wx p l e (headSpec wsX5_best { frames := 17, cells := 0, slots := 0, locals := 448 }).room s m args below meth c (MQ below (Qix D A (XW ad cI cB) r ur) args s 0 0 A) D A 3 (XW ad cI cB) u 55 [(0, .ref (ad 0)), (1, .int x1)] [] := by
    intro u x1 h
    unfold e_X5_best_J55 at h
    refine x_aload_n C dX5_best_55 0 rfl (pc2 := 56) rfl ?_
    refine x_get C hiX5 0 (xc_0 ad cI cB _) rfl 3 (by decide) f33 (v := .ref (ad 17)) rfl dX5_best_56 (pc2 := 59) rfl ?_
    refine x_aload_n C dX5_best_59 0 rfl (pc2 := 60) rfl ?_
    refine x_get C hiX5 0 (xc_0 ad cI cB _) rfl 0 (by decide) f10 (v := .ref (ad 1)) rfl dX5_best_60 (pc2 := 63) rfl ?_
    refine x_callVv (As := [.ref (ad 1)]) (rest := []) (index := 140) (n := 1) C h (c_X3_run l D A ad cI cB _ ) gX5_best_X3_run rfl (by decide +kernel) rfl rfl ⟨Nat.le_of_ble_eq_true rfl, Nat.le_of_ble_eq_true rfl⟩ (ci := 3) rfl rfl (xc_17 ad cI cB _) (XW_D ad cI cB _) rfl rfl (Nat.le_of_ble_eq_true rfl) dX5_best_63 (pc2 := 66) rfl (fun u2 h => ?_)
    refine x_iload_n C dX5_best_66 1 rfl (pc2 := 67) rfl ?_
    refine x_iconst (v := (2 : Int32)) C dX5_best_67 (by decide) (pc2 := 68) rfl ?_
    refine x_icmp_ne C h dX5_best_68 (tgt := 79) (by decide) (pc2 := 71) rfl (fun h => ?_) (fun h => ?_)
    · refine x_aload_n C dX5_best_79 0 rfl (pc2 := 80) rfl ?_
      refine x_get C hiX5 0 (xc_0 ad cI cB _) rfl 3 (by decide) f33 (v := .ref (ad 17)) rfl dX5_best_80 (pc2 := 83) rfl ?_
      refine x_callVi (As := []) (rest := []) (index := 143) (n := 0) C h (c_X3_goes l D A ad cI cB _ ) gX5_best_X3_goes rfl (by decide +kernel) rfl rfl ⟨Nat.le_of_ble_eq_true rfl, Nat.le_of_ble_eq_true rfl⟩ (ci := 3) rfl rfl (xc_17 ad cI cB _) (XW_D ad cI cB _) rfl rfl (Nat.le_of_ble_eq_true rfl) dX5_best_83 (pc2 := 86) rfl (fun r3 u3 h => ?_)
      refine x_if_ne C h dX5_best_86 (tgt := 92) (by decide) (pc2 := 89) rfl (fun h => ?_) (fun h => ?_)
      · refine x_iload_n C dX5_best_92 1 rfl (pc2 := 93) rfl ?_
        by_cases q0 : x1 = (0 : Int32)
        · replace h := (if_pos q0).symm.trans h
          refine x_tabI C (0 : Int32) q0 dX5_best_93 (by decide) (by decide) (off := 31) (by decide) (tgt := 124) (by decide) ?_
          refine x_aload_n C dX5_best_124 0 rfl (pc2 := 125) rfl ?_
          refine x_get C hiX5 0 (xc_0 ad cI cB _) rfl 3 (by decide) f33 (v := .ref (ad 17)) rfl dX5_best_125 (pc2 := 128) rfl ?_
          refine x_callVi (As := []) (rest := []) (index := 147) (n := 0) C h (c_X3_fewestPages l D A ad cI cB _ ) gX5_best_X3_fewestPages rfl (by decide +kernel) rfl rfl ⟨Nat.le_of_ble_eq_true rfl, Nat.le_of_ble_eq_true rfl⟩ (ci := 3) rfl rfl (xc_17 ad cI cB _) (XW_D ad cI cB _) rfl rfl (Nat.le_of_ble_eq_true rfl) dX5_best_128 (pc2 := 131) rfl (fun r4 u4 h => ?_)
          exact x_iret C hr hlocks h dX5_best_131
        replace h := (if_neg q0).symm.trans h
        by_cases q1 : x1 = (1 : Int32)
        · replace h := (if_pos q1).symm.trans h
          refine x_tabI C (1 : Int32) q1 dX5_best_93 (by decide) (by decide) (off := 39) (by decide) (tgt := 132) (by decide) ?_
          refine x_aload_n C dX5_best_132 0 rfl (pc2 := 133) rfl ?_
          refine x_get C hiX5 0 (xc_0 ad cI cB _) rfl 3 (by decide) f33 (v := .ref (ad 17)) rfl dX5_best_133 (pc2 := 136) rfl ?_
          refine x_callVi (As := []) (rest := []) (index := 150) (n := 0) C h (c_X3_leastRagged l D A ad cI cB _ ) gX5_best_X3_leastRagged rfl (by decide +kernel) rfl rfl ⟨Nat.le_of_ble_eq_true rfl, Nat.le_of_ble_eq_true rfl⟩ (ci := 3) rfl rfl (xc_17 ad cI cB _) (XW_D ad cI cB _) rfl rfl (Nat.le_of_ble_eq_true rfl) dX5_best_136 (pc2 := 139) rfl (fun r5 u5 h => ?_)
          exact x_iret C hr hlocks h dX5_best_139
        replace h := (if_neg q1).symm.trans h
        by_cases q2 : x1 = (2 : Int32)
        · replace h := (if_pos q2).symm.trans h
          refine x_tabI C (2 : Int32) q2 dX5_best_93 (by decide) (by decide) (off := 55) (by decide) (tgt := 148) (by decide) ?_
          exact J148 _ _ h
        replace h := (if_neg q2).symm.trans h
        by_cases q3 : x1 = (3 : Int32)
        · replace h := (if_pos q3).symm.trans h
          refine x_tabI C (3 : Int32) q3 dX5_best_93 (by decide) (by decide) (off := 47) (by decide) (tgt := 140) (by decide) ?_
          refine x_aload_n C dX5_best_140 0 rfl (pc2 := 141) rfl ?_
          refine x_get C hiX5 0 (xc_0 ad cI cB _) rfl 3 (by decide) f33 (v := .ref (ad 17)) rfl dX5_best_141 (pc2 := 144) rfl ?_
          refine x_callVi (As := []) (rest := []) (index := 153) (n := 0) C h (c_X3_goesInFewest l D A ad cI cB _ ) gX5_best_X3_goesInFewest rfl (by decide +kernel) rfl rfl ⟨Nat.le_of_ble_eq_true rfl, Nat.le_of_ble_eq_true rfl⟩ (ci := 3) rfl rfl (xc_17 ad cI cB _) (XW_D ad cI cB _) rfl rfl (Nat.le_of_ble_eq_true rfl) dX5_best_144 (pc2 := 147) rfl (fun r6 u6 h => ?_)
          exact x_iret C hr hlocks h dX5_best_147
        replace h := (if_neg q3).symm.trans h
        have n0 := tab_ne q0
        have n1 := tab_ne q1
        have n2 := tab_ne q2
        have n3 := tab_ne q3
        refine x_tabO C dX5_best_93 (by rw [show ((0 : Int32)).toInt = 0 from rfl] at n0; rw [show ((1 : Int32)).toInt = 1 from rfl] at n1; rw [show ((2 : Int32)).toInt = 2 from rfl] at n2; rw [show ((3 : Int32)).toInt = 3 from rfl] at n3; omega) (tgt := 148) (by decide) ?_
        exact J148 _ _ h
      · refine x_bipush (v := (-6 : Int32)) C dX5_best_89 (by decide) (pc2 := 91) rfl ?_
        exact x_iret C hr hlocks h dX5_best_91
    · refine x_aload_n C dX5_best_71 0 rfl (pc2 := 72) rfl ?_
      refine x_get C hiX5 0 (xc_0 ad cI cB _) rfl 3 (by decide) f33 (v := .ref (ad 17)) rfl dX5_best_72 (pc2 := 75) rfl ?_
      refine x_callVi (As := []) (rest := []) (index := 143) (n := 0) C h (c_X3_goes l D A ad cI cB _ ) gX5_best_X3_goes rfl (by decide +kernel) rfl rfl ⟨Nat.le_of_ble_eq_true rfl, Nat.le_of_ble_eq_true rfl⟩ (ci := 3) rfl rfl (xc_17 ad cI cB _) (XW_D ad cI cB _) rfl rfl (Nat.le_of_ble_eq_true rfl) dX5_best_75 (pc2 := 78) rfl (fun r7 u7 h => ?_)
      exact x_iret C hr hlocks h dX5_best_78
  have J34 : ∀ (u : Mem) (x1 : Int32) (x2 : Int32), e_X5_best_J34 u x1 x2 = some (r, ur) → Wx p l e (headSpec wsX5_best { frames := 17, cells := 0, slots := 0, locals := 448 }).room s m args below meth c (MQ below (Qix D A (XW ad cI cB) r ur) args s 0 0 A) D A 3 (XW ad cI cB) u 34 [(0, .ref (ad 0)), (1, .int x1), (2, .int x2)] [] := by
    intro u x1 x2 h
    unfold e_X5_best_J34 at h
    refine x_iload_n C dX5_best_34 2 rfl (pc2 := 35) rfl ?_
    refine x_if_eq C h dX5_best_35 (tgt := 55) (by decide) (pc2 := 38) rfl (fun h => ?_) (fun h => ?_)
    · refine x_sub [0, 1] (lv2 := [(0, .ref (ad 0)), (1, .int x1)]) rfl ?_
      exact J55 _ _ h
    · refine x_aload_n C dX5_best_38 0 rfl (pc2 := 39) rfl ?_
      refine x_get C hiX5 0 (xc_0 ad cI cB _) rfl 0 (by decide) f10 (v := .ref (ad 1)) rfl dX5_best_39 (pc2 := 42) rfl ?_
      refine x_iload_n C dX5_best_42 1 rfl (pc2 := 43) rfl ?_
      refine x_bipush (v := (10 : Int32)) C dX5_best_43 (by decide) (pc2 := 45) rfl ?_
      refine x_isub C dX5_best_45 (pc2 := 46) rfl ?_
      refine x_callVi (As := [.int (x1 - (10 : Int32))]) (rest := []) (index := 72) (n := 1) C h (c_X0_has l D A ad cI cB _ _) gX5_best_X0_has rfl (by decide +kernel) rfl rfl ⟨Nat.le_of_ble_eq_true rfl, Nat.le_of_ble_eq_true rfl⟩ (ci := 0) rfl rfl (xc_1 ad cI cB _) (XW_D ad cI cB _) rfl rfl (Nat.le_of_ble_eq_true rfl) dX5_best_46 (pc2 := 49) rfl (fun r1 u1 h => ?_)
      refine x_if_ne C h dX5_best_49 (tgt := 55) (by decide) (pc2 := 52) rfl (fun h => ?_) (fun h => ?_)
      · refine x_sub [0, 1] (lv2 := [(0, .ref (ad 0)), (1, .int x1)]) rfl ?_
        exact J55 _ _ h
      · refine x_bipush (v := (-6 : Int32)) C dX5_best_52 (by decide) (pc2 := 54) rfl ?_
        exact x_iret C hr hlocks h dX5_best_54
  have J17 : ∀ (u : Mem) (x1 : Int32) (s0 : Int32), e_X5_best_J17 u x1 s0 = some (r, ur) → Wx p l e (headSpec wsX5_best { frames := 17, cells := 0, slots := 0, locals := 448 }).room s m args below meth c (MQ below (Qix D A (XW ad cI cB) r ur) args s 0 0 A) D A 3 (XW ad cI cB) u 17 [(0, .ref (ad 0)), (1, .int x1)] [.int s0] := by
    intro u x1 s0 h
    unfold e_X5_best_J17 at h
    refine x_istore_n C dX5_best_17 (by decide) (lv2 := [(2, .int s0), (0, .ref (ad 0)), (1, .int x1)]) rfl (pc2 := 18) rfl ?_
    refine x_iload_n C dX5_best_18 0 rfl (pc2 := 19) rfl ?_
    refine x_if_ne C h dX5_best_19 (tgt := 34) (by decide) (pc2 := 22) rfl (fun h => ?_) (fun h => ?_)
    · refine x_sub [1, 2, 0] (lv2 := [(0, .ref (ad 0)), (1, .int x1), (2, .int s0)]) rfl ?_
      exact J34 _ _ _ h
    · refine x_iload_n C dX5_best_22 2 rfl (pc2 := 23) rfl ?_
      refine x_if_lt C h dX5_best_23 (tgt := 31) (by decide) (pc2 := 26) rfl (fun h => ?_) (fun h => ?_)
      · refine x_bipush (v := (-2 : Int32)) C dX5_best_31 (by decide) (pc2 := 33) rfl ?_
        exact x_iret C hr hlocks h dX5_best_33
      · refine x_iload_n C dX5_best_26 2 rfl (pc2 := 27) rfl ?_
        refine x_iconst (v := (3 : Int32)) C dX5_best_27 (by decide) (pc2 := 28) rfl ?_
        refine x_icmp_le C h dX5_best_28 (tgt := 34) (by decide) (pc2 := 31) rfl (fun h => ?_) (fun h => ?_)
        · refine x_sub [1, 2, 0] (lv2 := [(0, .ref (ad 0)), (1, .int x1), (2, .int s0)]) rfl ?_
          exact J34 _ _ _ h
        · refine x_bipush (v := (-2 : Int32)) C dX5_best_31 (by decide) (pc2 := 33) rfl ?_
          exact x_iret C hr hlocks h dX5_best_33
  have J16 : ∀ (u : Mem) (x1 : Int32), e_X5_best_J16 u x1 = some (r, ur) → Wx p l e (headSpec wsX5_best { frames := 17, cells := 0, slots := 0, locals := 448 }).room s m args below meth c (MQ below (Qix D A (XW ad cI cB) r ur) args s 0 0 A) D A 3 (XW ad cI cB) u 16 [(0, .ref (ad 0)), (1, .int x1)] [] := by
    intro u x1 h
    unfold e_X5_best_J16 at h
    refine x_iconst (v := (0 : Int32)) C dX5_best_16 (by decide) (pc2 := 17) rfl ?_
    exact J17 _ _ _ h
  refine x_iload_n C dX5_best_0 1 rfl (pc2 := 1) rfl ?_
  refine x_bipush (v := (10 : Int32)) C dX5_best_1 (by decide) (pc2 := 3) rfl ?_
  refine x_icmp_lt C h dX5_best_3 (tgt := 16) (by decide) (pc2 := 6) rfl (fun h => ?_) (fun h => ?_)
  · exact J16 _ _ h
  · refine x_iload_n C dX5_best_6 1 rfl (pc2 := 7) rfl ?_
    refine x_bipush (v := (19 : Int32)) C dX5_best_7 (by decide) (pc2 := 9) rfl ?_
    refine x_icmp_ge C h dX5_best_9 (tgt := 16) (by decide) (pc2 := 12) rfl (fun h => ?_) (fun h => ?_)
    · exact J16 _ _ h
    · refine x_iconst (v := (1 : Int32)) C dX5_best_12 (by decide) (pc2 := 13) rfl ?_
      refine x_goto C dX5_best_13 (pc2 := 17) (by decide) ?_
      exact J17 _ _ _ h
set_option maxRecDepth 100000 in
set_option maxHeartbeats 4000000 in
theorem c_X5_lay (l : Launch) (D : va_G) (A : Nat → Prop) (ad : Nat → Nat) (cI cB : ClassId) (u : Mem)  : Cti l yX5_lay wsX5_lay { frames := 17, cells := 0, slots := 0, locals := 448 } D A (XW ad cI cB) [(cI, .int), (cB, .object "PanelPages$Book")] [.ref (ad 0)] u (e_X5_lay u ) := by
  intro r ur h
  refine Met.ofW (cc := cX5_lay) (maxL := 2) (ret := (some .int)) (by decide) rfl ?_
  intro p e s m args below meth c s₁ B hml hv
  obtain ⟨hav, hP, hK, hD⟩ := hv
  have C : Cx p m c cX5_lay 2 s args wsX5_lay RX5 D [(cI, .int), (cB, .object "PanelPages$Book")] := ⟨⟨B.exec, B.bytes, hml, findClass_of_methodNamed B.named, atoms_spec (ws := wsX5_lay) B.pre⟩, hK⟩
  have hr := B.returns
  have hlocks := B.notSynchronized
  have hiX0 : ∀ w ∈ wsX00, w ∈ wsX5_lay := by decide +kernel
  have hiX2 : ∀ w ∈ wsX20, w ∈ wsX5_lay := by decide +kernel
  have hiX5 : ∀ w ∈ wsX50, w ∈ wsX5_lay := by decide +kernel
  have f10 : Cond.fieldLink RX5 10 "PanelPages" "book" "LPanelPages$Book;" ∈ wsX5_lay := by decide +kernel
  have f19 : Cond.fieldLink RX5 19 "PanelPages" "pad" "LPanelPages$Pad;" ∈ wsX5_lay := by decide +kernel
  have f33 : Cond.fieldLink RX5 33 "PanelPages" "search" "LPanelPages$Search;" ∈ wsX5_lay := by decide +kernel
  have f56 : Cond.fieldLink RX5 56 "PanelPages$Book" "panels" "I" ∈ wsX5_lay := by decide +kernel
  have f93 : Cond.fieldLink RX5 93 "PanelPages$Pad" "size" "I" ∈ wsX5_lay := by decide +kernel
  refine x_entry2 (lv := [(0, .ref (ad 0))]) hav hP hD (Nat.le_of_ble_eq_true rfl) rfl ?_
  unfold e_X5_lay at h
  have J34 : ∀ (f : Nat) (u : Mem) (x1 : Int32), e_X5_lay_L34 f u x1 = some (r, ur) → Wx p l e (headSpec wsX5_lay { frames := 17, cells := 0, slots := 0, locals := 448 }).room s m args below meth c (MQ below (Qix D A (XW ad cI cB) r ur) args s 0 0 A) D A 2 (XW ad cI cB) u 34 [(0, .ref (ad 0)), (1, .int x1)] [] := by
    intro f
    induction f with
    | zero => intro u x1 h; cases h
    | succ f ih =>
      intro u x1 h
      replace h : e_X5_lay_L34_b (e_X5_lay_L34 f) u x1 = some (r, ur) := h
      unfold e_X5_lay_L34_b at h
      refine x_iload_n C dX5_lay_34 1 rfl (pc2 := 35) rfl ?_
      refine x_aload_n C dX5_lay_35 0 rfl (pc2 := 36) rfl ?_
      refine x_get C hiX5 0 (xc_0 ad cI cB _) rfl 0 (by decide) f10 (v := .ref (ad 1)) rfl dX5_lay_36 (pc2 := 39) rfl ?_
      refine x_get C hiX0 1 (xc_1 ad cI cB _) rfl 0 (by decide) f56 (v := .int (u 1 0)) rfl dX5_lay_39 (pc2 := 42) rfl ?_
      refine x_icmp_ge C h dX5_lay_42 (tgt := 73) (by decide) (pc2 := 45) rfl (fun h => ?_) (fun h => ?_)
      · refine x_aload_n C dX5_lay_73 0 rfl (pc2 := 74) rfl ?_
        refine x_get C hiX5 0 (xc_0 ad cI cB _) rfl 1 (by decide) f19 (v := .ref (ad 7)) rfl dX5_lay_74 (pc2 := 77) rfl ?_
        refine x_get C hiX2 7 (xc_7 ad cI cB _) rfl 0 (by decide) f93 (v := .int (u 7 0)) rfl dX5_lay_77 (pc2 := 80) rfl ?_
        exact x_iret C hr hlocks h dX5_lay_80
      · refine x_aload_n C dX5_lay_45 0 rfl (pc2 := 46) rfl ?_
        refine x_get C hiX5 0 (xc_0 ad cI cB _) rfl 1 (by decide) f19 (v := .ref (ad 7)) rfl dX5_lay_46 (pc2 := 49) rfl ?_
        refine x_bipush (v := (48 : Int32)) C dX5_lay_49 (by decide) (pc2 := 51) rfl ?_
        refine x_aload_n C dX5_lay_51 0 rfl (pc2 := 52) rfl ?_
        refine x_get C hiX5 0 (xc_0 ad cI cB _) rfl 3 (by decide) f33 (v := .ref (ad 17)) rfl dX5_lay_52 (pc2 := 55) rfl ?_
        refine x_aload_n C dX5_lay_55 0 rfl (pc2 := 56) rfl ?_
        refine x_get C hiX5 0 (xc_0 ad cI cB _) rfl 0 (by decide) f10 (v := .ref (ad 1)) rfl dX5_lay_56 (pc2 := 59) rfl ?_
        refine x_iload_n C dX5_lay_59 1 rfl (pc2 := 60) rfl ?_
        refine x_callVi (As := [.ref (ad 1), .int x1]) (rest := [.int (48 : Int32), .ref (ad 7)]) (index := 156) (n := 2) C h (c_X3_figure l D A ad cI cB _ _) gX5_lay_X3_figure rfl (by decide +kernel) rfl rfl ⟨Nat.le_of_ble_eq_true rfl, Nat.le_of_ble_eq_true rfl⟩ (ci := 3) rfl rfl (xc_17 ad cI cB _) (XW_D ad cI cB _) rfl rfl (Nat.le_of_ble_eq_true rfl) dX5_lay_60 (pc2 := 63) rfl (fun r3 u3 h => ?_)
        refine x_iadd C dX5_lay_63 (pc2 := 64) rfl ?_
        refine x_callVv (As := [.int ((48 : Int32) + r3)]) (rest := []) (index := 96) (n := 1) C h (c_X2_add l D A ad cI cB _ _) gX5_lay_X2_add rfl (by decide +kernel) rfl rfl ⟨Nat.le_of_ble_eq_true rfl, Nat.le_of_ble_eq_true rfl⟩ (ci := 2) rfl rfl (xc_7 ad cI cB _) (XW_D ad cI cB _) rfl rfl (Nat.le_of_ble_eq_true rfl) dX5_lay_64 (pc2 := 67) rfl (fun u4 h => ?_)
        refine x_iinc C dX5_lay_67 1 rfl (1 : Int32) (by decide) rfl (by decide) (lv2 := [(1, .int (x1 + (1 : Int32))), (0, .ref (ad 0))]) rfl (pc2 := 70) rfl ?_
        refine x_goto C dX5_lay_70 (pc2 := 34) (by decide) ?_
        refine x_sub [1, 0] (lv2 := [(0, .ref (ad 0)), (1, .int (x1 + (1 : Int32)))]) rfl ?_
        exact ih _ _ h
  refine x_aload_n C dX5_lay_0 0 rfl (pc2 := 1) rfl ?_
  refine x_get C hiX5 0 (xc_0 ad cI cB _) rfl 3 (by decide) f33 (v := .ref (ad 17)) rfl dX5_lay_1 (pc2 := 4) rfl ?_
  refine x_aload_n C dX5_lay_4 0 rfl (pc2 := 5) rfl ?_
  refine x_get C hiX5 0 (xc_0 ad cI cB _) rfl 0 (by decide) f10 (v := .ref (ad 1)) rfl dX5_lay_5 (pc2 := 8) rfl ?_
  refine x_callVv (As := [.ref (ad 1)]) (rest := []) (index := 140) (n := 1) C h (c_X3_run l D A ad cI cB _ ) gX5_lay_X3_run rfl (by decide +kernel) rfl rfl ⟨Nat.le_of_ble_eq_true rfl, Nat.le_of_ble_eq_true rfl⟩ (ci := 3) rfl rfl (xc_17 ad cI cB _) (XW_D ad cI cB _) rfl rfl (Nat.le_of_ble_eq_true rfl) dX5_lay_8 (pc2 := 11) rfl (fun u1 h => ?_)
  refine x_aload_n C dX5_lay_11 0 rfl (pc2 := 12) rfl ?_
  refine x_get C hiX5 0 (xc_0 ad cI cB _) rfl 3 (by decide) f33 (v := .ref (ad 17)) rfl dX5_lay_12 (pc2 := 15) rfl ?_
  refine x_callVi (As := []) (rest := []) (index := 143) (n := 0) C h (c_X3_goes l D A ad cI cB _ ) gX5_lay_X3_goes rfl (by decide +kernel) rfl rfl ⟨Nat.le_of_ble_eq_true rfl, Nat.le_of_ble_eq_true rfl⟩ (ci := 3) rfl rfl (xc_17 ad cI cB _) (XW_D ad cI cB _) rfl rfl (Nat.le_of_ble_eq_true rfl) dX5_lay_15 (pc2 := 18) rfl (fun r2 u2 h => ?_)
  refine x_if_ne C h dX5_lay_18 (tgt := 24) (by decide) (pc2 := 21) rfl (fun h => ?_) (fun h => ?_)
  · refine x_aload_n C dX5_lay_24 0 rfl (pc2 := 25) rfl ?_
    refine x_get C hiX5 0 (xc_0 ad cI cB _) rfl 1 (by decide) f19 (v := .ref (ad 7)) rfl dX5_lay_25 (pc2 := 28) rfl ?_
    refine x_iconst (v := (0 : Int32)) C dX5_lay_28 (by decide) (pc2 := 29) rfl ?_
    refine x_put C hiX2 tyX2 tyX2_ok nmX2 7 (xc_7 ad cI cB _) rfl 0 (by decide) f93 rfl rfl (Nat.le_of_ble_eq_true rfl) (u2 := (put u2 7 0 (0 : Int32))) (xs_7_0 ad cI cB _ _) dX5_lay_29 (pc2 := 32) rfl ?_
    refine x_iconst (v := (0 : Int32)) C dX5_lay_32 (by decide) (pc2 := 33) rfl ?_
    refine x_istore_n C dX5_lay_33 (by decide) (lv2 := [(1, .int (0 : Int32)), (0, .ref (ad 0))]) rfl (pc2 := 34) rfl ?_
    refine x_sub [1, 0] (lv2 := [(0, .ref (ad 0)), (1, .int (0 : Int32))]) rfl ?_
    exact J34 FU _ _ h
  · refine x_bipush (v := (-5 : Int32)) C dX5_lay_21 (by decide) (pc2 := 23) rfl ?_
    exact x_iret C hr hlocks h dX5_lay_23
set_option maxRecDepth 100000 in
set_option maxHeartbeats 4000000 in
theorem c_X5_talk (l : Launch) (D : va_G) (A : Nat → Prop) (ad : Nat → Nat) (cI cB : ClassId) (u : Mem) (x1 : Int32) : Cti l yX5_talk wsX5_talk { frames := 3, cells := 0, slots := 0, locals := 65 } D A (XW ad cI cB) [(cI, .int), (cB, .object "PanelPages$Book")] [.ref (ad 0), .int x1] u (e_X5_talk u x1) := by
  intro r ur h
  refine Met.ofW (cc := cX5_talk) (maxL := 4) (ret := (some .int)) (by decide) rfl ?_
  intro p e s m args below meth c s₁ B hml hv
  obtain ⟨hav, hP, hK, hD⟩ := hv
  have C : Cx p m c cX5_talk 4 s args wsX5_talk RX5 D [(cI, .int), (cB, .object "PanelPages$Book")] := ⟨⟨B.exec, B.bytes, hml, findClass_of_methodNamed B.named, atoms_spec (ws := wsX5_talk) B.pre⟩, hK⟩
  have hr := B.returns
  have hlocks := B.notSynchronized
  have hiX0 : ∀ w ∈ wsX00, w ∈ wsX5_talk := by decide +kernel
  have hiX2 : ∀ w ∈ wsX20, w ∈ wsX5_talk := by decide +kernel
  have hiX5 : ∀ w ∈ wsX50, w ∈ wsX5_talk := by decide +kernel
  have f10 : Cond.fieldLink RX5 10 "PanelPages" "book" "LPanelPages$Book;" ∈ wsX5_talk := by decide +kernel
  have f162 : Cond.fieldLink RX5 162 "PanelPages$Book" "speakers" "[I" ∈ wsX5_talk := by decide +kernel
  have f19 : Cond.fieldLink RX5 19 "PanelPages" "pad" "LPanelPages$Pad;" ∈ wsX5_talk := by decide +kernel
  have f69 : Cond.fieldLink RX5 69 "PanelPages$Book" "balloons" "[I" ∈ wsX5_talk := by decide +kernel
  have f93 : Cond.fieldLink RX5 93 "PanelPages$Pad" "size" "I" ∈ wsX5_talk := by decide +kernel
  refine x_entry2 (lv := [(0, .ref (ad 0)), (1, .int x1)]) hav hP hD (Nat.le_of_ble_eq_true rfl) rfl ?_
  unfold e_X5_talk at h
  have J48 : ∀ (f : Nat) (u : Mem) (x1 : Int32) (x2 : Int32) (x3 : Int32), e_X5_talk_L48 f u x1 x2 x3 = some (r, ur) → Wx p l e (headSpec wsX5_talk { frames := 3, cells := 0, slots := 0, locals := 65 }).room s m args below meth c (MQ below (Qix D A (XW ad cI cB) r ur) args s 0 0 A) D A 4 (XW ad cI cB) u 48 [(0, .ref (ad 0)), (1, .int x1), (2, .int x2), (3, .int x3)] [] := by
    intro f
    induction f with
    | zero => intro u x1 x2 x3 h; cases h
    | succ f ih =>
      intro u x1 x2 x3 h
      replace h : e_X5_talk_L48_b (e_X5_talk_L48 f) u x1 x2 x3 = some (r, ur) := h
      unfold e_X5_talk_L48_b at h
      refine x_iload_n C dX5_talk_48 3 rfl (pc2 := 49) rfl ?_
      refine x_iload_n C dX5_talk_49 2 rfl (pc2 := 50) rfl ?_
      refine x_icmp_ge C h dX5_talk_50 (tgt := 80) (by decide) (pc2 := 53) rfl (fun h => ?_) (fun h => ?_)
      · refine x_aload_n C dX5_talk_80 0 rfl (pc2 := 81) rfl ?_
        refine x_get C hiX5 0 (xc_0 ad cI cB _) rfl 0 (by decide) f10 (v := .ref (ad 1)) rfl dX5_talk_81 (pc2 := 84) rfl ?_
        refine x_get C hiX0 1 (xc_1 ad cI cB _) rfl 5 (by decide) f69 (v := .ref (ad 5)) rfl dX5_talk_84 (pc2 := 87) rfl ?_
        refine x_iload_n C dX5_talk_87 1 rfl (pc2 := 88) rfl ?_
        refine x_iload_n C dX5_talk_88 2 rfl (pc2 := 89) rfl ?_
        refine x_iast C h 5 0 (xc_5 ad cI cB _) rfl (u2 := (put u 5 (x1).toNatClampNeg x2)) (xs_5 ad cI cB _ _ _) dX5_talk_89 (pc2 := 90) rfl (fun h => ?_)
        refine x_aload_n C dX5_talk_90 0 rfl (pc2 := 91) rfl ?_
        refine x_get C hiX5 0 (xc_0 ad cI cB _) rfl 1 (by decide) f19 (v := .ref (ad 7)) rfl dX5_talk_91 (pc2 := 94) rfl ?_
        refine x_iconst (v := (0 : Int32)) C dX5_talk_94 (by decide) (pc2 := 95) rfl ?_
        refine x_put C hiX2 tyX2 tyX2_ok nmX2 7 (xc_7 ad cI cB _) rfl 0 (by decide) f93 rfl rfl (Nat.le_of_ble_eq_true rfl) (u2 := (put (put u 5 (x1).toNatClampNeg x2) 7 0 (0 : Int32))) (xs_7_0 ad cI cB _ _) dX5_talk_95 (pc2 := 98) rfl ?_
        refine x_iload_n C dX5_talk_98 2 rfl (pc2 := 99) rfl ?_
        exact x_iret C hr hlocks h dX5_talk_99
      · refine x_aload_n C dX5_talk_53 0 rfl (pc2 := 54) rfl ?_
        refine x_get C hiX5 0 (xc_0 ad cI cB _) rfl 0 (by decide) f10 (v := .ref (ad 1)) rfl dX5_talk_54 (pc2 := 57) rfl ?_
        refine x_get C hiX0 1 (xc_1 ad cI cB _) rfl 6 (by decide) f162 (v := .ref (ad 6)) rfl dX5_talk_57 (pc2 := 60) rfl ?_
        refine x_iload_n C dX5_talk_60 1 rfl (pc2 := 61) rfl ?_
        refine x_iconst (v := (4 : Int32)) C dX5_talk_61 (by decide) (pc2 := 62) rfl ?_
        refine x_imul C dX5_talk_62 (pc2 := 63) rfl ?_
        refine x_iload_n C dX5_talk_63 3 rfl (pc2 := 64) rfl ?_
        refine x_iadd C dX5_talk_64 (pc2 := 65) rfl ?_
        refine x_aload_n C dX5_talk_65 0 rfl (pc2 := 66) rfl ?_
        refine x_get C hiX5 0 (xc_0 ad cI cB _) rfl 1 (by decide) f19 (v := .ref (ad 7)) rfl dX5_talk_66 (pc2 := 69) rfl ?_
        refine x_iload_n C dX5_talk_69 3 rfl (pc2 := 70) rfl ?_
        refine x_callVi (As := [.int x3]) (rest := [.int ((x1 * (4 : Int32)) + x3), .ref (ad 6)]) (index := 165) (n := 1) C h (c_X2_figure l D A ad cI cB _ _) gX5_talk_X2_figure rfl (by decide +kernel) rfl rfl ⟨Nat.le_of_ble_eq_true rfl, Nat.le_of_ble_eq_true rfl⟩ (ci := 2) rfl rfl (xc_7 ad cI cB _) (XW_D ad cI cB _) rfl rfl (Nat.le_of_ble_eq_true rfl) dX5_talk_70 (pc2 := 73) rfl (fun r3 u3 h => ?_)
        refine x_iast C h 6 0 (xc_6 ad cI cB _) rfl (u2 := (put u3 6 (((x1 * (4 : Int32)) + x3)).toNatClampNeg r3)) (xs_6 ad cI cB _ _ _) dX5_talk_73 (pc2 := 74) rfl (fun h => ?_)
        refine x_iinc C dX5_talk_74 3 rfl (1 : Int32) (by decide) rfl (by decide) (lv2 := [(3, .int (x3 + (1 : Int32))), (0, .ref (ad 0)), (1, .int x1), (2, .int x2)]) rfl (pc2 := 77) rfl ?_
        refine x_goto C dX5_talk_77 (pc2 := 48) (by decide) ?_
        refine x_sub [1, 2, 3, 0] (lv2 := [(0, .ref (ad 0)), (1, .int x1), (2, .int x2), (3, .int (x3 + (1 : Int32)))]) rfl ?_
        exact ih _ _ _ _ h
  refine x_aload_n C dX5_talk_0 0 rfl (pc2 := 1) rfl ?_
  refine x_get C hiX5 0 (xc_0 ad cI cB _) rfl 0 (by decide) f10 (v := .ref (ad 1)) rfl dX5_talk_1 (pc2 := 4) rfl ?_
  refine x_iload_n C dX5_talk_4 1 rfl (pc2 := 5) rfl ?_
  refine x_callVi (As := [.int x1]) (rest := []) (index := 72) (n := 1) C h (c_X0_has l D A ad cI cB _ _) gX5_talk_X0_has rfl (by decide +kernel) rfl rfl ⟨Nat.le_of_ble_eq_true rfl, Nat.le_of_ble_eq_true rfl⟩ (ci := 0) rfl rfl (xc_1 ad cI cB _) (XW_D ad cI cB _) rfl rfl (Nat.le_of_ble_eq_true rfl) dX5_talk_5 (pc2 := 8) rfl (fun r1 u1 h => ?_)
  refine x_if_ne C h dX5_talk_8 (tgt := 13) (by decide) (pc2 := 11) rfl (fun h => ?_) (fun h => ?_)
  · refine x_aload_n C dX5_talk_13 0 rfl (pc2 := 14) rfl ?_
    refine x_get C hiX5 0 (xc_0 ad cI cB _) rfl 1 (by decide) f19 (v := .ref (ad 7)) rfl dX5_talk_14 (pc2 := 17) rfl ?_
    refine x_get C hiX2 7 (xc_7 ad cI cB _) rfl 0 (by decide) f93 (v := .int (u1 7 0)) rfl dX5_talk_17 (pc2 := 20) rfl ?_
    refine x_iconst (v := (4 : Int32)) C dX5_talk_20 (by decide) (pc2 := 21) rfl ?_
    refine x_icmp_gt C h dX5_talk_21 (tgt := 35) (by decide) (pc2 := 24) rfl (fun h => ?_) (fun h => ?_)
    · refine x_bipush (v := (-7 : Int32)) C dX5_talk_35 (by decide) (pc2 := 37) rfl ?_
      exact x_iret C hr hlocks h dX5_talk_37
    · refine x_aload_n C dX5_talk_24 0 rfl (pc2 := 25) rfl ?_
      refine x_get C hiX5 0 (xc_0 ad cI cB _) rfl 1 (by decide) f19 (v := .ref (ad 7)) rfl dX5_talk_25 (pc2 := 28) rfl ?_
      refine x_iconst (v := (3 : Int32)) C dX5_talk_28 (by decide) (pc2 := 29) rfl ?_
      refine x_callVi (As := [.int (3 : Int32)]) (rest := []) (index := 159) (n := 1) C h (c_X2_hasOnlyFigures l D A ad cI cB _ _) gX5_talk_X2_hasOnlyFigures rfl (by decide +kernel) rfl rfl ⟨Nat.le_of_ble_eq_true rfl, Nat.le_of_ble_eq_true rfl⟩ (ci := 2) rfl rfl (xc_7 ad cI cB _) (XW_D ad cI cB _) rfl rfl (Nat.le_of_ble_eq_true rfl) dX5_talk_29 (pc2 := 32) rfl (fun r2 u2 h => ?_)
      refine x_if_ne C h dX5_talk_32 (tgt := 38) (by decide) (pc2 := 35) rfl (fun h => ?_) (fun h => ?_)
      · refine x_aload_n C dX5_talk_38 0 rfl (pc2 := 39) rfl ?_
        refine x_get C hiX5 0 (xc_0 ad cI cB _) rfl 1 (by decide) f19 (v := .ref (ad 7)) rfl dX5_talk_39 (pc2 := 42) rfl ?_
        refine x_get C hiX2 7 (xc_7 ad cI cB _) rfl 0 (by decide) f93 (v := .int (u2 7 0)) rfl dX5_talk_42 (pc2 := 45) rfl ?_
        refine x_istore_n C dX5_talk_45 (by decide) (lv2 := [(2, .int (u2 7 0)), (0, .ref (ad 0)), (1, .int x1)]) rfl (pc2 := 46) rfl ?_
        refine x_iconst (v := (0 : Int32)) C dX5_talk_46 (by decide) (pc2 := 47) rfl ?_
        refine x_istore_n C dX5_talk_47 (by decide) (lv2 := [(3, .int (0 : Int32)), (2, .int (u2 7 0)), (0, .ref (ad 0)), (1, .int x1)]) rfl (pc2 := 48) rfl ?_
        refine x_sub [2, 3, 1, 0] (lv2 := [(0, .ref (ad 0)), (1, .int x1), (2, .int (u2 7 0)), (3, .int (0 : Int32))]) rfl ?_
        exact J48 FU _ _ _ _ h
      · refine x_bipush (v := (-7 : Int32)) C dX5_talk_35 (by decide) (pc2 := 37) rfl ?_
        exact x_iret C hr hlocks h dX5_talk_37
  · refine x_iconst (v := (-1 : Int32)) C dX5_talk_11 (by decide) (pc2 := 12) rfl ?_
    exact x_iret C hr hlocks h dX5_talk_12
set_option maxRecDepth 100000 in
set_option maxHeartbeats 4000000 in
theorem c_X5_speaker (l : Launch) (D : va_G) (A : Nat → Prop) (ad : Nat → Nat) (cI cB : ClassId) (u : Mem) (x1 : Int32) (x2 : Int32) : Cti l yX5_speaker wsX5_speaker { frames := 1, cells := 0, slots := 0, locals := 22 } D A (XW ad cI cB) [(cI, .int), (cB, .object "PanelPages$Book")] [.ref (ad 0), .int x1, .int x2] u (e_X5_speaker u x1 x2) := by
  intro r ur h
  refine Met.ofW (cc := cX5_speaker) (maxL := 3) (ret := (some .int)) (by decide) rfl ?_
  intro p e s m args below meth c s₁ B hml hv
  obtain ⟨hav, hP, hK, hD⟩ := hv
  have C : Cx p m c cX5_speaker 3 s args wsX5_speaker RX5 D [(cI, .int), (cB, .object "PanelPages$Book")] := ⟨⟨B.exec, B.bytes, hml, findClass_of_methodNamed B.named, atoms_spec (ws := wsX5_speaker) B.pre⟩, hK⟩
  have hr := B.returns
  have hlocks := B.notSynchronized
  have hiX0 : ∀ w ∈ wsX00, w ∈ wsX5_speaker := by decide +kernel
  have hiX5 : ∀ w ∈ wsX50, w ∈ wsX5_speaker := by decide +kernel
  have f10 : Cond.fieldLink RX5 10 "PanelPages" "book" "LPanelPages$Book;" ∈ wsX5_speaker := by decide +kernel
  have f69 : Cond.fieldLink RX5 69 "PanelPages$Book" "balloons" "[I" ∈ wsX5_speaker := by decide +kernel
  refine x_entry2 (lv := [(0, .ref (ad 0)), (1, .int x1), (2, .int x2)]) hav hP hD (Nat.le_of_ble_eq_true rfl) rfl ?_
  unfold e_X5_speaker at h
  refine x_aload_n C dX5_speaker_0 0 rfl (pc2 := 1) rfl ?_
  refine x_get C hiX5 0 (xc_0 ad cI cB _) rfl 0 (by decide) f10 (v := .ref (ad 1)) rfl dX5_speaker_1 (pc2 := 4) rfl ?_
  refine x_iload_n C dX5_speaker_4 1 rfl (pc2 := 5) rfl ?_
  refine x_callVi (As := [.int x1]) (rest := []) (index := 72) (n := 1) C h (c_X0_has l D A ad cI cB _ _) gX5_speaker_X0_has rfl (by decide +kernel) rfl rfl ⟨Nat.le_of_ble_eq_true rfl, Nat.le_of_ble_eq_true rfl⟩ (ci := 0) rfl rfl (xc_1 ad cI cB _) (XW_D ad cI cB _) rfl rfl (Nat.le_of_ble_eq_true rfl) dX5_speaker_5 (pc2 := 8) rfl (fun r1 u1 h => ?_)
  refine x_if_ne C h dX5_speaker_8 (tgt := 13) (by decide) (pc2 := 11) rfl (fun h => ?_) (fun h => ?_)
  · refine x_iload_n C dX5_speaker_13 2 rfl (pc2 := 14) rfl ?_
    refine x_if_lt C h dX5_speaker_14 (tgt := 30) (by decide) (pc2 := 17) rfl (fun h => ?_) (fun h => ?_)
    · refine x_bipush (v := (-6 : Int32)) C dX5_speaker_30 (by decide) (pc2 := 32) rfl ?_
      exact x_iret C hr hlocks h dX5_speaker_32
    · refine x_iload_n C dX5_speaker_17 2 rfl (pc2 := 18) rfl ?_
      refine x_aload_n C dX5_speaker_18 0 rfl (pc2 := 19) rfl ?_
      refine x_get C hiX5 0 (xc_0 ad cI cB _) rfl 0 (by decide) f10 (v := .ref (ad 1)) rfl dX5_speaker_19 (pc2 := 22) rfl ?_
      refine x_get C hiX0 1 (xc_1 ad cI cB _) rfl 5 (by decide) f69 (v := .ref (ad 5)) rfl dX5_speaker_22 (pc2 := 25) rfl ?_
      refine x_iload_n C dX5_speaker_25 1 rfl (pc2 := 26) rfl ?_
      refine x_iald C h 5 0 (xc_5 ad cI cB _) rfl dX5_speaker_26 (pc2 := 27) rfl (fun h => ?_)
      refine x_icmp_lt C h dX5_speaker_27 (tgt := 33) (by decide) (pc2 := 30) rfl (fun h => ?_) (fun h => ?_)
      · refine x_aload_n C dX5_speaker_33 0 rfl (pc2 := 34) rfl ?_
        refine x_get C hiX5 0 (xc_0 ad cI cB _) rfl 0 (by decide) f10 (v := .ref (ad 1)) rfl dX5_speaker_34 (pc2 := 37) rfl ?_
        refine x_iload_n C dX5_speaker_37 1 rfl (pc2 := 38) rfl ?_
        refine x_iload_n C dX5_speaker_38 2 rfl (pc2 := 39) rfl ?_
        refine x_callVi (As := [.int x1, .int x2]) (rest := []) (index := 168) (n := 2) C h (c_X0_speakerColumn l D A ad cI cB _ _ _) gX5_speaker_X0_speakerColumn rfl (by decide +kernel) rfl rfl ⟨Nat.le_of_ble_eq_true rfl, Nat.le_of_ble_eq_true rfl⟩ (ci := 0) rfl rfl (xc_1 ad cI cB _) (XW_D ad cI cB _) rfl rfl (Nat.le_of_ble_eq_true rfl) dX5_speaker_39 (pc2 := 42) rfl (fun r2 u2 h => ?_)
        exact x_iret C hr hlocks h dX5_speaker_42
      · refine x_bipush (v := (-6 : Int32)) C dX5_speaker_30 (by decide) (pc2 := 32) rfl ?_
        exact x_iret C hr hlocks h dX5_speaker_32
  · refine x_iconst (v := (-1 : Int32)) C dX5_speaker_11 (by decide) (pc2 := 12) rfl ?_
    exact x_iret C hr hlocks h dX5_speaker_12
set_option maxRecDepth 100000 in
set_option maxHeartbeats 4000000 in
theorem c_X5_good (l : Launch) (D : va_G) (A : Nat → Prop) (ad : Nat → Nat) (cI cB : ClassId) (u : Mem) (x1 : Int32) (x2 : Int32) : Cti l yX5_good wsX5_good { frames := 16, cells := 0, slots := 0, locals := 416 } D A (XW ad cI cB) [(cI, .int), (cB, .object "PanelPages$Book")] [.ref (ad 0), .int x1, .int x2] u (e_X5_good u x1 x2) := by
  intro r ur h
  refine Met.ofW (cc := cX5_good) (maxL := 4) (ret := (some .int)) (by decide) rfl ?_
  intro p e s m args below meth c s₁ B hml hv
  obtain ⟨hav, hP, hK, hD⟩ := hv
  have C : Cx p m c cX5_good 4 s args wsX5_good RX5 D [(cI, .int), (cB, .object "PanelPages$Book")] := ⟨⟨B.exec, B.bytes, hml, findClass_of_methodNamed B.named, atoms_spec (ws := wsX5_good) B.pre⟩, hK⟩
  have hr := B.returns
  have hlocks := B.notSynchronized
  have hiX0 : ∀ w ∈ wsX00, w ∈ wsX5_good := by decide +kernel
  have hiX4 : ∀ w ∈ wsX40, w ∈ wsX5_good := by decide +kernel
  have hiX5 : ∀ w ∈ wsX50, w ∈ wsX5_good := by decide +kernel
  have f10 : Cond.fieldLink RX5 10 "PanelPages" "book" "LPanelPages$Book;" ∈ wsX5_good := by decide +kernel
  have f175 : Cond.fieldLink RX5 175 "PanelPages$Setting" "found" "I" ∈ wsX5_good := by decide +kernel
  have f178 : Cond.fieldLink RX5 178 "PanelPages$Setting" "leastDeep" "I" ∈ wsX5_good := by decide +kernel
  have f181 : Cond.fieldLink RX5 181 "PanelPages$Setting" "foundLeastDeep" "I" ∈ wsX5_good := by decide +kernel
  have f184 : Cond.fieldLink RX5 184 "PanelPages$Setting" "first" "[I" ∈ wsX5_good := by decide +kernel
  have f40 : Cond.fieldLink RX5 40 "PanelPages" "setting" "LPanelPages$Setting;" ∈ wsX5_good := by decide +kernel
  have f69 : Cond.fieldLink RX5 69 "PanelPages$Book" "balloons" "[I" ∈ wsX5_good := by decide +kernel
  refine x_entry2 (lv := [(0, .ref (ad 0)), (1, .int x1), (2, .int x2)]) hav hP hD (Nat.le_of_ble_eq_true rfl) rfl ?_
  unfold e_X5_good at h
  have J70 : ∀ (u : Mem) (x1 : Int32) (x2 : Int32), e_X5_good_J70 u x1 x2 = some (r, ur) → Wx p l e (headSpec wsX5_good { frames := 16, cells := 0, slots := 0, locals := 416 }).room s m args below meth c (MQ below (Qix D A (XW ad cI cB) r ur) args s 0 0 A) D A 4 (XW ad cI cB) u 70 [(0, .ref (ad 0)), (1, .int x1), (2, .int x2)] [] := by
    intro u x1 x2 h
    unfold e_X5_good_J70 at h
    refine x_aload_n C dX5_good_70 0 rfl (pc2 := 71) rfl ?_
    refine x_get C hiX5 0 (xc_0 ad cI cB _) rfl 4 (by decide) f40 (v := .ref (ad 31)) rfl dX5_good_71 (pc2 := 74) rfl ?_
    refine x_aload_n C dX5_good_74 0 rfl (pc2 := 75) rfl ?_
    refine x_get C hiX5 0 (xc_0 ad cI cB _) rfl 0 (by decide) f10 (v := .ref (ad 1)) rfl dX5_good_75 (pc2 := 78) rfl ?_
    refine x_iload_n C dX5_good_78 1 rfl (pc2 := 79) rfl ?_
    refine x_callVv (As := [.ref (ad 1), .int x1]) (rest := []) (index := 171) (n := 2) C h (c_X4_findGood l D A ad cI cB _ _) gX5_good_X4_findGood rfl (by decide +kernel) rfl rfl ⟨Nat.le_of_ble_eq_true rfl, Nat.le_of_ble_eq_true rfl⟩ (ci := 4) rfl rfl (xc_31 ad cI cB _) (XW_D ad cI cB _) rfl rfl (Nat.le_of_ble_eq_true rfl) dX5_good_79 (pc2 := 82) rfl (fun u2 h => ?_)
    refine x_iload_n C dX5_good_82 2 rfl (pc2 := 83) rfl ?_
    refine x_if_ne C h dX5_good_83 (tgt := 94) (by decide) (pc2 := 86) rfl (fun h => ?_) (fun h => ?_)
    · refine x_aload_n C dX5_good_94 0 rfl (pc2 := 95) rfl ?_
      refine x_get C hiX5 0 (xc_0 ad cI cB _) rfl 4 (by decide) f40 (v := .ref (ad 31)) rfl dX5_good_95 (pc2 := 98) rfl ?_
      refine x_get C hiX4 31 (xc_31 ad cI cB _) rfl 2 (by decide) f175 (v := .int (u2 31 2)) rfl dX5_good_98 (pc2 := 101) rfl ?_
      refine x_if_ne C h dX5_good_101 (tgt := 107) (by decide) (pc2 := 104) rfl (fun h => ?_) (fun h => ?_)
      · refine x_iload_n C dX5_good_107 2 rfl (pc2 := 108) rfl ?_
        refine x_iconst (v := (1 : Int32)) C dX5_good_108 (by decide) (pc2 := 109) rfl ?_
        refine x_icmp_ne C h dX5_good_109 (tgt := 120) (by decide) (pc2 := 112) rfl (fun h => ?_) (fun h => ?_)
        · refine x_iload_n C dX5_good_120 2 rfl (pc2 := 121) rfl ?_
          refine x_iconst (v := (2 : Int32)) C dX5_good_121 (by decide) (pc2 := 122) rfl ?_
          refine x_icmp_ne C h dX5_good_122 (tgt := 135) (by decide) (pc2 := 125) rfl (fun h => ?_) (fun h => ?_)
          · refine x_aload_n C dX5_good_135 0 rfl (pc2 := 136) rfl ?_
            refine x_get C hiX5 0 (xc_0 ad cI cB _) rfl 4 (by decide) f40 (v := .ref (ad 31)) rfl dX5_good_136 (pc2 := 139) rfl ?_
            refine x_get C hiX4 31 (xc_31 ad cI cB _) rfl 1 (by decide) f184 (v := .ref (ad 33)) rfl dX5_good_139 (pc2 := 142) rfl ?_
            refine x_iload_n C dX5_good_142 2 rfl (pc2 := 143) rfl ?_
            refine x_bipush (v := (10 : Int32)) C dX5_good_143 (by decide) (pc2 := 145) rfl ?_
            refine x_isub C dX5_good_145 (pc2 := 146) rfl ?_
            refine x_iald C h 33 0 (xc_33 ad cI cB _) rfl dX5_good_146 (pc2 := 147) rfl (fun h => ?_)
            exact x_iret C hr hlocks h dX5_good_147
          · refine x_aload_n C dX5_good_125 0 rfl (pc2 := 126) rfl ?_
            refine x_get C hiX5 0 (xc_0 ad cI cB _) rfl 4 (by decide) f40 (v := .ref (ad 31)) rfl dX5_good_126 (pc2 := 129) rfl ?_
            refine x_get C hiX4 31 (xc_31 ad cI cB _) rfl 4 (by decide) f181 (v := .int (u2 31 4)) rfl dX5_good_129 (pc2 := 132) rfl ?_
            refine x_goto C dX5_good_132 (pc2 := 147) (by decide) ?_
            exact x_iret C hr hlocks h dX5_good_147
        · refine x_aload_n C dX5_good_112 0 rfl (pc2 := 113) rfl ?_
          refine x_get C hiX5 0 (xc_0 ad cI cB _) rfl 4 (by decide) f40 (v := .ref (ad 31)) rfl dX5_good_113 (pc2 := 116) rfl ?_
          refine x_get C hiX4 31 (xc_31 ad cI cB _) rfl 3 (by decide) f178 (v := .int (u2 31 3)) rfl dX5_good_116 (pc2 := 119) rfl ?_
          exact x_iret C hr hlocks h dX5_good_119
      · refine x_bipush (v := (-6 : Int32)) C dX5_good_104 (by decide) (pc2 := 106) rfl ?_
        exact x_iret C hr hlocks h dX5_good_106
    · refine x_aload_n C dX5_good_86 0 rfl (pc2 := 87) rfl ?_
      refine x_get C hiX5 0 (xc_0 ad cI cB _) rfl 4 (by decide) f40 (v := .ref (ad 31)) rfl dX5_good_87 (pc2 := 90) rfl ?_
      refine x_get C hiX4 31 (xc_31 ad cI cB _) rfl 2 (by decide) f175 (v := .int (u2 31 2)) rfl dX5_good_90 (pc2 := 93) rfl ?_
      exact x_iret C hr hlocks h dX5_good_93
  have J47 : ∀ (u : Mem) (x1 : Int32) (x2 : Int32) (x3 : Int32), e_X5_good_J47 u x1 x2 x3 = some (r, ur) → Wx p l e (headSpec wsX5_good { frames := 16, cells := 0, slots := 0, locals := 416 }).room s m args below meth c (MQ below (Qix D A (XW ad cI cB) r ur) args s 0 0 A) D A 4 (XW ad cI cB) u 47 [(0, .ref (ad 0)), (1, .int x1), (2, .int x2), (3, .int x3)] [] := by
    intro u x1 x2 x3 h
    unfold e_X5_good_J47 at h
    refine x_iload_n C dX5_good_47 3 rfl (pc2 := 48) rfl ?_
    refine x_if_eq C h dX5_good_48 (tgt := 70) (by decide) (pc2 := 51) rfl (fun h => ?_) (fun h => ?_)
    · refine x_sub [0, 1, 2] (lv2 := [(0, .ref (ad 0)), (1, .int x1), (2, .int x2)]) rfl ?_
      exact J70 _ _ _ h
    · refine x_iload_n C dX5_good_51 2 rfl (pc2 := 52) rfl ?_
      refine x_bipush (v := (10 : Int32)) C dX5_good_52 (by decide) (pc2 := 54) rfl ?_
      refine x_isub C dX5_good_54 (pc2 := 55) rfl ?_
      refine x_aload_n C dX5_good_55 0 rfl (pc2 := 56) rfl ?_
      refine x_get C hiX5 0 (xc_0 ad cI cB _) rfl 0 (by decide) f10 (v := .ref (ad 1)) rfl dX5_good_56 (pc2 := 59) rfl ?_
      refine x_get C hiX0 1 (xc_1 ad cI cB _) rfl 5 (by decide) f69 (v := .ref (ad 5)) rfl dX5_good_59 (pc2 := 62) rfl ?_
      refine x_iload_n C dX5_good_62 1 rfl (pc2 := 63) rfl ?_
      refine x_iald C h 5 0 (xc_5 ad cI cB _) rfl dX5_good_63 (pc2 := 64) rfl (fun h => ?_)
      refine x_icmp_lt C h dX5_good_64 (tgt := 70) (by decide) (pc2 := 67) rfl (fun h => ?_) (fun h => ?_)
      · refine x_sub [0, 1, 2] (lv2 := [(0, .ref (ad 0)), (1, .int x1), (2, .int x2)]) rfl ?_
        exact J70 _ _ _ h
      · refine x_bipush (v := (-6 : Int32)) C dX5_good_67 (by decide) (pc2 := 69) rfl ?_
        exact x_iret C hr hlocks h dX5_good_69
  have J30 : ∀ (u : Mem) (x1 : Int32) (x2 : Int32) (s0 : Int32), e_X5_good_J30 u x1 x2 s0 = some (r, ur) → Wx p l e (headSpec wsX5_good { frames := 16, cells := 0, slots := 0, locals := 416 }).room s m args below meth c (MQ below (Qix D A (XW ad cI cB) r ur) args s 0 0 A) D A 4 (XW ad cI cB) u 30 [(0, .ref (ad 0)), (1, .int x1), (2, .int x2)] [.int s0] := by
    intro u x1 x2 s0 h
    unfold e_X5_good_J30 at h
    refine x_istore_n C dX5_good_30 (by decide) (lv2 := [(3, .int s0), (0, .ref (ad 0)), (1, .int x1), (2, .int x2)]) rfl (pc2 := 31) rfl ?_
    refine x_iload_n C dX5_good_31 0 rfl (pc2 := 32) rfl ?_
    refine x_if_ne C h dX5_good_32 (tgt := 47) (by decide) (pc2 := 35) rfl (fun h => ?_) (fun h => ?_)
    · refine x_sub [1, 2, 3, 0] (lv2 := [(0, .ref (ad 0)), (1, .int x1), (2, .int x2), (3, .int s0)]) rfl ?_
      exact J47 _ _ _ _ h
    · refine x_iload_n C dX5_good_35 3 rfl (pc2 := 36) rfl ?_
      refine x_if_lt C h dX5_good_36 (tgt := 44) (by decide) (pc2 := 39) rfl (fun h => ?_) (fun h => ?_)
      · refine x_bipush (v := (-2 : Int32)) C dX5_good_44 (by decide) (pc2 := 46) rfl ?_
        exact x_iret C hr hlocks h dX5_good_46
      · refine x_iload_n C dX5_good_39 3 rfl (pc2 := 40) rfl ?_
        refine x_iconst (v := (2 : Int32)) C dX5_good_40 (by decide) (pc2 := 41) rfl ?_
        refine x_icmp_le C h dX5_good_41 (tgt := 47) (by decide) (pc2 := 44) rfl (fun h => ?_) (fun h => ?_)
        · refine x_sub [1, 2, 3, 0] (lv2 := [(0, .ref (ad 0)), (1, .int x1), (2, .int x2), (3, .int s0)]) rfl ?_
          exact J47 _ _ _ _ h
        · refine x_bipush (v := (-2 : Int32)) C dX5_good_44 (by decide) (pc2 := 46) rfl ?_
          exact x_iret C hr hlocks h dX5_good_46
  have J29 : ∀ (u : Mem) (x1 : Int32) (x2 : Int32), e_X5_good_J29 u x1 x2 = some (r, ur) → Wx p l e (headSpec wsX5_good { frames := 16, cells := 0, slots := 0, locals := 416 }).room s m args below meth c (MQ below (Qix D A (XW ad cI cB) r ur) args s 0 0 A) D A 4 (XW ad cI cB) u 29 [(0, .ref (ad 0)), (1, .int x1), (2, .int x2)] [] := by
    intro u x1 x2 h
    unfold e_X5_good_J29 at h
    refine x_iconst (v := (0 : Int32)) C dX5_good_29 (by decide) (pc2 := 30) rfl ?_
    exact J30 _ _ _ _ h
  refine x_aload_n C dX5_good_0 0 rfl (pc2 := 1) rfl ?_
  refine x_get C hiX5 0 (xc_0 ad cI cB _) rfl 0 (by decide) f10 (v := .ref (ad 1)) rfl dX5_good_1 (pc2 := 4) rfl ?_
  refine x_iload_n C dX5_good_4 1 rfl (pc2 := 5) rfl ?_
  refine x_callVi (As := [.int x1]) (rest := []) (index := 72) (n := 1) C h (c_X0_has l D A ad cI cB _ _) gX5_good_X0_has rfl (by decide +kernel) rfl rfl ⟨Nat.le_of_ble_eq_true rfl, Nat.le_of_ble_eq_true rfl⟩ (ci := 0) rfl rfl (xc_1 ad cI cB _) (XW_D ad cI cB _) rfl rfl (Nat.le_of_ble_eq_true rfl) dX5_good_5 (pc2 := 8) rfl (fun r1 u1 h => ?_)
  refine x_if_ne C h dX5_good_8 (tgt := 13) (by decide) (pc2 := 11) rfl (fun h => ?_) (fun h => ?_)
  · refine x_iload_n C dX5_good_13 2 rfl (pc2 := 14) rfl ?_
    refine x_bipush (v := (10 : Int32)) C dX5_good_14 (by decide) (pc2 := 16) rfl ?_
    refine x_icmp_lt C h dX5_good_16 (tgt := 29) (by decide) (pc2 := 19) rfl (fun h => ?_) (fun h => ?_)
    · exact J29 _ _ _ h
    · refine x_iload_n C dX5_good_19 2 rfl (pc2 := 20) rfl ?_
      refine x_bipush (v := (14 : Int32)) C dX5_good_20 (by decide) (pc2 := 22) rfl ?_
      refine x_icmp_ge C h dX5_good_22 (tgt := 29) (by decide) (pc2 := 25) rfl (fun h => ?_) (fun h => ?_)
      · exact J29 _ _ _ h
      · refine x_iconst (v := (1 : Int32)) C dX5_good_25 (by decide) (pc2 := 26) rfl ?_
        refine x_goto C dX5_good_26 (pc2 := 30) (by decide) ?_
        exact J30 _ _ _ _ h
  · refine x_iconst (v := (-1 : Int32)) C dX5_good_11 (by decide) (pc2 := 12) rfl ?_
    exact x_iret C hr hlocks h dX5_good_12
set_option maxRecDepth 100000 in
set_option maxHeartbeats 4000000 in
theorem c_X5_isGood (l : Launch) (D : va_G) (A : Nat → Prop) (ad : Nat → Nat) (cI cB : ClassId) (u : Mem) (x1 : Int32) : Cti l yX5_isGood wsX5_isGood { frames := 3, cells := 0, slots := 0, locals := 69 } D A (XW ad cI cB) [(cI, .int), (cB, .object "PanelPages$Book")] [.ref (ad 0), .int x1] u (e_X5_isGood u x1) := by
  intro r ur h
  refine Met.ofW (cc := cX5_isGood) (maxL := 3) (ret := (some .int)) (by decide) rfl ?_
  intro p e s m args below meth c s₁ B hml hv
  obtain ⟨hav, hP, hK, hD⟩ := hv
  have C : Cx p m c cX5_isGood 3 s args wsX5_isGood RX5 D [(cI, .int), (cB, .object "PanelPages$Book")] := ⟨⟨B.exec, B.bytes, hml, findClass_of_methodNamed B.named, atoms_spec (ws := wsX5_isGood) B.pre⟩, hK⟩
  have hr := B.returns
  have hlocks := B.notSynchronized
  have hiX0 : ∀ w ∈ wsX00, w ∈ wsX5_isGood := by decide +kernel
  have hiX4 : ∀ w ∈ wsX40, w ∈ wsX5_isGood := by decide +kernel
  have hiX5 : ∀ w ∈ wsX50, w ∈ wsX5_isGood := by decide +kernel
  have f10 : Cond.fieldLink RX5 10 "PanelPages" "book" "LPanelPages$Book;" ∈ wsX5_isGood := by decide +kernel
  have f19 : Cond.fieldLink RX5 19 "PanelPages" "pad" "LPanelPages$Pad;" ∈ wsX5_isGood := by decide +kernel
  have f190 : Cond.fieldLink RX5 190 "PanelPages$Setting" "cell" "[I" ∈ wsX5_isGood := by decide +kernel
  have f40 : Cond.fieldLink RX5 40 "PanelPages" "setting" "LPanelPages$Setting;" ∈ wsX5_isGood := by decide +kernel
  have f69 : Cond.fieldLink RX5 69 "PanelPages$Book" "balloons" "[I" ∈ wsX5_isGood := by decide +kernel
  refine x_entry2 (lv := [(0, .ref (ad 0)), (1, .int x1)]) hav hP hD (Nat.le_of_ble_eq_true rfl) rfl ?_
  unfold e_X5_isGood at h
  have J26 : ∀ (f : Nat) (u : Mem) (x1 : Int32) (x2 : Int32), e_X5_isGood_L26 f u x1 x2 = some (r, ur) → Wx p l e (headSpec wsX5_isGood { frames := 3, cells := 0, slots := 0, locals := 69 }).room s m args below meth c (MQ below (Qix D A (XW ad cI cB) r ur) args s 0 0 A) D A 3 (XW ad cI cB) u 26 [(0, .ref (ad 0)), (1, .int x1), (2, .int x2)] [] := by
    intro f
    induction f with
    | zero => intro u x1 x2 h; cases h
    | succ f ih =>
      intro u x1 x2 h
      replace h : e_X5_isGood_L26_b (e_X5_isGood_L26 f) u x1 x2 = some (r, ur) := h
      unfold e_X5_isGood_L26_b at h
      refine x_iload_n C dX5_isGood_26 2 rfl (pc2 := 27) rfl ?_
      refine x_aload_n C dX5_isGood_27 0 rfl (pc2 := 28) rfl ?_
      refine x_get C hiX5 0 (xc_0 ad cI cB _) rfl 0 (by decide) f10 (v := .ref (ad 1)) rfl dX5_isGood_28 (pc2 := 31) rfl ?_
      refine x_get C hiX0 1 (xc_1 ad cI cB _) rfl 5 (by decide) f69 (v := .ref (ad 5)) rfl dX5_isGood_31 (pc2 := 34) rfl ?_
      refine x_iload_n C dX5_isGood_34 1 rfl (pc2 := 35) rfl ?_
      refine x_iald C h 5 0 (xc_5 ad cI cB _) rfl dX5_isGood_35 (pc2 := 36) rfl (fun h => ?_)
      refine x_icmp_ge C h dX5_isGood_36 (tgt := 97) (by decide) (pc2 := 39) rfl (fun h => ?_) (fun h => ?_)
      · refine x_iconst (v := (1 : Int32)) C dX5_isGood_97 (by decide) (pc2 := 98) rfl ?_
        exact x_iret C hr hlocks h dX5_isGood_98
      · refine x_aload_n C dX5_isGood_39 0 rfl (pc2 := 40) rfl ?_
        refine x_get C hiX5 0 (xc_0 ad cI cB _) rfl 4 (by decide) f40 (v := .ref (ad 31)) rfl dX5_isGood_40 (pc2 := 43) rfl ?_
        refine x_get C hiX4 31 (xc_31 ad cI cB _) rfl 0 (by decide) f190 (v := .ref (ad 32)) rfl dX5_isGood_43 (pc2 := 46) rfl ?_
        refine x_iload_n C dX5_isGood_46 2 rfl (pc2 := 47) rfl ?_
        refine x_iconst (v := (4 : Int32)) C dX5_isGood_47 (by decide) (pc2 := 48) rfl ?_
        refine x_aload_n C dX5_isGood_48 0 rfl (pc2 := 49) rfl ?_
        refine x_get C hiX5 0 (xc_0 ad cI cB _) rfl 1 (by decide) f19 (v := .ref (ad 7)) rfl dX5_isGood_49 (pc2 := 52) rfl ?_
        refine x_iconst (v := (2 : Int32)) C dX5_isGood_52 (by decide) (pc2 := 53) rfl ?_
        refine x_iload_n C dX5_isGood_53 2 rfl (pc2 := 54) rfl ?_
        refine x_imul C dX5_isGood_54 (pc2 := 55) rfl ?_
        refine x_callVi (As := [.int ((2 : Int32) * x2)]) (rest := [.int (4 : Int32), .int x2, .ref (ad 32)]) (index := 165) (n := 1) C h (c_X2_figure l D A ad cI cB _ _) gX5_isGood_X2_figure rfl (by decide +kernel) rfl rfl ⟨Nat.le_of_ble_eq_true rfl, Nat.le_of_ble_eq_true rfl⟩ (ci := 2) rfl rfl (xc_7 ad cI cB _) (XW_D ad cI cB _) rfl rfl (Nat.le_of_ble_eq_true rfl) dX5_isGood_55 (pc2 := 58) rfl (fun r3 u3 h => ?_)
        refine x_imul C dX5_isGood_58 (pc2 := 59) rfl ?_
        refine x_aload_n C dX5_isGood_59 0 rfl (pc2 := 60) rfl ?_
        refine x_get C hiX5 0 (xc_0 ad cI cB _) rfl 1 (by decide) f19 (v := .ref (ad 7)) rfl dX5_isGood_60 (pc2 := 63) rfl ?_
        refine x_iconst (v := (2 : Int32)) C dX5_isGood_63 (by decide) (pc2 := 64) rfl ?_
        refine x_iload_n C dX5_isGood_64 2 rfl (pc2 := 65) rfl ?_
        refine x_imul C dX5_isGood_65 (pc2 := 66) rfl ?_
        refine x_iconst (v := (1 : Int32)) C dX5_isGood_66 (by decide) (pc2 := 67) rfl ?_
        refine x_iadd C dX5_isGood_67 (pc2 := 68) rfl ?_
        refine x_callVi (As := [.int (((2 : Int32) * x2) + (1 : Int32))]) (rest := [.int ((4 : Int32) * r3), .int x2, .ref (ad 32)]) (index := 165) (n := 1) C h (c_X2_figure l D A ad cI cB _ _) gX5_isGood_X2_figure rfl (by decide +kernel) rfl rfl ⟨Nat.le_of_ble_eq_true rfl, Nat.le_of_ble_eq_true rfl⟩ (ci := 2) rfl rfl (xc_7 ad cI cB _) (XW_D ad cI cB _) rfl rfl (Nat.le_of_ble_eq_true rfl) dX5_isGood_68 (pc2 := 71) rfl (fun r4 u4 h => ?_)
        refine x_iadd C dX5_isGood_71 (pc2 := 72) rfl ?_
        refine x_iast C h 32 0 (xc_32 ad cI cB _) rfl (u2 := (put u4 32 (x2).toNatClampNeg (((4 : Int32) * r3) + r4))) (xs_32 ad cI cB _ _ _) dX5_isGood_72 (pc2 := 73) rfl (fun h => ?_)
        refine x_aload_n C dX5_isGood_73 0 rfl (pc2 := 74) rfl ?_
        refine x_get C hiX5 0 (xc_0 ad cI cB _) rfl 4 (by decide) f40 (v := .ref (ad 31)) rfl dX5_isGood_74 (pc2 := 77) rfl ?_
        refine x_aload_n C dX5_isGood_77 0 rfl (pc2 := 78) rfl ?_
        refine x_get C hiX5 0 (xc_0 ad cI cB _) rfl 0 (by decide) f10 (v := .ref (ad 1)) rfl dX5_isGood_78 (pc2 := 81) rfl ?_
        refine x_iload_n C dX5_isGood_81 1 rfl (pc2 := 82) rfl ?_
        refine x_iload_n C dX5_isGood_82 2 rfl (pc2 := 83) rfl ?_
        refine x_callVi (As := [.ref (ad 1), .int x1, .int x2]) (rest := []) (index := 193) (n := 3) C h (c_X4_fits l D A ad cI cB _ _ _) gX5_isGood_X4_fits rfl (by decide +kernel) rfl rfl ⟨Nat.le_of_ble_eq_true rfl, Nat.le_of_ble_eq_true rfl⟩ (ci := 4) rfl rfl (xc_31 ad cI cB _) (XW_D ad cI cB _) rfl rfl (Nat.le_of_ble_eq_true rfl) dX5_isGood_83 (pc2 := 86) rfl (fun r5 u5 h => ?_)
        refine x_if_ne C h dX5_isGood_86 (tgt := 91) (by decide) (pc2 := 89) rfl (fun h => ?_) (fun h => ?_)
        · refine x_iinc C dX5_isGood_91 2 rfl (1 : Int32) (by decide) rfl (by decide) (lv2 := [(2, .int (x2 + (1 : Int32))), (0, .ref (ad 0)), (1, .int x1)]) rfl (pc2 := 94) rfl ?_
          refine x_goto C dX5_isGood_94 (pc2 := 26) (by decide) ?_
          refine x_sub [1, 2, 0] (lv2 := [(0, .ref (ad 0)), (1, .int x1), (2, .int (x2 + (1 : Int32)))]) rfl ?_
          exact ih _ _ _ h
        · refine x_iconst (v := (0 : Int32)) C dX5_isGood_89 (by decide) (pc2 := 90) rfl ?_
          exact x_iret C hr hlocks h dX5_isGood_90
  refine x_aload_n C dX5_isGood_0 0 rfl (pc2 := 1) rfl ?_
  refine x_get C hiX5 0 (xc_0 ad cI cB _) rfl 0 (by decide) f10 (v := .ref (ad 1)) rfl dX5_isGood_1 (pc2 := 4) rfl ?_
  refine x_iload_n C dX5_isGood_4 1 rfl (pc2 := 5) rfl ?_
  refine x_callVi (As := [.int x1]) (rest := []) (index := 72) (n := 1) C h (c_X0_has l D A ad cI cB _ _) gX5_isGood_X0_has rfl (by decide +kernel) rfl rfl ⟨Nat.le_of_ble_eq_true rfl, Nat.le_of_ble_eq_true rfl⟩ (ci := 0) rfl rfl (xc_1 ad cI cB _) (XW_D ad cI cB _) rfl rfl (Nat.le_of_ble_eq_true rfl) dX5_isGood_5 (pc2 := 8) rfl (fun r1 u1 h => ?_)
  refine x_if_ne C h dX5_isGood_8 (tgt := 13) (by decide) (pc2 := 11) rfl (fun h => ?_) (fun h => ?_)
  · refine x_aload_n C dX5_isGood_13 0 rfl (pc2 := 14) rfl ?_
    refine x_iload_n C dX5_isGood_14 1 rfl (pc2 := 15) rfl ?_
    refine x_callVi (As := [.int x1]) (rest := []) (index := 187) (n := 1) C h (c_X5_padIsSetting l D A ad cI cB _ _) gX5_isGood_X5_padIsSetting rfl (by decide +kernel) rfl rfl ⟨Nat.le_of_ble_eq_true rfl, Nat.le_of_ble_eq_true rfl⟩ (ci := 5) rfl rfl (xc_0 ad cI cB _) (XW_D ad cI cB _) rfl rfl (Nat.le_of_ble_eq_true rfl) dX5_isGood_15 (pc2 := 18) rfl (fun r2 u2 h => ?_)
    refine x_if_ne C h dX5_isGood_18 (tgt := 24) (by decide) (pc2 := 21) rfl (fun h => ?_) (fun h => ?_)
    · refine x_iconst (v := (0 : Int32)) C dX5_isGood_24 (by decide) (pc2 := 25) rfl ?_
      refine x_istore_n C dX5_isGood_25 (by decide) (lv2 := [(2, .int (0 : Int32)), (0, .ref (ad 0)), (1, .int x1)]) rfl (pc2 := 26) rfl ?_
      refine x_sub [1, 2, 0] (lv2 := [(0, .ref (ad 0)), (1, .int x1), (2, .int (0 : Int32))]) rfl ?_
      exact J26 FU _ _ _ h
    · refine x_bipush (v := (-7 : Int32)) C dX5_isGood_21 (by decide) (pc2 := 23) rfl ?_
      exact x_iret C hr hlocks h dX5_isGood_23
  · refine x_iconst (v := (-1 : Int32)) C dX5_isGood_11 (by decide) (pc2 := 12) rfl ?_
    exact x_iret C hr hlocks h dX5_isGood_12
set_option maxRecDepth 100000 in
set_option maxHeartbeats 4000000 in
theorem c_X5_image (l : Launch) (D : va_G) (A : Nat → Prop) (ad : Nat → Nat) (cI cB : ClassId) (u : Mem) (x1 : Int32) : Cti l yX5_image wsX5_image { frames := 2, cells := 0, slots := 0, locals := 81 } D A (XW ad cI cB) [(cI, .int), (cB, .object "PanelPages$Book")] [.ref (ad 0), .int x1] u (e_X5_image u x1) := by
  intro r ur h
  refine Met.ofW (cc := cX5_image) (maxL := 2) (ret := (some .int)) (by decide) rfl ?_
  intro p e s m args below meth c s₁ B hml hv
  obtain ⟨hav, hP, hK, hD⟩ := hv
  have C : Cx p m c cX5_image 2 s args wsX5_image RX5 D [(cI, .int), (cB, .object "PanelPages$Book")] := ⟨⟨B.exec, B.bytes, hml, findClass_of_methodNamed B.named, atoms_spec (ws := wsX5_image) B.pre⟩, hK⟩
  have hr := B.returns
  have hlocks := B.notSynchronized
  have hiX5 : ∀ w ∈ wsX50, w ∈ wsX5_image := by decide +kernel
  have f10 : Cond.fieldLink RX5 10 "PanelPages" "book" "LPanelPages$Book;" ∈ wsX5_image := by decide +kernel
  have f44 : Cond.fieldLink RX5 44 "PanelPages" "kept" "[LPanelPages$Book;" ∈ wsX5_image := by decide +kernel
  have f48 : Cond.fieldLink RX5 48 "PanelPages" "keptSet" "I" ∈ wsX5_image := by decide +kernel
  refine x_entry2 (lv := [(0, .ref (ad 0)), (1, .int x1)]) hav hP hD (Nat.le_of_ble_eq_true rfl) rfl ?_
  unfold e_X5_image at h
  refine x_iload_n C dX5_image_0 1 rfl (pc2 := 1) rfl ?_
  refine x_if_lt C h dX5_image_1 (tgt := 9) (by decide) (pc2 := 4) rfl (fun h => ?_) (fun h => ?_)
  · refine x_bipush (v := (-2 : Int32)) C dX5_image_9 (by decide) (pc2 := 11) rfl ?_
    exact x_iret C hr hlocks h dX5_image_11
  · refine x_iload_n C dX5_image_4 1 rfl (pc2 := 5) rfl ?_
    refine x_iconst (v := (2 : Int32)) C dX5_image_5 (by decide) (pc2 := 6) rfl ?_
    refine x_icmp_lt C h dX5_image_6 (tgt := 12) (by decide) (pc2 := 9) rfl (fun h => ?_) (fun h => ?_)
    · refine x_aload_n C dX5_image_12 0 rfl (pc2 := 13) rfl ?_
      refine x_get C hiX5 0 (xc_0 ad cI cB _) rfl 5 (by decide) f44 (v := .ref (ad 34)) rfl dX5_image_13 (pc2 := 16) rfl ?_
      refine x_iload_n C dX5_image_16 1 rfl (pc2 := 17) rfl ?_
      refine x_aald2 C h 34 1 (xc_34 ad cI cB _) rfl dX5_image_17 (pc2 := 18) rfl (fun h => ?_) (fun h => ?_)
      · refine x_aload_n C dX5_image_18 0 rfl (pc2 := 19) rfl ?_
        refine x_get C hiX5 0 (xc_0 ad cI cB _) rfl 0 (by decide) f10 (v := .ref (ad 1)) rfl dX5_image_19 (pc2 := 22) rfl ?_
        refine x_callVv (As := [.ref (ad 1)]) (rest := []) (index := 200) (n := 1) C h (c_X0_copyFrom_35_1 l D A ad cI cB _ ) gX5_image_X0_copyFrom rfl (by decide +kernel) rfl rfl ⟨Nat.le_of_ble_eq_true rfl, Nat.le_of_ble_eq_true rfl⟩ (ci := 0) rfl rfl (xc_35 ad cI cB _) (XW_D ad cI cB _) rfl rfl (Nat.le_of_ble_eq_true rfl) dX5_image_22 (pc2 := 25) rfl (fun u1 h => ?_)
        refine x_aload_n C dX5_image_25 0 rfl (pc2 := 26) rfl ?_
        refine x_dup C dX5_image_26 rfl (pc2 := 27) rfl ?_
        refine x_get C hiX5 0 (xc_0 ad cI cB _) rfl 6 (by decide) f48 (v := .int (u1 0 6)) rfl dX5_image_27 (pc2 := 30) rfl ?_
        refine x_iconst (v := (1 : Int32)) C dX5_image_30 (by decide) (pc2 := 31) rfl ?_
        refine x_iload_n C dX5_image_31 1 rfl (pc2 := 32) rfl ?_
        refine x_ishl C dX5_image_32 (pc2 := 33) rfl ?_
        refine x_ior C dX5_image_33 (pc2 := 34) rfl ?_
        refine x_put C hiX5 tyX5 tyX5_ok nmX5 0 (xc_0 ad cI cB _) rfl 6 (by decide) f48 rfl rfl (Nat.le_of_ble_eq_true rfl) (u2 := (put u1 0 6 ((u1 0 6) ||| ((1 : Int32) <<< (x1 &&& 31))))) (xs_0_6 ad cI cB _ _) dX5_image_34 (pc2 := 37) rfl ?_
        refine x_iconst (v := (1 : Int32)) C dX5_image_37 (by decide) (pc2 := 38) rfl ?_
        exact x_iret C hr hlocks h dX5_image_38
      · refine x_aload_n C dX5_image_18 0 rfl (pc2 := 19) rfl ?_
        refine x_get C hiX5 0 (xc_0 ad cI cB _) rfl 0 (by decide) f10 (v := .ref (ad 1)) rfl dX5_image_19 (pc2 := 22) rfl ?_
        refine x_callVv (As := [.ref (ad 1)]) (rest := []) (index := 200) (n := 1) C h (c_X0_copyFrom_41_1 l D A ad cI cB _ ) gX5_image_X0_copyFrom rfl (by decide +kernel) rfl rfl ⟨Nat.le_of_ble_eq_true rfl, Nat.le_of_ble_eq_true rfl⟩ (ci := 0) rfl rfl (xc_41 ad cI cB _) (XW_D ad cI cB _) rfl rfl (Nat.le_of_ble_eq_true rfl) dX5_image_22 (pc2 := 25) rfl (fun u2 h => ?_)
        refine x_aload_n C dX5_image_25 0 rfl (pc2 := 26) rfl ?_
        refine x_dup C dX5_image_26 rfl (pc2 := 27) rfl ?_
        refine x_get C hiX5 0 (xc_0 ad cI cB _) rfl 6 (by decide) f48 (v := .int (u2 0 6)) rfl dX5_image_27 (pc2 := 30) rfl ?_
        refine x_iconst (v := (1 : Int32)) C dX5_image_30 (by decide) (pc2 := 31) rfl ?_
        refine x_iload_n C dX5_image_31 1 rfl (pc2 := 32) rfl ?_
        refine x_ishl C dX5_image_32 (pc2 := 33) rfl ?_
        refine x_ior C dX5_image_33 (pc2 := 34) rfl ?_
        refine x_put C hiX5 tyX5 tyX5_ok nmX5 0 (xc_0 ad cI cB _) rfl 6 (by decide) f48 rfl rfl (Nat.le_of_ble_eq_true rfl) (u2 := (put u2 0 6 ((u2 0 6) ||| ((1 : Int32) <<< (x1 &&& 31))))) (xs_0_6 ad cI cB _ _) dX5_image_34 (pc2 := 37) rfl ?_
        refine x_iconst (v := (1 : Int32)) C dX5_image_37 (by decide) (pc2 := 38) rfl ?_
        exact x_iret C hr hlocks h dX5_image_38
    · refine x_bipush (v := (-2 : Int32)) C dX5_image_9 (by decide) (pc2 := 11) rfl ?_
      exact x_iret C hr hlocks h dX5_image_11
set_option maxRecDepth 100000 in
set_option maxHeartbeats 4000000 in
theorem c_X5_restore (l : Launch) (D : va_G) (A : Nat → Prop) (ad : Nat → Nat) (cI cB : ClassId) (u : Mem) (x1 : Int32) : Cti l yX5_restore wsX5_restore { frames := 2, cells := 0, slots := 0, locals := 81 } D A (XW ad cI cB) [(cI, .int), (cB, .object "PanelPages$Book")] [.ref (ad 0), .int x1] u (e_X5_restore u x1) := by
  intro r ur h
  refine Met.ofW (cc := cX5_restore) (maxL := 2) (ret := (some .int)) (by decide) rfl ?_
  intro p e s m args below meth c s₁ B hml hv
  obtain ⟨hav, hP, hK, hD⟩ := hv
  have C : Cx p m c cX5_restore 2 s args wsX5_restore RX5 D [(cI, .int), (cB, .object "PanelPages$Book")] := ⟨⟨B.exec, B.bytes, hml, findClass_of_methodNamed B.named, atoms_spec (ws := wsX5_restore) B.pre⟩, hK⟩
  have hr := B.returns
  have hlocks := B.notSynchronized
  have hiX5 : ∀ w ∈ wsX50, w ∈ wsX5_restore := by decide +kernel
  have f10 : Cond.fieldLink RX5 10 "PanelPages" "book" "LPanelPages$Book;" ∈ wsX5_restore := by decide +kernel
  have f44 : Cond.fieldLink RX5 44 "PanelPages" "kept" "[LPanelPages$Book;" ∈ wsX5_restore := by decide +kernel
  have f48 : Cond.fieldLink RX5 48 "PanelPages" "keptSet" "I" ∈ wsX5_restore := by decide +kernel
  refine x_entry2 (lv := [(0, .ref (ad 0)), (1, .int x1)]) hav hP hD (Nat.le_of_ble_eq_true rfl) rfl ?_
  unfold e_X5_restore at h
  refine x_iload_n C dX5_restore_0 1 rfl (pc2 := 1) rfl ?_
  refine x_if_lt C h dX5_restore_1 (tgt := 9) (by decide) (pc2 := 4) rfl (fun h => ?_) (fun h => ?_)
  · refine x_bipush (v := (-2 : Int32)) C dX5_restore_9 (by decide) (pc2 := 11) rfl ?_
    exact x_iret C hr hlocks h dX5_restore_11
  · refine x_iload_n C dX5_restore_4 1 rfl (pc2 := 5) rfl ?_
    refine x_iconst (v := (2 : Int32)) C dX5_restore_5 (by decide) (pc2 := 6) rfl ?_
    refine x_icmp_lt C h dX5_restore_6 (tgt := 12) (by decide) (pc2 := 9) rfl (fun h => ?_) (fun h => ?_)
    · refine x_aload_n C dX5_restore_12 0 rfl (pc2 := 13) rfl ?_
      refine x_get C hiX5 0 (xc_0 ad cI cB _) rfl 6 (by decide) f48 (v := .int (u 0 6)) rfl dX5_restore_13 (pc2 := 16) rfl ?_
      refine x_iconst (v := (1 : Int32)) C dX5_restore_16 (by decide) (pc2 := 17) rfl ?_
      refine x_iload_n C dX5_restore_17 1 rfl (pc2 := 18) rfl ?_
      refine x_ishl C dX5_restore_18 (pc2 := 19) rfl ?_
      refine x_iand C dX5_restore_19 (pc2 := 20) rfl ?_
      refine x_if_ne C h dX5_restore_20 (tgt := 26) (by decide) (pc2 := 23) rfl (fun h => ?_) (fun h => ?_)
      · refine x_aload_n C dX5_restore_26 0 rfl (pc2 := 27) rfl ?_
        refine x_get C hiX5 0 (xc_0 ad cI cB _) rfl 0 (by decide) f10 (v := .ref (ad 1)) rfl dX5_restore_27 (pc2 := 30) rfl ?_
        refine x_aload_n C dX5_restore_30 0 rfl (pc2 := 31) rfl ?_
        refine x_get C hiX5 0 (xc_0 ad cI cB _) rfl 5 (by decide) f44 (v := .ref (ad 34)) rfl dX5_restore_31 (pc2 := 34) rfl ?_
        refine x_iload_n C dX5_restore_34 1 rfl (pc2 := 35) rfl ?_
        refine x_aald2 C h 34 1 (xc_34 ad cI cB _) rfl dX5_restore_35 (pc2 := 36) rfl (fun h => ?_) (fun h => ?_)
        · refine x_callVv (As := [.ref (ad 35)]) (rest := []) (index := 200) (n := 1) C h (c_X0_copyFrom_1_35 l D A ad cI cB _ ) gX5_restore_X0_copyFrom rfl (by decide +kernel) rfl rfl ⟨Nat.le_of_ble_eq_true rfl, Nat.le_of_ble_eq_true rfl⟩ (ci := 0) rfl rfl (xc_1 ad cI cB _) (XW_D ad cI cB _) rfl rfl (Nat.le_of_ble_eq_true rfl) dX5_restore_36 (pc2 := 39) rfl (fun u1 h => ?_)
          refine x_iconst (v := (1 : Int32)) C dX5_restore_39 (by decide) (pc2 := 40) rfl ?_
          exact x_iret C hr hlocks h dX5_restore_40
        · refine x_callVv (As := [.ref (ad 41)]) (rest := []) (index := 200) (n := 1) C h (c_X0_copyFrom_1_41 l D A ad cI cB _ ) gX5_restore_X0_copyFrom rfl (by decide +kernel) rfl rfl ⟨Nat.le_of_ble_eq_true rfl, Nat.le_of_ble_eq_true rfl⟩ (ci := 0) rfl rfl (xc_1 ad cI cB _) (XW_D ad cI cB _) rfl rfl (Nat.le_of_ble_eq_true rfl) dX5_restore_36 (pc2 := 39) rfl (fun u2 h => ?_)
          refine x_iconst (v := (1 : Int32)) C dX5_restore_39 (by decide) (pc2 := 40) rfl ?_
          exact x_iret C hr hlocks h dX5_restore_40
      · refine x_bipush (v := (-3 : Int32)) C dX5_restore_23 (by decide) (pc2 := 25) rfl ?_
        exact x_iret C hr hlocks h dX5_restore_25
    · refine x_bipush (v := (-2 : Int32)) C dX5_restore_9 (by decide) (pc2 := 11) rfl ?_
      exact x_iret C hr hlocks h dX5_restore_11
set_option maxRecDepth 100000 in
set_option maxHeartbeats 4000000 in
theorem c_X5_count (l : Launch) (D : va_G) (A : Nat → Prop) (ad : Nat → Nat) (cI cB : ClassId) (u : Mem) (x1 : Int32) : Cti l yX5_count wsX5_count { frames := 1, cells := 0, slots := 0, locals := 22 } D A (XW ad cI cB) [(cI, .int), (cB, .object "PanelPages$Book")] [.ref (ad 0), .int x1] u (e_X5_count u x1) := by
  intro r ur h
  refine Met.ofW (cc := cX5_count) (maxL := 2) (ret := (some .int)) (by decide) rfl ?_
  intro p e s m args below meth c s₁ B hml hv
  obtain ⟨hav, hP, hK, hD⟩ := hv
  have C : Cx p m c cX5_count 2 s args wsX5_count RX5 D [(cI, .int), (cB, .object "PanelPages$Book")] := ⟨⟨B.exec, B.bytes, hml, findClass_of_methodNamed B.named, atoms_spec (ws := wsX5_count) B.pre⟩, hK⟩
  have hr := B.returns
  have hlocks := B.notSynchronized
  have hiX0 : ∀ w ∈ wsX00, w ∈ wsX5_count := by decide +kernel
  have hiX2 : ∀ w ∈ wsX20, w ∈ wsX5_count := by decide +kernel
  have hiX5 : ∀ w ∈ wsX50, w ∈ wsX5_count := by decide +kernel
  have f10 : Cond.fieldLink RX5 10 "PanelPages" "book" "LPanelPages$Book;" ∈ wsX5_count := by decide +kernel
  have f19 : Cond.fieldLink RX5 19 "PanelPages" "pad" "LPanelPages$Pad;" ∈ wsX5_count := by decide +kernel
  have f48 : Cond.fieldLink RX5 48 "PanelPages" "keptSet" "I" ∈ wsX5_count := by decide +kernel
  have f56 : Cond.fieldLink RX5 56 "PanelPages$Book" "panels" "I" ∈ wsX5_count := by decide +kernel
  have f80 : Cond.fieldLink RX5 80 "PanelPages$Book" "high" "I" ∈ wsX5_count := by decide +kernel
  have f93 : Cond.fieldLink RX5 93 "PanelPages$Pad" "size" "I" ∈ wsX5_count := by decide +kernel
  refine x_entry2 (lv := [(0, .ref (ad 0)), (1, .int x1)]) hav hP hD (Nat.le_of_ble_eq_true rfl) rfl ?_
  unfold e_X5_count at h
  refine x_iload_n C dX5_count_0 1 rfl (pc2 := 1) rfl ?_
  by_cases q0 : x1 = (0 : Int32)
  · replace h := (if_pos q0).symm.trans h
    refine x_tabI C (0 : Int32) q0 dX5_count_1 (by decide) (by decide) (off := 35) (by decide) (tgt := 36) (by decide) ?_
    refine x_aload_n C dX5_count_36 0 rfl (pc2 := 37) rfl ?_
    refine x_get C hiX5 0 (xc_0 ad cI cB _) rfl 0 (by decide) f10 (v := .ref (ad 1)) rfl dX5_count_37 (pc2 := 40) rfl ?_
    refine x_get C hiX0 1 (xc_1 ad cI cB _) rfl 0 (by decide) f56 (v := .int (u 1 0)) rfl dX5_count_40 (pc2 := 43) rfl ?_
    exact x_iret C hr hlocks h dX5_count_43
  replace h := (if_neg q0).symm.trans h
  by_cases q1 : x1 = (1 : Int32)
  · replace h := (if_pos q1).symm.trans h
    refine x_tabI C (1 : Int32) q1 dX5_count_1 (by decide) (by decide) (off := 43) (by decide) (tgt := 44) (by decide) ?_
    refine x_aload_n C dX5_count_44 0 rfl (pc2 := 45) rfl ?_
    refine x_get C hiX5 0 (xc_0 ad cI cB _) rfl 0 (by decide) f10 (v := .ref (ad 1)) rfl dX5_count_45 (pc2 := 48) rfl ?_
    refine x_get C hiX0 1 (xc_1 ad cI cB _) rfl 1 (by decide) f80 (v := .int (u 1 1)) rfl dX5_count_48 (pc2 := 51) rfl ?_
    exact x_iret C hr hlocks h dX5_count_51
  replace h := (if_neg q1).symm.trans h
  by_cases q2 : x1 = (2 : Int32)
  · replace h := (if_pos q2).symm.trans h
    refine x_tabI C (2 : Int32) q2 dX5_count_1 (by decide) (by decide) (off := 51) (by decide) (tgt := 52) (by decide) ?_
    refine x_aload_n C dX5_count_52 0 rfl (pc2 := 53) rfl ?_
    refine x_get C hiX5 0 (xc_0 ad cI cB _) rfl 1 (by decide) f19 (v := .ref (ad 7)) rfl dX5_count_53 (pc2 := 56) rfl ?_
    refine x_get C hiX2 7 (xc_7 ad cI cB _) rfl 0 (by decide) f93 (v := .int (u 7 0)) rfl dX5_count_56 (pc2 := 59) rfl ?_
    exact x_iret C hr hlocks h dX5_count_59
  replace h := (if_neg q2).symm.trans h
  by_cases q3 : x1 = (3 : Int32)
  · replace h := (if_pos q3).symm.trans h
    refine x_tabI C (3 : Int32) q3 dX5_count_1 (by decide) (by decide) (off := 59) (by decide) (tgt := 60) (by decide) ?_
    refine x_aload_n C dX5_count_60 0 rfl (pc2 := 61) rfl ?_
    refine x_get C hiX5 0 (xc_0 ad cI cB _) rfl 0 (by decide) f10 (v := .ref (ad 1)) rfl dX5_count_61 (pc2 := 64) rfl ?_
    refine x_callVi (As := []) (rest := []) (index := 203) (n := 0) C h (c_X0_allBalloons l D A ad cI cB _ ) gX5_count_X0_allBalloons rfl (by decide +kernel) rfl rfl ⟨Nat.le_of_ble_eq_true rfl, Nat.le_of_ble_eq_true rfl⟩ (ci := 0) rfl rfl (xc_1 ad cI cB _) (XW_D ad cI cB _) rfl rfl (Nat.le_of_ble_eq_true rfl) dX5_count_64 (pc2 := 67) rfl (fun r1 u1 h => ?_)
    exact x_iret C hr hlocks h dX5_count_67
  replace h := (if_neg q3).symm.trans h
  by_cases q4 : x1 = (4 : Int32)
  · replace h := (if_pos q4).symm.trans h
    refine x_tabI C (4 : Int32) q4 dX5_count_1 (by decide) (by decide) (off := 67) (by decide) (tgt := 68) (by decide) ?_
    refine x_aload_n C dX5_count_68 0 rfl (pc2 := 69) rfl ?_
    refine x_get C hiX5 0 (xc_0 ad cI cB _) rfl 6 (by decide) f48 (v := .int (u 0 6)) rfl dX5_count_69 (pc2 := 72) rfl ?_
    exact x_iret C hr hlocks h dX5_count_72
  replace h := (if_neg q4).symm.trans h
  have n0 := tab_ne q0
  have n1 := tab_ne q1
  have n2 := tab_ne q2
  have n3 := tab_ne q3
  have n4 := tab_ne q4
  refine x_tabO C dX5_count_1 (by rw [show ((0 : Int32)).toInt = 0 from rfl] at n0; rw [show ((1 : Int32)).toInt = 1 from rfl] at n1; rw [show ((2 : Int32)).toInt = 2 from rfl] at n2; rw [show ((3 : Int32)).toInt = 3 from rfl] at n3; rw [show ((4 : Int32)).toInt = 4 from rfl] at n4; omega) (tgt := 73) (by decide) ?_
  refine x_bipush (v := (-2 : Int32)) C dX5_count_73 (by decide) (pc2 := 75) rfl ?_
  exact x_iret C hr hlocks h dX5_count_75
