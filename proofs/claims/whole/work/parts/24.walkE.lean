set_option maxRecDepth 100000 in
set_option maxHeartbeats 4000000 in
theorem c_X6_in (l : Launch) (D : va_G) (A : Nat → Prop) (ad : Nat → Nat) (cI cZ : ClassId) (u : Mem) (x0 : Int32) (x1 : Int32) (x2 : Int32) : Cti l yX6_in wsX6_in { frames := 0, cells := 0, slots := 0, locals := 0 } D A (MW ad cI cZ) [(cI, .int), (cZ, .boolean)] [.int x0, .int x1, .int x2] u (e_X6_in u x0 x1 x2) := by
  intro r ur h
  refine Met.ofW (cc := cX6_in) (maxL := 3) (ret := (some .boolean)) (by decide) rfl ?_
  intro p e s m args below meth c s₁ B hml hv
  obtain ⟨hav, hP, hK, hD⟩ := hv
  have C : Cx p m c cX6_in 3 s args wsX6_in RX6 D [(cI, .int), (cZ, .boolean)] := ⟨⟨B.exec, B.bytes, hml, findClass_of_methodNamed B.named, atoms_spec (ws := wsX6_in) B.pre⟩, hK⟩
  have hr := B.returns
  have hlocks := B.notSynchronized
  refine x_entry2 (lv := [(0, .int x0), (1, .int x1), (2, .int x2)]) hav hP hD (Nat.le_of_ble_eq_true rfl) rfl ?_
  unfold e_X6_in at h
  refine x_iload_n C dX6_in_0 0 rfl (pc2 := 1) rfl ?_
  refine x_iload_n C dX6_in_1 1 rfl (pc2 := 2) rfl ?_
  refine x_icmp_lt C h dX6_in_2 (tgt := 14) (by decide) (pc2 := 5) rfl (fun h => ?_) (fun h => ?_)
  · refine x_iconst (v := (0 : Int32)) C dX6_in_14 (by decide) (pc2 := 15) rfl ?_
    exact x_zretL C hr hlocks h rfl dX6_in_15
  · refine x_iload_n C dX6_in_5 0 rfl (pc2 := 6) rfl ?_
    refine x_iload_n C dX6_in_6 2 rfl (pc2 := 7) rfl ?_
    refine x_icmp_gt C h dX6_in_7 (tgt := 14) (by decide) (pc2 := 10) rfl (fun h => ?_) (fun h => ?_)
    · refine x_iconst (v := (0 : Int32)) C dX6_in_14 (by decide) (pc2 := 15) rfl ?_
      exact x_zretL C hr hlocks h rfl dX6_in_15
    · refine x_iconst (v := (1 : Int32)) C dX6_in_10 (by decide) (pc2 := 11) rfl ?_
      refine x_goto C dX6_in_11 (pc2 := 15) (by decide) ?_
      exact x_zretL C hr hlocks h rfl dX6_in_15
set_option maxRecDepth 100000 in
set_option maxHeartbeats 4000000 in
theorem c_X6_fits (l : Launch) (D : va_G) (A : Nat → Prop) (ad : Nat → Nat) (cI cZ : ClassId) (u : Mem) (x0 : Int32) (x1 : Int32) : Cti l yX6_fits wsX6_fits { frames := 1, cells := 0, slots := 0, locals := 22 } D A (MW ad cI cZ) [(cI, .int), (cZ, .boolean)] [.int x0, .int x1] u (e_X6_fits u x0 x1) := by
  intro r ur h
  refine Met.ofW (cc := cX6_fits) (maxL := 2) (ret := (some .boolean)) (by decide) rfl ?_
  intro p e s m args below meth c s₁ B hml hv
  obtain ⟨hav, hP, hK, hD⟩ := hv
  have C : Cx p m c cX6_fits 2 s args wsX6_fits RX6 D [(cI, .int), (cZ, .boolean)] := ⟨⟨B.exec, B.bytes, hml, findClass_of_methodNamed B.named, atoms_spec (ws := wsX6_fits) B.pre⟩, hK⟩
  have hr := B.returns
  have hlocks := B.notSynchronized
  refine x_entry2 (lv := [(0, .int x0), (1, .int x1)]) hav hP hD (Nat.le_of_ble_eq_true rfl) rfl ?_
  unfold e_X6_fits at h
  refine x_iload_n C dX6_fits_0 0 rfl (pc2 := 1) rfl ?_
  refine x_if_ne C h dX6_fits_1 (tgt := 14) (by decide) (pc2 := 4) rfl (fun h => ?_) (fun h => ?_)
  · refine x_iload_n C dX6_fits_14 0 rfl (pc2 := 15) rfl ?_
    refine x_iconst (v := (1 : Int32)) C dX6_fits_15 (by decide) (pc2 := 16) rfl ?_
    refine x_icmp_ne C h dX6_fits_16 (tgt := 29) (by decide) (pc2 := 19) rfl (fun h => ?_) (fun h => ?_)
    · refine x_iload_n C dX6_fits_29 1 rfl (pc2 := 30) rfl ?_
      refine x_iconst (v := (0 : Int32)) C dX6_fits_30 (by decide) (pc2 := 31) rfl ?_
      refine x_iconst (v := (3 : Int32)) C dX6_fits_31 (by decide) (pc2 := 32) rfl ?_
      refine x_callSi (As := [.int x1, .int (0 : Int32), .int (3 : Int32)]) (rest := []) (index := 51) (n := 3) C h (c_X6_in l D A ad cI cZ _ _ _ _) gX6_fits_X6_in rfl (by decide +kernel) rfl rfl ⟨Nat.le_of_ble_eq_true rfl, Nat.le_of_ble_eq_true rfl⟩ (MW_D ad cI cZ _) rfl rfl (Nat.le_of_ble_eq_true rfl) dX6_fits_32 (pc2 := 35) rfl (fun r1 u1 h => ?_)
      exact x_zret C hr hlocks h dX6_fits_35
    · refine x_iload_n C dX6_fits_19 1 rfl (pc2 := 20) rfl ?_
      refine x_iconst (v := (1 : Int32)) C dX6_fits_20 (by decide) (pc2 := 21) rfl ?_
      refine x_bipush (v := (6 : Int32)) C dX6_fits_21 (by decide) (pc2 := 23) rfl ?_
      refine x_callSi (As := [.int x1, .int (1 : Int32), .int (6 : Int32)]) (rest := []) (index := 51) (n := 3) C h (c_X6_in l D A ad cI cZ _ _ _ _) gX6_fits_X6_in rfl (by decide +kernel) rfl rfl ⟨Nat.le_of_ble_eq_true rfl, Nat.le_of_ble_eq_true rfl⟩ (MW_D ad cI cZ _) rfl rfl (Nat.le_of_ble_eq_true rfl) dX6_fits_23 (pc2 := 26) rfl (fun r2 u2 h => ?_)
      refine x_goto C dX6_fits_26 (pc2 := 35) (by decide) ?_
      exact x_zret C hr hlocks h dX6_fits_35
  · refine x_iload_n C dX6_fits_4 1 rfl (pc2 := 5) rfl ?_
    refine x_iconst (v := (1 : Int32)) C dX6_fits_5 (by decide) (pc2 := 6) rfl ?_
    refine x_bipush (v := (9 : Int32)) C dX6_fits_6 (by decide) (pc2 := 8) rfl ?_
    refine x_callSi (As := [.int x1, .int (1 : Int32), .int (9 : Int32)]) (rest := []) (index := 51) (n := 3) C h (c_X6_in l D A ad cI cZ _ _ _ _) gX6_fits_X6_in rfl (by decide +kernel) rfl rfl ⟨Nat.le_of_ble_eq_true rfl, Nat.le_of_ble_eq_true rfl⟩ (MW_D ad cI cZ _) rfl rfl (Nat.le_of_ble_eq_true rfl) dX6_fits_8 (pc2 := 11) rfl (fun r3 u3 h => ?_)
    refine x_goto C dX6_fits_11 (pc2 := 35) (by decide) ?_
    exact x_zret C hr hlocks h dX6_fits_35
set_option maxRecDepth 100000 in
set_option maxHeartbeats 4000000 in
theorem c_X6_many (l : Launch) (D : va_G) (A : Nat → Prop) (ad : Nat → Nat) (cI cZ : ClassId) (u : Mem)  : Cti l yX6_many wsX6_many { frames := 0, cells := 0, slots := 0, locals := 0 } D A (MW ad cI cZ) [(cI, .int), (cZ, .boolean)] [.ref (ad 0)] u (e_X6_many u ) := by
  intro r ur h
  refine Met.ofW (cc := cX6_many) (maxL := 1) (ret := (some .int)) (by decide) rfl ?_
  intro p e s m args below meth c s₁ B hml hv
  obtain ⟨hav, hP, hK, hD⟩ := hv
  have C : Cx p m c cX6_many 1 s args wsX6_many RX6 D [(cI, .int), (cZ, .boolean)] := ⟨⟨B.exec, B.bytes, hml, findClass_of_methodNamed B.named, atoms_spec (ws := wsX6_many) B.pre⟩, hK⟩
  have hr := B.returns
  have hlocks := B.notSynchronized
  have hiX6 : ∀ w ∈ wsX60, w ∈ wsX6_many := by decide +kernel
  have f7 : Cond.fieldLink RX6 7 "PanelPagesModel" "state" "[I" ∈ wsX6_many := by decide +kernel
  refine x_entry2 (lv := [(0, .ref (ad 0))]) hav hP hD (Nat.le_of_ble_eq_true rfl) rfl ?_
  unfold e_X6_many at h
  refine x_aload_n C dX6_many_0 0 rfl (pc2 := 1) rfl ?_
  refine x_get C hiX6 0 (mc_0 ad cI cZ _) rfl 0 (by decide) f7 (v := .ref (ad 1)) rfl dX6_many_1 (pc2 := 4) rfl ?_
  refine x_bipush (v := (72 : Int32)) C dX6_many_4 (by decide) (pc2 := 6) rfl ?_
  refine x_iald C h 1 0 (mc_1 ad cI cZ _) rfl dX6_many_6 (pc2 := 7) rfl (fun h => ?_)
  exact x_iret C hr hlocks h dX6_many_7
set_option maxRecDepth 100000 in
set_option maxHeartbeats 4000000 in
theorem c_X6_isPanel (l : Launch) (D : va_G) (A : Nat → Prop) (ad : Nat → Nat) (cI cZ : ClassId) (u : Mem) (x1 : Int32) : Cti l yX6_isPanel wsX6_isPanel { frames := 1, cells := 0, slots := 0, locals := 22 } D A (MW ad cI cZ) [(cI, .int), (cZ, .boolean)] [.ref (ad 0), .int x1] u (e_X6_isPanel u x1) := by
  intro r ur h
  refine Met.ofW (cc := cX6_isPanel) (maxL := 2) (ret := (some .boolean)) (by decide) rfl ?_
  intro p e s m args below meth c s₁ B hml hv
  obtain ⟨hav, hP, hK, hD⟩ := hv
  have C : Cx p m c cX6_isPanel 2 s args wsX6_isPanel RX6 D [(cI, .int), (cZ, .boolean)] := ⟨⟨B.exec, B.bytes, hml, findClass_of_methodNamed B.named, atoms_spec (ws := wsX6_isPanel) B.pre⟩, hK⟩
  have hr := B.returns
  have hlocks := B.notSynchronized
  refine x_entry2 (lv := [(0, .ref (ad 0)), (1, .int x1)]) hav hP hD (Nat.le_of_ble_eq_true rfl) rfl ?_
  unfold e_X6_isPanel at h
  refine x_iload_n C dX6_isPanel_0 1 rfl (pc2 := 1) rfl ?_
  refine x_iconst (v := (0 : Int32)) C dX6_isPanel_1 (by decide) (pc2 := 2) rfl ?_
  refine x_aload_n C dX6_isPanel_2 0 rfl (pc2 := 3) rfl ?_
  refine x_callVi (As := []) (rest := [.int (0 : Int32), .int x1]) (index := 47) (n := 0) C h (c_X6_many l D A ad cI cZ _ ) gX6_isPanel_X6_many rfl (by decide +kernel) rfl rfl ⟨Nat.le_of_ble_eq_true rfl, Nat.le_of_ble_eq_true rfl⟩ (ci := 6) rfl rfl (mc_0 ad cI cZ _) (MW_D ad cI cZ _) rfl rfl (Nat.le_of_ble_eq_true rfl) dX6_isPanel_3 (pc2 := 6) rfl (fun r1 u1 h => ?_)
  refine x_iconst (v := (1 : Int32)) C dX6_isPanel_6 (by decide) (pc2 := 7) rfl ?_
  refine x_isub C dX6_isPanel_7 (pc2 := 8) rfl ?_
  refine x_callSi (As := [.int x1, .int (0 : Int32), .int (r1 - (1 : Int32))]) (rest := []) (index := 51) (n := 3) C h (c_X6_in l D A ad cI cZ _ _ _ _) gX6_isPanel_X6_in rfl (by decide +kernel) rfl rfl ⟨Nat.le_of_ble_eq_true rfl, Nat.le_of_ble_eq_true rfl⟩ (MW_D ad cI cZ _) rfl rfl (Nat.le_of_ble_eq_true rfl) dX6_isPanel_8 (pc2 := 11) rfl (fun r2 u2 h => ?_)
  exact x_zret C hr hlocks h dX6_isPanel_11
set_option maxRecDepth 100000 in
set_option maxHeartbeats 4000000 in
theorem c_X6_panel (l : Launch) (D : va_G) (A : Nat → Prop) (ad : Nat → Nat) (cI cZ : ClassId) (u : Mem) (x1 : Int32) (x2 : Int32) (x3 : Int32) : Cti l yX6_panel wsX6_panel { frames := 2, cells := 0, slots := 0, locals := 43 } D A (MW ad cI cZ) [(cI, .int), (cZ, .boolean)] [.ref (ad 0), .int x1, .int x2, .int x3] u (e_X6_panel u x1 x2 x3) := by
  intro r ur h
  refine Met.ofW (cc := cX6_panel) (maxL := 5) (ret := (some .int)) (by decide) rfl ?_
  intro p e s m args below meth c s₁ B hml hv
  obtain ⟨hav, hP, hK, hD⟩ := hv
  have C : Cx p m c cX6_panel 5 s args wsX6_panel RX6 D [(cI, .int), (cZ, .boolean)] := ⟨⟨B.exec, B.bytes, hml, findClass_of_methodNamed B.named, atoms_spec (ws := wsX6_panel) B.pre⟩, hK⟩
  have hr := B.returns
  have hlocks := B.notSynchronized
  have hiX6 : ∀ w ∈ wsX60, w ∈ wsX6_panel := by decide +kernel
  have f7 : Cond.fieldLink RX6 7 "PanelPagesModel" "state" "[I" ∈ wsX6_panel := by decide +kernel
  refine x_entry2 (lv := [(0, .ref (ad 0)), (1, .int x1), (2, .int x2), (3, .int x3)]) hav hP hD (Nat.le_of_ble_eq_true rfl) rfl ?_
  unfold e_X6_panel at h
  refine x_iconst (v := (0 : Int32)) C dX6_panel_0 (by decide) (pc2 := 1) rfl ?_
  refine x_iload_n C dX6_panel_1 1 rfl (pc2 := 2) rfl ?_
  refine x_callSi (As := [.int (0 : Int32), .int x1]) (rest := []) (index := 55) (n := 2) C h (c_X6_fits l D A ad cI cZ _ _ _) gX6_panel_X6_fits rfl (by decide +kernel) rfl rfl ⟨Nat.le_of_ble_eq_true rfl, Nat.le_of_ble_eq_true rfl⟩ (MW_D ad cI cZ _) rfl rfl (Nat.le_of_ble_eq_true rfl) dX6_panel_2 (pc2 := 5) rfl (fun r1 u1 h => ?_)
  refine x_if_eq C h dX6_panel_5 (tgt := 24) (by decide) (pc2 := 8) rfl (fun h => ?_) (fun h => ?_)
  · refine x_bipush (v := (-2 : Int32)) C dX6_panel_24 (by decide) (pc2 := 26) rfl ?_
    exact x_iret C hr hlocks h dX6_panel_26
  · refine x_iconst (v := (1 : Int32)) C dX6_panel_8 (by decide) (pc2 := 9) rfl ?_
    refine x_iload_n C dX6_panel_9 2 rfl (pc2 := 10) rfl ?_
    refine x_callSi (As := [.int (1 : Int32), .int x2]) (rest := []) (index := 55) (n := 2) C h (c_X6_fits l D A ad cI cZ _ _ _) gX6_panel_X6_fits rfl (by decide +kernel) rfl rfl ⟨Nat.le_of_ble_eq_true rfl, Nat.le_of_ble_eq_true rfl⟩ (MW_D ad cI cZ _) rfl rfl (Nat.le_of_ble_eq_true rfl) dX6_panel_10 (pc2 := 13) rfl (fun r2 u2 h => ?_)
    refine x_if_eq C h dX6_panel_13 (tgt := 24) (by decide) (pc2 := 16) rfl (fun h => ?_) (fun h => ?_)
    · refine x_bipush (v := (-2 : Int32)) C dX6_panel_24 (by decide) (pc2 := 26) rfl ?_
      exact x_iret C hr hlocks h dX6_panel_26
    · refine x_iconst (v := (2 : Int32)) C dX6_panel_16 (by decide) (pc2 := 17) rfl ?_
      refine x_iload_n C dX6_panel_17 3 rfl (pc2 := 18) rfl ?_
      refine x_callSi (As := [.int (2 : Int32), .int x3]) (rest := []) (index := 55) (n := 2) C h (c_X6_fits l D A ad cI cZ _ _ _) gX6_panel_X6_fits rfl (by decide +kernel) rfl rfl ⟨Nat.le_of_ble_eq_true rfl, Nat.le_of_ble_eq_true rfl⟩ (MW_D ad cI cZ _) rfl rfl (Nat.le_of_ble_eq_true rfl) dX6_panel_18 (pc2 := 21) rfl (fun r3 u3 h => ?_)
      refine x_if_ne C h dX6_panel_21 (tgt := 27) (by decide) (pc2 := 24) rfl (fun h => ?_) (fun h => ?_)
      · refine x_aload_n C dX6_panel_27 0 rfl (pc2 := 28) rfl ?_
        refine x_callVi (As := []) (rest := []) (index := 47) (n := 0) C h (c_X6_many l D A ad cI cZ _ ) gX6_panel_X6_many rfl (by decide +kernel) rfl rfl ⟨Nat.le_of_ble_eq_true rfl, Nat.le_of_ble_eq_true rfl⟩ (ci := 6) rfl rfl (mc_0 ad cI cZ _) (MW_D ad cI cZ _) rfl rfl (Nat.le_of_ble_eq_true rfl) dX6_panel_28 (pc2 := 31) rfl (fun r4 u4 h => ?_)
        refine x_istore C dX6_panel_31 (by decide) (lv2 := [(4, .int r4), (0, .ref (ad 0)), (1, .int x1), (2, .int x2), (3, .int x3)]) rfl (pc2 := 33) rfl ?_
        refine x_iload C dX6_panel_33 0 rfl (pc2 := 35) rfl ?_
        refine x_bipush (v := (9 : Int32)) C dX6_panel_35 (by decide) (pc2 := 37) rfl ?_
        refine x_icmp_ne C h dX6_panel_37 (tgt := 43) (by decide) (pc2 := 40) rfl (fun h => ?_) (fun h => ?_)
        · refine x_aload_n C dX6_panel_43 1 rfl (pc2 := 44) rfl ?_
          refine x_get C hiX6 0 (mc_0 ad cI cZ _) rfl 0 (by decide) f7 (v := .ref (ad 1)) rfl dX6_panel_44 (pc2 := 47) rfl ?_
          refine x_iconst (v := (0 : Int32)) C dX6_panel_47 (by decide) (pc2 := 48) rfl ?_
          refine x_iload C dX6_panel_48 0 rfl (pc2 := 50) rfl ?_
          refine x_iadd C dX6_panel_50 (pc2 := 51) rfl ?_
          refine x_iload_n C dX6_panel_51 2 rfl (pc2 := 52) rfl ?_
          refine x_iast C h 1 0 (mc_1 ad cI cZ _) rfl (u2 := (put u4 1 (((0 : Int32) + r4)).toNatClampNeg x1)) (ms_1 ad cI cZ _ _ _) dX6_panel_52 (pc2 := 53) rfl (fun h => ?_)
          refine x_aload_n C dX6_panel_53 1 rfl (pc2 := 54) rfl ?_
          refine x_get C hiX6 0 (mc_0 ad cI cZ _) rfl 0 (by decide) f7 (v := .ref (ad 1)) rfl dX6_panel_54 (pc2 := 57) rfl ?_
          refine x_bipush (v := (9 : Int32)) C dX6_panel_57 (by decide) (pc2 := 59) rfl ?_
          refine x_iload C dX6_panel_59 0 rfl (pc2 := 61) rfl ?_
          refine x_iadd C dX6_panel_61 (pc2 := 62) rfl ?_
          refine x_iload_n C dX6_panel_62 3 rfl (pc2 := 63) rfl ?_
          refine x_iast C h 1 0 (mc_1 ad cI cZ _) rfl (u2 := (put (put u4 1 (((0 : Int32) + r4)).toNatClampNeg x1) 1 (((9 : Int32) + r4)).toNatClampNeg x2)) (ms_1 ad cI cZ _ _ _) dX6_panel_63 (pc2 := 64) rfl (fun h => ?_)
          refine x_aload_n C dX6_panel_64 1 rfl (pc2 := 65) rfl ?_
          refine x_get C hiX6 0 (mc_0 ad cI cZ _) rfl 0 (by decide) f7 (v := .ref (ad 1)) rfl dX6_panel_65 (pc2 := 68) rfl ?_
          refine x_bipush (v := (18 : Int32)) C dX6_panel_68 (by decide) (pc2 := 70) rfl ?_
          refine x_iload C dX6_panel_70 0 rfl (pc2 := 72) rfl ?_
          refine x_iadd C dX6_panel_72 (pc2 := 73) rfl ?_
          refine x_iload_n C dX6_panel_73 4 rfl (pc2 := 74) rfl ?_
          refine x_iast C h 1 0 (mc_1 ad cI cZ _) rfl (u2 := (put (put (put u4 1 (((0 : Int32) + r4)).toNatClampNeg x1) 1 (((9 : Int32) + r4)).toNatClampNeg x2) 1 (((18 : Int32) + r4)).toNatClampNeg x3)) (ms_1 ad cI cZ _ _ _) dX6_panel_74 (pc2 := 75) rfl (fun h => ?_)
          refine x_aload_n C dX6_panel_75 1 rfl (pc2 := 76) rfl ?_
          refine x_get C hiX6 0 (mc_0 ad cI cZ _) rfl 0 (by decide) f7 (v := .ref (ad 1)) rfl dX6_panel_76 (pc2 := 79) rfl ?_
          refine x_bipush (v := (27 : Int32)) C dX6_panel_79 (by decide) (pc2 := 81) rfl ?_
          refine x_iload C dX6_panel_81 0 rfl (pc2 := 83) rfl ?_
          refine x_iadd C dX6_panel_83 (pc2 := 84) rfl ?_
          refine x_iconst (v := (0 : Int32)) C dX6_panel_84 (by decide) (pc2 := 85) rfl ?_
          refine x_iast C h 1 0 (mc_1 ad cI cZ _) rfl (u2 := (put (put (put (put u4 1 (((0 : Int32) + r4)).toNatClampNeg x1) 1 (((9 : Int32) + r4)).toNatClampNeg x2) 1 (((18 : Int32) + r4)).toNatClampNeg x3) 1 (((27 : Int32) + r4)).toNatClampNeg (0 : Int32))) (ms_1 ad cI cZ _ _ _) dX6_panel_85 (pc2 := 86) rfl (fun h => ?_)
          refine x_aload_n C dX6_panel_86 1 rfl (pc2 := 87) rfl ?_
          refine x_get C hiX6 0 (mc_0 ad cI cZ _) rfl 0 (by decide) f7 (v := .ref (ad 1)) rfl dX6_panel_87 (pc2 := 90) rfl ?_
          refine x_bipush (v := (72 : Int32)) C dX6_panel_90 (by decide) (pc2 := 92) rfl ?_
          refine x_dup2 C dX6_panel_92 rfl rfl (pc2 := 93) rfl ?_
          refine x_iald C h 1 0 (mc_1 ad cI cZ _) rfl dX6_panel_93 (pc2 := 94) rfl (fun h => ?_)
          refine x_iconst (v := (1 : Int32)) C dX6_panel_94 (by decide) (pc2 := 95) rfl ?_
          refine x_iadd C dX6_panel_95 (pc2 := 96) rfl ?_
          refine x_iast C h 1 0 (mc_1 ad cI cZ _) rfl (u2 := (put (put (put (put (put u4 1 (((0 : Int32) + r4)).toNatClampNeg x1) 1 (((9 : Int32) + r4)).toNatClampNeg x2) 1 (((18 : Int32) + r4)).toNatClampNeg x3) 1 (((27 : Int32) + r4)).toNatClampNeg (0 : Int32)) 1 ((72 : Int32)).toNatClampNeg (((put (put (put (put u4 1 (((0 : Int32) + r4)).toNatClampNeg x1) 1 (((9 : Int32) + r4)).toNatClampNeg x2) 1 (((18 : Int32) + r4)).toNatClampNeg x3) 1 (((27 : Int32) + r4)).toNatClampNeg (0 : Int32)) 1 ((72 : Int32)).toNatClampNeg) + (1 : Int32)))) (ms_1 ad cI cZ _ _ _) dX6_panel_96 (pc2 := 97) rfl (fun h => ?_)
          refine x_iload C dX6_panel_97 0 rfl (pc2 := 99) rfl ?_
          exact x_iret C hr hlocks h dX6_panel_99
        · refine x_bipush (v := (-4 : Int32)) C dX6_panel_40 (by decide) (pc2 := 42) rfl ?_
          exact x_iret C hr hlocks h dX6_panel_42
      · refine x_bipush (v := (-2 : Int32)) C dX6_panel_24 (by decide) (pc2 := 26) rfl ?_
        exact x_iret C hr hlocks h dX6_panel_26
set_option maxRecDepth 100000 in
set_option maxHeartbeats 4000000 in
theorem c_X6_pop (l : Launch) (D : va_G) (A : Nat → Prop) (ad : Nat → Nat) (cI cZ : ClassId) (u : Mem)  : Cti l yX6_pop wsX6_pop { frames := 1, cells := 0, slots := 0, locals := 20 } D A (MW ad cI cZ) [(cI, .int), (cZ, .boolean)] [.ref (ad 0)] u (e_X6_pop u ) := by
  intro r ur h
  refine Met.ofW (cc := cX6_pop) (maxL := 1) (ret := (some .int)) (by decide) rfl ?_
  intro p e s m args below meth c s₁ B hml hv
  obtain ⟨hav, hP, hK, hD⟩ := hv
  have C : Cx p m c cX6_pop 1 s args wsX6_pop RX6 D [(cI, .int), (cZ, .boolean)] := ⟨⟨B.exec, B.bytes, hml, findClass_of_methodNamed B.named, atoms_spec (ws := wsX6_pop) B.pre⟩, hK⟩
  have hr := B.returns
  have hlocks := B.notSynchronized
  have hiX6 : ∀ w ∈ wsX60, w ∈ wsX6_pop := by decide +kernel
  have f7 : Cond.fieldLink RX6 7 "PanelPagesModel" "state" "[I" ∈ wsX6_pop := by decide +kernel
  refine x_entry2 (lv := [(0, .ref (ad 0))]) hav hP hD (Nat.le_of_ble_eq_true rfl) rfl ?_
  unfold e_X6_pop at h
  refine x_aload_n C dX6_pop_0 0 rfl (pc2 := 1) rfl ?_
  refine x_callVi (As := []) (rest := []) (index := 47) (n := 0) C h (c_X6_many l D A ad cI cZ _ ) gX6_pop_X6_many rfl (by decide +kernel) rfl rfl ⟨Nat.le_of_ble_eq_true rfl, Nat.le_of_ble_eq_true rfl⟩ (ci := 6) rfl rfl (mc_0 ad cI cZ _) (MW_D ad cI cZ _) rfl rfl (Nat.le_of_ble_eq_true rfl) dX6_pop_1 (pc2 := 4) rfl (fun r1 u1 h => ?_)
  refine x_if_ne C h dX6_pop_4 (tgt := 10) (by decide) (pc2 := 7) rfl (fun h => ?_) (fun h => ?_)
  · refine x_aload_n C dX6_pop_10 0 rfl (pc2 := 11) rfl ?_
    refine x_get C hiX6 0 (mc_0 ad cI cZ _) rfl 0 (by decide) f7 (v := .ref (ad 1)) rfl dX6_pop_11 (pc2 := 14) rfl ?_
    refine x_bipush (v := (72 : Int32)) C dX6_pop_14 (by decide) (pc2 := 16) rfl ?_
    refine x_dup2 C dX6_pop_16 rfl rfl (pc2 := 17) rfl ?_
    refine x_iald C h 1 0 (mc_1 ad cI cZ _) rfl dX6_pop_17 (pc2 := 18) rfl (fun h => ?_)
    refine x_iconst (v := (1 : Int32)) C dX6_pop_18 (by decide) (pc2 := 19) rfl ?_
    refine x_isub C dX6_pop_19 (pc2 := 20) rfl ?_
    refine x_iast C h 1 0 (mc_1 ad cI cZ _) rfl (u2 := (put u1 1 ((72 : Int32)).toNatClampNeg ((u1 1 ((72 : Int32)).toNatClampNeg) - (1 : Int32)))) (ms_1 ad cI cZ _ _ _) dX6_pop_20 (pc2 := 21) rfl (fun h => ?_)
    refine x_aload_n C dX6_pop_21 0 rfl (pc2 := 22) rfl ?_
    refine x_get C hiX6 0 (mc_0 ad cI cZ _) rfl 0 (by decide) f7 (v := .ref (ad 1)) rfl dX6_pop_22 (pc2 := 25) rfl ?_
    refine x_bipush (v := (27 : Int32)) C dX6_pop_25 (by decide) (pc2 := 27) rfl ?_
    refine x_aload_n C dX6_pop_27 0 rfl (pc2 := 28) rfl ?_
    refine x_callVi (As := []) (rest := [.int (27 : Int32), .ref (ad 1)]) (index := 47) (n := 0) C h (c_X6_many l D A ad cI cZ _ ) gX6_pop_X6_many rfl (by decide +kernel) rfl rfl ⟨Nat.le_of_ble_eq_true rfl, Nat.le_of_ble_eq_true rfl⟩ (ci := 6) rfl rfl (mc_0 ad cI cZ _) (MW_D ad cI cZ _) rfl rfl (Nat.le_of_ble_eq_true rfl) dX6_pop_28 (pc2 := 31) rfl (fun r2 u2 h => ?_)
    refine x_iadd C dX6_pop_31 (pc2 := 32) rfl ?_
    refine x_iconst (v := (0 : Int32)) C dX6_pop_32 (by decide) (pc2 := 33) rfl ?_
    refine x_iast C h 1 0 (mc_1 ad cI cZ _) rfl (u2 := (put u2 1 (((27 : Int32) + r2)).toNatClampNeg (0 : Int32))) (ms_1 ad cI cZ _ _ _) dX6_pop_33 (pc2 := 34) rfl (fun h => ?_)
    refine x_aload_n C dX6_pop_34 0 rfl (pc2 := 35) rfl ?_
    refine x_callVi (As := []) (rest := []) (index := 47) (n := 0) C h (c_X6_many l D A ad cI cZ _ ) gX6_pop_X6_many rfl (by decide +kernel) rfl rfl ⟨Nat.le_of_ble_eq_true rfl, Nat.le_of_ble_eq_true rfl⟩ (ci := 6) rfl rfl (mc_0 ad cI cZ _) (MW_D ad cI cZ _) rfl rfl (Nat.le_of_ble_eq_true rfl) dX6_pop_35 (pc2 := 38) rfl (fun r3 u3 h => ?_)
    exact x_iret C hr hlocks h dX6_pop_38
  · refine x_bipush (v := (-5 : Int32)) C dX6_pop_7 (by decide) (pc2 := 9) rfl ?_
    exact x_iret C hr hlocks h dX6_pop_9
set_option maxRecDepth 100000 in
set_option maxHeartbeats 4000000 in
theorem c_X6_change (l : Launch) (D : va_G) (A : Nat → Prop) (ad : Nat → Nat) (cI cZ : ClassId) (u : Mem) (x1 : Int32) (x2 : Int32) (x3 : Int32) : Cti l yX6_change wsX6_change { frames := 2, cells := 0, slots := 0, locals := 43 } D A (MW ad cI cZ) [(cI, .int), (cZ, .boolean)] [.ref (ad 0), .int x1, .int x2, .int x3] u (e_X6_change u x1 x2 x3) := by
  intro r ur h
  refine Met.ofW (cc := cX6_change) (maxL := 5) (ret := (some .int)) (by decide) rfl ?_
  intro p e s m args below meth c s₁ B hml hv
  obtain ⟨hav, hP, hK, hD⟩ := hv
  have C : Cx p m c cX6_change 5 s args wsX6_change RX6 D [(cI, .int), (cZ, .boolean)] := ⟨⟨B.exec, B.bytes, hml, findClass_of_methodNamed B.named, atoms_spec (ws := wsX6_change) B.pre⟩, hK⟩
  have hr := B.returns
  have hlocks := B.notSynchronized
  have hiX6 : ∀ w ∈ wsX60, w ∈ wsX6_change := by decide +kernel
  have f7 : Cond.fieldLink RX6 7 "PanelPagesModel" "state" "[I" ∈ wsX6_change := by decide +kernel
  refine x_entry2 (lv := [(0, .ref (ad 0)), (1, .int x1), (2, .int x2), (3, .int x3)]) hav hP hD (Nat.le_of_ble_eq_true rfl) rfl ?_
  unfold e_X6_change at h
  refine x_aload_n C dX6_change_0 0 rfl (pc2 := 1) rfl ?_
  refine x_iload_n C dX6_change_1 1 rfl (pc2 := 2) rfl ?_
  refine x_callVi (As := [.int x1]) (rest := []) (index := 59) (n := 1) C h (c_X6_isPanel l D A ad cI cZ _ _) gX6_change_X6_isPanel rfl (by decide +kernel) rfl rfl ⟨Nat.le_of_ble_eq_true rfl, Nat.le_of_ble_eq_true rfl⟩ (ci := 6) rfl rfl (mc_0 ad cI cZ _) (MW_D ad cI cZ _) rfl rfl (Nat.le_of_ble_eq_true rfl) dX6_change_2 (pc2 := 5) rfl (fun r1 u1 h => ?_)
  refine x_if_ne C h dX6_change_5 (tgt := 10) (by decide) (pc2 := 8) rfl (fun h => ?_) (fun h => ?_)
  · refine x_iload_n C dX6_change_10 2 rfl (pc2 := 11) rfl ?_
    refine x_iconst (v := (0 : Int32)) C dX6_change_11 (by decide) (pc2 := 12) rfl ?_
    refine x_iconst (v := (2 : Int32)) C dX6_change_12 (by decide) (pc2 := 13) rfl ?_
    refine x_callSi (As := [.int x2, .int (0 : Int32), .int (2 : Int32)]) (rest := []) (index := 51) (n := 3) C h (c_X6_in l D A ad cI cZ _ _ _ _) gX6_change_X6_in rfl (by decide +kernel) rfl rfl ⟨Nat.le_of_ble_eq_true rfl, Nat.le_of_ble_eq_true rfl⟩ (MW_D ad cI cZ _) rfl rfl (Nat.le_of_ble_eq_true rfl) dX6_change_13 (pc2 := 16) rfl (fun r2 u2 h => ?_)
    refine x_if_eq C h dX6_change_16 (tgt := 27) (by decide) (pc2 := 19) rfl (fun h => ?_) (fun h => ?_)
    · refine x_bipush (v := (-2 : Int32)) C dX6_change_27 (by decide) (pc2 := 29) rfl ?_
      exact x_iret C hr hlocks h dX6_change_29
    · refine x_iload_n C dX6_change_19 2 rfl (pc2 := 20) rfl ?_
      refine x_iload_n C dX6_change_20 3 rfl (pc2 := 21) rfl ?_
      refine x_callSi (As := [.int x2, .int x3]) (rest := []) (index := 55) (n := 2) C h (c_X6_fits l D A ad cI cZ _ _ _) gX6_change_X6_fits rfl (by decide +kernel) rfl rfl ⟨Nat.le_of_ble_eq_true rfl, Nat.le_of_ble_eq_true rfl⟩ (MW_D ad cI cZ _) rfl rfl (Nat.le_of_ble_eq_true rfl) dX6_change_21 (pc2 := 24) rfl (fun r3 u3 h => ?_)
      refine x_if_ne C h dX6_change_24 (tgt := 30) (by decide) (pc2 := 27) rfl (fun h => ?_) (fun h => ?_)
      · refine x_aload_n C dX6_change_30 0 rfl (pc2 := 31) rfl ?_
        refine x_get C hiX6 0 (mc_0 ad cI cZ _) rfl 0 (by decide) f7 (v := .ref (ad 1)) rfl dX6_change_31 (pc2 := 34) rfl ?_
        refine x_bipush (v := (9 : Int32)) C dX6_change_34 (by decide) (pc2 := 36) rfl ?_
        refine x_iload_n C dX6_change_36 2 rfl (pc2 := 37) rfl ?_
        refine x_imul C dX6_change_37 (pc2 := 38) rfl ?_
        refine x_iload_n C dX6_change_38 1 rfl (pc2 := 39) rfl ?_
        refine x_iadd C dX6_change_39 (pc2 := 40) rfl ?_
        refine x_iald C h 1 0 (mc_1 ad cI cZ _) rfl dX6_change_40 (pc2 := 41) rfl (fun h => ?_)
        refine x_istore C dX6_change_41 (by decide) (lv2 := [(4, .int (u3 1 ((((9 : Int32) * x2) + x1)).toNatClampNeg)), (0, .ref (ad 0)), (1, .int x1), (2, .int x2), (3, .int x3)]) rfl (pc2 := 43) rfl ?_
        refine x_aload_n C dX6_change_43 1 rfl (pc2 := 44) rfl ?_
        refine x_get C hiX6 0 (mc_0 ad cI cZ _) rfl 0 (by decide) f7 (v := .ref (ad 1)) rfl dX6_change_44 (pc2 := 47) rfl ?_
        refine x_bipush (v := (9 : Int32)) C dX6_change_47 (by decide) (pc2 := 49) rfl ?_
        refine x_iload_n C dX6_change_49 3 rfl (pc2 := 50) rfl ?_
        refine x_imul C dX6_change_50 (pc2 := 51) rfl ?_
        refine x_iload_n C dX6_change_51 2 rfl (pc2 := 52) rfl ?_
        refine x_iadd C dX6_change_52 (pc2 := 53) rfl ?_
        refine x_iload_n C dX6_change_53 4 rfl (pc2 := 54) rfl ?_
        refine x_iast C h 1 0 (mc_1 ad cI cZ _) rfl (u2 := (put u3 1 ((((9 : Int32) * x2) + x1)).toNatClampNeg x3)) (ms_1 ad cI cZ _ _ _) dX6_change_54 (pc2 := 55) rfl (fun h => ?_)
        refine x_iload C dX6_change_55 0 rfl (pc2 := 57) rfl ?_
        exact x_iret C hr hlocks h dX6_change_57
      · refine x_bipush (v := (-2 : Int32)) C dX6_change_27 (by decide) (pc2 := 29) rfl ?_
        exact x_iret C hr hlocks h dX6_change_29
  · refine x_iconst (v := (-1 : Int32)) C dX6_change_8 (by decide) (pc2 := 9) rfl ?_
    exact x_iret C hr hlocks h dX6_change_9
set_option maxRecDepth 100000 in
set_option maxHeartbeats 4000000 in
theorem c_X6_high (l : Launch) (D : va_G) (A : Nat → Prop) (ad : Nat → Nat) (cI cZ : ClassId) (u : Mem) (x1 : Int32) : Cti l yX6_high wsX6_high { frames := 1, cells := 0, slots := 0, locals := 22 } D A (MW ad cI cZ) [(cI, .int), (cZ, .boolean)] [.ref (ad 0), .int x1] u (e_X6_high u x1) := by
  intro r ur h
  refine Met.ofW (cc := cX6_high) (maxL := 3) (ret := (some .int)) (by decide) rfl ?_
  intro p e s m args below meth c s₁ B hml hv
  obtain ⟨hav, hP, hK, hD⟩ := hv
  have C : Cx p m c cX6_high 3 s args wsX6_high RX6 D [(cI, .int), (cZ, .boolean)] := ⟨⟨B.exec, B.bytes, hml, findClass_of_methodNamed B.named, atoms_spec (ws := wsX6_high) B.pre⟩, hK⟩
  have hr := B.returns
  have hlocks := B.notSynchronized
  have hiX6 : ∀ w ∈ wsX60, w ∈ wsX6_high := by decide +kernel
  have f7 : Cond.fieldLink RX6 7 "PanelPagesModel" "state" "[I" ∈ wsX6_high := by decide +kernel
  refine x_entry2 (lv := [(0, .ref (ad 0)), (1, .int x1)]) hav hP hD (Nat.le_of_ble_eq_true rfl) rfl ?_
  unfold e_X6_high at h
  refine x_iload_n C dX6_high_0 1 rfl (pc2 := 1) rfl ?_
  refine x_bipush (v := (6 : Int32)) C dX6_high_1 (by decide) (pc2 := 3) rfl ?_
  refine x_bipush (v := (20 : Int32)) C dX6_high_3 (by decide) (pc2 := 5) rfl ?_
  refine x_callSi (As := [.int x1, .int (6 : Int32), .int (20 : Int32)]) (rest := []) (index := 51) (n := 3) C h (c_X6_in l D A ad cI cZ _ _ _ _) gX6_high_X6_in rfl (by decide +kernel) rfl rfl ⟨Nat.le_of_ble_eq_true rfl, Nat.le_of_ble_eq_true rfl⟩ (MW_D ad cI cZ _) rfl rfl (Nat.le_of_ble_eq_true rfl) dX6_high_5 (pc2 := 8) rfl (fun r1 u1 h => ?_)
  refine x_if_ne C h dX6_high_8 (tgt := 14) (by decide) (pc2 := 11) rfl (fun h => ?_) (fun h => ?_)
  · refine x_aload_n C dX6_high_14 0 rfl (pc2 := 15) rfl ?_
    refine x_get C hiX6 0 (mc_0 ad cI cZ _) rfl 0 (by decide) f7 (v := .ref (ad 1)) rfl dX6_high_15 (pc2 := 18) rfl ?_
    refine x_bipush (v := (73 : Int32)) C dX6_high_18 (by decide) (pc2 := 20) rfl ?_
    refine x_iald C h 1 0 (mc_1 ad cI cZ _) rfl dX6_high_20 (pc2 := 21) rfl (fun h => ?_)
    refine x_istore_n C dX6_high_21 (by decide) (lv2 := [(2, .int (u1 1 ((73 : Int32)).toNatClampNeg)), (0, .ref (ad 0)), (1, .int x1)]) rfl (pc2 := 22) rfl ?_
    refine x_aload_n C dX6_high_22 1 rfl (pc2 := 23) rfl ?_
    refine x_get C hiX6 0 (mc_0 ad cI cZ _) rfl 0 (by decide) f7 (v := .ref (ad 1)) rfl dX6_high_23 (pc2 := 26) rfl ?_
    refine x_bipush (v := (73 : Int32)) C dX6_high_26 (by decide) (pc2 := 28) rfl ?_
    refine x_iload_n C dX6_high_28 2 rfl (pc2 := 29) rfl ?_
    refine x_iast C h 1 0 (mc_1 ad cI cZ _) rfl (u2 := (put u1 1 ((73 : Int32)).toNatClampNeg x1)) (ms_1 ad cI cZ _ _ _) dX6_high_29 (pc2 := 30) rfl (fun h => ?_)
    refine x_iload_n C dX6_high_30 0 rfl (pc2 := 31) rfl ?_
    exact x_iret C hr hlocks h dX6_high_31
  · refine x_bipush (v := (-2 : Int32)) C dX6_high_11 (by decide) (pc2 := 13) rfl ?_
    exact x_iret C hr hlocks h dX6_high_13
set_option maxRecDepth 100000 in
set_option maxHeartbeats 4000000 in
theorem c_X6_of (l : Launch) (D : va_G) (A : Nat → Prop) (ad : Nat → Nat) (cI cZ : ClassId) (u : Mem) (x1 : Int32) (x2 : Int32) : Cti l yX6_of wsX6_of { frames := 2, cells := 0, slots := 0, locals := 43 } D A (MW ad cI cZ) [(cI, .int), (cZ, .boolean)] [.ref (ad 0), .int x1, .int x2] u (e_X6_of u x1 x2) := by
  intro r ur h
  refine Met.ofW (cc := cX6_of) (maxL := 3) (ret := (some .int)) (by decide) rfl ?_
  intro p e s m args below meth c s₁ B hml hv
  obtain ⟨hav, hP, hK, hD⟩ := hv
  have C : Cx p m c cX6_of 3 s args wsX6_of RX6 D [(cI, .int), (cZ, .boolean)] := ⟨⟨B.exec, B.bytes, hml, findClass_of_methodNamed B.named, atoms_spec (ws := wsX6_of) B.pre⟩, hK⟩
  have hr := B.returns
  have hlocks := B.notSynchronized
  have hiX6 : ∀ w ∈ wsX60, w ∈ wsX6_of := by decide +kernel
  have f7 : Cond.fieldLink RX6 7 "PanelPagesModel" "state" "[I" ∈ wsX6_of := by decide +kernel
  refine x_entry2 (lv := [(0, .ref (ad 0)), (1, .int x1), (2, .int x2)]) hav hP hD (Nat.le_of_ble_eq_true rfl) rfl ?_
  unfold e_X6_of at h
  refine x_aload_n C dX6_of_0 0 rfl (pc2 := 1) rfl ?_
  refine x_iload_n C dX6_of_1 1 rfl (pc2 := 2) rfl ?_
  refine x_callVi (As := [.int x1]) (rest := []) (index := 59) (n := 1) C h (c_X6_isPanel l D A ad cI cZ _ _) gX6_of_X6_isPanel rfl (by decide +kernel) rfl rfl ⟨Nat.le_of_ble_eq_true rfl, Nat.le_of_ble_eq_true rfl⟩ (ci := 6) rfl rfl (mc_0 ad cI cZ _) (MW_D ad cI cZ _) rfl rfl (Nat.le_of_ble_eq_true rfl) dX6_of_2 (pc2 := 5) rfl (fun r1 u1 h => ?_)
  refine x_if_ne C h dX6_of_5 (tgt := 10) (by decide) (pc2 := 8) rfl (fun h => ?_) (fun h => ?_)
  · refine x_iload_n C dX6_of_10 2 rfl (pc2 := 11) rfl ?_
    refine x_iconst (v := (0 : Int32)) C dX6_of_11 (by decide) (pc2 := 12) rfl ?_
    refine x_iconst (v := (3 : Int32)) C dX6_of_12 (by decide) (pc2 := 13) rfl ?_
    refine x_callSi (As := [.int x2, .int (0 : Int32), .int (3 : Int32)]) (rest := []) (index := 51) (n := 3) C h (c_X6_in l D A ad cI cZ _ _ _ _) gX6_of_X6_in rfl (by decide +kernel) rfl rfl ⟨Nat.le_of_ble_eq_true rfl, Nat.le_of_ble_eq_true rfl⟩ (MW_D ad cI cZ _) rfl rfl (Nat.le_of_ble_eq_true rfl) dX6_of_13 (pc2 := 16) rfl (fun r2 u2 h => ?_)
    refine x_if_eq C h dX6_of_16 (tgt := 33) (by decide) (pc2 := 19) rfl (fun h => ?_) (fun h => ?_)
    · refine x_bipush (v := (-2 : Int32)) C dX6_of_33 (by decide) (pc2 := 35) rfl ?_
      exact x_iret C hr hlocks h dX6_of_35
    · refine x_aload_n C dX6_of_19 0 rfl (pc2 := 20) rfl ?_
      refine x_get C hiX6 0 (mc_0 ad cI cZ _) rfl 0 (by decide) f7 (v := .ref (ad 1)) rfl dX6_of_20 (pc2 := 23) rfl ?_
      refine x_bipush (v := (9 : Int32)) C dX6_of_23 (by decide) (pc2 := 25) rfl ?_
      refine x_iload_n C dX6_of_25 2 rfl (pc2 := 26) rfl ?_
      refine x_imul C dX6_of_26 (pc2 := 27) rfl ?_
      refine x_iload_n C dX6_of_27 1 rfl (pc2 := 28) rfl ?_
      refine x_iadd C dX6_of_28 (pc2 := 29) rfl ?_
      refine x_iald C h 1 0 (mc_1 ad cI cZ _) rfl dX6_of_29 (pc2 := 30) rfl (fun h => ?_)
      refine x_goto C dX6_of_30 (pc2 := 35) (by decide) ?_
      exact x_iret C hr hlocks h dX6_of_35
  · refine x_iconst (v := (-1 : Int32)) C dX6_of_8 (by decide) (pc2 := 9) rfl ?_
    exact x_iret C hr hlocks h dX6_of_9
set_option maxRecDepth 100000 in
set_option maxHeartbeats 4000000 in
theorem c_X6_heightOf (l : Launch) (D : va_G) (A : Nat → Prop) (ad : Nat → Nat) (cI cZ : ClassId) (u : Mem) (x1 : Int32) (x2 : Int32) : Cti l yX6_heightOf wsX6_heightOf { frames := 0, cells := 0, slots := 0, locals := 0 } D A (MW ad cI cZ) [(cI, .int), (cZ, .boolean)] [.ref (ad 0), .int x1, .int x2] u (e_X6_heightOf u x1 x2) := by
  intro r ur h
  refine Met.ofW (cc := cX6_heightOf) (maxL := 5) (ret := (some .int)) (by decide) rfl ?_
  intro p e s m args below meth c s₁ B hml hv
  obtain ⟨hav, hP, hK, hD⟩ := hv
  have C : Cx p m c cX6_heightOf 5 s args wsX6_heightOf RX6 D [(cI, .int), (cZ, .boolean)] := ⟨⟨B.exec, B.bytes, hml, findClass_of_methodNamed B.named, atoms_spec (ws := wsX6_heightOf) B.pre⟩, hK⟩
  have hr := B.returns
  have hlocks := B.notSynchronized
  have hiX6 : ∀ w ∈ wsX60, w ∈ wsX6_heightOf := by decide +kernel
  have f7 : Cond.fieldLink RX6 7 "PanelPagesModel" "state" "[I" ∈ wsX6_heightOf := by decide +kernel
  refine x_entry2 (lv := [(0, .ref (ad 0)), (1, .int x1), (2, .int x2)]) hav hP hD (Nat.le_of_ble_eq_true rfl) rfl ?_
  unfold e_X6_heightOf at h
  have J41 : ∀ (k5 : Mem → Int32 → Int32 → Int32 → Int32 → Option (Int32 × Mem)), (∀ (u : Mem) (x1 : Int32) (x2 : Int32) (x3 : Int32) (x4 : Int32), k5 u x1 x2 x3 x4 = some (r, ur) → Wx p l e (headSpec wsX6_heightOf { frames := 0, cells := 0, slots := 0, locals := 0 }).room s m args below meth c (MQ below (Qix D A (MW ad cI cZ) r ur) args s 0 0 A) D A 5 (MW ad cI cZ) u 5 [(0, .ref (ad 0)), (1, .int x1), (2, .int x2), (3, .int x3), (4, .int x4)] []) → ∀ (u : Mem) (x1 : Int32) (x2 : Int32) (x4 : Int32) (s0 : Int32), e_X6_heightOf_J41 k5 u x1 x2 x4 s0 = some (r, ur) → Wx p l e (headSpec wsX6_heightOf { frames := 0, cells := 0, slots := 0, locals := 0 }).room s m args below meth c (MQ below (Qix D A (MW ad cI cZ) r ur) args s 0 0 A) D A 5 (MW ad cI cZ) u 41 [(0, .ref (ad 0)), (1, .int x1), (2, .int x2), (4, .int x4)] [.int s0] := by
    intro k5 hk5 
    intro u x1 x2 x4 s0 h
    unfold e_X6_heightOf_J41 at h
    refine x_istore_n C dX6_heightOf_41 (by decide) (lv2 := [(3, .int s0), (0, .ref (ad 0)), (1, .int x1), (2, .int x2), (4, .int x4)]) rfl (pc2 := 42) rfl ?_
    refine x_iinc C dX6_heightOf_42 4 rfl (1 : Int32) (by decide) rfl (by decide) (lv2 := [(4, .int (x4 + (1 : Int32))), (3, .int s0), (0, .ref (ad 0)), (1, .int x1), (2, .int x2)]) rfl (pc2 := 45) rfl ?_
    refine x_goto C dX6_heightOf_45 (pc2 := 5) (by decide) ?_
    refine x_sub [2, 3, 4, 1, 0] (lv2 := [(0, .ref (ad 0)), (1, .int x1), (2, .int x2), (3, .int s0), (4, .int (x4 + (1 : Int32)))]) rfl ?_
    exact hk5 _ _ _ _ _ h
  have J5 : ∀ (f : Nat) (u : Mem) (x1 : Int32) (x2 : Int32) (x3 : Int32) (x4 : Int32), e_X6_heightOf_L5 f u x1 x2 x3 x4 = some (r, ur) → Wx p l e (headSpec wsX6_heightOf { frames := 0, cells := 0, slots := 0, locals := 0 }).room s m args below meth c (MQ below (Qix D A (MW ad cI cZ) r ur) args s 0 0 A) D A 5 (MW ad cI cZ) u 5 [(0, .ref (ad 0)), (1, .int x1), (2, .int x2), (3, .int x3), (4, .int x4)] [] := by
    intro f
    induction f with
    | zero => intro u x1 x2 x3 x4 h; cases h
    | succ f ih =>
      intro u x1 x2 x3 x4 h
      replace h : e_X6_heightOf_L5_b (e_X6_heightOf_L5 f) u x1 x2 x3 x4 = some (r, ur) := h
      unfold e_X6_heightOf_L5_b at h
      refine x_iload C dX6_heightOf_5 4 rfl (pc2 := 7) rfl ?_
      refine x_iload_n C dX6_heightOf_7 1 rfl (pc2 := 8) rfl ?_
      refine x_iload_n C dX6_heightOf_8 2 rfl (pc2 := 9) rfl ?_
      refine x_iadd C dX6_heightOf_9 (pc2 := 10) rfl ?_
      refine x_icmp_ge C h dX6_heightOf_10 (tgt := 48) (by decide) (pc2 := 13) rfl (fun h => ?_) (fun h => ?_)
      · refine x_iload_n C dX6_heightOf_48 3 rfl (pc2 := 49) rfl ?_
        exact x_iret C hr hlocks h dX6_heightOf_49
      · refine x_aload_n C dX6_heightOf_13 0 rfl (pc2 := 14) rfl ?_
        refine x_get C hiX6 0 (mc_0 ad cI cZ _) rfl 0 (by decide) f7 (v := .ref (ad 1)) rfl dX6_heightOf_14 (pc2 := 17) rfl ?_
        refine x_bipush (v := (9 : Int32)) C dX6_heightOf_17 (by decide) (pc2 := 19) rfl ?_
        refine x_iload C dX6_heightOf_19 4 rfl (pc2 := 21) rfl ?_
        refine x_iadd C dX6_heightOf_21 (pc2 := 22) rfl ?_
        refine x_iald C h 1 0 (mc_1 ad cI cZ _) rfl dX6_heightOf_22 (pc2 := 23) rfl (fun h => ?_)
        refine x_iload_n C dX6_heightOf_23 3 rfl (pc2 := 24) rfl ?_
        refine x_icmp_le C h dX6_heightOf_24 (tgt := 40) (by decide) (pc2 := 27) rfl (fun h => ?_) (fun h => ?_)
        · refine x_iload_n C dX6_heightOf_40 3 rfl (pc2 := 41) rfl ?_
          refine x_sub [0, 1, 2, 4] (lv2 := [(0, .ref (ad 0)), (1, .int x1), (2, .int x2), (4, .int x4)]) rfl ?_
          exact J41 (e_X6_heightOf_L5 f) ih _ _ _ _ _ h
        · refine x_aload_n C dX6_heightOf_27 0 rfl (pc2 := 28) rfl ?_
          refine x_get C hiX6 0 (mc_0 ad cI cZ _) rfl 0 (by decide) f7 (v := .ref (ad 1)) rfl dX6_heightOf_28 (pc2 := 31) rfl ?_
          refine x_bipush (v := (9 : Int32)) C dX6_heightOf_31 (by decide) (pc2 := 33) rfl ?_
          refine x_iload C dX6_heightOf_33 4 rfl (pc2 := 35) rfl ?_
          refine x_iadd C dX6_heightOf_35 (pc2 := 36) rfl ?_
          refine x_iald C h 1 0 (mc_1 ad cI cZ _) rfl dX6_heightOf_36 (pc2 := 37) rfl (fun h => ?_)
          refine x_goto C dX6_heightOf_37 (pc2 := 41) (by decide) ?_
          refine x_sub [0, 1, 2, 4] (lv2 := [(0, .ref (ad 0)), (1, .int x1), (2, .int x2), (4, .int x4)]) rfl ?_
          exact J41 (e_X6_heightOf_L5 f) ih _ _ _ _ _ h
  refine x_iconst (v := (0 : Int32)) C dX6_heightOf_0 (by decide) (pc2 := 1) rfl ?_
  refine x_istore_n C dX6_heightOf_1 (by decide) (lv2 := [(3, .int (0 : Int32)), (0, .ref (ad 0)), (1, .int x1), (2, .int x2)]) rfl (pc2 := 2) rfl ?_
  refine x_iload_n C dX6_heightOf_2 2 rfl (pc2 := 3) rfl ?_
  refine x_istore C dX6_heightOf_3 (by decide) (lv2 := [(4, .int x1), (3, .int (0 : Int32)), (0, .ref (ad 0)), (1, .int x1), (2, .int x2)]) rfl (pc2 := 5) rfl ?_
  refine x_sub [2, 3, 4, 1, 0] (lv2 := [(0, .ref (ad 0)), (1, .int x1), (2, .int x2), (3, .int (0 : Int32)), (4, .int x1)]) rfl ?_
  exact J5 FU _ _ _ _ _ h
set_option maxRecDepth 100000 in
set_option maxHeartbeats 4000000 in
theorem c_X6_gapsOf (l : Launch) (D : va_G) (A : Nat → Prop) (ad : Nat → Nat) (cI cZ : ClassId) (u : Mem) (x1 : Int32) (x2 : Int32) : Cti l yX6_gapsOf wsX6_gapsOf { frames := 1, cells := 0, slots := 0, locals := 24 } D A (MW ad cI cZ) [(cI, .int), (cZ, .boolean)] [.ref (ad 0), .int x1, .int x2] u (e_X6_gapsOf u x1 x2) := by
  intro r ur h
  refine Met.ofW (cc := cX6_gapsOf) (maxL := 6) (ret := (some .int)) (by decide) rfl ?_
  intro p e s m args below meth c s₁ B hml hv
  obtain ⟨hav, hP, hK, hD⟩ := hv
  have C : Cx p m c cX6_gapsOf 6 s args wsX6_gapsOf RX6 D [(cI, .int), (cZ, .boolean)] := ⟨⟨B.exec, B.bytes, hml, findClass_of_methodNamed B.named, atoms_spec (ws := wsX6_gapsOf) B.pre⟩, hK⟩
  have hr := B.returns
  have hlocks := B.notSynchronized
  have hiX6 : ∀ w ∈ wsX60, w ∈ wsX6_gapsOf := by decide +kernel
  have f7 : Cond.fieldLink RX6 7 "PanelPagesModel" "state" "[I" ∈ wsX6_gapsOf := by decide +kernel
  refine x_entry2 (lv := [(0, .ref (ad 0)), (1, .int x1), (2, .int x2)]) hav hP hD (Nat.le_of_ble_eq_true rfl) rfl ?_
  unfold e_X6_gapsOf at h
  have J13 : ∀ (f : Nat) (u : Mem) (x1 : Int32) (x2 : Int32) (x3 : Int32) (x4 : Int32) (x5 : Int32), e_X6_gapsOf_L13 f u x1 x2 x3 x4 x5 = some (r, ur) → Wx p l e (headSpec wsX6_gapsOf { frames := 1, cells := 0, slots := 0, locals := 24 }).room s m args below meth c (MQ below (Qix D A (MW ad cI cZ) r ur) args s 0 0 A) D A 6 (MW ad cI cZ) u 13 [(0, .ref (ad 0)), (1, .int x1), (2, .int x2), (3, .int x3), (4, .int x4), (5, .int x5)] [] := by
    intro f
    induction f with
    | zero => intro u x1 x2 x3 x4 x5 h; cases h
    | succ f ih =>
      intro u x1 x2 x3 x4 x5 h
      replace h : e_X6_gapsOf_L13_b (e_X6_gapsOf_L13 f) u x1 x2 x3 x4 x5 = some (r, ur) := h
      unfold e_X6_gapsOf_L13_b at h
      refine x_iload C dX6_gapsOf_13 5 rfl (pc2 := 15) rfl ?_
      refine x_iload_n C dX6_gapsOf_15 1 rfl (pc2 := 16) rfl ?_
      refine x_iload_n C dX6_gapsOf_16 2 rfl (pc2 := 17) rfl ?_
      refine x_iadd C dX6_gapsOf_17 (pc2 := 18) rfl ?_
      refine x_icmp_ge C h dX6_gapsOf_18 (tgt := 44) (by decide) (pc2 := 21) rfl (fun h => ?_) (fun h => ?_)
      · refine x_iload C dX6_gapsOf_44 4 rfl (pc2 := 46) rfl ?_
        exact x_iret C hr hlocks h dX6_gapsOf_46
      · refine x_iload C dX6_gapsOf_21 4 rfl (pc2 := 23) rfl ?_
        refine x_iload_n C dX6_gapsOf_23 3 rfl (pc2 := 24) rfl ?_
        refine x_aload_n C dX6_gapsOf_24 0 rfl (pc2 := 25) rfl ?_
        refine x_get C hiX6 0 (mc_0 ad cI cZ _) rfl 0 (by decide) f7 (v := .ref (ad 1)) rfl dX6_gapsOf_25 (pc2 := 28) rfl ?_
        refine x_bipush (v := (9 : Int32)) C dX6_gapsOf_28 (by decide) (pc2 := 30) rfl ?_
        refine x_iload C dX6_gapsOf_30 5 rfl (pc2 := 32) rfl ?_
        refine x_iadd C dX6_gapsOf_32 (pc2 := 33) rfl ?_
        refine x_iald C h 1 0 (mc_1 ad cI cZ _) rfl dX6_gapsOf_33 (pc2 := 34) rfl (fun h => ?_)
        refine x_isub C dX6_gapsOf_34 (pc2 := 35) rfl ?_
        refine x_iadd C dX6_gapsOf_35 (pc2 := 36) rfl ?_
        refine x_istore C dX6_gapsOf_36 (by decide) (lv2 := [(4, .int (x4 + (x3 - (u 1 (((9 : Int32) + x5)).toNatClampNeg)))), (0, .ref (ad 0)), (1, .int x1), (2, .int x2), (3, .int x3), (5, .int x5)]) rfl (pc2 := 38) rfl ?_
        refine x_iinc C dX6_gapsOf_38 5 rfl (1 : Int32) (by decide) rfl (by decide) (lv2 := [(5, .int (x5 + (1 : Int32))), (4, .int (x4 + (x3 - (u 1 (((9 : Int32) + x5)).toNatClampNeg)))), (0, .ref (ad 0)), (1, .int x1), (2, .int x2), (3, .int x3)]) rfl (pc2 := 41) rfl ?_
        refine x_goto C dX6_gapsOf_41 (pc2 := 13) (by decide) ?_
        refine x_sub [2, 3, 4, 5, 1, 0] (lv2 := [(0, .ref (ad 0)), (1, .int x1), (2, .int x2), (3, .int x3), (4, .int (x4 + (x3 - (u 1 (((9 : Int32) + x5)).toNatClampNeg)))), (5, .int (x5 + (1 : Int32)))]) rfl ?_
        exact ih _ _ _ _ _ _ h
  refine x_aload_n C dX6_gapsOf_0 0 rfl (pc2 := 1) rfl ?_
  refine x_iload_n C dX6_gapsOf_1 1 rfl (pc2 := 2) rfl ?_
  refine x_iload_n C dX6_gapsOf_2 2 rfl (pc2 := 3) rfl ?_
  refine x_callVi (As := [.int x1, .int x2]) (rest := []) (index := 63) (n := 2) C h (c_X6_heightOf l D A ad cI cZ _ _ _) gX6_gapsOf_X6_heightOf rfl (by decide +kernel) rfl rfl ⟨Nat.le_of_ble_eq_true rfl, Nat.le_of_ble_eq_true rfl⟩ (ci := 6) rfl rfl (mc_0 ad cI cZ _) (MW_D ad cI cZ _) rfl rfl (Nat.le_of_ble_eq_true rfl) dX6_gapsOf_3 (pc2 := 6) rfl (fun r1 u1 h => ?_)
  refine x_istore_n C dX6_gapsOf_6 (by decide) (lv2 := [(3, .int r1), (0, .ref (ad 0)), (1, .int x1), (2, .int x2)]) rfl (pc2 := 7) rfl ?_
  refine x_iconst (v := (0 : Int32)) C dX6_gapsOf_7 (by decide) (pc2 := 8) rfl ?_
  refine x_istore C dX6_gapsOf_8 (by decide) (lv2 := [(4, .int (0 : Int32)), (3, .int r1), (0, .ref (ad 0)), (1, .int x1), (2, .int x2)]) rfl (pc2 := 10) rfl ?_
  refine x_iload_n C dX6_gapsOf_10 3 rfl (pc2 := 11) rfl ?_
  refine x_istore C dX6_gapsOf_11 (by decide) (lv2 := [(5, .int x1), (4, .int (0 : Int32)), (3, .int r1), (0, .ref (ad 0)), (1, .int x1), (2, .int x2)]) rfl (pc2 := 13) rfl ?_
  refine x_sub [3, 4, 5, 2, 1, 0] (lv2 := [(0, .ref (ad 0)), (1, .int x1), (2, .int x2), (3, .int r1), (4, .int (0 : Int32)), (5, .int x1)]) rfl ?_
  exact J13 FU _ _ _ _ _ _ h
set_option maxRecDepth 100000 in
set_option maxHeartbeats 4000000 in
theorem c_X6_nextWider (l : Launch) (D : va_G) (A : Nat → Prop) (ad : Nat → Nat) (cI cZ : ClassId) (u : Mem) (x1 : Int32) : Cti l yX6_nextWider wsX6_nextWider { frames := 0, cells := 0, slots := 0, locals := 0 } D A (MW ad cI cZ) [(cI, .int), (cZ, .boolean)] [.ref (ad 0), .int x1] u (e_X6_nextWider u x1) := by
  intro r ur h
  refine Met.ofW (cc := cX6_nextWider) (maxL := 4) (ret := (some .int)) (by decide) rfl ?_
  intro p e s m args below meth c s₁ B hml hv
  obtain ⟨hav, hP, hK, hD⟩ := hv
  have C : Cx p m c cX6_nextWider 4 s args wsX6_nextWider RX6 D [(cI, .int), (cZ, .boolean)] := ⟨⟨B.exec, B.bytes, hml, findClass_of_methodNamed B.named, atoms_spec (ws := wsX6_nextWider) B.pre⟩, hK⟩
  have hr := B.returns
  have hlocks := B.notSynchronized
  have hiX6 : ∀ w ∈ wsX60, w ∈ wsX6_nextWider := by decide +kernel
  have f26 : Cond.fieldLink RX6 26 "PanelPagesModel" "cutOff" "[I" ∈ wsX6_nextWider := by decide +kernel
  refine x_entry2 (lv := [(0, .ref (ad 0)), (1, .int x1)]) hav hP hD (Nat.le_of_ble_eq_true rfl) rfl ?_
  unfold e_X6_nextWider at h
  have J29 : ∀ (k4 : Mem → Int32 → Int32 → Int32 → Option (Int32 × Mem)), (∀ (u : Mem) (x1 : Int32) (x2 : Int32) (x3 : Int32), k4 u x1 x2 x3 = some (r, ur) → Wx p l e (headSpec wsX6_nextWider { frames := 0, cells := 0, slots := 0, locals := 0 }).room s m args below meth c (MQ below (Qix D A (MW ad cI cZ) r ur) args s 0 0 A) D A 4 (MW ad cI cZ) u 4 [(0, .ref (ad 0)), (1, .int x1), (2, .int x2), (3, .int x3)] []) → ∀ (u : Mem) (x1 : Int32) (x3 : Int32) (s0 : Int32), e_X6_nextWider_J29 k4 u x1 x3 s0 = some (r, ur) → Wx p l e (headSpec wsX6_nextWider { frames := 0, cells := 0, slots := 0, locals := 0 }).room s m args below meth c (MQ below (Qix D A (MW ad cI cZ) r ur) args s 0 0 A) D A 4 (MW ad cI cZ) u 29 [(0, .ref (ad 0)), (1, .int x1), (3, .int x3)] [.int s0] := by
    intro k4 hk4 
    intro u x1 x3 s0 h
    unfold e_X6_nextWider_J29 at h
    refine x_istore_n C dX6_nextWider_29 (by decide) (lv2 := [(2, .int s0), (0, .ref (ad 0)), (1, .int x1), (3, .int x3)]) rfl (pc2 := 30) rfl ?_
    refine x_iinc C dX6_nextWider_30 3 rfl (1 : Int32) (by decide) rfl (by decide) (lv2 := [(3, .int (x3 + (1 : Int32))), (2, .int s0), (0, .ref (ad 0)), (1, .int x1)]) rfl (pc2 := 33) rfl ?_
    refine x_goto C dX6_nextWider_33 (pc2 := 4) (by decide) ?_
    refine x_sub [2, 3, 1, 0] (lv2 := [(0, .ref (ad 0)), (1, .int x1), (2, .int s0), (3, .int (x3 + (1 : Int32)))]) rfl ?_
    exact hk4 _ _ _ _ h
  have J4 : ∀ (f : Nat) (u : Mem) (x1 : Int32) (x2 : Int32) (x3 : Int32), e_X6_nextWider_L4 f u x1 x2 x3 = some (r, ur) → Wx p l e (headSpec wsX6_nextWider { frames := 0, cells := 0, slots := 0, locals := 0 }).room s m args below meth c (MQ below (Qix D A (MW ad cI cZ) r ur) args s 0 0 A) D A 4 (MW ad cI cZ) u 4 [(0, .ref (ad 0)), (1, .int x1), (2, .int x2), (3, .int x3)] [] := by
    intro f
    induction f with
    | zero => intro u x1 x2 x3 h; cases h
    | succ f ih =>
      intro u x1 x2 x3 h
      replace h : e_X6_nextWider_L4_b (e_X6_nextWider_L4 f) u x1 x2 x3 = some (r, ur) := h
      unfold e_X6_nextWider_L4_b at h
      refine x_iload_n C dX6_nextWider_4 3 rfl (pc2 := 5) rfl ?_
      refine x_iload_n C dX6_nextWider_5 1 rfl (pc2 := 6) rfl ?_
      refine x_icmp_ge C h dX6_nextWider_6 (tgt := 36) (by decide) (pc2 := 9) rfl (fun h => ?_) (fun h => ?_)
      · refine x_iload_n C dX6_nextWider_36 2 rfl (pc2 := 37) rfl ?_
        exact x_iret C hr hlocks h dX6_nextWider_37
      · refine x_aload_n C dX6_nextWider_9 0 rfl (pc2 := 10) rfl ?_
        refine x_get C hiX6 0 (mc_0 ad cI cZ _) rfl 6 (by decide) f26 (v := .ref (ad 6)) rfl dX6_nextWider_10 (pc2 := 13) rfl ?_
        refine x_iload_n C dX6_nextWider_13 3 rfl (pc2 := 14) rfl ?_
        refine x_iald C h 6 0 (mc_6 ad cI cZ _) rfl dX6_nextWider_14 (pc2 := 15) rfl (fun h => ?_)
        refine x_aload_n C dX6_nextWider_15 0 rfl (pc2 := 16) rfl ?_
        refine x_get C hiX6 0 (mc_0 ad cI cZ _) rfl 6 (by decide) f26 (v := .ref (ad 6)) rfl dX6_nextWider_16 (pc2 := 19) rfl ?_
        refine x_iload_n C dX6_nextWider_19 2 rfl (pc2 := 20) rfl ?_
        refine x_iald C h 6 0 (mc_6 ad cI cZ _) rfl dX6_nextWider_20 (pc2 := 21) rfl (fun h => ?_)
        refine x_icmp_le C h dX6_nextWider_21 (tgt := 28) (by decide) (pc2 := 24) rfl (fun h => ?_) (fun h => ?_)
        · refine x_iload_n C dX6_nextWider_28 2 rfl (pc2 := 29) rfl ?_
          refine x_sub [0, 1, 3] (lv2 := [(0, .ref (ad 0)), (1, .int x1), (3, .int x3)]) rfl ?_
          exact J29 (e_X6_nextWider_L4 f) ih _ _ _ _ h
        · refine x_iload_n C dX6_nextWider_24 3 rfl (pc2 := 25) rfl ?_
          refine x_goto C dX6_nextWider_25 (pc2 := 29) (by decide) ?_
          refine x_sub [0, 1, 3] (lv2 := [(0, .ref (ad 0)), (1, .int x1), (3, .int x3)]) rfl ?_
          exact J29 (e_X6_nextWider_L4 f) ih _ _ _ _ h
  refine x_iconst (v := (0 : Int32)) C dX6_nextWider_0 (by decide) (pc2 := 1) rfl ?_
  refine x_istore_n C dX6_nextWider_1 (by decide) (lv2 := [(2, .int (0 : Int32)), (0, .ref (ad 0)), (1, .int x1)]) rfl (pc2 := 2) rfl ?_
  refine x_iconst (v := (1 : Int32)) C dX6_nextWider_2 (by decide) (pc2 := 3) rfl ?_
  refine x_istore_n C dX6_nextWider_3 (by decide) (lv2 := [(3, .int (1 : Int32)), (2, .int (0 : Int32)), (0, .ref (ad 0)), (1, .int x1)]) rfl (pc2 := 4) rfl ?_
  refine x_sub [2, 3, 1, 0] (lv2 := [(0, .ref (ad 0)), (1, .int x1), (2, .int (0 : Int32)), (3, .int (1 : Int32))]) rfl ?_
  exact J4 FU _ _ _ _ h
set_option maxRecDepth 100000 in
set_option maxHeartbeats 4000000 in
theorem c_X6_layWidths (l : Launch) (D : va_G) (A : Nat → Prop) (ad : Nat → Nat) (cI cZ : ClassId) (u : Mem) (x1 : Int32) (x2 : Int32) : Ctv l yX6_layWidths wsX6_layWidths { frames := 1, cells := 0, slots := 0, locals := 23 } D A (MW ad cI cZ) [(cI, .int), (cZ, .boolean)] [.ref (ad 0), .int x1, .int x2] u (e_X6_layWidths u x1 x2) := by
  intro ur h
  refine Met.ofW (cc := cX6_layWidths) (maxL := 7) (ret := none) (by decide) rfl ?_
  intro p e s m args below meth c s₁ B hml hv
  obtain ⟨hav, hP, hK, hD⟩ := hv
  have C : Cx p m c cX6_layWidths 7 s args wsX6_layWidths RX6 D [(cI, .int), (cZ, .boolean)] := ⟨⟨B.exec, B.bytes, hml, findClass_of_methodNamed B.named, atoms_spec (ws := wsX6_layWidths) B.pre⟩, hK⟩
  have hr := B.returns
  have hlocks := B.notSynchronized
  have hiX6 : ∀ w ∈ wsX60, w ∈ wsX6_layWidths := by decide +kernel
  have f23 : Cond.fieldLink RX6 23 "PanelPagesModel" "width" "[I" ∈ wsX6_layWidths := by decide +kernel
  have f26 : Cond.fieldLink RX6 26 "PanelPagesModel" "cutOff" "[I" ∈ wsX6_layWidths := by decide +kernel
  have f7 : Cond.fieldLink RX6 7 "PanelPagesModel" "state" "[I" ∈ wsX6_layWidths := by decide +kernel
  refine x_entry2 (lv := [(0, .ref (ad 0)), (1, .int x1), (2, .int x2)]) hav hP hD (Nat.le_of_ble_eq_true rfl) rfl ?_
  unfold e_X6_layWidths at h
  have J100 : ∀ (f : Nat) (u : Mem) (x2 : Int32) (x4 : Int32), e_X6_layWidths_L100 f u x2 x4 = some ur → Wx p l e (headSpec wsX6_layWidths { frames := 1, cells := 0, slots := 0, locals := 23 }).room s m args below meth c (MQ below (Qvx D A (MW ad cI cZ) ur) args s 0 0 A) D A 7 (MW ad cI cZ) u 100 [(0, .ref (ad 0)), (2, .int x2), (4, .int x4)] [] := by
    intro f
    induction f with
    | zero => intro u x2 x4 h; cases h
    | succ f ih =>
      intro u x2 x4 h
      replace h : e_X6_layWidths_L100_b (e_X6_layWidths_L100 f) u x2 x4 = some ur := h
      unfold e_X6_layWidths_L100_b at h
      refine x_iload C dX6_layWidths_100 2 rfl (pc2 := 102) rfl ?_
      refine x_if_le C h dX6_layWidths_102 (tgt := 137) (by decide) (pc2 := 105) rfl (fun h => ?_) (fun h => ?_)
      · exact x_vret C hr hlocks h dX6_layWidths_137
      · refine x_aload_n C dX6_layWidths_105 0 rfl (pc2 := 106) rfl ?_
        refine x_iload_n C dX6_layWidths_106 1 rfl (pc2 := 107) rfl ?_
        refine x_callVi (As := [.int x2]) (rest := []) (index := 67) (n := 1) C h (c_X6_nextWider l D A ad cI cZ _ _) gX6_layWidths_X6_nextWider rfl (by decide +kernel) rfl rfl ⟨Nat.le_of_ble_eq_true rfl, Nat.le_of_ble_eq_true rfl⟩ (ci := 6) rfl rfl (mc_0 ad cI cZ _) (MW_D ad cI cZ _) rfl rfl (Nat.le_of_ble_eq_true rfl) dX6_layWidths_107 (pc2 := 110) rfl (fun r1 u1 h => ?_)
        refine x_istore C dX6_layWidths_110 (by decide) (lv2 := [(5, .int r1), (0, .ref (ad 0)), (2, .int x2), (4, .int x4)]) rfl (pc2 := 112) rfl ?_
        refine x_aload_n C dX6_layWidths_112 1 rfl (pc2 := 113) rfl ?_
        refine x_get C hiX6 0 (mc_0 ad cI cZ _) rfl 5 (by decide) f23 (v := .ref (ad 5)) rfl dX6_layWidths_113 (pc2 := 116) rfl ?_
        refine x_iload C dX6_layWidths_116 0 rfl (pc2 := 118) rfl ?_
        refine x_dup2 C dX6_layWidths_118 rfl rfl (pc2 := 119) rfl ?_
        refine x_iald C h 5 0 (mc_5 ad cI cZ _) rfl dX6_layWidths_119 (pc2 := 120) rfl (fun h => ?_)
        refine x_iconst (v := (1 : Int32)) C dX6_layWidths_120 (by decide) (pc2 := 121) rfl ?_
        refine x_iadd C dX6_layWidths_121 (pc2 := 122) rfl ?_
        refine x_iast C h 5 0 (mc_5 ad cI cZ _) rfl (u2 := (put u1 5 (r1).toNatClampNeg ((u1 5 (r1).toNatClampNeg) + (1 : Int32)))) (ms_5 ad cI cZ _ _ _) dX6_layWidths_122 (pc2 := 123) rfl (fun h => ?_)
        refine x_aload_n C dX6_layWidths_123 1 rfl (pc2 := 124) rfl ?_
        refine x_get C hiX6 0 (mc_0 ad cI cZ _) rfl 6 (by decide) f26 (v := .ref (ad 6)) rfl dX6_layWidths_124 (pc2 := 127) rfl ?_
        refine x_iload C dX6_layWidths_127 0 rfl (pc2 := 129) rfl ?_
        refine x_iconst (v := (-1 : Int32)) C dX6_layWidths_129 (by decide) (pc2 := 130) rfl ?_
        refine x_iast C h 6 0 (mc_6 ad cI cZ _) rfl (u2 := (put (put u1 5 (r1).toNatClampNeg ((u1 5 (r1).toNatClampNeg) + (1 : Int32))) 6 (r1).toNatClampNeg (-1 : Int32))) (ms_6 ad cI cZ _ _ _) dX6_layWidths_130 (pc2 := 131) rfl (fun h => ?_)
        refine x_iinc C dX6_layWidths_131 3 rfl (-1 : Int32) (by decide) rfl (by decide) (lv2 := [(4, .int (x4 + (-1 : Int32))), (5, .int r1), (0, .ref (ad 0)), (2, .int x2)]) rfl (pc2 := 134) rfl ?_
        refine x_goto C dX6_layWidths_134 (pc2 := 100) (by decide) ?_
        refine x_sub [2, 3, 0] (lv2 := [(0, .ref (ad 0)), (2, .int x2), (4, .int (x4 + (-1 : Int32)))]) rfl ?_
        exact ih _ _ _ h
  have J38 : ∀ (f : Nat) (u : Mem) (x1 : Int32) (x2 : Int32) (x3 : Int32) (x4 : Int32) (x5 : Int32), e_X6_layWidths_L38 f u x1 x2 x3 x4 x5 = some ur → Wx p l e (headSpec wsX6_layWidths { frames := 1, cells := 0, slots := 0, locals := 23 }).room s m args below meth c (MQ below (Qvx D A (MW ad cI cZ) ur) args s 0 0 A) D A 7 (MW ad cI cZ) u 38 [(0, .ref (ad 0)), (1, .int x1), (2, .int x2), (3, .int x3), (4, .int x4), (5, .int x5)] [] := by
    intro f
    induction f with
    | zero => intro u x1 x2 x3 x4 x5 h; cases h
    | succ f ih =>
      intro u x1 x2 x3 x4 x5 h
      replace h : e_X6_layWidths_L38_b (e_X6_layWidths_L38 f) u x1 x2 x3 x4 x5 = some ur := h
      unfold e_X6_layWidths_L38_b at h
      refine x_iload C dX6_layWidths_38 5 rfl (pc2 := 40) rfl ?_
      refine x_iload_n C dX6_layWidths_40 2 rfl (pc2 := 41) rfl ?_
      refine x_icmp_ge C h dX6_layWidths_41 (tgt := 100) (by decide) (pc2 := 44) rfl (fun h => ?_) (fun h => ?_)
      · refine x_sub [0, 2, 4] (lv2 := [(0, .ref (ad 0)), (2, .int x2), (4, .int x4)]) rfl ?_
        exact J100 FU _ _ _ h
      · refine x_bipush (v := (12 : Int32)) C dX6_layWidths_44 (by decide) (pc2 := 46) rfl ?_
        refine x_aload_n C dX6_layWidths_46 0 rfl (pc2 := 47) rfl ?_
        refine x_get C hiX6 0 (mc_0 ad cI cZ _) rfl 0 (by decide) f7 (v := .ref (ad 1)) rfl dX6_layWidths_47 (pc2 := 50) rfl ?_
        refine x_iconst (v := (0 : Int32)) C dX6_layWidths_50 (by decide) (pc2 := 51) rfl ?_
        refine x_iload_n C dX6_layWidths_51 1 rfl (pc2 := 52) rfl ?_
        refine x_iadd C dX6_layWidths_52 (pc2 := 53) rfl ?_
        refine x_iload C dX6_layWidths_53 5 rfl (pc2 := 55) rfl ?_
        refine x_iadd C dX6_layWidths_55 (pc2 := 56) rfl ?_
        refine x_iald C h 1 0 (mc_1 ad cI cZ _) rfl dX6_layWidths_56 (pc2 := 57) rfl (fun h => ?_)
        refine x_imul C dX6_layWidths_57 (pc2 := 58) rfl ?_
        refine x_istore C dX6_layWidths_58 (by decide) (lv2 := [(6, .int ((12 : Int32) * (u 1 ((((0 : Int32) + x1) + x5)).toNatClampNeg))), (0, .ref (ad 0)), (1, .int x1), (2, .int x2), (3, .int x3), (4, .int x4), (5, .int x5)]) rfl (pc2 := 60) rfl ?_
        refine x_aload_n C dX6_layWidths_60 1 rfl (pc2 := 61) rfl ?_
        refine x_get C hiX6 0 (mc_0 ad cI cZ _) rfl 5 (by decide) f23 (v := .ref (ad 5)) rfl dX6_layWidths_61 (pc2 := 64) rfl ?_
        refine x_iload C dX6_layWidths_64 6 rfl (pc2 := 66) rfl ?_
        refine x_iload C dX6_layWidths_66 0 rfl (pc2 := 68) rfl ?_
        refine x_iload_n C dX6_layWidths_68 4 rfl (pc2 := 69) rfl ?_
        obtain ⟨z69, h⟩ := ite_nn h
        refine x_idiv C dX6_layWidths_69 z69 (pc2 := 70) rfl ?_
        refine x_iast C h 5 0 (mc_5 ad cI cZ _) rfl (u2 := (put u 5 (x5).toNatClampNeg (((12 : Int32) * (u 1 ((((0 : Int32) + x1) + x5)).toNatClampNeg)) / x3))) (ms_5 ad cI cZ _ _ _) dX6_layWidths_70 (pc2 := 71) rfl (fun h => ?_)
        refine x_aload_n C dX6_layWidths_71 1 rfl (pc2 := 72) rfl ?_
        refine x_get C hiX6 0 (mc_0 ad cI cZ _) rfl 6 (by decide) f26 (v := .ref (ad 6)) rfl dX6_layWidths_72 (pc2 := 75) rfl ?_
        refine x_iload C dX6_layWidths_75 6 rfl (pc2 := 77) rfl ?_
        refine x_iload C dX6_layWidths_77 0 rfl (pc2 := 79) rfl ?_
        refine x_iload_n C dX6_layWidths_79 4 rfl (pc2 := 80) rfl ?_
        obtain ⟨z80, h⟩ := ite_nn h
        refine x_irem C dX6_layWidths_80 z80 (pc2 := 81) rfl ?_
        refine x_iast C h 6 0 (mc_6 ad cI cZ _) rfl (u2 := (put (put u 5 (x5).toNatClampNeg (((12 : Int32) * (u 1 ((((0 : Int32) + x1) + x5)).toNatClampNeg)) / x3)) 6 (x5).toNatClampNeg (((12 : Int32) * (u 1 ((((0 : Int32) + x1) + x5)).toNatClampNeg)) - ((12 : Int32) * (u 1 ((((0 : Int32) + x1) + x5)).toNatClampNeg)) / x3 * x3))) (ms_6 ad cI cZ _ _ _) dX6_layWidths_81 (pc2 := 82) rfl (fun h => ?_)
        refine x_iload C dX6_layWidths_82 5 rfl (pc2 := 84) rfl ?_
        refine x_aload_n C dX6_layWidths_84 1 rfl (pc2 := 85) rfl ?_
        refine x_get C hiX6 0 (mc_0 ad cI cZ _) rfl 5 (by decide) f23 (v := .ref (ad 5)) rfl dX6_layWidths_85 (pc2 := 88) rfl ?_
        refine x_iload C dX6_layWidths_88 6 rfl (pc2 := 90) rfl ?_
        refine x_iald C h 5 0 (mc_5 ad cI cZ _) rfl dX6_layWidths_90 (pc2 := 91) rfl (fun h => ?_)
        refine x_tope (y := ((put u 5 (x5).toNatClampNeg (((12 : Int32) * (u 1 ((((0 : Int32) + x1) + x5)).toNatClampNeg)) / x3)) 5 (x5).toNatClampNeg)) rfl ?_
        refine x_isub C dX6_layWidths_91 (pc2 := 92) rfl ?_
        refine x_istore C dX6_layWidths_92 (by decide) (lv2 := [(4, .int (x4 - ((put u 5 (x5).toNatClampNeg (((12 : Int32) * (u 1 ((((0 : Int32) + x1) + x5)).toNatClampNeg)) / x3)) 5 (x5).toNatClampNeg))), (6, .int ((12 : Int32) * (u 1 ((((0 : Int32) + x1) + x5)).toNatClampNeg))), (0, .ref (ad 0)), (1, .int x1), (2, .int x2), (3, .int x3), (5, .int x5)]) rfl (pc2 := 94) rfl ?_
        refine x_iinc C dX6_layWidths_94 6 rfl (1 : Int32) (by decide) rfl (by decide) (lv2 := [(5, .int (x5 + (1 : Int32))), (4, .int (x4 - ((put u 5 (x5).toNatClampNeg (((12 : Int32) * (u 1 ((((0 : Int32) + x1) + x5)).toNatClampNeg)) / x3)) 5 (x5).toNatClampNeg))), (6, .int ((12 : Int32) * (u 1 ((((0 : Int32) + x1) + x5)).toNatClampNeg))), (0, .ref (ad 0)), (1, .int x1), (2, .int x2), (3, .int x3)]) rfl (pc2 := 97) rfl ?_
        refine x_goto C dX6_layWidths_97 (pc2 := 38) (by decide) ?_
        refine x_sub [3, 4, 5, 6, 1, 0] (lv2 := [(0, .ref (ad 0)), (1, .int x1), (2, .int x2), (3, .int x3), (4, .int (x4 - ((put u 5 (x5).toNatClampNeg (((12 : Int32) * (u 1 ((((0 : Int32) + x1) + x5)).toNatClampNeg)) / x3)) 5 (x5).toNatClampNeg))), (5, .int (x5 + (1 : Int32)))]) rfl ?_
        exact ih _ _ _ _ _ _ h
  have J5 : ∀ (f : Nat) (u : Mem) (x1 : Int32) (x2 : Int32) (x3 : Int32) (x4 : Int32), e_X6_layWidths_L5 f u x1 x2 x3 x4 = some ur → Wx p l e (headSpec wsX6_layWidths { frames := 1, cells := 0, slots := 0, locals := 23 }).room s m args below meth c (MQ below (Qvx D A (MW ad cI cZ) ur) args s 0 0 A) D A 7 (MW ad cI cZ) u 5 [(0, .ref (ad 0)), (1, .int x1), (2, .int x2), (3, .int x3), (4, .int x4)] [] := by
    intro f
    induction f with
    | zero => intro u x1 x2 x3 x4 h; cases h
    | succ f ih =>
      intro u x1 x2 x3 x4 h
      replace h : e_X6_layWidths_L5_b (e_X6_layWidths_L5 f) u x1 x2 x3 x4 = some ur := h
      unfold e_X6_layWidths_L5_b at h
      refine x_iload C dX6_layWidths_5 4 rfl (pc2 := 7) rfl ?_
      refine x_iload_n C dX6_layWidths_7 2 rfl (pc2 := 8) rfl ?_
      refine x_icmp_ge C h dX6_layWidths_8 (tgt := 31) (by decide) (pc2 := 11) rfl (fun h => ?_) (fun h => ?_)
      · refine x_bipush (v := (12 : Int32)) C dX6_layWidths_31 (by decide) (pc2 := 33) rfl ?_
        refine x_istore C dX6_layWidths_33 (by decide) (lv2 := [(4, .int (12 : Int32)), (0, .ref (ad 0)), (1, .int x1), (2, .int x2), (3, .int x3)]) rfl (pc2 := 35) rfl ?_
        refine x_iconst (v := (0 : Int32)) C dX6_layWidths_35 (by decide) (pc2 := 36) rfl ?_
        refine x_istore C dX6_layWidths_36 (by decide) (lv2 := [(5, .int (0 : Int32)), (4, .int (12 : Int32)), (0, .ref (ad 0)), (1, .int x1), (2, .int x2), (3, .int x3)]) rfl (pc2 := 38) rfl ?_
        refine x_sub [2, 3, 4, 5, 1, 0] (lv2 := [(0, .ref (ad 0)), (1, .int x1), (2, .int x2), (3, .int x3), (4, .int (12 : Int32)), (5, .int (0 : Int32))]) rfl ?_
        exact J38 FU _ _ _ _ _ _ h
      · refine x_iload_n C dX6_layWidths_11 3 rfl (pc2 := 12) rfl ?_
        refine x_aload_n C dX6_layWidths_12 0 rfl (pc2 := 13) rfl ?_
        refine x_get C hiX6 0 (mc_0 ad cI cZ _) rfl 0 (by decide) f7 (v := .ref (ad 1)) rfl dX6_layWidths_13 (pc2 := 16) rfl ?_
        refine x_iconst (v := (0 : Int32)) C dX6_layWidths_16 (by decide) (pc2 := 17) rfl ?_
        refine x_iload_n C dX6_layWidths_17 1 rfl (pc2 := 18) rfl ?_
        refine x_iadd C dX6_layWidths_18 (pc2 := 19) rfl ?_
        refine x_iload C dX6_layWidths_19 4 rfl (pc2 := 21) rfl ?_
        refine x_iadd C dX6_layWidths_21 (pc2 := 22) rfl ?_
        refine x_iald C h 1 0 (mc_1 ad cI cZ _) rfl dX6_layWidths_22 (pc2 := 23) rfl (fun h => ?_)
        refine x_iadd C dX6_layWidths_23 (pc2 := 24) rfl ?_
        refine x_istore_n C dX6_layWidths_24 (by decide) (lv2 := [(3, .int (x3 + (u 1 ((((0 : Int32) + x1) + x4)).toNatClampNeg))), (0, .ref (ad 0)), (1, .int x1), (2, .int x2), (4, .int x4)]) rfl (pc2 := 25) rfl ?_
        refine x_iinc C dX6_layWidths_25 4 rfl (1 : Int32) (by decide) rfl (by decide) (lv2 := [(4, .int (x4 + (1 : Int32))), (3, .int (x3 + (u 1 ((((0 : Int32) + x1) + x4)).toNatClampNeg))), (0, .ref (ad 0)), (1, .int x1), (2, .int x2)]) rfl (pc2 := 28) rfl ?_
        refine x_goto C dX6_layWidths_28 (pc2 := 5) (by decide) ?_
        refine x_sub [2, 3, 4, 1, 0] (lv2 := [(0, .ref (ad 0)), (1, .int x1), (2, .int x2), (3, .int (x3 + (u 1 ((((0 : Int32) + x1) + x4)).toNatClampNeg))), (4, .int (x4 + (1 : Int32)))]) rfl ?_
        exact ih _ _ _ _ _ h
  refine x_iconst (v := (0 : Int32)) C dX6_layWidths_0 (by decide) (pc2 := 1) rfl ?_
  refine x_istore_n C dX6_layWidths_1 (by decide) (lv2 := [(3, .int (0 : Int32)), (0, .ref (ad 0)), (1, .int x1), (2, .int x2)]) rfl (pc2 := 2) rfl ?_
  refine x_iconst (v := (0 : Int32)) C dX6_layWidths_2 (by decide) (pc2 := 3) rfl ?_
  refine x_istore C dX6_layWidths_3 (by decide) (lv2 := [(4, .int (0 : Int32)), (3, .int (0 : Int32)), (0, .ref (ad 0)), (1, .int x1), (2, .int x2)]) rfl (pc2 := 5) rfl ?_
  refine x_sub [2, 3, 4, 1, 0] (lv2 := [(0, .ref (ad 0)), (1, .int x1), (2, .int x2), (3, .int (0 : Int32)), (4, .int (0 : Int32))]) rfl ?_
  exact J5 FU _ _ _ _ _ h
set_option maxRecDepth 100000 in
set_option maxHeartbeats 4000000 in
theorem c_X6_tier (l : Launch) (D : va_G) (A : Nat → Prop) (ad : Nat → Nat) (cI cZ : ClassId) (u : Mem) (x1 : Int32) (x2 : Int32) (x3 : Int32) : Cti l yX6_tier wsX6_tier { frames := 2, cells := 0, slots := 0, locals := 49 } D A (MW ad cI cZ) [(cI, .int), (cZ, .boolean)] [.ref (ad 0), .int x1, .int x2, .int x3] u (e_X6_tier u x1 x2 x3) := by
  intro r ur h
  refine Met.ofW (cc := cX6_tier) (maxL := 4) (ret := (some .int)) (by decide) rfl ?_
  intro p e s m args below meth c s₁ B hml hv
  obtain ⟨hav, hP, hK, hD⟩ := hv
  have C : Cx p m c cX6_tier 4 s args wsX6_tier RX6 D [(cI, .int), (cZ, .boolean)] := ⟨⟨B.exec, B.bytes, hml, findClass_of_methodNamed B.named, atoms_spec (ws := wsX6_tier) B.pre⟩, hK⟩
  have hr := B.returns
  have hlocks := B.notSynchronized
  have hiX6 : ∀ w ∈ wsX60, w ∈ wsX6_tier := by decide +kernel
  have f23 : Cond.fieldLink RX6 23 "PanelPagesModel" "width" "[I" ∈ wsX6_tier := by decide +kernel
  refine x_entry2 (lv := [(0, .ref (ad 0)), (1, .int x1), (2, .int x2), (3, .int x3)]) hav hP hD (Nat.le_of_ble_eq_true rfl) rfl ?_
  unfold e_X6_tier at h
  have J54 : ∀ (u : Mem) (x1 : Int32) (x2 : Int32) (x3 : Int32), e_X6_tier_J54 u x1 x2 x3 = some (r, ur) → Wx p l e (headSpec wsX6_tier { frames := 2, cells := 0, slots := 0, locals := 49 }).room s m args below meth c (MQ below (Qix D A (MW ad cI cZ) r ur) args s 0 0 A) D A 4 (MW ad cI cZ) u 54 [(0, .ref (ad 0)), (1, .int x1), (2, .int x2), (3, .int x3)] [] := by
    intro u x1 x2 x3 h
    unfold e_X6_tier_J54 at h
    refine x_iload_n C dX6_tier_54 3 rfl (pc2 := 55) rfl ?_
    refine x_if_ne C h dX6_tier_55 (tgt := 65) (by decide) (pc2 := 58) rfl (fun h => ?_) (fun h => ?_)
    · refine x_iload_n C dX6_tier_65 3 rfl (pc2 := 66) rfl ?_
      refine x_iconst (v := (1 : Int32)) C dX6_tier_66 (by decide) (pc2 := 67) rfl ?_
      refine x_icmp_ne C h dX6_tier_67 (tgt := 77) (by decide) (pc2 := 70) rfl (fun h => ?_) (fun h => ?_)
      · refine x_aload_n C dX6_tier_77 0 rfl (pc2 := 78) rfl ?_
        refine x_iload_n C dX6_tier_78 1 rfl (pc2 := 79) rfl ?_
        refine x_iload_n C dX6_tier_79 2 rfl (pc2 := 80) rfl ?_
        refine x_callVv (As := [.int x1, .int x2]) (rest := []) (index := 74) (n := 2) C h (c_X6_layWidths l D A ad cI cZ _ _ _) gX6_tier_X6_layWidths rfl (by decide +kernel) rfl rfl ⟨Nat.le_of_ble_eq_true rfl, Nat.le_of_ble_eq_true rfl⟩ (ci := 6) rfl rfl (mc_0 ad cI cZ _) (MW_D ad cI cZ _) rfl rfl (Nat.le_of_ble_eq_true rfl) dX6_tier_80 (pc2 := 83) rfl (fun u6 h => ?_)
        refine x_aload_n C dX6_tier_83 0 rfl (pc2 := 84) rfl ?_
        refine x_get C hiX6 0 (mc_0 ad cI cZ _) rfl 5 (by decide) f23 (v := .ref (ad 5)) rfl dX6_tier_84 (pc2 := 87) rfl ?_
        refine x_iload_n C dX6_tier_87 3 rfl (pc2 := 88) rfl ?_
        refine x_bipush (v := (10 : Int32)) C dX6_tier_88 (by decide) (pc2 := 90) rfl ?_
        refine x_isub C dX6_tier_90 (pc2 := 91) rfl ?_
        refine x_iald C h 5 0 (mc_5 ad cI cZ _) rfl dX6_tier_91 (pc2 := 92) rfl (fun h => ?_)
        exact x_iret C hr hlocks h dX6_tier_92
      · refine x_aload_n C dX6_tier_70 0 rfl (pc2 := 71) rfl ?_
        refine x_iload_n C dX6_tier_71 1 rfl (pc2 := 72) rfl ?_
        refine x_iload_n C dX6_tier_72 2 rfl (pc2 := 73) rfl ?_
        refine x_callVi (As := [.int x1, .int x2]) (rest := []) (index := 71) (n := 2) C h (c_X6_gapsOf l D A ad cI cZ _ _ _) gX6_tier_X6_gapsOf rfl (by decide +kernel) rfl rfl ⟨Nat.le_of_ble_eq_true rfl, Nat.le_of_ble_eq_true rfl⟩ (ci := 6) rfl rfl (mc_0 ad cI cZ _) (MW_D ad cI cZ _) rfl rfl (Nat.le_of_ble_eq_true rfl) dX6_tier_73 (pc2 := 76) rfl (fun r7 u7 h => ?_)
        exact x_iret C hr hlocks h dX6_tier_76
    · refine x_aload_n C dX6_tier_58 0 rfl (pc2 := 59) rfl ?_
      refine x_iload_n C dX6_tier_59 1 rfl (pc2 := 60) rfl ?_
      refine x_iload_n C dX6_tier_60 2 rfl (pc2 := 61) rfl ?_
      refine x_callVi (As := [.int x1, .int x2]) (rest := []) (index := 63) (n := 2) C h (c_X6_heightOf l D A ad cI cZ _ _ _) gX6_tier_X6_heightOf rfl (by decide +kernel) rfl rfl ⟨Nat.le_of_ble_eq_true rfl, Nat.le_of_ble_eq_true rfl⟩ (ci := 6) rfl rfl (mc_0 ad cI cZ _) (MW_D ad cI cZ _) rfl rfl (Nat.le_of_ble_eq_true rfl) dX6_tier_61 (pc2 := 64) rfl (fun r8 u8 h => ?_)
      exact x_iret C hr hlocks h dX6_tier_64
  refine x_aload_n C dX6_tier_0 0 rfl (pc2 := 1) rfl ?_
  refine x_iload_n C dX6_tier_1 1 rfl (pc2 := 2) rfl ?_
  refine x_callVi (As := [.int x1]) (rest := []) (index := 59) (n := 1) C h (c_X6_isPanel l D A ad cI cZ _ _) gX6_tier_X6_isPanel rfl (by decide +kernel) rfl rfl ⟨Nat.le_of_ble_eq_true rfl, Nat.le_of_ble_eq_true rfl⟩ (ci := 6) rfl rfl (mc_0 ad cI cZ _) (MW_D ad cI cZ _) rfl rfl (Nat.le_of_ble_eq_true rfl) dX6_tier_2 (pc2 := 5) rfl (fun r1 u1 h => ?_)
  refine x_if_ne C h dX6_tier_5 (tgt := 10) (by decide) (pc2 := 8) rfl (fun h => ?_) (fun h => ?_)
  · refine x_iload_n C dX6_tier_10 2 rfl (pc2 := 11) rfl ?_
    refine x_iconst (v := (1 : Int32)) C dX6_tier_11 (by decide) (pc2 := 12) rfl ?_
    refine x_iconst (v := (4 : Int32)) C dX6_tier_12 (by decide) (pc2 := 13) rfl ?_
    refine x_callSi (As := [.int x2, .int (1 : Int32), .int (4 : Int32)]) (rest := []) (index := 51) (n := 3) C h (c_X6_in l D A ad cI cZ _ _ _ _) gX6_tier_X6_in rfl (by decide +kernel) rfl rfl ⟨Nat.le_of_ble_eq_true rfl, Nat.le_of_ble_eq_true rfl⟩ (MW_D ad cI cZ _) rfl rfl (Nat.le_of_ble_eq_true rfl) dX6_tier_13 (pc2 := 16) rfl (fun r2 u2 h => ?_)
    refine x_if_eq C h dX6_tier_16 (tgt := 51) (by decide) (pc2 := 19) rfl (fun h => ?_) (fun h => ?_)
    · refine x_bipush (v := (-2 : Int32)) C dX6_tier_51 (by decide) (pc2 := 53) rfl ?_
      exact x_iret C hr hlocks h dX6_tier_53
    · refine x_iload_n C dX6_tier_19 1 rfl (pc2 := 20) rfl ?_
      refine x_iload_n C dX6_tier_20 2 rfl (pc2 := 21) rfl ?_
      refine x_iadd C dX6_tier_21 (pc2 := 22) rfl ?_
      refine x_aload_n C dX6_tier_22 0 rfl (pc2 := 23) rfl ?_
      refine x_callVi (As := []) (rest := [.int (x1 + x2)]) (index := 47) (n := 0) C h (c_X6_many l D A ad cI cZ _ ) gX6_tier_X6_many rfl (by decide +kernel) rfl rfl ⟨Nat.le_of_ble_eq_true rfl, Nat.le_of_ble_eq_true rfl⟩ (ci := 6) rfl rfl (mc_0 ad cI cZ _) (MW_D ad cI cZ _) rfl rfl (Nat.le_of_ble_eq_true rfl) dX6_tier_23 (pc2 := 26) rfl (fun r3 u3 h => ?_)
      refine x_icmp_gt C h dX6_tier_26 (tgt := 51) (by decide) (pc2 := 29) rfl (fun h => ?_) (fun h => ?_)
      · refine x_bipush (v := (-2 : Int32)) C dX6_tier_51 (by decide) (pc2 := 53) rfl ?_
        exact x_iret C hr hlocks h dX6_tier_53
      · refine x_iload_n C dX6_tier_29 3 rfl (pc2 := 30) rfl ?_
        refine x_iconst (v := (0 : Int32)) C dX6_tier_30 (by decide) (pc2 := 31) rfl ?_
        refine x_iconst (v := (1 : Int32)) C dX6_tier_31 (by decide) (pc2 := 32) rfl ?_
        refine x_callSi (As := [.int x3, .int (0 : Int32), .int (1 : Int32)]) (rest := []) (index := 51) (n := 3) C h (c_X6_in l D A ad cI cZ _ _ _ _) gX6_tier_X6_in rfl (by decide +kernel) rfl rfl ⟨Nat.le_of_ble_eq_true rfl, Nat.le_of_ble_eq_true rfl⟩ (MW_D ad cI cZ _) rfl rfl (Nat.le_of_ble_eq_true rfl) dX6_tier_32 (pc2 := 35) rfl (fun r4 u4 h => ?_)
        refine x_if_ne C h dX6_tier_35 (tgt := 54) (by decide) (pc2 := 38) rfl (fun h => ?_) (fun h => ?_)
        · exact J54 _ _ _ _ h
        · refine x_iload_n C dX6_tier_38 3 rfl (pc2 := 39) rfl ?_
          refine x_bipush (v := (10 : Int32)) C dX6_tier_39 (by decide) (pc2 := 41) rfl ?_
          refine x_bipush (v := (9 : Int32)) C dX6_tier_41 (by decide) (pc2 := 43) rfl ?_
          refine x_iload_n C dX6_tier_43 2 rfl (pc2 := 44) rfl ?_
          refine x_iadd C dX6_tier_44 (pc2 := 45) rfl ?_
          refine x_callSi (As := [.int x3, .int (10 : Int32), .int ((9 : Int32) + x2)]) (rest := []) (index := 51) (n := 3) C h (c_X6_in l D A ad cI cZ _ _ _ _) gX6_tier_X6_in rfl (by decide +kernel) rfl rfl ⟨Nat.le_of_ble_eq_true rfl, Nat.le_of_ble_eq_true rfl⟩ (MW_D ad cI cZ _) rfl rfl (Nat.le_of_ble_eq_true rfl) dX6_tier_45 (pc2 := 48) rfl (fun r5 u5 h => ?_)
          refine x_if_ne C h dX6_tier_48 (tgt := 54) (by decide) (pc2 := 51) rfl (fun h => ?_) (fun h => ?_)
          · exact J54 _ _ _ _ h
          · refine x_bipush (v := (-2 : Int32)) C dX6_tier_51 (by decide) (pc2 := 53) rfl ?_
            exact x_iret C hr hlocks h dX6_tier_53
  · refine x_iconst (v := (-1 : Int32)) C dX6_tier_8 (by decide) (pc2 := 9) rfl ?_
    exact x_iret C hr hlocks h dX6_tier_9
set_option maxRecDepth 100000 in
set_option maxHeartbeats 4000000 in
theorem c_X6_isKind (l : Launch) (D : va_G) (A : Nat → Prop) (ad : Nat → Nat) (cI cZ : ClassId) (u : Mem) (x1 : Int32) (x2 : Int32) : Cti l yX6_isKind wsX6_isKind { frames := 0, cells := 0, slots := 0, locals := 0 } D A (MW ad cI cZ) [(cI, .int), (cZ, .boolean)] [.ref (ad 0), .int x1, .int x2] u (e_X6_isKind u x1 x2) := by
  intro r ur h
  refine Met.ofW (cc := cX6_isKind) (maxL := 3) (ret := (some .boolean)) (by decide) rfl ?_
  intro p e s m args below meth c s₁ B hml hv
  obtain ⟨hav, hP, hK, hD⟩ := hv
  have C : Cx p m c cX6_isKind 3 s args wsX6_isKind RX6 D [(cI, .int), (cZ, .boolean)] := ⟨⟨B.exec, B.bytes, hml, findClass_of_methodNamed B.named, atoms_spec (ws := wsX6_isKind) B.pre⟩, hK⟩
  have hr := B.returns
  have hlocks := B.notSynchronized
  have hiX6 : ∀ w ∈ wsX60, w ∈ wsX6_isKind := by decide +kernel
  have f7 : Cond.fieldLink RX6 7 "PanelPagesModel" "state" "[I" ∈ wsX6_isKind := by decide +kernel
  refine x_entry2 (lv := [(0, .ref (ad 0)), (1, .int x1), (2, .int x2)]) hav hP hD (Nat.le_of_ble_eq_true rfl) rfl ?_
  unfold e_X6_isKind at h
  refine x_aload_n C dX6_isKind_0 0 rfl (pc2 := 1) rfl ?_
  refine x_get C hiX6 0 (mc_0 ad cI cZ _) rfl 0 (by decide) f7 (v := .ref (ad 1)) rfl dX6_isKind_1 (pc2 := 4) rfl ?_
  refine x_bipush (v := (18 : Int32)) C dX6_isKind_4 (by decide) (pc2 := 6) rfl ?_
  refine x_iload_n C dX6_isKind_6 1 rfl (pc2 := 7) rfl ?_
  refine x_iadd C dX6_isKind_7 (pc2 := 8) rfl ?_
  refine x_iald C h 1 0 (mc_1 ad cI cZ _) rfl dX6_isKind_8 (pc2 := 9) rfl (fun h => ?_)
  refine x_iload_n C dX6_isKind_9 2 rfl (pc2 := 10) rfl ?_
  refine x_icmp_ne C h dX6_isKind_10 (tgt := 17) (by decide) (pc2 := 13) rfl (fun h => ?_) (fun h => ?_)
  · refine x_iconst (v := (0 : Int32)) C dX6_isKind_17 (by decide) (pc2 := 18) rfl ?_
    exact x_zretL C hr hlocks h rfl dX6_isKind_18
  · refine x_iconst (v := (1 : Int32)) C dX6_isKind_13 (by decide) (pc2 := 14) rfl ?_
    refine x_goto C dX6_isKind_14 (pc2 := 18) (by decide) ?_
    exact x_zretL C hr hlocks h rfl dX6_isKind_18
set_option maxRecDepth 100000 in
set_option maxHeartbeats 4000000 in
theorem c_X6_isBy (l : Launch) (D : va_G) (A : Nat → Prop) (ad : Nat → Nat) (cI cZ : ClassId) (u : Mem) (x1 : Int32) : Cti l yX6_isBy wsX6_isBy { frames := 1, cells := 0, slots := 0, locals := 22 } D A (MW ad cI cZ) [(cI, .int), (cZ, .boolean)] [.ref (ad 0), .int x1] u (e_X6_isBy u x1) := by
  intro r ur h
  refine Met.ofW (cc := cX6_isBy) (maxL := 2) (ret := (some .boolean)) (by decide) rfl ?_
  intro p e s m args below meth c s₁ B hml hv
  obtain ⟨hav, hP, hK, hD⟩ := hv
  have C : Cx p m c cX6_isBy 2 s args wsX6_isBy RX6 D [(cI, .int), (cZ, .boolean)] := ⟨⟨B.exec, B.bytes, hml, findClass_of_methodNamed B.named, atoms_spec (ws := wsX6_isBy) B.pre⟩, hK⟩
  have hr := B.returns
  have hlocks := B.notSynchronized
  refine x_entry2 (lv := [(0, .ref (ad 0)), (1, .int x1)]) hav hP hD (Nat.le_of_ble_eq_true rfl) rfl ?_
  unfold e_X6_isBy at h
  refine x_aload_n C dX6_isBy_0 0 rfl (pc2 := 1) rfl ?_
  refine x_iload_n C dX6_isBy_1 1 rfl (pc2 := 2) rfl ?_
  refine x_iconst (v := (1 : Int32)) C dX6_isBy_2 (by decide) (pc2 := 3) rfl ?_
  refine x_callVi (As := [.int x1, .int (1 : Int32)]) (rest := []) (index := 78) (n := 2) C h (c_X6_isKind l D A ad cI cZ _ _ _) gX6_isBy_X6_isKind rfl (by decide +kernel) rfl rfl ⟨Nat.le_of_ble_eq_true rfl, Nat.le_of_ble_eq_true rfl⟩ (ci := 6) rfl rfl (mc_0 ad cI cZ _) (MW_D ad cI cZ _) rfl rfl (Nat.le_of_ble_eq_true rfl) dX6_isBy_3 (pc2 := 6) rfl (fun r1 u1 h => ?_)
  refine x_if_ne C h dX6_isBy_6 (tgt := 18) (by decide) (pc2 := 9) rfl (fun h => ?_) (fun h => ?_)
  · refine x_iconst (v := (1 : Int32)) C dX6_isBy_18 (by decide) (pc2 := 19) rfl ?_
    refine x_goto C dX6_isBy_19 (pc2 := 23) (by decide) ?_
    exact x_zretL C hr hlocks h rfl dX6_isBy_23
  · refine x_aload_n C dX6_isBy_9 0 rfl (pc2 := 10) rfl ?_
    refine x_iload_n C dX6_isBy_10 1 rfl (pc2 := 11) rfl ?_
    refine x_iconst (v := (2 : Int32)) C dX6_isBy_11 (by decide) (pc2 := 12) rfl ?_
    refine x_callVi (As := [.int x1, .int (2 : Int32)]) (rest := []) (index := 78) (n := 2) C h (c_X6_isKind l D A ad cI cZ _ _ _) gX6_isBy_X6_isKind rfl (by decide +kernel) rfl rfl ⟨Nat.le_of_ble_eq_true rfl, Nat.le_of_ble_eq_true rfl⟩ (ci := 6) rfl rfl (mc_0 ad cI cZ _) (MW_D ad cI cZ _) rfl rfl (Nat.le_of_ble_eq_true rfl) dX6_isBy_12 (pc2 := 15) rfl (fun r2 u2 h => ?_)
    refine x_if_eq C h dX6_isBy_15 (tgt := 22) (by decide) (pc2 := 18) rfl (fun h => ?_) (fun h => ?_)
    · refine x_iconst (v := (0 : Int32)) C dX6_isBy_22 (by decide) (pc2 := 23) rfl ?_
      exact x_zretL C hr hlocks h rfl dX6_isBy_23
    · refine x_iconst (v := (1 : Int32)) C dX6_isBy_18 (by decide) (pc2 := 19) rfl ?_
      refine x_goto C dX6_isBy_19 (pc2 := 23) (by decide) ?_
      exact x_zretL C hr hlocks h rfl dX6_isBy_23
set_option maxRecDepth 100000 in
set_option maxHeartbeats 4000000 in
theorem c_X6_isTooHigh (l : Launch) (D : va_G) (A : Nat → Prop) (ad : Nat → Nat) (cI cZ : ClassId) (u : Mem) (x1 : Int32) : Cti l yX6_isTooHigh wsX6_isTooHigh { frames := 1, cells := 0, slots := 0, locals := 24 } D A (MW ad cI cZ) [(cI, .int), (cZ, .boolean)] [.ref (ad 0), .int x1] u (e_X6_isTooHigh u x1) := by
  intro r ur h
  refine Met.ofW (cc := cX6_isTooHigh) (maxL := 3) (ret := (some .boolean)) (by decide) rfl ?_
  intro p e s m args below meth c s₁ B hml hv
  obtain ⟨hav, hP, hK, hD⟩ := hv
  have C : Cx p m c cX6_isTooHigh 3 s args wsX6_isTooHigh RX6 D [(cI, .int), (cZ, .boolean)] := ⟨⟨B.exec, B.bytes, hml, findClass_of_methodNamed B.named, atoms_spec (ws := wsX6_isTooHigh) B.pre⟩, hK⟩
  have hr := B.returns
  have hlocks := B.notSynchronized
  have hiX6 : ∀ w ∈ wsX60, w ∈ wsX6_isTooHigh := by decide +kernel
  have f29 : Cond.fieldLink RX6 29 "PanelPagesModel" "figure" "[I" ∈ wsX6_isTooHigh := by decide +kernel
  have f7 : Cond.fieldLink RX6 7 "PanelPagesModel" "state" "[I" ∈ wsX6_isTooHigh := by decide +kernel
  have f81 : Cond.fieldLink RX6 81 "PanelPagesModel" "begins" "I" ∈ wsX6_isTooHigh := by decide +kernel
  have f91 : Cond.fieldLink RX6 91 "PanelPagesModel" "above" "I" ∈ wsX6_isTooHigh := by decide +kernel
  refine x_entry2 (lv := [(0, .ref (ad 0)), (1, .int x1)]) hav hP hD (Nat.le_of_ble_eq_true rfl) rfl ?_
  unfold e_X6_isTooHigh at h
  have J96 : ∀ (u : Mem) (s0 : Int32), e_X6_isTooHigh_J96 u s0 = some (r, ur) → Wx p l e (headSpec wsX6_isTooHigh { frames := 1, cells := 0, slots := 0, locals := 24 }).room s m args below meth c (MQ below (Qix D A (MW ad cI cZ) r ur) args s 0 0 A) D A 3 (MW ad cI cZ) u 96 [(0, .ref (ad 0))] [.int s0] := by
    intro u s0 h
    unfold e_X6_isTooHigh_J96 at h
    refine x_istore_n C dX6_isTooHigh_96 (by decide) (lv2 := [(2, .int s0), (0, .ref (ad 0))]) rfl (pc2 := 97) rfl ?_
    refine x_iload_n C dX6_isTooHigh_97 0 rfl (pc2 := 98) rfl ?_
    refine x_aload_n C dX6_isTooHigh_98 1 rfl (pc2 := 99) rfl ?_
    refine x_get C hiX6 0 (mc_0 ad cI cZ _) rfl 0 (by decide) f7 (v := .ref (ad 1)) rfl dX6_isTooHigh_99 (pc2 := 102) rfl ?_
    refine x_bipush (v := (73 : Int32)) C dX6_isTooHigh_102 (by decide) (pc2 := 104) rfl ?_
    refine x_iald C h 1 0 (mc_1 ad cI cZ _) rfl dX6_isTooHigh_104 (pc2 := 105) rfl (fun h => ?_)
    refine x_icmp_le C h dX6_isTooHigh_105 (tgt := 112) (by decide) (pc2 := 108) rfl (fun h => ?_) (fun h => ?_)
    · refine x_iconst (v := (0 : Int32)) C dX6_isTooHigh_112 (by decide) (pc2 := 113) rfl ?_
      exact x_zretL C hr hlocks h rfl dX6_isTooHigh_113
    · refine x_iconst (v := (1 : Int32)) C dX6_isTooHigh_108 (by decide) (pc2 := 109) rfl ?_
      refine x_goto C dX6_isTooHigh_109 (pc2 := 113) (by decide) ?_
      exact x_zretL C hr hlocks h rfl dX6_isTooHigh_113
  refine x_aload_n C dX6_isTooHigh_0 0 rfl (pc2 := 1) rfl ?_
  refine x_iload_n C dX6_isTooHigh_1 1 rfl (pc2 := 2) rfl ?_
  refine x_iconst (v := (2 : Int32)) C dX6_isTooHigh_2 (by decide) (pc2 := 3) rfl ?_
  refine x_callVi (As := [.int x1, .int (2 : Int32)]) (rest := []) (index := 78) (n := 2) C h (c_X6_isKind l D A ad cI cZ _ _ _) gX6_isTooHigh_X6_isKind rfl (by decide +kernel) rfl rfl ⟨Nat.le_of_ble_eq_true rfl, Nat.le_of_ble_eq_true rfl⟩ (ci := 6) rfl rfl (mc_0 ad cI cZ _) (MW_D ad cI cZ _) rfl rfl (Nat.le_of_ble_eq_true rfl) dX6_isTooHigh_3 (pc2 := 6) rfl (fun r1 u1 h => ?_)
  refine x_if_eq C h dX6_isTooHigh_6 (tgt := 11) (by decide) (pc2 := 9) rfl (fun h => ?_) (fun h => ?_)
  · refine x_aload_n C dX6_isTooHigh_11 0 rfl (pc2 := 12) rfl ?_
    refine x_get C hiX6 0 (mc_0 ad cI cZ _) rfl 7 (by decide) f29 (v := .ref (ad 7)) rfl dX6_isTooHigh_12 (pc2 := 15) rfl ?_
    refine x_iload_n C dX6_isTooHigh_15 1 rfl (pc2 := 16) rfl ?_
    refine x_iald C h 7 0 (mc_7 ad cI cZ _) rfl dX6_isTooHigh_16 (pc2 := 17) rfl (fun h => ?_)
    refine x_iconst (v := (2 : Int32)) C dX6_isTooHigh_17 (by decide) (pc2 := 18) rfl ?_
    refine x_icmp_ne C h dX6_isTooHigh_18 (tgt := 33) (by decide) (pc2 := 21) rfl (fun h => ?_) (fun h => ?_)
    · refine x_aload_n C dX6_isTooHigh_33 0 rfl (pc2 := 34) rfl ?_
      refine x_get C hiX6 0 (mc_0 ad cI cZ _) rfl 7 (by decide) f29 (v := .ref (ad 7)) rfl dX6_isTooHigh_34 (pc2 := 37) rfl ?_
      refine x_iload_n C dX6_isTooHigh_37 1 rfl (pc2 := 38) rfl ?_
      refine x_iald C h 7 0 (mc_7 ad cI cZ _) rfl dX6_isTooHigh_38 (pc2 := 39) rfl (fun h => ?_)
      refine x_iconst (v := (1 : Int32)) C dX6_isTooHigh_39 (by decide) (pc2 := 40) rfl ?_
      refine x_icmp_ne C h dX6_isTooHigh_40 (tgt := 75) (by decide) (pc2 := 43) rfl (fun h => ?_) (fun h => ?_)
      · refine x_aload_n C dX6_isTooHigh_75 0 rfl (pc2 := 76) rfl ?_
        refine x_get C hiX6 0 (mc_0 ad cI cZ _) rfl 16 (by decide) f91 (v := .int (u1 0 16)) rfl dX6_isTooHigh_76 (pc2 := 79) rfl ?_
        refine x_aload_n C dX6_isTooHigh_79 0 rfl (pc2 := 80) rfl ?_
        refine x_aload_n C dX6_isTooHigh_80 0 rfl (pc2 := 81) rfl ?_
        refine x_get C hiX6 0 (mc_0 ad cI cZ _) rfl 17 (by decide) f81 (v := .int (u1 0 17)) rfl dX6_isTooHigh_81 (pc2 := 84) rfl ?_
        refine x_iload_n C dX6_isTooHigh_84 1 rfl (pc2 := 85) rfl ?_
        refine x_aload_n C dX6_isTooHigh_85 0 rfl (pc2 := 86) rfl ?_
        refine x_get C hiX6 0 (mc_0 ad cI cZ _) rfl 17 (by decide) f81 (v := .int (u1 0 17)) rfl dX6_isTooHigh_86 (pc2 := 89) rfl ?_
        refine x_isub C dX6_isTooHigh_89 (pc2 := 90) rfl ?_
        refine x_iconst (v := (1 : Int32)) C dX6_isTooHigh_90 (by decide) (pc2 := 91) rfl ?_
        refine x_iadd C dX6_isTooHigh_91 (pc2 := 92) rfl ?_
        refine x_callVi (As := [.int (u1 0 17), .int ((x1 - (u1 0 17)) + (1 : Int32))]) (rest := [.int (u1 0 16)]) (index := 63) (n := 2) C h (c_X6_heightOf l D A ad cI cZ _ _ _) gX6_isTooHigh_X6_heightOf rfl (by decide +kernel) rfl rfl ⟨Nat.le_of_ble_eq_true rfl, Nat.le_of_ble_eq_true rfl⟩ (ci := 6) rfl rfl (mc_0 ad cI cZ _) (MW_D ad cI cZ _) rfl rfl (Nat.le_of_ble_eq_true rfl) dX6_isTooHigh_92 (pc2 := 95) rfl (fun r2 u2 h => ?_)
        refine x_iadd C dX6_isTooHigh_95 (pc2 := 96) rfl ?_
        refine x_sub [0] (lv2 := [(0, .ref (ad 0))]) rfl ?_
        exact J96 _ _ h
      · refine x_aload_n C dX6_isTooHigh_43 0 rfl (pc2 := 44) rfl ?_
        refine x_get C hiX6 0 (mc_0 ad cI cZ _) rfl 16 (by decide) f91 (v := .int (u1 0 16)) rfl dX6_isTooHigh_44 (pc2 := 47) rfl ?_
        refine x_aload_n C dX6_isTooHigh_47 0 rfl (pc2 := 48) rfl ?_
        refine x_aload_n C dX6_isTooHigh_48 0 rfl (pc2 := 49) rfl ?_
        refine x_get C hiX6 0 (mc_0 ad cI cZ _) rfl 17 (by decide) f81 (v := .int (u1 0 17)) rfl dX6_isTooHigh_49 (pc2 := 52) rfl ?_
        refine x_iload_n C dX6_isTooHigh_52 1 rfl (pc2 := 53) rfl ?_
        refine x_aload_n C dX6_isTooHigh_53 0 rfl (pc2 := 54) rfl ?_
        refine x_get C hiX6 0 (mc_0 ad cI cZ _) rfl 17 (by decide) f81 (v := .int (u1 0 17)) rfl dX6_isTooHigh_54 (pc2 := 57) rfl ?_
        refine x_isub C dX6_isTooHigh_57 (pc2 := 58) rfl ?_
        refine x_callVi (As := [.int (u1 0 17), .int (x1 - (u1 0 17))]) (rest := [.int (u1 0 16)]) (index := 63) (n := 2) C h (c_X6_heightOf l D A ad cI cZ _ _ _) gX6_isTooHigh_X6_heightOf rfl (by decide +kernel) rfl rfl ⟨Nat.le_of_ble_eq_true rfl, Nat.le_of_ble_eq_true rfl⟩ (ci := 6) rfl rfl (mc_0 ad cI cZ _) (MW_D ad cI cZ _) rfl rfl (Nat.le_of_ble_eq_true rfl) dX6_isTooHigh_58 (pc2 := 61) rfl (fun r3 u3 h => ?_)
        refine x_iadd C dX6_isTooHigh_61 (pc2 := 62) rfl ?_
        refine x_aload_n C dX6_isTooHigh_62 0 rfl (pc2 := 63) rfl ?_
        refine x_get C hiX6 0 (mc_0 ad cI cZ _) rfl 0 (by decide) f7 (v := .ref (ad 1)) rfl dX6_isTooHigh_63 (pc2 := 66) rfl ?_
        refine x_bipush (v := (9 : Int32)) C dX6_isTooHigh_66 (by decide) (pc2 := 68) rfl ?_
        refine x_iload_n C dX6_isTooHigh_68 1 rfl (pc2 := 69) rfl ?_
        refine x_iadd C dX6_isTooHigh_69 (pc2 := 70) rfl ?_
        refine x_iald C h 1 0 (mc_1 ad cI cZ _) rfl dX6_isTooHigh_70 (pc2 := 71) rfl (fun h => ?_)
        refine x_iadd C dX6_isTooHigh_71 (pc2 := 72) rfl ?_
        refine x_goto C dX6_isTooHigh_72 (pc2 := 96) (by decide) ?_
        refine x_sub [0] (lv2 := [(0, .ref (ad 0))]) rfl ?_
        exact J96 _ _ h
    · refine x_aload_n C dX6_isTooHigh_21 0 rfl (pc2 := 22) rfl ?_
      refine x_get C hiX6 0 (mc_0 ad cI cZ _) rfl 0 (by decide) f7 (v := .ref (ad 1)) rfl dX6_isTooHigh_22 (pc2 := 25) rfl ?_
      refine x_bipush (v := (9 : Int32)) C dX6_isTooHigh_25 (by decide) (pc2 := 27) rfl ?_
      refine x_iload_n C dX6_isTooHigh_27 1 rfl (pc2 := 28) rfl ?_
      refine x_iadd C dX6_isTooHigh_28 (pc2 := 29) rfl ?_
      refine x_iald C h 1 0 (mc_1 ad cI cZ _) rfl dX6_isTooHigh_29 (pc2 := 30) rfl (fun h => ?_)
      refine x_goto C dX6_isTooHigh_30 (pc2 := 96) (by decide) ?_
      refine x_sub [0] (lv2 := [(0, .ref (ad 0))]) rfl ?_
      exact J96 _ _ h
  · refine x_iconst (v := (0 : Int32)) C dX6_isTooHigh_9 (by decide) (pc2 := 10) rfl ?_
    exact x_zretL C hr hlocks h rfl dX6_isTooHigh_10
set_option maxRecDepth 100000 in
set_option maxHeartbeats 4000000 in
theorem c_X6_whyNot (l : Launch) (D : va_G) (A : Nat → Prop) (ad : Nat → Nat) (cI cZ : ClassId) (u : Mem) (x1 : Int32) : Cti l yX6_whyNot wsX6_whyNot { frames := 2, cells := 0, slots := 0, locals := 46 } D A (MW ad cI cZ) [(cI, .int), (cZ, .boolean)] [.ref (ad 0), .int x1] u (e_X6_whyNot u x1) := by
  intro r ur h
  refine Met.ofW (cc := cX6_whyNot) (maxL := 3) (ret := (some .int)) (by decide) rfl ?_
  intro p e s m args below meth c s₁ B hml hv
  obtain ⟨hav, hP, hK, hD⟩ := hv
  have C : Cx p m c cX6_whyNot 3 s args wsX6_whyNot RX6 D [(cI, .int), (cZ, .boolean)] := ⟨⟨B.exec, B.bytes, hml, findClass_of_methodNamed B.named, atoms_spec (ws := wsX6_whyNot) B.pre⟩, hK⟩
  have hr := B.returns
  have hlocks := B.notSynchronized
  have hiX6 : ∀ w ∈ wsX60, w ∈ wsX6_whyNot := by decide +kernel
  have f29 : Cond.fieldLink RX6 29 "PanelPagesModel" "figure" "[I" ∈ wsX6_whyNot := by decide +kernel
  have f81 : Cond.fieldLink RX6 81 "PanelPagesModel" "begins" "I" ∈ wsX6_whyNot := by decide +kernel
  refine x_entry2 (lv := [(0, .ref (ad 0)), (1, .int x1)]) hav hP hD (Nat.le_of_ble_eq_true rfl) rfl ?_
  unfold e_X6_whyNot at h
  have J94 : ∀ (u : Mem) (x1 : Int32), e_X6_whyNot_J94 u x1 = some (r, ur) → Wx p l e (headSpec wsX6_whyNot { frames := 2, cells := 0, slots := 0, locals := 46 }).room s m args below meth c (MQ below (Qix D A (MW ad cI cZ) r ur) args s 0 0 A) D A 3 (MW ad cI cZ) u 94 [(0, .ref (ad 0)), (1, .int x1)] [] := by
    intro u x1 h
    unfold e_X6_whyNot_J94 at h
    refine x_aload_n C dX6_whyNot_94 0 rfl (pc2 := 95) rfl ?_
    refine x_iload_n C dX6_whyNot_95 1 rfl (pc2 := 96) rfl ?_
    refine x_callVi (As := [.int x1]) (rest := []) (index := 88) (n := 1) C h (c_X6_isTooHigh l D A ad cI cZ _ _) gX6_whyNot_X6_isTooHigh rfl (by decide +kernel) rfl rfl ⟨Nat.le_of_ble_eq_true rfl, Nat.le_of_ble_eq_true rfl⟩ (ci := 6) rfl rfl (mc_0 ad cI cZ _) (MW_D ad cI cZ _) rfl rfl (Nat.le_of_ble_eq_true rfl) dX6_whyNot_96 (pc2 := 99) rfl (fun r6 u6 h => ?_)
    refine x_if_eq C h dX6_whyNot_99 (tgt := 106) (by decide) (pc2 := 102) rfl (fun h => ?_) (fun h => ?_)
    · refine x_iconst (v := (0 : Int32)) C dX6_whyNot_106 (by decide) (pc2 := 107) rfl ?_
      exact x_iret C hr hlocks h dX6_whyNot_107
    · refine x_iconst (v := (5 : Int32)) C dX6_whyNot_102 (by decide) (pc2 := 103) rfl ?_
      refine x_goto C dX6_whyNot_103 (pc2 := 107) (by decide) ?_
      exact x_iret C hr hlocks h dX6_whyNot_107
  have J58 : ∀ (u : Mem) (x1 : Int32) (x2 : Int32), e_X6_whyNot_J58 u x1 x2 = some (r, ur) → Wx p l e (headSpec wsX6_whyNot { frames := 2, cells := 0, slots := 0, locals := 46 }).room s m args below meth c (MQ below (Qix D A (MW ad cI cZ) r ur) args s 0 0 A) D A 3 (MW ad cI cZ) u 58 [(0, .ref (ad 0)), (1, .int x1), (2, .int x2)] [] := by
    intro u x1 x2 h
    unfold e_X6_whyNot_J58 at h
    refine x_iload_n C dX6_whyNot_58 2 rfl (pc2 := 59) rfl ?_
    refine x_iconst (v := (2 : Int32)) C dX6_whyNot_59 (by decide) (pc2 := 60) rfl ?_
    refine x_icmp_eq C h dX6_whyNot_60 (tgt := 94) (by decide) (pc2 := 63) rfl (fun h => ?_) (fun h => ?_)
    · refine x_sub [0, 1] (lv2 := [(0, .ref (ad 0)), (1, .int x1)]) rfl ?_
      exact J94 _ _ h
    · refine x_aload_n C dX6_whyNot_63 0 rfl (pc2 := 64) rfl ?_
      refine x_iload_n C dX6_whyNot_64 1 rfl (pc2 := 65) rfl ?_
      refine x_iconst (v := (2 : Int32)) C dX6_whyNot_65 (by decide) (pc2 := 66) rfl ?_
      refine x_callVi (As := [.int x1, .int (2 : Int32)]) (rest := []) (index := 78) (n := 2) C h (c_X6_isKind l D A ad cI cZ _ _ _) gX6_whyNot_X6_isKind rfl (by decide +kernel) rfl rfl ⟨Nat.le_of_ble_eq_true rfl, Nat.le_of_ble_eq_true rfl⟩ (ci := 6) rfl rfl (mc_0 ad cI cZ _) (MW_D ad cI cZ _) rfl rfl (Nat.le_of_ble_eq_true rfl) dX6_whyNot_66 (pc2 := 69) rfl (fun r3 u3 h => ?_)
      refine x_if_ne C h dX6_whyNot_69 (tgt := 92) (by decide) (pc2 := 72) rfl (fun h => ?_) (fun h => ?_)
      · refine x_iconst (v := (4 : Int32)) C dX6_whyNot_92 (by decide) (pc2 := 93) rfl ?_
        exact x_iret C hr hlocks h dX6_whyNot_93
      · refine x_aload_n C dX6_whyNot_72 0 rfl (pc2 := 73) rfl ?_
        refine x_iload_n C dX6_whyNot_73 1 rfl (pc2 := 74) rfl ?_
        refine x_iconst (v := (3 : Int32)) C dX6_whyNot_74 (by decide) (pc2 := 75) rfl ?_
        refine x_callVi (As := [.int x1, .int (3 : Int32)]) (rest := []) (index := 78) (n := 2) C h (c_X6_isKind l D A ad cI cZ _ _ _) gX6_whyNot_X6_isKind rfl (by decide +kernel) rfl rfl ⟨Nat.le_of_ble_eq_true rfl, Nat.le_of_ble_eq_true rfl⟩ (ci := 6) rfl rfl (mc_0 ad cI cZ _) (MW_D ad cI cZ _) rfl rfl (Nat.le_of_ble_eq_true rfl) dX6_whyNot_75 (pc2 := 78) rfl (fun r4 u4 h => ?_)
        refine x_if_ne C h dX6_whyNot_78 (tgt := 92) (by decide) (pc2 := 81) rfl (fun h => ?_) (fun h => ?_)
        · refine x_iconst (v := (4 : Int32)) C dX6_whyNot_92 (by decide) (pc2 := 93) rfl ?_
          exact x_iret C hr hlocks h dX6_whyNot_93
        · refine x_aload_n C dX6_whyNot_81 0 rfl (pc2 := 82) rfl ?_
          refine x_iload_n C dX6_whyNot_82 1 rfl (pc2 := 83) rfl ?_
          refine x_iconst (v := (1 : Int32)) C dX6_whyNot_83 (by decide) (pc2 := 84) rfl ?_
          refine x_isub C dX6_whyNot_84 (pc2 := 85) rfl ?_
          refine x_iconst (v := (2 : Int32)) C dX6_whyNot_85 (by decide) (pc2 := 86) rfl ?_
          refine x_callVi (As := [.int (x1 - (1 : Int32)), .int (2 : Int32)]) (rest := []) (index := 78) (n := 2) C h (c_X6_isKind l D A ad cI cZ _ _ _) gX6_whyNot_X6_isKind rfl (by decide +kernel) rfl rfl ⟨Nat.le_of_ble_eq_true rfl, Nat.le_of_ble_eq_true rfl⟩ (ci := 6) rfl rfl (mc_0 ad cI cZ _) (MW_D ad cI cZ _) rfl rfl (Nat.le_of_ble_eq_true rfl) dX6_whyNot_86 (pc2 := 89) rfl (fun r5 u5 h => ?_)
          refine x_if_eq C h dX6_whyNot_89 (tgt := 94) (by decide) (pc2 := 92) rfl (fun h => ?_) (fun h => ?_)
          · refine x_sub [0, 1] (lv2 := [(0, .ref (ad 0)), (1, .int x1)]) rfl ?_
            exact J94 _ _ h
          · refine x_iconst (v := (4 : Int32)) C dX6_whyNot_92 (by decide) (pc2 := 93) rfl ?_
            exact x_iret C hr hlocks h dX6_whyNot_93
  have J34 : ∀ (u : Mem) (x1 : Int32) (x2 : Int32), e_X6_whyNot_J34 u x1 x2 = some (r, ur) → Wx p l e (headSpec wsX6_whyNot { frames := 2, cells := 0, slots := 0, locals := 46 }).room s m args below meth c (MQ below (Qix D A (MW ad cI cZ) r ur) args s 0 0 A) D A 3 (MW ad cI cZ) u 34 [(0, .ref (ad 0)), (1, .int x1), (2, .int x2)] [] := by
    intro u x1 x2 h
    unfold e_X6_whyNot_J34 at h
    refine x_iload_n C dX6_whyNot_34 2 rfl (pc2 := 35) rfl ?_
    refine x_if_ne C h dX6_whyNot_35 (tgt := 58) (by decide) (pc2 := 38) rfl (fun h => ?_) (fun h => ?_)
    · exact J58 _ _ _ h
    · refine x_aload_n C dX6_whyNot_38 0 rfl (pc2 := 39) rfl ?_
      refine x_iload_n C dX6_whyNot_39 1 rfl (pc2 := 40) rfl ?_
      refine x_callVi (As := [.int x1]) (rest := []) (index := 85) (n := 1) C h (c_X6_isBy l D A ad cI cZ _ _) gX6_whyNot_X6_isBy rfl (by decide +kernel) rfl rfl ⟨Nat.le_of_ble_eq_true rfl, Nat.le_of_ble_eq_true rfl⟩ (ci := 6) rfl rfl (mc_0 ad cI cZ _) (MW_D ad cI cZ _) rfl rfl (Nat.le_of_ble_eq_true rfl) dX6_whyNot_40 (pc2 := 43) rfl (fun r1 u1 h => ?_)
      refine x_if_ne C h dX6_whyNot_43 (tgt := 56) (by decide) (pc2 := 46) rfl (fun h => ?_) (fun h => ?_)
      · refine x_iconst (v := (3 : Int32)) C dX6_whyNot_56 (by decide) (pc2 := 57) rfl ?_
        exact x_iret C hr hlocks h dX6_whyNot_57
      · refine x_aload_n C dX6_whyNot_46 0 rfl (pc2 := 47) rfl ?_
        refine x_iload_n C dX6_whyNot_47 1 rfl (pc2 := 48) rfl ?_
        refine x_iconst (v := (1 : Int32)) C dX6_whyNot_48 (by decide) (pc2 := 49) rfl ?_
        refine x_isub C dX6_whyNot_49 (pc2 := 50) rfl ?_
        refine x_callVi (As := [.int (x1 - (1 : Int32))]) (rest := []) (index := 85) (n := 1) C h (c_X6_isBy l D A ad cI cZ _ _) gX6_whyNot_X6_isBy rfl (by decide +kernel) rfl rfl ⟨Nat.le_of_ble_eq_true rfl, Nat.le_of_ble_eq_true rfl⟩ (ci := 6) rfl rfl (mc_0 ad cI cZ _) (MW_D ad cI cZ _) rfl rfl (Nat.le_of_ble_eq_true rfl) dX6_whyNot_50 (pc2 := 53) rfl (fun r2 u2 h => ?_)
        refine x_if_eq C h dX6_whyNot_53 (tgt := 58) (by decide) (pc2 := 56) rfl (fun h => ?_) (fun h => ?_)
        · exact J58 _ _ _ h
        · refine x_iconst (v := (3 : Int32)) C dX6_whyNot_56 (by decide) (pc2 := 57) rfl ?_
          exact x_iret C hr hlocks h dX6_whyNot_57
  have J18 : ∀ (u : Mem) (x1 : Int32) (x2 : Int32), e_X6_whyNot_J18 u x1 x2 = some (r, ur) → Wx p l e (headSpec wsX6_whyNot { frames := 2, cells := 0, slots := 0, locals := 46 }).room s m args below meth c (MQ below (Qix D A (MW ad cI cZ) r ur) args s 0 0 A) D A 3 (MW ad cI cZ) u 18 [(0, .ref (ad 0)), (1, .int x1), (2, .int x2)] [] := by
    intro u x1 x2 h
    unfold e_X6_whyNot_J18 at h
    refine x_iload_n C dX6_whyNot_18 2 rfl (pc2 := 19) rfl ?_
    refine x_if_ne C h dX6_whyNot_19 (tgt := 34) (by decide) (pc2 := 22) rfl (fun h => ?_) (fun h => ?_)
    · exact J34 _ _ _ h
    · refine x_iload_n C dX6_whyNot_22 1 rfl (pc2 := 23) rfl ?_
      refine x_aload_n C dX6_whyNot_23 0 rfl (pc2 := 24) rfl ?_
      refine x_get C hiX6 0 (mc_0 ad cI cZ _) rfl 17 (by decide) f81 (v := .int (u 0 17)) rfl dX6_whyNot_24 (pc2 := 27) rfl ?_
      refine x_isub C dX6_whyNot_27 (pc2 := 28) rfl ?_
      refine x_iconst (v := (4 : Int32)) C dX6_whyNot_28 (by decide) (pc2 := 29) rfl ?_
      refine x_icmp_ne C h dX6_whyNot_29 (tgt := 34) (by decide) (pc2 := 32) rfl (fun h => ?_) (fun h => ?_)
      · exact J34 _ _ _ h
      · refine x_iconst (v := (2 : Int32)) C dX6_whyNot_32 (by decide) (pc2 := 33) rfl ?_
        exact x_iret C hr hlocks h dX6_whyNot_33
  refine x_aload_n C dX6_whyNot_0 0 rfl (pc2 := 1) rfl ?_
  refine x_get C hiX6 0 (mc_0 ad cI cZ _) rfl 7 (by decide) f29 (v := .ref (ad 7)) rfl dX6_whyNot_1 (pc2 := 4) rfl ?_
  refine x_iload_n C dX6_whyNot_4 1 rfl (pc2 := 5) rfl ?_
  refine x_iald C h 7 0 (mc_7 ad cI cZ _) rfl dX6_whyNot_5 (pc2 := 6) rfl (fun h => ?_)
  refine x_istore_n C dX6_whyNot_6 (by decide) (lv2 := [(2, .int (u 7 (x1).toNatClampNeg)), (0, .ref (ad 0)), (1, .int x1)]) rfl (pc2 := 7) rfl ?_
  refine x_iload_n C dX6_whyNot_7 0 rfl (pc2 := 8) rfl ?_
  refine x_iconst (v := (2 : Int32)) C dX6_whyNot_8 (by decide) (pc2 := 9) rfl ?_
  refine x_icmp_eq C h dX6_whyNot_9 (tgt := 18) (by decide) (pc2 := 12) rfl (fun h => ?_) (fun h => ?_)
  · refine x_sub [1, 2, 0] (lv2 := [(0, .ref (ad 0)), (1, .int x1), (2, .int (u 7 (x1).toNatClampNeg))]) rfl ?_
    exact J18 _ _ _ h
  · refine x_iload_n C dX6_whyNot_12 2 rfl (pc2 := 13) rfl ?_
    refine x_if_ne C h dX6_whyNot_13 (tgt := 18) (by decide) (pc2 := 16) rfl (fun h => ?_) (fun h => ?_)
    · refine x_sub [1, 2, 0] (lv2 := [(0, .ref (ad 0)), (1, .int x1), (2, .int (u 7 (x1).toNatClampNeg))]) rfl ?_
      exact J18 _ _ _ h
    · refine x_iconst (v := (1 : Int32)) C dX6_whyNot_16 (by decide) (pc2 := 17) rfl ?_
      exact x_iret C hr hlocks h dX6_whyNot_17
set_option maxRecDepth 100000 in
set_option maxHeartbeats 4000000 in
theorem c_X6_squareLeft (l : Launch) (D : va_G) (A : Nat → Prop) (ad : Nat → Nat) (cI cZ : ClassId) (u : Mem) (x1 : Int32) : Cti l yX6_squareLeft wsX6_squareLeft { frames := 0, cells := 0, slots := 0, locals := 0 } D A (MW ad cI cZ) [(cI, .int), (cZ, .boolean)] [.ref (ad 0), .int x1] u (e_X6_squareLeft u x1) := by
  intro r ur h
  refine Met.ofW (cc := cX6_squareLeft) (maxL := 3) (ret := (some .int)) (by decide) rfl ?_
  intro p e s m args below meth c s₁ B hml hv
  obtain ⟨hav, hP, hK, hD⟩ := hv
  have C : Cx p m c cX6_squareLeft 3 s args wsX6_squareLeft RX6 D [(cI, .int), (cZ, .boolean)] := ⟨⟨B.exec, B.bytes, hml, findClass_of_methodNamed B.named, atoms_spec (ws := wsX6_squareLeft) B.pre⟩, hK⟩
  have hr := B.returns
  have hlocks := B.notSynchronized
  have hiX6 : ∀ w ∈ wsX60, w ∈ wsX6_squareLeft := by decide +kernel
  have f7 : Cond.fieldLink RX6 7 "PanelPagesModel" "state" "[I" ∈ wsX6_squareLeft := by decide +kernel
  refine x_entry2 (lv := [(0, .ref (ad 0)), (1, .int x1)]) hav hP hD (Nat.le_of_ble_eq_true rfl) rfl ?_
  unfold e_X6_squareLeft at h
  refine x_aload_n C dX6_squareLeft_0 0 rfl (pc2 := 1) rfl ?_
  refine x_get C hiX6 0 (mc_0 ad cI cZ _) rfl 0 (by decide) f7 (v := .ref (ad 1)) rfl dX6_squareLeft_1 (pc2 := 4) rfl ?_
  refine x_bipush (v := (73 : Int32)) C dX6_squareLeft_4 (by decide) (pc2 := 6) rfl ?_
  refine x_iald C h 1 0 (mc_1 ad cI cZ _) rfl dX6_squareLeft_6 (pc2 := 7) rfl (fun h => ?_)
  refine x_iload_n C dX6_squareLeft_7 1 rfl (pc2 := 8) rfl ?_
  refine x_isub C dX6_squareLeft_8 (pc2 := 9) rfl ?_
  refine x_istore_n C dX6_squareLeft_9 (by decide) (lv2 := [(2, .int ((u 1 ((73 : Int32)).toNatClampNeg) - x1)), (0, .ref (ad 0)), (1, .int x1)]) rfl (pc2 := 10) rfl ?_
  refine x_iload_n C dX6_squareLeft_10 0 rfl (pc2 := 11) rfl ?_
  refine x_iload_n C dX6_squareLeft_11 0 rfl (pc2 := 12) rfl ?_
  refine x_imul C dX6_squareLeft_12 (pc2 := 13) rfl ?_
  exact x_iret C hr hlocks h dX6_squareLeft_13
set_option maxRecDepth 100000 in
set_option maxHeartbeats 4000000 in
theorem c_X6_endTier (l : Launch) (D : va_G) (A : Nat → Prop) (ad : Nat → Nat) (cI cZ : ClassId) (u : Mem) (x1 : Int32) : Ctv l yX6_endTier wsX6_endTier { frames := 2, cells := 0, slots := 0, locals := 49 } D A (MW ad cI cZ) [(cI, .int), (cZ, .boolean)] [.ref (ad 0), .int x1] u (e_X6_endTier u x1) := by
  intro ur h
  refine Met.ofW (cc := cX6_endTier) (maxL := 2) (ret := none) (by decide) rfl ?_
  intro p e s m args below meth c s₁ B hml hv
  obtain ⟨hav, hP, hK, hD⟩ := hv
  have C : Cx p m c cX6_endTier 2 s args wsX6_endTier RX6 D [(cI, .int), (cZ, .boolean)] := ⟨⟨B.exec, B.bytes, hml, findClass_of_methodNamed B.named, atoms_spec (ws := wsX6_endTier) B.pre⟩, hK⟩
  have hr := B.returns
  have hlocks := B.notSynchronized
  have hiX6 : ∀ w ∈ wsX60, w ∈ wsX6_endTier := by decide +kernel
  have f81 : Cond.fieldLink RX6 81 "PanelPagesModel" "begins" "I" ∈ wsX6_endTier := by decide +kernel
  have f94 : Cond.fieldLink RX6 94 "PanelPagesModel" "ragged" "I" ∈ wsX6_endTier := by decide +kernel
  refine x_entry2 (lv := [(0, .ref (ad 0)), (1, .int x1)]) hav hP hD (Nat.le_of_ble_eq_true rfl) rfl ?_
  unfold e_X6_endTier at h
  have J38 : ∀ (u : Mem) (s0 : Int32) (s1 : Int32), e_X6_endTier_J38 u s0 s1 = some ur → Wx p l e (headSpec wsX6_endTier { frames := 2, cells := 0, slots := 0, locals := 49 }).room s m args below meth c (MQ below (Qvx D A (MW ad cI cZ) ur) args s 0 0 A) D A 2 (MW ad cI cZ) u 38 [] [.int s0, .int s1, .ref (ad 0)] := by
    intro u s0 s1 h
    unfold e_X6_endTier_J38 at h
    refine x_iadd C dX6_endTier_38 (pc2 := 39) rfl ?_
    refine x_put C hiX6 tyX6 tyX6_ok nmX6 0 (mc_0 ad cI cZ _) rfl 13 (by decide) f94 rfl rfl (Nat.le_of_ble_eq_true rfl) (u2 := (put u 0 13 (s1 + s0))) (ms_0_13 ad cI cZ _ _) dX6_endTier_39 (pc2 := 42) rfl ?_
    exact x_vret C hr hlocks h dX6_endTier_42
  refine x_iload_n C dX6_endTier_0 1 rfl (pc2 := 1) rfl ?_
  refine x_if_le C h dX6_endTier_1 (tgt := 42) (by decide) (pc2 := 4) rfl (fun h => ?_) (fun h => ?_)
  · exact x_vret C hr hlocks h dX6_endTier_42
  · refine x_aload_n C dX6_endTier_4 0 rfl (pc2 := 5) rfl ?_
    refine x_dup C dX6_endTier_5 rfl (pc2 := 6) rfl ?_
    refine x_get C hiX6 0 (mc_0 ad cI cZ _) rfl 13 (by decide) f94 (v := .int (u 0 13)) rfl dX6_endTier_6 (pc2 := 9) rfl ?_
    refine x_aload_n C dX6_endTier_9 0 rfl (pc2 := 10) rfl ?_
    refine x_iload_n C dX6_endTier_10 1 rfl (pc2 := 11) rfl ?_
    refine x_iconst (v := (1 : Int32)) C dX6_endTier_11 (by decide) (pc2 := 12) rfl ?_
    refine x_isub C dX6_endTier_12 (pc2 := 13) rfl ?_
    refine x_iconst (v := (2 : Int32)) C dX6_endTier_13 (by decide) (pc2 := 14) rfl ?_
    refine x_callVi (As := [.int (x1 - (1 : Int32)), .int (2 : Int32)]) (rest := [.int (u 0 13), .ref (ad 0)]) (index := 78) (n := 2) C h (c_X6_isKind l D A ad cI cZ _ _ _) gX6_endTier_X6_isKind rfl (by decide +kernel) rfl rfl ⟨Nat.le_of_ble_eq_true rfl, Nat.le_of_ble_eq_true rfl⟩ (ci := 6) rfl rfl (mc_0 ad cI cZ _) (MW_D ad cI cZ _) rfl rfl (Nat.le_of_ble_eq_true rfl) dX6_endTier_14 (pc2 := 17) rfl (fun r1 u1 h => ?_)
    refine x_if_eq C h dX6_endTier_17 (tgt := 24) (by decide) (pc2 := 20) rfl (fun h => ?_) (fun h => ?_)
    · refine x_aload_n C dX6_endTier_24 0 rfl (pc2 := 25) rfl ?_
      refine x_aload_n C dX6_endTier_25 0 rfl (pc2 := 26) rfl ?_
      refine x_get C hiX6 0 (mc_0 ad cI cZ _) rfl 17 (by decide) f81 (v := .int (u1 0 17)) rfl dX6_endTier_26 (pc2 := 29) rfl ?_
      refine x_iload_n C dX6_endTier_29 1 rfl (pc2 := 30) rfl ?_
      refine x_aload_n C dX6_endTier_30 0 rfl (pc2 := 31) rfl ?_
      refine x_get C hiX6 0 (mc_0 ad cI cZ _) rfl 17 (by decide) f81 (v := .int (u1 0 17)) rfl dX6_endTier_31 (pc2 := 34) rfl ?_
      refine x_isub C dX6_endTier_34 (pc2 := 35) rfl ?_
      refine x_callVi (As := [.int (u1 0 17), .int (x1 - (u1 0 17))]) (rest := [.int (u 0 13), .ref (ad 0)]) (index := 71) (n := 2) C h (c_X6_gapsOf l D A ad cI cZ _ _ _) gX6_endTier_X6_gapsOf rfl (by decide +kernel) rfl rfl ⟨Nat.le_of_ble_eq_true rfl, Nat.le_of_ble_eq_true rfl⟩ (ci := 6) rfl rfl (mc_0 ad cI cZ _) (MW_D ad cI cZ _) rfl rfl (Nat.le_of_ble_eq_true rfl) dX6_endTier_35 (pc2 := 38) rfl (fun r2 u2 h => ?_)
      refine x_sub [] (lv2 := []) rfl ?_
      exact J38 _ _ _ h
    · refine x_iconst (v := (0 : Int32)) C dX6_endTier_20 (by decide) (pc2 := 21) rfl ?_
      refine x_goto C dX6_endTier_21 (pc2 := 38) (by decide) ?_
      refine x_sub [] (lv2 := []) rfl ?_
      exact J38 _ _ _ h
set_option maxRecDepth 100000 in
set_option maxHeartbeats 4000000 in
theorem c_X6_endPage (l : Launch) (D : va_G) (A : Nat → Prop) (ad : Nat → Nat) (cI cZ : ClassId) (u : Mem) (x1 : Int32) : Ctv l yX6_endPage wsX6_endPage { frames := 1, cells := 0, slots := 0, locals := 24 } D A (MW ad cI cZ) [(cI, .int), (cZ, .boolean)] [.ref (ad 0), .int x1] u (e_X6_endPage u x1) := by
  intro ur h
  refine Met.ofW (cc := cX6_endPage) (maxL := 2) (ret := none) (by decide) rfl ?_
  intro p e s m args below meth c s₁ B hml hv
  obtain ⟨hav, hP, hK, hD⟩ := hv
  have C : Cx p m c cX6_endPage 2 s args wsX6_endPage RX6 D [(cI, .int), (cZ, .boolean)] := ⟨⟨B.exec, B.bytes, hml, findClass_of_methodNamed B.named, atoms_spec (ws := wsX6_endPage) B.pre⟩, hK⟩
  have hr := B.returns
  have hlocks := B.notSynchronized
  have hiX6 : ∀ w ∈ wsX60, w ∈ wsX6_endPage := by decide +kernel
  have f81 : Cond.fieldLink RX6 81 "PanelPagesModel" "begins" "I" ∈ wsX6_endPage := by decide +kernel
  have f91 : Cond.fieldLink RX6 91 "PanelPagesModel" "above" "I" ∈ wsX6_endPage := by decide +kernel
  have f94 : Cond.fieldLink RX6 94 "PanelPagesModel" "ragged" "I" ∈ wsX6_endPage := by decide +kernel
  refine x_entry2 (lv := [(0, .ref (ad 0)), (1, .int x1)]) hav hP hD (Nat.le_of_ble_eq_true rfl) rfl ?_
  unfold e_X6_endPage at h
  refine x_iload_n C dX6_endPage_0 1 rfl (pc2 := 1) rfl ?_
  refine x_if_le C h dX6_endPage_1 (tgt := 47) (by decide) (pc2 := 4) rfl (fun h => ?_) (fun h => ?_)
  · exact x_vret C hr hlocks h dX6_endPage_47
  · refine x_aload_n C dX6_endPage_4 0 rfl (pc2 := 5) rfl ?_
    refine x_iload_n C dX6_endPage_5 1 rfl (pc2 := 6) rfl ?_
    refine x_iconst (v := (1 : Int32)) C dX6_endPage_6 (by decide) (pc2 := 7) rfl ?_
    refine x_isub C dX6_endPage_7 (pc2 := 8) rfl ?_
    refine x_iconst (v := (2 : Int32)) C dX6_endPage_8 (by decide) (pc2 := 9) rfl ?_
    refine x_callVi (As := [.int (x1 - (1 : Int32)), .int (2 : Int32)]) (rest := []) (index := 78) (n := 2) C h (c_X6_isKind l D A ad cI cZ _ _ _) gX6_endPage_X6_isKind rfl (by decide +kernel) rfl rfl ⟨Nat.le_of_ble_eq_true rfl, Nat.le_of_ble_eq_true rfl⟩ (ci := 6) rfl rfl (mc_0 ad cI cZ _) (MW_D ad cI cZ _) rfl rfl (Nat.le_of_ble_eq_true rfl) dX6_endPage_9 (pc2 := 12) rfl (fun r1 u1 h => ?_)
    refine x_if_ne C h dX6_endPage_12 (tgt := 47) (by decide) (pc2 := 15) rfl (fun h => ?_) (fun h => ?_)
    · exact x_vret C hr hlocks h dX6_endPage_47
    · refine x_aload_n C dX6_endPage_15 0 rfl (pc2 := 16) rfl ?_
      refine x_dup C dX6_endPage_16 rfl (pc2 := 17) rfl ?_
      refine x_get C hiX6 0 (mc_0 ad cI cZ _) rfl 13 (by decide) f94 (v := .int (u1 0 13)) rfl dX6_endPage_17 (pc2 := 20) rfl ?_
      refine x_aload_n C dX6_endPage_20 0 rfl (pc2 := 21) rfl ?_
      refine x_aload_n C dX6_endPage_21 0 rfl (pc2 := 22) rfl ?_
      refine x_get C hiX6 0 (mc_0 ad cI cZ _) rfl 16 (by decide) f91 (v := .int (u1 0 16)) rfl dX6_endPage_22 (pc2 := 25) rfl ?_
      refine x_aload_n C dX6_endPage_25 0 rfl (pc2 := 26) rfl ?_
      refine x_aload_n C dX6_endPage_26 0 rfl (pc2 := 27) rfl ?_
      refine x_get C hiX6 0 (mc_0 ad cI cZ _) rfl 17 (by decide) f81 (v := .int (u1 0 17)) rfl dX6_endPage_27 (pc2 := 30) rfl ?_
      refine x_iload_n C dX6_endPage_30 1 rfl (pc2 := 31) rfl ?_
      refine x_aload_n C dX6_endPage_31 0 rfl (pc2 := 32) rfl ?_
      refine x_get C hiX6 0 (mc_0 ad cI cZ _) rfl 17 (by decide) f81 (v := .int (u1 0 17)) rfl dX6_endPage_32 (pc2 := 35) rfl ?_
      refine x_isub C dX6_endPage_35 (pc2 := 36) rfl ?_
      refine x_callVi (As := [.int (u1 0 17), .int (x1 - (u1 0 17))]) (rest := [.int (u1 0 16), .ref (ad 0), .int (u1 0 13), .ref (ad 0)]) (index := 63) (n := 2) C h (c_X6_heightOf l D A ad cI cZ _ _ _) gX6_endPage_X6_heightOf rfl (by decide +kernel) rfl rfl ⟨Nat.le_of_ble_eq_true rfl, Nat.le_of_ble_eq_true rfl⟩ (ci := 6) rfl rfl (mc_0 ad cI cZ _) (MW_D ad cI cZ _) rfl rfl (Nat.le_of_ble_eq_true rfl) dX6_endPage_36 (pc2 := 39) rfl (fun r2 u2 h => ?_)
      refine x_iadd C dX6_endPage_39 (pc2 := 40) rfl ?_
      refine x_callVi (As := [.int ((u1 0 16) + r2)]) (rest := [.int (u1 0 13), .ref (ad 0)]) (index := 97) (n := 1) C h (c_X6_squareLeft l D A ad cI cZ _ _) gX6_endPage_X6_squareLeft rfl (by decide +kernel) rfl rfl ⟨Nat.le_of_ble_eq_true rfl, Nat.le_of_ble_eq_true rfl⟩ (ci := 6) rfl rfl (mc_0 ad cI cZ _) (MW_D ad cI cZ _) rfl rfl (Nat.le_of_ble_eq_true rfl) dX6_endPage_40 (pc2 := 43) rfl (fun r3 u3 h => ?_)
      refine x_iadd C dX6_endPage_43 (pc2 := 44) rfl ?_
      refine x_put C hiX6 tyX6 tyX6_ok nmX6 0 (mc_0 ad cI cZ _) rfl 13 (by decide) f94 rfl rfl (Nat.le_of_ble_eq_true rfl) (u2 := (put u3 0 13 ((u1 0 13) + r3))) (ms_0_13 ad cI cZ _ _) dX6_endPage_44 (pc2 := 47) rfl ?_
      exact x_vret C hr hlocks h dX6_endPage_47
set_option maxRecDepth 100000 in
set_option maxHeartbeats 4000000 in
theorem c_X6_beginPage (l : Launch) (D : va_G) (A : Nat → Prop) (ad : Nat → Nat) (cI cZ : ClassId) (u : Mem) (x1 : Int32) : Ctv l yX6_beginPage wsX6_beginPage { frames := 3, cells := 0, slots := 0, locals := 70 } D A (MW ad cI cZ) [(cI, .int), (cZ, .boolean)] [.ref (ad 0), .int x1] u (e_X6_beginPage u x1) := by
  intro ur h
  refine Met.ofW (cc := cX6_beginPage) (maxL := 2) (ret := none) (by decide) rfl ?_
  intro p e s m args below meth c s₁ B hml hv
  obtain ⟨hav, hP, hK, hD⟩ := hv
  have C : Cx p m c cX6_beginPage 2 s args wsX6_beginPage RX6 D [(cI, .int), (cZ, .boolean)] := ⟨⟨B.exec, B.bytes, hml, findClass_of_methodNamed B.named, atoms_spec (ws := wsX6_beginPage) B.pre⟩, hK⟩
  have hr := B.returns
  have hlocks := B.notSynchronized
  have hiX6 : ∀ w ∈ wsX60, w ∈ wsX6_beginPage := by decide +kernel
  have f107 : Cond.fieldLink RX6 107 "PanelPagesModel" "pages" "I" ∈ wsX6_beginPage := by decide +kernel
  have f110 : Cond.fieldLink RX6 110 "PanelPagesModel" "blanks" "I" ∈ wsX6_beginPage := by decide +kernel
  have f32 : Cond.fieldLink RX6 32 "PanelPagesModel" "page" "[I" ∈ wsX6_beginPage := by decide +kernel
  have f35 : Cond.fieldLink RX6 35 "PanelPagesModel" "tier" "[I" ∈ wsX6_beginPage := by decide +kernel
  have f81 : Cond.fieldLink RX6 81 "PanelPagesModel" "begins" "I" ∈ wsX6_beginPage := by decide +kernel
  have f91 : Cond.fieldLink RX6 91 "PanelPagesModel" "above" "I" ∈ wsX6_beginPage := by decide +kernel
  have f94 : Cond.fieldLink RX6 94 "PanelPagesModel" "ragged" "I" ∈ wsX6_beginPage := by decide +kernel
  refine x_entry2 (lv := [(0, .ref (ad 0)), (1, .int x1)]) hav hP hD (Nat.le_of_ble_eq_true rfl) rfl ?_
  unfold e_X6_beginPage at h
  have J100 : ∀ (u : Mem) (x1 : Int32) (s0 : Int32) (s1 : Int32), e_X6_beginPage_J100 u x1 s0 s1 = some ur → Wx p l e (headSpec wsX6_beginPage { frames := 3, cells := 0, slots := 0, locals := 70 }).room s m args below meth c (MQ below (Qvx D A (MW ad cI cZ) ur) args s 0 0 A) D A 2 (MW ad cI cZ) u 100 [(0, .ref (ad 0)), (1, .int x1)] [.int s0, .int s1, .ref (ad 0)] := by
    intro u x1 s0 s1 h
    unfold e_X6_beginPage_J100 at h
    refine x_iadd C dX6_beginPage_100 (pc2 := 101) rfl ?_
    refine x_put C hiX6 tyX6 tyX6_ok nmX6 0 (mc_0 ad cI cZ _) rfl 12 (by decide) f107 rfl rfl (Nat.le_of_ble_eq_true rfl) (u2 := (put u 0 12 (s1 + s0))) (ms_0_12 ad cI cZ _ _) dX6_beginPage_101 (pc2 := 104) rfl ?_
    refine x_aload_n C dX6_beginPage_104 0 rfl (pc2 := 105) rfl ?_
    refine x_get C hiX6 0 (mc_0 ad cI cZ _) rfl 9 (by decide) f35 (v := .ref (ad 9)) rfl dX6_beginPage_105 (pc2 := 108) rfl ?_
    refine x_iload_n C dX6_beginPage_108 1 rfl (pc2 := 109) rfl ?_
    refine x_iconst (v := (0 : Int32)) C dX6_beginPage_109 (by decide) (pc2 := 110) rfl ?_
    refine x_iast C h 9 0 (mc_9 ad cI cZ _) rfl (u2 := (put (put u 0 12 (s1 + s0)) 9 (x1).toNatClampNeg (0 : Int32))) (ms_9 ad cI cZ _ _ _) dX6_beginPage_110 (pc2 := 111) rfl (fun h => ?_)
    refine x_aload_n C dX6_beginPage_111 0 rfl (pc2 := 112) rfl ?_
    refine x_iconst (v := (0 : Int32)) C dX6_beginPage_112 (by decide) (pc2 := 113) rfl ?_
    refine x_put C hiX6 tyX6 tyX6_ok nmX6 0 (mc_0 ad cI cZ _) rfl 16 (by decide) f91 rfl rfl (Nat.le_of_ble_eq_true rfl) (u2 := (put (put (put u 0 12 (s1 + s0)) 9 (x1).toNatClampNeg (0 : Int32)) 0 16 (0 : Int32))) (ms_0_16 ad cI cZ _ _) dX6_beginPage_113 (pc2 := 116) rfl ?_
    refine x_aload_n C dX6_beginPage_116 0 rfl (pc2 := 117) rfl ?_
    refine x_iload_n C dX6_beginPage_117 1 rfl (pc2 := 118) rfl ?_
    refine x_put C hiX6 tyX6 tyX6_ok nmX6 0 (mc_0 ad cI cZ _) rfl 17 (by decide) f81 rfl rfl (Nat.le_of_ble_eq_true rfl) (u2 := (put (put (put (put u 0 12 (s1 + s0)) 9 (x1).toNatClampNeg (0 : Int32)) 0 16 (0 : Int32)) 0 17 x1)) (ms_0_17 ad cI cZ _ _) dX6_beginPage_118 (pc2 := 121) rfl ?_
    exact x_vret C hr hlocks h dX6_beginPage_121
  have J71 : ∀ (u : Mem) (x1 : Int32), e_X6_beginPage_J71 u x1 = some ur → Wx p l e (headSpec wsX6_beginPage { frames := 3, cells := 0, slots := 0, locals := 70 }).room s m args below meth c (MQ below (Qvx D A (MW ad cI cZ) ur) args s 0 0 A) D A 2 (MW ad cI cZ) u 71 [(0, .ref (ad 0)), (1, .int x1)] [] := by
    intro u x1 h
    unfold e_X6_beginPage_J71 at h
    refine x_aload_n C dX6_beginPage_71 0 rfl (pc2 := 72) rfl ?_
    refine x_get C hiX6 0 (mc_0 ad cI cZ _) rfl 8 (by decide) f32 (v := .ref (ad 8)) rfl dX6_beginPage_72 (pc2 := 75) rfl ?_
    refine x_iload_n C dX6_beginPage_75 1 rfl (pc2 := 76) rfl ?_
    refine x_aload_n C dX6_beginPage_76 0 rfl (pc2 := 77) rfl ?_
    refine x_get C hiX6 0 (mc_0 ad cI cZ _) rfl 12 (by decide) f107 (v := .int (u 0 12)) rfl dX6_beginPage_77 (pc2 := 80) rfl ?_
    refine x_iast C h 8 0 (mc_8 ad cI cZ _) rfl (u2 := (put u 8 (x1).toNatClampNeg (u 0 12))) (ms_8 ad cI cZ _ _ _) dX6_beginPage_80 (pc2 := 81) rfl (fun h => ?_)
    refine x_aload_n C dX6_beginPage_81 0 rfl (pc2 := 82) rfl ?_
    refine x_dup C dX6_beginPage_82 rfl (pc2 := 83) rfl ?_
    refine x_get C hiX6 0 (mc_0 ad cI cZ _) rfl 12 (by decide) f107 (v := .int ((put u 8 (x1).toNatClampNeg (u 0 12)) 0 12)) rfl dX6_beginPage_83 (pc2 := 86) rfl ?_
    refine x_tope (y := (u 0 12)) rfl ?_
    refine x_aload_n C dX6_beginPage_86 0 rfl (pc2 := 87) rfl ?_
    refine x_iload_n C dX6_beginPage_87 1 rfl (pc2 := 88) rfl ?_
    refine x_iconst (v := (2 : Int32)) C dX6_beginPage_88 (by decide) (pc2 := 89) rfl ?_
    refine x_callVi (As := [.int x1, .int (2 : Int32)]) (rest := [.int (u 0 12), .ref (ad 0)]) (index := 78) (n := 2) C h (c_X6_isKind l D A ad cI cZ _ _ _) gX6_beginPage_X6_isKind rfl (by decide +kernel) rfl rfl ⟨Nat.le_of_ble_eq_true rfl, Nat.le_of_ble_eq_true rfl⟩ (ci := 6) rfl rfl (mc_0 ad cI cZ _) (MW_D ad cI cZ _) rfl rfl (Nat.le_of_ble_eq_true rfl) dX6_beginPage_89 (pc2 := 92) rfl (fun r5 u5 h => ?_)
    refine x_if_eq C h dX6_beginPage_92 (tgt := 99) (by decide) (pc2 := 95) rfl (fun h => ?_) (fun h => ?_)
    · refine x_iconst (v := (1 : Int32)) C dX6_beginPage_99 (by decide) (pc2 := 100) rfl ?_
      exact J100 _ _ _ _ h
    · refine x_iconst (v := (2 : Int32)) C dX6_beginPage_95 (by decide) (pc2 := 96) rfl ?_
      refine x_goto C dX6_beginPage_96 (pc2 := 100) (by decide) ?_
      exact J100 _ _ _ _ h
  have J28 : ∀ (u : Mem) (x1 : Int32), e_X6_beginPage_J28 u x1 = some ur → Wx p l e (headSpec wsX6_beginPage { frames := 3, cells := 0, slots := 0, locals := 70 }).room s m args below meth c (MQ below (Qvx D A (MW ad cI cZ) ur) args s 0 0 A) D A 2 (MW ad cI cZ) u 28 [(0, .ref (ad 0)), (1, .int x1)] [] := by
    intro u x1 h
    unfold e_X6_beginPage_J28 at h
    refine x_aload_n C dX6_beginPage_28 0 rfl (pc2 := 29) rfl ?_
    refine x_get C hiX6 0 (mc_0 ad cI cZ _) rfl 12 (by decide) f107 (v := .int (u 0 12)) rfl dX6_beginPage_29 (pc2 := 32) rfl ?_
    refine x_iconst (v := (2 : Int32)) C dX6_beginPage_32 (by decide) (pc2 := 33) rfl ?_
    refine x_irem C dX6_beginPage_33 (by decide) (pc2 := 34) rfl ?_
    refine x_if_ne C h dX6_beginPage_34 (tgt := 71) (by decide) (pc2 := 37) rfl (fun h => ?_) (fun h => ?_)
    · exact J71 _ _ h
    · refine x_aload_n C dX6_beginPage_37 0 rfl (pc2 := 38) rfl ?_
      refine x_dup C dX6_beginPage_38 rfl (pc2 := 39) rfl ?_
      refine x_get C hiX6 0 (mc_0 ad cI cZ _) rfl 12 (by decide) f107 (v := .int (u 0 12)) rfl dX6_beginPage_39 (pc2 := 42) rfl ?_
      refine x_iconst (v := (1 : Int32)) C dX6_beginPage_42 (by decide) (pc2 := 43) rfl ?_
      refine x_iadd C dX6_beginPage_43 (pc2 := 44) rfl ?_
      refine x_put C hiX6 tyX6 tyX6_ok nmX6 0 (mc_0 ad cI cZ _) rfl 12 (by decide) f107 rfl rfl (Nat.le_of_ble_eq_true rfl) (u2 := (put u 0 12 ((u 0 12) + (1 : Int32)))) (ms_0_12 ad cI cZ _ _) dX6_beginPage_44 (pc2 := 47) rfl ?_
      refine x_aload_n C dX6_beginPage_47 0 rfl (pc2 := 48) rfl ?_
      refine x_dup C dX6_beginPage_48 rfl (pc2 := 49) rfl ?_
      refine x_get C hiX6 0 (mc_0 ad cI cZ _) rfl 15 (by decide) f110 (v := .int ((put u 0 12 ((u 0 12) + (1 : Int32))) 0 15)) rfl dX6_beginPage_49 (pc2 := 52) rfl ?_
      refine x_tope (y := (u 0 15)) rfl ?_
      refine x_iconst (v := (1 : Int32)) C dX6_beginPage_52 (by decide) (pc2 := 53) rfl ?_
      refine x_iadd C dX6_beginPage_53 (pc2 := 54) rfl ?_
      refine x_put C hiX6 tyX6 tyX6_ok nmX6 0 (mc_0 ad cI cZ _) rfl 15 (by decide) f110 rfl rfl (Nat.le_of_ble_eq_true rfl) (u2 := (put (put u 0 12 ((u 0 12) + (1 : Int32))) 0 15 ((u 0 15) + (1 : Int32)))) (ms_0_15 ad cI cZ _ _) dX6_beginPage_54 (pc2 := 57) rfl ?_
      refine x_aload_n C dX6_beginPage_57 0 rfl (pc2 := 58) rfl ?_
      refine x_dup C dX6_beginPage_58 rfl (pc2 := 59) rfl ?_
      refine x_get C hiX6 0 (mc_0 ad cI cZ _) rfl 13 (by decide) f94 (v := .int ((put (put u 0 12 ((u 0 12) + (1 : Int32))) 0 15 ((u 0 15) + (1 : Int32))) 0 13)) rfl dX6_beginPage_59 (pc2 := 62) rfl ?_
      refine x_tope (y := (u 0 13)) rfl ?_
      refine x_aload_n C dX6_beginPage_62 0 rfl (pc2 := 63) rfl ?_
      refine x_iconst (v := (0 : Int32)) C dX6_beginPage_63 (by decide) (pc2 := 64) rfl ?_
      refine x_callVi (As := [.int (0 : Int32)]) (rest := [.int (u 0 13), .ref (ad 0)]) (index := 97) (n := 1) C h (c_X6_squareLeft l D A ad cI cZ _ _) gX6_beginPage_X6_squareLeft rfl (by decide +kernel) rfl rfl ⟨Nat.le_of_ble_eq_true rfl, Nat.le_of_ble_eq_true rfl⟩ (ci := 6) rfl rfl (mc_0 ad cI cZ _) (MW_D ad cI cZ _) rfl rfl (Nat.le_of_ble_eq_true rfl) dX6_beginPage_64 (pc2 := 67) rfl (fun r6 u6 h => ?_)
      refine x_iadd C dX6_beginPage_67 (pc2 := 68) rfl ?_
      refine x_put C hiX6 tyX6 tyX6_ok nmX6 0 (mc_0 ad cI cZ _) rfl 13 (by decide) f94 rfl rfl (Nat.le_of_ble_eq_true rfl) (u2 := (put u6 0 13 ((u 0 13) + r6))) (ms_0_13 ad cI cZ _ _) dX6_beginPage_68 (pc2 := 71) rfl ?_
      exact J71 _ _ h
  refine x_aload_n C dX6_beginPage_0 0 rfl (pc2 := 1) rfl ?_
  refine x_iload_n C dX6_beginPage_1 1 rfl (pc2 := 2) rfl ?_
  refine x_callVv (As := [.int x1]) (rest := []) (index := 100) (n := 1) C h (c_X6_endTier l D A ad cI cZ _ _) gX6_beginPage_X6_endTier rfl (by decide +kernel) rfl rfl ⟨Nat.le_of_ble_eq_true rfl, Nat.le_of_ble_eq_true rfl⟩ (ci := 6) rfl rfl (mc_0 ad cI cZ _) (MW_D ad cI cZ _) rfl rfl (Nat.le_of_ble_eq_true rfl) dX6_beginPage_2 (pc2 := 5) rfl (fun u1 h => ?_)
  refine x_aload_n C dX6_beginPage_5 0 rfl (pc2 := 6) rfl ?_
  refine x_iload_n C dX6_beginPage_6 1 rfl (pc2 := 7) rfl ?_
  refine x_callVv (As := [.int x1]) (rest := []) (index := 104) (n := 1) C h (c_X6_endPage l D A ad cI cZ _ _) gX6_beginPage_X6_endPage rfl (by decide +kernel) rfl rfl ⟨Nat.le_of_ble_eq_true rfl, Nat.le_of_ble_eq_true rfl⟩ (ci := 6) rfl rfl (mc_0 ad cI cZ _) (MW_D ad cI cZ _) rfl rfl (Nat.le_of_ble_eq_true rfl) dX6_beginPage_7 (pc2 := 10) rfl (fun u2 h => ?_)
  refine x_aload_n C dX6_beginPage_10 0 rfl (pc2 := 11) rfl ?_
  refine x_iload_n C dX6_beginPage_11 1 rfl (pc2 := 12) rfl ?_
  refine x_iconst (v := (2 : Int32)) C dX6_beginPage_12 (by decide) (pc2 := 13) rfl ?_
  refine x_callVi (As := [.int x1, .int (2 : Int32)]) (rest := []) (index := 78) (n := 2) C h (c_X6_isKind l D A ad cI cZ _ _ _) gX6_beginPage_X6_isKind rfl (by decide +kernel) rfl rfl ⟨Nat.le_of_ble_eq_true rfl, Nat.le_of_ble_eq_true rfl⟩ (ci := 6) rfl rfl (mc_0 ad cI cZ _) (MW_D ad cI cZ _) rfl rfl (Nat.le_of_ble_eq_true rfl) dX6_beginPage_13 (pc2 := 16) rfl (fun r3 u3 h => ?_)
  refine x_if_ne C h dX6_beginPage_16 (tgt := 28) (by decide) (pc2 := 19) rfl (fun h => ?_) (fun h => ?_)
  · exact J28 _ _ h
  · refine x_aload_n C dX6_beginPage_19 0 rfl (pc2 := 20) rfl ?_
    refine x_iload_n C dX6_beginPage_20 1 rfl (pc2 := 21) rfl ?_
    refine x_iconst (v := (3 : Int32)) C dX6_beginPage_21 (by decide) (pc2 := 22) rfl ?_
    refine x_callVi (As := [.int x1, .int (3 : Int32)]) (rest := []) (index := 78) (n := 2) C h (c_X6_isKind l D A ad cI cZ _ _ _) gX6_beginPage_X6_isKind rfl (by decide +kernel) rfl rfl ⟨Nat.le_of_ble_eq_true rfl, Nat.le_of_ble_eq_true rfl⟩ (ci := 6) rfl rfl (mc_0 ad cI cZ _) (MW_D ad cI cZ _) rfl rfl (Nat.le_of_ble_eq_true rfl) dX6_beginPage_22 (pc2 := 25) rfl (fun r4 u4 h => ?_)
    refine x_if_eq C h dX6_beginPage_25 (tgt := 71) (by decide) (pc2 := 28) rfl (fun h => ?_) (fun h => ?_)
    · exact J71 _ _ h
    · exact J28 _ _ h
set_option maxRecDepth 100000 in
set_option maxHeartbeats 4000000 in
theorem c_X6_put (l : Launch) (D : va_G) (A : Nat → Prop) (ad : Nat → Nat) (cI cZ : ClassId) (u : Mem) (x1 : Int32) : Ctv l yX6_put wsX6_put { frames := 4, cells := 0, slots := 0, locals := 91 } D A (MW ad cI cZ) [(cI, .int), (cZ, .boolean)] [.ref (ad 0), .int x1] u (e_X6_put u x1) := by
  intro ur h
  refine Met.ofW (cc := cX6_put) (maxL := 2) (ret := none) (by decide) rfl ?_
  intro p e s m args below meth c s₁ B hml hv
  obtain ⟨hav, hP, hK, hD⟩ := hv
  have C : Cx p m c cX6_put 2 s args wsX6_put RX6 D [(cI, .int), (cZ, .boolean)] := ⟨⟨B.exec, B.bytes, hml, findClass_of_methodNamed B.named, atoms_spec (ws := wsX6_put) B.pre⟩, hK⟩
  have hr := B.returns
  have hlocks := B.notSynchronized
  have hiX6 : ∀ w ∈ wsX60, w ∈ wsX6_put := by decide +kernel
  have f116 : Cond.fieldLink RX6 116 "PanelPagesModel" "tiers" "I" ∈ wsX6_put := by decide +kernel
  have f29 : Cond.fieldLink RX6 29 "PanelPagesModel" "figure" "[I" ∈ wsX6_put := by decide +kernel
  have f32 : Cond.fieldLink RX6 32 "PanelPagesModel" "page" "[I" ∈ wsX6_put := by decide +kernel
  have f35 : Cond.fieldLink RX6 35 "PanelPagesModel" "tier" "[I" ∈ wsX6_put := by decide +kernel
  have f38 : Cond.fieldLink RX6 38 "PanelPagesModel" "place" "[I" ∈ wsX6_put := by decide +kernel
  have f81 : Cond.fieldLink RX6 81 "PanelPagesModel" "begins" "I" ∈ wsX6_put := by decide +kernel
  have f91 : Cond.fieldLink RX6 91 "PanelPagesModel" "above" "I" ∈ wsX6_put := by decide +kernel
  refine x_entry2 (lv := [(0, .ref (ad 0)), (1, .int x1)]) hav hP hD (Nat.le_of_ble_eq_true rfl) rfl ?_
  unfold e_X6_put at h
  have J116 : ∀ (u : Mem) (x1 : Int32), e_X6_put_J116 u x1 = some ur → Wx p l e (headSpec wsX6_put { frames := 4, cells := 0, slots := 0, locals := 91 }).room s m args below meth c (MQ below (Qvx D A (MW ad cI cZ) ur) args s 0 0 A) D A 2 (MW ad cI cZ) u 116 [(0, .ref (ad 0)), (1, .int x1)] [] := by
    intro u x1 h
    unfold e_X6_put_J116 at h
    refine x_aload_n C dX6_put_116 0 rfl (pc2 := 117) rfl ?_
    refine x_get C hiX6 0 (mc_0 ad cI cZ _) rfl 10 (by decide) f38 (v := .ref (ad 10)) rfl dX6_put_117 (pc2 := 120) rfl ?_
    refine x_iload_n C dX6_put_120 1 rfl (pc2 := 121) rfl ?_
    refine x_iload_n C dX6_put_121 1 rfl (pc2 := 122) rfl ?_
    refine x_aload_n C dX6_put_122 0 rfl (pc2 := 123) rfl ?_
    refine x_get C hiX6 0 (mc_0 ad cI cZ _) rfl 17 (by decide) f81 (v := .int (u 0 17)) rfl dX6_put_123 (pc2 := 126) rfl ?_
    refine x_isub C dX6_put_126 (pc2 := 127) rfl ?_
    refine x_iast C h 10 0 (mc_10 ad cI cZ _) rfl (u2 := (put u 10 (x1).toNatClampNeg (x1 - (u 0 17)))) (ms_10 ad cI cZ _ _ _) dX6_put_127 (pc2 := 128) rfl (fun h => ?_)
    exact x_vret C hr hlocks h dX6_put_128
  refine x_aload_n C dX6_put_0 0 rfl (pc2 := 1) rfl ?_
  refine x_get C hiX6 0 (mc_0 ad cI cZ _) rfl 7 (by decide) f29 (v := .ref (ad 7)) rfl dX6_put_1 (pc2 := 4) rfl ?_
  refine x_iload_n C dX6_put_4 1 rfl (pc2 := 5) rfl ?_
  refine x_iald C h 7 0 (mc_7 ad cI cZ _) rfl dX6_put_5 (pc2 := 6) rfl (fun h => ?_)
  refine x_iconst (v := (2 : Int32)) C dX6_put_6 (by decide) (pc2 := 7) rfl ?_
  refine x_icmp_ne C h dX6_put_7 (tgt := 28) (by decide) (pc2 := 10) rfl (fun h => ?_) (fun h => ?_)
  · refine x_aload_n C dX6_put_28 0 rfl (pc2 := 29) rfl ?_
    refine x_get C hiX6 0 (mc_0 ad cI cZ _) rfl 8 (by decide) f32 (v := .ref (ad 8)) rfl dX6_put_29 (pc2 := 32) rfl ?_
    refine x_iload_n C dX6_put_32 1 rfl (pc2 := 33) rfl ?_
    refine x_aload_n C dX6_put_33 0 rfl (pc2 := 34) rfl ?_
    refine x_get C hiX6 0 (mc_0 ad cI cZ _) rfl 8 (by decide) f32 (v := .ref (ad 8)) rfl dX6_put_34 (pc2 := 37) rfl ?_
    refine x_iload_n C dX6_put_37 1 rfl (pc2 := 38) rfl ?_
    refine x_iconst (v := (1 : Int32)) C dX6_put_38 (by decide) (pc2 := 39) rfl ?_
    refine x_isub C dX6_put_39 (pc2 := 40) rfl ?_
    refine x_iald C h 8 0 (mc_8 ad cI cZ _) rfl dX6_put_40 (pc2 := 41) rfl (fun h => ?_)
    refine x_iast C h 8 0 (mc_8 ad cI cZ _) rfl (u2 := (put u 8 (x1).toNatClampNeg (u 8 ((x1 - (1 : Int32))).toNatClampNeg))) (ms_8 ad cI cZ _ _ _) dX6_put_41 (pc2 := 42) rfl (fun h => ?_)
    refine x_aload_n C dX6_put_42 0 rfl (pc2 := 43) rfl ?_
    refine x_get C hiX6 0 (mc_0 ad cI cZ _) rfl 9 (by decide) f35 (v := .ref (ad 9)) rfl dX6_put_43 (pc2 := 46) rfl ?_
    refine x_iload_n C dX6_put_46 1 rfl (pc2 := 47) rfl ?_
    refine x_aload_n C dX6_put_47 0 rfl (pc2 := 48) rfl ?_
    refine x_get C hiX6 0 (mc_0 ad cI cZ _) rfl 9 (by decide) f35 (v := .ref (ad 9)) rfl dX6_put_48 (pc2 := 51) rfl ?_
    refine x_iload_n C dX6_put_51 1 rfl (pc2 := 52) rfl ?_
    refine x_iconst (v := (1 : Int32)) C dX6_put_52 (by decide) (pc2 := 53) rfl ?_
    refine x_isub C dX6_put_53 (pc2 := 54) rfl ?_
    refine x_iald C h 9 0 (mc_9 ad cI cZ _) rfl dX6_put_54 (pc2 := 55) rfl (fun h => ?_)
    refine x_tope (y := (u 9 ((x1 - (1 : Int32))).toNatClampNeg)) rfl ?_
    refine x_aload_n C dX6_put_55 0 rfl (pc2 := 56) rfl ?_
    refine x_get C hiX6 0 (mc_0 ad cI cZ _) rfl 7 (by decide) f29 (v := .ref (ad 7)) rfl dX6_put_56 (pc2 := 59) rfl ?_
    refine x_iload_n C dX6_put_59 1 rfl (pc2 := 60) rfl ?_
    refine x_iald C h 7 0 (mc_7 ad cI cZ _) rfl dX6_put_60 (pc2 := 61) rfl (fun h => ?_)
    refine x_tope (y := (u 7 (x1).toNatClampNeg)) rfl ?_
    refine x_iadd C dX6_put_61 (pc2 := 62) rfl ?_
    refine x_iast C h 9 0 (mc_9 ad cI cZ _) rfl (u2 := (put (put u 8 (x1).toNatClampNeg (u 8 ((x1 - (1 : Int32))).toNatClampNeg)) 9 (x1).toNatClampNeg ((u 9 ((x1 - (1 : Int32))).toNatClampNeg) + (u 7 (x1).toNatClampNeg)))) (ms_9 ad cI cZ _ _ _) dX6_put_62 (pc2 := 63) rfl (fun h => ?_)
    refine x_aload_n C dX6_put_63 0 rfl (pc2 := 64) rfl ?_
    refine x_get C hiX6 0 (mc_0 ad cI cZ _) rfl 7 (by decide) f29 (v := .ref (ad 7)) rfl dX6_put_64 (pc2 := 67) rfl ?_
    refine x_iload_n C dX6_put_67 1 rfl (pc2 := 68) rfl ?_
    refine x_iald C h 7 0 (mc_7 ad cI cZ _) rfl dX6_put_68 (pc2 := 69) rfl (fun h => ?_)
    refine x_tope (y := (u 7 (x1).toNatClampNeg)) rfl ?_
    refine x_iconst (v := (1 : Int32)) C dX6_put_69 (by decide) (pc2 := 70) rfl ?_
    refine x_icmp_ne C h dX6_put_70 (tgt := 116) (by decide) (pc2 := 73) rfl (fun h => ?_) (fun h => ?_)
    · exact J116 _ _ h
    · refine x_aload_n C dX6_put_73 0 rfl (pc2 := 74) rfl ?_
      refine x_iload_n C dX6_put_74 1 rfl (pc2 := 75) rfl ?_
      refine x_callVv (As := [.int x1]) (rest := []) (index := 100) (n := 1) C h (c_X6_endTier l D A ad cI cZ _ _) gX6_put_X6_endTier rfl (by decide +kernel) rfl rfl ⟨Nat.le_of_ble_eq_true rfl, Nat.le_of_ble_eq_true rfl⟩ (ci := 6) rfl rfl (mc_0 ad cI cZ _) (MW_D ad cI cZ _) rfl rfl (Nat.le_of_ble_eq_true rfl) dX6_put_75 (pc2 := 78) rfl (fun u1 h => ?_)
      refine x_aload_n C dX6_put_78 0 rfl (pc2 := 79) rfl ?_
      refine x_dup C dX6_put_79 rfl (pc2 := 80) rfl ?_
      refine x_get C hiX6 0 (mc_0 ad cI cZ _) rfl 16 (by decide) f91 (v := .int (u1 0 16)) rfl dX6_put_80 (pc2 := 83) rfl ?_
      refine x_aload_n C dX6_put_83 0 rfl (pc2 := 84) rfl ?_
      refine x_aload_n C dX6_put_84 0 rfl (pc2 := 85) rfl ?_
      refine x_get C hiX6 0 (mc_0 ad cI cZ _) rfl 17 (by decide) f81 (v := .int (u1 0 17)) rfl dX6_put_85 (pc2 := 88) rfl ?_
      refine x_iload_n C dX6_put_88 1 rfl (pc2 := 89) rfl ?_
      refine x_aload_n C dX6_put_89 0 rfl (pc2 := 90) rfl ?_
      refine x_get C hiX6 0 (mc_0 ad cI cZ _) rfl 17 (by decide) f81 (v := .int (u1 0 17)) rfl dX6_put_90 (pc2 := 93) rfl ?_
      refine x_isub C dX6_put_93 (pc2 := 94) rfl ?_
      refine x_callVi (As := [.int (u1 0 17), .int (x1 - (u1 0 17))]) (rest := [.int (u1 0 16), .ref (ad 0)]) (index := 63) (n := 2) C h (c_X6_heightOf l D A ad cI cZ _ _ _) gX6_put_X6_heightOf rfl (by decide +kernel) rfl rfl ⟨Nat.le_of_ble_eq_true rfl, Nat.le_of_ble_eq_true rfl⟩ (ci := 6) rfl rfl (mc_0 ad cI cZ _) (MW_D ad cI cZ _) rfl rfl (Nat.le_of_ble_eq_true rfl) dX6_put_94 (pc2 := 97) rfl (fun r2 u2 h => ?_)
      refine x_iadd C dX6_put_97 (pc2 := 98) rfl ?_
      refine x_put C hiX6 tyX6 tyX6_ok nmX6 0 (mc_0 ad cI cZ _) rfl 16 (by decide) f91 rfl rfl (Nat.le_of_ble_eq_true rfl) (u2 := (put u2 0 16 ((u1 0 16) + r2))) (ms_0_16 ad cI cZ _ _) dX6_put_98 (pc2 := 101) rfl ?_
      refine x_aload_n C dX6_put_101 0 rfl (pc2 := 102) rfl ?_
      refine x_iload_n C dX6_put_102 1 rfl (pc2 := 103) rfl ?_
      refine x_put C hiX6 tyX6 tyX6_ok nmX6 0 (mc_0 ad cI cZ _) rfl 17 (by decide) f81 rfl rfl (Nat.le_of_ble_eq_true rfl) (u2 := (put (put u2 0 16 ((u1 0 16) + r2)) 0 17 x1)) (ms_0_17 ad cI cZ _ _) dX6_put_103 (pc2 := 106) rfl ?_
      refine x_aload_n C dX6_put_106 0 rfl (pc2 := 107) rfl ?_
      refine x_dup C dX6_put_107 rfl (pc2 := 108) rfl ?_
      refine x_get C hiX6 0 (mc_0 ad cI cZ _) rfl 14 (by decide) f116 (v := .int ((put (put u2 0 16 ((u1 0 16) + r2)) 0 17 x1) 0 14)) rfl dX6_put_108 (pc2 := 111) rfl ?_
      refine x_tope (y := (u2 0 14)) rfl ?_
      refine x_iconst (v := (1 : Int32)) C dX6_put_111 (by decide) (pc2 := 112) rfl ?_
      refine x_iadd C dX6_put_112 (pc2 := 113) rfl ?_
      refine x_put C hiX6 tyX6 tyX6_ok nmX6 0 (mc_0 ad cI cZ _) rfl 14 (by decide) f116 rfl rfl (Nat.le_of_ble_eq_true rfl) (u2 := (put (put (put u2 0 16 ((u1 0 16) + r2)) 0 17 x1) 0 14 ((u2 0 14) + (1 : Int32)))) (ms_0_14 ad cI cZ _ _) dX6_put_113 (pc2 := 116) rfl ?_
      exact J116 _ _ h
  · refine x_aload_n C dX6_put_10 0 rfl (pc2 := 11) rfl ?_
    refine x_iload_n C dX6_put_11 1 rfl (pc2 := 12) rfl ?_
    refine x_callVv (As := [.int x1]) (rest := []) (index := 113) (n := 1) C h (c_X6_beginPage l D A ad cI cZ _ _) gX6_put_X6_beginPage rfl (by decide +kernel) rfl rfl ⟨Nat.le_of_ble_eq_true rfl, Nat.le_of_ble_eq_true rfl⟩ (ci := 6) rfl rfl (mc_0 ad cI cZ _) (MW_D ad cI cZ _) rfl rfl (Nat.le_of_ble_eq_true rfl) dX6_put_12 (pc2 := 15) rfl (fun u3 h => ?_)
    refine x_aload_n C dX6_put_15 0 rfl (pc2 := 16) rfl ?_
    refine x_dup C dX6_put_16 rfl (pc2 := 17) rfl ?_
    refine x_get C hiX6 0 (mc_0 ad cI cZ _) rfl 14 (by decide) f116 (v := .int (u3 0 14)) rfl dX6_put_17 (pc2 := 20) rfl ?_
    refine x_iconst (v := (1 : Int32)) C dX6_put_20 (by decide) (pc2 := 21) rfl ?_
    refine x_iadd C dX6_put_21 (pc2 := 22) rfl ?_
    refine x_put C hiX6 tyX6 tyX6_ok nmX6 0 (mc_0 ad cI cZ _) rfl 14 (by decide) f116 rfl rfl (Nat.le_of_ble_eq_true rfl) (u2 := (put u3 0 14 ((u3 0 14) + (1 : Int32)))) (ms_0_14 ad cI cZ _ _) dX6_put_22 (pc2 := 25) rfl ?_
    refine x_goto C dX6_put_25 (pc2 := 116) (by decide) ?_
    exact J116 _ _ h
set_option maxRecDepth 100000 in
set_option maxHeartbeats 4000000 in
theorem c_X6_goThrough (l : Launch) (D : va_G) (A : Nat → Prop) (ad : Nat → Nat) (cI cZ : ClassId) (u : Mem)  : Cti l yX6_goThrough wsX6_goThrough { frames := 5, cells := 0, slots := 0, locals := 112 } D A (MW ad cI cZ) [(cI, .int), (cZ, .boolean)] [.ref (ad 0)] u (e_X6_goThrough u ) := by
  intro r ur h
  refine Met.ofW (cc := cX6_goThrough) (maxL := 2) (ret := (some .int)) (by decide) rfl ?_
  intro p e s m args below meth c s₁ B hml hv
  obtain ⟨hav, hP, hK, hD⟩ := hv
  have C : Cx p m c cX6_goThrough 2 s args wsX6_goThrough RX6 D [(cI, .int), (cZ, .boolean)] := ⟨⟨B.exec, B.bytes, hml, findClass_of_methodNamed B.named, atoms_spec (ws := wsX6_goThrough) B.pre⟩, hK⟩
  have hr := B.returns
  have hlocks := B.notSynchronized
  have hiX6 : ∀ w ∈ wsX60, w ∈ wsX6_goThrough := by decide +kernel
  have f107 : Cond.fieldLink RX6 107 "PanelPagesModel" "pages" "I" ∈ wsX6_goThrough := by decide +kernel
  have f110 : Cond.fieldLink RX6 110 "PanelPagesModel" "blanks" "I" ∈ wsX6_goThrough := by decide +kernel
  have f116 : Cond.fieldLink RX6 116 "PanelPagesModel" "tiers" "I" ∈ wsX6_goThrough := by decide +kernel
  have f122 : Cond.fieldLink RX6 122 "PanelPagesModel" "why" "I" ∈ wsX6_goThrough := by decide +kernel
  have f81 : Cond.fieldLink RX6 81 "PanelPagesModel" "begins" "I" ∈ wsX6_goThrough := by decide +kernel
  have f91 : Cond.fieldLink RX6 91 "PanelPagesModel" "above" "I" ∈ wsX6_goThrough := by decide +kernel
  have f94 : Cond.fieldLink RX6 94 "PanelPagesModel" "ragged" "I" ∈ wsX6_goThrough := by decide +kernel
  refine x_entry2 (lv := [(0, .ref (ad 0))]) hav hP hD (Nat.le_of_ble_eq_true rfl) rfl ?_
  unfold e_X6_goThrough at h
  have J32 : ∀ (f : Nat) (u : Mem) (x1 : Int32), e_X6_goThrough_L32 f u x1 = some (r, ur) → Wx p l e (headSpec wsX6_goThrough { frames := 5, cells := 0, slots := 0, locals := 112 }).room s m args below meth c (MQ below (Qix D A (MW ad cI cZ) r ur) args s 0 0 A) D A 2 (MW ad cI cZ) u 32 [(0, .ref (ad 0)), (1, .int x1)] [] := by
    intro f
    induction f with
    | zero => intro u x1 h; cases h
    | succ f ih =>
      intro u x1 h
      replace h : e_X6_goThrough_L32_b (e_X6_goThrough_L32 f) u x1 = some (r, ur) := h
      unfold e_X6_goThrough_L32_b at h
      refine x_iload_n C dX6_goThrough_32 1 rfl (pc2 := 33) rfl ?_
      refine x_aload_n C dX6_goThrough_33 0 rfl (pc2 := 34) rfl ?_
      refine x_callVi (As := []) (rest := [.int x1]) (index := 47) (n := 0) C h (c_X6_many l D A ad cI cZ _ ) gX6_goThrough_X6_many rfl (by decide +kernel) rfl rfl ⟨Nat.le_of_ble_eq_true rfl, Nat.le_of_ble_eq_true rfl⟩ (ci := 6) rfl rfl (mc_0 ad cI cZ _) (MW_D ad cI cZ _) rfl rfl (Nat.le_of_ble_eq_true rfl) dX6_goThrough_34 (pc2 := 37) rfl (fun r1 u1 h => ?_)
      refine x_icmp_ge C h dX6_goThrough_37 (tgt := 69) (by decide) (pc2 := 40) rfl (fun h => ?_) (fun h => ?_)
      · refine x_aload_n C dX6_goThrough_69 0 rfl (pc2 := 70) rfl ?_
        refine x_bipush (v := (-6 : Int32)) C dX6_goThrough_70 (by decide) (pc2 := 72) rfl ?_
        refine x_put C hiX6 tyX6 tyX6_ok nmX6 0 (mc_0 ad cI cZ _) rfl 11 (by decide) f122 rfl rfl (Nat.le_of_ble_eq_true rfl) (u2 := (put u1 0 11 (-6 : Int32))) (ms_0_11 ad cI cZ _ _) dX6_goThrough_72 (pc2 := 75) rfl ?_
        refine x_aload_n C dX6_goThrough_75 0 rfl (pc2 := 76) rfl ?_
        refine x_aload_n C dX6_goThrough_76 0 rfl (pc2 := 77) rfl ?_
        refine x_callVi (As := []) (rest := [.ref (ad 0)]) (index := 47) (n := 0) C h (c_X6_many l D A ad cI cZ _ ) gX6_goThrough_X6_many rfl (by decide +kernel) rfl rfl ⟨Nat.le_of_ble_eq_true rfl, Nat.le_of_ble_eq_true rfl⟩ (ci := 6) rfl rfl (mc_0 ad cI cZ _) (MW_D ad cI cZ _) rfl rfl (Nat.le_of_ble_eq_true rfl) dX6_goThrough_77 (pc2 := 80) rfl (fun r2 u2 h => ?_)
        refine x_callVv (As := [.int r2]) (rest := []) (index := 100) (n := 1) C h (c_X6_endTier l D A ad cI cZ _ _) gX6_goThrough_X6_endTier rfl (by decide +kernel) rfl rfl ⟨Nat.le_of_ble_eq_true rfl, Nat.le_of_ble_eq_true rfl⟩ (ci := 6) rfl rfl (mc_0 ad cI cZ _) (MW_D ad cI cZ _) rfl rfl (Nat.le_of_ble_eq_true rfl) dX6_goThrough_80 (pc2 := 83) rfl (fun u3 h => ?_)
        refine x_aload_n C dX6_goThrough_83 0 rfl (pc2 := 84) rfl ?_
        refine x_aload_n C dX6_goThrough_84 0 rfl (pc2 := 85) rfl ?_
        refine x_callVi (As := []) (rest := [.ref (ad 0)]) (index := 47) (n := 0) C h (c_X6_many l D A ad cI cZ _ ) gX6_goThrough_X6_many rfl (by decide +kernel) rfl rfl ⟨Nat.le_of_ble_eq_true rfl, Nat.le_of_ble_eq_true rfl⟩ (ci := 6) rfl rfl (mc_0 ad cI cZ _) (MW_D ad cI cZ _) rfl rfl (Nat.le_of_ble_eq_true rfl) dX6_goThrough_85 (pc2 := 88) rfl (fun r4 u4 h => ?_)
        refine x_callVv (As := [.int r4]) (rest := []) (index := 104) (n := 1) C h (c_X6_endPage l D A ad cI cZ _ _) gX6_goThrough_X6_endPage rfl (by decide +kernel) rfl rfl ⟨Nat.le_of_ble_eq_true rfl, Nat.le_of_ble_eq_true rfl⟩ (ci := 6) rfl rfl (mc_0 ad cI cZ _) (MW_D ad cI cZ _) rfl rfl (Nat.le_of_ble_eq_true rfl) dX6_goThrough_88 (pc2 := 91) rfl (fun u5 h => ?_)
        refine x_bipush (v := (-6 : Int32)) C dX6_goThrough_91 (by decide) (pc2 := 93) rfl ?_
        exact x_iret C hr hlocks h dX6_goThrough_93
      · refine x_aload_n C dX6_goThrough_40 0 rfl (pc2 := 41) rfl ?_
        refine x_aload_n C dX6_goThrough_41 0 rfl (pc2 := 42) rfl ?_
        refine x_iload_n C dX6_goThrough_42 1 rfl (pc2 := 43) rfl ?_
        refine x_callVi (As := [.int x1]) (rest := [.ref (ad 0)]) (index := 119) (n := 1) C h (c_X6_whyNot l D A ad cI cZ _ _) gX6_goThrough_X6_whyNot rfl (by decide +kernel) rfl rfl ⟨Nat.le_of_ble_eq_true rfl, Nat.le_of_ble_eq_true rfl⟩ (ci := 6) rfl rfl (mc_0 ad cI cZ _) (MW_D ad cI cZ _) rfl rfl (Nat.le_of_ble_eq_true rfl) dX6_goThrough_43 (pc2 := 46) rfl (fun r6 u6 h => ?_)
        refine x_put C hiX6 tyX6 tyX6_ok nmX6 0 (mc_0 ad cI cZ _) rfl 11 (by decide) f122 rfl rfl (Nat.le_of_ble_eq_true rfl) (u2 := (put u6 0 11 r6)) (ms_0_11 ad cI cZ _ _) dX6_goThrough_46 (pc2 := 49) rfl ?_
        refine x_aload_n C dX6_goThrough_49 0 rfl (pc2 := 50) rfl ?_
        refine x_get C hiX6 0 (mc_0 ad cI cZ _) rfl 11 (by decide) f122 (v := .int ((put u6 0 11 r6) 0 11)) rfl dX6_goThrough_50 (pc2 := 53) rfl ?_
        refine x_tope (y := r6) rfl ?_
        refine x_if_le C h dX6_goThrough_53 (tgt := 58) (by decide) (pc2 := 56) rfl (fun h => ?_) (fun h => ?_)
        · refine x_aload_n C dX6_goThrough_58 0 rfl (pc2 := 59) rfl ?_
          refine x_iload_n C dX6_goThrough_59 1 rfl (pc2 := 60) rfl ?_
          refine x_callVv (As := [.int x1]) (rest := []) (index := 125) (n := 1) C h (c_X6_put l D A ad cI cZ _ _) gX6_goThrough_X6_put rfl (by decide +kernel) rfl rfl ⟨Nat.le_of_ble_eq_true rfl, Nat.le_of_ble_eq_true rfl⟩ (ci := 6) rfl rfl (mc_0 ad cI cZ _) (MW_D ad cI cZ _) rfl rfl (Nat.le_of_ble_eq_true rfl) dX6_goThrough_60 (pc2 := 63) rfl (fun u7 h => ?_)
          refine x_iinc C dX6_goThrough_63 1 rfl (1 : Int32) (by decide) rfl (by decide) (lv2 := [(1, .int (x1 + (1 : Int32))), (0, .ref (ad 0))]) rfl (pc2 := 66) rfl ?_
          refine x_goto C dX6_goThrough_66 (pc2 := 32) (by decide) ?_
          refine x_sub [1, 0] (lv2 := [(0, .ref (ad 0)), (1, .int (x1 + (1 : Int32)))]) rfl ?_
          exact ih _ _ h
        · refine x_iload_n C dX6_goThrough_56 1 rfl (pc2 := 57) rfl ?_
          exact x_iret C hr hlocks h dX6_goThrough_57
  refine x_aload_n C dX6_goThrough_0 0 rfl (pc2 := 1) rfl ?_
  refine x_iconst (v := (0 : Int32)) C dX6_goThrough_1 (by decide) (pc2 := 2) rfl ?_
  refine x_put C hiX6 tyX6 tyX6_ok nmX6 0 (mc_0 ad cI cZ _) rfl 12 (by decide) f107 rfl rfl (Nat.le_of_ble_eq_true rfl) (u2 := (put u 0 12 (0 : Int32))) (ms_0_12 ad cI cZ _ _) dX6_goThrough_2 (pc2 := 5) rfl ?_
  refine x_aload_n C dX6_goThrough_5 0 rfl (pc2 := 6) rfl ?_
  refine x_iconst (v := (0 : Int32)) C dX6_goThrough_6 (by decide) (pc2 := 7) rfl ?_
  refine x_put C hiX6 tyX6 tyX6_ok nmX6 0 (mc_0 ad cI cZ _) rfl 13 (by decide) f94 rfl rfl (Nat.le_of_ble_eq_true rfl) (u2 := (put (put u 0 12 (0 : Int32)) 0 13 (0 : Int32))) (ms_0_13 ad cI cZ _ _) dX6_goThrough_7 (pc2 := 10) rfl ?_
  refine x_aload_n C dX6_goThrough_10 0 rfl (pc2 := 11) rfl ?_
  refine x_iconst (v := (0 : Int32)) C dX6_goThrough_11 (by decide) (pc2 := 12) rfl ?_
  refine x_put C hiX6 tyX6 tyX6_ok nmX6 0 (mc_0 ad cI cZ _) rfl 14 (by decide) f116 rfl rfl (Nat.le_of_ble_eq_true rfl) (u2 := (put (put (put u 0 12 (0 : Int32)) 0 13 (0 : Int32)) 0 14 (0 : Int32))) (ms_0_14 ad cI cZ _ _) dX6_goThrough_12 (pc2 := 15) rfl ?_
  refine x_aload_n C dX6_goThrough_15 0 rfl (pc2 := 16) rfl ?_
  refine x_iconst (v := (0 : Int32)) C dX6_goThrough_16 (by decide) (pc2 := 17) rfl ?_
  refine x_put C hiX6 tyX6 tyX6_ok nmX6 0 (mc_0 ad cI cZ _) rfl 15 (by decide) f110 rfl rfl (Nat.le_of_ble_eq_true rfl) (u2 := (put (put (put (put u 0 12 (0 : Int32)) 0 13 (0 : Int32)) 0 14 (0 : Int32)) 0 15 (0 : Int32))) (ms_0_15 ad cI cZ _ _) dX6_goThrough_17 (pc2 := 20) rfl ?_
  refine x_aload_n C dX6_goThrough_20 0 rfl (pc2 := 21) rfl ?_
  refine x_iconst (v := (0 : Int32)) C dX6_goThrough_21 (by decide) (pc2 := 22) rfl ?_
  refine x_put C hiX6 tyX6 tyX6_ok nmX6 0 (mc_0 ad cI cZ _) rfl 16 (by decide) f91 rfl rfl (Nat.le_of_ble_eq_true rfl) (u2 := (put (put (put (put (put u 0 12 (0 : Int32)) 0 13 (0 : Int32)) 0 14 (0 : Int32)) 0 15 (0 : Int32)) 0 16 (0 : Int32))) (ms_0_16 ad cI cZ _ _) dX6_goThrough_22 (pc2 := 25) rfl ?_
  refine x_aload_n C dX6_goThrough_25 0 rfl (pc2 := 26) rfl ?_
  refine x_iconst (v := (0 : Int32)) C dX6_goThrough_26 (by decide) (pc2 := 27) rfl ?_
  refine x_put C hiX6 tyX6 tyX6_ok nmX6 0 (mc_0 ad cI cZ _) rfl 17 (by decide) f81 rfl rfl (Nat.le_of_ble_eq_true rfl) (u2 := (put (put (put (put (put (put u 0 12 (0 : Int32)) 0 13 (0 : Int32)) 0 14 (0 : Int32)) 0 15 (0 : Int32)) 0 16 (0 : Int32)) 0 17 (0 : Int32))) (ms_0_17 ad cI cZ _ _) dX6_goThrough_27 (pc2 := 30) rfl ?_
  refine x_iconst (v := (0 : Int32)) C dX6_goThrough_30 (by decide) (pc2 := 31) rfl ?_
  refine x_istore_n C dX6_goThrough_31 (by decide) (lv2 := [(1, .int (0 : Int32)), (0, .ref (ad 0))]) rfl (pc2 := 32) rfl ?_
  refine x_sub [1, 0] (lv2 := [(0, .ref (ad 0)), (1, .int (0 : Int32))]) rfl ?_
  exact J32 FU _ _ h
set_option maxRecDepth 100000 in
set_option maxHeartbeats 4000000 in
theorem c_X6_say (l : Launch) (D : va_G) (A : Nat → Prop) (ad : Nat → Nat) (cI cZ : ClassId) (u : Mem) (x1 : Int32) : Cti l yX6_say wsX6_say { frames := 1, cells := 0, slots := 0, locals := 22 } D A (MW ad cI cZ) [(cI, .int), (cZ, .boolean)] [.ref (ad 0), .int x1] u (e_X6_say u x1) := by
  intro r ur h
  refine Met.ofW (cc := cX6_say) (maxL := 2) (ret := (some .int)) (by decide) rfl ?_
  intro p e s m args below meth c s₁ B hml hv
  obtain ⟨hav, hP, hK, hD⟩ := hv
  have C : Cx p m c cX6_say 2 s args wsX6_say RX6 D [(cI, .int), (cZ, .boolean)] := ⟨⟨B.exec, B.bytes, hml, findClass_of_methodNamed B.named, atoms_spec (ws := wsX6_say) B.pre⟩, hK⟩
  have hr := B.returns
  have hlocks := B.notSynchronized
  have hiX6 : ∀ w ∈ wsX60, w ∈ wsX6_say := by decide +kernel
  have f128 : Cond.fieldLink RX6 128 "PanelPagesModel" "said" "I" ∈ wsX6_say := by decide +kernel
  have f20 : Cond.fieldLink RX6 20 "PanelPagesModel" "pad" "[I" ∈ wsX6_say := by decide +kernel
  refine x_entry2 (lv := [(0, .ref (ad 0)), (1, .int x1)]) hav hP hD (Nat.le_of_ble_eq_true rfl) rfl ?_
  unfold e_X6_say at h
  refine x_iload_n C dX6_say_0 1 rfl (pc2 := 1) rfl ?_
  refine x_bipush (v := (33 : Int32)) C dX6_say_1 (by decide) (pc2 := 3) rfl ?_
  refine x_bipush (v := (126 : Int32)) C dX6_say_3 (by decide) (pc2 := 5) rfl ?_
  refine x_callSi (As := [.int x1, .int (33 : Int32), .int (126 : Int32)]) (rest := []) (index := 51) (n := 3) C h (c_X6_in l D A ad cI cZ _ _ _ _) gX6_say_X6_in rfl (by decide +kernel) rfl rfl ⟨Nat.le_of_ble_eq_true rfl, Nat.le_of_ble_eq_true rfl⟩ (MW_D ad cI cZ _) rfl rfl (Nat.le_of_ble_eq_true rfl) dX6_say_5 (pc2 := 8) rfl (fun r1 u1 h => ?_)
  refine x_if_ne C h dX6_say_8 (tgt := 14) (by decide) (pc2 := 11) rfl (fun h => ?_) (fun h => ?_)
  · refine x_aload_n C dX6_say_14 0 rfl (pc2 := 15) rfl ?_
    refine x_get C hiX6 0 (mc_0 ad cI cZ _) rfl 4 (by decide) f128 (v := .int (u1 0 4)) rfl dX6_say_15 (pc2 := 18) rfl ?_
    refine x_bipush (v := (9 : Int32)) C dX6_say_18 (by decide) (pc2 := 20) rfl ?_
    refine x_icmp_ne C h dX6_say_20 (tgt := 26) (by decide) (pc2 := 23) rfl (fun h => ?_) (fun h => ?_)
    · refine x_aload_n C dX6_say_26 0 rfl (pc2 := 27) rfl ?_
      refine x_get C hiX6 0 (mc_0 ad cI cZ _) rfl 3 (by decide) f20 (v := .ref (ad 4)) rfl dX6_say_27 (pc2 := 30) rfl ?_
      refine x_aload_n C dX6_say_30 0 rfl (pc2 := 31) rfl ?_
      refine x_get C hiX6 0 (mc_0 ad cI cZ _) rfl 4 (by decide) f128 (v := .int (u1 0 4)) rfl dX6_say_31 (pc2 := 34) rfl ?_
      refine x_iload_n C dX6_say_34 1 rfl (pc2 := 35) rfl ?_
      refine x_iast C h 4 0 (mc_4 ad cI cZ _) rfl (u2 := (put u1 4 ((u1 0 4)).toNatClampNeg x1)) (ms_4 ad cI cZ _ _ _) dX6_say_35 (pc2 := 36) rfl (fun h => ?_)
      refine x_aload_n C dX6_say_36 0 rfl (pc2 := 37) rfl ?_
      refine x_dup C dX6_say_37 rfl (pc2 := 38) rfl ?_
      refine x_get C hiX6 0 (mc_0 ad cI cZ _) rfl 4 (by decide) f128 (v := .int ((put u1 4 ((u1 0 4)).toNatClampNeg x1) 0 4)) rfl dX6_say_38 (pc2 := 41) rfl ?_
      refine x_tope (y := (u1 0 4)) rfl ?_
      refine x_iconst (v := (1 : Int32)) C dX6_say_41 (by decide) (pc2 := 42) rfl ?_
      refine x_iadd C dX6_say_42 (pc2 := 43) rfl ?_
      refine x_put C hiX6 tyX6 tyX6_ok nmX6 0 (mc_0 ad cI cZ _) rfl 4 (by decide) f128 rfl rfl (Nat.le_of_ble_eq_true rfl) (u2 := (put (put u1 4 ((u1 0 4)).toNatClampNeg x1) 0 4 ((u1 0 4) + (1 : Int32)))) (ms_0_4 ad cI cZ _ _) dX6_say_43 (pc2 := 46) rfl ?_
      refine x_aload_n C dX6_say_46 0 rfl (pc2 := 47) rfl ?_
      refine x_get C hiX6 0 (mc_0 ad cI cZ _) rfl 4 (by decide) f128 (v := .int ((put (put u1 4 ((u1 0 4)).toNatClampNeg x1) 0 4 ((u1 0 4) + (1 : Int32))) 0 4)) rfl dX6_say_47 (pc2 := 50) rfl ?_
      refine x_tope (y := ((u1 0 4) + (1 : Int32))) rfl ?_
      exact x_iret C hr hlocks h dX6_say_50
    · refine x_bipush (v := (-4 : Int32)) C dX6_say_23 (by decide) (pc2 := 25) rfl ?_
      exact x_iret C hr hlocks h dX6_say_25
  · refine x_bipush (v := (-2 : Int32)) C dX6_say_11 (by decide) (pc2 := 13) rfl ?_
    exact x_iret C hr hlocks h dX6_say_13
set_option maxRecDepth 100000 in
set_option maxHeartbeats 4000000 in
theorem c_X6_wipe (l : Launch) (D : va_G) (A : Nat → Prop) (ad : Nat → Nat) (cI cZ : ClassId) (u : Mem)  : Cti l yX6_wipe wsX6_wipe { frames := 0, cells := 0, slots := 0, locals := 0 } D A (MW ad cI cZ) [(cI, .int), (cZ, .boolean)] [.ref (ad 0)] u (e_X6_wipe u ) := by
  intro r ur h
  refine Met.ofW (cc := cX6_wipe) (maxL := 2) (ret := (some .int)) (by decide) rfl ?_
  intro p e s m args below meth c s₁ B hml hv
  obtain ⟨hav, hP, hK, hD⟩ := hv
  have C : Cx p m c cX6_wipe 2 s args wsX6_wipe RX6 D [(cI, .int), (cZ, .boolean)] := ⟨⟨B.exec, B.bytes, hml, findClass_of_methodNamed B.named, atoms_spec (ws := wsX6_wipe) B.pre⟩, hK⟩
  have hr := B.returns
  have hlocks := B.notSynchronized
  have hiX6 : ∀ w ∈ wsX60, w ∈ wsX6_wipe := by decide +kernel
  have f128 : Cond.fieldLink RX6 128 "PanelPagesModel" "said" "I" ∈ wsX6_wipe := by decide +kernel
  refine x_entry2 (lv := [(0, .ref (ad 0))]) hav hP hD (Nat.le_of_ble_eq_true rfl) rfl ?_
  unfold e_X6_wipe at h
  refine x_aload_n C dX6_wipe_0 0 rfl (pc2 := 1) rfl ?_
  refine x_get C hiX6 0 (mc_0 ad cI cZ _) rfl 4 (by decide) f128 (v := .int (u 0 4)) rfl dX6_wipe_1 (pc2 := 4) rfl ?_
  refine x_istore_n C dX6_wipe_4 (by decide) (lv2 := [(1, .int (u 0 4)), (0, .ref (ad 0))]) rfl (pc2 := 5) rfl ?_
  refine x_aload_n C dX6_wipe_5 1 rfl (pc2 := 6) rfl ?_
  refine x_iconst (v := (0 : Int32)) C dX6_wipe_6 (by decide) (pc2 := 7) rfl ?_
  refine x_put C hiX6 tyX6 tyX6_ok nmX6 0 (mc_0 ad cI cZ _) rfl 4 (by decide) f128 rfl rfl (Nat.le_of_ble_eq_true rfl) (u2 := (put u 0 4 (0 : Int32))) (ms_0_4 ad cI cZ _ _) dX6_wipe_7 (pc2 := 10) rfl ?_
  refine x_iload_n C dX6_wipe_10 0 rfl (pc2 := 11) rfl ?_
  exact x_iret C hr hlocks h dX6_wipe_11
set_option maxRecDepth 100000 in
set_option maxHeartbeats 4000000 in
theorem c_X6_hasFigures (l : Launch) (D : va_G) (A : Nat → Prop) (ad : Nat → Nat) (cI cZ : ClassId) (u : Mem) (x1 : Int32) : Cti l yX6_hasFigures wsX6_hasFigures { frames := 1, cells := 0, slots := 0, locals := 22 } D A (MW ad cI cZ) [(cI, .int), (cZ, .boolean)] [.ref (ad 0), .int x1] u (e_X6_hasFigures u x1) := by
  intro r ur h
  refine Met.ofW (cc := cX6_hasFigures) (maxL := 4) (ret := (some .boolean)) (by decide) rfl ?_
  intro p e s m args below meth c s₁ B hml hv
  obtain ⟨hav, hP, hK, hD⟩ := hv
  have C : Cx p m c cX6_hasFigures 4 s args wsX6_hasFigures RX6 D [(cI, .int), (cZ, .boolean)] := ⟨⟨B.exec, B.bytes, hml, findClass_of_methodNamed B.named, atoms_spec (ws := wsX6_hasFigures) B.pre⟩, hK⟩
  have hr := B.returns
  have hlocks := B.notSynchronized
  have hiX6 : ∀ w ∈ wsX60, w ∈ wsX6_hasFigures := by decide +kernel
  have f128 : Cond.fieldLink RX6 128 "PanelPagesModel" "said" "I" ∈ wsX6_hasFigures := by decide +kernel
  have f20 : Cond.fieldLink RX6 20 "PanelPagesModel" "pad" "[I" ∈ wsX6_hasFigures := by decide +kernel
  refine x_entry2 (lv := [(0, .ref (ad 0)), (1, .int x1)]) hav hP hD (Nat.le_of_ble_eq_true rfl) rfl ?_
  unfold e_X6_hasFigures at h
  have J39 : ∀ (k4 : Mem → Int32 → Int32 → Int32 → Option (Int32 × Mem)), (∀ (u : Mem) (x1 : Int32) (x2 : Int32) (x3 : Int32), k4 u x1 x2 x3 = some (r, ur) → Wx p l e (headSpec wsX6_hasFigures { frames := 1, cells := 0, slots := 0, locals := 22 }).room s m args below meth c (MQ below (Qix D A (MW ad cI cZ) r ur) args s 0 0 A) D A 4 (MW ad cI cZ) u 4 [(0, .ref (ad 0)), (1, .int x1), (2, .int x2), (3, .int x3)] []) → ∀ (u : Mem) (x1 : Int32) (x3 : Int32) (s0 : Int32), e_X6_hasFigures_J39 k4 u x1 x3 s0 = some (r, ur) → Wx p l e (headSpec wsX6_hasFigures { frames := 1, cells := 0, slots := 0, locals := 22 }).room s m args below meth c (MQ below (Qix D A (MW ad cI cZ) r ur) args s 0 0 A) D A 4 (MW ad cI cZ) u 39 [(0, .ref (ad 0)), (1, .int x1), (3, .int x3)] [.int s0] := by
    intro k4 hk4 
    intro u x1 x3 s0 h
    unfold e_X6_hasFigures_J39 at h
    refine x_istore_n C dX6_hasFigures_39 (by decide) (lv2 := [(2, .int s0), (0, .ref (ad 0)), (1, .int x1), (3, .int x3)]) rfl (pc2 := 40) rfl ?_
    refine x_iinc C dX6_hasFigures_40 3 rfl (1 : Int32) (by decide) rfl (by decide) (lv2 := [(3, .int (x3 + (1 : Int32))), (2, .int s0), (0, .ref (ad 0)), (1, .int x1)]) rfl (pc2 := 43) rfl ?_
    refine x_goto C dX6_hasFigures_43 (pc2 := 4) (by decide) ?_
    refine x_sub [2, 3, 1, 0] (lv2 := [(0, .ref (ad 0)), (1, .int x1), (2, .int s0), (3, .int (x3 + (1 : Int32)))]) rfl ?_
    exact hk4 _ _ _ _ h
  have J38 : ∀ (k4 : Mem → Int32 → Int32 → Int32 → Option (Int32 × Mem)), (∀ (u : Mem) (x1 : Int32) (x2 : Int32) (x3 : Int32), k4 u x1 x2 x3 = some (r, ur) → Wx p l e (headSpec wsX6_hasFigures { frames := 1, cells := 0, slots := 0, locals := 22 }).room s m args below meth c (MQ below (Qix D A (MW ad cI cZ) r ur) args s 0 0 A) D A 4 (MW ad cI cZ) u 4 [(0, .ref (ad 0)), (1, .int x1), (2, .int x2), (3, .int x3)] []) → ∀ (u : Mem) (x1 : Int32) (x3 : Int32), e_X6_hasFigures_J38 k4 u x1 x3 = some (r, ur) → Wx p l e (headSpec wsX6_hasFigures { frames := 1, cells := 0, slots := 0, locals := 22 }).room s m args below meth c (MQ below (Qix D A (MW ad cI cZ) r ur) args s 0 0 A) D A 4 (MW ad cI cZ) u 38 [(0, .ref (ad 0)), (1, .int x1), (3, .int x3)] [] := by
    intro k4 hk4 
    intro u x1 x3 h
    unfold e_X6_hasFigures_J38 at h
    refine x_iconst (v := (0 : Int32)) C dX6_hasFigures_38 (by decide) (pc2 := 39) rfl ?_
    exact J39 k4 hk4 _ _ _ _ h
  have J4 : ∀ (f : Nat) (u : Mem) (x1 : Int32) (x2 : Int32) (x3 : Int32), e_X6_hasFigures_L4 f u x1 x2 x3 = some (r, ur) → Wx p l e (headSpec wsX6_hasFigures { frames := 1, cells := 0, slots := 0, locals := 22 }).room s m args below meth c (MQ below (Qix D A (MW ad cI cZ) r ur) args s 0 0 A) D A 4 (MW ad cI cZ) u 4 [(0, .ref (ad 0)), (1, .int x1), (2, .int x2), (3, .int x3)] [] := by
    intro f
    induction f with
    | zero => intro u x1 x2 x3 h; cases h
    | succ f ih =>
      intro u x1 x2 x3 h
      replace h : e_X6_hasFigures_L4_b (e_X6_hasFigures_L4 f) u x1 x2 x3 = some (r, ur) := h
      unfold e_X6_hasFigures_L4_b at h
      refine x_iload_n C dX6_hasFigures_4 3 rfl (pc2 := 5) rfl ?_
      refine x_aload_n C dX6_hasFigures_5 0 rfl (pc2 := 6) rfl ?_
      refine x_get C hiX6 0 (mc_0 ad cI cZ _) rfl 4 (by decide) f128 (v := .int (u 0 4)) rfl dX6_hasFigures_6 (pc2 := 9) rfl ?_
      refine x_icmp_ge C h dX6_hasFigures_9 (tgt := 46) (by decide) (pc2 := 12) rfl (fun h => ?_) (fun h => ?_)
      · refine x_iload_n C dX6_hasFigures_46 2 rfl (pc2 := 47) rfl ?_
        exact x_zret C hr hlocks h dX6_hasFigures_47
      · refine x_iload_n C dX6_hasFigures_12 2 rfl (pc2 := 13) rfl ?_
        refine x_if_eq C h dX6_hasFigures_13 (tgt := 38) (by decide) (pc2 := 16) rfl (fun h => ?_) (fun h => ?_)
        · refine x_sub [0, 1, 3] (lv2 := [(0, .ref (ad 0)), (1, .int x1), (3, .int x3)]) rfl ?_
          exact J38 (e_X6_hasFigures_L4 f) ih _ _ _ h
        · refine x_aload_n C dX6_hasFigures_16 0 rfl (pc2 := 17) rfl ?_
          refine x_get C hiX6 0 (mc_0 ad cI cZ _) rfl 3 (by decide) f20 (v := .ref (ad 4)) rfl dX6_hasFigures_17 (pc2 := 20) rfl ?_
          refine x_iload_n C dX6_hasFigures_20 3 rfl (pc2 := 21) rfl ?_
          refine x_iald C h 4 0 (mc_4 ad cI cZ _) rfl dX6_hasFigures_21 (pc2 := 22) rfl (fun h => ?_)
          refine x_bipush (v := (48 : Int32)) C dX6_hasFigures_22 (by decide) (pc2 := 24) rfl ?_
          refine x_bipush (v := (48 : Int32)) C dX6_hasFigures_24 (by decide) (pc2 := 26) rfl ?_
          refine x_iload_n C dX6_hasFigures_26 1 rfl (pc2 := 27) rfl ?_
          refine x_iadd C dX6_hasFigures_27 (pc2 := 28) rfl ?_
          refine x_callSi (As := [.int (u 4 (x3).toNatClampNeg), .int (48 : Int32), .int ((48 : Int32) + x1)]) (rest := []) (index := 51) (n := 3) C h (c_X6_in l D A ad cI cZ _ _ _ _) gX6_hasFigures_X6_in rfl (by decide +kernel) rfl rfl ⟨Nat.le_of_ble_eq_true rfl, Nat.le_of_ble_eq_true rfl⟩ (MW_D ad cI cZ _) rfl rfl (Nat.le_of_ble_eq_true rfl) dX6_hasFigures_28 (pc2 := 31) rfl (fun r1 u1 h => ?_)
          refine x_if_eq C h dX6_hasFigures_31 (tgt := 38) (by decide) (pc2 := 34) rfl (fun h => ?_) (fun h => ?_)
          · refine x_sub [0, 1, 3] (lv2 := [(0, .ref (ad 0)), (1, .int x1), (3, .int x3)]) rfl ?_
            exact J38 (e_X6_hasFigures_L4 f) ih _ _ _ h
          · refine x_iconst (v := (1 : Int32)) C dX6_hasFigures_34 (by decide) (pc2 := 35) rfl ?_
            refine x_goto C dX6_hasFigures_35 (pc2 := 39) (by decide) ?_
            refine x_sub [0, 1, 3] (lv2 := [(0, .ref (ad 0)), (1, .int x1), (3, .int x3)]) rfl ?_
            exact J39 (e_X6_hasFigures_L4 f) ih _ _ _ _ h
  refine x_iconst (v := (1 : Int32)) C dX6_hasFigures_0 (by decide) (pc2 := 1) rfl ?_
  refine x_istore_n C dX6_hasFigures_1 (by decide) (lv2 := [(2, .int (1 : Int32)), (0, .ref (ad 0)), (1, .int x1)]) rfl (pc2 := 2) rfl ?_
  refine x_iconst (v := (0 : Int32)) C dX6_hasFigures_2 (by decide) (pc2 := 3) rfl ?_
  refine x_istore_n C dX6_hasFigures_3 (by decide) (lv2 := [(3, .int (0 : Int32)), (2, .int (1 : Int32)), (0, .ref (ad 0)), (1, .int x1)]) rfl (pc2 := 4) rfl ?_
  refine x_sub [2, 3, 1, 0] (lv2 := [(0, .ref (ad 0)), (1, .int x1), (2, .int (1 : Int32)), (3, .int (0 : Int32))]) rfl ?_
  exact J4 FU _ _ _ _ h
set_option maxRecDepth 100000 in
set_option maxHeartbeats 4000000 in
theorem c_X6_isLayout (l : Launch) (D : va_G) (A : Nat → Prop) (ad : Nat → Nat) (cI cZ : ClassId) (u : Mem)  : Cti l yX6_isLayout wsX6_isLayout { frames := 2, cells := 0, slots := 0, locals := 45 } D A (MW ad cI cZ) [(cI, .int), (cZ, .boolean)] [.ref (ad 0)] u (e_X6_isLayout u ) := by
  intro r ur h
  refine Met.ofW (cc := cX6_isLayout) (maxL := 1) (ret := (some .boolean)) (by decide) rfl ?_
  intro p e s m args below meth c s₁ B hml hv
  obtain ⟨hav, hP, hK, hD⟩ := hv
  have C : Cx p m c cX6_isLayout 1 s args wsX6_isLayout RX6 D [(cI, .int), (cZ, .boolean)] := ⟨⟨B.exec, B.bytes, hml, findClass_of_methodNamed B.named, atoms_spec (ws := wsX6_isLayout) B.pre⟩, hK⟩
  have hr := B.returns
  have hlocks := B.notSynchronized
  have hiX6 : ∀ w ∈ wsX60, w ∈ wsX6_isLayout := by decide +kernel
  have f128 : Cond.fieldLink RX6 128 "PanelPagesModel" "said" "I" ∈ wsX6_isLayout := by decide +kernel
  refine x_entry2 (lv := [(0, .ref (ad 0))]) hav hP hD (Nat.le_of_ble_eq_true rfl) rfl ?_
  unfold e_X6_isLayout at h
  refine x_aload_n C dX6_isLayout_0 0 rfl (pc2 := 1) rfl ?_
  refine x_get C hiX6 0 (mc_0 ad cI cZ _) rfl 4 (by decide) f128 (v := .int (u 0 4)) rfl dX6_isLayout_1 (pc2 := 4) rfl ?_
  refine x_aload_n C dX6_isLayout_4 0 rfl (pc2 := 5) rfl ?_
  refine x_callVi (As := []) (rest := [.int (u 0 4)]) (index := 47) (n := 0) C h (c_X6_many l D A ad cI cZ _ ) gX6_isLayout_X6_many rfl (by decide +kernel) rfl rfl ⟨Nat.le_of_ble_eq_true rfl, Nat.le_of_ble_eq_true rfl⟩ (ci := 6) rfl rfl (mc_0 ad cI cZ _) (MW_D ad cI cZ _) rfl rfl (Nat.le_of_ble_eq_true rfl) dX6_isLayout_5 (pc2 := 8) rfl (fun r1 u1 h => ?_)
  refine x_icmp_ne C h dX6_isLayout_8 (tgt := 23) (by decide) (pc2 := 11) rfl (fun h => ?_) (fun h => ?_)
  · refine x_iconst (v := (0 : Int32)) C dX6_isLayout_23 (by decide) (pc2 := 24) rfl ?_
    exact x_zretL C hr hlocks h rfl dX6_isLayout_24
  · refine x_aload_n C dX6_isLayout_11 0 rfl (pc2 := 12) rfl ?_
    refine x_iconst (v := (2 : Int32)) C dX6_isLayout_12 (by decide) (pc2 := 13) rfl ?_
    refine x_callVi (As := [.int (2 : Int32)]) (rest := []) (index := 131) (n := 1) C h (c_X6_hasFigures l D A ad cI cZ _ _) gX6_isLayout_X6_hasFigures rfl (by decide +kernel) rfl rfl ⟨Nat.le_of_ble_eq_true rfl, Nat.le_of_ble_eq_true rfl⟩ (ci := 6) rfl rfl (mc_0 ad cI cZ _) (MW_D ad cI cZ _) rfl rfl (Nat.le_of_ble_eq_true rfl) dX6_isLayout_13 (pc2 := 16) rfl (fun r2 u2 h => ?_)
    refine x_if_eq C h dX6_isLayout_16 (tgt := 23) (by decide) (pc2 := 19) rfl (fun h => ?_) (fun h => ?_)
    · refine x_iconst (v := (0 : Int32)) C dX6_isLayout_23 (by decide) (pc2 := 24) rfl ?_
      exact x_zretL C hr hlocks h rfl dX6_isLayout_24
    · refine x_iconst (v := (1 : Int32)) C dX6_isLayout_19 (by decide) (pc2 := 20) rfl ?_
      refine x_goto C dX6_isLayout_20 (pc2 := 24) (by decide) ?_
      exact x_zretL C hr hlocks h rfl dX6_isLayout_24
set_option maxRecDepth 100000 in
set_option maxHeartbeats 4000000 in
theorem c_X6_goPad (l : Launch) (D : va_G) (A : Nat → Prop) (ad : Nat → Nat) (cI cZ : ClassId) (u : Mem)  : Cti l yX6_goPad wsX6_goPad { frames := 6, cells := 0, slots := 0, locals := 133 } D A (MW ad cI cZ) [(cI, .int), (cZ, .boolean)] [.ref (ad 0)] u (e_X6_goPad u ) := by
  intro r ur h
  refine Met.ofW (cc := cX6_goPad) (maxL := 2) (ret := (some .int)) (by decide) rfl ?_
  intro p e s m args below meth c s₁ B hml hv
  obtain ⟨hav, hP, hK, hD⟩ := hv
  have C : Cx p m c cX6_goPad 2 s args wsX6_goPad RX6 D [(cI, .int), (cZ, .boolean)] := ⟨⟨B.exec, B.bytes, hml, findClass_of_methodNamed B.named, atoms_spec (ws := wsX6_goPad) B.pre⟩, hK⟩
  have hr := B.returns
  have hlocks := B.notSynchronized
  have hiX6 : ∀ w ∈ wsX60, w ∈ wsX6_goPad := by decide +kernel
  have f20 : Cond.fieldLink RX6 20 "PanelPagesModel" "pad" "[I" ∈ wsX6_goPad := by decide +kernel
  have f29 : Cond.fieldLink RX6 29 "PanelPagesModel" "figure" "[I" ∈ wsX6_goPad := by decide +kernel
  refine x_entry2 (lv := [(0, .ref (ad 0))]) hav hP hD (Nat.le_of_ble_eq_true rfl) rfl ?_
  unfold e_X6_goPad at h
  have J2 : ∀ (f : Nat) (u : Mem) (x1 : Int32), e_X6_goPad_L2 f u x1 = some (r, ur) → Wx p l e (headSpec wsX6_goPad { frames := 6, cells := 0, slots := 0, locals := 133 }).room s m args below meth c (MQ below (Qix D A (MW ad cI cZ) r ur) args s 0 0 A) D A 2 (MW ad cI cZ) u 2 [(0, .ref (ad 0)), (1, .int x1)] [] := by
    intro f
    induction f with
    | zero => intro u x1 h; cases h
    | succ f ih =>
      intro u x1 h
      replace h : e_X6_goPad_L2_b (e_X6_goPad_L2 f) u x1 = some (r, ur) := h
      unfold e_X6_goPad_L2_b at h
      refine x_iload_n C dX6_goPad_2 1 rfl (pc2 := 3) rfl ?_
      refine x_aload_n C dX6_goPad_3 0 rfl (pc2 := 4) rfl ?_
      refine x_callVi (As := []) (rest := [.int x1]) (index := 47) (n := 0) C h (c_X6_many l D A ad cI cZ _ ) gX6_goPad_X6_many rfl (by decide +kernel) rfl rfl ⟨Nat.le_of_ble_eq_true rfl, Nat.le_of_ble_eq_true rfl⟩ (ci := 6) rfl rfl (mc_0 ad cI cZ _) (MW_D ad cI cZ _) rfl rfl (Nat.le_of_ble_eq_true rfl) dX6_goPad_4 (pc2 := 7) rfl (fun r1 u1 h => ?_)
      refine x_icmp_ge C h dX6_goPad_7 (tgt := 31) (by decide) (pc2 := 10) rfl (fun h => ?_) (fun h => ?_)
      · refine x_aload_n C dX6_goPad_31 0 rfl (pc2 := 32) rfl ?_
        refine x_callVi (As := []) (rest := []) (index := 134) (n := 0) C h (c_X6_goThrough l D A ad cI cZ _ ) gX6_goPad_X6_goThrough rfl (by decide +kernel) rfl rfl ⟨Nat.le_of_ble_eq_true rfl, Nat.le_of_ble_eq_true rfl⟩ (ci := 6) rfl rfl (mc_0 ad cI cZ _) (MW_D ad cI cZ _) rfl rfl (Nat.le_of_ble_eq_true rfl) dX6_goPad_32 (pc2 := 35) rfl (fun r2 u2 h => ?_)
        exact x_iret C hr hlocks h dX6_goPad_35
      · refine x_aload_n C dX6_goPad_10 0 rfl (pc2 := 11) rfl ?_
        refine x_get C hiX6 0 (mc_0 ad cI cZ _) rfl 7 (by decide) f29 (v := .ref (ad 7)) rfl dX6_goPad_11 (pc2 := 14) rfl ?_
        refine x_iload_n C dX6_goPad_14 1 rfl (pc2 := 15) rfl ?_
        refine x_aload_n C dX6_goPad_15 0 rfl (pc2 := 16) rfl ?_
        refine x_get C hiX6 0 (mc_0 ad cI cZ _) rfl 3 (by decide) f20 (v := .ref (ad 4)) rfl dX6_goPad_16 (pc2 := 19) rfl ?_
        refine x_iload_n C dX6_goPad_19 1 rfl (pc2 := 20) rfl ?_
        refine x_iald C h 4 0 (mc_4 ad cI cZ _) rfl dX6_goPad_20 (pc2 := 21) rfl (fun h => ?_)
        refine x_bipush (v := (48 : Int32)) C dX6_goPad_21 (by decide) (pc2 := 23) rfl ?_
        refine x_isub C dX6_goPad_23 (pc2 := 24) rfl ?_
        refine x_iast C h 7 0 (mc_7 ad cI cZ _) rfl (u2 := (put u1 7 (x1).toNatClampNeg ((u1 4 (x1).toNatClampNeg) - (48 : Int32)))) (ms_7 ad cI cZ _ _ _) dX6_goPad_24 (pc2 := 25) rfl (fun h => ?_)
        refine x_iinc C dX6_goPad_25 1 rfl (1 : Int32) (by decide) rfl (by decide) (lv2 := [(1, .int (x1 + (1 : Int32))), (0, .ref (ad 0))]) rfl (pc2 := 28) rfl ?_
        refine x_goto C dX6_goPad_28 (pc2 := 2) (by decide) ?_
        refine x_sub [1, 0] (lv2 := [(0, .ref (ad 0)), (1, .int (x1 + (1 : Int32)))]) rfl ?_
        exact ih _ _ h
  refine x_iconst (v := (0 : Int32)) C dX6_goPad_0 (by decide) (pc2 := 1) rfl ?_
  refine x_istore_n C dX6_goPad_1 (by decide) (lv2 := [(1, .int (0 : Int32)), (0, .ref (ad 0))]) rfl (pc2 := 2) rfl ?_
  refine x_sub [1, 0] (lv2 := [(0, .ref (ad 0)), (1, .int (0 : Int32))]) rfl ?_
  exact J2 FU _ _ h
set_option maxRecDepth 100000 in
set_option maxHeartbeats 4000000 in
theorem c_X6_judge (l : Launch) (D : va_G) (A : Nat → Prop) (ad : Nat → Nat) (cI cZ : ClassId) (u : Mem) (x1 : Int32) : Cti l yX6_judge wsX6_judge { frames := 7, cells := 0, slots := 0, locals := 154 } D A (MW ad cI cZ) [(cI, .int), (cZ, .boolean)] [.ref (ad 0), .int x1] u (e_X6_judge u x1) := by
  intro r ur h
  refine Met.ofW (cc := cX6_judge) (maxL := 3) (ret := (some .int)) (by decide) rfl ?_
  intro p e s m args below meth c s₁ B hml hv
  obtain ⟨hav, hP, hK, hD⟩ := hv
  have C : Cx p m c cX6_judge 3 s args wsX6_judge RX6 D [(cI, .int), (cZ, .boolean)] := ⟨⟨B.exec, B.bytes, hml, findClass_of_methodNamed B.named, atoms_spec (ws := wsX6_judge) B.pre⟩, hK⟩
  have hr := B.returns
  have hlocks := B.notSynchronized
  have hiX6 : ∀ w ∈ wsX60, w ∈ wsX6_judge := by decide +kernel
  have f122 : Cond.fieldLink RX6 122 "PanelPagesModel" "why" "I" ∈ wsX6_judge := by decide +kernel
  refine x_entry2 (lv := [(0, .ref (ad 0)), (1, .int x1)]) hav hP hD (Nat.le_of_ble_eq_true rfl) rfl ?_
  unfold e_X6_judge at h
  refine x_iload_n C dX6_judge_0 1 rfl (pc2 := 1) rfl ?_
  refine x_iconst (v := (0 : Int32)) C dX6_judge_1 (by decide) (pc2 := 2) rfl ?_
  refine x_iconst (v := (1 : Int32)) C dX6_judge_2 (by decide) (pc2 := 3) rfl ?_
  refine x_callSi (As := [.int x1, .int (0 : Int32), .int (1 : Int32)]) (rest := []) (index := 51) (n := 3) C h (c_X6_in l D A ad cI cZ _ _ _ _) gX6_judge_X6_in rfl (by decide +kernel) rfl rfl ⟨Nat.le_of_ble_eq_true rfl, Nat.le_of_ble_eq_true rfl⟩ (MW_D ad cI cZ _) rfl rfl (Nat.le_of_ble_eq_true rfl) dX6_judge_3 (pc2 := 6) rfl (fun r1 u1 h => ?_)
  refine x_if_ne C h dX6_judge_6 (tgt := 12) (by decide) (pc2 := 9) rfl (fun h => ?_) (fun h => ?_)
  · refine x_aload_n C dX6_judge_12 0 rfl (pc2 := 13) rfl ?_
    refine x_callVi (As := []) (rest := []) (index := 137) (n := 0) C h (c_X6_isLayout l D A ad cI cZ _ ) gX6_judge_X6_isLayout rfl (by decide +kernel) rfl rfl ⟨Nat.le_of_ble_eq_true rfl, Nat.le_of_ble_eq_true rfl⟩ (ci := 6) rfl rfl (mc_0 ad cI cZ _) (MW_D ad cI cZ _) rfl rfl (Nat.le_of_ble_eq_true rfl) dX6_judge_13 (pc2 := 16) rfl (fun r2 u2 h => ?_)
    refine x_if_ne C h dX6_judge_16 (tgt := 22) (by decide) (pc2 := 19) rfl (fun h => ?_) (fun h => ?_)
    · refine x_aload_n C dX6_judge_22 0 rfl (pc2 := 23) rfl ?_
      refine x_callVi (As := []) (rest := []) (index := 141) (n := 0) C h (c_X6_goPad l D A ad cI cZ _ ) gX6_judge_X6_goPad rfl (by decide +kernel) rfl rfl ⟨Nat.le_of_ble_eq_true rfl, Nat.le_of_ble_eq_true rfl⟩ (ci := 6) rfl rfl (mc_0 ad cI cZ _) (MW_D ad cI cZ _) rfl rfl (Nat.le_of_ble_eq_true rfl) dX6_judge_23 (pc2 := 26) rfl (fun r3 u3 h => ?_)
      refine x_istore_n C dX6_judge_26 (by decide) (lv2 := [(2, .int r3), (0, .ref (ad 0)), (1, .int x1)]) rfl (pc2 := 27) rfl ?_
      refine x_iload_n C dX6_judge_27 2 rfl (pc2 := 28) rfl ?_
      refine x_if_ne C h dX6_judge_28 (tgt := 35) (by decide) (pc2 := 31) rfl (fun h => ?_) (fun h => ?_)
      · refine x_aload_n C dX6_judge_35 1 rfl (pc2 := 36) rfl ?_
        refine x_get C hiX6 0 (mc_0 ad cI cZ _) rfl 11 (by decide) f122 (v := .int (u3 0 11)) rfl dX6_judge_36 (pc2 := 39) rfl ?_
        exact x_iret C hr hlocks h dX6_judge_39
      · refine x_iload_n C dX6_judge_31 0 rfl (pc2 := 32) rfl ?_
        refine x_goto C dX6_judge_32 (pc2 := 39) (by decide) ?_
        exact x_iret C hr hlocks h dX6_judge_39
    · refine x_bipush (v := (-7 : Int32)) C dX6_judge_19 (by decide) (pc2 := 21) rfl ?_
      exact x_iret C hr hlocks h dX6_judge_21
  · refine x_bipush (v := (-2 : Int32)) C dX6_judge_9 (by decide) (pc2 := 11) rfl ?_
    exact x_iret C hr hlocks h dX6_judge_11
set_option maxRecDepth 100000 in
set_option maxHeartbeats 4000000 in
theorem c_X6_told (l : Launch) (D : va_G) (A : Nat → Prop) (ad : Nat → Nat) (cI cZ : ClassId) (u : Mem) (x1 : Int32) : Cti l yX6_told wsX6_told { frames := 7, cells := 0, slots := 0, locals := 154 } D A (MW ad cI cZ) [(cI, .int), (cZ, .boolean)] [.ref (ad 0), .int x1] u (e_X6_told u x1) := by
  intro r ur h
  refine Met.ofW (cc := cX6_told) (maxL := 2) (ret := (some .int)) (by decide) rfl ?_
  intro p e s m args below meth c s₁ B hml hv
  obtain ⟨hav, hP, hK, hD⟩ := hv
  have C : Cx p m c cX6_told 2 s args wsX6_told RX6 D [(cI, .int), (cZ, .boolean)] := ⟨⟨B.exec, B.bytes, hml, findClass_of_methodNamed B.named, atoms_spec (ws := wsX6_told) B.pre⟩, hK⟩
  have hr := B.returns
  have hlocks := B.notSynchronized
  have hiX6 : ∀ w ∈ wsX60, w ∈ wsX6_told := by decide +kernel
  have f107 : Cond.fieldLink RX6 107 "PanelPagesModel" "pages" "I" ∈ wsX6_told := by decide +kernel
  have f110 : Cond.fieldLink RX6 110 "PanelPagesModel" "blanks" "I" ∈ wsX6_told := by decide +kernel
  have f116 : Cond.fieldLink RX6 116 "PanelPagesModel" "tiers" "I" ∈ wsX6_told := by decide +kernel
  have f94 : Cond.fieldLink RX6 94 "PanelPagesModel" "ragged" "I" ∈ wsX6_told := by decide +kernel
  refine x_entry2 (lv := [(0, .ref (ad 0)), (1, .int x1)]) hav hP hD (Nat.le_of_ble_eq_true rfl) rfl ?_
  unfold e_X6_told at h
  refine x_iload_n C dX6_told_0 1 rfl (pc2 := 1) rfl ?_
  refine x_iconst (v := (0 : Int32)) C dX6_told_1 (by decide) (pc2 := 2) rfl ?_
  refine x_iconst (v := (3 : Int32)) C dX6_told_2 (by decide) (pc2 := 3) rfl ?_
  refine x_callSi (As := [.int x1, .int (0 : Int32), .int (3 : Int32)]) (rest := []) (index := 51) (n := 3) C h (c_X6_in l D A ad cI cZ _ _ _ _) gX6_told_X6_in rfl (by decide +kernel) rfl rfl ⟨Nat.le_of_ble_eq_true rfl, Nat.le_of_ble_eq_true rfl⟩ (MW_D ad cI cZ _) rfl rfl (Nat.le_of_ble_eq_true rfl) dX6_told_3 (pc2 := 6) rfl (fun r1 u1 h => ?_)
  refine x_if_ne C h dX6_told_6 (tgt := 12) (by decide) (pc2 := 9) rfl (fun h => ?_) (fun h => ?_)
  · refine x_aload_n C dX6_told_12 0 rfl (pc2 := 13) rfl ?_
    refine x_callVi (As := []) (rest := []) (index := 137) (n := 0) C h (c_X6_isLayout l D A ad cI cZ _ ) gX6_told_X6_isLayout rfl (by decide +kernel) rfl rfl ⟨Nat.le_of_ble_eq_true rfl, Nat.le_of_ble_eq_true rfl⟩ (ci := 6) rfl rfl (mc_0 ad cI cZ _) (MW_D ad cI cZ _) rfl rfl (Nat.le_of_ble_eq_true rfl) dX6_told_13 (pc2 := 16) rfl (fun r2 u2 h => ?_)
    refine x_if_ne C h dX6_told_16 (tgt := 22) (by decide) (pc2 := 19) rfl (fun h => ?_) (fun h => ?_)
    · refine x_aload_n C dX6_told_22 0 rfl (pc2 := 23) rfl ?_
      refine x_callVi (As := []) (rest := []) (index := 141) (n := 0) C h (c_X6_goPad l D A ad cI cZ _ ) gX6_told_X6_goPad rfl (by decide +kernel) rfl rfl ⟨Nat.le_of_ble_eq_true rfl, Nat.le_of_ble_eq_true rfl⟩ (ci := 6) rfl rfl (mc_0 ad cI cZ _) (MW_D ad cI cZ _) rfl rfl (Nat.le_of_ble_eq_true rfl) dX6_told_23 (pc2 := 26) rfl (fun r3 u3 h => ?_)
      refine x_if_lt C h dX6_told_26 (tgt := 32) (by decide) (pc2 := 29) rfl (fun h => ?_) (fun h => ?_)
      · refine x_iload_n C dX6_told_32 1 rfl (pc2 := 33) rfl ?_
        refine x_if_ne C h dX6_told_33 (tgt := 43) (by decide) (pc2 := 36) rfl (fun h => ?_) (fun h => ?_)
        · refine x_iload_n C dX6_told_43 1 rfl (pc2 := 44) rfl ?_
          refine x_iconst (v := (1 : Int32)) C dX6_told_44 (by decide) (pc2 := 45) rfl ?_
          refine x_icmp_ne C h dX6_told_45 (tgt := 55) (by decide) (pc2 := 48) rfl (fun h => ?_) (fun h => ?_)
          · refine x_iload_n C dX6_told_55 1 rfl (pc2 := 56) rfl ?_
            refine x_iconst (v := (2 : Int32)) C dX6_told_56 (by decide) (pc2 := 57) rfl ?_
            refine x_icmp_ne C h dX6_told_57 (tgt := 67) (by decide) (pc2 := 60) rfl (fun h => ?_) (fun h => ?_)
            · refine x_aload_n C dX6_told_67 0 rfl (pc2 := 68) rfl ?_
              refine x_get C hiX6 0 (mc_0 ad cI cZ _) rfl 15 (by decide) f110 (v := .int (u3 0 15)) rfl dX6_told_68 (pc2 := 71) rfl ?_
              exact x_iret C hr hlocks h dX6_told_71
            · refine x_aload_n C dX6_told_60 0 rfl (pc2 := 61) rfl ?_
              refine x_get C hiX6 0 (mc_0 ad cI cZ _) rfl 14 (by decide) f116 (v := .int (u3 0 14)) rfl dX6_told_61 (pc2 := 64) rfl ?_
              refine x_goto C dX6_told_64 (pc2 := 71) (by decide) ?_
              exact x_iret C hr hlocks h dX6_told_71
          · refine x_aload_n C dX6_told_48 0 rfl (pc2 := 49) rfl ?_
            refine x_get C hiX6 0 (mc_0 ad cI cZ _) rfl 13 (by decide) f94 (v := .int (u3 0 13)) rfl dX6_told_49 (pc2 := 52) rfl ?_
            refine x_goto C dX6_told_52 (pc2 := 71) (by decide) ?_
            exact x_iret C hr hlocks h dX6_told_71
        · refine x_aload_n C dX6_told_36 0 rfl (pc2 := 37) rfl ?_
          refine x_get C hiX6 0 (mc_0 ad cI cZ _) rfl 12 (by decide) f107 (v := .int (u3 0 12)) rfl dX6_told_37 (pc2 := 40) rfl ?_
          refine x_goto C dX6_told_40 (pc2 := 71) (by decide) ?_
          exact x_iret C hr hlocks h dX6_told_71
      · refine x_bipush (v := (-5 : Int32)) C dX6_told_29 (by decide) (pc2 := 31) rfl ?_
        exact x_iret C hr hlocks h dX6_told_31
    · refine x_bipush (v := (-7 : Int32)) C dX6_told_19 (by decide) (pc2 := 21) rfl ?_
      exact x_iret C hr hlocks h dX6_told_21
  · refine x_bipush (v := (-2 : Int32)) C dX6_told_9 (by decide) (pc2 := 11) rfl ?_
    exact x_iret C hr hlocks h dX6_told_11
set_option maxRecDepth 100000 in
set_option maxHeartbeats 4000000 in
theorem c_X6_widthOf (l : Launch) (D : va_G) (A : Nat → Prop) (ad : Nat → Nat) (cI cZ : ClassId) (u : Mem) (x1 : Int32) : Cti l yX6_widthOf wsX6_widthOf { frames := 2, cells := 0, slots := 0, locals := 49 } D A (MW ad cI cZ) [(cI, .int), (cZ, .boolean)] [.ref (ad 0), .int x1] u (e_X6_widthOf u x1) := by
  intro r ur h
  refine Met.ofW (cc := cX6_widthOf) (maxL := 4) (ret := (some .int)) (by decide) rfl ?_
  intro p e s m args below meth c s₁ B hml hv
  obtain ⟨hav, hP, hK, hD⟩ := hv
  have C : Cx p m c cX6_widthOf 4 s args wsX6_widthOf RX6 D [(cI, .int), (cZ, .boolean)] := ⟨⟨B.exec, B.bytes, hml, findClass_of_methodNamed B.named, atoms_spec (ws := wsX6_widthOf) B.pre⟩, hK⟩
  have hr := B.returns
  have hlocks := B.notSynchronized
  have hiX6 : ∀ w ∈ wsX60, w ∈ wsX6_widthOf := by decide +kernel
  have f23 : Cond.fieldLink RX6 23 "PanelPagesModel" "width" "[I" ∈ wsX6_widthOf := by decide +kernel
  have f29 : Cond.fieldLink RX6 29 "PanelPagesModel" "figure" "[I" ∈ wsX6_widthOf := by decide +kernel
  have f38 : Cond.fieldLink RX6 38 "PanelPagesModel" "place" "[I" ∈ wsX6_widthOf := by decide +kernel
  refine x_entry2 (lv := [(0, .ref (ad 0)), (1, .int x1)]) hav hP hD (Nat.le_of_ble_eq_true rfl) rfl ?_
  unfold e_X6_widthOf at h
  have J50 : ∀ (u : Mem) (x1 : Int32) (x2 : Int32) (x3 : Int32), e_X6_widthOf_J50 u x1 x2 x3 = some (r, ur) → Wx p l e (headSpec wsX6_widthOf { frames := 2, cells := 0, slots := 0, locals := 49 }).room s m args below meth c (MQ below (Qix D A (MW ad cI cZ) r ur) args s 0 0 A) D A 4 (MW ad cI cZ) u 50 [(0, .ref (ad 0)), (1, .int x1), (2, .int x2), (3, .int x3)] [] := by
    intro u x1 x2 x3 h
    unfold e_X6_widthOf_J50 at h
    refine x_aload_n C dX6_widthOf_50 0 rfl (pc2 := 51) rfl ?_
    refine x_iload_n C dX6_widthOf_51 2 rfl (pc2 := 52) rfl ?_
    refine x_iload_n C dX6_widthOf_52 3 rfl (pc2 := 53) rfl ?_
    refine x_callVv (As := [.int x2, .int x3]) (rest := []) (index := 74) (n := 2) C h (c_X6_layWidths l D A ad cI cZ _ _ _) gX6_widthOf_X6_layWidths rfl (by decide +kernel) rfl rfl ⟨Nat.le_of_ble_eq_true rfl, Nat.le_of_ble_eq_true rfl⟩ (ci := 6) rfl rfl (mc_0 ad cI cZ _) (MW_D ad cI cZ _) rfl rfl (Nat.le_of_ble_eq_true rfl) dX6_widthOf_53 (pc2 := 56) rfl (fun u3 h => ?_)
    refine x_aload_n C dX6_widthOf_56 0 rfl (pc2 := 57) rfl ?_
    refine x_get C hiX6 0 (mc_0 ad cI cZ _) rfl 5 (by decide) f23 (v := .ref (ad 5)) rfl dX6_widthOf_57 (pc2 := 60) rfl ?_
    refine x_aload_n C dX6_widthOf_60 0 rfl (pc2 := 61) rfl ?_
    refine x_get C hiX6 0 (mc_0 ad cI cZ _) rfl 10 (by decide) f38 (v := .ref (ad 10)) rfl dX6_widthOf_61 (pc2 := 64) rfl ?_
    refine x_iload_n C dX6_widthOf_64 1 rfl (pc2 := 65) rfl ?_
    refine x_iald C h 10 0 (mc_10 ad cI cZ _) rfl dX6_widthOf_65 (pc2 := 66) rfl (fun h => ?_)
    refine x_iald C h 5 0 (mc_5 ad cI cZ _) rfl dX6_widthOf_66 (pc2 := 67) rfl (fun h => ?_)
    exact x_iret C hr hlocks h dX6_widthOf_67
  have J23 : ∀ (f : Nat) (u : Mem) (x1 : Int32) (x2 : Int32) (x3 : Int32), e_X6_widthOf_L23 f u x1 x2 x3 = some (r, ur) → Wx p l e (headSpec wsX6_widthOf { frames := 2, cells := 0, slots := 0, locals := 49 }).room s m args below meth c (MQ below (Qix D A (MW ad cI cZ) r ur) args s 0 0 A) D A 4 (MW ad cI cZ) u 23 [(0, .ref (ad 0)), (1, .int x1), (2, .int x2), (3, .int x3)] [] := by
    intro f
    induction f with
    | zero => intro u x1 x2 x3 h; cases h
    | succ f ih =>
      intro u x1 x2 x3 h
      replace h : e_X6_widthOf_L23_b (e_X6_widthOf_L23 f) u x1 x2 x3 = some (r, ur) := h
      unfold e_X6_widthOf_L23_b at h
      refine x_iload_n C dX6_widthOf_23 2 rfl (pc2 := 24) rfl ?_
      refine x_iload_n C dX6_widthOf_24 3 rfl (pc2 := 25) rfl ?_
      refine x_iadd C dX6_widthOf_25 (pc2 := 26) rfl ?_
      refine x_aload_n C dX6_widthOf_26 0 rfl (pc2 := 27) rfl ?_
      refine x_callVi (As := []) (rest := [.int (x2 + x3)]) (index := 47) (n := 0) C h (c_X6_many l D A ad cI cZ _ ) gX6_widthOf_X6_many rfl (by decide +kernel) rfl rfl ⟨Nat.le_of_ble_eq_true rfl, Nat.le_of_ble_eq_true rfl⟩ (ci := 6) rfl rfl (mc_0 ad cI cZ _) (MW_D ad cI cZ _) rfl rfl (Nat.le_of_ble_eq_true rfl) dX6_widthOf_27 (pc2 := 30) rfl (fun r2 u2 h => ?_)
      refine x_icmp_ge C h dX6_widthOf_30 (tgt := 50) (by decide) (pc2 := 33) rfl (fun h => ?_) (fun h => ?_)
      · exact J50 _ _ _ _ h
      · refine x_aload_n C dX6_widthOf_33 0 rfl (pc2 := 34) rfl ?_
        refine x_get C hiX6 0 (mc_0 ad cI cZ _) rfl 7 (by decide) f29 (v := .ref (ad 7)) rfl dX6_widthOf_34 (pc2 := 37) rfl ?_
        refine x_iload_n C dX6_widthOf_37 2 rfl (pc2 := 38) rfl ?_
        refine x_iload_n C dX6_widthOf_38 3 rfl (pc2 := 39) rfl ?_
        refine x_iadd C dX6_widthOf_39 (pc2 := 40) rfl ?_
        refine x_iald C h 7 0 (mc_7 ad cI cZ _) rfl dX6_widthOf_40 (pc2 := 41) rfl (fun h => ?_)
        refine x_if_ne C h dX6_widthOf_41 (tgt := 50) (by decide) (pc2 := 44) rfl (fun h => ?_) (fun h => ?_)
        · exact J50 _ _ _ _ h
        · refine x_iinc C dX6_widthOf_44 3 rfl (1 : Int32) (by decide) rfl (by decide) (lv2 := [(3, .int (x3 + (1 : Int32))), (0, .ref (ad 0)), (1, .int x1), (2, .int x2)]) rfl (pc2 := 47) rfl ?_
          refine x_goto C dX6_widthOf_47 (pc2 := 23) (by decide) ?_
          refine x_sub [1, 2, 3, 0] (lv2 := [(0, .ref (ad 0)), (1, .int x1), (2, .int x2), (3, .int (x3 + (1 : Int32)))]) rfl ?_
          exact ih _ _ _ _ h
  refine x_aload_n C dX6_widthOf_0 0 rfl (pc2 := 1) rfl ?_
  refine x_iload_n C dX6_widthOf_1 1 rfl (pc2 := 2) rfl ?_
  refine x_iconst (v := (2 : Int32)) C dX6_widthOf_2 (by decide) (pc2 := 3) rfl ?_
  refine x_callVi (As := [.int x1, .int (2 : Int32)]) (rest := []) (index := 78) (n := 2) C h (c_X6_isKind l D A ad cI cZ _ _ _) gX6_widthOf_X6_isKind rfl (by decide +kernel) rfl rfl ⟨Nat.le_of_ble_eq_true rfl, Nat.le_of_ble_eq_true rfl⟩ (ci := 6) rfl rfl (mc_0 ad cI cZ _) (MW_D ad cI cZ _) rfl rfl (Nat.le_of_ble_eq_true rfl) dX6_widthOf_3 (pc2 := 6) rfl (fun r1 u1 h => ?_)
  refine x_if_eq C h dX6_widthOf_6 (tgt := 12) (by decide) (pc2 := 9) rfl (fun h => ?_) (fun h => ?_)
  · refine x_iload_n C dX6_widthOf_12 1 rfl (pc2 := 13) rfl ?_
    refine x_aload_n C dX6_widthOf_13 0 rfl (pc2 := 14) rfl ?_
    refine x_get C hiX6 0 (mc_0 ad cI cZ _) rfl 10 (by decide) f38 (v := .ref (ad 10)) rfl dX6_widthOf_14 (pc2 := 17) rfl ?_
    refine x_iload_n C dX6_widthOf_17 1 rfl (pc2 := 18) rfl ?_
    refine x_iald C h 10 0 (mc_10 ad cI cZ _) rfl dX6_widthOf_18 (pc2 := 19) rfl (fun h => ?_)
    refine x_isub C dX6_widthOf_19 (pc2 := 20) rfl ?_
    refine x_istore_n C dX6_widthOf_20 (by decide) (lv2 := [(2, .int (x1 - (u1 10 (x1).toNatClampNeg))), (0, .ref (ad 0)), (1, .int x1)]) rfl (pc2 := 21) rfl ?_
    refine x_iconst (v := (1 : Int32)) C dX6_widthOf_21 (by decide) (pc2 := 22) rfl ?_
    refine x_istore_n C dX6_widthOf_22 (by decide) (lv2 := [(3, .int (1 : Int32)), (2, .int (x1 - (u1 10 (x1).toNatClampNeg))), (0, .ref (ad 0)), (1, .int x1)]) rfl (pc2 := 23) rfl ?_
    refine x_sub [2, 3, 1, 0] (lv2 := [(0, .ref (ad 0)), (1, .int x1), (2, .int (x1 - (u1 10 (x1).toNatClampNeg))), (3, .int (1 : Int32))]) rfl ?_
    exact J23 FU _ _ _ _ h
  · refine x_bipush (v := (24 : Int32)) C dX6_widthOf_9 (by decide) (pc2 := 11) rfl ?_
    exact x_iret C hr hlocks h dX6_widthOf_11
set_option maxRecDepth 100000 in
set_option maxHeartbeats 4000000 in
theorem c_X6_at (l : Launch) (D : va_G) (A : Nat → Prop) (ad : Nat → Nat) (cI cZ : ClassId) (u : Mem) (x1 : Int32) (x2 : Int32) : Cti l yX6_at wsX6_at { frames := 7, cells := 0, slots := 0, locals := 154 } D A (MW ad cI cZ) [(cI, .int), (cZ, .boolean)] [.ref (ad 0), .int x1, .int x2] u (e_X6_at u x1 x2) := by
  intro r ur h
  refine Met.ofW (cc := cX6_at) (maxL := 3) (ret := (some .int)) (by decide) rfl ?_
  intro p e s m args below meth c s₁ B hml hv
  obtain ⟨hav, hP, hK, hD⟩ := hv
  have C : Cx p m c cX6_at 3 s args wsX6_at RX6 D [(cI, .int), (cZ, .boolean)] := ⟨⟨B.exec, B.bytes, hml, findClass_of_methodNamed B.named, atoms_spec (ws := wsX6_at) B.pre⟩, hK⟩
  have hr := B.returns
  have hlocks := B.notSynchronized
  have hiX6 : ∀ w ∈ wsX60, w ∈ wsX6_at := by decide +kernel
  have f32 : Cond.fieldLink RX6 32 "PanelPagesModel" "page" "[I" ∈ wsX6_at := by decide +kernel
  have f35 : Cond.fieldLink RX6 35 "PanelPagesModel" "tier" "[I" ∈ wsX6_at := by decide +kernel
  have f38 : Cond.fieldLink RX6 38 "PanelPagesModel" "place" "[I" ∈ wsX6_at := by decide +kernel
  refine x_entry2 (lv := [(0, .ref (ad 0)), (1, .int x1), (2, .int x2)]) hav hP hD (Nat.le_of_ble_eq_true rfl) rfl ?_
  unfold e_X6_at at h
  refine x_aload_n C dX6_at_0 0 rfl (pc2 := 1) rfl ?_
  refine x_iload_n C dX6_at_1 1 rfl (pc2 := 2) rfl ?_
  refine x_callVi (As := [.int x1]) (rest := []) (index := 59) (n := 1) C h (c_X6_isPanel l D A ad cI cZ _ _) gX6_at_X6_isPanel rfl (by decide +kernel) rfl rfl ⟨Nat.le_of_ble_eq_true rfl, Nat.le_of_ble_eq_true rfl⟩ (ci := 6) rfl rfl (mc_0 ad cI cZ _) (MW_D ad cI cZ _) rfl rfl (Nat.le_of_ble_eq_true rfl) dX6_at_2 (pc2 := 5) rfl (fun r1 u1 h => ?_)
  refine x_if_ne C h dX6_at_5 (tgt := 10) (by decide) (pc2 := 8) rfl (fun h => ?_) (fun h => ?_)
  · refine x_iload_n C dX6_at_10 2 rfl (pc2 := 11) rfl ?_
    refine x_iconst (v := (0 : Int32)) C dX6_at_11 (by decide) (pc2 := 12) rfl ?_
    refine x_iconst (v := (3 : Int32)) C dX6_at_12 (by decide) (pc2 := 13) rfl ?_
    refine x_callSi (As := [.int x2, .int (0 : Int32), .int (3 : Int32)]) (rest := []) (index := 51) (n := 3) C h (c_X6_in l D A ad cI cZ _ _ _ _) gX6_at_X6_in rfl (by decide +kernel) rfl rfl ⟨Nat.le_of_ble_eq_true rfl, Nat.le_of_ble_eq_true rfl⟩ (MW_D ad cI cZ _) rfl rfl (Nat.le_of_ble_eq_true rfl) dX6_at_13 (pc2 := 16) rfl (fun r2 u2 h => ?_)
    refine x_if_ne C h dX6_at_16 (tgt := 22) (by decide) (pc2 := 19) rfl (fun h => ?_) (fun h => ?_)
    · refine x_aload_n C dX6_at_22 0 rfl (pc2 := 23) rfl ?_
      refine x_callVi (As := []) (rest := []) (index := 137) (n := 0) C h (c_X6_isLayout l D A ad cI cZ _ ) gX6_at_X6_isLayout rfl (by decide +kernel) rfl rfl ⟨Nat.le_of_ble_eq_true rfl, Nat.le_of_ble_eq_true rfl⟩ (ci := 6) rfl rfl (mc_0 ad cI cZ _) (MW_D ad cI cZ _) rfl rfl (Nat.le_of_ble_eq_true rfl) dX6_at_23 (pc2 := 26) rfl (fun r3 u3 h => ?_)
      refine x_if_ne C h dX6_at_26 (tgt := 32) (by decide) (pc2 := 29) rfl (fun h => ?_) (fun h => ?_)
      · refine x_aload_n C dX6_at_32 0 rfl (pc2 := 33) rfl ?_
        refine x_callVi (As := []) (rest := []) (index := 141) (n := 0) C h (c_X6_goPad l D A ad cI cZ _ ) gX6_at_X6_goPad rfl (by decide +kernel) rfl rfl ⟨Nat.le_of_ble_eq_true rfl, Nat.le_of_ble_eq_true rfl⟩ (ci := 6) rfl rfl (mc_0 ad cI cZ _) (MW_D ad cI cZ _) rfl rfl (Nat.le_of_ble_eq_true rfl) dX6_at_33 (pc2 := 36) rfl (fun r4 u4 h => ?_)
        refine x_if_lt C h dX6_at_36 (tgt := 42) (by decide) (pc2 := 39) rfl (fun h => ?_) (fun h => ?_)
        · refine x_iload_n C dX6_at_42 2 rfl (pc2 := 43) rfl ?_
          refine x_if_ne C h dX6_at_43 (tgt := 55) (by decide) (pc2 := 46) rfl (fun h => ?_) (fun h => ?_)
          · refine x_iload_n C dX6_at_55 2 rfl (pc2 := 56) rfl ?_
            refine x_iconst (v := (1 : Int32)) C dX6_at_56 (by decide) (pc2 := 57) rfl ?_
            refine x_icmp_ne C h dX6_at_57 (tgt := 69) (by decide) (pc2 := 60) rfl (fun h => ?_) (fun h => ?_)
            · refine x_iload_n C dX6_at_69 2 rfl (pc2 := 70) rfl ?_
              refine x_iconst (v := (2 : Int32)) C dX6_at_70 (by decide) (pc2 := 71) rfl ?_
              refine x_icmp_ne C h dX6_at_71 (tgt := 83) (by decide) (pc2 := 74) rfl (fun h => ?_) (fun h => ?_)
              · refine x_aload_n C dX6_at_83 0 rfl (pc2 := 84) rfl ?_
                refine x_iload_n C dX6_at_84 1 rfl (pc2 := 85) rfl ?_
                refine x_callVi (As := [.int x1]) (rest := []) (index := 144) (n := 1) C h (c_X6_widthOf l D A ad cI cZ _ _) gX6_at_X6_widthOf rfl (by decide +kernel) rfl rfl ⟨Nat.le_of_ble_eq_true rfl, Nat.le_of_ble_eq_true rfl⟩ (ci := 6) rfl rfl (mc_0 ad cI cZ _) (MW_D ad cI cZ _) rfl rfl (Nat.le_of_ble_eq_true rfl) dX6_at_85 (pc2 := 88) rfl (fun r5 u5 h => ?_)
                exact x_iret C hr hlocks h dX6_at_88
              · refine x_aload_n C dX6_at_74 0 rfl (pc2 := 75) rfl ?_
                refine x_get C hiX6 0 (mc_0 ad cI cZ _) rfl 10 (by decide) f38 (v := .ref (ad 10)) rfl dX6_at_75 (pc2 := 78) rfl ?_
                refine x_iload_n C dX6_at_78 1 rfl (pc2 := 79) rfl ?_
                refine x_iald C h 10 0 (mc_10 ad cI cZ _) rfl dX6_at_79 (pc2 := 80) rfl (fun h => ?_)
                refine x_goto C dX6_at_80 (pc2 := 88) (by decide) ?_
                exact x_iret C hr hlocks h dX6_at_88
            · refine x_aload_n C dX6_at_60 0 rfl (pc2 := 61) rfl ?_
              refine x_get C hiX6 0 (mc_0 ad cI cZ _) rfl 9 (by decide) f35 (v := .ref (ad 9)) rfl dX6_at_61 (pc2 := 64) rfl ?_
              refine x_iload_n C dX6_at_64 1 rfl (pc2 := 65) rfl ?_
              refine x_iald C h 9 0 (mc_9 ad cI cZ _) rfl dX6_at_65 (pc2 := 66) rfl (fun h => ?_)
              refine x_goto C dX6_at_66 (pc2 := 88) (by decide) ?_
              exact x_iret C hr hlocks h dX6_at_88
          · refine x_aload_n C dX6_at_46 0 rfl (pc2 := 47) rfl ?_
            refine x_get C hiX6 0 (mc_0 ad cI cZ _) rfl 8 (by decide) f32 (v := .ref (ad 8)) rfl dX6_at_47 (pc2 := 50) rfl ?_
            refine x_iload_n C dX6_at_50 1 rfl (pc2 := 51) rfl ?_
            refine x_iald C h 8 0 (mc_8 ad cI cZ _) rfl dX6_at_51 (pc2 := 52) rfl (fun h => ?_)
            refine x_goto C dX6_at_52 (pc2 := 88) (by decide) ?_
            exact x_iret C hr hlocks h dX6_at_88
        · refine x_bipush (v := (-5 : Int32)) C dX6_at_39 (by decide) (pc2 := 41) rfl ?_
          exact x_iret C hr hlocks h dX6_at_41
      · refine x_bipush (v := (-7 : Int32)) C dX6_at_29 (by decide) (pc2 := 31) rfl ?_
        exact x_iret C hr hlocks h dX6_at_31
    · refine x_bipush (v := (-2 : Int32)) C dX6_at_19 (by decide) (pc2 := 21) rfl ?_
      exact x_iret C hr hlocks h dX6_at_21
  · refine x_iconst (v := (-1 : Int32)) C dX6_at_8 (by decide) (pc2 := 9) rfl ?_
    exact x_iret C hr hlocks h dX6_at_9
set_option maxRecDepth 100000 in
set_option maxHeartbeats 4000000 in
theorem c_X6_layNumber (l : Launch) (D : va_G) (A : Nat → Prop) (ad : Nat → Nat) (cI cZ : ClassId) (u : Mem) (x1 : Int32) : Ctv l yX6_layNumber wsX6_layNumber { frames := 1, cells := 0, slots := 0, locals := 20 } D A (MW ad cI cZ) [(cI, .int), (cZ, .boolean)] [.ref (ad 0), .int x1] u (e_X6_layNumber u x1) := by
  intro ur h
  refine Met.ofW (cc := cX6_layNumber) (maxL := 4) (ret := none) (by decide) rfl ?_
  intro p e s m args below meth c s₁ B hml hv
  obtain ⟨hav, hP, hK, hD⟩ := hv
  have C : Cx p m c cX6_layNumber 4 s args wsX6_layNumber RX6 D [(cI, .int), (cZ, .boolean)] := ⟨⟨B.exec, B.bytes, hml, findClass_of_methodNamed B.named, atoms_spec (ws := wsX6_layNumber) B.pre⟩, hK⟩
  have hr := B.returns
  have hlocks := B.notSynchronized
  have hiX6 : ∀ w ∈ wsX60, w ∈ wsX6_layNumber := by decide +kernel
  have f29 : Cond.fieldLink RX6 29 "PanelPagesModel" "figure" "[I" ∈ wsX6_layNumber := by decide +kernel
  refine x_entry2 (lv := [(0, .ref (ad 0)), (1, .int x1)]) hav hP hD (Nat.le_of_ble_eq_true rfl) rfl ?_
  unfold e_X6_layNumber at h
  have J9 : ∀ (f : Nat) (u : Mem) (x2 : Int32) (x3 : Int32), e_X6_layNumber_L9 f u x2 x3 = some ur → Wx p l e (headSpec wsX6_layNumber { frames := 1, cells := 0, slots := 0, locals := 20 }).room s m args below meth c (MQ below (Qvx D A (MW ad cI cZ) ur) args s 0 0 A) D A 4 (MW ad cI cZ) u 9 [(0, .ref (ad 0)), (2, .int x2), (3, .int x3)] [] := by
    intro f
    induction f with
    | zero => intro u x2 x3 h; cases h
    | succ f ih =>
      intro u x2 x3 h
      replace h : e_X6_layNumber_L9_b (e_X6_layNumber_L9 f) u x2 x3 = some ur := h
      unfold e_X6_layNumber_L9_b at h
      refine x_iload_n C dX6_layNumber_9 2 rfl (pc2 := 10) rfl ?_
      refine x_if_lt C h dX6_layNumber_10 (tgt := 32) (by decide) (pc2 := 13) rfl (fun h => ?_) (fun h => ?_)
      · exact x_vret C hr hlocks h dX6_layNumber_32
      · refine x_aload_n C dX6_layNumber_13 0 rfl (pc2 := 14) rfl ?_
        refine x_get C hiX6 0 (mc_0 ad cI cZ _) rfl 7 (by decide) f29 (v := .ref (ad 7)) rfl dX6_layNumber_14 (pc2 := 17) rfl ?_
        refine x_iload_n C dX6_layNumber_17 2 rfl (pc2 := 18) rfl ?_
        refine x_iload_n C dX6_layNumber_18 1 rfl (pc2 := 19) rfl ?_
        refine x_iconst (v := (3 : Int32)) C dX6_layNumber_19 (by decide) (pc2 := 20) rfl ?_
        refine x_irem C dX6_layNumber_20 (by decide) (pc2 := 21) rfl ?_
        refine x_iast C h 7 0 (mc_7 ad cI cZ _) rfl (u2 := (put u 7 (x3).toNatClampNeg (x2 - x2 / (3 : Int32) * (3 : Int32)))) (ms_7 ad cI cZ _ _ _) dX6_layNumber_21 (pc2 := 22) rfl (fun h => ?_)
        refine x_iload_n C dX6_layNumber_22 1 rfl (pc2 := 23) rfl ?_
        refine x_iconst (v := (3 : Int32)) C dX6_layNumber_23 (by decide) (pc2 := 24) rfl ?_
        refine x_idiv C dX6_layNumber_24 (by decide) (pc2 := 25) rfl ?_
        refine x_istore_n C dX6_layNumber_25 (by decide) (lv2 := [(2, .int (x2 / (3 : Int32))), (0, .ref (ad 0)), (3, .int x3)]) rfl (pc2 := 26) rfl ?_
        refine x_iinc C dX6_layNumber_26 2 rfl (-1 : Int32) (by decide) rfl (by decide) (lv2 := [(3, .int (x3 + (-1 : Int32))), (2, .int (x2 / (3 : Int32))), (0, .ref (ad 0))]) rfl (pc2 := 29) rfl ?_
        refine x_goto C dX6_layNumber_29 (pc2 := 9) (by decide) ?_
        refine x_sub [2, 1, 0] (lv2 := [(0, .ref (ad 0)), (2, .int (x2 / (3 : Int32))), (3, .int (x3 + (-1 : Int32)))]) rfl ?_
        exact ih _ _ _ h
  refine x_iload_n C dX6_layNumber_0 1 rfl (pc2 := 1) rfl ?_
  refine x_istore_n C dX6_layNumber_1 (by decide) (lv2 := [(2, .int x1), (0, .ref (ad 0)), (1, .int x1)]) rfl (pc2 := 2) rfl ?_
  refine x_aload_n C dX6_layNumber_2 1 rfl (pc2 := 3) rfl ?_
  refine x_callVi (As := []) (rest := []) (index := 47) (n := 0) C h (c_X6_many l D A ad cI cZ _ ) gX6_layNumber_X6_many rfl (by decide +kernel) rfl rfl ⟨Nat.le_of_ble_eq_true rfl, Nat.le_of_ble_eq_true rfl⟩ (ci := 6) rfl rfl (mc_0 ad cI cZ _) (MW_D ad cI cZ _) rfl rfl (Nat.le_of_ble_eq_true rfl) dX6_layNumber_3 (pc2 := 6) rfl (fun r1 u1 h => ?_)
  refine x_iconst (v := (1 : Int32)) C dX6_layNumber_6 (by decide) (pc2 := 7) rfl ?_
  refine x_isub C dX6_layNumber_7 (pc2 := 8) rfl ?_
  refine x_istore_n C dX6_layNumber_8 (by decide) (lv2 := [(3, .int (r1 - (1 : Int32))), (2, .int x1), (0, .ref (ad 0)), (1, .int x1)]) rfl (pc2 := 9) rfl ?_
  refine x_sub [2, 1, 0] (lv2 := [(0, .ref (ad 0)), (2, .int x1), (3, .int (r1 - (1 : Int32)))]) rfl ?_
  exact J9 FU _ _ _ h
set_option maxRecDepth 100000 in
set_option maxHeartbeats 4000000 in
theorem c_X6_tryOne (l : Launch) (D : va_G) (A : Nat → Prop) (ad : Nat → Nat) (cI cZ : ClassId) (u : Mem) (x1 : Int32) : Ctv l yX6_tryOne wsX6_tryOne { frames := 6, cells := 0, slots := 0, locals := 133 } D A (MW ad cI cZ) [(cI, .int), (cZ, .boolean)] [.ref (ad 0), .int x1] u (e_X6_tryOne u x1) := by
  intro ur h
  refine Met.ofW (cc := cX6_tryOne) (maxL := 2) (ret := none) (by decide) rfl ?_
  intro p e s m args below meth c s₁ B hml hv
  obtain ⟨hav, hP, hK, hD⟩ := hv
  have C : Cx p m c cX6_tryOne 2 s args wsX6_tryOne RX6 D [(cI, .int), (cZ, .boolean)] := ⟨⟨B.exec, B.bytes, hml, findClass_of_methodNamed B.named, atoms_spec (ws := wsX6_tryOne) B.pre⟩, hK⟩
  have hr := B.returns
  have hlocks := B.notSynchronized
  have hiX6 : ∀ w ∈ wsX60, w ∈ wsX6_tryOne := by decide +kernel
  have f107 : Cond.fieldLink RX6 107 "PanelPagesModel" "pages" "I" ∈ wsX6_tryOne := by decide +kernel
  have f150 : Cond.fieldLink RX6 150 "PanelPagesModel" "goes" "I" ∈ wsX6_tryOne := by decide +kernel
  have f153 : Cond.fieldLink RX6 153 "PanelPagesModel" "bestNumber" "I" ∈ wsX6_tryOne := by decide +kernel
  have f156 : Cond.fieldLink RX6 156 "PanelPagesModel" "fewest" "I" ∈ wsX6_tryOne := by decide +kernel
  have f159 : Cond.fieldLink RX6 159 "PanelPagesModel" "asFew" "I" ∈ wsX6_tryOne := by decide +kernel
  have f162 : Cond.fieldLink RX6 162 "PanelPagesModel" "leastRagged" "I" ∈ wsX6_tryOne := by decide +kernel
  have f94 : Cond.fieldLink RX6 94 "PanelPagesModel" "ragged" "I" ∈ wsX6_tryOne := by decide +kernel
  refine x_entry2 (lv := [(0, .ref (ad 0)), (1, .int x1)]) hav hP hD (Nat.le_of_ble_eq_true rfl) rfl ?_
  unfold e_X6_tryOne at h
  have J134 : ∀ (u : Mem) (s0 : Int32), e_X6_tryOne_J134 u s0 = some ur → Wx p l e (headSpec wsX6_tryOne { frames := 6, cells := 0, slots := 0, locals := 133 }).room s m args below meth c (MQ below (Qvx D A (MW ad cI cZ) ur) args s 0 0 A) D A 2 (MW ad cI cZ) u 134 [] [.int s0, .ref (ad 0)] := by
    intro u s0 h
    unfold e_X6_tryOne_J134 at h
    refine x_put C hiX6 tyX6 tyX6_ok nmX6 0 (mc_0 ad cI cZ _) rfl 21 (by decide) f162 rfl rfl (Nat.le_of_ble_eq_true rfl) (u2 := (put u 0 21 s0)) (ms_0_21 ad cI cZ _ _) dX6_tryOne_134 (pc2 := 137) rfl ?_
    exact x_vret C hr hlocks h dX6_tryOne_137
  have J108 : ∀ (u : Mem) (s0 : Int32), e_X6_tryOne_J108 u s0 = some ur → Wx p l e (headSpec wsX6_tryOne { frames := 6, cells := 0, slots := 0, locals := 133 }).room s m args below meth c (MQ below (Qvx D A (MW ad cI cZ) ur) args s 0 0 A) D A 2 (MW ad cI cZ) u 108 [(0, .ref (ad 0))] [.int s0, .ref (ad 0)] := by
    intro u s0 h
    unfold e_X6_tryOne_J108 at h
    refine x_put C hiX6 tyX6 tyX6_ok nmX6 0 (mc_0 ad cI cZ _) rfl 22 (by decide) f153 rfl rfl (Nat.le_of_ble_eq_true rfl) (u2 := (put u 0 22 s0)) (ms_0_22 ad cI cZ _ _) dX6_tryOne_108 (pc2 := 111) rfl ?_
    refine x_aload_n C dX6_tryOne_111 0 rfl (pc2 := 112) rfl ?_
    refine x_aload_n C dX6_tryOne_112 0 rfl (pc2 := 113) rfl ?_
    refine x_get C hiX6 0 (mc_0 ad cI cZ _) rfl 13 (by decide) f94 (v := .int ((put u 0 22 s0) 0 13)) rfl dX6_tryOne_113 (pc2 := 116) rfl ?_
    refine x_tope (y := (u 0 13)) rfl ?_
    refine x_aload_n C dX6_tryOne_116 0 rfl (pc2 := 117) rfl ?_
    refine x_get C hiX6 0 (mc_0 ad cI cZ _) rfl 21 (by decide) f162 (v := .int ((put u 0 22 s0) 0 21)) rfl dX6_tryOne_117 (pc2 := 120) rfl ?_
    refine x_tope (y := (u 0 21)) rfl ?_
    refine x_icmp_ge C h dX6_tryOne_120 (tgt := 130) (by decide) (pc2 := 123) rfl (fun h => ?_) (fun h => ?_)
    · refine x_aload_n C dX6_tryOne_130 0 rfl (pc2 := 131) rfl ?_
      refine x_get C hiX6 0 (mc_0 ad cI cZ _) rfl 21 (by decide) f162 (v := .int ((put u 0 22 s0) 0 21)) rfl dX6_tryOne_131 (pc2 := 134) rfl ?_
      refine x_tope (y := (u 0 21)) rfl ?_
      refine x_sub [] (lv2 := []) rfl ?_
      exact J134 _ _ h
    · refine x_aload_n C dX6_tryOne_123 0 rfl (pc2 := 124) rfl ?_
      refine x_get C hiX6 0 (mc_0 ad cI cZ _) rfl 13 (by decide) f94 (v := .int ((put u 0 22 s0) 0 13)) rfl dX6_tryOne_124 (pc2 := 127) rfl ?_
      refine x_tope (y := (u 0 13)) rfl ?_
      refine x_goto C dX6_tryOne_127 (pc2 := 134) (by decide) ?_
      refine x_sub [] (lv2 := []) rfl ?_
      exact J134 _ _ h
  have J67 : ∀ (u : Mem) (x1 : Int32), e_X6_tryOne_J67 u x1 = some ur → Wx p l e (headSpec wsX6_tryOne { frames := 6, cells := 0, slots := 0, locals := 133 }).room s m args below meth c (MQ below (Qvx D A (MW ad cI cZ) ur) args s 0 0 A) D A 2 (MW ad cI cZ) u 67 [(0, .ref (ad 0)), (1, .int x1)] [] := by
    intro u x1 h
    unfold e_X6_tryOne_J67 at h
    refine x_aload_n C dX6_tryOne_67 0 rfl (pc2 := 68) rfl ?_
    refine x_get C hiX6 0 (mc_0 ad cI cZ _) rfl 12 (by decide) f107 (v := .int (u 0 12)) rfl dX6_tryOne_68 (pc2 := 71) rfl ?_
    refine x_aload_n C dX6_tryOne_71 0 rfl (pc2 := 72) rfl ?_
    refine x_get C hiX6 0 (mc_0 ad cI cZ _) rfl 19 (by decide) f156 (v := .int (u 0 19)) rfl dX6_tryOne_72 (pc2 := 75) rfl ?_
    refine x_icmp_ne C h dX6_tryOne_75 (tgt := 137) (by decide) (pc2 := 78) rfl (fun h => ?_) (fun h => ?_)
    · exact x_vret C hr hlocks h dX6_tryOne_137
    · refine x_aload_n C dX6_tryOne_78 0 rfl (pc2 := 79) rfl ?_
      refine x_dup C dX6_tryOne_79 rfl (pc2 := 80) rfl ?_
      refine x_get C hiX6 0 (mc_0 ad cI cZ _) rfl 20 (by decide) f159 (v := .int (u 0 20)) rfl dX6_tryOne_80 (pc2 := 83) rfl ?_
      refine x_iconst (v := (1 : Int32)) C dX6_tryOne_83 (by decide) (pc2 := 84) rfl ?_
      refine x_iadd C dX6_tryOne_84 (pc2 := 85) rfl ?_
      refine x_put C hiX6 tyX6 tyX6_ok nmX6 0 (mc_0 ad cI cZ _) rfl 20 (by decide) f159 rfl rfl (Nat.le_of_ble_eq_true rfl) (u2 := (put u 0 20 ((u 0 20) + (1 : Int32)))) (ms_0_20 ad cI cZ _ _) dX6_tryOne_85 (pc2 := 88) rfl ?_
      refine x_aload_n C dX6_tryOne_88 0 rfl (pc2 := 89) rfl ?_
      refine x_aload_n C dX6_tryOne_89 0 rfl (pc2 := 90) rfl ?_
      refine x_get C hiX6 0 (mc_0 ad cI cZ _) rfl 13 (by decide) f94 (v := .int ((put u 0 20 ((u 0 20) + (1 : Int32))) 0 13)) rfl dX6_tryOne_90 (pc2 := 93) rfl ?_
      refine x_tope (y := (u 0 13)) rfl ?_
      refine x_aload_n C dX6_tryOne_93 0 rfl (pc2 := 94) rfl ?_
      refine x_get C hiX6 0 (mc_0 ad cI cZ _) rfl 21 (by decide) f162 (v := .int ((put u 0 20 ((u 0 20) + (1 : Int32))) 0 21)) rfl dX6_tryOne_94 (pc2 := 97) rfl ?_
      refine x_tope (y := (u 0 21)) rfl ?_
      refine x_icmp_ge C h dX6_tryOne_97 (tgt := 104) (by decide) (pc2 := 100) rfl (fun h => ?_) (fun h => ?_)
      · refine x_aload_n C dX6_tryOne_104 0 rfl (pc2 := 105) rfl ?_
        refine x_get C hiX6 0 (mc_0 ad cI cZ _) rfl 22 (by decide) f153 (v := .int ((put u 0 20 ((u 0 20) + (1 : Int32))) 0 22)) rfl dX6_tryOne_105 (pc2 := 108) rfl ?_
        refine x_tope (y := (u 0 22)) rfl ?_
        refine x_sub [0] (lv2 := [(0, .ref (ad 0))]) rfl ?_
        exact J108 _ _ h
      · refine x_iload_n C dX6_tryOne_100 1 rfl (pc2 := 101) rfl ?_
        refine x_goto C dX6_tryOne_101 (pc2 := 108) (by decide) ?_
        refine x_sub [0] (lv2 := [(0, .ref (ad 0))]) rfl ?_
        exact J108 _ _ h
  have J41 : ∀ (u : Mem) (x1 : Int32), e_X6_tryOne_J41 u x1 = some ur → Wx p l e (headSpec wsX6_tryOne { frames := 6, cells := 0, slots := 0, locals := 133 }).room s m args below meth c (MQ below (Qvx D A (MW ad cI cZ) ur) args s 0 0 A) D A 2 (MW ad cI cZ) u 41 [(0, .ref (ad 0)), (1, .int x1)] [] := by
    intro u x1 h
    unfold e_X6_tryOne_J41 at h
    refine x_aload_n C dX6_tryOne_41 0 rfl (pc2 := 42) rfl ?_
    refine x_aload_n C dX6_tryOne_42 0 rfl (pc2 := 43) rfl ?_
    refine x_get C hiX6 0 (mc_0 ad cI cZ _) rfl 12 (by decide) f107 (v := .int (u 0 12)) rfl dX6_tryOne_43 (pc2 := 46) rfl ?_
    refine x_put C hiX6 tyX6 tyX6_ok nmX6 0 (mc_0 ad cI cZ _) rfl 19 (by decide) f156 rfl rfl (Nat.le_of_ble_eq_true rfl) (u2 := (put u 0 19 (u 0 12))) (ms_0_19 ad cI cZ _ _) dX6_tryOne_46 (pc2 := 49) rfl ?_
    refine x_aload_n C dX6_tryOne_49 0 rfl (pc2 := 50) rfl ?_
    refine x_iconst (v := (0 : Int32)) C dX6_tryOne_50 (by decide) (pc2 := 51) rfl ?_
    refine x_put C hiX6 tyX6 tyX6_ok nmX6 0 (mc_0 ad cI cZ _) rfl 20 (by decide) f159 rfl rfl (Nat.le_of_ble_eq_true rfl) (u2 := (put (put u 0 19 (u 0 12)) 0 20 (0 : Int32))) (ms_0_20 ad cI cZ _ _) dX6_tryOne_51 (pc2 := 54) rfl ?_
    refine x_aload_n C dX6_tryOne_54 0 rfl (pc2 := 55) rfl ?_
    refine x_iload_n C dX6_tryOne_55 1 rfl (pc2 := 56) rfl ?_
    refine x_put C hiX6 tyX6 tyX6_ok nmX6 0 (mc_0 ad cI cZ _) rfl 22 (by decide) f153 rfl rfl (Nat.le_of_ble_eq_true rfl) (u2 := (put (put (put u 0 19 (u 0 12)) 0 20 (0 : Int32)) 0 22 x1)) (ms_0_22 ad cI cZ _ _) dX6_tryOne_56 (pc2 := 59) rfl ?_
    refine x_aload_n C dX6_tryOne_59 0 rfl (pc2 := 60) rfl ?_
    refine x_aload_n C dX6_tryOne_60 0 rfl (pc2 := 61) rfl ?_
    refine x_get C hiX6 0 (mc_0 ad cI cZ _) rfl 13 (by decide) f94 (v := .int ((put (put (put u 0 19 (u 0 12)) 0 20 (0 : Int32)) 0 22 x1) 0 13)) rfl dX6_tryOne_61 (pc2 := 64) rfl ?_
    refine x_tope (y := (u 0 13)) rfl ?_
    refine x_put C hiX6 tyX6 tyX6_ok nmX6 0 (mc_0 ad cI cZ _) rfl 21 (by decide) f162 rfl rfl (Nat.le_of_ble_eq_true rfl) (u2 := (put (put (put (put u 0 19 (u 0 12)) 0 20 (0 : Int32)) 0 22 x1) 0 21 (u 0 13))) (ms_0_21 ad cI cZ _ _) dX6_tryOne_64 (pc2 := 67) rfl ?_
    exact J67 _ _ h
  refine x_aload_n C dX6_tryOne_0 0 rfl (pc2 := 1) rfl ?_
  refine x_iload_n C dX6_tryOne_1 1 rfl (pc2 := 2) rfl ?_
  refine x_callVv (As := [.int x1]) (rest := []) (index := 147) (n := 1) C h (c_X6_layNumber l D A ad cI cZ _ _) gX6_tryOne_X6_layNumber rfl (by decide +kernel) rfl rfl ⟨Nat.le_of_ble_eq_true rfl, Nat.le_of_ble_eq_true rfl⟩ (ci := 6) rfl rfl (mc_0 ad cI cZ _) (MW_D ad cI cZ _) rfl rfl (Nat.le_of_ble_eq_true rfl) dX6_tryOne_2 (pc2 := 5) rfl (fun u1 h => ?_)
  refine x_aload_n C dX6_tryOne_5 0 rfl (pc2 := 6) rfl ?_
  refine x_callVi (As := []) (rest := []) (index := 134) (n := 0) C h (c_X6_goThrough l D A ad cI cZ _ ) gX6_tryOne_X6_goThrough rfl (by decide +kernel) rfl rfl ⟨Nat.le_of_ble_eq_true rfl, Nat.le_of_ble_eq_true rfl⟩ (ci := 6) rfl rfl (mc_0 ad cI cZ _) (MW_D ad cI cZ _) rfl rfl (Nat.le_of_ble_eq_true rfl) dX6_tryOne_6 (pc2 := 9) rfl (fun r2 u2 h => ?_)
  refine x_if_lt C h dX6_tryOne_9 (tgt := 13) (by decide) (pc2 := 12) rfl (fun h => ?_) (fun h => ?_)
  · refine x_aload_n C dX6_tryOne_13 0 rfl (pc2 := 14) rfl ?_
    refine x_dup C dX6_tryOne_14 rfl (pc2 := 15) rfl ?_
    refine x_get C hiX6 0 (mc_0 ad cI cZ _) rfl 18 (by decide) f150 (v := .int (u2 0 18)) rfl dX6_tryOne_15 (pc2 := 18) rfl ?_
    refine x_iconst (v := (1 : Int32)) C dX6_tryOne_18 (by decide) (pc2 := 19) rfl ?_
    refine x_iadd C dX6_tryOne_19 (pc2 := 20) rfl ?_
    refine x_put C hiX6 tyX6 tyX6_ok nmX6 0 (mc_0 ad cI cZ _) rfl 18 (by decide) f150 rfl rfl (Nat.le_of_ble_eq_true rfl) (u2 := (put u2 0 18 ((u2 0 18) + (1 : Int32)))) (ms_0_18 ad cI cZ _ _) dX6_tryOne_20 (pc2 := 23) rfl ?_
    refine x_aload_n C dX6_tryOne_23 0 rfl (pc2 := 24) rfl ?_
    refine x_get C hiX6 0 (mc_0 ad cI cZ _) rfl 22 (by decide) f153 (v := .int ((put u2 0 18 ((u2 0 18) + (1 : Int32))) 0 22)) rfl dX6_tryOne_24 (pc2 := 27) rfl ?_
    refine x_tope (y := (u2 0 22)) rfl ?_
    refine x_if_lt C h dX6_tryOne_27 (tgt := 41) (by decide) (pc2 := 30) rfl (fun h => ?_) (fun h => ?_)
    · exact J41 _ _ h
    · refine x_aload_n C dX6_tryOne_30 0 rfl (pc2 := 31) rfl ?_
      refine x_get C hiX6 0 (mc_0 ad cI cZ _) rfl 12 (by decide) f107 (v := .int ((put u2 0 18 ((u2 0 18) + (1 : Int32))) 0 12)) rfl dX6_tryOne_31 (pc2 := 34) rfl ?_
      refine x_tope (y := (u2 0 12)) rfl ?_
      refine x_aload_n C dX6_tryOne_34 0 rfl (pc2 := 35) rfl ?_
      refine x_get C hiX6 0 (mc_0 ad cI cZ _) rfl 19 (by decide) f156 (v := .int ((put u2 0 18 ((u2 0 18) + (1 : Int32))) 0 19)) rfl dX6_tryOne_35 (pc2 := 38) rfl ?_
      refine x_tope (y := (u2 0 19)) rfl ?_
      refine x_icmp_ge C h dX6_tryOne_38 (tgt := 67) (by decide) (pc2 := 41) rfl (fun h => ?_) (fun h => ?_)
      · exact J67 _ _ h
      · exact J41 _ _ h
  · exact x_vret C hr hlocks h dX6_tryOne_12
set_option maxRecDepth 100000 in
set_option maxHeartbeats 4000000 in
theorem c_X6_tryAll (l : Launch) (D : va_G) (A : Nat → Prop) (ad : Nat → Nat) (cI cZ : ClassId) (u : Mem)  : Ctv l yX6_tryAll wsX6_tryAll { frames := 7, cells := 0, slots := 0, locals := 154 } D A (MW ad cI cZ) [(cI, .int), (cZ, .boolean)] [.ref (ad 0)] u (e_X6_tryAll u ) := by
  intro ur h
  refine Met.ofW (cc := cX6_tryAll) (maxL := 3) (ret := none) (by decide) rfl ?_
  intro p e s m args below meth c s₁ B hml hv
  obtain ⟨hav, hP, hK, hD⟩ := hv
  have C : Cx p m c cX6_tryAll 3 s args wsX6_tryAll RX6 D [(cI, .int), (cZ, .boolean)] := ⟨⟨B.exec, B.bytes, hml, findClass_of_methodNamed B.named, atoms_spec (ws := wsX6_tryAll) B.pre⟩, hK⟩
  have hr := B.returns
  have hlocks := B.notSynchronized
  have hiX6 : ∀ w ∈ wsX60, w ∈ wsX6_tryAll := by decide +kernel
  have f150 : Cond.fieldLink RX6 150 "PanelPagesModel" "goes" "I" ∈ wsX6_tryAll := by decide +kernel
  have f153 : Cond.fieldLink RX6 153 "PanelPagesModel" "bestNumber" "I" ∈ wsX6_tryAll := by decide +kernel
  have f156 : Cond.fieldLink RX6 156 "PanelPagesModel" "fewest" "I" ∈ wsX6_tryAll := by decide +kernel
  have f159 : Cond.fieldLink RX6 159 "PanelPagesModel" "asFew" "I" ∈ wsX6_tryAll := by decide +kernel
  have f162 : Cond.fieldLink RX6 162 "PanelPagesModel" "leastRagged" "I" ∈ wsX6_tryAll := by decide +kernel
  refine x_entry2 (lv := [(0, .ref (ad 0))]) hav hP hD (Nat.le_of_ble_eq_true rfl) rfl ?_
  unfold e_X6_tryAll at h
  have J53 : ∀ (f : Nat) (u : Mem) (x1 : Int32) (x2 : Int32), e_X6_tryAll_L53 f u x1 x2 = some ur → Wx p l e (headSpec wsX6_tryAll { frames := 7, cells := 0, slots := 0, locals := 154 }).room s m args below meth c (MQ below (Qvx D A (MW ad cI cZ) ur) args s 0 0 A) D A 3 (MW ad cI cZ) u 53 [(0, .ref (ad 0)), (1, .int x1), (2, .int x2)] [] := by
    intro f
    induction f with
    | zero => intro u x1 x2 h; cases h
    | succ f ih =>
      intro u x1 x2 h
      replace h : e_X6_tryAll_L53_b (e_X6_tryAll_L53 f) u x1 x2 = some ur := h
      unfold e_X6_tryAll_L53_b at h
      refine x_iload_n C dX6_tryAll_53 2 rfl (pc2 := 54) rfl ?_
      refine x_iload_n C dX6_tryAll_54 1 rfl (pc2 := 55) rfl ?_
      refine x_icmp_ge C h dX6_tryAll_55 (tgt := 69) (by decide) (pc2 := 58) rfl (fun h => ?_) (fun h => ?_)
      · exact x_vret C hr hlocks h dX6_tryAll_69
      · refine x_aload_n C dX6_tryAll_58 0 rfl (pc2 := 59) rfl ?_
        refine x_iload_n C dX6_tryAll_59 2 rfl (pc2 := 60) rfl ?_
        refine x_callVv (As := [.int x2]) (rest := []) (index := 165) (n := 1) C h (c_X6_tryOne l D A ad cI cZ _ _) gX6_tryAll_X6_tryOne rfl (by decide +kernel) rfl rfl ⟨Nat.le_of_ble_eq_true rfl, Nat.le_of_ble_eq_true rfl⟩ (ci := 6) rfl rfl (mc_0 ad cI cZ _) (MW_D ad cI cZ _) rfl rfl (Nat.le_of_ble_eq_true rfl) dX6_tryAll_60 (pc2 := 63) rfl (fun u2 h => ?_)
        refine x_iinc C dX6_tryAll_63 2 rfl (1 : Int32) (by decide) rfl (by decide) (lv2 := [(2, .int (x2 + (1 : Int32))), (0, .ref (ad 0)), (1, .int x1)]) rfl (pc2 := 66) rfl ?_
        refine x_goto C dX6_tryAll_66 (pc2 := 53) (by decide) ?_
        refine x_sub [1, 2, 0] (lv2 := [(0, .ref (ad 0)), (1, .int x1), (2, .int (x2 + (1 : Int32)))]) rfl ?_
        exact ih _ _ _ h
  have J33 : ∀ (f : Nat) (u : Mem) (x1 : Int32) (x2 : Int32), e_X6_tryAll_L33 f u x1 x2 = some ur → Wx p l e (headSpec wsX6_tryAll { frames := 7, cells := 0, slots := 0, locals := 154 }).room s m args below meth c (MQ below (Qvx D A (MW ad cI cZ) ur) args s 0 0 A) D A 3 (MW ad cI cZ) u 33 [(0, .ref (ad 0)), (1, .int x1), (2, .int x2)] [] := by
    intro f
    induction f with
    | zero => intro u x1 x2 h; cases h
    | succ f ih =>
      intro u x1 x2 h
      replace h : e_X6_tryAll_L33_b (e_X6_tryAll_L33 f) u x1 x2 = some ur := h
      unfold e_X6_tryAll_L33_b at h
      refine x_iload_n C dX6_tryAll_33 2 rfl (pc2 := 34) rfl ?_
      refine x_aload_n C dX6_tryAll_34 0 rfl (pc2 := 35) rfl ?_
      refine x_callVi (As := []) (rest := [.int x2]) (index := 47) (n := 0) C h (c_X6_many l D A ad cI cZ _ ) gX6_tryAll_X6_many rfl (by decide +kernel) rfl rfl ⟨Nat.le_of_ble_eq_true rfl, Nat.le_of_ble_eq_true rfl⟩ (ci := 6) rfl rfl (mc_0 ad cI cZ _) (MW_D ad cI cZ _) rfl rfl (Nat.le_of_ble_eq_true rfl) dX6_tryAll_35 (pc2 := 38) rfl (fun r1 u1 h => ?_)
      refine x_icmp_ge C h dX6_tryAll_38 (tgt := 51) (by decide) (pc2 := 41) rfl (fun h => ?_) (fun h => ?_)
      · refine x_iconst (v := (0 : Int32)) C dX6_tryAll_51 (by decide) (pc2 := 52) rfl ?_
        refine x_istore_n C dX6_tryAll_52 (by decide) (lv2 := [(2, .int (0 : Int32)), (0, .ref (ad 0)), (1, .int x1)]) rfl (pc2 := 53) rfl ?_
        refine x_sub [1, 2, 0] (lv2 := [(0, .ref (ad 0)), (1, .int x1), (2, .int (0 : Int32))]) rfl ?_
        exact J53 FU _ _ _ h
      · refine x_iload_n C dX6_tryAll_41 1 rfl (pc2 := 42) rfl ?_
        refine x_iconst (v := (3 : Int32)) C dX6_tryAll_42 (by decide) (pc2 := 43) rfl ?_
        refine x_imul C dX6_tryAll_43 (pc2 := 44) rfl ?_
        refine x_istore_n C dX6_tryAll_44 (by decide) (lv2 := [(1, .int (x1 * (3 : Int32))), (0, .ref (ad 0)), (2, .int x2)]) rfl (pc2 := 45) rfl ?_
        refine x_iinc C dX6_tryAll_45 2 rfl (1 : Int32) (by decide) rfl (by decide) (lv2 := [(2, .int (x2 + (1 : Int32))), (1, .int (x1 * (3 : Int32))), (0, .ref (ad 0))]) rfl (pc2 := 48) rfl ?_
        refine x_goto C dX6_tryAll_48 (pc2 := 33) (by decide) ?_
        refine x_sub [2, 1, 0] (lv2 := [(0, .ref (ad 0)), (1, .int (x1 * (3 : Int32))), (2, .int (x2 + (1 : Int32)))]) rfl ?_
        exact ih _ _ _ h
  refine x_aload_n C dX6_tryAll_0 0 rfl (pc2 := 1) rfl ?_
  refine x_iconst (v := (0 : Int32)) C dX6_tryAll_1 (by decide) (pc2 := 2) rfl ?_
  refine x_put C hiX6 tyX6 tyX6_ok nmX6 0 (mc_0 ad cI cZ _) rfl 18 (by decide) f150 rfl rfl (Nat.le_of_ble_eq_true rfl) (u2 := (put u 0 18 (0 : Int32))) (ms_0_18 ad cI cZ _ _) dX6_tryAll_2 (pc2 := 5) rfl ?_
  refine x_aload_n C dX6_tryAll_5 0 rfl (pc2 := 6) rfl ?_
  refine x_bipush (v := (-6 : Int32)) C dX6_tryAll_6 (by decide) (pc2 := 8) rfl ?_
  refine x_put C hiX6 tyX6 tyX6_ok nmX6 0 (mc_0 ad cI cZ _) rfl 19 (by decide) f156 rfl rfl (Nat.le_of_ble_eq_true rfl) (u2 := (put (put u 0 18 (0 : Int32)) 0 19 (-6 : Int32))) (ms_0_19 ad cI cZ _ _) dX6_tryAll_8 (pc2 := 11) rfl ?_
  refine x_aload_n C dX6_tryAll_11 0 rfl (pc2 := 12) rfl ?_
  refine x_bipush (v := (-6 : Int32)) C dX6_tryAll_12 (by decide) (pc2 := 14) rfl ?_
  refine x_put C hiX6 tyX6 tyX6_ok nmX6 0 (mc_0 ad cI cZ _) rfl 20 (by decide) f159 rfl rfl (Nat.le_of_ble_eq_true rfl) (u2 := (put (put (put u 0 18 (0 : Int32)) 0 19 (-6 : Int32)) 0 20 (-6 : Int32))) (ms_0_20 ad cI cZ _ _) dX6_tryAll_14 (pc2 := 17) rfl ?_
  refine x_aload_n C dX6_tryAll_17 0 rfl (pc2 := 18) rfl ?_
  refine x_bipush (v := (-6 : Int32)) C dX6_tryAll_18 (by decide) (pc2 := 20) rfl ?_
  refine x_put C hiX6 tyX6 tyX6_ok nmX6 0 (mc_0 ad cI cZ _) rfl 21 (by decide) f162 rfl rfl (Nat.le_of_ble_eq_true rfl) (u2 := (put (put (put (put u 0 18 (0 : Int32)) 0 19 (-6 : Int32)) 0 20 (-6 : Int32)) 0 21 (-6 : Int32))) (ms_0_21 ad cI cZ _ _) dX6_tryAll_20 (pc2 := 23) rfl ?_
  refine x_aload_n C dX6_tryAll_23 0 rfl (pc2 := 24) rfl ?_
  refine x_bipush (v := (-6 : Int32)) C dX6_tryAll_24 (by decide) (pc2 := 26) rfl ?_
  refine x_put C hiX6 tyX6 tyX6_ok nmX6 0 (mc_0 ad cI cZ _) rfl 22 (by decide) f153 rfl rfl (Nat.le_of_ble_eq_true rfl) (u2 := (put (put (put (put (put u 0 18 (0 : Int32)) 0 19 (-6 : Int32)) 0 20 (-6 : Int32)) 0 21 (-6 : Int32)) 0 22 (-6 : Int32))) (ms_0_22 ad cI cZ _ _) dX6_tryAll_26 (pc2 := 29) rfl ?_
  refine x_iconst (v := (1 : Int32)) C dX6_tryAll_29 (by decide) (pc2 := 30) rfl ?_
  refine x_istore_n C dX6_tryAll_30 (by decide) (lv2 := [(1, .int (1 : Int32)), (0, .ref (ad 0))]) rfl (pc2 := 31) rfl ?_
  refine x_iconst (v := (0 : Int32)) C dX6_tryAll_31 (by decide) (pc2 := 32) rfl ?_
  refine x_istore_n C dX6_tryAll_32 (by decide) (lv2 := [(2, .int (0 : Int32)), (1, .int (1 : Int32)), (0, .ref (ad 0))]) rfl (pc2 := 33) rfl ?_
  refine x_sub [2, 1, 0] (lv2 := [(0, .ref (ad 0)), (1, .int (1 : Int32)), (2, .int (0 : Int32))]) rfl ?_
  exact J33 FU _ _ _ h
set_option maxRecDepth 100000 in
set_option maxHeartbeats 4000000 in
theorem c_X6_bestFigure (l : Launch) (D : va_G) (A : Nat → Prop) (ad : Nat → Nat) (cI cZ : ClassId) (u : Mem) (x1 : Int32) : Cti l yX6_bestFigure wsX6_bestFigure { frames := 2, cells := 0, slots := 0, locals := 43 } D A (MW ad cI cZ) [(cI, .int), (cZ, .boolean)] [.ref (ad 0), .int x1] u (e_X6_bestFigure u x1) := by
  intro r ur h
  refine Met.ofW (cc := cX6_bestFigure) (maxL := 2) (ret := (some .int)) (by decide) rfl ?_
  intro p e s m args below meth c s₁ B hml hv
  obtain ⟨hav, hP, hK, hD⟩ := hv
  have C : Cx p m c cX6_bestFigure 2 s args wsX6_bestFigure RX6 D [(cI, .int), (cZ, .boolean)] := ⟨⟨B.exec, B.bytes, hml, findClass_of_methodNamed B.named, atoms_spec (ws := wsX6_bestFigure) B.pre⟩, hK⟩
  have hr := B.returns
  have hlocks := B.notSynchronized
  have hiX6 : ∀ w ∈ wsX60, w ∈ wsX6_bestFigure := by decide +kernel
  have f153 : Cond.fieldLink RX6 153 "PanelPagesModel" "bestNumber" "I" ∈ wsX6_bestFigure := by decide +kernel
  have f29 : Cond.fieldLink RX6 29 "PanelPagesModel" "figure" "[I" ∈ wsX6_bestFigure := by decide +kernel
  refine x_entry2 (lv := [(0, .ref (ad 0)), (1, .int x1)]) hav hP hD (Nat.le_of_ble_eq_true rfl) rfl ?_
  unfold e_X6_bestFigure at h
  refine x_aload_n C dX6_bestFigure_0 0 rfl (pc2 := 1) rfl ?_
  refine x_get C hiX6 0 (mc_0 ad cI cZ _) rfl 22 (by decide) f153 (v := .int (u 0 22)) rfl dX6_bestFigure_1 (pc2 := 4) rfl ?_
  refine x_if_lt C h dX6_bestFigure_4 (tgt := 15) (by decide) (pc2 := 7) rfl (fun h => ?_) (fun h => ?_)
  · refine x_bipush (v := (-6 : Int32)) C dX6_bestFigure_15 (by decide) (pc2 := 17) rfl ?_
    exact x_iret C hr hlocks h dX6_bestFigure_17
  · refine x_iload_n C dX6_bestFigure_7 1 rfl (pc2 := 8) rfl ?_
    refine x_aload_n C dX6_bestFigure_8 0 rfl (pc2 := 9) rfl ?_
    refine x_callVi (As := []) (rest := [.int x1]) (index := 47) (n := 0) C h (c_X6_many l D A ad cI cZ _ ) gX6_bestFigure_X6_many rfl (by decide +kernel) rfl rfl ⟨Nat.le_of_ble_eq_true rfl, Nat.le_of_ble_eq_true rfl⟩ (ci := 6) rfl rfl (mc_0 ad cI cZ _) (MW_D ad cI cZ _) rfl rfl (Nat.le_of_ble_eq_true rfl) dX6_bestFigure_9 (pc2 := 12) rfl (fun r1 u1 h => ?_)
    refine x_icmp_lt C h dX6_bestFigure_12 (tgt := 18) (by decide) (pc2 := 15) rfl (fun h => ?_) (fun h => ?_)
    · refine x_aload_n C dX6_bestFigure_18 0 rfl (pc2 := 19) rfl ?_
      refine x_aload_n C dX6_bestFigure_19 0 rfl (pc2 := 20) rfl ?_
      refine x_get C hiX6 0 (mc_0 ad cI cZ _) rfl 22 (by decide) f153 (v := .int (u1 0 22)) rfl dX6_bestFigure_20 (pc2 := 23) rfl ?_
      refine x_callVv (As := [.int (u1 0 22)]) (rest := []) (index := 147) (n := 1) C h (c_X6_layNumber l D A ad cI cZ _ _) gX6_bestFigure_X6_layNumber rfl (by decide +kernel) rfl rfl ⟨Nat.le_of_ble_eq_true rfl, Nat.le_of_ble_eq_true rfl⟩ (ci := 6) rfl rfl (mc_0 ad cI cZ _) (MW_D ad cI cZ _) rfl rfl (Nat.le_of_ble_eq_true rfl) dX6_bestFigure_23 (pc2 := 26) rfl (fun u2 h => ?_)
      refine x_aload_n C dX6_bestFigure_26 0 rfl (pc2 := 27) rfl ?_
      refine x_get C hiX6 0 (mc_0 ad cI cZ _) rfl 7 (by decide) f29 (v := .ref (ad 7)) rfl dX6_bestFigure_27 (pc2 := 30) rfl ?_
      refine x_iload_n C dX6_bestFigure_30 1 rfl (pc2 := 31) rfl ?_
      refine x_iald C h 7 0 (mc_7 ad cI cZ _) rfl dX6_bestFigure_31 (pc2 := 32) rfl (fun h => ?_)
      exact x_iret C hr hlocks h dX6_bestFigure_32
    · refine x_bipush (v := (-6 : Int32)) C dX6_bestFigure_15 (by decide) (pc2 := 17) rfl ?_
      exact x_iret C hr hlocks h dX6_bestFigure_17
set_option maxRecDepth 100000 in
set_option maxHeartbeats 4000000 in
theorem c_X6_best (l : Launch) (D : va_G) (A : Nat → Prop) (ad : Nat → Nat) (cI cZ : ClassId) (u : Mem) (x1 : Int32) : Cti l yX6_best wsX6_best { frames := 8, cells := 0, slots := 0, locals := 176 } D A (MW ad cI cZ) [(cI, .int), (cZ, .boolean)] [.ref (ad 0), .int x1] u (e_X6_best u x1) := by
  intro r ur h
  refine Met.ofW (cc := cX6_best) (maxL := 2) (ret := (some .int)) (by decide) rfl ?_
  intro p e s m args below meth c s₁ B hml hv
  obtain ⟨hav, hP, hK, hD⟩ := hv
  have C : Cx p m c cX6_best 2 s args wsX6_best RX6 D [(cI, .int), (cZ, .boolean)] := ⟨⟨B.exec, B.bytes, hml, findClass_of_methodNamed B.named, atoms_spec (ws := wsX6_best) B.pre⟩, hK⟩
  have hr := B.returns
  have hlocks := B.notSynchronized
  have hiX6 : ∀ w ∈ wsX60, w ∈ wsX6_best := by decide +kernel
  have f150 : Cond.fieldLink RX6 150 "PanelPagesModel" "goes" "I" ∈ wsX6_best := by decide +kernel
  have f156 : Cond.fieldLink RX6 156 "PanelPagesModel" "fewest" "I" ∈ wsX6_best := by decide +kernel
  have f159 : Cond.fieldLink RX6 159 "PanelPagesModel" "asFew" "I" ∈ wsX6_best := by decide +kernel
  have f162 : Cond.fieldLink RX6 162 "PanelPagesModel" "leastRagged" "I" ∈ wsX6_best := by decide +kernel
  refine x_entry2 (lv := [(0, .ref (ad 0)), (1, .int x1)]) hav hP hD (Nat.le_of_ble_eq_true rfl) rfl ?_
  unfold e_X6_best at h
  have J23 : ∀ (u : Mem) (x1 : Int32), e_X6_best_J23 u x1 = some (r, ur) → Wx p l e (headSpec wsX6_best { frames := 8, cells := 0, slots := 0, locals := 176 }).room s m args below meth c (MQ below (Qix D A (MW ad cI cZ) r ur) args s 0 0 A) D A 2 (MW ad cI cZ) u 23 [(0, .ref (ad 0)), (1, .int x1)] [] := by
    intro u x1 h
    unfold e_X6_best_J23 at h
    refine x_aload_n C dX6_best_23 0 rfl (pc2 := 24) rfl ?_
    refine x_callVv (As := []) (rest := []) (index := 168) (n := 0) C h (c_X6_tryAll l D A ad cI cZ _ ) gX6_best_X6_tryAll rfl (by decide +kernel) rfl rfl ⟨Nat.le_of_ble_eq_true rfl, Nat.le_of_ble_eq_true rfl⟩ (ci := 6) rfl rfl (mc_0 ad cI cZ _) (MW_D ad cI cZ _) rfl rfl (Nat.le_of_ble_eq_true rfl) dX6_best_24 (pc2 := 27) rfl (fun u3 h => ?_)
    refine x_iload_n C dX6_best_27 1 rfl (pc2 := 28) rfl ?_
    by_cases q0 : x1 = (0 : Int32)
    · replace h := (if_pos q0).symm.trans h
      refine x_tabI C (0 : Int32) q0 dX6_best_28 (by decide) (by decide) (off := 32) (by decide) (tgt := 60) (by decide) ?_
      refine x_aload_n C dX6_best_60 0 rfl (pc2 := 61) rfl ?_
      refine x_get C hiX6 0 (mc_0 ad cI cZ _) rfl 19 (by decide) f156 (v := .int (u3 0 19)) rfl dX6_best_61 (pc2 := 64) rfl ?_
      exact x_iret C hr hlocks h dX6_best_64
    replace h := (if_neg q0).symm.trans h
    by_cases q1 : x1 = (1 : Int32)
    · replace h := (if_pos q1).symm.trans h
      refine x_tabI C (1 : Int32) q1 dX6_best_28 (by decide) (by decide) (off := 37) (by decide) (tgt := 65) (by decide) ?_
      refine x_aload_n C dX6_best_65 0 rfl (pc2 := 66) rfl ?_
      refine x_get C hiX6 0 (mc_0 ad cI cZ _) rfl 21 (by decide) f162 (v := .int (u3 0 21)) rfl dX6_best_66 (pc2 := 69) rfl ?_
      exact x_iret C hr hlocks h dX6_best_69
    replace h := (if_neg q1).symm.trans h
    by_cases q2 : x1 = (2 : Int32)
    · replace h := (if_pos q2).symm.trans h
      refine x_tabI C (2 : Int32) q2 dX6_best_28 (by decide) (by decide) (off := 42) (by decide) (tgt := 70) (by decide) ?_
      refine x_aload_n C dX6_best_70 0 rfl (pc2 := 71) rfl ?_
      refine x_get C hiX6 0 (mc_0 ad cI cZ _) rfl 18 (by decide) f150 (v := .int (u3 0 18)) rfl dX6_best_71 (pc2 := 74) rfl ?_
      exact x_iret C hr hlocks h dX6_best_74
    replace h := (if_neg q2).symm.trans h
    by_cases q3 : x1 = (3 : Int32)
    · replace h := (if_pos q3).symm.trans h
      refine x_tabI C (3 : Int32) q3 dX6_best_28 (by decide) (by decide) (off := 47) (by decide) (tgt := 75) (by decide) ?_
      refine x_aload_n C dX6_best_75 0 rfl (pc2 := 76) rfl ?_
      refine x_get C hiX6 0 (mc_0 ad cI cZ _) rfl 20 (by decide) f159 (v := .int (u3 0 20)) rfl dX6_best_76 (pc2 := 79) rfl ?_
      exact x_iret C hr hlocks h dX6_best_79
    replace h := (if_neg q3).symm.trans h
    have n0 := tab_ne q0
    have n1 := tab_ne q1
    have n2 := tab_ne q2
    have n3 := tab_ne q3
    refine x_tabO C dX6_best_28 (by rw [show ((0 : Int32)).toInt = 0 from rfl] at n0; rw [show ((1 : Int32)).toInt = 1 from rfl] at n1; rw [show ((2 : Int32)).toInt = 2 from rfl] at n2; rw [show ((3 : Int32)).toInt = 3 from rfl] at n3; omega) (tgt := 80) (by decide) ?_
    refine x_aload_n C dX6_best_80 0 rfl (pc2 := 81) rfl ?_
    refine x_iload_n C dX6_best_81 1 rfl (pc2 := 82) rfl ?_
    refine x_bipush (v := (10 : Int32)) C dX6_best_82 (by decide) (pc2 := 84) rfl ?_
    refine x_isub C dX6_best_84 (pc2 := 85) rfl ?_
    refine x_callVi (As := [.int (x1 - (10 : Int32))]) (rest := []) (index := 171) (n := 1) C h (c_X6_bestFigure l D A ad cI cZ _ _) gX6_best_X6_bestFigure rfl (by decide +kernel) rfl rfl ⟨Nat.le_of_ble_eq_true rfl, Nat.le_of_ble_eq_true rfl⟩ (ci := 6) rfl rfl (mc_0 ad cI cZ _) (MW_D ad cI cZ _) rfl rfl (Nat.le_of_ble_eq_true rfl) dX6_best_85 (pc2 := 88) rfl (fun r4 u4 h => ?_)
    exact x_iret C hr hlocks h dX6_best_88
  refine x_iload_n C dX6_best_0 1 rfl (pc2 := 1) rfl ?_
  refine x_iconst (v := (0 : Int32)) C dX6_best_1 (by decide) (pc2 := 2) rfl ?_
  refine x_iconst (v := (3 : Int32)) C dX6_best_2 (by decide) (pc2 := 3) rfl ?_
  refine x_callSi (As := [.int x1, .int (0 : Int32), .int (3 : Int32)]) (rest := []) (index := 51) (n := 3) C h (c_X6_in l D A ad cI cZ _ _ _ _) gX6_best_X6_in rfl (by decide +kernel) rfl rfl ⟨Nat.le_of_ble_eq_true rfl, Nat.le_of_ble_eq_true rfl⟩ (MW_D ad cI cZ _) rfl rfl (Nat.le_of_ble_eq_true rfl) dX6_best_3 (pc2 := 6) rfl (fun r1 u1 h => ?_)
  refine x_if_ne C h dX6_best_6 (tgt := 23) (by decide) (pc2 := 9) rfl (fun h => ?_) (fun h => ?_)
  · exact J23 _ _ h
  · refine x_iload_n C dX6_best_9 1 rfl (pc2 := 10) rfl ?_
    refine x_bipush (v := (10 : Int32)) C dX6_best_10 (by decide) (pc2 := 12) rfl ?_
    refine x_bipush (v := (18 : Int32)) C dX6_best_12 (by decide) (pc2 := 14) rfl ?_
    refine x_callSi (As := [.int x1, .int (10 : Int32), .int (18 : Int32)]) (rest := []) (index := 51) (n := 3) C h (c_X6_in l D A ad cI cZ _ _ _ _) gX6_best_X6_in rfl (by decide +kernel) rfl rfl ⟨Nat.le_of_ble_eq_true rfl, Nat.le_of_ble_eq_true rfl⟩ (MW_D ad cI cZ _) rfl rfl (Nat.le_of_ble_eq_true rfl) dX6_best_14 (pc2 := 17) rfl (fun r2 u2 h => ?_)
    refine x_if_ne C h dX6_best_17 (tgt := 23) (by decide) (pc2 := 20) rfl (fun h => ?_) (fun h => ?_)
    · exact J23 _ _ h
    · refine x_bipush (v := (-2 : Int32)) C dX6_best_20 (by decide) (pc2 := 22) rfl ?_
      exact x_iret C hr hlocks h dX6_best_22
set_option maxRecDepth 100000 in
set_option maxHeartbeats 4000000 in
theorem c_X6_lay (l : Launch) (D : va_G) (A : Nat → Prop) (ad : Nat → Nat) (cI cZ : ClassId) (u : Mem)  : Cti l yX6_lay wsX6_lay { frames := 8, cells := 0, slots := 0, locals := 176 } D A (MW ad cI cZ) [(cI, .int), (cZ, .boolean)] [.ref (ad 0)] u (e_X6_lay u ) := by
  intro r ur h
  refine Met.ofW (cc := cX6_lay) (maxL := 2) (ret := (some .int)) (by decide) rfl ?_
  intro p e s m args below meth c s₁ B hml hv
  obtain ⟨hav, hP, hK, hD⟩ := hv
  have C : Cx p m c cX6_lay 2 s args wsX6_lay RX6 D [(cI, .int), (cZ, .boolean)] := ⟨⟨B.exec, B.bytes, hml, findClass_of_methodNamed B.named, atoms_spec (ws := wsX6_lay) B.pre⟩, hK⟩
  have hr := B.returns
  have hlocks := B.notSynchronized
  have hiX6 : ∀ w ∈ wsX60, w ∈ wsX6_lay := by decide +kernel
  have f128 : Cond.fieldLink RX6 128 "PanelPagesModel" "said" "I" ∈ wsX6_lay := by decide +kernel
  have f153 : Cond.fieldLink RX6 153 "PanelPagesModel" "bestNumber" "I" ∈ wsX6_lay := by decide +kernel
  have f20 : Cond.fieldLink RX6 20 "PanelPagesModel" "pad" "[I" ∈ wsX6_lay := by decide +kernel
  have f29 : Cond.fieldLink RX6 29 "PanelPagesModel" "figure" "[I" ∈ wsX6_lay := by decide +kernel
  refine x_entry2 (lv := [(0, .ref (ad 0))]) hav hP hD (Nat.le_of_ble_eq_true rfl) rfl ?_
  unfold e_X6_lay at h
  have J32 : ∀ (f : Nat) (u : Mem) (x1 : Int32), e_X6_lay_L32 f u x1 = some (r, ur) → Wx p l e (headSpec wsX6_lay { frames := 8, cells := 0, slots := 0, locals := 176 }).room s m args below meth c (MQ below (Qix D A (MW ad cI cZ) r ur) args s 0 0 A) D A 2 (MW ad cI cZ) u 32 [(0, .ref (ad 0)), (1, .int x1)] [] := by
    intro f
    induction f with
    | zero => intro u x1 h; cases h
    | succ f ih =>
      intro u x1 h
      replace h : e_X6_lay_L32_b (e_X6_lay_L32 f) u x1 = some (r, ur) := h
      unfold e_X6_lay_L32_b at h
      refine x_iload_n C dX6_lay_32 1 rfl (pc2 := 33) rfl ?_
      refine x_aload_n C dX6_lay_33 0 rfl (pc2 := 34) rfl ?_
      refine x_get C hiX6 0 (mc_0 ad cI cZ _) rfl 4 (by decide) f128 (v := .int (u 0 4)) rfl dX6_lay_34 (pc2 := 37) rfl ?_
      refine x_icmp_ge C h dX6_lay_37 (tgt := 61) (by decide) (pc2 := 40) rfl (fun h => ?_) (fun h => ?_)
      · refine x_aload_n C dX6_lay_61 0 rfl (pc2 := 62) rfl ?_
        refine x_get C hiX6 0 (mc_0 ad cI cZ _) rfl 4 (by decide) f128 (v := .int (u 0 4)) rfl dX6_lay_62 (pc2 := 65) rfl ?_
        exact x_iret C hr hlocks h dX6_lay_65
      · refine x_aload_n C dX6_lay_40 0 rfl (pc2 := 41) rfl ?_
        refine x_get C hiX6 0 (mc_0 ad cI cZ _) rfl 3 (by decide) f20 (v := .ref (ad 4)) rfl dX6_lay_41 (pc2 := 44) rfl ?_
        refine x_iload_n C dX6_lay_44 1 rfl (pc2 := 45) rfl ?_
        refine x_bipush (v := (48 : Int32)) C dX6_lay_45 (by decide) (pc2 := 47) rfl ?_
        refine x_aload_n C dX6_lay_47 0 rfl (pc2 := 48) rfl ?_
        refine x_get C hiX6 0 (mc_0 ad cI cZ _) rfl 7 (by decide) f29 (v := .ref (ad 7)) rfl dX6_lay_48 (pc2 := 51) rfl ?_
        refine x_iload_n C dX6_lay_51 1 rfl (pc2 := 52) rfl ?_
        refine x_iald C h 7 0 (mc_7 ad cI cZ _) rfl dX6_lay_52 (pc2 := 53) rfl (fun h => ?_)
        refine x_iadd C dX6_lay_53 (pc2 := 54) rfl ?_
        refine x_iast C h 4 0 (mc_4 ad cI cZ _) rfl (u2 := (put u 4 (x1).toNatClampNeg ((48 : Int32) + (u 7 (x1).toNatClampNeg)))) (ms_4 ad cI cZ _ _ _) dX6_lay_54 (pc2 := 55) rfl (fun h => ?_)
        refine x_iinc C dX6_lay_55 1 rfl (1 : Int32) (by decide) rfl (by decide) (lv2 := [(1, .int (x1 + (1 : Int32))), (0, .ref (ad 0))]) rfl (pc2 := 58) rfl ?_
        refine x_goto C dX6_lay_58 (pc2 := 32) (by decide) ?_
        refine x_sub [1, 0] (lv2 := [(0, .ref (ad 0)), (1, .int (x1 + (1 : Int32)))]) rfl ?_
        exact ih _ _ h
  refine x_aload_n C dX6_lay_0 0 rfl (pc2 := 1) rfl ?_
  refine x_callVv (As := []) (rest := []) (index := 168) (n := 0) C h (c_X6_tryAll l D A ad cI cZ _ ) gX6_lay_X6_tryAll rfl (by decide +kernel) rfl rfl ⟨Nat.le_of_ble_eq_true rfl, Nat.le_of_ble_eq_true rfl⟩ (ci := 6) rfl rfl (mc_0 ad cI cZ _) (MW_D ad cI cZ _) rfl rfl (Nat.le_of_ble_eq_true rfl) dX6_lay_1 (pc2 := 4) rfl (fun u1 h => ?_)
  refine x_aload_n C dX6_lay_4 0 rfl (pc2 := 5) rfl ?_
  refine x_get C hiX6 0 (mc_0 ad cI cZ _) rfl 22 (by decide) f153 (v := .int (u1 0 22)) rfl dX6_lay_5 (pc2 := 8) rfl ?_
  refine x_if_ge C h dX6_lay_8 (tgt := 14) (by decide) (pc2 := 11) rfl (fun h => ?_) (fun h => ?_)
  · refine x_aload_n C dX6_lay_14 0 rfl (pc2 := 15) rfl ?_
    refine x_aload_n C dX6_lay_15 0 rfl (pc2 := 16) rfl ?_
    refine x_get C hiX6 0 (mc_0 ad cI cZ _) rfl 22 (by decide) f153 (v := .int (u1 0 22)) rfl dX6_lay_16 (pc2 := 19) rfl ?_
    refine x_callVv (As := [.int (u1 0 22)]) (rest := []) (index := 147) (n := 1) C h (c_X6_layNumber l D A ad cI cZ _ _) gX6_lay_X6_layNumber rfl (by decide +kernel) rfl rfl ⟨Nat.le_of_ble_eq_true rfl, Nat.le_of_ble_eq_true rfl⟩ (ci := 6) rfl rfl (mc_0 ad cI cZ _) (MW_D ad cI cZ _) rfl rfl (Nat.le_of_ble_eq_true rfl) dX6_lay_19 (pc2 := 22) rfl (fun u2 h => ?_)
    refine x_aload_n C dX6_lay_22 0 rfl (pc2 := 23) rfl ?_
    refine x_aload_n C dX6_lay_23 0 rfl (pc2 := 24) rfl ?_
    refine x_callVi (As := []) (rest := [.ref (ad 0)]) (index := 47) (n := 0) C h (c_X6_many l D A ad cI cZ _ ) gX6_lay_X6_many rfl (by decide +kernel) rfl rfl ⟨Nat.le_of_ble_eq_true rfl, Nat.le_of_ble_eq_true rfl⟩ (ci := 6) rfl rfl (mc_0 ad cI cZ _) (MW_D ad cI cZ _) rfl rfl (Nat.le_of_ble_eq_true rfl) dX6_lay_24 (pc2 := 27) rfl (fun r3 u3 h => ?_)
    refine x_put C hiX6 tyX6 tyX6_ok nmX6 0 (mc_0 ad cI cZ _) rfl 4 (by decide) f128 rfl rfl (Nat.le_of_ble_eq_true rfl) (u2 := (put u3 0 4 r3)) (ms_0_4 ad cI cZ _ _) dX6_lay_27 (pc2 := 30) rfl ?_
    refine x_iconst (v := (0 : Int32)) C dX6_lay_30 (by decide) (pc2 := 31) rfl ?_
    refine x_istore_n C dX6_lay_31 (by decide) (lv2 := [(1, .int (0 : Int32)), (0, .ref (ad 0))]) rfl (pc2 := 32) rfl ?_
    refine x_sub [1, 0] (lv2 := [(0, .ref (ad 0)), (1, .int (0 : Int32))]) rfl ?_
    exact J32 FU _ _ h
  · refine x_bipush (v := (-5 : Int32)) C dX6_lay_11 (by decide) (pc2 := 13) rfl ?_
    exact x_iret C hr hlocks h dX6_lay_13
set_option maxRecDepth 100000 in
set_option maxHeartbeats 4000000 in
theorem c_X6_talk (l : Launch) (D : va_G) (A : Nat → Prop) (ad : Nat → Nat) (cI cZ : ClassId) (u : Mem) (x1 : Int32) : Cti l yX6_talk wsX6_talk { frames := 2, cells := 0, slots := 0, locals := 45 } D A (MW ad cI cZ) [(cI, .int), (cZ, .boolean)] [.ref (ad 0), .int x1] u (e_X6_talk u x1) := by
  intro r ur h
  refine Met.ofW (cc := cX6_talk) (maxL := 3) (ret := (some .int)) (by decide) rfl ?_
  intro p e s m args below meth c s₁ B hml hv
  obtain ⟨hav, hP, hK, hD⟩ := hv
  have C : Cx p m c cX6_talk 3 s args wsX6_talk RX6 D [(cI, .int), (cZ, .boolean)] := ⟨⟨B.exec, B.bytes, hml, findClass_of_methodNamed B.named, atoms_spec (ws := wsX6_talk) B.pre⟩, hK⟩
  have hr := B.returns
  have hlocks := B.notSynchronized
  have hiX6 : ∀ w ∈ wsX60, w ∈ wsX6_talk := by decide +kernel
  have f128 : Cond.fieldLink RX6 128 "PanelPagesModel" "said" "I" ∈ wsX6_talk := by decide +kernel
  have f20 : Cond.fieldLink RX6 20 "PanelPagesModel" "pad" "[I" ∈ wsX6_talk := by decide +kernel
  have f7 : Cond.fieldLink RX6 7 "PanelPagesModel" "state" "[I" ∈ wsX6_talk := by decide +kernel
  refine x_entry2 (lv := [(0, .ref (ad 0)), (1, .int x1)]) hav hP hD (Nat.le_of_ble_eq_true rfl) rfl ?_
  unfold e_X6_talk at h
  have J31 : ∀ (f : Nat) (u : Mem) (x1 : Int32) (x2 : Int32), e_X6_talk_L31 f u x1 x2 = some (r, ur) → Wx p l e (headSpec wsX6_talk { frames := 2, cells := 0, slots := 0, locals := 45 }).room s m args below meth c (MQ below (Qix D A (MW ad cI cZ) r ur) args s 0 0 A) D A 3 (MW ad cI cZ) u 31 [(0, .ref (ad 0)), (1, .int x1), (2, .int x2)] [] := by
    intro f
    induction f with
    | zero => intro u x1 x2 h; cases h
    | succ f ih =>
      intro u x1 x2 h
      replace h : e_X6_talk_L31_b (e_X6_talk_L31 f) u x1 x2 = some (r, ur) := h
      unfold e_X6_talk_L31_b at h
      refine x_iload_n C dX6_talk_31 2 rfl (pc2 := 32) rfl ?_
      refine x_aload_n C dX6_talk_32 0 rfl (pc2 := 33) rfl ?_
      refine x_get C hiX6 0 (mc_0 ad cI cZ _) rfl 4 (by decide) f128 (v := .int (u 0 4)) rfl dX6_talk_33 (pc2 := 36) rfl ?_
      refine x_icmp_ge C h dX6_talk_36 (tgt := 67) (by decide) (pc2 := 39) rfl (fun h => ?_) (fun h => ?_)
      · refine x_aload_n C dX6_talk_67 0 rfl (pc2 := 68) rfl ?_
        refine x_get C hiX6 0 (mc_0 ad cI cZ _) rfl 0 (by decide) f7 (v := .ref (ad 1)) rfl dX6_talk_68 (pc2 := 71) rfl ?_
        refine x_bipush (v := (27 : Int32)) C dX6_talk_71 (by decide) (pc2 := 73) rfl ?_
        refine x_iload_n C dX6_talk_73 1 rfl (pc2 := 74) rfl ?_
        refine x_iadd C dX6_talk_74 (pc2 := 75) rfl ?_
        refine x_aload_n C dX6_talk_75 0 rfl (pc2 := 76) rfl ?_
        refine x_get C hiX6 0 (mc_0 ad cI cZ _) rfl 4 (by decide) f128 (v := .int (u 0 4)) rfl dX6_talk_76 (pc2 := 79) rfl ?_
        refine x_iast C h 1 0 (mc_1 ad cI cZ _) rfl (u2 := (put u 1 (((27 : Int32) + x1)).toNatClampNeg (u 0 4))) (ms_1 ad cI cZ _ _ _) dX6_talk_79 (pc2 := 80) rfl (fun h => ?_)
        refine x_aload_n C dX6_talk_80 0 rfl (pc2 := 81) rfl ?_
        refine x_iconst (v := (0 : Int32)) C dX6_talk_81 (by decide) (pc2 := 82) rfl ?_
        refine x_put C hiX6 tyX6 tyX6_ok nmX6 0 (mc_0 ad cI cZ _) rfl 4 (by decide) f128 rfl rfl (Nat.le_of_ble_eq_true rfl) (u2 := (put (put u 1 (((27 : Int32) + x1)).toNatClampNeg (u 0 4)) 0 4 (0 : Int32))) (ms_0_4 ad cI cZ _ _) dX6_talk_82 (pc2 := 85) rfl ?_
        refine x_aload_n C dX6_talk_85 0 rfl (pc2 := 86) rfl ?_
        refine x_get C hiX6 0 (mc_0 ad cI cZ _) rfl 0 (by decide) f7 (v := .ref (ad 1)) rfl dX6_talk_86 (pc2 := 89) rfl ?_
        refine x_bipush (v := (27 : Int32)) C dX6_talk_89 (by decide) (pc2 := 91) rfl ?_
        refine x_iload_n C dX6_talk_91 1 rfl (pc2 := 92) rfl ?_
        refine x_iadd C dX6_talk_92 (pc2 := 93) rfl ?_
        refine x_iald C h 1 0 (mc_1 ad cI cZ _) rfl dX6_talk_93 (pc2 := 94) rfl (fun h => ?_)
        refine x_tope (y := ((put u 1 (((27 : Int32) + x1)).toNatClampNeg (u 0 4)) 1 (((27 : Int32) + x1)).toNatClampNeg)) rfl ?_
        exact x_iret C hr hlocks h dX6_talk_94
      · refine x_aload_n C dX6_talk_39 0 rfl (pc2 := 40) rfl ?_
        refine x_get C hiX6 0 (mc_0 ad cI cZ _) rfl 0 (by decide) f7 (v := .ref (ad 1)) rfl dX6_talk_40 (pc2 := 43) rfl ?_
        refine x_bipush (v := (36 : Int32)) C dX6_talk_43 (by decide) (pc2 := 45) rfl ?_
        refine x_iconst (v := (4 : Int32)) C dX6_talk_45 (by decide) (pc2 := 46) rfl ?_
        refine x_iload_n C dX6_talk_46 1 rfl (pc2 := 47) rfl ?_
        refine x_imul C dX6_talk_47 (pc2 := 48) rfl ?_
        refine x_iadd C dX6_talk_48 (pc2 := 49) rfl ?_
        refine x_iload_n C dX6_talk_49 2 rfl (pc2 := 50) rfl ?_
        refine x_iadd C dX6_talk_50 (pc2 := 51) rfl ?_
        refine x_aload_n C dX6_talk_51 0 rfl (pc2 := 52) rfl ?_
        refine x_get C hiX6 0 (mc_0 ad cI cZ _) rfl 3 (by decide) f20 (v := .ref (ad 4)) rfl dX6_talk_52 (pc2 := 55) rfl ?_
        refine x_iload_n C dX6_talk_55 2 rfl (pc2 := 56) rfl ?_
        refine x_iald C h 4 0 (mc_4 ad cI cZ _) rfl dX6_talk_56 (pc2 := 57) rfl (fun h => ?_)
        refine x_bipush (v := (48 : Int32)) C dX6_talk_57 (by decide) (pc2 := 59) rfl ?_
        refine x_isub C dX6_talk_59 (pc2 := 60) rfl ?_
        refine x_iast C h 1 0 (mc_1 ad cI cZ _) rfl (u2 := (put u 1 ((((36 : Int32) + ((4 : Int32) * x1)) + x2)).toNatClampNeg ((u 4 (x2).toNatClampNeg) - (48 : Int32)))) (ms_1 ad cI cZ _ _ _) dX6_talk_60 (pc2 := 61) rfl (fun h => ?_)
        refine x_iinc C dX6_talk_61 2 rfl (1 : Int32) (by decide) rfl (by decide) (lv2 := [(2, .int (x2 + (1 : Int32))), (0, .ref (ad 0)), (1, .int x1)]) rfl (pc2 := 64) rfl ?_
        refine x_goto C dX6_talk_64 (pc2 := 31) (by decide) ?_
        refine x_sub [1, 2, 0] (lv2 := [(0, .ref (ad 0)), (1, .int x1), (2, .int (x2 + (1 : Int32)))]) rfl ?_
        exact ih _ _ _ h
  refine x_aload_n C dX6_talk_0 0 rfl (pc2 := 1) rfl ?_
  refine x_iload_n C dX6_talk_1 1 rfl (pc2 := 2) rfl ?_
  refine x_callVi (As := [.int x1]) (rest := []) (index := 59) (n := 1) C h (c_X6_isPanel l D A ad cI cZ _ _) gX6_talk_X6_isPanel rfl (by decide +kernel) rfl rfl ⟨Nat.le_of_ble_eq_true rfl, Nat.le_of_ble_eq_true rfl⟩ (ci := 6) rfl rfl (mc_0 ad cI cZ _) (MW_D ad cI cZ _) rfl rfl (Nat.le_of_ble_eq_true rfl) dX6_talk_2 (pc2 := 5) rfl (fun r1 u1 h => ?_)
  refine x_if_ne C h dX6_talk_5 (tgt := 10) (by decide) (pc2 := 8) rfl (fun h => ?_) (fun h => ?_)
  · refine x_aload_n C dX6_talk_10 0 rfl (pc2 := 11) rfl ?_
    refine x_get C hiX6 0 (mc_0 ad cI cZ _) rfl 4 (by decide) f128 (v := .int (u1 0 4)) rfl dX6_talk_11 (pc2 := 14) rfl ?_
    refine x_iconst (v := (4 : Int32)) C dX6_talk_14 (by decide) (pc2 := 15) rfl ?_
    refine x_icmp_gt C h dX6_talk_15 (tgt := 26) (by decide) (pc2 := 18) rfl (fun h => ?_) (fun h => ?_)
    · refine x_bipush (v := (-7 : Int32)) C dX6_talk_26 (by decide) (pc2 := 28) rfl ?_
      exact x_iret C hr hlocks h dX6_talk_28
    · refine x_aload_n C dX6_talk_18 0 rfl (pc2 := 19) rfl ?_
      refine x_iconst (v := (3 : Int32)) C dX6_talk_19 (by decide) (pc2 := 20) rfl ?_
      refine x_callVi (As := [.int (3 : Int32)]) (rest := []) (index := 131) (n := 1) C h (c_X6_hasFigures l D A ad cI cZ _ _) gX6_talk_X6_hasFigures rfl (by decide +kernel) rfl rfl ⟨Nat.le_of_ble_eq_true rfl, Nat.le_of_ble_eq_true rfl⟩ (ci := 6) rfl rfl (mc_0 ad cI cZ _) (MW_D ad cI cZ _) rfl rfl (Nat.le_of_ble_eq_true rfl) dX6_talk_20 (pc2 := 23) rfl (fun r2 u2 h => ?_)
      refine x_if_ne C h dX6_talk_23 (tgt := 29) (by decide) (pc2 := 26) rfl (fun h => ?_) (fun h => ?_)
      · refine x_iconst (v := (0 : Int32)) C dX6_talk_29 (by decide) (pc2 := 30) rfl ?_
        refine x_istore_n C dX6_talk_30 (by decide) (lv2 := [(2, .int (0 : Int32)), (0, .ref (ad 0)), (1, .int x1)]) rfl (pc2 := 31) rfl ?_
        refine x_sub [1, 2, 0] (lv2 := [(0, .ref (ad 0)), (1, .int x1), (2, .int (0 : Int32))]) rfl ?_
        exact J31 FU _ _ _ h
      · refine x_bipush (v := (-7 : Int32)) C dX6_talk_26 (by decide) (pc2 := 28) rfl ?_
        exact x_iret C hr hlocks h dX6_talk_28
  · refine x_iconst (v := (-1 : Int32)) C dX6_talk_8 (by decide) (pc2 := 9) rfl ?_
    exact x_iret C hr hlocks h dX6_talk_9
set_option maxRecDepth 100000 in
set_option maxHeartbeats 4000000 in
theorem c_X6_speakerAt (l : Launch) (D : va_G) (A : Nat → Prop) (ad : Nat → Nat) (cI cZ : ClassId) (u : Mem) (x1 : Int32) (x2 : Int32) : Cti l yX6_speakerAt wsX6_speakerAt { frames := 0, cells := 0, slots := 0, locals := 0 } D A (MW ad cI cZ) [(cI, .int), (cZ, .boolean)] [.ref (ad 0), .int x1, .int x2] u (e_X6_speakerAt u x1 x2) := by
  intro r ur h
  refine Met.ofW (cc := cX6_speakerAt) (maxL := 3) (ret := (some .int)) (by decide) rfl ?_
  intro p e s m args below meth c s₁ B hml hv
  obtain ⟨hav, hP, hK, hD⟩ := hv
  have C : Cx p m c cX6_speakerAt 3 s args wsX6_speakerAt RX6 D [(cI, .int), (cZ, .boolean)] := ⟨⟨B.exec, B.bytes, hml, findClass_of_methodNamed B.named, atoms_spec (ws := wsX6_speakerAt) B.pre⟩, hK⟩
  have hr := B.returns
  have hlocks := B.notSynchronized
  have hiX6 : ∀ w ∈ wsX60, w ∈ wsX6_speakerAt := by decide +kernel
  have f7 : Cond.fieldLink RX6 7 "PanelPagesModel" "state" "[I" ∈ wsX6_speakerAt := by decide +kernel
  refine x_entry2 (lv := [(0, .ref (ad 0)), (1, .int x1), (2, .int x2)]) hav hP hD (Nat.le_of_ble_eq_true rfl) rfl ?_
  unfold e_X6_speakerAt at h
  refine x_aload_n C dX6_speakerAt_0 0 rfl (pc2 := 1) rfl ?_
  refine x_get C hiX6 0 (mc_0 ad cI cZ _) rfl 0 (by decide) f7 (v := .ref (ad 1)) rfl dX6_speakerAt_1 (pc2 := 4) rfl ?_
  refine x_bipush (v := (36 : Int32)) C dX6_speakerAt_4 (by decide) (pc2 := 6) rfl ?_
  refine x_iconst (v := (4 : Int32)) C dX6_speakerAt_6 (by decide) (pc2 := 7) rfl ?_
  refine x_iload_n C dX6_speakerAt_7 1 rfl (pc2 := 8) rfl ?_
  refine x_imul C dX6_speakerAt_8 (pc2 := 9) rfl ?_
  refine x_iadd C dX6_speakerAt_9 (pc2 := 10) rfl ?_
  refine x_iload_n C dX6_speakerAt_10 2 rfl (pc2 := 11) rfl ?_
  refine x_iadd C dX6_speakerAt_11 (pc2 := 12) rfl ?_
  refine x_iald C h 1 0 (mc_1 ad cI cZ _) rfl dX6_speakerAt_12 (pc2 := 13) rfl (fun h => ?_)
  exact x_iret C hr hlocks h dX6_speakerAt_13
set_option maxRecDepth 100000 in
set_option maxHeartbeats 4000000 in
theorem c_X6_speaker (l : Launch) (D : va_G) (A : Nat → Prop) (ad : Nat → Nat) (cI cZ : ClassId) (u : Mem) (x1 : Int32) (x2 : Int32) : Cti l yX6_speaker wsX6_speaker { frames := 2, cells := 0, slots := 0, locals := 43 } D A (MW ad cI cZ) [(cI, .int), (cZ, .boolean)] [.ref (ad 0), .int x1, .int x2] u (e_X6_speaker u x1 x2) := by
  intro r ur h
  refine Met.ofW (cc := cX6_speaker) (maxL := 3) (ret := (some .int)) (by decide) rfl ?_
  intro p e s m args below meth c s₁ B hml hv
  obtain ⟨hav, hP, hK, hD⟩ := hv
  have C : Cx p m c cX6_speaker 3 s args wsX6_speaker RX6 D [(cI, .int), (cZ, .boolean)] := ⟨⟨B.exec, B.bytes, hml, findClass_of_methodNamed B.named, atoms_spec (ws := wsX6_speaker) B.pre⟩, hK⟩
  have hr := B.returns
  have hlocks := B.notSynchronized
  have hiX6 : ∀ w ∈ wsX60, w ∈ wsX6_speaker := by decide +kernel
  have f7 : Cond.fieldLink RX6 7 "PanelPagesModel" "state" "[I" ∈ wsX6_speaker := by decide +kernel
  refine x_entry2 (lv := [(0, .ref (ad 0)), (1, .int x1), (2, .int x2)]) hav hP hD (Nat.le_of_ble_eq_true rfl) rfl ?_
  unfold e_X6_speaker at h
  refine x_aload_n C dX6_speaker_0 0 rfl (pc2 := 1) rfl ?_
  refine x_iload_n C dX6_speaker_1 1 rfl (pc2 := 2) rfl ?_
  refine x_callVi (As := [.int x1]) (rest := []) (index := 59) (n := 1) C h (c_X6_isPanel l D A ad cI cZ _ _) gX6_speaker_X6_isPanel rfl (by decide +kernel) rfl rfl ⟨Nat.le_of_ble_eq_true rfl, Nat.le_of_ble_eq_true rfl⟩ (ci := 6) rfl rfl (mc_0 ad cI cZ _) (MW_D ad cI cZ _) rfl rfl (Nat.le_of_ble_eq_true rfl) dX6_speaker_2 (pc2 := 5) rfl (fun r1 u1 h => ?_)
  refine x_if_ne C h dX6_speaker_5 (tgt := 10) (by decide) (pc2 := 8) rfl (fun h => ?_) (fun h => ?_)
  · refine x_iload_n C dX6_speaker_10 2 rfl (pc2 := 11) rfl ?_
    refine x_iconst (v := (0 : Int32)) C dX6_speaker_11 (by decide) (pc2 := 12) rfl ?_
    refine x_aload_n C dX6_speaker_12 0 rfl (pc2 := 13) rfl ?_
    refine x_get C hiX6 0 (mc_0 ad cI cZ _) rfl 0 (by decide) f7 (v := .ref (ad 1)) rfl dX6_speaker_13 (pc2 := 16) rfl ?_
    refine x_bipush (v := (27 : Int32)) C dX6_speaker_16 (by decide) (pc2 := 18) rfl ?_
    refine x_iload_n C dX6_speaker_18 1 rfl (pc2 := 19) rfl ?_
    refine x_iadd C dX6_speaker_19 (pc2 := 20) rfl ?_
    refine x_iald C h 1 0 (mc_1 ad cI cZ _) rfl dX6_speaker_20 (pc2 := 21) rfl (fun h => ?_)
    refine x_iconst (v := (1 : Int32)) C dX6_speaker_21 (by decide) (pc2 := 22) rfl ?_
    refine x_isub C dX6_speaker_22 (pc2 := 23) rfl ?_
    refine x_callSi (As := [.int x2, .int (0 : Int32), .int ((u1 1 (((27 : Int32) + x1)).toNatClampNeg) - (1 : Int32))]) (rest := []) (index := 51) (n := 3) C h (c_X6_in l D A ad cI cZ _ _ _ _) gX6_speaker_X6_in rfl (by decide +kernel) rfl rfl ⟨Nat.le_of_ble_eq_true rfl, Nat.le_of_ble_eq_true rfl⟩ (MW_D ad cI cZ _) rfl rfl (Nat.le_of_ble_eq_true rfl) dX6_speaker_23 (pc2 := 26) rfl (fun r2 u2 h => ?_)
    refine x_if_eq C h dX6_speaker_26 (tgt := 38) (by decide) (pc2 := 29) rfl (fun h => ?_) (fun h => ?_)
    · refine x_bipush (v := (-6 : Int32)) C dX6_speaker_38 (by decide) (pc2 := 40) rfl ?_
      exact x_iret C hr hlocks h dX6_speaker_40
    · refine x_aload_n C dX6_speaker_29 0 rfl (pc2 := 30) rfl ?_
      refine x_iload_n C dX6_speaker_30 1 rfl (pc2 := 31) rfl ?_
      refine x_iload_n C dX6_speaker_31 2 rfl (pc2 := 32) rfl ?_
      refine x_callVi (As := [.int x1, .int x2]) (rest := []) (index := 174) (n := 2) C h (c_X6_speakerAt l D A ad cI cZ _ _ _) gX6_speaker_X6_speakerAt rfl (by decide +kernel) rfl rfl ⟨Nat.le_of_ble_eq_true rfl, Nat.le_of_ble_eq_true rfl⟩ (ci := 6) rfl rfl (mc_0 ad cI cZ _) (MW_D ad cI cZ _) rfl rfl (Nat.le_of_ble_eq_true rfl) dX6_speaker_32 (pc2 := 35) rfl (fun r3 u3 h => ?_)
      refine x_goto C dX6_speaker_35 (pc2 := 40) (by decide) ?_
      exact x_iret C hr hlocks h dX6_speaker_40
  · refine x_iconst (v := (-1 : Int32)) C dX6_speaker_8 (by decide) (pc2 := 9) rfl ?_
    exact x_iret C hr hlocks h dX6_speaker_9
set_option maxRecDepth 100000 in
set_option maxHeartbeats 4000000 in
theorem c_X6_isBehind (l : Launch) (D : va_G) (A : Nat → Prop) (ad : Nat → Nat) (cI cZ : ClassId) (u : Mem) (x1 : Int32) : Cti l yX6_isBehind wsX6_isBehind { frames := 0, cells := 0, slots := 0, locals := 0 } D A (MW ad cI cZ) [(cI, .int), (cZ, .boolean)] [.ref (ad 0), .int x1] u (e_X6_isBehind u x1) := by
  intro r ur h
  refine Met.ofW (cc := cX6_isBehind) (maxL := 2) (ret := (some .boolean)) (by decide) rfl ?_
  intro p e s m args below meth c s₁ B hml hv
  obtain ⟨hav, hP, hK, hD⟩ := hv
  have C : Cx p m c cX6_isBehind 2 s args wsX6_isBehind RX6 D [(cI, .int), (cZ, .boolean)] := ⟨⟨B.exec, B.bytes, hml, findClass_of_methodNamed B.named, atoms_spec (ws := wsX6_isBehind) B.pre⟩, hK⟩
  have hr := B.returns
  have hlocks := B.notSynchronized
  have hiX6 : ∀ w ∈ wsX60, w ∈ wsX6_isBehind := by decide +kernel
  have f41 : Cond.fieldLink RX6 41 "PanelPagesModel" "row" "[I" ∈ wsX6_isBehind := by decide +kernel
  have f44 : Cond.fieldLink RX6 44 "PanelPagesModel" "column" "[I" ∈ wsX6_isBehind := by decide +kernel
  refine x_entry2 (lv := [(0, .ref (ad 0)), (1, .int x1)]) hav hP hD (Nat.le_of_ble_eq_true rfl) rfl ?_
  unfold e_X6_isBehind at h
  refine x_aload_n C dX6_isBehind_0 0 rfl (pc2 := 1) rfl ?_
  refine x_get C hiX6 0 (mc_0 ad cI cZ _) rfl 23 (by decide) f41 (v := .ref (ad 11)) rfl dX6_isBehind_1 (pc2 := 4) rfl ?_
  refine x_iload_n C dX6_isBehind_4 1 rfl (pc2 := 5) rfl ?_
  refine x_iald C h 11 0 (mc_11 ad cI cZ _) rfl dX6_isBehind_5 (pc2 := 6) rfl (fun h => ?_)
  refine x_aload_n C dX6_isBehind_6 0 rfl (pc2 := 7) rfl ?_
  refine x_get C hiX6 0 (mc_0 ad cI cZ _) rfl 23 (by decide) f41 (v := .ref (ad 11)) rfl dX6_isBehind_7 (pc2 := 10) rfl ?_
  refine x_iload_n C dX6_isBehind_10 1 rfl (pc2 := 11) rfl ?_
  refine x_iconst (v := (1 : Int32)) C dX6_isBehind_11 (by decide) (pc2 := 12) rfl ?_
  refine x_isub C dX6_isBehind_12 (pc2 := 13) rfl ?_
  refine x_iald C h 11 0 (mc_11 ad cI cZ _) rfl dX6_isBehind_13 (pc2 := 14) rfl (fun h => ?_)
  refine x_icmp_gt C h dX6_isBehind_14 (tgt := 51) (by decide) (pc2 := 17) rfl (fun h => ?_) (fun h => ?_)
  · refine x_iconst (v := (1 : Int32)) C dX6_isBehind_51 (by decide) (pc2 := 52) rfl ?_
    refine x_goto C dX6_isBehind_52 (pc2 := 56) (by decide) ?_
    exact x_zretL C hr hlocks h rfl dX6_isBehind_56
  · refine x_aload_n C dX6_isBehind_17 0 rfl (pc2 := 18) rfl ?_
    refine x_get C hiX6 0 (mc_0 ad cI cZ _) rfl 23 (by decide) f41 (v := .ref (ad 11)) rfl dX6_isBehind_18 (pc2 := 21) rfl ?_
    refine x_iload_n C dX6_isBehind_21 1 rfl (pc2 := 22) rfl ?_
    refine x_iald C h 11 0 (mc_11 ad cI cZ _) rfl dX6_isBehind_22 (pc2 := 23) rfl (fun h => ?_)
    refine x_aload_n C dX6_isBehind_23 0 rfl (pc2 := 24) rfl ?_
    refine x_get C hiX6 0 (mc_0 ad cI cZ _) rfl 23 (by decide) f41 (v := .ref (ad 11)) rfl dX6_isBehind_24 (pc2 := 27) rfl ?_
    refine x_iload_n C dX6_isBehind_27 1 rfl (pc2 := 28) rfl ?_
    refine x_iconst (v := (1 : Int32)) C dX6_isBehind_28 (by decide) (pc2 := 29) rfl ?_
    refine x_isub C dX6_isBehind_29 (pc2 := 30) rfl ?_
    refine x_iald C h 11 0 (mc_11 ad cI cZ _) rfl dX6_isBehind_30 (pc2 := 31) rfl (fun h => ?_)
    refine x_icmp_ne C h dX6_isBehind_31 (tgt := 55) (by decide) (pc2 := 34) rfl (fun h => ?_) (fun h => ?_)
    · refine x_iconst (v := (0 : Int32)) C dX6_isBehind_55 (by decide) (pc2 := 56) rfl ?_
      exact x_zretL C hr hlocks h rfl dX6_isBehind_56
    · refine x_aload_n C dX6_isBehind_34 0 rfl (pc2 := 35) rfl ?_
      refine x_get C hiX6 0 (mc_0 ad cI cZ _) rfl 24 (by decide) f44 (v := .ref (ad 12)) rfl dX6_isBehind_35 (pc2 := 38) rfl ?_
      refine x_iload_n C dX6_isBehind_38 1 rfl (pc2 := 39) rfl ?_
      refine x_iald C h 12 0 (mc_12 ad cI cZ _) rfl dX6_isBehind_39 (pc2 := 40) rfl (fun h => ?_)
      refine x_aload_n C dX6_isBehind_40 0 rfl (pc2 := 41) rfl ?_
      refine x_get C hiX6 0 (mc_0 ad cI cZ _) rfl 24 (by decide) f44 (v := .ref (ad 12)) rfl dX6_isBehind_41 (pc2 := 44) rfl ?_
      refine x_iload_n C dX6_isBehind_44 1 rfl (pc2 := 45) rfl ?_
      refine x_iconst (v := (1 : Int32)) C dX6_isBehind_45 (by decide) (pc2 := 46) rfl ?_
      refine x_isub C dX6_isBehind_46 (pc2 := 47) rfl ?_
      refine x_iald C h 12 0 (mc_12 ad cI cZ _) rfl dX6_isBehind_47 (pc2 := 48) rfl (fun h => ?_)
      refine x_icmp_le C h dX6_isBehind_48 (tgt := 55) (by decide) (pc2 := 51) rfl (fun h => ?_) (fun h => ?_)
      · refine x_iconst (v := (0 : Int32)) C dX6_isBehind_55 (by decide) (pc2 := 56) rfl ?_
        exact x_zretL C hr hlocks h rfl dX6_isBehind_56
      · refine x_iconst (v := (1 : Int32)) C dX6_isBehind_51 (by decide) (pc2 := 52) rfl ?_
        refine x_goto C dX6_isBehind_52 (pc2 := 56) (by decide) ?_
        exact x_zretL C hr hlocks h rfl dX6_isBehind_56
set_option maxRecDepth 100000 in
set_option maxHeartbeats 4000000 in
theorem c_X6_isNear (l : Launch) (D : va_G) (A : Nat → Prop) (ad : Nat → Nat) (cI cZ : ClassId) (u : Mem) (x1 : Int32) (x2 : Int32) : Cti l yX6_isNear wsX6_isNear { frames := 1, cells := 0, slots := 0, locals := 22 } D A (MW ad cI cZ) [(cI, .int), (cZ, .boolean)] [.ref (ad 0), .int x1, .int x2] u (e_X6_isNear u x1 x2) := by
  intro r ur h
  refine Met.ofW (cc := cX6_isNear) (maxL := 3) (ret := (some .boolean)) (by decide) rfl ?_
  intro p e s m args below meth c s₁ B hml hv
  obtain ⟨hav, hP, hK, hD⟩ := hv
  have C : Cx p m c cX6_isNear 3 s args wsX6_isNear RX6 D [(cI, .int), (cZ, .boolean)] := ⟨⟨B.exec, B.bytes, hml, findClass_of_methodNamed B.named, atoms_spec (ws := wsX6_isNear) B.pre⟩, hK⟩
  have hr := B.returns
  have hlocks := B.notSynchronized
  have hiX6 : ∀ w ∈ wsX60, w ∈ wsX6_isNear := by decide +kernel
  have f44 : Cond.fieldLink RX6 44 "PanelPagesModel" "column" "[I" ∈ wsX6_isNear := by decide +kernel
  refine x_entry2 (lv := [(0, .ref (ad 0)), (1, .int x1), (2, .int x2)]) hav hP hD (Nat.le_of_ble_eq_true rfl) rfl ?_
  unfold e_X6_isNear at h
  refine x_aload_n C dX6_isNear_0 0 rfl (pc2 := 1) rfl ?_
  refine x_get C hiX6 0 (mc_0 ad cI cZ _) rfl 24 (by decide) f44 (v := .ref (ad 12)) rfl dX6_isNear_1 (pc2 := 4) rfl ?_
  refine x_iload_n C dX6_isNear_4 2 rfl (pc2 := 5) rfl ?_
  refine x_iald C h 12 0 (mc_12 ad cI cZ _) rfl dX6_isNear_5 (pc2 := 6) rfl (fun h => ?_)
  refine x_aload_n C dX6_isNear_6 0 rfl (pc2 := 7) rfl ?_
  refine x_iload_n C dX6_isNear_7 1 rfl (pc2 := 8) rfl ?_
  refine x_iload_n C dX6_isNear_8 2 rfl (pc2 := 9) rfl ?_
  refine x_callVi (As := [.int x1, .int x2]) (rest := [.int (u 12 (x2).toNatClampNeg)]) (index := 174) (n := 2) C h (c_X6_speakerAt l D A ad cI cZ _ _ _) gX6_isNear_X6_speakerAt rfl (by decide +kernel) rfl rfl ⟨Nat.le_of_ble_eq_true rfl, Nat.le_of_ble_eq_true rfl⟩ (ci := 6) rfl rfl (mc_0 ad cI cZ _) (MW_D ad cI cZ _) rfl rfl (Nat.le_of_ble_eq_true rfl) dX6_isNear_9 (pc2 := 12) rfl (fun r1 u1 h => ?_)
  refine x_isub C dX6_isNear_12 (pc2 := 13) rfl ?_
  refine x_iconst (v := (-1 : Int32)) C dX6_isNear_13 (by decide) (pc2 := 14) rfl ?_
  refine x_iconst (v := (1 : Int32)) C dX6_isNear_14 (by decide) (pc2 := 15) rfl ?_
  refine x_callSi (As := [.int ((u 12 (x2).toNatClampNeg) - r1), .int (-1 : Int32), .int (1 : Int32)]) (rest := []) (index := 51) (n := 3) C h (c_X6_in l D A ad cI cZ _ _ _ _) gX6_isNear_X6_in rfl (by decide +kernel) rfl rfl ⟨Nat.le_of_ble_eq_true rfl, Nat.le_of_ble_eq_true rfl⟩ (MW_D ad cI cZ _) rfl rfl (Nat.le_of_ble_eq_true rfl) dX6_isNear_15 (pc2 := 18) rfl (fun r2 u2 h => ?_)
  exact x_zret C hr hlocks h dX6_isNear_18
set_option maxRecDepth 100000 in
set_option maxHeartbeats 4000000 in
theorem c_X6_goTogether (l : Launch) (D : va_G) (A : Nat → Prop) (ad : Nat → Nat) (cI cZ : ClassId) (u : Mem) (x1 : Int32) (x2 : Int32) (x3 : Int32) : Cti l yX6_goTogether wsX6_goTogether { frames := 1, cells := 0, slots := 0, locals := 22 } D A (MW ad cI cZ) [(cI, .int), (cZ, .boolean)] [.ref (ad 0), .int x1, .int x2, .int x3] u (e_X6_goTogether u x1 x2 x3) := by
  intro r ur h
  refine Met.ofW (cc := cX6_goTogether) (maxL := 7) (ret := (some .boolean)) (by decide) rfl ?_
  intro p e s m args below meth c s₁ B hml hv
  obtain ⟨hav, hP, hK, hD⟩ := hv
  have C : Cx p m c cX6_goTogether 7 s args wsX6_goTogether RX6 D [(cI, .int), (cZ, .boolean)] := ⟨⟨B.exec, B.bytes, hml, findClass_of_methodNamed B.named, atoms_spec (ws := wsX6_goTogether) B.pre⟩, hK⟩
  have hr := B.returns
  have hlocks := B.notSynchronized
  have hiX6 : ∀ w ∈ wsX60, w ∈ wsX6_goTogether := by decide +kernel
  have f41 : Cond.fieldLink RX6 41 "PanelPagesModel" "row" "[I" ∈ wsX6_goTogether := by decide +kernel
  have f44 : Cond.fieldLink RX6 44 "PanelPagesModel" "column" "[I" ∈ wsX6_goTogether := by decide +kernel
  refine x_entry2 (lv := [(0, .ref (ad 0)), (1, .int x1), (2, .int x2), (3, .int x3)]) hav hP hD (Nat.le_of_ble_eq_true rfl) rfl ?_
  unfold e_X6_goTogether at h
  have J109 : ∀ (u : Mem) (x4 : Int32) (x5 : Int32) (s0 : Int32), e_X6_goTogether_J109 u x4 x5 s0 = some (r, ur) → Wx p l e (headSpec wsX6_goTogether { frames := 1, cells := 0, slots := 0, locals := 22 }).room s m args below meth c (MQ below (Qix D A (MW ad cI cZ) r ur) args s 0 0 A) D A 7 (MW ad cI cZ) u 109 [(4, .int x4), (5, .int x5)] [.int s0] := by
    intro u x4 x5 s0 h
    unfold e_X6_goTogether_J109 at h
    refine x_istore C dX6_goTogether_109 (by decide) (lv2 := [(6, .int s0), (4, .int x4), (5, .int x5)]) rfl (pc2 := 111) rfl ?_
    refine x_iload C dX6_goTogether_111 1 rfl (pc2 := 113) rfl ?_
    refine x_if_ne C h dX6_goTogether_113 (tgt := 130) (by decide) (pc2 := 116) rfl (fun h => ?_) (fun h => ?_)
    · refine x_iconst (v := (0 : Int32)) C dX6_goTogether_130 (by decide) (pc2 := 131) rfl ?_
      exact x_zretL C hr hlocks h rfl dX6_goTogether_131
    · refine x_iload C dX6_goTogether_116 2 rfl (pc2 := 118) rfl ?_
      refine x_if_ne C h dX6_goTogether_118 (tgt := 130) (by decide) (pc2 := 121) rfl (fun h => ?_) (fun h => ?_)
      · refine x_iconst (v := (0 : Int32)) C dX6_goTogether_130 (by decide) (pc2 := 131) rfl ?_
        exact x_zretL C hr hlocks h rfl dX6_goTogether_131
      · refine x_iload C dX6_goTogether_121 0 rfl (pc2 := 123) rfl ?_
        refine x_if_ne C h dX6_goTogether_123 (tgt := 130) (by decide) (pc2 := 126) rfl (fun h => ?_) (fun h => ?_)
        · refine x_iconst (v := (0 : Int32)) C dX6_goTogether_130 (by decide) (pc2 := 131) rfl ?_
          exact x_zretL C hr hlocks h rfl dX6_goTogether_131
        · refine x_iconst (v := (1 : Int32)) C dX6_goTogether_126 (by decide) (pc2 := 127) rfl ?_
          refine x_goto C dX6_goTogether_127 (pc2 := 131) (by decide) ?_
          exact x_zretL C hr hlocks h rfl dX6_goTogether_131
  have J108 : ∀ (u : Mem) (x4 : Int32) (x5 : Int32), e_X6_goTogether_J108 u x4 x5 = some (r, ur) → Wx p l e (headSpec wsX6_goTogether { frames := 1, cells := 0, slots := 0, locals := 22 }).room s m args below meth c (MQ below (Qix D A (MW ad cI cZ) r ur) args s 0 0 A) D A 7 (MW ad cI cZ) u 108 [(4, .int x4), (5, .int x5)] [] := by
    intro u x4 x5 h
    unfold e_X6_goTogether_J108 at h
    refine x_iconst (v := (0 : Int32)) C dX6_goTogether_108 (by decide) (pc2 := 109) rfl ?_
    exact J109 _ _ _ _ h
  have J72 : ∀ (u : Mem) (x1 : Int32) (x2 : Int32) (x3 : Int32) (x4 : Int32) (s0 : Int32), e_X6_goTogether_J72 u x1 x2 x3 x4 s0 = some (r, ur) → Wx p l e (headSpec wsX6_goTogether { frames := 1, cells := 0, slots := 0, locals := 22 }).room s m args below meth c (MQ below (Qix D A (MW ad cI cZ) r ur) args s 0 0 A) D A 7 (MW ad cI cZ) u 72 [(0, .ref (ad 0)), (1, .int x1), (2, .int x2), (3, .int x3), (4, .int x4)] [.int s0] := by
    intro u x1 x2 x3 x4 s0 h
    unfold e_X6_goTogether_J72 at h
    refine x_istore C dX6_goTogether_72 (by decide) (lv2 := [(5, .int s0), (0, .ref (ad 0)), (1, .int x1), (2, .int x2), (3, .int x3), (4, .int x4)]) rfl (pc2 := 74) rfl ?_
    refine x_aload_n C dX6_goTogether_74 1 rfl (pc2 := 75) rfl ?_
    refine x_get C hiX6 0 (mc_0 ad cI cZ _) rfl 23 (by decide) f41 (v := .ref (ad 11)) rfl dX6_goTogether_75 (pc2 := 78) rfl ?_
    refine x_iload_n C dX6_goTogether_78 4 rfl (pc2 := 79) rfl ?_
    refine x_iald C h 11 0 (mc_11 ad cI cZ _) rfl dX6_goTogether_79 (pc2 := 80) rfl (fun h => ?_)
    refine x_aload_n C dX6_goTogether_80 1 rfl (pc2 := 81) rfl ?_
    refine x_get C hiX6 0 (mc_0 ad cI cZ _) rfl 23 (by decide) f41 (v := .ref (ad 11)) rfl dX6_goTogether_81 (pc2 := 84) rfl ?_
    refine x_iload_n C dX6_goTogether_84 3 rfl (pc2 := 85) rfl ?_
    refine x_iald C h 11 0 (mc_11 ad cI cZ _) rfl dX6_goTogether_85 (pc2 := 86) rfl (fun h => ?_)
    refine x_icmp_le C h dX6_goTogether_86 (tgt := 108) (by decide) (pc2 := 89) rfl (fun h => ?_) (fun h => ?_)
    · refine x_sub [5, 0] (lv2 := [(4, .int x4), (5, .int s0)]) rfl ?_
      exact J108 _ _ _ h
    · refine x_aload_n C dX6_goTogether_89 1 rfl (pc2 := 90) rfl ?_
      refine x_get C hiX6 0 (mc_0 ad cI cZ _) rfl 24 (by decide) f44 (v := .ref (ad 12)) rfl dX6_goTogether_90 (pc2 := 93) rfl ?_
      refine x_iload_n C dX6_goTogether_93 4 rfl (pc2 := 94) rfl ?_
      refine x_iald C h 12 0 (mc_12 ad cI cZ _) rfl dX6_goTogether_94 (pc2 := 95) rfl (fun h => ?_)
      refine x_aload_n C dX6_goTogether_95 1 rfl (pc2 := 96) rfl ?_
      refine x_iload_n C dX6_goTogether_96 2 rfl (pc2 := 97) rfl ?_
      refine x_iload_n C dX6_goTogether_97 3 rfl (pc2 := 98) rfl ?_
      refine x_callVi (As := [.int x1, .int x2]) (rest := [.int (u 12 (x3).toNatClampNeg)]) (index := 174) (n := 2) C h (c_X6_speakerAt l D A ad cI cZ _ _ _) gX6_goTogether_X6_speakerAt rfl (by decide +kernel) rfl rfl ⟨Nat.le_of_ble_eq_true rfl, Nat.le_of_ble_eq_true rfl⟩ (ci := 6) rfl rfl (mc_0 ad cI cZ _) (MW_D ad cI cZ _) rfl rfl (Nat.le_of_ble_eq_true rfl) dX6_goTogether_98 (pc2 := 101) rfl (fun r4 u4 h => ?_)
      refine x_icmp_ne C h dX6_goTogether_101 (tgt := 108) (by decide) (pc2 := 104) rfl (fun h => ?_) (fun h => ?_)
      · refine x_sub [5, 0] (lv2 := [(4, .int x4), (5, .int s0)]) rfl ?_
        exact J108 _ _ _ h
      · refine x_iconst (v := (1 : Int32)) C dX6_goTogether_104 (by decide) (pc2 := 105) rfl ?_
        refine x_goto C dX6_goTogether_105 (pc2 := 109) (by decide) ?_
        refine x_sub [5, 0] (lv2 := [(4, .int x4), (5, .int s0)]) rfl ?_
        exact J109 _ _ _ _ h
  have J71 : ∀ (u : Mem) (x1 : Int32) (x2 : Int32) (x3 : Int32) (x4 : Int32), e_X6_goTogether_J71 u x1 x2 x3 x4 = some (r, ur) → Wx p l e (headSpec wsX6_goTogether { frames := 1, cells := 0, slots := 0, locals := 22 }).room s m args below meth c (MQ below (Qix D A (MW ad cI cZ) r ur) args s 0 0 A) D A 7 (MW ad cI cZ) u 71 [(0, .ref (ad 0)), (1, .int x1), (2, .int x2), (3, .int x3), (4, .int x4)] [] := by
    intro u x1 x2 x3 x4 h
    unfold e_X6_goTogether_J71 at h
    refine x_iconst (v := (0 : Int32)) C dX6_goTogether_71 (by decide) (pc2 := 72) rfl ?_
    exact J72 _ _ _ _ _ _ h
  have J35 : ∀ (u : Mem) (x1 : Int32) (x2 : Int32) (x3 : Int32) (s0 : Int32), e_X6_goTogether_J35 u x1 x2 x3 s0 = some (r, ur) → Wx p l e (headSpec wsX6_goTogether { frames := 1, cells := 0, slots := 0, locals := 22 }).room s m args below meth c (MQ below (Qix D A (MW ad cI cZ) r ur) args s 0 0 A) D A 7 (MW ad cI cZ) u 35 [(0, .ref (ad 0)), (1, .int x1), (2, .int x2), (3, .int x3)] [.int s0] := by
    intro u x1 x2 x3 s0 h
    unfold e_X6_goTogether_J35 at h
    refine x_istore C dX6_goTogether_35 (by decide) (lv2 := [(4, .int s0), (0, .ref (ad 0)), (1, .int x1), (2, .int x2), (3, .int x3)]) rfl (pc2 := 37) rfl ?_
    refine x_aload_n C dX6_goTogether_37 1 rfl (pc2 := 38) rfl ?_
    refine x_get C hiX6 0 (mc_0 ad cI cZ _) rfl 23 (by decide) f41 (v := .ref (ad 11)) rfl dX6_goTogether_38 (pc2 := 41) rfl ?_
    refine x_iload_n C dX6_goTogether_41 3 rfl (pc2 := 42) rfl ?_
    refine x_iald C h 11 0 (mc_11 ad cI cZ _) rfl dX6_goTogether_42 (pc2 := 43) rfl (fun h => ?_)
    refine x_aload_n C dX6_goTogether_43 1 rfl (pc2 := 44) rfl ?_
    refine x_get C hiX6 0 (mc_0 ad cI cZ _) rfl 23 (by decide) f41 (v := .ref (ad 11)) rfl dX6_goTogether_44 (pc2 := 47) rfl ?_
    refine x_iload_n C dX6_goTogether_47 4 rfl (pc2 := 48) rfl ?_
    refine x_iald C h 11 0 (mc_11 ad cI cZ _) rfl dX6_goTogether_48 (pc2 := 49) rfl (fun h => ?_)
    refine x_icmp_le C h dX6_goTogether_49 (tgt := 71) (by decide) (pc2 := 52) rfl (fun h => ?_) (fun h => ?_)
    · refine x_sub [1, 2, 3, 4, 0] (lv2 := [(0, .ref (ad 0)), (1, .int x1), (2, .int x2), (3, .int x3), (4, .int s0)]) rfl ?_
      exact J71 _ _ _ _ _ h
    · refine x_aload_n C dX6_goTogether_52 1 rfl (pc2 := 53) rfl ?_
      refine x_get C hiX6 0 (mc_0 ad cI cZ _) rfl 24 (by decide) f44 (v := .ref (ad 12)) rfl dX6_goTogether_53 (pc2 := 56) rfl ?_
      refine x_iload_n C dX6_goTogether_56 3 rfl (pc2 := 57) rfl ?_
      refine x_iald C h 12 0 (mc_12 ad cI cZ _) rfl dX6_goTogether_57 (pc2 := 58) rfl (fun h => ?_)
      refine x_aload_n C dX6_goTogether_58 1 rfl (pc2 := 59) rfl ?_
      refine x_iload_n C dX6_goTogether_59 2 rfl (pc2 := 60) rfl ?_
      refine x_iload_n C dX6_goTogether_60 4 rfl (pc2 := 61) rfl ?_
      refine x_callVi (As := [.int x1, .int x3]) (rest := [.int (u 12 (x2).toNatClampNeg)]) (index := 174) (n := 2) C h (c_X6_speakerAt l D A ad cI cZ _ _ _) gX6_goTogether_X6_speakerAt rfl (by decide +kernel) rfl rfl ⟨Nat.le_of_ble_eq_true rfl, Nat.le_of_ble_eq_true rfl⟩ (ci := 6) rfl rfl (mc_0 ad cI cZ _) (MW_D ad cI cZ _) rfl rfl (Nat.le_of_ble_eq_true rfl) dX6_goTogether_61 (pc2 := 64) rfl (fun r3 u3 h => ?_)
      refine x_icmp_ne C h dX6_goTogether_64 (tgt := 71) (by decide) (pc2 := 67) rfl (fun h => ?_) (fun h => ?_)
      · refine x_sub [1, 2, 3, 4, 0] (lv2 := [(0, .ref (ad 0)), (1, .int x1), (2, .int x2), (3, .int x3), (4, .int s0)]) rfl ?_
        exact J71 _ _ _ _ _ h
      · refine x_iconst (v := (1 : Int32)) C dX6_goTogether_67 (by decide) (pc2 := 68) rfl ?_
        refine x_goto C dX6_goTogether_68 (pc2 := 72) (by decide) ?_
        refine x_sub [1, 2, 3, 4, 0] (lv2 := [(0, .ref (ad 0)), (1, .int x1), (2, .int x2), (3, .int x3), (4, .int s0)]) rfl ?_
        exact J72 _ _ _ _ _ _ h
  have J34 : ∀ (u : Mem) (x1 : Int32) (x2 : Int32) (x3 : Int32), e_X6_goTogether_J34 u x1 x2 x3 = some (r, ur) → Wx p l e (headSpec wsX6_goTogether { frames := 1, cells := 0, slots := 0, locals := 22 }).room s m args below meth c (MQ below (Qix D A (MW ad cI cZ) r ur) args s 0 0 A) D A 7 (MW ad cI cZ) u 34 [(0, .ref (ad 0)), (1, .int x1), (2, .int x2), (3, .int x3)] [] := by
    intro u x1 x2 x3 h
    unfold e_X6_goTogether_J34 at h
    refine x_iconst (v := (0 : Int32)) C dX6_goTogether_34 (by decide) (pc2 := 35) rfl ?_
    exact J35 _ _ _ _ _ h
  refine x_aload_n C dX6_goTogether_0 0 rfl (pc2 := 1) rfl ?_
  refine x_get C hiX6 0 (mc_0 ad cI cZ _) rfl 23 (by decide) f41 (v := .ref (ad 11)) rfl dX6_goTogether_1 (pc2 := 4) rfl ?_
  refine x_iload_n C dX6_goTogether_4 2 rfl (pc2 := 5) rfl ?_
  refine x_iald C h 11 0 (mc_11 ad cI cZ _) rfl dX6_goTogether_5 (pc2 := 6) rfl (fun h => ?_)
  refine x_aload_n C dX6_goTogether_6 0 rfl (pc2 := 7) rfl ?_
  refine x_get C hiX6 0 (mc_0 ad cI cZ _) rfl 23 (by decide) f41 (v := .ref (ad 11)) rfl dX6_goTogether_7 (pc2 := 10) rfl ?_
  refine x_iload_n C dX6_goTogether_10 3 rfl (pc2 := 11) rfl ?_
  refine x_iald C h 11 0 (mc_11 ad cI cZ _) rfl dX6_goTogether_11 (pc2 := 12) rfl (fun h => ?_)
  refine x_icmp_ne C h dX6_goTogether_12 (tgt := 34) (by decide) (pc2 := 15) rfl (fun h => ?_) (fun h => ?_)
  · exact J34 _ _ _ _ h
  · refine x_aload_n C dX6_goTogether_15 0 rfl (pc2 := 16) rfl ?_
    refine x_iload_n C dX6_goTogether_16 1 rfl (pc2 := 17) rfl ?_
    refine x_iload_n C dX6_goTogether_17 2 rfl (pc2 := 18) rfl ?_
    refine x_callVi (As := [.int x1, .int x2]) (rest := []) (index := 174) (n := 2) C h (c_X6_speakerAt l D A ad cI cZ _ _ _) gX6_goTogether_X6_speakerAt rfl (by decide +kernel) rfl rfl ⟨Nat.le_of_ble_eq_true rfl, Nat.le_of_ble_eq_true rfl⟩ (ci := 6) rfl rfl (mc_0 ad cI cZ _) (MW_D ad cI cZ _) rfl rfl (Nat.le_of_ble_eq_true rfl) dX6_goTogether_18 (pc2 := 21) rfl (fun r1 u1 h => ?_)
    refine x_aload_n C dX6_goTogether_21 0 rfl (pc2 := 22) rfl ?_
    refine x_iload_n C dX6_goTogether_22 1 rfl (pc2 := 23) rfl ?_
    refine x_iload_n C dX6_goTogether_23 3 rfl (pc2 := 24) rfl ?_
    refine x_callVi (As := [.int x1, .int x3]) (rest := [.int r1]) (index := 174) (n := 2) C h (c_X6_speakerAt l D A ad cI cZ _ _ _) gX6_goTogether_X6_speakerAt rfl (by decide +kernel) rfl rfl ⟨Nat.le_of_ble_eq_true rfl, Nat.le_of_ble_eq_true rfl⟩ (ci := 6) rfl rfl (mc_0 ad cI cZ _) (MW_D ad cI cZ _) rfl rfl (Nat.le_of_ble_eq_true rfl) dX6_goTogether_24 (pc2 := 27) rfl (fun r2 u2 h => ?_)
    refine x_icmp_le C h dX6_goTogether_27 (tgt := 34) (by decide) (pc2 := 30) rfl (fun h => ?_) (fun h => ?_)
    · exact J34 _ _ _ _ h
    · refine x_iconst (v := (1 : Int32)) C dX6_goTogether_30 (by decide) (pc2 := 31) rfl ?_
      refine x_goto C dX6_goTogether_31 (pc2 := 35) (by decide) ?_
      exact J35 _ _ _ _ _ h
set_option maxRecDepth 100000 in
set_option maxHeartbeats 4000000 in
theorem c_X6_isGoodSetting (l : Launch) (D : va_G) (A : Nat → Prop) (ad : Nat → Nat) (cI cZ : ClassId) (u : Mem) (x1 : Int32) : Cti l yX6_isGoodSetting wsX6_isGoodSetting { frames := 2, cells := 0, slots := 0, locals := 48 } D A (MW ad cI cZ) [(cI, .int), (cZ, .boolean)] [.ref (ad 0), .int x1] u (e_X6_isGoodSetting u x1) := by
  intro r ur h
  refine Met.ofW (cc := cX6_isGoodSetting) (maxL := 5) (ret := (some .boolean)) (by decide) rfl ?_
  intro p e s m args below meth c s₁ B hml hv
  obtain ⟨hav, hP, hK, hD⟩ := hv
  have C : Cx p m c cX6_isGoodSetting 5 s args wsX6_isGoodSetting RX6 D [(cI, .int), (cZ, .boolean)] := ⟨⟨B.exec, B.bytes, hml, findClass_of_methodNamed B.named, atoms_spec (ws := wsX6_isGoodSetting) B.pre⟩, hK⟩
  have hr := B.returns
  have hlocks := B.notSynchronized
  have hiX6 : ∀ w ∈ wsX60, w ∈ wsX6_isGoodSetting := by decide +kernel
  have f7 : Cond.fieldLink RX6 7 "PanelPagesModel" "state" "[I" ∈ wsX6_isGoodSetting := by decide +kernel
  refine x_entry2 (lv := [(0, .ref (ad 0)), (1, .int x1)]) hav hP hD (Nat.le_of_ble_eq_true rfl) rfl ?_
  unfold e_X6_isGoodSetting at h
  have J87 : ∀ (k4 : Mem → Int32 → Int32 → Int32 → Option (Int32 × Mem)), (∀ (u : Mem) (x1 : Int32) (x2 : Int32) (x3 : Int32), k4 u x1 x2 x3 = some (r, ur) → Wx p l e (headSpec wsX6_isGoodSetting { frames := 2, cells := 0, slots := 0, locals := 48 }).room s m args below meth c (MQ below (Qix D A (MW ad cI cZ) r ur) args s 0 0 A) D A 5 (MW ad cI cZ) u 4 [(0, .ref (ad 0)), (1, .int x1), (2, .int x2), (3, .int x3)] []) → ∀ (k53 : Mem → Int32 → Int32 → Int32 → Int32 → Option (Int32 × Mem)), (∀ (u : Mem) (x1 : Int32) (x2 : Int32) (x3 : Int32) (x4 : Int32), k53 u x1 x2 x3 x4 = some (r, ur) → Wx p l e (headSpec wsX6_isGoodSetting { frames := 2, cells := 0, slots := 0, locals := 48 }).room s m args below meth c (MQ below (Qix D A (MW ad cI cZ) r ur) args s 0 0 A) D A 5 (MW ad cI cZ) u 53 [(0, .ref (ad 0)), (1, .int x1), (2, .int x2), (3, .int x3), (4, .int x4)] []) → ∀ (u : Mem) (x1 : Int32) (x3 : Int32) (x4 : Int32) (s0 : Int32), e_X6_isGoodSetting_J87 k4 k53 u x1 x3 x4 s0 = some (r, ur) → Wx p l e (headSpec wsX6_isGoodSetting { frames := 2, cells := 0, slots := 0, locals := 48 }).room s m args below meth c (MQ below (Qix D A (MW ad cI cZ) r ur) args s 0 0 A) D A 5 (MW ad cI cZ) u 87 [(0, .ref (ad 0)), (1, .int x1), (3, .int x3), (4, .int x4)] [.int s0] := by
    intro k4 hk4 k53 hk53 
    intro u x1 x3 x4 s0 h
    unfold e_X6_isGoodSetting_J87 at h
    refine x_istore_n C dX6_isGoodSetting_87 (by decide) (lv2 := [(2, .int s0), (0, .ref (ad 0)), (1, .int x1), (3, .int x3), (4, .int x4)]) rfl (pc2 := 88) rfl ?_
    refine x_iinc C dX6_isGoodSetting_88 4 rfl (1 : Int32) (by decide) rfl (by decide) (lv2 := [(4, .int (x4 + (1 : Int32))), (2, .int s0), (0, .ref (ad 0)), (1, .int x1), (3, .int x3)]) rfl (pc2 := 91) rfl ?_
    refine x_goto C dX6_isGoodSetting_91 (pc2 := 53) (by decide) ?_
    refine x_sub [2, 3, 1, 4, 0] (lv2 := [(0, .ref (ad 0)), (1, .int x1), (2, .int s0), (3, .int x3), (4, .int (x4 + (1 : Int32)))]) rfl ?_
    exact hk53 _ _ _ _ _ h
  have J86 : ∀ (k4 : Mem → Int32 → Int32 → Int32 → Option (Int32 × Mem)), (∀ (u : Mem) (x1 : Int32) (x2 : Int32) (x3 : Int32), k4 u x1 x2 x3 = some (r, ur) → Wx p l e (headSpec wsX6_isGoodSetting { frames := 2, cells := 0, slots := 0, locals := 48 }).room s m args below meth c (MQ below (Qix D A (MW ad cI cZ) r ur) args s 0 0 A) D A 5 (MW ad cI cZ) u 4 [(0, .ref (ad 0)), (1, .int x1), (2, .int x2), (3, .int x3)] []) → ∀ (k53 : Mem → Int32 → Int32 → Int32 → Int32 → Option (Int32 × Mem)), (∀ (u : Mem) (x1 : Int32) (x2 : Int32) (x3 : Int32) (x4 : Int32), k53 u x1 x2 x3 x4 = some (r, ur) → Wx p l e (headSpec wsX6_isGoodSetting { frames := 2, cells := 0, slots := 0, locals := 48 }).room s m args below meth c (MQ below (Qix D A (MW ad cI cZ) r ur) args s 0 0 A) D A 5 (MW ad cI cZ) u 53 [(0, .ref (ad 0)), (1, .int x1), (2, .int x2), (3, .int x3), (4, .int x4)] []) → ∀ (u : Mem) (x1 : Int32) (x3 : Int32) (x4 : Int32), e_X6_isGoodSetting_J86 k4 k53 u x1 x3 x4 = some (r, ur) → Wx p l e (headSpec wsX6_isGoodSetting { frames := 2, cells := 0, slots := 0, locals := 48 }).room s m args below meth c (MQ below (Qix D A (MW ad cI cZ) r ur) args s 0 0 A) D A 5 (MW ad cI cZ) u 86 [(0, .ref (ad 0)), (1, .int x1), (3, .int x3), (4, .int x4)] [] := by
    intro k4 hk4 k53 hk53 
    intro u x1 x3 x4 h
    unfold e_X6_isGoodSetting_J86 at h
    refine x_iconst (v := (0 : Int32)) C dX6_isGoodSetting_86 (by decide) (pc2 := 87) rfl ?_
    exact J87 k4 hk4 k53 hk53 _ _ _ _ _ h
  have J53 : ∀ (k4 : Mem → Int32 → Int32 → Int32 → Option (Int32 × Mem)), (∀ (u : Mem) (x1 : Int32) (x2 : Int32) (x3 : Int32), k4 u x1 x2 x3 = some (r, ur) → Wx p l e (headSpec wsX6_isGoodSetting { frames := 2, cells := 0, slots := 0, locals := 48 }).room s m args below meth c (MQ below (Qix D A (MW ad cI cZ) r ur) args s 0 0 A) D A 5 (MW ad cI cZ) u 4 [(0, .ref (ad 0)), (1, .int x1), (2, .int x2), (3, .int x3)] []) → ∀ (f : Nat) (u : Mem) (x1 : Int32) (x2 : Int32) (x3 : Int32) (x4 : Int32), e_X6_isGoodSetting_L53 k4 f u x1 x2 x3 x4 = some (r, ur) → Wx p l e (headSpec wsX6_isGoodSetting { frames := 2, cells := 0, slots := 0, locals := 48 }).room s m args below meth c (MQ below (Qix D A (MW ad cI cZ) r ur) args s 0 0 A) D A 5 (MW ad cI cZ) u 53 [(0, .ref (ad 0)), (1, .int x1), (2, .int x2), (3, .int x3), (4, .int x4)] [] := by
    intro k4 hk4 
    intro f
    induction f with
    | zero => intro u x1 x2 x3 x4 h; cases h
    | succ f ih =>
      intro u x1 x2 x3 x4 h
      replace h : e_X6_isGoodSetting_L53_b k4 (e_X6_isGoodSetting_L53 k4 f) u x1 x2 x3 x4 = some (r, ur) := h
      unfold e_X6_isGoodSetting_L53_b at h
      refine x_iload C dX6_isGoodSetting_53 4 rfl (pc2 := 55) rfl ?_
      refine x_aload_n C dX6_isGoodSetting_55 0 rfl (pc2 := 56) rfl ?_
      refine x_get C hiX6 0 (mc_0 ad cI cZ _) rfl 0 (by decide) f7 (v := .ref (ad 1)) rfl dX6_isGoodSetting_56 (pc2 := 59) rfl ?_
      refine x_bipush (v := (27 : Int32)) C dX6_isGoodSetting_59 (by decide) (pc2 := 61) rfl ?_
      refine x_iload_n C dX6_isGoodSetting_61 1 rfl (pc2 := 62) rfl ?_
      refine x_iadd C dX6_isGoodSetting_62 (pc2 := 63) rfl ?_
      refine x_iald C h 1 0 (mc_1 ad cI cZ _) rfl dX6_isGoodSetting_63 (pc2 := 64) rfl (fun h => ?_)
      refine x_icmp_ge C h dX6_isGoodSetting_64 (tgt := 94) (by decide) (pc2 := 67) rfl (fun h => ?_) (fun h => ?_)
      · refine x_iinc C dX6_isGoodSetting_94 3 rfl (1 : Int32) (by decide) rfl (by decide) (lv2 := [(3, .int (x3 + (1 : Int32))), (0, .ref (ad 0)), (1, .int x1), (2, .int x2), (4, .int x4)]) rfl (pc2 := 97) rfl ?_
        refine x_goto C dX6_isGoodSetting_97 (pc2 := 4) (by decide) ?_
        refine x_sub [1, 2, 3, 0] (lv2 := [(0, .ref (ad 0)), (1, .int x1), (2, .int x2), (3, .int (x3 + (1 : Int32)))]) rfl ?_
        exact hk4 _ _ _ _ h
      · refine x_iload_n C dX6_isGoodSetting_67 2 rfl (pc2 := 68) rfl ?_
        refine x_if_eq C h dX6_isGoodSetting_68 (tgt := 86) (by decide) (pc2 := 71) rfl (fun h => ?_) (fun h => ?_)
        · refine x_sub [0, 1, 3, 4] (lv2 := [(0, .ref (ad 0)), (1, .int x1), (3, .int x3), (4, .int x4)]) rfl ?_
          exact J86 k4 hk4 (e_X6_isGoodSetting_L53 k4 f) ih _ _ _ _ h
        · refine x_aload_n C dX6_isGoodSetting_71 0 rfl (pc2 := 72) rfl ?_
          refine x_iload_n C dX6_isGoodSetting_72 1 rfl (pc2 := 73) rfl ?_
          refine x_iload_n C dX6_isGoodSetting_73 3 rfl (pc2 := 74) rfl ?_
          refine x_iload C dX6_isGoodSetting_74 4 rfl (pc2 := 76) rfl ?_
          refine x_callVi (As := [.int x1, .int x3, .int x4]) (rest := []) (index := 183) (n := 3) C h (c_X6_goTogether l D A ad cI cZ _ _ _ _) gX6_isGoodSetting_X6_goTogether rfl (by decide +kernel) rfl rfl ⟨Nat.le_of_ble_eq_true rfl, Nat.le_of_ble_eq_true rfl⟩ (ci := 6) rfl rfl (mc_0 ad cI cZ _) (MW_D ad cI cZ _) rfl rfl (Nat.le_of_ble_eq_true rfl) dX6_isGoodSetting_76 (pc2 := 79) rfl (fun r3 u3 h => ?_)
          refine x_if_eq C h dX6_isGoodSetting_79 (tgt := 86) (by decide) (pc2 := 82) rfl (fun h => ?_) (fun h => ?_)
          · refine x_sub [0, 1, 3, 4] (lv2 := [(0, .ref (ad 0)), (1, .int x1), (3, .int x3), (4, .int x4)]) rfl ?_
            exact J86 k4 hk4 (e_X6_isGoodSetting_L53 k4 f) ih _ _ _ _ h
          · refine x_iconst (v := (1 : Int32)) C dX6_isGoodSetting_82 (by decide) (pc2 := 83) rfl ?_
            refine x_goto C dX6_isGoodSetting_83 (pc2 := 87) (by decide) ?_
            refine x_sub [0, 1, 3, 4] (lv2 := [(0, .ref (ad 0)), (1, .int x1), (3, .int x3), (4, .int x4)]) rfl ?_
            exact J87 k4 hk4 (e_X6_isGoodSetting_L53 k4 f) ih _ _ _ _ _ h
  have J47 : ∀ (k4 : Mem → Int32 → Int32 → Int32 → Option (Int32 × Mem)), (∀ (u : Mem) (x1 : Int32) (x2 : Int32) (x3 : Int32), k4 u x1 x2 x3 = some (r, ur) → Wx p l e (headSpec wsX6_isGoodSetting { frames := 2, cells := 0, slots := 0, locals := 48 }).room s m args below meth c (MQ below (Qix D A (MW ad cI cZ) r ur) args s 0 0 A) D A 5 (MW ad cI cZ) u 4 [(0, .ref (ad 0)), (1, .int x1), (2, .int x2), (3, .int x3)] []) → ∀ (u : Mem) (x1 : Int32) (x3 : Int32) (s0 : Int32), e_X6_isGoodSetting_J47 k4 u x1 x3 s0 = some (r, ur) → Wx p l e (headSpec wsX6_isGoodSetting { frames := 2, cells := 0, slots := 0, locals := 48 }).room s m args below meth c (MQ below (Qix D A (MW ad cI cZ) r ur) args s 0 0 A) D A 5 (MW ad cI cZ) u 47 [(0, .ref (ad 0)), (1, .int x1), (3, .int x3)] [.int s0] := by
    intro k4 hk4 
    intro u x1 x3 s0 h
    unfold e_X6_isGoodSetting_J47 at h
    refine x_istore_n C dX6_isGoodSetting_47 (by decide) (lv2 := [(2, .int s0), (0, .ref (ad 0)), (1, .int x1), (3, .int x3)]) rfl (pc2 := 48) rfl ?_
    refine x_iload_n C dX6_isGoodSetting_48 3 rfl (pc2 := 49) rfl ?_
    refine x_iconst (v := (1 : Int32)) C dX6_isGoodSetting_49 (by decide) (pc2 := 50) rfl ?_
    refine x_iadd C dX6_isGoodSetting_50 (pc2 := 51) rfl ?_
    refine x_istore C dX6_isGoodSetting_51 (by decide) (lv2 := [(4, .int (x3 + (1 : Int32))), (2, .int s0), (0, .ref (ad 0)), (1, .int x1), (3, .int x3)]) rfl (pc2 := 53) rfl ?_
    refine x_sub [2, 3, 1, 4, 0] (lv2 := [(0, .ref (ad 0)), (1, .int x1), (2, .int s0), (3, .int x3), (4, .int (x3 + (1 : Int32)))]) rfl ?_
    exact J53 k4 hk4 FU _ _ _ _ _ h
  have J46 : ∀ (k4 : Mem → Int32 → Int32 → Int32 → Option (Int32 × Mem)), (∀ (u : Mem) (x1 : Int32) (x2 : Int32) (x3 : Int32), k4 u x1 x2 x3 = some (r, ur) → Wx p l e (headSpec wsX6_isGoodSetting { frames := 2, cells := 0, slots := 0, locals := 48 }).room s m args below meth c (MQ below (Qix D A (MW ad cI cZ) r ur) args s 0 0 A) D A 5 (MW ad cI cZ) u 4 [(0, .ref (ad 0)), (1, .int x1), (2, .int x2), (3, .int x3)] []) → ∀ (u : Mem) (x1 : Int32) (x3 : Int32), e_X6_isGoodSetting_J46 k4 u x1 x3 = some (r, ur) → Wx p l e (headSpec wsX6_isGoodSetting { frames := 2, cells := 0, slots := 0, locals := 48 }).room s m args below meth c (MQ below (Qix D A (MW ad cI cZ) r ur) args s 0 0 A) D A 5 (MW ad cI cZ) u 46 [(0, .ref (ad 0)), (1, .int x1), (3, .int x3)] [] := by
    intro k4 hk4 
    intro u x1 x3 h
    unfold e_X6_isGoodSetting_J46 at h
    refine x_iconst (v := (0 : Int32)) C dX6_isGoodSetting_46 (by decide) (pc2 := 47) rfl ?_
    exact J47 k4 hk4 _ _ _ _ h
  have J42 : ∀ (k4 : Mem → Int32 → Int32 → Int32 → Option (Int32 × Mem)), (∀ (u : Mem) (x1 : Int32) (x2 : Int32) (x3 : Int32), k4 u x1 x2 x3 = some (r, ur) → Wx p l e (headSpec wsX6_isGoodSetting { frames := 2, cells := 0, slots := 0, locals := 48 }).room s m args below meth c (MQ below (Qix D A (MW ad cI cZ) r ur) args s 0 0 A) D A 5 (MW ad cI cZ) u 4 [(0, .ref (ad 0)), (1, .int x1), (2, .int x2), (3, .int x3)] []) → ∀ (u : Mem) (x1 : Int32) (x3 : Int32), e_X6_isGoodSetting_J42 k4 u x1 x3 = some (r, ur) → Wx p l e (headSpec wsX6_isGoodSetting { frames := 2, cells := 0, slots := 0, locals := 48 }).room s m args below meth c (MQ below (Qix D A (MW ad cI cZ) r ur) args s 0 0 A) D A 5 (MW ad cI cZ) u 42 [(0, .ref (ad 0)), (1, .int x1), (3, .int x3)] [] := by
    intro k4 hk4 
    intro u x1 x3 h
    unfold e_X6_isGoodSetting_J42 at h
    refine x_iconst (v := (1 : Int32)) C dX6_isGoodSetting_42 (by decide) (pc2 := 43) rfl ?_
    refine x_goto C dX6_isGoodSetting_43 (pc2 := 47) (by decide) ?_
    exact J47 k4 hk4 _ _ _ _ h
  have J4 : ∀ (f : Nat) (u : Mem) (x1 : Int32) (x2 : Int32) (x3 : Int32), e_X6_isGoodSetting_L4 f u x1 x2 x3 = some (r, ur) → Wx p l e (headSpec wsX6_isGoodSetting { frames := 2, cells := 0, slots := 0, locals := 48 }).room s m args below meth c (MQ below (Qix D A (MW ad cI cZ) r ur) args s 0 0 A) D A 5 (MW ad cI cZ) u 4 [(0, .ref (ad 0)), (1, .int x1), (2, .int x2), (3, .int x3)] [] := by
    intro f
    induction f with
    | zero => intro u x1 x2 x3 h; cases h
    | succ f ih =>
      intro u x1 x2 x3 h
      replace h : e_X6_isGoodSetting_L4_b (e_X6_isGoodSetting_L4 f) u x1 x2 x3 = some (r, ur) := h
      unfold e_X6_isGoodSetting_L4_b at h
      refine x_iload_n C dX6_isGoodSetting_4 3 rfl (pc2 := 5) rfl ?_
      refine x_aload_n C dX6_isGoodSetting_5 0 rfl (pc2 := 6) rfl ?_
      refine x_get C hiX6 0 (mc_0 ad cI cZ _) rfl 0 (by decide) f7 (v := .ref (ad 1)) rfl dX6_isGoodSetting_6 (pc2 := 9) rfl ?_
      refine x_bipush (v := (27 : Int32)) C dX6_isGoodSetting_9 (by decide) (pc2 := 11) rfl ?_
      refine x_iload_n C dX6_isGoodSetting_11 1 rfl (pc2 := 12) rfl ?_
      refine x_iadd C dX6_isGoodSetting_12 (pc2 := 13) rfl ?_
      refine x_iald C h 1 0 (mc_1 ad cI cZ _) rfl dX6_isGoodSetting_13 (pc2 := 14) rfl (fun h => ?_)
      refine x_icmp_ge C h dX6_isGoodSetting_14 (tgt := 100) (by decide) (pc2 := 17) rfl (fun h => ?_) (fun h => ?_)
      · refine x_iload_n C dX6_isGoodSetting_100 2 rfl (pc2 := 101) rfl ?_
        exact x_zret C hr hlocks h dX6_isGoodSetting_101
      · refine x_iload_n C dX6_isGoodSetting_17 2 rfl (pc2 := 18) rfl ?_
        refine x_if_eq C h dX6_isGoodSetting_18 (tgt := 46) (by decide) (pc2 := 21) rfl (fun h => ?_) (fun h => ?_)
        · refine x_sub [0, 1, 3] (lv2 := [(0, .ref (ad 0)), (1, .int x1), (3, .int x3)]) rfl ?_
          exact J46 (e_X6_isGoodSetting_L4 f) ih _ _ _ h
        · refine x_aload_n C dX6_isGoodSetting_21 0 rfl (pc2 := 22) rfl ?_
          refine x_iload_n C dX6_isGoodSetting_22 1 rfl (pc2 := 23) rfl ?_
          refine x_iload_n C dX6_isGoodSetting_23 3 rfl (pc2 := 24) rfl ?_
          refine x_callVi (As := [.int x1, .int x3]) (rest := []) (index := 177) (n := 2) C h (c_X6_isNear l D A ad cI cZ _ _ _) gX6_isGoodSetting_X6_isNear rfl (by decide +kernel) rfl rfl ⟨Nat.le_of_ble_eq_true rfl, Nat.le_of_ble_eq_true rfl⟩ (ci := 6) rfl rfl (mc_0 ad cI cZ _) (MW_D ad cI cZ _) rfl rfl (Nat.le_of_ble_eq_true rfl) dX6_isGoodSetting_24 (pc2 := 27) rfl (fun r1 u1 h => ?_)
          refine x_if_eq C h dX6_isGoodSetting_27 (tgt := 46) (by decide) (pc2 := 30) rfl (fun h => ?_) (fun h => ?_)
          · refine x_sub [0, 1, 3] (lv2 := [(0, .ref (ad 0)), (1, .int x1), (3, .int x3)]) rfl ?_
            exact J46 (e_X6_isGoodSetting_L4 f) ih _ _ _ h
          · refine x_iload_n C dX6_isGoodSetting_30 3 rfl (pc2 := 31) rfl ?_
            refine x_if_eq C h dX6_isGoodSetting_31 (tgt := 42) (by decide) (pc2 := 34) rfl (fun h => ?_) (fun h => ?_)
            · refine x_sub [0, 1, 3] (lv2 := [(0, .ref (ad 0)), (1, .int x1), (3, .int x3)]) rfl ?_
              exact J42 (e_X6_isGoodSetting_L4 f) ih _ _ _ h
            · refine x_aload_n C dX6_isGoodSetting_34 0 rfl (pc2 := 35) rfl ?_
              refine x_iload_n C dX6_isGoodSetting_35 3 rfl (pc2 := 36) rfl ?_
              refine x_callVi (As := [.int x3]) (rest := []) (index := 180) (n := 1) C h (c_X6_isBehind l D A ad cI cZ _ _) gX6_isGoodSetting_X6_isBehind rfl (by decide +kernel) rfl rfl ⟨Nat.le_of_ble_eq_true rfl, Nat.le_of_ble_eq_true rfl⟩ (ci := 6) rfl rfl (mc_0 ad cI cZ _) (MW_D ad cI cZ _) rfl rfl (Nat.le_of_ble_eq_true rfl) dX6_isGoodSetting_36 (pc2 := 39) rfl (fun r2 u2 h => ?_)
              refine x_if_eq C h dX6_isGoodSetting_39 (tgt := 46) (by decide) (pc2 := 42) rfl (fun h => ?_) (fun h => ?_)
              · refine x_sub [0, 1, 3] (lv2 := [(0, .ref (ad 0)), (1, .int x1), (3, .int x3)]) rfl ?_
                exact J46 (e_X6_isGoodSetting_L4 f) ih _ _ _ h
              · refine x_sub [0, 1, 3] (lv2 := [(0, .ref (ad 0)), (1, .int x1), (3, .int x3)]) rfl ?_
                exact J42 (e_X6_isGoodSetting_L4 f) ih _ _ _ h
  refine x_iconst (v := (1 : Int32)) C dX6_isGoodSetting_0 (by decide) (pc2 := 1) rfl ?_
  refine x_istore_n C dX6_isGoodSetting_1 (by decide) (lv2 := [(2, .int (1 : Int32)), (0, .ref (ad 0)), (1, .int x1)]) rfl (pc2 := 2) rfl ?_
  refine x_iconst (v := (0 : Int32)) C dX6_isGoodSetting_2 (by decide) (pc2 := 3) rfl ?_
  refine x_istore_n C dX6_isGoodSetting_3 (by decide) (lv2 := [(3, .int (0 : Int32)), (2, .int (1 : Int32)), (0, .ref (ad 0)), (1, .int x1)]) rfl (pc2 := 4) rfl ?_
  refine x_sub [2, 3, 1, 0] (lv2 := [(0, .ref (ad 0)), (1, .int x1), (2, .int (1 : Int32)), (3, .int (0 : Int32))]) rfl ?_
  exact J4 FU _ _ _ _ h
set_option maxRecDepth 100000 in
set_option maxHeartbeats 4000000 in
theorem c_X6_laySetting (l : Launch) (D : va_G) (A : Nat → Prop) (ad : Nat → Nat) (cI cZ : ClassId) (u : Mem) (x1 : Int32) (x2 : Int32) : Ctv l yX6_laySetting wsX6_laySetting { frames := 0, cells := 0, slots := 0, locals := 0 } D A (MW ad cI cZ) [(cI, .int), (cZ, .boolean)] [.ref (ad 0), .int x1, .int x2] u (e_X6_laySetting u x1 x2) := by
  intro ur h
  refine Met.ofW (cc := cX6_laySetting) (maxL := 5) (ret := none) (by decide) rfl ?_
  intro p e s m args below meth c s₁ B hml hv
  obtain ⟨hav, hP, hK, hD⟩ := hv
  have C : Cx p m c cX6_laySetting 5 s args wsX6_laySetting RX6 D [(cI, .int), (cZ, .boolean)] := ⟨⟨B.exec, B.bytes, hml, findClass_of_methodNamed B.named, atoms_spec (ws := wsX6_laySetting) B.pre⟩, hK⟩
  have hr := B.returns
  have hlocks := B.notSynchronized
  have hiX6 : ∀ w ∈ wsX60, w ∈ wsX6_laySetting := by decide +kernel
  have f41 : Cond.fieldLink RX6 41 "PanelPagesModel" "row" "[I" ∈ wsX6_laySetting := by decide +kernel
  have f44 : Cond.fieldLink RX6 44 "PanelPagesModel" "column" "[I" ∈ wsX6_laySetting := by decide +kernel
  have f7 : Cond.fieldLink RX6 7 "PanelPagesModel" "state" "[I" ∈ wsX6_laySetting := by decide +kernel
  refine x_entry2 (lv := [(0, .ref (ad 0)), (1, .int x1), (2, .int x2)]) hav hP hD (Nat.le_of_ble_eq_true rfl) rfl ?_
  unfold e_X6_laySetting at h
  have J15 : ∀ (f : Nat) (u : Mem) (x3 : Int32) (x4 : Int32), e_X6_laySetting_L15 f u x3 x4 = some ur → Wx p l e (headSpec wsX6_laySetting { frames := 0, cells := 0, slots := 0, locals := 0 }).room s m args below meth c (MQ below (Qvx D A (MW ad cI cZ) ur) args s 0 0 A) D A 5 (MW ad cI cZ) u 15 [(0, .ref (ad 0)), (3, .int x3), (4, .int x4)] [] := by
    intro f
    induction f with
    | zero => intro u x3 x4 h; cases h
    | succ f ih =>
      intro u x3 x4 h
      replace h : e_X6_laySetting_L15_b (e_X6_laySetting_L15 f) u x3 x4 = some ur := h
      unfold e_X6_laySetting_L15_b at h
      refine x_iload C dX6_laySetting_15 2 rfl (pc2 := 17) rfl ?_
      refine x_if_lt C h dX6_laySetting_17 (tgt := 54) (by decide) (pc2 := 20) rfl (fun h => ?_) (fun h => ?_)
      · exact x_vret C hr hlocks h dX6_laySetting_54
      · refine x_aload_n C dX6_laySetting_20 0 rfl (pc2 := 21) rfl ?_
        refine x_get C hiX6 0 (mc_0 ad cI cZ _) rfl 23 (by decide) f41 (v := .ref (ad 11)) rfl dX6_laySetting_21 (pc2 := 24) rfl ?_
        refine x_iload C dX6_laySetting_24 2 rfl (pc2 := 26) rfl ?_
        refine x_iload_n C dX6_laySetting_26 1 rfl (pc2 := 27) rfl ?_
        refine x_bipush (v := (12 : Int32)) C dX6_laySetting_27 (by decide) (pc2 := 29) rfl ?_
        refine x_irem C dX6_laySetting_29 (by decide) (pc2 := 30) rfl ?_
        refine x_iconst (v := (4 : Int32)) C dX6_laySetting_30 (by decide) (pc2 := 31) rfl ?_
        refine x_idiv C dX6_laySetting_31 (by decide) (pc2 := 32) rfl ?_
        refine x_iast C h 11 0 (mc_11 ad cI cZ _) rfl (u2 := (put u 11 (x4).toNatClampNeg ((x3 - x3 / (12 : Int32) * (12 : Int32)) / (4 : Int32)))) (ms_11 ad cI cZ _ _ _) dX6_laySetting_32 (pc2 := 33) rfl (fun h => ?_)
        refine x_aload_n C dX6_laySetting_33 0 rfl (pc2 := 34) rfl ?_
        refine x_get C hiX6 0 (mc_0 ad cI cZ _) rfl 24 (by decide) f44 (v := .ref (ad 12)) rfl dX6_laySetting_34 (pc2 := 37) rfl ?_
        refine x_iload C dX6_laySetting_37 2 rfl (pc2 := 39) rfl ?_
        refine x_iload_n C dX6_laySetting_39 1 rfl (pc2 := 40) rfl ?_
        refine x_iconst (v := (4 : Int32)) C dX6_laySetting_40 (by decide) (pc2 := 41) rfl ?_
        refine x_irem C dX6_laySetting_41 (by decide) (pc2 := 42) rfl ?_
        refine x_iast C h 12 0 (mc_12 ad cI cZ _) rfl (u2 := (put (put u 11 (x4).toNatClampNeg ((x3 - x3 / (12 : Int32) * (12 : Int32)) / (4 : Int32))) 12 (x4).toNatClampNeg (x3 - x3 / (4 : Int32) * (4 : Int32)))) (ms_12 ad cI cZ _ _ _) dX6_laySetting_42 (pc2 := 43) rfl (fun h => ?_)
        refine x_iload_n C dX6_laySetting_43 1 rfl (pc2 := 44) rfl ?_
        refine x_bipush (v := (12 : Int32)) C dX6_laySetting_44 (by decide) (pc2 := 46) rfl ?_
        refine x_idiv C dX6_laySetting_46 (by decide) (pc2 := 47) rfl ?_
        refine x_istore_n C dX6_laySetting_47 (by decide) (lv2 := [(3, .int (x3 / (12 : Int32))), (0, .ref (ad 0)), (4, .int x4)]) rfl (pc2 := 48) rfl ?_
        refine x_iinc C dX6_laySetting_48 2 rfl (-1 : Int32) (by decide) rfl (by decide) (lv2 := [(4, .int (x4 + (-1 : Int32))), (3, .int (x3 / (12 : Int32))), (0, .ref (ad 0))]) rfl (pc2 := 51) rfl ?_
        refine x_goto C dX6_laySetting_51 (pc2 := 15) (by decide) ?_
        refine x_sub [2, 1, 0] (lv2 := [(0, .ref (ad 0)), (3, .int (x3 / (12 : Int32))), (4, .int (x4 + (-1 : Int32)))]) rfl ?_
        exact ih _ _ _ h
  refine x_iload_n C dX6_laySetting_0 2 rfl (pc2 := 1) rfl ?_
  refine x_istore_n C dX6_laySetting_1 (by decide) (lv2 := [(3, .int x2), (0, .ref (ad 0)), (1, .int x1), (2, .int x2)]) rfl (pc2 := 2) rfl ?_
  refine x_aload_n C dX6_laySetting_2 1 rfl (pc2 := 3) rfl ?_
  refine x_get C hiX6 0 (mc_0 ad cI cZ _) rfl 0 (by decide) f7 (v := .ref (ad 1)) rfl dX6_laySetting_3 (pc2 := 6) rfl ?_
  refine x_bipush (v := (27 : Int32)) C dX6_laySetting_6 (by decide) (pc2 := 8) rfl ?_
  refine x_iload_n C dX6_laySetting_8 2 rfl (pc2 := 9) rfl ?_
  refine x_iadd C dX6_laySetting_9 (pc2 := 10) rfl ?_
  refine x_iald C h 1 0 (mc_1 ad cI cZ _) rfl dX6_laySetting_10 (pc2 := 11) rfl (fun h => ?_)
  refine x_iconst (v := (1 : Int32)) C dX6_laySetting_11 (by decide) (pc2 := 12) rfl ?_
  refine x_isub C dX6_laySetting_12 (pc2 := 13) rfl ?_
  refine x_istore C dX6_laySetting_13 (by decide) (lv2 := [(4, .int ((u 1 (((27 : Int32) + x1)).toNatClampNeg) - (1 : Int32))), (3, .int x2), (0, .ref (ad 0)), (1, .int x1), (2, .int x2)]) rfl (pc2 := 15) rfl ?_
  refine x_sub [2, 1, 0] (lv2 := [(0, .ref (ad 0)), (3, .int x2), (4, .int ((u 1 (((27 : Int32) + x1)).toNatClampNeg) - (1 : Int32)))]) rfl ?_
  exact J15 FU _ _ _ h
set_option maxRecDepth 100000 in
set_option maxHeartbeats 4000000 in
theorem c_X6_deepOf (l : Launch) (D : va_G) (A : Nat → Prop) (ad : Nat → Nat) (cI cZ : ClassId) (u : Mem) (x1 : Int32) : Cti l yX6_deepOf wsX6_deepOf { frames := 0, cells := 0, slots := 0, locals := 0 } D A (MW ad cI cZ) [(cI, .int), (cZ, .boolean)] [.ref (ad 0), .int x1] u (e_X6_deepOf u x1) := by
  intro r ur h
  refine Met.ofW (cc := cX6_deepOf) (maxL := 4) (ret := (some .int)) (by decide) rfl ?_
  intro p e s m args below meth c s₁ B hml hv
  obtain ⟨hav, hP, hK, hD⟩ := hv
  have C : Cx p m c cX6_deepOf 4 s args wsX6_deepOf RX6 D [(cI, .int), (cZ, .boolean)] := ⟨⟨B.exec, B.bytes, hml, findClass_of_methodNamed B.named, atoms_spec (ws := wsX6_deepOf) B.pre⟩, hK⟩
  have hr := B.returns
  have hlocks := B.notSynchronized
  have hiX6 : ∀ w ∈ wsX60, w ∈ wsX6_deepOf := by decide +kernel
  have f41 : Cond.fieldLink RX6 41 "PanelPagesModel" "row" "[I" ∈ wsX6_deepOf := by decide +kernel
  have f7 : Cond.fieldLink RX6 7 "PanelPagesModel" "state" "[I" ∈ wsX6_deepOf := by decide +kernel
  refine x_entry2 (lv := [(0, .ref (ad 0)), (1, .int x1)]) hav hP hD (Nat.le_of_ble_eq_true rfl) rfl ?_
  unfold e_X6_deepOf at h
  have J41 : ∀ (k4 : Mem → Int32 → Int32 → Int32 → Option (Int32 × Mem)), (∀ (u : Mem) (x1 : Int32) (x2 : Int32) (x3 : Int32), k4 u x1 x2 x3 = some (r, ur) → Wx p l e (headSpec wsX6_deepOf { frames := 0, cells := 0, slots := 0, locals := 0 }).room s m args below meth c (MQ below (Qix D A (MW ad cI cZ) r ur) args s 0 0 A) D A 4 (MW ad cI cZ) u 4 [(0, .ref (ad 0)), (1, .int x1), (2, .int x2), (3, .int x3)] []) → ∀ (u : Mem) (x1 : Int32) (x3 : Int32) (s0 : Int32), e_X6_deepOf_J41 k4 u x1 x3 s0 = some (r, ur) → Wx p l e (headSpec wsX6_deepOf { frames := 0, cells := 0, slots := 0, locals := 0 }).room s m args below meth c (MQ below (Qix D A (MW ad cI cZ) r ur) args s 0 0 A) D A 4 (MW ad cI cZ) u 41 [(0, .ref (ad 0)), (1, .int x1), (3, .int x3)] [.int s0] := by
    intro k4 hk4 
    intro u x1 x3 s0 h
    unfold e_X6_deepOf_J41 at h
    refine x_istore_n C dX6_deepOf_41 (by decide) (lv2 := [(2, .int s0), (0, .ref (ad 0)), (1, .int x1), (3, .int x3)]) rfl (pc2 := 42) rfl ?_
    refine x_iinc C dX6_deepOf_42 3 rfl (1 : Int32) (by decide) rfl (by decide) (lv2 := [(3, .int (x3 + (1 : Int32))), (2, .int s0), (0, .ref (ad 0)), (1, .int x1)]) rfl (pc2 := 45) rfl ?_
    refine x_goto C dX6_deepOf_45 (pc2 := 4) (by decide) ?_
    refine x_sub [2, 3, 1, 0] (lv2 := [(0, .ref (ad 0)), (1, .int x1), (2, .int s0), (3, .int (x3 + (1 : Int32)))]) rfl ?_
    exact hk4 _ _ _ _ h
  have J4 : ∀ (f : Nat) (u : Mem) (x1 : Int32) (x2 : Int32) (x3 : Int32), e_X6_deepOf_L4 f u x1 x2 x3 = some (r, ur) → Wx p l e (headSpec wsX6_deepOf { frames := 0, cells := 0, slots := 0, locals := 0 }).room s m args below meth c (MQ below (Qix D A (MW ad cI cZ) r ur) args s 0 0 A) D A 4 (MW ad cI cZ) u 4 [(0, .ref (ad 0)), (1, .int x1), (2, .int x2), (3, .int x3)] [] := by
    intro f
    induction f with
    | zero => intro u x1 x2 x3 h; cases h
    | succ f ih =>
      intro u x1 x2 x3 h
      replace h : e_X6_deepOf_L4_b (e_X6_deepOf_L4 f) u x1 x2 x3 = some (r, ur) := h
      unfold e_X6_deepOf_L4_b at h
      refine x_iload_n C dX6_deepOf_4 3 rfl (pc2 := 5) rfl ?_
      refine x_aload_n C dX6_deepOf_5 0 rfl (pc2 := 6) rfl ?_
      refine x_get C hiX6 0 (mc_0 ad cI cZ _) rfl 0 (by decide) f7 (v := .ref (ad 1)) rfl dX6_deepOf_6 (pc2 := 9) rfl ?_
      refine x_bipush (v := (27 : Int32)) C dX6_deepOf_9 (by decide) (pc2 := 11) rfl ?_
      refine x_iload_n C dX6_deepOf_11 1 rfl (pc2 := 12) rfl ?_
      refine x_iadd C dX6_deepOf_12 (pc2 := 13) rfl ?_
      refine x_iald C h 1 0 (mc_1 ad cI cZ _) rfl dX6_deepOf_13 (pc2 := 14) rfl (fun h => ?_)
      refine x_icmp_ge C h dX6_deepOf_14 (tgt := 48) (by decide) (pc2 := 17) rfl (fun h => ?_) (fun h => ?_)
      · refine x_iload_n C dX6_deepOf_48 2 rfl (pc2 := 49) rfl ?_
        exact x_iret C hr hlocks h dX6_deepOf_49
      · refine x_aload_n C dX6_deepOf_17 0 rfl (pc2 := 18) rfl ?_
        refine x_get C hiX6 0 (mc_0 ad cI cZ _) rfl 23 (by decide) f41 (v := .ref (ad 11)) rfl dX6_deepOf_18 (pc2 := 21) rfl ?_
        refine x_iload_n C dX6_deepOf_21 3 rfl (pc2 := 22) rfl ?_
        refine x_iald C h 11 0 (mc_11 ad cI cZ _) rfl dX6_deepOf_22 (pc2 := 23) rfl (fun h => ?_)
        refine x_iconst (v := (1 : Int32)) C dX6_deepOf_23 (by decide) (pc2 := 24) rfl ?_
        refine x_iadd C dX6_deepOf_24 (pc2 := 25) rfl ?_
        refine x_iload_n C dX6_deepOf_25 2 rfl (pc2 := 26) rfl ?_
        refine x_icmp_le C h dX6_deepOf_26 (tgt := 40) (by decide) (pc2 := 29) rfl (fun h => ?_) (fun h => ?_)
        · refine x_iload_n C dX6_deepOf_40 2 rfl (pc2 := 41) rfl ?_
          refine x_sub [0, 1, 3] (lv2 := [(0, .ref (ad 0)), (1, .int x1), (3, .int x3)]) rfl ?_
          exact J41 (e_X6_deepOf_L4 f) ih _ _ _ _ h
        · refine x_aload_n C dX6_deepOf_29 0 rfl (pc2 := 30) rfl ?_
          refine x_get C hiX6 0 (mc_0 ad cI cZ _) rfl 23 (by decide) f41 (v := .ref (ad 11)) rfl dX6_deepOf_30 (pc2 := 33) rfl ?_
          refine x_iload_n C dX6_deepOf_33 3 rfl (pc2 := 34) rfl ?_
          refine x_iald C h 11 0 (mc_11 ad cI cZ _) rfl dX6_deepOf_34 (pc2 := 35) rfl (fun h => ?_)
          refine x_iconst (v := (1 : Int32)) C dX6_deepOf_35 (by decide) (pc2 := 36) rfl ?_
          refine x_iadd C dX6_deepOf_36 (pc2 := 37) rfl ?_
          refine x_goto C dX6_deepOf_37 (pc2 := 41) (by decide) ?_
          refine x_sub [0, 1, 3] (lv2 := [(0, .ref (ad 0)), (1, .int x1), (3, .int x3)]) rfl ?_
          exact J41 (e_X6_deepOf_L4 f) ih _ _ _ _ h
  refine x_iconst (v := (0 : Int32)) C dX6_deepOf_0 (by decide) (pc2 := 1) rfl ?_
  refine x_istore_n C dX6_deepOf_1 (by decide) (lv2 := [(2, .int (0 : Int32)), (0, .ref (ad 0)), (1, .int x1)]) rfl (pc2 := 2) rfl ?_
  refine x_iconst (v := (0 : Int32)) C dX6_deepOf_2 (by decide) (pc2 := 3) rfl ?_
  refine x_istore_n C dX6_deepOf_3 (by decide) (lv2 := [(3, .int (0 : Int32)), (2, .int (0 : Int32)), (0, .ref (ad 0)), (1, .int x1)]) rfl (pc2 := 4) rfl ?_
  refine x_sub [2, 3, 1, 0] (lv2 := [(0, .ref (ad 0)), (1, .int x1), (2, .int (0 : Int32)), (3, .int (0 : Int32))]) rfl ?_
  exact J4 FU _ _ _ _ h
set_option maxRecDepth 100000 in
set_option maxHeartbeats 4000000 in
theorem c_X6_tryAllSettings (l : Launch) (D : va_G) (A : Nat → Prop) (ad : Nat → Nat) (cI cZ : ClassId) (u : Mem) (x1 : Int32) : Ctv l yX6_tryAllSettings wsX6_tryAllSettings { frames := 3, cells := 0, slots := 0, locals := 72 } D A (MW ad cI cZ) [(cI, .int), (cZ, .boolean)] [.ref (ad 0), .int x1] u (e_X6_tryAllSettings u x1) := by
  intro ur h
  refine Met.ofW (cc := cX6_tryAllSettings) (maxL := 5) (ret := none) (by decide) rfl ?_
  intro p e s m args below meth c s₁ B hml hv
  obtain ⟨hav, hP, hK, hD⟩ := hv
  have C : Cx p m c cX6_tryAllSettings 5 s args wsX6_tryAllSettings RX6 D [(cI, .int), (cZ, .boolean)] := ⟨⟨B.exec, B.bytes, hml, findClass_of_methodNamed B.named, atoms_spec (ws := wsX6_tryAllSettings) B.pre⟩, hK⟩
  have hr := B.returns
  have hlocks := B.notSynchronized
  have hiX6 : ∀ w ∈ wsX60, w ∈ wsX6_tryAllSettings := by decide +kernel
  have f186 : Cond.fieldLink RX6 186 "PanelPagesModel" "goods" "I" ∈ wsX6_tryAllSettings := by decide +kernel
  have f189 : Cond.fieldLink RX6 189 "PanelPagesModel" "leastDeep" "I" ∈ wsX6_tryAllSettings := by decide +kernel
  have f192 : Cond.fieldLink RX6 192 "PanelPagesModel" "asDeep" "I" ∈ wsX6_tryAllSettings := by decide +kernel
  have f195 : Cond.fieldLink RX6 195 "PanelPagesModel" "firstSetting" "I" ∈ wsX6_tryAllSettings := by decide +kernel
  have f7 : Cond.fieldLink RX6 7 "PanelPagesModel" "state" "[I" ∈ wsX6_tryAllSettings := by decide +kernel
  refine x_entry2 (lv := [(0, .ref (ad 0)), (1, .int x1)]) hav hP hD (Nat.le_of_ble_eq_true rfl) rfl ?_
  unfold e_X6_tryAllSettings at h
  have J144 : ∀ (k53 : Mem → Int32 → Int32 → Int32 → Option Mem), (∀ (u : Mem) (x1 : Int32) (x2 : Int32) (x3 : Int32), k53 u x1 x2 x3 = some ur → Wx p l e (headSpec wsX6_tryAllSettings { frames := 3, cells := 0, slots := 0, locals := 72 }).room s m args below meth c (MQ below (Qvx D A (MW ad cI cZ) ur) args s 0 0 A) D A 5 (MW ad cI cZ) u 53 [(0, .ref (ad 0)), (1, .int x1), (2, .int x2), (3, .int x3)] []) → ∀ (u : Mem) (x1 : Int32) (x2 : Int32) (x3 : Int32), e_X6_tryAllSettings_J144 k53 u x1 x2 x3 = some ur → Wx p l e (headSpec wsX6_tryAllSettings { frames := 3, cells := 0, slots := 0, locals := 72 }).room s m args below meth c (MQ below (Qvx D A (MW ad cI cZ) ur) args s 0 0 A) D A 5 (MW ad cI cZ) u 144 [(0, .ref (ad 0)), (1, .int x1), (2, .int x2), (3, .int x3)] [] := by
    intro k53 hk53 
    intro u x1 x2 x3 h
    unfold e_X6_tryAllSettings_J144 at h
    refine x_iinc C dX6_tryAllSettings_144 3 rfl (1 : Int32) (by decide) rfl (by decide) (lv2 := [(3, .int (x3 + (1 : Int32))), (0, .ref (ad 0)), (1, .int x1), (2, .int x2)]) rfl (pc2 := 147) rfl ?_
    refine x_goto C dX6_tryAllSettings_147 (pc2 := 53) (by decide) ?_
    refine x_sub [1, 2, 3, 0] (lv2 := [(0, .ref (ad 0)), (1, .int x1), (2, .int x2), (3, .int (x3 + (1 : Int32)))]) rfl ?_
    exact hk53 _ _ _ _ h
  have J140 : ∀ (k53 : Mem → Int32 → Int32 → Int32 → Option Mem), (∀ (u : Mem) (x1 : Int32) (x2 : Int32) (x3 : Int32), k53 u x1 x2 x3 = some ur → Wx p l e (headSpec wsX6_tryAllSettings { frames := 3, cells := 0, slots := 0, locals := 72 }).room s m args below meth c (MQ below (Qvx D A (MW ad cI cZ) ur) args s 0 0 A) D A 5 (MW ad cI cZ) u 53 [(0, .ref (ad 0)), (1, .int x1), (2, .int x2), (3, .int x3)] []) → ∀ (u : Mem) (x1 : Int32) (x2 : Int32) (x3 : Int32) (s0 : Int32) (s1 : Int32), e_X6_tryAllSettings_J140 k53 u x1 x2 x3 s0 s1 = some ur → Wx p l e (headSpec wsX6_tryAllSettings { frames := 3, cells := 0, slots := 0, locals := 72 }).room s m args below meth c (MQ below (Qvx D A (MW ad cI cZ) ur) args s 0 0 A) D A 5 (MW ad cI cZ) u 140 [(0, .ref (ad 0)), (1, .int x1), (2, .int x2), (3, .int x3)] [.int s0, .int s1, .ref (ad 0)] := by
    intro k53 hk53 
    intro u x1 x2 x3 s0 s1 h
    unfold e_X6_tryAllSettings_J140 at h
    refine x_iadd C dX6_tryAllSettings_140 (pc2 := 141) rfl ?_
    refine x_put C hiX6 tyX6 tyX6_ok nmX6 0 (mc_0 ad cI cZ _) rfl 27 (by decide) f192 rfl rfl (Nat.le_of_ble_eq_true rfl) (u2 := (put u 0 27 (s1 + s0))) (ms_0_27 ad cI cZ _ _) dX6_tryAllSettings_141 (pc2 := 144) rfl ?_
    exact J144 k53 hk53 _ _ _ _ h
  have J121 : ∀ (k53 : Mem → Int32 → Int32 → Int32 → Option Mem), (∀ (u : Mem) (x1 : Int32) (x2 : Int32) (x3 : Int32), k53 u x1 x2 x3 = some ur → Wx p l e (headSpec wsX6_tryAllSettings { frames := 3, cells := 0, slots := 0, locals := 72 }).room s m args below meth c (MQ below (Qvx D A (MW ad cI cZ) ur) args s 0 0 A) D A 5 (MW ad cI cZ) u 53 [(0, .ref (ad 0)), (1, .int x1), (2, .int x2), (3, .int x3)] []) → ∀ (u : Mem) (x1 : Int32) (x2 : Int32) (x3 : Int32) (x4 : Int32), e_X6_tryAllSettings_J121 k53 u x1 x2 x3 x4 = some ur → Wx p l e (headSpec wsX6_tryAllSettings { frames := 3, cells := 0, slots := 0, locals := 72 }).room s m args below meth c (MQ below (Qvx D A (MW ad cI cZ) ur) args s 0 0 A) D A 5 (MW ad cI cZ) u 121 [(0, .ref (ad 0)), (1, .int x1), (2, .int x2), (3, .int x3), (4, .int x4)] [] := by
    intro k53 hk53 
    intro u x1 x2 x3 x4 h
    unfold e_X6_tryAllSettings_J121 at h
    refine x_aload_n C dX6_tryAllSettings_121 0 rfl (pc2 := 122) rfl ?_
    refine x_dup C dX6_tryAllSettings_122 rfl (pc2 := 123) rfl ?_
    refine x_get C hiX6 0 (mc_0 ad cI cZ _) rfl 27 (by decide) f192 (v := .int (u 0 27)) rfl dX6_tryAllSettings_123 (pc2 := 126) rfl ?_
    refine x_iload C dX6_tryAllSettings_126 4 rfl (pc2 := 128) rfl ?_
    refine x_aload_n C dX6_tryAllSettings_128 0 rfl (pc2 := 129) rfl ?_
    refine x_get C hiX6 0 (mc_0 ad cI cZ _) rfl 26 (by decide) f189 (v := .int (u 0 26)) rfl dX6_tryAllSettings_129 (pc2 := 132) rfl ?_
    refine x_icmp_ne C h dX6_tryAllSettings_132 (tgt := 139) (by decide) (pc2 := 135) rfl (fun h => ?_) (fun h => ?_)
    · refine x_iconst (v := (0 : Int32)) C dX6_tryAllSettings_139 (by decide) (pc2 := 140) rfl ?_
      refine x_sub [0, 1, 2, 3] (lv2 := [(0, .ref (ad 0)), (1, .int x1), (2, .int x2), (3, .int x3)]) rfl ?_
      exact J140 k53 hk53 _ _ _ _ _ _ h
    · refine x_iconst (v := (1 : Int32)) C dX6_tryAllSettings_135 (by decide) (pc2 := 136) rfl ?_
      refine x_goto C dX6_tryAllSettings_136 (pc2 := 140) (by decide) ?_
      refine x_sub [0, 1, 2, 3] (lv2 := [(0, .ref (ad 0)), (1, .int x1), (2, .int x2), (3, .int x3)]) rfl ?_
      exact J140 k53 hk53 _ _ _ _ _ _ h
  have J105 : ∀ (k53 : Mem → Int32 → Int32 → Int32 → Option Mem), (∀ (u : Mem) (x1 : Int32) (x2 : Int32) (x3 : Int32), k53 u x1 x2 x3 = some ur → Wx p l e (headSpec wsX6_tryAllSettings { frames := 3, cells := 0, slots := 0, locals := 72 }).room s m args below meth c (MQ below (Qvx D A (MW ad cI cZ) ur) args s 0 0 A) D A 5 (MW ad cI cZ) u 53 [(0, .ref (ad 0)), (1, .int x1), (2, .int x2), (3, .int x3)] []) → ∀ (u : Mem) (x1 : Int32) (x2 : Int32) (x3 : Int32) (x4 : Int32), e_X6_tryAllSettings_J105 k53 u x1 x2 x3 x4 = some ur → Wx p l e (headSpec wsX6_tryAllSettings { frames := 3, cells := 0, slots := 0, locals := 72 }).room s m args below meth c (MQ below (Qvx D A (MW ad cI cZ) ur) args s 0 0 A) D A 5 (MW ad cI cZ) u 105 [(0, .ref (ad 0)), (1, .int x1), (2, .int x2), (3, .int x3), (4, .int x4)] [] := by
    intro k53 hk53 
    intro u x1 x2 x3 x4 h
    unfold e_X6_tryAllSettings_J105 at h
    refine x_aload_n C dX6_tryAllSettings_105 0 rfl (pc2 := 106) rfl ?_
    refine x_iload C dX6_tryAllSettings_106 4 rfl (pc2 := 108) rfl ?_
    refine x_put C hiX6 tyX6 tyX6_ok nmX6 0 (mc_0 ad cI cZ _) rfl 26 (by decide) f189 rfl rfl (Nat.le_of_ble_eq_true rfl) (u2 := (put u 0 26 x4)) (ms_0_26 ad cI cZ _ _) dX6_tryAllSettings_108 (pc2 := 111) rfl ?_
    refine x_aload_n C dX6_tryAllSettings_111 0 rfl (pc2 := 112) rfl ?_
    refine x_iconst (v := (0 : Int32)) C dX6_tryAllSettings_112 (by decide) (pc2 := 113) rfl ?_
    refine x_put C hiX6 tyX6 tyX6_ok nmX6 0 (mc_0 ad cI cZ _) rfl 27 (by decide) f192 rfl rfl (Nat.le_of_ble_eq_true rfl) (u2 := (put (put u 0 26 x4) 0 27 (0 : Int32))) (ms_0_27 ad cI cZ _ _) dX6_tryAllSettings_113 (pc2 := 116) rfl ?_
    refine x_aload_n C dX6_tryAllSettings_116 0 rfl (pc2 := 117) rfl ?_
    refine x_iload_n C dX6_tryAllSettings_117 3 rfl (pc2 := 118) rfl ?_
    refine x_put C hiX6 tyX6 tyX6_ok nmX6 0 (mc_0 ad cI cZ _) rfl 28 (by decide) f195 rfl rfl (Nat.le_of_ble_eq_true rfl) (u2 := (put (put (put u 0 26 x4) 0 27 (0 : Int32)) 0 28 x3)) (ms_0_28 ad cI cZ _ _) dX6_tryAllSettings_118 (pc2 := 121) rfl ?_
    exact J121 k53 hk53 _ _ _ _ _ h
  have J53 : ∀ (f : Nat) (u : Mem) (x1 : Int32) (x2 : Int32) (x3 : Int32), e_X6_tryAllSettings_L53 f u x1 x2 x3 = some ur → Wx p l e (headSpec wsX6_tryAllSettings { frames := 3, cells := 0, slots := 0, locals := 72 }).room s m args below meth c (MQ below (Qvx D A (MW ad cI cZ) ur) args s 0 0 A) D A 5 (MW ad cI cZ) u 53 [(0, .ref (ad 0)), (1, .int x1), (2, .int x2), (3, .int x3)] [] := by
    intro f
    induction f with
    | zero => intro u x1 x2 x3 h; cases h
    | succ f ih =>
      intro u x1 x2 x3 h
      replace h : e_X6_tryAllSettings_L53_b (e_X6_tryAllSettings_L53 f) u x1 x2 x3 = some ur := h
      unfold e_X6_tryAllSettings_L53_b at h
      refine x_iload_n C dX6_tryAllSettings_53 3 rfl (pc2 := 54) rfl ?_
      refine x_iload_n C dX6_tryAllSettings_54 2 rfl (pc2 := 55) rfl ?_
      refine x_icmp_ge C h dX6_tryAllSettings_55 (tgt := 150) (by decide) (pc2 := 58) rfl (fun h => ?_) (fun h => ?_)
      · exact x_vret C hr hlocks h dX6_tryAllSettings_150
      · refine x_aload_n C dX6_tryAllSettings_58 0 rfl (pc2 := 59) rfl ?_
        refine x_iload_n C dX6_tryAllSettings_59 1 rfl (pc2 := 60) rfl ?_
        refine x_iload_n C dX6_tryAllSettings_60 3 rfl (pc2 := 61) rfl ?_
        refine x_callVv (As := [.int x1, .int x3]) (rest := []) (index := 198) (n := 2) C h (c_X6_laySetting l D A ad cI cZ _ _ _) gX6_tryAllSettings_X6_laySetting rfl (by decide +kernel) rfl rfl ⟨Nat.le_of_ble_eq_true rfl, Nat.le_of_ble_eq_true rfl⟩ (ci := 6) rfl rfl (mc_0 ad cI cZ _) (MW_D ad cI cZ _) rfl rfl (Nat.le_of_ble_eq_true rfl) dX6_tryAllSettings_61 (pc2 := 64) rfl (fun u1 h => ?_)
        refine x_aload_n C dX6_tryAllSettings_64 0 rfl (pc2 := 65) rfl ?_
        refine x_iload_n C dX6_tryAllSettings_65 1 rfl (pc2 := 66) rfl ?_
        refine x_callVi (As := [.int x1]) (rest := []) (index := 201) (n := 1) C h (c_X6_isGoodSetting l D A ad cI cZ _ _) gX6_tryAllSettings_X6_isGoodSetting rfl (by decide +kernel) rfl rfl ⟨Nat.le_of_ble_eq_true rfl, Nat.le_of_ble_eq_true rfl⟩ (ci := 6) rfl rfl (mc_0 ad cI cZ _) (MW_D ad cI cZ _) rfl rfl (Nat.le_of_ble_eq_true rfl) dX6_tryAllSettings_66 (pc2 := 69) rfl (fun r2 u2 h => ?_)
        refine x_if_eq C h dX6_tryAllSettings_69 (tgt := 144) (by decide) (pc2 := 72) rfl (fun h => ?_) (fun h => ?_)
        · exact J144 (e_X6_tryAllSettings_L53 f) ih _ _ _ _ h
        · refine x_aload_n C dX6_tryAllSettings_72 0 rfl (pc2 := 73) rfl ?_
          refine x_iload_n C dX6_tryAllSettings_73 1 rfl (pc2 := 74) rfl ?_
          refine x_callVi (As := [.int x1]) (rest := []) (index := 204) (n := 1) C h (c_X6_deepOf l D A ad cI cZ _ _) gX6_tryAllSettings_X6_deepOf rfl (by decide +kernel) rfl rfl ⟨Nat.le_of_ble_eq_true rfl, Nat.le_of_ble_eq_true rfl⟩ (ci := 6) rfl rfl (mc_0 ad cI cZ _) (MW_D ad cI cZ _) rfl rfl (Nat.le_of_ble_eq_true rfl) dX6_tryAllSettings_74 (pc2 := 77) rfl (fun r3 u3 h => ?_)
          refine x_istore C dX6_tryAllSettings_77 (by decide) (lv2 := [(4, .int r3), (0, .ref (ad 0)), (1, .int x1), (2, .int x2), (3, .int x3)]) rfl (pc2 := 79) rfl ?_
          refine x_aload_n C dX6_tryAllSettings_79 1 rfl (pc2 := 80) rfl ?_
          refine x_dup C dX6_tryAllSettings_80 rfl (pc2 := 81) rfl ?_
          refine x_get C hiX6 0 (mc_0 ad cI cZ _) rfl 25 (by decide) f186 (v := .int (u3 0 25)) rfl dX6_tryAllSettings_81 (pc2 := 84) rfl ?_
          refine x_iconst (v := (1 : Int32)) C dX6_tryAllSettings_84 (by decide) (pc2 := 85) rfl ?_
          refine x_iadd C dX6_tryAllSettings_85 (pc2 := 86) rfl ?_
          refine x_put C hiX6 tyX6 tyX6_ok nmX6 0 (mc_0 ad cI cZ _) rfl 25 (by decide) f186 rfl rfl (Nat.le_of_ble_eq_true rfl) (u2 := (put u3 0 25 ((u3 0 25) + (1 : Int32)))) (ms_0_25 ad cI cZ _ _) dX6_tryAllSettings_86 (pc2 := 89) rfl ?_
          refine x_aload_n C dX6_tryAllSettings_89 1 rfl (pc2 := 90) rfl ?_
          refine x_get C hiX6 0 (mc_0 ad cI cZ _) rfl 28 (by decide) f195 (v := .int ((put u3 0 25 ((u3 0 25) + (1 : Int32))) 0 28)) rfl dX6_tryAllSettings_90 (pc2 := 93) rfl ?_
          refine x_tope (y := (u3 0 28)) rfl ?_
          refine x_if_lt C h dX6_tryAllSettings_93 (tgt := 105) (by decide) (pc2 := 96) rfl (fun h => ?_) (fun h => ?_)
          · refine x_sub [1, 2, 3, 4, 0] (lv2 := [(0, .ref (ad 0)), (1, .int x1), (2, .int x2), (3, .int x3), (4, .int r3)]) rfl ?_
            exact J105 (e_X6_tryAllSettings_L53 f) ih _ _ _ _ _ h
          · refine x_iload C dX6_tryAllSettings_96 0 rfl (pc2 := 98) rfl ?_
            refine x_aload_n C dX6_tryAllSettings_98 1 rfl (pc2 := 99) rfl ?_
            refine x_get C hiX6 0 (mc_0 ad cI cZ _) rfl 26 (by decide) f189 (v := .int ((put u3 0 25 ((u3 0 25) + (1 : Int32))) 0 26)) rfl dX6_tryAllSettings_99 (pc2 := 102) rfl ?_
            refine x_tope (y := (u3 0 26)) rfl ?_
            refine x_icmp_ge C h dX6_tryAllSettings_102 (tgt := 121) (by decide) (pc2 := 105) rfl (fun h => ?_) (fun h => ?_)
            · refine x_sub [1, 2, 3, 4, 0] (lv2 := [(0, .ref (ad 0)), (1, .int x1), (2, .int x2), (3, .int x3), (4, .int r3)]) rfl ?_
              exact J121 (e_X6_tryAllSettings_L53 f) ih _ _ _ _ _ h
            · refine x_sub [1, 2, 3, 4, 0] (lv2 := [(0, .ref (ad 0)), (1, .int x1), (2, .int x2), (3, .int x3), (4, .int r3)]) rfl ?_
              exact J105 (e_X6_tryAllSettings_L53 f) ih _ _ _ _ _ h
  have J27 : ∀ (f : Nat) (u : Mem) (x1 : Int32) (x2 : Int32) (x3 : Int32), e_X6_tryAllSettings_L27 f u x1 x2 x3 = some ur → Wx p l e (headSpec wsX6_tryAllSettings { frames := 3, cells := 0, slots := 0, locals := 72 }).room s m args below meth c (MQ below (Qvx D A (MW ad cI cZ) ur) args s 0 0 A) D A 5 (MW ad cI cZ) u 27 [(0, .ref (ad 0)), (1, .int x1), (2, .int x2), (3, .int x3)] [] := by
    intro f
    induction f with
    | zero => intro u x1 x2 x3 h; cases h
    | succ f ih =>
      intro u x1 x2 x3 h
      replace h : e_X6_tryAllSettings_L27_b (e_X6_tryAllSettings_L27 f) u x1 x2 x3 = some ur := h
      unfold e_X6_tryAllSettings_L27_b at h
      refine x_iload_n C dX6_tryAllSettings_27 3 rfl (pc2 := 28) rfl ?_
      refine x_aload_n C dX6_tryAllSettings_28 0 rfl (pc2 := 29) rfl ?_
      refine x_get C hiX6 0 (mc_0 ad cI cZ _) rfl 0 (by decide) f7 (v := .ref (ad 1)) rfl dX6_tryAllSettings_29 (pc2 := 32) rfl ?_
      refine x_bipush (v := (27 : Int32)) C dX6_tryAllSettings_32 (by decide) (pc2 := 34) rfl ?_
      refine x_iload_n C dX6_tryAllSettings_34 1 rfl (pc2 := 35) rfl ?_
      refine x_iadd C dX6_tryAllSettings_35 (pc2 := 36) rfl ?_
      refine x_iald C h 1 0 (mc_1 ad cI cZ _) rfl dX6_tryAllSettings_36 (pc2 := 37) rfl (fun h => ?_)
      refine x_icmp_ge C h dX6_tryAllSettings_37 (tgt := 51) (by decide) (pc2 := 40) rfl (fun h => ?_) (fun h => ?_)
      · refine x_iconst (v := (0 : Int32)) C dX6_tryAllSettings_51 (by decide) (pc2 := 52) rfl ?_
        refine x_istore_n C dX6_tryAllSettings_52 (by decide) (lv2 := [(3, .int (0 : Int32)), (0, .ref (ad 0)), (1, .int x1), (2, .int x2)]) rfl (pc2 := 53) rfl ?_
        refine x_sub [1, 2, 3, 0] (lv2 := [(0, .ref (ad 0)), (1, .int x1), (2, .int x2), (3, .int (0 : Int32))]) rfl ?_
        exact J53 FU _ _ _ _ h
      · refine x_iload_n C dX6_tryAllSettings_40 2 rfl (pc2 := 41) rfl ?_
        refine x_bipush (v := (12 : Int32)) C dX6_tryAllSettings_41 (by decide) (pc2 := 43) rfl ?_
        refine x_imul C dX6_tryAllSettings_43 (pc2 := 44) rfl ?_
        refine x_istore_n C dX6_tryAllSettings_44 (by decide) (lv2 := [(2, .int (x2 * (12 : Int32))), (0, .ref (ad 0)), (1, .int x1), (3, .int x3)]) rfl (pc2 := 45) rfl ?_
        refine x_iinc C dX6_tryAllSettings_45 3 rfl (1 : Int32) (by decide) rfl (by decide) (lv2 := [(3, .int (x3 + (1 : Int32))), (2, .int (x2 * (12 : Int32))), (0, .ref (ad 0)), (1, .int x1)]) rfl (pc2 := 48) rfl ?_
        refine x_goto C dX6_tryAllSettings_48 (pc2 := 27) (by decide) ?_
        refine x_sub [2, 3, 1, 0] (lv2 := [(0, .ref (ad 0)), (1, .int x1), (2, .int (x2 * (12 : Int32))), (3, .int (x3 + (1 : Int32)))]) rfl ?_
        exact ih _ _ _ _ h
  refine x_aload_n C dX6_tryAllSettings_0 0 rfl (pc2 := 1) rfl ?_
  refine x_iconst (v := (0 : Int32)) C dX6_tryAllSettings_1 (by decide) (pc2 := 2) rfl ?_
  refine x_put C hiX6 tyX6 tyX6_ok nmX6 0 (mc_0 ad cI cZ _) rfl 25 (by decide) f186 rfl rfl (Nat.le_of_ble_eq_true rfl) (u2 := (put u 0 25 (0 : Int32))) (ms_0_25 ad cI cZ _ _) dX6_tryAllSettings_2 (pc2 := 5) rfl ?_
  refine x_aload_n C dX6_tryAllSettings_5 0 rfl (pc2 := 6) rfl ?_
  refine x_bipush (v := (-6 : Int32)) C dX6_tryAllSettings_6 (by decide) (pc2 := 8) rfl ?_
  refine x_put C hiX6 tyX6 tyX6_ok nmX6 0 (mc_0 ad cI cZ _) rfl 26 (by decide) f189 rfl rfl (Nat.le_of_ble_eq_true rfl) (u2 := (put (put u 0 25 (0 : Int32)) 0 26 (-6 : Int32))) (ms_0_26 ad cI cZ _ _) dX6_tryAllSettings_8 (pc2 := 11) rfl ?_
  refine x_aload_n C dX6_tryAllSettings_11 0 rfl (pc2 := 12) rfl ?_
  refine x_bipush (v := (-6 : Int32)) C dX6_tryAllSettings_12 (by decide) (pc2 := 14) rfl ?_
  refine x_put C hiX6 tyX6 tyX6_ok nmX6 0 (mc_0 ad cI cZ _) rfl 27 (by decide) f192 rfl rfl (Nat.le_of_ble_eq_true rfl) (u2 := (put (put (put u 0 25 (0 : Int32)) 0 26 (-6 : Int32)) 0 27 (-6 : Int32))) (ms_0_27 ad cI cZ _ _) dX6_tryAllSettings_14 (pc2 := 17) rfl ?_
  refine x_aload_n C dX6_tryAllSettings_17 0 rfl (pc2 := 18) rfl ?_
  refine x_bipush (v := (-6 : Int32)) C dX6_tryAllSettings_18 (by decide) (pc2 := 20) rfl ?_
  refine x_put C hiX6 tyX6 tyX6_ok nmX6 0 (mc_0 ad cI cZ _) rfl 28 (by decide) f195 rfl rfl (Nat.le_of_ble_eq_true rfl) (u2 := (put (put (put (put u 0 25 (0 : Int32)) 0 26 (-6 : Int32)) 0 27 (-6 : Int32)) 0 28 (-6 : Int32))) (ms_0_28 ad cI cZ _ _) dX6_tryAllSettings_20 (pc2 := 23) rfl ?_
  refine x_iconst (v := (1 : Int32)) C dX6_tryAllSettings_23 (by decide) (pc2 := 24) rfl ?_
  refine x_istore_n C dX6_tryAllSettings_24 (by decide) (lv2 := [(2, .int (1 : Int32)), (0, .ref (ad 0)), (1, .int x1)]) rfl (pc2 := 25) rfl ?_
  refine x_iconst (v := (0 : Int32)) C dX6_tryAllSettings_25 (by decide) (pc2 := 26) rfl ?_
  refine x_istore_n C dX6_tryAllSettings_26 (by decide) (lv2 := [(3, .int (0 : Int32)), (2, .int (1 : Int32)), (0, .ref (ad 0)), (1, .int x1)]) rfl (pc2 := 27) rfl ?_
  refine x_sub [2, 3, 1, 0] (lv2 := [(0, .ref (ad 0)), (1, .int x1), (2, .int (1 : Int32)), (3, .int (0 : Int32))]) rfl ?_
  exact J27 FU _ _ _ _ h
set_option maxRecDepth 100000 in
set_option maxHeartbeats 4000000 in
theorem c_X6_firstAt (l : Launch) (D : va_G) (A : Nat → Prop) (ad : Nat → Nat) (cI cZ : ClassId) (u : Mem) (x1 : Int32) (x2 : Int32) : Cti l yX6_firstAt wsX6_firstAt { frames := 1, cells := 0, slots := 0, locals := 24 } D A (MW ad cI cZ) [(cI, .int), (cZ, .boolean)] [.ref (ad 0), .int x1, .int x2] u (e_X6_firstAt u x1 x2) := by
  intro r ur h
  refine Met.ofW (cc := cX6_firstAt) (maxL := 3) (ret := (some .int)) (by decide) rfl ?_
  intro p e s m args below meth c s₁ B hml hv
  obtain ⟨hav, hP, hK, hD⟩ := hv
  have C : Cx p m c cX6_firstAt 3 s args wsX6_firstAt RX6 D [(cI, .int), (cZ, .boolean)] := ⟨⟨B.exec, B.bytes, hml, findClass_of_methodNamed B.named, atoms_spec (ws := wsX6_firstAt) B.pre⟩, hK⟩
  have hr := B.returns
  have hlocks := B.notSynchronized
  have hiX6 : ∀ w ∈ wsX60, w ∈ wsX6_firstAt := by decide +kernel
  have f195 : Cond.fieldLink RX6 195 "PanelPagesModel" "firstSetting" "I" ∈ wsX6_firstAt := by decide +kernel
  have f41 : Cond.fieldLink RX6 41 "PanelPagesModel" "row" "[I" ∈ wsX6_firstAt := by decide +kernel
  have f44 : Cond.fieldLink RX6 44 "PanelPagesModel" "column" "[I" ∈ wsX6_firstAt := by decide +kernel
  have f7 : Cond.fieldLink RX6 7 "PanelPagesModel" "state" "[I" ∈ wsX6_firstAt := by decide +kernel
  refine x_entry2 (lv := [(0, .ref (ad 0)), (1, .int x1), (2, .int x2)]) hav hP hD (Nat.le_of_ble_eq_true rfl) rfl ?_
  unfold e_X6_firstAt at h
  refine x_aload_n C dX6_firstAt_0 0 rfl (pc2 := 1) rfl ?_
  refine x_get C hiX6 0 (mc_0 ad cI cZ _) rfl 28 (by decide) f195 (v := .int (u 0 28)) rfl dX6_firstAt_1 (pc2 := 4) rfl ?_
  refine x_if_lt C h dX6_firstAt_4 (tgt := 20) (by decide) (pc2 := 7) rfl (fun h => ?_) (fun h => ?_)
  · refine x_bipush (v := (-6 : Int32)) C dX6_firstAt_20 (by decide) (pc2 := 22) rfl ?_
    exact x_iret C hr hlocks h dX6_firstAt_22
  · refine x_iload_n C dX6_firstAt_7 2 rfl (pc2 := 8) rfl ?_
    refine x_aload_n C dX6_firstAt_8 0 rfl (pc2 := 9) rfl ?_
    refine x_get C hiX6 0 (mc_0 ad cI cZ _) rfl 0 (by decide) f7 (v := .ref (ad 1)) rfl dX6_firstAt_9 (pc2 := 12) rfl ?_
    refine x_bipush (v := (27 : Int32)) C dX6_firstAt_12 (by decide) (pc2 := 14) rfl ?_
    refine x_iload_n C dX6_firstAt_14 1 rfl (pc2 := 15) rfl ?_
    refine x_iadd C dX6_firstAt_15 (pc2 := 16) rfl ?_
    refine x_iald C h 1 0 (mc_1 ad cI cZ _) rfl dX6_firstAt_16 (pc2 := 17) rfl (fun h => ?_)
    refine x_icmp_lt C h dX6_firstAt_17 (tgt := 23) (by decide) (pc2 := 20) rfl (fun h => ?_) (fun h => ?_)
    · refine x_aload_n C dX6_firstAt_23 0 rfl (pc2 := 24) rfl ?_
      refine x_iload_n C dX6_firstAt_24 1 rfl (pc2 := 25) rfl ?_
      refine x_aload_n C dX6_firstAt_25 0 rfl (pc2 := 26) rfl ?_
      refine x_get C hiX6 0 (mc_0 ad cI cZ _) rfl 28 (by decide) f195 (v := .int (u 0 28)) rfl dX6_firstAt_26 (pc2 := 29) rfl ?_
      refine x_callVv (As := [.int x1, .int (u 0 28)]) (rest := []) (index := 198) (n := 2) C h (c_X6_laySetting l D A ad cI cZ _ _ _) gX6_firstAt_X6_laySetting rfl (by decide +kernel) rfl rfl ⟨Nat.le_of_ble_eq_true rfl, Nat.le_of_ble_eq_true rfl⟩ (ci := 6) rfl rfl (mc_0 ad cI cZ _) (MW_D ad cI cZ _) rfl rfl (Nat.le_of_ble_eq_true rfl) dX6_firstAt_29 (pc2 := 32) rfl (fun u1 h => ?_)
      refine x_iconst (v := (4 : Int32)) C dX6_firstAt_32 (by decide) (pc2 := 33) rfl ?_
      refine x_aload_n C dX6_firstAt_33 0 rfl (pc2 := 34) rfl ?_
      refine x_get C hiX6 0 (mc_0 ad cI cZ _) rfl 23 (by decide) f41 (v := .ref (ad 11)) rfl dX6_firstAt_34 (pc2 := 37) rfl ?_
      refine x_iload_n C dX6_firstAt_37 2 rfl (pc2 := 38) rfl ?_
      refine x_iald C h 11 0 (mc_11 ad cI cZ _) rfl dX6_firstAt_38 (pc2 := 39) rfl (fun h => ?_)
      refine x_imul C dX6_firstAt_39 (pc2 := 40) rfl ?_
      refine x_aload_n C dX6_firstAt_40 0 rfl (pc2 := 41) rfl ?_
      refine x_get C hiX6 0 (mc_0 ad cI cZ _) rfl 24 (by decide) f44 (v := .ref (ad 12)) rfl dX6_firstAt_41 (pc2 := 44) rfl ?_
      refine x_iload_n C dX6_firstAt_44 2 rfl (pc2 := 45) rfl ?_
      refine x_iald C h 12 0 (mc_12 ad cI cZ _) rfl dX6_firstAt_45 (pc2 := 46) rfl (fun h => ?_)
      refine x_iadd C dX6_firstAt_46 (pc2 := 47) rfl ?_
      exact x_iret C hr hlocks h dX6_firstAt_47
    · refine x_bipush (v := (-6 : Int32)) C dX6_firstAt_20 (by decide) (pc2 := 22) rfl ?_
      exact x_iret C hr hlocks h dX6_firstAt_22
set_option maxRecDepth 100000 in
set_option maxHeartbeats 4000000 in
theorem c_X6_good (l : Launch) (D : va_G) (A : Nat → Prop) (ad : Nat → Nat) (cI cZ : ClassId) (u : Mem) (x1 : Int32) (x2 : Int32) : Cti l yX6_good wsX6_good { frames := 4, cells := 0, slots := 0, locals := 96 } D A (MW ad cI cZ) [(cI, .int), (cZ, .boolean)] [.ref (ad 0), .int x1, .int x2] u (e_X6_good u x1 x2) := by
  intro r ur h
  refine Met.ofW (cc := cX6_good) (maxL := 3) (ret := (some .int)) (by decide) rfl ?_
  intro p e s m args below meth c s₁ B hml hv
  obtain ⟨hav, hP, hK, hD⟩ := hv
  have C : Cx p m c cX6_good 3 s args wsX6_good RX6 D [(cI, .int), (cZ, .boolean)] := ⟨⟨B.exec, B.bytes, hml, findClass_of_methodNamed B.named, atoms_spec (ws := wsX6_good) B.pre⟩, hK⟩
  have hr := B.returns
  have hlocks := B.notSynchronized
  have hiX6 : ∀ w ∈ wsX60, w ∈ wsX6_good := by decide +kernel
  have f186 : Cond.fieldLink RX6 186 "PanelPagesModel" "goods" "I" ∈ wsX6_good := by decide +kernel
  have f189 : Cond.fieldLink RX6 189 "PanelPagesModel" "leastDeep" "I" ∈ wsX6_good := by decide +kernel
  have f192 : Cond.fieldLink RX6 192 "PanelPagesModel" "asDeep" "I" ∈ wsX6_good := by decide +kernel
  refine x_entry2 (lv := [(0, .ref (ad 0)), (1, .int x1), (2, .int x2)]) hav hP hD (Nat.le_of_ble_eq_true rfl) rfl ?_
  unfold e_X6_good at h
  have J33 : ∀ (u : Mem) (x1 : Int32) (x2 : Int32), e_X6_good_J33 u x1 x2 = some (r, ur) → Wx p l e (headSpec wsX6_good { frames := 4, cells := 0, slots := 0, locals := 96 }).room s m args below meth c (MQ below (Qix D A (MW ad cI cZ) r ur) args s 0 0 A) D A 3 (MW ad cI cZ) u 33 [(0, .ref (ad 0)), (1, .int x1), (2, .int x2)] [] := by
    intro u x1 x2 h
    unfold e_X6_good_J33 at h
    refine x_aload_n C dX6_good_33 0 rfl (pc2 := 34) rfl ?_
    refine x_iload_n C dX6_good_34 1 rfl (pc2 := 35) rfl ?_
    refine x_callVv (As := [.int x1]) (rest := []) (index := 207) (n := 1) C h (c_X6_tryAllSettings l D A ad cI cZ _ _) gX6_good_X6_tryAllSettings rfl (by decide +kernel) rfl rfl ⟨Nat.le_of_ble_eq_true rfl, Nat.le_of_ble_eq_true rfl⟩ (ci := 6) rfl rfl (mc_0 ad cI cZ _) (MW_D ad cI cZ _) rfl rfl (Nat.le_of_ble_eq_true rfl) dX6_good_35 (pc2 := 38) rfl (fun u4 h => ?_)
    refine x_iload_n C dX6_good_38 2 rfl (pc2 := 39) rfl ?_
    by_cases q0 : x2 = (0 : Int32)
    · replace h := (if_pos q0).symm.trans h
      refine x_tabI C (0 : Int32) q0 dX6_good_39 (by decide) (by decide) (off := 25) (by decide) (tgt := 64) (by decide) ?_
      refine x_aload_n C dX6_good_64 0 rfl (pc2 := 65) rfl ?_
      refine x_get C hiX6 0 (mc_0 ad cI cZ _) rfl 25 (by decide) f186 (v := .int (u4 0 25)) rfl dX6_good_65 (pc2 := 68) rfl ?_
      exact x_iret C hr hlocks h dX6_good_68
    replace h := (if_neg q0).symm.trans h
    by_cases q1 : x2 = (1 : Int32)
    · replace h := (if_pos q1).symm.trans h
      refine x_tabI C (1 : Int32) q1 dX6_good_39 (by decide) (by decide) (off := 30) (by decide) (tgt := 69) (by decide) ?_
      refine x_aload_n C dX6_good_69 0 rfl (pc2 := 70) rfl ?_
      refine x_get C hiX6 0 (mc_0 ad cI cZ _) rfl 26 (by decide) f189 (v := .int (u4 0 26)) rfl dX6_good_70 (pc2 := 73) rfl ?_
      exact x_iret C hr hlocks h dX6_good_73
    replace h := (if_neg q1).symm.trans h
    by_cases q2 : x2 = (2 : Int32)
    · replace h := (if_pos q2).symm.trans h
      refine x_tabI C (2 : Int32) q2 dX6_good_39 (by decide) (by decide) (off := 35) (by decide) (tgt := 74) (by decide) ?_
      refine x_aload_n C dX6_good_74 0 rfl (pc2 := 75) rfl ?_
      refine x_get C hiX6 0 (mc_0 ad cI cZ _) rfl 27 (by decide) f192 (v := .int (u4 0 27)) rfl dX6_good_75 (pc2 := 78) rfl ?_
      exact x_iret C hr hlocks h dX6_good_78
    replace h := (if_neg q2).symm.trans h
    have n0 := tab_ne q0
    have n1 := tab_ne q1
    have n2 := tab_ne q2
    refine x_tabO C dX6_good_39 (by rw [show ((0 : Int32)).toInt = 0 from rfl] at n0; rw [show ((1 : Int32)).toInt = 1 from rfl] at n1; rw [show ((2 : Int32)).toInt = 2 from rfl] at n2; omega) (tgt := 79) (by decide) ?_
    refine x_aload_n C dX6_good_79 0 rfl (pc2 := 80) rfl ?_
    refine x_iload_n C dX6_good_80 1 rfl (pc2 := 81) rfl ?_
    refine x_iload_n C dX6_good_81 2 rfl (pc2 := 82) rfl ?_
    refine x_bipush (v := (10 : Int32)) C dX6_good_82 (by decide) (pc2 := 84) rfl ?_
    refine x_isub C dX6_good_84 (pc2 := 85) rfl ?_
    refine x_callVi (As := [.int x1, .int (x2 - (10 : Int32))]) (rest := []) (index := 210) (n := 2) C h (c_X6_firstAt l D A ad cI cZ _ _ _) gX6_good_X6_firstAt rfl (by decide +kernel) rfl rfl ⟨Nat.le_of_ble_eq_true rfl, Nat.le_of_ble_eq_true rfl⟩ (ci := 6) rfl rfl (mc_0 ad cI cZ _) (MW_D ad cI cZ _) rfl rfl (Nat.le_of_ble_eq_true rfl) dX6_good_85 (pc2 := 88) rfl (fun r5 u5 h => ?_)
    exact x_iret C hr hlocks h dX6_good_88
  refine x_aload_n C dX6_good_0 0 rfl (pc2 := 1) rfl ?_
  refine x_iload_n C dX6_good_1 1 rfl (pc2 := 2) rfl ?_
  refine x_callVi (As := [.int x1]) (rest := []) (index := 59) (n := 1) C h (c_X6_isPanel l D A ad cI cZ _ _) gX6_good_X6_isPanel rfl (by decide +kernel) rfl rfl ⟨Nat.le_of_ble_eq_true rfl, Nat.le_of_ble_eq_true rfl⟩ (ci := 6) rfl rfl (mc_0 ad cI cZ _) (MW_D ad cI cZ _) rfl rfl (Nat.le_of_ble_eq_true rfl) dX6_good_2 (pc2 := 5) rfl (fun r1 u1 h => ?_)
  refine x_if_ne C h dX6_good_5 (tgt := 10) (by decide) (pc2 := 8) rfl (fun h => ?_) (fun h => ?_)
  · refine x_iload_n C dX6_good_10 2 rfl (pc2 := 11) rfl ?_
    refine x_iconst (v := (0 : Int32)) C dX6_good_11 (by decide) (pc2 := 12) rfl ?_
    refine x_iconst (v := (2 : Int32)) C dX6_good_12 (by decide) (pc2 := 13) rfl ?_
    refine x_callSi (As := [.int x2, .int (0 : Int32), .int (2 : Int32)]) (rest := []) (index := 51) (n := 3) C h (c_X6_in l D A ad cI cZ _ _ _ _) gX6_good_X6_in rfl (by decide +kernel) rfl rfl ⟨Nat.le_of_ble_eq_true rfl, Nat.le_of_ble_eq_true rfl⟩ (MW_D ad cI cZ _) rfl rfl (Nat.le_of_ble_eq_true rfl) dX6_good_13 (pc2 := 16) rfl (fun r2 u2 h => ?_)
    refine x_if_ne C h dX6_good_16 (tgt := 33) (by decide) (pc2 := 19) rfl (fun h => ?_) (fun h => ?_)
    · exact J33 _ _ _ h
    · refine x_iload_n C dX6_good_19 2 rfl (pc2 := 20) rfl ?_
      refine x_bipush (v := (10 : Int32)) C dX6_good_20 (by decide) (pc2 := 22) rfl ?_
      refine x_bipush (v := (13 : Int32)) C dX6_good_22 (by decide) (pc2 := 24) rfl ?_
      refine x_callSi (As := [.int x2, .int (10 : Int32), .int (13 : Int32)]) (rest := []) (index := 51) (n := 3) C h (c_X6_in l D A ad cI cZ _ _ _ _) gX6_good_X6_in rfl (by decide +kernel) rfl rfl ⟨Nat.le_of_ble_eq_true rfl, Nat.le_of_ble_eq_true rfl⟩ (MW_D ad cI cZ _) rfl rfl (Nat.le_of_ble_eq_true rfl) dX6_good_24 (pc2 := 27) rfl (fun r3 u3 h => ?_)
      refine x_if_ne C h dX6_good_27 (tgt := 33) (by decide) (pc2 := 30) rfl (fun h => ?_) (fun h => ?_)
      · exact J33 _ _ _ h
      · refine x_bipush (v := (-2 : Int32)) C dX6_good_30 (by decide) (pc2 := 32) rfl ?_
        exact x_iret C hr hlocks h dX6_good_32
  · refine x_iconst (v := (-1 : Int32)) C dX6_good_8 (by decide) (pc2 := 9) rfl ?_
    exact x_iret C hr hlocks h dX6_good_9
set_option maxRecDepth 100000 in
set_option maxHeartbeats 4000000 in
theorem c_X6_isSetting (l : Launch) (D : va_G) (A : Nat → Prop) (ad : Nat → Nat) (cI cZ : ClassId) (u : Mem) (x1 : Int32) : Cti l yX6_isSetting wsX6_isSetting { frames := 1, cells := 0, slots := 0, locals := 22 } D A (MW ad cI cZ) [(cI, .int), (cZ, .boolean)] [.ref (ad 0), .int x1] u (e_X6_isSetting u x1) := by
  intro r ur h
  refine Met.ofW (cc := cX6_isSetting) (maxL := 4) (ret := (some .boolean)) (by decide) rfl ?_
  intro p e s m args below meth c s₁ B hml hv
  obtain ⟨hav, hP, hK, hD⟩ := hv
  have C : Cx p m c cX6_isSetting 4 s args wsX6_isSetting RX6 D [(cI, .int), (cZ, .boolean)] := ⟨⟨B.exec, B.bytes, hml, findClass_of_methodNamed B.named, atoms_spec (ws := wsX6_isSetting) B.pre⟩, hK⟩
  have hr := B.returns
  have hlocks := B.notSynchronized
  have hiX6 : ∀ w ∈ wsX60, w ∈ wsX6_isSetting := by decide +kernel
  have f128 : Cond.fieldLink RX6 128 "PanelPagesModel" "said" "I" ∈ wsX6_isSetting := by decide +kernel
  have f20 : Cond.fieldLink RX6 20 "PanelPagesModel" "pad" "[I" ∈ wsX6_isSetting := by decide +kernel
  have f7 : Cond.fieldLink RX6 7 "PanelPagesModel" "state" "[I" ∈ wsX6_isSetting := by decide +kernel
  refine x_entry2 (lv := [(0, .ref (ad 0)), (1, .int x1)]) hav hP hD (Nat.le_of_ble_eq_true rfl) rfl ?_
  unfold e_X6_isSetting at h
  have J59 : ∀ (k26 : Mem → Int32 → Int32 → Option (Int32 × Mem)), (∀ (u : Mem) (x2 : Int32) (x3 : Int32), k26 u x2 x3 = some (r, ur) → Wx p l e (headSpec wsX6_isSetting { frames := 1, cells := 0, slots := 0, locals := 22 }).room s m args below meth c (MQ below (Qix D A (MW ad cI cZ) r ur) args s 0 0 A) D A 4 (MW ad cI cZ) u 26 [(0, .ref (ad 0)), (2, .int x2), (3, .int x3)] []) → ∀ (u : Mem) (x3 : Int32) (s0 : Int32) (s1 : Int32) (s2 : Int32), e_X6_isSetting_J59 k26 u x3 s0 s1 s2 = some (r, ur) → Wx p l e (headSpec wsX6_isSetting { frames := 1, cells := 0, slots := 0, locals := 22 }).room s m args below meth c (MQ below (Qix D A (MW ad cI cZ) r ur) args s 0 0 A) D A 4 (MW ad cI cZ) u 59 [(0, .ref (ad 0)), (3, .int x3)] [.int s0, .int s1, .int s2] := by
    intro k26 hk26 
    intro u x3 s0 s1 s2 h
    unfold e_X6_isSetting_J59 at h
    refine x_callSi (As := [.int s2, .int s1, .int s0]) (rest := []) (index := 51) (n := 3) C h (c_X6_in l D A ad cI cZ _ _ _ _) gX6_isSetting_X6_in rfl (by decide +kernel) rfl rfl ⟨Nat.le_of_ble_eq_true rfl, Nat.le_of_ble_eq_true rfl⟩ (MW_D ad cI cZ _) rfl rfl (Nat.le_of_ble_eq_true rfl) dX6_isSetting_59 (pc2 := 62) rfl (fun r1 u1 h => ?_)
    refine x_istore_n C dX6_isSetting_62 (by decide) (lv2 := [(2, .int r1), (0, .ref (ad 0)), (3, .int x3)]) rfl (pc2 := 63) rfl ?_
    refine x_iinc C dX6_isSetting_63 2 rfl (1 : Int32) (by decide) rfl (by decide) (lv2 := [(3, .int (x3 + (1 : Int32))), (2, .int r1), (0, .ref (ad 0))]) rfl (pc2 := 66) rfl ?_
    refine x_goto C dX6_isSetting_66 (pc2 := 26) (by decide) ?_
    refine x_sub [2, 1, 0] (lv2 := [(0, .ref (ad 0)), (2, .int r1), (3, .int (x3 + (1 : Int32)))]) rfl ?_
    exact hk26 _ _ _ h
  have J26 : ∀ (f : Nat) (u : Mem) (x2 : Int32) (x3 : Int32), e_X6_isSetting_L26 f u x2 x3 = some (r, ur) → Wx p l e (headSpec wsX6_isSetting { frames := 1, cells := 0, slots := 0, locals := 22 }).room s m args below meth c (MQ below (Qix D A (MW ad cI cZ) r ur) args s 0 0 A) D A 4 (MW ad cI cZ) u 26 [(0, .ref (ad 0)), (2, .int x2), (3, .int x3)] [] := by
    intro f
    induction f with
    | zero => intro u x2 x3 h; cases h
    | succ f ih =>
      intro u x2 x3 h
      replace h : e_X6_isSetting_L26_b (e_X6_isSetting_L26 f) u x2 x3 = some (r, ur) := h
      unfold e_X6_isSetting_L26_b at h
      refine x_iload_n C dX6_isSetting_26 2 rfl (pc2 := 27) rfl ?_
      refine x_aload_n C dX6_isSetting_27 0 rfl (pc2 := 28) rfl ?_
      refine x_get C hiX6 0 (mc_0 ad cI cZ _) rfl 4 (by decide) f128 (v := .int (u 0 4)) rfl dX6_isSetting_28 (pc2 := 31) rfl ?_
      refine x_icmp_ge C h dX6_isSetting_31 (tgt := 69) (by decide) (pc2 := 34) rfl (fun h => ?_) (fun h => ?_)
      · refine x_iload_n C dX6_isSetting_69 1 rfl (pc2 := 70) rfl ?_
        exact x_zret C hr hlocks h dX6_isSetting_70
      · refine x_iload_n C dX6_isSetting_34 1 rfl (pc2 := 35) rfl ?_
        refine x_if_eq C h dX6_isSetting_35 (tgt := 69) (by decide) (pc2 := 38) rfl (fun h => ?_) (fun h => ?_)
        · refine x_iload_n C dX6_isSetting_69 1 rfl (pc2 := 70) rfl ?_
          exact x_zret C hr hlocks h dX6_isSetting_70
        · refine x_aload_n C dX6_isSetting_38 0 rfl (pc2 := 39) rfl ?_
          refine x_get C hiX6 0 (mc_0 ad cI cZ _) rfl 3 (by decide) f20 (v := .ref (ad 4)) rfl dX6_isSetting_39 (pc2 := 42) rfl ?_
          refine x_iload_n C dX6_isSetting_42 2 rfl (pc2 := 43) rfl ?_
          refine x_iald C h 4 0 (mc_4 ad cI cZ _) rfl dX6_isSetting_43 (pc2 := 44) rfl (fun h => ?_)
          refine x_bipush (v := (48 : Int32)) C dX6_isSetting_44 (by decide) (pc2 := 46) rfl ?_
          refine x_iload_n C dX6_isSetting_46 2 rfl (pc2 := 47) rfl ?_
          refine x_iconst (v := (2 : Int32)) C dX6_isSetting_47 (by decide) (pc2 := 48) rfl ?_
          refine x_irem C dX6_isSetting_48 (by decide) (pc2 := 49) rfl ?_
          refine x_if_ne C h dX6_isSetting_49 (tgt := 57) (by decide) (pc2 := 52) rfl (fun h => ?_) (fun h => ?_)
          · refine x_bipush (v := (51 : Int32)) C dX6_isSetting_57 (by decide) (pc2 := 59) rfl ?_
            refine x_sub [0, 2] (lv2 := [(0, .ref (ad 0)), (3, .int x3)]) rfl ?_
            exact J59 (e_X6_isSetting_L26 f) ih _ _ _ _ _ h
          · refine x_bipush (v := (50 : Int32)) C dX6_isSetting_52 (by decide) (pc2 := 54) rfl ?_
            refine x_goto C dX6_isSetting_54 (pc2 := 59) (by decide) ?_
            refine x_sub [0, 2] (lv2 := [(0, .ref (ad 0)), (3, .int x3)]) rfl ?_
            exact J59 (e_X6_isSetting_L26 f) ih _ _ _ _ _ h
  have J23 : ∀ (u : Mem) (s0 : Int32), e_X6_isSetting_J23 u s0 = some (r, ur) → Wx p l e (headSpec wsX6_isSetting { frames := 1, cells := 0, slots := 0, locals := 22 }).room s m args below meth c (MQ below (Qix D A (MW ad cI cZ) r ur) args s 0 0 A) D A 4 (MW ad cI cZ) u 23 [(0, .ref (ad 0))] [.int s0] := by
    intro u s0 h
    unfold e_X6_isSetting_J23 at h
    refine x_istore_n C dX6_isSetting_23 (by decide) (lv2 := [(2, .int s0), (0, .ref (ad 0))]) rfl (pc2 := 24) rfl ?_
    refine x_iconst (v := (0 : Int32)) C dX6_isSetting_24 (by decide) (pc2 := 25) rfl ?_
    refine x_istore_n C dX6_isSetting_25 (by decide) (lv2 := [(3, .int (0 : Int32)), (2, .int s0), (0, .ref (ad 0))]) rfl (pc2 := 26) rfl ?_
    refine x_sub [2, 1, 0] (lv2 := [(0, .ref (ad 0)), (2, .int s0), (3, .int (0 : Int32))]) rfl ?_
    exact J26 FU _ _ _ h
  refine x_aload_n C dX6_isSetting_0 0 rfl (pc2 := 1) rfl ?_
  refine x_get C hiX6 0 (mc_0 ad cI cZ _) rfl 4 (by decide) f128 (v := .int (u 0 4)) rfl dX6_isSetting_1 (pc2 := 4) rfl ?_
  refine x_iconst (v := (2 : Int32)) C dX6_isSetting_4 (by decide) (pc2 := 5) rfl ?_
  refine x_aload_n C dX6_isSetting_5 0 rfl (pc2 := 6) rfl ?_
  refine x_get C hiX6 0 (mc_0 ad cI cZ _) rfl 0 (by decide) f7 (v := .ref (ad 1)) rfl dX6_isSetting_6 (pc2 := 9) rfl ?_
  refine x_bipush (v := (27 : Int32)) C dX6_isSetting_9 (by decide) (pc2 := 11) rfl ?_
  refine x_iload_n C dX6_isSetting_11 1 rfl (pc2 := 12) rfl ?_
  refine x_iadd C dX6_isSetting_12 (pc2 := 13) rfl ?_
  refine x_iald C h 1 0 (mc_1 ad cI cZ _) rfl dX6_isSetting_13 (pc2 := 14) rfl (fun h => ?_)
  refine x_imul C dX6_isSetting_14 (pc2 := 15) rfl ?_
  refine x_icmp_ne C h dX6_isSetting_15 (tgt := 22) (by decide) (pc2 := 18) rfl (fun h => ?_) (fun h => ?_)
  · refine x_iconst (v := (0 : Int32)) C dX6_isSetting_22 (by decide) (pc2 := 23) rfl ?_
    refine x_sub [0] (lv2 := [(0, .ref (ad 0))]) rfl ?_
    exact J23 _ _ h
  · refine x_iconst (v := (1 : Int32)) C dX6_isSetting_18 (by decide) (pc2 := 19) rfl ?_
    refine x_goto C dX6_isSetting_19 (pc2 := 23) (by decide) ?_
    refine x_sub [0] (lv2 := [(0, .ref (ad 0))]) rfl ?_
    exact J23 _ _ h
set_option maxRecDepth 100000 in
set_option maxHeartbeats 4000000 in
theorem c_X6_isGood (l : Launch) (D : va_G) (A : Nat → Prop) (ad : Nat → Nat) (cI cZ : ClassId) (u : Mem) (x1 : Int32) : Cti l yX6_isGood wsX6_isGood { frames := 3, cells := 0, slots := 0, locals := 72 } D A (MW ad cI cZ) [(cI, .int), (cZ, .boolean)] [.ref (ad 0), .int x1] u (e_X6_isGood u x1) := by
  intro r ur h
  refine Met.ofW (cc := cX6_isGood) (maxL := 3) (ret := (some .int)) (by decide) rfl ?_
  intro p e s m args below meth c s₁ B hml hv
  obtain ⟨hav, hP, hK, hD⟩ := hv
  have C : Cx p m c cX6_isGood 3 s args wsX6_isGood RX6 D [(cI, .int), (cZ, .boolean)] := ⟨⟨B.exec, B.bytes, hml, findClass_of_methodNamed B.named, atoms_spec (ws := wsX6_isGood) B.pre⟩, hK⟩
  have hr := B.returns
  have hlocks := B.notSynchronized
  have hiX6 : ∀ w ∈ wsX60, w ∈ wsX6_isGood := by decide +kernel
  have f20 : Cond.fieldLink RX6 20 "PanelPagesModel" "pad" "[I" ∈ wsX6_isGood := by decide +kernel
  have f41 : Cond.fieldLink RX6 41 "PanelPagesModel" "row" "[I" ∈ wsX6_isGood := by decide +kernel
  have f44 : Cond.fieldLink RX6 44 "PanelPagesModel" "column" "[I" ∈ wsX6_isGood := by decide +kernel
  have f7 : Cond.fieldLink RX6 7 "PanelPagesModel" "state" "[I" ∈ wsX6_isGood := by decide +kernel
  refine x_entry2 (lv := [(0, .ref (ad 0)), (1, .int x1)]) hav hP hD (Nat.le_of_ble_eq_true rfl) rfl ?_
  unfold e_X6_isGood at h
  have J23 : ∀ (f : Nat) (u : Mem) (x1 : Int32) (x2 : Int32), e_X6_isGood_L23 f u x1 x2 = some (r, ur) → Wx p l e (headSpec wsX6_isGood { frames := 3, cells := 0, slots := 0, locals := 72 }).room s m args below meth c (MQ below (Qix D A (MW ad cI cZ) r ur) args s 0 0 A) D A 3 (MW ad cI cZ) u 23 [(0, .ref (ad 0)), (1, .int x1), (2, .int x2)] [] := by
    intro f
    induction f with
    | zero => intro u x1 x2 h; cases h
    | succ f ih =>
      intro u x1 x2 h
      replace h : e_X6_isGood_L23_b (e_X6_isGood_L23 f) u x1 x2 = some (r, ur) := h
      unfold e_X6_isGood_L23_b at h
      refine x_iload_n C dX6_isGood_23 2 rfl (pc2 := 24) rfl ?_
      refine x_aload_n C dX6_isGood_24 0 rfl (pc2 := 25) rfl ?_
      refine x_get C hiX6 0 (mc_0 ad cI cZ _) rfl 0 (by decide) f7 (v := .ref (ad 1)) rfl dX6_isGood_25 (pc2 := 28) rfl ?_
      refine x_bipush (v := (27 : Int32)) C dX6_isGood_28 (by decide) (pc2 := 30) rfl ?_
      refine x_iload_n C dX6_isGood_30 1 rfl (pc2 := 31) rfl ?_
      refine x_iadd C dX6_isGood_31 (pc2 := 32) rfl ?_
      refine x_iald C h 1 0 (mc_1 ad cI cZ _) rfl dX6_isGood_32 (pc2 := 33) rfl (fun h => ?_)
      refine x_icmp_ge C h dX6_isGood_33 (tgt := 78) (by decide) (pc2 := 36) rfl (fun h => ?_) (fun h => ?_)
      · refine x_aload_n C dX6_isGood_78 0 rfl (pc2 := 79) rfl ?_
        refine x_iload_n C dX6_isGood_79 1 rfl (pc2 := 80) rfl ?_
        refine x_callVi (As := [.int x1]) (rest := []) (index := 201) (n := 1) C h (c_X6_isGoodSetting l D A ad cI cZ _ _) gX6_isGood_X6_isGoodSetting rfl (by decide +kernel) rfl rfl ⟨Nat.le_of_ble_eq_true rfl, Nat.le_of_ble_eq_true rfl⟩ (ci := 6) rfl rfl (mc_0 ad cI cZ _) (MW_D ad cI cZ _) rfl rfl (Nat.le_of_ble_eq_true rfl) dX6_isGood_80 (pc2 := 83) rfl (fun r3 u3 h => ?_)
        refine x_if_eq C h dX6_isGood_83 (tgt := 90) (by decide) (pc2 := 86) rfl (fun h => ?_) (fun h => ?_)
        · refine x_iconst (v := (0 : Int32)) C dX6_isGood_90 (by decide) (pc2 := 91) rfl ?_
          exact x_iret C hr hlocks h dX6_isGood_91
        · refine x_iconst (v := (1 : Int32)) C dX6_isGood_86 (by decide) (pc2 := 87) rfl ?_
          refine x_goto C dX6_isGood_87 (pc2 := 91) (by decide) ?_
          exact x_iret C hr hlocks h dX6_isGood_91
      · refine x_aload_n C dX6_isGood_36 0 rfl (pc2 := 37) rfl ?_
        refine x_get C hiX6 0 (mc_0 ad cI cZ _) rfl 23 (by decide) f41 (v := .ref (ad 11)) rfl dX6_isGood_37 (pc2 := 40) rfl ?_
        refine x_iload_n C dX6_isGood_40 2 rfl (pc2 := 41) rfl ?_
        refine x_aload_n C dX6_isGood_41 0 rfl (pc2 := 42) rfl ?_
        refine x_get C hiX6 0 (mc_0 ad cI cZ _) rfl 3 (by decide) f20 (v := .ref (ad 4)) rfl dX6_isGood_42 (pc2 := 45) rfl ?_
        refine x_iconst (v := (2 : Int32)) C dX6_isGood_45 (by decide) (pc2 := 46) rfl ?_
        refine x_iload_n C dX6_isGood_46 2 rfl (pc2 := 47) rfl ?_
        refine x_imul C dX6_isGood_47 (pc2 := 48) rfl ?_
        refine x_iald C h 4 0 (mc_4 ad cI cZ _) rfl dX6_isGood_48 (pc2 := 49) rfl (fun h => ?_)
        refine x_bipush (v := (48 : Int32)) C dX6_isGood_49 (by decide) (pc2 := 51) rfl ?_
        refine x_isub C dX6_isGood_51 (pc2 := 52) rfl ?_
        refine x_iast C h 11 0 (mc_11 ad cI cZ _) rfl (u2 := (put u 11 (x2).toNatClampNeg ((u 4 (((2 : Int32) * x2)).toNatClampNeg) - (48 : Int32)))) (ms_11 ad cI cZ _ _ _) dX6_isGood_52 (pc2 := 53) rfl (fun h => ?_)
        refine x_aload_n C dX6_isGood_53 0 rfl (pc2 := 54) rfl ?_
        refine x_get C hiX6 0 (mc_0 ad cI cZ _) rfl 24 (by decide) f44 (v := .ref (ad 12)) rfl dX6_isGood_54 (pc2 := 57) rfl ?_
        refine x_iload_n C dX6_isGood_57 2 rfl (pc2 := 58) rfl ?_
        refine x_aload_n C dX6_isGood_58 0 rfl (pc2 := 59) rfl ?_
        refine x_get C hiX6 0 (mc_0 ad cI cZ _) rfl 3 (by decide) f20 (v := .ref (ad 4)) rfl dX6_isGood_59 (pc2 := 62) rfl ?_
        refine x_iconst (v := (2 : Int32)) C dX6_isGood_62 (by decide) (pc2 := 63) rfl ?_
        refine x_iload_n C dX6_isGood_63 2 rfl (pc2 := 64) rfl ?_
        refine x_imul C dX6_isGood_64 (pc2 := 65) rfl ?_
        refine x_iconst (v := (1 : Int32)) C dX6_isGood_65 (by decide) (pc2 := 66) rfl ?_
        refine x_iadd C dX6_isGood_66 (pc2 := 67) rfl ?_
        refine x_iald C h 4 0 (mc_4 ad cI cZ _) rfl dX6_isGood_67 (pc2 := 68) rfl (fun h => ?_)
        refine x_tope (y := (u 4 ((((2 : Int32) * x2) + (1 : Int32))).toNatClampNeg)) rfl ?_
        refine x_bipush (v := (48 : Int32)) C dX6_isGood_68 (by decide) (pc2 := 70) rfl ?_
        refine x_isub C dX6_isGood_70 (pc2 := 71) rfl ?_
        refine x_iast C h 12 0 (mc_12 ad cI cZ _) rfl (u2 := (put (put u 11 (x2).toNatClampNeg ((u 4 (((2 : Int32) * x2)).toNatClampNeg) - (48 : Int32))) 12 (x2).toNatClampNeg ((u 4 ((((2 : Int32) * x2) + (1 : Int32))).toNatClampNeg) - (48 : Int32)))) (ms_12 ad cI cZ _ _ _) dX6_isGood_71 (pc2 := 72) rfl (fun h => ?_)
        refine x_iinc C dX6_isGood_72 2 rfl (1 : Int32) (by decide) rfl (by decide) (lv2 := [(2, .int (x2 + (1 : Int32))), (0, .ref (ad 0)), (1, .int x1)]) rfl (pc2 := 75) rfl ?_
        refine x_goto C dX6_isGood_75 (pc2 := 23) (by decide) ?_
        refine x_sub [1, 2, 0] (lv2 := [(0, .ref (ad 0)), (1, .int x1), (2, .int (x2 + (1 : Int32)))]) rfl ?_
        exact ih _ _ _ h
  refine x_aload_n C dX6_isGood_0 0 rfl (pc2 := 1) rfl ?_
  refine x_iload_n C dX6_isGood_1 1 rfl (pc2 := 2) rfl ?_
  refine x_callVi (As := [.int x1]) (rest := []) (index := 59) (n := 1) C h (c_X6_isPanel l D A ad cI cZ _ _) gX6_isGood_X6_isPanel rfl (by decide +kernel) rfl rfl ⟨Nat.le_of_ble_eq_true rfl, Nat.le_of_ble_eq_true rfl⟩ (ci := 6) rfl rfl (mc_0 ad cI cZ _) (MW_D ad cI cZ _) rfl rfl (Nat.le_of_ble_eq_true rfl) dX6_isGood_2 (pc2 := 5) rfl (fun r1 u1 h => ?_)
  refine x_if_ne C h dX6_isGood_5 (tgt := 10) (by decide) (pc2 := 8) rfl (fun h => ?_) (fun h => ?_)
  · refine x_aload_n C dX6_isGood_10 0 rfl (pc2 := 11) rfl ?_
    refine x_iload_n C dX6_isGood_11 1 rfl (pc2 := 12) rfl ?_
    refine x_callVi (As := [.int x1]) (rest := []) (index := 213) (n := 1) C h (c_X6_isSetting l D A ad cI cZ _ _) gX6_isGood_X6_isSetting rfl (by decide +kernel) rfl rfl ⟨Nat.le_of_ble_eq_true rfl, Nat.le_of_ble_eq_true rfl⟩ (ci := 6) rfl rfl (mc_0 ad cI cZ _) (MW_D ad cI cZ _) rfl rfl (Nat.le_of_ble_eq_true rfl) dX6_isGood_12 (pc2 := 15) rfl (fun r2 u2 h => ?_)
    refine x_if_ne C h dX6_isGood_15 (tgt := 21) (by decide) (pc2 := 18) rfl (fun h => ?_) (fun h => ?_)
    · refine x_iconst (v := (0 : Int32)) C dX6_isGood_21 (by decide) (pc2 := 22) rfl ?_
      refine x_istore_n C dX6_isGood_22 (by decide) (lv2 := [(2, .int (0 : Int32)), (0, .ref (ad 0)), (1, .int x1)]) rfl (pc2 := 23) rfl ?_
      refine x_sub [1, 2, 0] (lv2 := [(0, .ref (ad 0)), (1, .int x1), (2, .int (0 : Int32))]) rfl ?_
      exact J23 FU _ _ _ h
    · refine x_bipush (v := (-7 : Int32)) C dX6_isGood_18 (by decide) (pc2 := 20) rfl ?_
      exact x_iret C hr hlocks h dX6_isGood_20
  · refine x_iconst (v := (-1 : Int32)) C dX6_isGood_8 (by decide) (pc2 := 9) rfl ?_
    exact x_iret C hr hlocks h dX6_isGood_9
set_option maxRecDepth 100000 in
set_option maxHeartbeats 4000000 in
theorem c_X6_image (l : Launch) (D : va_G) (A : Nat → Prop) (ad : Nat → Nat) (cI cZ : ClassId) (u : Mem) (x1 : Int32) : Cti l yX6_image wsX6_image { frames := 1, cells := 0, slots := 0, locals := 22 } D A (MW ad cI cZ) [(cI, .int), (cZ, .boolean)] [.ref (ad 0), .int x1] u (e_X6_image u x1) := by
  intro r ur h
  refine Met.ofW (cc := cX6_image) (maxL := 3) (ret := (some .int)) (by decide) rfl ?_
  intro p e s m args below meth c s₁ B hml hv
  obtain ⟨hav, hP, hK, hD⟩ := hv
  have C : Cx p m c cX6_image 3 s args wsX6_image RX6 D [(cI, .int), (cZ, .boolean)] := ⟨⟨B.exec, B.bytes, hml, findClass_of_methodNamed B.named, atoms_spec (ws := wsX6_image) B.pre⟩, hK⟩
  have hr := B.returns
  have hlocks := B.notSynchronized
  have hiX6 : ∀ w ∈ wsX60, w ∈ wsX6_image := by decide +kernel
  have f13 : Cond.fieldLink RX6 13 "PanelPagesModel" "images" "[I" ∈ wsX6_image := by decide +kernel
  have f16 : Cond.fieldLink RX6 16 "PanelPagesModel" "isKept" "[Z" ∈ wsX6_image := by decide +kernel
  have f7 : Cond.fieldLink RX6 7 "PanelPagesModel" "state" "[I" ∈ wsX6_image := by decide +kernel
  refine x_entry2 (lv := [(0, .ref (ad 0)), (1, .int x1)]) hav hP hD (Nat.le_of_ble_eq_true rfl) rfl ?_
  unfold e_X6_image at h
  have J14 : ∀ (f : Nat) (u : Mem) (x1 : Int32) (x2 : Int32), e_X6_image_L14 f u x1 x2 = some (r, ur) → Wx p l e (headSpec wsX6_image { frames := 1, cells := 0, slots := 0, locals := 22 }).room s m args below meth c (MQ below (Qix D A (MW ad cI cZ) r ur) args s 0 0 A) D A 3 (MW ad cI cZ) u 14 [(0, .ref (ad 0)), (1, .int x1), (2, .int x2)] [] := by
    intro f
    induction f with
    | zero => intro u x1 x2 h; cases h
    | succ f ih =>
      intro u x1 x2 h
      replace h : e_X6_image_L14_b (e_X6_image_L14 f) u x1 x2 = some (r, ur) := h
      unfold e_X6_image_L14_b at h
      refine x_iload_n C dX6_image_14 2 rfl (pc2 := 15) rfl ?_
      refine x_bipush (v := (74 : Int32)) C dX6_image_15 (by decide) (pc2 := 17) rfl ?_
      refine x_icmp_ge C h dX6_image_17 (tgt := 43) (by decide) (pc2 := 20) rfl (fun h => ?_) (fun h => ?_)
      · refine x_aload_n C dX6_image_43 0 rfl (pc2 := 44) rfl ?_
        refine x_get C hiX6 0 (mc_0 ad cI cZ _) rfl 2 (by decide) f16 (v := .ref (ad 3)) rfl dX6_image_44 (pc2 := 47) rfl ?_
        refine x_iload_n C dX6_image_47 1 rfl (pc2 := 48) rfl ?_
        refine x_iconst (v := (1 : Int32)) C dX6_image_48 (by decide) (pc2 := 49) rfl ?_
        refine x_zast C h 3 1 (mc_3 ad cI cZ _) rfl (by decide) (u2 := (put u 3 (x1).toNatClampNeg (1 : Int32))) (ms_3 ad cI cZ _ _ _) dX6_image_49 (pc2 := 50) rfl (fun h => ?_)
        refine x_iconst (v := (1 : Int32)) C dX6_image_50 (by decide) (pc2 := 51) rfl ?_
        exact x_iret C hr hlocks h dX6_image_51
      · refine x_aload_n C dX6_image_20 0 rfl (pc2 := 21) rfl ?_
        refine x_get C hiX6 0 (mc_0 ad cI cZ _) rfl 1 (by decide) f13 (v := .ref (ad 2)) rfl dX6_image_21 (pc2 := 24) rfl ?_
        refine x_bipush (v := (74 : Int32)) C dX6_image_24 (by decide) (pc2 := 26) rfl ?_
        refine x_iload_n C dX6_image_26 1 rfl (pc2 := 27) rfl ?_
        refine x_imul C dX6_image_27 (pc2 := 28) rfl ?_
        refine x_iload_n C dX6_image_28 2 rfl (pc2 := 29) rfl ?_
        refine x_iadd C dX6_image_29 (pc2 := 30) rfl ?_
        refine x_aload_n C dX6_image_30 0 rfl (pc2 := 31) rfl ?_
        refine x_get C hiX6 0 (mc_0 ad cI cZ _) rfl 0 (by decide) f7 (v := .ref (ad 1)) rfl dX6_image_31 (pc2 := 34) rfl ?_
        refine x_iload_n C dX6_image_34 2 rfl (pc2 := 35) rfl ?_
        refine x_iald C h 1 0 (mc_1 ad cI cZ _) rfl dX6_image_35 (pc2 := 36) rfl (fun h => ?_)
        refine x_iast C h 2 0 (mc_2 ad cI cZ _) rfl (u2 := (put u 2 ((((74 : Int32) * x1) + x2)).toNatClampNeg (u 1 (x2).toNatClampNeg))) (ms_2 ad cI cZ _ _ _) dX6_image_36 (pc2 := 37) rfl (fun h => ?_)
        refine x_iinc C dX6_image_37 2 rfl (1 : Int32) (by decide) rfl (by decide) (lv2 := [(2, .int (x2 + (1 : Int32))), (0, .ref (ad 0)), (1, .int x1)]) rfl (pc2 := 40) rfl ?_
        refine x_goto C dX6_image_40 (pc2 := 14) (by decide) ?_
        refine x_sub [1, 2, 0] (lv2 := [(0, .ref (ad 0)), (1, .int x1), (2, .int (x2 + (1 : Int32)))]) rfl ?_
        exact ih _ _ _ h
  refine x_iload_n C dX6_image_0 1 rfl (pc2 := 1) rfl ?_
  refine x_iconst (v := (0 : Int32)) C dX6_image_1 (by decide) (pc2 := 2) rfl ?_
  refine x_iconst (v := (1 : Int32)) C dX6_image_2 (by decide) (pc2 := 3) rfl ?_
  refine x_callSi (As := [.int x1, .int (0 : Int32), .int (1 : Int32)]) (rest := []) (index := 51) (n := 3) C h (c_X6_in l D A ad cI cZ _ _ _ _) gX6_image_X6_in rfl (by decide +kernel) rfl rfl ⟨Nat.le_of_ble_eq_true rfl, Nat.le_of_ble_eq_true rfl⟩ (MW_D ad cI cZ _) rfl rfl (Nat.le_of_ble_eq_true rfl) dX6_image_3 (pc2 := 6) rfl (fun r1 u1 h => ?_)
  refine x_if_ne C h dX6_image_6 (tgt := 12) (by decide) (pc2 := 9) rfl (fun h => ?_) (fun h => ?_)
  · refine x_iconst (v := (0 : Int32)) C dX6_image_12 (by decide) (pc2 := 13) rfl ?_
    refine x_istore_n C dX6_image_13 (by decide) (lv2 := [(2, .int (0 : Int32)), (0, .ref (ad 0)), (1, .int x1)]) rfl (pc2 := 14) rfl ?_
    refine x_sub [1, 2, 0] (lv2 := [(0, .ref (ad 0)), (1, .int x1), (2, .int (0 : Int32))]) rfl ?_
    exact J14 FU _ _ _ h
  · refine x_bipush (v := (-2 : Int32)) C dX6_image_9 (by decide) (pc2 := 11) rfl ?_
    exact x_iret C hr hlocks h dX6_image_11
set_option maxRecDepth 100000 in
set_option maxHeartbeats 4000000 in
theorem c_X6_restore (l : Launch) (D : va_G) (A : Nat → Prop) (ad : Nat → Nat) (cI cZ : ClassId) (u : Mem) (x1 : Int32) : Cti l yX6_restore wsX6_restore { frames := 1, cells := 0, slots := 0, locals := 22 } D A (MW ad cI cZ) [(cI, .int), (cZ, .boolean)] [.ref (ad 0), .int x1] u (e_X6_restore u x1) := by
  intro r ur h
  refine Met.ofW (cc := cX6_restore) (maxL := 3) (ret := (some .int)) (by decide) rfl ?_
  intro p e s m args below meth c s₁ B hml hv
  obtain ⟨hav, hP, hK, hD⟩ := hv
  have C : Cx p m c cX6_restore 3 s args wsX6_restore RX6 D [(cI, .int), (cZ, .boolean)] := ⟨⟨B.exec, B.bytes, hml, findClass_of_methodNamed B.named, atoms_spec (ws := wsX6_restore) B.pre⟩, hK⟩
  have hr := B.returns
  have hlocks := B.notSynchronized
  have hiX6 : ∀ w ∈ wsX60, w ∈ wsX6_restore := by decide +kernel
  have f13 : Cond.fieldLink RX6 13 "PanelPagesModel" "images" "[I" ∈ wsX6_restore := by decide +kernel
  have f16 : Cond.fieldLink RX6 16 "PanelPagesModel" "isKept" "[Z" ∈ wsX6_restore := by decide +kernel
  have f7 : Cond.fieldLink RX6 7 "PanelPagesModel" "state" "[I" ∈ wsX6_restore := by decide +kernel
  refine x_entry2 (lv := [(0, .ref (ad 0)), (1, .int x1)]) hav hP hD (Nat.le_of_ble_eq_true rfl) rfl ?_
  unfold e_X6_restore at h
  have J26 : ∀ (f : Nat) (u : Mem) (x1 : Int32) (x2 : Int32), e_X6_restore_L26 f u x1 x2 = some (r, ur) → Wx p l e (headSpec wsX6_restore { frames := 1, cells := 0, slots := 0, locals := 22 }).room s m args below meth c (MQ below (Qix D A (MW ad cI cZ) r ur) args s 0 0 A) D A 3 (MW ad cI cZ) u 26 [(0, .ref (ad 0)), (1, .int x1), (2, .int x2)] [] := by
    intro f
    induction f with
    | zero => intro u x1 x2 h; cases h
    | succ f ih =>
      intro u x1 x2 h
      replace h : e_X6_restore_L26_b (e_X6_restore_L26 f) u x1 x2 = some (r, ur) := h
      unfold e_X6_restore_L26_b at h
      refine x_iload_n C dX6_restore_26 2 rfl (pc2 := 27) rfl ?_
      refine x_bipush (v := (74 : Int32)) C dX6_restore_27 (by decide) (pc2 := 29) rfl ?_
      refine x_icmp_ge C h dX6_restore_29 (tgt := 55) (by decide) (pc2 := 32) rfl (fun h => ?_) (fun h => ?_)
      · refine x_iconst (v := (1 : Int32)) C dX6_restore_55 (by decide) (pc2 := 56) rfl ?_
        exact x_iret C hr hlocks h dX6_restore_56
      · refine x_aload_n C dX6_restore_32 0 rfl (pc2 := 33) rfl ?_
        refine x_get C hiX6 0 (mc_0 ad cI cZ _) rfl 0 (by decide) f7 (v := .ref (ad 1)) rfl dX6_restore_33 (pc2 := 36) rfl ?_
        refine x_iload_n C dX6_restore_36 2 rfl (pc2 := 37) rfl ?_
        refine x_aload_n C dX6_restore_37 0 rfl (pc2 := 38) rfl ?_
        refine x_get C hiX6 0 (mc_0 ad cI cZ _) rfl 1 (by decide) f13 (v := .ref (ad 2)) rfl dX6_restore_38 (pc2 := 41) rfl ?_
        refine x_bipush (v := (74 : Int32)) C dX6_restore_41 (by decide) (pc2 := 43) rfl ?_
        refine x_iload_n C dX6_restore_43 1 rfl (pc2 := 44) rfl ?_
        refine x_imul C dX6_restore_44 (pc2 := 45) rfl ?_
        refine x_iload_n C dX6_restore_45 2 rfl (pc2 := 46) rfl ?_
        refine x_iadd C dX6_restore_46 (pc2 := 47) rfl ?_
        refine x_iald C h 2 0 (mc_2 ad cI cZ _) rfl dX6_restore_47 (pc2 := 48) rfl (fun h => ?_)
        refine x_iast C h 1 0 (mc_1 ad cI cZ _) rfl (u2 := (put u 1 (x2).toNatClampNeg (u 2 ((((74 : Int32) * x1) + x2)).toNatClampNeg))) (ms_1 ad cI cZ _ _ _) dX6_restore_48 (pc2 := 49) rfl (fun h => ?_)
        refine x_iinc C dX6_restore_49 2 rfl (1 : Int32) (by decide) rfl (by decide) (lv2 := [(2, .int (x2 + (1 : Int32))), (0, .ref (ad 0)), (1, .int x1)]) rfl (pc2 := 52) rfl ?_
        refine x_goto C dX6_restore_52 (pc2 := 26) (by decide) ?_
        refine x_sub [1, 2, 0] (lv2 := [(0, .ref (ad 0)), (1, .int x1), (2, .int (x2 + (1 : Int32)))]) rfl ?_
        exact ih _ _ _ h
  refine x_iload_n C dX6_restore_0 1 rfl (pc2 := 1) rfl ?_
  refine x_iconst (v := (0 : Int32)) C dX6_restore_1 (by decide) (pc2 := 2) rfl ?_
  refine x_iconst (v := (1 : Int32)) C dX6_restore_2 (by decide) (pc2 := 3) rfl ?_
  refine x_callSi (As := [.int x1, .int (0 : Int32), .int (1 : Int32)]) (rest := []) (index := 51) (n := 3) C h (c_X6_in l D A ad cI cZ _ _ _ _) gX6_restore_X6_in rfl (by decide +kernel) rfl rfl ⟨Nat.le_of_ble_eq_true rfl, Nat.le_of_ble_eq_true rfl⟩ (MW_D ad cI cZ _) rfl rfl (Nat.le_of_ble_eq_true rfl) dX6_restore_3 (pc2 := 6) rfl (fun r1 u1 h => ?_)
  refine x_if_ne C h dX6_restore_6 (tgt := 12) (by decide) (pc2 := 9) rfl (fun h => ?_) (fun h => ?_)
  · refine x_aload_n C dX6_restore_12 0 rfl (pc2 := 13) rfl ?_
    refine x_get C hiX6 0 (mc_0 ad cI cZ _) rfl 2 (by decide) f16 (v := .ref (ad 3)) rfl dX6_restore_13 (pc2 := 16) rfl ?_
    refine x_iload_n C dX6_restore_16 1 rfl (pc2 := 17) rfl ?_
    refine x_zald C h 3 1 (mc_3 ad cI cZ _) rfl dX6_restore_17 (pc2 := 18) rfl (fun h => ?_)
    refine x_if_ne C h dX6_restore_18 (tgt := 24) (by decide) (pc2 := 21) rfl (fun h => ?_) (fun h => ?_)
    · refine x_iconst (v := (0 : Int32)) C dX6_restore_24 (by decide) (pc2 := 25) rfl ?_
      refine x_istore_n C dX6_restore_25 (by decide) (lv2 := [(2, .int (0 : Int32)), (0, .ref (ad 0)), (1, .int x1)]) rfl (pc2 := 26) rfl ?_
      refine x_sub [1, 2, 0] (lv2 := [(0, .ref (ad 0)), (1, .int x1), (2, .int (0 : Int32))]) rfl ?_
      exact J26 FU _ _ _ h
    · refine x_bipush (v := (-3 : Int32)) C dX6_restore_21 (by decide) (pc2 := 23) rfl ?_
      exact x_iret C hr hlocks h dX6_restore_23
  · refine x_bipush (v := (-2 : Int32)) C dX6_restore_9 (by decide) (pc2 := 11) rfl ?_
    exact x_iret C hr hlocks h dX6_restore_11
set_option maxRecDepth 100000 in
set_option maxHeartbeats 4000000 in
theorem c_X6_balloons (l : Launch) (D : va_G) (A : Nat → Prop) (ad : Nat → Nat) (cI cZ : ClassId) (u : Mem)  : Cti l yX6_balloons wsX6_balloons { frames := 1, cells := 0, slots := 0, locals := 20 } D A (MW ad cI cZ) [(cI, .int), (cZ, .boolean)] [.ref (ad 0)] u (e_X6_balloons u ) := by
  intro r ur h
  refine Met.ofW (cc := cX6_balloons) (maxL := 3) (ret := (some .int)) (by decide) rfl ?_
  intro p e s m args below meth c s₁ B hml hv
  obtain ⟨hav, hP, hK, hD⟩ := hv
  have C : Cx p m c cX6_balloons 3 s args wsX6_balloons RX6 D [(cI, .int), (cZ, .boolean)] := ⟨⟨B.exec, B.bytes, hml, findClass_of_methodNamed B.named, atoms_spec (ws := wsX6_balloons) B.pre⟩, hK⟩
  have hr := B.returns
  have hlocks := B.notSynchronized
  have hiX6 : ∀ w ∈ wsX60, w ∈ wsX6_balloons := by decide +kernel
  have f7 : Cond.fieldLink RX6 7 "PanelPagesModel" "state" "[I" ∈ wsX6_balloons := by decide +kernel
  refine x_entry2 (lv := [(0, .ref (ad 0))]) hav hP hD (Nat.le_of_ble_eq_true rfl) rfl ?_
  unfold e_X6_balloons at h
  have J4 : ∀ (f : Nat) (u : Mem) (x1 : Int32) (x2 : Int32), e_X6_balloons_L4 f u x1 x2 = some (r, ur) → Wx p l e (headSpec wsX6_balloons { frames := 1, cells := 0, slots := 0, locals := 20 }).room s m args below meth c (MQ below (Qix D A (MW ad cI cZ) r ur) args s 0 0 A) D A 3 (MW ad cI cZ) u 4 [(0, .ref (ad 0)), (1, .int x1), (2, .int x2)] [] := by
    intro f
    induction f with
    | zero => intro u x1 x2 h; cases h
    | succ f ih =>
      intro u x1 x2 h
      replace h : e_X6_balloons_L4_b (e_X6_balloons_L4 f) u x1 x2 = some (r, ur) := h
      unfold e_X6_balloons_L4_b at h
      refine x_iload_n C dX6_balloons_4 2 rfl (pc2 := 5) rfl ?_
      refine x_aload_n C dX6_balloons_5 0 rfl (pc2 := 6) rfl ?_
      refine x_callVi (As := []) (rest := [.int x2]) (index := 47) (n := 0) C h (c_X6_many l D A ad cI cZ _ ) gX6_balloons_X6_many rfl (by decide +kernel) rfl rfl ⟨Nat.le_of_ble_eq_true rfl, Nat.le_of_ble_eq_true rfl⟩ (ci := 6) rfl rfl (mc_0 ad cI cZ _) (MW_D ad cI cZ _) rfl rfl (Nat.le_of_ble_eq_true rfl) dX6_balloons_6 (pc2 := 9) rfl (fun r1 u1 h => ?_)
      refine x_icmp_ge C h dX6_balloons_9 (tgt := 30) (by decide) (pc2 := 12) rfl (fun h => ?_) (fun h => ?_)
      · refine x_iload_n C dX6_balloons_30 1 rfl (pc2 := 31) rfl ?_
        exact x_iret C hr hlocks h dX6_balloons_31
      · refine x_iload_n C dX6_balloons_12 1 rfl (pc2 := 13) rfl ?_
        refine x_aload_n C dX6_balloons_13 0 rfl (pc2 := 14) rfl ?_
        refine x_get C hiX6 0 (mc_0 ad cI cZ _) rfl 0 (by decide) f7 (v := .ref (ad 1)) rfl dX6_balloons_14 (pc2 := 17) rfl ?_
        refine x_bipush (v := (27 : Int32)) C dX6_balloons_17 (by decide) (pc2 := 19) rfl ?_
        refine x_iload_n C dX6_balloons_19 2 rfl (pc2 := 20) rfl ?_
        refine x_iadd C dX6_balloons_20 (pc2 := 21) rfl ?_
        refine x_iald C h 1 0 (mc_1 ad cI cZ _) rfl dX6_balloons_21 (pc2 := 22) rfl (fun h => ?_)
        refine x_iadd C dX6_balloons_22 (pc2 := 23) rfl ?_
        refine x_istore_n C dX6_balloons_23 (by decide) (lv2 := [(1, .int (x1 + (u1 1 (((27 : Int32) + x2)).toNatClampNeg))), (0, .ref (ad 0)), (2, .int x2)]) rfl (pc2 := 24) rfl ?_
        refine x_iinc C dX6_balloons_24 2 rfl (1 : Int32) (by decide) rfl (by decide) (lv2 := [(2, .int (x2 + (1 : Int32))), (1, .int (x1 + (u1 1 (((27 : Int32) + x2)).toNatClampNeg))), (0, .ref (ad 0))]) rfl (pc2 := 27) rfl ?_
        refine x_goto C dX6_balloons_27 (pc2 := 4) (by decide) ?_
        refine x_sub [2, 1, 0] (lv2 := [(0, .ref (ad 0)), (1, .int (x1 + (u1 1 (((27 : Int32) + x2)).toNatClampNeg))), (2, .int (x2 + (1 : Int32)))]) rfl ?_
        exact ih _ _ _ h
  refine x_iconst (v := (0 : Int32)) C dX6_balloons_0 (by decide) (pc2 := 1) rfl ?_
  refine x_istore_n C dX6_balloons_1 (by decide) (lv2 := [(1, .int (0 : Int32)), (0, .ref (ad 0))]) rfl (pc2 := 2) rfl ?_
  refine x_iconst (v := (0 : Int32)) C dX6_balloons_2 (by decide) (pc2 := 3) rfl ?_
  refine x_istore_n C dX6_balloons_3 (by decide) (lv2 := [(2, .int (0 : Int32)), (1, .int (0 : Int32)), (0, .ref (ad 0))]) rfl (pc2 := 4) rfl ?_
  refine x_sub [2, 1, 0] (lv2 := [(0, .ref (ad 0)), (1, .int (0 : Int32)), (2, .int (0 : Int32))]) rfl ?_
  exact J4 FU _ _ _ h
set_option maxRecDepth 100000 in
set_option maxHeartbeats 4000000 in
theorem c_X6_count (l : Launch) (D : va_G) (A : Nat → Prop) (ad : Nat → Nat) (cI cZ : ClassId) (u : Mem) (x1 : Int32) : Cti l yX6_count wsX6_count { frames := 2, cells := 0, slots := 0, locals := 42 } D A (MW ad cI cZ) [(cI, .int), (cZ, .boolean)] [.ref (ad 0), .int x1] u (e_X6_count u x1) := by
  intro r ur h
  refine Met.ofW (cc := cX6_count) (maxL := 2) (ret := (some .int)) (by decide) rfl ?_
  intro p e s m args below meth c s₁ B hml hv
  obtain ⟨hav, hP, hK, hD⟩ := hv
  have C : Cx p m c cX6_count 2 s args wsX6_count RX6 D [(cI, .int), (cZ, .boolean)] := ⟨⟨B.exec, B.bytes, hml, findClass_of_methodNamed B.named, atoms_spec (ws := wsX6_count) B.pre⟩, hK⟩
  have hr := B.returns
  have hlocks := B.notSynchronized
  have hiX6 : ∀ w ∈ wsX60, w ∈ wsX6_count := by decide +kernel
  have f128 : Cond.fieldLink RX6 128 "PanelPagesModel" "said" "I" ∈ wsX6_count := by decide +kernel
  have f16 : Cond.fieldLink RX6 16 "PanelPagesModel" "isKept" "[Z" ∈ wsX6_count := by decide +kernel
  have f7 : Cond.fieldLink RX6 7 "PanelPagesModel" "state" "[I" ∈ wsX6_count := by decide +kernel
  refine x_entry2 (lv := [(0, .ref (ad 0)), (1, .int x1)]) hav hP hD (Nat.le_of_ble_eq_true rfl) rfl ?_
  unfold e_X6_count at h
  have J73 : ∀ (u : Mem) (s0 : Int32), e_X6_count_J73 u s0 = some (r, ur) → Wx p l e (headSpec wsX6_count { frames := 2, cells := 0, slots := 0, locals := 42 }).room s m args below meth c (MQ below (Qix D A (MW ad cI cZ) r ur) args s 0 0 A) D A 2 (MW ad cI cZ) u 73 [(0, .ref (ad 0))] [.int s0] := by
    intro u s0 h
    unfold e_X6_count_J73 at h
    refine x_aload_n C dX6_count_73 0 rfl (pc2 := 74) rfl ?_
    refine x_get C hiX6 0 (mc_0 ad cI cZ _) rfl 2 (by decide) f16 (v := .ref (ad 3)) rfl dX6_count_74 (pc2 := 77) rfl ?_
    refine x_iconst (v := (1 : Int32)) C dX6_count_77 (by decide) (pc2 := 78) rfl ?_
    refine x_zald C h 3 1 (mc_3 ad cI cZ _) rfl dX6_count_78 (pc2 := 79) rfl (fun h => ?_)
    refine x_if_eq C h dX6_count_79 (tgt := 86) (by decide) (pc2 := 82) rfl (fun h => ?_) (fun h => ?_)
    · refine x_iconst (v := (0 : Int32)) C dX6_count_86 (by decide) (pc2 := 87) rfl ?_
      refine x_iadd C dX6_count_87 (pc2 := 88) rfl ?_
      exact x_iret C hr hlocks h dX6_count_88
    · refine x_iconst (v := (2 : Int32)) C dX6_count_82 (by decide) (pc2 := 83) rfl ?_
      refine x_goto C dX6_count_83 (pc2 := 87) (by decide) ?_
      refine x_iadd C dX6_count_87 (pc2 := 88) rfl ?_
      exact x_iret C hr hlocks h dX6_count_88
  refine x_iload_n C dX6_count_0 1 rfl (pc2 := 1) rfl ?_
  by_cases q0 : x1 = (0 : Int32)
  · replace h := (if_pos q0).symm.trans h
    refine x_tabI C (0 : Int32) q0 dX6_count_1 (by decide) (by decide) (off := 35) (by decide) (tgt := 36) (by decide) ?_
    refine x_aload_n C dX6_count_36 0 rfl (pc2 := 37) rfl ?_
    refine x_callVi (As := []) (rest := []) (index := 47) (n := 0) C h (c_X6_many l D A ad cI cZ _ ) gX6_count_X6_many rfl (by decide +kernel) rfl rfl ⟨Nat.le_of_ble_eq_true rfl, Nat.le_of_ble_eq_true rfl⟩ (ci := 6) rfl rfl (mc_0 ad cI cZ _) (MW_D ad cI cZ _) rfl rfl (Nat.le_of_ble_eq_true rfl) dX6_count_37 (pc2 := 40) rfl (fun r1 u1 h => ?_)
    exact x_iret C hr hlocks h dX6_count_40
  replace h := (if_neg q0).symm.trans h
  by_cases q1 : x1 = (1 : Int32)
  · replace h := (if_pos q1).symm.trans h
    refine x_tabI C (1 : Int32) q1 dX6_count_1 (by decide) (by decide) (off := 40) (by decide) (tgt := 41) (by decide) ?_
    refine x_aload_n C dX6_count_41 0 rfl (pc2 := 42) rfl ?_
    refine x_get C hiX6 0 (mc_0 ad cI cZ _) rfl 0 (by decide) f7 (v := .ref (ad 1)) rfl dX6_count_42 (pc2 := 45) rfl ?_
    refine x_bipush (v := (73 : Int32)) C dX6_count_45 (by decide) (pc2 := 47) rfl ?_
    refine x_iald C h 1 0 (mc_1 ad cI cZ _) rfl dX6_count_47 (pc2 := 48) rfl (fun h => ?_)
    exact x_iret C hr hlocks h dX6_count_48
  replace h := (if_neg q1).symm.trans h
  by_cases q2 : x1 = (2 : Int32)
  · replace h := (if_pos q2).symm.trans h
    refine x_tabI C (2 : Int32) q2 dX6_count_1 (by decide) (by decide) (off := 48) (by decide) (tgt := 49) (by decide) ?_
    refine x_aload_n C dX6_count_49 0 rfl (pc2 := 50) rfl ?_
    refine x_get C hiX6 0 (mc_0 ad cI cZ _) rfl 4 (by decide) f128 (v := .int (u 0 4)) rfl dX6_count_50 (pc2 := 53) rfl ?_
    exact x_iret C hr hlocks h dX6_count_53
  replace h := (if_neg q2).symm.trans h
  by_cases q3 : x1 = (3 : Int32)
  · replace h := (if_pos q3).symm.trans h
    refine x_tabI C (3 : Int32) q3 dX6_count_1 (by decide) (by decide) (off := 53) (by decide) (tgt := 54) (by decide) ?_
    refine x_aload_n C dX6_count_54 0 rfl (pc2 := 55) rfl ?_
    refine x_callVi (As := []) (rest := []) (index := 216) (n := 0) C h (c_X6_balloons l D A ad cI cZ _ ) gX6_count_X6_balloons rfl (by decide +kernel) rfl rfl ⟨Nat.le_of_ble_eq_true rfl, Nat.le_of_ble_eq_true rfl⟩ (ci := 6) rfl rfl (mc_0 ad cI cZ _) (MW_D ad cI cZ _) rfl rfl (Nat.le_of_ble_eq_true rfl) dX6_count_55 (pc2 := 58) rfl (fun r2 u2 h => ?_)
    exact x_iret C hr hlocks h dX6_count_58
  replace h := (if_neg q3).symm.trans h
  by_cases q4 : x1 = (4 : Int32)
  · replace h := (if_pos q4).symm.trans h
    refine x_tabI C (4 : Int32) q4 dX6_count_1 (by decide) (by decide) (off := 58) (by decide) (tgt := 59) (by decide) ?_
    refine x_aload_n C dX6_count_59 0 rfl (pc2 := 60) rfl ?_
    refine x_get C hiX6 0 (mc_0 ad cI cZ _) rfl 2 (by decide) f16 (v := .ref (ad 3)) rfl dX6_count_60 (pc2 := 63) rfl ?_
    refine x_iconst (v := (0 : Int32)) C dX6_count_63 (by decide) (pc2 := 64) rfl ?_
    refine x_zald C h 3 1 (mc_3 ad cI cZ _) rfl dX6_count_64 (pc2 := 65) rfl (fun h => ?_)
    refine x_if_eq C h dX6_count_65 (tgt := 72) (by decide) (pc2 := 68) rfl (fun h => ?_) (fun h => ?_)
    · refine x_iconst (v := (0 : Int32)) C dX6_count_72 (by decide) (pc2 := 73) rfl ?_
      refine x_sub [0] (lv2 := [(0, .ref (ad 0))]) rfl ?_
      exact J73 _ _ h
    · refine x_iconst (v := (1 : Int32)) C dX6_count_68 (by decide) (pc2 := 69) rfl ?_
      refine x_goto C dX6_count_69 (pc2 := 73) (by decide) ?_
      refine x_sub [0] (lv2 := [(0, .ref (ad 0))]) rfl ?_
      exact J73 _ _ h
  replace h := (if_neg q4).symm.trans h
  have n0 := tab_ne q0
  have n1 := tab_ne q1
  have n2 := tab_ne q2
  have n3 := tab_ne q3
  have n4 := tab_ne q4
  refine x_tabO C dX6_count_1 (by rw [show ((0 : Int32)).toInt = 0 from rfl] at n0; rw [show ((1 : Int32)).toInt = 1 from rfl] at n1; rw [show ((2 : Int32)).toInt = 2 from rfl] at n2; rw [show ((3 : Int32)).toInt = 3 from rfl] at n3; rw [show ((4 : Int32)).toInt = 4 from rfl] at n4; omega) (tgt := 89) (by decide) ?_
  refine x_bipush (v := (-2 : Int32)) C dX6_count_89 (by decide) (pc2 := 91) rfl ?_
  exact x_iret C hr hlocks h dX6_count_91
