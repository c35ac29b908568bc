set_option maxRecDepth 100000 in
set_option maxHeartbeats 4000000 in
theorem c_X1_pageHeightWith (l : Launch) (D : va_G) (A : Nat → Prop) (ad : Nat → Nat) (cI cB : ClassId) (u : Mem) (x2 : Int32) (x3 : Int32) : Cti l yX1_pageHeightWith wsX1_pageHeightWith { frames := 1, cells := 0, slots := 0, locals := 40 } D A (XW ad cI cB) [(cI, .int), (cB, .object "PanelPages$Book")] [.ref (ad 9), .ref (ad 1), .int x2, .int x3] u (e_X1_pageHeightWith u x2 x3) := by
  intro r ur h
  refine Met.ofW (cc := cX1_pageHeightWith) (maxL := 5) (ret := (some .int)) (by decide) rfl ?_
  intro p e s m args below meth c s₁ B hml hv
  obtain ⟨hav, hP, hK, hD⟩ := hv
  have C : Cx p m c cX1_pageHeightWith 5 s args wsX1_pageHeightWith RX1 D [(cI, .int), (cB, .object "PanelPages$Book")] := ⟨⟨B.exec, B.bytes, hml, findClass_of_methodNamed B.named, atoms_spec (ws := wsX1_pageHeightWith) B.pre⟩, hK⟩
  have hr := B.returns
  have hlocks := B.notSynchronized
  have hiX0 : ∀ w ∈ wsX00, w ∈ wsX1_pageHeightWith := by decide +kernel
  have hiX1 : ∀ w ∈ wsX10, w ∈ wsX1_pageHeightWith := by decide +kernel
  have f40 : Cond.fieldLink RX1 40 "PanelPages$Layout" "heightAbove" "[I" ∈ wsX1_pageHeightWith := by decide +kernel
  have f43 : Cond.fieldLink RX1 43 "PanelPages$Layout" "height" "[I" ∈ wsX1_pageHeightWith := by decide +kernel
  have f84 : Cond.fieldLink RX1 84 "PanelPages$Book" "tall" "[I" ∈ wsX1_pageHeightWith := by decide +kernel
  refine x_entry2 (lv := [(0, .ref (ad 9)), (1, .ref (ad 1)), (2, .int x2), (3, .int x3)]) hav hP hD (Nat.le_of_ble_eq_true rfl) rfl ?_
  unfold e_X1_pageHeightWith at h
  refine x_aload_n C dX1_pageHeightWith_0 1 rfl (pc2 := 1) rfl ?_
  refine x_get C hiX0 1 (xc_1 ad cI cB _) rfl 3 (by decide) f84 (v := .ref (ad 3)) rfl dX1_pageHeightWith_1 (pc2 := 4) rfl ?_
  refine x_iload_n C dX1_pageHeightWith_4 2 rfl (pc2 := 5) rfl ?_
  refine x_iald C h 3 0 (xc_3 ad cI cB _) rfl dX1_pageHeightWith_5 (pc2 := 6) rfl (fun h => ?_)
  refine x_istore C dX1_pageHeightWith_6 (by decide) (lv2 := [(4, .int (u 3 (x2).toNatClampNeg)), (0, .ref (ad 9)), (1, .ref (ad 1)), (2, .int x2), (3, .int x3)]) rfl (pc2 := 8) rfl ?_
  refine x_iload_n C dX1_pageHeightWith_8 4 rfl (pc2 := 9) rfl ?_
  refine x_iconst (v := (2 : Int32)) C dX1_pageHeightWith_9 (by decide) (pc2 := 10) rfl ?_
  refine x_icmp_eq C h dX1_pageHeightWith_10 (tgt := 18) (by decide) (pc2 := 13) rfl (fun h => ?_) (fun h => ?_)
  · refine x_iload C dX1_pageHeightWith_18 0 rfl (pc2 := 20) rfl ?_
    exact x_iret C hr hlocks h dX1_pageHeightWith_20
  · refine x_iload_n C dX1_pageHeightWith_13 3 rfl (pc2 := 14) rfl ?_
    refine x_iconst (v := (1 : Int32)) C dX1_pageHeightWith_14 (by decide) (pc2 := 15) rfl ?_
    refine x_icmp_ge C h dX1_pageHeightWith_15 (tgt := 21) (by decide) (pc2 := 18) rfl (fun h => ?_) (fun h => ?_)
    · refine x_iload_n C dX1_pageHeightWith_21 4 rfl (pc2 := 22) rfl ?_
      refine x_iconst (v := (1 : Int32)) C dX1_pageHeightWith_22 (by decide) (pc2 := 23) rfl ?_
      refine x_icmp_ne C h dX1_pageHeightWith_23 (tgt := 47) (by decide) (pc2 := 26) rfl (fun h => ?_) (fun h => ?_)
      · refine x_aload_n C dX1_pageHeightWith_47 1 rfl (pc2 := 48) rfl ?_
        refine x_get C hiX1 9 (xc_9 ad cI cB _) rfl 9 (by decide) f40 (v := .ref (ad 14)) rfl dX1_pageHeightWith_48 (pc2 := 51) rfl ?_
        refine x_iload_n C dX1_pageHeightWith_51 3 rfl (pc2 := 52) rfl ?_
        refine x_iconst (v := (1 : Int32)) C dX1_pageHeightWith_52 (by decide) (pc2 := 53) rfl ?_
        refine x_isub C dX1_pageHeightWith_53 (pc2 := 54) rfl ?_
        refine x_iald C h 14 0 (xc_14 ad cI cB _) rfl dX1_pageHeightWith_54 (pc2 := 55) rfl (fun h => ?_)
        refine x_aload_n C dX1_pageHeightWith_55 1 rfl (pc2 := 56) rfl ?_
        refine x_get C hiX1 9 (xc_9 ad cI cB _) rfl 10 (by decide) f43 (v := .ref (ad 15)) rfl dX1_pageHeightWith_56 (pc2 := 59) rfl ?_
        refine x_iload_n C dX1_pageHeightWith_59 3 rfl (pc2 := 60) rfl ?_
        refine x_iconst (v := (1 : Int32)) C dX1_pageHeightWith_60 (by decide) (pc2 := 61) rfl ?_
        refine x_isub C dX1_pageHeightWith_61 (pc2 := 62) rfl ?_
        refine x_iald C h 15 0 (xc_15 ad cI cB _) rfl dX1_pageHeightWith_62 (pc2 := 63) rfl (fun h => ?_)
        refine x_iload C dX1_pageHeightWith_63 0 rfl (pc2 := 65) rfl ?_
        refine x_mmax (index := 87) C (by decide +kernel) (by decide +kernel) (by decide +kernel) (by decide +kernel) (Nat.le_of_ble_eq_true rfl) (Nat.le_of_ble_eq_true rfl) dX1_pageHeightWith_65 (pc2 := 68) rfl ?_
        refine x_iadd C dX1_pageHeightWith_68 (pc2 := 69) rfl ?_
        exact x_iret C hr hlocks h dX1_pageHeightWith_69
      · refine x_aload_n C dX1_pageHeightWith_26 1 rfl (pc2 := 27) rfl ?_
        refine x_get C hiX1 9 (xc_9 ad cI cB _) rfl 9 (by decide) f40 (v := .ref (ad 14)) rfl dX1_pageHeightWith_27 (pc2 := 30) rfl ?_
        refine x_iload_n C dX1_pageHeightWith_30 3 rfl (pc2 := 31) rfl ?_
        refine x_iconst (v := (1 : Int32)) C dX1_pageHeightWith_31 (by decide) (pc2 := 32) rfl ?_
        refine x_isub C dX1_pageHeightWith_32 (pc2 := 33) rfl ?_
        refine x_iald C h 14 0 (xc_14 ad cI cB _) rfl dX1_pageHeightWith_33 (pc2 := 34) rfl (fun h => ?_)
        refine x_aload_n C dX1_pageHeightWith_34 1 rfl (pc2 := 35) rfl ?_
        refine x_get C hiX1 9 (xc_9 ad cI cB _) rfl 10 (by decide) f43 (v := .ref (ad 15)) rfl dX1_pageHeightWith_35 (pc2 := 38) rfl ?_
        refine x_iload_n C dX1_pageHeightWith_38 3 rfl (pc2 := 39) rfl ?_
        refine x_iconst (v := (1 : Int32)) C dX1_pageHeightWith_39 (by decide) (pc2 := 40) rfl ?_
        refine x_isub C dX1_pageHeightWith_40 (pc2 := 41) rfl ?_
        refine x_iald C h 15 0 (xc_15 ad cI cB _) rfl dX1_pageHeightWith_41 (pc2 := 42) rfl (fun h => ?_)
        refine x_iadd C dX1_pageHeightWith_42 (pc2 := 43) rfl ?_
        refine x_iload C dX1_pageHeightWith_43 0 rfl (pc2 := 45) rfl ?_
        refine x_iadd C dX1_pageHeightWith_45 (pc2 := 46) rfl ?_
        exact x_iret C hr hlocks h dX1_pageHeightWith_46
    · refine x_iload C dX1_pageHeightWith_18 0 rfl (pc2 := 20) rfl ?_
      exact x_iret C hr hlocks h dX1_pageHeightWith_20
set_option maxRecDepth 100000 in
set_option maxHeartbeats 4000000 in
theorem c_X1_whyNot (l : Launch) (D : va_G) (A : Nat → Prop) (ad : Nat → Nat) (cI cB : ClassId) (u : Mem) (x2 : Int32) (x3 : Int32) : Cti l yX1_whyNot wsX1_whyNot { frames := 2, cells := 0, slots := 0, locals := 64 } D A (XW ad cI cB) [(cI, .int), (cB, .object "PanelPages$Book")] [.ref (ad 9), .ref (ad 1), .int x2, .int x3] u (e_X1_whyNot u x2 x3) := by
  intro r ur h
  refine Met.ofW (cc := cX1_whyNot) (maxL := 4) (ret := (some .int)) (by decide) rfl ?_
  intro p e s m args below meth c s₁ B hml hv
  obtain ⟨hav, hP, hK, hD⟩ := hv
  have C : Cx p m c cX1_whyNot 4 s args wsX1_whyNot RX1 D [(cI, .int), (cB, .object "PanelPages$Book")] := ⟨⟨B.exec, B.bytes, hml, findClass_of_methodNamed B.named, atoms_spec (ws := wsX1_whyNot) B.pre⟩, hK⟩
  have hr := B.returns
  have hlocks := B.notSynchronized
  have hiX0 : ∀ w ∈ wsX00, w ∈ wsX1_whyNot := by decide +kernel
  have hiX1 : ∀ w ∈ wsX10, w ∈ wsX1_whyNot := by decide +kernel
  have f37 : Cond.fieldLink RX1 37 "PanelPages$Layout" "place" "[I" ∈ wsX1_whyNot := by decide +kernel
  have f81 : Cond.fieldLink RX1 81 "PanelPages$Book" "high" "I" ∈ wsX1_whyNot := by decide +kernel
  refine x_entry2 (lv := [(0, .ref (ad 9)), (1, .ref (ad 1)), (2, .int x2), (3, .int x3)]) hav hP hD (Nat.le_of_ble_eq_true rfl) rfl ?_
  unfold e_X1_whyNot at h
  have J81 : ∀ (u : Mem) (x2 : Int32) (x3 : Int32), e_X1_whyNot_J81 u x2 x3 = some (r, ur) → Wx p l e (headSpec wsX1_whyNot { frames := 2, cells := 0, slots := 0, locals := 64 }).room s m args below meth c (MQ below (Qix D A (XW ad cI cB) r ur) args s 0 0 A) D A 4 (XW ad cI cB) u 81 [(0, .ref (ad 9)), (1, .ref (ad 1)), (2, .int x2), (3, .int x3)] [] := by
    intro u x2 x3 h
    unfold e_X1_whyNot_J81 at h
    refine x_aload_n C dX1_whyNot_81 1 rfl (pc2 := 82) rfl ?_
    refine x_iload_n C dX1_whyNot_82 2 rfl (pc2 := 83) rfl ?_
    refine x_callVi (As := [.int x2]) (rest := []) (index := 75) (n := 1) C h (c_X0_isSpread l D A ad cI cB _ _) gX1_whyNot_X0_isSpread rfl (by decide +kernel) rfl rfl ⟨Nat.le_of_ble_eq_true rfl, Nat.le_of_ble_eq_true rfl⟩ (ci := 0) rfl rfl (xc_1 ad cI cB _) (XW_D ad cI cB _) rfl rfl (Nat.le_of_ble_eq_true rfl) dX1_whyNot_83 (pc2 := 86) rfl (fun r5 u5 h => ?_)
    refine x_if_ne C h dX1_whyNot_86 (tgt := 105) (by decide) (pc2 := 89) rfl (fun h => ?_) (fun h => ?_)
    · refine x_iconst (v := (0 : Int32)) C dX1_whyNot_105 (by decide) (pc2 := 106) rfl ?_
      exact x_iret C hr hlocks h dX1_whyNot_106
    · refine x_aload_n C dX1_whyNot_89 0 rfl (pc2 := 90) rfl ?_
      refine x_aload_n C dX1_whyNot_90 1 rfl (pc2 := 91) rfl ?_
      refine x_iload_n C dX1_whyNot_91 2 rfl (pc2 := 92) rfl ?_
      refine x_iload_n C dX1_whyNot_92 3 rfl (pc2 := 93) rfl ?_
      refine x_callVi (As := [.ref (ad 1), .int x2, .int x3]) (rest := []) (index := 78) (n := 3) C h (c_X1_pageHeightWith l D A ad cI cB _ _ _) gX1_whyNot_X1_pageHeightWith rfl (by decide +kernel) rfl rfl ⟨Nat.le_of_ble_eq_true rfl, Nat.le_of_ble_eq_true rfl⟩ (ci := 1) rfl rfl (xc_9 ad cI cB _) (XW_D ad cI cB _) rfl rfl (Nat.le_of_ble_eq_true rfl) dX1_whyNot_93 (pc2 := 96) rfl (fun r6 u6 h => ?_)
      refine x_aload_n C dX1_whyNot_96 1 rfl (pc2 := 97) rfl ?_
      refine x_get C hiX0 1 (xc_1 ad cI cB _) rfl 1 (by decide) f81 (v := .int (u6 1 1)) rfl dX1_whyNot_97 (pc2 := 100) rfl ?_
      refine x_icmp_le C h dX1_whyNot_100 (tgt := 105) (by decide) (pc2 := 103) rfl (fun h => ?_) (fun h => ?_)
      · refine x_iconst (v := (0 : Int32)) C dX1_whyNot_105 (by decide) (pc2 := 106) rfl ?_
        exact x_iret C hr hlocks h dX1_whyNot_106
      · refine x_iconst (v := (5 : Int32)) C dX1_whyNot_103 (by decide) (pc2 := 104) rfl ?_
        exact x_iret C hr hlocks h dX1_whyNot_104
  have J56 : ∀ (u : Mem) (x2 : Int32) (x3 : Int32), e_X1_whyNot_J56 u x2 x3 = some (r, ur) → Wx p l e (headSpec wsX1_whyNot { frames := 2, cells := 0, slots := 0, locals := 64 }).room s m args below meth c (MQ below (Qix D A (XW ad cI cB) r ur) args s 0 0 A) D A 4 (XW ad cI cB) u 56 [(0, .ref (ad 9)), (1, .ref (ad 1)), (2, .int x2), (3, .int x3)] [] := by
    intro u x2 x3 h
    unfold e_X1_whyNot_J56 at h
    refine x_iload_n C dX1_whyNot_56 3 rfl (pc2 := 57) rfl ?_
    refine x_iconst (v := (2 : Int32)) C dX1_whyNot_57 (by decide) (pc2 := 58) rfl ?_
    refine x_icmp_eq C h dX1_whyNot_58 (tgt := 81) (by decide) (pc2 := 61) rfl (fun h => ?_) (fun h => ?_)
    · exact J81 _ _ _ h
    · refine x_aload_n C dX1_whyNot_61 1 rfl (pc2 := 62) rfl ?_
      refine x_iload_n C dX1_whyNot_62 2 rfl (pc2 := 63) rfl ?_
      refine x_callVi (As := [.int x2]) (rest := []) (index := 72) (n := 1) C h (c_X0_wantsLeftPage l D A ad cI cB _ _) gX1_whyNot_X0_wantsLeftPage rfl (by decide +kernel) rfl rfl ⟨Nat.le_of_ble_eq_true rfl, Nat.le_of_ble_eq_true rfl⟩ (ci := 0) rfl rfl (xc_1 ad cI cB _) (XW_D ad cI cB _) rfl rfl (Nat.le_of_ble_eq_true rfl) dX1_whyNot_63 (pc2 := 66) rfl (fun r3 u3 h => ?_)
      refine x_if_ne C h dX1_whyNot_66 (tgt := 79) (by decide) (pc2 := 69) rfl (fun h => ?_) (fun h => ?_)
      · refine x_iconst (v := (4 : Int32)) C dX1_whyNot_79 (by decide) (pc2 := 80) rfl ?_
        exact x_iret C hr hlocks h dX1_whyNot_80
      · refine x_aload_n C dX1_whyNot_69 1 rfl (pc2 := 70) rfl ?_
        refine x_iload_n C dX1_whyNot_70 2 rfl (pc2 := 71) rfl ?_
        refine x_iconst (v := (1 : Int32)) C dX1_whyNot_71 (by decide) (pc2 := 72) rfl ?_
        refine x_isub C dX1_whyNot_72 (pc2 := 73) rfl ?_
        refine x_callVi (As := [.int (x2 - (1 : Int32))]) (rest := []) (index := 75) (n := 1) C h (c_X0_isSpread l D A ad cI cB _ _) gX1_whyNot_X0_isSpread rfl (by decide +kernel) rfl rfl ⟨Nat.le_of_ble_eq_true rfl, Nat.le_of_ble_eq_true rfl⟩ (ci := 0) rfl rfl (xc_1 ad cI cB _) (XW_D ad cI cB _) rfl rfl (Nat.le_of_ble_eq_true rfl) dX1_whyNot_73 (pc2 := 76) rfl (fun r4 u4 h => ?_)
        refine x_if_eq C h dX1_whyNot_76 (tgt := 81) (by decide) (pc2 := 79) rfl (fun h => ?_) (fun h => ?_)
        · exact J81 _ _ _ h
        · refine x_iconst (v := (4 : Int32)) C dX1_whyNot_79 (by decide) (pc2 := 80) rfl ?_
          exact x_iret C hr hlocks h dX1_whyNot_80
  have J32 : ∀ (u : Mem) (x2 : Int32) (x3 : Int32), e_X1_whyNot_J32 u x2 x3 = some (r, ur) → Wx p l e (headSpec wsX1_whyNot { frames := 2, cells := 0, slots := 0, locals := 64 }).room s m args below meth c (MQ below (Qix D A (XW ad cI cB) r ur) args s 0 0 A) D A 4 (XW ad cI cB) u 32 [(0, .ref (ad 9)), (1, .ref (ad 1)), (2, .int x2), (3, .int x3)] [] := by
    intro u x2 x3 h
    unfold e_X1_whyNot_J32 at h
    refine x_iload_n C dX1_whyNot_32 3 rfl (pc2 := 33) rfl ?_
    refine x_if_ne C h dX1_whyNot_33 (tgt := 56) (by decide) (pc2 := 36) rfl (fun h => ?_) (fun h => ?_)
    · exact J56 _ _ _ h
    · refine x_aload_n C dX1_whyNot_36 1 rfl (pc2 := 37) rfl ?_
      refine x_iload_n C dX1_whyNot_37 2 rfl (pc2 := 38) rfl ?_
      refine x_callVi (As := [.int x2]) (rest := []) (index := 68) (n := 1) C h (c_X0_wantsOwnTier l D A ad cI cB _ _) gX1_whyNot_X0_wantsOwnTier rfl (by decide +kernel) rfl rfl ⟨Nat.le_of_ble_eq_true rfl, Nat.le_of_ble_eq_true rfl⟩ (ci := 0) rfl rfl (xc_1 ad cI cB _) (XW_D ad cI cB _) rfl rfl (Nat.le_of_ble_eq_true rfl) dX1_whyNot_38 (pc2 := 41) rfl (fun r1 u1 h => ?_)
      refine x_if_ne C h dX1_whyNot_41 (tgt := 54) (by decide) (pc2 := 44) rfl (fun h => ?_) (fun h => ?_)
      · refine x_iconst (v := (3 : Int32)) C dX1_whyNot_54 (by decide) (pc2 := 55) rfl ?_
        exact x_iret C hr hlocks h dX1_whyNot_55
      · refine x_aload_n C dX1_whyNot_44 1 rfl (pc2 := 45) rfl ?_
        refine x_iload_n C dX1_whyNot_45 2 rfl (pc2 := 46) rfl ?_
        refine x_iconst (v := (1 : Int32)) C dX1_whyNot_46 (by decide) (pc2 := 47) rfl ?_
        refine x_isub C dX1_whyNot_47 (pc2 := 48) rfl ?_
        refine x_callVi (As := [.int (x2 - (1 : Int32))]) (rest := []) (index := 68) (n := 1) C h (c_X0_wantsOwnTier l D A ad cI cB _ _) gX1_whyNot_X0_wantsOwnTier rfl (by decide +kernel) rfl rfl ⟨Nat.le_of_ble_eq_true rfl, Nat.le_of_ble_eq_true rfl⟩ (ci := 0) rfl rfl (xc_1 ad cI cB _) (XW_D ad cI cB _) rfl rfl (Nat.le_of_ble_eq_true rfl) dX1_whyNot_48 (pc2 := 51) rfl (fun r2 u2 h => ?_)
        refine x_if_eq C h dX1_whyNot_51 (tgt := 56) (by decide) (pc2 := 54) rfl (fun h => ?_) (fun h => ?_)
        · exact J56 _ _ _ h
        · refine x_iconst (v := (3 : Int32)) C dX1_whyNot_54 (by decide) (pc2 := 55) rfl ?_
          exact x_iret C hr hlocks h dX1_whyNot_55
  have J12 : ∀ (u : Mem) (x2 : Int32) (x3 : Int32), e_X1_whyNot_J12 u x2 x3 = some (r, ur) → Wx p l e (headSpec wsX1_whyNot { frames := 2, cells := 0, slots := 0, locals := 64 }).room s m args below meth c (MQ below (Qix D A (XW ad cI cB) r ur) args s 0 0 A) D A 4 (XW ad cI cB) u 12 [(0, .ref (ad 9)), (1, .ref (ad 1)), (2, .int x2), (3, .int x3)] [] := by
    intro u x2 x3 h
    unfold e_X1_whyNot_J12 at h
    refine x_iload_n C dX1_whyNot_12 3 rfl (pc2 := 13) rfl ?_
    refine x_if_ne C h dX1_whyNot_13 (tgt := 32) (by decide) (pc2 := 16) rfl (fun h => ?_) (fun h => ?_)
    · exact J32 _ _ _ h
    · refine x_aload_n C dX1_whyNot_16 0 rfl (pc2 := 17) rfl ?_
      refine x_get C hiX1 9 (xc_9 ad cI cB _) rfl 8 (by decide) f37 (v := .ref (ad 13)) rfl dX1_whyNot_17 (pc2 := 20) rfl ?_
      refine x_iload_n C dX1_whyNot_20 2 rfl (pc2 := 21) rfl ?_
      refine x_iconst (v := (1 : Int32)) C dX1_whyNot_21 (by decide) (pc2 := 22) rfl ?_
      refine x_isub C dX1_whyNot_22 (pc2 := 23) rfl ?_
      refine x_iald C h 13 0 (xc_13 ad cI cB _) rfl dX1_whyNot_23 (pc2 := 24) rfl (fun h => ?_)
      refine x_iconst (v := (1 : Int32)) C dX1_whyNot_24 (by decide) (pc2 := 25) rfl ?_
      refine x_iadd C dX1_whyNot_25 (pc2 := 26) rfl ?_
      refine x_iconst (v := (4 : Int32)) C dX1_whyNot_26 (by decide) (pc2 := 27) rfl ?_
      refine x_icmp_lt C h dX1_whyNot_27 (tgt := 32) (by decide) (pc2 := 30) rfl (fun h => ?_) (fun h => ?_)
      · exact J32 _ _ _ h
      · refine x_iconst (v := (2 : Int32)) C dX1_whyNot_30 (by decide) (pc2 := 31) rfl ?_
        exact x_iret C hr hlocks h dX1_whyNot_31
  refine x_iload_n C dX1_whyNot_0 3 rfl (pc2 := 1) rfl ?_
  refine x_iconst (v := (2 : Int32)) C dX1_whyNot_1 (by decide) (pc2 := 2) rfl ?_
  refine x_icmp_eq C h dX1_whyNot_2 (tgt := 12) (by decide) (pc2 := 5) rfl (fun h => ?_) (fun h => ?_)
  · exact J12 _ _ _ h
  · refine x_iload_n C dX1_whyNot_5 2 rfl (pc2 := 6) rfl ?_
    refine x_iconst (v := (1 : Int32)) C dX1_whyNot_6 (by decide) (pc2 := 7) rfl ?_
    refine x_icmp_ge C h dX1_whyNot_7 (tgt := 12) (by decide) (pc2 := 10) rfl (fun h => ?_) (fun h => ?_)
    · exact J12 _ _ _ h
    · refine x_iconst (v := (1 : Int32)) C dX1_whyNot_10 (by decide) (pc2 := 11) rfl ?_
      exact x_iret C hr hlocks h dX1_whyNot_11
set_option maxRecDepth 100000 in
set_option maxHeartbeats 4000000 in
theorem c_X1_beginPage (l : Launch) (D : va_G) (A : Nat → Prop) (ad : Nat → Nat) (cI cB : ClassId) (u : Mem) (x2 : Int32) : Ctv l yX1_beginPage wsX1_beginPage { frames := 0, cells := 0, slots := 0, locals := 0 } D A (XW ad cI cB) [(cI, .int), (cB, .object "PanelPages$Book")] [.ref (ad 9), .ref (ad 1), .int x2] u (e_X1_beginPage u x2) := by
  intro ur h
  refine Met.ofW (cc := cX1_beginPage) (maxL := 3) (ret := none) (by decide) rfl ?_
  intro p e s m args below meth c s₁ B hml hv
  obtain ⟨hav, hP, hK, hD⟩ := hv
  have C : Cx p m c cX1_beginPage 3 s args wsX1_beginPage RX1 D [(cI, .int), (cB, .object "PanelPages$Book")] := ⟨⟨B.exec, B.bytes, hml, findClass_of_methodNamed B.named, atoms_spec (ws := wsX1_beginPage) B.pre⟩, hK⟩
  have hr := B.returns
  have hlocks := B.notSynchronized
  have hiX0 : ∀ w ∈ wsX00, w ∈ wsX1_beginPage := by decide +kernel
  have hiX1 : ∀ w ∈ wsX10, w ∈ wsX1_beginPage := by decide +kernel
  have f34 : Cond.fieldLink RX1 34 "PanelPages$Layout" "tierOnPage" "[I" ∈ wsX1_beginPage := by decide +kernel
  have f37 : Cond.fieldLink RX1 37 "PanelPages$Layout" "place" "[I" ∈ wsX1_beginPage := by decide +kernel
  have f40 : Cond.fieldLink RX1 40 "PanelPages$Layout" "heightAbove" "[I" ∈ wsX1_beginPage := by decide +kernel
  have f43 : Cond.fieldLink RX1 43 "PanelPages$Layout" "height" "[I" ∈ wsX1_beginPage := by decide +kernel
  have f46 : Cond.fieldLink RX1 46 "PanelPages$Layout" "gapsOnPage" "[I" ∈ wsX1_beginPage := by decide +kernel
  have f84 : Cond.fieldLink RX1 84 "PanelPages$Book" "tall" "[I" ∈ wsX1_beginPage := by decide +kernel
  refine x_entry2 (lv := [(0, .ref (ad 9)), (1, .ref (ad 1)), (2, .int x2)]) hav hP hD (Nat.le_of_ble_eq_true rfl) rfl ?_
  unfold e_X1_beginPage at h
  refine x_aload_n C dX1_beginPage_0 0 rfl (pc2 := 1) rfl ?_
  refine x_get C hiX1 9 (xc_9 ad cI cB _) rfl 7 (by decide) f34 (v := .ref (ad 12)) rfl dX1_beginPage_1 (pc2 := 4) rfl ?_
  refine x_iload_n C dX1_beginPage_4 2 rfl (pc2 := 5) rfl ?_
  refine x_iconst (v := (0 : Int32)) C dX1_beginPage_5 (by decide) (pc2 := 6) rfl ?_
  refine x_iast C h 12 0 (xc_12 ad cI cB _) rfl (u2 := (put u 12 (x2).toNatClampNeg (0 : Int32))) (xs_12 ad cI cB _ _ _) dX1_beginPage_6 (pc2 := 7) rfl (fun h => ?_)
  refine x_aload_n C dX1_beginPage_7 0 rfl (pc2 := 8) rfl ?_
  refine x_get C hiX1 9 (xc_9 ad cI cB _) rfl 8 (by decide) f37 (v := .ref (ad 13)) rfl dX1_beginPage_8 (pc2 := 11) rfl ?_
  refine x_iload_n C dX1_beginPage_11 2 rfl (pc2 := 12) rfl ?_
  refine x_iconst (v := (0 : Int32)) C dX1_beginPage_12 (by decide) (pc2 := 13) rfl ?_
  refine x_iast C h 13 0 (xc_13 ad cI cB _) rfl (u2 := (put (put u 12 (x2).toNatClampNeg (0 : Int32)) 13 (x2).toNatClampNeg (0 : Int32))) (xs_13 ad cI cB _ _ _) dX1_beginPage_13 (pc2 := 14) rfl (fun h => ?_)
  refine x_aload_n C dX1_beginPage_14 0 rfl (pc2 := 15) rfl ?_
  refine x_get C hiX1 9 (xc_9 ad cI cB _) rfl 9 (by decide) f40 (v := .ref (ad 14)) rfl dX1_beginPage_15 (pc2 := 18) rfl ?_
  refine x_iload_n C dX1_beginPage_18 2 rfl (pc2 := 19) rfl ?_
  refine x_iconst (v := (0 : Int32)) C dX1_beginPage_19 (by decide) (pc2 := 20) rfl ?_
  refine x_iast C h 14 0 (xc_14 ad cI cB _) rfl (u2 := (put (put (put u 12 (x2).toNatClampNeg (0 : Int32)) 13 (x2).toNatClampNeg (0 : Int32)) 14 (x2).toNatClampNeg (0 : Int32))) (xs_14 ad cI cB _ _ _) dX1_beginPage_20 (pc2 := 21) rfl (fun h => ?_)
  refine x_aload_n C dX1_beginPage_21 0 rfl (pc2 := 22) rfl ?_
  refine x_get C hiX1 9 (xc_9 ad cI cB _) rfl 10 (by decide) f43 (v := .ref (ad 15)) rfl dX1_beginPage_22 (pc2 := 25) rfl ?_
  refine x_iload_n C dX1_beginPage_25 2 rfl (pc2 := 26) rfl ?_
  refine x_aload_n C dX1_beginPage_26 1 rfl (pc2 := 27) rfl ?_
  refine x_get C hiX0 1 (xc_1 ad cI cB _) rfl 3 (by decide) f84 (v := .ref (ad 3)) rfl dX1_beginPage_27 (pc2 := 30) rfl ?_
  refine x_iload_n C dX1_beginPage_30 2 rfl (pc2 := 31) rfl ?_
  refine x_iald C h 3 0 (xc_3 ad cI cB _) rfl dX1_beginPage_31 (pc2 := 32) rfl (fun h => ?_)
  refine x_tope (y := (u 3 (x2).toNatClampNeg)) rfl ?_
  refine x_iast C h 15 0 (xc_15 ad cI cB _) rfl (u2 := (put (put (put (put u 12 (x2).toNatClampNeg (0 : Int32)) 13 (x2).toNatClampNeg (0 : Int32)) 14 (x2).toNatClampNeg (0 : Int32)) 15 (x2).toNatClampNeg (u 3 (x2).toNatClampNeg))) (xs_15 ad cI cB _ _ _) dX1_beginPage_32 (pc2 := 33) rfl (fun h => ?_)
  refine x_aload_n C dX1_beginPage_33 0 rfl (pc2 := 34) rfl ?_
  refine x_get C hiX1 9 (xc_9 ad cI cB _) rfl 11 (by decide) f46 (v := .ref (ad 16)) rfl dX1_beginPage_34 (pc2 := 37) rfl ?_
  refine x_iload_n C dX1_beginPage_37 2 rfl (pc2 := 38) rfl ?_
  refine x_iconst (v := (0 : Int32)) C dX1_beginPage_38 (by decide) (pc2 := 39) rfl ?_
  refine x_iast C h 16 0 (xc_16 ad cI cB _) rfl (u2 := (put (put (put (put (put u 12 (x2).toNatClampNeg (0 : Int32)) 13 (x2).toNatClampNeg (0 : Int32)) 14 (x2).toNatClampNeg (0 : Int32)) 15 (x2).toNatClampNeg (u 3 (x2).toNatClampNeg)) 16 (x2).toNatClampNeg (0 : Int32))) (xs_16 ad cI cB _ _ _) dX1_beginPage_39 (pc2 := 40) rfl (fun h => ?_)
  exact x_vret C hr hlocks h dX1_beginPage_40
set_option maxRecDepth 100000 in
set_option maxHeartbeats 4000000 in
theorem c_X1_beginTier (l : Launch) (D : va_G) (A : Nat → Prop) (ad : Nat → Nat) (cI cB : ClassId) (u : Mem) (x2 : Int32) : Ctv l yX1_beginTier wsX1_beginTier { frames := 0, cells := 0, slots := 0, locals := 0 } D A (XW ad cI cB) [(cI, .int), (cB, .object "PanelPages$Book")] [.ref (ad 9), .ref (ad 1), .int x2] u (e_X1_beginTier u x2) := by
  intro ur h
  refine Met.ofW (cc := cX1_beginTier) (maxL := 3) (ret := none) (by decide) rfl ?_
  intro p e s m args below meth c s₁ B hml hv
  obtain ⟨hav, hP, hK, hD⟩ := hv
  have C : Cx p m c cX1_beginTier 3 s args wsX1_beginTier RX1 D [(cI, .int), (cB, .object "PanelPages$Book")] := ⟨⟨B.exec, B.bytes, hml, findClass_of_methodNamed B.named, atoms_spec (ws := wsX1_beginTier) B.pre⟩, hK⟩
  have hr := B.returns
  have hlocks := B.notSynchronized
  have hiX0 : ∀ w ∈ wsX00, w ∈ wsX1_beginTier := by decide +kernel
  have hiX1 : ∀ w ∈ wsX10, w ∈ wsX1_beginTier := by decide +kernel
  have f34 : Cond.fieldLink RX1 34 "PanelPages$Layout" "tierOnPage" "[I" ∈ wsX1_beginTier := by decide +kernel
  have f37 : Cond.fieldLink RX1 37 "PanelPages$Layout" "place" "[I" ∈ wsX1_beginTier := by decide +kernel
  have f40 : Cond.fieldLink RX1 40 "PanelPages$Layout" "heightAbove" "[I" ∈ wsX1_beginTier := by decide +kernel
  have f43 : Cond.fieldLink RX1 43 "PanelPages$Layout" "height" "[I" ∈ wsX1_beginTier := by decide +kernel
  have f46 : Cond.fieldLink RX1 46 "PanelPages$Layout" "gapsOnPage" "[I" ∈ wsX1_beginTier := by decide +kernel
  have f84 : Cond.fieldLink RX1 84 "PanelPages$Book" "tall" "[I" ∈ wsX1_beginTier := by decide +kernel
  refine x_entry2 (lv := [(0, .ref (ad 9)), (1, .ref (ad 1)), (2, .int x2)]) hav hP hD (Nat.le_of_ble_eq_true rfl) rfl ?_
  unfold e_X1_beginTier at h
  refine x_aload_n C dX1_beginTier_0 0 rfl (pc2 := 1) rfl ?_
  refine x_get C hiX1 9 (xc_9 ad cI cB _) rfl 7 (by decide) f34 (v := .ref (ad 12)) rfl dX1_beginTier_1 (pc2 := 4) rfl ?_
  refine x_iload_n C dX1_beginTier_4 2 rfl (pc2 := 5) rfl ?_
  refine x_aload_n C dX1_beginTier_5 0 rfl (pc2 := 6) rfl ?_
  refine x_get C hiX1 9 (xc_9 ad cI cB _) rfl 7 (by decide) f34 (v := .ref (ad 12)) rfl dX1_beginTier_6 (pc2 := 9) rfl ?_
  refine x_iload_n C dX1_beginTier_9 2 rfl (pc2 := 10) rfl ?_
  refine x_iconst (v := (1 : Int32)) C dX1_beginTier_10 (by decide) (pc2 := 11) rfl ?_
  refine x_isub C dX1_beginTier_11 (pc2 := 12) rfl ?_
  refine x_iald C h 12 0 (xc_12 ad cI cB _) rfl dX1_beginTier_12 (pc2 := 13) rfl (fun h => ?_)
  refine x_iconst (v := (1 : Int32)) C dX1_beginTier_13 (by decide) (pc2 := 14) rfl ?_
  refine x_iadd C dX1_beginTier_14 (pc2 := 15) rfl ?_
  refine x_iast C h 12 0 (xc_12 ad cI cB _) rfl (u2 := (put u 12 (x2).toNatClampNeg ((u 12 ((x2 - (1 : Int32))).toNatClampNeg) + (1 : Int32)))) (xs_12 ad cI cB _ _ _) dX1_beginTier_15 (pc2 := 16) rfl (fun h => ?_)
  refine x_aload_n C dX1_beginTier_16 0 rfl (pc2 := 17) rfl ?_
  refine x_get C hiX1 9 (xc_9 ad cI cB _) rfl 8 (by decide) f37 (v := .ref (ad 13)) rfl dX1_beginTier_17 (pc2 := 20) rfl ?_
  refine x_iload_n C dX1_beginTier_20 2 rfl (pc2 := 21) rfl ?_
  refine x_iconst (v := (0 : Int32)) C dX1_beginTier_21 (by decide) (pc2 := 22) rfl ?_
  refine x_iast C h 13 0 (xc_13 ad cI cB _) rfl (u2 := (put (put u 12 (x2).toNatClampNeg ((u 12 ((x2 - (1 : Int32))).toNatClampNeg) + (1 : Int32))) 13 (x2).toNatClampNeg (0 : Int32))) (xs_13 ad cI cB _ _ _) dX1_beginTier_22 (pc2 := 23) rfl (fun h => ?_)
  refine x_aload_n C dX1_beginTier_23 0 rfl (pc2 := 24) rfl ?_
  refine x_get C hiX1 9 (xc_9 ad cI cB _) rfl 9 (by decide) f40 (v := .ref (ad 14)) rfl dX1_beginTier_24 (pc2 := 27) rfl ?_
  refine x_iload_n C dX1_beginTier_27 2 rfl (pc2 := 28) rfl ?_
  refine x_aload_n C dX1_beginTier_28 0 rfl (pc2 := 29) rfl ?_
  refine x_get C hiX1 9 (xc_9 ad cI cB _) rfl 9 (by decide) f40 (v := .ref (ad 14)) rfl dX1_beginTier_29 (pc2 := 32) rfl ?_
  refine x_iload_n C dX1_beginTier_32 2 rfl (pc2 := 33) rfl ?_
  refine x_iconst (v := (1 : Int32)) C dX1_beginTier_33 (by decide) (pc2 := 34) rfl ?_
  refine x_isub C dX1_beginTier_34 (pc2 := 35) rfl ?_
  refine x_iald C h 14 0 (xc_14 ad cI cB _) rfl dX1_beginTier_35 (pc2 := 36) rfl (fun h => ?_)
  refine x_tope (y := (u 14 ((x2 - (1 : Int32))).toNatClampNeg)) rfl ?_
  refine x_aload_n C dX1_beginTier_36 0 rfl (pc2 := 37) rfl ?_
  refine x_get C hiX1 9 (xc_9 ad cI cB _) rfl 10 (by decide) f43 (v := .ref (ad 15)) rfl dX1_beginTier_37 (pc2 := 40) rfl ?_
  refine x_iload_n C dX1_beginTier_40 2 rfl (pc2 := 41) rfl ?_
  refine x_iconst (v := (1 : Int32)) C dX1_beginTier_41 (by decide) (pc2 := 42) rfl ?_
  refine x_isub C dX1_beginTier_42 (pc2 := 43) rfl ?_
  refine x_iald C h 15 0 (xc_15 ad cI cB _) rfl dX1_beginTier_43 (pc2 := 44) rfl (fun h => ?_)
  refine x_tope (y := (u 15 ((x2 - (1 : Int32))).toNatClampNeg)) rfl ?_
  refine x_iadd C dX1_beginTier_44 (pc2 := 45) rfl ?_
  refine x_iast C h 14 0 (xc_14 ad cI cB _) rfl (u2 := (put (put (put u 12 (x2).toNatClampNeg ((u 12 ((x2 - (1 : Int32))).toNatClampNeg) + (1 : Int32))) 13 (x2).toNatClampNeg (0 : Int32)) 14 (x2).toNatClampNeg ((u 14 ((x2 - (1 : Int32))).toNatClampNeg) + (u 15 ((x2 - (1 : Int32))).toNatClampNeg)))) (xs_14 ad cI cB _ _ _) dX1_beginTier_45 (pc2 := 46) rfl (fun h => ?_)
  refine x_aload_n C dX1_beginTier_46 0 rfl (pc2 := 47) rfl ?_
  refine x_get C hiX1 9 (xc_9 ad cI cB _) rfl 10 (by decide) f43 (v := .ref (ad 15)) rfl dX1_beginTier_47 (pc2 := 50) rfl ?_
  refine x_iload_n C dX1_beginTier_50 2 rfl (pc2 := 51) rfl ?_
  refine x_aload_n C dX1_beginTier_51 1 rfl (pc2 := 52) rfl ?_
  refine x_get C hiX0 1 (xc_1 ad cI cB _) rfl 3 (by decide) f84 (v := .ref (ad 3)) rfl dX1_beginTier_52 (pc2 := 55) rfl ?_
  refine x_iload_n C dX1_beginTier_55 2 rfl (pc2 := 56) rfl ?_
  refine x_iald C h 3 0 (xc_3 ad cI cB _) rfl dX1_beginTier_56 (pc2 := 57) rfl (fun h => ?_)
  refine x_tope (y := (u 3 (x2).toNatClampNeg)) rfl ?_
  refine x_iast C h 15 0 (xc_15 ad cI cB _) rfl (u2 := (put (put (put (put u 12 (x2).toNatClampNeg ((u 12 ((x2 - (1 : Int32))).toNatClampNeg) + (1 : Int32))) 13 (x2).toNatClampNeg (0 : Int32)) 14 (x2).toNatClampNeg ((u 14 ((x2 - (1 : Int32))).toNatClampNeg) + (u 15 ((x2 - (1 : Int32))).toNatClampNeg))) 15 (x2).toNatClampNeg (u 3 (x2).toNatClampNeg))) (xs_15 ad cI cB _ _ _) dX1_beginTier_57 (pc2 := 58) rfl (fun h => ?_)
  refine x_aload_n C dX1_beginTier_58 0 rfl (pc2 := 59) rfl ?_
  refine x_get C hiX1 9 (xc_9 ad cI cB _) rfl 11 (by decide) f46 (v := .ref (ad 16)) rfl dX1_beginTier_59 (pc2 := 62) rfl ?_
  refine x_iload_n C dX1_beginTier_62 2 rfl (pc2 := 63) rfl ?_
  refine x_aload_n C dX1_beginTier_63 0 rfl (pc2 := 64) rfl ?_
  refine x_get C hiX1 9 (xc_9 ad cI cB _) rfl 11 (by decide) f46 (v := .ref (ad 16)) rfl dX1_beginTier_64 (pc2 := 67) rfl ?_
  refine x_iload_n C dX1_beginTier_67 2 rfl (pc2 := 68) rfl ?_
  refine x_iconst (v := (1 : Int32)) C dX1_beginTier_68 (by decide) (pc2 := 69) rfl ?_
  refine x_isub C dX1_beginTier_69 (pc2 := 70) rfl ?_
  refine x_iald C h 16 0 (xc_16 ad cI cB _) rfl dX1_beginTier_70 (pc2 := 71) rfl (fun h => ?_)
  refine x_tope (y := (u 16 ((x2 - (1 : Int32))).toNatClampNeg)) rfl ?_
  refine x_iast C h 16 0 (xc_16 ad cI cB _) rfl (u2 := (put (put (put (put (put u 12 (x2).toNatClampNeg ((u 12 ((x2 - (1 : Int32))).toNatClampNeg) + (1 : Int32))) 13 (x2).toNatClampNeg (0 : Int32)) 14 (x2).toNatClampNeg ((u 14 ((x2 - (1 : Int32))).toNatClampNeg) + (u 15 ((x2 - (1 : Int32))).toNatClampNeg))) 15 (x2).toNatClampNeg (u 3 (x2).toNatClampNeg)) 16 (x2).toNatClampNeg (u 16 ((x2 - (1 : Int32))).toNatClampNeg))) (xs_16 ad cI cB _ _ _) dX1_beginTier_71 (pc2 := 72) rfl (fun h => ?_)
  exact x_vret C hr hlocks h dX1_beginTier_72
set_option maxRecDepth 100000 in
set_option maxHeartbeats 4000000 in
theorem c_X1_goOn (l : Launch) (D : va_G) (A : Nat → Prop) (ad : Nat → Nat) (cI cB : ClassId) (u : Mem) (x2 : Int32) : Ctv l yX1_goOn wsX1_goOn { frames := 1, cells := 0, slots := 0, locals := 40 } D A (XW ad cI cB) [(cI, .int), (cB, .object "PanelPages$Book")] [.ref (ad 9), .ref (ad 1), .int x2] u (e_X1_goOn u x2) := by
  intro ur h
  refine Met.ofW (cc := cX1_goOn) (maxL := 4) (ret := none) (by decide) rfl ?_
  intro p e s m args below meth c s₁ B hml hv
  obtain ⟨hav, hP, hK, hD⟩ := hv
  have C : Cx p m c cX1_goOn 4 s args wsX1_goOn RX1 D [(cI, .int), (cB, .object "PanelPages$Book")] := ⟨⟨B.exec, B.bytes, hml, findClass_of_methodNamed B.named, atoms_spec (ws := wsX1_goOn) B.pre⟩, hK⟩
  have hr := B.returns
  have hlocks := B.notSynchronized
  have hiX0 : ∀ w ∈ wsX00, w ∈ wsX1_goOn := by decide +kernel
  have hiX1 : ∀ w ∈ wsX10, w ∈ wsX1_goOn := by decide +kernel
  have f34 : Cond.fieldLink RX1 34 "PanelPages$Layout" "tierOnPage" "[I" ∈ wsX1_goOn := by decide +kernel
  have f37 : Cond.fieldLink RX1 37 "PanelPages$Layout" "place" "[I" ∈ wsX1_goOn := by decide +kernel
  have f40 : Cond.fieldLink RX1 40 "PanelPages$Layout" "heightAbove" "[I" ∈ wsX1_goOn := by decide +kernel
  have f43 : Cond.fieldLink RX1 43 "PanelPages$Layout" "height" "[I" ∈ wsX1_goOn := by decide +kernel
  have f46 : Cond.fieldLink RX1 46 "PanelPages$Layout" "gapsOnPage" "[I" ∈ wsX1_goOn := by decide +kernel
  have f84 : Cond.fieldLink RX1 84 "PanelPages$Book" "tall" "[I" ∈ wsX1_goOn := by decide +kernel
  refine x_entry2 (lv := [(0, .ref (ad 9)), (1, .ref (ad 1)), (2, .int x2)]) hav hP hD (Nat.le_of_ble_eq_true rfl) rfl ?_
  unfold e_X1_goOn at h
  refine x_aload_n C dX1_goOn_0 0 rfl (pc2 := 1) rfl ?_
  refine x_get C hiX1 9 (xc_9 ad cI cB _) rfl 7 (by decide) f34 (v := .ref (ad 12)) rfl dX1_goOn_1 (pc2 := 4) rfl ?_
  refine x_iload_n C dX1_goOn_4 2 rfl (pc2 := 5) rfl ?_
  refine x_aload_n C dX1_goOn_5 0 rfl (pc2 := 6) rfl ?_
  refine x_get C hiX1 9 (xc_9 ad cI cB _) rfl 7 (by decide) f34 (v := .ref (ad 12)) rfl dX1_goOn_6 (pc2 := 9) rfl ?_
  refine x_iload_n C dX1_goOn_9 2 rfl (pc2 := 10) rfl ?_
  refine x_iconst (v := (1 : Int32)) C dX1_goOn_10 (by decide) (pc2 := 11) rfl ?_
  refine x_isub C dX1_goOn_11 (pc2 := 12) rfl ?_
  refine x_iald C h 12 0 (xc_12 ad cI cB _) rfl dX1_goOn_12 (pc2 := 13) rfl (fun h => ?_)
  refine x_iast C h 12 0 (xc_12 ad cI cB _) rfl (u2 := (put u 12 (x2).toNatClampNeg (u 12 ((x2 - (1 : Int32))).toNatClampNeg))) (xs_12 ad cI cB _ _ _) dX1_goOn_13 (pc2 := 14) rfl (fun h => ?_)
  refine x_aload_n C dX1_goOn_14 0 rfl (pc2 := 15) rfl ?_
  refine x_get C hiX1 9 (xc_9 ad cI cB _) rfl 8 (by decide) f37 (v := .ref (ad 13)) rfl dX1_goOn_15 (pc2 := 18) rfl ?_
  refine x_iload_n C dX1_goOn_18 2 rfl (pc2 := 19) rfl ?_
  refine x_aload_n C dX1_goOn_19 0 rfl (pc2 := 20) rfl ?_
  refine x_get C hiX1 9 (xc_9 ad cI cB _) rfl 8 (by decide) f37 (v := .ref (ad 13)) rfl dX1_goOn_20 (pc2 := 23) rfl ?_
  refine x_iload_n C dX1_goOn_23 2 rfl (pc2 := 24) rfl ?_
  refine x_iconst (v := (1 : Int32)) C dX1_goOn_24 (by decide) (pc2 := 25) rfl ?_
  refine x_isub C dX1_goOn_25 (pc2 := 26) rfl ?_
  refine x_iald C h 13 0 (xc_13 ad cI cB _) rfl dX1_goOn_26 (pc2 := 27) rfl (fun h => ?_)
  refine x_tope (y := (u 13 ((x2 - (1 : Int32))).toNatClampNeg)) rfl ?_
  refine x_iconst (v := (1 : Int32)) C dX1_goOn_27 (by decide) (pc2 := 28) rfl ?_
  refine x_iadd C dX1_goOn_28 (pc2 := 29) rfl ?_
  refine x_iast C h 13 0 (xc_13 ad cI cB _) rfl (u2 := (put (put u 12 (x2).toNatClampNeg (u 12 ((x2 - (1 : Int32))).toNatClampNeg)) 13 (x2).toNatClampNeg ((u 13 ((x2 - (1 : Int32))).toNatClampNeg) + (1 : Int32)))) (xs_13 ad cI cB _ _ _) dX1_goOn_29 (pc2 := 30) rfl (fun h => ?_)
  refine x_aload_n C dX1_goOn_30 0 rfl (pc2 := 31) rfl ?_
  refine x_get C hiX1 9 (xc_9 ad cI cB _) rfl 9 (by decide) f40 (v := .ref (ad 14)) rfl dX1_goOn_31 (pc2 := 34) rfl ?_
  refine x_iload_n C dX1_goOn_34 2 rfl (pc2 := 35) rfl ?_
  refine x_aload_n C dX1_goOn_35 0 rfl (pc2 := 36) rfl ?_
  refine x_get C hiX1 9 (xc_9 ad cI cB _) rfl 9 (by decide) f40 (v := .ref (ad 14)) rfl dX1_goOn_36 (pc2 := 39) rfl ?_
  refine x_iload_n C dX1_goOn_39 2 rfl (pc2 := 40) rfl ?_
  refine x_iconst (v := (1 : Int32)) C dX1_goOn_40 (by decide) (pc2 := 41) rfl ?_
  refine x_isub C dX1_goOn_41 (pc2 := 42) rfl ?_
  refine x_iald C h 14 0 (xc_14 ad cI cB _) rfl dX1_goOn_42 (pc2 := 43) rfl (fun h => ?_)
  refine x_tope (y := (u 14 ((x2 - (1 : Int32))).toNatClampNeg)) rfl ?_
  refine x_iast C h 14 0 (xc_14 ad cI cB _) rfl (u2 := (put (put (put u 12 (x2).toNatClampNeg (u 12 ((x2 - (1 : Int32))).toNatClampNeg)) 13 (x2).toNatClampNeg ((u 13 ((x2 - (1 : Int32))).toNatClampNeg) + (1 : Int32))) 14 (x2).toNatClampNeg (u 14 ((x2 - (1 : Int32))).toNatClampNeg))) (xs_14 ad cI cB _ _ _) dX1_goOn_43 (pc2 := 44) rfl (fun h => ?_)
  refine x_aload_n C dX1_goOn_44 0 rfl (pc2 := 45) rfl ?_
  refine x_get C hiX1 9 (xc_9 ad cI cB _) rfl 10 (by decide) f43 (v := .ref (ad 15)) rfl dX1_goOn_45 (pc2 := 48) rfl ?_
  refine x_iload_n C dX1_goOn_48 2 rfl (pc2 := 49) rfl ?_
  refine x_aload_n C dX1_goOn_49 0 rfl (pc2 := 50) rfl ?_
  refine x_get C hiX1 9 (xc_9 ad cI cB _) rfl 10 (by decide) f43 (v := .ref (ad 15)) rfl dX1_goOn_50 (pc2 := 53) rfl ?_
  refine x_iload_n C dX1_goOn_53 2 rfl (pc2 := 54) rfl ?_
  refine x_iconst (v := (1 : Int32)) C dX1_goOn_54 (by decide) (pc2 := 55) rfl ?_
  refine x_isub C dX1_goOn_55 (pc2 := 56) rfl ?_
  refine x_iald C h 15 0 (xc_15 ad cI cB _) rfl dX1_goOn_56 (pc2 := 57) rfl (fun h => ?_)
  refine x_tope (y := (u 15 ((x2 - (1 : Int32))).toNatClampNeg)) rfl ?_
  refine x_aload_n C dX1_goOn_57 1 rfl (pc2 := 58) rfl ?_
  refine x_get C hiX0 1 (xc_1 ad cI cB _) rfl 3 (by decide) f84 (v := .ref (ad 3)) rfl dX1_goOn_58 (pc2 := 61) rfl ?_
  refine x_iload_n C dX1_goOn_61 2 rfl (pc2 := 62) rfl ?_
  refine x_iald C h 3 0 (xc_3 ad cI cB _) rfl dX1_goOn_62 (pc2 := 63) rfl (fun h => ?_)
  refine x_tope (y := (u 3 (x2).toNatClampNeg)) rfl ?_
  refine x_mmax (index := 87) C (by decide +kernel) (by decide +kernel) (by decide +kernel) (by decide +kernel) (Nat.le_of_ble_eq_true rfl) (Nat.le_of_ble_eq_true rfl) dX1_goOn_63 (pc2 := 66) rfl ?_
  refine x_iast C h 15 0 (xc_15 ad cI cB _) rfl (u2 := (put (put (put (put u 12 (x2).toNatClampNeg (u 12 ((x2 - (1 : Int32))).toNatClampNeg)) 13 (x2).toNatClampNeg ((u 13 ((x2 - (1 : Int32))).toNatClampNeg) + (1 : Int32))) 14 (x2).toNatClampNeg (u 14 ((x2 - (1 : Int32))).toNatClampNeg)) 15 (x2).toNatClampNeg (if (u 15 ((x2 - (1 : Int32))).toNatClampNeg) < (u 3 (x2).toNatClampNeg) then (u 3 (x2).toNatClampNeg) else (u 15 ((x2 - (1 : Int32))).toNatClampNeg)))) (xs_15 ad cI cB _ _ _) dX1_goOn_66 (pc2 := 67) rfl (fun h => ?_)
  refine x_aload_n C dX1_goOn_67 0 rfl (pc2 := 68) rfl ?_
  refine x_get C hiX1 9 (xc_9 ad cI cB _) rfl 10 (by decide) f43 (v := .ref (ad 15)) rfl dX1_goOn_68 (pc2 := 71) rfl ?_
  refine x_iload_n C dX1_goOn_71 2 rfl (pc2 := 72) rfl ?_
  refine x_iald C h 15 0 (xc_15 ad cI cB _) rfl dX1_goOn_72 (pc2 := 73) rfl (fun h => ?_)
  refine x_aload_n C dX1_goOn_73 0 rfl (pc2 := 74) rfl ?_
  refine x_get C hiX1 9 (xc_9 ad cI cB _) rfl 10 (by decide) f43 (v := .ref (ad 15)) rfl dX1_goOn_74 (pc2 := 77) rfl ?_
  refine x_iload_n C dX1_goOn_77 2 rfl (pc2 := 78) rfl ?_
  refine x_iconst (v := (1 : Int32)) C dX1_goOn_78 (by decide) (pc2 := 79) rfl ?_
  refine x_isub C dX1_goOn_79 (pc2 := 80) rfl ?_
  refine x_iald C h 15 0 (xc_15 ad cI cB _) rfl dX1_goOn_80 (pc2 := 81) rfl (fun h => ?_)
  refine x_isub C dX1_goOn_81 (pc2 := 82) rfl ?_
  refine x_aload_n C dX1_goOn_82 0 rfl (pc2 := 83) rfl ?_
  refine x_get C hiX1 9 (xc_9 ad cI cB _) rfl 8 (by decide) f37 (v := .ref (ad 13)) rfl dX1_goOn_83 (pc2 := 86) rfl ?_
  refine x_iload_n C dX1_goOn_86 2 rfl (pc2 := 87) rfl ?_
  refine x_iald C h 13 0 (xc_13 ad cI cB _) rfl dX1_goOn_87 (pc2 := 88) rfl (fun h => ?_)
  refine x_tope (y := ((put (put u 12 (x2).toNatClampNeg (u 12 ((x2 - (1 : Int32))).toNatClampNeg)) 13 (x2).toNatClampNeg ((u 13 ((x2 - (1 : Int32))).toNatClampNeg) + (1 : Int32))) 13 (x2).toNatClampNeg)) rfl ?_
  refine x_imul C dX1_goOn_88 (pc2 := 89) rfl ?_
  refine x_istore_n C dX1_goOn_89 (by decide) (lv2 := [(3, .int ((((put (put (put (put u 12 (x2).toNatClampNeg (u 12 ((x2 - (1 : Int32))).toNatClampNeg)) 13 (x2).toNatClampNeg ((u 13 ((x2 - (1 : Int32))).toNatClampNeg) + (1 : Int32))) 14 (x2).toNatClampNeg (u 14 ((x2 - (1 : Int32))).toNatClampNeg)) 15 (x2).toNatClampNeg (if (u 15 ((x2 - (1 : Int32))).toNatClampNeg) < (u 3 (x2).toNatClampNeg) then (u 3 (x2).toNatClampNeg) else (u 15 ((x2 - (1 : Int32))).toNatClampNeg))) 15 (x2).toNatClampNeg) - ((put (put (put (put u 12 (x2).toNatClampNeg (u 12 ((x2 - (1 : Int32))).toNatClampNeg)) 13 (x2).toNatClampNeg ((u 13 ((x2 - (1 : Int32))).toNatClampNeg) + (1 : Int32))) 14 (x2).toNatClampNeg (u 14 ((x2 - (1 : Int32))).toNatClampNeg)) 15 (x2).toNatClampNeg (if (u 15 ((x2 - (1 : Int32))).toNatClampNeg) < (u 3 (x2).toNatClampNeg) then (u 3 (x2).toNatClampNeg) else (u 15 ((x2 - (1 : Int32))).toNatClampNeg))) 15 ((x2 - (1 : Int32))).toNatClampNeg)) * ((put (put u 12 (x2).toNatClampNeg (u 12 ((x2 - (1 : Int32))).toNatClampNeg)) 13 (x2).toNatClampNeg ((u 13 ((x2 - (1 : Int32))).toNatClampNeg) + (1 : Int32))) 13 (x2).toNatClampNeg))), (0, .ref (ad 9)), (1, .ref (ad 1)), (2, .int x2)]) rfl (pc2 := 90) rfl ?_
  refine x_aload_n C dX1_goOn_90 1 rfl (pc2 := 91) rfl ?_
  refine x_get C hiX1 9 (xc_9 ad cI cB _) rfl 11 (by decide) f46 (v := .ref (ad 16)) rfl dX1_goOn_91 (pc2 := 94) rfl ?_
  refine x_iload_n C dX1_goOn_94 3 rfl (pc2 := 95) rfl ?_
  refine x_aload_n C dX1_goOn_95 1 rfl (pc2 := 96) rfl ?_
  refine x_get C hiX1 9 (xc_9 ad cI cB _) rfl 11 (by decide) f46 (v := .ref (ad 16)) rfl dX1_goOn_96 (pc2 := 99) rfl ?_
  refine x_iload_n C dX1_goOn_99 3 rfl (pc2 := 100) rfl ?_
  refine x_iconst (v := (1 : Int32)) C dX1_goOn_100 (by decide) (pc2 := 101) rfl ?_
  refine x_isub C dX1_goOn_101 (pc2 := 102) rfl ?_
  refine x_iald C h 16 0 (xc_16 ad cI cB _) rfl dX1_goOn_102 (pc2 := 103) rfl (fun h => ?_)
  refine x_tope (y := (u 16 ((x2 - (1 : Int32))).toNatClampNeg)) rfl ?_
  refine x_iload_n C dX1_goOn_103 0 rfl (pc2 := 104) rfl ?_
  refine x_iadd C dX1_goOn_104 (pc2 := 105) rfl ?_
  refine x_aload_n C dX1_goOn_105 1 rfl (pc2 := 106) rfl ?_
  refine x_get C hiX1 9 (xc_9 ad cI cB _) rfl 10 (by decide) f43 (v := .ref (ad 15)) rfl dX1_goOn_106 (pc2 := 109) rfl ?_
  refine x_iload_n C dX1_goOn_109 3 rfl (pc2 := 110) rfl ?_
  refine x_iald C h 15 0 (xc_15 ad cI cB _) rfl dX1_goOn_110 (pc2 := 111) rfl (fun h => ?_)
  refine x_iadd C dX1_goOn_111 (pc2 := 112) rfl ?_
  refine x_aload_n C dX1_goOn_112 2 rfl (pc2 := 113) rfl ?_
  refine x_get C hiX0 1 (xc_1 ad cI cB _) rfl 3 (by decide) f84 (v := .ref (ad 3)) rfl dX1_goOn_113 (pc2 := 116) rfl ?_
  refine x_iload_n C dX1_goOn_116 3 rfl (pc2 := 117) rfl ?_
  refine x_iald C h 3 0 (xc_3 ad cI cB _) rfl dX1_goOn_117 (pc2 := 118) rfl (fun h => ?_)
  refine x_tope (y := (u 3 (x2).toNatClampNeg)) rfl ?_
  refine x_isub C dX1_goOn_118 (pc2 := 119) rfl ?_
  refine x_iast C h 16 0 (xc_16 ad cI cB _) rfl (u2 := (put (put (put (put (put u 12 (x2).toNatClampNeg (u 12 ((x2 - (1 : Int32))).toNatClampNeg)) 13 (x2).toNatClampNeg ((u 13 ((x2 - (1 : Int32))).toNatClampNeg) + (1 : Int32))) 14 (x2).toNatClampNeg (u 14 ((x2 - (1 : Int32))).toNatClampNeg)) 15 (x2).toNatClampNeg (if (u 15 ((x2 - (1 : Int32))).toNatClampNeg) < (u 3 (x2).toNatClampNeg) then (u 3 (x2).toNatClampNeg) else (u 15 ((x2 - (1 : Int32))).toNatClampNeg))) 16 (x2).toNatClampNeg ((((u 16 ((x2 - (1 : Int32))).toNatClampNeg) + ((((put (put (put (put u 12 (x2).toNatClampNeg (u 12 ((x2 - (1 : Int32))).toNatClampNeg)) 13 (x2).toNatClampNeg ((u 13 ((x2 - (1 : Int32))).toNatClampNeg) + (1 : Int32))) 14 (x2).toNatClampNeg (u 14 ((x2 - (1 : Int32))).toNatClampNeg)) 15 (x2).toNatClampNeg (if (u 15 ((x2 - (1 : Int32))).toNatClampNeg) < (u 3 (x2).toNatClampNeg) then (u 3 (x2).toNatClampNeg) else (u 15 ((x2 - (1 : Int32))).toNatClampNeg))) 15 (x2).toNatClampNeg) - ((put (put (put (put u 12 (x2).toNatClampNeg (u 12 ((x2 - (1 : Int32))).toNatClampNeg)) 13 (x2).toNatClampNeg ((u 13 ((x2 - (1 : Int32))).toNatClampNeg) + (1 : Int32))) 14 (x2).toNatClampNeg (u 14 ((x2 - (1 : Int32))).toNatClampNeg)) 15 (x2).toNatClampNeg (if (u 15 ((x2 - (1 : Int32))).toNatClampNeg) < (u 3 (x2).toNatClampNeg) then (u 3 (x2).toNatClampNeg) else (u 15 ((x2 - (1 : Int32))).toNatClampNeg))) 15 ((x2 - (1 : Int32))).toNatClampNeg)) * ((put (put u 12 (x2).toNatClampNeg (u 12 ((x2 - (1 : Int32))).toNatClampNeg)) 13 (x2).toNatClampNeg ((u 13 ((x2 - (1 : Int32))).toNatClampNeg) + (1 : Int32))) 13 (x2).toNatClampNeg))) + ((put (put (put (put u 12 (x2).toNatClampNeg (u 12 ((x2 - (1 : Int32))).toNatClampNeg)) 13 (x2).toNatClampNeg ((u 13 ((x2 - (1 : Int32))).toNatClampNeg) + (1 : Int32))) 14 (x2).toNatClampNeg (u 14 ((x2 - (1 : Int32))).toNatClampNeg)) 15 (x2).toNatClampNeg (if (u 15 ((x2 - (1 : Int32))).toNatClampNeg) < (u 3 (x2).toNatClampNeg) then (u 3 (x2).toNatClampNeg) else (u 15 ((x2 - (1 : Int32))).toNatClampNeg))) 15 (x2).toNatClampNeg)) - (u 3 (x2).toNatClampNeg)))) (xs_16 ad cI cB _ _ _) dX1_goOn_119 (pc2 := 120) rfl (fun h => ?_)
  exact x_vret C hr hlocks h dX1_goOn_120
set_option maxRecDepth 100000 in
set_option maxHeartbeats 4000000 in
theorem c_X1_put (l : Launch) (D : va_G) (A : Nat → Prop) (ad : Nat → Nat) (cI cB : ClassId) (u : Mem) (x2 : Int32) (x3 : Int32) : Ctv l yX1_put wsX1_put { frames := 2, cells := 0, slots := 0, locals := 63 } D A (XW ad cI cB) [(cI, .int), (cB, .object "PanelPages$Book")] [.ref (ad 9), .ref (ad 1), .int x2, .int x3] u (e_X1_put u x2 x3) := by
  intro ur h
  refine Met.ofW (cc := cX1_put) (maxL := 4) (ret := none) (by decide) rfl ?_
  intro p e s m args below meth c s₁ B hml hv
  obtain ⟨hav, hP, hK, hD⟩ := hv
  have C : Cx p m c cX1_put 4 s args wsX1_put RX1 D [(cI, .int), (cB, .object "PanelPages$Book")] := ⟨⟨B.exec, B.bytes, hml, findClass_of_methodNamed B.named, atoms_spec (ws := wsX1_put) B.pre⟩, hK⟩
  have hr := B.returns
  have hlocks := B.notSynchronized
  have hiX1 : ∀ w ∈ wsX10, w ∈ wsX1_put := by decide +kernel
  have f27 : Cond.fieldLink RX1 27 "PanelPages$Layout" "figures" "[I" ∈ wsX1_put := by decide +kernel
  refine x_entry2 (lv := [(0, .ref (ad 9)), (1, .ref (ad 1)), (2, .int x2), (3, .int x3)]) hav hP hD (Nat.le_of_ble_eq_true rfl) rfl ?_
  unfold e_X1_put at h
  have J17 : ∀ (u : Mem) (x2 : Int32), e_X1_put_J17 u x2 = some ur → Wx p l e (headSpec wsX1_put { frames := 2, cells := 0, slots := 0, locals := 63 }).room s m args below meth c (MQ below (Qvx D A (XW ad cI cB) ur) args s 0 0 A) D A 4 (XW ad cI cB) u 17 [(0, .ref (ad 9)), (1, .ref (ad 1)), (2, .int x2)] [] := by
    intro u x2 h
    unfold e_X1_put_J17 at h
    refine x_aload_n C dX1_put_17 0 rfl (pc2 := 18) rfl ?_
    refine x_aload_n C dX1_put_18 1 rfl (pc2 := 19) rfl ?_
    refine x_iload_n C dX1_put_19 2 rfl (pc2 := 20) rfl ?_
    refine x_callVv (As := [.ref (ad 1), .int x2]) (rest := []) (index := 93) (n := 2) C h (c_X1_beginPage l D A ad cI cB _ _) gX1_put_X1_beginPage rfl (by decide +kernel) rfl rfl ⟨Nat.le_of_ble_eq_true rfl, Nat.le_of_ble_eq_true rfl⟩ (ci := 1) rfl rfl (xc_9 ad cI cB _) (XW_D ad cI cB _) rfl rfl (Nat.le_of_ble_eq_true rfl) dX1_put_20 (pc2 := 23) rfl (fun u3 h => ?_)
    refine x_goto C dX1_put_23 (pc2 := 46) (by decide) ?_
    exact x_vret C hr hlocks h dX1_put_46
  refine x_aload_n C dX1_put_0 0 rfl (pc2 := 1) rfl ?_
  refine x_get C hiX1 9 (xc_9 ad cI cB _) rfl 5 (by decide) f27 (v := .ref (ad 10)) rfl dX1_put_1 (pc2 := 4) rfl ?_
  refine x_iload_n C dX1_put_4 2 rfl (pc2 := 5) rfl ?_
  refine x_iload_n C dX1_put_5 3 rfl (pc2 := 6) rfl ?_
  refine x_iast C h 10 0 (xc_10 ad cI cB _) rfl (u2 := (put u 10 (x2).toNatClampNeg x3)) (xs_10 ad cI cB _ _ _) dX1_put_6 (pc2 := 7) rfl (fun h => ?_)
  refine x_iload_n C dX1_put_7 3 rfl (pc2 := 8) rfl ?_
  refine x_iconst (v := (2 : Int32)) C dX1_put_8 (by decide) (pc2 := 9) rfl ?_
  refine x_icmp_eq C h dX1_put_9 (tgt := 17) (by decide) (pc2 := 12) rfl (fun h => ?_) (fun h => ?_)
  · refine x_sub [0, 1, 2] (lv2 := [(0, .ref (ad 9)), (1, .ref (ad 1)), (2, .int x2)]) rfl ?_
    exact J17 _ _ h
  · refine x_iload_n C dX1_put_12 2 rfl (pc2 := 13) rfl ?_
    refine x_iconst (v := (1 : Int32)) C dX1_put_13 (by decide) (pc2 := 14) rfl ?_
    refine x_icmp_ge C h dX1_put_14 (tgt := 26) (by decide) (pc2 := 17) rfl (fun h => ?_) (fun h => ?_)
    · refine x_iload_n C dX1_put_26 3 rfl (pc2 := 27) rfl ?_
      refine x_iconst (v := (1 : Int32)) C dX1_put_27 (by decide) (pc2 := 28) rfl ?_
      refine x_icmp_ne C h dX1_put_28 (tgt := 40) (by decide) (pc2 := 31) rfl (fun h => ?_) (fun h => ?_)
      · refine x_aload_n C dX1_put_40 0 rfl (pc2 := 41) rfl ?_
        refine x_aload_n C dX1_put_41 1 rfl (pc2 := 42) rfl ?_
        refine x_iload_n C dX1_put_42 2 rfl (pc2 := 43) rfl ?_
        refine x_callVv (As := [.ref (ad 1), .int x2]) (rest := []) (index := 100) (n := 2) C h (c_X1_goOn l D A ad cI cB _ _) gX1_put_X1_goOn rfl (by decide +kernel) rfl rfl ⟨Nat.le_of_ble_eq_true rfl, Nat.le_of_ble_eq_true rfl⟩ (ci := 1) rfl rfl (xc_9 ad cI cB _) (XW_D ad cI cB _) rfl rfl (Nat.le_of_ble_eq_true rfl) dX1_put_43 (pc2 := 46) rfl (fun u1 h => ?_)
        exact x_vret C hr hlocks h dX1_put_46
      · refine x_aload_n C dX1_put_31 0 rfl (pc2 := 32) rfl ?_
        refine x_aload_n C dX1_put_32 1 rfl (pc2 := 33) rfl ?_
        refine x_iload_n C dX1_put_33 2 rfl (pc2 := 34) rfl ?_
        refine x_callVv (As := [.ref (ad 1), .int x2]) (rest := []) (index := 97) (n := 2) C h (c_X1_beginTier l D A ad cI cB _ _) gX1_put_X1_beginTier rfl (by decide +kernel) rfl rfl ⟨Nat.le_of_ble_eq_true rfl, Nat.le_of_ble_eq_true rfl⟩ (ci := 1) rfl rfl (xc_9 ad cI cB _) (XW_D ad cI cB _) rfl rfl (Nat.le_of_ble_eq_true rfl) dX1_put_34 (pc2 := 37) rfl (fun u2 h => ?_)
        refine x_goto C dX1_put_37 (pc2 := 46) (by decide) ?_
        exact x_vret C hr hlocks h dX1_put_46
    · refine x_sub [0, 1, 2] (lv2 := [(0, .ref (ad 9)), (1, .ref (ad 1)), (2, .int x2)]) rfl ?_
      exact J17 _ _ h
set_option maxRecDepth 100000 in
set_option maxHeartbeats 4000000 in
theorem c_X1_raggedOfPage (l : Launch) (D : va_G) (A : Nat → Prop) (ad : Nat → Nat) (cI cB : ClassId) (u : Mem) (x2 : Int32) : Cti l yX1_raggedOfPage wsX1_raggedOfPage { frames := 1, cells := 0, slots := 0, locals := 21 } D A (XW ad cI cB) [(cI, .int), (cB, .object "PanelPages$Book")] [.ref (ad 9), .ref (ad 1), .int x2] u (e_X1_raggedOfPage u x2) := by
  intro r ur h
  refine Met.ofW (cc := cX1_raggedOfPage) (maxL := 4) (ret := (some .int)) (by decide) rfl ?_
  intro p e s m args below meth c s₁ B hml hv
  obtain ⟨hav, hP, hK, hD⟩ := hv
  have C : Cx p m c cX1_raggedOfPage 4 s args wsX1_raggedOfPage RX1 D [(cI, .int), (cB, .object "PanelPages$Book")] := ⟨⟨B.exec, B.bytes, hml, findClass_of_methodNamed B.named, atoms_spec (ws := wsX1_raggedOfPage) B.pre⟩, hK⟩
  have hr := B.returns
  have hlocks := B.notSynchronized
  have hiX0 : ∀ w ∈ wsX00, w ∈ wsX1_raggedOfPage := by decide +kernel
  have hiX1 : ∀ w ∈ wsX10, w ∈ wsX1_raggedOfPage := by decide +kernel
  have f40 : Cond.fieldLink RX1 40 "PanelPages$Layout" "heightAbove" "[I" ∈ wsX1_raggedOfPage := by decide +kernel
  have f43 : Cond.fieldLink RX1 43 "PanelPages$Layout" "height" "[I" ∈ wsX1_raggedOfPage := by decide +kernel
  have f46 : Cond.fieldLink RX1 46 "PanelPages$Layout" "gapsOnPage" "[I" ∈ wsX1_raggedOfPage := by decide +kernel
  have f81 : Cond.fieldLink RX1 81 "PanelPages$Book" "high" "I" ∈ wsX1_raggedOfPage := by decide +kernel
  refine x_entry2 (lv := [(0, .ref (ad 9)), (1, .ref (ad 1)), (2, .int x2)]) hav hP hD (Nat.le_of_ble_eq_true rfl) rfl ?_
  unfold e_X1_raggedOfPage at h
  refine x_aload_n C dX1_raggedOfPage_0 1 rfl (pc2 := 1) rfl ?_
  refine x_iload_n C dX1_raggedOfPage_1 2 rfl (pc2 := 2) rfl ?_
  refine x_callVi (As := [.int x2]) (rest := []) (index := 75) (n := 1) C h (c_X0_isSpread l D A ad cI cB _ _) gX1_raggedOfPage_X0_isSpread rfl (by decide +kernel) rfl rfl ⟨Nat.le_of_ble_eq_true rfl, Nat.le_of_ble_eq_true rfl⟩ (ci := 0) rfl rfl (xc_1 ad cI cB _) (XW_D ad cI cB _) rfl rfl (Nat.le_of_ble_eq_true rfl) dX1_raggedOfPage_2 (pc2 := 5) rfl (fun r1 u1 h => ?_)
  refine x_if_eq C h dX1_raggedOfPage_5 (tgt := 10) (by decide) (pc2 := 8) rfl (fun h => ?_) (fun h => ?_)
  · refine x_aload_n C dX1_raggedOfPage_10 1 rfl (pc2 := 11) rfl ?_
    refine x_get C hiX0 1 (xc_1 ad cI cB _) rfl 1 (by decide) f81 (v := .int (u1 1 1)) rfl dX1_raggedOfPage_11 (pc2 := 14) rfl ?_
    refine x_aload_n C dX1_raggedOfPage_14 0 rfl (pc2 := 15) rfl ?_
    refine x_get C hiX1 9 (xc_9 ad cI cB _) rfl 9 (by decide) f40 (v := .ref (ad 14)) rfl dX1_raggedOfPage_15 (pc2 := 18) rfl ?_
    refine x_iload_n C dX1_raggedOfPage_18 2 rfl (pc2 := 19) rfl ?_
    refine x_iald C h 14 0 (xc_14 ad cI cB _) rfl dX1_raggedOfPage_19 (pc2 := 20) rfl (fun h => ?_)
    refine x_isub C dX1_raggedOfPage_20 (pc2 := 21) rfl ?_
    refine x_aload_n C dX1_raggedOfPage_21 0 rfl (pc2 := 22) rfl ?_
    refine x_get C hiX1 9 (xc_9 ad cI cB _) rfl 10 (by decide) f43 (v := .ref (ad 15)) rfl dX1_raggedOfPage_22 (pc2 := 25) rfl ?_
    refine x_iload_n C dX1_raggedOfPage_25 2 rfl (pc2 := 26) rfl ?_
    refine x_iald C h 15 0 (xc_15 ad cI cB _) rfl dX1_raggedOfPage_26 (pc2 := 27) rfl (fun h => ?_)
    refine x_isub C dX1_raggedOfPage_27 (pc2 := 28) rfl ?_
    refine x_istore_n C dX1_raggedOfPage_28 (by decide) (lv2 := [(3, .int (((u1 1 1) - (u1 14 (x2).toNatClampNeg)) - (u1 15 (x2).toNatClampNeg))), (0, .ref (ad 9)), (1, .ref (ad 1)), (2, .int x2)]) rfl (pc2 := 29) rfl ?_
    refine x_iload_n C dX1_raggedOfPage_29 0 rfl (pc2 := 30) rfl ?_
    refine x_iload_n C dX1_raggedOfPage_30 0 rfl (pc2 := 31) rfl ?_
    refine x_imul C dX1_raggedOfPage_31 (pc2 := 32) rfl ?_
    refine x_aload_n C dX1_raggedOfPage_32 1 rfl (pc2 := 33) rfl ?_
    refine x_get C hiX1 9 (xc_9 ad cI cB _) rfl 11 (by decide) f46 (v := .ref (ad 16)) rfl dX1_raggedOfPage_33 (pc2 := 36) rfl ?_
    refine x_iload_n C dX1_raggedOfPage_36 3 rfl (pc2 := 37) rfl ?_
    refine x_iald C h 16 0 (xc_16 ad cI cB _) rfl dX1_raggedOfPage_37 (pc2 := 38) rfl (fun h => ?_)
    refine x_iadd C dX1_raggedOfPage_38 (pc2 := 39) rfl ?_
    exact x_iret C hr hlocks h dX1_raggedOfPage_39
  · refine x_iconst (v := (0 : Int32)) C dX1_raggedOfPage_8 (by decide) (pc2 := 9) rfl ?_
    exact x_iret C hr hlocks h dX1_raggedOfPage_9
set_option maxRecDepth 100000 in
set_option maxHeartbeats 4000000 in
theorem c_X1_pageHeightWith_P (l : Launch) (D : va_G) (A : Nat → Prop) (ad : Nat → Nat) (cI cB : ClassId) (u : Mem) (x2 : Int32) (x3 : Int32) : Cti l yX1_pageHeightWith wsX1_pageHeightWith { frames := 1, cells := 0, slots := 0, locals := 40 } D A (XW ad cI cB) [(cI, .int), (cB, .object "PanelPages$Book")] [.ref (ad 18), .ref (ad 1), .int x2, .int x3] u (e_X1_pageHeightWith_P u x2 x3) := by
  intro r ur h
  refine Met.ofW (cc := cX1_pageHeightWith) (maxL := 5) (ret := (some .int)) (by decide) rfl ?_
  intro p e s m args below meth c s₁ B hml hv
  obtain ⟨hav, hP, hK, hD⟩ := hv
  have C : Cx p m c cX1_pageHeightWith 5 s args wsX1_pageHeightWith RX1 D [(cI, .int), (cB, .object "PanelPages$Book")] := ⟨⟨B.exec, B.bytes, hml, findClass_of_methodNamed B.named, atoms_spec (ws := wsX1_pageHeightWith) B.pre⟩, hK⟩
  have hr := B.returns
  have hlocks := B.notSynchronized
  have hiX0 : ∀ w ∈ wsX00, w ∈ wsX1_pageHeightWith := by decide +kernel
  have hiX1 : ∀ w ∈ wsX10, w ∈ wsX1_pageHeightWith := by decide +kernel
  have f40 : Cond.fieldLink RX1 40 "PanelPages$Layout" "heightAbove" "[I" ∈ wsX1_pageHeightWith := by decide +kernel
  have f43 : Cond.fieldLink RX1 43 "PanelPages$Layout" "height" "[I" ∈ wsX1_pageHeightWith := by decide +kernel
  have f84 : Cond.fieldLink RX1 84 "PanelPages$Book" "tall" "[I" ∈ wsX1_pageHeightWith := by decide +kernel
  refine x_entry2 (lv := [(0, .ref (ad 18)), (1, .ref (ad 1)), (2, .int x2), (3, .int x3)]) hav hP hD (Nat.le_of_ble_eq_true rfl) rfl ?_
  unfold e_X1_pageHeightWith_P at h
  refine x_aload_n C dX1_pageHeightWith_0 1 rfl (pc2 := 1) rfl ?_
  refine x_get C hiX0 1 (xc_1 ad cI cB _) rfl 3 (by decide) f84 (v := .ref (ad 3)) rfl dX1_pageHeightWith_1 (pc2 := 4) rfl ?_
  refine x_iload_n C dX1_pageHeightWith_4 2 rfl (pc2 := 5) rfl ?_
  refine x_iald C h 3 0 (xc_3 ad cI cB _) rfl dX1_pageHeightWith_5 (pc2 := 6) rfl (fun h => ?_)
  refine x_istore C dX1_pageHeightWith_6 (by decide) (lv2 := [(4, .int (u 3 (x2).toNatClampNeg)), (0, .ref (ad 18)), (1, .ref (ad 1)), (2, .int x2), (3, .int x3)]) rfl (pc2 := 8) rfl ?_
  refine x_iload_n C dX1_pageHeightWith_8 4 rfl (pc2 := 9) rfl ?_
  refine x_iconst (v := (2 : Int32)) C dX1_pageHeightWith_9 (by decide) (pc2 := 10) rfl ?_
  refine x_icmp_eq C h dX1_pageHeightWith_10 (tgt := 18) (by decide) (pc2 := 13) rfl (fun h => ?_) (fun h => ?_)
  · refine x_iload C dX1_pageHeightWith_18 0 rfl (pc2 := 20) rfl ?_
    exact x_iret C hr hlocks h dX1_pageHeightWith_20
  · refine x_iload_n C dX1_pageHeightWith_13 3 rfl (pc2 := 14) rfl ?_
    refine x_iconst (v := (1 : Int32)) C dX1_pageHeightWith_14 (by decide) (pc2 := 15) rfl ?_
    refine x_icmp_ge C h dX1_pageHeightWith_15 (tgt := 21) (by decide) (pc2 := 18) rfl (fun h => ?_) (fun h => ?_)
    · refine x_iload_n C dX1_pageHeightWith_21 4 rfl (pc2 := 22) rfl ?_
      refine x_iconst (v := (1 : Int32)) C dX1_pageHeightWith_22 (by decide) (pc2 := 23) rfl ?_
      refine x_icmp_ne C h dX1_pageHeightWith_23 (tgt := 47) (by decide) (pc2 := 26) rfl (fun h => ?_) (fun h => ?_)
      · refine x_aload_n C dX1_pageHeightWith_47 1 rfl (pc2 := 48) rfl ?_
        refine x_get C hiX1 18 (xc_18 ad cI cB _) rfl 9 (by decide) f40 (v := .ref (ad 23)) rfl dX1_pageHeightWith_48 (pc2 := 51) rfl ?_
        refine x_iload_n C dX1_pageHeightWith_51 3 rfl (pc2 := 52) rfl ?_
        refine x_iconst (v := (1 : Int32)) C dX1_pageHeightWith_52 (by decide) (pc2 := 53) rfl ?_
        refine x_isub C dX1_pageHeightWith_53 (pc2 := 54) rfl ?_
        refine x_iald C h 23 0 (xc_23 ad cI cB _) rfl dX1_pageHeightWith_54 (pc2 := 55) rfl (fun h => ?_)
        refine x_aload_n C dX1_pageHeightWith_55 1 rfl (pc2 := 56) rfl ?_
        refine x_get C hiX1 18 (xc_18 ad cI cB _) rfl 10 (by decide) f43 (v := .ref (ad 24)) rfl dX1_pageHeightWith_56 (pc2 := 59) rfl ?_
        refine x_iload_n C dX1_pageHeightWith_59 3 rfl (pc2 := 60) rfl ?_
        refine x_iconst (v := (1 : Int32)) C dX1_pageHeightWith_60 (by decide) (pc2 := 61) rfl ?_
        refine x_isub C dX1_pageHeightWith_61 (pc2 := 62) rfl ?_
        refine x_iald C h 24 0 (xc_24 ad cI cB _) rfl dX1_pageHeightWith_62 (pc2 := 63) rfl (fun h => ?_)
        refine x_iload C dX1_pageHeightWith_63 0 rfl (pc2 := 65) rfl ?_
        refine x_mmax (index := 87) C (by decide +kernel) (by decide +kernel) (by decide +kernel) (by decide +kernel) (Nat.le_of_ble_eq_true rfl) (Nat.le_of_ble_eq_true rfl) dX1_pageHeightWith_65 (pc2 := 68) rfl ?_
        refine x_iadd C dX1_pageHeightWith_68 (pc2 := 69) rfl ?_
        exact x_iret C hr hlocks h dX1_pageHeightWith_69
      · refine x_aload_n C dX1_pageHeightWith_26 1 rfl (pc2 := 27) rfl ?_
        refine x_get C hiX1 18 (xc_18 ad cI cB _) rfl 9 (by decide) f40 (v := .ref (ad 23)) rfl dX1_pageHeightWith_27 (pc2 := 30) rfl ?_
        refine x_iload_n C dX1_pageHeightWith_30 3 rfl (pc2 := 31) rfl ?_
        refine x_iconst (v := (1 : Int32)) C dX1_pageHeightWith_31 (by decide) (pc2 := 32) rfl ?_
        refine x_isub C dX1_pageHeightWith_32 (pc2 := 33) rfl ?_
        refine x_iald C h 23 0 (xc_23 ad cI cB _) rfl dX1_pageHeightWith_33 (pc2 := 34) rfl (fun h => ?_)
        refine x_aload_n C dX1_pageHeightWith_34 1 rfl (pc2 := 35) rfl ?_
        refine x_get C hiX1 18 (xc_18 ad cI cB _) rfl 10 (by decide) f43 (v := .ref (ad 24)) rfl dX1_pageHeightWith_35 (pc2 := 38) rfl ?_
        refine x_iload_n C dX1_pageHeightWith_38 3 rfl (pc2 := 39) rfl ?_
        refine x_iconst (v := (1 : Int32)) C dX1_pageHeightWith_39 (by decide) (pc2 := 40) rfl ?_
        refine x_isub C dX1_pageHeightWith_40 (pc2 := 41) rfl ?_
        refine x_iald C h 24 0 (xc_24 ad cI cB _) rfl dX1_pageHeightWith_41 (pc2 := 42) rfl (fun h => ?_)
        refine x_iadd C dX1_pageHeightWith_42 (pc2 := 43) rfl ?_
        refine x_iload C dX1_pageHeightWith_43 0 rfl (pc2 := 45) rfl ?_
        refine x_iadd C dX1_pageHeightWith_45 (pc2 := 46) rfl ?_
        exact x_iret C hr hlocks h dX1_pageHeightWith_46
    · refine x_iload C dX1_pageHeightWith_18 0 rfl (pc2 := 20) rfl ?_
      exact x_iret C hr hlocks h dX1_pageHeightWith_20
set_option maxRecDepth 100000 in
set_option maxHeartbeats 4000000 in
theorem c_X1_whyNot_P (l : Launch) (D : va_G) (A : Nat → Prop) (ad : Nat → Nat) (cI cB : ClassId) (u : Mem) (x2 : Int32) (x3 : Int32) : Cti l yX1_whyNot wsX1_whyNot { frames := 2, cells := 0, slots := 0, locals := 64 } D A (XW ad cI cB) [(cI, .int), (cB, .object "PanelPages$Book")] [.ref (ad 18), .ref (ad 1), .int x2, .int x3] u (e_X1_whyNot_P u x2 x3) := by
  intro r ur h
  refine Met.ofW (cc := cX1_whyNot) (maxL := 4) (ret := (some .int)) (by decide) rfl ?_
  intro p e s m args below meth c s₁ B hml hv
  obtain ⟨hav, hP, hK, hD⟩ := hv
  have C : Cx p m c cX1_whyNot 4 s args wsX1_whyNot RX1 D [(cI, .int), (cB, .object "PanelPages$Book")] := ⟨⟨B.exec, B.bytes, hml, findClass_of_methodNamed B.named, atoms_spec (ws := wsX1_whyNot) B.pre⟩, hK⟩
  have hr := B.returns
  have hlocks := B.notSynchronized
  have hiX0 : ∀ w ∈ wsX00, w ∈ wsX1_whyNot := by decide +kernel
  have hiX1 : ∀ w ∈ wsX10, w ∈ wsX1_whyNot := by decide +kernel
  have f37 : Cond.fieldLink RX1 37 "PanelPages$Layout" "place" "[I" ∈ wsX1_whyNot := by decide +kernel
  have f81 : Cond.fieldLink RX1 81 "PanelPages$Book" "high" "I" ∈ wsX1_whyNot := by decide +kernel
  refine x_entry2 (lv := [(0, .ref (ad 18)), (1, .ref (ad 1)), (2, .int x2), (3, .int x3)]) hav hP hD (Nat.le_of_ble_eq_true rfl) rfl ?_
  unfold e_X1_whyNot_P at h
  have J81 : ∀ (u : Mem) (x2 : Int32) (x3 : Int32), e_X1_whyNot_P_J81 u x2 x3 = some (r, ur) → Wx p l e (headSpec wsX1_whyNot { frames := 2, cells := 0, slots := 0, locals := 64 }).room s m args below meth c (MQ below (Qix D A (XW ad cI cB) r ur) args s 0 0 A) D A 4 (XW ad cI cB) u 81 [(0, .ref (ad 18)), (1, .ref (ad 1)), (2, .int x2), (3, .int x3)] [] := by
    intro u x2 x3 h
    unfold e_X1_whyNot_P_J81 at h
    refine x_aload_n C dX1_whyNot_81 1 rfl (pc2 := 82) rfl ?_
    refine x_iload_n C dX1_whyNot_82 2 rfl (pc2 := 83) rfl ?_
    refine x_callVi (As := [.int x2]) (rest := []) (index := 75) (n := 1) C h (c_X0_isSpread l D A ad cI cB _ _) gX1_whyNot_X0_isSpread rfl (by decide +kernel) rfl rfl ⟨Nat.le_of_ble_eq_true rfl, Nat.le_of_ble_eq_true rfl⟩ (ci := 0) rfl rfl (xc_1 ad cI cB _) (XW_D ad cI cB _) rfl rfl (Nat.le_of_ble_eq_true rfl) dX1_whyNot_83 (pc2 := 86) rfl (fun r5 u5 h => ?_)
    refine x_if_ne C h dX1_whyNot_86 (tgt := 105) (by decide) (pc2 := 89) rfl (fun h => ?_) (fun h => ?_)
    · refine x_iconst (v := (0 : Int32)) C dX1_whyNot_105 (by decide) (pc2 := 106) rfl ?_
      exact x_iret C hr hlocks h dX1_whyNot_106
    · refine x_aload_n C dX1_whyNot_89 0 rfl (pc2 := 90) rfl ?_
      refine x_aload_n C dX1_whyNot_90 1 rfl (pc2 := 91) rfl ?_
      refine x_iload_n C dX1_whyNot_91 2 rfl (pc2 := 92) rfl ?_
      refine x_iload_n C dX1_whyNot_92 3 rfl (pc2 := 93) rfl ?_
      refine x_callVi (As := [.ref (ad 1), .int x2, .int x3]) (rest := []) (index := 78) (n := 3) C h (c_X1_pageHeightWith_P l D A ad cI cB _ _ _) gX1_whyNot_X1_pageHeightWith rfl (by decide +kernel) rfl rfl ⟨Nat.le_of_ble_eq_true rfl, Nat.le_of_ble_eq_true rfl⟩ (ci := 1) rfl rfl (xc_18 ad cI cB _) (XW_D ad cI cB _) rfl rfl (Nat.le_of_ble_eq_true rfl) dX1_whyNot_93 (pc2 := 96) rfl (fun r6 u6 h => ?_)
      refine x_aload_n C dX1_whyNot_96 1 rfl (pc2 := 97) rfl ?_
      refine x_get C hiX0 1 (xc_1 ad cI cB _) rfl 1 (by decide) f81 (v := .int (u6 1 1)) rfl dX1_whyNot_97 (pc2 := 100) rfl ?_
      refine x_icmp_le C h dX1_whyNot_100 (tgt := 105) (by decide) (pc2 := 103) rfl (fun h => ?_) (fun h => ?_)
      · refine x_iconst (v := (0 : Int32)) C dX1_whyNot_105 (by decide) (pc2 := 106) rfl ?_
        exact x_iret C hr hlocks h dX1_whyNot_106
      · refine x_iconst (v := (5 : Int32)) C dX1_whyNot_103 (by decide) (pc2 := 104) rfl ?_
        exact x_iret C hr hlocks h dX1_whyNot_104
  have J56 : ∀ (u : Mem) (x2 : Int32) (x3 : Int32), e_X1_whyNot_P_J56 u x2 x3 = some (r, ur) → Wx p l e (headSpec wsX1_whyNot { frames := 2, cells := 0, slots := 0, locals := 64 }).room s m args below meth c (MQ below (Qix D A (XW ad cI cB) r ur) args s 0 0 A) D A 4 (XW ad cI cB) u 56 [(0, .ref (ad 18)), (1, .ref (ad 1)), (2, .int x2), (3, .int x3)] [] := by
    intro u x2 x3 h
    unfold e_X1_whyNot_P_J56 at h
    refine x_iload_n C dX1_whyNot_56 3 rfl (pc2 := 57) rfl ?_
    refine x_iconst (v := (2 : Int32)) C dX1_whyNot_57 (by decide) (pc2 := 58) rfl ?_
    refine x_icmp_eq C h dX1_whyNot_58 (tgt := 81) (by decide) (pc2 := 61) rfl (fun h => ?_) (fun h => ?_)
    · exact J81 _ _ _ h
    · refine x_aload_n C dX1_whyNot_61 1 rfl (pc2 := 62) rfl ?_
      refine x_iload_n C dX1_whyNot_62 2 rfl (pc2 := 63) rfl ?_
      refine x_callVi (As := [.int x2]) (rest := []) (index := 72) (n := 1) C h (c_X0_wantsLeftPage l D A ad cI cB _ _) gX1_whyNot_X0_wantsLeftPage rfl (by decide +kernel) rfl rfl ⟨Nat.le_of_ble_eq_true rfl, Nat.le_of_ble_eq_true rfl⟩ (ci := 0) rfl rfl (xc_1 ad cI cB _) (XW_D ad cI cB _) rfl rfl (Nat.le_of_ble_eq_true rfl) dX1_whyNot_63 (pc2 := 66) rfl (fun r3 u3 h => ?_)
      refine x_if_ne C h dX1_whyNot_66 (tgt := 79) (by decide) (pc2 := 69) rfl (fun h => ?_) (fun h => ?_)
      · refine x_iconst (v := (4 : Int32)) C dX1_whyNot_79 (by decide) (pc2 := 80) rfl ?_
        exact x_iret C hr hlocks h dX1_whyNot_80
      · refine x_aload_n C dX1_whyNot_69 1 rfl (pc2 := 70) rfl ?_
        refine x_iload_n C dX1_whyNot_70 2 rfl (pc2 := 71) rfl ?_
        refine x_iconst (v := (1 : Int32)) C dX1_whyNot_71 (by decide) (pc2 := 72) rfl ?_
        refine x_isub C dX1_whyNot_72 (pc2 := 73) rfl ?_
        refine x_callVi (As := [.int (x2 - (1 : Int32))]) (rest := []) (index := 75) (n := 1) C h (c_X0_isSpread l D A ad cI cB _ _) gX1_whyNot_X0_isSpread rfl (by decide +kernel) rfl rfl ⟨Nat.le_of_ble_eq_true rfl, Nat.le_of_ble_eq_true rfl⟩ (ci := 0) rfl rfl (xc_1 ad cI cB _) (XW_D ad cI cB _) rfl rfl (Nat.le_of_ble_eq_true rfl) dX1_whyNot_73 (pc2 := 76) rfl (fun r4 u4 h => ?_)
        refine x_if_eq C h dX1_whyNot_76 (tgt := 81) (by decide) (pc2 := 79) rfl (fun h => ?_) (fun h => ?_)
        · exact J81 _ _ _ h
        · refine x_iconst (v := (4 : Int32)) C dX1_whyNot_79 (by decide) (pc2 := 80) rfl ?_
          exact x_iret C hr hlocks h dX1_whyNot_80
  have J32 : ∀ (u : Mem) (x2 : Int32) (x3 : Int32), e_X1_whyNot_P_J32 u x2 x3 = some (r, ur) → Wx p l e (headSpec wsX1_whyNot { frames := 2, cells := 0, slots := 0, locals := 64 }).room s m args below meth c (MQ below (Qix D A (XW ad cI cB) r ur) args s 0 0 A) D A 4 (XW ad cI cB) u 32 [(0, .ref (ad 18)), (1, .ref (ad 1)), (2, .int x2), (3, .int x3)] [] := by
    intro u x2 x3 h
    unfold e_X1_whyNot_P_J32 at h
    refine x_iload_n C dX1_whyNot_32 3 rfl (pc2 := 33) rfl ?_
    refine x_if_ne C h dX1_whyNot_33 (tgt := 56) (by decide) (pc2 := 36) rfl (fun h => ?_) (fun h => ?_)
    · exact J56 _ _ _ h
    · refine x_aload_n C dX1_whyNot_36 1 rfl (pc2 := 37) rfl ?_
      refine x_iload_n C dX1_whyNot_37 2 rfl (pc2 := 38) rfl ?_
      refine x_callVi (As := [.int x2]) (rest := []) (index := 68) (n := 1) C h (c_X0_wantsOwnTier l D A ad cI cB _ _) gX1_whyNot_X0_wantsOwnTier rfl (by decide +kernel) rfl rfl ⟨Nat.le_of_ble_eq_true rfl, Nat.le_of_ble_eq_true rfl⟩ (ci := 0) rfl rfl (xc_1 ad cI cB _) (XW_D ad cI cB _) rfl rfl (Nat.le_of_ble_eq_true rfl) dX1_whyNot_38 (pc2 := 41) rfl (fun r1 u1 h => ?_)
      refine x_if_ne C h dX1_whyNot_41 (tgt := 54) (by decide) (pc2 := 44) rfl (fun h => ?_) (fun h => ?_)
      · refine x_iconst (v := (3 : Int32)) C dX1_whyNot_54 (by decide) (pc2 := 55) rfl ?_
        exact x_iret C hr hlocks h dX1_whyNot_55
      · refine x_aload_n C dX1_whyNot_44 1 rfl (pc2 := 45) rfl ?_
        refine x_iload_n C dX1_whyNot_45 2 rfl (pc2 := 46) rfl ?_
        refine x_iconst (v := (1 : Int32)) C dX1_whyNot_46 (by decide) (pc2 := 47) rfl ?_
        refine x_isub C dX1_whyNot_47 (pc2 := 48) rfl ?_
        refine x_callVi (As := [.int (x2 - (1 : Int32))]) (rest := []) (index := 68) (n := 1) C h (c_X0_wantsOwnTier l D A ad cI cB _ _) gX1_whyNot_X0_wantsOwnTier rfl (by decide +kernel) rfl rfl ⟨Nat.le_of_ble_eq_true rfl, Nat.le_of_ble_eq_true rfl⟩ (ci := 0) rfl rfl (xc_1 ad cI cB _) (XW_D ad cI cB _) rfl rfl (Nat.le_of_ble_eq_true rfl) dX1_whyNot_48 (pc2 := 51) rfl (fun r2 u2 h => ?_)
        refine x_if_eq C h dX1_whyNot_51 (tgt := 56) (by decide) (pc2 := 54) rfl (fun h => ?_) (fun h => ?_)
        · exact J56 _ _ _ h
        · refine x_iconst (v := (3 : Int32)) C dX1_whyNot_54 (by decide) (pc2 := 55) rfl ?_
          exact x_iret C hr hlocks h dX1_whyNot_55
  have J12 : ∀ (u : Mem) (x2 : Int32) (x3 : Int32), e_X1_whyNot_P_J12 u x2 x3 = some (r, ur) → Wx p l e (headSpec wsX1_whyNot { frames := 2, cells := 0, slots := 0, locals := 64 }).room s m args below meth c (MQ below (Qix D A (XW ad cI cB) r ur) args s 0 0 A) D A 4 (XW ad cI cB) u 12 [(0, .ref (ad 18)), (1, .ref (ad 1)), (2, .int x2), (3, .int x3)] [] := by
    intro u x2 x3 h
    unfold e_X1_whyNot_P_J12 at h
    refine x_iload_n C dX1_whyNot_12 3 rfl (pc2 := 13) rfl ?_
    refine x_if_ne C h dX1_whyNot_13 (tgt := 32) (by decide) (pc2 := 16) rfl (fun h => ?_) (fun h => ?_)
    · exact J32 _ _ _ h
    · refine x_aload_n C dX1_whyNot_16 0 rfl (pc2 := 17) rfl ?_
      refine x_get C hiX1 18 (xc_18 ad cI cB _) rfl 8 (by decide) f37 (v := .ref (ad 22)) rfl dX1_whyNot_17 (pc2 := 20) rfl ?_
      refine x_iload_n C dX1_whyNot_20 2 rfl (pc2 := 21) rfl ?_
      refine x_iconst (v := (1 : Int32)) C dX1_whyNot_21 (by decide) (pc2 := 22) rfl ?_
      refine x_isub C dX1_whyNot_22 (pc2 := 23) rfl ?_
      refine x_iald C h 22 0 (xc_22 ad cI cB _) rfl dX1_whyNot_23 (pc2 := 24) rfl (fun h => ?_)
      refine x_iconst (v := (1 : Int32)) C dX1_whyNot_24 (by decide) (pc2 := 25) rfl ?_
      refine x_iadd C dX1_whyNot_25 (pc2 := 26) rfl ?_
      refine x_iconst (v := (4 : Int32)) C dX1_whyNot_26 (by decide) (pc2 := 27) rfl ?_
      refine x_icmp_lt C h dX1_whyNot_27 (tgt := 32) (by decide) (pc2 := 30) rfl (fun h => ?_) (fun h => ?_)
      · exact J32 _ _ _ h
      · refine x_iconst (v := (2 : Int32)) C dX1_whyNot_30 (by decide) (pc2 := 31) rfl ?_
        exact x_iret C hr hlocks h dX1_whyNot_31
  refine x_iload_n C dX1_whyNot_0 3 rfl (pc2 := 1) rfl ?_
  refine x_iconst (v := (2 : Int32)) C dX1_whyNot_1 (by decide) (pc2 := 2) rfl ?_
  refine x_icmp_eq C h dX1_whyNot_2 (tgt := 12) (by decide) (pc2 := 5) rfl (fun h => ?_) (fun h => ?_)
  · exact J12 _ _ _ h
  · refine x_iload_n C dX1_whyNot_5 2 rfl (pc2 := 6) rfl ?_
    refine x_iconst (v := (1 : Int32)) C dX1_whyNot_6 (by decide) (pc2 := 7) rfl ?_
    refine x_icmp_ge C h dX1_whyNot_7 (tgt := 12) (by decide) (pc2 := 10) rfl (fun h => ?_) (fun h => ?_)
    · exact J12 _ _ _ h
    · refine x_iconst (v := (1 : Int32)) C dX1_whyNot_10 (by decide) (pc2 := 11) rfl ?_
      exact x_iret C hr hlocks h dX1_whyNot_11
set_option maxRecDepth 100000 in
set_option maxHeartbeats 4000000 in
theorem c_X1_beginPage_P (l : Launch) (D : va_G) (A : Nat → Prop) (ad : Nat → Nat) (cI cB : ClassId) (u : Mem) (x2 : Int32) : Ctv l yX1_beginPage wsX1_beginPage { frames := 0, cells := 0, slots := 0, locals := 0 } D A (XW ad cI cB) [(cI, .int), (cB, .object "PanelPages$Book")] [.ref (ad 18), .ref (ad 1), .int x2] u (e_X1_beginPage_P u x2) := by
  intro ur h
  refine Met.ofW (cc := cX1_beginPage) (maxL := 3) (ret := none) (by decide) rfl ?_
  intro p e s m args below meth c s₁ B hml hv
  obtain ⟨hav, hP, hK, hD⟩ := hv
  have C : Cx p m c cX1_beginPage 3 s args wsX1_beginPage RX1 D [(cI, .int), (cB, .object "PanelPages$Book")] := ⟨⟨B.exec, B.bytes, hml, findClass_of_methodNamed B.named, atoms_spec (ws := wsX1_beginPage) B.pre⟩, hK⟩
  have hr := B.returns
  have hlocks := B.notSynchronized
  have hiX0 : ∀ w ∈ wsX00, w ∈ wsX1_beginPage := by decide +kernel
  have hiX1 : ∀ w ∈ wsX10, w ∈ wsX1_beginPage := by decide +kernel
  have f34 : Cond.fieldLink RX1 34 "PanelPages$Layout" "tierOnPage" "[I" ∈ wsX1_beginPage := by decide +kernel
  have f37 : Cond.fieldLink RX1 37 "PanelPages$Layout" "place" "[I" ∈ wsX1_beginPage := by decide +kernel
  have f40 : Cond.fieldLink RX1 40 "PanelPages$Layout" "heightAbove" "[I" ∈ wsX1_beginPage := by decide +kernel
  have f43 : Cond.fieldLink RX1 43 "PanelPages$Layout" "height" "[I" ∈ wsX1_beginPage := by decide +kernel
  have f46 : Cond.fieldLink RX1 46 "PanelPages$Layout" "gapsOnPage" "[I" ∈ wsX1_beginPage := by decide +kernel
  have f84 : Cond.fieldLink RX1 84 "PanelPages$Book" "tall" "[I" ∈ wsX1_beginPage := by decide +kernel
  refine x_entry2 (lv := [(0, .ref (ad 18)), (1, .ref (ad 1)), (2, .int x2)]) hav hP hD (Nat.le_of_ble_eq_true rfl) rfl ?_
  unfold e_X1_beginPage_P at h
  refine x_aload_n C dX1_beginPage_0 0 rfl (pc2 := 1) rfl ?_
  refine x_get C hiX1 18 (xc_18 ad cI cB _) rfl 7 (by decide) f34 (v := .ref (ad 21)) rfl dX1_beginPage_1 (pc2 := 4) rfl ?_
  refine x_iload_n C dX1_beginPage_4 2 rfl (pc2 := 5) rfl ?_
  refine x_iconst (v := (0 : Int32)) C dX1_beginPage_5 (by decide) (pc2 := 6) rfl ?_
  refine x_iast C h 21 0 (xc_21 ad cI cB _) rfl (u2 := (put u 21 (x2).toNatClampNeg (0 : Int32))) (xs_21 ad cI cB _ _ _) dX1_beginPage_6 (pc2 := 7) rfl (fun h => ?_)
  refine x_aload_n C dX1_beginPage_7 0 rfl (pc2 := 8) rfl ?_
  refine x_get C hiX1 18 (xc_18 ad cI cB _) rfl 8 (by decide) f37 (v := .ref (ad 22)) rfl dX1_beginPage_8 (pc2 := 11) rfl ?_
  refine x_iload_n C dX1_beginPage_11 2 rfl (pc2 := 12) rfl ?_
  refine x_iconst (v := (0 : Int32)) C dX1_beginPage_12 (by decide) (pc2 := 13) rfl ?_
  refine x_iast C h 22 0 (xc_22 ad cI cB _) rfl (u2 := (put (put u 21 (x2).toNatClampNeg (0 : Int32)) 22 (x2).toNatClampNeg (0 : Int32))) (xs_22 ad cI cB _ _ _) dX1_beginPage_13 (pc2 := 14) rfl (fun h => ?_)
  refine x_aload_n C dX1_beginPage_14 0 rfl (pc2 := 15) rfl ?_
  refine x_get C hiX1 18 (xc_18 ad cI cB _) rfl 9 (by decide) f40 (v := .ref (ad 23)) rfl dX1_beginPage_15 (pc2 := 18) rfl ?_
  refine x_iload_n C dX1_beginPage_18 2 rfl (pc2 := 19) rfl ?_
  refine x_iconst (v := (0 : Int32)) C dX1_beginPage_19 (by decide) (pc2 := 20) rfl ?_
  refine x_iast C h 23 0 (xc_23 ad cI cB _) rfl (u2 := (put (put (put u 21 (x2).toNatClampNeg (0 : Int32)) 22 (x2).toNatClampNeg (0 : Int32)) 23 (x2).toNatClampNeg (0 : Int32))) (xs_23 ad cI cB _ _ _) dX1_beginPage_20 (pc2 := 21) rfl (fun h => ?_)
  refine x_aload_n C dX1_beginPage_21 0 rfl (pc2 := 22) rfl ?_
  refine x_get C hiX1 18 (xc_18 ad cI cB _) rfl 10 (by decide) f43 (v := .ref (ad 24)) rfl dX1_beginPage_22 (pc2 := 25) rfl ?_
  refine x_iload_n C dX1_beginPage_25 2 rfl (pc2 := 26) rfl ?_
  refine x_aload_n C dX1_beginPage_26 1 rfl (pc2 := 27) rfl ?_
  refine x_get C hiX0 1 (xc_1 ad cI cB _) rfl 3 (by decide) f84 (v := .ref (ad 3)) rfl dX1_beginPage_27 (pc2 := 30) rfl ?_
  refine x_iload_n C dX1_beginPage_30 2 rfl (pc2 := 31) rfl ?_
  refine x_iald C h 3 0 (xc_3 ad cI cB _) rfl dX1_beginPage_31 (pc2 := 32) rfl (fun h => ?_)
  refine x_tope (y := (u 3 (x2).toNatClampNeg)) rfl ?_
  refine x_iast C h 24 0 (xc_24 ad cI cB _) rfl (u2 := (put (put (put (put u 21 (x2).toNatClampNeg (0 : Int32)) 22 (x2).toNatClampNeg (0 : Int32)) 23 (x2).toNatClampNeg (0 : Int32)) 24 (x2).toNatClampNeg (u 3 (x2).toNatClampNeg))) (xs_24 ad cI cB _ _ _) dX1_beginPage_32 (pc2 := 33) rfl (fun h => ?_)
  refine x_aload_n C dX1_beginPage_33 0 rfl (pc2 := 34) rfl ?_
  refine x_get C hiX1 18 (xc_18 ad cI cB _) rfl 11 (by decide) f46 (v := .ref (ad 25)) rfl dX1_beginPage_34 (pc2 := 37) rfl ?_
  refine x_iload_n C dX1_beginPage_37 2 rfl (pc2 := 38) rfl ?_
  refine x_iconst (v := (0 : Int32)) C dX1_beginPage_38 (by decide) (pc2 := 39) rfl ?_
  refine x_iast C h 25 0 (xc_25 ad cI cB _) rfl (u2 := (put (put (put (put (put u 21 (x2).toNatClampNeg (0 : Int32)) 22 (x2).toNatClampNeg (0 : Int32)) 23 (x2).toNatClampNeg (0 : Int32)) 24 (x2).toNatClampNeg (u 3 (x2).toNatClampNeg)) 25 (x2).toNatClampNeg (0 : Int32))) (xs_25 ad cI cB _ _ _) dX1_beginPage_39 (pc2 := 40) rfl (fun h => ?_)
  exact x_vret C hr hlocks h dX1_beginPage_40
set_option maxRecDepth 100000 in
set_option maxHeartbeats 4000000 in
theorem c_X1_beginTier_P (l : Launch) (D : va_G) (A : Nat → Prop) (ad : Nat → Nat) (cI cB : ClassId) (u : Mem) (x2 : Int32) : Ctv l yX1_beginTier wsX1_beginTier { frames := 0, cells := 0, slots := 0, locals := 0 } D A (XW ad cI cB) [(cI, .int), (cB, .object "PanelPages$Book")] [.ref (ad 18), .ref (ad 1), .int x2] u (e_X1_beginTier_P u x2) := by
  intro ur h
  refine Met.ofW (cc := cX1_beginTier) (maxL := 3) (ret := none) (by decide) rfl ?_
  intro p e s m args below meth c s₁ B hml hv
  obtain ⟨hav, hP, hK, hD⟩ := hv
  have C : Cx p m c cX1_beginTier 3 s args wsX1_beginTier RX1 D [(cI, .int), (cB, .object "PanelPages$Book")] := ⟨⟨B.exec, B.bytes, hml, findClass_of_methodNamed B.named, atoms_spec (ws := wsX1_beginTier) B.pre⟩, hK⟩
  have hr := B.returns
  have hlocks := B.notSynchronized
  have hiX0 : ∀ w ∈ wsX00, w ∈ wsX1_beginTier := by decide +kernel
  have hiX1 : ∀ w ∈ wsX10, w ∈ wsX1_beginTier := by decide +kernel
  have f34 : Cond.fieldLink RX1 34 "PanelPages$Layout" "tierOnPage" "[I" ∈ wsX1_beginTier := by decide +kernel
  have f37 : Cond.fieldLink RX1 37 "PanelPages$Layout" "place" "[I" ∈ wsX1_beginTier := by decide +kernel
  have f40 : Cond.fieldLink RX1 40 "PanelPages$Layout" "heightAbove" "[I" ∈ wsX1_beginTier := by decide +kernel
  have f43 : Cond.fieldLink RX1 43 "PanelPages$Layout" "height" "[I" ∈ wsX1_beginTier := by decide +kernel
  have f46 : Cond.fieldLink RX1 46 "PanelPages$Layout" "gapsOnPage" "[I" ∈ wsX1_beginTier := by decide +kernel
  have f84 : Cond.fieldLink RX1 84 "PanelPages$Book" "tall" "[I" ∈ wsX1_beginTier := by decide +kernel
  refine x_entry2 (lv := [(0, .ref (ad 18)), (1, .ref (ad 1)), (2, .int x2)]) hav hP hD (Nat.le_of_ble_eq_true rfl) rfl ?_
  unfold e_X1_beginTier_P at h
  refine x_aload_n C dX1_beginTier_0 0 rfl (pc2 := 1) rfl ?_
  refine x_get C hiX1 18 (xc_18 ad cI cB _) rfl 7 (by decide) f34 (v := .ref (ad 21)) rfl dX1_beginTier_1 (pc2 := 4) rfl ?_
  refine x_iload_n C dX1_beginTier_4 2 rfl (pc2 := 5) rfl ?_
  refine x_aload_n C dX1_beginTier_5 0 rfl (pc2 := 6) rfl ?_
  refine x_get C hiX1 18 (xc_18 ad cI cB _) rfl 7 (by decide) f34 (v := .ref (ad 21)) rfl dX1_beginTier_6 (pc2 := 9) rfl ?_
  refine x_iload_n C dX1_beginTier_9 2 rfl (pc2 := 10) rfl ?_
  refine x_iconst (v := (1 : Int32)) C dX1_beginTier_10 (by decide) (pc2 := 11) rfl ?_
  refine x_isub C dX1_beginTier_11 (pc2 := 12) rfl ?_
  refine x_iald C h 21 0 (xc_21 ad cI cB _) rfl dX1_beginTier_12 (pc2 := 13) rfl (fun h => ?_)
  refine x_iconst (v := (1 : Int32)) C dX1_beginTier_13 (by decide) (pc2 := 14) rfl ?_
  refine x_iadd C dX1_beginTier_14 (pc2 := 15) rfl ?_
  refine x_iast C h 21 0 (xc_21 ad cI cB _) rfl (u2 := (put u 21 (x2).toNatClampNeg ((u 21 ((x2 - (1 : Int32))).toNatClampNeg) + (1 : Int32)))) (xs_21 ad cI cB _ _ _) dX1_beginTier_15 (pc2 := 16) rfl (fun h => ?_)
  refine x_aload_n C dX1_beginTier_16 0 rfl (pc2 := 17) rfl ?_
  refine x_get C hiX1 18 (xc_18 ad cI cB _) rfl 8 (by decide) f37 (v := .ref (ad 22)) rfl dX1_beginTier_17 (pc2 := 20) rfl ?_
  refine x_iload_n C dX1_beginTier_20 2 rfl (pc2 := 21) rfl ?_
  refine x_iconst (v := (0 : Int32)) C dX1_beginTier_21 (by decide) (pc2 := 22) rfl ?_
  refine x_iast C h 22 0 (xc_22 ad cI cB _) rfl (u2 := (put (put u 21 (x2).toNatClampNeg ((u 21 ((x2 - (1 : Int32))).toNatClampNeg) + (1 : Int32))) 22 (x2).toNatClampNeg (0 : Int32))) (xs_22 ad cI cB _ _ _) dX1_beginTier_22 (pc2 := 23) rfl (fun h => ?_)
  refine x_aload_n C dX1_beginTier_23 0 rfl (pc2 := 24) rfl ?_
  refine x_get C hiX1 18 (xc_18 ad cI cB _) rfl 9 (by decide) f40 (v := .ref (ad 23)) rfl dX1_beginTier_24 (pc2 := 27) rfl ?_
  refine x_iload_n C dX1_beginTier_27 2 rfl (pc2 := 28) rfl ?_
  refine x_aload_n C dX1_beginTier_28 0 rfl (pc2 := 29) rfl ?_
  refine x_get C hiX1 18 (xc_18 ad cI cB _) rfl 9 (by decide) f40 (v := .ref (ad 23)) rfl dX1_beginTier_29 (pc2 := 32) rfl ?_
  refine x_iload_n C dX1_beginTier_32 2 rfl (pc2 := 33) rfl ?_
  refine x_iconst (v := (1 : Int32)) C dX1_beginTier_33 (by decide) (pc2 := 34) rfl ?_
  refine x_isub C dX1_beginTier_34 (pc2 := 35) rfl ?_
  refine x_iald C h 23 0 (xc_23 ad cI cB _) rfl dX1_beginTier_35 (pc2 := 36) rfl (fun h => ?_)
  refine x_tope (y := (u 23 ((x2 - (1 : Int32))).toNatClampNeg)) rfl ?_
  refine x_aload_n C dX1_beginTier_36 0 rfl (pc2 := 37) rfl ?_
  refine x_get C hiX1 18 (xc_18 ad cI cB _) rfl 10 (by decide) f43 (v := .ref (ad 24)) rfl dX1_beginTier_37 (pc2 := 40) rfl ?_
  refine x_iload_n C dX1_beginTier_40 2 rfl (pc2 := 41) rfl ?_
  refine x_iconst (v := (1 : Int32)) C dX1_beginTier_41 (by decide) (pc2 := 42) rfl ?_
  refine x_isub C dX1_beginTier_42 (pc2 := 43) rfl ?_
  refine x_iald C h 24 0 (xc_24 ad cI cB _) rfl dX1_beginTier_43 (pc2 := 44) rfl (fun h => ?_)
  refine x_tope (y := (u 24 ((x2 - (1 : Int32))).toNatClampNeg)) rfl ?_
  refine x_iadd C dX1_beginTier_44 (pc2 := 45) rfl ?_
  refine x_iast C h 23 0 (xc_23 ad cI cB _) rfl (u2 := (put (put (put u 21 (x2).toNatClampNeg ((u 21 ((x2 - (1 : Int32))).toNatClampNeg) + (1 : Int32))) 22 (x2).toNatClampNeg (0 : Int32)) 23 (x2).toNatClampNeg ((u 23 ((x2 - (1 : Int32))).toNatClampNeg) + (u 24 ((x2 - (1 : Int32))).toNatClampNeg)))) (xs_23 ad cI cB _ _ _) dX1_beginTier_45 (pc2 := 46) rfl (fun h => ?_)
  refine x_aload_n C dX1_beginTier_46 0 rfl (pc2 := 47) rfl ?_
  refine x_get C hiX1 18 (xc_18 ad cI cB _) rfl 10 (by decide) f43 (v := .ref (ad 24)) rfl dX1_beginTier_47 (pc2 := 50) rfl ?_
  refine x_iload_n C dX1_beginTier_50 2 rfl (pc2 := 51) rfl ?_
  refine x_aload_n C dX1_beginTier_51 1 rfl (pc2 := 52) rfl ?_
  refine x_get C hiX0 1 (xc_1 ad cI cB _) rfl 3 (by decide) f84 (v := .ref (ad 3)) rfl dX1_beginTier_52 (pc2 := 55) rfl ?_
  refine x_iload_n C dX1_beginTier_55 2 rfl (pc2 := 56) rfl ?_
  refine x_iald C h 3 0 (xc_3 ad cI cB _) rfl dX1_beginTier_56 (pc2 := 57) rfl (fun h => ?_)
  refine x_tope (y := (u 3 (x2).toNatClampNeg)) rfl ?_
  refine x_iast C h 24 0 (xc_24 ad cI cB _) rfl (u2 := (put (put (put (put u 21 (x2).toNatClampNeg ((u 21 ((x2 - (1 : Int32))).toNatClampNeg) + (1 : Int32))) 22 (x2).toNatClampNeg (0 : Int32)) 23 (x2).toNatClampNeg ((u 23 ((x2 - (1 : Int32))).toNatClampNeg) + (u 24 ((x2 - (1 : Int32))).toNatClampNeg))) 24 (x2).toNatClampNeg (u 3 (x2).toNatClampNeg))) (xs_24 ad cI cB _ _ _) dX1_beginTier_57 (pc2 := 58) rfl (fun h => ?_)
  refine x_aload_n C dX1_beginTier_58 0 rfl (pc2 := 59) rfl ?_
  refine x_get C hiX1 18 (xc_18 ad cI cB _) rfl 11 (by decide) f46 (v := .ref (ad 25)) rfl dX1_beginTier_59 (pc2 := 62) rfl ?_
  refine x_iload_n C dX1_beginTier_62 2 rfl (pc2 := 63) rfl ?_
  refine x_aload_n C dX1_beginTier_63 0 rfl (pc2 := 64) rfl ?_
  refine x_get C hiX1 18 (xc_18 ad cI cB _) rfl 11 (by decide) f46 (v := .ref (ad 25)) rfl dX1_beginTier_64 (pc2 := 67) rfl ?_
  refine x_iload_n C dX1_beginTier_67 2 rfl (pc2 := 68) rfl ?_
  refine x_iconst (v := (1 : Int32)) C dX1_beginTier_68 (by decide) (pc2 := 69) rfl ?_
  refine x_isub C dX1_beginTier_69 (pc2 := 70) rfl ?_
  refine x_iald C h 25 0 (xc_25 ad cI cB _) rfl dX1_beginTier_70 (pc2 := 71) rfl (fun h => ?_)
  refine x_tope (y := (u 25 ((x2 - (1 : Int32))).toNatClampNeg)) rfl ?_
  refine x_iast C h 25 0 (xc_25 ad cI cB _) rfl (u2 := (put (put (put (put (put u 21 (x2).toNatClampNeg ((u 21 ((x2 - (1 : Int32))).toNatClampNeg) + (1 : Int32))) 22 (x2).toNatClampNeg (0 : Int32)) 23 (x2).toNatClampNeg ((u 23 ((x2 - (1 : Int32))).toNatClampNeg) + (u 24 ((x2 - (1 : Int32))).toNatClampNeg))) 24 (x2).toNatClampNeg (u 3 (x2).toNatClampNeg)) 25 (x2).toNatClampNeg (u 25 ((x2 - (1 : Int32))).toNatClampNeg))) (xs_25 ad cI cB _ _ _) dX1_beginTier_71 (pc2 := 72) rfl (fun h => ?_)
  exact x_vret C hr hlocks h dX1_beginTier_72
set_option maxRecDepth 100000 in
set_option maxHeartbeats 4000000 in
theorem c_X1_goOn_P (l : Launch) (D : va_G) (A : Nat → Prop) (ad : Nat → Nat) (cI cB : ClassId) (u : Mem) (x2 : Int32) : Ctv l yX1_goOn wsX1_goOn { frames := 1, cells := 0, slots := 0, locals := 40 } D A (XW ad cI cB) [(cI, .int), (cB, .object "PanelPages$Book")] [.ref (ad 18), .ref (ad 1), .int x2] u (e_X1_goOn_P u x2) := by
  intro ur h
  refine Met.ofW (cc := cX1_goOn) (maxL := 4) (ret := none) (by decide) rfl ?_
  intro p e s m args below meth c s₁ B hml hv
  obtain ⟨hav, hP, hK, hD⟩ := hv
  have C : Cx p m c cX1_goOn 4 s args wsX1_goOn RX1 D [(cI, .int), (cB, .object "PanelPages$Book")] := ⟨⟨B.exec, B.bytes, hml, findClass_of_methodNamed B.named, atoms_spec (ws := wsX1_goOn) B.pre⟩, hK⟩
  have hr := B.returns
  have hlocks := B.notSynchronized
  have hiX0 : ∀ w ∈ wsX00, w ∈ wsX1_goOn := by decide +kernel
  have hiX1 : ∀ w ∈ wsX10, w ∈ wsX1_goOn := by decide +kernel
  have f34 : Cond.fieldLink RX1 34 "PanelPages$Layout" "tierOnPage" "[I" ∈ wsX1_goOn := by decide +kernel
  have f37 : Cond.fieldLink RX1 37 "PanelPages$Layout" "place" "[I" ∈ wsX1_goOn := by decide +kernel
  have f40 : Cond.fieldLink RX1 40 "PanelPages$Layout" "heightAbove" "[I" ∈ wsX1_goOn := by decide +kernel
  have f43 : Cond.fieldLink RX1 43 "PanelPages$Layout" "height" "[I" ∈ wsX1_goOn := by decide +kernel
  have f46 : Cond.fieldLink RX1 46 "PanelPages$Layout" "gapsOnPage" "[I" ∈ wsX1_goOn := by decide +kernel
  have f84 : Cond.fieldLink RX1 84 "PanelPages$Book" "tall" "[I" ∈ wsX1_goOn := by decide +kernel
  refine x_entry2 (lv := [(0, .ref (ad 18)), (1, .ref (ad 1)), (2, .int x2)]) hav hP hD (Nat.le_of_ble_eq_true rfl) rfl ?_
  unfold e_X1_goOn_P at h
  refine x_aload_n C dX1_goOn_0 0 rfl (pc2 := 1) rfl ?_
  refine x_get C hiX1 18 (xc_18 ad cI cB _) rfl 7 (by decide) f34 (v := .ref (ad 21)) rfl dX1_goOn_1 (pc2 := 4) rfl ?_
  refine x_iload_n C dX1_goOn_4 2 rfl (pc2 := 5) rfl ?_
  refine x_aload_n C dX1_goOn_5 0 rfl (pc2 := 6) rfl ?_
  refine x_get C hiX1 18 (xc_18 ad cI cB _) rfl 7 (by decide) f34 (v := .ref (ad 21)) rfl dX1_goOn_6 (pc2 := 9) rfl ?_
  refine x_iload_n C dX1_goOn_9 2 rfl (pc2 := 10) rfl ?_
  refine x_iconst (v := (1 : Int32)) C dX1_goOn_10 (by decide) (pc2 := 11) rfl ?_
  refine x_isub C dX1_goOn_11 (pc2 := 12) rfl ?_
  refine x_iald C h 21 0 (xc_21 ad cI cB _) rfl dX1_goOn_12 (pc2 := 13) rfl (fun h => ?_)
  refine x_iast C h 21 0 (xc_21 ad cI cB _) rfl (u2 := (put u 21 (x2).toNatClampNeg (u 21 ((x2 - (1 : Int32))).toNatClampNeg))) (xs_21 ad cI cB _ _ _) dX1_goOn_13 (pc2 := 14) rfl (fun h => ?_)
  refine x_aload_n C dX1_goOn_14 0 rfl (pc2 := 15) rfl ?_
  refine x_get C hiX1 18 (xc_18 ad cI cB _) rfl 8 (by decide) f37 (v := .ref (ad 22)) rfl dX1_goOn_15 (pc2 := 18) rfl ?_
  refine x_iload_n C dX1_goOn_18 2 rfl (pc2 := 19) rfl ?_
  refine x_aload_n C dX1_goOn_19 0 rfl (pc2 := 20) rfl ?_
  refine x_get C hiX1 18 (xc_18 ad cI cB _) rfl 8 (by decide) f37 (v := .ref (ad 22)) rfl dX1_goOn_20 (pc2 := 23) rfl ?_
  refine x_iload_n C dX1_goOn_23 2 rfl (pc2 := 24) rfl ?_
  refine x_iconst (v := (1 : Int32)) C dX1_goOn_24 (by decide) (pc2 := 25) rfl ?_
  refine x_isub C dX1_goOn_25 (pc2 := 26) rfl ?_
  refine x_iald C h 22 0 (xc_22 ad cI cB _) rfl dX1_goOn_26 (pc2 := 27) rfl (fun h => ?_)
  refine x_tope (y := (u 22 ((x2 - (1 : Int32))).toNatClampNeg)) rfl ?_
  refine x_iconst (v := (1 : Int32)) C dX1_goOn_27 (by decide) (pc2 := 28) rfl ?_
  refine x_iadd C dX1_goOn_28 (pc2 := 29) rfl ?_
  refine x_iast C h 22 0 (xc_22 ad cI cB _) rfl (u2 := (put (put u 21 (x2).toNatClampNeg (u 21 ((x2 - (1 : Int32))).toNatClampNeg)) 22 (x2).toNatClampNeg ((u 22 ((x2 - (1 : Int32))).toNatClampNeg) + (1 : Int32)))) (xs_22 ad cI cB _ _ _) dX1_goOn_29 (pc2 := 30) rfl (fun h => ?_)
  refine x_aload_n C dX1_goOn_30 0 rfl (pc2 := 31) rfl ?_
  refine x_get C hiX1 18 (xc_18 ad cI cB _) rfl 9 (by decide) f40 (v := .ref (ad 23)) rfl dX1_goOn_31 (pc2 := 34) rfl ?_
  refine x_iload_n C dX1_goOn_34 2 rfl (pc2 := 35) rfl ?_
  refine x_aload_n C dX1_goOn_35 0 rfl (pc2 := 36) rfl ?_
  refine x_get C hiX1 18 (xc_18 ad cI cB _) rfl 9 (by decide) f40 (v := .ref (ad 23)) rfl dX1_goOn_36 (pc2 := 39) rfl ?_
  refine x_iload_n C dX1_goOn_39 2 rfl (pc2 := 40) rfl ?_
  refine x_iconst (v := (1 : Int32)) C dX1_goOn_40 (by decide) (pc2 := 41) rfl ?_
  refine x_isub C dX1_goOn_41 (pc2 := 42) rfl ?_
  refine x_iald C h 23 0 (xc_23 ad cI cB _) rfl dX1_goOn_42 (pc2 := 43) rfl (fun h => ?_)
  refine x_tope (y := (u 23 ((x2 - (1 : Int32))).toNatClampNeg)) rfl ?_
  refine x_iast C h 23 0 (xc_23 ad cI cB _) rfl (u2 := (put (put (put u 21 (x2).toNatClampNeg (u 21 ((x2 - (1 : Int32))).toNatClampNeg)) 22 (x2).toNatClampNeg ((u 22 ((x2 - (1 : Int32))).toNatClampNeg) + (1 : Int32))) 23 (x2).toNatClampNeg (u 23 ((x2 - (1 : Int32))).toNatClampNeg))) (xs_23 ad cI cB _ _ _) dX1_goOn_43 (pc2 := 44) rfl (fun h => ?_)
  refine x_aload_n C dX1_goOn_44 0 rfl (pc2 := 45) rfl ?_
  refine x_get C hiX1 18 (xc_18 ad cI cB _) rfl 10 (by decide) f43 (v := .ref (ad 24)) rfl dX1_goOn_45 (pc2 := 48) rfl ?_
  refine x_iload_n C dX1_goOn_48 2 rfl (pc2 := 49) rfl ?_
  refine x_aload_n C dX1_goOn_49 0 rfl (pc2 := 50) rfl ?_
  refine x_get C hiX1 18 (xc_18 ad cI cB _) rfl 10 (by decide) f43 (v := .ref (ad 24)) rfl dX1_goOn_50 (pc2 := 53) rfl ?_
  refine x_iload_n C dX1_goOn_53 2 rfl (pc2 := 54) rfl ?_
  refine x_iconst (v := (1 : Int32)) C dX1_goOn_54 (by decide) (pc2 := 55) rfl ?_
  refine x_isub C dX1_goOn_55 (pc2 := 56) rfl ?_
  refine x_iald C h 24 0 (xc_24 ad cI cB _) rfl dX1_goOn_56 (pc2 := 57) rfl (fun h => ?_)
  refine x_tope (y := (u 24 ((x2 - (1 : Int32))).toNatClampNeg)) rfl ?_
  refine x_aload_n C dX1_goOn_57 1 rfl (pc2 := 58) rfl ?_
  refine x_get C hiX0 1 (xc_1 ad cI cB _) rfl 3 (by decide) f84 (v := .ref (ad 3)) rfl dX1_goOn_58 (pc2 := 61) rfl ?_
  refine x_iload_n C dX1_goOn_61 2 rfl (pc2 := 62) rfl ?_
  refine x_iald C h 3 0 (xc_3 ad cI cB _) rfl dX1_goOn_62 (pc2 := 63) rfl (fun h => ?_)
  refine x_tope (y := (u 3 (x2).toNatClampNeg)) rfl ?_
  refine x_mmax (index := 87) C (by decide +kernel) (by decide +kernel) (by decide +kernel) (by decide +kernel) (Nat.le_of_ble_eq_true rfl) (Nat.le_of_ble_eq_true rfl) dX1_goOn_63 (pc2 := 66) rfl ?_
  refine x_iast C h 24 0 (xc_24 ad cI cB _) rfl (u2 := (put (put (put (put u 21 (x2).toNatClampNeg (u 21 ((x2 - (1 : Int32))).toNatClampNeg)) 22 (x2).toNatClampNeg ((u 22 ((x2 - (1 : Int32))).toNatClampNeg) + (1 : Int32))) 23 (x2).toNatClampNeg (u 23 ((x2 - (1 : Int32))).toNatClampNeg)) 24 (x2).toNatClampNeg (if (u 24 ((x2 - (1 : Int32))).toNatClampNeg) < (u 3 (x2).toNatClampNeg) then (u 3 (x2).toNatClampNeg) else (u 24 ((x2 - (1 : Int32))).toNatClampNeg)))) (xs_24 ad cI cB _ _ _) dX1_goOn_66 (pc2 := 67) rfl (fun h => ?_)
  refine x_aload_n C dX1_goOn_67 0 rfl (pc2 := 68) rfl ?_
  refine x_get C hiX1 18 (xc_18 ad cI cB _) rfl 10 (by decide) f43 (v := .ref (ad 24)) rfl dX1_goOn_68 (pc2 := 71) rfl ?_
  refine x_iload_n C dX1_goOn_71 2 rfl (pc2 := 72) rfl ?_
  refine x_iald C h 24 0 (xc_24 ad cI cB _) rfl dX1_goOn_72 (pc2 := 73) rfl (fun h => ?_)
  refine x_aload_n C dX1_goOn_73 0 rfl (pc2 := 74) rfl ?_
  refine x_get C hiX1 18 (xc_18 ad cI cB _) rfl 10 (by decide) f43 (v := .ref (ad 24)) rfl dX1_goOn_74 (pc2 := 77) rfl ?_
  refine x_iload_n C dX1_goOn_77 2 rfl (pc2 := 78) rfl ?_
  refine x_iconst (v := (1 : Int32)) C dX1_goOn_78 (by decide) (pc2 := 79) rfl ?_
  refine x_isub C dX1_goOn_79 (pc2 := 80) rfl ?_
  refine x_iald C h 24 0 (xc_24 ad cI cB _) rfl dX1_goOn_80 (pc2 := 81) rfl (fun h => ?_)
  refine x_isub C dX1_goOn_81 (pc2 := 82) rfl ?_
  refine x_aload_n C dX1_goOn_82 0 rfl (pc2 := 83) rfl ?_
  refine x_get C hiX1 18 (xc_18 ad cI cB _) rfl 8 (by decide) f37 (v := .ref (ad 22)) rfl dX1_goOn_83 (pc2 := 86) rfl ?_
  refine x_iload_n C dX1_goOn_86 2 rfl (pc2 := 87) rfl ?_
  refine x_iald C h 22 0 (xc_22 ad cI cB _) rfl dX1_goOn_87 (pc2 := 88) rfl (fun h => ?_)
  refine x_tope (y := ((put (put u 21 (x2).toNatClampNeg (u 21 ((x2 - (1 : Int32))).toNatClampNeg)) 22 (x2).toNatClampNeg ((u 22 ((x2 - (1 : Int32))).toNatClampNeg) + (1 : Int32))) 22 (x2).toNatClampNeg)) rfl ?_
  refine x_imul C dX1_goOn_88 (pc2 := 89) rfl ?_
  refine x_istore_n C dX1_goOn_89 (by decide) (lv2 := [(3, .int ((((put (put (put (put u 21 (x2).toNatClampNeg (u 21 ((x2 - (1 : Int32))).toNatClampNeg)) 22 (x2).toNatClampNeg ((u 22 ((x2 - (1 : Int32))).toNatClampNeg) + (1 : Int32))) 23 (x2).toNatClampNeg (u 23 ((x2 - (1 : Int32))).toNatClampNeg)) 24 (x2).toNatClampNeg (if (u 24 ((x2 - (1 : Int32))).toNatClampNeg) < (u 3 (x2).toNatClampNeg) then (u 3 (x2).toNatClampNeg) else (u 24 ((x2 - (1 : Int32))).toNatClampNeg))) 24 (x2).toNatClampNeg) - ((put (put (put (put u 21 (x2).toNatClampNeg (u 21 ((x2 - (1 : Int32))).toNatClampNeg)) 22 (x2).toNatClampNeg ((u 22 ((x2 - (1 : Int32))).toNatClampNeg) + (1 : Int32))) 23 (x2).toNatClampNeg (u 23 ((x2 - (1 : Int32))).toNatClampNeg)) 24 (x2).toNatClampNeg (if (u 24 ((x2 - (1 : Int32))).toNatClampNeg) < (u 3 (x2).toNatClampNeg) then (u 3 (x2).toNatClampNeg) else (u 24 ((x2 - (1 : Int32))).toNatClampNeg))) 24 ((x2 - (1 : Int32))).toNatClampNeg)) * ((put (put u 21 (x2).toNatClampNeg (u 21 ((x2 - (1 : Int32))).toNatClampNeg)) 22 (x2).toNatClampNeg ((u 22 ((x2 - (1 : Int32))).toNatClampNeg) + (1 : Int32))) 22 (x2).toNatClampNeg))), (0, .ref (ad 18)), (1, .ref (ad 1)), (2, .int x2)]) rfl (pc2 := 90) rfl ?_
  refine x_aload_n C dX1_goOn_90 1 rfl (pc2 := 91) rfl ?_
  refine x_get C hiX1 18 (xc_18 ad cI cB _) rfl 11 (by decide) f46 (v := .ref (ad 25)) rfl dX1_goOn_91 (pc2 := 94) rfl ?_
  refine x_iload_n C dX1_goOn_94 3 rfl (pc2 := 95) rfl ?_
  refine x_aload_n C dX1_goOn_95 1 rfl (pc2 := 96) rfl ?_
  refine x_get C hiX1 18 (xc_18 ad cI cB _) rfl 11 (by decide) f46 (v := .ref (ad 25)) rfl dX1_goOn_96 (pc2 := 99) rfl ?_
  refine x_iload_n C dX1_goOn_99 3 rfl (pc2 := 100) rfl ?_
  refine x_iconst (v := (1 : Int32)) C dX1_goOn_100 (by decide) (pc2 := 101) rfl ?_
  refine x_isub C dX1_goOn_101 (pc2 := 102) rfl ?_
  refine x_iald C h 25 0 (xc_25 ad cI cB _) rfl dX1_goOn_102 (pc2 := 103) rfl (fun h => ?_)
  refine x_tope (y := (u 25 ((x2 - (1 : Int32))).toNatClampNeg)) rfl ?_
  refine x_iload_n C dX1_goOn_103 0 rfl (pc2 := 104) rfl ?_
  refine x_iadd C dX1_goOn_104 (pc2 := 105) rfl ?_
  refine x_aload_n C dX1_goOn_105 1 rfl (pc2 := 106) rfl ?_
  refine x_get C hiX1 18 (xc_18 ad cI cB _) rfl 10 (by decide) f43 (v := .ref (ad 24)) rfl dX1_goOn_106 (pc2 := 109) rfl ?_
  refine x_iload_n C dX1_goOn_109 3 rfl (pc2 := 110) rfl ?_
  refine x_iald C h 24 0 (xc_24 ad cI cB _) rfl dX1_goOn_110 (pc2 := 111) rfl (fun h => ?_)
  refine x_iadd C dX1_goOn_111 (pc2 := 112) rfl ?_
  refine x_aload_n C dX1_goOn_112 2 rfl (pc2 := 113) rfl ?_
  refine x_get C hiX0 1 (xc_1 ad cI cB _) rfl 3 (by decide) f84 (v := .ref (ad 3)) rfl dX1_goOn_113 (pc2 := 116) rfl ?_
  refine x_iload_n C dX1_goOn_116 3 rfl (pc2 := 117) rfl ?_
  refine x_iald C h 3 0 (xc_3 ad cI cB _) rfl dX1_goOn_117 (pc2 := 118) rfl (fun h => ?_)
  refine x_tope (y := (u 3 (x2).toNatClampNeg)) rfl ?_
  refine x_isub C dX1_goOn_118 (pc2 := 119) rfl ?_
  refine x_iast C h 25 0 (xc_25 ad cI cB _) rfl (u2 := (put (put (put (put (put u 21 (x2).toNatClampNeg (u 21 ((x2 - (1 : Int32))).toNatClampNeg)) 22 (x2).toNatClampNeg ((u 22 ((x2 - (1 : Int32))).toNatClampNeg) + (1 : Int32))) 23 (x2).toNatClampNeg (u 23 ((x2 - (1 : Int32))).toNatClampNeg)) 24 (x2).toNatClampNeg (if (u 24 ((x2 - (1 : Int32))).toNatClampNeg) < (u 3 (x2).toNatClampNeg) then (u 3 (x2).toNatClampNeg) else (u 24 ((x2 - (1 : Int32))).toNatClampNeg))) 25 (x2).toNatClampNeg ((((u 25 ((x2 - (1 : Int32))).toNatClampNeg) + ((((put (put (put (put u 21 (x2).toNatClampNeg (u 21 ((x2 - (1 : Int32))).toNatClampNeg)) 22 (x2).toNatClampNeg ((u 22 ((x2 - (1 : Int32))).toNatClampNeg) + (1 : Int32))) 23 (x2).toNatClampNeg (u 23 ((x2 - (1 : Int32))).toNatClampNeg)) 24 (x2).toNatClampNeg (if (u 24 ((x2 - (1 : Int32))).toNatClampNeg) < (u 3 (x2).toNatClampNeg) then (u 3 (x2).toNatClampNeg) else (u 24 ((x2 - (1 : Int32))).toNatClampNeg))) 24 (x2).toNatClampNeg) - ((put (put (put (put u 21 (x2).toNatClampNeg (u 21 ((x2 - (1 : Int32))).toNatClampNeg)) 22 (x2).toNatClampNeg ((u 22 ((x2 - (1 : Int32))).toNatClampNeg) + (1 : Int32))) 23 (x2).toNatClampNeg (u 23 ((x2 - (1 : Int32))).toNatClampNeg)) 24 (x2).toNatClampNeg (if (u 24 ((x2 - (1 : Int32))).toNatClampNeg) < (u 3 (x2).toNatClampNeg) then (u 3 (x2).toNatClampNeg) else (u 24 ((x2 - (1 : Int32))).toNatClampNeg))) 24 ((x2 - (1 : Int32))).toNatClampNeg)) * ((put (put u 21 (x2).toNatClampNeg (u 21 ((x2 - (1 : Int32))).toNatClampNeg)) 22 (x2).toNatClampNeg ((u 22 ((x2 - (1 : Int32))).toNatClampNeg) + (1 : Int32))) 22 (x2).toNatClampNeg))) + ((put (put (put (put u 21 (x2).toNatClampNeg (u 21 ((x2 - (1 : Int32))).toNatClampNeg)) 22 (x2).toNatClampNeg ((u 22 ((x2 - (1 : Int32))).toNatClampNeg) + (1 : Int32))) 23 (x2).toNatClampNeg (u 23 ((x2 - (1 : Int32))).toNatClampNeg)) 24 (x2).toNatClampNeg (if (u 24 ((x2 - (1 : Int32))).toNatClampNeg) < (u 3 (x2).toNatClampNeg) then (u 3 (x2).toNatClampNeg) else (u 24 ((x2 - (1 : Int32))).toNatClampNeg))) 24 (x2).toNatClampNeg)) - (u 3 (x2).toNatClampNeg)))) (xs_25 ad cI cB _ _ _) dX1_goOn_119 (pc2 := 120) rfl (fun h => ?_)
  exact x_vret C hr hlocks h dX1_goOn_120
set_option maxRecDepth 100000 in
set_option maxHeartbeats 4000000 in
theorem c_X1_put_P (l : Launch) (D : va_G) (A : Nat → Prop) (ad : Nat → Nat) (cI cB : ClassId) (u : Mem) (x2 : Int32) (x3 : Int32) : Ctv l yX1_put wsX1_put { frames := 2, cells := 0, slots := 0, locals := 63 } D A (XW ad cI cB) [(cI, .int), (cB, .object "PanelPages$Book")] [.ref (ad 18), .ref (ad 1), .int x2, .int x3] u (e_X1_put_P u x2 x3) := by
  intro ur h
  refine Met.ofW (cc := cX1_put) (maxL := 4) (ret := none) (by decide) rfl ?_
  intro p e s m args below meth c s₁ B hml hv
  obtain ⟨hav, hP, hK, hD⟩ := hv
  have C : Cx p m c cX1_put 4 s args wsX1_put RX1 D [(cI, .int), (cB, .object "PanelPages$Book")] := ⟨⟨B.exec, B.bytes, hml, findClass_of_methodNamed B.named, atoms_spec (ws := wsX1_put) B.pre⟩, hK⟩
  have hr := B.returns
  have hlocks := B.notSynchronized
  have hiX1 : ∀ w ∈ wsX10, w ∈ wsX1_put := by decide +kernel
  have f27 : Cond.fieldLink RX1 27 "PanelPages$Layout" "figures" "[I" ∈ wsX1_put := by decide +kernel
  refine x_entry2 (lv := [(0, .ref (ad 18)), (1, .ref (ad 1)), (2, .int x2), (3, .int x3)]) hav hP hD (Nat.le_of_ble_eq_true rfl) rfl ?_
  unfold e_X1_put_P at h
  have J17 : ∀ (u : Mem) (x2 : Int32), e_X1_put_P_J17 u x2 = some ur → Wx p l e (headSpec wsX1_put { frames := 2, cells := 0, slots := 0, locals := 63 }).room s m args below meth c (MQ below (Qvx D A (XW ad cI cB) ur) args s 0 0 A) D A 4 (XW ad cI cB) u 17 [(0, .ref (ad 18)), (1, .ref (ad 1)), (2, .int x2)] [] := by
    intro u x2 h
    unfold e_X1_put_P_J17 at h
    refine x_aload_n C dX1_put_17 0 rfl (pc2 := 18) rfl ?_
    refine x_aload_n C dX1_put_18 1 rfl (pc2 := 19) rfl ?_
    refine x_iload_n C dX1_put_19 2 rfl (pc2 := 20) rfl ?_
    refine x_callVv (As := [.ref (ad 1), .int x2]) (rest := []) (index := 93) (n := 2) C h (c_X1_beginPage_P l D A ad cI cB _ _) gX1_put_X1_beginPage rfl (by decide +kernel) rfl rfl ⟨Nat.le_of_ble_eq_true rfl, Nat.le_of_ble_eq_true rfl⟩ (ci := 1) rfl rfl (xc_18 ad cI cB _) (XW_D ad cI cB _) rfl rfl (Nat.le_of_ble_eq_true rfl) dX1_put_20 (pc2 := 23) rfl (fun u3 h => ?_)
    refine x_goto C dX1_put_23 (pc2 := 46) (by decide) ?_
    exact x_vret C hr hlocks h dX1_put_46
  refine x_aload_n C dX1_put_0 0 rfl (pc2 := 1) rfl ?_
  refine x_get C hiX1 18 (xc_18 ad cI cB _) rfl 5 (by decide) f27 (v := .ref (ad 19)) rfl dX1_put_1 (pc2 := 4) rfl ?_
  refine x_iload_n C dX1_put_4 2 rfl (pc2 := 5) rfl ?_
  refine x_iload_n C dX1_put_5 3 rfl (pc2 := 6) rfl ?_
  refine x_iast C h 19 0 (xc_19 ad cI cB _) rfl (u2 := (put u 19 (x2).toNatClampNeg x3)) (xs_19 ad cI cB _ _ _) dX1_put_6 (pc2 := 7) rfl (fun h => ?_)
  refine x_iload_n C dX1_put_7 3 rfl (pc2 := 8) rfl ?_
  refine x_iconst (v := (2 : Int32)) C dX1_put_8 (by decide) (pc2 := 9) rfl ?_
  refine x_icmp_eq C h dX1_put_9 (tgt := 17) (by decide) (pc2 := 12) rfl (fun h => ?_) (fun h => ?_)
  · refine x_sub [0, 1, 2] (lv2 := [(0, .ref (ad 18)), (1, .ref (ad 1)), (2, .int x2)]) rfl ?_
    exact J17 _ _ h
  · refine x_iload_n C dX1_put_12 2 rfl (pc2 := 13) rfl ?_
    refine x_iconst (v := (1 : Int32)) C dX1_put_13 (by decide) (pc2 := 14) rfl ?_
    refine x_icmp_ge C h dX1_put_14 (tgt := 26) (by decide) (pc2 := 17) rfl (fun h => ?_) (fun h => ?_)
    · refine x_iload_n C dX1_put_26 3 rfl (pc2 := 27) rfl ?_
      refine x_iconst (v := (1 : Int32)) C dX1_put_27 (by decide) (pc2 := 28) rfl ?_
      refine x_icmp_ne C h dX1_put_28 (tgt := 40) (by decide) (pc2 := 31) rfl (fun h => ?_) (fun h => ?_)
      · refine x_aload_n C dX1_put_40 0 rfl (pc2 := 41) rfl ?_
        refine x_aload_n C dX1_put_41 1 rfl (pc2 := 42) rfl ?_
        refine x_iload_n C dX1_put_42 2 rfl (pc2 := 43) rfl ?_
        refine x_callVv (As := [.ref (ad 1), .int x2]) (rest := []) (index := 100) (n := 2) C h (c_X1_goOn_P l D A ad cI cB _ _) gX1_put_X1_goOn rfl (by decide +kernel) rfl rfl ⟨Nat.le_of_ble_eq_true rfl, Nat.le_of_ble_eq_true rfl⟩ (ci := 1) rfl rfl (xc_18 ad cI cB _) (XW_D ad cI cB _) rfl rfl (Nat.le_of_ble_eq_true rfl) dX1_put_43 (pc2 := 46) rfl (fun u1 h => ?_)
        exact x_vret C hr hlocks h dX1_put_46
      · refine x_aload_n C dX1_put_31 0 rfl (pc2 := 32) rfl ?_
        refine x_aload_n C dX1_put_32 1 rfl (pc2 := 33) rfl ?_
        refine x_iload_n C dX1_put_33 2 rfl (pc2 := 34) rfl ?_
        refine x_callVv (As := [.ref (ad 1), .int x2]) (rest := []) (index := 97) (n := 2) C h (c_X1_beginTier_P l D A ad cI cB _ _) gX1_put_X1_beginTier rfl (by decide +kernel) rfl rfl ⟨Nat.le_of_ble_eq_true rfl, Nat.le_of_ble_eq_true rfl⟩ (ci := 1) rfl rfl (xc_18 ad cI cB _) (XW_D ad cI cB _) rfl rfl (Nat.le_of_ble_eq_true rfl) dX1_put_34 (pc2 := 37) rfl (fun u2 h => ?_)
        refine x_goto C dX1_put_37 (pc2 := 46) (by decide) ?_
        exact x_vret C hr hlocks h dX1_put_46
    · refine x_sub [0, 1, 2] (lv2 := [(0, .ref (ad 18)), (1, .ref (ad 1)), (2, .int x2)]) rfl ?_
      exact J17 _ _ h
set_option maxRecDepth 100000 in
set_option maxHeartbeats 4000000 in
theorem c_X1_raggedOfPage_P (l : Launch) (D : va_G) (A : Nat → Prop) (ad : Nat → Nat) (cI cB : ClassId) (u : Mem) (x2 : Int32) : Cti l yX1_raggedOfPage wsX1_raggedOfPage { frames := 1, cells := 0, slots := 0, locals := 21 } D A (XW ad cI cB) [(cI, .int), (cB, .object "PanelPages$Book")] [.ref (ad 18), .ref (ad 1), .int x2] u (e_X1_raggedOfPage_P u x2) := by
  intro r ur h
  refine Met.ofW (cc := cX1_raggedOfPage) (maxL := 4) (ret := (some .int)) (by decide) rfl ?_
  intro p e s m args below meth c s₁ B hml hv
  obtain ⟨hav, hP, hK, hD⟩ := hv
  have C : Cx p m c cX1_raggedOfPage 4 s args wsX1_raggedOfPage RX1 D [(cI, .int), (cB, .object "PanelPages$Book")] := ⟨⟨B.exec, B.bytes, hml, findClass_of_methodNamed B.named, atoms_spec (ws := wsX1_raggedOfPage) B.pre⟩, hK⟩
  have hr := B.returns
  have hlocks := B.notSynchronized
  have hiX0 : ∀ w ∈ wsX00, w ∈ wsX1_raggedOfPage := by decide +kernel
  have hiX1 : ∀ w ∈ wsX10, w ∈ wsX1_raggedOfPage := by decide +kernel
  have f40 : Cond.fieldLink RX1 40 "PanelPages$Layout" "heightAbove" "[I" ∈ wsX1_raggedOfPage := by decide +kernel
  have f43 : Cond.fieldLink RX1 43 "PanelPages$Layout" "height" "[I" ∈ wsX1_raggedOfPage := by decide +kernel
  have f46 : Cond.fieldLink RX1 46 "PanelPages$Layout" "gapsOnPage" "[I" ∈ wsX1_raggedOfPage := by decide +kernel
  have f81 : Cond.fieldLink RX1 81 "PanelPages$Book" "high" "I" ∈ wsX1_raggedOfPage := by decide +kernel
  refine x_entry2 (lv := [(0, .ref (ad 18)), (1, .ref (ad 1)), (2, .int x2)]) hav hP hD (Nat.le_of_ble_eq_true rfl) rfl ?_
  unfold e_X1_raggedOfPage_P at h
  refine x_aload_n C dX1_raggedOfPage_0 1 rfl (pc2 := 1) rfl ?_
  refine x_iload_n C dX1_raggedOfPage_1 2 rfl (pc2 := 2) rfl ?_
  refine x_callVi (As := [.int x2]) (rest := []) (index := 75) (n := 1) C h (c_X0_isSpread l D A ad cI cB _ _) gX1_raggedOfPage_X0_isSpread rfl (by decide +kernel) rfl rfl ⟨Nat.le_of_ble_eq_true rfl, Nat.le_of_ble_eq_true rfl⟩ (ci := 0) rfl rfl (xc_1 ad cI cB _) (XW_D ad cI cB _) rfl rfl (Nat.le_of_ble_eq_true rfl) dX1_raggedOfPage_2 (pc2 := 5) rfl (fun r1 u1 h => ?_)
  refine x_if_eq C h dX1_raggedOfPage_5 (tgt := 10) (by decide) (pc2 := 8) rfl (fun h => ?_) (fun h => ?_)
  · refine x_aload_n C dX1_raggedOfPage_10 1 rfl (pc2 := 11) rfl ?_
    refine x_get C hiX0 1 (xc_1 ad cI cB _) rfl 1 (by decide) f81 (v := .int (u1 1 1)) rfl dX1_raggedOfPage_11 (pc2 := 14) rfl ?_
    refine x_aload_n C dX1_raggedOfPage_14 0 rfl (pc2 := 15) rfl ?_
    refine x_get C hiX1 18 (xc_18 ad cI cB _) rfl 9 (by decide) f40 (v := .ref (ad 23)) rfl dX1_raggedOfPage_15 (pc2 := 18) rfl ?_
    refine x_iload_n C dX1_raggedOfPage_18 2 rfl (pc2 := 19) rfl ?_
    refine x_iald C h 23 0 (xc_23 ad cI cB _) rfl dX1_raggedOfPage_19 (pc2 := 20) rfl (fun h => ?_)
    refine x_isub C dX1_raggedOfPage_20 (pc2 := 21) rfl ?_
    refine x_aload_n C dX1_raggedOfPage_21 0 rfl (pc2 := 22) rfl ?_
    refine x_get C hiX1 18 (xc_18 ad cI cB _) rfl 10 (by decide) f43 (v := .ref (ad 24)) rfl dX1_raggedOfPage_22 (pc2 := 25) rfl ?_
    refine x_iload_n C dX1_raggedOfPage_25 2 rfl (pc2 := 26) rfl ?_
    refine x_iald C h 24 0 (xc_24 ad cI cB _) rfl dX1_raggedOfPage_26 (pc2 := 27) rfl (fun h => ?_)
    refine x_isub C dX1_raggedOfPage_27 (pc2 := 28) rfl ?_
    refine x_istore_n C dX1_raggedOfPage_28 (by decide) (lv2 := [(3, .int (((u1 1 1) - (u1 23 (x2).toNatClampNeg)) - (u1 24 (x2).toNatClampNeg))), (0, .ref (ad 18)), (1, .ref (ad 1)), (2, .int x2)]) rfl (pc2 := 29) rfl ?_
    refine x_iload_n C dX1_raggedOfPage_29 0 rfl (pc2 := 30) rfl ?_
    refine x_iload_n C dX1_raggedOfPage_30 0 rfl (pc2 := 31) rfl ?_
    refine x_imul C dX1_raggedOfPage_31 (pc2 := 32) rfl ?_
    refine x_aload_n C dX1_raggedOfPage_32 1 rfl (pc2 := 33) rfl ?_
    refine x_get C hiX1 18 (xc_18 ad cI cB _) rfl 11 (by decide) f46 (v := .ref (ad 25)) rfl dX1_raggedOfPage_33 (pc2 := 36) rfl ?_
    refine x_iload_n C dX1_raggedOfPage_36 3 rfl (pc2 := 37) rfl ?_
    refine x_iald C h 25 0 (xc_25 ad cI cB _) rfl dX1_raggedOfPage_37 (pc2 := 38) rfl (fun h => ?_)
    refine x_iadd C dX1_raggedOfPage_38 (pc2 := 39) rfl ?_
    exact x_iret C hr hlocks h dX1_raggedOfPage_39
  · refine x_iconst (v := (0 : Int32)) C dX1_raggedOfPage_8 (by decide) (pc2 := 9) rfl ?_
    exact x_iret C hr hlocks h dX1_raggedOfPage_9
set_option maxRecDepth 100000 in
set_option maxHeartbeats 4000000 in
theorem c_X1_turnPage (l : Launch) (D : va_G) (A : Nat → Prop) (ad : Nat → Nat) (cI cB : ClassId) (u : Mem) (x2 : Int32) : Ctv l yX1_turnPage wsX1_turnPage { frames := 1, cells := 0, slots := 0, locals := 21 } D A (XW ad cI cB) [(cI, .int), (cB, .object "PanelPages$Book")] [.ref (ad 9), .ref (ad 1), .int x2] u (e_X1_turnPage u x2) := by
  intro ur h
  refine Met.ofW (cc := cX1_turnPage) (maxL := 3) (ret := none) (by decide) rfl ?_
  intro p e s m args below meth c s₁ B hml hv
  obtain ⟨hav, hP, hK, hD⟩ := hv
  have C : Cx p m c cX1_turnPage 3 s args wsX1_turnPage RX1 D [(cI, .int), (cB, .object "PanelPages$Book")] := ⟨⟨B.exec, B.bytes, hml, findClass_of_methodNamed B.named, atoms_spec (ws := wsX1_turnPage) B.pre⟩, hK⟩
  have hr := B.returns
  have hlocks := B.notSynchronized
  have hiX0 : ∀ w ∈ wsX00, w ∈ wsX1_turnPage := by decide +kernel
  have hiX1 : ∀ w ∈ wsX10, w ∈ wsX1_turnPage := by decide +kernel
  have f15 : Cond.fieldLink RX1 15 "PanelPages$Layout" "pages" "I" ∈ wsX1_turnPage := by decide +kernel
  have f18 : Cond.fieldLink RX1 18 "PanelPages$Layout" "blanks" "I" ∈ wsX1_turnPage := by decide +kernel
  have f24 : Cond.fieldLink RX1 24 "PanelPages$Layout" "ragged" "I" ∈ wsX1_turnPage := by decide +kernel
  have f31 : Cond.fieldLink RX1 31 "PanelPages$Layout" "page" "[I" ∈ wsX1_turnPage := by decide +kernel
  have f81 : Cond.fieldLink RX1 81 "PanelPages$Book" "high" "I" ∈ wsX1_turnPage := by decide +kernel
  refine x_entry2 (lv := [(0, .ref (ad 9)), (1, .ref (ad 1)), (2, .int x2)]) hav hP hD (Nat.le_of_ble_eq_true rfl) rfl ?_
  unfold e_X1_turnPage at h
  have J83 : ∀ (u : Mem) (s0 : Int32) (s1 : Int32), e_X1_turnPage_J83 u s0 s1 = some ur → Wx p l e (headSpec wsX1_turnPage { frames := 1, cells := 0, slots := 0, locals := 21 }).room s m args below meth c (MQ below (Qvx D A (XW ad cI cB) ur) args s 0 0 A) D A 3 (XW ad cI cB) u 83 [] [.int s0, .int s1, .ref (ad 9)] := by
    intro u s0 s1 h
    unfold e_X1_turnPage_J83 at h
    refine x_iadd C dX1_turnPage_83 (pc2 := 84) rfl ?_
    refine x_put C hiX1 tyX1 tyX1_ok nmX1 9 (xc_9 ad cI cB _) rfl 1 (by decide) f15 rfl rfl (Nat.le_of_ble_eq_true rfl) (u2 := (put u 9 1 (s1 + s0))) (xs_9_1 ad cI cB _ _) dX1_turnPage_84 (pc2 := 87) rfl ?_
    exact x_vret C hr hlocks h dX1_turnPage_87
  have J55 : ∀ (u : Mem) (x2 : Int32), e_X1_turnPage_J55 u x2 = some ur → Wx p l e (headSpec wsX1_turnPage { frames := 1, cells := 0, slots := 0, locals := 21 }).room s m args below meth c (MQ below (Qvx D A (XW ad cI cB) ur) args s 0 0 A) D A 3 (XW ad cI cB) u 55 [(0, .ref (ad 9)), (1, .ref (ad 1)), (2, .int x2)] [] := by
    intro u x2 h
    unfold e_X1_turnPage_J55 at h
    refine x_aload_n C dX1_turnPage_55 0 rfl (pc2 := 56) rfl ?_
    refine x_get C hiX1 9 (xc_9 ad cI cB _) rfl 6 (by decide) f31 (v := .ref (ad 11)) rfl dX1_turnPage_56 (pc2 := 59) rfl ?_
    refine x_iload_n C dX1_turnPage_59 2 rfl (pc2 := 60) rfl ?_
    refine x_aload_n C dX1_turnPage_60 0 rfl (pc2 := 61) rfl ?_
    refine x_get C hiX1 9 (xc_9 ad cI cB _) rfl 1 (by decide) f15 (v := .int (u 9 1)) rfl dX1_turnPage_61 (pc2 := 64) rfl ?_
    refine x_iast C h 11 0 (xc_11 ad cI cB _) rfl (u2 := (put u 11 (x2).toNatClampNeg (u 9 1))) (xs_11 ad cI cB _ _ _) dX1_turnPage_64 (pc2 := 65) rfl (fun h => ?_)
    refine x_aload_n C dX1_turnPage_65 0 rfl (pc2 := 66) rfl ?_
    refine x_dup C dX1_turnPage_66 rfl (pc2 := 67) rfl ?_
    refine x_get C hiX1 9 (xc_9 ad cI cB _) rfl 1 (by decide) f15 (v := .int ((put u 11 (x2).toNatClampNeg (u 9 1)) 9 1)) rfl dX1_turnPage_67 (pc2 := 70) rfl ?_
    refine x_tope (y := (u 9 1)) rfl ?_
    refine x_aload_n C dX1_turnPage_70 1 rfl (pc2 := 71) rfl ?_
    refine x_iload_n C dX1_turnPage_71 2 rfl (pc2 := 72) rfl ?_
    refine x_callVi (As := [.int x2]) (rest := [.int (u 9 1), .ref (ad 9)]) (index := 75) (n := 1) C h (c_X0_isSpread l D A ad cI cB _ _) gX1_turnPage_X0_isSpread rfl (by decide +kernel) rfl rfl ⟨Nat.le_of_ble_eq_true rfl, Nat.le_of_ble_eq_true rfl⟩ (ci := 0) rfl rfl (xc_1 ad cI cB _) (XW_D ad cI cB _) rfl rfl (Nat.le_of_ble_eq_true rfl) dX1_turnPage_72 (pc2 := 75) rfl (fun r2 u2 h => ?_)
    refine x_if_eq C h dX1_turnPage_75 (tgt := 82) (by decide) (pc2 := 78) rfl (fun h => ?_) (fun h => ?_)
    · refine x_iconst (v := (1 : Int32)) C dX1_turnPage_82 (by decide) (pc2 := 83) rfl ?_
      refine x_sub [] (lv2 := []) rfl ?_
      exact J83 _ _ _ h
    · refine x_iconst (v := (2 : Int32)) C dX1_turnPage_78 (by decide) (pc2 := 79) rfl ?_
      refine x_goto C dX1_turnPage_79 (pc2 := 83) (by decide) ?_
      refine x_sub [] (lv2 := []) rfl ?_
      exact J83 _ _ _ h
  refine x_aload_n C dX1_turnPage_0 1 rfl (pc2 := 1) rfl ?_
  refine x_iload_n C dX1_turnPage_1 2 rfl (pc2 := 2) rfl ?_
  refine x_callVi (As := [.int x2]) (rest := []) (index := 72) (n := 1) C h (c_X0_wantsLeftPage l D A ad cI cB _ _) gX1_turnPage_X0_wantsLeftPage rfl (by decide +kernel) rfl rfl ⟨Nat.le_of_ble_eq_true rfl, Nat.le_of_ble_eq_true rfl⟩ (ci := 0) rfl rfl (xc_1 ad cI cB _) (XW_D ad cI cB _) rfl rfl (Nat.le_of_ble_eq_true rfl) dX1_turnPage_2 (pc2 := 5) rfl (fun r1 u1 h => ?_)
  refine x_if_eq C h dX1_turnPage_5 (tgt := 55) (by decide) (pc2 := 8) rfl (fun h => ?_) (fun h => ?_)
  · exact J55 _ _ h
  · refine x_aload_n C dX1_turnPage_8 0 rfl (pc2 := 9) rfl ?_
    refine x_get C hiX1 9 (xc_9 ad cI cB _) rfl 1 (by decide) f15 (v := .int (u1 9 1)) rfl dX1_turnPage_9 (pc2 := 12) rfl ?_
    refine x_iconst (v := (2 : Int32)) C dX1_turnPage_12 (by decide) (pc2 := 13) rfl ?_
    refine x_irem C dX1_turnPage_13 (by decide) (pc2 := 14) rfl ?_
    refine x_if_ne C h dX1_turnPage_14 (tgt := 55) (by decide) (pc2 := 17) rfl (fun h => ?_) (fun h => ?_)
    · exact J55 _ _ h
    · refine x_aload_n C dX1_turnPage_17 0 rfl (pc2 := 18) rfl ?_
      refine x_dup C dX1_turnPage_18 rfl (pc2 := 19) rfl ?_
      refine x_get C hiX1 9 (xc_9 ad cI cB _) rfl 1 (by decide) f15 (v := .int (u1 9 1)) rfl dX1_turnPage_19 (pc2 := 22) rfl ?_
      refine x_iconst (v := (1 : Int32)) C dX1_turnPage_22 (by decide) (pc2 := 23) rfl ?_
      refine x_iadd C dX1_turnPage_23 (pc2 := 24) rfl ?_
      refine x_put C hiX1 tyX1 tyX1_ok nmX1 9 (xc_9 ad cI cB _) rfl 1 (by decide) f15 rfl rfl (Nat.le_of_ble_eq_true rfl) (u2 := (put u1 9 1 ((u1 9 1) + (1 : Int32)))) (xs_9_1 ad cI cB _ _) dX1_turnPage_24 (pc2 := 27) rfl ?_
      refine x_aload_n C dX1_turnPage_27 0 rfl (pc2 := 28) rfl ?_
      refine x_dup C dX1_turnPage_28 rfl (pc2 := 29) rfl ?_
      refine x_get C hiX1 9 (xc_9 ad cI cB _) rfl 2 (by decide) f18 (v := .int ((put u1 9 1 ((u1 9 1) + (1 : Int32))) 9 2)) rfl dX1_turnPage_29 (pc2 := 32) rfl ?_
      refine x_tope (y := (u1 9 2)) rfl ?_
      refine x_iconst (v := (1 : Int32)) C dX1_turnPage_32 (by decide) (pc2 := 33) rfl ?_
      refine x_iadd C dX1_turnPage_33 (pc2 := 34) rfl ?_
      refine x_put C hiX1 tyX1 tyX1_ok nmX1 9 (xc_9 ad cI cB _) rfl 2 (by decide) f18 rfl rfl (Nat.le_of_ble_eq_true rfl) (u2 := (put (put u1 9 1 ((u1 9 1) + (1 : Int32))) 9 2 ((u1 9 2) + (1 : Int32)))) (xs_9_2 ad cI cB _ _) dX1_turnPage_34 (pc2 := 37) rfl ?_
      refine x_aload_n C dX1_turnPage_37 0 rfl (pc2 := 38) rfl ?_
      refine x_dup C dX1_turnPage_38 rfl (pc2 := 39) rfl ?_
      refine x_get C hiX1 9 (xc_9 ad cI cB _) rfl 4 (by decide) f24 (v := .int ((put (put u1 9 1 ((u1 9 1) + (1 : Int32))) 9 2 ((u1 9 2) + (1 : Int32))) 9 4)) rfl dX1_turnPage_39 (pc2 := 42) rfl ?_
      refine x_tope (y := (u1 9 4)) rfl ?_
      refine x_aload_n C dX1_turnPage_42 1 rfl (pc2 := 43) rfl ?_
      refine x_get C hiX0 1 (xc_1 ad cI cB _) rfl 1 (by decide) f81 (v := .int ((put (put u1 9 1 ((u1 9 1) + (1 : Int32))) 9 2 ((u1 9 2) + (1 : Int32))) 1 1)) rfl dX1_turnPage_43 (pc2 := 46) rfl ?_
      refine x_tope (y := (u1 1 1)) rfl ?_
      refine x_aload_n C dX1_turnPage_46 1 rfl (pc2 := 47) rfl ?_
      refine x_get C hiX0 1 (xc_1 ad cI cB _) rfl 1 (by decide) f81 (v := .int ((put (put u1 9 1 ((u1 9 1) + (1 : Int32))) 9 2 ((u1 9 2) + (1 : Int32))) 1 1)) rfl dX1_turnPage_47 (pc2 := 50) rfl ?_
      refine x_tope (y := (u1 1 1)) rfl ?_
      refine x_imul C dX1_turnPage_50 (pc2 := 51) rfl ?_
      refine x_iadd C dX1_turnPage_51 (pc2 := 52) rfl ?_
      refine x_put C hiX1 tyX1 tyX1_ok nmX1 9 (xc_9 ad cI cB _) rfl 4 (by decide) f24 rfl rfl (Nat.le_of_ble_eq_true rfl) (u2 := (put (put (put u1 9 1 ((u1 9 1) + (1 : Int32))) 9 2 ((u1 9 2) + (1 : Int32))) 9 4 ((u1 9 4) + ((u1 1 1) * (u1 1 1))))) (xs_9_4 ad cI cB _ _) dX1_turnPage_52 (pc2 := 55) rfl ?_
      exact J55 _ _ h
set_option maxRecDepth 100000 in
set_option maxHeartbeats 4000000 in
theorem c_X1_numberPages (l : Launch) (D : va_G) (A : Nat → Prop) (ad : Nat → Nat) (cI cB : ClassId) (u : Mem)  : Ctv l yX1_numberPages wsX1_numberPages { frames := 2, cells := 0, slots := 0, locals := 44 } D A (XW ad cI cB) [(cI, .int), (cB, .object "PanelPages$Book")] [.ref (ad 9), .ref (ad 1)] u (e_X1_numberPages u ) := by
  intro ur h
  refine Met.ofW (cc := cX1_numberPages) (maxL := 3) (ret := none) (by decide) rfl ?_
  intro p e s m args below meth c s₁ B hml hv
  obtain ⟨hav, hP, hK, hD⟩ := hv
  have C : Cx p m c cX1_numberPages 3 s args wsX1_numberPages RX1 D [(cI, .int), (cB, .object "PanelPages$Book")] := ⟨⟨B.exec, B.bytes, hml, findClass_of_methodNamed B.named, atoms_spec (ws := wsX1_numberPages) B.pre⟩, hK⟩
  have hr := B.returns
  have hlocks := B.notSynchronized
  have hiX0 : ∀ w ∈ wsX00, w ∈ wsX1_numberPages := by decide +kernel
  have hiX1 : ∀ w ∈ wsX10, w ∈ wsX1_numberPages := by decide +kernel
  have f15 : Cond.fieldLink RX1 15 "PanelPages$Layout" "pages" "I" ∈ wsX1_numberPages := by decide +kernel
  have f18 : Cond.fieldLink RX1 18 "PanelPages$Layout" "blanks" "I" ∈ wsX1_numberPages := by decide +kernel
  have f21 : Cond.fieldLink RX1 21 "PanelPages$Layout" "tiers" "I" ∈ wsX1_numberPages := by decide +kernel
  have f24 : Cond.fieldLink RX1 24 "PanelPages$Layout" "ragged" "I" ∈ wsX1_numberPages := by decide +kernel
  have f27 : Cond.fieldLink RX1 27 "PanelPages$Layout" "figures" "[I" ∈ wsX1_numberPages := by decide +kernel
  have f31 : Cond.fieldLink RX1 31 "PanelPages$Layout" "page" "[I" ∈ wsX1_numberPages := by decide +kernel
  have f49 : Cond.fieldLink RX1 49 "PanelPages$Book" "panels" "I" ∈ wsX1_numberPages := by decide +kernel
  refine x_entry2 (lv := [(0, .ref (ad 9)), (1, .ref (ad 1))]) hav hP hD (Nat.le_of_ble_eq_true rfl) rfl ?_
  unfold e_X1_numberPages at h
  have J123 : ∀ (k22 : Mem → Int32 → Option Mem), (∀ (u : Mem) (x2 : Int32), k22 u x2 = some ur → Wx p l e (headSpec wsX1_numberPages { frames := 2, cells := 0, slots := 0, locals := 44 }).room s m args below meth c (MQ below (Qvx D A (XW ad cI cB) ur) args s 0 0 A) D A 3 (XW ad cI cB) u 22 [(0, .ref (ad 9)), (1, .ref (ad 1)), (2, .int x2)] []) → ∀ (u : Mem) (x2 : Int32), e_X1_numberPages_J123 k22 u x2 = some ur → Wx p l e (headSpec wsX1_numberPages { frames := 2, cells := 0, slots := 0, locals := 44 }).room s m args below meth c (MQ below (Qvx D A (XW ad cI cB) ur) args s 0 0 A) D A 3 (XW ad cI cB) u 123 [(0, .ref (ad 9)), (1, .ref (ad 1)), (2, .int x2)] [] := by
    intro k22 hk22 
    intro u x2 h
    unfold e_X1_numberPages_J123 at h
    refine x_iinc C dX1_numberPages_123 2 rfl (1 : Int32) (by decide) rfl (by decide) (lv2 := [(2, .int (x2 + (1 : Int32))), (0, .ref (ad 9)), (1, .ref (ad 1))]) rfl (pc2 := 126) rfl ?_
    refine x_goto C dX1_numberPages_126 (pc2 := 22) (by decide) ?_
    refine x_sub [1, 2, 0] (lv2 := [(0, .ref (ad 9)), (1, .ref (ad 1)), (2, .int (x2 + (1 : Int32)))]) rfl ?_
    exact hk22 _ _ h
  have J108 : ∀ (k22 : Mem → Int32 → Option Mem), (∀ (u : Mem) (x2 : Int32), k22 u x2 = some ur → Wx p l e (headSpec wsX1_numberPages { frames := 2, cells := 0, slots := 0, locals := 44 }).room s m args below meth c (MQ below (Qvx D A (XW ad cI cB) ur) args s 0 0 A) D A 3 (XW ad cI cB) u 22 [(0, .ref (ad 9)), (1, .ref (ad 1)), (2, .int x2)] []) → ∀ (u : Mem) (x2 : Int32), e_X1_numberPages_J108 k22 u x2 = some ur → Wx p l e (headSpec wsX1_numberPages { frames := 2, cells := 0, slots := 0, locals := 44 }).room s m args below meth c (MQ below (Qvx D A (XW ad cI cB) ur) args s 0 0 A) D A 3 (XW ad cI cB) u 108 [(0, .ref (ad 9)), (1, .ref (ad 1)), (2, .int x2)] [] := by
    intro k22 hk22 
    intro u x2 h
    unfold e_X1_numberPages_J108 at h
    refine x_aload_n C dX1_numberPages_108 0 rfl (pc2 := 109) rfl ?_
    refine x_dup C dX1_numberPages_109 rfl (pc2 := 110) rfl ?_
    refine x_get C hiX1 9 (xc_9 ad cI cB _) rfl 4 (by decide) f24 (v := .int (u 9 4)) rfl dX1_numberPages_110 (pc2 := 113) rfl ?_
    refine x_aload_n C dX1_numberPages_113 0 rfl (pc2 := 114) rfl ?_
    refine x_aload_n C dX1_numberPages_114 1 rfl (pc2 := 115) rfl ?_
    refine x_iload_n C dX1_numberPages_115 2 rfl (pc2 := 116) rfl ?_
    refine x_callVi (As := [.ref (ad 1), .int x2]) (rest := [.int (u 9 4), .ref (ad 9)]) (index := 106) (n := 2) C h (c_X1_raggedOfPage l D A ad cI cB _ _) gX1_numberPages_X1_raggedOfPage rfl (by decide +kernel) rfl rfl ⟨Nat.le_of_ble_eq_true rfl, Nat.le_of_ble_eq_true rfl⟩ (ci := 1) rfl rfl (xc_9 ad cI cB _) (XW_D ad cI cB _) rfl rfl (Nat.le_of_ble_eq_true rfl) dX1_numberPages_116 (pc2 := 119) rfl (fun r2 u2 h => ?_)
    refine x_iadd C dX1_numberPages_119 (pc2 := 120) rfl ?_
    refine x_put C hiX1 tyX1 tyX1_ok nmX1 9 (xc_9 ad cI cB _) rfl 4 (by decide) f24 rfl rfl (Nat.le_of_ble_eq_true rfl) (u2 := (put u2 9 4 ((u 9 4) + r2))) (xs_9_4 ad cI cB _ _) dX1_numberPages_120 (pc2 := 123) rfl ?_
    exact J123 k22 hk22 _ _ h
  have J86 : ∀ (k22 : Mem → Int32 → Option Mem), (∀ (u : Mem) (x2 : Int32), k22 u x2 = some ur → Wx p l e (headSpec wsX1_numberPages { frames := 2, cells := 0, slots := 0, locals := 44 }).room s m args below meth c (MQ below (Qvx D A (XW ad cI cB) ur) args s 0 0 A) D A 3 (XW ad cI cB) u 22 [(0, .ref (ad 9)), (1, .ref (ad 1)), (2, .int x2)] []) → ∀ (u : Mem) (x2 : Int32), e_X1_numberPages_J86 k22 u x2 = some ur → Wx p l e (headSpec wsX1_numberPages { frames := 2, cells := 0, slots := 0, locals := 44 }).room s m args below meth c (MQ below (Qvx D A (XW ad cI cB) ur) args s 0 0 A) D A 3 (XW ad cI cB) u 86 [(0, .ref (ad 9)), (1, .ref (ad 1)), (2, .int x2)] [] := by
    intro k22 hk22 
    intro u x2 h
    unfold e_X1_numberPages_J86 at h
    refine x_iload_n C dX1_numberPages_86 2 rfl (pc2 := 87) rfl ?_
    refine x_iconst (v := (1 : Int32)) C dX1_numberPages_87 (by decide) (pc2 := 88) rfl ?_
    refine x_iadd C dX1_numberPages_88 (pc2 := 89) rfl ?_
    refine x_aload_n C dX1_numberPages_89 1 rfl (pc2 := 90) rfl ?_
    refine x_get C hiX0 1 (xc_1 ad cI cB _) rfl 0 (by decide) f49 (v := .int (u 1 0)) rfl dX1_numberPages_90 (pc2 := 93) rfl ?_
    refine x_icmp_eq C h dX1_numberPages_93 (tgt := 108) (by decide) (pc2 := 96) rfl (fun h => ?_) (fun h => ?_)
    · exact J108 k22 hk22 _ _ h
    · refine x_aload_n C dX1_numberPages_96 0 rfl (pc2 := 97) rfl ?_
      refine x_get C hiX1 9 (xc_9 ad cI cB _) rfl 5 (by decide) f27 (v := .ref (ad 10)) rfl dX1_numberPages_97 (pc2 := 100) rfl ?_
      refine x_iload_n C dX1_numberPages_100 2 rfl (pc2 := 101) rfl ?_
      refine x_iconst (v := (1 : Int32)) C dX1_numberPages_101 (by decide) (pc2 := 102) rfl ?_
      refine x_iadd C dX1_numberPages_102 (pc2 := 103) rfl ?_
      refine x_iald C h 10 0 (xc_10 ad cI cB _) rfl dX1_numberPages_103 (pc2 := 104) rfl (fun h => ?_)
      refine x_iconst (v := (2 : Int32)) C dX1_numberPages_104 (by decide) (pc2 := 105) rfl ?_
      refine x_icmp_ne C h dX1_numberPages_105 (tgt := 123) (by decide) (pc2 := 108) rfl (fun h => ?_) (fun h => ?_)
      · exact J123 k22 hk22 _ _ h
      · exact J108 k22 hk22 _ _ h
  have J67 : ∀ (k22 : Mem → Int32 → Option Mem), (∀ (u : Mem) (x2 : Int32), k22 u x2 = some ur → Wx p l e (headSpec wsX1_numberPages { frames := 2, cells := 0, slots := 0, locals := 44 }).room s m args below meth c (MQ below (Qvx D A (XW ad cI cB) ur) args s 0 0 A) D A 3 (XW ad cI cB) u 22 [(0, .ref (ad 9)), (1, .ref (ad 1)), (2, .int x2)] []) → ∀ (u : Mem) (x2 : Int32), e_X1_numberPages_J67 k22 u x2 = some ur → Wx p l e (headSpec wsX1_numberPages { frames := 2, cells := 0, slots := 0, locals := 44 }).room s m args below meth c (MQ below (Qvx D A (XW ad cI cB) ur) args s 0 0 A) D A 3 (XW ad cI cB) u 67 [(0, .ref (ad 9)), (1, .ref (ad 1)), (2, .int x2)] [] := by
    intro k22 hk22 
    intro u x2 h
    unfold e_X1_numberPages_J67 at h
    refine x_aload_n C dX1_numberPages_67 0 rfl (pc2 := 68) rfl ?_
    refine x_get C hiX1 9 (xc_9 ad cI cB _) rfl 5 (by decide) f27 (v := .ref (ad 10)) rfl dX1_numberPages_68 (pc2 := 71) rfl ?_
    refine x_iload_n C dX1_numberPages_71 2 rfl (pc2 := 72) rfl ?_
    refine x_iald C h 10 0 (xc_10 ad cI cB _) rfl dX1_numberPages_72 (pc2 := 73) rfl (fun h => ?_)
    refine x_if_eq C h dX1_numberPages_73 (tgt := 86) (by decide) (pc2 := 76) rfl (fun h => ?_) (fun h => ?_)
    · exact J86 k22 hk22 _ _ h
    · refine x_aload_n C dX1_numberPages_76 0 rfl (pc2 := 77) rfl ?_
      refine x_dup C dX1_numberPages_77 rfl (pc2 := 78) rfl ?_
      refine x_get C hiX1 9 (xc_9 ad cI cB _) rfl 3 (by decide) f21 (v := .int (u 9 3)) rfl dX1_numberPages_78 (pc2 := 81) rfl ?_
      refine x_iconst (v := (1 : Int32)) C dX1_numberPages_81 (by decide) (pc2 := 82) rfl ?_
      refine x_iadd C dX1_numberPages_82 (pc2 := 83) rfl ?_
      refine x_put C hiX1 tyX1 tyX1_ok nmX1 9 (xc_9 ad cI cB _) rfl 3 (by decide) f21 rfl rfl (Nat.le_of_ble_eq_true rfl) (u2 := (put u 9 3 ((u 9 3) + (1 : Int32)))) (xs_9_3 ad cI cB _ _) dX1_numberPages_83 (pc2 := 86) rfl ?_
      exact J86 k22 hk22 _ _ h
  have J22 : ∀ (f : Nat) (u : Mem) (x2 : Int32), e_X1_numberPages_L22 f u x2 = some ur → Wx p l e (headSpec wsX1_numberPages { frames := 2, cells := 0, slots := 0, locals := 44 }).room s m args below meth c (MQ below (Qvx D A (XW ad cI cB) ur) args s 0 0 A) D A 3 (XW ad cI cB) u 22 [(0, .ref (ad 9)), (1, .ref (ad 1)), (2, .int x2)] [] := by
    intro f
    induction f with
    | zero => intro u x2 h; cases h
    | succ f ih =>
      intro u x2 h
      replace h : e_X1_numberPages_L22_b (e_X1_numberPages_L22 f) u x2 = some ur := h
      unfold e_X1_numberPages_L22_b at h
      refine x_iload_n C dX1_numberPages_22 2 rfl (pc2 := 23) rfl ?_
      refine x_aload_n C dX1_numberPages_23 1 rfl (pc2 := 24) rfl ?_
      refine x_get C hiX0 1 (xc_1 ad cI cB _) rfl 0 (by decide) f49 (v := .int (u 1 0)) rfl dX1_numberPages_24 (pc2 := 27) rfl ?_
      refine x_icmp_ge C h dX1_numberPages_27 (tgt := 129) (by decide) (pc2 := 30) rfl (fun h => ?_) (fun h => ?_)
      · exact x_vret C hr hlocks h dX1_numberPages_129
      · refine x_aload_n C dX1_numberPages_30 0 rfl (pc2 := 31) rfl ?_
        refine x_get C hiX1 9 (xc_9 ad cI cB _) rfl 5 (by decide) f27 (v := .ref (ad 10)) rfl dX1_numberPages_31 (pc2 := 34) rfl ?_
        refine x_iload_n C dX1_numberPages_34 2 rfl (pc2 := 35) rfl ?_
        refine x_iald C h 10 0 (xc_10 ad cI cB _) rfl dX1_numberPages_35 (pc2 := 36) rfl (fun h => ?_)
        refine x_iconst (v := (2 : Int32)) C dX1_numberPages_36 (by decide) (pc2 := 37) rfl ?_
        refine x_icmp_ne C h dX1_numberPages_37 (tgt := 49) (by decide) (pc2 := 40) rfl (fun h => ?_) (fun h => ?_)
        · refine x_iload_n C dX1_numberPages_49 2 rfl (pc2 := 50) rfl ?_
          refine x_if_le C h dX1_numberPages_50 (tgt := 67) (by decide) (pc2 := 53) rfl (fun h => ?_) (fun h => ?_)
          · exact J67 (e_X1_numberPages_L22 f) ih _ _ h
          · refine x_aload_n C dX1_numberPages_53 0 rfl (pc2 := 54) rfl ?_
            refine x_get C hiX1 9 (xc_9 ad cI cB _) rfl 6 (by decide) f31 (v := .ref (ad 11)) rfl dX1_numberPages_54 (pc2 := 57) rfl ?_
            refine x_iload_n C dX1_numberPages_57 2 rfl (pc2 := 58) rfl ?_
            refine x_aload_n C dX1_numberPages_58 0 rfl (pc2 := 59) rfl ?_
            refine x_get C hiX1 9 (xc_9 ad cI cB _) rfl 6 (by decide) f31 (v := .ref (ad 11)) rfl dX1_numberPages_59 (pc2 := 62) rfl ?_
            refine x_iload_n C dX1_numberPages_62 2 rfl (pc2 := 63) rfl ?_
            refine x_iconst (v := (1 : Int32)) C dX1_numberPages_63 (by decide) (pc2 := 64) rfl ?_
            refine x_isub C dX1_numberPages_64 (pc2 := 65) rfl ?_
            refine x_iald C h 11 0 (xc_11 ad cI cB _) rfl dX1_numberPages_65 (pc2 := 66) rfl (fun h => ?_)
            refine x_iast C h 11 0 (xc_11 ad cI cB _) rfl (u2 := (put u 11 (x2).toNatClampNeg (u 11 ((x2 - (1 : Int32))).toNatClampNeg))) (xs_11 ad cI cB _ _ _) dX1_numberPages_66 (pc2 := 67) rfl (fun h => ?_)
            exact J67 (e_X1_numberPages_L22 f) ih _ _ h
        · refine x_aload_n C dX1_numberPages_40 0 rfl (pc2 := 41) rfl ?_
          refine x_aload_n C dX1_numberPages_41 1 rfl (pc2 := 42) rfl ?_
          refine x_iload_n C dX1_numberPages_42 2 rfl (pc2 := 43) rfl ?_
          refine x_callVv (As := [.ref (ad 1), .int x2]) (rest := []) (index := 103) (n := 2) C h (c_X1_turnPage l D A ad cI cB _ _) gX1_numberPages_X1_turnPage rfl (by decide +kernel) rfl rfl ⟨Nat.le_of_ble_eq_true rfl, Nat.le_of_ble_eq_true rfl⟩ (ci := 1) rfl rfl (xc_9 ad cI cB _) (XW_D ad cI cB _) rfl rfl (Nat.le_of_ble_eq_true rfl) dX1_numberPages_43 (pc2 := 46) rfl (fun u1 h => ?_)
          refine x_goto C dX1_numberPages_46 (pc2 := 67) (by decide) ?_
          exact J67 (e_X1_numberPages_L22 f) ih _ _ h
  refine x_aload_n C dX1_numberPages_0 0 rfl (pc2 := 1) rfl ?_
  refine x_iconst (v := (0 : Int32)) C dX1_numberPages_1 (by decide) (pc2 := 2) rfl ?_
  refine x_put C hiX1 tyX1 tyX1_ok nmX1 9 (xc_9 ad cI cB _) rfl 1 (by decide) f15 rfl rfl (Nat.le_of_ble_eq_true rfl) (u2 := (put u 9 1 (0 : Int32))) (xs_9_1 ad cI cB _ _) dX1_numberPages_2 (pc2 := 5) rfl ?_
  refine x_aload_n C dX1_numberPages_5 0 rfl (pc2 := 6) rfl ?_
  refine x_iconst (v := (0 : Int32)) C dX1_numberPages_6 (by decide) (pc2 := 7) rfl ?_
  refine x_put C hiX1 tyX1 tyX1_ok nmX1 9 (xc_9 ad cI cB _) rfl 2 (by decide) f18 rfl rfl (Nat.le_of_ble_eq_true rfl) (u2 := (put (put u 9 1 (0 : Int32)) 9 2 (0 : Int32))) (xs_9_2 ad cI cB _ _) dX1_numberPages_7 (pc2 := 10) rfl ?_
  refine x_aload_n C dX1_numberPages_10 0 rfl (pc2 := 11) rfl ?_
  refine x_iconst (v := (0 : Int32)) C dX1_numberPages_11 (by decide) (pc2 := 12) rfl ?_
  refine x_put C hiX1 tyX1 tyX1_ok nmX1 9 (xc_9 ad cI cB _) rfl 3 (by decide) f21 rfl rfl (Nat.le_of_ble_eq_true rfl) (u2 := (put (put (put u 9 1 (0 : Int32)) 9 2 (0 : Int32)) 9 3 (0 : Int32))) (xs_9_3 ad cI cB _ _) dX1_numberPages_12 (pc2 := 15) rfl ?_
  refine x_aload_n C dX1_numberPages_15 0 rfl (pc2 := 16) rfl ?_
  refine x_iconst (v := (0 : Int32)) C dX1_numberPages_16 (by decide) (pc2 := 17) rfl ?_
  refine x_put C hiX1 tyX1 tyX1_ok nmX1 9 (xc_9 ad cI cB _) rfl 4 (by decide) f24 rfl rfl (Nat.le_of_ble_eq_true rfl) (u2 := (put (put (put (put u 9 1 (0 : Int32)) 9 2 (0 : Int32)) 9 3 (0 : Int32)) 9 4 (0 : Int32))) (xs_9_4 ad cI cB _ _) dX1_numberPages_17 (pc2 := 20) rfl ?_
  refine x_iconst (v := (0 : Int32)) C dX1_numberPages_20 (by decide) (pc2 := 21) rfl ?_
  refine x_istore_n C dX1_numberPages_21 (by decide) (lv2 := [(2, .int (0 : Int32)), (0, .ref (ad 9)), (1, .ref (ad 1))]) rfl (pc2 := 22) rfl ?_
  refine x_sub [1, 2, 0] (lv2 := [(0, .ref (ad 9)), (1, .ref (ad 1)), (2, .int (0 : Int32))]) rfl ?_
  exact J22 FU _ _ h
set_option maxRecDepth 100000 in
set_option maxHeartbeats 4000000 in
theorem c_X1_width (l : Launch) (D : va_G) (A : Nat → Prop) (ad : Nat → Nat) (cI cB : ClassId) (u : Mem) (x2 : Int32) : Cti l yX1_width wsX1_width { frames := 1, cells := 0, slots := 0, locals := 30 } D A (XW ad cI cB) [(cI, .int), (cB, .object "PanelPages$Book")] [.ref (ad 9), .ref (ad 1), .int x2] u (e_X1_width u x2) := by
  intro r ur h
  refine Met.ofW (cc := cX1_width) (maxL := 5) (ret := (some .int)) (by decide) rfl ?_
  intro p e s m args below meth c s₁ B hml hv
  obtain ⟨hav, hP, hK, hD⟩ := hv
  have C : Cx p m c cX1_width 5 s args wsX1_width RX1 D [(cI, .int), (cB, .object "PanelPages$Book")] := ⟨⟨B.exec, B.bytes, hml, findClass_of_methodNamed B.named, atoms_spec (ws := wsX1_width) B.pre⟩, hK⟩
  have hr := B.returns
  have hlocks := B.notSynchronized
  have hiX0 : ∀ w ∈ wsX00, w ∈ wsX1_width := by decide +kernel
  have hiX1 : ∀ w ∈ wsX10, w ∈ wsX1_width := by decide +kernel
  have f27 : Cond.fieldLink RX1 27 "PanelPages$Layout" "figures" "[I" ∈ wsX1_width := by decide +kernel
  have f37 : Cond.fieldLink RX1 37 "PanelPages$Layout" "place" "[I" ∈ wsX1_width := by decide +kernel
  have f49 : Cond.fieldLink RX1 49 "PanelPages$Book" "panels" "I" ∈ wsX1_width := by decide +kernel
  refine x_entry2 (lv := [(0, .ref (ad 9)), (1, .ref (ad 1)), (2, .int x2)]) hav hP hD (Nat.le_of_ble_eq_true rfl) rfl ?_
  unfold e_X1_width at h
  have J38 : ∀ (u : Mem) (x2 : Int32) (x3 : Int32), e_X1_width_J38 u x2 x3 = some (r, ur) → Wx p l e (headSpec wsX1_width { frames := 1, cells := 0, slots := 0, locals := 30 }).room s m args below meth c (MQ below (Qix D A (XW ad cI cB) r ur) args s 0 0 A) D A 5 (XW ad cI cB) u 38 [(0, .ref (ad 9)), (1, .ref (ad 1)), (2, .int x2), (3, .int x3)] [] := by
    intro u x2 x3 h
    unfold e_X1_width_J38 at h
    refine x_iload_n C dX1_width_38 2 rfl (pc2 := 39) rfl ?_
    refine x_aload_n C dX1_width_39 0 rfl (pc2 := 40) rfl ?_
    refine x_get C hiX1 9 (xc_9 ad cI cB _) rfl 8 (by decide) f37 (v := .ref (ad 13)) rfl dX1_width_40 (pc2 := 43) rfl ?_
    refine x_iload_n C dX1_width_43 2 rfl (pc2 := 44) rfl ?_
    refine x_iald C h 13 0 (xc_13 ad cI cB _) rfl dX1_width_44 (pc2 := 45) rfl (fun h => ?_)
    refine x_isub C dX1_width_45 (pc2 := 46) rfl ?_
    refine x_istore C dX1_width_46 (by decide) (lv2 := [(4, .int (x2 - (u 13 (x2).toNatClampNeg))), (0, .ref (ad 9)), (1, .ref (ad 1)), (2, .int x2), (3, .int x3)]) rfl (pc2 := 48) rfl ?_
    refine x_aload_n C dX1_width_48 2 rfl (pc2 := 49) rfl ?_
    refine x_iload C dX1_width_49 0 rfl (pc2 := 51) rfl ?_
    refine x_iload_n C dX1_width_51 4 rfl (pc2 := 52) rfl ?_
    refine x_iload C dX1_width_52 0 rfl (pc2 := 54) rfl ?_
    refine x_isub C dX1_width_54 (pc2 := 55) rfl ?_
    refine x_aload_n C dX1_width_55 1 rfl (pc2 := 56) rfl ?_
    refine x_get C hiX1 9 (xc_9 ad cI cB _) rfl 8 (by decide) f37 (v := .ref (ad 13)) rfl dX1_width_56 (pc2 := 59) rfl ?_
    refine x_iload_n C dX1_width_59 3 rfl (pc2 := 60) rfl ?_
    refine x_iald C h 13 0 (xc_13 ad cI cB _) rfl dX1_width_60 (pc2 := 61) rfl (fun h => ?_)
    refine x_callVi (As := [.int (x2 - (u 13 (x2).toNatClampNeg)), .int (x3 - (x2 - (u 13 (x2).toNatClampNeg))), .int (u 13 (x2).toNatClampNeg)]) (rest := []) (index := 110) (n := 3) C h (c_X0_tierWidth l D A ad cI cB _ _ _ _) gX1_width_X0_tierWidth rfl (by decide +kernel) rfl rfl ⟨Nat.le_of_ble_eq_true rfl, Nat.le_of_ble_eq_true rfl⟩ (ci := 0) rfl rfl (xc_1 ad cI cB _) (XW_D ad cI cB _) rfl rfl (Nat.le_of_ble_eq_true rfl) dX1_width_61 (pc2 := 64) rfl (fun r2 u2 h => ?_)
    exact x_iret C hr hlocks h dX1_width_64
  have J15 : ∀ (f : Nat) (u : Mem) (x2 : Int32) (x3 : Int32), e_X1_width_L15 f u x2 x3 = some (r, ur) → Wx p l e (headSpec wsX1_width { frames := 1, cells := 0, slots := 0, locals := 30 }).room s m args below meth c (MQ below (Qix D A (XW ad cI cB) r ur) args s 0 0 A) D A 5 (XW ad cI cB) u 15 [(0, .ref (ad 9)), (1, .ref (ad 1)), (2, .int x2), (3, .int x3)] [] := by
    intro f
    induction f with
    | zero => intro u x2 x3 h; cases h
    | succ f ih =>
      intro u x2 x3 h
      replace h : e_X1_width_L15_b (e_X1_width_L15 f) u x2 x3 = some (r, ur) := h
      unfold e_X1_width_L15_b at h
      refine x_iload_n C dX1_width_15 3 rfl (pc2 := 16) rfl ?_
      refine x_aload_n C dX1_width_16 1 rfl (pc2 := 17) rfl ?_
      refine x_get C hiX0 1 (xc_1 ad cI cB _) rfl 0 (by decide) f49 (v := .int (u 1 0)) rfl dX1_width_17 (pc2 := 20) rfl ?_
      refine x_icmp_ge C h dX1_width_20 (tgt := 38) (by decide) (pc2 := 23) rfl (fun h => ?_) (fun h => ?_)
      · exact J38 _ _ _ h
      · refine x_aload_n C dX1_width_23 0 rfl (pc2 := 24) rfl ?_
        refine x_get C hiX1 9 (xc_9 ad cI cB _) rfl 5 (by decide) f27 (v := .ref (ad 10)) rfl dX1_width_24 (pc2 := 27) rfl ?_
        refine x_iload_n C dX1_width_27 3 rfl (pc2 := 28) rfl ?_
        refine x_iald C h 10 0 (xc_10 ad cI cB _) rfl dX1_width_28 (pc2 := 29) rfl (fun h => ?_)
        refine x_if_ne C h dX1_width_29 (tgt := 38) (by decide) (pc2 := 32) rfl (fun h => ?_) (fun h => ?_)
        · exact J38 _ _ _ h
        · refine x_iinc C dX1_width_32 3 rfl (1 : Int32) (by decide) rfl (by decide) (lv2 := [(3, .int (x3 + (1 : Int32))), (0, .ref (ad 9)), (1, .ref (ad 1)), (2, .int x2)]) rfl (pc2 := 35) rfl ?_
          refine x_goto C dX1_width_35 (pc2 := 15) (by decide) ?_
          refine x_sub [1, 2, 3, 0] (lv2 := [(0, .ref (ad 9)), (1, .ref (ad 1)), (2, .int x2), (3, .int (x3 + (1 : Int32)))]) rfl ?_
          exact ih _ _ _ h
  refine x_aload_n C dX1_width_0 1 rfl (pc2 := 1) rfl ?_
  refine x_iload_n C dX1_width_1 2 rfl (pc2 := 2) rfl ?_
  refine x_callVi (As := [.int x2]) (rest := []) (index := 75) (n := 1) C h (c_X0_isSpread l D A ad cI cB _ _) gX1_width_X0_isSpread rfl (by decide +kernel) rfl rfl ⟨Nat.le_of_ble_eq_true rfl, Nat.le_of_ble_eq_true rfl⟩ (ci := 0) rfl rfl (xc_1 ad cI cB _) (XW_D ad cI cB _) rfl rfl (Nat.le_of_ble_eq_true rfl) dX1_width_2 (pc2 := 5) rfl (fun r1 u1 h => ?_)
  refine x_if_eq C h dX1_width_5 (tgt := 11) (by decide) (pc2 := 8) rfl (fun h => ?_) (fun h => ?_)
  · refine x_iload_n C dX1_width_11 2 rfl (pc2 := 12) rfl ?_
    refine x_iconst (v := (1 : Int32)) C dX1_width_12 (by decide) (pc2 := 13) rfl ?_
    refine x_iadd C dX1_width_13 (pc2 := 14) rfl ?_
    refine x_istore_n C dX1_width_14 (by decide) (lv2 := [(3, .int (x2 + (1 : Int32))), (0, .ref (ad 9)), (1, .ref (ad 1)), (2, .int x2)]) rfl (pc2 := 15) rfl ?_
    refine x_sub [1, 2, 3, 0] (lv2 := [(0, .ref (ad 9)), (1, .ref (ad 1)), (2, .int x2), (3, .int (x2 + (1 : Int32)))]) rfl ?_
    exact J15 FU _ _ _ h
  · refine x_bipush (v := (24 : Int32)) C dX1_width_8 (by decide) (pc2 := 10) rfl ?_
    exact x_iret C hr hlocks h dX1_width_10
set_option maxRecDepth 100000 in
set_option maxHeartbeats 4000000 in
theorem c_X1_pour (l : Launch) (D : va_G) (A : Nat → Prop) (ad : Nat → Nat) (cI cB : ClassId) (u : Mem)  : Cti l yX1_pour wsX1_pour { frames := 3, cells := 0, slots := 0, locals := 87 } D A (XW ad cI cB) [(cI, .int), (cB, .object "PanelPages$Book")] [.ref (ad 9), .ref (ad 1), .ref (ad 7)] u (e_X1_pour u ) := by
  intro r ur h
  refine Met.ofW (cc := cX1_pour) (maxL := 5) (ret := (some .int)) (by decide) rfl ?_
  intro p e s m args below meth c s₁ B hml hv
  obtain ⟨hav, hP, hK, hD⟩ := hv
  have C : Cx p m c cX1_pour 5 s args wsX1_pour RX1 D [(cI, .int), (cB, .object "PanelPages$Book")] := ⟨⟨B.exec, B.bytes, hml, findClass_of_methodNamed B.named, atoms_spec (ws := wsX1_pour) B.pre⟩, hK⟩
  have hr := B.returns
  have hlocks := B.notSynchronized
  have hiX0 : ∀ w ∈ wsX00, w ∈ wsX1_pour := by decide +kernel
  have hiX1 : ∀ w ∈ wsX10, w ∈ wsX1_pour := by decide +kernel
  have f49 : Cond.fieldLink RX1 49 "PanelPages$Book" "panels" "I" ∈ wsX1_pour := by decide +kernel
  have f9 : Cond.fieldLink RX1 9 "PanelPages$Layout" "poured" "I" ∈ wsX1_pour := by decide +kernel
  refine x_entry2 (lv := [(0, .ref (ad 9)), (1, .ref (ad 1)), (2, .ref (ad 7))]) hav hP hD (Nat.le_of_ble_eq_true rfl) rfl ?_
  unfold e_X1_pour at h
  have J5 : ∀ (f : Nat) (u : Mem) , e_X1_pour_L5 f u  = some (r, ur) → Wx p l e (headSpec wsX1_pour { frames := 3, cells := 0, slots := 0, locals := 87 }).room s m args below meth c (MQ below (Qix D A (XW ad cI cB) r ur) args s 0 0 A) D A 5 (XW ad cI cB) u 5 [(0, .ref (ad 9)), (1, .ref (ad 1)), (2, .ref (ad 7))] [] := by
    intro f
    induction f with
    | zero => intro u  h; cases h
    | succ f ih =>
      intro u  h
      replace h : e_X1_pour_L5_b (e_X1_pour_L5 f) u  = some (r, ur) := h
      unfold e_X1_pour_L5_b at h
      refine x_aload_n C dX1_pour_5 0 rfl (pc2 := 6) rfl ?_
      refine x_get C hiX1 9 (xc_9 ad cI cB _) rfl 0 (by decide) f9 (v := .int (u 9 0)) rfl dX1_pour_6 (pc2 := 9) rfl ?_
      refine x_aload_n C dX1_pour_9 1 rfl (pc2 := 10) rfl ?_
      refine x_get C hiX0 1 (xc_1 ad cI cB _) rfl 0 (by decide) f49 (v := .int (u 1 0)) rfl dX1_pour_10 (pc2 := 13) rfl ?_
      refine x_icmp_ge C h dX1_pour_13 (tgt := 68) (by decide) (pc2 := 16) rfl (fun h => ?_) (fun h => ?_)
      · refine x_iconst (v := (0 : Int32)) C dX1_pour_68 (by decide) (pc2 := 69) rfl ?_
        exact x_iret C hr hlocks h dX1_pour_69
      · refine x_aload_n C dX1_pour_16 2 rfl (pc2 := 17) rfl ?_
        refine x_aload_n C dX1_pour_17 0 rfl (pc2 := 18) rfl ?_
        refine x_get C hiX1 9 (xc_9 ad cI cB _) rfl 0 (by decide) f9 (v := .int (u 9 0)) rfl dX1_pour_18 (pc2 := 21) rfl ?_
        refine x_callVi (As := [.int (u 9 0)]) (rest := []) (index := 54) (n := 1) C h (c_X2_figure l D A ad cI cB _ _) gX1_pour_X2_figure rfl (by decide +kernel) rfl rfl ⟨Nat.le_of_ble_eq_true rfl, Nat.le_of_ble_eq_true rfl⟩ (ci := 2) rfl rfl (xc_7 ad cI cB _) (XW_D ad cI cB _) rfl rfl (Nat.le_of_ble_eq_true rfl) dX1_pour_21 (pc2 := 24) rfl (fun r1 u1 h => ?_)
        refine x_istore_n C dX1_pour_24 (by decide) (lv2 := [(3, .int r1), (0, .ref (ad 9)), (1, .ref (ad 1)), (2, .ref (ad 7))]) rfl (pc2 := 25) rfl ?_
        refine x_aload_n C dX1_pour_25 1 rfl (pc2 := 26) rfl ?_
        refine x_aload_n C dX1_pour_26 2 rfl (pc2 := 27) rfl ?_
        refine x_aload_n C dX1_pour_27 1 rfl (pc2 := 28) rfl ?_
        refine x_get C hiX1 9 (xc_9 ad cI cB _) rfl 0 (by decide) f9 (v := .int (u1 9 0)) rfl dX1_pour_28 (pc2 := 31) rfl ?_
        refine x_iload_n C dX1_pour_31 0 rfl (pc2 := 32) rfl ?_
        refine x_callVi (As := [.ref (ad 1), .int (u1 9 0), .int r1]) (rest := []) (index := 60) (n := 3) C h (c_X1_whyNot l D A ad cI cB _ _ _) gX1_pour_X1_whyNot rfl (by decide +kernel) rfl rfl ⟨Nat.le_of_ble_eq_true rfl, Nat.le_of_ble_eq_true rfl⟩ (ci := 1) rfl rfl (xc_9 ad cI cB _) (XW_D ad cI cB _) rfl rfl (Nat.le_of_ble_eq_true rfl) dX1_pour_32 (pc2 := 35) rfl (fun r2 u2 h => ?_)
        refine x_istore C dX1_pour_35 (by decide) (lv2 := [(4, .int r2), (3, .int r1), (0, .ref (ad 9)), (1, .ref (ad 1)), (2, .ref (ad 7))]) rfl (pc2 := 37) rfl ?_
        refine x_iload C dX1_pour_37 0 rfl (pc2 := 39) rfl ?_
        refine x_if_eq C h dX1_pour_39 (tgt := 45) (by decide) (pc2 := 42) rfl (fun h => ?_) (fun h => ?_)
        · refine x_aload_n C dX1_pour_45 2 rfl (pc2 := 46) rfl ?_
          refine x_aload_n C dX1_pour_46 3 rfl (pc2 := 47) rfl ?_
          refine x_aload_n C dX1_pour_47 2 rfl (pc2 := 48) rfl ?_
          refine x_get C hiX1 9 (xc_9 ad cI cB _) rfl 0 (by decide) f9 (v := .int (u2 9 0)) rfl dX1_pour_48 (pc2 := 51) rfl ?_
          refine x_iload_n C dX1_pour_51 1 rfl (pc2 := 52) rfl ?_
          refine x_callVv (As := [.ref (ad 1), .int (u2 9 0), .int r1]) (rest := []) (index := 64) (n := 3) C h (c_X1_put l D A ad cI cB _ _ _) gX1_pour_X1_put rfl (by decide +kernel) rfl rfl ⟨Nat.le_of_ble_eq_true rfl, Nat.le_of_ble_eq_true rfl⟩ (ci := 1) rfl rfl (xc_9 ad cI cB _) (XW_D ad cI cB _) rfl rfl (Nat.le_of_ble_eq_true rfl) dX1_pour_52 (pc2 := 55) rfl (fun u3 h => ?_)
          refine x_aload_n C dX1_pour_55 2 rfl (pc2 := 56) rfl ?_
          refine x_dup C dX1_pour_56 rfl (pc2 := 57) rfl ?_
          refine x_get C hiX1 9 (xc_9 ad cI cB _) rfl 0 (by decide) f9 (v := .int (u3 9 0)) rfl dX1_pour_57 (pc2 := 60) rfl ?_
          refine x_iconst (v := (1 : Int32)) C dX1_pour_60 (by decide) (pc2 := 61) rfl ?_
          refine x_iadd C dX1_pour_61 (pc2 := 62) rfl ?_
          refine x_put C hiX1 tyX1 tyX1_ok nmX1 9 (xc_9 ad cI cB _) rfl 0 (by decide) f9 rfl rfl (Nat.le_of_ble_eq_true rfl) (u2 := (put u3 9 0 ((u3 9 0) + (1 : Int32)))) (xs_9_0 ad cI cB _ _) dX1_pour_62 (pc2 := 65) rfl ?_
          refine x_goto C dX1_pour_65 (pc2 := 5) (by decide) ?_
          refine x_sub [2, 3, 4] (lv2 := [(0, .ref (ad 9)), (1, .ref (ad 1)), (2, .ref (ad 7))]) rfl ?_
          exact ih _ h
        · refine x_iload C dX1_pour_42 0 rfl (pc2 := 44) rfl ?_
          exact x_iret C hr hlocks h dX1_pour_44
  refine x_aload_n C dX1_pour_0 0 rfl (pc2 := 1) rfl ?_
  refine x_iconst (v := (0 : Int32)) C dX1_pour_1 (by decide) (pc2 := 2) rfl ?_
  refine x_put C hiX1 tyX1 tyX1_ok nmX1 9 (xc_9 ad cI cB _) rfl 0 (by decide) f9 rfl rfl (Nat.le_of_ble_eq_true rfl) (u2 := (put u 9 0 (0 : Int32))) (xs_9_0 ad cI cB _ _) dX1_pour_2 (pc2 := 5) rfl ?_
  exact J5 FU _ h
