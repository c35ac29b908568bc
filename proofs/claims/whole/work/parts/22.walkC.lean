set_option maxRecDepth 100000 in
set_option maxHeartbeats 4000000 in
theorem c_X3_goes (l : Launch) (D : va_G) (A : Nat → Prop) (ad : Nat → Nat) (cI cB : ClassId) (u : Mem)  : Cti l yX3_goes wsX3_goes { frames := 0, cells := 0, slots := 0, locals := 0 } D A (XW ad cI cB) [(cI, .int), (cB, .object "PanelPages$Book")] [.ref (ad 17)] u (e_X3_goes u ) := by
  intro r ur h
  refine Met.ofW (cc := cX3_goes) (maxL := 1) (ret := (some .int)) (by decide) rfl ?_
  intro p e s m args below meth c s₁ B hml hv
  obtain ⟨hav, hP, hK, hD⟩ := hv
  have C : Cx p m c cX3_goes 1 s args wsX3_goes RX3 D [(cI, .int), (cB, .object "PanelPages$Book")] := ⟨⟨B.exec, B.bytes, hml, findClass_of_methodNamed B.named, atoms_spec (ws := wsX3_goes) B.pre⟩, hK⟩
  have hr := B.returns
  have hlocks := B.notSynchronized
  have hiX3 : ∀ w ∈ wsX30, w ∈ wsX3_goes := by decide +kernel
  have f18 : Cond.fieldLink RX3 18 "PanelPages$Search" "ways" "[I" ∈ wsX3_goes := by decide +kernel
  refine x_entry2 (lv := [(0, .ref (ad 17))]) hav hP hD (Nat.le_of_ble_eq_true rfl) rfl ?_
  unfold e_X3_goes at h
  refine x_aload_n C dX3_goes_0 0 rfl (pc2 := 1) rfl ?_
  refine x_get C hiX3 17 (xc_17 ad cI cB _) rfl 1 (by decide) f18 (v := .ref (ad 26)) rfl dX3_goes_1 (pc2 := 4) rfl ?_
  refine x_iconst (v := (0 : Int32)) C dX3_goes_4 (by decide) (pc2 := 5) rfl ?_
  refine x_iald C h 26 0 (xc_26 ad cI cB _) rfl dX3_goes_5 (pc2 := 6) rfl (fun h => ?_)
  exact x_iret C hr hlocks h dX3_goes_6
set_option maxRecDepth 100000 in
set_option maxHeartbeats 4000000 in
theorem c_X3_fewestPages (l : Launch) (D : va_G) (A : Nat → Prop) (ad : Nat → Nat) (cI cB : ClassId) (u : Mem)  : Cti l yX3_fewestPages wsX3_fewestPages { frames := 0, cells := 0, slots := 0, locals := 0 } D A (XW ad cI cB) [(cI, .int), (cB, .object "PanelPages$Book")] [.ref (ad 17)] u (e_X3_fewestPages u ) := by
  intro r ur h
  refine Met.ofW (cc := cX3_fewestPages) (maxL := 1) (ret := (some .int)) (by decide) rfl ?_
  intro p e s m args below meth c s₁ B hml hv
  obtain ⟨hav, hP, hK, hD⟩ := hv
  have C : Cx p m c cX3_fewestPages 1 s args wsX3_fewestPages RX3 D [(cI, .int), (cB, .object "PanelPages$Book")] := ⟨⟨B.exec, B.bytes, hml, findClass_of_methodNamed B.named, atoms_spec (ws := wsX3_fewestPages) B.pre⟩, hK⟩
  have hr := B.returns
  have hlocks := B.notSynchronized
  have hiX3 : ∀ w ∈ wsX30, w ∈ wsX3_fewestPages := by decide +kernel
  have f22 : Cond.fieldLink RX3 22 "PanelPages$Search" "fewest" "[I" ∈ wsX3_fewestPages := by decide +kernel
  refine x_entry2 (lv := [(0, .ref (ad 17))]) hav hP hD (Nat.le_of_ble_eq_true rfl) rfl ?_
  unfold e_X3_fewestPages at h
  refine x_aload_n C dX3_fewestPages_0 0 rfl (pc2 := 1) rfl ?_
  refine x_get C hiX3 17 (xc_17 ad cI cB _) rfl 2 (by decide) f22 (v := .ref (ad 27)) rfl dX3_fewestPages_1 (pc2 := 4) rfl ?_
  refine x_iconst (v := (0 : Int32)) C dX3_fewestPages_4 (by decide) (pc2 := 5) rfl ?_
  refine x_iald C h 27 0 (xc_27 ad cI cB _) rfl dX3_fewestPages_5 (pc2 := 6) rfl (fun h => ?_)
  exact x_iret C hr hlocks h dX3_fewestPages_6
set_option maxRecDepth 100000 in
set_option maxHeartbeats 4000000 in
theorem c_X3_leastRagged (l : Launch) (D : va_G) (A : Nat → Prop) (ad : Nat → Nat) (cI cB : ClassId) (u : Mem)  : Cti l yX3_leastRagged wsX3_leastRagged { frames := 0, cells := 0, slots := 0, locals := 0 } D A (XW ad cI cB) [(cI, .int), (cB, .object "PanelPages$Book")] [.ref (ad 17)] u (e_X3_leastRagged u ) := by
  intro r ur h
  refine Met.ofW (cc := cX3_leastRagged) (maxL := 1) (ret := (some .int)) (by decide) rfl ?_
  intro p e s m args below meth c s₁ B hml hv
  obtain ⟨hav, hP, hK, hD⟩ := hv
  have C : Cx p m c cX3_leastRagged 1 s args wsX3_leastRagged RX3 D [(cI, .int), (cB, .object "PanelPages$Book")] := ⟨⟨B.exec, B.bytes, hml, findClass_of_methodNamed B.named, atoms_spec (ws := wsX3_leastRagged) B.pre⟩, hK⟩
  have hr := B.returns
  have hlocks := B.notSynchronized
  have hiX3 : ∀ w ∈ wsX30, w ∈ wsX3_leastRagged := by decide +kernel
  have f28 : Cond.fieldLink RX3 28 "PanelPages$Search" "least" "[I" ∈ wsX3_leastRagged := by decide +kernel
  refine x_entry2 (lv := [(0, .ref (ad 17))]) hav hP hD (Nat.le_of_ble_eq_true rfl) rfl ?_
  unfold e_X3_leastRagged at h
  refine x_aload_n C dX3_leastRagged_0 0 rfl (pc2 := 1) rfl ?_
  refine x_get C hiX3 17 (xc_17 ad cI cB _) rfl 4 (by decide) f28 (v := .ref (ad 29)) rfl dX3_leastRagged_1 (pc2 := 4) rfl ?_
  refine x_iconst (v := (0 : Int32)) C dX3_leastRagged_4 (by decide) (pc2 := 5) rfl ?_
  refine x_iald C h 29 0 (xc_29 ad cI cB _) rfl dX3_leastRagged_5 (pc2 := 6) rfl (fun h => ?_)
  exact x_iret C hr hlocks h dX3_leastRagged_6
set_option maxRecDepth 100000 in
set_option maxHeartbeats 4000000 in
theorem c_X3_goesInFewest (l : Launch) (D : va_G) (A : Nat → Prop) (ad : Nat → Nat) (cI cB : ClassId) (u : Mem)  : Cti l yX3_goesInFewest wsX3_goesInFewest { frames := 0, cells := 0, slots := 0, locals := 0 } D A (XW ad cI cB) [(cI, .int), (cB, .object "PanelPages$Book")] [.ref (ad 17)] u (e_X3_goesInFewest u ) := by
  intro r ur h
  refine Met.ofW (cc := cX3_goesInFewest) (maxL := 1) (ret := (some .int)) (by decide) rfl ?_
  intro p e s m args below meth c s₁ B hml hv
  obtain ⟨hav, hP, hK, hD⟩ := hv
  have C : Cx p m c cX3_goesInFewest 1 s args wsX3_goesInFewest RX3 D [(cI, .int), (cB, .object "PanelPages$Book")] := ⟨⟨B.exec, B.bytes, hml, findClass_of_methodNamed B.named, atoms_spec (ws := wsX3_goesInFewest) B.pre⟩, hK⟩
  have hr := B.returns
  have hlocks := B.notSynchronized
  have hiX3 : ∀ w ∈ wsX30, w ∈ wsX3_goesInFewest := by decide +kernel
  have f25 : Cond.fieldLink RX3 25 "PanelPages$Search" "waysInFewest" "[I" ∈ wsX3_goesInFewest := by decide +kernel
  refine x_entry2 (lv := [(0, .ref (ad 17))]) hav hP hD (Nat.le_of_ble_eq_true rfl) rfl ?_
  unfold e_X3_goesInFewest at h
  refine x_aload_n C dX3_goesInFewest_0 0 rfl (pc2 := 1) rfl ?_
  refine x_get C hiX3 17 (xc_17 ad cI cB _) rfl 3 (by decide) f25 (v := .ref (ad 28)) rfl dX3_goesInFewest_1 (pc2 := 4) rfl ?_
  refine x_iconst (v := (0 : Int32)) C dX3_goesInFewest_4 (by decide) (pc2 := 5) rfl ?_
  refine x_iald C h 28 0 (xc_28 ad cI cB _) rfl dX3_goesInFewest_5 (pc2 := 6) rfl (fun h => ?_)
  exact x_iret C hr hlocks h dX3_goesInFewest_6
set_option maxRecDepth 100000 in
set_option maxHeartbeats 4000000 in
theorem c_X3_figure (l : Launch) (D : va_G) (A : Nat → Prop) (ad : Nat → Nat) (cI cB : ClassId) (u : Mem) (x2 : Int32) : Cti l yX3_figure wsX3_figure { frames := 0, cells := 0, slots := 0, locals := 0 } D A (XW ad cI cB) [(cI, .int), (cB, .object "PanelPages$Book")] [.ref (ad 17), .ref (ad 1), .int x2] u (e_X3_figure u x2) := by
  intro r ur h
  refine Met.ofW (cc := cX3_figure) (maxL := 3) (ret := (some .int)) (by decide) rfl ?_
  intro p e s m args below meth c s₁ B hml hv
  obtain ⟨hav, hP, hK, hD⟩ := hv
  have C : Cx p m c cX3_figure 3 s args wsX3_figure RX3 D [(cI, .int), (cB, .object "PanelPages$Book")] := ⟨⟨B.exec, B.bytes, hml, findClass_of_methodNamed B.named, atoms_spec (ws := wsX3_figure) B.pre⟩, hK⟩
  have hr := B.returns
  have hlocks := B.notSynchronized
  have hiX0 : ∀ w ∈ wsX00, w ∈ wsX3_figure := by decide +kernel
  have hiX3 : ∀ w ∈ wsX30, w ∈ wsX3_figure := by decide +kernel
  have f31 : Cond.fieldLink RX3 31 "PanelPages$Search" "firstLayout" "[I" ∈ wsX3_figure := by decide +kernel
  have f34 : Cond.fieldLink RX3 34 "PanelPages$Book" "panels" "I" ∈ wsX3_figure := by decide +kernel
  refine x_entry2 (lv := [(0, .ref (ad 17)), (1, .ref (ad 1)), (2, .int x2)]) hav hP hD (Nat.le_of_ble_eq_true rfl) rfl ?_
  unfold e_X3_figure at h
  refine x_aload_n C dX3_figure_0 0 rfl (pc2 := 1) rfl ?_
  refine x_get C hiX3 17 (xc_17 ad cI cB _) rfl 5 (by decide) f31 (v := .ref (ad 30)) rfl dX3_figure_1 (pc2 := 4) rfl ?_
  refine x_iconst (v := (0 : Int32)) C dX3_figure_4 (by decide) (pc2 := 5) rfl ?_
  refine x_iald C h 30 0 (xc_30 ad cI cB _) rfl dX3_figure_5 (pc2 := 6) rfl (fun h => ?_)
  refine x_iconst (v := (2 : Int32)) C dX3_figure_6 (by decide) (pc2 := 7) rfl ?_
  refine x_aload_n C dX3_figure_7 1 rfl (pc2 := 8) rfl ?_
  refine x_get C hiX0 1 (xc_1 ad cI cB _) rfl 0 (by decide) f34 (v := .int (u 1 0)) rfl dX3_figure_8 (pc2 := 11) rfl ?_
  refine x_iconst (v := (1 : Int32)) C dX3_figure_11 (by decide) (pc2 := 12) rfl ?_
  refine x_isub C dX3_figure_12 (pc2 := 13) rfl ?_
  refine x_iload_n C dX3_figure_13 2 rfl (pc2 := 14) rfl ?_
  refine x_isub C dX3_figure_14 (pc2 := 15) rfl ?_
  refine x_imul C dX3_figure_15 (pc2 := 16) rfl ?_
  refine x_ishr C dX3_figure_16 (pc2 := 17) rfl ?_
  refine x_iconst (v := (3 : Int32)) C dX3_figure_17 (by decide) (pc2 := 18) rfl ?_
  refine x_iand C dX3_figure_18 (pc2 := 19) rfl ?_
  exact x_iret C hr hlocks h dX3_figure_19
set_option maxRecDepth 100000 in
set_option maxHeartbeats 4000000 in
theorem c_X3_clear (l : Launch) (D : va_G) (A : Nat → Prop) (ad : Nat → Nat) (cI cB : ClassId) (u : Mem) (x1 : Int32) : Ctv l yX3_clear wsX3_clear { frames := 0, cells := 0, slots := 0, locals := 0 } D A (XW ad cI cB) [(cI, .int), (cB, .object "PanelPages$Book")] [.ref (ad 17), .int x1] u (e_X3_clear u x1) := by
  intro ur h
  refine Met.ofW (cc := cX3_clear) (maxL := 3) (ret := none) (by decide) rfl ?_
  intro p e s m args below meth c s₁ B hml hv
  obtain ⟨hav, hP, hK, hD⟩ := hv
  have C : Cx p m c cX3_clear 3 s args wsX3_clear RX3 D [(cI, .int), (cB, .object "PanelPages$Book")] := ⟨⟨B.exec, B.bytes, hml, findClass_of_methodNamed B.named, atoms_spec (ws := wsX3_clear) B.pre⟩, hK⟩
  have hr := B.returns
  have hlocks := B.notSynchronized
  have hiX3 : ∀ w ∈ wsX30, w ∈ wsX3_clear := by decide +kernel
  have f18 : Cond.fieldLink RX3 18 "PanelPages$Search" "ways" "[I" ∈ wsX3_clear := by decide +kernel
  have f22 : Cond.fieldLink RX3 22 "PanelPages$Search" "fewest" "[I" ∈ wsX3_clear := by decide +kernel
  have f25 : Cond.fieldLink RX3 25 "PanelPages$Search" "waysInFewest" "[I" ∈ wsX3_clear := by decide +kernel
  have f28 : Cond.fieldLink RX3 28 "PanelPages$Search" "least" "[I" ∈ wsX3_clear := by decide +kernel
  have f31 : Cond.fieldLink RX3 31 "PanelPages$Search" "firstLayout" "[I" ∈ wsX3_clear := by decide +kernel
  refine x_entry2 (lv := [(0, .ref (ad 17)), (1, .int x1)]) hav hP hD (Nat.le_of_ble_eq_true rfl) rfl ?_
  unfold e_X3_clear at h
  have J2 : ∀ (f : Nat) (u : Mem) (x1 : Int32) (x2 : Int32), e_X3_clear_L2 f u x1 x2 = some ur → Wx p l e (headSpec wsX3_clear { frames := 0, cells := 0, slots := 0, locals := 0 }).room s m args below meth c (MQ below (Qvx D A (XW ad cI cB) ur) args s 0 0 A) D A 3 (XW ad cI cB) u 2 [(0, .ref (ad 17)), (1, .int x1), (2, .int x2)] [] := by
    intro f
    induction f with
    | zero => intro u x1 x2 h; cases h
    | succ f ih =>
      intro u x1 x2 h
      replace h : e_X3_clear_L2_b (e_X3_clear_L2 f) u x1 x2 = some ur := h
      unfold e_X3_clear_L2_b at h
      refine x_iload_n C dX3_clear_2 2 rfl (pc2 := 3) rfl ?_
      refine x_iload_n C dX3_clear_3 1 rfl (pc2 := 4) rfl ?_
      refine x_iconst (v := (2 : Int32)) C dX3_clear_4 (by decide) (pc2 := 5) rfl ?_
      refine x_iadd C dX3_clear_5 (pc2 := 6) rfl ?_
      refine x_icmp_ge C h dX3_clear_6 (tgt := 50) (by decide) (pc2 := 9) rfl (fun h => ?_) (fun h => ?_)
      · exact x_vret C hr hlocks h dX3_clear_50
      · refine x_aload_n C dX3_clear_9 0 rfl (pc2 := 10) rfl ?_
        refine x_get C hiX3 17 (xc_17 ad cI cB _) rfl 1 (by decide) f18 (v := .ref (ad 26)) rfl dX3_clear_10 (pc2 := 13) rfl ?_
        refine x_iload_n C dX3_clear_13 2 rfl (pc2 := 14) rfl ?_
        refine x_iconst (v := (0 : Int32)) C dX3_clear_14 (by decide) (pc2 := 15) rfl ?_
        refine x_iast C h 26 0 (xc_26 ad cI cB _) rfl (u2 := (put u 26 (x2).toNatClampNeg (0 : Int32))) (xs_26 ad cI cB _ _ _) dX3_clear_15 (pc2 := 16) rfl (fun h => ?_)
        refine x_aload_n C dX3_clear_16 0 rfl (pc2 := 17) rfl ?_
        refine x_get C hiX3 17 (xc_17 ad cI cB _) rfl 2 (by decide) f22 (v := .ref (ad 27)) rfl dX3_clear_17 (pc2 := 20) rfl ?_
        refine x_iload_n C dX3_clear_20 2 rfl (pc2 := 21) rfl ?_
        refine x_iconst (v := (0 : Int32)) C dX3_clear_21 (by decide) (pc2 := 22) rfl ?_
        refine x_iast C h 27 0 (xc_27 ad cI cB _) rfl (u2 := (put (put u 26 (x2).toNatClampNeg (0 : Int32)) 27 (x2).toNatClampNeg (0 : Int32))) (xs_27 ad cI cB _ _ _) dX3_clear_22 (pc2 := 23) rfl (fun h => ?_)
        refine x_aload_n C dX3_clear_23 0 rfl (pc2 := 24) rfl ?_
        refine x_get C hiX3 17 (xc_17 ad cI cB _) rfl 3 (by decide) f25 (v := .ref (ad 28)) rfl dX3_clear_24 (pc2 := 27) rfl ?_
        refine x_iload_n C dX3_clear_27 2 rfl (pc2 := 28) rfl ?_
        refine x_iconst (v := (0 : Int32)) C dX3_clear_28 (by decide) (pc2 := 29) rfl ?_
        refine x_iast C h 28 0 (xc_28 ad cI cB _) rfl (u2 := (put (put (put u 26 (x2).toNatClampNeg (0 : Int32)) 27 (x2).toNatClampNeg (0 : Int32)) 28 (x2).toNatClampNeg (0 : Int32))) (xs_28 ad cI cB _ _ _) dX3_clear_29 (pc2 := 30) rfl (fun h => ?_)
        refine x_aload_n C dX3_clear_30 0 rfl (pc2 := 31) rfl ?_
        refine x_get C hiX3 17 (xc_17 ad cI cB _) rfl 4 (by decide) f28 (v := .ref (ad 29)) rfl dX3_clear_31 (pc2 := 34) rfl ?_
        refine x_iload_n C dX3_clear_34 2 rfl (pc2 := 35) rfl ?_
        refine x_iconst (v := (0 : Int32)) C dX3_clear_35 (by decide) (pc2 := 36) rfl ?_
        refine x_iast C h 29 0 (xc_29 ad cI cB _) rfl (u2 := (put (put (put (put u 26 (x2).toNatClampNeg (0 : Int32)) 27 (x2).toNatClampNeg (0 : Int32)) 28 (x2).toNatClampNeg (0 : Int32)) 29 (x2).toNatClampNeg (0 : Int32))) (xs_29 ad cI cB _ _ _) dX3_clear_36 (pc2 := 37) rfl (fun h => ?_)
        refine x_aload_n C dX3_clear_37 0 rfl (pc2 := 38) rfl ?_
        refine x_get C hiX3 17 (xc_17 ad cI cB _) rfl 5 (by decide) f31 (v := .ref (ad 30)) rfl dX3_clear_38 (pc2 := 41) rfl ?_
        refine x_iload_n C dX3_clear_41 2 rfl (pc2 := 42) rfl ?_
        refine x_iconst (v := (0 : Int32)) C dX3_clear_42 (by decide) (pc2 := 43) rfl ?_
        refine x_iast C h 30 0 (xc_30 ad cI cB _) rfl (u2 := (put (put (put (put (put u 26 (x2).toNatClampNeg (0 : Int32)) 27 (x2).toNatClampNeg (0 : Int32)) 28 (x2).toNatClampNeg (0 : Int32)) 29 (x2).toNatClampNeg (0 : Int32)) 30 (x2).toNatClampNeg (0 : Int32))) (xs_30 ad cI cB _ _ _) dX3_clear_43 (pc2 := 44) rfl (fun h => ?_)
        refine x_iinc C dX3_clear_44 2 rfl (1 : Int32) (by decide) rfl (by decide) (lv2 := [(2, .int (x2 + (1 : Int32))), (0, .ref (ad 17)), (1, .int x1)]) rfl (pc2 := 47) rfl ?_
        refine x_goto C dX3_clear_47 (pc2 := 2) (by decide) ?_
        refine x_sub [1, 2, 0] (lv2 := [(0, .ref (ad 17)), (1, .int x1), (2, .int (x2 + (1 : Int32)))]) rfl ?_
        exact ih _ _ _ h
  refine x_iload_n C dX3_clear_0 1 rfl (pc2 := 1) rfl ?_
  refine x_istore_n C dX3_clear_1 (by decide) (lv2 := [(2, .int x1), (0, .ref (ad 17)), (1, .int x1)]) rfl (pc2 := 2) rfl ?_
  refine x_sub [1, 2, 0] (lv2 := [(0, .ref (ad 17)), (1, .int x1), (2, .int x1)]) rfl ?_
  exact J2 FU _ _ _ h
set_option maxRecDepth 100000 in
set_option maxHeartbeats 4000000 in
theorem c_X3_offer (l : Launch) (D : va_G) (A : Nat → Prop) (ad : Nat → Nat) (cI cB : ClassId) (u : Mem) (x1 : Int32) (x2 : Int32) (x3 : Int32) (x4 : Int32) (x5 : Int32) : Ctv l yX3_offer wsX3_offer { frames := 0, cells := 0, slots := 0, locals := 0 } D A (XW ad cI cB) [(cI, .int), (cB, .object "PanelPages$Book")] [.ref (ad 17), .int x1, .int x2, .int x3, .int x4, .int x5] u (e_X3_offer u x1 x2 x3 x4 x5) := by
  intro ur h
  refine Met.ofW (cc := cX3_offer) (maxL := 9) (ret := none) (by decide) rfl ?_
  intro p e s m args below meth c s₁ B hml hv
  obtain ⟨hav, hP, hK, hD⟩ := hv
  have C : Cx p m c cX3_offer 9 s args wsX3_offer RX3 D [(cI, .int), (cB, .object "PanelPages$Book")] := ⟨⟨B.exec, B.bytes, hml, findClass_of_methodNamed B.named, atoms_spec (ws := wsX3_offer) B.pre⟩, hK⟩
  have hr := B.returns
  have hlocks := B.notSynchronized
  have hiX3 : ∀ w ∈ wsX30, w ∈ wsX3_offer := by decide +kernel
  have f18 : Cond.fieldLink RX3 18 "PanelPages$Search" "ways" "[I" ∈ wsX3_offer := by decide +kernel
  have f22 : Cond.fieldLink RX3 22 "PanelPages$Search" "fewest" "[I" ∈ wsX3_offer := by decide +kernel
  have f25 : Cond.fieldLink RX3 25 "PanelPages$Search" "waysInFewest" "[I" ∈ wsX3_offer := by decide +kernel
  have f28 : Cond.fieldLink RX3 28 "PanelPages$Search" "least" "[I" ∈ wsX3_offer := by decide +kernel
  have f31 : Cond.fieldLink RX3 31 "PanelPages$Search" "firstLayout" "[I" ∈ wsX3_offer := by decide +kernel
  refine x_entry2 (lv := [(0, .ref (ad 17)), (1, .int x1), (2, .int x2), (3, .int x3), (4, .int x4), (5, .int x5)]) hav hP hD (Nat.le_of_ble_eq_true rfl) rfl ?_
  unfold e_X3_offer at h
  have J168 : ∀ (u : Mem) (x1 : Int32) (x3 : Int32) (x4 : Int32) (x5 : Int32), e_X3_offer_J168 u x1 x3 x4 x5 = some ur → Wx p l e (headSpec wsX3_offer { frames := 0, cells := 0, slots := 0, locals := 0 }).room s m args below meth c (MQ below (Qvx D A (XW ad cI cB) ur) args s 0 0 A) D A 9 (XW ad cI cB) u 168 [(0, .ref (ad 17)), (1, .int x1), (3, .int x3), (4, .int x4), (5, .int x5)] [] := by
    intro u x1 x3 x4 x5 h
    unfold e_X3_offer_J168 at h
    refine x_aload_n C dX3_offer_168 0 rfl (pc2 := 169) rfl ?_
    refine x_get C hiX3 17 (xc_17 ad cI cB _) rfl 2 (by decide) f22 (v := .ref (ad 27)) rfl dX3_offer_169 (pc2 := 172) rfl ?_
    refine x_iload_n C dX3_offer_172 1 rfl (pc2 := 173) rfl ?_
    refine x_iload_n C dX3_offer_173 2 rfl (pc2 := 174) rfl ?_
    refine x_iast C h 27 0 (xc_27 ad cI cB _) rfl (u2 := (put u 27 (x1).toNatClampNeg x3)) (xs_27 ad cI cB _ _ _) dX3_offer_174 (pc2 := 175) rfl (fun h => ?_)
    refine x_aload_n C dX3_offer_175 0 rfl (pc2 := 176) rfl ?_
    refine x_get C hiX3 17 (xc_17 ad cI cB _) rfl 4 (by decide) f28 (v := .ref (ad 29)) rfl dX3_offer_176 (pc2 := 179) rfl ?_
    refine x_iload_n C dX3_offer_179 1 rfl (pc2 := 180) rfl ?_
    refine x_iload C dX3_offer_180 3 rfl (pc2 := 182) rfl ?_
    refine x_iast C h 29 0 (xc_29 ad cI cB _) rfl (u2 := (put (put u 27 (x1).toNatClampNeg x3) 29 (x1).toNatClampNeg x4)) (xs_29 ad cI cB _ _ _) dX3_offer_182 (pc2 := 183) rfl (fun h => ?_)
    refine x_aload_n C dX3_offer_183 0 rfl (pc2 := 184) rfl ?_
    refine x_get C hiX3 17 (xc_17 ad cI cB _) rfl 5 (by decide) f31 (v := .ref (ad 30)) rfl dX3_offer_184 (pc2 := 187) rfl ?_
    refine x_iload_n C dX3_offer_187 1 rfl (pc2 := 188) rfl ?_
    refine x_iload C dX3_offer_188 4 rfl (pc2 := 190) rfl ?_
    refine x_iast C h 30 0 (xc_30 ad cI cB _) rfl (u2 := (put (put (put u 27 (x1).toNatClampNeg x3) 29 (x1).toNatClampNeg x4) 30 (x1).toNatClampNeg x5)) (xs_30 ad cI cB _ _ _) dX3_offer_190 (pc2 := 191) rfl (fun h => ?_)
    exact x_vret C hr hlocks h dX3_offer_191
  have J158 : ∀ (u : Mem) (x1 : Int32) (x3 : Int32) (x4 : Int32) (x5 : Int32) (x6 : Int32) (x8 : Int32), e_X3_offer_J158 u x1 x3 x4 x5 x6 x8 = some ur → Wx p l e (headSpec wsX3_offer { frames := 0, cells := 0, slots := 0, locals := 0 }).room s m args below meth c (MQ below (Qvx D A (XW ad cI cB) ur) args s 0 0 A) D A 9 (XW ad cI cB) u 158 [(0, .ref (ad 17)), (1, .int x1), (3, .int x3), (4, .int x4), (5, .int x5), (6, .int x6), (8, .int x8)] [] := by
    intro u x1 x3 x4 x5 x6 x8 h
    unfold e_X3_offer_J158 at h
    refine x_iload C dX3_offer_158 5 rfl (pc2 := 160) rfl ?_
    refine x_if_ne C h dX3_offer_160 (tgt := 168) (by decide) (pc2 := 163) rfl (fun h => ?_) (fun h => ?_)
    · refine x_sub [0, 1, 2, 3, 4] (lv2 := [(0, .ref (ad 17)), (1, .int x1), (3, .int x3), (4, .int x4), (5, .int x5)]) rfl ?_
      exact J168 _ _ _ _ _ h
    · refine x_iload C dX3_offer_163 6 rfl (pc2 := 165) rfl ?_
      refine x_if_eq C h dX3_offer_165 (tgt := 191) (by decide) (pc2 := 168) rfl (fun h => ?_) (fun h => ?_)
      · exact x_vret C hr hlocks h dX3_offer_191
      · refine x_sub [0, 1, 2, 3, 4] (lv2 := [(0, .ref (ad 17)), (1, .int x1), (3, .int x3), (4, .int x4), (5, .int x5)]) rfl ?_
        exact J168 _ _ _ _ _ h
  have J101 : ∀ (u : Mem) (x1 : Int32) (x2 : Int32) (x3 : Int32) (x4 : Int32) (x5 : Int32) (x6 : Int32) (x7 : Int32) (s0 : Int32), e_X3_offer_J101 u x1 x2 x3 x4 x5 x6 x7 s0 = some ur → Wx p l e (headSpec wsX3_offer { frames := 0, cells := 0, slots := 0, locals := 0 }).room s m args below meth c (MQ below (Qvx D A (XW ad cI cB) ur) args s 0 0 A) D A 9 (XW ad cI cB) u 101 [(0, .ref (ad 17)), (1, .int x1), (2, .int x2), (3, .int x3), (4, .int x4), (5, .int x5), (6, .int x6), (7, .int x7)] [.int s0] := by
    intro u x1 x2 x3 x4 x5 x6 x7 s0 h
    unfold e_X3_offer_J101 at h
    refine x_istore C dX3_offer_101 (by decide) (lv2 := [(8, .int s0), (0, .ref (ad 17)), (1, .int x1), (2, .int x2), (3, .int x3), (4, .int x4), (5, .int x5), (6, .int x6), (7, .int x7)]) rfl (pc2 := 103) rfl ?_
    refine x_aload_n C dX3_offer_103 1 rfl (pc2 := 104) rfl ?_
    refine x_get C hiX3 17 (xc_17 ad cI cB _) rfl 1 (by decide) f18 (v := .ref (ad 26)) rfl dX3_offer_104 (pc2 := 107) rfl ?_
    refine x_iload_n C dX3_offer_107 2 rfl (pc2 := 108) rfl ?_
    refine x_dup2 C dX3_offer_108 rfl rfl (pc2 := 109) rfl ?_
    refine x_iald C h 26 0 (xc_26 ad cI cB _) rfl dX3_offer_109 (pc2 := 110) rfl (fun h => ?_)
    refine x_aload_n C dX3_offer_110 1 rfl (pc2 := 111) rfl ?_
    refine x_get C hiX3 17 (xc_17 ad cI cB _) rfl 1 (by decide) f18 (v := .ref (ad 26)) rfl dX3_offer_111 (pc2 := 114) rfl ?_
    refine x_iload_n C dX3_offer_114 3 rfl (pc2 := 115) rfl ?_
    refine x_iald C h 26 0 (xc_26 ad cI cB _) rfl dX3_offer_115 (pc2 := 116) rfl (fun h => ?_)
    refine x_iadd C dX3_offer_116 (pc2 := 117) rfl ?_
    refine x_iast C h 26 0 (xc_26 ad cI cB _) rfl (u2 := (put u 26 (x1).toNatClampNeg ((u 26 (x1).toNatClampNeg) + (u 26 (x2).toNatClampNeg)))) (xs_26 ad cI cB _ _ _) dX3_offer_117 (pc2 := 118) rfl (fun h => ?_)
    refine x_iload C dX3_offer_118 7 rfl (pc2 := 120) rfl ?_
    refine x_if_eq C h dX3_offer_120 (tgt := 138) (by decide) (pc2 := 123) rfl (fun h => ?_) (fun h => ?_)
    · refine x_iload C dX3_offer_138 8 rfl (pc2 := 140) rfl ?_
      refine x_if_eq C h dX3_offer_140 (tgt := 158) (by decide) (pc2 := 143) rfl (fun h => ?_) (fun h => ?_)
      · refine x_sub [1, 2, 4, 5, 6, 7, 0] (lv2 := [(0, .ref (ad 17)), (1, .int x1), (3, .int x3), (4, .int x4), (5, .int x5), (6, .int x6), (8, .int s0)]) rfl ?_
        exact J158 _ _ _ _ _ _ _ h
      · refine x_aload_n C dX3_offer_143 1 rfl (pc2 := 144) rfl ?_
        refine x_get C hiX3 17 (xc_17 ad cI cB _) rfl 3 (by decide) f25 (v := .ref (ad 28)) rfl dX3_offer_144 (pc2 := 147) rfl ?_
        refine x_iload_n C dX3_offer_147 2 rfl (pc2 := 148) rfl ?_
        refine x_dup2 C dX3_offer_148 rfl rfl (pc2 := 149) rfl ?_
        refine x_iald C h 28 0 (xc_28 ad cI cB _) rfl dX3_offer_149 (pc2 := 150) rfl (fun h => ?_)
        refine x_tope (y := (u 28 (x1).toNatClampNeg)) rfl ?_
        refine x_aload_n C dX3_offer_150 1 rfl (pc2 := 151) rfl ?_
        refine x_get C hiX3 17 (xc_17 ad cI cB _) rfl 3 (by decide) f25 (v := .ref (ad 28)) rfl dX3_offer_151 (pc2 := 154) rfl ?_
        refine x_iload_n C dX3_offer_154 3 rfl (pc2 := 155) rfl ?_
        refine x_iald C h 28 0 (xc_28 ad cI cB _) rfl dX3_offer_155 (pc2 := 156) rfl (fun h => ?_)
        refine x_tope (y := (u 28 (x2).toNatClampNeg)) rfl ?_
        refine x_iadd C dX3_offer_156 (pc2 := 157) rfl ?_
        refine x_iast C h 28 0 (xc_28 ad cI cB _) rfl (u2 := (put (put u 26 (x1).toNatClampNeg ((u 26 (x1).toNatClampNeg) + (u 26 (x2).toNatClampNeg))) 28 (x1).toNatClampNeg ((u 28 (x1).toNatClampNeg) + (u 28 (x2).toNatClampNeg)))) (xs_28 ad cI cB _ _ _) dX3_offer_157 (pc2 := 158) rfl (fun h => ?_)
        refine x_sub [1, 2, 4, 5, 6, 7, 0] (lv2 := [(0, .ref (ad 17)), (1, .int x1), (3, .int x3), (4, .int x4), (5, .int x5), (6, .int x6), (8, .int s0)]) rfl ?_
        exact J158 _ _ _ _ _ _ _ h
    · refine x_aload_n C dX3_offer_123 1 rfl (pc2 := 124) rfl ?_
      refine x_get C hiX3 17 (xc_17 ad cI cB _) rfl 3 (by decide) f25 (v := .ref (ad 28)) rfl dX3_offer_124 (pc2 := 127) rfl ?_
      refine x_iload_n C dX3_offer_127 2 rfl (pc2 := 128) rfl ?_
      refine x_aload_n C dX3_offer_128 1 rfl (pc2 := 129) rfl ?_
      refine x_get C hiX3 17 (xc_17 ad cI cB _) rfl 3 (by decide) f25 (v := .ref (ad 28)) rfl dX3_offer_129 (pc2 := 132) rfl ?_
      refine x_iload_n C dX3_offer_132 3 rfl (pc2 := 133) rfl ?_
      refine x_iald C h 28 0 (xc_28 ad cI cB _) rfl dX3_offer_133 (pc2 := 134) rfl (fun h => ?_)
      refine x_tope (y := (u 28 (x2).toNatClampNeg)) rfl ?_
      refine x_iast C h 28 0 (xc_28 ad cI cB _) rfl (u2 := (put (put u 26 (x1).toNatClampNeg ((u 26 (x1).toNatClampNeg) + (u 26 (x2).toNatClampNeg))) 28 (x1).toNatClampNeg (u 28 (x2).toNatClampNeg))) (xs_28 ad cI cB _ _ _) dX3_offer_134 (pc2 := 135) rfl (fun h => ?_)
      refine x_goto C dX3_offer_135 (pc2 := 158) (by decide) ?_
      refine x_sub [1, 2, 4, 5, 6, 7, 0] (lv2 := [(0, .ref (ad 17)), (1, .int x1), (3, .int x3), (4, .int x4), (5, .int x5), (6, .int x6), (8, .int s0)]) rfl ?_
      exact J158 _ _ _ _ _ _ _ h
  have J100 : ∀ (u : Mem) (x1 : Int32) (x2 : Int32) (x3 : Int32) (x4 : Int32) (x5 : Int32) (x6 : Int32) (x7 : Int32), e_X3_offer_J100 u x1 x2 x3 x4 x5 x6 x7 = some ur → Wx p l e (headSpec wsX3_offer { frames := 0, cells := 0, slots := 0, locals := 0 }).room s m args below meth c (MQ below (Qvx D A (XW ad cI cB) ur) args s 0 0 A) D A 9 (XW ad cI cB) u 100 [(0, .ref (ad 17)), (1, .int x1), (2, .int x2), (3, .int x3), (4, .int x4), (5, .int x5), (6, .int x6), (7, .int x7)] [] := by
    intro u x1 x2 x3 x4 x5 x6 x7 h
    unfold e_X3_offer_J100 at h
    refine x_iconst (v := (0 : Int32)) C dX3_offer_100 (by decide) (pc2 := 101) rfl ?_
    exact J101 _ _ _ _ _ _ _ _ _ h
  have J96 : ∀ (u : Mem) (x1 : Int32) (x2 : Int32) (x3 : Int32) (x4 : Int32) (x5 : Int32) (x6 : Int32) (x7 : Int32), e_X3_offer_J96 u x1 x2 x3 x4 x5 x6 x7 = some ur → Wx p l e (headSpec wsX3_offer { frames := 0, cells := 0, slots := 0, locals := 0 }).room s m args below meth c (MQ below (Qvx D A (XW ad cI cB) ur) args s 0 0 A) D A 9 (XW ad cI cB) u 96 [(0, .ref (ad 17)), (1, .int x1), (2, .int x2), (3, .int x3), (4, .int x4), (5, .int x5), (6, .int x6), (7, .int x7)] [] := by
    intro u x1 x2 x3 x4 x5 x6 x7 h
    unfold e_X3_offer_J96 at h
    refine x_iconst (v := (1 : Int32)) C dX3_offer_96 (by decide) (pc2 := 97) rfl ?_
    refine x_goto C dX3_offer_97 (pc2 := 101) (by decide) ?_
    exact J101 _ _ _ _ _ _ _ _ _ h
  have J56 : ∀ (u : Mem) (x1 : Int32) (x2 : Int32) (x3 : Int32) (x4 : Int32) (x5 : Int32) (x6 : Int32) (s0 : Int32), e_X3_offer_J56 u x1 x2 x3 x4 x5 x6 s0 = some ur → Wx p l e (headSpec wsX3_offer { frames := 0, cells := 0, slots := 0, locals := 0 }).room s m args below meth c (MQ below (Qvx D A (XW ad cI cB) ur) args s 0 0 A) D A 9 (XW ad cI cB) u 56 [(0, .ref (ad 17)), (1, .int x1), (2, .int x2), (3, .int x3), (4, .int x4), (5, .int x5), (6, .int x6)] [.int s0] := by
    intro u x1 x2 x3 x4 x5 x6 s0 h
    unfold e_X3_offer_J56 at h
    refine x_istore C dX3_offer_56 (by decide) (lv2 := [(7, .int s0), (0, .ref (ad 17)), (1, .int x1), (2, .int x2), (3, .int x3), (4, .int x4), (5, .int x5), (6, .int x6)]) rfl (pc2 := 58) rfl ?_
    refine x_iload C dX3_offer_58 0 rfl (pc2 := 60) rfl ?_
    refine x_if_eq C h dX3_offer_60 (tgt := 100) (by decide) (pc2 := 63) rfl (fun h => ?_) (fun h => ?_)
    · refine x_sub [1, 2, 3, 4, 5, 6, 7, 0] (lv2 := [(0, .ref (ad 17)), (1, .int x1), (2, .int x2), (3, .int x3), (4, .int x4), (5, .int x5), (6, .int x6), (7, .int s0)]) rfl ?_
      exact J100 _ _ _ _ _ _ _ _ h
    · refine x_iload C dX3_offer_63 5 rfl (pc2 := 65) rfl ?_
      refine x_aload_n C dX3_offer_65 1 rfl (pc2 := 66) rfl ?_
      refine x_get C hiX3 17 (xc_17 ad cI cB _) rfl 4 (by decide) f28 (v := .ref (ad 29)) rfl dX3_offer_66 (pc2 := 69) rfl ?_
      refine x_iload_n C dX3_offer_69 2 rfl (pc2 := 70) rfl ?_
      refine x_iald C h 29 0 (xc_29 ad cI cB _) rfl dX3_offer_70 (pc2 := 71) rfl (fun h => ?_)
      refine x_icmp_lt C h dX3_offer_71 (tgt := 96) (by decide) (pc2 := 74) rfl (fun h => ?_) (fun h => ?_)
      · refine x_sub [1, 2, 3, 4, 5, 6, 7, 0] (lv2 := [(0, .ref (ad 17)), (1, .int x1), (2, .int x2), (3, .int x3), (4, .int x4), (5, .int x5), (6, .int x6), (7, .int s0)]) rfl ?_
        exact J96 _ _ _ _ _ _ _ _ h
      · refine x_iload C dX3_offer_74 5 rfl (pc2 := 76) rfl ?_
        refine x_aload_n C dX3_offer_76 1 rfl (pc2 := 77) rfl ?_
        refine x_get C hiX3 17 (xc_17 ad cI cB _) rfl 4 (by decide) f28 (v := .ref (ad 29)) rfl dX3_offer_77 (pc2 := 80) rfl ?_
        refine x_iload_n C dX3_offer_80 2 rfl (pc2 := 81) rfl ?_
        refine x_iald C h 29 0 (xc_29 ad cI cB _) rfl dX3_offer_81 (pc2 := 82) rfl (fun h => ?_)
        refine x_icmp_ne C h dX3_offer_82 (tgt := 100) (by decide) (pc2 := 85) rfl (fun h => ?_) (fun h => ?_)
        · refine x_sub [1, 2, 3, 4, 5, 6, 7, 0] (lv2 := [(0, .ref (ad 17)), (1, .int x1), (2, .int x2), (3, .int x3), (4, .int x4), (5, .int x5), (6, .int x6), (7, .int s0)]) rfl ?_
          exact J100 _ _ _ _ _ _ _ _ h
        · refine x_iload C dX3_offer_85 6 rfl (pc2 := 87) rfl ?_
          refine x_aload_n C dX3_offer_87 1 rfl (pc2 := 88) rfl ?_
          refine x_get C hiX3 17 (xc_17 ad cI cB _) rfl 5 (by decide) f31 (v := .ref (ad 30)) rfl dX3_offer_88 (pc2 := 91) rfl ?_
          refine x_iload_n C dX3_offer_91 2 rfl (pc2 := 92) rfl ?_
          refine x_iald C h 30 0 (xc_30 ad cI cB _) rfl dX3_offer_92 (pc2 := 93) rfl (fun h => ?_)
          refine x_icmp_ge C h dX3_offer_93 (tgt := 100) (by decide) (pc2 := 96) rfl (fun h => ?_) (fun h => ?_)
          · refine x_sub [1, 2, 3, 4, 5, 6, 7, 0] (lv2 := [(0, .ref (ad 17)), (1, .int x1), (2, .int x2), (3, .int x3), (4, .int x4), (5, .int x5), (6, .int x6), (7, .int s0)]) rfl ?_
            exact J100 _ _ _ _ _ _ _ _ h
          · refine x_sub [1, 2, 3, 4, 5, 6, 7, 0] (lv2 := [(0, .ref (ad 17)), (1, .int x1), (2, .int x2), (3, .int x3), (4, .int x4), (5, .int x5), (6, .int x6), (7, .int s0)]) rfl ?_
            exact J96 _ _ _ _ _ _ _ _ h
  have J55 : ∀ (u : Mem) (x1 : Int32) (x2 : Int32) (x3 : Int32) (x4 : Int32) (x5 : Int32) (x6 : Int32), e_X3_offer_J55 u x1 x2 x3 x4 x5 x6 = some ur → Wx p l e (headSpec wsX3_offer { frames := 0, cells := 0, slots := 0, locals := 0 }).room s m args below meth c (MQ below (Qvx D A (XW ad cI cB) ur) args s 0 0 A) D A 9 (XW ad cI cB) u 55 [(0, .ref (ad 17)), (1, .int x1), (2, .int x2), (3, .int x3), (4, .int x4), (5, .int x5), (6, .int x6)] [] := by
    intro u x1 x2 x3 x4 x5 x6 h
    unfold e_X3_offer_J55 at h
    refine x_iconst (v := (0 : Int32)) C dX3_offer_55 (by decide) (pc2 := 56) rfl ?_
    exact J56 _ _ _ _ _ _ _ _ h
  have J34 : ∀ (u : Mem) (x1 : Int32) (x2 : Int32) (x3 : Int32) (x4 : Int32) (x5 : Int32) (s0 : Int32), e_X3_offer_J34 u x1 x2 x3 x4 x5 s0 = some ur → Wx p l e (headSpec wsX3_offer { frames := 0, cells := 0, slots := 0, locals := 0 }).room s m args below meth c (MQ below (Qvx D A (XW ad cI cB) ur) args s 0 0 A) D A 9 (XW ad cI cB) u 34 [(0, .ref (ad 17)), (1, .int x1), (2, .int x2), (3, .int x3), (4, .int x4), (5, .int x5)] [.int s0] := by
    intro u x1 x2 x3 x4 x5 s0 h
    unfold e_X3_offer_J34 at h
    refine x_istore C dX3_offer_34 (by decide) (lv2 := [(6, .int s0), (0, .ref (ad 17)), (1, .int x1), (2, .int x2), (3, .int x3), (4, .int x4), (5, .int x5)]) rfl (pc2 := 36) rfl ?_
    refine x_iload C dX3_offer_36 0 rfl (pc2 := 38) rfl ?_
    refine x_if_ne C h dX3_offer_38 (tgt := 55) (by decide) (pc2 := 41) rfl (fun h => ?_) (fun h => ?_)
    · refine x_sub [1, 2, 3, 4, 5, 6, 0] (lv2 := [(0, .ref (ad 17)), (1, .int x1), (2, .int x2), (3, .int x3), (4, .int x4), (5, .int x5), (6, .int s0)]) rfl ?_
      exact J55 _ _ _ _ _ _ _ h
    · refine x_iload_n C dX3_offer_41 4 rfl (pc2 := 42) rfl ?_
      refine x_aload_n C dX3_offer_42 1 rfl (pc2 := 43) rfl ?_
      refine x_get C hiX3 17 (xc_17 ad cI cB _) rfl 2 (by decide) f22 (v := .ref (ad 27)) rfl dX3_offer_43 (pc2 := 46) rfl ?_
      refine x_iload_n C dX3_offer_46 2 rfl (pc2 := 47) rfl ?_
      refine x_iald C h 27 0 (xc_27 ad cI cB _) rfl dX3_offer_47 (pc2 := 48) rfl (fun h => ?_)
      refine x_icmp_ne C h dX3_offer_48 (tgt := 55) (by decide) (pc2 := 51) rfl (fun h => ?_) (fun h => ?_)
      · refine x_sub [1, 2, 3, 4, 5, 6, 0] (lv2 := [(0, .ref (ad 17)), (1, .int x1), (2, .int x2), (3, .int x3), (4, .int x4), (5, .int x5), (6, .int s0)]) rfl ?_
        exact J55 _ _ _ _ _ _ _ h
      · refine x_iconst (v := (1 : Int32)) C dX3_offer_51 (by decide) (pc2 := 52) rfl ?_
        refine x_goto C dX3_offer_52 (pc2 := 56) (by decide) ?_
        refine x_sub [1, 2, 3, 4, 5, 6, 0] (lv2 := [(0, .ref (ad 17)), (1, .int x1), (2, .int x2), (3, .int x3), (4, .int x4), (5, .int x5), (6, .int s0)]) rfl ?_
        exact J56 _ _ _ _ _ _ _ _ h
  have J29 : ∀ (u : Mem) (x1 : Int32) (x2 : Int32) (x3 : Int32) (x4 : Int32) (x5 : Int32), e_X3_offer_J29 u x1 x2 x3 x4 x5 = some ur → Wx p l e (headSpec wsX3_offer { frames := 0, cells := 0, slots := 0, locals := 0 }).room s m args below meth c (MQ below (Qvx D A (XW ad cI cB) ur) args s 0 0 A) D A 9 (XW ad cI cB) u 29 [(0, .ref (ad 17)), (1, .int x1), (2, .int x2), (3, .int x3), (4, .int x4), (5, .int x5)] [] := by
    intro u x1 x2 x3 x4 x5 h
    unfold e_X3_offer_J29 at h
    refine x_iconst (v := (1 : Int32)) C dX3_offer_29 (by decide) (pc2 := 30) rfl ?_
    refine x_goto C dX3_offer_30 (pc2 := 34) (by decide) ?_
    exact J34 _ _ _ _ _ _ _ h
  refine x_aload_n C dX3_offer_0 0 rfl (pc2 := 1) rfl ?_
  refine x_get C hiX3 17 (xc_17 ad cI cB _) rfl 1 (by decide) f18 (v := .ref (ad 26)) rfl dX3_offer_1 (pc2 := 4) rfl ?_
  refine x_iload_n C dX3_offer_4 2 rfl (pc2 := 5) rfl ?_
  refine x_iald C h 26 0 (xc_26 ad cI cB _) rfl dX3_offer_5 (pc2 := 6) rfl (fun h => ?_)
  refine x_if_ne C h dX3_offer_6 (tgt := 10) (by decide) (pc2 := 9) rfl (fun h => ?_) (fun h => ?_)
  · refine x_aload_n C dX3_offer_10 0 rfl (pc2 := 11) rfl ?_
    refine x_get C hiX3 17 (xc_17 ad cI cB _) rfl 1 (by decide) f18 (v := .ref (ad 26)) rfl dX3_offer_11 (pc2 := 14) rfl ?_
    refine x_iload_n C dX3_offer_14 1 rfl (pc2 := 15) rfl ?_
    refine x_iald C h 26 0 (xc_26 ad cI cB _) rfl dX3_offer_15 (pc2 := 16) rfl (fun h => ?_)
    refine x_if_eq C h dX3_offer_16 (tgt := 29) (by decide) (pc2 := 19) rfl (fun h => ?_) (fun h => ?_)
    · exact J29 _ _ _ _ _ _ h
    · refine x_iload_n C dX3_offer_19 3 rfl (pc2 := 20) rfl ?_
      refine x_aload_n C dX3_offer_20 0 rfl (pc2 := 21) rfl ?_
      refine x_get C hiX3 17 (xc_17 ad cI cB _) rfl 2 (by decide) f22 (v := .ref (ad 27)) rfl dX3_offer_21 (pc2 := 24) rfl ?_
      refine x_iload_n C dX3_offer_24 1 rfl (pc2 := 25) rfl ?_
      refine x_iald C h 27 0 (xc_27 ad cI cB _) rfl dX3_offer_25 (pc2 := 26) rfl (fun h => ?_)
      refine x_icmp_ge C h dX3_offer_26 (tgt := 33) (by decide) (pc2 := 29) rfl (fun h => ?_) (fun h => ?_)
      · refine x_iconst (v := (0 : Int32)) C dX3_offer_33 (by decide) (pc2 := 34) rfl ?_
        exact J34 _ _ _ _ _ _ _ h
      · exact J29 _ _ _ _ _ _ h
  · exact x_vret C hr hlocks h dX3_offer_9
set_option maxRecDepth 100000 in
set_option maxHeartbeats 4000000 in
theorem c_X3_endPage (l : Launch) (D : va_G) (A : Nat → Prop) (ad : Nat → Nat) (cI cB : ClassId) (u : Mem) (x2 : Int32) (x3 : Int32) (x4 : Int32) : Ctv l yX3_endPage wsX3_endPage { frames := 2, cells := 0, slots := 0, locals := 44 } D A (XW ad cI cB) [(cI, .int), (cB, .object "PanelPages$Book")] [.ref (ad 17), .ref (ad 1), .int x2, .int x3, .int x4] u (e_X3_endPage u x2 x3 x4) := by
  intro ur h
  refine Met.ofW (cc := cX3_endPage) (maxL := 12) (ret := none) (by decide) rfl ?_
  intro p e s m args below meth c s₁ B hml hv
  obtain ⟨hav, hP, hK, hD⟩ := hv
  have C : Cx p m c cX3_endPage 12 s args wsX3_endPage RX3 D [(cI, .int), (cB, .object "PanelPages$Book")] := ⟨⟨B.exec, B.bytes, hml, findClass_of_methodNamed B.named, atoms_spec (ws := wsX3_endPage) B.pre⟩, hK⟩
  have hr := B.returns
  have hlocks := B.notSynchronized
  have hiX0 : ∀ w ∈ wsX00, w ∈ wsX3_endPage := by decide +kernel
  have hiX3 : ∀ w ∈ wsX30, w ∈ wsX3_endPage := by decide +kernel
  have f12 : Cond.fieldLink RX3 12 "PanelPages$Search" "onPage" "LPanelPages$Layout;" ∈ wsX3_endPage := by decide +kernel
  have f22 : Cond.fieldLink RX3 22 "PanelPages$Search" "fewest" "[I" ∈ wsX3_endPage := by decide +kernel
  have f28 : Cond.fieldLink RX3 28 "PanelPages$Search" "least" "[I" ∈ wsX3_endPage := by decide +kernel
  have f31 : Cond.fieldLink RX3 31 "PanelPages$Search" "firstLayout" "[I" ∈ wsX3_endPage := by decide +kernel
  have f34 : Cond.fieldLink RX3 34 "PanelPages$Book" "panels" "I" ∈ wsX3_endPage := by decide +kernel
  have f70 : Cond.fieldLink RX3 70 "PanelPages$Book" "high" "I" ∈ wsX3_endPage := by decide +kernel
  refine x_entry2 (lv := [(0, .ref (ad 17)), (1, .ref (ad 1)), (2, .int x2), (3, .int x3), (4, .int x4)]) hav hP hD (Nat.le_of_ble_eq_true rfl) rfl ?_
  unfold e_X3_endPage at h
  have J70 : ∀ (k29 : Mem → Int32 → Int32 → Int32 → Int32 → Int32 → Option Mem), (∀ (u : Mem) (x2 : Int32) (x3 : Int32) (x5 : Int32) (x6 : Int32) (x7 : Int32), k29 u x2 x3 x5 x6 x7 = some ur → Wx p l e (headSpec wsX3_endPage { frames := 2, cells := 0, slots := 0, locals := 44 }).room s m args below meth c (MQ below (Qvx D A (XW ad cI cB) ur) args s 0 0 A) D A 12 (XW ad cI cB) u 29 [(0, .ref (ad 17)), (1, .ref (ad 1)), (2, .int x2), (3, .int x3), (5, .int x5), (6, .int x6), (7, .int x7)] []) → ∀ (u : Mem) (x2 : Int32) (x3 : Int32) (x5 : Int32) (x6 : Int32) (x7 : Int32) (x8 : Int32) (s0 : Int32) (s1 : Int32), e_X3_endPage_J70 k29 u x2 x3 x5 x6 x7 x8 s0 s1 = some ur → Wx p l e (headSpec wsX3_endPage { frames := 2, cells := 0, slots := 0, locals := 44 }).room s m args below meth c (MQ below (Qvx D A (XW ad cI cB) ur) args s 0 0 A) D A 12 (XW ad cI cB) u 70 [(0, .ref (ad 17)), (1, .ref (ad 1)), (2, .int x2), (3, .int x3), (5, .int x5), (6, .int x6), (7, .int x7), (8, .int x8)] [.int s0, .int s1] := by
    intro k29 hk29 
    intro u x2 x3 x5 x6 x7 x8 s0 s1 h
    unfold e_X3_endPage_J70 at h
    refine x_iadd C dX3_endPage_70 (pc2 := 71) rfl ?_
    refine x_istore C dX3_endPage_71 (by decide) (lv2 := [(9, .int (s1 + s0)), (0, .ref (ad 17)), (1, .ref (ad 1)), (2, .int x2), (3, .int x3), (5, .int x5), (6, .int x6), (7, .int x7), (8, .int x8)]) rfl (pc2 := 73) rfl ?_
    refine x_iconst (v := (2 : Int32)) C dX3_endPage_73 (by decide) (pc2 := 74) rfl ?_
    refine x_iload_n C dX3_endPage_74 4 rfl (pc2 := 75) rfl ?_
    refine x_iconst (v := (1 : Int32)) C dX3_endPage_75 (by decide) (pc2 := 76) rfl ?_
    refine x_iadd C dX3_endPage_76 (pc2 := 77) rfl ?_
    refine x_imul C dX3_endPage_77 (pc2 := 78) rfl ?_
    refine x_iload C dX3_endPage_78 7 rfl (pc2 := 80) rfl ?_
    refine x_iload C dX3_endPage_80 0 rfl (pc2 := 82) rfl ?_
    refine x_iadd C dX3_endPage_82 (pc2 := 83) rfl ?_
    refine x_iconst (v := (2 : Int32)) C dX3_endPage_83 (by decide) (pc2 := 84) rfl ?_
    refine x_irem C dX3_endPage_84 (by decide) (pc2 := 85) rfl ?_
    refine x_iadd C dX3_endPage_85 (pc2 := 86) rfl ?_
    refine x_istore C dX3_endPage_86 (by decide) (lv2 := [(10, .int (((2 : Int32) * (x3 + (1 : Int32))) + ((x7 + (s1 + s0)) - (x7 + (s1 + s0)) / (2 : Int32) * (2 : Int32)))), (9, .int (s1 + s0)), (0, .ref (ad 17)), (1, .ref (ad 1)), (2, .int x2), (3, .int x3), (5, .int x5), (6, .int x6), (7, .int x7), (8, .int x8)]) rfl (pc2 := 88) rfl ?_
    refine x_iload C dX3_endPage_88 6 rfl (pc2 := 90) rfl ?_
    refine x_iload C dX3_endPage_90 9 rfl (pc2 := 92) rfl ?_
    refine x_aload_n C dX3_endPage_92 3 rfl (pc2 := 93) rfl ?_
    refine x_get C hiX0 1 (xc_1 ad cI cB _) rfl 1 (by decide) f70 (v := .int (u 1 1)) rfl dX3_endPage_93 (pc2 := 96) rfl ?_
    refine x_imul C dX3_endPage_96 (pc2 := 97) rfl ?_
    refine x_aload_n C dX3_endPage_97 3 rfl (pc2 := 98) rfl ?_
    refine x_get C hiX0 1 (xc_1 ad cI cB _) rfl 1 (by decide) f70 (v := .int (u 1 1)) rfl dX3_endPage_98 (pc2 := 101) rfl ?_
    refine x_imul C dX3_endPage_101 (pc2 := 102) rfl ?_
    refine x_iadd C dX3_endPage_102 (pc2 := 103) rfl ?_
    refine x_aload_n C dX3_endPage_103 2 rfl (pc2 := 104) rfl ?_
    refine x_get C hiX3 17 (xc_17 ad cI cB _) rfl 4 (by decide) f28 (v := .ref (ad 29)) rfl dX3_endPage_104 (pc2 := 107) rfl ?_
    refine x_iload C dX3_endPage_107 0 rfl (pc2 := 109) rfl ?_
    refine x_iald C h 29 0 (xc_29 ad cI cB _) rfl dX3_endPage_109 (pc2 := 110) rfl (fun h => ?_)
    refine x_iadd C dX3_endPage_110 (pc2 := 111) rfl ?_
    refine x_istore C dX3_endPage_111 (by decide) (lv2 := [(11, .int ((x5 + ((x8 * (u 1 1)) * (u 1 1))) + (u 29 ((((2 : Int32) * (x3 + (1 : Int32))) + ((x7 + (s1 + s0)) - (x7 + (s1 + s0)) / (2 : Int32) * (2 : Int32)))).toNatClampNeg))), (10, .int (((2 : Int32) * (x3 + (1 : Int32))) + ((x7 + (s1 + s0)) - (x7 + (s1 + s0)) / (2 : Int32) * (2 : Int32)))), (9, .int (s1 + s0)), (0, .ref (ad 17)), (1, .ref (ad 1)), (2, .int x2), (3, .int x3), (5, .int x5), (6, .int x6), (7, .int x7), (8, .int x8)]) rfl (pc2 := 113) rfl ?_
    refine x_aload_n C dX3_endPage_113 3 rfl (pc2 := 114) rfl ?_
    refine x_iconst (v := (2 : Int32)) C dX3_endPage_114 (by decide) (pc2 := 115) rfl ?_
    refine x_iload_n C dX3_endPage_115 5 rfl (pc2 := 116) rfl ?_
    refine x_imul C dX3_endPage_116 (pc2 := 117) rfl ?_
    refine x_iload C dX3_endPage_117 9 rfl (pc2 := 119) rfl ?_
    refine x_iadd C dX3_endPage_119 (pc2 := 120) rfl ?_
    refine x_iload C dX3_endPage_120 1 rfl (pc2 := 122) rfl ?_
    refine x_iload C dX3_endPage_122 2 rfl (pc2 := 124) rfl ?_
    refine x_aload_n C dX3_endPage_124 3 rfl (pc2 := 125) rfl ?_
    refine x_get C hiX3 17 (xc_17 ad cI cB _) rfl 2 (by decide) f22 (v := .ref (ad 27)) rfl dX3_endPage_125 (pc2 := 128) rfl ?_
    refine x_iload C dX3_endPage_128 1 rfl (pc2 := 130) rfl ?_
    refine x_iald C h 27 0 (xc_27 ad cI cB _) rfl dX3_endPage_130 (pc2 := 131) rfl (fun h => ?_)
    refine x_iadd C dX3_endPage_131 (pc2 := 132) rfl ?_
    refine x_iload C dX3_endPage_132 0 rfl (pc2 := 134) rfl ?_
    refine x_iload C dX3_endPage_134 8 rfl (pc2 := 136) rfl ?_
    refine x_aload_n C dX3_endPage_136 3 rfl (pc2 := 137) rfl ?_
    refine x_get C hiX3 17 (xc_17 ad cI cB _) rfl 5 (by decide) f31 (v := .ref (ad 30)) rfl dX3_endPage_137 (pc2 := 140) rfl ?_
    refine x_iload C dX3_endPage_140 1 rfl (pc2 := 142) rfl ?_
    refine x_iald C h 30 0 (xc_30 ad cI cB _) rfl dX3_endPage_142 (pc2 := 143) rfl (fun h => ?_)
    refine x_ior C dX3_endPage_143 (pc2 := 144) rfl ?_
    refine x_callVv (As := [.int (((2 : Int32) * x2) + x7), .int (((2 : Int32) * (x3 + (1 : Int32))) + ((x7 + (s1 + s0)) - (x7 + (s1 + s0)) / (2 : Int32) * (2 : Int32))), .int ((s1 + s0) + (u 27 ((((2 : Int32) * (x3 + (1 : Int32))) + ((x7 + (s1 + s0)) - (x7 + (s1 + s0)) / (2 : Int32) * (2 : Int32)))).toNatClampNeg)), .int ((x5 + ((x8 * (u 1 1)) * (u 1 1))) + (u 29 ((((2 : Int32) * (x3 + (1 : Int32))) + ((x7 + (s1 + s0)) - (x7 + (s1 + s0)) / (2 : Int32) * (2 : Int32)))).toNatClampNeg)), .int (x6 ||| (u 30 ((((2 : Int32) * (x3 + (1 : Int32))) + ((x7 + (s1 + s0)) - (x7 + (s1 + s0)) / (2 : Int32) * (2 : Int32)))).toNatClampNeg))]) (rest := []) (index := 73) (n := 5) C h (c_X3_offer l D A ad cI cB _ _ _ _ _ _) gX3_endPage_X3_offer rfl (by decide +kernel) rfl rfl ⟨Nat.le_of_ble_eq_true rfl, Nat.le_of_ble_eq_true rfl⟩ (ci := 3) rfl rfl (xc_17 ad cI cB _) (XW_D ad cI cB _) rfl rfl (Nat.le_of_ble_eq_true rfl) dX3_endPage_144 (pc2 := 147) rfl (fun u4 h => ?_)
    refine x_iinc C dX3_endPage_147 9 rfl (1 : Int32) (by decide) rfl (by decide) (lv2 := [(7, .int (x7 + (1 : Int32))), (11, .int ((x5 + ((x8 * (u 1 1)) * (u 1 1))) + (u 29 ((((2 : Int32) * (x3 + (1 : Int32))) + ((x7 + (s1 + s0)) - (x7 + (s1 + s0)) / (2 : Int32) * (2 : Int32)))).toNatClampNeg))), (10, .int (((2 : Int32) * (x3 + (1 : Int32))) + ((x7 + (s1 + s0)) - (x7 + (s1 + s0)) / (2 : Int32) * (2 : Int32)))), (9, .int (s1 + s0)), (0, .ref (ad 17)), (1, .ref (ad 1)), (2, .int x2), (3, .int x3), (5, .int x5), (6, .int x6), (8, .int x8)]) rfl (pc2 := 150) rfl ?_
    refine x_goto C dX3_endPage_150 (pc2 := 29) (by decide) ?_
    refine x_sub [4, 5, 6, 7, 8, 9, 0] (lv2 := [(0, .ref (ad 17)), (1, .ref (ad 1)), (2, .int x2), (3, .int x3), (5, .int x5), (6, .int x6), (7, .int (x7 + (1 : Int32)))]) rfl ?_
    exact hk29 _ _ _ _ _ _ h
  have J53 : ∀ (k29 : Mem → Int32 → Int32 → Int32 → Int32 → Int32 → Option Mem), (∀ (u : Mem) (x2 : Int32) (x3 : Int32) (x5 : Int32) (x6 : Int32) (x7 : Int32), k29 u x2 x3 x5 x6 x7 = some ur → Wx p l e (headSpec wsX3_endPage { frames := 2, cells := 0, slots := 0, locals := 44 }).room s m args below meth c (MQ below (Qvx D A (XW ad cI cB) ur) args s 0 0 A) D A 12 (XW ad cI cB) u 29 [(0, .ref (ad 17)), (1, .ref (ad 1)), (2, .int x2), (3, .int x3), (5, .int x5), (6, .int x6), (7, .int x7)] []) → ∀ (u : Mem) (x2 : Int32) (x3 : Int32) (x5 : Int32) (x6 : Int32) (x7 : Int32) (s0 : Int32), e_X3_endPage_J53 k29 u x2 x3 x5 x6 x7 s0 = some ur → Wx p l e (headSpec wsX3_endPage { frames := 2, cells := 0, slots := 0, locals := 44 }).room s m args below meth c (MQ below (Qvx D A (XW ad cI cB) ur) args s 0 0 A) D A 12 (XW ad cI cB) u 53 [(0, .ref (ad 17)), (1, .ref (ad 1)), (2, .int x2), (3, .int x3), (5, .int x5), (6, .int x6), (7, .int x7)] [.int s0] := by
    intro k29 hk29 
    intro u x2 x3 x5 x6 x7 s0 h
    unfold e_X3_endPage_J53 at h
    refine x_istore C dX3_endPage_53 (by decide) (lv2 := [(8, .int s0), (0, .ref (ad 17)), (1, .ref (ad 1)), (2, .int x2), (3, .int x3), (5, .int x5), (6, .int x6), (7, .int x7)]) rfl (pc2 := 55) rfl ?_
    refine x_iload C dX3_endPage_55 0 rfl (pc2 := 57) rfl ?_
    refine x_aload_n C dX3_endPage_57 2 rfl (pc2 := 58) rfl ?_
    refine x_iload_n C dX3_endPage_58 3 rfl (pc2 := 59) rfl ?_
    refine x_callVi (As := [.int x2]) (rest := [.int s0]) (index := 67) (n := 1) C h (c_X0_isSpread l D A ad cI cB _ _) gX3_endPage_X0_isSpread rfl (by decide +kernel) rfl rfl ⟨Nat.le_of_ble_eq_true rfl, Nat.le_of_ble_eq_true rfl⟩ (ci := 0) rfl rfl (xc_1 ad cI cB _) (XW_D ad cI cB _) rfl rfl (Nat.le_of_ble_eq_true rfl) dX3_endPage_59 (pc2 := 62) rfl (fun r3 u3 h => ?_)
    refine x_if_eq C h dX3_endPage_62 (tgt := 69) (by decide) (pc2 := 65) rfl (fun h => ?_) (fun h => ?_)
    · refine x_iconst (v := (1 : Int32)) C dX3_endPage_69 (by decide) (pc2 := 70) rfl ?_
      refine x_sub [1, 2, 3, 4, 5, 6, 7, 0] (lv2 := [(0, .ref (ad 17)), (1, .ref (ad 1)), (2, .int x2), (3, .int x3), (5, .int x5), (6, .int x6), (7, .int x7), (8, .int s0)]) rfl ?_
      exact J70 k29 hk29 _ _ _ _ _ _ _ _ _ h
    · refine x_iconst (v := (2 : Int32)) C dX3_endPage_65 (by decide) (pc2 := 66) rfl ?_
      refine x_goto C dX3_endPage_66 (pc2 := 70) (by decide) ?_
      refine x_sub [1, 2, 3, 4, 5, 6, 7, 0] (lv2 := [(0, .ref (ad 17)), (1, .ref (ad 1)), (2, .int x2), (3, .int x3), (5, .int x5), (6, .int x6), (7, .int x7), (8, .int s0)]) rfl ?_
      exact J70 k29 hk29 _ _ _ _ _ _ _ _ _ h
  have J52 : ∀ (k29 : Mem → Int32 → Int32 → Int32 → Int32 → Int32 → Option Mem), (∀ (u : Mem) (x2 : Int32) (x3 : Int32) (x5 : Int32) (x6 : Int32) (x7 : Int32), k29 u x2 x3 x5 x6 x7 = some ur → Wx p l e (headSpec wsX3_endPage { frames := 2, cells := 0, slots := 0, locals := 44 }).room s m args below meth c (MQ below (Qvx D A (XW ad cI cB) ur) args s 0 0 A) D A 12 (XW ad cI cB) u 29 [(0, .ref (ad 17)), (1, .ref (ad 1)), (2, .int x2), (3, .int x3), (5, .int x5), (6, .int x6), (7, .int x7)] []) → ∀ (u : Mem) (x2 : Int32) (x3 : Int32) (x5 : Int32) (x6 : Int32) (x7 : Int32), e_X3_endPage_J52 k29 u x2 x3 x5 x6 x7 = some ur → Wx p l e (headSpec wsX3_endPage { frames := 2, cells := 0, slots := 0, locals := 44 }).room s m args below meth c (MQ below (Qvx D A (XW ad cI cB) ur) args s 0 0 A) D A 12 (XW ad cI cB) u 52 [(0, .ref (ad 17)), (1, .ref (ad 1)), (2, .int x2), (3, .int x3), (5, .int x5), (6, .int x6), (7, .int x7)] [] := by
    intro k29 hk29 
    intro u x2 x3 x5 x6 x7 h
    unfold e_X3_endPage_J52 at h
    refine x_iconst (v := (0 : Int32)) C dX3_endPage_52 (by decide) (pc2 := 53) rfl ?_
    exact J53 k29 hk29 _ _ _ _ _ _ _ h
  have J29 : ∀ (f : Nat) (u : Mem) (x2 : Int32) (x3 : Int32) (x5 : Int32) (x6 : Int32) (x7 : Int32), e_X3_endPage_L29 f u x2 x3 x5 x6 x7 = some ur → Wx p l e (headSpec wsX3_endPage { frames := 2, cells := 0, slots := 0, locals := 44 }).room s m args below meth c (MQ below (Qvx D A (XW ad cI cB) ur) args s 0 0 A) D A 12 (XW ad cI cB) u 29 [(0, .ref (ad 17)), (1, .ref (ad 1)), (2, .int x2), (3, .int x3), (5, .int x5), (6, .int x6), (7, .int x7)] [] := by
    intro f
    induction f with
    | zero => intro u x2 x3 x5 x6 x7 h; cases h
    | succ f ih =>
      intro u x2 x3 x5 x6 x7 h
      replace h : e_X3_endPage_L29_b (e_X3_endPage_L29 f) u x2 x3 x5 x6 x7 = some ur := h
      unfold e_X3_endPage_L29_b at h
      refine x_iload C dX3_endPage_29 6 rfl (pc2 := 31) rfl ?_
      refine x_iconst (v := (1 : Int32)) C dX3_endPage_31 (by decide) (pc2 := 32) rfl ?_
      refine x_icmp_gt C h dX3_endPage_32 (tgt := 153) (by decide) (pc2 := 35) rfl (fun h => ?_) (fun h => ?_)
      · exact x_vret C hr hlocks h dX3_endPage_153
      · refine x_iload C dX3_endPage_35 6 rfl (pc2 := 37) rfl ?_
        refine x_if_ne C h dX3_endPage_37 (tgt := 52) (by decide) (pc2 := 40) rfl (fun h => ?_) (fun h => ?_)
        · exact J52 (e_X3_endPage_L29 f) ih _ _ _ _ _ _ h
        · refine x_aload_n C dX3_endPage_40 1 rfl (pc2 := 41) rfl ?_
          refine x_iload_n C dX3_endPage_41 2 rfl (pc2 := 42) rfl ?_
          refine x_callVi (As := [.int x2]) (rest := []) (index := 63) (n := 1) C h (c_X0_wantsLeftPage l D A ad cI cB _ _) gX3_endPage_X0_wantsLeftPage rfl (by decide +kernel) rfl rfl ⟨Nat.le_of_ble_eq_true rfl, Nat.le_of_ble_eq_true rfl⟩ (ci := 0) rfl rfl (xc_1 ad cI cB _) (XW_D ad cI cB _) rfl rfl (Nat.le_of_ble_eq_true rfl) dX3_endPage_42 (pc2 := 45) rfl (fun r2 u2 h => ?_)
          refine x_if_eq C h dX3_endPage_45 (tgt := 52) (by decide) (pc2 := 48) rfl (fun h => ?_) (fun h => ?_)
          · exact J52 (e_X3_endPage_L29 f) ih _ _ _ _ _ _ h
          · refine x_iconst (v := (1 : Int32)) C dX3_endPage_48 (by decide) (pc2 := 49) rfl ?_
            refine x_goto C dX3_endPage_49 (pc2 := 53) (by decide) ?_
            exact J53 (e_X3_endPage_L29 f) ih _ _ _ _ _ _ _ h
  refine x_aload_n C dX3_endPage_0 0 rfl (pc2 := 1) rfl ?_
  refine x_get C hiX3 17 (xc_17 ad cI cB _) rfl 0 (by decide) f12 (v := .ref (ad 18)) rfl dX3_endPage_1 (pc2 := 4) rfl ?_
  refine x_aload_n C dX3_endPage_4 1 rfl (pc2 := 5) rfl ?_
  refine x_iload_n C dX3_endPage_5 3 rfl (pc2 := 6) rfl ?_
  refine x_callVi (As := [.ref (ad 1), .int x3]) (rest := []) (index := 59) (n := 2) C h (c_X1_raggedOfPage_P l D A ad cI cB _ _) gX3_endPage_X1_raggedOfPage rfl (by decide +kernel) rfl rfl ⟨Nat.le_of_ble_eq_true rfl, Nat.le_of_ble_eq_true rfl⟩ (ci := 1) rfl rfl (xc_18 ad cI cB _) (XW_D ad cI cB _) rfl rfl (Nat.le_of_ble_eq_true rfl) dX3_endPage_6 (pc2 := 9) rfl (fun r1 u1 h => ?_)
  refine x_istore C dX3_endPage_9 (by decide) (lv2 := [(5, .int r1), (0, .ref (ad 17)), (1, .ref (ad 1)), (2, .int x2), (3, .int x3), (4, .int x4)]) rfl (pc2 := 11) rfl ?_
  refine x_iload C dX3_endPage_11 5 rfl (pc2 := 13) rfl ?_
  refine x_iconst (v := (2 : Int32)) C dX3_endPage_13 (by decide) (pc2 := 14) rfl ?_
  refine x_aload_n C dX3_endPage_14 2 rfl (pc2 := 15) rfl ?_
  refine x_get C hiX0 1 (xc_1 ad cI cB _) rfl 0 (by decide) f34 (v := .int (u1 1 0)) rfl dX3_endPage_15 (pc2 := 18) rfl ?_
  refine x_iconst (v := (1 : Int32)) C dX3_endPage_18 (by decide) (pc2 := 19) rfl ?_
  refine x_isub C dX3_endPage_19 (pc2 := 20) rfl ?_
  refine x_iload_n C dX3_endPage_20 4 rfl (pc2 := 21) rfl ?_
  refine x_isub C dX3_endPage_21 (pc2 := 22) rfl ?_
  refine x_imul C dX3_endPage_22 (pc2 := 23) rfl ?_
  refine x_ishl C dX3_endPage_23 (pc2 := 24) rfl ?_
  refine x_istore C dX3_endPage_24 (by decide) (lv2 := [(6, .int (x4 <<< (((2 : Int32) * (((u1 1 0) - (1 : Int32)) - x3)) &&& 31))), (5, .int r1), (0, .ref (ad 17)), (1, .ref (ad 1)), (2, .int x2), (3, .int x3), (4, .int x4)]) rfl (pc2 := 26) rfl ?_
  refine x_iconst (v := (0 : Int32)) C dX3_endPage_26 (by decide) (pc2 := 27) rfl ?_
  refine x_istore C dX3_endPage_27 (by decide) (lv2 := [(7, .int (0 : Int32)), (6, .int (x4 <<< (((2 : Int32) * (((u1 1 0) - (1 : Int32)) - x3)) &&& 31))), (5, .int r1), (0, .ref (ad 17)), (1, .ref (ad 1)), (2, .int x2), (3, .int x3), (4, .int x4)]) rfl (pc2 := 29) rfl ?_
  refine x_sub [3, 4, 5, 6, 2, 1, 0] (lv2 := [(0, .ref (ad 17)), (1, .ref (ad 1)), (2, .int x2), (3, .int x3), (5, .int r1), (6, .int (x4 <<< (((2 : Int32) * (((u1 1 0) - (1 : Int32)) - x3)) &&& 31))), (7, .int (0 : Int32))]) rfl ?_
  exact J29 FU _ _ _ _ _ _ h
set_option maxRecDepth 100000 in
set_option maxHeartbeats 4000000 in
theorem c_X3_growPage (l : Launch) (D : va_G) (A : Nat → Prop) (ad : Nat → Nat) (cI cB : ClassId) (d : Nat) (u : Mem) (x2 : Int32) (x3 : Int32) (x4 : Int32) : Ctv l yX3_growPage wsX3_growPage { frames := 3 + d, cells := 0, slots := 0, locals := 87 + 26 * d } D A (XW ad cI cB) [(cI, .int), (cB, .object "PanelPages$Book")] [.ref (ad 17), .ref (ad 1), .int x2, .int x3, .int x4] u (e_X3_growPage d u x2 x3 x4) := by
  induction d generalizing u x2 x3 x4 with
  | zero => intro ur h; cases h
  | succ d hself =>
    intro ur h
    refine Met.ofW (cc := cX3_growPage) (maxL := 7) (ret := none) (by decide) rfl ?_
    intro p e s m args below meth c s₁ B hml hv
    obtain ⟨hav, hP, hK, hD⟩ := hv
    have C : Cx p m c cX3_growPage 7 s args wsX3_growPage RX3 D [(cI, .int), (cB, .object "PanelPages$Book")] := ⟨⟨B.exec, B.bytes, hml, findClass_of_methodNamed B.named, atoms_spec (ws := wsX3_growPage) B.pre⟩, hK⟩
    have hr := B.returns
    have hlocks := B.notSynchronized
    have hiX0 : ∀ w ∈ wsX00, w ∈ wsX3_growPage := by decide +kernel
    have hiX3 : ∀ w ∈ wsX30, w ∈ wsX3_growPage := by decide +kernel
    have f12 : Cond.fieldLink RX3 12 "PanelPages$Search" "onPage" "LPanelPages$Layout;" ∈ wsX3_growPage := by decide +kernel
    have f34 : Cond.fieldLink RX3 34 "PanelPages$Book" "panels" "I" ∈ wsX3_growPage := by decide +kernel
    refine x_entry2 (lv := [(0, .ref (ad 17)), (1, .ref (ad 1)), (2, .int x2), (3, .int x3), (4, .int x4)]) hav hP hD (Nat.le_of_ble_eq_true rfl) rfl ?_
    replace h : e_X3_growPage_b (e_X3_growPage d) u x2 x3 x4 = some ur := h
    clear hP
    unfold e_X3_growPage_b at h
    have J75 : ∀ (k27 : Mem → Int32 → Int32 → Int32 → Int32 → Option Mem), (∀ (u : Mem) (x2 : Int32) (x4 : Int32) (x5 : Int32) (x6 : Int32), k27 u x2 x4 x5 x6 = some ur → Wx p l e (headSpec wsX3_growPage { frames := 3 + (d + 1), cells := 0, slots := 0, locals := 87 + 26 * (d + 1) }).room s m args below meth c (MQ below (Qvx D A (XW ad cI cB) ur) args s 0 0 A) D A 7 (XW ad cI cB) u 27 [(0, .ref (ad 17)), (1, .ref (ad 1)), (2, .int x2), (4, .int x4), (5, .int x5), (6, .int x6)] []) → ∀ (u : Mem) (x2 : Int32) (x4 : Int32) (x5 : Int32) (x6 : Int32), e_X3_growPage_J75 (e_X3_growPage d) k27 u x2 x4 x5 x6 = some ur → Wx p l e (headSpec wsX3_growPage { frames := 3 + (d + 1), cells := 0, slots := 0, locals := 87 + 26 * (d + 1) }).room s m args below meth c (MQ below (Qvx D A (XW ad cI cB) ur) args s 0 0 A) D A 7 (XW ad cI cB) u 75 [(0, .ref (ad 17)), (1, .ref (ad 1)), (2, .int x2), (4, .int x4), (5, .int x5), (6, .int x6)] [] := by
      intro k27 hk27 
      intro u x2 x4 x5 x6 h
      unfold e_X3_growPage_J75 at h
      refine x_iinc C dX3_growPage_75 5 rfl (1 : Int32) (by decide) rfl (by decide) (lv2 := [(6, .int (x6 + (1 : Int32))), (0, .ref (ad 17)), (1, .ref (ad 1)), (2, .int x2), (4, .int x4), (5, .int x5)]) rfl (pc2 := 78) rfl ?_
      refine x_goto C dX3_growPage_78 (pc2 := 27) (by decide) ?_
      refine x_sub [1, 2, 3, 4, 5, 0] (lv2 := [(0, .ref (ad 17)), (1, .ref (ad 1)), (2, .int x2), (4, .int x4), (5, .int x5), (6, .int (x6 + (1 : Int32)))]) rfl ?_
      exact hk27 _ _ _ _ _ h
    have J27 : ∀ (f : Nat) (u : Mem) (x2 : Int32) (x4 : Int32) (x5 : Int32) (x6 : Int32), e_X3_growPage_L27 (e_X3_growPage d) f u x2 x4 x5 x6 = some ur → Wx p l e (headSpec wsX3_growPage { frames := 3 + (d + 1), cells := 0, slots := 0, locals := 87 + 26 * (d + 1) }).room s m args below meth c (MQ below (Qvx D A (XW ad cI cB) ur) args s 0 0 A) D A 7 (XW ad cI cB) u 27 [(0, .ref (ad 17)), (1, .ref (ad 1)), (2, .int x2), (4, .int x4), (5, .int x5), (6, .int x6)] [] := by
      intro f
      induction f with
      | zero => intro u x2 x4 x5 x6 h; cases h
      | succ f ih =>
        intro u x2 x4 x5 x6 h
        replace h : e_X3_growPage_L27_b (e_X3_growPage d) (e_X3_growPage_L27 (e_X3_growPage d) f) u x2 x4 x5 x6 = some ur := h
        unfold e_X3_growPage_L27_b at h
        refine x_iload C dX3_growPage_27 5 rfl (pc2 := 29) rfl ?_
        refine x_iconst (v := (1 : Int32)) C dX3_growPage_29 (by decide) (pc2 := 30) rfl ?_
        refine x_icmp_gt C h dX3_growPage_30 (tgt := 81) (by decide) (pc2 := 33) rfl (fun h => ?_) (fun h => ?_)
        · exact x_vret C hr hlocks h dX3_growPage_81
        · refine x_aload_n C dX3_growPage_33 0 rfl (pc2 := 34) rfl ?_
          refine x_get C hiX3 17 (xc_17 ad cI cB _) rfl 0 (by decide) f12 (v := .ref (ad 18)) rfl dX3_growPage_34 (pc2 := 37) rfl ?_
          refine x_aload_n C dX3_growPage_37 1 rfl (pc2 := 38) rfl ?_
          refine x_iload C dX3_growPage_38 4 rfl (pc2 := 40) rfl ?_
          refine x_iload C dX3_growPage_40 5 rfl (pc2 := 42) rfl ?_
          refine x_callVi (As := [.ref (ad 1), .int x5, .int x6]) (rest := []) (index := 44) (n := 3) C h (c_X1_whyNot_P l D A ad cI cB _ _ _) gX3_growPage_X1_whyNot rfl (by decide +kernel) rfl rfl ⟨by simp only [headSpec]; omega, by simp only [headSpec]; omega⟩ (ci := 1) rfl rfl (xc_18 ad cI cB _) (XW_D ad cI cB _) rfl rfl (Nat.le_of_ble_eq_true rfl) dX3_growPage_42 (pc2 := 45) rfl (fun r2 u2 h => ?_)
          refine x_if_ne C h dX3_growPage_45 (tgt := 75) (by decide) (pc2 := 48) rfl (fun h => ?_) (fun h => ?_)
          · exact J75 (e_X3_growPage_L27 (e_X3_growPage d) f) ih _ _ _ _ _ h
          · refine x_aload_n C dX3_growPage_48 0 rfl (pc2 := 49) rfl ?_
            refine x_get C hiX3 17 (xc_17 ad cI cB _) rfl 0 (by decide) f12 (v := .ref (ad 18)) rfl dX3_growPage_49 (pc2 := 52) rfl ?_
            refine x_aload_n C dX3_growPage_52 1 rfl (pc2 := 53) rfl ?_
            refine x_iload C dX3_growPage_53 4 rfl (pc2 := 55) rfl ?_
            refine x_iload C dX3_growPage_55 5 rfl (pc2 := 57) rfl ?_
            refine x_callVv (As := [.ref (ad 1), .int x5, .int x6]) (rest := []) (index := 48) (n := 3) C h (c_X1_put_P l D A ad cI cB _ _ _) gX3_growPage_X1_put rfl (by decide +kernel) rfl rfl ⟨by simp only [headSpec]; omega, by simp only [headSpec]; omega⟩ (ci := 1) rfl rfl (xc_18 ad cI cB _) (XW_D ad cI cB _) rfl rfl (Nat.le_of_ble_eq_true rfl) dX3_growPage_57 (pc2 := 60) rfl (fun u3 h => ?_)
            refine x_aload_n C dX3_growPage_60 0 rfl (pc2 := 61) rfl ?_
            refine x_aload_n C dX3_growPage_61 1 rfl (pc2 := 62) rfl ?_
            refine x_iload_n C dX3_growPage_62 2 rfl (pc2 := 63) rfl ?_
            refine x_iload C dX3_growPage_63 4 rfl (pc2 := 65) rfl ?_
            refine x_iload C dX3_growPage_65 3 rfl (pc2 := 67) rfl ?_
            refine x_iconst (v := (2 : Int32)) C dX3_growPage_67 (by decide) (pc2 := 68) rfl ?_
            refine x_ishl C dX3_growPage_68 (pc2 := 69) rfl ?_
            refine x_iload C dX3_growPage_69 5 rfl (pc2 := 71) rfl ?_
            refine x_ior C dX3_growPage_71 (pc2 := 72) rfl ?_
            refine x_callVv (As := [.ref (ad 1), .int x2, .int x5, .int ((x4 <<< ((2 : Int32) &&& 31)) ||| x6)]) (rest := []) (index := 52) (n := 4) C h (hself _ _ _ _) gX3_growPage_X3_growPage rfl (by decide +kernel) rfl rfl ⟨by simp only [headSpec]; omega, by simp only [headSpec]; omega⟩ (ci := 3) rfl rfl (xc_17 ad cI cB _) (XW_D ad cI cB _) rfl rfl (Nat.le_of_ble_eq_true rfl) dX3_growPage_72 (pc2 := 75) rfl (fun u4 h => ?_)
            exact J75 (e_X3_growPage_L27 (e_X3_growPage d) f) ih _ _ _ _ _ h
    refine x_aload_n C dX3_growPage_0 0 rfl (pc2 := 1) rfl ?_
    refine x_aload_n C dX3_growPage_1 1 rfl (pc2 := 2) rfl ?_
    refine x_iload_n C dX3_growPage_2 2 rfl (pc2 := 3) rfl ?_
    refine x_iload_n C dX3_growPage_3 3 rfl (pc2 := 4) rfl ?_
    refine x_iload C dX3_growPage_4 4 rfl (pc2 := 6) rfl ?_
    refine x_callVv (As := [.ref (ad 1), .int x2, .int x3, .int x4]) (rest := []) (index := 56) (n := 4) C h (c_X3_endPage l D A ad cI cB _ _ _ _) gX3_growPage_X3_endPage rfl (by decide +kernel) rfl rfl ⟨by simp only [headSpec]; omega, by simp only [headSpec]; omega⟩ (ci := 3) rfl rfl (xc_17 ad cI cB _) (XW_D ad cI cB _) rfl rfl (Nat.le_of_ble_eq_true rfl) dX3_growPage_6 (pc2 := 9) rfl (fun u1 h => ?_)
    refine x_iload_n C dX3_growPage_9 3 rfl (pc2 := 10) rfl ?_
    refine x_iconst (v := (1 : Int32)) C dX3_growPage_10 (by decide) (pc2 := 11) rfl ?_
    refine x_iadd C dX3_growPage_11 (pc2 := 12) rfl ?_
    refine x_istore C dX3_growPage_12 (by decide) (lv2 := [(5, .int (x3 + (1 : Int32))), (0, .ref (ad 17)), (1, .ref (ad 1)), (2, .int x2), (3, .int x3), (4, .int x4)]) rfl (pc2 := 14) rfl ?_
    refine x_iload C dX3_growPage_14 0 rfl (pc2 := 16) rfl ?_
    refine x_aload_n C dX3_growPage_16 2 rfl (pc2 := 17) rfl ?_
    refine x_get C hiX0 1 (xc_1 ad cI cB _) rfl 0 (by decide) f34 (v := .int (u1 1 0)) rfl dX3_growPage_17 (pc2 := 20) rfl ?_
    refine x_icmp_lt C h dX3_growPage_20 (tgt := 24) (by decide) (pc2 := 23) rfl (fun h => ?_) (fun h => ?_)
    · refine x_iconst (v := (0 : Int32)) C dX3_growPage_24 (by decide) (pc2 := 25) rfl ?_
      refine x_istore C dX3_growPage_25 (by decide) (lv2 := [(6, .int (0 : Int32)), (5, .int (x3 + (1 : Int32))), (0, .ref (ad 17)), (1, .ref (ad 1)), (2, .int x2), (3, .int x3), (4, .int x4)]) rfl (pc2 := 27) rfl ?_
      refine x_sub [2, 3, 4, 6, 1, 0] (lv2 := [(0, .ref (ad 17)), (1, .ref (ad 1)), (2, .int x2), (4, .int x4), (5, .int (x3 + (1 : Int32))), (6, .int (0 : Int32))]) rfl ?_
      exact J27 FU _ _ _ _ _ h
    · exact x_vret C hr hlocks h dX3_growPage_23
set_option maxRecDepth 100000 in
set_option maxHeartbeats 4000000 in
theorem c_X3_run (l : Launch) (D : va_G) (A : Nat → Prop) (ad : Nat → Nat) (cI cB : ClassId) (u : Mem)  : Ctv l yX3_run wsX3_run { frames := 16, cells := 0, slots := 0, locals := 425 } D A (XW ad cI cB) [(cI, .int), (cB, .object "PanelPages$Book")] [.ref (ad 17), .ref (ad 1)] u (e_X3_run u ) := by
  intro ur h
  refine Met.ofW (cc := cX3_run) (maxL := 4) (ret := none) (by decide) rfl ?_
  intro p e s m args below meth c s₁ B hml hv
  obtain ⟨hav, hP, hK, hD⟩ := hv
  have C : Cx p m c cX3_run 4 s args wsX3_run RX3 D [(cI, .int), (cB, .object "PanelPages$Book")] := ⟨⟨B.exec, B.bytes, hml, findClass_of_methodNamed B.named, atoms_spec (ws := wsX3_run) B.pre⟩, hK⟩
  have hr := B.returns
  have hlocks := B.notSynchronized
  have hiX0 : ∀ w ∈ wsX00, w ∈ wsX3_run := by decide +kernel
  have hiX3 : ∀ w ∈ wsX30, w ∈ wsX3_run := by decide +kernel
  have f12 : Cond.fieldLink RX3 12 "PanelPages$Search" "onPage" "LPanelPages$Layout;" ∈ wsX3_run := by decide +kernel
  have f18 : Cond.fieldLink RX3 18 "PanelPages$Search" "ways" "[I" ∈ wsX3_run := by decide +kernel
  have f25 : Cond.fieldLink RX3 25 "PanelPages$Search" "waysInFewest" "[I" ∈ wsX3_run := by decide +kernel
  have f34 : Cond.fieldLink RX3 34 "PanelPages$Book" "panels" "I" ∈ wsX3_run := by decide +kernel
  refine x_entry2 (lv := [(0, .ref (ad 17)), (1, .ref (ad 1))]) hav hP hD (Nat.le_of_ble_eq_true rfl) rfl ?_
  unfold e_X3_run at h
  have J93 : ∀ (k51 : Mem → Int32 → Option Mem), (∀ (u : Mem) (x3 : Int32), k51 u x3 = some ur → Wx p l e (headSpec wsX3_run { frames := 16, cells := 0, slots := 0, locals := 425 }).room s m args below meth c (MQ below (Qvx D A (XW ad cI cB) ur) args s 0 0 A) D A 4 (XW ad cI cB) u 51 [(0, .ref (ad 17)), (1, .ref (ad 1)), (3, .int x3)] []) → ∀ (u : Mem) (x3 : Int32), e_X3_run_J93 k51 u x3 = some ur → Wx p l e (headSpec wsX3_run { frames := 16, cells := 0, slots := 0, locals := 425 }).room s m args below meth c (MQ below (Qvx D A (XW ad cI cB) ur) args s 0 0 A) D A 4 (XW ad cI cB) u 93 [(0, .ref (ad 17)), (1, .ref (ad 1)), (3, .int x3)] [] := by
    intro k51 hk51 
    intro u x3 h
    unfold e_X3_run_J93 at h
    refine x_iinc C dX3_run_93 2 rfl (-1 : Int32) (by decide) rfl (by decide) (lv2 := [(3, .int (x3 + (-1 : Int32))), (0, .ref (ad 17)), (1, .ref (ad 1))]) rfl (pc2 := 96) rfl ?_
    refine x_goto C dX3_run_96 (pc2 := 51) (by decide) ?_
    refine x_sub [1, 2, 0] (lv2 := [(0, .ref (ad 17)), (1, .ref (ad 1)), (3, .int (x3 + (-1 : Int32)))]) rfl ?_
    exact hk51 _ _ h
  have J51 : ∀ (f : Nat) (u : Mem) (x3 : Int32), e_X3_run_L51 f u x3 = some ur → Wx p l e (headSpec wsX3_run { frames := 16, cells := 0, slots := 0, locals := 425 }).room s m args below meth c (MQ below (Qvx D A (XW ad cI cB) ur) args s 0 0 A) D A 4 (XW ad cI cB) u 51 [(0, .ref (ad 17)), (1, .ref (ad 1)), (3, .int x3)] [] := by
    intro f
    induction f with
    | zero => intro u x3 h; cases h
    | succ f ih =>
      intro u x3 h
      replace h : e_X3_run_L51_b (e_X3_run_L51 f) u x3 = some ur := h
      unfold e_X3_run_L51_b at h
      refine x_iload_n C dX3_run_51 2 rfl (pc2 := 52) rfl ?_
      refine x_if_lt C h dX3_run_52 (tgt := 99) (by decide) (pc2 := 55) rfl (fun h => ?_) (fun h => ?_)
      · exact x_vret C hr hlocks h dX3_run_99
      · refine x_aload_n C dX3_run_55 0 rfl (pc2 := 56) rfl ?_
        refine x_iconst (v := (2 : Int32)) C dX3_run_56 (by decide) (pc2 := 57) rfl ?_
        refine x_iload_n C dX3_run_57 2 rfl (pc2 := 58) rfl ?_
        refine x_imul C dX3_run_58 (pc2 := 59) rfl ?_
        refine x_callVv (As := [.int ((2 : Int32) * x3)]) (rest := []) (index := 40) (n := 1) C h (c_X3_clear l D A ad cI cB _ _) gX3_run_X3_clear rfl (by decide +kernel) rfl rfl ⟨Nat.le_of_ble_eq_true rfl, Nat.le_of_ble_eq_true rfl⟩ (ci := 3) rfl rfl (xc_17 ad cI cB _) (XW_D ad cI cB _) rfl rfl (Nat.le_of_ble_eq_true rfl) dX3_run_59 (pc2 := 62) rfl (fun u2 h => ?_)
        refine x_aload_n C dX3_run_62 0 rfl (pc2 := 63) rfl ?_
        refine x_get C hiX3 17 (xc_17 ad cI cB _) rfl 0 (by decide) f12 (v := .ref (ad 18)) rfl dX3_run_63 (pc2 := 66) rfl ?_
        refine x_aload_n C dX3_run_66 1 rfl (pc2 := 67) rfl ?_
        refine x_iload_n C dX3_run_67 2 rfl (pc2 := 68) rfl ?_
        refine x_iconst (v := (2 : Int32)) C dX3_run_68 (by decide) (pc2 := 69) rfl ?_
        refine x_callVi (As := [.ref (ad 1), .int x3, .int (2 : Int32)]) (rest := []) (index := 44) (n := 3) C h (c_X1_whyNot_P l D A ad cI cB _ _ _) gX3_run_X1_whyNot rfl (by decide +kernel) rfl rfl ⟨Nat.le_of_ble_eq_true rfl, Nat.le_of_ble_eq_true rfl⟩ (ci := 1) rfl rfl (xc_18 ad cI cB _) (XW_D ad cI cB _) rfl rfl (Nat.le_of_ble_eq_true rfl) dX3_run_69 (pc2 := 72) rfl (fun r3 u3 h => ?_)
        refine x_if_ne C h dX3_run_72 (tgt := 93) (by decide) (pc2 := 75) rfl (fun h => ?_) (fun h => ?_)
        · exact J93 (e_X3_run_L51 f) ih _ _ h
        · refine x_aload_n C dX3_run_75 0 rfl (pc2 := 76) rfl ?_
          refine x_get C hiX3 17 (xc_17 ad cI cB _) rfl 0 (by decide) f12 (v := .ref (ad 18)) rfl dX3_run_76 (pc2 := 79) rfl ?_
          refine x_aload_n C dX3_run_79 1 rfl (pc2 := 80) rfl ?_
          refine x_iload_n C dX3_run_80 2 rfl (pc2 := 81) rfl ?_
          refine x_iconst (v := (2 : Int32)) C dX3_run_81 (by decide) (pc2 := 82) rfl ?_
          refine x_callVv (As := [.ref (ad 1), .int x3, .int (2 : Int32)]) (rest := []) (index := 48) (n := 3) C h (c_X1_put_P l D A ad cI cB _ _ _) gX3_run_X1_put rfl (by decide +kernel) rfl rfl ⟨Nat.le_of_ble_eq_true rfl, Nat.le_of_ble_eq_true rfl⟩ (ci := 1) rfl rfl (xc_18 ad cI cB _) (XW_D ad cI cB _) rfl rfl (Nat.le_of_ble_eq_true rfl) dX3_run_82 (pc2 := 85) rfl (fun u4 h => ?_)
          refine x_aload_n C dX3_run_85 0 rfl (pc2 := 86) rfl ?_
          refine x_aload_n C dX3_run_86 1 rfl (pc2 := 87) rfl ?_
          refine x_iload_n C dX3_run_87 2 rfl (pc2 := 88) rfl ?_
          refine x_iload_n C dX3_run_88 2 rfl (pc2 := 89) rfl ?_
          refine x_iconst (v := (2 : Int32)) C dX3_run_89 (by decide) (pc2 := 90) rfl ?_
          refine x_callVv (As := [.ref (ad 1), .int x3, .int x3, .int (2 : Int32)]) (rest := []) (index := 52) (n := 4) C h (c_X3_growPage l D A ad cI cB RD _ _ _ _) gX3_run_X3_growPage rfl (by decide +kernel) rfl rfl ⟨Nat.le_of_ble_eq_true rfl, Nat.le_of_ble_eq_true rfl⟩ (ci := 3) rfl rfl (xc_17 ad cI cB _) (XW_D ad cI cB _) rfl rfl (Nat.le_of_ble_eq_true rfl) dX3_run_90 (pc2 := 93) rfl (fun u5 h => ?_)
          exact J93 (e_X3_run_L51 f) ih _ _ h
  refine x_iconst (v := (2 : Int32)) C dX3_run_0 (by decide) (pc2 := 1) rfl ?_
  refine x_aload_n C dX3_run_1 1 rfl (pc2 := 2) rfl ?_
  refine x_get C hiX0 1 (xc_1 ad cI cB _) rfl 0 (by decide) f34 (v := .int (u 1 0)) rfl dX3_run_2 (pc2 := 5) rfl ?_
  refine x_imul C dX3_run_5 (pc2 := 6) rfl ?_
  refine x_istore_n C dX3_run_6 (by decide) (lv2 := [(2, .int ((2 : Int32) * (u 1 0))), (0, .ref (ad 17)), (1, .ref (ad 1))]) rfl (pc2 := 7) rfl ?_
  refine x_aload_n C dX3_run_7 1 rfl (pc2 := 8) rfl ?_
  refine x_iload_n C dX3_run_8 0 rfl (pc2 := 9) rfl ?_
  refine x_callVv (As := [.int ((2 : Int32) * (u 1 0))]) (rest := []) (index := 40) (n := 1) C h (c_X3_clear l D A ad cI cB _ _) gX3_run_X3_clear rfl (by decide +kernel) rfl rfl ⟨Nat.le_of_ble_eq_true rfl, Nat.le_of_ble_eq_true rfl⟩ (ci := 3) rfl rfl (xc_17 ad cI cB _) (XW_D ad cI cB _) rfl rfl (Nat.le_of_ble_eq_true rfl) dX3_run_9 (pc2 := 12) rfl (fun u1 h => ?_)
  refine x_aload_n C dX3_run_12 1 rfl (pc2 := 13) rfl ?_
  refine x_get C hiX3 17 (xc_17 ad cI cB _) rfl 1 (by decide) f18 (v := .ref (ad 26)) rfl dX3_run_13 (pc2 := 16) rfl ?_
  refine x_iload_n C dX3_run_16 0 rfl (pc2 := 17) rfl ?_
  refine x_iconst (v := (1 : Int32)) C dX3_run_17 (by decide) (pc2 := 18) rfl ?_
  refine x_iast C h 26 0 (xc_26 ad cI cB _) rfl (u2 := (put u1 26 (((2 : Int32) * (u 1 0))).toNatClampNeg (1 : Int32))) (xs_26 ad cI cB _ _ _) dX3_run_18 (pc2 := 19) rfl (fun h => ?_)
  refine x_aload_n C dX3_run_19 1 rfl (pc2 := 20) rfl ?_
  refine x_get C hiX3 17 (xc_17 ad cI cB _) rfl 3 (by decide) f25 (v := .ref (ad 28)) rfl dX3_run_20 (pc2 := 23) rfl ?_
  refine x_iload_n C dX3_run_23 0 rfl (pc2 := 24) rfl ?_
  refine x_iconst (v := (1 : Int32)) C dX3_run_24 (by decide) (pc2 := 25) rfl ?_
  refine x_iast C h 28 0 (xc_28 ad cI cB _) rfl (u2 := (put (put u1 26 (((2 : Int32) * (u 1 0))).toNatClampNeg (1 : Int32)) 28 (((2 : Int32) * (u 1 0))).toNatClampNeg (1 : Int32))) (xs_28 ad cI cB _ _ _) dX3_run_25 (pc2 := 26) rfl (fun h => ?_)
  refine x_aload_n C dX3_run_26 1 rfl (pc2 := 27) rfl ?_
  refine x_get C hiX3 17 (xc_17 ad cI cB _) rfl 1 (by decide) f18 (v := .ref (ad 26)) rfl dX3_run_27 (pc2 := 30) rfl ?_
  refine x_iload_n C dX3_run_30 0 rfl (pc2 := 31) rfl ?_
  refine x_iconst (v := (1 : Int32)) C dX3_run_31 (by decide) (pc2 := 32) rfl ?_
  refine x_iadd C dX3_run_32 (pc2 := 33) rfl ?_
  refine x_iconst (v := (1 : Int32)) C dX3_run_33 (by decide) (pc2 := 34) rfl ?_
  refine x_iast C h 26 0 (xc_26 ad cI cB _) rfl (u2 := (put (put (put u1 26 (((2 : Int32) * (u 1 0))).toNatClampNeg (1 : Int32)) 28 (((2 : Int32) * (u 1 0))).toNatClampNeg (1 : Int32)) 26 ((((2 : Int32) * (u 1 0)) + (1 : Int32))).toNatClampNeg (1 : Int32))) (xs_26 ad cI cB _ _ _) dX3_run_34 (pc2 := 35) rfl (fun h => ?_)
  refine x_aload_n C dX3_run_35 1 rfl (pc2 := 36) rfl ?_
  refine x_get C hiX3 17 (xc_17 ad cI cB _) rfl 3 (by decide) f25 (v := .ref (ad 28)) rfl dX3_run_36 (pc2 := 39) rfl ?_
  refine x_iload_n C dX3_run_39 0 rfl (pc2 := 40) rfl ?_
  refine x_iconst (v := (1 : Int32)) C dX3_run_40 (by decide) (pc2 := 41) rfl ?_
  refine x_iadd C dX3_run_41 (pc2 := 42) rfl ?_
  refine x_iconst (v := (1 : Int32)) C dX3_run_42 (by decide) (pc2 := 43) rfl ?_
  refine x_iast C h 28 0 (xc_28 ad cI cB _) rfl (u2 := (put (put (put (put u1 26 (((2 : Int32) * (u 1 0))).toNatClampNeg (1 : Int32)) 28 (((2 : Int32) * (u 1 0))).toNatClampNeg (1 : Int32)) 26 ((((2 : Int32) * (u 1 0)) + (1 : Int32))).toNatClampNeg (1 : Int32)) 28 ((((2 : Int32) * (u 1 0)) + (1 : Int32))).toNatClampNeg (1 : Int32))) (xs_28 ad cI cB _ _ _) dX3_run_43 (pc2 := 44) rfl (fun h => ?_)
  refine x_aload_n C dX3_run_44 2 rfl (pc2 := 45) rfl ?_
  refine x_get C hiX0 1 (xc_1 ad cI cB _) rfl 0 (by decide) f34 (v := .int ((put (put (put (put u1 26 (((2 : Int32) * (u 1 0))).toNatClampNeg (1 : Int32)) 28 (((2 : Int32) * (u 1 0))).toNatClampNeg (1 : Int32)) 26 ((((2 : Int32) * (u 1 0)) + (1 : Int32))).toNatClampNeg (1 : Int32)) 28 ((((2 : Int32) * (u 1 0)) + (1 : Int32))).toNatClampNeg (1 : Int32)) 1 0)) rfl dX3_run_45 (pc2 := 48) rfl ?_
  refine x_tope (y := (u1 1 0)) rfl ?_
  refine x_iconst (v := (1 : Int32)) C dX3_run_48 (by decide) (pc2 := 49) rfl ?_
  refine x_isub C dX3_run_49 (pc2 := 50) rfl ?_
  refine x_istore_n C dX3_run_50 (by decide) (lv2 := [(3, .int ((u1 1 0) - (1 : Int32))), (2, .int ((2 : Int32) * (u 1 0))), (0, .ref (ad 17)), (1, .ref (ad 1))]) rfl (pc2 := 51) rfl ?_
  refine x_sub [2, 3, 0] (lv2 := [(0, .ref (ad 17)), (1, .ref (ad 1)), (3, .int ((u1 1 0) - (1 : Int32)))]) rfl ?_
  exact J51 FU _ _ h
set_option maxRecDepth 100000 in
set_option maxHeartbeats 4000000 in
theorem c_X4_fits (l : Launch) (D : va_G) (A : Nat → Prop) (ad : Nat → Nat) (cI cB : ClassId) (u : Mem) (x2 : Int32) (x3 : Int32) : Cti l yX4_fits wsX4_fits { frames := 1, cells := 0, slots := 0, locals := 40 } D A (XW ad cI cB) [(cI, .int), (cB, .object "PanelPages$Book")] [.ref (ad 31), .ref (ad 1), .int x2, .int x3] u (e_X4_fits u x2 x3) := by
  intro r ur h
  refine Met.ofW (cc := cX4_fits) (maxL := 10) (ret := (some .boolean)) (by decide) rfl ?_
  intro p e s m args below meth c s₁ B hml hv
  obtain ⟨hav, hP, hK, hD⟩ := hv
  have C : Cx p m c cX4_fits 10 s args wsX4_fits RX4 D [(cI, .int), (cB, .object "PanelPages$Book")] := ⟨⟨B.exec, B.bytes, hml, findClass_of_methodNamed B.named, atoms_spec (ws := wsX4_fits) B.pre⟩, hK⟩
  have hr := B.returns
  have hlocks := B.notSynchronized
  have hiX4 : ∀ w ∈ wsX40, w ∈ wsX4_fits := by decide +kernel
  have f9 : Cond.fieldLink RX4 9 "PanelPages$Setting" "cell" "[I" ∈ wsX4_fits := by decide +kernel
  refine x_entry2 (lv := [(0, .ref (ad 31)), (1, .ref (ad 1)), (2, .int x2), (3, .int x3)]) hav hP hD (Nat.le_of_ble_eq_true rfl) rfl ?_
  unfold e_X4_fits at h
  have J128 : ∀ (k66 : Mem → Int32 → Int32 → Int32 → Int32 → Int32 → Int32 → Option (Int32 × Mem)), (∀ (u : Mem) (x2 : Int32) (x3 : Int32) (x4 : Int32) (x5 : Int32) (x6 : Int32) (x7 : Int32), k66 u x2 x3 x4 x5 x6 x7 = some (r, ur) → Wx p l e (headSpec wsX4_fits { frames := 1, cells := 0, slots := 0, locals := 40 }).room s m args below meth c (MQ below (Qix D A (XW ad cI cB) r ur) args s 0 0 A) D A 10 (XW ad cI cB) u 66 [(0, .ref (ad 31)), (1, .ref (ad 1)), (2, .int x2), (3, .int x3), (4, .int x4), (5, .int x5), (6, .int x6), (7, .int x7)] []) → ∀ (u : Mem) (x2 : Int32) (x3 : Int32) (x4 : Int32) (x5 : Int32) (x6 : Int32) (x7 : Int32), e_X4_fits_J128 k66 u x2 x3 x4 x5 x6 x7 = some (r, ur) → Wx p l e (headSpec wsX4_fits { frames := 1, cells := 0, slots := 0, locals := 40 }).room s m args below meth c (MQ below (Qix D A (XW ad cI cB) r ur) args s 0 0 A) D A 10 (XW ad cI cB) u 128 [(0, .ref (ad 31)), (1, .ref (ad 1)), (2, .int x2), (3, .int x3), (4, .int x4), (5, .int x5), (6, .int x6), (7, .int x7)] [] := by
    intro k66 hk66 
    intro u x2 x3 x4 x5 x6 x7 h
    unfold e_X4_fits_J128 at h
    refine x_iinc C dX4_fits_128 7 rfl (1 : Int32) (by decide) rfl (by decide) (lv2 := [(7, .int (x7 + (1 : Int32))), (0, .ref (ad 31)), (1, .ref (ad 1)), (2, .int x2), (3, .int x3), (4, .int x4), (5, .int x5), (6, .int x6)]) rfl (pc2 := 131) rfl ?_
    refine x_goto C dX4_fits_131 (pc2 := 66) (by decide) ?_
    refine x_sub [1, 2, 3, 4, 5, 6, 7, 0] (lv2 := [(0, .ref (ad 31)), (1, .ref (ad 1)), (2, .int x2), (3, .int x3), (4, .int x4), (5, .int x5), (6, .int x6), (7, .int (x7 + (1 : Int32)))]) rfl ?_
    exact hk66 _ _ _ _ _ _ _ h
  have J114 : ∀ (k66 : Mem → Int32 → Int32 → Int32 → Int32 → Int32 → Int32 → Option (Int32 × Mem)), (∀ (u : Mem) (x2 : Int32) (x3 : Int32) (x4 : Int32) (x5 : Int32) (x6 : Int32) (x7 : Int32), k66 u x2 x3 x4 x5 x6 x7 = some (r, ur) → Wx p l e (headSpec wsX4_fits { frames := 1, cells := 0, slots := 0, locals := 40 }).room s m args below meth c (MQ below (Qix D A (XW ad cI cB) r ur) args s 0 0 A) D A 10 (XW ad cI cB) u 66 [(0, .ref (ad 31)), (1, .ref (ad 1)), (2, .int x2), (3, .int x3), (4, .int x4), (5, .int x5), (6, .int x6), (7, .int x7)] []) → ∀ (u : Mem) (x2 : Int32) (x3 : Int32) (x4 : Int32) (x5 : Int32) (x6 : Int32) (x7 : Int32) (x8 : Int32) (x9 : Int32), e_X4_fits_J114 k66 u x2 x3 x4 x5 x6 x7 x8 x9 = some (r, ur) → Wx p l e (headSpec wsX4_fits { frames := 1, cells := 0, slots := 0, locals := 40 }).room s m args below meth c (MQ below (Qix D A (XW ad cI cB) r ur) args s 0 0 A) D A 10 (XW ad cI cB) u 114 [(0, .ref (ad 31)), (1, .ref (ad 1)), (2, .int x2), (3, .int x3), (4, .int x4), (5, .int x5), (6, .int x6), (7, .int x7), (8, .int x8), (9, .int x9)] [] := by
    intro k66 hk66 
    intro u x2 x3 x4 x5 x6 x7 x8 x9 h
    unfold e_X4_fits_J114 at h
    refine x_iload C dX4_fits_114 9 rfl (pc2 := 116) rfl ?_
    refine x_if_ne C h dX4_fits_116 (tgt := 128) (by decide) (pc2 := 119) rfl (fun h => ?_) (fun h => ?_)
    · refine x_sub [0, 1, 2, 3, 4, 5, 6, 7] (lv2 := [(0, .ref (ad 31)), (1, .ref (ad 1)), (2, .int x2), (3, .int x3), (4, .int x4), (5, .int x5), (6, .int x6), (7, .int x7)]) rfl ?_
      exact J128 k66 hk66 _ _ _ _ _ _ _ h
    · refine x_iload C dX4_fits_119 6 rfl (pc2 := 121) rfl ?_
      refine x_iload C dX4_fits_121 8 rfl (pc2 := 123) rfl ?_
      refine x_icmp_ne C h dX4_fits_123 (tgt := 128) (by decide) (pc2 := 126) rfl (fun h => ?_) (fun h => ?_)
      · refine x_sub [0, 1, 2, 3, 4, 5, 6, 7] (lv2 := [(0, .ref (ad 31)), (1, .ref (ad 1)), (2, .int x2), (3, .int x3), (4, .int x4), (5, .int x5), (6, .int x6), (7, .int x7)]) rfl ?_
        exact J128 k66 hk66 _ _ _ _ _ _ _ h
      · refine x_iconst (v := (0 : Int32)) C dX4_fits_126 (by decide) (pc2 := 127) rfl ?_
        exact x_zretL C hr hlocks h rfl dX4_fits_127
  have J100 : ∀ (k66 : Mem → Int32 → Int32 → Int32 → Int32 → Int32 → Int32 → Option (Int32 × Mem)), (∀ (u : Mem) (x2 : Int32) (x3 : Int32) (x4 : Int32) (x5 : Int32) (x6 : Int32) (x7 : Int32), k66 u x2 x3 x4 x5 x6 x7 = some (r, ur) → Wx p l e (headSpec wsX4_fits { frames := 1, cells := 0, slots := 0, locals := 40 }).room s m args below meth c (MQ below (Qix D A (XW ad cI cB) r ur) args s 0 0 A) D A 10 (XW ad cI cB) u 66 [(0, .ref (ad 31)), (1, .ref (ad 1)), (2, .int x2), (3, .int x3), (4, .int x4), (5, .int x5), (6, .int x6), (7, .int x7)] []) → ∀ (u : Mem) (x2 : Int32) (x3 : Int32) (x4 : Int32) (x5 : Int32) (x6 : Int32) (x7 : Int32) (x8 : Int32) (s0 : Int32), e_X4_fits_J100 k66 u x2 x3 x4 x5 x6 x7 x8 s0 = some (r, ur) → Wx p l e (headSpec wsX4_fits { frames := 1, cells := 0, slots := 0, locals := 40 }).room s m args below meth c (MQ below (Qix D A (XW ad cI cB) r ur) args s 0 0 A) D A 10 (XW ad cI cB) u 100 [(0, .ref (ad 31)), (1, .ref (ad 1)), (2, .int x2), (3, .int x3), (4, .int x4), (5, .int x5), (6, .int x6), (7, .int x7), (8, .int x8)] [.int s0] := by
    intro k66 hk66 
    intro u x2 x3 x4 x5 x6 x7 x8 s0 h
    unfold e_X4_fits_J100 at h
    refine x_istore C dX4_fits_100 (by decide) (lv2 := [(9, .int s0), (0, .ref (ad 31)), (1, .ref (ad 1)), (2, .int x2), (3, .int x3), (4, .int x4), (5, .int x5), (6, .int x6), (7, .int x7), (8, .int x8)]) rfl (pc2 := 102) rfl ?_
    refine x_iload C dX4_fits_102 0 rfl (pc2 := 104) rfl ?_
    refine x_if_eq C h dX4_fits_104 (tgt := 114) (by decide) (pc2 := 107) rfl (fun h => ?_) (fun h => ?_)
    · refine x_sub [1, 2, 3, 4, 5, 6, 7, 8, 9, 0] (lv2 := [(0, .ref (ad 31)), (1, .ref (ad 1)), (2, .int x2), (3, .int x3), (4, .int x4), (5, .int x5), (6, .int x6), (7, .int x7), (8, .int x8), (9, .int s0)]) rfl ?_
      exact J114 k66 hk66 _ _ _ _ _ _ _ _ _ h
    · refine x_iload C dX4_fits_107 9 rfl (pc2 := 109) rfl ?_
      refine x_iload C dX4_fits_109 5 rfl (pc2 := 111) rfl ?_
      refine x_icmp_gt C h dX4_fits_111 (tgt := 126) (by decide) (pc2 := 114) rfl (fun h => ?_) (fun h => ?_)
      · refine x_iconst (v := (0 : Int32)) C dX4_fits_126 (by decide) (pc2 := 127) rfl ?_
        exact x_zretL C hr hlocks h rfl dX4_fits_127
      · refine x_sub [1, 2, 3, 4, 5, 6, 7, 8, 9, 0] (lv2 := [(0, .ref (ad 31)), (1, .ref (ad 1)), (2, .int x2), (3, .int x3), (4, .int x4), (5, .int x5), (6, .int x6), (7, .int x7), (8, .int x8), (9, .int s0)]) rfl ?_
        exact J114 k66 hk66 _ _ _ _ _ _ _ _ _ h
  have J66 : ∀ (f : Nat) (u : Mem) (x2 : Int32) (x3 : Int32) (x4 : Int32) (x5 : Int32) (x6 : Int32) (x7 : Int32), e_X4_fits_L66 f u x2 x3 x4 x5 x6 x7 = some (r, ur) → Wx p l e (headSpec wsX4_fits { frames := 1, cells := 0, slots := 0, locals := 40 }).room s m args below meth c (MQ below (Qix D A (XW ad cI cB) r ur) args s 0 0 A) D A 10 (XW ad cI cB) u 66 [(0, .ref (ad 31)), (1, .ref (ad 1)), (2, .int x2), (3, .int x3), (4, .int x4), (5, .int x5), (6, .int x6), (7, .int x7)] [] := by
    intro f
    induction f with
    | zero => intro u x2 x3 x4 x5 x6 x7 h; cases h
    | succ f ih =>
      intro u x2 x3 x4 x5 x6 x7 h
      replace h : e_X4_fits_L66_b (e_X4_fits_L66 f) u x2 x3 x4 x5 x6 x7 = some (r, ur) := h
      unfold e_X4_fits_L66_b at h
      refine x_iload C dX4_fits_66 7 rfl (pc2 := 68) rfl ?_
      refine x_iload_n C dX4_fits_68 3 rfl (pc2 := 69) rfl ?_
      refine x_icmp_ge C h dX4_fits_69 (tgt := 134) (by decide) (pc2 := 72) rfl (fun h => ?_) (fun h => ?_)
      · refine x_iconst (v := (1 : Int32)) C dX4_fits_134 (by decide) (pc2 := 135) rfl ?_
        exact x_zretL C hr hlocks h rfl dX4_fits_135
      · refine x_aload_n C dX4_fits_72 1 rfl (pc2 := 73) rfl ?_
        refine x_iload_n C dX4_fits_73 2 rfl (pc2 := 74) rfl ?_
        refine x_iload C dX4_fits_74 7 rfl (pc2 := 76) rfl ?_
        refine x_callVi (As := [.int x2, .int x7]) (rest := []) (index := 51) (n := 2) C h (c_X0_speakerColumn l D A ad cI cB _ _ _) gX4_fits_X0_speakerColumn rfl (by decide +kernel) rfl rfl ⟨Nat.le_of_ble_eq_true rfl, Nat.le_of_ble_eq_true rfl⟩ (ci := 0) rfl rfl (xc_1 ad cI cB _) (XW_D ad cI cB _) rfl rfl (Nat.le_of_ble_eq_true rfl) dX4_fits_76 (pc2 := 79) rfl (fun r2 u2 h => ?_)
        refine x_istore C dX4_fits_79 (by decide) (lv2 := [(8, .int r2), (0, .ref (ad 31)), (1, .ref (ad 1)), (2, .int x2), (3, .int x3), (4, .int x4), (5, .int x5), (6, .int x6), (7, .int x7)]) rfl (pc2 := 81) rfl ?_
        refine x_aload_n C dX4_fits_81 1 rfl (pc2 := 82) rfl ?_
        refine x_get C hiX4 31 (xc_31 ad cI cB _) rfl 0 (by decide) f9 (v := .ref (ad 32)) rfl dX4_fits_82 (pc2 := 85) rfl ?_
        refine x_iload C dX4_fits_85 8 rfl (pc2 := 87) rfl ?_
        refine x_iald C h 32 0 (xc_32 ad cI cB _) rfl dX4_fits_87 (pc2 := 88) rfl (fun h => ?_)
        refine x_iconst (v := (4 : Int32)) C dX4_fits_88 (by decide) (pc2 := 89) rfl ?_
        refine x_idiv C dX4_fits_89 (by decide) (pc2 := 90) rfl ?_
        refine x_iload C dX4_fits_90 6 rfl (pc2 := 92) rfl ?_
        refine x_icmp_ne C h dX4_fits_92 (tgt := 99) (by decide) (pc2 := 95) rfl (fun h => ?_) (fun h => ?_)
        · refine x_iconst (v := (0 : Int32)) C dX4_fits_99 (by decide) (pc2 := 100) rfl ?_
          refine x_sub [1, 2, 3, 4, 5, 6, 7, 8, 0] (lv2 := [(0, .ref (ad 31)), (1, .ref (ad 1)), (2, .int x2), (3, .int x3), (4, .int x4), (5, .int x5), (6, .int x6), (7, .int x7), (8, .int r2)]) rfl ?_
          exact J100 (e_X4_fits_L66 f) ih _ _ _ _ _ _ _ _ _ h
        · refine x_iconst (v := (1 : Int32)) C dX4_fits_95 (by decide) (pc2 := 96) rfl ?_
          refine x_goto C dX4_fits_96 (pc2 := 100) (by decide) ?_
          refine x_sub [1, 2, 3, 4, 5, 6, 7, 8, 0] (lv2 := [(0, .ref (ad 31)), (1, .ref (ad 1)), (2, .int x2), (3, .int x3), (4, .int x4), (5, .int x5), (6, .int x6), (7, .int x7), (8, .int r2)]) rfl ?_
          exact J100 (e_X4_fits_L66 f) ih _ _ _ _ _ _ _ _ _ h
  have J49 : ∀ (u : Mem) (x2 : Int32) (x3 : Int32) (x4 : Int32) (x5 : Int32) (x6 : Int32), e_X4_fits_J49 u x2 x3 x4 x5 x6 = some (r, ur) → Wx p l e (headSpec wsX4_fits { frames := 1, cells := 0, slots := 0, locals := 40 }).room s m args below meth c (MQ below (Qix D A (XW ad cI cB) r ur) args s 0 0 A) D A 10 (XW ad cI cB) u 49 [(0, .ref (ad 31)), (1, .ref (ad 1)), (2, .int x2), (3, .int x3), (4, .int x4), (5, .int x5), (6, .int x6)] [] := by
    intro u x2 x3 x4 x5 x6 h
    unfold e_X4_fits_J49 at h
    refine x_iload C dX4_fits_49 6 rfl (pc2 := 51) rfl ?_
    refine x_iload C dX4_fits_51 4 rfl (pc2 := 53) rfl ?_
    refine x_isub C dX4_fits_53 (pc2 := 54) rfl ?_
    refine x_mabs (index := 55) C (by decide +kernel) (by decide +kernel) (by decide +kernel) (by decide +kernel) (Nat.le_of_ble_eq_true rfl) (Nat.le_of_ble_eq_true rfl) dX4_fits_54 (pc2 := 57) rfl ?_
    refine x_iconst (v := (1 : Int32)) C dX4_fits_57 (by decide) (pc2 := 58) rfl ?_
    refine x_icmp_le C h dX4_fits_58 (tgt := 63) (by decide) (pc2 := 61) rfl (fun h => ?_) (fun h => ?_)
    · refine x_iconst (v := (0 : Int32)) C dX4_fits_63 (by decide) (pc2 := 64) rfl ?_
      refine x_istore C dX4_fits_64 (by decide) (lv2 := [(7, .int (0 : Int32)), (0, .ref (ad 31)), (1, .ref (ad 1)), (2, .int x2), (3, .int x3), (4, .int x4), (5, .int x5), (6, .int x6)]) rfl (pc2 := 66) rfl ?_
      refine x_sub [1, 2, 3, 4, 5, 6, 7, 0] (lv2 := [(0, .ref (ad 31)), (1, .ref (ad 1)), (2, .int x2), (3, .int x3), (4, .int x4), (5, .int x5), (6, .int x6), (7, .int (0 : Int32))]) rfl ?_
      exact J66 FU _ _ _ _ _ _ _ h
    · refine x_iconst (v := (0 : Int32)) C dX4_fits_61 (by decide) (pc2 := 62) rfl ?_
      exact x_zretL C hr hlocks h rfl dX4_fits_62
  refine x_aload_n C dX4_fits_0 1 rfl (pc2 := 1) rfl ?_
  refine x_iload_n C dX4_fits_1 2 rfl (pc2 := 2) rfl ?_
  refine x_iload_n C dX4_fits_2 3 rfl (pc2 := 3) rfl ?_
  refine x_callVi (As := [.int x2, .int x3]) (rest := []) (index := 51) (n := 2) C h (c_X0_speakerColumn l D A ad cI cB _ _ _) gX4_fits_X0_speakerColumn rfl (by decide +kernel) rfl rfl ⟨Nat.le_of_ble_eq_true rfl, Nat.le_of_ble_eq_true rfl⟩ (ci := 0) rfl rfl (xc_1 ad cI cB _) (XW_D ad cI cB _) rfl rfl (Nat.le_of_ble_eq_true rfl) dX4_fits_3 (pc2 := 6) rfl (fun r1 u1 h => ?_)
  refine x_istore C dX4_fits_6 (by decide) (lv2 := [(4, .int r1), (0, .ref (ad 31)), (1, .ref (ad 1)), (2, .int x2), (3, .int x3)]) rfl (pc2 := 8) rfl ?_
  refine x_aload_n C dX4_fits_8 1 rfl (pc2 := 9) rfl ?_
  refine x_get C hiX4 31 (xc_31 ad cI cB _) rfl 0 (by decide) f9 (v := .ref (ad 32)) rfl dX4_fits_9 (pc2 := 12) rfl ?_
  refine x_iload_n C dX4_fits_12 4 rfl (pc2 := 13) rfl ?_
  refine x_iald C h 32 0 (xc_32 ad cI cB _) rfl dX4_fits_13 (pc2 := 14) rfl (fun h => ?_)
  refine x_iconst (v := (4 : Int32)) C dX4_fits_14 (by decide) (pc2 := 15) rfl ?_
  refine x_idiv C dX4_fits_15 (by decide) (pc2 := 16) rfl ?_
  refine x_istore C dX4_fits_16 (by decide) (lv2 := [(5, .int ((u1 32 (x3).toNatClampNeg) / (4 : Int32))), (4, .int r1), (0, .ref (ad 31)), (1, .ref (ad 1)), (2, .int x2), (3, .int x3)]) rfl (pc2 := 18) rfl ?_
  refine x_aload_n C dX4_fits_18 2 rfl (pc2 := 19) rfl ?_
  refine x_get C hiX4 31 (xc_31 ad cI cB _) rfl 0 (by decide) f9 (v := .ref (ad 32)) rfl dX4_fits_19 (pc2 := 22) rfl ?_
  refine x_iload_n C dX4_fits_22 5 rfl (pc2 := 23) rfl ?_
  refine x_iald C h 32 0 (xc_32 ad cI cB _) rfl dX4_fits_23 (pc2 := 24) rfl (fun h => ?_)
  refine x_iconst (v := (4 : Int32)) C dX4_fits_24 (by decide) (pc2 := 25) rfl ?_
  refine x_irem C dX4_fits_25 (by decide) (pc2 := 26) rfl ?_
  refine x_istore C dX4_fits_26 (by decide) (lv2 := [(6, .int ((u1 32 (x3).toNatClampNeg) - (u1 32 (x3).toNatClampNeg) / (4 : Int32) * (4 : Int32))), (5, .int ((u1 32 (x3).toNatClampNeg) / (4 : Int32))), (4, .int r1), (0, .ref (ad 31)), (1, .ref (ad 1)), (2, .int x2), (3, .int x3)]) rfl (pc2 := 28) rfl ?_
  refine x_iload_n C dX4_fits_28 6 rfl (pc2 := 29) rfl ?_
  refine x_if_le C h dX4_fits_29 (tgt := 49) (by decide) (pc2 := 32) rfl (fun h => ?_) (fun h => ?_)
  · refine x_sub [3, 4, 5, 6, 2, 1, 0] (lv2 := [(0, .ref (ad 31)), (1, .ref (ad 1)), (2, .int x2), (3, .int x3), (4, .int r1), (5, .int ((u1 32 (x3).toNatClampNeg) / (4 : Int32))), (6, .int ((u1 32 (x3).toNatClampNeg) - (u1 32 (x3).toNatClampNeg) / (4 : Int32) * (4 : Int32)))]) rfl ?_
    exact J49 _ _ _ _ _ _ h
  · refine x_aload_n C dX4_fits_32 3 rfl (pc2 := 33) rfl ?_
    refine x_get C hiX4 31 (xc_31 ad cI cB _) rfl 0 (by decide) f9 (v := .ref (ad 32)) rfl dX4_fits_33 (pc2 := 36) rfl ?_
    refine x_iload_n C dX4_fits_36 6 rfl (pc2 := 37) rfl ?_
    refine x_iald C h 32 0 (xc_32 ad cI cB _) rfl dX4_fits_37 (pc2 := 38) rfl (fun h => ?_)
    refine x_aload_n C dX4_fits_38 3 rfl (pc2 := 39) rfl ?_
    refine x_get C hiX4 31 (xc_31 ad cI cB _) rfl 0 (by decide) f9 (v := .ref (ad 32)) rfl dX4_fits_39 (pc2 := 42) rfl ?_
    refine x_iload_n C dX4_fits_42 6 rfl (pc2 := 43) rfl ?_
    refine x_iconst (v := (1 : Int32)) C dX4_fits_43 (by decide) (pc2 := 44) rfl ?_
    refine x_isub C dX4_fits_44 (pc2 := 45) rfl ?_
    refine x_iald C h 32 0 (xc_32 ad cI cB _) rfl dX4_fits_45 (pc2 := 46) rfl (fun h => ?_)
    refine x_icmp_le C h dX4_fits_46 (tgt := 61) (by decide) (pc2 := 49) rfl (fun h => ?_) (fun h => ?_)
    · refine x_iconst (v := (0 : Int32)) C dX4_fits_61 (by decide) (pc2 := 62) rfl ?_
      exact x_zretL C hr hlocks h rfl dX4_fits_62
    · refine x_sub [3, 4, 5, 6, 2, 1, 0] (lv2 := [(0, .ref (ad 31)), (1, .ref (ad 1)), (2, .int x2), (3, .int x3), (4, .int r1), (5, .int ((u1 32 (x3).toNatClampNeg) / (4 : Int32))), (6, .int ((u1 32 (x3).toNatClampNeg) - (u1 32 (x3).toNatClampNeg) / (4 : Int32) * (4 : Int32)))]) rfl ?_
      exact J49 _ _ _ _ _ _ h
set_option maxRecDepth 100000 in
set_option maxHeartbeats 4000000 in
theorem c_X4_keep (l : Launch) (D : va_G) (A : Nat → Prop) (ad : Nat → Nat) (cI cB : ClassId) (u : Mem) (x1 : Int32) : Ctv l yX4_keep wsX4_keep { frames := 1, cells := 0, slots := 0, locals := 60 } D A (XW ad cI cB) [(cI, .int), (cB, .object "PanelPages$Book")] [.ref (ad 31), .int x1] u (e_X4_keep u x1) := by
  intro ur h
  refine Met.ofW (cc := cX4_keep) (maxL := 3) (ret := none) (by decide) rfl ?_
  intro p e s m args below meth c s₁ B hml hv
  obtain ⟨hav, hP, hK, hD⟩ := hv
  have C : Cx p m c cX4_keep 3 s args wsX4_keep RX4 D [(cI, .int), (cB, .object "PanelPages$Book")] := ⟨⟨B.exec, B.bytes, hml, findClass_of_methodNamed B.named, atoms_spec (ws := wsX4_keep) B.pre⟩, hK⟩
  have hr := B.returns
  have hlocks := B.notSynchronized
  have hiX4 : ∀ w ∈ wsX40, w ∈ wsX4_keep := by decide +kernel
  have f15 : Cond.fieldLink RX4 15 "PanelPages$Setting" "first" "[I" ∈ wsX4_keep := by decide +kernel
  have f18 : Cond.fieldLink RX4 18 "PanelPages$Setting" "found" "I" ∈ wsX4_keep := by decide +kernel
  have f22 : Cond.fieldLink RX4 22 "PanelPages$Setting" "leastDeep" "I" ∈ wsX4_keep := by decide +kernel
  have f25 : Cond.fieldLink RX4 25 "PanelPages$Setting" "foundLeastDeep" "I" ∈ wsX4_keep := by decide +kernel
  have f9 : Cond.fieldLink RX4 9 "PanelPages$Setting" "cell" "[I" ∈ wsX4_keep := by decide +kernel
  refine x_entry2 (lv := [(0, .ref (ad 31)), (1, .int x1)]) hav hP hD (Nat.le_of_ble_eq_true rfl) rfl ?_
  unfold e_X4_keep at h
  have J71 : ∀ (u : Mem) (x2 : Int32), e_X4_keep_J71 u x2 = some ur → Wx p l e (headSpec wsX4_keep { frames := 1, cells := 0, slots := 0, locals := 60 }).room s m args below meth c (MQ below (Qvx D A (XW ad cI cB) ur) args s 0 0 A) D A 3 (XW ad cI cB) u 71 [(0, .ref (ad 31)), (2, .int x2)] [] := by
    intro u x2 h
    unfold e_X4_keep_J71 at h
    refine x_iload_n C dX4_keep_71 1 rfl (pc2 := 72) rfl ?_
    refine x_aload_n C dX4_keep_72 0 rfl (pc2 := 73) rfl ?_
    refine x_get C hiX4 31 (xc_31 ad cI cB _) rfl 3 (by decide) f22 (v := .int (u 31 3)) rfl dX4_keep_73 (pc2 := 76) rfl ?_
    refine x_icmp_ne C h dX4_keep_76 (tgt := 89) (by decide) (pc2 := 79) rfl (fun h => ?_) (fun h => ?_)
    · exact x_vret C hr hlocks h dX4_keep_89
    · refine x_aload_n C dX4_keep_79 0 rfl (pc2 := 80) rfl ?_
      refine x_dup C dX4_keep_80 rfl (pc2 := 81) rfl ?_
      refine x_get C hiX4 31 (xc_31 ad cI cB _) rfl 4 (by decide) f25 (v := .int (u 31 4)) rfl dX4_keep_81 (pc2 := 84) rfl ?_
      refine x_iconst (v := (1 : Int32)) C dX4_keep_84 (by decide) (pc2 := 85) rfl ?_
      refine x_iadd C dX4_keep_85 (pc2 := 86) rfl ?_
      refine x_put C hiX4 tyX4 tyX4_ok nmX4 31 (xc_31 ad cI cB _) rfl 4 (by decide) f25 rfl rfl (Nat.le_of_ble_eq_true rfl) (u2 := (put u 31 4 ((u 31 4) + (1 : Int32)))) (xs_31_4 ad cI cB _ _) dX4_keep_86 (pc2 := 89) rfl ?_
      exact x_vret C hr hlocks h dX4_keep_89
  have J47 : ∀ (u : Mem) (x1 : Int32) (x2 : Int32), e_X4_keep_J47 u x1 x2 = some ur → Wx p l e (headSpec wsX4_keep { frames := 1, cells := 0, slots := 0, locals := 60 }).room s m args below meth c (MQ below (Qvx D A (XW ad cI cB) ur) args s 0 0 A) D A 3 (XW ad cI cB) u 47 [(0, .ref (ad 31)), (1, .int x1), (2, .int x2)] [] := by
    intro u x1 x2 h
    unfold e_X4_keep_J47 at h
    refine x_aload_n C dX4_keep_47 0 rfl (pc2 := 48) rfl ?_
    refine x_iload_n C dX4_keep_48 2 rfl (pc2 := 49) rfl ?_
    refine x_put C hiX4 tyX4 tyX4_ok nmX4 31 (xc_31 ad cI cB _) rfl 3 (by decide) f22 rfl rfl (Nat.le_of_ble_eq_true rfl) (u2 := (put u 31 3 x2)) (xs_31_3 ad cI cB _ _) dX4_keep_49 (pc2 := 52) rfl ?_
    refine x_aload_n C dX4_keep_52 0 rfl (pc2 := 53) rfl ?_
    refine x_iconst (v := (0 : Int32)) C dX4_keep_53 (by decide) (pc2 := 54) rfl ?_
    refine x_put C hiX4 tyX4 tyX4_ok nmX4 31 (xc_31 ad cI cB _) rfl 4 (by decide) f25 rfl rfl (Nat.le_of_ble_eq_true rfl) (u2 := (put (put u 31 3 x2) 31 4 (0 : Int32))) (xs_31_4 ad cI cB _ _) dX4_keep_54 (pc2 := 57) rfl ?_
    refine x_aload_n C dX4_keep_57 0 rfl (pc2 := 58) rfl ?_
    refine x_get C hiX4 31 (xc_31 ad cI cB _) rfl 0 (by decide) f9 (v := .ref (ad 32)) rfl dX4_keep_58 (pc2 := 61) rfl ?_
    refine x_iconst (v := (0 : Int32)) C dX4_keep_61 (by decide) (pc2 := 62) rfl ?_
    refine x_aload_n C dX4_keep_62 0 rfl (pc2 := 63) rfl ?_
    refine x_get C hiX4 31 (xc_31 ad cI cB _) rfl 1 (by decide) f15 (v := .ref (ad 33)) rfl dX4_keep_63 (pc2 := 66) rfl ?_
    refine x_iconst (v := (0 : Int32)) C dX4_keep_66 (by decide) (pc2 := 67) rfl ?_
    refine x_iload_n C dX4_keep_67 1 rfl (pc2 := 68) rfl ?_
    refine x_copyi (index := 45) C (by decide +kernel) (by decide +kernel) (by decide +kernel) (by decide +kernel) 32 33 0 (xc_32 ad cI cB _) (xc_33 ad cI cB _) rfl h (Nat.le_of_ble_eq_true rfl) (Nat.le_of_ble_eq_true rfl) (u2 := (cpy (put (put u 31 3 x2) 31 4 (0 : Int32)) 32 33 (x1).toNatClampNeg)) (xcp_32_33 ad cI cB _ _) dX4_keep_68 (pc2 := 71) rfl (fun h => ?_)
    refine x_sub [0, 2] (lv2 := [(0, .ref (ad 31)), (2, .int x2)]) rfl ?_
    exact J71 _ _ h
  have J20 : ∀ (u : Mem) (x1 : Int32) (s0 : Int32), e_X4_keep_J20 u x1 s0 = some ur → Wx p l e (headSpec wsX4_keep { frames := 1, cells := 0, slots := 0, locals := 60 }).room s m args below meth c (MQ below (Qvx D A (XW ad cI cB) ur) args s 0 0 A) D A 3 (XW ad cI cB) u 20 [(0, .ref (ad 31)), (1, .int x1)] [.int s0] := by
    intro u x1 s0 h
    unfold e_X4_keep_J20 at h
    refine x_istore_n C dX4_keep_20 (by decide) (lv2 := [(2, .int s0), (0, .ref (ad 31)), (1, .int x1)]) rfl (pc2 := 21) rfl ?_
    refine x_aload_n C dX4_keep_21 1 rfl (pc2 := 22) rfl ?_
    refine x_dup C dX4_keep_22 rfl (pc2 := 23) rfl ?_
    refine x_get C hiX4 31 (xc_31 ad cI cB _) rfl 2 (by decide) f18 (v := .int (u 31 2)) rfl dX4_keep_23 (pc2 := 26) rfl ?_
    refine x_iconst (v := (1 : Int32)) C dX4_keep_26 (by decide) (pc2 := 27) rfl ?_
    refine x_iadd C dX4_keep_27 (pc2 := 28) rfl ?_
    refine x_put C hiX4 tyX4 tyX4_ok nmX4 31 (xc_31 ad cI cB _) rfl 2 (by decide) f18 rfl rfl (Nat.le_of_ble_eq_true rfl) (u2 := (put u 31 2 ((u 31 2) + (1 : Int32)))) (xs_31_2 ad cI cB _ _) dX4_keep_28 (pc2 := 31) rfl ?_
    refine x_aload_n C dX4_keep_31 1 rfl (pc2 := 32) rfl ?_
    refine x_get C hiX4 31 (xc_31 ad cI cB _) rfl 2 (by decide) f18 (v := .int ((put u 31 2 ((u 31 2) + (1 : Int32))) 31 2)) rfl dX4_keep_32 (pc2 := 35) rfl ?_
    refine x_tope (y := ((u 31 2) + (1 : Int32))) rfl ?_
    refine x_iconst (v := (1 : Int32)) C dX4_keep_35 (by decide) (pc2 := 36) rfl ?_
    refine x_icmp_eq C h dX4_keep_36 (tgt := 47) (by decide) (pc2 := 39) rfl (fun h => ?_) (fun h => ?_)
    · refine x_sub [1, 2, 0] (lv2 := [(0, .ref (ad 31)), (1, .int x1), (2, .int s0)]) rfl ?_
      exact J47 _ _ _ h
    · refine x_iload_n C dX4_keep_39 0 rfl (pc2 := 40) rfl ?_
      refine x_aload_n C dX4_keep_40 1 rfl (pc2 := 41) rfl ?_
      refine x_get C hiX4 31 (xc_31 ad cI cB _) rfl 3 (by decide) f22 (v := .int ((put u 31 2 ((u 31 2) + (1 : Int32))) 31 3)) rfl dX4_keep_41 (pc2 := 44) rfl ?_
      refine x_tope (y := (u 31 3)) rfl ?_
      refine x_icmp_ge C h dX4_keep_44 (tgt := 71) (by decide) (pc2 := 47) rfl (fun h => ?_) (fun h => ?_)
      · refine x_sub [1, 0] (lv2 := [(0, .ref (ad 31)), (2, .int s0)]) rfl ?_
        exact J71 _ _ h
      · refine x_sub [1, 2, 0] (lv2 := [(0, .ref (ad 31)), (1, .int x1), (2, .int s0)]) rfl ?_
        exact J47 _ _ _ h
  refine x_iload_n C dX4_keep_0 1 rfl (pc2 := 1) rfl ?_
  refine x_if_ne C h dX4_keep_1 (tgt := 8) (by decide) (pc2 := 4) rfl (fun h => ?_) (fun h => ?_)
  · refine x_aload_n C dX4_keep_8 0 rfl (pc2 := 9) rfl ?_
    refine x_get C hiX4 31 (xc_31 ad cI cB _) rfl 0 (by decide) f9 (v := .ref (ad 32)) rfl dX4_keep_9 (pc2 := 12) rfl ?_
    refine x_iload_n C dX4_keep_12 1 rfl (pc2 := 13) rfl ?_
    refine x_iconst (v := (1 : Int32)) C dX4_keep_13 (by decide) (pc2 := 14) rfl ?_
    refine x_isub C dX4_keep_14 (pc2 := 15) rfl ?_
    refine x_iald C h 32 0 (xc_32 ad cI cB _) rfl dX4_keep_15 (pc2 := 16) rfl (fun h => ?_)
    refine x_iconst (v := (4 : Int32)) C dX4_keep_16 (by decide) (pc2 := 17) rfl ?_
    refine x_idiv C dX4_keep_17 (by decide) (pc2 := 18) rfl ?_
    refine x_iconst (v := (1 : Int32)) C dX4_keep_18 (by decide) (pc2 := 19) rfl ?_
    refine x_iadd C dX4_keep_19 (pc2 := 20) rfl ?_
    exact J20 _ _ _ h
  · refine x_iconst (v := (0 : Int32)) C dX4_keep_4 (by decide) (pc2 := 5) rfl ?_
    refine x_goto C dX4_keep_5 (pc2 := 20) (by decide) ?_
    exact J20 _ _ _ h
set_option maxRecDepth 100000 in
set_option maxHeartbeats 4000000 in
theorem c_X4_setFrom (l : Launch) (D : va_G) (A : Nat → Prop) (ad : Nat → Nat) (cI cB : ClassId) (d : Nat) (u : Mem) (x2 : Int32) (x3 : Int32) : Ctv l yX4_setFrom wsX4_setFrom { frames := 2 + d, cells := 0, slots := 0, locals := 82 + 24 * d } D A (XW ad cI cB) [(cI, .int), (cB, .object "PanelPages$Book")] [.ref (ad 31), .ref (ad 1), .int x2, .int x3] u (e_X4_setFrom d u x2 x3) := by
  induction d generalizing u x2 x3 with
  | zero => intro ur h; cases h
  | succ d hself =>
    intro ur h
    refine Met.ofW (cc := cX4_setFrom) (maxL := 5) (ret := none) (by decide) rfl ?_
    intro p e s m args below meth c s₁ B hml hv
    obtain ⟨hav, hP, hK, hD⟩ := hv
    have C : Cx p m c cX4_setFrom 5 s args wsX4_setFrom RX4 D [(cI, .int), (cB, .object "PanelPages$Book")] := ⟨⟨B.exec, B.bytes, hml, findClass_of_methodNamed B.named, atoms_spec (ws := wsX4_setFrom) B.pre⟩, hK⟩
    have hr := B.returns
    have hlocks := B.notSynchronized
    have hiX0 : ∀ w ∈ wsX00, w ∈ wsX4_setFrom := by decide +kernel
    have hiX4 : ∀ w ∈ wsX40, w ∈ wsX4_setFrom := by decide +kernel
    have f32 : Cond.fieldLink RX4 32 "PanelPages$Book" "balloons" "[I" ∈ wsX4_setFrom := by decide +kernel
    have f9 : Cond.fieldLink RX4 9 "PanelPages$Setting" "cell" "[I" ∈ wsX4_setFrom := by decide +kernel
    refine x_entry2 (lv := [(0, .ref (ad 31)), (1, .ref (ad 1)), (2, .int x2), (3, .int x3)]) hav hP hD (Nat.le_of_ble_eq_true rfl) rfl ?_
    replace h : e_X4_setFrom_b (e_X4_setFrom d) u x2 x3 = some ur := h
    clear hP
    unfold e_X4_setFrom_b at h
    have J58 : ∀ (k24 : Mem → Int32 → Int32 → Int32 → Option Mem), (∀ (u : Mem) (x2 : Int32) (x3 : Int32) (x4 : Int32), k24 u x2 x3 x4 = some ur → Wx p l e (headSpec wsX4_setFrom { frames := 2 + (d + 1), cells := 0, slots := 0, locals := 82 + 24 * (d + 1) }).room s m args below meth c (MQ below (Qvx D A (XW ad cI cB) ur) args s 0 0 A) D A 5 (XW ad cI cB) u 24 [(0, .ref (ad 31)), (1, .ref (ad 1)), (2, .int x2), (3, .int x3), (4, .int x4)] []) → ∀ (u : Mem) (x2 : Int32) (x3 : Int32) (x4 : Int32), e_X4_setFrom_J58 (e_X4_setFrom d) k24 u x2 x3 x4 = some ur → Wx p l e (headSpec wsX4_setFrom { frames := 2 + (d + 1), cells := 0, slots := 0, locals := 82 + 24 * (d + 1) }).room s m args below meth c (MQ below (Qvx D A (XW ad cI cB) ur) args s 0 0 A) D A 5 (XW ad cI cB) u 58 [(0, .ref (ad 31)), (1, .ref (ad 1)), (2, .int x2), (3, .int x3), (4, .int x4)] [] := by
      intro k24 hk24 
      intro u x2 x3 x4 h
      unfold e_X4_setFrom_J58 at h
      refine x_iinc C dX4_setFrom_58 4 rfl (1 : Int32) (by decide) rfl (by decide) (lv2 := [(4, .int (x4 + (1 : Int32))), (0, .ref (ad 31)), (1, .ref (ad 1)), (2, .int x2), (3, .int x3)]) rfl (pc2 := 61) rfl ?_
      refine x_goto C dX4_setFrom_61 (pc2 := 24) (by decide) ?_
      refine x_sub [1, 2, 3, 4, 0] (lv2 := [(0, .ref (ad 31)), (1, .ref (ad 1)), (2, .int x2), (3, .int x3), (4, .int (x4 + (1 : Int32)))]) rfl ?_
      exact hk24 _ _ _ _ h
    have J15 : ∀ (u : Mem) (x3 : Int32), e_X4_setFrom_J15 (e_X4_setFrom d) u x3 = some ur → Wx p l e (headSpec wsX4_setFrom { frames := 2 + (d + 1), cells := 0, slots := 0, locals := 82 + 24 * (d + 1) }).room s m args below meth c (MQ below (Qvx D A (XW ad cI cB) ur) args s 0 0 A) D A 5 (XW ad cI cB) u 15 [(0, .ref (ad 31)), (3, .int x3)] [] := by
      intro u x3 h
      unfold e_X4_setFrom_J15 at h
      refine x_aload_n C dX4_setFrom_15 0 rfl (pc2 := 16) rfl ?_
      refine x_iload_n C dX4_setFrom_16 1 rfl (pc2 := 17) rfl ?_
      refine x_callVv (As := [.int x3]) (rest := []) (index := 37) (n := 1) C h (c_X4_keep l D A ad cI cB _ _) gX4_setFrom_X4_keep rfl (by decide +kernel) rfl rfl ⟨by simp only [headSpec]; omega, by simp only [headSpec]; omega⟩ (ci := 4) rfl rfl (xc_31 ad cI cB _) (XW_D ad cI cB _) rfl rfl (Nat.le_of_ble_eq_true rfl) dX4_setFrom_17 (pc2 := 20) rfl (fun u3 h => ?_)
      exact x_vret C hr hlocks h dX4_setFrom_20
    have J24 : ∀ (f : Nat) (u : Mem) (x2 : Int32) (x3 : Int32) (x4 : Int32), e_X4_setFrom_L24 (e_X4_setFrom d) f u x2 x3 x4 = some ur → Wx p l e (headSpec wsX4_setFrom { frames := 2 + (d + 1), cells := 0, slots := 0, locals := 82 + 24 * (d + 1) }).room s m args below meth c (MQ below (Qvx D A (XW ad cI cB) ur) args s 0 0 A) D A 5 (XW ad cI cB) u 24 [(0, .ref (ad 31)), (1, .ref (ad 1)), (2, .int x2), (3, .int x3), (4, .int x4)] [] := by
      intro f
      induction f with
      | zero => intro u x2 x3 x4 h; cases h
      | succ f ih =>
        intro u x2 x3 x4 h
        replace h : e_X4_setFrom_L24_b (e_X4_setFrom d) (e_X4_setFrom_L24 (e_X4_setFrom d) f) u x2 x3 x4 = some ur := h
        unfold e_X4_setFrom_L24_b at h
        refine x_iload C dX4_setFrom_24 4 rfl (pc2 := 26) rfl ?_
        refine x_bipush (v := (12 : Int32)) C dX4_setFrom_26 (by decide) (pc2 := 28) rfl ?_
        refine x_icmp_ge C h dX4_setFrom_28 (tgt := 64) (by decide) (pc2 := 31) rfl (fun h => ?_) (fun h => ?_)
        · exact x_vret C hr hlocks h dX4_setFrom_64
        · refine x_aload_n C dX4_setFrom_31 0 rfl (pc2 := 32) rfl ?_
          refine x_get C hiX4 31 (xc_31 ad cI cB _) rfl 0 (by decide) f9 (v := .ref (ad 32)) rfl dX4_setFrom_32 (pc2 := 35) rfl ?_
          refine x_iload_n C dX4_setFrom_35 3 rfl (pc2 := 36) rfl ?_
          refine x_iload C dX4_setFrom_36 4 rfl (pc2 := 38) rfl ?_
          refine x_iast C h 32 0 (xc_32 ad cI cB _) rfl (u2 := (put u 32 (x3).toNatClampNeg x4)) (xs_32 ad cI cB _ _ _) dX4_setFrom_38 (pc2 := 39) rfl (fun h => ?_)
          refine x_aload_n C dX4_setFrom_39 0 rfl (pc2 := 40) rfl ?_
          refine x_aload_n C dX4_setFrom_40 1 rfl (pc2 := 41) rfl ?_
          refine x_iload_n C dX4_setFrom_41 2 rfl (pc2 := 42) rfl ?_
          refine x_iload_n C dX4_setFrom_42 3 rfl (pc2 := 43) rfl ?_
          refine x_callVi (As := [.ref (ad 1), .int x2, .int x3]) (rest := []) (index := 41) (n := 3) C h (c_X4_fits l D A ad cI cB _ _ _) gX4_setFrom_X4_fits rfl (by decide +kernel) rfl rfl ⟨by simp only [headSpec]; omega, by simp only [headSpec]; omega⟩ (ci := 4) rfl rfl (xc_31 ad cI cB _) (XW_D ad cI cB _) rfl rfl (Nat.le_of_ble_eq_true rfl) dX4_setFrom_43 (pc2 := 46) rfl (fun r1 u1 h => ?_)
          refine x_if_eq C h dX4_setFrom_46 (tgt := 58) (by decide) (pc2 := 49) rfl (fun h => ?_) (fun h => ?_)
          · exact J58 (e_X4_setFrom_L24 (e_X4_setFrom d) f) ih _ _ _ _ h
          · refine x_aload_n C dX4_setFrom_49 0 rfl (pc2 := 50) rfl ?_
            refine x_aload_n C dX4_setFrom_50 1 rfl (pc2 := 51) rfl ?_
            refine x_iload_n C dX4_setFrom_51 2 rfl (pc2 := 52) rfl ?_
            refine x_iload_n C dX4_setFrom_52 3 rfl (pc2 := 53) rfl ?_
            refine x_iconst (v := (1 : Int32)) C dX4_setFrom_53 (by decide) (pc2 := 54) rfl ?_
            refine x_iadd C dX4_setFrom_54 (pc2 := 55) rfl ?_
            refine x_callVv (As := [.ref (ad 1), .int x2, .int (x3 + (1 : Int32))]) (rest := []) (index := 28) (n := 3) C h (hself _ _ _) gX4_setFrom_X4_setFrom rfl (by decide +kernel) rfl rfl ⟨by simp only [headSpec]; omega, by simp only [headSpec]; omega⟩ (ci := 4) rfl rfl (xc_31 ad cI cB _) (XW_D ad cI cB _) rfl rfl (Nat.le_of_ble_eq_true rfl) dX4_setFrom_55 (pc2 := 58) rfl (fun u2 h => ?_)
            exact J58 (e_X4_setFrom_L24 (e_X4_setFrom d) f) ih _ _ _ _ h
    refine x_iload_n C dX4_setFrom_0 3 rfl (pc2 := 1) rfl ?_
    refine x_aload_n C dX4_setFrom_1 1 rfl (pc2 := 2) rfl ?_
    refine x_get C hiX0 1 (xc_1 ad cI cB _) rfl 5 (by decide) f32 (v := .ref (ad 5)) rfl dX4_setFrom_2 (pc2 := 5) rfl ?_
    refine x_iload_n C dX4_setFrom_5 2 rfl (pc2 := 6) rfl ?_
    refine x_iald C h 5 0 (xc_5 ad cI cB _) rfl dX4_setFrom_6 (pc2 := 7) rfl (fun h => ?_)
    refine x_icmp_ge C h dX4_setFrom_7 (tgt := 15) (by decide) (pc2 := 10) rfl (fun h => ?_) (fun h => ?_)
    · refine x_sub [0, 3] (lv2 := [(0, .ref (ad 31)), (3, .int x3)]) rfl ?_
      exact J15 _ _ h
    · refine x_iload_n C dX4_setFrom_10 3 rfl (pc2 := 11) rfl ?_
      refine x_iconst (v := (4 : Int32)) C dX4_setFrom_11 (by decide) (pc2 := 12) rfl ?_
      refine x_icmp_lt C h dX4_setFrom_12 (tgt := 21) (by decide) (pc2 := 15) rfl (fun h => ?_) (fun h => ?_)
      · refine x_iconst (v := (0 : Int32)) C dX4_setFrom_21 (by decide) (pc2 := 22) rfl ?_
        refine x_istore C dX4_setFrom_22 (by decide) (lv2 := [(4, .int (0 : Int32)), (0, .ref (ad 31)), (1, .ref (ad 1)), (2, .int x2), (3, .int x3)]) rfl (pc2 := 24) rfl ?_
        refine x_sub [1, 2, 3, 4, 0] (lv2 := [(0, .ref (ad 31)), (1, .ref (ad 1)), (2, .int x2), (3, .int x3), (4, .int (0 : Int32))]) rfl ?_
        exact J24 FU _ _ _ _ h
      · refine x_sub [0, 3] (lv2 := [(0, .ref (ad 31)), (3, .int x3)]) rfl ?_
        exact J15 _ _ h
set_option maxRecDepth 100000 in
set_option maxHeartbeats 4000000 in
theorem c_X4_findGood (l : Launch) (D : va_G) (A : Nat → Prop) (ad : Nat → Nat) (cI cB : ClassId) (u : Mem) (x2 : Int32) : Ctv l yX4_findGood wsX4_findGood { frames := 15, cells := 0, slots := 0, locals := 394 } D A (XW ad cI cB) [(cI, .int), (cB, .object "PanelPages$Book")] [.ref (ad 31), .ref (ad 1), .int x2] u (e_X4_findGood u x2) := by
  intro ur h
  refine Met.ofW (cc := cX4_findGood) (maxL := 3) (ret := none) (by decide) rfl ?_
  intro p e s m args below meth c s₁ B hml hv
  obtain ⟨hav, hP, hK, hD⟩ := hv
  have C : Cx p m c cX4_findGood 3 s args wsX4_findGood RX4 D [(cI, .int), (cB, .object "PanelPages$Book")] := ⟨⟨B.exec, B.bytes, hml, findClass_of_methodNamed B.named, atoms_spec (ws := wsX4_findGood) B.pre⟩, hK⟩
  have hr := B.returns
  have hlocks := B.notSynchronized
  have hiX4 : ∀ w ∈ wsX40, w ∈ wsX4_findGood := by decide +kernel
  have f18 : Cond.fieldLink RX4 18 "PanelPages$Setting" "found" "I" ∈ wsX4_findGood := by decide +kernel
  have f22 : Cond.fieldLink RX4 22 "PanelPages$Setting" "leastDeep" "I" ∈ wsX4_findGood := by decide +kernel
  have f25 : Cond.fieldLink RX4 25 "PanelPages$Setting" "foundLeastDeep" "I" ∈ wsX4_findGood := by decide +kernel
  refine x_entry2 (lv := [(0, .ref (ad 31)), (1, .ref (ad 1)), (2, .int x2)]) hav hP hD (Nat.le_of_ble_eq_true rfl) rfl ?_
  unfold e_X4_findGood at h
  refine x_aload_n C dX4_findGood_0 0 rfl (pc2 := 1) rfl ?_
  refine x_iconst (v := (0 : Int32)) C dX4_findGood_1 (by decide) (pc2 := 2) rfl ?_
  refine x_put C hiX4 tyX4 tyX4_ok nmX4 31 (xc_31 ad cI cB _) rfl 2 (by decide) f18 rfl rfl (Nat.le_of_ble_eq_true rfl) (u2 := (put u 31 2 (0 : Int32))) (xs_31_2 ad cI cB _ _) dX4_findGood_2 (pc2 := 5) rfl ?_
  refine x_aload_n C dX4_findGood_5 0 rfl (pc2 := 6) rfl ?_
  refine x_iconst (v := (0 : Int32)) C dX4_findGood_6 (by decide) (pc2 := 7) rfl ?_
  refine x_put C hiX4 tyX4 tyX4_ok nmX4 31 (xc_31 ad cI cB _) rfl 3 (by decide) f22 rfl rfl (Nat.le_of_ble_eq_true rfl) (u2 := (put (put u 31 2 (0 : Int32)) 31 3 (0 : Int32))) (xs_31_3 ad cI cB _ _) dX4_findGood_7 (pc2 := 10) rfl ?_
  refine x_aload_n C dX4_findGood_10 0 rfl (pc2 := 11) rfl ?_
  refine x_iconst (v := (0 : Int32)) C dX4_findGood_11 (by decide) (pc2 := 12) rfl ?_
  refine x_put C hiX4 tyX4 tyX4_ok nmX4 31 (xc_31 ad cI cB _) rfl 4 (by decide) f25 rfl rfl (Nat.le_of_ble_eq_true rfl) (u2 := (put (put (put u 31 2 (0 : Int32)) 31 3 (0 : Int32)) 31 4 (0 : Int32))) (xs_31_4 ad cI cB _ _) dX4_findGood_12 (pc2 := 15) rfl ?_
  refine x_aload_n C dX4_findGood_15 0 rfl (pc2 := 16) rfl ?_
  refine x_aload_n C dX4_findGood_16 1 rfl (pc2 := 17) rfl ?_
  refine x_iload_n C dX4_findGood_17 2 rfl (pc2 := 18) rfl ?_
  refine x_iconst (v := (0 : Int32)) C dX4_findGood_18 (by decide) (pc2 := 19) rfl ?_
  refine x_callVv (As := [.ref (ad 1), .int x2, .int (0 : Int32)]) (rest := []) (index := 28) (n := 3) C h (c_X4_setFrom l D A ad cI cB RD _ _ _) gX4_findGood_X4_setFrom rfl (by decide +kernel) rfl rfl ⟨Nat.le_of_ble_eq_true rfl, Nat.le_of_ble_eq_true rfl⟩ (ci := 4) rfl rfl (xc_31 ad cI cB _) (XW_D ad cI cB _) rfl rfl (Nat.le_of_ble_eq_true rfl) dX4_findGood_19 (pc2 := 22) rfl (fun u1 h => ?_)
  exact x_vret C hr hlocks h dX4_findGood_22
