set_option maxRecDepth 100000 in
set_option maxHeartbeats 4000000 in
theorem c_X0_copyFrom_35_1 (l : Launch) (D : va_G) (A : Nat → Prop) (ad : Nat → Nat) (cI cB : ClassId) (u : Mem)  : Ctv l yX0_copyFrom wsX0_copyFrom { frames := 1, cells := 0, slots := 0, locals := 60 } D A (XW ad cI cB) [(cI, .int), (cB, .object "PanelPages$Book")] [.ref (ad 35), .ref (ad 1)] u (e_X0_copyFrom_35_1 u ) := by
  intro ur h
  refine Met.ofW (cc := cX0_copyFrom) (maxL := 2) (ret := none) (by decide) rfl ?_
  intro p e s m args below meth c s₁ B hml hv
  obtain ⟨hav, hP, hK, hD⟩ := hv
  have C : Cx p m c cX0_copyFrom 2 s args wsX0_copyFrom RX0 D [(cI, .int), (cB, .object "PanelPages$Book")] := ⟨⟨B.exec, B.bytes, hml, findClass_of_methodNamed B.named, atoms_spec (ws := wsX0_copyFrom) B.pre⟩, hK⟩
  have hr := B.returns
  have hlocks := B.notSynchronized
  have hiX0 : ∀ w ∈ wsX00, w ∈ wsX0_copyFrom := by decide +kernel
  have f15 : Cond.fieldLink RX0 15 "PanelPages$Book" "high" "I" ∈ wsX0_copyFrom := by decide +kernel
  have f18 : Cond.fieldLink RX0 18 "PanelPages$Book" "weight" "[I" ∈ wsX0_copyFrom := by decide +kernel
  have f22 : Cond.fieldLink RX0 22 "PanelPages$Book" "tall" "[I" ∈ wsX0_copyFrom := by decide +kernel
  have f25 : Cond.fieldLink RX0 25 "PanelPages$Book" "kind" "[I" ∈ wsX0_copyFrom := by decide +kernel
  have f28 : Cond.fieldLink RX0 28 "PanelPages$Book" "balloons" "[I" ∈ wsX0_copyFrom := by decide +kernel
  have f31 : Cond.fieldLink RX0 31 "PanelPages$Book" "speakers" "[I" ∈ wsX0_copyFrom := by decide +kernel
  have f9 : Cond.fieldLink RX0 9 "PanelPages$Book" "panels" "I" ∈ wsX0_copyFrom := by decide +kernel
  refine x_entry2 (lv := [(0, .ref (ad 35)), (1, .ref (ad 1))]) hav hP hD (Nat.le_of_ble_eq_true rfl) rfl ?_
  unfold e_X0_copyFrom_35_1 at h
  refine x_aload_n C dX0_copyFrom_0 0 rfl (pc2 := 1) rfl ?_
  refine x_aload_n C dX0_copyFrom_1 1 rfl (pc2 := 2) rfl ?_
  refine x_get C hiX0 1 (xc_1 ad cI cB _) rfl 0 (by decide) f9 (v := .int (u 1 0)) rfl dX0_copyFrom_2 (pc2 := 5) rfl ?_
  refine x_put C hiX0 tyX0 tyX0_ok nmX0 35 (xc_35 ad cI cB _) rfl 0 (by decide) f9 rfl rfl (Nat.le_of_ble_eq_true rfl) (u2 := (put u 35 0 (u 1 0))) (xs_35_0 ad cI cB _ _) dX0_copyFrom_5 (pc2 := 8) rfl ?_
  refine x_aload_n C dX0_copyFrom_8 0 rfl (pc2 := 9) rfl ?_
  refine x_aload_n C dX0_copyFrom_9 1 rfl (pc2 := 10) rfl ?_
  refine x_get C hiX0 1 (xc_1 ad cI cB _) rfl 1 (by decide) f15 (v := .int ((put u 35 0 (u 1 0)) 1 1)) rfl dX0_copyFrom_10 (pc2 := 13) rfl ?_
  refine x_tope (y := (u 1 1)) rfl ?_
  refine x_put C hiX0 tyX0 tyX0_ok nmX0 35 (xc_35 ad cI cB _) rfl 1 (by decide) f15 rfl rfl (Nat.le_of_ble_eq_true rfl) (u2 := (put (put u 35 0 (u 1 0)) 35 1 (u 1 1))) (xs_35_1 ad cI cB _ _) dX0_copyFrom_13 (pc2 := 16) rfl ?_
  refine x_aload_n C dX0_copyFrom_16 1 rfl (pc2 := 17) rfl ?_
  refine x_get C hiX0 1 (xc_1 ad cI cB _) rfl 2 (by decide) f18 (v := .ref (ad 2)) rfl dX0_copyFrom_17 (pc2 := 20) rfl ?_
  refine x_iconst (v := (0 : Int32)) C dX0_copyFrom_20 (by decide) (pc2 := 21) rfl ?_
  refine x_aload_n C dX0_copyFrom_21 0 rfl (pc2 := 22) rfl ?_
  refine x_get C hiX0 35 (xc_35 ad cI cB _) rfl 2 (by decide) f18 (v := .ref (ad 36)) rfl dX0_copyFrom_22 (pc2 := 25) rfl ?_
  refine x_iconst (v := (0 : Int32)) C dX0_copyFrom_25 (by decide) (pc2 := 26) rfl ?_
  refine x_bipush (v := (9 : Int32)) C dX0_copyFrom_26 (by decide) (pc2 := 28) rfl ?_
  refine x_copyi (index := 34) C (by decide +kernel) (by decide +kernel) (by decide +kernel) (by decide +kernel) 2 36 0 (xc_2 ad cI cB _) (xc_36 ad cI cB _) rfl h (Nat.le_of_ble_eq_true rfl) (Nat.le_of_ble_eq_true rfl) (u2 := (cpy (put (put u 35 0 (u 1 0)) 35 1 (u 1 1)) 2 36 ((9 : Int32)).toNatClampNeg)) (xcp_2_36 ad cI cB _ _) dX0_copyFrom_28 (pc2 := 31) rfl (fun h => ?_)
  refine x_aload_n C dX0_copyFrom_31 1 rfl (pc2 := 32) rfl ?_
  refine x_get C hiX0 1 (xc_1 ad cI cB _) rfl 3 (by decide) f22 (v := .ref (ad 3)) rfl dX0_copyFrom_32 (pc2 := 35) rfl ?_
  refine x_iconst (v := (0 : Int32)) C dX0_copyFrom_35 (by decide) (pc2 := 36) rfl ?_
  refine x_aload_n C dX0_copyFrom_36 0 rfl (pc2 := 37) rfl ?_
  refine x_get C hiX0 35 (xc_35 ad cI cB _) rfl 3 (by decide) f22 (v := .ref (ad 37)) rfl dX0_copyFrom_37 (pc2 := 40) rfl ?_
  refine x_iconst (v := (0 : Int32)) C dX0_copyFrom_40 (by decide) (pc2 := 41) rfl ?_
  refine x_bipush (v := (9 : Int32)) C dX0_copyFrom_41 (by decide) (pc2 := 43) rfl ?_
  refine x_copyi (index := 34) C (by decide +kernel) (by decide +kernel) (by decide +kernel) (by decide +kernel) 3 37 0 (xc_3 ad cI cB _) (xc_37 ad cI cB _) rfl h (Nat.le_of_ble_eq_true rfl) (Nat.le_of_ble_eq_true rfl) (u2 := (cpy (cpy (put (put u 35 0 (u 1 0)) 35 1 (u 1 1)) 2 36 ((9 : Int32)).toNatClampNeg) 3 37 ((9 : Int32)).toNatClampNeg)) (xcp_3_37 ad cI cB _ _) dX0_copyFrom_43 (pc2 := 46) rfl (fun h => ?_)
  refine x_aload_n C dX0_copyFrom_46 1 rfl (pc2 := 47) rfl ?_
  refine x_get C hiX0 1 (xc_1 ad cI cB _) rfl 4 (by decide) f25 (v := .ref (ad 4)) rfl dX0_copyFrom_47 (pc2 := 50) rfl ?_
  refine x_iconst (v := (0 : Int32)) C dX0_copyFrom_50 (by decide) (pc2 := 51) rfl ?_
  refine x_aload_n C dX0_copyFrom_51 0 rfl (pc2 := 52) rfl ?_
  refine x_get C hiX0 35 (xc_35 ad cI cB _) rfl 4 (by decide) f25 (v := .ref (ad 38)) rfl dX0_copyFrom_52 (pc2 := 55) rfl ?_
  refine x_iconst (v := (0 : Int32)) C dX0_copyFrom_55 (by decide) (pc2 := 56) rfl ?_
  refine x_bipush (v := (9 : Int32)) C dX0_copyFrom_56 (by decide) (pc2 := 58) rfl ?_
  refine x_copyi (index := 34) C (by decide +kernel) (by decide +kernel) (by decide +kernel) (by decide +kernel) 4 38 0 (xc_4 ad cI cB _) (xc_38 ad cI cB _) rfl h (Nat.le_of_ble_eq_true rfl) (Nat.le_of_ble_eq_true rfl) (u2 := (cpy (cpy (cpy (put (put u 35 0 (u 1 0)) 35 1 (u 1 1)) 2 36 ((9 : Int32)).toNatClampNeg) 3 37 ((9 : Int32)).toNatClampNeg) 4 38 ((9 : Int32)).toNatClampNeg)) (xcp_4_38 ad cI cB _ _) dX0_copyFrom_58 (pc2 := 61) rfl (fun h => ?_)
  refine x_aload_n C dX0_copyFrom_61 1 rfl (pc2 := 62) rfl ?_
  refine x_get C hiX0 1 (xc_1 ad cI cB _) rfl 5 (by decide) f28 (v := .ref (ad 5)) rfl dX0_copyFrom_62 (pc2 := 65) rfl ?_
  refine x_iconst (v := (0 : Int32)) C dX0_copyFrom_65 (by decide) (pc2 := 66) rfl ?_
  refine x_aload_n C dX0_copyFrom_66 0 rfl (pc2 := 67) rfl ?_
  refine x_get C hiX0 35 (xc_35 ad cI cB _) rfl 5 (by decide) f28 (v := .ref (ad 39)) rfl dX0_copyFrom_67 (pc2 := 70) rfl ?_
  refine x_iconst (v := (0 : Int32)) C dX0_copyFrom_70 (by decide) (pc2 := 71) rfl ?_
  refine x_bipush (v := (9 : Int32)) C dX0_copyFrom_71 (by decide) (pc2 := 73) rfl ?_
  refine x_copyi (index := 34) C (by decide +kernel) (by decide +kernel) (by decide +kernel) (by decide +kernel) 5 39 0 (xc_5 ad cI cB _) (xc_39 ad cI cB _) rfl h (Nat.le_of_ble_eq_true rfl) (Nat.le_of_ble_eq_true rfl) (u2 := (cpy (cpy (cpy (cpy (put (put u 35 0 (u 1 0)) 35 1 (u 1 1)) 2 36 ((9 : Int32)).toNatClampNeg) 3 37 ((9 : Int32)).toNatClampNeg) 4 38 ((9 : Int32)).toNatClampNeg) 5 39 ((9 : Int32)).toNatClampNeg)) (xcp_5_39 ad cI cB _ _) dX0_copyFrom_73 (pc2 := 76) rfl (fun h => ?_)
  refine x_aload_n C dX0_copyFrom_76 1 rfl (pc2 := 77) rfl ?_
  refine x_get C hiX0 1 (xc_1 ad cI cB _) rfl 6 (by decide) f31 (v := .ref (ad 6)) rfl dX0_copyFrom_77 (pc2 := 80) rfl ?_
  refine x_iconst (v := (0 : Int32)) C dX0_copyFrom_80 (by decide) (pc2 := 81) rfl ?_
  refine x_aload_n C dX0_copyFrom_81 0 rfl (pc2 := 82) rfl ?_
  refine x_get C hiX0 35 (xc_35 ad cI cB _) rfl 6 (by decide) f31 (v := .ref (ad 40)) rfl dX0_copyFrom_82 (pc2 := 85) rfl ?_
  refine x_iconst (v := (0 : Int32)) C dX0_copyFrom_85 (by decide) (pc2 := 86) rfl ?_
  refine x_bipush (v := (36 : Int32)) C dX0_copyFrom_86 (by decide) (pc2 := 88) rfl ?_
  refine x_copyi (index := 34) C (by decide +kernel) (by decide +kernel) (by decide +kernel) (by decide +kernel) 6 40 0 (xc_6 ad cI cB _) (xc_40 ad cI cB _) rfl h (Nat.le_of_ble_eq_true rfl) (Nat.le_of_ble_eq_true rfl) (u2 := (cpy (cpy (cpy (cpy (cpy (put (put u 35 0 (u 1 0)) 35 1 (u 1 1)) 2 36 ((9 : Int32)).toNatClampNeg) 3 37 ((9 : Int32)).toNatClampNeg) 4 38 ((9 : Int32)).toNatClampNeg) 5 39 ((9 : Int32)).toNatClampNeg) 6 40 ((36 : Int32)).toNatClampNeg)) (xcp_6_40 ad cI cB _ _) dX0_copyFrom_88 (pc2 := 91) rfl (fun h => ?_)
  exact x_vret C hr hlocks h dX0_copyFrom_91
set_option maxRecDepth 100000 in
set_option maxHeartbeats 4000000 in
theorem c_X0_copyFrom_41_1 (l : Launch) (D : va_G) (A : Nat → Prop) (ad : Nat → Nat) (cI cB : ClassId) (u : Mem)  : Ctv l yX0_copyFrom wsX0_copyFrom { frames := 1, cells := 0, slots := 0, locals := 60 } D A (XW ad cI cB) [(cI, .int), (cB, .object "PanelPages$Book")] [.ref (ad 41), .ref (ad 1)] u (e_X0_copyFrom_41_1 u ) := by
  intro ur h
  refine Met.ofW (cc := cX0_copyFrom) (maxL := 2) (ret := none) (by decide) rfl ?_
  intro p e s m args below meth c s₁ B hml hv
  obtain ⟨hav, hP, hK, hD⟩ := hv
  have C : Cx p m c cX0_copyFrom 2 s args wsX0_copyFrom RX0 D [(cI, .int), (cB, .object "PanelPages$Book")] := ⟨⟨B.exec, B.bytes, hml, findClass_of_methodNamed B.named, atoms_spec (ws := wsX0_copyFrom) B.pre⟩, hK⟩
  have hr := B.returns
  have hlocks := B.notSynchronized
  have hiX0 : ∀ w ∈ wsX00, w ∈ wsX0_copyFrom := by decide +kernel
  have f15 : Cond.fieldLink RX0 15 "PanelPages$Book" "high" "I" ∈ wsX0_copyFrom := by decide +kernel
  have f18 : Cond.fieldLink RX0 18 "PanelPages$Book" "weight" "[I" ∈ wsX0_copyFrom := by decide +kernel
  have f22 : Cond.fieldLink RX0 22 "PanelPages$Book" "tall" "[I" ∈ wsX0_copyFrom := by decide +kernel
  have f25 : Cond.fieldLink RX0 25 "PanelPages$Book" "kind" "[I" ∈ wsX0_copyFrom := by decide +kernel
  have f28 : Cond.fieldLink RX0 28 "PanelPages$Book" "balloons" "[I" ∈ wsX0_copyFrom := by decide +kernel
  have f31 : Cond.fieldLink RX0 31 "PanelPages$Book" "speakers" "[I" ∈ wsX0_copyFrom := by decide +kernel
  have f9 : Cond.fieldLink RX0 9 "PanelPages$Book" "panels" "I" ∈ wsX0_copyFrom := by decide +kernel
  refine x_entry2 (lv := [(0, .ref (ad 41)), (1, .ref (ad 1))]) hav hP hD (Nat.le_of_ble_eq_true rfl) rfl ?_
  unfold e_X0_copyFrom_41_1 at h
  refine x_aload_n C dX0_copyFrom_0 0 rfl (pc2 := 1) rfl ?_
  refine x_aload_n C dX0_copyFrom_1 1 rfl (pc2 := 2) rfl ?_
  refine x_get C hiX0 1 (xc_1 ad cI cB _) rfl 0 (by decide) f9 (v := .int (u 1 0)) rfl dX0_copyFrom_2 (pc2 := 5) rfl ?_
  refine x_put C hiX0 tyX0 tyX0_ok nmX0 41 (xc_41 ad cI cB _) rfl 0 (by decide) f9 rfl rfl (Nat.le_of_ble_eq_true rfl) (u2 := (put u 41 0 (u 1 0))) (xs_41_0 ad cI cB _ _) dX0_copyFrom_5 (pc2 := 8) rfl ?_
  refine x_aload_n C dX0_copyFrom_8 0 rfl (pc2 := 9) rfl ?_
  refine x_aload_n C dX0_copyFrom_9 1 rfl (pc2 := 10) rfl ?_
  refine x_get C hiX0 1 (xc_1 ad cI cB _) rfl 1 (by decide) f15 (v := .int ((put u 41 0 (u 1 0)) 1 1)) rfl dX0_copyFrom_10 (pc2 := 13) rfl ?_
  refine x_tope (y := (u 1 1)) rfl ?_
  refine x_put C hiX0 tyX0 tyX0_ok nmX0 41 (xc_41 ad cI cB _) rfl 1 (by decide) f15 rfl rfl (Nat.le_of_ble_eq_true rfl) (u2 := (put (put u 41 0 (u 1 0)) 41 1 (u 1 1))) (xs_41_1 ad cI cB _ _) dX0_copyFrom_13 (pc2 := 16) rfl ?_
  refine x_aload_n C dX0_copyFrom_16 1 rfl (pc2 := 17) rfl ?_
  refine x_get C hiX0 1 (xc_1 ad cI cB _) rfl 2 (by decide) f18 (v := .ref (ad 2)) rfl dX0_copyFrom_17 (pc2 := 20) rfl ?_
  refine x_iconst (v := (0 : Int32)) C dX0_copyFrom_20 (by decide) (pc2 := 21) rfl ?_
  refine x_aload_n C dX0_copyFrom_21 0 rfl (pc2 := 22) rfl ?_
  refine x_get C hiX0 41 (xc_41 ad cI cB _) rfl 2 (by decide) f18 (v := .ref (ad 42)) rfl dX0_copyFrom_22 (pc2 := 25) rfl ?_
  refine x_iconst (v := (0 : Int32)) C dX0_copyFrom_25 (by decide) (pc2 := 26) rfl ?_
  refine x_bipush (v := (9 : Int32)) C dX0_copyFrom_26 (by decide) (pc2 := 28) rfl ?_
  refine x_copyi (index := 34) C (by decide +kernel) (by decide +kernel) (by decide +kernel) (by decide +kernel) 2 42 0 (xc_2 ad cI cB _) (xc_42 ad cI cB _) rfl h (Nat.le_of_ble_eq_true rfl) (Nat.le_of_ble_eq_true rfl) (u2 := (cpy (put (put u 41 0 (u 1 0)) 41 1 (u 1 1)) 2 42 ((9 : Int32)).toNatClampNeg)) (xcp_2_42 ad cI cB _ _) dX0_copyFrom_28 (pc2 := 31) rfl (fun h => ?_)
  refine x_aload_n C dX0_copyFrom_31 1 rfl (pc2 := 32) rfl ?_
  refine x_get C hiX0 1 (xc_1 ad cI cB _) rfl 3 (by decide) f22 (v := .ref (ad 3)) rfl dX0_copyFrom_32 (pc2 := 35) rfl ?_
  refine x_iconst (v := (0 : Int32)) C dX0_copyFrom_35 (by decide) (pc2 := 36) rfl ?_
  refine x_aload_n C dX0_copyFrom_36 0 rfl (pc2 := 37) rfl ?_
  refine x_get C hiX0 41 (xc_41 ad cI cB _) rfl 3 (by decide) f22 (v := .ref (ad 43)) rfl dX0_copyFrom_37 (pc2 := 40) rfl ?_
  refine x_iconst (v := (0 : Int32)) C dX0_copyFrom_40 (by decide) (pc2 := 41) rfl ?_
  refine x_bipush (v := (9 : Int32)) C dX0_copyFrom_41 (by decide) (pc2 := 43) rfl ?_
  refine x_copyi (index := 34) C (by decide +kernel) (by decide +kernel) (by decide +kernel) (by decide +kernel) 3 43 0 (xc_3 ad cI cB _) (xc_43 ad cI cB _) rfl h (Nat.le_of_ble_eq_true rfl) (Nat.le_of_ble_eq_true rfl) (u2 := (cpy (cpy (put (put u 41 0 (u 1 0)) 41 1 (u 1 1)) 2 42 ((9 : Int32)).toNatClampNeg) 3 43 ((9 : Int32)).toNatClampNeg)) (xcp_3_43 ad cI cB _ _) dX0_copyFrom_43 (pc2 := 46) rfl (fun h => ?_)
  refine x_aload_n C dX0_copyFrom_46 1 rfl (pc2 := 47) rfl ?_
  refine x_get C hiX0 1 (xc_1 ad cI cB _) rfl 4 (by decide) f25 (v := .ref (ad 4)) rfl dX0_copyFrom_47 (pc2 := 50) rfl ?_
  refine x_iconst (v := (0 : Int32)) C dX0_copyFrom_50 (by decide) (pc2 := 51) rfl ?_
  refine x_aload_n C dX0_copyFrom_51 0 rfl (pc2 := 52) rfl ?_
  refine x_get C hiX0 41 (xc_41 ad cI cB _) rfl 4 (by decide) f25 (v := .ref (ad 44)) rfl dX0_copyFrom_52 (pc2 := 55) rfl ?_
  refine x_iconst (v := (0 : Int32)) C dX0_copyFrom_55 (by decide) (pc2 := 56) rfl ?_
  refine x_bipush (v := (9 : Int32)) C dX0_copyFrom_56 (by decide) (pc2 := 58) rfl ?_
  refine x_copyi (index := 34) C (by decide +kernel) (by decide +kernel) (by decide +kernel) (by decide +kernel) 4 44 0 (xc_4 ad cI cB _) (xc_44 ad cI cB _) rfl h (Nat.le_of_ble_eq_true rfl) (Nat.le_of_ble_eq_true rfl) (u2 := (cpy (cpy (cpy (put (put u 41 0 (u 1 0)) 41 1 (u 1 1)) 2 42 ((9 : Int32)).toNatClampNeg) 3 43 ((9 : Int32)).toNatClampNeg) 4 44 ((9 : Int32)).toNatClampNeg)) (xcp_4_44 ad cI cB _ _) dX0_copyFrom_58 (pc2 := 61) rfl (fun h => ?_)
  refine x_aload_n C dX0_copyFrom_61 1 rfl (pc2 := 62) rfl ?_
  refine x_get C hiX0 1 (xc_1 ad cI cB _) rfl 5 (by decide) f28 (v := .ref (ad 5)) rfl dX0_copyFrom_62 (pc2 := 65) rfl ?_
  refine x_iconst (v := (0 : Int32)) C dX0_copyFrom_65 (by decide) (pc2 := 66) rfl ?_
  refine x_aload_n C dX0_copyFrom_66 0 rfl (pc2 := 67) rfl ?_
  refine x_get C hiX0 41 (xc_41 ad cI cB _) rfl 5 (by decide) f28 (v := .ref (ad 45)) rfl dX0_copyFrom_67 (pc2 := 70) rfl ?_
  refine x_iconst (v := (0 : Int32)) C dX0_copyFrom_70 (by decide) (pc2 := 71) rfl ?_
  refine x_bipush (v := (9 : Int32)) C dX0_copyFrom_71 (by decide) (pc2 := 73) rfl ?_
  refine x_copyi (index := 34) C (by decide +kernel) (by decide +kernel) (by decide +kernel) (by decide +kernel) 5 45 0 (xc_5 ad cI cB _) (xc_45 ad cI cB _) rfl h (Nat.le_of_ble_eq_true rfl) (Nat.le_of_ble_eq_true rfl) (u2 := (cpy (cpy (cpy (cpy (put (put u 41 0 (u 1 0)) 41 1 (u 1 1)) 2 42 ((9 : Int32)).toNatClampNeg) 3 43 ((9 : Int32)).toNatClampNeg) 4 44 ((9 : Int32)).toNatClampNeg) 5 45 ((9 : Int32)).toNatClampNeg)) (xcp_5_45 ad cI cB _ _) dX0_copyFrom_73 (pc2 := 76) rfl (fun h => ?_)
  refine x_aload_n C dX0_copyFrom_76 1 rfl (pc2 := 77) rfl ?_
  refine x_get C hiX0 1 (xc_1 ad cI cB _) rfl 6 (by decide) f31 (v := .ref (ad 6)) rfl dX0_copyFrom_77 (pc2 := 80) rfl ?_
  refine x_iconst (v := (0 : Int32)) C dX0_copyFrom_80 (by decide) (pc2 := 81) rfl ?_
  refine x_aload_n C dX0_copyFrom_81 0 rfl (pc2 := 82) rfl ?_
  refine x_get C hiX0 41 (xc_41 ad cI cB _) rfl 6 (by decide) f31 (v := .ref (ad 46)) rfl dX0_copyFrom_82 (pc2 := 85) rfl ?_
  refine x_iconst (v := (0 : Int32)) C dX0_copyFrom_85 (by decide) (pc2 := 86) rfl ?_
  refine x_bipush (v := (36 : Int32)) C dX0_copyFrom_86 (by decide) (pc2 := 88) rfl ?_
  refine x_copyi (index := 34) C (by decide +kernel) (by decide +kernel) (by decide +kernel) (by decide +kernel) 6 46 0 (xc_6 ad cI cB _) (xc_46 ad cI cB _) rfl h (Nat.le_of_ble_eq_true rfl) (Nat.le_of_ble_eq_true rfl) (u2 := (cpy (cpy (cpy (cpy (cpy (put (put u 41 0 (u 1 0)) 41 1 (u 1 1)) 2 42 ((9 : Int32)).toNatClampNeg) 3 43 ((9 : Int32)).toNatClampNeg) 4 44 ((9 : Int32)).toNatClampNeg) 5 45 ((9 : Int32)).toNatClampNeg) 6 46 ((36 : Int32)).toNatClampNeg)) (xcp_6_46 ad cI cB _ _) dX0_copyFrom_88 (pc2 := 91) rfl (fun h => ?_)
  exact x_vret C hr hlocks h dX0_copyFrom_91
set_option maxRecDepth 100000 in
set_option maxHeartbeats 4000000 in
theorem c_X0_copyFrom_1_35 (l : Launch) (D : va_G) (A : Nat → Prop) (ad : Nat → Nat) (cI cB : ClassId) (u : Mem)  : Ctv l yX0_copyFrom wsX0_copyFrom { frames := 1, cells := 0, slots := 0, locals := 60 } D A (XW ad cI cB) [(cI, .int), (cB, .object "PanelPages$Book")] [.ref (ad 1), .ref (ad 35)] u (e_X0_copyFrom_1_35 u ) := by
  intro ur h
  refine Met.ofW (cc := cX0_copyFrom) (maxL := 2) (ret := none) (by decide) rfl ?_
  intro p e s m args below meth c s₁ B hml hv
  obtain ⟨hav, hP, hK, hD⟩ := hv
  have C : Cx p m c cX0_copyFrom 2 s args wsX0_copyFrom RX0 D [(cI, .int), (cB, .object "PanelPages$Book")] := ⟨⟨B.exec, B.bytes, hml, findClass_of_methodNamed B.named, atoms_spec (ws := wsX0_copyFrom) B.pre⟩, hK⟩
  have hr := B.returns
  have hlocks := B.notSynchronized
  have hiX0 : ∀ w ∈ wsX00, w ∈ wsX0_copyFrom := by decide +kernel
  have f15 : Cond.fieldLink RX0 15 "PanelPages$Book" "high" "I" ∈ wsX0_copyFrom := by decide +kernel
  have f18 : Cond.fieldLink RX0 18 "PanelPages$Book" "weight" "[I" ∈ wsX0_copyFrom := by decide +kernel
  have f22 : Cond.fieldLink RX0 22 "PanelPages$Book" "tall" "[I" ∈ wsX0_copyFrom := by decide +kernel
  have f25 : Cond.fieldLink RX0 25 "PanelPages$Book" "kind" "[I" ∈ wsX0_copyFrom := by decide +kernel
  have f28 : Cond.fieldLink RX0 28 "PanelPages$Book" "balloons" "[I" ∈ wsX0_copyFrom := by decide +kernel
  have f31 : Cond.fieldLink RX0 31 "PanelPages$Book" "speakers" "[I" ∈ wsX0_copyFrom := by decide +kernel
  have f9 : Cond.fieldLink RX0 9 "PanelPages$Book" "panels" "I" ∈ wsX0_copyFrom := by decide +kernel
  refine x_entry2 (lv := [(0, .ref (ad 1)), (1, .ref (ad 35))]) hav hP hD (Nat.le_of_ble_eq_true rfl) rfl ?_
  unfold e_X0_copyFrom_1_35 at h
  refine x_aload_n C dX0_copyFrom_0 0 rfl (pc2 := 1) rfl ?_
  refine x_aload_n C dX0_copyFrom_1 1 rfl (pc2 := 2) rfl ?_
  refine x_get C hiX0 35 (xc_35 ad cI cB _) rfl 0 (by decide) f9 (v := .int (u 35 0)) rfl dX0_copyFrom_2 (pc2 := 5) rfl ?_
  refine x_put C hiX0 tyX0 tyX0_ok nmX0 1 (xc_1 ad cI cB _) rfl 0 (by decide) f9 rfl rfl (Nat.le_of_ble_eq_true rfl) (u2 := (put u 1 0 (u 35 0))) (xs_1_0 ad cI cB _ _) dX0_copyFrom_5 (pc2 := 8) rfl ?_
  refine x_aload_n C dX0_copyFrom_8 0 rfl (pc2 := 9) rfl ?_
  refine x_aload_n C dX0_copyFrom_9 1 rfl (pc2 := 10) rfl ?_
  refine x_get C hiX0 35 (xc_35 ad cI cB _) rfl 1 (by decide) f15 (v := .int ((put u 1 0 (u 35 0)) 35 1)) rfl dX0_copyFrom_10 (pc2 := 13) rfl ?_
  refine x_tope (y := (u 35 1)) rfl ?_
  refine x_put C hiX0 tyX0 tyX0_ok nmX0 1 (xc_1 ad cI cB _) rfl 1 (by decide) f15 rfl rfl (Nat.le_of_ble_eq_true rfl) (u2 := (put (put u 1 0 (u 35 0)) 1 1 (u 35 1))) (xs_1_1 ad cI cB _ _) dX0_copyFrom_13 (pc2 := 16) rfl ?_
  refine x_aload_n C dX0_copyFrom_16 1 rfl (pc2 := 17) rfl ?_
  refine x_get C hiX0 35 (xc_35 ad cI cB _) rfl 2 (by decide) f18 (v := .ref (ad 36)) rfl dX0_copyFrom_17 (pc2 := 20) rfl ?_
  refine x_iconst (v := (0 : Int32)) C dX0_copyFrom_20 (by decide) (pc2 := 21) rfl ?_
  refine x_aload_n C dX0_copyFrom_21 0 rfl (pc2 := 22) rfl ?_
  refine x_get C hiX0 1 (xc_1 ad cI cB _) rfl 2 (by decide) f18 (v := .ref (ad 2)) rfl dX0_copyFrom_22 (pc2 := 25) rfl ?_
  refine x_iconst (v := (0 : Int32)) C dX0_copyFrom_25 (by decide) (pc2 := 26) rfl ?_
  refine x_bipush (v := (9 : Int32)) C dX0_copyFrom_26 (by decide) (pc2 := 28) rfl ?_
  refine x_copyi (index := 34) C (by decide +kernel) (by decide +kernel) (by decide +kernel) (by decide +kernel) 36 2 0 (xc_36 ad cI cB _) (xc_2 ad cI cB _) rfl h (Nat.le_of_ble_eq_true rfl) (Nat.le_of_ble_eq_true rfl) (u2 := (cpy (put (put u 1 0 (u 35 0)) 1 1 (u 35 1)) 36 2 ((9 : Int32)).toNatClampNeg)) (xcp_36_2 ad cI cB _ _) dX0_copyFrom_28 (pc2 := 31) rfl (fun h => ?_)
  refine x_aload_n C dX0_copyFrom_31 1 rfl (pc2 := 32) rfl ?_
  refine x_get C hiX0 35 (xc_35 ad cI cB _) rfl 3 (by decide) f22 (v := .ref (ad 37)) rfl dX0_copyFrom_32 (pc2 := 35) rfl ?_
  refine x_iconst (v := (0 : Int32)) C dX0_copyFrom_35 (by decide) (pc2 := 36) rfl ?_
  refine x_aload_n C dX0_copyFrom_36 0 rfl (pc2 := 37) rfl ?_
  refine x_get C hiX0 1 (xc_1 ad cI cB _) rfl 3 (by decide) f22 (v := .ref (ad 3)) rfl dX0_copyFrom_37 (pc2 := 40) rfl ?_
  refine x_iconst (v := (0 : Int32)) C dX0_copyFrom_40 (by decide) (pc2 := 41) rfl ?_
  refine x_bipush (v := (9 : Int32)) C dX0_copyFrom_41 (by decide) (pc2 := 43) rfl ?_
  refine x_copyi (index := 34) C (by decide +kernel) (by decide +kernel) (by decide +kernel) (by decide +kernel) 37 3 0 (xc_37 ad cI cB _) (xc_3 ad cI cB _) rfl h (Nat.le_of_ble_eq_true rfl) (Nat.le_of_ble_eq_true rfl) (u2 := (cpy (cpy (put (put u 1 0 (u 35 0)) 1 1 (u 35 1)) 36 2 ((9 : Int32)).toNatClampNeg) 37 3 ((9 : Int32)).toNatClampNeg)) (xcp_37_3 ad cI cB _ _) dX0_copyFrom_43 (pc2 := 46) rfl (fun h => ?_)
  refine x_aload_n C dX0_copyFrom_46 1 rfl (pc2 := 47) rfl ?_
  refine x_get C hiX0 35 (xc_35 ad cI cB _) rfl 4 (by decide) f25 (v := .ref (ad 38)) rfl dX0_copyFrom_47 (pc2 := 50) rfl ?_
  refine x_iconst (v := (0 : Int32)) C dX0_copyFrom_50 (by decide) (pc2 := 51) rfl ?_
  refine x_aload_n C dX0_copyFrom_51 0 rfl (pc2 := 52) rfl ?_
  refine x_get C hiX0 1 (xc_1 ad cI cB _) rfl 4 (by decide) f25 (v := .ref (ad 4)) rfl dX0_copyFrom_52 (pc2 := 55) rfl ?_
  refine x_iconst (v := (0 : Int32)) C dX0_copyFrom_55 (by decide) (pc2 := 56) rfl ?_
  refine x_bipush (v := (9 : Int32)) C dX0_copyFrom_56 (by decide) (pc2 := 58) rfl ?_
  refine x_copyi (index := 34) C (by decide +kernel) (by decide +kernel) (by decide +kernel) (by decide +kernel) 38 4 0 (xc_38 ad cI cB _) (xc_4 ad cI cB _) rfl h (Nat.le_of_ble_eq_true rfl) (Nat.le_of_ble_eq_true rfl) (u2 := (cpy (cpy (cpy (put (put u 1 0 (u 35 0)) 1 1 (u 35 1)) 36 2 ((9 : Int32)).toNatClampNeg) 37 3 ((9 : Int32)).toNatClampNeg) 38 4 ((9 : Int32)).toNatClampNeg)) (xcp_38_4 ad cI cB _ _) dX0_copyFrom_58 (pc2 := 61) rfl (fun h => ?_)
  refine x_aload_n C dX0_copyFrom_61 1 rfl (pc2 := 62) rfl ?_
  refine x_get C hiX0 35 (xc_35 ad cI cB _) rfl 5 (by decide) f28 (v := .ref (ad 39)) rfl dX0_copyFrom_62 (pc2 := 65) rfl ?_
  refine x_iconst (v := (0 : Int32)) C dX0_copyFrom_65 (by decide) (pc2 := 66) rfl ?_
  refine x_aload_n C dX0_copyFrom_66 0 rfl (pc2 := 67) rfl ?_
  refine x_get C hiX0 1 (xc_1 ad cI cB _) rfl 5 (by decide) f28 (v := .ref (ad 5)) rfl dX0_copyFrom_67 (pc2 := 70) rfl ?_
  refine x_iconst (v := (0 : Int32)) C dX0_copyFrom_70 (by decide) (pc2 := 71) rfl ?_
  refine x_bipush (v := (9 : Int32)) C dX0_copyFrom_71 (by decide) (pc2 := 73) rfl ?_
  refine x_copyi (index := 34) C (by decide +kernel) (by decide +kernel) (by decide +kernel) (by decide +kernel) 39 5 0 (xc_39 ad cI cB _) (xc_5 ad cI cB _) rfl h (Nat.le_of_ble_eq_true rfl) (Nat.le_of_ble_eq_true rfl) (u2 := (cpy (cpy (cpy (cpy (put (put u 1 0 (u 35 0)) 1 1 (u 35 1)) 36 2 ((9 : Int32)).toNatClampNeg) 37 3 ((9 : Int32)).toNatClampNeg) 38 4 ((9 : Int32)).toNatClampNeg) 39 5 ((9 : Int32)).toNatClampNeg)) (xcp_39_5 ad cI cB _ _) dX0_copyFrom_73 (pc2 := 76) rfl (fun h => ?_)
  refine x_aload_n C dX0_copyFrom_76 1 rfl (pc2 := 77) rfl ?_
  refine x_get C hiX0 35 (xc_35 ad cI cB _) rfl 6 (by decide) f31 (v := .ref (ad 40)) rfl dX0_copyFrom_77 (pc2 := 80) rfl ?_
  refine x_iconst (v := (0 : Int32)) C dX0_copyFrom_80 (by decide) (pc2 := 81) rfl ?_
  refine x_aload_n C dX0_copyFrom_81 0 rfl (pc2 := 82) rfl ?_
  refine x_get C hiX0 1 (xc_1 ad cI cB _) rfl 6 (by decide) f31 (v := .ref (ad 6)) rfl dX0_copyFrom_82 (pc2 := 85) rfl ?_
  refine x_iconst (v := (0 : Int32)) C dX0_copyFrom_85 (by decide) (pc2 := 86) rfl ?_
  refine x_bipush (v := (36 : Int32)) C dX0_copyFrom_86 (by decide) (pc2 := 88) rfl ?_
  refine x_copyi (index := 34) C (by decide +kernel) (by decide +kernel) (by decide +kernel) (by decide +kernel) 40 6 0 (xc_40 ad cI cB _) (xc_6 ad cI cB _) rfl h (Nat.le_of_ble_eq_true rfl) (Nat.le_of_ble_eq_true rfl) (u2 := (cpy (cpy (cpy (cpy (cpy (put (put u 1 0 (u 35 0)) 1 1 (u 35 1)) 36 2 ((9 : Int32)).toNatClampNeg) 37 3 ((9 : Int32)).toNatClampNeg) 38 4 ((9 : Int32)).toNatClampNeg) 39 5 ((9 : Int32)).toNatClampNeg) 40 6 ((36 : Int32)).toNatClampNeg)) (xcp_40_6 ad cI cB _ _) dX0_copyFrom_88 (pc2 := 91) rfl (fun h => ?_)
  exact x_vret C hr hlocks h dX0_copyFrom_91
set_option maxRecDepth 100000 in
set_option maxHeartbeats 4000000 in
theorem c_X0_copyFrom_1_41 (l : Launch) (D : va_G) (A : Nat → Prop) (ad : Nat → Nat) (cI cB : ClassId) (u : Mem)  : Ctv l yX0_copyFrom wsX0_copyFrom { frames := 1, cells := 0, slots := 0, locals := 60 } D A (XW ad cI cB) [(cI, .int), (cB, .object "PanelPages$Book")] [.ref (ad 1), .ref (ad 41)] u (e_X0_copyFrom_1_41 u ) := by
  intro ur h
  refine Met.ofW (cc := cX0_copyFrom) (maxL := 2) (ret := none) (by decide) rfl ?_
  intro p e s m args below meth c s₁ B hml hv
  obtain ⟨hav, hP, hK, hD⟩ := hv
  have C : Cx p m c cX0_copyFrom 2 s args wsX0_copyFrom RX0 D [(cI, .int), (cB, .object "PanelPages$Book")] := ⟨⟨B.exec, B.bytes, hml, findClass_of_methodNamed B.named, atoms_spec (ws := wsX0_copyFrom) B.pre⟩, hK⟩
  have hr := B.returns
  have hlocks := B.notSynchronized
  have hiX0 : ∀ w ∈ wsX00, w ∈ wsX0_copyFrom := by decide +kernel
  have f15 : Cond.fieldLink RX0 15 "PanelPages$Book" "high" "I" ∈ wsX0_copyFrom := by decide +kernel
  have f18 : Cond.fieldLink RX0 18 "PanelPages$Book" "weight" "[I" ∈ wsX0_copyFrom := by decide +kernel
  have f22 : Cond.fieldLink RX0 22 "PanelPages$Book" "tall" "[I" ∈ wsX0_copyFrom := by decide +kernel
  have f25 : Cond.fieldLink RX0 25 "PanelPages$Book" "kind" "[I" ∈ wsX0_copyFrom := by decide +kernel
  have f28 : Cond.fieldLink RX0 28 "PanelPages$Book" "balloons" "[I" ∈ wsX0_copyFrom := by decide +kernel
  have f31 : Cond.fieldLink RX0 31 "PanelPages$Book" "speakers" "[I" ∈ wsX0_copyFrom := by decide +kernel
  have f9 : Cond.fieldLink RX0 9 "PanelPages$Book" "panels" "I" ∈ wsX0_copyFrom := by decide +kernel
  refine x_entry2 (lv := [(0, .ref (ad 1)), (1, .ref (ad 41))]) hav hP hD (Nat.le_of_ble_eq_true rfl) rfl ?_
  unfold e_X0_copyFrom_1_41 at h
  refine x_aload_n C dX0_copyFrom_0 0 rfl (pc2 := 1) rfl ?_
  refine x_aload_n C dX0_copyFrom_1 1 rfl (pc2 := 2) rfl ?_
  refine x_get C hiX0 41 (xc_41 ad cI cB _) rfl 0 (by decide) f9 (v := .int (u 41 0)) rfl dX0_copyFrom_2 (pc2 := 5) rfl ?_
  refine x_put C hiX0 tyX0 tyX0_ok nmX0 1 (xc_1 ad cI cB _) rfl 0 (by decide) f9 rfl rfl (Nat.le_of_ble_eq_true rfl) (u2 := (put u 1 0 (u 41 0))) (xs_1_0 ad cI cB _ _) dX0_copyFrom_5 (pc2 := 8) rfl ?_
  refine x_aload_n C dX0_copyFrom_8 0 rfl (pc2 := 9) rfl ?_
  refine x_aload_n C dX0_copyFrom_9 1 rfl (pc2 := 10) rfl ?_
  refine x_get C hiX0 41 (xc_41 ad cI cB _) rfl 1 (by decide) f15 (v := .int ((put u 1 0 (u 41 0)) 41 1)) rfl dX0_copyFrom_10 (pc2 := 13) rfl ?_
  refine x_tope (y := (u 41 1)) rfl ?_
  refine x_put C hiX0 tyX0 tyX0_ok nmX0 1 (xc_1 ad cI cB _) rfl 1 (by decide) f15 rfl rfl (Nat.le_of_ble_eq_true rfl) (u2 := (put (put u 1 0 (u 41 0)) 1 1 (u 41 1))) (xs_1_1 ad cI cB _ _) dX0_copyFrom_13 (pc2 := 16) rfl ?_
  refine x_aload_n C dX0_copyFrom_16 1 rfl (pc2 := 17) rfl ?_
  refine x_get C hiX0 41 (xc_41 ad cI cB _) rfl 2 (by decide) f18 (v := .ref (ad 42)) rfl dX0_copyFrom_17 (pc2 := 20) rfl ?_
  refine x_iconst (v := (0 : Int32)) C dX0_copyFrom_20 (by decide) (pc2 := 21) rfl ?_
  refine x_aload_n C dX0_copyFrom_21 0 rfl (pc2 := 22) rfl ?_
  refine x_get C hiX0 1 (xc_1 ad cI cB _) rfl 2 (by decide) f18 (v := .ref (ad 2)) rfl dX0_copyFrom_22 (pc2 := 25) rfl ?_
  refine x_iconst (v := (0 : Int32)) C dX0_copyFrom_25 (by decide) (pc2 := 26) rfl ?_
  refine x_bipush (v := (9 : Int32)) C dX0_copyFrom_26 (by decide) (pc2 := 28) rfl ?_
  refine x_copyi (index := 34) C (by decide +kernel) (by decide +kernel) (by decide +kernel) (by decide +kernel) 42 2 0 (xc_42 ad cI cB _) (xc_2 ad cI cB _) rfl h (Nat.le_of_ble_eq_true rfl) (Nat.le_of_ble_eq_true rfl) (u2 := (cpy (put (put u 1 0 (u 41 0)) 1 1 (u 41 1)) 42 2 ((9 : Int32)).toNatClampNeg)) (xcp_42_2 ad cI cB _ _) dX0_copyFrom_28 (pc2 := 31) rfl (fun h => ?_)
  refine x_aload_n C dX0_copyFrom_31 1 rfl (pc2 := 32) rfl ?_
  refine x_get C hiX0 41 (xc_41 ad cI cB _) rfl 3 (by decide) f22 (v := .ref (ad 43)) rfl dX0_copyFrom_32 (pc2 := 35) rfl ?_
  refine x_iconst (v := (0 : Int32)) C dX0_copyFrom_35 (by decide) (pc2 := 36) rfl ?_
  refine x_aload_n C dX0_copyFrom_36 0 rfl (pc2 := 37) rfl ?_
  refine x_get C hiX0 1 (xc_1 ad cI cB _) rfl 3 (by decide) f22 (v := .ref (ad 3)) rfl dX0_copyFrom_37 (pc2 := 40) rfl ?_
  refine x_iconst (v := (0 : Int32)) C dX0_copyFrom_40 (by decide) (pc2 := 41) rfl ?_
  refine x_bipush (v := (9 : Int32)) C dX0_copyFrom_41 (by decide) (pc2 := 43) rfl ?_
  refine x_copyi (index := 34) C (by decide +kernel) (by decide +kernel) (by decide +kernel) (by decide +kernel) 43 3 0 (xc_43 ad cI cB _) (xc_3 ad cI cB _) rfl h (Nat.le_of_ble_eq_true rfl) (Nat.le_of_ble_eq_true rfl) (u2 := (cpy (cpy (put (put u 1 0 (u 41 0)) 1 1 (u 41 1)) 42 2 ((9 : Int32)).toNatClampNeg) 43 3 ((9 : Int32)).toNatClampNeg)) (xcp_43_3 ad cI cB _ _) dX0_copyFrom_43 (pc2 := 46) rfl (fun h => ?_)
  refine x_aload_n C dX0_copyFrom_46 1 rfl (pc2 := 47) rfl ?_
  refine x_get C hiX0 41 (xc_41 ad cI cB _) rfl 4 (by decide) f25 (v := .ref (ad 44)) rfl dX0_copyFrom_47 (pc2 := 50) rfl ?_
  refine x_iconst (v := (0 : Int32)) C dX0_copyFrom_50 (by decide) (pc2 := 51) rfl ?_
  refine x_aload_n C dX0_copyFrom_51 0 rfl (pc2 := 52) rfl ?_
  refine x_get C hiX0 1 (xc_1 ad cI cB _) rfl 4 (by decide) f25 (v := .ref (ad 4)) rfl dX0_copyFrom_52 (pc2 := 55) rfl ?_
  refine x_iconst (v := (0 : Int32)) C dX0_copyFrom_55 (by decide) (pc2 := 56) rfl ?_
  refine x_bipush (v := (9 : Int32)) C dX0_copyFrom_56 (by decide) (pc2 := 58) rfl ?_
  refine x_copyi (index := 34) C (by decide +kernel) (by decide +kernel) (by decide +kernel) (by decide +kernel) 44 4 0 (xc_44 ad cI cB _) (xc_4 ad cI cB _) rfl h (Nat.le_of_ble_eq_true rfl) (Nat.le_of_ble_eq_true rfl) (u2 := (cpy (cpy (cpy (put (put u 1 0 (u 41 0)) 1 1 (u 41 1)) 42 2 ((9 : Int32)).toNatClampNeg) 43 3 ((9 : Int32)).toNatClampNeg) 44 4 ((9 : Int32)).toNatClampNeg)) (xcp_44_4 ad cI cB _ _) dX0_copyFrom_58 (pc2 := 61) rfl (fun h => ?_)
  refine x_aload_n C dX0_copyFrom_61 1 rfl (pc2 := 62) rfl ?_
  refine x_get C hiX0 41 (xc_41 ad cI cB _) rfl 5 (by decide) f28 (v := .ref (ad 45)) rfl dX0_copyFrom_62 (pc2 := 65) rfl ?_
  refine x_iconst (v := (0 : Int32)) C dX0_copyFrom_65 (by decide) (pc2 := 66) rfl ?_
  refine x_aload_n C dX0_copyFrom_66 0 rfl (pc2 := 67) rfl ?_
  refine x_get C hiX0 1 (xc_1 ad cI cB _) rfl 5 (by decide) f28 (v := .ref (ad 5)) rfl dX0_copyFrom_67 (pc2 := 70) rfl ?_
  refine x_iconst (v := (0 : Int32)) C dX0_copyFrom_70 (by decide) (pc2 := 71) rfl ?_
  refine x_bipush (v := (9 : Int32)) C dX0_copyFrom_71 (by decide) (pc2 := 73) rfl ?_
  refine x_copyi (index := 34) C (by decide +kernel) (by decide +kernel) (by decide +kernel) (by decide +kernel) 45 5 0 (xc_45 ad cI cB _) (xc_5 ad cI cB _) rfl h (Nat.le_of_ble_eq_true rfl) (Nat.le_of_ble_eq_true rfl) (u2 := (cpy (cpy (cpy (cpy (put (put u 1 0 (u 41 0)) 1 1 (u 41 1)) 42 2 ((9 : Int32)).toNatClampNeg) 43 3 ((9 : Int32)).toNatClampNeg) 44 4 ((9 : Int32)).toNatClampNeg) 45 5 ((9 : Int32)).toNatClampNeg)) (xcp_45_5 ad cI cB _ _) dX0_copyFrom_73 (pc2 := 76) rfl (fun h => ?_)
  refine x_aload_n C dX0_copyFrom_76 1 rfl (pc2 := 77) rfl ?_
  refine x_get C hiX0 41 (xc_41 ad cI cB _) rfl 6 (by decide) f31 (v := .ref (ad 46)) rfl dX0_copyFrom_77 (pc2 := 80) rfl ?_
  refine x_iconst (v := (0 : Int32)) C dX0_copyFrom_80 (by decide) (pc2 := 81) rfl ?_
  refine x_aload_n C dX0_copyFrom_81 0 rfl (pc2 := 82) rfl ?_
  refine x_get C hiX0 1 (xc_1 ad cI cB _) rfl 6 (by decide) f31 (v := .ref (ad 6)) rfl dX0_copyFrom_82 (pc2 := 85) rfl ?_
  refine x_iconst (v := (0 : Int32)) C dX0_copyFrom_85 (by decide) (pc2 := 86) rfl ?_
  refine x_bipush (v := (36 : Int32)) C dX0_copyFrom_86 (by decide) (pc2 := 88) rfl ?_
  refine x_copyi (index := 34) C (by decide +kernel) (by decide +kernel) (by decide +kernel) (by decide +kernel) 46 6 0 (xc_46 ad cI cB _) (xc_6 ad cI cB _) rfl h (Nat.le_of_ble_eq_true rfl) (Nat.le_of_ble_eq_true rfl) (u2 := (cpy (cpy (cpy (cpy (cpy (put (put u 1 0 (u 41 0)) 1 1 (u 41 1)) 42 2 ((9 : Int32)).toNatClampNeg) 43 3 ((9 : Int32)).toNatClampNeg) 44 4 ((9 : Int32)).toNatClampNeg) 45 5 ((9 : Int32)).toNatClampNeg) 46 6 ((36 : Int32)).toNatClampNeg)) (xcp_46_6 ad cI cB _ _) dX0_copyFrom_88 (pc2 := 91) rfl (fun h => ?_)
  exact x_vret C hr hlocks h dX0_copyFrom_91
set_option maxRecDepth 100000 in
set_option maxHeartbeats 4000000 in
theorem c_X0_has (l : Launch) (D : va_G) (A : Nat → Prop) (ad : Nat → Nat) (cI cB : ClassId) (u : Mem) (x1 : Int32) : Cti l yX0_has wsX0_has { frames := 0, cells := 0, slots := 0, locals := 0 } D A (XW ad cI cB) [(cI, .int), (cB, .object "PanelPages$Book")] [.ref (ad 1), .int x1] u (e_X0_has u x1) := by
  intro r ur h
  refine Met.ofW (cc := cX0_has) (maxL := 2) (ret := (some .boolean)) (by decide) rfl ?_
  intro p e s m args below meth c s₁ B hml hv
  obtain ⟨hav, hP, hK, hD⟩ := hv
  have C : Cx p m c cX0_has 2 s args wsX0_has RX0 D [(cI, .int), (cB, .object "PanelPages$Book")] := ⟨⟨B.exec, B.bytes, hml, findClass_of_methodNamed B.named, atoms_spec (ws := wsX0_has) B.pre⟩, hK⟩
  have hr := B.returns
  have hlocks := B.notSynchronized
  have hiX0 : ∀ w ∈ wsX00, w ∈ wsX0_has := by decide +kernel
  have f9 : Cond.fieldLink RX0 9 "PanelPages$Book" "panels" "I" ∈ wsX0_has := by decide +kernel
  refine x_entry2 (lv := [(0, .ref (ad 1)), (1, .int x1)]) hav hP hD (Nat.le_of_ble_eq_true rfl) rfl ?_
  unfold e_X0_has at h
  refine x_iload_n C dX0_has_0 1 rfl (pc2 := 1) rfl ?_
  refine x_if_lt C h dX0_has_1 (tgt := 16) (by decide) (pc2 := 4) rfl (fun h => ?_) (fun h => ?_)
  · refine x_iconst (v := (0 : Int32)) C dX0_has_16 (by decide) (pc2 := 17) rfl ?_
    exact x_zretL C hr hlocks h rfl dX0_has_17
  · refine x_iload_n C dX0_has_4 1 rfl (pc2 := 5) rfl ?_
    refine x_aload_n C dX0_has_5 0 rfl (pc2 := 6) rfl ?_
    refine x_get C hiX0 1 (xc_1 ad cI cB _) rfl 0 (by decide) f9 (v := .int (u 1 0)) rfl dX0_has_6 (pc2 := 9) rfl ?_
    refine x_icmp_ge C h dX0_has_9 (tgt := 16) (by decide) (pc2 := 12) rfl (fun h => ?_) (fun h => ?_)
    · refine x_iconst (v := (0 : Int32)) C dX0_has_16 (by decide) (pc2 := 17) rfl ?_
      exact x_zretL C hr hlocks h rfl dX0_has_17
    · refine x_iconst (v := (1 : Int32)) C dX0_has_12 (by decide) (pc2 := 13) rfl ?_
      refine x_goto C dX0_has_13 (pc2 := 17) (by decide) ?_
      exact x_zretL C hr hlocks h rfl dX0_has_17
set_option maxRecDepth 100000 in
set_option maxHeartbeats 4000000 in
theorem c_X0_feature (l : Launch) (D : va_G) (A : Nat → Prop) (ad : Nat → Nat) (cI cB : ClassId) (u : Mem) (x1 : Int32) (x2 : Int32) : Cti l yX0_feature wsX0_feature { frames := 0, cells := 0, slots := 0, locals := 0 } D A (XW ad cI cB) [(cI, .int), (cB, .object "PanelPages$Book")] [.ref (ad 1), .int x1, .int x2] u (e_X0_feature u x1 x2) := by
  intro r ur h
  refine Met.ofW (cc := cX0_feature) (maxL := 3) (ret := (some .int)) (by decide) rfl ?_
  intro p e s m args below meth c s₁ B hml hv
  obtain ⟨hav, hP, hK, hD⟩ := hv
  have C : Cx p m c cX0_feature 3 s args wsX0_feature RX0 D [(cI, .int), (cB, .object "PanelPages$Book")] := ⟨⟨B.exec, B.bytes, hml, findClass_of_methodNamed B.named, atoms_spec (ws := wsX0_feature) B.pre⟩, hK⟩
  have hr := B.returns
  have hlocks := B.notSynchronized
  have hiX0 : ∀ w ∈ wsX00, w ∈ wsX0_feature := by decide +kernel
  have f18 : Cond.fieldLink RX0 18 "PanelPages$Book" "weight" "[I" ∈ wsX0_feature := by decide +kernel
  have f22 : Cond.fieldLink RX0 22 "PanelPages$Book" "tall" "[I" ∈ wsX0_feature := by decide +kernel
  have f25 : Cond.fieldLink RX0 25 "PanelPages$Book" "kind" "[I" ∈ wsX0_feature := by decide +kernel
  have f28 : Cond.fieldLink RX0 28 "PanelPages$Book" "balloons" "[I" ∈ wsX0_feature := by decide +kernel
  refine x_entry2 (lv := [(0, .ref (ad 1)), (1, .int x1), (2, .int x2)]) hav hP hD (Nat.le_of_ble_eq_true rfl) rfl ?_
  unfold e_X0_feature at h
  refine x_iload_n C dX0_feature_0 2 rfl (pc2 := 1) rfl ?_
  by_cases q0 : x2 = (0 : Int32)
  · replace h := (if_pos q0).symm.trans h
    refine x_tabI C (0 : Int32) q0 dX0_feature_1 (by decide) (by decide) (off := 27) (by decide) (tgt := 28) (by decide) ?_
    refine x_aload_n C dX0_feature_28 0 rfl (pc2 := 29) rfl ?_
    refine x_get C hiX0 1 (xc_1 ad cI cB _) rfl 2 (by decide) f18 (v := .ref (ad 2)) rfl dX0_feature_29 (pc2 := 32) rfl ?_
    refine x_iload_n C dX0_feature_32 1 rfl (pc2 := 33) rfl ?_
    refine x_iald C h 2 0 (xc_2 ad cI cB _) rfl dX0_feature_33 (pc2 := 34) rfl (fun h => ?_)
    exact x_iret C hr hlocks h dX0_feature_34
  replace h := (if_neg q0).symm.trans h
  by_cases q1 : x2 = (1 : Int32)
  · replace h := (if_pos q1).symm.trans h
    refine x_tabI C (1 : Int32) q1 dX0_feature_1 (by decide) (by decide) (off := 34) (by decide) (tgt := 35) (by decide) ?_
    refine x_aload_n C dX0_feature_35 0 rfl (pc2 := 36) rfl ?_
    refine x_get C hiX0 1 (xc_1 ad cI cB _) rfl 3 (by decide) f22 (v := .ref (ad 3)) rfl dX0_feature_36 (pc2 := 39) rfl ?_
    refine x_iload_n C dX0_feature_39 1 rfl (pc2 := 40) rfl ?_
    refine x_iald C h 3 0 (xc_3 ad cI cB _) rfl dX0_feature_40 (pc2 := 41) rfl (fun h => ?_)
    exact x_iret C hr hlocks h dX0_feature_41
  replace h := (if_neg q1).symm.trans h
  by_cases q2 : x2 = (2 : Int32)
  · replace h := (if_pos q2).symm.trans h
    refine x_tabI C (2 : Int32) q2 dX0_feature_1 (by decide) (by decide) (off := 41) (by decide) (tgt := 42) (by decide) ?_
    refine x_aload_n C dX0_feature_42 0 rfl (pc2 := 43) rfl ?_
    refine x_get C hiX0 1 (xc_1 ad cI cB _) rfl 4 (by decide) f25 (v := .ref (ad 4)) rfl dX0_feature_43 (pc2 := 46) rfl ?_
    refine x_iload_n C dX0_feature_46 1 rfl (pc2 := 47) rfl ?_
    refine x_iald C h 4 0 (xc_4 ad cI cB _) rfl dX0_feature_47 (pc2 := 48) rfl (fun h => ?_)
    exact x_iret C hr hlocks h dX0_feature_48
  replace h := (if_neg q2).symm.trans h
  have n0 := tab_ne q0
  have n1 := tab_ne q1
  have n2 := tab_ne q2
  refine x_tabO C dX0_feature_1 (by rw [show ((0 : Int32)).toInt = 0 from rfl] at n0; rw [show ((1 : Int32)).toInt = 1 from rfl] at n1; rw [show ((2 : Int32)).toInt = 2 from rfl] at n2; omega) (tgt := 49) (by decide) ?_
  refine x_aload_n C dX0_feature_49 0 rfl (pc2 := 50) rfl ?_
  refine x_get C hiX0 1 (xc_1 ad cI cB _) rfl 5 (by decide) f28 (v := .ref (ad 5)) rfl dX0_feature_50 (pc2 := 53) rfl ?_
  refine x_iload_n C dX0_feature_53 1 rfl (pc2 := 54) rfl ?_
  refine x_iald C h 5 0 (xc_5 ad cI cB _) rfl dX0_feature_54 (pc2 := 55) rfl (fun h => ?_)
  exact x_iret C hr hlocks h dX0_feature_55
set_option maxRecDepth 100000 in
set_option maxHeartbeats 4000000 in
theorem c_X0_isSpread (l : Launch) (D : va_G) (A : Nat → Prop) (ad : Nat → Nat) (cI cB : ClassId) (u : Mem) (x1 : Int32) : Cti l yX0_isSpread wsX0_isSpread { frames := 0, cells := 0, slots := 0, locals := 0 } D A (XW ad cI cB) [(cI, .int), (cB, .object "PanelPages$Book")] [.ref (ad 1), .int x1] u (e_X0_isSpread u x1) := by
  intro r ur h
  refine Met.ofW (cc := cX0_isSpread) (maxL := 2) (ret := (some .boolean)) (by decide) rfl ?_
  intro p e s m args below meth c s₁ B hml hv
  obtain ⟨hav, hP, hK, hD⟩ := hv
  have C : Cx p m c cX0_isSpread 2 s args wsX0_isSpread RX0 D [(cI, .int), (cB, .object "PanelPages$Book")] := ⟨⟨B.exec, B.bytes, hml, findClass_of_methodNamed B.named, atoms_spec (ws := wsX0_isSpread) B.pre⟩, hK⟩
  have hr := B.returns
  have hlocks := B.notSynchronized
  have hiX0 : ∀ w ∈ wsX00, w ∈ wsX0_isSpread := by decide +kernel
  have f25 : Cond.fieldLink RX0 25 "PanelPages$Book" "kind" "[I" ∈ wsX0_isSpread := by decide +kernel
  refine x_entry2 (lv := [(0, .ref (ad 1)), (1, .int x1)]) hav hP hD (Nat.le_of_ble_eq_true rfl) rfl ?_
  unfold e_X0_isSpread at h
  refine x_aload_n C dX0_isSpread_0 0 rfl (pc2 := 1) rfl ?_
  refine x_get C hiX0 1 (xc_1 ad cI cB _) rfl 4 (by decide) f25 (v := .ref (ad 4)) rfl dX0_isSpread_1 (pc2 := 4) rfl ?_
  refine x_iload_n C dX0_isSpread_4 1 rfl (pc2 := 5) rfl ?_
  refine x_iald C h 4 0 (xc_4 ad cI cB _) rfl dX0_isSpread_5 (pc2 := 6) rfl (fun h => ?_)
  refine x_iconst (v := (2 : Int32)) C dX0_isSpread_6 (by decide) (pc2 := 7) rfl ?_
  refine x_icmp_ne C h dX0_isSpread_7 (tgt := 14) (by decide) (pc2 := 10) rfl (fun h => ?_) (fun h => ?_)
  · refine x_iconst (v := (0 : Int32)) C dX0_isSpread_14 (by decide) (pc2 := 15) rfl ?_
    exact x_zretL C hr hlocks h rfl dX0_isSpread_15
  · refine x_iconst (v := (1 : Int32)) C dX0_isSpread_10 (by decide) (pc2 := 11) rfl ?_
    refine x_goto C dX0_isSpread_11 (pc2 := 15) (by decide) ?_
    exact x_zretL C hr hlocks h rfl dX0_isSpread_15
set_option maxRecDepth 100000 in
set_option maxHeartbeats 4000000 in
theorem c_X0_wantsOwnTier (l : Launch) (D : va_G) (A : Nat → Prop) (ad : Nat → Nat) (cI cB : ClassId) (u : Mem) (x1 : Int32) : Cti l yX0_wantsOwnTier wsX0_wantsOwnTier { frames := 0, cells := 0, slots := 0, locals := 0 } D A (XW ad cI cB) [(cI, .int), (cB, .object "PanelPages$Book")] [.ref (ad 1), .int x1] u (e_X0_wantsOwnTier u x1) := by
  intro r ur h
  refine Met.ofW (cc := cX0_wantsOwnTier) (maxL := 2) (ret := (some .boolean)) (by decide) rfl ?_
  intro p e s m args below meth c s₁ B hml hv
  obtain ⟨hav, hP, hK, hD⟩ := hv
  have C : Cx p m c cX0_wantsOwnTier 2 s args wsX0_wantsOwnTier RX0 D [(cI, .int), (cB, .object "PanelPages$Book")] := ⟨⟨B.exec, B.bytes, hml, findClass_of_methodNamed B.named, atoms_spec (ws := wsX0_wantsOwnTier) B.pre⟩, hK⟩
  have hr := B.returns
  have hlocks := B.notSynchronized
  have hiX0 : ∀ w ∈ wsX00, w ∈ wsX0_wantsOwnTier := by decide +kernel
  have f25 : Cond.fieldLink RX0 25 "PanelPages$Book" "kind" "[I" ∈ wsX0_wantsOwnTier := by decide +kernel
  refine x_entry2 (lv := [(0, .ref (ad 1)), (1, .int x1)]) hav hP hD (Nat.le_of_ble_eq_true rfl) rfl ?_
  unfold e_X0_wantsOwnTier at h
  refine x_aload_n C dX0_wantsOwnTier_0 0 rfl (pc2 := 1) rfl ?_
  refine x_get C hiX0 1 (xc_1 ad cI cB _) rfl 4 (by decide) f25 (v := .ref (ad 4)) rfl dX0_wantsOwnTier_1 (pc2 := 4) rfl ?_
  refine x_iload_n C dX0_wantsOwnTier_4 1 rfl (pc2 := 5) rfl ?_
  refine x_iald C h 4 0 (xc_4 ad cI cB _) rfl dX0_wantsOwnTier_5 (pc2 := 6) rfl (fun h => ?_)
  refine x_iconst (v := (1 : Int32)) C dX0_wantsOwnTier_6 (by decide) (pc2 := 7) rfl ?_
  refine x_icmp_eq C h dX0_wantsOwnTier_7 (tgt := 20) (by decide) (pc2 := 10) rfl (fun h => ?_) (fun h => ?_)
  · refine x_iconst (v := (1 : Int32)) C dX0_wantsOwnTier_20 (by decide) (pc2 := 21) rfl ?_
    refine x_goto C dX0_wantsOwnTier_21 (pc2 := 25) (by decide) ?_
    exact x_zretL C hr hlocks h rfl dX0_wantsOwnTier_25
  · refine x_aload_n C dX0_wantsOwnTier_10 0 rfl (pc2 := 11) rfl ?_
    refine x_get C hiX0 1 (xc_1 ad cI cB _) rfl 4 (by decide) f25 (v := .ref (ad 4)) rfl dX0_wantsOwnTier_11 (pc2 := 14) rfl ?_
    refine x_iload_n C dX0_wantsOwnTier_14 1 rfl (pc2 := 15) rfl ?_
    refine x_iald C h 4 0 (xc_4 ad cI cB _) rfl dX0_wantsOwnTier_15 (pc2 := 16) rfl (fun h => ?_)
    refine x_iconst (v := (2 : Int32)) C dX0_wantsOwnTier_16 (by decide) (pc2 := 17) rfl ?_
    refine x_icmp_ne C h dX0_wantsOwnTier_17 (tgt := 24) (by decide) (pc2 := 20) rfl (fun h => ?_) (fun h => ?_)
    · refine x_iconst (v := (0 : Int32)) C dX0_wantsOwnTier_24 (by decide) (pc2 := 25) rfl ?_
      exact x_zretL C hr hlocks h rfl dX0_wantsOwnTier_25
    · refine x_iconst (v := (1 : Int32)) C dX0_wantsOwnTier_20 (by decide) (pc2 := 21) rfl ?_
      refine x_goto C dX0_wantsOwnTier_21 (pc2 := 25) (by decide) ?_
      exact x_zretL C hr hlocks h rfl dX0_wantsOwnTier_25
set_option maxRecDepth 100000 in
set_option maxHeartbeats 4000000 in
theorem c_X0_wantsLeftPage (l : Launch) (D : va_G) (A : Nat → Prop) (ad : Nat → Nat) (cI cB : ClassId) (u : Mem) (x1 : Int32) : Cti l yX0_wantsLeftPage wsX0_wantsLeftPage { frames := 0, cells := 0, slots := 0, locals := 0 } D A (XW ad cI cB) [(cI, .int), (cB, .object "PanelPages$Book")] [.ref (ad 1), .int x1] u (e_X0_wantsLeftPage u x1) := by
  intro r ur h
  refine Met.ofW (cc := cX0_wantsLeftPage) (maxL := 2) (ret := (some .boolean)) (by decide) rfl ?_
  intro p e s m args below meth c s₁ B hml hv
  obtain ⟨hav, hP, hK, hD⟩ := hv
  have C : Cx p m c cX0_wantsLeftPage 2 s args wsX0_wantsLeftPage RX0 D [(cI, .int), (cB, .object "PanelPages$Book")] := ⟨⟨B.exec, B.bytes, hml, findClass_of_methodNamed B.named, atoms_spec (ws := wsX0_wantsLeftPage) B.pre⟩, hK⟩
  have hr := B.returns
  have hlocks := B.notSynchronized
  have hiX0 : ∀ w ∈ wsX00, w ∈ wsX0_wantsLeftPage := by decide +kernel
  have f25 : Cond.fieldLink RX0 25 "PanelPages$Book" "kind" "[I" ∈ wsX0_wantsLeftPage := by decide +kernel
  refine x_entry2 (lv := [(0, .ref (ad 1)), (1, .int x1)]) hav hP hD (Nat.le_of_ble_eq_true rfl) rfl ?_
  unfold e_X0_wantsLeftPage at h
  refine x_aload_n C dX0_wantsLeftPage_0 0 rfl (pc2 := 1) rfl ?_
  refine x_get C hiX0 1 (xc_1 ad cI cB _) rfl 4 (by decide) f25 (v := .ref (ad 4)) rfl dX0_wantsLeftPage_1 (pc2 := 4) rfl ?_
  refine x_iload_n C dX0_wantsLeftPage_4 1 rfl (pc2 := 5) rfl ?_
  refine x_iald C h 4 0 (xc_4 ad cI cB _) rfl dX0_wantsLeftPage_5 (pc2 := 6) rfl (fun h => ?_)
  refine x_iconst (v := (2 : Int32)) C dX0_wantsLeftPage_6 (by decide) (pc2 := 7) rfl ?_
  refine x_icmp_eq C h dX0_wantsLeftPage_7 (tgt := 20) (by decide) (pc2 := 10) rfl (fun h => ?_) (fun h => ?_)
  · refine x_iconst (v := (1 : Int32)) C dX0_wantsLeftPage_20 (by decide) (pc2 := 21) rfl ?_
    refine x_goto C dX0_wantsLeftPage_21 (pc2 := 25) (by decide) ?_
    exact x_zretL C hr hlocks h rfl dX0_wantsLeftPage_25
  · refine x_aload_n C dX0_wantsLeftPage_10 0 rfl (pc2 := 11) rfl ?_
    refine x_get C hiX0 1 (xc_1 ad cI cB _) rfl 4 (by decide) f25 (v := .ref (ad 4)) rfl dX0_wantsLeftPage_11 (pc2 := 14) rfl ?_
    refine x_iload_n C dX0_wantsLeftPage_14 1 rfl (pc2 := 15) rfl ?_
    refine x_iald C h 4 0 (xc_4 ad cI cB _) rfl dX0_wantsLeftPage_15 (pc2 := 16) rfl (fun h => ?_)
    refine x_iconst (v := (3 : Int32)) C dX0_wantsLeftPage_16 (by decide) (pc2 := 17) rfl ?_
    refine x_icmp_ne C h dX0_wantsLeftPage_17 (tgt := 24) (by decide) (pc2 := 20) rfl (fun h => ?_) (fun h => ?_)
    · refine x_iconst (v := (0 : Int32)) C dX0_wantsLeftPage_24 (by decide) (pc2 := 25) rfl ?_
      exact x_zretL C hr hlocks h rfl dX0_wantsLeftPage_25
    · refine x_iconst (v := (1 : Int32)) C dX0_wantsLeftPage_20 (by decide) (pc2 := 21) rfl ?_
      refine x_goto C dX0_wantsLeftPage_21 (pc2 := 25) (by decide) ?_
      exact x_zretL C hr hlocks h rfl dX0_wantsLeftPage_25
set_option maxRecDepth 100000 in
set_option maxHeartbeats 4000000 in
theorem c_X0_speakerColumn (l : Launch) (D : va_G) (A : Nat → Prop) (ad : Nat → Nat) (cI cB : ClassId) (u : Mem) (x1 : Int32) (x2 : Int32) : Cti l yX0_speakerColumn wsX0_speakerColumn { frames := 0, cells := 0, slots := 0, locals := 0 } D A (XW ad cI cB) [(cI, .int), (cB, .object "PanelPages$Book")] [.ref (ad 1), .int x1, .int x2] u (e_X0_speakerColumn u x1 x2) := by
  intro r ur h
  refine Met.ofW (cc := cX0_speakerColumn) (maxL := 3) (ret := (some .int)) (by decide) rfl ?_
  intro p e s m args below meth c s₁ B hml hv
  obtain ⟨hav, hP, hK, hD⟩ := hv
  have C : Cx p m c cX0_speakerColumn 3 s args wsX0_speakerColumn RX0 D [(cI, .int), (cB, .object "PanelPages$Book")] := ⟨⟨B.exec, B.bytes, hml, findClass_of_methodNamed B.named, atoms_spec (ws := wsX0_speakerColumn) B.pre⟩, hK⟩
  have hr := B.returns
  have hlocks := B.notSynchronized
  have hiX0 : ∀ w ∈ wsX00, w ∈ wsX0_speakerColumn := by decide +kernel
  have f31 : Cond.fieldLink RX0 31 "PanelPages$Book" "speakers" "[I" ∈ wsX0_speakerColumn := by decide +kernel
  refine x_entry2 (lv := [(0, .ref (ad 1)), (1, .int x1), (2, .int x2)]) hav hP hD (Nat.le_of_ble_eq_true rfl) rfl ?_
  unfold e_X0_speakerColumn at h
  refine x_aload_n C dX0_speakerColumn_0 0 rfl (pc2 := 1) rfl ?_
  refine x_get C hiX0 1 (xc_1 ad cI cB _) rfl 6 (by decide) f31 (v := .ref (ad 6)) rfl dX0_speakerColumn_1 (pc2 := 4) rfl ?_
  refine x_iload_n C dX0_speakerColumn_4 1 rfl (pc2 := 5) rfl ?_
  refine x_iconst (v := (4 : Int32)) C dX0_speakerColumn_5 (by decide) (pc2 := 6) rfl ?_
  refine x_imul C dX0_speakerColumn_6 (pc2 := 7) rfl ?_
  refine x_iload_n C dX0_speakerColumn_7 2 rfl (pc2 := 8) rfl ?_
  refine x_iadd C dX0_speakerColumn_8 (pc2 := 9) rfl ?_
  refine x_iald C h 6 0 (xc_6 ad cI cB _) rfl dX0_speakerColumn_9 (pc2 := 10) rfl (fun h => ?_)
  exact x_iret C hr hlocks h dX0_speakerColumn_10
set_option maxRecDepth 100000 in
set_option maxHeartbeats 4000000 in
theorem c_X0_allBalloons (l : Launch) (D : va_G) (A : Nat → Prop) (ad : Nat → Nat) (cI cB : ClassId) (u : Mem)  : Cti l yX0_allBalloons wsX0_allBalloons { frames := 0, cells := 0, slots := 0, locals := 0 } D A (XW ad cI cB) [(cI, .int), (cB, .object "PanelPages$Book")] [.ref (ad 1)] u (e_X0_allBalloons u ) := by
  intro r ur h
  refine Met.ofW (cc := cX0_allBalloons) (maxL := 3) (ret := (some .int)) (by decide) rfl ?_
  intro p e s m args below meth c s₁ B hml hv
  obtain ⟨hav, hP, hK, hD⟩ := hv
  have C : Cx p m c cX0_allBalloons 3 s args wsX0_allBalloons RX0 D [(cI, .int), (cB, .object "PanelPages$Book")] := ⟨⟨B.exec, B.bytes, hml, findClass_of_methodNamed B.named, atoms_spec (ws := wsX0_allBalloons) B.pre⟩, hK⟩
  have hr := B.returns
  have hlocks := B.notSynchronized
  have hiX0 : ∀ w ∈ wsX00, w ∈ wsX0_allBalloons := by decide +kernel
  have f28 : Cond.fieldLink RX0 28 "PanelPages$Book" "balloons" "[I" ∈ wsX0_allBalloons := by decide +kernel
  have f9 : Cond.fieldLink RX0 9 "PanelPages$Book" "panels" "I" ∈ wsX0_allBalloons := by decide +kernel
  refine x_entry2 (lv := [(0, .ref (ad 1))]) hav hP hD (Nat.le_of_ble_eq_true rfl) rfl ?_
  unfold e_X0_allBalloons at h
  have J4 : ∀ (f : Nat) (u : Mem) (x1 : Int32) (x2 : Int32), e_X0_allBalloons_L4 f u x1 x2 = some (r, ur) → Wx p l e (headSpec wsX0_allBalloons { frames := 0, cells := 0, slots := 0, locals := 0 }).room s m args below meth c (MQ below (Qix D A (XW ad cI cB) r ur) args s 0 0 A) D A 3 (XW ad cI cB) u 4 [(0, .ref (ad 1)), (1, .int x1), (2, .int x2)] [] := by
    intro f
    induction f with
    | zero => intro u x1 x2 h; cases h
    | succ f ih =>
      intro u x1 x2 h
      replace h : e_X0_allBalloons_L4_b (e_X0_allBalloons_L4 f) u x1 x2 = some (r, ur) := h
      unfold e_X0_allBalloons_L4_b at h
      refine x_iload_n C dX0_allBalloons_4 2 rfl (pc2 := 5) rfl ?_
      refine x_aload_n C dX0_allBalloons_5 0 rfl (pc2 := 6) rfl ?_
      refine x_get C hiX0 1 (xc_1 ad cI cB _) rfl 0 (by decide) f9 (v := .int (u 1 0)) rfl dX0_allBalloons_6 (pc2 := 9) rfl ?_
      refine x_icmp_ge C h dX0_allBalloons_9 (tgt := 27) (by decide) (pc2 := 12) rfl (fun h => ?_) (fun h => ?_)
      · refine x_iload_n C dX0_allBalloons_27 1 rfl (pc2 := 28) rfl ?_
        exact x_iret C hr hlocks h dX0_allBalloons_28
      · refine x_iload_n C dX0_allBalloons_12 1 rfl (pc2 := 13) rfl ?_
        refine x_aload_n C dX0_allBalloons_13 0 rfl (pc2 := 14) rfl ?_
        refine x_get C hiX0 1 (xc_1 ad cI cB _) rfl 5 (by decide) f28 (v := .ref (ad 5)) rfl dX0_allBalloons_14 (pc2 := 17) rfl ?_
        refine x_iload_n C dX0_allBalloons_17 2 rfl (pc2 := 18) rfl ?_
        refine x_iald C h 5 0 (xc_5 ad cI cB _) rfl dX0_allBalloons_18 (pc2 := 19) rfl (fun h => ?_)
        refine x_iadd C dX0_allBalloons_19 (pc2 := 20) rfl ?_
        refine x_istore_n C dX0_allBalloons_20 (by decide) (lv2 := [(1, .int (x1 + (u 5 (x2).toNatClampNeg))), (0, .ref (ad 1)), (2, .int x2)]) rfl (pc2 := 21) rfl ?_
        refine x_iinc C dX0_allBalloons_21 2 rfl (1 : Int32) (by decide) rfl (by decide) (lv2 := [(2, .int (x2 + (1 : Int32))), (1, .int (x1 + (u 5 (x2).toNatClampNeg))), (0, .ref (ad 1))]) rfl (pc2 := 24) rfl ?_
        refine x_goto C dX0_allBalloons_24 (pc2 := 4) (by decide) ?_
        refine x_sub [2, 1, 0] (lv2 := [(0, .ref (ad 1)), (1, .int (x1 + (u 5 (x2).toNatClampNeg))), (2, .int (x2 + (1 : Int32)))]) rfl ?_
        exact ih _ _ _ h
  refine x_iconst (v := (0 : Int32)) C dX0_allBalloons_0 (by decide) (pc2 := 1) rfl ?_
  refine x_istore_n C dX0_allBalloons_1 (by decide) (lv2 := [(1, .int (0 : Int32)), (0, .ref (ad 1))]) rfl (pc2 := 2) rfl ?_
  refine x_iconst (v := (0 : Int32)) C dX0_allBalloons_2 (by decide) (pc2 := 3) rfl ?_
  refine x_istore_n C dX0_allBalloons_3 (by decide) (lv2 := [(2, .int (0 : Int32)), (1, .int (0 : Int32)), (0, .ref (ad 1))]) rfl (pc2 := 4) rfl ?_
  refine x_sub [2, 1, 0] (lv2 := [(0, .ref (ad 1)), (1, .int (0 : Int32)), (2, .int (0 : Int32))]) rfl ?_
  exact J4 FU _ _ _ h
set_option maxRecDepth 100000 in
set_option maxHeartbeats 4000000 in
theorem c_X0_tierHeight (l : Launch) (D : va_G) (A : Nat → Prop) (ad : Nat → Nat) (cI cB : ClassId) (u : Mem) (x1 : Int32) (x2 : Int32) : Cti l yX0_tierHeight wsX0_tierHeight { frames := 1, cells := 0, slots := 0, locals := 40 } D A (XW ad cI cB) [(cI, .int), (cB, .object "PanelPages$Book")] [.ref (ad 1), .int x1, .int x2] u (e_X0_tierHeight u x1 x2) := by
  intro r ur h
  refine Met.ofW (cc := cX0_tierHeight) (maxL := 5) (ret := (some .int)) (by decide) rfl ?_
  intro p e s m args below meth c s₁ B hml hv
  obtain ⟨hav, hP, hK, hD⟩ := hv
  have C : Cx p m c cX0_tierHeight 5 s args wsX0_tierHeight RX0 D [(cI, .int), (cB, .object "PanelPages$Book")] := ⟨⟨B.exec, B.bytes, hml, findClass_of_methodNamed B.named, atoms_spec (ws := wsX0_tierHeight) B.pre⟩, hK⟩
  have hr := B.returns
  have hlocks := B.notSynchronized
  have hiX0 : ∀ w ∈ wsX00, w ∈ wsX0_tierHeight := by decide +kernel
  have f22 : Cond.fieldLink RX0 22 "PanelPages$Book" "tall" "[I" ∈ wsX0_tierHeight := by decide +kernel
  refine x_entry2 (lv := [(0, .ref (ad 1)), (1, .int x1), (2, .int x2)]) hav hP hD (Nat.le_of_ble_eq_true rfl) rfl ?_
  unfold e_X0_tierHeight at h
  have J5 : ∀ (f : Nat) (u : Mem) (x1 : Int32) (x2 : Int32) (x3 : Int32) (x4 : Int32), e_X0_tierHeight_L5 f u x1 x2 x3 x4 = some (r, ur) → Wx p l e (headSpec wsX0_tierHeight { frames := 1, cells := 0, slots := 0, locals := 40 }).room s m args below meth c (MQ below (Qix D A (XW ad cI cB) r ur) args s 0 0 A) D A 5 (XW ad cI cB) u 5 [(0, .ref (ad 1)), (1, .int x1), (2, .int x2), (3, .int x3), (4, .int x4)] [] := by
    intro f
    induction f with
    | zero => intro u x1 x2 x3 x4 h; cases h
    | succ f ih =>
      intro u x1 x2 x3 x4 h
      replace h : e_X0_tierHeight_L5_b (e_X0_tierHeight_L5 f) u x1 x2 x3 x4 = some (r, ur) := h
      unfold e_X0_tierHeight_L5_b at h
      refine x_iload C dX0_tierHeight_5 4 rfl (pc2 := 7) rfl ?_
      refine x_iload_n C dX0_tierHeight_7 1 rfl (pc2 := 8) rfl ?_
      refine x_iload_n C dX0_tierHeight_8 2 rfl (pc2 := 9) rfl ?_
      refine x_iadd C dX0_tierHeight_9 (pc2 := 10) rfl ?_
      refine x_icmp_ge C h dX0_tierHeight_10 (tgt := 31) (by decide) (pc2 := 13) rfl (fun h => ?_) (fun h => ?_)
      · refine x_iload_n C dX0_tierHeight_31 3 rfl (pc2 := 32) rfl ?_
        exact x_iret C hr hlocks h dX0_tierHeight_32
      · refine x_iload_n C dX0_tierHeight_13 3 rfl (pc2 := 14) rfl ?_
        refine x_aload_n C dX0_tierHeight_14 0 rfl (pc2 := 15) rfl ?_
        refine x_get C hiX0 1 (xc_1 ad cI cB _) rfl 3 (by decide) f22 (v := .ref (ad 3)) rfl dX0_tierHeight_15 (pc2 := 18) rfl ?_
        refine x_iload C dX0_tierHeight_18 4 rfl (pc2 := 20) rfl ?_
        refine x_iald C h 3 0 (xc_3 ad cI cB _) rfl dX0_tierHeight_20 (pc2 := 21) rfl (fun h => ?_)
        refine x_mmax (index := 40) C (by decide +kernel) (by decide +kernel) (by decide +kernel) (by decide +kernel) (Nat.le_of_ble_eq_true rfl) (Nat.le_of_ble_eq_true rfl) dX0_tierHeight_21 (pc2 := 24) rfl ?_
        refine x_istore_n C dX0_tierHeight_24 (by decide) (lv2 := [(3, .int (if x3 < (u 3 (x4).toNatClampNeg) then (u 3 (x4).toNatClampNeg) else x3)), (0, .ref (ad 1)), (1, .int x1), (2, .int x2), (4, .int x4)]) rfl (pc2 := 25) rfl ?_
        refine x_iinc C dX0_tierHeight_25 4 rfl (1 : Int32) (by decide) rfl (by decide) (lv2 := [(4, .int (x4 + (1 : Int32))), (3, .int (if x3 < (u 3 (x4).toNatClampNeg) then (u 3 (x4).toNatClampNeg) else x3)), (0, .ref (ad 1)), (1, .int x1), (2, .int x2)]) rfl (pc2 := 28) rfl ?_
        refine x_goto C dX0_tierHeight_28 (pc2 := 5) (by decide) ?_
        refine x_sub [2, 3, 4, 1, 0] (lv2 := [(0, .ref (ad 1)), (1, .int x1), (2, .int x2), (3, .int (if x3 < (u 3 (x4).toNatClampNeg) then (u 3 (x4).toNatClampNeg) else x3)), (4, .int (x4 + (1 : Int32)))]) rfl ?_
        exact ih _ _ _ _ _ h
  refine x_iconst (v := (0 : Int32)) C dX0_tierHeight_0 (by decide) (pc2 := 1) rfl ?_
  refine x_istore_n C dX0_tierHeight_1 (by decide) (lv2 := [(3, .int (0 : Int32)), (0, .ref (ad 1)), (1, .int x1), (2, .int x2)]) rfl (pc2 := 2) rfl ?_
  refine x_iload_n C dX0_tierHeight_2 2 rfl (pc2 := 3) rfl ?_
  refine x_istore C dX0_tierHeight_3 (by decide) (lv2 := [(4, .int x1), (3, .int (0 : Int32)), (0, .ref (ad 1)), (1, .int x1), (2, .int x2)]) rfl (pc2 := 5) rfl ?_
  refine x_sub [2, 3, 4, 1, 0] (lv2 := [(0, .ref (ad 1)), (1, .int x1), (2, .int x2), (3, .int (0 : Int32)), (4, .int x1)]) rfl ?_
  exact J5 FU _ _ _ _ _ h
set_option maxRecDepth 100000 in
set_option maxHeartbeats 4000000 in
theorem c_X0_tierGaps (l : Launch) (D : va_G) (A : Nat → Prop) (ad : Nat → Nat) (cI cB : ClassId) (u : Mem) (x1 : Int32) (x2 : Int32) : Cti l yX0_tierGaps wsX0_tierGaps { frames := 2, cells := 0, slots := 0, locals := 64 } D A (XW ad cI cB) [(cI, .int), (cB, .object "PanelPages$Book")] [.ref (ad 1), .int x1, .int x2] u (e_X0_tierGaps u x1 x2) := by
  intro r ur h
  refine Met.ofW (cc := cX0_tierGaps) (maxL := 6) (ret := (some .int)) (by decide) rfl ?_
  intro p e s m args below meth c s₁ B hml hv
  obtain ⟨hav, hP, hK, hD⟩ := hv
  have C : Cx p m c cX0_tierGaps 6 s args wsX0_tierGaps RX0 D [(cI, .int), (cB, .object "PanelPages$Book")] := ⟨⟨B.exec, B.bytes, hml, findClass_of_methodNamed B.named, atoms_spec (ws := wsX0_tierGaps) B.pre⟩, hK⟩
  have hr := B.returns
  have hlocks := B.notSynchronized
  have hiX0 : ∀ w ∈ wsX00, w ∈ wsX0_tierGaps := by decide +kernel
  have f22 : Cond.fieldLink RX0 22 "PanelPages$Book" "tall" "[I" ∈ wsX0_tierGaps := by decide +kernel
  refine x_entry2 (lv := [(0, .ref (ad 1)), (1, .int x1), (2, .int x2)]) hav hP hD (Nat.le_of_ble_eq_true rfl) rfl ?_
  unfold e_X0_tierGaps at h
  have J13 : ∀ (f : Nat) (u : Mem) (x1 : Int32) (x2 : Int32) (x3 : Int32) (x4 : Int32) (x5 : Int32), e_X0_tierGaps_L13 f u x1 x2 x3 x4 x5 = some (r, ur) → Wx p l e (headSpec wsX0_tierGaps { frames := 2, cells := 0, slots := 0, locals := 64 }).room s m args below meth c (MQ below (Qix D A (XW ad cI cB) r ur) args s 0 0 A) D A 6 (XW ad cI cB) u 13 [(0, .ref (ad 1)), (1, .int x1), (2, .int x2), (3, .int x3), (4, .int x4), (5, .int x5)] [] := by
    intro f
    induction f with
    | zero => intro u x1 x2 x3 x4 x5 h; cases h
    | succ f ih =>
      intro u x1 x2 x3 x4 x5 h
      replace h : e_X0_tierGaps_L13_b (e_X0_tierGaps_L13 f) u x1 x2 x3 x4 x5 = some (r, ur) := h
      unfold e_X0_tierGaps_L13_b at h
      refine x_iload C dX0_tierGaps_13 5 rfl (pc2 := 15) rfl ?_
      refine x_iload_n C dX0_tierGaps_15 1 rfl (pc2 := 16) rfl ?_
      refine x_iload_n C dX0_tierGaps_16 2 rfl (pc2 := 17) rfl ?_
      refine x_iadd C dX0_tierGaps_17 (pc2 := 18) rfl ?_
      refine x_icmp_ge C h dX0_tierGaps_18 (tgt := 41) (by decide) (pc2 := 21) rfl (fun h => ?_) (fun h => ?_)
      · refine x_iload C dX0_tierGaps_41 4 rfl (pc2 := 43) rfl ?_
        exact x_iret C hr hlocks h dX0_tierGaps_43
      · refine x_iload C dX0_tierGaps_21 4 rfl (pc2 := 23) rfl ?_
        refine x_iload_n C dX0_tierGaps_23 3 rfl (pc2 := 24) rfl ?_
        refine x_aload_n C dX0_tierGaps_24 0 rfl (pc2 := 25) rfl ?_
        refine x_get C hiX0 1 (xc_1 ad cI cB _) rfl 3 (by decide) f22 (v := .ref (ad 3)) rfl dX0_tierGaps_25 (pc2 := 28) rfl ?_
        refine x_iload C dX0_tierGaps_28 5 rfl (pc2 := 30) rfl ?_
        refine x_iald C h 3 0 (xc_3 ad cI cB _) rfl dX0_tierGaps_30 (pc2 := 31) rfl (fun h => ?_)
        refine x_isub C dX0_tierGaps_31 (pc2 := 32) rfl ?_
        refine x_iadd C dX0_tierGaps_32 (pc2 := 33) rfl ?_
        refine x_istore C dX0_tierGaps_33 (by decide) (lv2 := [(4, .int (x4 + (x3 - (u 3 (x5).toNatClampNeg)))), (0, .ref (ad 1)), (1, .int x1), (2, .int x2), (3, .int x3), (5, .int x5)]) rfl (pc2 := 35) rfl ?_
        refine x_iinc C dX0_tierGaps_35 5 rfl (1 : Int32) (by decide) rfl (by decide) (lv2 := [(5, .int (x5 + (1 : Int32))), (4, .int (x4 + (x3 - (u 3 (x5).toNatClampNeg)))), (0, .ref (ad 1)), (1, .int x1), (2, .int x2), (3, .int x3)]) rfl (pc2 := 38) rfl ?_
        refine x_goto C dX0_tierGaps_38 (pc2 := 13) (by decide) ?_
        refine x_sub [2, 3, 4, 5, 1, 0] (lv2 := [(0, .ref (ad 1)), (1, .int x1), (2, .int x2), (3, .int x3), (4, .int (x4 + (x3 - (u 3 (x5).toNatClampNeg)))), (5, .int (x5 + (1 : Int32)))]) rfl ?_
        exact ih _ _ _ _ _ _ h
  refine x_aload_n C dX0_tierGaps_0 0 rfl (pc2 := 1) rfl ?_
  refine x_iload_n C dX0_tierGaps_1 1 rfl (pc2 := 2) rfl ?_
  refine x_iload_n C dX0_tierGaps_2 2 rfl (pc2 := 3) rfl ?_
  refine x_callVi (As := [.int x1, .int x2]) (rest := []) (index := 46) (n := 2) C h (c_X0_tierHeight l D A ad cI cB _ _ _) gX0_tierGaps_X0_tierHeight rfl (by decide +kernel) rfl rfl ⟨Nat.le_of_ble_eq_true rfl, Nat.le_of_ble_eq_true rfl⟩ (ci := 0) rfl rfl (xc_1 ad cI cB _) (XW_D ad cI cB _) rfl rfl (Nat.le_of_ble_eq_true rfl) dX0_tierGaps_3 (pc2 := 6) rfl (fun r1 u1 h => ?_)
  refine x_istore_n C dX0_tierGaps_6 (by decide) (lv2 := [(3, .int r1), (0, .ref (ad 1)), (1, .int x1), (2, .int x2)]) rfl (pc2 := 7) rfl ?_
  refine x_iconst (v := (0 : Int32)) C dX0_tierGaps_7 (by decide) (pc2 := 8) rfl ?_
  refine x_istore C dX0_tierGaps_8 (by decide) (lv2 := [(4, .int (0 : Int32)), (3, .int r1), (0, .ref (ad 1)), (1, .int x1), (2, .int x2)]) rfl (pc2 := 10) rfl ?_
  refine x_iload_n C dX0_tierGaps_10 3 rfl (pc2 := 11) rfl ?_
  refine x_istore C dX0_tierGaps_11 (by decide) (lv2 := [(5, .int x1), (4, .int (0 : Int32)), (3, .int r1), (0, .ref (ad 1)), (1, .int x1), (2, .int x2)]) rfl (pc2 := 13) rfl ?_
  refine x_sub [3, 4, 5, 2, 1, 0] (lv2 := [(0, .ref (ad 1)), (1, .int x1), (2, .int x2), (3, .int r1), (4, .int (0 : Int32)), (5, .int x1)]) rfl ?_
  exact J13 FU _ _ _ _ _ _ h
set_option maxRecDepth 100000 in
set_option maxHeartbeats 4000000 in
theorem c_X0_tierWidth (l : Launch) (D : va_G) (A : Nat → Prop) (ad : Nat → Nat) (cI cB : ClassId) (u : Mem) (x1 : Int32) (x2 : Int32) (x3 : Int32) : Cti l yX0_tierWidth wsX0_tierWidth { frames := 0, cells := 0, slots := 0, locals := 0 } D A (XW ad cI cB) [(cI, .int), (cB, .object "PanelPages$Book")] [.ref (ad 1), .int x1, .int x2, .int x3] u (e_X0_tierWidth u x1 x2 x3) := by
  intro r ur h
  refine Met.ofW (cc := cX0_tierWidth) (maxL := 11) (ret := (some .int)) (by decide) rfl ?_
  intro p e s m args below meth c s₁ B hml hv
  obtain ⟨hav, hP, hK, hD⟩ := hv
  have C : Cx p m c cX0_tierWidth 11 s args wsX0_tierWidth RX0 D [(cI, .int), (cB, .object "PanelPages$Book")] := ⟨⟨B.exec, B.bytes, hml, findClass_of_methodNamed B.named, atoms_spec (ws := wsX0_tierWidth) B.pre⟩, hK⟩
  have hr := B.returns
  have hlocks := B.notSynchronized
  have hiX0 : ∀ w ∈ wsX00, w ∈ wsX0_tierWidth := by decide +kernel
  have f18 : Cond.fieldLink RX0 18 "PanelPages$Book" "weight" "[I" ∈ wsX0_tierWidth := by decide +kernel
  refine x_entry2 (lv := [(0, .ref (ad 1)), (1, .int x1), (2, .int x2), (3, .int x3)]) hav hP hD (Nat.le_of_ble_eq_true rfl) rfl ?_
  unfold e_X0_tierWidth at h
  have J135 : ∀ (k70 : Mem → Int32 → Int32 → Int32 → Int32 → Int32 → Int32 → Int32 → Int32 → Option (Int32 × Mem)), (∀ (u : Mem) (x1 : Int32) (x2 : Int32) (x4 : Int32) (x5 : Int32) (x6 : Int32) (x7 : Int32) (x8 : Int32) (x9 : Int32), k70 u x1 x2 x4 x5 x6 x7 x8 x9 = some (r, ur) → Wx p l e (headSpec wsX0_tierWidth { frames := 0, cells := 0, slots := 0, locals := 0 }).room s m args below meth c (MQ below (Qix D A (XW ad cI cB) r ur) args s 0 0 A) D A 11 (XW ad cI cB) u 70 [(0, .ref (ad 1)), (1, .int x1), (2, .int x2), (4, .int x4), (5, .int x5), (6, .int x6), (7, .int x7), (8, .int x8), (9, .int x9)] []) → ∀ (u : Mem) (x1 : Int32) (x2 : Int32) (x4 : Int32) (x5 : Int32) (x6 : Int32) (x7 : Int32) (x8 : Int32) (x9 : Int32), e_X0_tierWidth_J135 k70 u x1 x2 x4 x5 x6 x7 x8 x9 = some (r, ur) → Wx p l e (headSpec wsX0_tierWidth { frames := 0, cells := 0, slots := 0, locals := 0 }).room s m args below meth c (MQ below (Qix D A (XW ad cI cB) r ur) args s 0 0 A) D A 11 (XW ad cI cB) u 135 [(0, .ref (ad 1)), (1, .int x1), (2, .int x2), (4, .int x4), (5, .int x5), (6, .int x6), (7, .int x7), (8, .int x8), (9, .int x9)] [] := by
    intro k70 hk70 
    intro u x1 x2 x4 x5 x6 x7 x8 x9 h
    unfold e_X0_tierWidth_J135 at h
    refine x_iinc C dX0_tierWidth_135 8 rfl (1 : Int32) (by decide) rfl (by decide) (lv2 := [(9, .int (x9 + (1 : Int32))), (0, .ref (ad 1)), (1, .int x1), (2, .int x2), (4, .int x4), (5, .int x5), (6, .int x6), (7, .int x7), (8, .int x8)]) rfl (pc2 := 138) rfl ?_
    refine x_goto C dX0_tierWidth_138 (pc2 := 70) (by decide) ?_
    refine x_sub [1, 2, 3, 4, 5, 6, 7, 8, 0] (lv2 := [(0, .ref (ad 1)), (1, .int x1), (2, .int x2), (4, .int x4), (5, .int x5), (6, .int x6), (7, .int x7), (8, .int x8), (9, .int (x9 + (1 : Int32)))]) rfl ?_
    exact hk70 _ _ _ _ _ _ _ _ _ h
  have J132 : ∀ (k70 : Mem → Int32 → Int32 → Int32 → Int32 → Int32 → Int32 → Int32 → Int32 → Option (Int32 × Mem)), (∀ (u : Mem) (x1 : Int32) (x2 : Int32) (x4 : Int32) (x5 : Int32) (x6 : Int32) (x7 : Int32) (x8 : Int32) (x9 : Int32), k70 u x1 x2 x4 x5 x6 x7 x8 x9 = some (r, ur) → Wx p l e (headSpec wsX0_tierWidth { frames := 0, cells := 0, slots := 0, locals := 0 }).room s m args below meth c (MQ below (Qix D A (XW ad cI cB) r ur) args s 0 0 A) D A 11 (XW ad cI cB) u 70 [(0, .ref (ad 1)), (1, .int x1), (2, .int x2), (4, .int x4), (5, .int x5), (6, .int x6), (7, .int x7), (8, .int x8), (9, .int x9)] []) → ∀ (u : Mem) (x1 : Int32) (x2 : Int32) (x4 : Int32) (x5 : Int32) (x6 : Int32) (x7 : Int32) (x8 : Int32) (x9 : Int32), e_X0_tierWidth_J132 k70 u x1 x2 x4 x5 x6 x7 x8 x9 = some (r, ur) → Wx p l e (headSpec wsX0_tierWidth { frames := 0, cells := 0, slots := 0, locals := 0 }).room s m args below meth c (MQ below (Qix D A (XW ad cI cB) r ur) args s 0 0 A) D A 11 (XW ad cI cB) u 132 [(0, .ref (ad 1)), (1, .int x1), (2, .int x2), (4, .int x4), (5, .int x5), (6, .int x6), (7, .int x7), (8, .int x8), (9, .int x9)] [] := by
    intro k70 hk70 
    intro u x1 x2 x4 x5 x6 x7 x8 x9 h
    unfold e_X0_tierWidth_J132 at h
    refine x_iinc C dX0_tierWidth_132 7 rfl (1 : Int32) (by decide) rfl (by decide) (lv2 := [(8, .int (x8 + (1 : Int32))), (0, .ref (ad 1)), (1, .int x1), (2, .int x2), (4, .int x4), (5, .int x5), (6, .int x6), (7, .int x7), (9, .int x9)]) rfl (pc2 := 135) rfl ?_
    refine x_sub [1, 2, 3, 4, 5, 6, 7, 0, 8] (lv2 := [(0, .ref (ad 1)), (1, .int x1), (2, .int x2), (4, .int x4), (5, .int x5), (6, .int x6), (7, .int x7), (8, .int (x8 + (1 : Int32))), (9, .int x9)]) rfl ?_
    exact J135 k70 hk70 _ _ _ _ _ _ _ _ _ h
  have J70 : ∀ (f : Nat) (u : Mem) (x1 : Int32) (x2 : Int32) (x4 : Int32) (x5 : Int32) (x6 : Int32) (x7 : Int32) (x8 : Int32) (x9 : Int32), e_X0_tierWidth_L70 f u x1 x2 x4 x5 x6 x7 x8 x9 = some (r, ur) → Wx p l e (headSpec wsX0_tierWidth { frames := 0, cells := 0, slots := 0, locals := 0 }).room s m args below meth c (MQ below (Qix D A (XW ad cI cB) r ur) args s 0 0 A) D A 11 (XW ad cI cB) u 70 [(0, .ref (ad 1)), (1, .int x1), (2, .int x2), (4, .int x4), (5, .int x5), (6, .int x6), (7, .int x7), (8, .int x8), (9, .int x9)] [] := by
    intro f
    induction f with
    | zero => intro u x1 x2 x4 x5 x6 x7 x8 x9 h; cases h
    | succ f ih =>
      intro u x1 x2 x4 x5 x6 x7 x8 x9 h
      replace h : e_X0_tierWidth_L70_b (e_X0_tierWidth_L70 f) u x1 x2 x4 x5 x6 x7 x8 x9 = some (r, ur) := h
      unfold e_X0_tierWidth_L70_b at h
      refine x_iload C dX0_tierWidth_70 8 rfl (pc2 := 72) rfl ?_
      refine x_iload_n C dX0_tierWidth_72 1 rfl (pc2 := 73) rfl ?_
      refine x_iload_n C dX0_tierWidth_73 2 rfl (pc2 := 74) rfl ?_
      refine x_iadd C dX0_tierWidth_74 (pc2 := 75) rfl ?_
      refine x_icmp_ge C h dX0_tierWidth_75 (tgt := 141) (by decide) (pc2 := 78) rfl (fun h => ?_) (fun h => ?_)
      · refine x_bipush (v := (12 : Int32)) C dX0_tierWidth_141 (by decide) (pc2 := 143) rfl ?_
        refine x_aload_n C dX0_tierWidth_143 0 rfl (pc2 := 144) rfl ?_
        refine x_get C hiX0 1 (xc_1 ad cI cB _) rfl 2 (by decide) f18 (v := .ref (ad 2)) rfl dX0_tierWidth_144 (pc2 := 147) rfl ?_
        refine x_iload C dX0_tierWidth_147 4 rfl (pc2 := 149) rfl ?_
        refine x_iald C h 2 0 (xc_2 ad cI cB _) rfl dX0_tierWidth_149 (pc2 := 150) rfl (fun h => ?_)
        refine x_imul C dX0_tierWidth_150 (pc2 := 151) rfl ?_
        refine x_iload C dX0_tierWidth_151 3 rfl (pc2 := 153) rfl ?_
        obtain ⟨z153, h⟩ := ite_nn h
        refine x_idiv C dX0_tierWidth_153 z153 (pc2 := 154) rfl ?_
        refine x_iload C dX0_tierWidth_154 7 rfl (pc2 := 156) rfl ?_
        refine x_iload C dX0_tierWidth_156 6 rfl (pc2 := 158) rfl ?_
        refine x_icmp_ge C h dX0_tierWidth_158 (tgt := 165) (by decide) (pc2 := 161) rfl (fun h => ?_) (fun h => ?_)
        · refine x_iconst (v := (0 : Int32)) C dX0_tierWidth_165 (by decide) (pc2 := 166) rfl ?_
          refine x_iadd C dX0_tierWidth_166 (pc2 := 167) rfl ?_
          exact x_iret C hr hlocks h dX0_tierWidth_167
        · refine x_iconst (v := (1 : Int32)) C dX0_tierWidth_161 (by decide) (pc2 := 162) rfl ?_
          refine x_goto C dX0_tierWidth_162 (pc2 := 166) (by decide) ?_
          refine x_iadd C dX0_tierWidth_166 (pc2 := 167) rfl ?_
          exact x_iret C hr hlocks h dX0_tierWidth_167
      · refine x_bipush (v := (12 : Int32)) C dX0_tierWidth_78 (by decide) (pc2 := 80) rfl ?_
        refine x_aload_n C dX0_tierWidth_80 0 rfl (pc2 := 81) rfl ?_
        refine x_get C hiX0 1 (xc_1 ad cI cB _) rfl 2 (by decide) f18 (v := .ref (ad 2)) rfl dX0_tierWidth_81 (pc2 := 84) rfl ?_
        refine x_iload C dX0_tierWidth_84 8 rfl (pc2 := 86) rfl ?_
        refine x_iald C h 2 0 (xc_2 ad cI cB _) rfl dX0_tierWidth_86 (pc2 := 87) rfl (fun h => ?_)
        refine x_imul C dX0_tierWidth_87 (pc2 := 88) rfl ?_
        refine x_iload C dX0_tierWidth_88 3 rfl (pc2 := 90) rfl ?_
        obtain ⟨z90, h⟩ := ite_nn h
        refine x_irem C dX0_tierWidth_90 z90 (pc2 := 91) rfl ?_
        refine x_istore C dX0_tierWidth_91 (by decide) (lv2 := [(10, .int (((12 : Int32) * (u 2 (x9).toNatClampNeg)) - ((12 : Int32) * (u 2 (x9).toNatClampNeg)) / x4 * x4)), (0, .ref (ad 1)), (1, .int x1), (2, .int x2), (4, .int x4), (5, .int x5), (6, .int x6), (7, .int x7), (8, .int x8), (9, .int x9)]) rfl (pc2 := 93) rfl ?_
        refine x_iload C dX0_tierWidth_93 7 rfl (pc2 := 95) rfl ?_
        refine x_bipush (v := (12 : Int32)) C dX0_tierWidth_95 (by decide) (pc2 := 97) rfl ?_
        refine x_aload_n C dX0_tierWidth_97 1 rfl (pc2 := 98) rfl ?_
        refine x_get C hiX0 1 (xc_1 ad cI cB _) rfl 2 (by decide) f18 (v := .ref (ad 2)) rfl dX0_tierWidth_98 (pc2 := 101) rfl ?_
        refine x_iload C dX0_tierWidth_101 9 rfl (pc2 := 103) rfl ?_
        refine x_iald C h 2 0 (xc_2 ad cI cB _) rfl dX0_tierWidth_103 (pc2 := 104) rfl (fun h => ?_)
        refine x_imul C dX0_tierWidth_104 (pc2 := 105) rfl ?_
        refine x_iload C dX0_tierWidth_105 4 rfl (pc2 := 107) rfl ?_
        obtain ⟨z107, h⟩ := ite_nn h
        refine x_idiv C dX0_tierWidth_107 z107 (pc2 := 108) rfl ?_
        refine x_isub C dX0_tierWidth_108 (pc2 := 109) rfl ?_
        refine x_istore C dX0_tierWidth_109 (by decide) (lv2 := [(7, .int (x7 - (((12 : Int32) * (u 2 (x9).toNatClampNeg)) / x4))), (10, .int (((12 : Int32) * (u 2 (x9).toNatClampNeg)) - ((12 : Int32) * (u 2 (x9).toNatClampNeg)) / x4 * x4)), (0, .ref (ad 1)), (1, .int x1), (2, .int x2), (4, .int x4), (5, .int x5), (6, .int x6), (8, .int x8), (9, .int x9)]) rfl (pc2 := 111) rfl ?_
        refine x_iload C dX0_tierWidth_111 1 rfl (pc2 := 113) rfl ?_
        refine x_iload C dX0_tierWidth_113 7 rfl (pc2 := 115) rfl ?_
        refine x_icmp_gt C h dX0_tierWidth_115 (tgt := 132) (by decide) (pc2 := 118) rfl (fun h => ?_) (fun h => ?_)
        · refine x_sub [2, 3, 4, 5, 6, 7, 0, 8, 9] (lv2 := [(0, .ref (ad 1)), (1, .int x1), (2, .int x2), (4, .int x4), (5, .int x5), (6, .int x6), (7, .int (x7 - (((12 : Int32) * (u 2 (x9).toNatClampNeg)) / x4))), (8, .int x8), (9, .int x9)]) rfl ?_
          exact J132 (e_X0_tierWidth_L70 f) ih _ _ _ _ _ _ _ _ _ h
        · refine x_iload C dX0_tierWidth_118 1 rfl (pc2 := 120) rfl ?_
          refine x_iload C dX0_tierWidth_120 7 rfl (pc2 := 122) rfl ?_
          refine x_icmp_ne C h dX0_tierWidth_122 (tgt := 135) (by decide) (pc2 := 125) rfl (fun h => ?_) (fun h => ?_)
          · refine x_sub [2, 3, 4, 5, 6, 7, 0, 8, 9] (lv2 := [(0, .ref (ad 1)), (1, .int x1), (2, .int x2), (4, .int x4), (5, .int x5), (6, .int x6), (7, .int (x7 - (((12 : Int32) * (u 2 (x9).toNatClampNeg)) / x4))), (8, .int x8), (9, .int x9)]) rfl ?_
            exact J135 (e_X0_tierWidth_L70 f) ih _ _ _ _ _ _ _ _ _ h
          · refine x_iload C dX0_tierWidth_125 9 rfl (pc2 := 127) rfl ?_
            refine x_iload C dX0_tierWidth_127 6 rfl (pc2 := 129) rfl ?_
            refine x_icmp_ge C h dX0_tierWidth_129 (tgt := 135) (by decide) (pc2 := 132) rfl (fun h => ?_) (fun h => ?_)
            · refine x_sub [2, 3, 4, 5, 6, 7, 0, 8, 9] (lv2 := [(0, .ref (ad 1)), (1, .int x1), (2, .int x2), (4, .int x4), (5, .int x5), (6, .int x6), (7, .int (x7 - (((12 : Int32) * (u 2 (x9).toNatClampNeg)) / x4))), (8, .int x8), (9, .int x9)]) rfl ?_
              exact J135 (e_X0_tierWidth_L70 f) ih _ _ _ _ _ _ _ _ _ h
            · refine x_sub [2, 3, 4, 5, 6, 7, 0, 8, 9] (lv2 := [(0, .ref (ad 1)), (1, .int x1), (2, .int x2), (4, .int x4), (5, .int x5), (6, .int x6), (7, .int (x7 - (((12 : Int32) * (u 2 (x9).toNatClampNeg)) / x4))), (8, .int x8), (9, .int x9)]) rfl ?_
              exact J132 (e_X0_tierWidth_L70 f) ih _ _ _ _ _ _ _ _ _ h
  have J6 : ∀ (f : Nat) (u : Mem) (x1 : Int32) (x2 : Int32) (x3 : Int32) (x4 : Int32) (x5 : Int32), e_X0_tierWidth_L6 f u x1 x2 x3 x4 x5 = some (r, ur) → Wx p l e (headSpec wsX0_tierWidth { frames := 0, cells := 0, slots := 0, locals := 0 }).room s m args below meth c (MQ below (Qix D A (XW ad cI cB) r ur) args s 0 0 A) D A 11 (XW ad cI cB) u 6 [(0, .ref (ad 1)), (1, .int x1), (2, .int x2), (3, .int x3), (4, .int x4), (5, .int x5)] [] := by
    intro f
    induction f with
    | zero => intro u x1 x2 x3 x4 x5 h; cases h
    | succ f ih =>
      intro u x1 x2 x3 x4 x5 h
      replace h : e_X0_tierWidth_L6_b (e_X0_tierWidth_L6 f) u x1 x2 x3 x4 x5 = some (r, ur) := h
      unfold e_X0_tierWidth_L6_b at h
      refine x_iload C dX0_tierWidth_6 5 rfl (pc2 := 8) rfl ?_
      refine x_iload_n C dX0_tierWidth_8 1 rfl (pc2 := 9) rfl ?_
      refine x_iload_n C dX0_tierWidth_9 2 rfl (pc2 := 10) rfl ?_
      refine x_iadd C dX0_tierWidth_10 (pc2 := 11) rfl ?_
      refine x_icmp_ge C h dX0_tierWidth_11 (tgt := 32) (by decide) (pc2 := 14) rfl (fun h => ?_) (fun h => ?_)
      · refine x_iload C dX0_tierWidth_32 4 rfl (pc2 := 34) rfl ?_
        refine x_iconst (v := (1 : Int32)) C dX0_tierWidth_34 (by decide) (pc2 := 35) rfl ?_
        refine x_icmp_ge C h dX0_tierWidth_35 (tgt := 40) (by decide) (pc2 := 38) rfl (fun h => ?_) (fun h => ?_)
        · refine x_iload_n C dX0_tierWidth_40 1 rfl (pc2 := 41) rfl ?_
          refine x_iload_n C dX0_tierWidth_41 3 rfl (pc2 := 42) rfl ?_
          refine x_iadd C dX0_tierWidth_42 (pc2 := 43) rfl ?_
          refine x_istore C dX0_tierWidth_43 (by decide) (lv2 := [(5, .int (x1 + x3)), (0, .ref (ad 1)), (1, .int x1), (2, .int x2), (3, .int x3), (4, .int x4)]) rfl (pc2 := 45) rfl ?_
          refine x_bipush (v := (12 : Int32)) C dX0_tierWidth_45 (by decide) (pc2 := 47) rfl ?_
          refine x_aload_n C dX0_tierWidth_47 1 rfl (pc2 := 48) rfl ?_
          refine x_get C hiX0 1 (xc_1 ad cI cB _) rfl 2 (by decide) f18 (v := .ref (ad 2)) rfl dX0_tierWidth_48 (pc2 := 51) rfl ?_
          refine x_iload C dX0_tierWidth_51 0 rfl (pc2 := 53) rfl ?_
          refine x_iald C h 2 0 (xc_2 ad cI cB _) rfl dX0_tierWidth_53 (pc2 := 54) rfl (fun h => ?_)
          refine x_imul C dX0_tierWidth_54 (pc2 := 55) rfl ?_
          refine x_iload C dX0_tierWidth_55 5 rfl (pc2 := 57) rfl ?_
          obtain ⟨z57, h⟩ := ite_nn h
          refine x_irem C dX0_tierWidth_57 z57 (pc2 := 58) rfl ?_
          refine x_istore C dX0_tierWidth_58 (by decide) (lv2 := [(6, .int (((12 : Int32) * (u 2 ((x1 + x3)).toNatClampNeg)) - ((12 : Int32) * (u 2 ((x1 + x3)).toNatClampNeg)) / x4 * x4)), (5, .int (x1 + x3)), (0, .ref (ad 1)), (1, .int x1), (2, .int x2), (3, .int x3), (4, .int x4)]) rfl (pc2 := 60) rfl ?_
          refine x_bipush (v := (12 : Int32)) C dX0_tierWidth_60 (by decide) (pc2 := 62) rfl ?_
          refine x_istore C dX0_tierWidth_62 (by decide) (lv2 := [(7, .int (12 : Int32)), (6, .int (((12 : Int32) * (u 2 ((x1 + x3)).toNatClampNeg)) - ((12 : Int32) * (u 2 ((x1 + x3)).toNatClampNeg)) / x4 * x4)), (5, .int (x1 + x3)), (0, .ref (ad 1)), (1, .int x1), (2, .int x2), (3, .int x3), (4, .int x4)]) rfl (pc2 := 64) rfl ?_
          refine x_iconst (v := (0 : Int32)) C dX0_tierWidth_64 (by decide) (pc2 := 65) rfl ?_
          refine x_istore C dX0_tierWidth_65 (by decide) (lv2 := [(8, .int (0 : Int32)), (7, .int (12 : Int32)), (6, .int (((12 : Int32) * (u 2 ((x1 + x3)).toNatClampNeg)) - ((12 : Int32) * (u 2 ((x1 + x3)).toNatClampNeg)) / x4 * x4)), (5, .int (x1 + x3)), (0, .ref (ad 1)), (1, .int x1), (2, .int x2), (3, .int x3), (4, .int x4)]) rfl (pc2 := 67) rfl ?_
          refine x_iload_n C dX0_tierWidth_67 5 rfl (pc2 := 68) rfl ?_
          refine x_istore C dX0_tierWidth_68 (by decide) (lv2 := [(9, .int x1), (8, .int (0 : Int32)), (7, .int (12 : Int32)), (6, .int (((12 : Int32) * (u 2 ((x1 + x3)).toNatClampNeg)) - ((12 : Int32) * (u 2 ((x1 + x3)).toNatClampNeg)) / x4 * x4)), (5, .int (x1 + x3)), (0, .ref (ad 1)), (1, .int x1), (2, .int x2), (3, .int x3), (4, .int x4)]) rfl (pc2 := 70) rfl ?_
          refine x_sub [5, 6, 7, 9, 4, 3, 2, 1, 0] (lv2 := [(0, .ref (ad 1)), (1, .int x1), (2, .int x2), (4, .int x4), (5, .int (x1 + x3)), (6, .int (((12 : Int32) * (u 2 ((x1 + x3)).toNatClampNeg)) - ((12 : Int32) * (u 2 ((x1 + x3)).toNatClampNeg)) / x4 * x4)), (7, .int (12 : Int32)), (8, .int (0 : Int32)), (9, .int x1)]) rfl ?_
          exact J70 FU _ _ _ _ _ _ _ _ _ h
        · refine x_iconst (v := (0 : Int32)) C dX0_tierWidth_38 (by decide) (pc2 := 39) rfl ?_
          exact x_iret C hr hlocks h dX0_tierWidth_39
      · refine x_iload C dX0_tierWidth_14 4 rfl (pc2 := 16) rfl ?_
        refine x_aload_n C dX0_tierWidth_16 0 rfl (pc2 := 17) rfl ?_
        refine x_get C hiX0 1 (xc_1 ad cI cB _) rfl 2 (by decide) f18 (v := .ref (ad 2)) rfl dX0_tierWidth_17 (pc2 := 20) rfl ?_
        refine x_iload C dX0_tierWidth_20 5 rfl (pc2 := 22) rfl ?_
        refine x_iald C h 2 0 (xc_2 ad cI cB _) rfl dX0_tierWidth_22 (pc2 := 23) rfl (fun h => ?_)
        refine x_iadd C dX0_tierWidth_23 (pc2 := 24) rfl ?_
        refine x_istore C dX0_tierWidth_24 (by decide) (lv2 := [(4, .int (x4 + (u 2 (x5).toNatClampNeg))), (0, .ref (ad 1)), (1, .int x1), (2, .int x2), (3, .int x3), (5, .int x5)]) rfl (pc2 := 26) rfl ?_
        refine x_iinc C dX0_tierWidth_26 5 rfl (1 : Int32) (by decide) rfl (by decide) (lv2 := [(5, .int (x5 + (1 : Int32))), (4, .int (x4 + (u 2 (x5).toNatClampNeg))), (0, .ref (ad 1)), (1, .int x1), (2, .int x2), (3, .int x3)]) rfl (pc2 := 29) rfl ?_
        refine x_goto C dX0_tierWidth_29 (pc2 := 6) (by decide) ?_
        refine x_sub [2, 3, 4, 5, 1, 0] (lv2 := [(0, .ref (ad 1)), (1, .int x1), (2, .int x2), (3, .int x3), (4, .int (x4 + (u 2 (x5).toNatClampNeg))), (5, .int (x5 + (1 : Int32)))]) rfl ?_
        exact ih _ _ _ _ _ _ h
  refine x_iconst (v := (0 : Int32)) C dX0_tierWidth_0 (by decide) (pc2 := 1) rfl ?_
  refine x_istore C dX0_tierWidth_1 (by decide) (lv2 := [(4, .int (0 : Int32)), (0, .ref (ad 1)), (1, .int x1), (2, .int x2), (3, .int x3)]) rfl (pc2 := 3) rfl ?_
  refine x_iload_n C dX0_tierWidth_3 2 rfl (pc2 := 4) rfl ?_
  refine x_istore C dX0_tierWidth_4 (by decide) (lv2 := [(5, .int x1), (4, .int (0 : Int32)), (0, .ref (ad 1)), (1, .int x1), (2, .int x2), (3, .int x3)]) rfl (pc2 := 6) rfl ?_
  refine x_sub [2, 3, 4, 5, 1, 0] (lv2 := [(0, .ref (ad 1)), (1, .int x1), (2, .int x2), (3, .int x3), (4, .int (0 : Int32)), (5, .int x1)]) rfl ?_
  exact J6 FU _ _ _ _ _ _ h
set_option maxRecDepth 100000 in
set_option maxHeartbeats 4000000 in
theorem c_X2_add (l : Launch) (D : va_G) (A : Nat → Prop) (ad : Nat → Nat) (cI cB : ClassId) (u : Mem) (x1 : Int32) : Ctv l yX2_add wsX2_add { frames := 0, cells := 0, slots := 0, locals := 0 } D A (XW ad cI cB) [(cI, .int), (cB, .object "PanelPages$Book")] [.ref (ad 7), .int x1] u (e_X2_add u x1) := by
  intro ur h
  refine Met.ofW (cc := cX2_add) (maxL := 2) (ret := none) (by decide) rfl ?_
  intro p e s m args below meth c s₁ B hml hv
  obtain ⟨hav, hP, hK, hD⟩ := hv
  have C : Cx p m c cX2_add 2 s args wsX2_add RX2 D [(cI, .int), (cB, .object "PanelPages$Book")] := ⟨⟨B.exec, B.bytes, hml, findClass_of_methodNamed B.named, atoms_spec (ws := wsX2_add) B.pre⟩, hK⟩
  have hr := B.returns
  have hlocks := B.notSynchronized
  have hiX2 : ∀ w ∈ wsX20, w ∈ wsX2_add := by decide +kernel
  have f15 : Cond.fieldLink RX2 15 "PanelPages$Pad" "signs" "[I" ∈ wsX2_add := by decide +kernel
  have f9 : Cond.fieldLink RX2 9 "PanelPages$Pad" "size" "I" ∈ wsX2_add := by decide +kernel
  refine x_entry2 (lv := [(0, .ref (ad 7)), (1, .int x1)]) hav hP hD (Nat.le_of_ble_eq_true rfl) rfl ?_
  unfold e_X2_add at h
  refine x_aload_n C dX2_add_0 0 rfl (pc2 := 1) rfl ?_
  refine x_get C hiX2 7 (xc_7 ad cI cB _) rfl 0 (by decide) f9 (v := .int (u 7 0)) rfl dX2_add_1 (pc2 := 4) rfl ?_
  refine x_bipush (v := (9 : Int32)) C dX2_add_4 (by decide) (pc2 := 6) rfl ?_
  refine x_icmp_ge C h dX2_add_6 (tgt := 29) (by decide) (pc2 := 9) rfl (fun h => ?_) (fun h => ?_)
  · exact x_vret C hr hlocks h dX2_add_29
  · refine x_aload_n C dX2_add_9 0 rfl (pc2 := 10) rfl ?_
    refine x_get C hiX2 7 (xc_7 ad cI cB _) rfl 1 (by decide) f15 (v := .ref (ad 8)) rfl dX2_add_10 (pc2 := 13) rfl ?_
    refine x_aload_n C dX2_add_13 0 rfl (pc2 := 14) rfl ?_
    refine x_get C hiX2 7 (xc_7 ad cI cB _) rfl 0 (by decide) f9 (v := .int (u 7 0)) rfl dX2_add_14 (pc2 := 17) rfl ?_
    refine x_iload_n C dX2_add_17 1 rfl (pc2 := 18) rfl ?_
    refine x_iast C h 8 0 (xc_8 ad cI cB _) rfl (u2 := (put u 8 ((u 7 0)).toNatClampNeg x1)) (xs_8 ad cI cB _ _ _) dX2_add_18 (pc2 := 19) rfl (fun h => ?_)
    refine x_aload_n C dX2_add_19 0 rfl (pc2 := 20) rfl ?_
    refine x_dup C dX2_add_20 rfl (pc2 := 21) rfl ?_
    refine x_get C hiX2 7 (xc_7 ad cI cB _) rfl 0 (by decide) f9 (v := .int ((put u 8 ((u 7 0)).toNatClampNeg x1) 7 0)) rfl dX2_add_21 (pc2 := 24) rfl ?_
    refine x_tope (y := (u 7 0)) rfl ?_
    refine x_iconst (v := (1 : Int32)) C dX2_add_24 (by decide) (pc2 := 25) rfl ?_
    refine x_iadd C dX2_add_25 (pc2 := 26) rfl ?_
    refine x_put C hiX2 tyX2 tyX2_ok nmX2 7 (xc_7 ad cI cB _) rfl 0 (by decide) f9 rfl rfl (Nat.le_of_ble_eq_true rfl) (u2 := (put (put u 8 ((u 7 0)).toNatClampNeg x1) 7 0 ((u 7 0) + (1 : Int32)))) (xs_7_0 ad cI cB _ _) dX2_add_26 (pc2 := 29) rfl ?_
    exact x_vret C hr hlocks h dX2_add_29
set_option maxRecDepth 100000 in
set_option maxHeartbeats 4000000 in
theorem c_X2_figure (l : Launch) (D : va_G) (A : Nat → Prop) (ad : Nat → Nat) (cI cB : ClassId) (u : Mem) (x1 : Int32) : Cti l yX2_figure wsX2_figure { frames := 0, cells := 0, slots := 0, locals := 0 } D A (XW ad cI cB) [(cI, .int), (cB, .object "PanelPages$Book")] [.ref (ad 7), .int x1] u (e_X2_figure u x1) := by
  intro r ur h
  refine Met.ofW (cc := cX2_figure) (maxL := 2) (ret := (some .int)) (by decide) rfl ?_
  intro p e s m args below meth c s₁ B hml hv
  obtain ⟨hav, hP, hK, hD⟩ := hv
  have C : Cx p m c cX2_figure 2 s args wsX2_figure RX2 D [(cI, .int), (cB, .object "PanelPages$Book")] := ⟨⟨B.exec, B.bytes, hml, findClass_of_methodNamed B.named, atoms_spec (ws := wsX2_figure) B.pre⟩, hK⟩
  have hr := B.returns
  have hlocks := B.notSynchronized
  have hiX2 : ∀ w ∈ wsX20, w ∈ wsX2_figure := by decide +kernel
  have f15 : Cond.fieldLink RX2 15 "PanelPages$Pad" "signs" "[I" ∈ wsX2_figure := by decide +kernel
  refine x_entry2 (lv := [(0, .ref (ad 7)), (1, .int x1)]) hav hP hD (Nat.le_of_ble_eq_true rfl) rfl ?_
  unfold e_X2_figure at h
  refine x_aload_n C dX2_figure_0 0 rfl (pc2 := 1) rfl ?_
  refine x_get C hiX2 7 (xc_7 ad cI cB _) rfl 1 (by decide) f15 (v := .ref (ad 8)) rfl dX2_figure_1 (pc2 := 4) rfl ?_
  refine x_iload_n C dX2_figure_4 1 rfl (pc2 := 5) rfl ?_
  refine x_iald C h 8 0 (xc_8 ad cI cB _) rfl dX2_figure_5 (pc2 := 6) rfl (fun h => ?_)
  refine x_bipush (v := (48 : Int32)) C dX2_figure_6 (by decide) (pc2 := 8) rfl ?_
  refine x_isub C dX2_figure_8 (pc2 := 9) rfl ?_
  exact x_iret C hr hlocks h dX2_figure_9
set_option maxRecDepth 100000 in
set_option maxHeartbeats 4000000 in
theorem c_X2_isFigure (l : Launch) (D : va_G) (A : Nat → Prop) (ad : Nat → Nat) (cI cB : ClassId) (u : Mem) (x1 : Int32) (x2 : Int32) : Cti l yX2_isFigure wsX2_isFigure { frames := 1, cells := 0, slots := 0, locals := 21 } D A (XW ad cI cB) [(cI, .int), (cB, .object "PanelPages$Book")] [.ref (ad 7), .int x1, .int x2] u (e_X2_isFigure u x1 x2) := by
  intro r ur h
  refine Met.ofW (cc := cX2_isFigure) (maxL := 3) (ret := (some .boolean)) (by decide) rfl ?_
  intro p e s m args below meth c s₁ B hml hv
  obtain ⟨hav, hP, hK, hD⟩ := hv
  have C : Cx p m c cX2_isFigure 3 s args wsX2_isFigure RX2 D [(cI, .int), (cB, .object "PanelPages$Book")] := ⟨⟨B.exec, B.bytes, hml, findClass_of_methodNamed B.named, atoms_spec (ws := wsX2_isFigure) B.pre⟩, hK⟩
  have hr := B.returns
  have hlocks := B.notSynchronized
  refine x_entry2 (lv := [(0, .ref (ad 7)), (1, .int x1), (2, .int x2)]) hav hP hD (Nat.le_of_ble_eq_true rfl) rfl ?_
  unfold e_X2_isFigure at h
  refine x_aload_n C dX2_isFigure_0 0 rfl (pc2 := 1) rfl ?_
  refine x_iload_n C dX2_isFigure_1 1 rfl (pc2 := 2) rfl ?_
  refine x_callVi (As := [.int x1]) (rest := []) (index := 19) (n := 1) C h (c_X2_figure l D A ad cI cB _ _) gX2_isFigure_X2_figure rfl (by decide +kernel) rfl rfl ⟨Nat.le_of_ble_eq_true rfl, Nat.le_of_ble_eq_true rfl⟩ (ci := 2) rfl rfl (xc_7 ad cI cB _) (XW_D ad cI cB _) rfl rfl (Nat.le_of_ble_eq_true rfl) dX2_isFigure_2 (pc2 := 5) rfl (fun r1 u1 h => ?_)
  refine x_if_lt C h dX2_isFigure_5 (tgt := 21) (by decide) (pc2 := 8) rfl (fun h => ?_) (fun h => ?_)
  · refine x_iconst (v := (0 : Int32)) C dX2_isFigure_21 (by decide) (pc2 := 22) rfl ?_
    exact x_zretL C hr hlocks h rfl dX2_isFigure_22
  · refine x_aload_n C dX2_isFigure_8 0 rfl (pc2 := 9) rfl ?_
    refine x_iload_n C dX2_isFigure_9 1 rfl (pc2 := 10) rfl ?_
    refine x_callVi (As := [.int x1]) (rest := []) (index := 19) (n := 1) C h (c_X2_figure l D A ad cI cB _ _) gX2_isFigure_X2_figure rfl (by decide +kernel) rfl rfl ⟨Nat.le_of_ble_eq_true rfl, Nat.le_of_ble_eq_true rfl⟩ (ci := 2) rfl rfl (xc_7 ad cI cB _) (XW_D ad cI cB _) rfl rfl (Nat.le_of_ble_eq_true rfl) dX2_isFigure_10 (pc2 := 13) rfl (fun r2 u2 h => ?_)
    refine x_iload_n C dX2_isFigure_13 2 rfl (pc2 := 14) rfl ?_
    refine x_icmp_gt C h dX2_isFigure_14 (tgt := 21) (by decide) (pc2 := 17) rfl (fun h => ?_) (fun h => ?_)
    · refine x_iconst (v := (0 : Int32)) C dX2_isFigure_21 (by decide) (pc2 := 22) rfl ?_
      exact x_zretL C hr hlocks h rfl dX2_isFigure_22
    · refine x_iconst (v := (1 : Int32)) C dX2_isFigure_17 (by decide) (pc2 := 18) rfl ?_
      refine x_goto C dX2_isFigure_18 (pc2 := 22) (by decide) ?_
      exact x_zretL C hr hlocks h rfl dX2_isFigure_22
set_option maxRecDepth 100000 in
set_option maxHeartbeats 4000000 in
theorem c_X2_hasOnlyFigures (l : Launch) (D : va_G) (A : Nat → Prop) (ad : Nat → Nat) (cI cB : ClassId) (u : Mem) (x1 : Int32) : Cti l yX2_hasOnlyFigures wsX2_hasOnlyFigures { frames := 2, cells := 0, slots := 0, locals := 43 } D A (XW ad cI cB) [(cI, .int), (cB, .object "PanelPages$Book")] [.ref (ad 7), .int x1] u (e_X2_hasOnlyFigures u x1) := by
  intro r ur h
  refine Met.ofW (cc := cX2_hasOnlyFigures) (maxL := 3) (ret := (some .boolean)) (by decide) rfl ?_
  intro p e s m args below meth c s₁ B hml hv
  obtain ⟨hav, hP, hK, hD⟩ := hv
  have C : Cx p m c cX2_hasOnlyFigures 3 s args wsX2_hasOnlyFigures RX2 D [(cI, .int), (cB, .object "PanelPages$Book")] := ⟨⟨B.exec, B.bytes, hml, findClass_of_methodNamed B.named, atoms_spec (ws := wsX2_hasOnlyFigures) B.pre⟩, hK⟩
  have hr := B.returns
  have hlocks := B.notSynchronized
  have hiX2 : ∀ w ∈ wsX20, w ∈ wsX2_hasOnlyFigures := by decide +kernel
  have f9 : Cond.fieldLink RX2 9 "PanelPages$Pad" "size" "I" ∈ wsX2_hasOnlyFigures := by decide +kernel
  refine x_entry2 (lv := [(0, .ref (ad 7)), (1, .int x1)]) hav hP hD (Nat.le_of_ble_eq_true rfl) rfl ?_
  unfold e_X2_hasOnlyFigures at h
  have J2 : ∀ (f : Nat) (u : Mem) (x1 : Int32) (x2 : Int32), e_X2_hasOnlyFigures_L2 f u x1 x2 = some (r, ur) → Wx p l e (headSpec wsX2_hasOnlyFigures { frames := 2, cells := 0, slots := 0, locals := 43 }).room s m args below meth c (MQ below (Qix D A (XW ad cI cB) r ur) args s 0 0 A) D A 3 (XW ad cI cB) u 2 [(0, .ref (ad 7)), (1, .int x1), (2, .int x2)] [] := by
    intro f
    induction f with
    | zero => intro u x1 x2 h; cases h
    | succ f ih =>
      intro u x1 x2 h
      replace h : e_X2_hasOnlyFigures_L2_b (e_X2_hasOnlyFigures_L2 f) u x1 x2 = some (r, ur) := h
      unfold e_X2_hasOnlyFigures_L2_b at h
      refine x_iload_n C dX2_hasOnlyFigures_2 2 rfl (pc2 := 3) rfl ?_
      refine x_aload_n C dX2_hasOnlyFigures_3 0 rfl (pc2 := 4) rfl ?_
      refine x_get C hiX2 7 (xc_7 ad cI cB _) rfl 0 (by decide) f9 (v := .int (u 7 0)) rfl dX2_hasOnlyFigures_4 (pc2 := 7) rfl ?_
      refine x_icmp_ge C h dX2_hasOnlyFigures_7 (tgt := 27) (by decide) (pc2 := 10) rfl (fun h => ?_) (fun h => ?_)
      · refine x_iconst (v := (1 : Int32)) C dX2_hasOnlyFigures_27 (by decide) (pc2 := 28) rfl ?_
        exact x_zretL C hr hlocks h rfl dX2_hasOnlyFigures_28
      · refine x_aload_n C dX2_hasOnlyFigures_10 0 rfl (pc2 := 11) rfl ?_
        refine x_iload_n C dX2_hasOnlyFigures_11 2 rfl (pc2 := 12) rfl ?_
        refine x_iload_n C dX2_hasOnlyFigures_12 1 rfl (pc2 := 13) rfl ?_
        refine x_callVi (As := [.int x2, .int x1]) (rest := []) (index := 23) (n := 2) C h (c_X2_isFigure l D A ad cI cB _ _ _) gX2_hasOnlyFigures_X2_isFigure rfl (by decide +kernel) rfl rfl ⟨Nat.le_of_ble_eq_true rfl, Nat.le_of_ble_eq_true rfl⟩ (ci := 2) rfl rfl (xc_7 ad cI cB _) (XW_D ad cI cB _) rfl rfl (Nat.le_of_ble_eq_true rfl) dX2_hasOnlyFigures_13 (pc2 := 16) rfl (fun r1 u1 h => ?_)
        refine x_if_ne C h dX2_hasOnlyFigures_16 (tgt := 21) (by decide) (pc2 := 19) rfl (fun h => ?_) (fun h => ?_)
        · refine x_iinc C dX2_hasOnlyFigures_21 2 rfl (1 : Int32) (by decide) rfl (by decide) (lv2 := [(2, .int (x2 + (1 : Int32))), (0, .ref (ad 7)), (1, .int x1)]) rfl (pc2 := 24) rfl ?_
          refine x_goto C dX2_hasOnlyFigures_24 (pc2 := 2) (by decide) ?_
          refine x_sub [1, 2, 0] (lv2 := [(0, .ref (ad 7)), (1, .int x1), (2, .int (x2 + (1 : Int32)))]) rfl ?_
          exact ih _ _ _ h
        · refine x_iconst (v := (0 : Int32)) C dX2_hasOnlyFigures_19 (by decide) (pc2 := 20) rfl ?_
          exact x_zretL C hr hlocks h rfl dX2_hasOnlyFigures_20
  refine x_iconst (v := (0 : Int32)) C dX2_hasOnlyFigures_0 (by decide) (pc2 := 1) rfl ?_
  refine x_istore_n C dX2_hasOnlyFigures_1 (by decide) (lv2 := [(2, .int (0 : Int32)), (0, .ref (ad 7)), (1, .int x1)]) rfl (pc2 := 2) rfl ?_
  refine x_sub [1, 2, 0] (lv2 := [(0, .ref (ad 7)), (1, .int x1), (2, .int (0 : Int32))]) rfl ?_
  exact J2 FU _ _ _ h
