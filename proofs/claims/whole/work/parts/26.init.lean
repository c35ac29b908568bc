def FX0 (cI : ClassId) (a : Nat → Nat) : va_W := [(a 0, .inr (0, [.int 0, .int 10, .ref (a 1), .ref (a 2), .ref (a 3), .ref (a 4), .ref (a 5)])), (a 1, .inl (cI, 9, .inl (fun _ => 0))), (a 2, .inl (cI, 9, .inl (fun _ => 0))), (a 3, .inl (cI, 9, .inl (fun _ => 0))), (a 4, .inl (cI, 9, .inl (fun _ => 0))), (a 5, .inl (cI, 36, .inl (fun _ => 0)))]
def FX1 (cI : ClassId) (a : Nat → Nat) : va_W := [(a 0, .inr (1, [.int 0, .int 0, .int 0, .int 0, .int 0, .ref (a 1), .ref (a 2), .ref (a 3), .ref (a 4), .ref (a 5), .ref (a 6), .ref (a 7)])), (a 1, .inl (cI, 9, .inl (fun _ => 0))), (a 2, .inl (cI, 9, .inl (fun _ => 0))), (a 3, .inl (cI, 9, .inl (fun _ => 0))), (a 4, .inl (cI, 9, .inl (fun _ => 0))), (a 5, .inl (cI, 9, .inl (fun _ => 0))), (a 6, .inl (cI, 9, .inl (fun _ => 0))), (a 7, .inl (cI, 9, .inl (fun _ => 0)))]
def FX2 (cI : ClassId) (a : Nat → Nat) : va_W := [(a 0, .inr (2, [.int 0, .ref (a 1)])), (a 1, .inl (cI, 9, .inl (fun _ => 0)))]
def FX3 (cI : ClassId) (a : Nat → Nat) : va_W := [(a 0, .inr (3, [.ref (a 1), .ref (a 9), .ref (a 10), .ref (a 11), .ref (a 12), .ref (a 13)])), (a 1, .inr (1, [.int 0, .int 0, .int 0, .int 0, .int 0, .ref (a 2), .ref (a 3), .ref (a 4), .ref (a 5), .ref (a 6), .ref (a 7), .ref (a 8)])), (a 2, .inl (cI, 9, .inl (fun _ => 0))), (a 3, .inl (cI, 9, .inl (fun _ => 0))), (a 4, .inl (cI, 9, .inl (fun _ => 0))), (a 5, .inl (cI, 9, .inl (fun _ => 0))), (a 6, .inl (cI, 9, .inl (fun _ => 0))), (a 7, .inl (cI, 9, .inl (fun _ => 0))), (a 8, .inl (cI, 9, .inl (fun _ => 0))), (a 9, .inl (cI, 20, .inl (fun _ => 0))), (a 10, .inl (cI, 20, .inl (fun _ => 0))), (a 11, .inl (cI, 20, .inl (fun _ => 0))), (a 12, .inl (cI, 20, .inl (fun _ => 0))), (a 13, .inl (cI, 20, .inl (fun _ => 0)))]
def FX4 (cI : ClassId) (a : Nat → Nat) : va_W := [(a 0, .inr (4, [.ref (a 1), .ref (a 2), .int 0, .int 0, .int 0])), (a 1, .inl (cI, 4, .inl (fun _ => 0))), (a 2, .inl (cI, 4, .inl (fun _ => 0)))]
abbrev kE (cB : ClassId) (f : Nat → Option Nat) : va_E := .inl (cB, 2, .inr (.inr (.inr (.inr f))))
def x0 : Mem := fun k => if k = 1 then (fun j => if j = 1 then 10 else 0) else if k = 35 then (fun j => if j = 1 then 10 else 0) else if k = 41 then (fun j => if j = 1 then 10 else 0) else fun _ => 0
def m0 : Mem := fun k => if k = 1 then upd (fun _ => 0) 73 10 else fun _ => 0
theorem vpd_X0 : ∀ j, j < 7 → defaultValue (tyX0 j) = vp_V [.int 0, .int 0, .null, .null, .null, .null, .null] j := by
  intro j hj
  match j, hj with
  | 0, _ => rfl
  | 1, _ => rfl
  | 2, _ => rfl
  | 3, _ => rfl
  | 4, _ => rfl
  | 5, _ => rfl
  | 6, _ => rfl
  | j + 7, h => omega
theorem vpd_X1 : ∀ j, j < 12 → defaultValue (tyX1 j) = vp_V [.int 0, .int 0, .int 0, .int 0, .int 0, .null, .null, .null, .null, .null, .null, .null] j := by
  intro j hj
  match j, hj with
  | 0, _ => rfl
  | 1, _ => rfl
  | 2, _ => rfl
  | 3, _ => rfl
  | 4, _ => rfl
  | 5, _ => rfl
  | 6, _ => rfl
  | 7, _ => rfl
  | 8, _ => rfl
  | 9, _ => rfl
  | 10, _ => rfl
  | 11, _ => rfl
  | j + 12, h => omega
theorem vpd_X2 : ∀ j, j < 2 → defaultValue (tyX2 j) = vp_V [.int 0, .null] j := by
  intro j hj
  match j, hj with
  | 0, _ => rfl
  | 1, _ => rfl
  | j + 2, h => omega
theorem vpd_X3 : ∀ j, j < 6 → defaultValue (tyX3 j) = vp_V [.null, .null, .null, .null, .null, .null] j := by
  intro j hj
  match j, hj with
  | 0, _ => rfl
  | 1, _ => rfl
  | 2, _ => rfl
  | 3, _ => rfl
  | 4, _ => rfl
  | 5, _ => rfl
  | j + 6, h => omega
theorem vpd_X4 : ∀ j, j < 5 → defaultValue (tyX4 j) = vp_V [.null, .null, .int 0, .int 0, .int 0] j := by
  intro j hj
  match j, hj with
  | 0, _ => rfl
  | 1, _ => rfl
  | 2, _ => rfl
  | 3, _ => rfl
  | 4, _ => rfl
  | j + 5, h => omega
theorem vpd_X5 : ∀ j, j < 7 → defaultValue (tyX5 j) = vp_V [.null, .null, .null, .null, .null, .null, .int 0] j := by
  intro j hj
  match j, hj with
  | 0, _ => rfl
  | 1, _ => rfl
  | 2, _ => rfl
  | 3, _ => rfl
  | 4, _ => rfl
  | 5, _ => rfl
  | 6, _ => rfl
  | j + 7, h => omega
theorem vpd_X6 : ∀ j, j < 29 → defaultValue (tyX6 j) = vp_V [.null, .null, .null, .null, .int 0, .null, .null, .null, .null, .null, .null, .int 0, .int 0, .int 0, .int 0, .int 0, .int 0, .int 0, .int 0, .int 0, .int 0, .int 0, .int 0, .null, .null, .int 0, .int 0, .int 0, .int 0] j := by
  intro j hj
  match j, hj with
  | 0, _ => rfl
  | 1, _ => rfl
  | 2, _ => rfl
  | 3, _ => rfl
  | 4, _ => rfl
  | 5, _ => rfl
  | 6, _ => rfl
  | 7, _ => rfl
  | 8, _ => rfl
  | 9, _ => rfl
  | 10, _ => rfl
  | 11, _ => rfl
  | 12, _ => rfl
  | 13, _ => rfl
  | 14, _ => rfl
  | 15, _ => rfl
  | 16, _ => rfl
  | 17, _ => rfl
  | 18, _ => rfl
  | 19, _ => rfl
  | 20, _ => rfl
  | 21, _ => rfl
  | 22, _ => rfl
  | 23, _ => rfl
  | 24, _ => rfl
  | 25, _ => rfl
  | 26, _ => rfl
  | 27, _ => rfl
  | 28, _ => rfl
  | j + 29, h => omega
theorem g_kept {p : Program} {l : Launch} {e : Env} {R : Room} {s : State} {m : MethodId} {args : Array Value} {below : List Frame} {meth : Method} {c : Code} {Q : State → Prop} {D : va_G} {A : Nat → Prop} {nL K N pc : Nat} {lv : List (Nat × Value)} {rest : List Value} {wl wr : va_W} {q : Nat} {cB : ClassId} {f f2 : Nat → Option Nat} (h0 : f 0 = f2 0) (h1 : f 1 = f2 1)
    (k : Wg p l e R s m args below meth c Q D A nL (wl ++ (q, .inl (cB, 2, .inr (.inr (.inr (.inr f2))))) :: wr) K N pc lv rest) : Wg p l e R s m args below meth c Q D A nL (wl ++ (q, .inl (cB, 2, .inr (.inr (.inr (.inr f))))) :: wr) K N pc lv rest := by
  intro H locs ls hP hD hS hl
  have ec : vp_cell cB (2, .inr (.inr (.inr (.inr f)))) = vp_cell cB (2, .inr (.inr (.inr (.inr f2)))) := by
    rw [vp_cell_q, vp_cell_q]
    unfold arrV
    congr 1
    apply congrArg
    funext j
    match j with
    | ⟨0, _⟩ => simp [h0]
    | ⟨1, _⟩ => simp [h1]
  refine k H locs ls (fun i z hz => ?_) (va_D_addr (by simp) hD) hS hl
  have hm := List.mem_of_getElem? hz
  rcases List.mem_append.mp hm with h | h
  · obtain ⟨j, hj⟩ := List.mem_iff_getElem?.mp (List.mem_append_left ((q, .inl (cB, 2, .inr (.inr (.inr (.inr f))))) :: wr) h)
    exact hP j z hj
  · rcases List.mem_cons.mp h with h | h
    · subst h
      obtain ⟨j, hj⟩ := List.mem_iff_getElem?.mp (List.mem_append_right wl (List.mem_cons_self (a := ((q, .inl (cB, 2, .inr (.inr (.inr (.inr f))))) : Nat × va_E)) (l := wr)))
      have := hP j _ hj
      unfold va_at at this ⊢
      simp only at this ⊢
      rw [← ec]
      exact this
    · obtain ⟨j, hj⟩ := List.mem_iff_getElem?.mp (List.mem_append_right wl (List.mem_cons_of_mem (q, .inl (cB, 2, .inr (.inr (.inr (.inr f))))) h))
      exact hP j z hj
def PX3 (U : State) : Prop := va_Nw (.methodLinkNest RX3 11 yX1_init RX5) U
def PX5 (U : State) : Prop := va_AO RX0 U ∧ va_Nw (.methodLinkNest RX5 9 yX0_init RX5) U ∧ va_Nw (.methodLinkNest RX5 18 yX2_init RX5) U ∧ va_Nw (.methodLinkNest RX5 25 yX1_init RX5) U ∧ va_Nw (.methodLinkNest RX5 32 yX3_init RX5) U ∧ va_Nw (.methodLinkNest RX5 39 yX4_init RX5) U ∧ PX3 U
set_option maxRecDepth 100000 in
set_option maxHeartbeats 4000000 in
theorem i_X0 (l : Launch) (D : va_G) (cI : ClassId) : Ctn l yX0_init wsX0_init { frames := 1, cells := 5, slots := 72, locals := 12 } D [(cI, .int)] (fun _ => True) 0 [.int 0, .int 0, .null, .null, .null, .null, .null] (FX0 cI) 5 72 := by
  intro h0 sz
  refine Met.ofW (cc := cX0_init) (maxL := 1) (ret := none) (by decide) rfl ?_
  intro p e s m args below meth c s₁ B hml hv
  obtain ⟨hav, hsz, hP, hK, hPP⟩ := hv
  have C : Cx p m c cX0_init 1 s args wsX0_init RX0 D [(cI, .int)] := ⟨⟨B.exec, B.bytes, hml, findClass_of_methodNamed B.named, atoms_spec (ws := wsX0_init) B.pre⟩, hK⟩
  have hr := B.returns
  have hlocks := B.notSynchronized
  have hin : meth.name = "<init>" := (name_of_methodNamed B.named B.method).1
  subst hsz
  have hA : ∀ q, s.heap.size ≤ q → Rg h0 s.heap.size q := fun q h => Or.inr h
  have hD : va_D (Rg h0 s.heap.size) [(h0, .inr (0, [.int 0, .int 0, .null, .null, .null, .null, .null]))] := va_D_one (Or.inl rfl)
  have hiX0 : ∀ w ∈ wsX00, w ∈ wsX0_init := by decide +kernel
  have f15 : Cond.fieldLink RX0 15 "PanelPages$Book" "high" "I" ∈ wsX0_init := by decide +kernel
  have f18 : Cond.fieldLink RX0 18 "PanelPages$Book" "weight" "[I" ∈ wsX0_init := by decide +kernel
  have f22 : Cond.fieldLink RX0 22 "PanelPages$Book" "tall" "[I" ∈ wsX0_init := by decide +kernel
  have f25 : Cond.fieldLink RX0 25 "PanelPages$Book" "kind" "[I" ∈ wsX0_init := by decide +kernel
  have f28 : Cond.fieldLink RX0 28 "PanelPages$Book" "balloons" "[I" ∈ wsX0_init := by decide +kernel
  have f31 : Cond.fieldLink RX0 31 "PanelPages$Book" "speakers" "[I" ∈ wsX0_init := by decide +kernel
  have f9 : Cond.fieldLink RX0 9 "PanelPages$Book" "panels" "I" ∈ wsX0_init := by decide +kernel
  refine g_entry (lv := [(0, .ref h0)]) hav hP hD (Nat.le_of_ble_eq_true rfl) rfl ?_
  refine g_aload_n C dX0_init_0 0 rfl (pc2 := 1) rfl ?_
  refine g_objInit (idx := 3) C (by decide +kernel) (by decide +kernel) (by decide +kernel) (by exact Nat.le_of_ble_eq_true rfl) (by exact Nat.le_of_ble_eq_true rfl) dX0_init_1 (pc2 := 4) rfl ?_
  refine g_aload_n C dX0_init_4 0 rfl (pc2 := 5) rfl ?_
  refine g_iconst (v := (0 : Int32)) C dX0_init_5 (by decide) (pc2 := 6) rfl ?_
  refine g_put C hiX0 tyX0 tyX0_ok nmX0 0 rfl rfl 0 (by decide) f9 rfl rfl (by exact Nat.le_of_ble_eq_true rfl) (ws2 := [(h0, .inr (0, [.int (0 : Int32), .int 0, .null, .null, .null, .null, .null]))]) rfl dX0_init_6 (pc2 := 9) rfl ?_
  refine g_aload_n C dX0_init_9 0 rfl (pc2 := 10) rfl ?_
  refine g_bipush (v := (10 : Int32)) C dX0_init_10 (by decide) (pc2 := 12) rfl ?_
  refine g_put C hiX0 tyX0 tyX0_ok nmX0 0 rfl rfl 1 (by decide) f15 rfl rfl (by exact Nat.le_of_ble_eq_true rfl) (ws2 := [(h0, .inr (0, [.int (0 : Int32), .int (10 : Int32), .null, .null, .null, .null, .null]))]) rfl dX0_init_12 (pc2 := 15) rfl ?_
  refine g_aload_n C dX0_init_15 0 rfl (pc2 := 16) rfl ?_
  refine g_bipush (v := (9 : Int32)) C dX0_init_16 (by decide) (pc2 := 18) rfl ?_
  refine g_newI C hA (by decide +kernel) 0 rfl (N1 := 9) (by decide) (by decide) (by exact Nat.le_of_ble_eq_true rfl) (by exact Nat.le_of_ble_eq_true rfl) (by exact Nat.le_of_ble_eq_true rfl) dX0_init_18 (pc2 := 20) rfl (fun q1 => ?_)
  refine g_ws (ws2 := [(h0, .inr (0, [.int (0 : Int32), .int (10 : Int32), .null, .null, .null, .null, .null])), (q1, .inl (cI, 9, .inl (fun _ => 0)))]) rfl ?_
  refine g_cnt (K2 := 1) (N2 := 9) (by exact Nat.le_of_ble_eq_true rfl) (by exact Nat.le_of_ble_eq_true rfl) ?_
  refine g_putF C hiX0 tyX0 tyX0_ok nmX0 0 rfl rfl 2 (by decide) f18 rfl hin rfl rfl rfl (by exact Nat.le_of_ble_eq_true rfl) (ws2 := [(h0, .inr (0, [.int (0 : Int32), .int (10 : Int32), .ref (q1), .null, .null, .null, .null])), (q1, .inl (cI, 9, .inl (fun _ => 0)))]) rfl dX0_init_20 (pc2 := 23) rfl ?_
  refine g_aload_n C dX0_init_23 0 rfl (pc2 := 24) rfl ?_
  refine g_bipush (v := (9 : Int32)) C dX0_init_24 (by decide) (pc2 := 26) rfl ?_
  refine g_newI C hA (by decide +kernel) 0 rfl (N1 := 9) (by decide) (by decide) (by exact Nat.le_of_ble_eq_true rfl) (by exact Nat.le_of_ble_eq_true rfl) (by exact Nat.le_of_ble_eq_true rfl) dX0_init_26 (pc2 := 28) rfl (fun q2 => ?_)
  refine g_ws (ws2 := [(h0, .inr (0, [.int (0 : Int32), .int (10 : Int32), .ref (q1), .null, .null, .null, .null])), (q1, .inl (cI, 9, .inl (fun _ => 0))), (q2, .inl (cI, 9, .inl (fun _ => 0)))]) rfl ?_
  refine g_cnt (K2 := 2) (N2 := 18) (by exact Nat.le_of_ble_eq_true rfl) (by exact Nat.le_of_ble_eq_true rfl) ?_
  refine g_putF C hiX0 tyX0 tyX0_ok nmX0 0 rfl rfl 3 (by decide) f22 rfl hin rfl rfl rfl (by exact Nat.le_of_ble_eq_true rfl) (ws2 := [(h0, .inr (0, [.int (0 : Int32), .int (10 : Int32), .ref (q1), .ref (q2), .null, .null, .null])), (q1, .inl (cI, 9, .inl (fun _ => 0))), (q2, .inl (cI, 9, .inl (fun _ => 0)))]) rfl dX0_init_28 (pc2 := 31) rfl ?_
  refine g_aload_n C dX0_init_31 0 rfl (pc2 := 32) rfl ?_
  refine g_bipush (v := (9 : Int32)) C dX0_init_32 (by decide) (pc2 := 34) rfl ?_
  refine g_newI C hA (by decide +kernel) 0 rfl (N1 := 9) (by decide) (by decide) (by exact Nat.le_of_ble_eq_true rfl) (by exact Nat.le_of_ble_eq_true rfl) (by exact Nat.le_of_ble_eq_true rfl) dX0_init_34 (pc2 := 36) rfl (fun q3 => ?_)
  refine g_ws (ws2 := [(h0, .inr (0, [.int (0 : Int32), .int (10 : Int32), .ref (q1), .ref (q2), .null, .null, .null])), (q1, .inl (cI, 9, .inl (fun _ => 0))), (q2, .inl (cI, 9, .inl (fun _ => 0))), (q3, .inl (cI, 9, .inl (fun _ => 0)))]) rfl ?_
  refine g_cnt (K2 := 3) (N2 := 27) (by exact Nat.le_of_ble_eq_true rfl) (by exact Nat.le_of_ble_eq_true rfl) ?_
  refine g_putF C hiX0 tyX0 tyX0_ok nmX0 0 rfl rfl 4 (by decide) f25 rfl hin rfl rfl rfl (by exact Nat.le_of_ble_eq_true rfl) (ws2 := [(h0, .inr (0, [.int (0 : Int32), .int (10 : Int32), .ref (q1), .ref (q2), .ref (q3), .null, .null])), (q1, .inl (cI, 9, .inl (fun _ => 0))), (q2, .inl (cI, 9, .inl (fun _ => 0))), (q3, .inl (cI, 9, .inl (fun _ => 0)))]) rfl dX0_init_36 (pc2 := 39) rfl ?_
  refine g_aload_n C dX0_init_39 0 rfl (pc2 := 40) rfl ?_
  refine g_bipush (v := (9 : Int32)) C dX0_init_40 (by decide) (pc2 := 42) rfl ?_
  refine g_newI C hA (by decide +kernel) 0 rfl (N1 := 9) (by decide) (by decide) (by exact Nat.le_of_ble_eq_true rfl) (by exact Nat.le_of_ble_eq_true rfl) (by exact Nat.le_of_ble_eq_true rfl) dX0_init_42 (pc2 := 44) rfl (fun q4 => ?_)
  refine g_ws (ws2 := [(h0, .inr (0, [.int (0 : Int32), .int (10 : Int32), .ref (q1), .ref (q2), .ref (q3), .null, .null])), (q1, .inl (cI, 9, .inl (fun _ => 0))), (q2, .inl (cI, 9, .inl (fun _ => 0))), (q3, .inl (cI, 9, .inl (fun _ => 0))), (q4, .inl (cI, 9, .inl (fun _ => 0)))]) rfl ?_
  refine g_cnt (K2 := 4) (N2 := 36) (by exact Nat.le_of_ble_eq_true rfl) (by exact Nat.le_of_ble_eq_true rfl) ?_
  refine g_putF C hiX0 tyX0 tyX0_ok nmX0 0 rfl rfl 5 (by decide) f28 rfl hin rfl rfl rfl (by exact Nat.le_of_ble_eq_true rfl) (ws2 := [(h0, .inr (0, [.int (0 : Int32), .int (10 : Int32), .ref (q1), .ref (q2), .ref (q3), .ref (q4), .null])), (q1, .inl (cI, 9, .inl (fun _ => 0))), (q2, .inl (cI, 9, .inl (fun _ => 0))), (q3, .inl (cI, 9, .inl (fun _ => 0))), (q4, .inl (cI, 9, .inl (fun _ => 0)))]) rfl dX0_init_44 (pc2 := 47) rfl ?_
  refine g_aload_n C dX0_init_47 0 rfl (pc2 := 48) rfl ?_
  refine g_bipush (v := (36 : Int32)) C dX0_init_48 (by decide) (pc2 := 50) rfl ?_
  refine g_newI C hA (by decide +kernel) 0 rfl (N1 := 36) (by decide) (by decide) (by exact Nat.le_of_ble_eq_true rfl) (by exact Nat.le_of_ble_eq_true rfl) (by exact Nat.le_of_ble_eq_true rfl) dX0_init_50 (pc2 := 52) rfl (fun q5 => ?_)
  refine g_ws (ws2 := [(h0, .inr (0, [.int (0 : Int32), .int (10 : Int32), .ref (q1), .ref (q2), .ref (q3), .ref (q4), .null])), (q1, .inl (cI, 9, .inl (fun _ => 0))), (q2, .inl (cI, 9, .inl (fun _ => 0))), (q3, .inl (cI, 9, .inl (fun _ => 0))), (q4, .inl (cI, 9, .inl (fun _ => 0))), (q5, .inl (cI, 36, .inl (fun _ => 0)))]) rfl ?_
  refine g_cnt (K2 := 5) (N2 := 72) (by exact Nat.le_of_ble_eq_true rfl) (by exact Nat.le_of_ble_eq_true rfl) ?_
  refine g_putF C hiX0 tyX0 tyX0_ok nmX0 0 rfl rfl 6 (by decide) f31 rfl hin rfl rfl rfl (by exact Nat.le_of_ble_eq_true rfl) (ws2 := [(h0, .inr (0, [.int (0 : Int32), .int (10 : Int32), .ref (q1), .ref (q2), .ref (q3), .ref (q4), .ref (q5)])), (q1, .inl (cI, 9, .inl (fun _ => 0))), (q2, .inl (cI, 9, .inl (fun _ => 0))), (q3, .inl (cI, 9, .inl (fun _ => 0))), (q4, .inl (cI, 9, .inl (fun _ => 0))), (q5, .inl (cI, 36, .inl (fun _ => 0)))]) rfl dX0_init_52 (pc2 := 55) rfl ?_
  exact g_vret C hr hlocks rfl (fun k => ([h0, q1, q2, q3, q4, q5] : List Nat).getD k 0) rfl rfl dX0_init_55
set_option maxRecDepth 100000 in
set_option maxHeartbeats 4000000 in
theorem i_X1 (l : Launch) (D : va_G) (cI : ClassId) : Ctn l yX1_init wsX1_init { frames := 1, cells := 7, slots := 63, locals := 12 } D [(cI, .int)] (fun _ => True) 1 [.int 0, .int 0, .int 0, .int 0, .int 0, .null, .null, .null, .null, .null, .null, .null] (FX1 cI) 7 63 := by
  intro h0 sz
  refine Met.ofW (cc := cX1_init) (maxL := 1) (ret := none) (by decide) rfl ?_
  intro p e s m args below meth c s₁ B hml hv
  obtain ⟨hav, hsz, hP, hK, hPP⟩ := hv
  have C : Cx p m c cX1_init 1 s args wsX1_init RX1 D [(cI, .int)] := ⟨⟨B.exec, B.bytes, hml, findClass_of_methodNamed B.named, atoms_spec (ws := wsX1_init) B.pre⟩, hK⟩
  have hr := B.returns
  have hlocks := B.notSynchronized
  have hin : meth.name = "<init>" := (name_of_methodNamed B.named B.method).1
  subst hsz
  have hA : ∀ q, s.heap.size ≤ q → Rg h0 s.heap.size q := fun q h => Or.inr h
  have hD : va_D (Rg h0 s.heap.size) [(h0, .inr (1, [.int 0, .int 0, .int 0, .int 0, .int 0, .null, .null, .null, .null, .null, .null, .null]))] := va_D_one (Or.inl rfl)
  have hiX1 : ∀ w ∈ wsX10, w ∈ wsX1_init := by decide +kernel
  have f15 : Cond.fieldLink RX1 15 "PanelPages$Layout" "pages" "I" ∈ wsX1_init := by decide +kernel
  have f18 : Cond.fieldLink RX1 18 "PanelPages$Layout" "blanks" "I" ∈ wsX1_init := by decide +kernel
  have f21 : Cond.fieldLink RX1 21 "PanelPages$Layout" "tiers" "I" ∈ wsX1_init := by decide +kernel
  have f24 : Cond.fieldLink RX1 24 "PanelPages$Layout" "ragged" "I" ∈ wsX1_init := by decide +kernel
  have f27 : Cond.fieldLink RX1 27 "PanelPages$Layout" "figures" "[I" ∈ wsX1_init := by decide +kernel
  have f31 : Cond.fieldLink RX1 31 "PanelPages$Layout" "page" "[I" ∈ wsX1_init := by decide +kernel
  have f34 : Cond.fieldLink RX1 34 "PanelPages$Layout" "tierOnPage" "[I" ∈ wsX1_init := by decide +kernel
  have f37 : Cond.fieldLink RX1 37 "PanelPages$Layout" "place" "[I" ∈ wsX1_init := by decide +kernel
  have f40 : Cond.fieldLink RX1 40 "PanelPages$Layout" "heightAbove" "[I" ∈ wsX1_init := by decide +kernel
  have f43 : Cond.fieldLink RX1 43 "PanelPages$Layout" "height" "[I" ∈ wsX1_init := by decide +kernel
  have f46 : Cond.fieldLink RX1 46 "PanelPages$Layout" "gapsOnPage" "[I" ∈ wsX1_init := by decide +kernel
  have f9 : Cond.fieldLink RX1 9 "PanelPages$Layout" "poured" "I" ∈ wsX1_init := by decide +kernel
  refine g_entry (lv := [(0, .ref h0)]) hav hP hD (Nat.le_of_ble_eq_true rfl) rfl ?_
  refine g_aload_n C dX1_init_0 0 rfl (pc2 := 1) rfl ?_
  refine g_objInit (idx := 3) C (by decide +kernel) (by decide +kernel) (by decide +kernel) (by exact Nat.le_of_ble_eq_true rfl) (by exact Nat.le_of_ble_eq_true rfl) dX1_init_1 (pc2 := 4) rfl ?_
  refine g_aload_n C dX1_init_4 0 rfl (pc2 := 5) rfl ?_
  refine g_iconst (v := (0 : Int32)) C dX1_init_5 (by decide) (pc2 := 6) rfl ?_
  refine g_put C hiX1 tyX1 tyX1_ok nmX1 0 rfl rfl 0 (by decide) f9 rfl rfl (by exact Nat.le_of_ble_eq_true rfl) (ws2 := [(h0, .inr (1, [.int (0 : Int32), .int 0, .int 0, .int 0, .int 0, .null, .null, .null, .null, .null, .null, .null]))]) rfl dX1_init_6 (pc2 := 9) rfl ?_
  refine g_aload_n C dX1_init_9 0 rfl (pc2 := 10) rfl ?_
  refine g_iconst (v := (0 : Int32)) C dX1_init_10 (by decide) (pc2 := 11) rfl ?_
  refine g_put C hiX1 tyX1 tyX1_ok nmX1 0 rfl rfl 1 (by decide) f15 rfl rfl (by exact Nat.le_of_ble_eq_true rfl) (ws2 := [(h0, .inr (1, [.int (0 : Int32), .int (0 : Int32), .int 0, .int 0, .int 0, .null, .null, .null, .null, .null, .null, .null]))]) rfl dX1_init_11 (pc2 := 14) rfl ?_
  refine g_aload_n C dX1_init_14 0 rfl (pc2 := 15) rfl ?_
  refine g_iconst (v := (0 : Int32)) C dX1_init_15 (by decide) (pc2 := 16) rfl ?_
  refine g_put C hiX1 tyX1 tyX1_ok nmX1 0 rfl rfl 2 (by decide) f18 rfl rfl (by exact Nat.le_of_ble_eq_true rfl) (ws2 := [(h0, .inr (1, [.int (0 : Int32), .int (0 : Int32), .int (0 : Int32), .int 0, .int 0, .null, .null, .null, .null, .null, .null, .null]))]) rfl dX1_init_16 (pc2 := 19) rfl ?_
  refine g_aload_n C dX1_init_19 0 rfl (pc2 := 20) rfl ?_
  refine g_iconst (v := (0 : Int32)) C dX1_init_20 (by decide) (pc2 := 21) rfl ?_
  refine g_put C hiX1 tyX1 tyX1_ok nmX1 0 rfl rfl 3 (by decide) f21 rfl rfl (by exact Nat.le_of_ble_eq_true rfl) (ws2 := [(h0, .inr (1, [.int (0 : Int32), .int (0 : Int32), .int (0 : Int32), .int (0 : Int32), .int 0, .null, .null, .null, .null, .null, .null, .null]))]) rfl dX1_init_21 (pc2 := 24) rfl ?_
  refine g_aload_n C dX1_init_24 0 rfl (pc2 := 25) rfl ?_
  refine g_iconst (v := (0 : Int32)) C dX1_init_25 (by decide) (pc2 := 26) rfl ?_
  refine g_put C hiX1 tyX1 tyX1_ok nmX1 0 rfl rfl 4 (by decide) f24 rfl rfl (by exact Nat.le_of_ble_eq_true rfl) (ws2 := [(h0, .inr (1, [.int (0 : Int32), .int (0 : Int32), .int (0 : Int32), .int (0 : Int32), .int (0 : Int32), .null, .null, .null, .null, .null, .null, .null]))]) rfl dX1_init_26 (pc2 := 29) rfl ?_
  refine g_aload_n C dX1_init_29 0 rfl (pc2 := 30) rfl ?_
  refine g_bipush (v := (9 : Int32)) C dX1_init_30 (by decide) (pc2 := 32) rfl ?_
  refine g_newI C hA (by decide +kernel) 0 rfl (N1 := 9) (by decide) (by decide) (by exact Nat.le_of_ble_eq_true rfl) (by exact Nat.le_of_ble_eq_true rfl) (by exact Nat.le_of_ble_eq_true rfl) dX1_init_32 (pc2 := 34) rfl (fun q1 => ?_)
  refine g_ws (ws2 := [(h0, .inr (1, [.int (0 : Int32), .int (0 : Int32), .int (0 : Int32), .int (0 : Int32), .int (0 : Int32), .null, .null, .null, .null, .null, .null, .null])), (q1, .inl (cI, 9, .inl (fun _ => 0)))]) rfl ?_
  refine g_cnt (K2 := 1) (N2 := 9) (by exact Nat.le_of_ble_eq_true rfl) (by exact Nat.le_of_ble_eq_true rfl) ?_
  refine g_putF C hiX1 tyX1 tyX1_ok nmX1 0 rfl rfl 5 (by decide) f27 rfl hin rfl rfl rfl (by exact Nat.le_of_ble_eq_true rfl) (ws2 := [(h0, .inr (1, [.int (0 : Int32), .int (0 : Int32), .int (0 : Int32), .int (0 : Int32), .int (0 : Int32), .ref (q1), .null, .null, .null, .null, .null, .null])), (q1, .inl (cI, 9, .inl (fun _ => 0)))]) rfl dX1_init_34 (pc2 := 37) rfl ?_
  refine g_aload_n C dX1_init_37 0 rfl (pc2 := 38) rfl ?_
  refine g_bipush (v := (9 : Int32)) C dX1_init_38 (by decide) (pc2 := 40) rfl ?_
  refine g_newI C hA (by decide +kernel) 0 rfl (N1 := 9) (by decide) (by decide) (by exact Nat.le_of_ble_eq_true rfl) (by exact Nat.le_of_ble_eq_true rfl) (by exact Nat.le_of_ble_eq_true rfl) dX1_init_40 (pc2 := 42) rfl (fun q2 => ?_)
  refine g_ws (ws2 := [(h0, .inr (1, [.int (0 : Int32), .int (0 : Int32), .int (0 : Int32), .int (0 : Int32), .int (0 : Int32), .ref (q1), .null, .null, .null, .null, .null, .null])), (q1, .inl (cI, 9, .inl (fun _ => 0))), (q2, .inl (cI, 9, .inl (fun _ => 0)))]) rfl ?_
  refine g_cnt (K2 := 2) (N2 := 18) (by exact Nat.le_of_ble_eq_true rfl) (by exact Nat.le_of_ble_eq_true rfl) ?_
  refine g_putF C hiX1 tyX1 tyX1_ok nmX1 0 rfl rfl 6 (by decide) f31 rfl hin rfl rfl rfl (by exact Nat.le_of_ble_eq_true rfl) (ws2 := [(h0, .inr (1, [.int (0 : Int32), .int (0 : Int32), .int (0 : Int32), .int (0 : Int32), .int (0 : Int32), .ref (q1), .ref (q2), .null, .null, .null, .null, .null])), (q1, .inl (cI, 9, .inl (fun _ => 0))), (q2, .inl (cI, 9, .inl (fun _ => 0)))]) rfl dX1_init_42 (pc2 := 45) rfl ?_
  refine g_aload_n C dX1_init_45 0 rfl (pc2 := 46) rfl ?_
  refine g_bipush (v := (9 : Int32)) C dX1_init_46 (by decide) (pc2 := 48) rfl ?_
  refine g_newI C hA (by decide +kernel) 0 rfl (N1 := 9) (by decide) (by decide) (by exact Nat.le_of_ble_eq_true rfl) (by exact Nat.le_of_ble_eq_true rfl) (by exact Nat.le_of_ble_eq_true rfl) dX1_init_48 (pc2 := 50) rfl (fun q3 => ?_)
  refine g_ws (ws2 := [(h0, .inr (1, [.int (0 : Int32), .int (0 : Int32), .int (0 : Int32), .int (0 : Int32), .int (0 : Int32), .ref (q1), .ref (q2), .null, .null, .null, .null, .null])), (q1, .inl (cI, 9, .inl (fun _ => 0))), (q2, .inl (cI, 9, .inl (fun _ => 0))), (q3, .inl (cI, 9, .inl (fun _ => 0)))]) rfl ?_
  refine g_cnt (K2 := 3) (N2 := 27) (by exact Nat.le_of_ble_eq_true rfl) (by exact Nat.le_of_ble_eq_true rfl) ?_
  refine g_putF C hiX1 tyX1 tyX1_ok nmX1 0 rfl rfl 7 (by decide) f34 rfl hin rfl rfl rfl (by exact Nat.le_of_ble_eq_true rfl) (ws2 := [(h0, .inr (1, [.int (0 : Int32), .int (0 : Int32), .int (0 : Int32), .int (0 : Int32), .int (0 : Int32), .ref (q1), .ref (q2), .ref (q3), .null, .null, .null, .null])), (q1, .inl (cI, 9, .inl (fun _ => 0))), (q2, .inl (cI, 9, .inl (fun _ => 0))), (q3, .inl (cI, 9, .inl (fun _ => 0)))]) rfl dX1_init_50 (pc2 := 53) rfl ?_
  refine g_aload_n C dX1_init_53 0 rfl (pc2 := 54) rfl ?_
  refine g_bipush (v := (9 : Int32)) C dX1_init_54 (by decide) (pc2 := 56) rfl ?_
  refine g_newI C hA (by decide +kernel) 0 rfl (N1 := 9) (by decide) (by decide) (by exact Nat.le_of_ble_eq_true rfl) (by exact Nat.le_of_ble_eq_true rfl) (by exact Nat.le_of_ble_eq_true rfl) dX1_init_56 (pc2 := 58) rfl (fun q4 => ?_)
  refine g_ws (ws2 := [(h0, .inr (1, [.int (0 : Int32), .int (0 : Int32), .int (0 : Int32), .int (0 : Int32), .int (0 : Int32), .ref (q1), .ref (q2), .ref (q3), .null, .null, .null, .null])), (q1, .inl (cI, 9, .inl (fun _ => 0))), (q2, .inl (cI, 9, .inl (fun _ => 0))), (q3, .inl (cI, 9, .inl (fun _ => 0))), (q4, .inl (cI, 9, .inl (fun _ => 0)))]) rfl ?_
  refine g_cnt (K2 := 4) (N2 := 36) (by exact Nat.le_of_ble_eq_true rfl) (by exact Nat.le_of_ble_eq_true rfl) ?_
  refine g_putF C hiX1 tyX1 tyX1_ok nmX1 0 rfl rfl 8 (by decide) f37 rfl hin rfl rfl rfl (by exact Nat.le_of_ble_eq_true rfl) (ws2 := [(h0, .inr (1, [.int (0 : Int32), .int (0 : Int32), .int (0 : Int32), .int (0 : Int32), .int (0 : Int32), .ref (q1), .ref (q2), .ref (q3), .ref (q4), .null, .null, .null])), (q1, .inl (cI, 9, .inl (fun _ => 0))), (q2, .inl (cI, 9, .inl (fun _ => 0))), (q3, .inl (cI, 9, .inl (fun _ => 0))), (q4, .inl (cI, 9, .inl (fun _ => 0)))]) rfl dX1_init_58 (pc2 := 61) rfl ?_
  refine g_aload_n C dX1_init_61 0 rfl (pc2 := 62) rfl ?_
  refine g_bipush (v := (9 : Int32)) C dX1_init_62 (by decide) (pc2 := 64) rfl ?_
  refine g_newI C hA (by decide +kernel) 0 rfl (N1 := 9) (by decide) (by decide) (by exact Nat.le_of_ble_eq_true rfl) (by exact Nat.le_of_ble_eq_true rfl) (by exact Nat.le_of_ble_eq_true rfl) dX1_init_64 (pc2 := 66) rfl (fun q5 => ?_)
  refine g_ws (ws2 := [(h0, .inr (1, [.int (0 : Int32), .int (0 : Int32), .int (0 : Int32), .int (0 : Int32), .int (0 : Int32), .ref (q1), .ref (q2), .ref (q3), .ref (q4), .null, .null, .null])), (q1, .inl (cI, 9, .inl (fun _ => 0))), (q2, .inl (cI, 9, .inl (fun _ => 0))), (q3, .inl (cI, 9, .inl (fun _ => 0))), (q4, .inl (cI, 9, .inl (fun _ => 0))), (q5, .inl (cI, 9, .inl (fun _ => 0)))]) rfl ?_
  refine g_cnt (K2 := 5) (N2 := 45) (by exact Nat.le_of_ble_eq_true rfl) (by exact Nat.le_of_ble_eq_true rfl) ?_
  refine g_putF C hiX1 tyX1 tyX1_ok nmX1 0 rfl rfl 9 (by decide) f40 rfl hin rfl rfl rfl (by exact Nat.le_of_ble_eq_true rfl) (ws2 := [(h0, .inr (1, [.int (0 : Int32), .int (0 : Int32), .int (0 : Int32), .int (0 : Int32), .int (0 : Int32), .ref (q1), .ref (q2), .ref (q3), .ref (q4), .ref (q5), .null, .null])), (q1, .inl (cI, 9, .inl (fun _ => 0))), (q2, .inl (cI, 9, .inl (fun _ => 0))), (q3, .inl (cI, 9, .inl (fun _ => 0))), (q4, .inl (cI, 9, .inl (fun _ => 0))), (q5, .inl (cI, 9, .inl (fun _ => 0)))]) rfl dX1_init_66 (pc2 := 69) rfl ?_
  refine g_aload_n C dX1_init_69 0 rfl (pc2 := 70) rfl ?_
  refine g_bipush (v := (9 : Int32)) C dX1_init_70 (by decide) (pc2 := 72) rfl ?_
  refine g_newI C hA (by decide +kernel) 0 rfl (N1 := 9) (by decide) (by decide) (by exact Nat.le_of_ble_eq_true rfl) (by exact Nat.le_of_ble_eq_true rfl) (by exact Nat.le_of_ble_eq_true rfl) dX1_init_72 (pc2 := 74) rfl (fun q6 => ?_)
  refine g_ws (ws2 := [(h0, .inr (1, [.int (0 : Int32), .int (0 : Int32), .int (0 : Int32), .int (0 : Int32), .int (0 : Int32), .ref (q1), .ref (q2), .ref (q3), .ref (q4), .ref (q5), .null, .null])), (q1, .inl (cI, 9, .inl (fun _ => 0))), (q2, .inl (cI, 9, .inl (fun _ => 0))), (q3, .inl (cI, 9, .inl (fun _ => 0))), (q4, .inl (cI, 9, .inl (fun _ => 0))), (q5, .inl (cI, 9, .inl (fun _ => 0))), (q6, .inl (cI, 9, .inl (fun _ => 0)))]) rfl ?_
  refine g_cnt (K2 := 6) (N2 := 54) (by exact Nat.le_of_ble_eq_true rfl) (by exact Nat.le_of_ble_eq_true rfl) ?_
  refine g_putF C hiX1 tyX1 tyX1_ok nmX1 0 rfl rfl 10 (by decide) f43 rfl hin rfl rfl rfl (by exact Nat.le_of_ble_eq_true rfl) (ws2 := [(h0, .inr (1, [.int (0 : Int32), .int (0 : Int32), .int (0 : Int32), .int (0 : Int32), .int (0 : Int32), .ref (q1), .ref (q2), .ref (q3), .ref (q4), .ref (q5), .ref (q6), .null])), (q1, .inl (cI, 9, .inl (fun _ => 0))), (q2, .inl (cI, 9, .inl (fun _ => 0))), (q3, .inl (cI, 9, .inl (fun _ => 0))), (q4, .inl (cI, 9, .inl (fun _ => 0))), (q5, .inl (cI, 9, .inl (fun _ => 0))), (q6, .inl (cI, 9, .inl (fun _ => 0)))]) rfl dX1_init_74 (pc2 := 77) rfl ?_
  refine g_aload_n C dX1_init_77 0 rfl (pc2 := 78) rfl ?_
  refine g_bipush (v := (9 : Int32)) C dX1_init_78 (by decide) (pc2 := 80) rfl ?_
  refine g_newI C hA (by decide +kernel) 0 rfl (N1 := 9) (by decide) (by decide) (by exact Nat.le_of_ble_eq_true rfl) (by exact Nat.le_of_ble_eq_true rfl) (by exact Nat.le_of_ble_eq_true rfl) dX1_init_80 (pc2 := 82) rfl (fun q7 => ?_)
  refine g_ws (ws2 := [(h0, .inr (1, [.int (0 : Int32), .int (0 : Int32), .int (0 : Int32), .int (0 : Int32), .int (0 : Int32), .ref (q1), .ref (q2), .ref (q3), .ref (q4), .ref (q5), .ref (q6), .null])), (q1, .inl (cI, 9, .inl (fun _ => 0))), (q2, .inl (cI, 9, .inl (fun _ => 0))), (q3, .inl (cI, 9, .inl (fun _ => 0))), (q4, .inl (cI, 9, .inl (fun _ => 0))), (q5, .inl (cI, 9, .inl (fun _ => 0))), (q6, .inl (cI, 9, .inl (fun _ => 0))), (q7, .inl (cI, 9, .inl (fun _ => 0)))]) rfl ?_
  refine g_cnt (K2 := 7) (N2 := 63) (by exact Nat.le_of_ble_eq_true rfl) (by exact Nat.le_of_ble_eq_true rfl) ?_
  refine g_putF C hiX1 tyX1 tyX1_ok nmX1 0 rfl rfl 11 (by decide) f46 rfl hin rfl rfl rfl (by exact Nat.le_of_ble_eq_true rfl) (ws2 := [(h0, .inr (1, [.int (0 : Int32), .int (0 : Int32), .int (0 : Int32), .int (0 : Int32), .int (0 : Int32), .ref (q1), .ref (q2), .ref (q3), .ref (q4), .ref (q5), .ref (q6), .ref (q7)])), (q1, .inl (cI, 9, .inl (fun _ => 0))), (q2, .inl (cI, 9, .inl (fun _ => 0))), (q3, .inl (cI, 9, .inl (fun _ => 0))), (q4, .inl (cI, 9, .inl (fun _ => 0))), (q5, .inl (cI, 9, .inl (fun _ => 0))), (q6, .inl (cI, 9, .inl (fun _ => 0))), (q7, .inl (cI, 9, .inl (fun _ => 0)))]) rfl dX1_init_82 (pc2 := 85) rfl ?_
  exact g_vret C hr hlocks rfl (fun k => ([h0, q1, q2, q3, q4, q5, q6, q7] : List Nat).getD k 0) rfl rfl dX1_init_85
set_option maxRecDepth 100000 in
set_option maxHeartbeats 4000000 in
theorem i_X2 (l : Launch) (D : va_G) (cI : ClassId) : Ctn l yX2_init wsX2_init { frames := 1, cells := 1, slots := 9, locals := 12 } D [(cI, .int)] (fun _ => True) 2 [.int 0, .null] (FX2 cI) 1 9 := by
  intro h0 sz
  refine Met.ofW (cc := cX2_init) (maxL := 1) (ret := none) (by decide) rfl ?_
  intro p e s m args below meth c s₁ B hml hv
  obtain ⟨hav, hsz, hP, hK, hPP⟩ := hv
  have C : Cx p m c cX2_init 1 s args wsX2_init RX2 D [(cI, .int)] := ⟨⟨B.exec, B.bytes, hml, findClass_of_methodNamed B.named, atoms_spec (ws := wsX2_init) B.pre⟩, hK⟩
  have hr := B.returns
  have hlocks := B.notSynchronized
  have hin : meth.name = "<init>" := (name_of_methodNamed B.named B.method).1
  subst hsz
  have hA : ∀ q, s.heap.size ≤ q → Rg h0 s.heap.size q := fun q h => Or.inr h
  have hD : va_D (Rg h0 s.heap.size) [(h0, .inr (2, [.int 0, .null]))] := va_D_one (Or.inl rfl)
  have hiX2 : ∀ w ∈ wsX20, w ∈ wsX2_init := by decide +kernel
  have f15 : Cond.fieldLink RX2 15 "PanelPages$Pad" "signs" "[I" ∈ wsX2_init := by decide +kernel
  have f9 : Cond.fieldLink RX2 9 "PanelPages$Pad" "size" "I" ∈ wsX2_init := by decide +kernel
  refine g_entry (lv := [(0, .ref h0)]) hav hP hD (Nat.le_of_ble_eq_true rfl) rfl ?_
  refine g_aload_n C dX2_init_0 0 rfl (pc2 := 1) rfl ?_
  refine g_objInit (idx := 3) C (by decide +kernel) (by decide +kernel) (by decide +kernel) (by exact Nat.le_of_ble_eq_true rfl) (by exact Nat.le_of_ble_eq_true rfl) dX2_init_1 (pc2 := 4) rfl ?_
  refine g_aload_n C dX2_init_4 0 rfl (pc2 := 5) rfl ?_
  refine g_iconst (v := (0 : Int32)) C dX2_init_5 (by decide) (pc2 := 6) rfl ?_
  refine g_put C hiX2 tyX2 tyX2_ok nmX2 0 rfl rfl 0 (by decide) f9 rfl rfl (by exact Nat.le_of_ble_eq_true rfl) (ws2 := [(h0, .inr (2, [.int (0 : Int32), .null]))]) rfl dX2_init_6 (pc2 := 9) rfl ?_
  refine g_aload_n C dX2_init_9 0 rfl (pc2 := 10) rfl ?_
  refine g_bipush (v := (9 : Int32)) C dX2_init_10 (by decide) (pc2 := 12) rfl ?_
  refine g_newI C hA (by decide +kernel) 0 rfl (N1 := 9) (by decide) (by decide) (by exact Nat.le_of_ble_eq_true rfl) (by exact Nat.le_of_ble_eq_true rfl) (by exact Nat.le_of_ble_eq_true rfl) dX2_init_12 (pc2 := 14) rfl (fun q1 => ?_)
  refine g_ws (ws2 := [(h0, .inr (2, [.int (0 : Int32), .null])), (q1, .inl (cI, 9, .inl (fun _ => 0)))]) rfl ?_
  refine g_cnt (K2 := 1) (N2 := 9) (by exact Nat.le_of_ble_eq_true rfl) (by exact Nat.le_of_ble_eq_true rfl) ?_
  refine g_putF C hiX2 tyX2 tyX2_ok nmX2 0 rfl rfl 1 (by decide) f15 rfl hin rfl rfl rfl (by exact Nat.le_of_ble_eq_true rfl) (ws2 := [(h0, .inr (2, [.int (0 : Int32), .ref (q1)])), (q1, .inl (cI, 9, .inl (fun _ => 0)))]) rfl dX2_init_14 (pc2 := 17) rfl ?_
  exact g_vret C hr hlocks rfl (fun k => ([h0, q1] : List Nat).getD k 0) rfl rfl dX2_init_17
set_option maxRecDepth 100000 in
set_option maxHeartbeats 4000000 in
theorem i_X4 (l : Launch) (D : va_G) (cI : ClassId) : Ctn l yX4_init wsX4_init { frames := 1, cells := 2, slots := 8, locals := 12 } D [(cI, .int)] (fun _ => True) 4 [.null, .null, .int 0, .int 0, .int 0] (FX4 cI) 2 8 := by
  intro h0 sz
  refine Met.ofW (cc := cX4_init) (maxL := 1) (ret := none) (by decide) rfl ?_
  intro p e s m args below meth c s₁ B hml hv
  obtain ⟨hav, hsz, hP, hK, hPP⟩ := hv
  have C : Cx p m c cX4_init 1 s args wsX4_init RX4 D [(cI, .int)] := ⟨⟨B.exec, B.bytes, hml, findClass_of_methodNamed B.named, atoms_spec (ws := wsX4_init) B.pre⟩, hK⟩
  have hr := B.returns
  have hlocks := B.notSynchronized
  have hin : meth.name = "<init>" := (name_of_methodNamed B.named B.method).1
  subst hsz
  have hA : ∀ q, s.heap.size ≤ q → Rg h0 s.heap.size q := fun q h => Or.inr h
  have hD : va_D (Rg h0 s.heap.size) [(h0, .inr (4, [.null, .null, .int 0, .int 0, .int 0]))] := va_D_one (Or.inl rfl)
  have hiX4 : ∀ w ∈ wsX40, w ∈ wsX4_init := by decide +kernel
  have f15 : Cond.fieldLink RX4 15 "PanelPages$Setting" "first" "[I" ∈ wsX4_init := by decide +kernel
  have f18 : Cond.fieldLink RX4 18 "PanelPages$Setting" "found" "I" ∈ wsX4_init := by decide +kernel
  have f22 : Cond.fieldLink RX4 22 "PanelPages$Setting" "leastDeep" "I" ∈ wsX4_init := by decide +kernel
  have f25 : Cond.fieldLink RX4 25 "PanelPages$Setting" "foundLeastDeep" "I" ∈ wsX4_init := by decide +kernel
  have f9 : Cond.fieldLink RX4 9 "PanelPages$Setting" "cell" "[I" ∈ wsX4_init := by decide +kernel
  refine g_entry (lv := [(0, .ref h0)]) hav hP hD (Nat.le_of_ble_eq_true rfl) rfl ?_
  refine g_aload_n C dX4_init_0 0 rfl (pc2 := 1) rfl ?_
  refine g_objInit (idx := 3) C (by decide +kernel) (by decide +kernel) (by decide +kernel) (by exact Nat.le_of_ble_eq_true rfl) (by exact Nat.le_of_ble_eq_true rfl) dX4_init_1 (pc2 := 4) rfl ?_
  refine g_aload_n C dX4_init_4 0 rfl (pc2 := 5) rfl ?_
  refine g_iconst (v := (4 : Int32)) C dX4_init_5 (by decide) (pc2 := 6) rfl ?_
  refine g_newI C hA (by decide +kernel) 0 rfl (N1 := 4) (by decide) (by decide) (by exact Nat.le_of_ble_eq_true rfl) (by exact Nat.le_of_ble_eq_true rfl) (by exact Nat.le_of_ble_eq_true rfl) dX4_init_6 (pc2 := 8) rfl (fun q1 => ?_)
  refine g_ws (ws2 := [(h0, .inr (4, [.null, .null, .int 0, .int 0, .int 0])), (q1, .inl (cI, 4, .inl (fun _ => 0)))]) rfl ?_
  refine g_cnt (K2 := 1) (N2 := 4) (by exact Nat.le_of_ble_eq_true rfl) (by exact Nat.le_of_ble_eq_true rfl) ?_
  refine g_putF C hiX4 tyX4 tyX4_ok nmX4 0 rfl rfl 0 (by decide) f9 rfl hin rfl rfl rfl (by exact Nat.le_of_ble_eq_true rfl) (ws2 := [(h0, .inr (4, [.ref (q1), .null, .int 0, .int 0, .int 0])), (q1, .inl (cI, 4, .inl (fun _ => 0)))]) rfl dX4_init_8 (pc2 := 11) rfl ?_
  refine g_aload_n C dX4_init_11 0 rfl (pc2 := 12) rfl ?_
  refine g_iconst (v := (4 : Int32)) C dX4_init_12 (by decide) (pc2 := 13) rfl ?_
  refine g_newI C hA (by decide +kernel) 0 rfl (N1 := 4) (by decide) (by decide) (by exact Nat.le_of_ble_eq_true rfl) (by exact Nat.le_of_ble_eq_true rfl) (by exact Nat.le_of_ble_eq_true rfl) dX4_init_13 (pc2 := 15) rfl (fun q2 => ?_)
  refine g_ws (ws2 := [(h0, .inr (4, [.ref (q1), .null, .int 0, .int 0, .int 0])), (q1, .inl (cI, 4, .inl (fun _ => 0))), (q2, .inl (cI, 4, .inl (fun _ => 0)))]) rfl ?_
  refine g_cnt (K2 := 2) (N2 := 8) (by exact Nat.le_of_ble_eq_true rfl) (by exact Nat.le_of_ble_eq_true rfl) ?_
  refine g_putF C hiX4 tyX4 tyX4_ok nmX4 0 rfl rfl 1 (by decide) f15 rfl hin rfl rfl rfl (by exact Nat.le_of_ble_eq_true rfl) (ws2 := [(h0, .inr (4, [.ref (q1), .ref (q2), .int 0, .int 0, .int 0])), (q1, .inl (cI, 4, .inl (fun _ => 0))), (q2, .inl (cI, 4, .inl (fun _ => 0)))]) rfl dX4_init_15 (pc2 := 18) rfl ?_
  refine g_aload_n C dX4_init_18 0 rfl (pc2 := 19) rfl ?_
  refine g_iconst (v := (0 : Int32)) C dX4_init_19 (by decide) (pc2 := 20) rfl ?_
  refine g_put C hiX4 tyX4 tyX4_ok nmX4 0 rfl rfl 2 (by decide) f18 rfl rfl (by exact Nat.le_of_ble_eq_true rfl) (ws2 := [(h0, .inr (4, [.ref (q1), .ref (q2), .int (0 : Int32), .int 0, .int 0])), (q1, .inl (cI, 4, .inl (fun _ => 0))), (q2, .inl (cI, 4, .inl (fun _ => 0)))]) rfl dX4_init_20 (pc2 := 23) rfl ?_
  refine g_aload_n C dX4_init_23 0 rfl (pc2 := 24) rfl ?_
  refine g_iconst (v := (0 : Int32)) C dX4_init_24 (by decide) (pc2 := 25) rfl ?_
  refine g_put C hiX4 tyX4 tyX4_ok nmX4 0 rfl rfl 3 (by decide) f22 rfl rfl (by exact Nat.le_of_ble_eq_true rfl) (ws2 := [(h0, .inr (4, [.ref (q1), .ref (q2), .int (0 : Int32), .int (0 : Int32), .int 0])), (q1, .inl (cI, 4, .inl (fun _ => 0))), (q2, .inl (cI, 4, .inl (fun _ => 0)))]) rfl dX4_init_25 (pc2 := 28) rfl ?_
  refine g_aload_n C dX4_init_28 0 rfl (pc2 := 29) rfl ?_
  refine g_iconst (v := (0 : Int32)) C dX4_init_29 (by decide) (pc2 := 30) rfl ?_
  refine g_put C hiX4 tyX4 tyX4_ok nmX4 0 rfl rfl 4 (by decide) f25 rfl rfl (by exact Nat.le_of_ble_eq_true rfl) (ws2 := [(h0, .inr (4, [.ref (q1), .ref (q2), .int (0 : Int32), .int (0 : Int32), .int (0 : Int32)])), (q1, .inl (cI, 4, .inl (fun _ => 0))), (q2, .inl (cI, 4, .inl (fun _ => 0)))]) rfl dX4_init_30 (pc2 := 33) rfl ?_
  exact g_vret C hr hlocks rfl (fun k => ([h0, q1, q2] : List Nat).getD k 0) rfl rfl dX4_init_33
set_option maxRecDepth 100000 in
set_option maxHeartbeats 4000000 in
theorem i_X3 (l : Launch) (D : va_G) (cI : ClassId) : Ctn l yX3_init wsX3_init { frames := 2, cells := 13, slots := 175, locals := 32 } D [(cI, .int)] (PX3) 3 [.null, .null, .null, .null, .null, .null] (FX3 cI) 13 175 := by
  intro h0 sz
  refine Met.ofW (cc := cX3_init) (maxL := 1) (ret := none) (by decide) rfl ?_
  intro p e s m args below meth c s₁ B hml hv
  obtain ⟨hav, hsz, hP, hK, hPP⟩ := hv
  have C : Cx p m c cX3_init 1 s args wsX3_init RX3 D [(cI, .int)] := ⟨⟨B.exec, B.bytes, hml, findClass_of_methodNamed B.named, atoms_spec (ws := wsX3_init) B.pre⟩, hK⟩
  have hr := B.returns
  have hlocks := B.notSynchronized
  have hin : meth.name = "<init>" := (name_of_methodNamed B.named B.method).1
  subst hsz
  have hA : ∀ q, s.heap.size ≤ q → Rg h0 s.heap.size q := fun q h => Or.inr h
  have hD : va_D (Rg h0 s.heap.size) [(h0, .inr (3, [.null, .null, .null, .null, .null, .null]))] := va_D_one (Or.inl rfl)
  have hiX1 : ∀ w ∈ wsX10, w ∈ wsX3_init := by decide +kernel
  have hiX3 : ∀ w ∈ wsX30, w ∈ wsX3_init := by decide +kernel
  have f12 : Cond.fieldLink RX3 12 "PanelPages$Search" "onPage" "LPanelPages$Layout;" ∈ wsX3_init := by decide +kernel
  have f18 : Cond.fieldLink RX3 18 "PanelPages$Search" "ways" "[I" ∈ wsX3_init := by decide +kernel
  have f22 : Cond.fieldLink RX3 22 "PanelPages$Search" "fewest" "[I" ∈ wsX3_init := by decide +kernel
  have f25 : Cond.fieldLink RX3 25 "PanelPages$Search" "waysInFewest" "[I" ∈ wsX3_init := by decide +kernel
  have f28 : Cond.fieldLink RX3 28 "PanelPages$Search" "least" "[I" ∈ wsX3_init := by decide +kernel
  have f31 : Cond.fieldLink RX3 31 "PanelPages$Search" "firstLayout" "[I" ∈ wsX3_init := by decide +kernel
  refine g_entry (lv := [(0, .ref h0)]) hav hP hD (Nat.le_of_ble_eq_true rfl) rfl ?_
  refine g_aload_n C dX3_init_0 0 rfl (pc2 := 1) rfl ?_
  refine g_objInit (idx := 3) C (by decide +kernel) (by decide +kernel) (by decide +kernel) (by exact Nat.le_of_ble_eq_true rfl) (by exact Nat.le_of_ble_eq_true rfl) dX3_init_1 (pc2 := 4) rfl ?_
  refine g_aload_n C dX3_init_4 0 rfl (pc2 := 5) rfl ?_
  refine g_new (index := 9) (ci := 1) (fs := [.int 0, .int 0, .int 0, .int 0, .int 0, .null, .null, .null, .null, .null, .null, .null]) C hA hiX1 tyX1 tyX1_ok (by decide +kernel) (by decide +kernel) (by decide +kernel) rfl (fun j hj => vpd_X1 j hj) (by exact Nat.le_of_ble_eq_true rfl) (by exact Nat.le_of_ble_eq_true rfl) dX3_init_5 (pc2 := 8) rfl (fun q1 => ?_)
  refine g_cnt (K2 := 1) (N2 := 12) (by exact Nat.le_of_ble_eq_true rfl) (by exact Nat.le_of_ble_eq_true rfl) ?_
  refine g_dup C dX3_init_8 rfl (pc2 := 9) rfl ?_
  refine g_ws (ws2 := [(h0, .inr (3, [.null, .null, .null, .null, .null, .null]))] ++ [(q1, .inr (1, [.int 0, .int 0, .int 0, .int 0, .int 0, .null, .null, .null, .null, .null, .null, .null]))]) rfl ?_
  refine g_initN (index := 11) (host := RX5) C hA (i_X1 l D cI) (hK.sub [0] rfl) (fun _ _ => trivial) (fun _ _ _ _ _ => trivial) ggX3_init_X1_init rfl (by decide +kernel) (by decide +kernel) hPP (by decide +kernel) rfl rfl rfl ⟨(by exact Nat.le_of_ble_eq_true rfl), (by exact Nat.le_of_ble_eq_true rfl)⟩ (by exact Nat.le_of_ble_eq_true rfl) (by exact Nat.le_of_ble_eq_true rfl) (by exact Nat.le_of_ble_eq_true rfl) dX3_init_9 (pc2 := 12) rfl (fun a2 ea2 => ?_)
  subst ea2
  refine g_ws (ws2 := [(h0, .inr (3, [.null, .null, .null, .null, .null, .null])), (a2 0, .inr (1, [.int 0, .int 0, .int 0, .int 0, .int 0, .ref (a2 1), .ref (a2 2), .ref (a2 3), .ref (a2 4), .ref (a2 5), .ref (a2 6), .ref (a2 7)])), (a2 1, .inl (cI, 9, .inl (fun _ => 0))), (a2 2, .inl (cI, 9, .inl (fun _ => 0))), (a2 3, .inl (cI, 9, .inl (fun _ => 0))), (a2 4, .inl (cI, 9, .inl (fun _ => 0))), (a2 5, .inl (cI, 9, .inl (fun _ => 0))), (a2 6, .inl (cI, 9, .inl (fun _ => 0))), (a2 7, .inl (cI, 9, .inl (fun _ => 0)))]) rfl ?_
  refine g_cnt (K2 := 8) (N2 := 75) (by exact Nat.le_of_ble_eq_true rfl) (by exact Nat.le_of_ble_eq_true rfl) ?_
  refine g_putF C hiX3 tyX3 tyX3_ok nmX3 0 rfl rfl 0 (by decide) f12 rfl hin rfl rfl rfl (by exact Nat.le_of_ble_eq_true rfl) (ws2 := [(h0, .inr (3, [.ref (a2 0), .null, .null, .null, .null, .null])), (a2 0, .inr (1, [.int 0, .int 0, .int 0, .int 0, .int 0, .ref (a2 1), .ref (a2 2), .ref (a2 3), .ref (a2 4), .ref (a2 5), .ref (a2 6), .ref (a2 7)])), (a2 1, .inl (cI, 9, .inl (fun _ => 0))), (a2 2, .inl (cI, 9, .inl (fun _ => 0))), (a2 3, .inl (cI, 9, .inl (fun _ => 0))), (a2 4, .inl (cI, 9, .inl (fun _ => 0))), (a2 5, .inl (cI, 9, .inl (fun _ => 0))), (a2 6, .inl (cI, 9, .inl (fun _ => 0))), (a2 7, .inl (cI, 9, .inl (fun _ => 0)))]) rfl dX3_init_12 (pc2 := 15) rfl ?_
  refine g_aload_n C dX3_init_15 0 rfl (pc2 := 16) rfl ?_
  refine g_bipush (v := (20 : Int32)) C dX3_init_16 (by decide) (pc2 := 18) rfl ?_
  refine g_newI C hA (by decide +kernel) 0 rfl (N1 := 20) (by decide) (by decide) (by exact Nat.le_of_ble_eq_true rfl) (by exact Nat.le_of_ble_eq_true rfl) (by exact Nat.le_of_ble_eq_true rfl) dX3_init_18 (pc2 := 20) rfl (fun q3 => ?_)
  refine g_ws (ws2 := [(h0, .inr (3, [.ref (a2 0), .null, .null, .null, .null, .null])), (a2 0, .inr (1, [.int 0, .int 0, .int 0, .int 0, .int 0, .ref (a2 1), .ref (a2 2), .ref (a2 3), .ref (a2 4), .ref (a2 5), .ref (a2 6), .ref (a2 7)])), (a2 1, .inl (cI, 9, .inl (fun _ => 0))), (a2 2, .inl (cI, 9, .inl (fun _ => 0))), (a2 3, .inl (cI, 9, .inl (fun _ => 0))), (a2 4, .inl (cI, 9, .inl (fun _ => 0))), (a2 5, .inl (cI, 9, .inl (fun _ => 0))), (a2 6, .inl (cI, 9, .inl (fun _ => 0))), (a2 7, .inl (cI, 9, .inl (fun _ => 0))), (q3, .inl (cI, 20, .inl (fun _ => 0)))]) rfl ?_
  refine g_cnt (K2 := 9) (N2 := 95) (by exact Nat.le_of_ble_eq_true rfl) (by exact Nat.le_of_ble_eq_true rfl) ?_
  refine g_putF C hiX3 tyX3 tyX3_ok nmX3 0 rfl rfl 1 (by decide) f18 rfl hin rfl rfl rfl (by exact Nat.le_of_ble_eq_true rfl) (ws2 := [(h0, .inr (3, [.ref (a2 0), .ref (q3), .null, .null, .null, .null])), (a2 0, .inr (1, [.int 0, .int 0, .int 0, .int 0, .int 0, .ref (a2 1), .ref (a2 2), .ref (a2 3), .ref (a2 4), .ref (a2 5), .ref (a2 6), .ref (a2 7)])), (a2 1, .inl (cI, 9, .inl (fun _ => 0))), (a2 2, .inl (cI, 9, .inl (fun _ => 0))), (a2 3, .inl (cI, 9, .inl (fun _ => 0))), (a2 4, .inl (cI, 9, .inl (fun _ => 0))), (a2 5, .inl (cI, 9, .inl (fun _ => 0))), (a2 6, .inl (cI, 9, .inl (fun _ => 0))), (a2 7, .inl (cI, 9, .inl (fun _ => 0))), (q3, .inl (cI, 20, .inl (fun _ => 0)))]) rfl dX3_init_20 (pc2 := 23) rfl ?_
  refine g_aload_n C dX3_init_23 0 rfl (pc2 := 24) rfl ?_
  refine g_bipush (v := (20 : Int32)) C dX3_init_24 (by decide) (pc2 := 26) rfl ?_
  refine g_newI C hA (by decide +kernel) 0 rfl (N1 := 20) (by decide) (by decide) (by exact Nat.le_of_ble_eq_true rfl) (by exact Nat.le_of_ble_eq_true rfl) (by exact Nat.le_of_ble_eq_true rfl) dX3_init_26 (pc2 := 28) rfl (fun q4 => ?_)
  refine g_ws (ws2 := [(h0, .inr (3, [.ref (a2 0), .ref (q3), .null, .null, .null, .null])), (a2 0, .inr (1, [.int 0, .int 0, .int 0, .int 0, .int 0, .ref (a2 1), .ref (a2 2), .ref (a2 3), .ref (a2 4), .ref (a2 5), .ref (a2 6), .ref (a2 7)])), (a2 1, .inl (cI, 9, .inl (fun _ => 0))), (a2 2, .inl (cI, 9, .inl (fun _ => 0))), (a2 3, .inl (cI, 9, .inl (fun _ => 0))), (a2 4, .inl (cI, 9, .inl (fun _ => 0))), (a2 5, .inl (cI, 9, .inl (fun _ => 0))), (a2 6, .inl (cI, 9, .inl (fun _ => 0))), (a2 7, .inl (cI, 9, .inl (fun _ => 0))), (q3, .inl (cI, 20, .inl (fun _ => 0))), (q4, .inl (cI, 20, .inl (fun _ => 0)))]) rfl ?_
  refine g_cnt (K2 := 10) (N2 := 115) (by exact Nat.le_of_ble_eq_true rfl) (by exact Nat.le_of_ble_eq_true rfl) ?_
  refine g_putF C hiX3 tyX3 tyX3_ok nmX3 0 rfl rfl 2 (by decide) f22 rfl hin rfl rfl rfl (by exact Nat.le_of_ble_eq_true rfl) (ws2 := [(h0, .inr (3, [.ref (a2 0), .ref (q3), .ref (q4), .null, .null, .null])), (a2 0, .inr (1, [.int 0, .int 0, .int 0, .int 0, .int 0, .ref (a2 1), .ref (a2 2), .ref (a2 3), .ref (a2 4), .ref (a2 5), .ref (a2 6), .ref (a2 7)])), (a2 1, .inl (cI, 9, .inl (fun _ => 0))), (a2 2, .inl (cI, 9, .inl (fun _ => 0))), (a2 3, .inl (cI, 9, .inl (fun _ => 0))), (a2 4, .inl (cI, 9, .inl (fun _ => 0))), (a2 5, .inl (cI, 9, .inl (fun _ => 0))), (a2 6, .inl (cI, 9, .inl (fun _ => 0))), (a2 7, .inl (cI, 9, .inl (fun _ => 0))), (q3, .inl (cI, 20, .inl (fun _ => 0))), (q4, .inl (cI, 20, .inl (fun _ => 0)))]) rfl dX3_init_28 (pc2 := 31) rfl ?_
  refine g_aload_n C dX3_init_31 0 rfl (pc2 := 32) rfl ?_
  refine g_bipush (v := (20 : Int32)) C dX3_init_32 (by decide) (pc2 := 34) rfl ?_
  refine g_newI C hA (by decide +kernel) 0 rfl (N1 := 20) (by decide) (by decide) (by exact Nat.le_of_ble_eq_true rfl) (by exact Nat.le_of_ble_eq_true rfl) (by exact Nat.le_of_ble_eq_true rfl) dX3_init_34 (pc2 := 36) rfl (fun q5 => ?_)
  refine g_ws (ws2 := [(h0, .inr (3, [.ref (a2 0), .ref (q3), .ref (q4), .null, .null, .null])), (a2 0, .inr (1, [.int 0, .int 0, .int 0, .int 0, .int 0, .ref (a2 1), .ref (a2 2), .ref (a2 3), .ref (a2 4), .ref (a2 5), .ref (a2 6), .ref (a2 7)])), (a2 1, .inl (cI, 9, .inl (fun _ => 0))), (a2 2, .inl (cI, 9, .inl (fun _ => 0))), (a2 3, .inl (cI, 9, .inl (fun _ => 0))), (a2 4, .inl (cI, 9, .inl (fun _ => 0))), (a2 5, .inl (cI, 9, .inl (fun _ => 0))), (a2 6, .inl (cI, 9, .inl (fun _ => 0))), (a2 7, .inl (cI, 9, .inl (fun _ => 0))), (q3, .inl (cI, 20, .inl (fun _ => 0))), (q4, .inl (cI, 20, .inl (fun _ => 0))), (q5, .inl (cI, 20, .inl (fun _ => 0)))]) rfl ?_
  refine g_cnt (K2 := 11) (N2 := 135) (by exact Nat.le_of_ble_eq_true rfl) (by exact Nat.le_of_ble_eq_true rfl) ?_
  refine g_putF C hiX3 tyX3 tyX3_ok nmX3 0 rfl rfl 3 (by decide) f25 rfl hin rfl rfl rfl (by exact Nat.le_of_ble_eq_true rfl) (ws2 := [(h0, .inr (3, [.ref (a2 0), .ref (q3), .ref (q4), .ref (q5), .null, .null])), (a2 0, .inr (1, [.int 0, .int 0, .int 0, .int 0, .int 0, .ref (a2 1), .ref (a2 2), .ref (a2 3), .ref (a2 4), .ref (a2 5), .ref (a2 6), .ref (a2 7)])), (a2 1, .inl (cI, 9, .inl (fun _ => 0))), (a2 2, .inl (cI, 9, .inl (fun _ => 0))), (a2 3, .inl (cI, 9, .inl (fun _ => 0))), (a2 4, .inl (cI, 9, .inl (fun _ => 0))), (a2 5, .inl (cI, 9, .inl (fun _ => 0))), (a2 6, .inl (cI, 9, .inl (fun _ => 0))), (a2 7, .inl (cI, 9, .inl (fun _ => 0))), (q3, .inl (cI, 20, .inl (fun _ => 0))), (q4, .inl (cI, 20, .inl (fun _ => 0))), (q5, .inl (cI, 20, .inl (fun _ => 0)))]) rfl dX3_init_36 (pc2 := 39) rfl ?_
  refine g_aload_n C dX3_init_39 0 rfl (pc2 := 40) rfl ?_
  refine g_bipush (v := (20 : Int32)) C dX3_init_40 (by decide) (pc2 := 42) rfl ?_
  refine g_newI C hA (by decide +kernel) 0 rfl (N1 := 20) (by decide) (by decide) (by exact Nat.le_of_ble_eq_true rfl) (by exact Nat.le_of_ble_eq_true rfl) (by exact Nat.le_of_ble_eq_true rfl) dX3_init_42 (pc2 := 44) rfl (fun q6 => ?_)
  refine g_ws (ws2 := [(h0, .inr (3, [.ref (a2 0), .ref (q3), .ref (q4), .ref (q5), .null, .null])), (a2 0, .inr (1, [.int 0, .int 0, .int 0, .int 0, .int 0, .ref (a2 1), .ref (a2 2), .ref (a2 3), .ref (a2 4), .ref (a2 5), .ref (a2 6), .ref (a2 7)])), (a2 1, .inl (cI, 9, .inl (fun _ => 0))), (a2 2, .inl (cI, 9, .inl (fun _ => 0))), (a2 3, .inl (cI, 9, .inl (fun _ => 0))), (a2 4, .inl (cI, 9, .inl (fun _ => 0))), (a2 5, .inl (cI, 9, .inl (fun _ => 0))), (a2 6, .inl (cI, 9, .inl (fun _ => 0))), (a2 7, .inl (cI, 9, .inl (fun _ => 0))), (q3, .inl (cI, 20, .inl (fun _ => 0))), (q4, .inl (cI, 20, .inl (fun _ => 0))), (q5, .inl (cI, 20, .inl (fun _ => 0))), (q6, .inl (cI, 20, .inl (fun _ => 0)))]) rfl ?_
  refine g_cnt (K2 := 12) (N2 := 155) (by exact Nat.le_of_ble_eq_true rfl) (by exact Nat.le_of_ble_eq_true rfl) ?_
  refine g_putF C hiX3 tyX3 tyX3_ok nmX3 0 rfl rfl 4 (by decide) f28 rfl hin rfl rfl rfl (by exact Nat.le_of_ble_eq_true rfl) (ws2 := [(h0, .inr (3, [.ref (a2 0), .ref (q3), .ref (q4), .ref (q5), .ref (q6), .null])), (a2 0, .inr (1, [.int 0, .int 0, .int 0, .int 0, .int 0, .ref (a2 1), .ref (a2 2), .ref (a2 3), .ref (a2 4), .ref (a2 5), .ref (a2 6), .ref (a2 7)])), (a2 1, .inl (cI, 9, .inl (fun _ => 0))), (a2 2, .inl (cI, 9, .inl (fun _ => 0))), (a2 3, .inl (cI, 9, .inl (fun _ => 0))), (a2 4, .inl (cI, 9, .inl (fun _ => 0))), (a2 5, .inl (cI, 9, .inl (fun _ => 0))), (a2 6, .inl (cI, 9, .inl (fun _ => 0))), (a2 7, .inl (cI, 9, .inl (fun _ => 0))), (q3, .inl (cI, 20, .inl (fun _ => 0))), (q4, .inl (cI, 20, .inl (fun _ => 0))), (q5, .inl (cI, 20, .inl (fun _ => 0))), (q6, .inl (cI, 20, .inl (fun _ => 0)))]) rfl dX3_init_44 (pc2 := 47) rfl ?_
  refine g_aload_n C dX3_init_47 0 rfl (pc2 := 48) rfl ?_
  refine g_bipush (v := (20 : Int32)) C dX3_init_48 (by decide) (pc2 := 50) rfl ?_
  refine g_newI C hA (by decide +kernel) 0 rfl (N1 := 20) (by decide) (by decide) (by exact Nat.le_of_ble_eq_true rfl) (by exact Nat.le_of_ble_eq_true rfl) (by exact Nat.le_of_ble_eq_true rfl) dX3_init_50 (pc2 := 52) rfl (fun q7 => ?_)
  refine g_ws (ws2 := [(h0, .inr (3, [.ref (a2 0), .ref (q3), .ref (q4), .ref (q5), .ref (q6), .null])), (a2 0, .inr (1, [.int 0, .int 0, .int 0, .int 0, .int 0, .ref (a2 1), .ref (a2 2), .ref (a2 3), .ref (a2 4), .ref (a2 5), .ref (a2 6), .ref (a2 7)])), (a2 1, .inl (cI, 9, .inl (fun _ => 0))), (a2 2, .inl (cI, 9, .inl (fun _ => 0))), (a2 3, .inl (cI, 9, .inl (fun _ => 0))), (a2 4, .inl (cI, 9, .inl (fun _ => 0))), (a2 5, .inl (cI, 9, .inl (fun _ => 0))), (a2 6, .inl (cI, 9, .inl (fun _ => 0))), (a2 7, .inl (cI, 9, .inl (fun _ => 0))), (q3, .inl (cI, 20, .inl (fun _ => 0))), (q4, .inl (cI, 20, .inl (fun _ => 0))), (q5, .inl (cI, 20, .inl (fun _ => 0))), (q6, .inl (cI, 20, .inl (fun _ => 0))), (q7, .inl (cI, 20, .inl (fun _ => 0)))]) rfl ?_
  refine g_cnt (K2 := 13) (N2 := 175) (by exact Nat.le_of_ble_eq_true rfl) (by exact Nat.le_of_ble_eq_true rfl) ?_
  refine g_putF C hiX3 tyX3 tyX3_ok nmX3 0 rfl rfl 5 (by decide) f31 rfl hin rfl rfl rfl (by exact Nat.le_of_ble_eq_true rfl) (ws2 := [(h0, .inr (3, [.ref (a2 0), .ref (q3), .ref (q4), .ref (q5), .ref (q6), .ref (q7)])), (a2 0, .inr (1, [.int 0, .int 0, .int 0, .int 0, .int 0, .ref (a2 1), .ref (a2 2), .ref (a2 3), .ref (a2 4), .ref (a2 5), .ref (a2 6), .ref (a2 7)])), (a2 1, .inl (cI, 9, .inl (fun _ => 0))), (a2 2, .inl (cI, 9, .inl (fun _ => 0))), (a2 3, .inl (cI, 9, .inl (fun _ => 0))), (a2 4, .inl (cI, 9, .inl (fun _ => 0))), (a2 5, .inl (cI, 9, .inl (fun _ => 0))), (a2 6, .inl (cI, 9, .inl (fun _ => 0))), (a2 7, .inl (cI, 9, .inl (fun _ => 0))), (q3, .inl (cI, 20, .inl (fun _ => 0))), (q4, .inl (cI, 20, .inl (fun _ => 0))), (q5, .inl (cI, 20, .inl (fun _ => 0))), (q6, .inl (cI, 20, .inl (fun _ => 0))), (q7, .inl (cI, 20, .inl (fun _ => 0)))]) rfl dX3_init_52 (pc2 := 55) rfl ?_
  exact g_vret C hr hlocks rfl (fun k => ([h0, a2 0, a2 1, a2 2, a2 3, a2 4, a2 5, a2 6, a2 7, q3, q4, q5, q6, q7] : List Nat).getD k 0) rfl rfl dX3_init_55
set_option maxRecDepth 100000 in
set_option maxHeartbeats 4000000 in
theorem i_X5 (l : Launch) (D : va_G) (cI cB : ClassId) : Ctn l yX5_init wsX5_init { frames := 3, cells := 46, slots := 519, locals := 52 } D [(cI, .int), (cB, .object RX0)] (PX5) 5 [.null, .null, .null, .null, .null, .null, .int 0] (fun a => XW a cI cB x0) 46 519 := by
  intro h0 sz
  refine Met.ofW (cc := cX5_init) (maxL := 2) (ret := none) (by decide) rfl ?_
  intro p e s m args below meth c s₁ B hml hv
  obtain ⟨hav, hsz, hP, hK, hPP⟩ := hv
  have C : Cx p m c cX5_init 2 s args wsX5_init RX5 D [(cI, .int), (cB, .object RX0)] := ⟨⟨B.exec, B.bytes, hml, findClass_of_methodNamed B.named, atoms_spec (ws := wsX5_init) B.pre⟩, hK⟩
  have hr := B.returns
  have hlocks := B.notSynchronized
  have hin : meth.name = "<init>" := (name_of_methodNamed B.named B.method).1
  subst hsz
  have hA : ∀ q, s.heap.size ≤ q → Rg h0 s.heap.size q := fun q h => Or.inr h
  have hD : va_D (Rg h0 s.heap.size) [(h0, .inr (5, [.null, .null, .null, .null, .null, .null, .int 0]))] := va_D_one (Or.inl rfl)
  have hiX0 : ∀ w ∈ wsX00, w ∈ wsX5_init := by decide +kernel
  have hiX1 : ∀ w ∈ wsX10, w ∈ wsX5_init := by decide +kernel
  have hiX2 : ∀ w ∈ wsX20, w ∈ wsX5_init := by decide +kernel
  have hiX3 : ∀ w ∈ wsX30, w ∈ wsX5_init := by decide +kernel
  have hiX4 : ∀ w ∈ wsX40, w ∈ wsX5_init := by decide +kernel
  have hiX5 : ∀ w ∈ wsX50, w ∈ wsX5_init := by decide +kernel
  have f10 : Cond.fieldLink RX5 10 "PanelPages" "book" "LPanelPages$Book;" ∈ wsX5_init := by decide +kernel
  have f19 : Cond.fieldLink RX5 19 "PanelPages" "pad" "LPanelPages$Pad;" ∈ wsX5_init := by decide +kernel
  have f26 : Cond.fieldLink RX5 26 "PanelPages" "layout" "LPanelPages$Layout;" ∈ wsX5_init := by decide +kernel
  have f33 : Cond.fieldLink RX5 33 "PanelPages" "search" "LPanelPages$Search;" ∈ wsX5_init := by decide +kernel
  have f40 : Cond.fieldLink RX5 40 "PanelPages" "setting" "LPanelPages$Setting;" ∈ wsX5_init := by decide +kernel
  have f44 : Cond.fieldLink RX5 44 "PanelPages" "kept" "[LPanelPages$Book;" ∈ wsX5_init := by decide +kernel
  have f48 : Cond.fieldLink RX5 48 "PanelPages" "keptSet" "I" ∈ wsX5_init := by decide +kernel
  refine g_entry (lv := [(0, .ref h0)]) hav hP hD (Nat.le_of_ble_eq_true rfl) rfl ?_
  refine g_aload_n C dX5_init_0 0 rfl (pc2 := 1) rfl ?_
  refine g_objInit (idx := 1) C (by decide +kernel) (by decide +kernel) (by decide +kernel) (by exact Nat.le_of_ble_eq_true rfl) (by exact Nat.le_of_ble_eq_true rfl) dX5_init_1 (pc2 := 4) rfl ?_
  refine g_aload_n C dX5_init_4 0 rfl (pc2 := 5) rfl ?_
  refine g_new (index := 7) (ci := 0) (fs := [.int 0, .int 0, .null, .null, .null, .null, .null]) C hA hiX0 tyX0 tyX0_ok (by decide +kernel) (by decide +kernel) (by decide +kernel) rfl (fun j hj => vpd_X0 j hj) (by exact Nat.le_of_ble_eq_true rfl) (by exact Nat.le_of_ble_eq_true rfl) dX5_init_5 (pc2 := 8) rfl (fun q1 => ?_)
  refine g_cnt (K2 := 1) (N2 := 7) (by exact Nat.le_of_ble_eq_true rfl) (by exact Nat.le_of_ble_eq_true rfl) ?_
  refine g_dup C dX5_init_8 rfl (pc2 := 9) rfl ?_
  refine g_ws (ws2 := [(h0, .inr (5, [.null, .null, .null, .null, .null, .null, .int 0]))] ++ [(q1, .inr (0, [.int 0, .int 0, .null, .null, .null, .null, .null]))]) rfl ?_
  refine g_initN (index := 9) (host := RX5) C hA (i_X0 l D cI) (hK.sub [0] rfl) (fun _ _ => trivial) (fun _ _ _ _ _ => trivial) ggX5_init_X0_init rfl (by decide +kernel) (by decide +kernel) hPP.2.1 (by decide +kernel) rfl rfl rfl ⟨(by exact Nat.le_of_ble_eq_true rfl), (by exact Nat.le_of_ble_eq_true rfl)⟩ (by exact Nat.le_of_ble_eq_true rfl) (by exact Nat.le_of_ble_eq_true rfl) (by exact Nat.le_of_ble_eq_true rfl) dX5_init_9 (pc2 := 12) rfl (fun a2 ea2 => ?_)
  subst ea2
  refine g_ws (ws2 := [(h0, .inr (5, [.null, .null, .null, .null, .null, .null, .int 0])), (a2 0, .inr (0, [.int 0, .int 10, .ref (a2 1), .ref (a2 2), .ref (a2 3), .ref (a2 4), .ref (a2 5)])), (a2 1, .inl (cI, 9, .inl (fun _ => 0))), (a2 2, .inl (cI, 9, .inl (fun _ => 0))), (a2 3, .inl (cI, 9, .inl (fun _ => 0))), (a2 4, .inl (cI, 9, .inl (fun _ => 0))), (a2 5, .inl (cI, 36, .inl (fun _ => 0)))]) rfl ?_
  refine g_cnt (K2 := 6) (N2 := 79) (by exact Nat.le_of_ble_eq_true rfl) (by exact Nat.le_of_ble_eq_true rfl) ?_
  refine g_putF C hiX5 tyX5 tyX5_ok nmX5 0 rfl rfl 0 (by decide) f10 rfl hin rfl rfl rfl (by exact Nat.le_of_ble_eq_true rfl) (ws2 := [(h0, .inr (5, [.ref (a2 0), .null, .null, .null, .null, .null, .int 0])), (a2 0, .inr (0, [.int 0, .int 10, .ref (a2 1), .ref (a2 2), .ref (a2 3), .ref (a2 4), .ref (a2 5)])), (a2 1, .inl (cI, 9, .inl (fun _ => 0))), (a2 2, .inl (cI, 9, .inl (fun _ => 0))), (a2 3, .inl (cI, 9, .inl (fun _ => 0))), (a2 4, .inl (cI, 9, .inl (fun _ => 0))), (a2 5, .inl (cI, 36, .inl (fun _ => 0)))]) rfl dX5_init_12 (pc2 := 15) rfl ?_
  refine g_aload_n C dX5_init_15 0 rfl (pc2 := 16) rfl ?_
  refine g_new (index := 16) (ci := 2) (fs := [.int 0, .null]) C hA hiX2 tyX2 tyX2_ok (by decide +kernel) (by decide +kernel) (by decide +kernel) rfl (fun j hj => vpd_X2 j hj) (by exact Nat.le_of_ble_eq_true rfl) (by exact Nat.le_of_ble_eq_true rfl) dX5_init_16 (pc2 := 19) rfl (fun q3 => ?_)
  refine g_cnt (K2 := 7) (N2 := 81) (by exact Nat.le_of_ble_eq_true rfl) (by exact Nat.le_of_ble_eq_true rfl) ?_
  refine g_dup C dX5_init_19 rfl (pc2 := 20) rfl ?_
  refine g_ws (ws2 := [(h0, .inr (5, [.ref (a2 0), .null, .null, .null, .null, .null, .int 0])), (a2 0, .inr (0, [.int 0, .int 10, .ref (a2 1), .ref (a2 2), .ref (a2 3), .ref (a2 4), .ref (a2 5)])), (a2 1, .inl (cI, 9, .inl (fun _ => 0))), (a2 2, .inl (cI, 9, .inl (fun _ => 0))), (a2 3, .inl (cI, 9, .inl (fun _ => 0))), (a2 4, .inl (cI, 9, .inl (fun _ => 0))), (a2 5, .inl (cI, 36, .inl (fun _ => 0)))] ++ [(q3, .inr (2, [.int 0, .null]))]) rfl ?_
  refine g_initN (index := 18) (host := RX5) C hA (i_X2 l D cI) (hK.sub [0] rfl) (fun _ _ => trivial) (fun _ _ _ _ _ => trivial) ggX5_init_X2_init rfl (by decide +kernel) (by decide +kernel) hPP.2.2.1 (by decide +kernel) rfl rfl rfl ⟨(by exact Nat.le_of_ble_eq_true rfl), (by exact Nat.le_of_ble_eq_true rfl)⟩ (by exact Nat.le_of_ble_eq_true rfl) (by exact Nat.le_of_ble_eq_true rfl) (by exact Nat.le_of_ble_eq_true rfl) dX5_init_20 (pc2 := 23) rfl (fun a4 ea4 => ?_)
  subst ea4
  refine g_ws (ws2 := [(h0, .inr (5, [.ref (a2 0), .null, .null, .null, .null, .null, .int 0])), (a2 0, .inr (0, [.int 0, .int 10, .ref (a2 1), .ref (a2 2), .ref (a2 3), .ref (a2 4), .ref (a2 5)])), (a2 1, .inl (cI, 9, .inl (fun _ => 0))), (a2 2, .inl (cI, 9, .inl (fun _ => 0))), (a2 3, .inl (cI, 9, .inl (fun _ => 0))), (a2 4, .inl (cI, 9, .inl (fun _ => 0))), (a2 5, .inl (cI, 36, .inl (fun _ => 0))), (a4 0, .inr (2, [.int 0, .ref (a4 1)])), (a4 1, .inl (cI, 9, .inl (fun _ => 0)))]) rfl ?_
  refine g_cnt (K2 := 8) (N2 := 90) (by exact Nat.le_of_ble_eq_true rfl) (by exact Nat.le_of_ble_eq_true rfl) ?_
  refine g_putF C hiX5 tyX5 tyX5_ok nmX5 0 rfl rfl 1 (by decide) f19 rfl hin rfl rfl rfl (by exact Nat.le_of_ble_eq_true rfl) (ws2 := [(h0, .inr (5, [.ref (a2 0), .ref (a4 0), .null, .null, .null, .null, .int 0])), (a2 0, .inr (0, [.int 0, .int 10, .ref (a2 1), .ref (a2 2), .ref (a2 3), .ref (a2 4), .ref (a2 5)])), (a2 1, .inl (cI, 9, .inl (fun _ => 0))), (a2 2, .inl (cI, 9, .inl (fun _ => 0))), (a2 3, .inl (cI, 9, .inl (fun _ => 0))), (a2 4, .inl (cI, 9, .inl (fun _ => 0))), (a2 5, .inl (cI, 36, .inl (fun _ => 0))), (a4 0, .inr (2, [.int 0, .ref (a4 1)])), (a4 1, .inl (cI, 9, .inl (fun _ => 0)))]) rfl dX5_init_23 (pc2 := 26) rfl ?_
  refine g_aload_n C dX5_init_26 0 rfl (pc2 := 27) rfl ?_
  refine g_new (index := 23) (ci := 1) (fs := [.int 0, .int 0, .int 0, .int 0, .int 0, .null, .null, .null, .null, .null, .null, .null]) C hA hiX1 tyX1 tyX1_ok (by decide +kernel) (by decide +kernel) (by decide +kernel) rfl (fun j hj => vpd_X1 j hj) (by exact Nat.le_of_ble_eq_true rfl) (by exact Nat.le_of_ble_eq_true rfl) dX5_init_27 (pc2 := 30) rfl (fun q5 => ?_)
  refine g_cnt (K2 := 9) (N2 := 102) (by exact Nat.le_of_ble_eq_true rfl) (by exact Nat.le_of_ble_eq_true rfl) ?_
  refine g_dup C dX5_init_30 rfl (pc2 := 31) rfl ?_
  refine g_ws (ws2 := [(h0, .inr (5, [.ref (a2 0), .ref (a4 0), .null, .null, .null, .null, .int 0])), (a2 0, .inr (0, [.int 0, .int 10, .ref (a2 1), .ref (a2 2), .ref (a2 3), .ref (a2 4), .ref (a2 5)])), (a2 1, .inl (cI, 9, .inl (fun _ => 0))), (a2 2, .inl (cI, 9, .inl (fun _ => 0))), (a2 3, .inl (cI, 9, .inl (fun _ => 0))), (a2 4, .inl (cI, 9, .inl (fun _ => 0))), (a2 5, .inl (cI, 36, .inl (fun _ => 0))), (a4 0, .inr (2, [.int 0, .ref (a4 1)])), (a4 1, .inl (cI, 9, .inl (fun _ => 0)))] ++ [(q5, .inr (1, [.int 0, .int 0, .int 0, .int 0, .int 0, .null, .null, .null, .null, .null, .null, .null]))]) rfl ?_
  refine g_initN (index := 25) (host := RX5) C hA (i_X1 l D cI) (hK.sub [0] rfl) (fun _ _ => trivial) (fun _ _ _ _ _ => trivial) ggX5_init_X1_init rfl (by decide +kernel) (by decide +kernel) hPP.2.2.2.1 (by decide +kernel) rfl rfl rfl ⟨(by exact Nat.le_of_ble_eq_true rfl), (by exact Nat.le_of_ble_eq_true rfl)⟩ (by exact Nat.le_of_ble_eq_true rfl) (by exact Nat.le_of_ble_eq_true rfl) (by exact Nat.le_of_ble_eq_true rfl) dX5_init_31 (pc2 := 34) rfl (fun a6 ea6 => ?_)
  subst ea6
  refine g_ws (ws2 := [(h0, .inr (5, [.ref (a2 0), .ref (a4 0), .null, .null, .null, .null, .int 0])), (a2 0, .inr (0, [.int 0, .int 10, .ref (a2 1), .ref (a2 2), .ref (a2 3), .ref (a2 4), .ref (a2 5)])), (a2 1, .inl (cI, 9, .inl (fun _ => 0))), (a2 2, .inl (cI, 9, .inl (fun _ => 0))), (a2 3, .inl (cI, 9, .inl (fun _ => 0))), (a2 4, .inl (cI, 9, .inl (fun _ => 0))), (a2 5, .inl (cI, 36, .inl (fun _ => 0))), (a4 0, .inr (2, [.int 0, .ref (a4 1)])), (a4 1, .inl (cI, 9, .inl (fun _ => 0))), (a6 0, .inr (1, [.int 0, .int 0, .int 0, .int 0, .int 0, .ref (a6 1), .ref (a6 2), .ref (a6 3), .ref (a6 4), .ref (a6 5), .ref (a6 6), .ref (a6 7)])), (a6 1, .inl (cI, 9, .inl (fun _ => 0))), (a6 2, .inl (cI, 9, .inl (fun _ => 0))), (a6 3, .inl (cI, 9, .inl (fun _ => 0))), (a6 4, .inl (cI, 9, .inl (fun _ => 0))), (a6 5, .inl (cI, 9, .inl (fun _ => 0))), (a6 6, .inl (cI, 9, .inl (fun _ => 0))), (a6 7, .inl (cI, 9, .inl (fun _ => 0)))]) rfl ?_
  refine g_cnt (K2 := 16) (N2 := 165) (by exact Nat.le_of_ble_eq_true rfl) (by exact Nat.le_of_ble_eq_true rfl) ?_
  refine g_putF C hiX5 tyX5 tyX5_ok nmX5 0 rfl rfl 2 (by decide) f26 rfl hin rfl rfl rfl (by exact Nat.le_of_ble_eq_true rfl) (ws2 := [(h0, .inr (5, [.ref (a2 0), .ref (a4 0), .ref (a6 0), .null, .null, .null, .int 0])), (a2 0, .inr (0, [.int 0, .int 10, .ref (a2 1), .ref (a2 2), .ref (a2 3), .ref (a2 4), .ref (a2 5)])), (a2 1, .inl (cI, 9, .inl (fun _ => 0))), (a2 2, .inl (cI, 9, .inl (fun _ => 0))), (a2 3, .inl (cI, 9, .inl (fun _ => 0))), (a2 4, .inl (cI, 9, .inl (fun _ => 0))), (a2 5, .inl (cI, 36, .inl (fun _ => 0))), (a4 0, .inr (2, [.int 0, .ref (a4 1)])), (a4 1, .inl (cI, 9, .inl (fun _ => 0))), (a6 0, .inr (1, [.int 0, .int 0, .int 0, .int 0, .int 0, .ref (a6 1), .ref (a6 2), .ref (a6 3), .ref (a6 4), .ref (a6 5), .ref (a6 6), .ref (a6 7)])), (a6 1, .inl (cI, 9, .inl (fun _ => 0))), (a6 2, .inl (cI, 9, .inl (fun _ => 0))), (a6 3, .inl (cI, 9, .inl (fun _ => 0))), (a6 4, .inl (cI, 9, .inl (fun _ => 0))), (a6 5, .inl (cI, 9, .inl (fun _ => 0))), (a6 6, .inl (cI, 9, .inl (fun _ => 0))), (a6 7, .inl (cI, 9, .inl (fun _ => 0)))]) rfl dX5_init_34 (pc2 := 37) rfl ?_
  refine g_aload_n C dX5_init_37 0 rfl (pc2 := 38) rfl ?_
  refine g_new (index := 30) (ci := 3) (fs := [.null, .null, .null, .null, .null, .null]) C hA hiX3 tyX3 tyX3_ok (by decide +kernel) (by decide +kernel) (by decide +kernel) rfl (fun j hj => vpd_X3 j hj) (by exact Nat.le_of_ble_eq_true rfl) (by exact Nat.le_of_ble_eq_true rfl) dX5_init_38 (pc2 := 41) rfl (fun q7 => ?_)
  refine g_cnt (K2 := 17) (N2 := 171) (by exact Nat.le_of_ble_eq_true rfl) (by exact Nat.le_of_ble_eq_true rfl) ?_
  refine g_dup C dX5_init_41 rfl (pc2 := 42) rfl ?_
  refine g_ws (ws2 := [(h0, .inr (5, [.ref (a2 0), .ref (a4 0), .ref (a6 0), .null, .null, .null, .int 0])), (a2 0, .inr (0, [.int 0, .int 10, .ref (a2 1), .ref (a2 2), .ref (a2 3), .ref (a2 4), .ref (a2 5)])), (a2 1, .inl (cI, 9, .inl (fun _ => 0))), (a2 2, .inl (cI, 9, .inl (fun _ => 0))), (a2 3, .inl (cI, 9, .inl (fun _ => 0))), (a2 4, .inl (cI, 9, .inl (fun _ => 0))), (a2 5, .inl (cI, 36, .inl (fun _ => 0))), (a4 0, .inr (2, [.int 0, .ref (a4 1)])), (a4 1, .inl (cI, 9, .inl (fun _ => 0))), (a6 0, .inr (1, [.int 0, .int 0, .int 0, .int 0, .int 0, .ref (a6 1), .ref (a6 2), .ref (a6 3), .ref (a6 4), .ref (a6 5), .ref (a6 6), .ref (a6 7)])), (a6 1, .inl (cI, 9, .inl (fun _ => 0))), (a6 2, .inl (cI, 9, .inl (fun _ => 0))), (a6 3, .inl (cI, 9, .inl (fun _ => 0))), (a6 4, .inl (cI, 9, .inl (fun _ => 0))), (a6 5, .inl (cI, 9, .inl (fun _ => 0))), (a6 6, .inl (cI, 9, .inl (fun _ => 0))), (a6 7, .inl (cI, 9, .inl (fun _ => 0)))] ++ [(q7, .inr (3, [.null, .null, .null, .null, .null, .null]))]) rfl ?_
  refine g_initN (index := 32) (host := RX5) C hA (i_X3 l D cI) (hK.sub [0] rfl) (fun U hW => va_Nw.warmM hW hPP.2.2.2.2.2.2) (fun U g mk a h => va_Nw.same rfl (show U.vm = (U.calling g mk a).vm from rfl) h) ggX5_init_X3_init rfl (by decide +kernel) (by decide +kernel) hPP.2.2.2.2.1 (by decide +kernel) rfl rfl rfl ⟨(by exact Nat.le_of_ble_eq_true rfl), (by exact Nat.le_of_ble_eq_true rfl)⟩ (by exact Nat.le_of_ble_eq_true rfl) (by exact Nat.le_of_ble_eq_true rfl) (by exact Nat.le_of_ble_eq_true rfl) dX5_init_42 (pc2 := 45) rfl (fun a8 ea8 => ?_)
  subst ea8
  refine g_ws (ws2 := [(h0, .inr (5, [.ref (a2 0), .ref (a4 0), .ref (a6 0), .null, .null, .null, .int 0])), (a2 0, .inr (0, [.int 0, .int 10, .ref (a2 1), .ref (a2 2), .ref (a2 3), .ref (a2 4), .ref (a2 5)])), (a2 1, .inl (cI, 9, .inl (fun _ => 0))), (a2 2, .inl (cI, 9, .inl (fun _ => 0))), (a2 3, .inl (cI, 9, .inl (fun _ => 0))), (a2 4, .inl (cI, 9, .inl (fun _ => 0))), (a2 5, .inl (cI, 36, .inl (fun _ => 0))), (a4 0, .inr (2, [.int 0, .ref (a4 1)])), (a4 1, .inl (cI, 9, .inl (fun _ => 0))), (a6 0, .inr (1, [.int 0, .int 0, .int 0, .int 0, .int 0, .ref (a6 1), .ref (a6 2), .ref (a6 3), .ref (a6 4), .ref (a6 5), .ref (a6 6), .ref (a6 7)])), (a6 1, .inl (cI, 9, .inl (fun _ => 0))), (a6 2, .inl (cI, 9, .inl (fun _ => 0))), (a6 3, .inl (cI, 9, .inl (fun _ => 0))), (a6 4, .inl (cI, 9, .inl (fun _ => 0))), (a6 5, .inl (cI, 9, .inl (fun _ => 0))), (a6 6, .inl (cI, 9, .inl (fun _ => 0))), (a6 7, .inl (cI, 9, .inl (fun _ => 0))), (a8 0, .inr (3, [.ref (a8 1), .ref (a8 9), .ref (a8 10), .ref (a8 11), .ref (a8 12), .ref (a8 13)])), (a8 1, .inr (1, [.int 0, .int 0, .int 0, .int 0, .int 0, .ref (a8 2), .ref (a8 3), .ref (a8 4), .ref (a8 5), .ref (a8 6), .ref (a8 7), .ref (a8 8)])), (a8 2, .inl (cI, 9, .inl (fun _ => 0))), (a8 3, .inl (cI, 9, .inl (fun _ => 0))), (a8 4, .inl (cI, 9, .inl (fun _ => 0))), (a8 5, .inl (cI, 9, .inl (fun _ => 0))), (a8 6, .inl (cI, 9, .inl (fun _ => 0))), (a8 7, .inl (cI, 9, .inl (fun _ => 0))), (a8 8, .inl (cI, 9, .inl (fun _ => 0))), (a8 9, .inl (cI, 20, .inl (fun _ => 0))), (a8 10, .inl (cI, 20, .inl (fun _ => 0))), (a8 11, .inl (cI, 20, .inl (fun _ => 0))), (a8 12, .inl (cI, 20, .inl (fun _ => 0))), (a8 13, .inl (cI, 20, .inl (fun _ => 0)))]) rfl ?_
  refine g_cnt (K2 := 30) (N2 := 346) (by exact Nat.le_of_ble_eq_true rfl) (by exact Nat.le_of_ble_eq_true rfl) ?_
  refine g_putF C hiX5 tyX5 tyX5_ok nmX5 0 rfl rfl 3 (by decide) f33 rfl hin rfl rfl rfl (by exact Nat.le_of_ble_eq_true rfl) (ws2 := [(h0, .inr (5, [.ref (a2 0), .ref (a4 0), .ref (a6 0), .ref (a8 0), .null, .null, .int 0])), (a2 0, .inr (0, [.int 0, .int 10, .ref (a2 1), .ref (a2 2), .ref (a2 3), .ref (a2 4), .ref (a2 5)])), (a2 1, .inl (cI, 9, .inl (fun _ => 0))), (a2 2, .inl (cI, 9, .inl (fun _ => 0))), (a2 3, .inl (cI, 9, .inl (fun _ => 0))), (a2 4, .inl (cI, 9, .inl (fun _ => 0))), (a2 5, .inl (cI, 36, .inl (fun _ => 0))), (a4 0, .inr (2, [.int 0, .ref (a4 1)])), (a4 1, .inl (cI, 9, .inl (fun _ => 0))), (a6 0, .inr (1, [.int 0, .int 0, .int 0, .int 0, .int 0, .ref (a6 1), .ref (a6 2), .ref (a6 3), .ref (a6 4), .ref (a6 5), .ref (a6 6), .ref (a6 7)])), (a6 1, .inl (cI, 9, .inl (fun _ => 0))), (a6 2, .inl (cI, 9, .inl (fun _ => 0))), (a6 3, .inl (cI, 9, .inl (fun _ => 0))), (a6 4, .inl (cI, 9, .inl (fun _ => 0))), (a6 5, .inl (cI, 9, .inl (fun _ => 0))), (a6 6, .inl (cI, 9, .inl (fun _ => 0))), (a6 7, .inl (cI, 9, .inl (fun _ => 0))), (a8 0, .inr (3, [.ref (a8 1), .ref (a8 9), .ref (a8 10), .ref (a8 11), .ref (a8 12), .ref (a8 13)])), (a8 1, .inr (1, [.int 0, .int 0, .int 0, .int 0, .int 0, .ref (a8 2), .ref (a8 3), .ref (a8 4), .ref (a8 5), .ref (a8 6), .ref (a8 7), .ref (a8 8)])), (a8 2, .inl (cI, 9, .inl (fun _ => 0))), (a8 3, .inl (cI, 9, .inl (fun _ => 0))), (a8 4, .inl (cI, 9, .inl (fun _ => 0))), (a8 5, .inl (cI, 9, .inl (fun _ => 0))), (a8 6, .inl (cI, 9, .inl (fun _ => 0))), (a8 7, .inl (cI, 9, .inl (fun _ => 0))), (a8 8, .inl (cI, 9, .inl (fun _ => 0))), (a8 9, .inl (cI, 20, .inl (fun _ => 0))), (a8 10, .inl (cI, 20, .inl (fun _ => 0))), (a8 11, .inl (cI, 20, .inl (fun _ => 0))), (a8 12, .inl (cI, 20, .inl (fun _ => 0))), (a8 13, .inl (cI, 20, .inl (fun _ => 0)))]) rfl dX5_init_45 (pc2 := 48) rfl ?_
  refine g_aload_n C dX5_init_48 0 rfl (pc2 := 49) rfl ?_
  refine g_new (index := 37) (ci := 4) (fs := [.null, .null, .int 0, .int 0, .int 0]) C hA hiX4 tyX4 tyX4_ok (by decide +kernel) (by decide +kernel) (by decide +kernel) rfl (fun j hj => vpd_X4 j hj) (by exact Nat.le_of_ble_eq_true rfl) (by exact Nat.le_of_ble_eq_true rfl) dX5_init_49 (pc2 := 52) rfl (fun q9 => ?_)
  refine g_cnt (K2 := 31) (N2 := 351) (by exact Nat.le_of_ble_eq_true rfl) (by exact Nat.le_of_ble_eq_true rfl) ?_
  refine g_dup C dX5_init_52 rfl (pc2 := 53) rfl ?_
  refine g_ws (ws2 := [(h0, .inr (5, [.ref (a2 0), .ref (a4 0), .ref (a6 0), .ref (a8 0), .null, .null, .int 0])), (a2 0, .inr (0, [.int 0, .int 10, .ref (a2 1), .ref (a2 2), .ref (a2 3), .ref (a2 4), .ref (a2 5)])), (a2 1, .inl (cI, 9, .inl (fun _ => 0))), (a2 2, .inl (cI, 9, .inl (fun _ => 0))), (a2 3, .inl (cI, 9, .inl (fun _ => 0))), (a2 4, .inl (cI, 9, .inl (fun _ => 0))), (a2 5, .inl (cI, 36, .inl (fun _ => 0))), (a4 0, .inr (2, [.int 0, .ref (a4 1)])), (a4 1, .inl (cI, 9, .inl (fun _ => 0))), (a6 0, .inr (1, [.int 0, .int 0, .int 0, .int 0, .int 0, .ref (a6 1), .ref (a6 2), .ref (a6 3), .ref (a6 4), .ref (a6 5), .ref (a6 6), .ref (a6 7)])), (a6 1, .inl (cI, 9, .inl (fun _ => 0))), (a6 2, .inl (cI, 9, .inl (fun _ => 0))), (a6 3, .inl (cI, 9, .inl (fun _ => 0))), (a6 4, .inl (cI, 9, .inl (fun _ => 0))), (a6 5, .inl (cI, 9, .inl (fun _ => 0))), (a6 6, .inl (cI, 9, .inl (fun _ => 0))), (a6 7, .inl (cI, 9, .inl (fun _ => 0))), (a8 0, .inr (3, [.ref (a8 1), .ref (a8 9), .ref (a8 10), .ref (a8 11), .ref (a8 12), .ref (a8 13)])), (a8 1, .inr (1, [.int 0, .int 0, .int 0, .int 0, .int 0, .ref (a8 2), .ref (a8 3), .ref (a8 4), .ref (a8 5), .ref (a8 6), .ref (a8 7), .ref (a8 8)])), (a8 2, .inl (cI, 9, .inl (fun _ => 0))), (a8 3, .inl (cI, 9, .inl (fun _ => 0))), (a8 4, .inl (cI, 9, .inl (fun _ => 0))), (a8 5, .inl (cI, 9, .inl (fun _ => 0))), (a8 6, .inl (cI, 9, .inl (fun _ => 0))), (a8 7, .inl (cI, 9, .inl (fun _ => 0))), (a8 8, .inl (cI, 9, .inl (fun _ => 0))), (a8 9, .inl (cI, 20, .inl (fun _ => 0))), (a8 10, .inl (cI, 20, .inl (fun _ => 0))), (a8 11, .inl (cI, 20, .inl (fun _ => 0))), (a8 12, .inl (cI, 20, .inl (fun _ => 0))), (a8 13, .inl (cI, 20, .inl (fun _ => 0)))] ++ [(q9, .inr (4, [.null, .null, .int 0, .int 0, .int 0]))]) rfl ?_
  refine g_initN (index := 39) (host := RX5) C hA (i_X4 l D cI) (hK.sub [0] rfl) (fun _ _ => trivial) (fun _ _ _ _ _ => trivial) ggX5_init_X4_init rfl (by decide +kernel) (by decide +kernel) hPP.2.2.2.2.2.1 (by decide +kernel) rfl rfl rfl ⟨(by exact Nat.le_of_ble_eq_true rfl), (by exact Nat.le_of_ble_eq_true rfl)⟩ (by exact Nat.le_of_ble_eq_true rfl) (by exact Nat.le_of_ble_eq_true rfl) (by exact Nat.le_of_ble_eq_true rfl) dX5_init_53 (pc2 := 56) rfl (fun a10 ea10 => ?_)
  subst ea10
  refine g_ws (ws2 := [(h0, .inr (5, [.ref (a2 0), .ref (a4 0), .ref (a6 0), .ref (a8 0), .null, .null, .int 0])), (a2 0, .inr (0, [.int 0, .int 10, .ref (a2 1), .ref (a2 2), .ref (a2 3), .ref (a2 4), .ref (a2 5)])), (a2 1, .inl (cI, 9, .inl (fun _ => 0))), (a2 2, .inl (cI, 9, .inl (fun _ => 0))), (a2 3, .inl (cI, 9, .inl (fun _ => 0))), (a2 4, .inl (cI, 9, .inl (fun _ => 0))), (a2 5, .inl (cI, 36, .inl (fun _ => 0))), (a4 0, .inr (2, [.int 0, .ref (a4 1)])), (a4 1, .inl (cI, 9, .inl (fun _ => 0))), (a6 0, .inr (1, [.int 0, .int 0, .int 0, .int 0, .int 0, .ref (a6 1), .ref (a6 2), .ref (a6 3), .ref (a6 4), .ref (a6 5), .ref (a6 6), .ref (a6 7)])), (a6 1, .inl (cI, 9, .inl (fun _ => 0))), (a6 2, .inl (cI, 9, .inl (fun _ => 0))), (a6 3, .inl (cI, 9, .inl (fun _ => 0))), (a6 4, .inl (cI, 9, .inl (fun _ => 0))), (a6 5, .inl (cI, 9, .inl (fun _ => 0))), (a6 6, .inl (cI, 9, .inl (fun _ => 0))), (a6 7, .inl (cI, 9, .inl (fun _ => 0))), (a8 0, .inr (3, [.ref (a8 1), .ref (a8 9), .ref (a8 10), .ref (a8 11), .ref (a8 12), .ref (a8 13)])), (a8 1, .inr (1, [.int 0, .int 0, .int 0, .int 0, .int 0, .ref (a8 2), .ref (a8 3), .ref (a8 4), .ref (a8 5), .ref (a8 6), .ref (a8 7), .ref (a8 8)])), (a8 2, .inl (cI, 9, .inl (fun _ => 0))), (a8 3, .inl (cI, 9, .inl (fun _ => 0))), (a8 4, .inl (cI, 9, .inl (fun _ => 0))), (a8 5, .inl (cI, 9, .inl (fun _ => 0))), (a8 6, .inl (cI, 9, .inl (fun _ => 0))), (a8 7, .inl (cI, 9, .inl (fun _ => 0))), (a8 8, .inl (cI, 9, .inl (fun _ => 0))), (a8 9, .inl (cI, 20, .inl (fun _ => 0))), (a8 10, .inl (cI, 20, .inl (fun _ => 0))), (a8 11, .inl (cI, 20, .inl (fun _ => 0))), (a8 12, .inl (cI, 20, .inl (fun _ => 0))), (a8 13, .inl (cI, 20, .inl (fun _ => 0))), (a10 0, .inr (4, [.ref (a10 1), .ref (a10 2), .int 0, .int 0, .int 0])), (a10 1, .inl (cI, 4, .inl (fun _ => 0))), (a10 2, .inl (cI, 4, .inl (fun _ => 0)))]) rfl ?_
  refine g_cnt (K2 := 33) (N2 := 359) (by exact Nat.le_of_ble_eq_true rfl) (by exact Nat.le_of_ble_eq_true rfl) ?_
  refine g_putF C hiX5 tyX5 tyX5_ok nmX5 0 rfl rfl 4 (by decide) f40 rfl hin rfl rfl rfl (by exact Nat.le_of_ble_eq_true rfl) (ws2 := [(h0, .inr (5, [.ref (a2 0), .ref (a4 0), .ref (a6 0), .ref (a8 0), .ref (a10 0), .null, .int 0])), (a2 0, .inr (0, [.int 0, .int 10, .ref (a2 1), .ref (a2 2), .ref (a2 3), .ref (a2 4), .ref (a2 5)])), (a2 1, .inl (cI, 9, .inl (fun _ => 0))), (a2 2, .inl (cI, 9, .inl (fun _ => 0))), (a2 3, .inl (cI, 9, .inl (fun _ => 0))), (a2 4, .inl (cI, 9, .inl (fun _ => 0))), (a2 5, .inl (cI, 36, .inl (fun _ => 0))), (a4 0, .inr (2, [.int 0, .ref (a4 1)])), (a4 1, .inl (cI, 9, .inl (fun _ => 0))), (a6 0, .inr (1, [.int 0, .int 0, .int 0, .int 0, .int 0, .ref (a6 1), .ref (a6 2), .ref (a6 3), .ref (a6 4), .ref (a6 5), .ref (a6 6), .ref (a6 7)])), (a6 1, .inl (cI, 9, .inl (fun _ => 0))), (a6 2, .inl (cI, 9, .inl (fun _ => 0))), (a6 3, .inl (cI, 9, .inl (fun _ => 0))), (a6 4, .inl (cI, 9, .inl (fun _ => 0))), (a6 5, .inl (cI, 9, .inl (fun _ => 0))), (a6 6, .inl (cI, 9, .inl (fun _ => 0))), (a6 7, .inl (cI, 9, .inl (fun _ => 0))), (a8 0, .inr (3, [.ref (a8 1), .ref (a8 9), .ref (a8 10), .ref (a8 11), .ref (a8 12), .ref (a8 13)])), (a8 1, .inr (1, [.int 0, .int 0, .int 0, .int 0, .int 0, .ref (a8 2), .ref (a8 3), .ref (a8 4), .ref (a8 5), .ref (a8 6), .ref (a8 7), .ref (a8 8)])), (a8 2, .inl (cI, 9, .inl (fun _ => 0))), (a8 3, .inl (cI, 9, .inl (fun _ => 0))), (a8 4, .inl (cI, 9, .inl (fun _ => 0))), (a8 5, .inl (cI, 9, .inl (fun _ => 0))), (a8 6, .inl (cI, 9, .inl (fun _ => 0))), (a8 7, .inl (cI, 9, .inl (fun _ => 0))), (a8 8, .inl (cI, 9, .inl (fun _ => 0))), (a8 9, .inl (cI, 20, .inl (fun _ => 0))), (a8 10, .inl (cI, 20, .inl (fun _ => 0))), (a8 11, .inl (cI, 20, .inl (fun _ => 0))), (a8 12, .inl (cI, 20, .inl (fun _ => 0))), (a8 13, .inl (cI, 20, .inl (fun _ => 0))), (a10 0, .inr (4, [.ref (a10 1), .ref (a10 2), .int 0, .int 0, .int 0])), (a10 1, .inl (cI, 4, .inl (fun _ => 0))), (a10 2, .inl (cI, 4, .inl (fun _ => 0)))]) rfl dX5_init_56 (pc2 := 59) rfl ?_
  refine g_aload_n C dX5_init_59 0 rfl (pc2 := 60) rfl ?_
  refine g_iconst (v := (2 : Int32)) C dX5_init_60 (by decide) (pc2 := 61) rfl ?_
  refine g_newQ (index := 7) (C0 := RX0) C hA (by decide +kernel) hPP.1 1 rfl (N1 := 2) (by decide) (by decide) (by exact Nat.le_of_ble_eq_true rfl) (by exact Nat.le_of_ble_eq_true rfl) (by exact Nat.le_of_ble_eq_true rfl) dX5_init_61 (pc2 := 64) rfl (fun q11 => ?_)
  refine g_ws (ws2 := [(h0, .inr (5, [.ref (a2 0), .ref (a4 0), .ref (a6 0), .ref (a8 0), .ref (a10 0), .null, .int 0])), (a2 0, .inr (0, [.int 0, .int 10, .ref (a2 1), .ref (a2 2), .ref (a2 3), .ref (a2 4), .ref (a2 5)])), (a2 1, .inl (cI, 9, .inl (fun _ => 0))), (a2 2, .inl (cI, 9, .inl (fun _ => 0))), (a2 3, .inl (cI, 9, .inl (fun _ => 0))), (a2 4, .inl (cI, 9, .inl (fun _ => 0))), (a2 5, .inl (cI, 36, .inl (fun _ => 0))), (a4 0, .inr (2, [.int 0, .ref (a4 1)])), (a4 1, .inl (cI, 9, .inl (fun _ => 0))), (a6 0, .inr (1, [.int 0, .int 0, .int 0, .int 0, .int 0, .ref (a6 1), .ref (a6 2), .ref (a6 3), .ref (a6 4), .ref (a6 5), .ref (a6 6), .ref (a6 7)])), (a6 1, .inl (cI, 9, .inl (fun _ => 0))), (a6 2, .inl (cI, 9, .inl (fun _ => 0))), (a6 3, .inl (cI, 9, .inl (fun _ => 0))), (a6 4, .inl (cI, 9, .inl (fun _ => 0))), (a6 5, .inl (cI, 9, .inl (fun _ => 0))), (a6 6, .inl (cI, 9, .inl (fun _ => 0))), (a6 7, .inl (cI, 9, .inl (fun _ => 0))), (a8 0, .inr (3, [.ref (a8 1), .ref (a8 9), .ref (a8 10), .ref (a8 11), .ref (a8 12), .ref (a8 13)])), (a8 1, .inr (1, [.int 0, .int 0, .int 0, .int 0, .int 0, .ref (a8 2), .ref (a8 3), .ref (a8 4), .ref (a8 5), .ref (a8 6), .ref (a8 7), .ref (a8 8)])), (a8 2, .inl (cI, 9, .inl (fun _ => 0))), (a8 3, .inl (cI, 9, .inl (fun _ => 0))), (a8 4, .inl (cI, 9, .inl (fun _ => 0))), (a8 5, .inl (cI, 9, .inl (fun _ => 0))), (a8 6, .inl (cI, 9, .inl (fun _ => 0))), (a8 7, .inl (cI, 9, .inl (fun _ => 0))), (a8 8, .inl (cI, 9, .inl (fun _ => 0))), (a8 9, .inl (cI, 20, .inl (fun _ => 0))), (a8 10, .inl (cI, 20, .inl (fun _ => 0))), (a8 11, .inl (cI, 20, .inl (fun _ => 0))), (a8 12, .inl (cI, 20, .inl (fun _ => 0))), (a8 13, .inl (cI, 20, .inl (fun _ => 0))), (a10 0, .inr (4, [.ref (a10 1), .ref (a10 2), .int 0, .int 0, .int 0])), (a10 1, .inl (cI, 4, .inl (fun _ => 0))), (a10 2, .inl (cI, 4, .inl (fun _ => 0))), (q11, kE cB (fun _ => none))]) rfl ?_
  refine g_cnt (K2 := 34) (N2 := 361) (by exact Nat.le_of_ble_eq_true rfl) (by exact Nat.le_of_ble_eq_true rfl) ?_
  refine g_putF C hiX5 tyX5 tyX5_ok nmX5 0 rfl rfl 5 (by decide) f44 rfl hin rfl rfl rfl (by exact Nat.le_of_ble_eq_true rfl) (ws2 := [(h0, .inr (5, [.ref (a2 0), .ref (a4 0), .ref (a6 0), .ref (a8 0), .ref (a10 0), .ref (q11), .int 0])), (a2 0, .inr (0, [.int 0, .int 10, .ref (a2 1), .ref (a2 2), .ref (a2 3), .ref (a2 4), .ref (a2 5)])), (a2 1, .inl (cI, 9, .inl (fun _ => 0))), (a2 2, .inl (cI, 9, .inl (fun _ => 0))), (a2 3, .inl (cI, 9, .inl (fun _ => 0))), (a2 4, .inl (cI, 9, .inl (fun _ => 0))), (a2 5, .inl (cI, 36, .inl (fun _ => 0))), (a4 0, .inr (2, [.int 0, .ref (a4 1)])), (a4 1, .inl (cI, 9, .inl (fun _ => 0))), (a6 0, .inr (1, [.int 0, .int 0, .int 0, .int 0, .int 0, .ref (a6 1), .ref (a6 2), .ref (a6 3), .ref (a6 4), .ref (a6 5), .ref (a6 6), .ref (a6 7)])), (a6 1, .inl (cI, 9, .inl (fun _ => 0))), (a6 2, .inl (cI, 9, .inl (fun _ => 0))), (a6 3, .inl (cI, 9, .inl (fun _ => 0))), (a6 4, .inl (cI, 9, .inl (fun _ => 0))), (a6 5, .inl (cI, 9, .inl (fun _ => 0))), (a6 6, .inl (cI, 9, .inl (fun _ => 0))), (a6 7, .inl (cI, 9, .inl (fun _ => 0))), (a8 0, .inr (3, [.ref (a8 1), .ref (a8 9), .ref (a8 10), .ref (a8 11), .ref (a8 12), .ref (a8 13)])), (a8 1, .inr (1, [.int 0, .int 0, .int 0, .int 0, .int 0, .ref (a8 2), .ref (a8 3), .ref (a8 4), .ref (a8 5), .ref (a8 6), .ref (a8 7), .ref (a8 8)])), (a8 2, .inl (cI, 9, .inl (fun _ => 0))), (a8 3, .inl (cI, 9, .inl (fun _ => 0))), (a8 4, .inl (cI, 9, .inl (fun _ => 0))), (a8 5, .inl (cI, 9, .inl (fun _ => 0))), (a8 6, .inl (cI, 9, .inl (fun _ => 0))), (a8 7, .inl (cI, 9, .inl (fun _ => 0))), (a8 8, .inl (cI, 9, .inl (fun _ => 0))), (a8 9, .inl (cI, 20, .inl (fun _ => 0))), (a8 10, .inl (cI, 20, .inl (fun _ => 0))), (a8 11, .inl (cI, 20, .inl (fun _ => 0))), (a8 12, .inl (cI, 20, .inl (fun _ => 0))), (a8 13, .inl (cI, 20, .inl (fun _ => 0))), (a10 0, .inr (4, [.ref (a10 1), .ref (a10 2), .int 0, .int 0, .int 0])), (a10 1, .inl (cI, 4, .inl (fun _ => 0))), (a10 2, .inl (cI, 4, .inl (fun _ => 0))), (q11, kE cB (fun _ => none))]) rfl dX5_init_64 (pc2 := 67) rfl ?_
  refine g_aload_n C dX5_init_67 0 rfl (pc2 := 68) rfl ?_
  refine g_iconst (v := (0 : Int32)) C dX5_init_68 (by decide) (pc2 := 69) rfl ?_
  refine g_put C hiX5 tyX5 tyX5_ok nmX5 0 rfl rfl 6 (by decide) f48 rfl rfl (by exact Nat.le_of_ble_eq_true rfl) (ws2 := [(h0, .inr (5, [.ref (a2 0), .ref (a4 0), .ref (a6 0), .ref (a8 0), .ref (a10 0), .ref (q11), .int (0 : Int32)])), (a2 0, .inr (0, [.int 0, .int 10, .ref (a2 1), .ref (a2 2), .ref (a2 3), .ref (a2 4), .ref (a2 5)])), (a2 1, .inl (cI, 9, .inl (fun _ => 0))), (a2 2, .inl (cI, 9, .inl (fun _ => 0))), (a2 3, .inl (cI, 9, .inl (fun _ => 0))), (a2 4, .inl (cI, 9, .inl (fun _ => 0))), (a2 5, .inl (cI, 36, .inl (fun _ => 0))), (a4 0, .inr (2, [.int 0, .ref (a4 1)])), (a4 1, .inl (cI, 9, .inl (fun _ => 0))), (a6 0, .inr (1, [.int 0, .int 0, .int 0, .int 0, .int 0, .ref (a6 1), .ref (a6 2), .ref (a6 3), .ref (a6 4), .ref (a6 5), .ref (a6 6), .ref (a6 7)])), (a6 1, .inl (cI, 9, .inl (fun _ => 0))), (a6 2, .inl (cI, 9, .inl (fun _ => 0))), (a6 3, .inl (cI, 9, .inl (fun _ => 0))), (a6 4, .inl (cI, 9, .inl (fun _ => 0))), (a6 5, .inl (cI, 9, .inl (fun _ => 0))), (a6 6, .inl (cI, 9, .inl (fun _ => 0))), (a6 7, .inl (cI, 9, .inl (fun _ => 0))), (a8 0, .inr (3, [.ref (a8 1), .ref (a8 9), .ref (a8 10), .ref (a8 11), .ref (a8 12), .ref (a8 13)])), (a8 1, .inr (1, [.int 0, .int 0, .int 0, .int 0, .int 0, .ref (a8 2), .ref (a8 3), .ref (a8 4), .ref (a8 5), .ref (a8 6), .ref (a8 7), .ref (a8 8)])), (a8 2, .inl (cI, 9, .inl (fun _ => 0))), (a8 3, .inl (cI, 9, .inl (fun _ => 0))), (a8 4, .inl (cI, 9, .inl (fun _ => 0))), (a8 5, .inl (cI, 9, .inl (fun _ => 0))), (a8 6, .inl (cI, 9, .inl (fun _ => 0))), (a8 7, .inl (cI, 9, .inl (fun _ => 0))), (a8 8, .inl (cI, 9, .inl (fun _ => 0))), (a8 9, .inl (cI, 20, .inl (fun _ => 0))), (a8 10, .inl (cI, 20, .inl (fun _ => 0))), (a8 11, .inl (cI, 20, .inl (fun _ => 0))), (a8 12, .inl (cI, 20, .inl (fun _ => 0))), (a8 13, .inl (cI, 20, .inl (fun _ => 0))), (a10 0, .inr (4, [.ref (a10 1), .ref (a10 2), .int 0, .int 0, .int 0])), (a10 1, .inl (cI, 4, .inl (fun _ => 0))), (a10 2, .inl (cI, 4, .inl (fun _ => 0))), (q11, kE cB (fun _ => none))]) rfl dX5_init_69 (pc2 := 72) rfl ?_
  refine g_iconst (v := (0 : Int32)) C dX5_init_72 (by decide) (pc2 := 73) rfl ?_
  refine g_istore_n C dX5_init_73 (by decide) (lv2 := [(1, .int (0 : Int32)), (0, .ref (h0))]) rfl (pc2 := 74) rfl ?_
  refine g_iload_n C dX5_init_74 0 rfl (pc2 := 75) rfl ?_
  refine g_iconst (v := (2 : Int32)) C dX5_init_75 (by decide) (pc2 := 76) rfl ?_
  refine g_icmp_ge C dX5_init_76 (tgt := 98) (by decide) (pc2 := 79) rfl (fun q => absurd q (by decide)) (fun _ => ?_)
  refine g_aload_n C dX5_init_79 1 rfl (pc2 := 80) rfl ?_
  refine g_get C hiX5 0 rfl rfl 5 (by decide) f44 (v := .ref (q11)) rfl dX5_init_80 (pc2 := 83) rfl ?_
  refine g_iload_n C dX5_init_83 0 rfl (pc2 := 84) rfl ?_
  refine g_new (index := 7) (ci := 0) (fs := [.int 0, .int 0, .null, .null, .null, .null, .null]) C hA hiX0 tyX0 tyX0_ok (by decide +kernel) (by decide +kernel) (by decide +kernel) rfl (fun j hj => vpd_X0 j hj) (by exact Nat.le_of_ble_eq_true rfl) (by exact Nat.le_of_ble_eq_true rfl) dX5_init_84 (pc2 := 87) rfl (fun q12 => ?_)
  refine g_cnt (K2 := 35) (N2 := 368) (by exact Nat.le_of_ble_eq_true rfl) (by exact Nat.le_of_ble_eq_true rfl) ?_
  refine g_dup C dX5_init_87 rfl (pc2 := 88) rfl ?_
  refine g_ws (ws2 := [(h0, .inr (5, [.ref (a2 0), .ref (a4 0), .ref (a6 0), .ref (a8 0), .ref (a10 0), .ref (q11), .int (0 : Int32)])), (a2 0, .inr (0, [.int 0, .int 10, .ref (a2 1), .ref (a2 2), .ref (a2 3), .ref (a2 4), .ref (a2 5)])), (a2 1, .inl (cI, 9, .inl (fun _ => 0))), (a2 2, .inl (cI, 9, .inl (fun _ => 0))), (a2 3, .inl (cI, 9, .inl (fun _ => 0))), (a2 4, .inl (cI, 9, .inl (fun _ => 0))), (a2 5, .inl (cI, 36, .inl (fun _ => 0))), (a4 0, .inr (2, [.int 0, .ref (a4 1)])), (a4 1, .inl (cI, 9, .inl (fun _ => 0))), (a6 0, .inr (1, [.int 0, .int 0, .int 0, .int 0, .int 0, .ref (a6 1), .ref (a6 2), .ref (a6 3), .ref (a6 4), .ref (a6 5), .ref (a6 6), .ref (a6 7)])), (a6 1, .inl (cI, 9, .inl (fun _ => 0))), (a6 2, .inl (cI, 9, .inl (fun _ => 0))), (a6 3, .inl (cI, 9, .inl (fun _ => 0))), (a6 4, .inl (cI, 9, .inl (fun _ => 0))), (a6 5, .inl (cI, 9, .inl (fun _ => 0))), (a6 6, .inl (cI, 9, .inl (fun _ => 0))), (a6 7, .inl (cI, 9, .inl (fun _ => 0))), (a8 0, .inr (3, [.ref (a8 1), .ref (a8 9), .ref (a8 10), .ref (a8 11), .ref (a8 12), .ref (a8 13)])), (a8 1, .inr (1, [.int 0, .int 0, .int 0, .int 0, .int 0, .ref (a8 2), .ref (a8 3), .ref (a8 4), .ref (a8 5), .ref (a8 6), .ref (a8 7), .ref (a8 8)])), (a8 2, .inl (cI, 9, .inl (fun _ => 0))), (a8 3, .inl (cI, 9, .inl (fun _ => 0))), (a8 4, .inl (cI, 9, .inl (fun _ => 0))), (a8 5, .inl (cI, 9, .inl (fun _ => 0))), (a8 6, .inl (cI, 9, .inl (fun _ => 0))), (a8 7, .inl (cI, 9, .inl (fun _ => 0))), (a8 8, .inl (cI, 9, .inl (fun _ => 0))), (a8 9, .inl (cI, 20, .inl (fun _ => 0))), (a8 10, .inl (cI, 20, .inl (fun _ => 0))), (a8 11, .inl (cI, 20, .inl (fun _ => 0))), (a8 12, .inl (cI, 20, .inl (fun _ => 0))), (a8 13, .inl (cI, 20, .inl (fun _ => 0))), (a10 0, .inr (4, [.ref (a10 1), .ref (a10 2), .int 0, .int 0, .int 0])), (a10 1, .inl (cI, 4, .inl (fun _ => 0))), (a10 2, .inl (cI, 4, .inl (fun _ => 0))), (q11, kE cB (fun _ => none))] ++ [(q12, .inr (0, [.int 0, .int 0, .null, .null, .null, .null, .null]))]) rfl ?_
  refine g_initN (index := 9) (host := RX5) C hA (i_X0 l D cI) (hK.sub [0] rfl) (fun _ _ => trivial) (fun _ _ _ _ _ => trivial) ggX5_init_X0_init rfl (by decide +kernel) (by decide +kernel) hPP.2.1 (by decide +kernel) rfl rfl rfl ⟨(by exact Nat.le_of_ble_eq_true rfl), (by exact Nat.le_of_ble_eq_true rfl)⟩ (by exact Nat.le_of_ble_eq_true rfl) (by exact Nat.le_of_ble_eq_true rfl) (by exact Nat.le_of_ble_eq_true rfl) dX5_init_88 (pc2 := 91) rfl (fun a13 ea13 => ?_)
  subst ea13
  refine g_ws (ws2 := [(h0, .inr (5, [.ref (a2 0), .ref (a4 0), .ref (a6 0), .ref (a8 0), .ref (a10 0), .ref (q11), .int (0 : Int32)])), (a2 0, .inr (0, [.int 0, .int 10, .ref (a2 1), .ref (a2 2), .ref (a2 3), .ref (a2 4), .ref (a2 5)])), (a2 1, .inl (cI, 9, .inl (fun _ => 0))), (a2 2, .inl (cI, 9, .inl (fun _ => 0))), (a2 3, .inl (cI, 9, .inl (fun _ => 0))), (a2 4, .inl (cI, 9, .inl (fun _ => 0))), (a2 5, .inl (cI, 36, .inl (fun _ => 0))), (a4 0, .inr (2, [.int 0, .ref (a4 1)])), (a4 1, .inl (cI, 9, .inl (fun _ => 0))), (a6 0, .inr (1, [.int 0, .int 0, .int 0, .int 0, .int 0, .ref (a6 1), .ref (a6 2), .ref (a6 3), .ref (a6 4), .ref (a6 5), .ref (a6 6), .ref (a6 7)])), (a6 1, .inl (cI, 9, .inl (fun _ => 0))), (a6 2, .inl (cI, 9, .inl (fun _ => 0))), (a6 3, .inl (cI, 9, .inl (fun _ => 0))), (a6 4, .inl (cI, 9, .inl (fun _ => 0))), (a6 5, .inl (cI, 9, .inl (fun _ => 0))), (a6 6, .inl (cI, 9, .inl (fun _ => 0))), (a6 7, .inl (cI, 9, .inl (fun _ => 0))), (a8 0, .inr (3, [.ref (a8 1), .ref (a8 9), .ref (a8 10), .ref (a8 11), .ref (a8 12), .ref (a8 13)])), (a8 1, .inr (1, [.int 0, .int 0, .int 0, .int 0, .int 0, .ref (a8 2), .ref (a8 3), .ref (a8 4), .ref (a8 5), .ref (a8 6), .ref (a8 7), .ref (a8 8)])), (a8 2, .inl (cI, 9, .inl (fun _ => 0))), (a8 3, .inl (cI, 9, .inl (fun _ => 0))), (a8 4, .inl (cI, 9, .inl (fun _ => 0))), (a8 5, .inl (cI, 9, .inl (fun _ => 0))), (a8 6, .inl (cI, 9, .inl (fun _ => 0))), (a8 7, .inl (cI, 9, .inl (fun _ => 0))), (a8 8, .inl (cI, 9, .inl (fun _ => 0))), (a8 9, .inl (cI, 20, .inl (fun _ => 0))), (a8 10, .inl (cI, 20, .inl (fun _ => 0))), (a8 11, .inl (cI, 20, .inl (fun _ => 0))), (a8 12, .inl (cI, 20, .inl (fun _ => 0))), (a8 13, .inl (cI, 20, .inl (fun _ => 0))), (a10 0, .inr (4, [.ref (a10 1), .ref (a10 2), .int 0, .int 0, .int 0])), (a10 1, .inl (cI, 4, .inl (fun _ => 0))), (a10 2, .inl (cI, 4, .inl (fun _ => 0))), (q11, kE cB (fun _ => none)), (a13 0, .inr (0, [.int 0, .int 10, .ref (a13 1), .ref (a13 2), .ref (a13 3), .ref (a13 4), .ref (a13 5)])), (a13 1, .inl (cI, 9, .inl (fun _ => 0))), (a13 2, .inl (cI, 9, .inl (fun _ => 0))), (a13 3, .inl (cI, 9, .inl (fun _ => 0))), (a13 4, .inl (cI, 9, .inl (fun _ => 0))), (a13 5, .inl (cI, 36, .inl (fun _ => 0)))]) rfl ?_
  refine g_cnt (K2 := 40) (N2 := 440) (by exact Nat.le_of_ble_eq_true rfl) (by exact Nat.le_of_ble_eq_true rfl) ?_
  refine g_astq C 34 1 35 0 rfl rfl rfl rfl (by unfold vp_in; decide) (ws2 := [(h0, .inr (5, [.ref (a2 0), .ref (a4 0), .ref (a6 0), .ref (a8 0), .ref (a10 0), .ref (q11), .int (0 : Int32)])), (a2 0, .inr (0, [.int 0, .int 10, .ref (a2 1), .ref (a2 2), .ref (a2 3), .ref (a2 4), .ref (a2 5)])), (a2 1, .inl (cI, 9, .inl (fun _ => 0))), (a2 2, .inl (cI, 9, .inl (fun _ => 0))), (a2 3, .inl (cI, 9, .inl (fun _ => 0))), (a2 4, .inl (cI, 9, .inl (fun _ => 0))), (a2 5, .inl (cI, 36, .inl (fun _ => 0))), (a4 0, .inr (2, [.int 0, .ref (a4 1)])), (a4 1, .inl (cI, 9, .inl (fun _ => 0))), (a6 0, .inr (1, [.int 0, .int 0, .int 0, .int 0, .int 0, .ref (a6 1), .ref (a6 2), .ref (a6 3), .ref (a6 4), .ref (a6 5), .ref (a6 6), .ref (a6 7)])), (a6 1, .inl (cI, 9, .inl (fun _ => 0))), (a6 2, .inl (cI, 9, .inl (fun _ => 0))), (a6 3, .inl (cI, 9, .inl (fun _ => 0))), (a6 4, .inl (cI, 9, .inl (fun _ => 0))), (a6 5, .inl (cI, 9, .inl (fun _ => 0))), (a6 6, .inl (cI, 9, .inl (fun _ => 0))), (a6 7, .inl (cI, 9, .inl (fun _ => 0))), (a8 0, .inr (3, [.ref (a8 1), .ref (a8 9), .ref (a8 10), .ref (a8 11), .ref (a8 12), .ref (a8 13)])), (a8 1, .inr (1, [.int 0, .int 0, .int 0, .int 0, .int 0, .ref (a8 2), .ref (a8 3), .ref (a8 4), .ref (a8 5), .ref (a8 6), .ref (a8 7), .ref (a8 8)])), (a8 2, .inl (cI, 9, .inl (fun _ => 0))), (a8 3, .inl (cI, 9, .inl (fun _ => 0))), (a8 4, .inl (cI, 9, .inl (fun _ => 0))), (a8 5, .inl (cI, 9, .inl (fun _ => 0))), (a8 6, .inl (cI, 9, .inl (fun _ => 0))), (a8 7, .inl (cI, 9, .inl (fun _ => 0))), (a8 8, .inl (cI, 9, .inl (fun _ => 0))), (a8 9, .inl (cI, 20, .inl (fun _ => 0))), (a8 10, .inl (cI, 20, .inl (fun _ => 0))), (a8 11, .inl (cI, 20, .inl (fun _ => 0))), (a8 12, .inl (cI, 20, .inl (fun _ => 0))), (a8 13, .inl (cI, 20, .inl (fun _ => 0))), (a10 0, .inr (4, [.ref (a10 1), .ref (a10 2), .int 0, .int 0, .int 0])), (a10 1, .inl (cI, 4, .inl (fun _ => 0))), (a10 2, .inl (cI, 4, .inl (fun _ => 0))), (q11, kE cB (va_up (fun _ => none) 0 (some (a13 0)))), (a13 0, .inr (0, [.int 0, .int 10, .ref (a13 1), .ref (a13 2), .ref (a13 3), .ref (a13 4), .ref (a13 5)])), (a13 1, .inl (cI, 9, .inl (fun _ => 0))), (a13 2, .inl (cI, 9, .inl (fun _ => 0))), (a13 3, .inl (cI, 9, .inl (fun _ => 0))), (a13 4, .inl (cI, 9, .inl (fun _ => 0))), (a13 5, .inl (cI, 36, .inl (fun _ => 0)))]) rfl dX5_init_91 (pc2 := 92) rfl ?_
  refine g_iinc C dX5_init_92 0 rfl (1 : Int32) (by decide) (v := (1 : Int32)) (by decide) (by decide) (lv2 := [(1, .int (1 : Int32)), (0, .ref (h0))]) rfl (pc2 := 95) rfl ?_
  refine g_goto C dX5_init_95 (pc2 := 74) (by decide) ?_
  refine g_iload_n C dX5_init_74 0 rfl (pc2 := 75) rfl ?_
  refine g_iconst (v := (2 : Int32)) C dX5_init_75 (by decide) (pc2 := 76) rfl ?_
  refine g_icmp_ge C dX5_init_76 (tgt := 98) (by decide) (pc2 := 79) rfl (fun q => absurd q (by decide)) (fun _ => ?_)
  refine g_aload_n C dX5_init_79 1 rfl (pc2 := 80) rfl ?_
  refine g_get C hiX5 0 rfl rfl 5 (by decide) f44 (v := .ref (q11)) rfl dX5_init_80 (pc2 := 83) rfl ?_
  refine g_iload_n C dX5_init_83 0 rfl (pc2 := 84) rfl ?_
  refine g_new (index := 7) (ci := 0) (fs := [.int 0, .int 0, .null, .null, .null, .null, .null]) C hA hiX0 tyX0 tyX0_ok (by decide +kernel) (by decide +kernel) (by decide +kernel) rfl (fun j hj => vpd_X0 j hj) (by exact Nat.le_of_ble_eq_true rfl) (by exact Nat.le_of_ble_eq_true rfl) dX5_init_84 (pc2 := 87) rfl (fun q14 => ?_)
  refine g_cnt (K2 := 41) (N2 := 447) (by exact Nat.le_of_ble_eq_true rfl) (by exact Nat.le_of_ble_eq_true rfl) ?_
  refine g_dup C dX5_init_87 rfl (pc2 := 88) rfl ?_
  refine g_ws (ws2 := [(h0, .inr (5, [.ref (a2 0), .ref (a4 0), .ref (a6 0), .ref (a8 0), .ref (a10 0), .ref (q11), .int (0 : Int32)])), (a2 0, .inr (0, [.int 0, .int 10, .ref (a2 1), .ref (a2 2), .ref (a2 3), .ref (a2 4), .ref (a2 5)])), (a2 1, .inl (cI, 9, .inl (fun _ => 0))), (a2 2, .inl (cI, 9, .inl (fun _ => 0))), (a2 3, .inl (cI, 9, .inl (fun _ => 0))), (a2 4, .inl (cI, 9, .inl (fun _ => 0))), (a2 5, .inl (cI, 36, .inl (fun _ => 0))), (a4 0, .inr (2, [.int 0, .ref (a4 1)])), (a4 1, .inl (cI, 9, .inl (fun _ => 0))), (a6 0, .inr (1, [.int 0, .int 0, .int 0, .int 0, .int 0, .ref (a6 1), .ref (a6 2), .ref (a6 3), .ref (a6 4), .ref (a6 5), .ref (a6 6), .ref (a6 7)])), (a6 1, .inl (cI, 9, .inl (fun _ => 0))), (a6 2, .inl (cI, 9, .inl (fun _ => 0))), (a6 3, .inl (cI, 9, .inl (fun _ => 0))), (a6 4, .inl (cI, 9, .inl (fun _ => 0))), (a6 5, .inl (cI, 9, .inl (fun _ => 0))), (a6 6, .inl (cI, 9, .inl (fun _ => 0))), (a6 7, .inl (cI, 9, .inl (fun _ => 0))), (a8 0, .inr (3, [.ref (a8 1), .ref (a8 9), .ref (a8 10), .ref (a8 11), .ref (a8 12), .ref (a8 13)])), (a8 1, .inr (1, [.int 0, .int 0, .int 0, .int 0, .int 0, .ref (a8 2), .ref (a8 3), .ref (a8 4), .ref (a8 5), .ref (a8 6), .ref (a8 7), .ref (a8 8)])), (a8 2, .inl (cI, 9, .inl (fun _ => 0))), (a8 3, .inl (cI, 9, .inl (fun _ => 0))), (a8 4, .inl (cI, 9, .inl (fun _ => 0))), (a8 5, .inl (cI, 9, .inl (fun _ => 0))), (a8 6, .inl (cI, 9, .inl (fun _ => 0))), (a8 7, .inl (cI, 9, .inl (fun _ => 0))), (a8 8, .inl (cI, 9, .inl (fun _ => 0))), (a8 9, .inl (cI, 20, .inl (fun _ => 0))), (a8 10, .inl (cI, 20, .inl (fun _ => 0))), (a8 11, .inl (cI, 20, .inl (fun _ => 0))), (a8 12, .inl (cI, 20, .inl (fun _ => 0))), (a8 13, .inl (cI, 20, .inl (fun _ => 0))), (a10 0, .inr (4, [.ref (a10 1), .ref (a10 2), .int 0, .int 0, .int 0])), (a10 1, .inl (cI, 4, .inl (fun _ => 0))), (a10 2, .inl (cI, 4, .inl (fun _ => 0))), (q11, kE cB (va_up (fun _ => none) 0 (some (a13 0)))), (a13 0, .inr (0, [.int 0, .int 10, .ref (a13 1), .ref (a13 2), .ref (a13 3), .ref (a13 4), .ref (a13 5)])), (a13 1, .inl (cI, 9, .inl (fun _ => 0))), (a13 2, .inl (cI, 9, .inl (fun _ => 0))), (a13 3, .inl (cI, 9, .inl (fun _ => 0))), (a13 4, .inl (cI, 9, .inl (fun _ => 0))), (a13 5, .inl (cI, 36, .inl (fun _ => 0)))] ++ [(q14, .inr (0, [.int 0, .int 0, .null, .null, .null, .null, .null]))]) rfl ?_
  refine g_initN (index := 9) (host := RX5) C hA (i_X0 l D cI) (hK.sub [0] rfl) (fun _ _ => trivial) (fun _ _ _ _ _ => trivial) ggX5_init_X0_init rfl (by decide +kernel) (by decide +kernel) hPP.2.1 (by decide +kernel) rfl rfl rfl ⟨(by exact Nat.le_of_ble_eq_true rfl), (by exact Nat.le_of_ble_eq_true rfl)⟩ (by exact Nat.le_of_ble_eq_true rfl) (by exact Nat.le_of_ble_eq_true rfl) (by exact Nat.le_of_ble_eq_true rfl) dX5_init_88 (pc2 := 91) rfl (fun a15 ea15 => ?_)
  subst ea15
  refine g_ws (ws2 := [(h0, .inr (5, [.ref (a2 0), .ref (a4 0), .ref (a6 0), .ref (a8 0), .ref (a10 0), .ref (q11), .int (0 : Int32)])), (a2 0, .inr (0, [.int 0, .int 10, .ref (a2 1), .ref (a2 2), .ref (a2 3), .ref (a2 4), .ref (a2 5)])), (a2 1, .inl (cI, 9, .inl (fun _ => 0))), (a2 2, .inl (cI, 9, .inl (fun _ => 0))), (a2 3, .inl (cI, 9, .inl (fun _ => 0))), (a2 4, .inl (cI, 9, .inl (fun _ => 0))), (a2 5, .inl (cI, 36, .inl (fun _ => 0))), (a4 0, .inr (2, [.int 0, .ref (a4 1)])), (a4 1, .inl (cI, 9, .inl (fun _ => 0))), (a6 0, .inr (1, [.int 0, .int 0, .int 0, .int 0, .int 0, .ref (a6 1), .ref (a6 2), .ref (a6 3), .ref (a6 4), .ref (a6 5), .ref (a6 6), .ref (a6 7)])), (a6 1, .inl (cI, 9, .inl (fun _ => 0))), (a6 2, .inl (cI, 9, .inl (fun _ => 0))), (a6 3, .inl (cI, 9, .inl (fun _ => 0))), (a6 4, .inl (cI, 9, .inl (fun _ => 0))), (a6 5, .inl (cI, 9, .inl (fun _ => 0))), (a6 6, .inl (cI, 9, .inl (fun _ => 0))), (a6 7, .inl (cI, 9, .inl (fun _ => 0))), (a8 0, .inr (3, [.ref (a8 1), .ref (a8 9), .ref (a8 10), .ref (a8 11), .ref (a8 12), .ref (a8 13)])), (a8 1, .inr (1, [.int 0, .int 0, .int 0, .int 0, .int 0, .ref (a8 2), .ref (a8 3), .ref (a8 4), .ref (a8 5), .ref (a8 6), .ref (a8 7), .ref (a8 8)])), (a8 2, .inl (cI, 9, .inl (fun _ => 0))), (a8 3, .inl (cI, 9, .inl (fun _ => 0))), (a8 4, .inl (cI, 9, .inl (fun _ => 0))), (a8 5, .inl (cI, 9, .inl (fun _ => 0))), (a8 6, .inl (cI, 9, .inl (fun _ => 0))), (a8 7, .inl (cI, 9, .inl (fun _ => 0))), (a8 8, .inl (cI, 9, .inl (fun _ => 0))), (a8 9, .inl (cI, 20, .inl (fun _ => 0))), (a8 10, .inl (cI, 20, .inl (fun _ => 0))), (a8 11, .inl (cI, 20, .inl (fun _ => 0))), (a8 12, .inl (cI, 20, .inl (fun _ => 0))), (a8 13, .inl (cI, 20, .inl (fun _ => 0))), (a10 0, .inr (4, [.ref (a10 1), .ref (a10 2), .int 0, .int 0, .int 0])), (a10 1, .inl (cI, 4, .inl (fun _ => 0))), (a10 2, .inl (cI, 4, .inl (fun _ => 0))), (q11, kE cB (va_up (fun _ => none) 0 (some (a13 0)))), (a13 0, .inr (0, [.int 0, .int 10, .ref (a13 1), .ref (a13 2), .ref (a13 3), .ref (a13 4), .ref (a13 5)])), (a13 1, .inl (cI, 9, .inl (fun _ => 0))), (a13 2, .inl (cI, 9, .inl (fun _ => 0))), (a13 3, .inl (cI, 9, .inl (fun _ => 0))), (a13 4, .inl (cI, 9, .inl (fun _ => 0))), (a13 5, .inl (cI, 36, .inl (fun _ => 0))), (a15 0, .inr (0, [.int 0, .int 10, .ref (a15 1), .ref (a15 2), .ref (a15 3), .ref (a15 4), .ref (a15 5)])), (a15 1, .inl (cI, 9, .inl (fun _ => 0))), (a15 2, .inl (cI, 9, .inl (fun _ => 0))), (a15 3, .inl (cI, 9, .inl (fun _ => 0))), (a15 4, .inl (cI, 9, .inl (fun _ => 0))), (a15 5, .inl (cI, 36, .inl (fun _ => 0)))]) rfl ?_
  refine g_cnt (K2 := 46) (N2 := 519) (by exact Nat.le_of_ble_eq_true rfl) (by exact Nat.le_of_ble_eq_true rfl) ?_
  refine g_astq C 34 1 41 0 rfl rfl rfl rfl (by unfold vp_in; decide) (ws2 := [(h0, .inr (5, [.ref (a2 0), .ref (a4 0), .ref (a6 0), .ref (a8 0), .ref (a10 0), .ref (q11), .int (0 : Int32)])), (a2 0, .inr (0, [.int 0, .int 10, .ref (a2 1), .ref (a2 2), .ref (a2 3), .ref (a2 4), .ref (a2 5)])), (a2 1, .inl (cI, 9, .inl (fun _ => 0))), (a2 2, .inl (cI, 9, .inl (fun _ => 0))), (a2 3, .inl (cI, 9, .inl (fun _ => 0))), (a2 4, .inl (cI, 9, .inl (fun _ => 0))), (a2 5, .inl (cI, 36, .inl (fun _ => 0))), (a4 0, .inr (2, [.int 0, .ref (a4 1)])), (a4 1, .inl (cI, 9, .inl (fun _ => 0))), (a6 0, .inr (1, [.int 0, .int 0, .int 0, .int 0, .int 0, .ref (a6 1), .ref (a6 2), .ref (a6 3), .ref (a6 4), .ref (a6 5), .ref (a6 6), .ref (a6 7)])), (a6 1, .inl (cI, 9, .inl (fun _ => 0))), (a6 2, .inl (cI, 9, .inl (fun _ => 0))), (a6 3, .inl (cI, 9, .inl (fun _ => 0))), (a6 4, .inl (cI, 9, .inl (fun _ => 0))), (a6 5, .inl (cI, 9, .inl (fun _ => 0))), (a6 6, .inl (cI, 9, .inl (fun _ => 0))), (a6 7, .inl (cI, 9, .inl (fun _ => 0))), (a8 0, .inr (3, [.ref (a8 1), .ref (a8 9), .ref (a8 10), .ref (a8 11), .ref (a8 12), .ref (a8 13)])), (a8 1, .inr (1, [.int 0, .int 0, .int 0, .int 0, .int 0, .ref (a8 2), .ref (a8 3), .ref (a8 4), .ref (a8 5), .ref (a8 6), .ref (a8 7), .ref (a8 8)])), (a8 2, .inl (cI, 9, .inl (fun _ => 0))), (a8 3, .inl (cI, 9, .inl (fun _ => 0))), (a8 4, .inl (cI, 9, .inl (fun _ => 0))), (a8 5, .inl (cI, 9, .inl (fun _ => 0))), (a8 6, .inl (cI, 9, .inl (fun _ => 0))), (a8 7, .inl (cI, 9, .inl (fun _ => 0))), (a8 8, .inl (cI, 9, .inl (fun _ => 0))), (a8 9, .inl (cI, 20, .inl (fun _ => 0))), (a8 10, .inl (cI, 20, .inl (fun _ => 0))), (a8 11, .inl (cI, 20, .inl (fun _ => 0))), (a8 12, .inl (cI, 20, .inl (fun _ => 0))), (a8 13, .inl (cI, 20, .inl (fun _ => 0))), (a10 0, .inr (4, [.ref (a10 1), .ref (a10 2), .int 0, .int 0, .int 0])), (a10 1, .inl (cI, 4, .inl (fun _ => 0))), (a10 2, .inl (cI, 4, .inl (fun _ => 0))), (q11, kE cB (va_up (va_up (fun _ => none) 0 (some (a13 0))) 1 (some (a15 0)))), (a13 0, .inr (0, [.int 0, .int 10, .ref (a13 1), .ref (a13 2), .ref (a13 3), .ref (a13 4), .ref (a13 5)])), (a13 1, .inl (cI, 9, .inl (fun _ => 0))), (a13 2, .inl (cI, 9, .inl (fun _ => 0))), (a13 3, .inl (cI, 9, .inl (fun _ => 0))), (a13 4, .inl (cI, 9, .inl (fun _ => 0))), (a13 5, .inl (cI, 36, .inl (fun _ => 0))), (a15 0, .inr (0, [.int 0, .int 10, .ref (a15 1), .ref (a15 2), .ref (a15 3), .ref (a15 4), .ref (a15 5)])), (a15 1, .inl (cI, 9, .inl (fun _ => 0))), (a15 2, .inl (cI, 9, .inl (fun _ => 0))), (a15 3, .inl (cI, 9, .inl (fun _ => 0))), (a15 4, .inl (cI, 9, .inl (fun _ => 0))), (a15 5, .inl (cI, 36, .inl (fun _ => 0)))]) rfl dX5_init_91 (pc2 := 92) rfl ?_
  refine g_iinc C dX5_init_92 0 rfl (1 : Int32) (by decide) (v := (2 : Int32)) (by decide) (by decide) (lv2 := [(1, .int (2 : Int32)), (0, .ref (h0))]) rfl (pc2 := 95) rfl ?_
  refine g_goto C dX5_init_95 (pc2 := 74) (by decide) ?_
  refine g_iload_n C dX5_init_74 0 rfl (pc2 := 75) rfl ?_
  refine g_iconst (v := (2 : Int32)) C dX5_init_75 (by decide) (pc2 := 76) rfl ?_
  refine g_icmp_ge C dX5_init_76 (tgt := 98) (by decide) (pc2 := 79) rfl (fun _ => ?_) (fun q => absurd (by decide) q)
  refine g_ws (ws2 := [(h0, .inr (5, [.ref (a2 0), .ref (a4 0), .ref (a6 0), .ref (a8 0), .ref (a10 0), .ref (q11), .int (0 : Int32)])), (a2 0, .inr (0, [.int 0, .int 10, .ref (a2 1), .ref (a2 2), .ref (a2 3), .ref (a2 4), .ref (a2 5)])), (a2 1, .inl (cI, 9, .inl (fun _ => 0))), (a2 2, .inl (cI, 9, .inl (fun _ => 0))), (a2 3, .inl (cI, 9, .inl (fun _ => 0))), (a2 4, .inl (cI, 9, .inl (fun _ => 0))), (a2 5, .inl (cI, 36, .inl (fun _ => 0))), (a4 0, .inr (2, [.int 0, .ref (a4 1)])), (a4 1, .inl (cI, 9, .inl (fun _ => 0))), (a6 0, .inr (1, [.int 0, .int 0, .int 0, .int 0, .int 0, .ref (a6 1), .ref (a6 2), .ref (a6 3), .ref (a6 4), .ref (a6 5), .ref (a6 6), .ref (a6 7)])), (a6 1, .inl (cI, 9, .inl (fun _ => 0))), (a6 2, .inl (cI, 9, .inl (fun _ => 0))), (a6 3, .inl (cI, 9, .inl (fun _ => 0))), (a6 4, .inl (cI, 9, .inl (fun _ => 0))), (a6 5, .inl (cI, 9, .inl (fun _ => 0))), (a6 6, .inl (cI, 9, .inl (fun _ => 0))), (a6 7, .inl (cI, 9, .inl (fun _ => 0))), (a8 0, .inr (3, [.ref (a8 1), .ref (a8 9), .ref (a8 10), .ref (a8 11), .ref (a8 12), .ref (a8 13)])), (a8 1, .inr (1, [.int 0, .int 0, .int 0, .int 0, .int 0, .ref (a8 2), .ref (a8 3), .ref (a8 4), .ref (a8 5), .ref (a8 6), .ref (a8 7), .ref (a8 8)])), (a8 2, .inl (cI, 9, .inl (fun _ => 0))), (a8 3, .inl (cI, 9, .inl (fun _ => 0))), (a8 4, .inl (cI, 9, .inl (fun _ => 0))), (a8 5, .inl (cI, 9, .inl (fun _ => 0))), (a8 6, .inl (cI, 9, .inl (fun _ => 0))), (a8 7, .inl (cI, 9, .inl (fun _ => 0))), (a8 8, .inl (cI, 9, .inl (fun _ => 0))), (a8 9, .inl (cI, 20, .inl (fun _ => 0))), (a8 10, .inl (cI, 20, .inl (fun _ => 0))), (a8 11, .inl (cI, 20, .inl (fun _ => 0))), (a8 12, .inl (cI, 20, .inl (fun _ => 0))), (a8 13, .inl (cI, 20, .inl (fun _ => 0))), (a10 0, .inr (4, [.ref (a10 1), .ref (a10 2), .int 0, .int 0, .int 0])), (a10 1, .inl (cI, 4, .inl (fun _ => 0))), (a10 2, .inl (cI, 4, .inl (fun _ => 0)))] ++ (q11, kE cB (va_up (va_up (fun _ => none) 0 (some (a13 0))) 1 (some (a15 0)))) :: [(a13 0, .inr (0, [.int 0, .int 10, .ref (a13 1), .ref (a13 2), .ref (a13 3), .ref (a13 4), .ref (a13 5)])), (a13 1, .inl (cI, 9, .inl (fun _ => 0))), (a13 2, .inl (cI, 9, .inl (fun _ => 0))), (a13 3, .inl (cI, 9, .inl (fun _ => 0))), (a13 4, .inl (cI, 9, .inl (fun _ => 0))), (a13 5, .inl (cI, 36, .inl (fun _ => 0))), (a15 0, .inr (0, [.int 0, .int 10, .ref (a15 1), .ref (a15 2), .ref (a15 3), .ref (a15 4), .ref (a15 5)])), (a15 1, .inl (cI, 9, .inl (fun _ => 0))), (a15 2, .inl (cI, 9, .inl (fun _ => 0))), (a15 3, .inl (cI, 9, .inl (fun _ => 0))), (a15 4, .inl (cI, 9, .inl (fun _ => 0))), (a15 5, .inl (cI, 36, .inl (fun _ => 0)))]) rfl ?_
  refine g_kept (f2 := fun j => if j = 0 then some (a13 0) else some (a15 0)) rfl rfl ?_
  exact g_vret C hr hlocks rfl (fun k => ([h0, a2 0, a2 1, a2 2, a2 3, a2 4, a2 5, a4 0, a4 1, a6 0, a6 1, a6 2, a6 3, a6 4, a6 5, a6 6, a6 7, a8 0, a8 1, a8 2, a8 3, a8 4, a8 5, a8 6, a8 7, a8 8, a8 9, a8 10, a8 11, a8 12, a8 13, a10 0, a10 1, a10 2, q11, a13 0, a13 1, a13 2, a13 3, a13 4, a13 5, a15 0, a15 1, a15 2, a15 3, a15 4, a15 5] : List Nat).getD k 0) rfl rfl dX5_init_98
set_option maxRecDepth 100000 in
set_option maxHeartbeats 4000000 in
theorem i_X6 (l : Launch) (D : va_G) (cI cZ : ClassId) : Ctn l yX6_init wsX6_init { frames := 1, cells := 12, slots := 285, locals := 12 } D [(cI, .int), (cZ, .boolean)] (fun _ => True) 6 [.null, .null, .null, .null, .int 0, .null, .null, .null, .null, .null, .null, .int 0, .int 0, .int 0, .int 0, .int 0, .int 0, .int 0, .int 0, .int 0, .int 0, .int 0, .int 0, .null, .null, .int 0, .int 0, .int 0, .int 0] (fun a => MW a cI cZ m0) 12 285 := by
  intro h0 sz
  refine Met.ofW (cc := cX6_init) (maxL := 1) (ret := none) (by decide) rfl ?_
  intro p e s m args below meth c s₁ B hml hv
  obtain ⟨hav, hsz, hP, hK, hPP⟩ := hv
  have C : Cx p m c cX6_init 1 s args wsX6_init RX6 D [(cI, .int), (cZ, .boolean)] := ⟨⟨B.exec, B.bytes, hml, findClass_of_methodNamed B.named, atoms_spec (ws := wsX6_init) B.pre⟩, hK⟩
  have hr := B.returns
  have hlocks := B.notSynchronized
  have hin : meth.name = "<init>" := (name_of_methodNamed B.named B.method).1
  subst hsz
  have hA : ∀ q, s.heap.size ≤ q → Rg h0 s.heap.size q := fun q h => Or.inr h
  have hD : va_D (Rg h0 s.heap.size) [(h0, .inr (6, [.null, .null, .null, .null, .int 0, .null, .null, .null, .null, .null, .null, .int 0, .int 0, .int 0, .int 0, .int 0, .int 0, .int 0, .int 0, .int 0, .int 0, .int 0, .int 0, .null, .null, .int 0, .int 0, .int 0, .int 0]))] := va_D_one (Or.inl rfl)
  have hiX6 : ∀ w ∈ wsX60, w ∈ wsX6_init := by decide +kernel
  have f13 : Cond.fieldLink RX6 13 "PanelPagesModel" "images" "[I" ∈ wsX6_init := by decide +kernel
  have f16 : Cond.fieldLink RX6 16 "PanelPagesModel" "isKept" "[Z" ∈ wsX6_init := by decide +kernel
  have f20 : Cond.fieldLink RX6 20 "PanelPagesModel" "pad" "[I" ∈ wsX6_init := by decide +kernel
  have f23 : Cond.fieldLink RX6 23 "PanelPagesModel" "width" "[I" ∈ wsX6_init := by decide +kernel
  have f26 : Cond.fieldLink RX6 26 "PanelPagesModel" "cutOff" "[I" ∈ wsX6_init := by decide +kernel
  have f29 : Cond.fieldLink RX6 29 "PanelPagesModel" "figure" "[I" ∈ wsX6_init := by decide +kernel
  have f32 : Cond.fieldLink RX6 32 "PanelPagesModel" "page" "[I" ∈ wsX6_init := by decide +kernel
  have f35 : Cond.fieldLink RX6 35 "PanelPagesModel" "tier" "[I" ∈ wsX6_init := by decide +kernel
  have f38 : Cond.fieldLink RX6 38 "PanelPagesModel" "place" "[I" ∈ wsX6_init := by decide +kernel
  have f41 : Cond.fieldLink RX6 41 "PanelPagesModel" "row" "[I" ∈ wsX6_init := by decide +kernel
  have f44 : Cond.fieldLink RX6 44 "PanelPagesModel" "column" "[I" ∈ wsX6_init := by decide +kernel
  have f7 : Cond.fieldLink RX6 7 "PanelPagesModel" "state" "[I" ∈ wsX6_init := by decide +kernel
  refine g_entry (lv := [(0, .ref h0)]) hav hP hD (Nat.le_of_ble_eq_true rfl) rfl ?_
  refine g_aload_n C dX6_init_0 0 rfl (pc2 := 1) rfl ?_
  refine g_objInit (idx := 1) C (by decide +kernel) (by decide +kernel) (by decide +kernel) (by exact Nat.le_of_ble_eq_true rfl) (by exact Nat.le_of_ble_eq_true rfl) dX6_init_1 (pc2 := 4) rfl ?_
  refine g_aload_n C dX6_init_4 0 rfl (pc2 := 5) rfl ?_
  refine g_bipush (v := (74 : Int32)) C dX6_init_5 (by decide) (pc2 := 7) rfl ?_
  refine g_newI C hA (by decide +kernel) 0 rfl (N1 := 74) (by decide) (by decide) (by exact Nat.le_of_ble_eq_true rfl) (by exact Nat.le_of_ble_eq_true rfl) (by exact Nat.le_of_ble_eq_true rfl) dX6_init_7 (pc2 := 9) rfl (fun q1 => ?_)
  refine g_ws (ws2 := [(h0, .inr (6, [.null, .null, .null, .null, .int 0, .null, .null, .null, .null, .null, .null, .int 0, .int 0, .int 0, .int 0, .int 0, .int 0, .int 0, .int 0, .int 0, .int 0, .int 0, .int 0, .null, .null, .int 0, .int 0, .int 0, .int 0])), (q1, .inl (cI, 74, .inl (fun _ => 0)))]) rfl ?_
  refine g_cnt (K2 := 1) (N2 := 74) (by exact Nat.le_of_ble_eq_true rfl) (by exact Nat.le_of_ble_eq_true rfl) ?_
  refine g_putF C hiX6 tyX6 tyX6_ok nmX6 0 rfl rfl 0 (by decide) f7 rfl hin rfl rfl rfl (by exact Nat.le_of_ble_eq_true rfl) (ws2 := [(h0, .inr (6, [.ref (q1), .null, .null, .null, .int 0, .null, .null, .null, .null, .null, .null, .int 0, .int 0, .int 0, .int 0, .int 0, .int 0, .int 0, .int 0, .int 0, .int 0, .int 0, .int 0, .null, .null, .int 0, .int 0, .int 0, .int 0])), (q1, .inl (cI, 74, .inl (fun _ => 0)))]) rfl dX6_init_9 (pc2 := 12) rfl ?_
  refine g_aload_n C dX6_init_12 0 rfl (pc2 := 13) rfl ?_
  refine g_sipush (v := (148 : Int32)) C dX6_init_13 (by decide) (pc2 := 16) rfl ?_
  refine g_newI C hA (by decide +kernel) 0 rfl (N1 := 148) (by decide) (by decide) (by exact Nat.le_of_ble_eq_true rfl) (by exact Nat.le_of_ble_eq_true rfl) (by exact Nat.le_of_ble_eq_true rfl) dX6_init_16 (pc2 := 18) rfl (fun q2 => ?_)
  refine g_ws (ws2 := [(h0, .inr (6, [.ref (q1), .null, .null, .null, .int 0, .null, .null, .null, .null, .null, .null, .int 0, .int 0, .int 0, .int 0, .int 0, .int 0, .int 0, .int 0, .int 0, .int 0, .int 0, .int 0, .null, .null, .int 0, .int 0, .int 0, .int 0])), (q1, .inl (cI, 74, .inl (fun _ => 0))), (q2, .inl (cI, 148, .inl (fun _ => 0)))]) rfl ?_
  refine g_cnt (K2 := 2) (N2 := 222) (by exact Nat.le_of_ble_eq_true rfl) (by exact Nat.le_of_ble_eq_true rfl) ?_
  refine g_putF C hiX6 tyX6 tyX6_ok nmX6 0 rfl rfl 1 (by decide) f13 rfl hin rfl rfl rfl (by exact Nat.le_of_ble_eq_true rfl) (ws2 := [(h0, .inr (6, [.ref (q1), .ref (q2), .null, .null, .int 0, .null, .null, .null, .null, .null, .null, .int 0, .int 0, .int 0, .int 0, .int 0, .int 0, .int 0, .int 0, .int 0, .int 0, .int 0, .int 0, .null, .null, .int 0, .int 0, .int 0, .int 0])), (q1, .inl (cI, 74, .inl (fun _ => 0))), (q2, .inl (cI, 148, .inl (fun _ => 0)))]) rfl dX6_init_18 (pc2 := 21) rfl ?_
  refine g_aload_n C dX6_init_21 0 rfl (pc2 := 22) rfl ?_
  refine g_iconst (v := (2 : Int32)) C dX6_init_22 (by decide) (pc2 := 23) rfl ?_
  refine g_newZ C hA (by decide +kernel) 1 rfl (N1 := 2) (by decide) (by decide) (by exact Nat.le_of_ble_eq_true rfl) (by exact Nat.le_of_ble_eq_true rfl) (by exact Nat.le_of_ble_eq_true rfl) dX6_init_23 (pc2 := 25) rfl (fun q3 => ?_)
  refine g_ws (ws2 := [(h0, .inr (6, [.ref (q1), .ref (q2), .null, .null, .int 0, .null, .null, .null, .null, .null, .null, .int 0, .int 0, .int 0, .int 0, .int 0, .int 0, .int 0, .int 0, .int 0, .int 0, .int 0, .int 0, .null, .null, .int 0, .int 0, .int 0, .int 0])), (q1, .inl (cI, 74, .inl (fun _ => 0))), (q2, .inl (cI, 148, .inl (fun _ => 0))), (q3, .inl (cZ, 2, .inl (fun _ => 0)))]) rfl ?_
  refine g_cnt (K2 := 3) (N2 := 224) (by exact Nat.le_of_ble_eq_true rfl) (by exact Nat.le_of_ble_eq_true rfl) ?_
  refine g_putF C hiX6 tyX6 tyX6_ok nmX6 0 rfl rfl 2 (by decide) f16 rfl hin rfl rfl rfl (by exact Nat.le_of_ble_eq_true rfl) (ws2 := [(h0, .inr (6, [.ref (q1), .ref (q2), .ref (q3), .null, .int 0, .null, .null, .null, .null, .null, .null, .int 0, .int 0, .int 0, .int 0, .int 0, .int 0, .int 0, .int 0, .int 0, .int 0, .int 0, .int 0, .null, .null, .int 0, .int 0, .int 0, .int 0])), (q1, .inl (cI, 74, .inl (fun _ => 0))), (q2, .inl (cI, 148, .inl (fun _ => 0))), (q3, .inl (cZ, 2, .inl (fun _ => 0)))]) rfl dX6_init_25 (pc2 := 28) rfl ?_
  refine g_aload_n C dX6_init_28 0 rfl (pc2 := 29) rfl ?_
  refine g_bipush (v := (9 : Int32)) C dX6_init_29 (by decide) (pc2 := 31) rfl ?_
  refine g_newI C hA (by decide +kernel) 0 rfl (N1 := 9) (by decide) (by decide) (by exact Nat.le_of_ble_eq_true rfl) (by exact Nat.le_of_ble_eq_true rfl) (by exact Nat.le_of_ble_eq_true rfl) dX6_init_31 (pc2 := 33) rfl (fun q4 => ?_)
  refine g_ws (ws2 := [(h0, .inr (6, [.ref (q1), .ref (q2), .ref (q3), .null, .int 0, .null, .null, .null, .null, .null, .null, .int 0, .int 0, .int 0, .int 0, .int 0, .int 0, .int 0, .int 0, .int 0, .int 0, .int 0, .int 0, .null, .null, .int 0, .int 0, .int 0, .int 0])), (q1, .inl (cI, 74, .inl (fun _ => 0))), (q2, .inl (cI, 148, .inl (fun _ => 0))), (q3, .inl (cZ, 2, .inl (fun _ => 0))), (q4, .inl (cI, 9, .inl (fun _ => 0)))]) rfl ?_
  refine g_cnt (K2 := 4) (N2 := 233) (by exact Nat.le_of_ble_eq_true rfl) (by exact Nat.le_of_ble_eq_true rfl) ?_
  refine g_putF C hiX6 tyX6 tyX6_ok nmX6 0 rfl rfl 3 (by decide) f20 rfl hin rfl rfl rfl (by exact Nat.le_of_ble_eq_true rfl) (ws2 := [(h0, .inr (6, [.ref (q1), .ref (q2), .ref (q3), .ref (q4), .int 0, .null, .null, .null, .null, .null, .null, .int 0, .int 0, .int 0, .int 0, .int 0, .int 0, .int 0, .int 0, .int 0, .int 0, .int 0, .int 0, .null, .null, .int 0, .int 0, .int 0, .int 0])), (q1, .inl (cI, 74, .inl (fun _ => 0))), (q2, .inl (cI, 148, .inl (fun _ => 0))), (q3, .inl (cZ, 2, .inl (fun _ => 0))), (q4, .inl (cI, 9, .inl (fun _ => 0)))]) rfl dX6_init_33 (pc2 := 36) rfl ?_
  refine g_aload_n C dX6_init_36 0 rfl (pc2 := 37) rfl ?_
  refine g_iconst (v := (4 : Int32)) C dX6_init_37 (by decide) (pc2 := 38) rfl ?_
  refine g_newI C hA (by decide +kernel) 0 rfl (N1 := 4) (by decide) (by decide) (by exact Nat.le_of_ble_eq_true rfl) (by exact Nat.le_of_ble_eq_true rfl) (by exact Nat.le_of_ble_eq_true rfl) dX6_init_38 (pc2 := 40) rfl (fun q5 => ?_)
  refine g_ws (ws2 := [(h0, .inr (6, [.ref (q1), .ref (q2), .ref (q3), .ref (q4), .int 0, .null, .null, .null, .null, .null, .null, .int 0, .int 0, .int 0, .int 0, .int 0, .int 0, .int 0, .int 0, .int 0, .int 0, .int 0, .int 0, .null, .null, .int 0, .int 0, .int 0, .int 0])), (q1, .inl (cI, 74, .inl (fun _ => 0))), (q2, .inl (cI, 148, .inl (fun _ => 0))), (q3, .inl (cZ, 2, .inl (fun _ => 0))), (q4, .inl (cI, 9, .inl (fun _ => 0))), (q5, .inl (cI, 4, .inl (fun _ => 0)))]) rfl ?_
  refine g_cnt (K2 := 5) (N2 := 237) (by exact Nat.le_of_ble_eq_true rfl) (by exact Nat.le_of_ble_eq_true rfl) ?_
  refine g_putF C hiX6 tyX6 tyX6_ok nmX6 0 rfl rfl 5 (by decide) f23 rfl hin rfl rfl rfl (by exact Nat.le_of_ble_eq_true rfl) (ws2 := [(h0, .inr (6, [.ref (q1), .ref (q2), .ref (q3), .ref (q4), .int 0, .ref (q5), .null, .null, .null, .null, .null, .int 0, .int 0, .int 0, .int 0, .int 0, .int 0, .int 0, .int 0, .int 0, .int 0, .int 0, .int 0, .null, .null, .int 0, .int 0, .int 0, .int 0])), (q1, .inl (cI, 74, .inl (fun _ => 0))), (q2, .inl (cI, 148, .inl (fun _ => 0))), (q3, .inl (cZ, 2, .inl (fun _ => 0))), (q4, .inl (cI, 9, .inl (fun _ => 0))), (q5, .inl (cI, 4, .inl (fun _ => 0)))]) rfl dX6_init_40 (pc2 := 43) rfl ?_
  refine g_aload_n C dX6_init_43 0 rfl (pc2 := 44) rfl ?_
  refine g_iconst (v := (4 : Int32)) C dX6_init_44 (by decide) (pc2 := 45) rfl ?_
  refine g_newI C hA (by decide +kernel) 0 rfl (N1 := 4) (by decide) (by decide) (by exact Nat.le_of_ble_eq_true rfl) (by exact Nat.le_of_ble_eq_true rfl) (by exact Nat.le_of_ble_eq_true rfl) dX6_init_45 (pc2 := 47) rfl (fun q6 => ?_)
  refine g_ws (ws2 := [(h0, .inr (6, [.ref (q1), .ref (q2), .ref (q3), .ref (q4), .int 0, .ref (q5), .null, .null, .null, .null, .null, .int 0, .int 0, .int 0, .int 0, .int 0, .int 0, .int 0, .int 0, .int 0, .int 0, .int 0, .int 0, .null, .null, .int 0, .int 0, .int 0, .int 0])), (q1, .inl (cI, 74, .inl (fun _ => 0))), (q2, .inl (cI, 148, .inl (fun _ => 0))), (q3, .inl (cZ, 2, .inl (fun _ => 0))), (q4, .inl (cI, 9, .inl (fun _ => 0))), (q5, .inl (cI, 4, .inl (fun _ => 0))), (q6, .inl (cI, 4, .inl (fun _ => 0)))]) rfl ?_
  refine g_cnt (K2 := 6) (N2 := 241) (by exact Nat.le_of_ble_eq_true rfl) (by exact Nat.le_of_ble_eq_true rfl) ?_
  refine g_putF C hiX6 tyX6 tyX6_ok nmX6 0 rfl rfl 6 (by decide) f26 rfl hin rfl rfl rfl (by exact Nat.le_of_ble_eq_true rfl) (ws2 := [(h0, .inr (6, [.ref (q1), .ref (q2), .ref (q3), .ref (q4), .int 0, .ref (q5), .ref (q6), .null, .null, .null, .null, .int 0, .int 0, .int 0, .int 0, .int 0, .int 0, .int 0, .int 0, .int 0, .int 0, .int 0, .int 0, .null, .null, .int 0, .int 0, .int 0, .int 0])), (q1, .inl (cI, 74, .inl (fun _ => 0))), (q2, .inl (cI, 148, .inl (fun _ => 0))), (q3, .inl (cZ, 2, .inl (fun _ => 0))), (q4, .inl (cI, 9, .inl (fun _ => 0))), (q5, .inl (cI, 4, .inl (fun _ => 0))), (q6, .inl (cI, 4, .inl (fun _ => 0)))]) rfl dX6_init_47 (pc2 := 50) rfl ?_
  refine g_aload_n C dX6_init_50 0 rfl (pc2 := 51) rfl ?_
  refine g_bipush (v := (9 : Int32)) C dX6_init_51 (by decide) (pc2 := 53) rfl ?_
  refine g_newI C hA (by decide +kernel) 0 rfl (N1 := 9) (by decide) (by decide) (by exact Nat.le_of_ble_eq_true rfl) (by exact Nat.le_of_ble_eq_true rfl) (by exact Nat.le_of_ble_eq_true rfl) dX6_init_53 (pc2 := 55) rfl (fun q7 => ?_)
  refine g_ws (ws2 := [(h0, .inr (6, [.ref (q1), .ref (q2), .ref (q3), .ref (q4), .int 0, .ref (q5), .ref (q6), .null, .null, .null, .null, .int 0, .int 0, .int 0, .int 0, .int 0, .int 0, .int 0, .int 0, .int 0, .int 0, .int 0, .int 0, .null, .null, .int 0, .int 0, .int 0, .int 0])), (q1, .inl (cI, 74, .inl (fun _ => 0))), (q2, .inl (cI, 148, .inl (fun _ => 0))), (q3, .inl (cZ, 2, .inl (fun _ => 0))), (q4, .inl (cI, 9, .inl (fun _ => 0))), (q5, .inl (cI, 4, .inl (fun _ => 0))), (q6, .inl (cI, 4, .inl (fun _ => 0))), (q7, .inl (cI, 9, .inl (fun _ => 0)))]) rfl ?_
  refine g_cnt (K2 := 7) (N2 := 250) (by exact Nat.le_of_ble_eq_true rfl) (by exact Nat.le_of_ble_eq_true rfl) ?_
  refine g_putF C hiX6 tyX6 tyX6_ok nmX6 0 rfl rfl 7 (by decide) f29 rfl hin rfl rfl rfl (by exact Nat.le_of_ble_eq_true rfl) (ws2 := [(h0, .inr (6, [.ref (q1), .ref (q2), .ref (q3), .ref (q4), .int 0, .ref (q5), .ref (q6), .ref (q7), .null, .null, .null, .int 0, .int 0, .int 0, .int 0, .int 0, .int 0, .int 0, .int 0, .int 0, .int 0, .int 0, .int 0, .null, .null, .int 0, .int 0, .int 0, .int 0])), (q1, .inl (cI, 74, .inl (fun _ => 0))), (q2, .inl (cI, 148, .inl (fun _ => 0))), (q3, .inl (cZ, 2, .inl (fun _ => 0))), (q4, .inl (cI, 9, .inl (fun _ => 0))), (q5, .inl (cI, 4, .inl (fun _ => 0))), (q6, .inl (cI, 4, .inl (fun _ => 0))), (q7, .inl (cI, 9, .inl (fun _ => 0)))]) rfl dX6_init_55 (pc2 := 58) rfl ?_
  refine g_aload_n C dX6_init_58 0 rfl (pc2 := 59) rfl ?_
  refine g_bipush (v := (9 : Int32)) C dX6_init_59 (by decide) (pc2 := 61) rfl ?_
  refine g_newI C hA (by decide +kernel) 0 rfl (N1 := 9) (by decide) (by decide) (by exact Nat.le_of_ble_eq_true rfl) (by exact Nat.le_of_ble_eq_true rfl) (by exact Nat.le_of_ble_eq_true rfl) dX6_init_61 (pc2 := 63) rfl (fun q8 => ?_)
  refine g_ws (ws2 := [(h0, .inr (6, [.ref (q1), .ref (q2), .ref (q3), .ref (q4), .int 0, .ref (q5), .ref (q6), .ref (q7), .null, .null, .null, .int 0, .int 0, .int 0, .int 0, .int 0, .int 0, .int 0, .int 0, .int 0, .int 0, .int 0, .int 0, .null, .null, .int 0, .int 0, .int 0, .int 0])), (q1, .inl (cI, 74, .inl (fun _ => 0))), (q2, .inl (cI, 148, .inl (fun _ => 0))), (q3, .inl (cZ, 2, .inl (fun _ => 0))), (q4, .inl (cI, 9, .inl (fun _ => 0))), (q5, .inl (cI, 4, .inl (fun _ => 0))), (q6, .inl (cI, 4, .inl (fun _ => 0))), (q7, .inl (cI, 9, .inl (fun _ => 0))), (q8, .inl (cI, 9, .inl (fun _ => 0)))]) rfl ?_
  refine g_cnt (K2 := 8) (N2 := 259) (by exact Nat.le_of_ble_eq_true rfl) (by exact Nat.le_of_ble_eq_true rfl) ?_
  refine g_putF C hiX6 tyX6 tyX6_ok nmX6 0 rfl rfl 8 (by decide) f32 rfl hin rfl rfl rfl (by exact Nat.le_of_ble_eq_true rfl) (ws2 := [(h0, .inr (6, [.ref (q1), .ref (q2), .ref (q3), .ref (q4), .int 0, .ref (q5), .ref (q6), .ref (q7), .ref (q8), .null, .null, .int 0, .int 0, .int 0, .int 0, .int 0, .int 0, .int 0, .int 0, .int 0, .int 0, .int 0, .int 0, .null, .null, .int 0, .int 0, .int 0, .int 0])), (q1, .inl (cI, 74, .inl (fun _ => 0))), (q2, .inl (cI, 148, .inl (fun _ => 0))), (q3, .inl (cZ, 2, .inl (fun _ => 0))), (q4, .inl (cI, 9, .inl (fun _ => 0))), (q5, .inl (cI, 4, .inl (fun _ => 0))), (q6, .inl (cI, 4, .inl (fun _ => 0))), (q7, .inl (cI, 9, .inl (fun _ => 0))), (q8, .inl (cI, 9, .inl (fun _ => 0)))]) rfl dX6_init_63 (pc2 := 66) rfl ?_
  refine g_aload_n C dX6_init_66 0 rfl (pc2 := 67) rfl ?_
  refine g_bipush (v := (9 : Int32)) C dX6_init_67 (by decide) (pc2 := 69) rfl ?_
  refine g_newI C hA (by decide +kernel) 0 rfl (N1 := 9) (by decide) (by decide) (by exact Nat.le_of_ble_eq_true rfl) (by exact Nat.le_of_ble_eq_true rfl) (by exact Nat.le_of_ble_eq_true rfl) dX6_init_69 (pc2 := 71) rfl (fun q9 => ?_)
  refine g_ws (ws2 := [(h0, .inr (6, [.ref (q1), .ref (q2), .ref (q3), .ref (q4), .int 0, .ref (q5), .ref (q6), .ref (q7), .ref (q8), .null, .null, .int 0, .int 0, .int 0, .int 0, .int 0, .int 0, .int 0, .int 0, .int 0, .int 0, .int 0, .int 0, .null, .null, .int 0, .int 0, .int 0, .int 0])), (q1, .inl (cI, 74, .inl (fun _ => 0))), (q2, .inl (cI, 148, .inl (fun _ => 0))), (q3, .inl (cZ, 2, .inl (fun _ => 0))), (q4, .inl (cI, 9, .inl (fun _ => 0))), (q5, .inl (cI, 4, .inl (fun _ => 0))), (q6, .inl (cI, 4, .inl (fun _ => 0))), (q7, .inl (cI, 9, .inl (fun _ => 0))), (q8, .inl (cI, 9, .inl (fun _ => 0))), (q9, .inl (cI, 9, .inl (fun _ => 0)))]) rfl ?_
  refine g_cnt (K2 := 9) (N2 := 268) (by exact Nat.le_of_ble_eq_true rfl) (by exact Nat.le_of_ble_eq_true rfl) ?_
  refine g_putF C hiX6 tyX6 tyX6_ok nmX6 0 rfl rfl 9 (by decide) f35 rfl hin rfl rfl rfl (by exact Nat.le_of_ble_eq_true rfl) (ws2 := [(h0, .inr (6, [.ref (q1), .ref (q2), .ref (q3), .ref (q4), .int 0, .ref (q5), .ref (q6), .ref (q7), .ref (q8), .ref (q9), .null, .int 0, .int 0, .int 0, .int 0, .int 0, .int 0, .int 0, .int 0, .int 0, .int 0, .int 0, .int 0, .null, .null, .int 0, .int 0, .int 0, .int 0])), (q1, .inl (cI, 74, .inl (fun _ => 0))), (q2, .inl (cI, 148, .inl (fun _ => 0))), (q3, .inl (cZ, 2, .inl (fun _ => 0))), (q4, .inl (cI, 9, .inl (fun _ => 0))), (q5, .inl (cI, 4, .inl (fun _ => 0))), (q6, .inl (cI, 4, .inl (fun _ => 0))), (q7, .inl (cI, 9, .inl (fun _ => 0))), (q8, .inl (cI, 9, .inl (fun _ => 0))), (q9, .inl (cI, 9, .inl (fun _ => 0)))]) rfl dX6_init_71 (pc2 := 74) rfl ?_
  refine g_aload_n C dX6_init_74 0 rfl (pc2 := 75) rfl ?_
  refine g_bipush (v := (9 : Int32)) C dX6_init_75 (by decide) (pc2 := 77) rfl ?_
  refine g_newI C hA (by decide +kernel) 0 rfl (N1 := 9) (by decide) (by decide) (by exact Nat.le_of_ble_eq_true rfl) (by exact Nat.le_of_ble_eq_true rfl) (by exact Nat.le_of_ble_eq_true rfl) dX6_init_77 (pc2 := 79) rfl (fun q10 => ?_)
  refine g_ws (ws2 := [(h0, .inr (6, [.ref (q1), .ref (q2), .ref (q3), .ref (q4), .int 0, .ref (q5), .ref (q6), .ref (q7), .ref (q8), .ref (q9), .null, .int 0, .int 0, .int 0, .int 0, .int 0, .int 0, .int 0, .int 0, .int 0, .int 0, .int 0, .int 0, .null, .null, .int 0, .int 0, .int 0, .int 0])), (q1, .inl (cI, 74, .inl (fun _ => 0))), (q2, .inl (cI, 148, .inl (fun _ => 0))), (q3, .inl (cZ, 2, .inl (fun _ => 0))), (q4, .inl (cI, 9, .inl (fun _ => 0))), (q5, .inl (cI, 4, .inl (fun _ => 0))), (q6, .inl (cI, 4, .inl (fun _ => 0))), (q7, .inl (cI, 9, .inl (fun _ => 0))), (q8, .inl (cI, 9, .inl (fun _ => 0))), (q9, .inl (cI, 9, .inl (fun _ => 0))), (q10, .inl (cI, 9, .inl (fun _ => 0)))]) rfl ?_
  refine g_cnt (K2 := 10) (N2 := 277) (by exact Nat.le_of_ble_eq_true rfl) (by exact Nat.le_of_ble_eq_true rfl) ?_
  refine g_putF C hiX6 tyX6 tyX6_ok nmX6 0 rfl rfl 10 (by decide) f38 rfl hin rfl rfl rfl (by exact Nat.le_of_ble_eq_true rfl) (ws2 := [(h0, .inr (6, [.ref (q1), .ref (q2), .ref (q3), .ref (q4), .int 0, .ref (q5), .ref (q6), .ref (q7), .ref (q8), .ref (q9), .ref (q10), .int 0, .int 0, .int 0, .int 0, .int 0, .int 0, .int 0, .int 0, .int 0, .int 0, .int 0, .int 0, .null, .null, .int 0, .int 0, .int 0, .int 0])), (q1, .inl (cI, 74, .inl (fun _ => 0))), (q2, .inl (cI, 148, .inl (fun _ => 0))), (q3, .inl (cZ, 2, .inl (fun _ => 0))), (q4, .inl (cI, 9, .inl (fun _ => 0))), (q5, .inl (cI, 4, .inl (fun _ => 0))), (q6, .inl (cI, 4, .inl (fun _ => 0))), (q7, .inl (cI, 9, .inl (fun _ => 0))), (q8, .inl (cI, 9, .inl (fun _ => 0))), (q9, .inl (cI, 9, .inl (fun _ => 0))), (q10, .inl (cI, 9, .inl (fun _ => 0)))]) rfl dX6_init_79 (pc2 := 82) rfl ?_
  refine g_aload_n C dX6_init_82 0 rfl (pc2 := 83) rfl ?_
  refine g_iconst (v := (4 : Int32)) C dX6_init_83 (by decide) (pc2 := 84) rfl ?_
  refine g_newI C hA (by decide +kernel) 0 rfl (N1 := 4) (by decide) (by decide) (by exact Nat.le_of_ble_eq_true rfl) (by exact Nat.le_of_ble_eq_true rfl) (by exact Nat.le_of_ble_eq_true rfl) dX6_init_84 (pc2 := 86) rfl (fun q11 => ?_)
  refine g_ws (ws2 := [(h0, .inr (6, [.ref (q1), .ref (q2), .ref (q3), .ref (q4), .int 0, .ref (q5), .ref (q6), .ref (q7), .ref (q8), .ref (q9), .ref (q10), .int 0, .int 0, .int 0, .int 0, .int 0, .int 0, .int 0, .int 0, .int 0, .int 0, .int 0, .int 0, .null, .null, .int 0, .int 0, .int 0, .int 0])), (q1, .inl (cI, 74, .inl (fun _ => 0))), (q2, .inl (cI, 148, .inl (fun _ => 0))), (q3, .inl (cZ, 2, .inl (fun _ => 0))), (q4, .inl (cI, 9, .inl (fun _ => 0))), (q5, .inl (cI, 4, .inl (fun _ => 0))), (q6, .inl (cI, 4, .inl (fun _ => 0))), (q7, .inl (cI, 9, .inl (fun _ => 0))), (q8, .inl (cI, 9, .inl (fun _ => 0))), (q9, .inl (cI, 9, .inl (fun _ => 0))), (q10, .inl (cI, 9, .inl (fun _ => 0))), (q11, .inl (cI, 4, .inl (fun _ => 0)))]) rfl ?_
  refine g_cnt (K2 := 11) (N2 := 281) (by exact Nat.le_of_ble_eq_true rfl) (by exact Nat.le_of_ble_eq_true rfl) ?_
  refine g_putF C hiX6 tyX6 tyX6_ok nmX6 0 rfl rfl 23 (by decide) f41 rfl hin rfl rfl rfl (by exact Nat.le_of_ble_eq_true rfl) (ws2 := [(h0, .inr (6, [.ref (q1), .ref (q2), .ref (q3), .ref (q4), .int 0, .ref (q5), .ref (q6), .ref (q7), .ref (q8), .ref (q9), .ref (q10), .int 0, .int 0, .int 0, .int 0, .int 0, .int 0, .int 0, .int 0, .int 0, .int 0, .int 0, .int 0, .ref (q11), .null, .int 0, .int 0, .int 0, .int 0])), (q1, .inl (cI, 74, .inl (fun _ => 0))), (q2, .inl (cI, 148, .inl (fun _ => 0))), (q3, .inl (cZ, 2, .inl (fun _ => 0))), (q4, .inl (cI, 9, .inl (fun _ => 0))), (q5, .inl (cI, 4, .inl (fun _ => 0))), (q6, .inl (cI, 4, .inl (fun _ => 0))), (q7, .inl (cI, 9, .inl (fun _ => 0))), (q8, .inl (cI, 9, .inl (fun _ => 0))), (q9, .inl (cI, 9, .inl (fun _ => 0))), (q10, .inl (cI, 9, .inl (fun _ => 0))), (q11, .inl (cI, 4, .inl (fun _ => 0)))]) rfl dX6_init_86 (pc2 := 89) rfl ?_
  refine g_aload_n C dX6_init_89 0 rfl (pc2 := 90) rfl ?_
  refine g_iconst (v := (4 : Int32)) C dX6_init_90 (by decide) (pc2 := 91) rfl ?_
  refine g_newI C hA (by decide +kernel) 0 rfl (N1 := 4) (by decide) (by decide) (by exact Nat.le_of_ble_eq_true rfl) (by exact Nat.le_of_ble_eq_true rfl) (by exact Nat.le_of_ble_eq_true rfl) dX6_init_91 (pc2 := 93) rfl (fun q12 => ?_)
  refine g_ws (ws2 := [(h0, .inr (6, [.ref (q1), .ref (q2), .ref (q3), .ref (q4), .int 0, .ref (q5), .ref (q6), .ref (q7), .ref (q8), .ref (q9), .ref (q10), .int 0, .int 0, .int 0, .int 0, .int 0, .int 0, .int 0, .int 0, .int 0, .int 0, .int 0, .int 0, .ref (q11), .null, .int 0, .int 0, .int 0, .int 0])), (q1, .inl (cI, 74, .inl (fun _ => 0))), (q2, .inl (cI, 148, .inl (fun _ => 0))), (q3, .inl (cZ, 2, .inl (fun _ => 0))), (q4, .inl (cI, 9, .inl (fun _ => 0))), (q5, .inl (cI, 4, .inl (fun _ => 0))), (q6, .inl (cI, 4, .inl (fun _ => 0))), (q7, .inl (cI, 9, .inl (fun _ => 0))), (q8, .inl (cI, 9, .inl (fun _ => 0))), (q9, .inl (cI, 9, .inl (fun _ => 0))), (q10, .inl (cI, 9, .inl (fun _ => 0))), (q11, .inl (cI, 4, .inl (fun _ => 0))), (q12, .inl (cI, 4, .inl (fun _ => 0)))]) rfl ?_
  refine g_cnt (K2 := 12) (N2 := 285) (by exact Nat.le_of_ble_eq_true rfl) (by exact Nat.le_of_ble_eq_true rfl) ?_
  refine g_putF C hiX6 tyX6 tyX6_ok nmX6 0 rfl rfl 24 (by decide) f44 rfl hin rfl rfl rfl (by exact Nat.le_of_ble_eq_true rfl) (ws2 := [(h0, .inr (6, [.ref (q1), .ref (q2), .ref (q3), .ref (q4), .int 0, .ref (q5), .ref (q6), .ref (q7), .ref (q8), .ref (q9), .ref (q10), .int 0, .int 0, .int 0, .int 0, .int 0, .int 0, .int 0, .int 0, .int 0, .int 0, .int 0, .int 0, .ref (q11), .ref (q12), .int 0, .int 0, .int 0, .int 0])), (q1, .inl (cI, 74, .inl (fun _ => 0))), (q2, .inl (cI, 148, .inl (fun _ => 0))), (q3, .inl (cZ, 2, .inl (fun _ => 0))), (q4, .inl (cI, 9, .inl (fun _ => 0))), (q5, .inl (cI, 4, .inl (fun _ => 0))), (q6, .inl (cI, 4, .inl (fun _ => 0))), (q7, .inl (cI, 9, .inl (fun _ => 0))), (q8, .inl (cI, 9, .inl (fun _ => 0))), (q9, .inl (cI, 9, .inl (fun _ => 0))), (q10, .inl (cI, 9, .inl (fun _ => 0))), (q11, .inl (cI, 4, .inl (fun _ => 0))), (q12, .inl (cI, 4, .inl (fun _ => 0)))]) rfl dX6_init_93 (pc2 := 96) rfl ?_
  refine g_aload_n C dX6_init_96 0 rfl (pc2 := 97) rfl ?_
  refine g_get C hiX6 0 rfl rfl 0 (by decide) f7 (v := .ref (q1)) rfl dX6_init_97 (pc2 := 100) rfl ?_
  refine g_bipush (v := (73 : Int32)) C dX6_init_100 (by decide) (pc2 := 102) rfl ?_
  refine g_bipush (v := (10 : Int32)) C dX6_init_102 (by decide) (pc2 := 104) rfl ?_
  refine g_iast C 1 0 rfl rfl (by unfold vp_in; decide) (ws2 := [(h0, .inr (6, [.ref (q1), .ref (q2), .ref (q3), .ref (q4), .int 0, .ref (q5), .ref (q6), .ref (q7), .ref (q8), .ref (q9), .ref (q10), .int 0, .int 0, .int 0, .int 0, .int 0, .int 0, .int 0, .int 0, .int 0, .int 0, .int 0, .int 0, .ref (q11), .ref (q12), .int 0, .int 0, .int 0, .int 0])), (q1, .inl (cI, 74, .inl (upd (fun _ => 0) 73 (10 : Int32)))), (q2, .inl (cI, 148, .inl (fun _ => 0))), (q3, .inl (cZ, 2, .inl (fun _ => 0))), (q4, .inl (cI, 9, .inl (fun _ => 0))), (q5, .inl (cI, 4, .inl (fun _ => 0))), (q6, .inl (cI, 4, .inl (fun _ => 0))), (q7, .inl (cI, 9, .inl (fun _ => 0))), (q8, .inl (cI, 9, .inl (fun _ => 0))), (q9, .inl (cI, 9, .inl (fun _ => 0))), (q10, .inl (cI, 9, .inl (fun _ => 0))), (q11, .inl (cI, 4, .inl (fun _ => 0))), (q12, .inl (cI, 4, .inl (fun _ => 0)))]) rfl dX6_init_104 (pc2 := 105) rfl ?_
  exact g_vret C hr hlocks rfl (fun k => ([h0, q1, q2, q3, q4, q5, q6, q7, q8, q9, q10, q11, q12] : List Nat).getD k 0) rfl rfl dX6_init_105
