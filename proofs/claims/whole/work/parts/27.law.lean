/-! THE CLAIM OUT OF ONE WALK OF THE LAW'S BODY. Your part is whole_start (and what it stands on); all else here is the same for every law, but numbers. -/
def R_law : String := "PanelPagesLaw"
def lw_P (b : Addr) (xs : List Int32) (args : Array Value) (s : State) : Prop := args = #[.ref b] ∧ s.IntsAt b xs ∧ xs.length ≤ 2048 ∧ (Jvm.Cond.and given_1 narrow_1).before args s = true
def lw_Q (_ : Array Value) (s : State) (o : Outcome) (t : State) : Prop := o = .returned (some (.int 1)) ∧ Framed s o t [] 600000 7302250
def lw_Z (below : List Frame) (a : Array Value) (s : State) : State → Prop := fun t => ∃ o, t.status = .running ∧ Ended t below o ∧ lw_Q a s o t
/-- the law's own end, with 1 on the stack, nothing written that was there before, its room as the claim has it -/
theorem lw_ret {p : Program} {l : Launch} {e : Env} {s : State} {m : MethodId} {below : List Frame} {meth : Method} {c : Code} {b : Nat} (hx : p.tables.exec = Jvm.exec) (hb : c.code = code) (hr : meth.sig.returnType = ret) (hlocks : meth.locks = false) {pc : Nat} {H : Heap} {ls : Array Slot} (hdg : decode code pc = .ok (.ireturn, 1)) : W p l e room_1 s m #[Value.ref b] below meth c H [] 600000 7302250 (lw_Z below #[Value.ref b] s) (F0 m pc ls [.int 1]) := by
  intro T hT X
  obtain ⟨fs, hret, hrun, hended, hW, hframe⟩ := X.leave (v := some (.int 1)) (hlocks := hlocks) (fun h => by rw [hr] at h; cases h)
  have hmeth' : T.vm.method? m = some meth := X.method'
  refine ⟨T.setFrames fs, ?_, .returned (some (.int 1)), hrun, hended, rfl, ⟨_, rfl⟩, hW, hframe⟩
  jvm_step X.here [X.here.top, hx, hb, hdg, hmeth', hr, ret, narrow_b1]
  (try refine ⟨rfl, ?_⟩); (try refine ⟨rfl, ?_⟩)
  first | (intro acts; rw [hret _ acts rfl rfl rfl]) | rw [hret _ _ rfl rfl rfl]
  exact Steps.refl _
/-- what holds at the law's entry: the machine, the code, the tables' words (any of lw_tbl by 'hts w (by decide +kernel)'), the script of L ints xs at the cell b, what the Statement gives of the start (any of its parts by flat_of_before) -/
def lw_At (p : Program) (s : State) (m : MethodId) (meth : Method) (c : Code) (b L : Nat) (xs : Nat → Int32) : Prop :=
  p.tables.exec = Jvm.exec ∧ c.code = code ∧ meth.sig.returnType = ret ∧ c.maxLocals = 4 ∧ s.vm.findClass R_law = some m.cls ∧ (∀ w ∈ lw_tbl, w.before #[Value.ref b] s = true) ∧ va_X b L xs s s.heap ∧ b < s.heap.size ∧ meth.locks = false ∧ (Jvm.Cond.and given_1 narrow_1).before #[Value.ref b] s = true
section LawRows
variable {p : Program} {l : Launch} {e : Env} {R : Room} {s : State} {m : MethodId} {args : Array Value} {below : List Frame} {meth : Method} {c : Code} {Q : State → Prop} {D : va_G} {A : Nat → Prop} {nL : Nat} {ws ws2 : va_W} {K N : Nat} {pc pc2 : Nat} {lv lv2 : List (Nat × Value)} {rest : List Value} {cc : ByteArray} {Ts : List Cond} {own : String} {tys : List (ClassId × FieldType)}
theorem g_astore_n (C : Cx p m c cc nL s args Ts own D tys) {i : Fin 4} {x : Nat} (hdg : decode cc pc = .ok (.astore_n i, 1)) (hn : i.val < nL) (hl2 : (i.val, Value.ref x) :: lv.filter (fun q => !(q.1 == i.val) && !(q.1 + 1 == i.val && q.2.category == 2)) = lv2) (hp : pc + 1 = pc2)
    (k : Wg p l e R s m args below meth c Q D A nL ws K N pc2 lv2 rest) : Wg p l e R s m args below meth c Q D A nL ws K N pc lv (.ref x :: rest) :=
  fun H locs ls hP hD hS hl => lv_astore_n C.1.1 C.1.2.1 hdg rfl hl hn hl2 (fun ls2 hl3 => hp ▸ k H locs ls2 hP hD hS hl3)
theorem g_slen (C : Cx p m c cc nL s args Ts own D tys) {b L : Nat} {xs : Nat → Int32} (hX : va_X b L xs s s.heap) (hbl : b < s.heap.size) (hbA : ¬ A b) (hdg : decode cc pc = .ok (.arraylength, 1)) (hp : pc + 1 = pc2)
    (k : Wg p l e R s m args below meth c Q D A nL ws K N pc2 lv (.int (nI L) :: rest)) : Wg p l e R s m args below meth c Q D A nL ws K N pc lv (.ref b :: rest) :=
  fun H locs ls hP hD hS hl => va_slen C.1.1 C.1.2.1 hX hbl hbA hS hdg (hp ▸ k H locs ls hP hD hS hl)
theorem g_sld (C : Cx p m c cc nL s args Ts own D tys) {b L : Nat} {xs : Nat → Int32} (hX : va_X b L xs s s.heap) (hbl : b < s.heap.size) (hbA : ¬ A b) {i : Int32} (hin : vp_in i L) (hdg : decode cc pc = .ok (.iaload, 1)) (hp : pc + 1 = pc2)
    (k : Wg p l e R s m args below meth c Q D A nL ws K N pc2 lv (.int (xs i.toNatClampNeg) :: rest)) : Wg p l e R s m args below meth c Q D A nL ws K N pc lv (.int i :: .ref b :: rest) :=
  fun H locs ls hP hD hS hl => va_sld C.1.1 C.1.2.1 hX hbl hbA hS hin hdg (hp ▸ k H locs ls hP hD hS hl)
def Ad (ws : va_W) : Nat → Prop := fun q => ∃ z ∈ ws, z.1 = q
theorem va_D_Ad {wa : va_W} (h : va_D A wa) : va_D (Ad wa) wa := ⟨h.1, fun k q hk => ⟨q, List.mem_of_getElem? hk, rfl⟩⟩
theorem va_D_in {wa : va_W} (h : va_D A wa) : ∀ q, Ad wa q → A q := by
  intro q hq
  obtain ⟨z, hz, rfl⟩ := hq
  obtain ⟨i, hi⟩ := List.mem_iff_getElem?.mp hz
  exact h.2 i z hi
/-- a call in the law: one object's cells are cut out, the rest stays -/
theorem g_callM (C : Cx p m c cc nL s args Ts own D tys) {y : MethodName} {bytes : ByteArray} {maxL n index : Nat} {ret : Option FieldType} {wsC wsC2 : List Cond} {rm : Room} {tys2 : List (ClassId × FieldType)} {w : Mem → va_W} {u u1 : Mem} {r : Int32} {E : Option (Int32 × Mem)} (hE : E = some (r, u1)) {wl wr : va_W} {C0 : String} {ci q0 b : Nat} {q : vw_C} {fs : List Value} {As : List Value} {st : List Value} (hM : Cti l y wsC rm D (Ad (w u)) w tys2 (.ref b :: As) u E) (hK2 : va_K D vwCl tys2 s) (hT : GoodIn Ts (wsV own index C0 y wsC)) (hw : wsC = Cond.code y bytes maxL ret :: wsC2) (hd : y.cls = C0 ∧ y.cls ≠ "java/lang/invoke/MethodHandle" ∧ y.cls ≠ "java/lang/invoke/VarHandle" ∧ (parseMethodDescriptor y.desc).map (fun d => d.parameters.length) = some n) (hrc : rm.cells = 0) (hrs : rm.slots = 0) (hR : rm.frames + 1 ≤ R.frames ∧ 8 + (maxL + 11) + rm.locals ≤ R.locals) (hc : vwCl[ci]? = some q) (hC0 : q.1 = C0) (he : (w u)[q0]? = some (b, .inr (ci, fs))) (hmap : (w u).map Prod.fst = (w u1).map Prod.fst) (hn : As.length = n) (hst : As.reverse ++ .ref b :: rest = st) (hsum : (rest.map fun v => v.category).sum ≤ 8) (hcells : K ≤ R.cells) (hslots : N ≤ R.slots) (hdg : decode cc pc = .ok (.invokevirtual index, 3)) (hp : pc + 3 = pc2)
    (kk : Wg p l e R s m args below meth c Q D A nL (wl ++ (w u1 ++ wr)) K N pc2 lv (.int r :: rest)) : Wg p l e R s m args below meth c Q D A nL (wl ++ (w u ++ wr)) K N pc lv st := by
  subst hst; subst hC0
  intro H locs ls hP hD hS hl
  have hPm : va_P D vwCl (w u) H := va_P_of hP (fun q hq => List.mem_append_right _ (List.mem_append_left _ hq))
  have hPl : va_P D vwCl wl H := va_P_of hP (fun q hq => List.mem_append_left _ hq)
  have hPr : va_P D vwCl wr H := va_P_of hP (fun q hq => List.mem_append_right _ (List.mem_append_right _ hq))
  have hDr := va_D_right hD
  have hDm := va_D_left hDr
  have ap1 := va_D_apart hD
  have ap2 := va_D_apart hDr
  refine va_calli (va_runV C.1 (hM r u1 hE) (cwV n C.1.2.2.2.2 hT hw hrc hrs hd hR) ⟨Pcx_blind, va_recv C.2 hPm hc he, fun U hU hW => ⟨rfl, hU.symm ▸ hPm, va_K.moved hW.alike hK2, va_D_Ad hDm⟩⟩ rfl hn hl.1 rfl (lv_room hsum) hdg ⟨hcells, hslots⟩) hS (fun q _ h => va_D_in hDm q h) (va_D_in hDm) (fun r9 u9 t H1 locs1 ht hvm hw9 hB hz1 hk1 hS1 => ?_)
  obtain ⟨rfl, rfl⟩ := hw9
  refine hp ▸ kk H1 locs1 ls (va_P_app (va_P_keep hPl (fun q hq => ?_)) (va_P_app (ht ▸ hB) (va_P_keep hPr (fun q hq => ?_)))) (va_D_addr (by simp only [List.map_append, hmap]) hD) hS1 hl
  · obtain ⟨i, hi⟩ := List.mem_iff_getElem?.mp hq
    refine hk1 _ (va_at_lt (hPl i q hi)) (fun hr => ?_)
    obtain ⟨z, hz, e9⟩ := hr
    exact ap1 q hq z (List.mem_append_left _ hz) e9.symm
  · obtain ⟨i, hi⟩ := List.mem_iff_getElem?.mp hq
    refine hk1 _ (va_at_lt (hPr i q hi)) (fun hr => ?_)
    obtain ⟨z, hz, e9⟩ := hr
    exact ap2 z hz q hq e9
end LawRows
def St0 (R : Mem → Mem → Prop) (f g : Mem → Option (Int32 × Mem)) : Prop := ∀ u v : Mem, R u v → ∃ (r : Int32) (u2 v2 : Mem), f u  = some (r, u2) ∧ g v  = some (r, v2) ∧ R u2 v2
def St1 (R : Mem → Mem → Prop) (f g : Mem → Int32 → Option (Int32 × Mem)) : Prop := ∀ u v : Mem, R u v → ∀ a0 : Int32, ∃ (r : Int32) (u2 v2 : Mem), f u a0 = some (r, u2) ∧ g v a0 = some (r, v2) ∧ R u2 v2
def St2 (R : Mem → Mem → Prop) (f g : Mem → Int32 → Int32 → Option (Int32 × Mem)) : Prop := ∀ u v : Mem, R u v → ∀ a0 a1 : Int32, ∃ (r : Int32) (u2 v2 : Mem), f u a0 a1 = some (r, u2) ∧ g v a0 a1 = some (r, v2) ∧ R u2 v2
def St3 (R : Mem → Mem → Prop) (f g : Mem → Int32 → Int32 → Int32 → Option (Int32 × Mem)) : Prop := ∀ u v : Mem, R u v → ∀ a0 a1 a2 : Int32, ∃ (r : Int32) (u2 v2 : Mem), f u a0 a1 a2 = some (r, u2) ∧ g v a0 a1 a2 = some (r, v2) ∧ R u2 v2
def Steps20 (R : Mem → Mem → Prop) : Prop :=
  St3 R e_X5_panel e_X6_panel ∧ St0 R e_X5_pop e_X6_pop ∧ St3 R e_X5_change e_X6_change ∧ St1 R e_X5_high e_X6_high ∧ St2 R e_X5_of e_X6_of ∧ St3 R e_X5_tier e_X6_tier ∧ St1 R e_X5_say e_X6_say ∧ St0 R e_X5_wipe e_X6_wipe ∧ St1 R e_X5_judge e_X6_judge ∧ St1 R e_X5_told e_X6_told ∧ St2 R e_X5_at e_X6_at ∧ St1 R e_X5_best e_X6_best ∧ St0 R e_X5_lay e_X6_lay ∧ St1 R e_X5_talk e_X6_talk ∧ St2 R e_X5_speaker e_X6_speaker ∧ St2 R e_X5_good e_X6_good ∧ St1 R e_X5_isGood e_X6_isGood ∧ St1 R e_X5_image e_X6_image ∧ St1 R e_X5_restore e_X6_restore ∧ St1 R e_X5_count e_X6_count
theorem nI_2 (a : Nat) : nI a + (2 : Int32) = nI (a + 2) := nI_add a 2
theorem nI_3 (a : Nat) : nI a + (3 : Int32) = nI (a + 3) := nI_add a 3
theorem nI_4 (a : Nat) : nI a + (4 : Int32) = nI (a + 4) := nI_add a 4
theorem law_le {i L : Nat} (hi : i < 2 ^ 30) (hL : L < 2 ^ 30) (q : ¬ nI L - (4 : Int32) < nI i) : i + 4 ≤ L := by
  have e1 : (nI L - (4 : Int32)).toInt = (L : Int) - 4 := pk_sub_toInt (a := L) (b := 4) hL (by omega)
  have e2 : (nI i).toInt = (i : Int) := nI_toInt (by omega)
  have q2 : ¬ (nI L - (4 : Int32)).toInt < (nI i).toInt := fun h => q (Int32.lt_iff_toInt_lt.mpr h)
  rw [e1, e2] at q2
  omega
set_option maxRecDepth 100000 in
set_option maxHeartbeats 8000000 in
theorem law_loop {p : Program} {l : Launch} {e : Env} {s : State} {m : MethodId} {below : List Frame} {meth : Method} {c : Code} {D : va_G} {b L : Nat} {xs : Nat → Int32} {ad ad2 : Nat → Nat} {cI cB cZ : ClassId} {R : Mem → Mem → Prop} (hR : Steps20 R) (hL : L ≤ 2048) (C : Cx p m c cL_law 4 s #[Value.ref b] wsL_law RL D [(cI, .int), (cB, .object RX0), (cZ, .boolean)]) (hr : meth.sig.returnType = ret) (hlocks : meth.locks = false) (hX : va_X b L xs s s.heap) (hbl : b < s.heap.size) :
    ∀ (n i : Nat) (u v : Mem), i ≤ L → L + 1 ≤ i + n → R u v → Wg p l e room_1 s m #[Value.ref b] below meth c (lw_Z below #[Value.ref b] s) D (fun q : Nat => s.heap.size ≤ q) 4 (XW ad cI cB u ++ (MW ad2 cI cZ v ++ [])) 60 840 18 [(3, .int (nI i)), (2, .ref (ad2 0)), (1, .ref (ad 0)), (0, .ref b)] [] := by
  have hbA : ¬ (fun q : Nat => s.heap.size ≤ q) b := Nat.not_le.mpr hbl
  have hKx : va_K D vwCl [(cI, .int), (cB, .object "PanelPages$Book")] s := C.2.sub [0, 1] rfl
  have hKm : va_K D vwCl [(cI, .int), (cZ, .boolean)] s := C.2.sub [0, 2] rfl
  obtain ⟨h_panel, h_pop, h_change, h_high, h_of, h_tier, h_say, h_wipe, h_judge, h_told, h_at, h_best, h_lay, h_talk, h_speaker, h_good, h_isGood, h_image, h_restore, h_count⟩ := hR
  intro n
  induction n with
  | zero => intro i u v h1 h2; omega
  | succ n ih =>
    intro i u v hi hin hRuv
    have again : ∀ u v : Mem, i + 4 ≤ L → R u v → Wg p l e room_1 s m #[Value.ref b] below meth c (lw_Z below #[Value.ref b] s) D (fun q : Nat => s.heap.size ≤ q) 4 (XW ad cI cB u ++ (MW ad2 cI cZ v ++ [])) 60 840 658 [(3, .int (nI i)), (2, .ref (ad2 0)), (1, .ref (ad 0)), (0, .ref b)] [] := by
      intro u v h4 hRuv
      refine g_iinc (v := nI (i + 4)) C dL_law_658 0 rfl (4 : Int32) (by decide) (nI_4 i) (by decide) (lv2 := [(3, .int (nI (i + 4))), (2, .ref (ad2 0)), (1, .ref (ad 0)), (0, .ref b)]) rfl (pc2 := 661) rfl ?_
      refine g_goto C dL_law_661 (pc2 := 18) (by decide) ?_
      exact ih (i + 4) u v h4 (by omega) hRuv
    refine g_iload_n C dL_law_18 0 rfl (pc2 := 19) rfl ?_
    refine g_aload_n C dL_law_19 3 rfl (pc2 := 20) rfl ?_
    refine g_slen C hX hbl hbA dL_law_20 (pc2 := 21) rfl ?_
    refine g_iconst (v := (4 : Int32)) C dL_law_21 (by decide) (pc2 := 22) rfl ?_
    refine g_isub C dL_law_22 (pc2 := 23) rfl ?_
    refine g_icmp_gt C dL_law_23 (tgt := 664) (by decide) (pc2 := 26) rfl (fun _ => ?_) (fun q => ?_)
    · refine g_iconst (v := (1 : Int32)) C dL_law_664 (by decide) (pc2 := 665) rfl ?_
      intro H locs ls hP hD hS hl
      refine va_forget (fun q hq => hS.2.2 q hq) ?_
      refine W.widen (k := 600000) (n := 7302250) (Nat.le_of_ble_eq_true rfl) (Nat.le_of_ble_eq_true rfl) ?_
      exact lw_ret C.1.1 C.1.2.1 hr hlocks dL_law_665
    have h4 : i + 4 ≤ L := law_le (by omega) (by omega) q
    have vi0 : vp_in (nI i) L := vp_in_nI (by omega) (by omega)
    have vi1 : vp_in (nI i + (1 : Int32)) L := by rw [nI_1]; exact vp_in_nI (by omega) (by omega)
    have vi2 : vp_in (nI i + (2 : Int32)) L := by rw [nI_2]; exact vp_in_nI (by omega) (by omega)
    have vi3 : vp_in (nI i + (3 : Int32)) L := by rw [nI_3]; exact vp_in_nI (by omega) (by omega)
    refine g_aload_n C dL_law_26 3 rfl (pc2 := 27) rfl ?_
    refine g_iload_n C dL_law_27 0 rfl (pc2 := 28) rfl ?_
    refine g_sld C hX hbl hbA vi0 dL_law_28 (pc2 := 29) rfl ?_
    refine g_bipush (v := (31 : Int32)) C dL_law_29 (by decide) (pc2 := 31) rfl ?_
    refine g_iand C dL_law_31 (pc2 := 32) rfl ?_
    generalize xs (nI i).toNatClampNeg &&& (31 : Int32) = sw
    by_cases q0 : sw = (0 : Int32)
    · refine g_tabI C (0 : Int32) q0 dL_law_32 (by decide) (by decide) (off := 96) (by decide) (tgt := 128) (by decide) ?_
      obtain ⟨rr, u2, v2, hE1, hE2, hR2⟩ := h_panel u v hRuv (xs (nI i + (1 : Int32)).toNatClampNeg) (xs (nI i + (2 : Int32)).toNatClampNeg) (xs (nI i + (3 : Int32)).toNatClampNeg)
      refine g_aload_n C dL_law_128 2 rfl (pc2 := 129) rfl ?_
      refine g_aload_n C dL_law_129 3 rfl (pc2 := 130) rfl ?_
      refine g_iload_n C dL_law_130 0 rfl (pc2 := 131) rfl ?_
      refine g_iconst (v := (1 : Int32)) C dL_law_131 (by decide) (pc2 := 132) rfl ?_
      refine g_iadd C dL_law_132 (pc2 := 133) rfl ?_
      refine g_sld C hX hbl hbA vi1 dL_law_133 (pc2 := 134) rfl ?_
      refine g_aload_n C dL_law_134 3 rfl (pc2 := 135) rfl ?_
      refine g_iload_n C dL_law_135 0 rfl (pc2 := 136) rfl ?_
      refine g_iconst (v := (2 : Int32)) C dL_law_136 (by decide) (pc2 := 137) rfl ?_
      refine g_iadd C dL_law_137 (pc2 := 138) rfl ?_
      refine g_sld C hX hbl hbA vi2 dL_law_138 (pc2 := 139) rfl ?_
      refine g_aload_n C dL_law_139 3 rfl (pc2 := 140) rfl ?_
      refine g_iload_n C dL_law_140 0 rfl (pc2 := 141) rfl ?_
      refine g_iconst (v := (3 : Int32)) C dL_law_141 (by decide) (pc2 := 142) rfl ?_
      refine g_iadd C dL_law_142 (pc2 := 143) rfl ?_
      refine g_sld C hX hbl hbA vi3 dL_law_143 (pc2 := 144) rfl ?_
      refine g_ws (ws2 := [] ++ (XW ad cI cB u ++ (MW ad2 cI cZ v ++ []))) rfl ?_
      refine g_callM (As := [.int (xs (nI i + (1 : Int32)).toNatClampNeg), .int (xs (nI i + (2 : Int32)).toNatClampNeg), .int (xs (nI i + (3 : Int32)).toNatClampNeg)]) (rest := []) (index := 13) (n := 3) (w := XW ad cI cB) C hE1 (c_X5_panel l D _ ad cI cB _ _ _ _) hKx gL_law_X5_panel rfl (by decide +kernel) rfl rfl ⟨Nat.le_of_ble_eq_true rfl, Nat.le_of_ble_eq_true rfl⟩ (ci := 5) rfl rfl (xc_0 ad cI cB _) rfl rfl rfl (Nat.le_of_ble_eq_true rfl) (Nat.le_of_ble_eq_true rfl) (Nat.le_of_ble_eq_true rfl) dL_law_144 (pc2 := 147) rfl ?_
      refine g_aload_n C dL_law_147 1 rfl (pc2 := 148) rfl ?_
      refine g_aload_n C dL_law_148 3 rfl (pc2 := 149) rfl ?_
      refine g_iload_n C dL_law_149 0 rfl (pc2 := 150) rfl ?_
      refine g_iconst (v := (1 : Int32)) C dL_law_150 (by decide) (pc2 := 151) rfl ?_
      refine g_iadd C dL_law_151 (pc2 := 152) rfl ?_
      refine g_sld C hX hbl hbA vi1 dL_law_152 (pc2 := 153) rfl ?_
      refine g_aload_n C dL_law_153 3 rfl (pc2 := 154) rfl ?_
      refine g_iload_n C dL_law_154 0 rfl (pc2 := 155) rfl ?_
      refine g_iconst (v := (2 : Int32)) C dL_law_155 (by decide) (pc2 := 156) rfl ?_
      refine g_iadd C dL_law_156 (pc2 := 157) rfl ?_
      refine g_sld C hX hbl hbA vi2 dL_law_157 (pc2 := 158) rfl ?_
      refine g_aload_n C dL_law_158 3 rfl (pc2 := 159) rfl ?_
      refine g_iload_n C dL_law_159 0 rfl (pc2 := 160) rfl ?_
      refine g_iconst (v := (3 : Int32)) C dL_law_160 (by decide) (pc2 := 161) rfl ?_
      refine g_iadd C dL_law_161 (pc2 := 162) rfl ?_
      refine g_sld C hX hbl hbA vi3 dL_law_162 (pc2 := 163) rfl ?_
      refine g_ws (ws2 := (XW ad cI cB u2 ++ (MW ad2 cI cZ v ++ []))) rfl ?_
      refine g_callM (As := [.int (xs (nI i + (1 : Int32)).toNatClampNeg), .int (xs (nI i + (2 : Int32)).toNatClampNeg), .int (xs (nI i + (3 : Int32)).toNatClampNeg)]) (rest := [.int rr]) (index := 17) (n := 3) (w := MW ad2 cI cZ) C hE2 (c_X6_panel l D _ ad2 cI cZ _ _ _ _) hKm gL_law_X6_panel rfl (by decide +kernel) rfl rfl ⟨Nat.le_of_ble_eq_true rfl, Nat.le_of_ble_eq_true rfl⟩ (ci := 6) rfl rfl (mc_0 ad2 cI cZ _) rfl rfl rfl (Nat.le_of_ble_eq_true rfl) (Nat.le_of_ble_eq_true rfl) (Nat.le_of_ble_eq_true rfl) dL_law_163 (pc2 := 166) rfl ?_
      refine g_icmp_eq C dL_law_166 (tgt := 658) (by decide) (pc2 := 169) rfl (fun _ => ?_) (fun q => absurd rfl q)
      exact again u2 v2 h4 hR2
    by_cases q1 : sw = (1 : Int32)
    · refine g_tabI C (1 : Int32) q1 dL_law_32 (by decide) (by decide) (off := 139) (by decide) (tgt := 171) (by decide) ?_
      obtain ⟨rr, u2, v2, hE1, hE2, hR2⟩ := h_pop u v hRuv 
      refine g_aload_n C dL_law_171 2 rfl (pc2 := 172) rfl ?_
      refine g_ws (ws2 := [] ++ (XW ad cI cB u ++ (MW ad2 cI cZ v ++ []))) rfl ?_
      refine g_callM (As := []) (rest := []) (index := 18) (n := 0) (w := XW ad cI cB) C hE1 (c_X5_pop l D _ ad cI cB _ ) hKx gL_law_X5_pop rfl (by decide +kernel) rfl rfl ⟨Nat.le_of_ble_eq_true rfl, Nat.le_of_ble_eq_true rfl⟩ (ci := 5) rfl rfl (xc_0 ad cI cB _) rfl rfl rfl (Nat.le_of_ble_eq_true rfl) (Nat.le_of_ble_eq_true rfl) (Nat.le_of_ble_eq_true rfl) dL_law_172 (pc2 := 175) rfl ?_
      refine g_aload_n C dL_law_175 1 rfl (pc2 := 176) rfl ?_
      refine g_ws (ws2 := (XW ad cI cB u2 ++ (MW ad2 cI cZ v ++ []))) rfl ?_
      refine g_callM (As := []) (rest := [.int rr]) (index := 22) (n := 0) (w := MW ad2 cI cZ) C hE2 (c_X6_pop l D _ ad2 cI cZ _ ) hKm gL_law_X6_pop rfl (by decide +kernel) rfl rfl ⟨Nat.le_of_ble_eq_true rfl, Nat.le_of_ble_eq_true rfl⟩ (ci := 6) rfl rfl (mc_0 ad2 cI cZ _) rfl rfl rfl (Nat.le_of_ble_eq_true rfl) (Nat.le_of_ble_eq_true rfl) (Nat.le_of_ble_eq_true rfl) dL_law_176 (pc2 := 179) rfl ?_
      refine g_icmp_eq C dL_law_179 (tgt := 658) (by decide) (pc2 := 182) rfl (fun _ => ?_) (fun q => absurd rfl q)
      exact again u2 v2 h4 hR2
    by_cases q2 : sw = (2 : Int32)
    · refine g_tabI C (2 : Int32) q2 dL_law_32 (by decide) (by decide) (off := 152) (by decide) (tgt := 184) (by decide) ?_
      obtain ⟨rr, u2, v2, hE1, hE2, hR2⟩ := h_change u v hRuv (xs (nI i + (1 : Int32)).toNatClampNeg) (xs (nI i + (2 : Int32)).toNatClampNeg) (xs (nI i + (3 : Int32)).toNatClampNeg)
      refine g_aload_n C dL_law_184 2 rfl (pc2 := 185) rfl ?_
      refine g_aload_n C dL_law_185 3 rfl (pc2 := 186) rfl ?_
      refine g_iload_n C dL_law_186 0 rfl (pc2 := 187) rfl ?_
      refine g_iconst (v := (1 : Int32)) C dL_law_187 (by decide) (pc2 := 188) rfl ?_
      refine g_iadd C dL_law_188 (pc2 := 189) rfl ?_
      refine g_sld C hX hbl hbA vi1 dL_law_189 (pc2 := 190) rfl ?_
      refine g_aload_n C dL_law_190 3 rfl (pc2 := 191) rfl ?_
      refine g_iload_n C dL_law_191 0 rfl (pc2 := 192) rfl ?_
      refine g_iconst (v := (2 : Int32)) C dL_law_192 (by decide) (pc2 := 193) rfl ?_
      refine g_iadd C dL_law_193 (pc2 := 194) rfl ?_
      refine g_sld C hX hbl hbA vi2 dL_law_194 (pc2 := 195) rfl ?_
      refine g_aload_n C dL_law_195 3 rfl (pc2 := 196) rfl ?_
      refine g_iload_n C dL_law_196 0 rfl (pc2 := 197) rfl ?_
      refine g_iconst (v := (3 : Int32)) C dL_law_197 (by decide) (pc2 := 198) rfl ?_
      refine g_iadd C dL_law_198 (pc2 := 199) rfl ?_
      refine g_sld C hX hbl hbA vi3 dL_law_199 (pc2 := 200) rfl ?_
      refine g_ws (ws2 := [] ++ (XW ad cI cB u ++ (MW ad2 cI cZ v ++ []))) rfl ?_
      refine g_callM (As := [.int (xs (nI i + (1 : Int32)).toNatClampNeg), .int (xs (nI i + (2 : Int32)).toNatClampNeg), .int (xs (nI i + (3 : Int32)).toNatClampNeg)]) (rest := []) (index := 23) (n := 3) (w := XW ad cI cB) C hE1 (c_X5_change l D _ ad cI cB _ _ _ _) hKx gL_law_X5_change rfl (by decide +kernel) rfl rfl ⟨Nat.le_of_ble_eq_true rfl, Nat.le_of_ble_eq_true rfl⟩ (ci := 5) rfl rfl (xc_0 ad cI cB _) rfl rfl rfl (Nat.le_of_ble_eq_true rfl) (Nat.le_of_ble_eq_true rfl) (Nat.le_of_ble_eq_true rfl) dL_law_200 (pc2 := 203) rfl ?_
      refine g_aload_n C dL_law_203 1 rfl (pc2 := 204) rfl ?_
      refine g_aload_n C dL_law_204 3 rfl (pc2 := 205) rfl ?_
      refine g_iload_n C dL_law_205 0 rfl (pc2 := 206) rfl ?_
      refine g_iconst (v := (1 : Int32)) C dL_law_206 (by decide) (pc2 := 207) rfl ?_
      refine g_iadd C dL_law_207 (pc2 := 208) rfl ?_
      refine g_sld C hX hbl hbA vi1 dL_law_208 (pc2 := 209) rfl ?_
      refine g_aload_n C dL_law_209 3 rfl (pc2 := 210) rfl ?_
      refine g_iload_n C dL_law_210 0 rfl (pc2 := 211) rfl ?_
      refine g_iconst (v := (2 : Int32)) C dL_law_211 (by decide) (pc2 := 212) rfl ?_
      refine g_iadd C dL_law_212 (pc2 := 213) rfl ?_
      refine g_sld C hX hbl hbA vi2 dL_law_213 (pc2 := 214) rfl ?_
      refine g_aload_n C dL_law_214 3 rfl (pc2 := 215) rfl ?_
      refine g_iload_n C dL_law_215 0 rfl (pc2 := 216) rfl ?_
      refine g_iconst (v := (3 : Int32)) C dL_law_216 (by decide) (pc2 := 217) rfl ?_
      refine g_iadd C dL_law_217 (pc2 := 218) rfl ?_
      refine g_sld C hX hbl hbA vi3 dL_law_218 (pc2 := 219) rfl ?_
      refine g_ws (ws2 := (XW ad cI cB u2 ++ (MW ad2 cI cZ v ++ []))) rfl ?_
      refine g_callM (As := [.int (xs (nI i + (1 : Int32)).toNatClampNeg), .int (xs (nI i + (2 : Int32)).toNatClampNeg), .int (xs (nI i + (3 : Int32)).toNatClampNeg)]) (rest := [.int rr]) (index := 26) (n := 3) (w := MW ad2 cI cZ) C hE2 (c_X6_change l D _ ad2 cI cZ _ _ _ _) hKm gL_law_X6_change rfl (by decide +kernel) rfl rfl ⟨Nat.le_of_ble_eq_true rfl, Nat.le_of_ble_eq_true rfl⟩ (ci := 6) rfl rfl (mc_0 ad2 cI cZ _) rfl rfl rfl (Nat.le_of_ble_eq_true rfl) (Nat.le_of_ble_eq_true rfl) (Nat.le_of_ble_eq_true rfl) dL_law_219 (pc2 := 222) rfl ?_
      refine g_icmp_eq C dL_law_222 (tgt := 658) (by decide) (pc2 := 225) rfl (fun _ => ?_) (fun q => absurd rfl q)
      exact again u2 v2 h4 hR2
    by_cases q3 : sw = (3 : Int32)
    · refine g_tabI C (3 : Int32) q3 dL_law_32 (by decide) (by decide) (off := 195) (by decide) (tgt := 227) (by decide) ?_
      obtain ⟨rr, u2, v2, hE1, hE2, hR2⟩ := h_high u v hRuv (xs (nI i + (1 : Int32)).toNatClampNeg)
      refine g_aload_n C dL_law_227 2 rfl (pc2 := 228) rfl ?_
      refine g_aload_n C dL_law_228 3 rfl (pc2 := 229) rfl ?_
      refine g_iload_n C dL_law_229 0 rfl (pc2 := 230) rfl ?_
      refine g_iconst (v := (1 : Int32)) C dL_law_230 (by decide) (pc2 := 231) rfl ?_
      refine g_iadd C dL_law_231 (pc2 := 232) rfl ?_
      refine g_sld C hX hbl hbA vi1 dL_law_232 (pc2 := 233) rfl ?_
      refine g_ws (ws2 := [] ++ (XW ad cI cB u ++ (MW ad2 cI cZ v ++ []))) rfl ?_
      refine g_callM (As := [.int (xs (nI i + (1 : Int32)).toNatClampNeg)]) (rest := []) (index := 27) (n := 1) (w := XW ad cI cB) C hE1 (c_X5_high l D _ ad cI cB _ _) hKx gL_law_X5_high rfl (by decide +kernel) rfl rfl ⟨Nat.le_of_ble_eq_true rfl, Nat.le_of_ble_eq_true rfl⟩ (ci := 5) rfl rfl (xc_0 ad cI cB _) rfl rfl rfl (Nat.le_of_ble_eq_true rfl) (Nat.le_of_ble_eq_true rfl) (Nat.le_of_ble_eq_true rfl) dL_law_233 (pc2 := 236) rfl ?_
      refine g_aload_n C dL_law_236 1 rfl (pc2 := 237) rfl ?_
      refine g_aload_n C dL_law_237 3 rfl (pc2 := 238) rfl ?_
      refine g_iload_n C dL_law_238 0 rfl (pc2 := 239) rfl ?_
      refine g_iconst (v := (1 : Int32)) C dL_law_239 (by decide) (pc2 := 240) rfl ?_
      refine g_iadd C dL_law_240 (pc2 := 241) rfl ?_
      refine g_sld C hX hbl hbA vi1 dL_law_241 (pc2 := 242) rfl ?_
      refine g_ws (ws2 := (XW ad cI cB u2 ++ (MW ad2 cI cZ v ++ []))) rfl ?_
      refine g_callM (As := [.int (xs (nI i + (1 : Int32)).toNatClampNeg)]) (rest := [.int rr]) (index := 31) (n := 1) (w := MW ad2 cI cZ) C hE2 (c_X6_high l D _ ad2 cI cZ _ _) hKm gL_law_X6_high rfl (by decide +kernel) rfl rfl ⟨Nat.le_of_ble_eq_true rfl, Nat.le_of_ble_eq_true rfl⟩ (ci := 6) rfl rfl (mc_0 ad2 cI cZ _) rfl rfl rfl (Nat.le_of_ble_eq_true rfl) (Nat.le_of_ble_eq_true rfl) (Nat.le_of_ble_eq_true rfl) dL_law_242 (pc2 := 245) rfl ?_
      refine g_icmp_eq C dL_law_245 (tgt := 658) (by decide) (pc2 := 248) rfl (fun _ => ?_) (fun q => absurd rfl q)
      exact again u2 v2 h4 hR2
    by_cases q4 : sw = (4 : Int32)
    · refine g_tabI C (4 : Int32) q4 dL_law_32 (by decide) (by decide) (off := 218) (by decide) (tgt := 250) (by decide) ?_
      obtain ⟨rr, u2, v2, hE1, hE2, hR2⟩ := h_of u v hRuv (xs (nI i + (1 : Int32)).toNatClampNeg) (xs (nI i + (2 : Int32)).toNatClampNeg)
      refine g_aload_n C dL_law_250 2 rfl (pc2 := 251) rfl ?_
      refine g_aload_n C dL_law_251 3 rfl (pc2 := 252) rfl ?_
      refine g_iload_n C dL_law_252 0 rfl (pc2 := 253) rfl ?_
      refine g_iconst (v := (1 : Int32)) C dL_law_253 (by decide) (pc2 := 254) rfl ?_
      refine g_iadd C dL_law_254 (pc2 := 255) rfl ?_
      refine g_sld C hX hbl hbA vi1 dL_law_255 (pc2 := 256) rfl ?_
      refine g_aload_n C dL_law_256 3 rfl (pc2 := 257) rfl ?_
      refine g_iload_n C dL_law_257 0 rfl (pc2 := 258) rfl ?_
      refine g_iconst (v := (2 : Int32)) C dL_law_258 (by decide) (pc2 := 259) rfl ?_
      refine g_iadd C dL_law_259 (pc2 := 260) rfl ?_
      refine g_sld C hX hbl hbA vi2 dL_law_260 (pc2 := 261) rfl ?_
      refine g_ws (ws2 := [] ++ (XW ad cI cB u ++ (MW ad2 cI cZ v ++ []))) rfl ?_
      refine g_callM (As := [.int (xs (nI i + (1 : Int32)).toNatClampNeg), .int (xs (nI i + (2 : Int32)).toNatClampNeg)]) (rest := []) (index := 32) (n := 2) (w := XW ad cI cB) C hE1 (c_X5_of l D _ ad cI cB _ _ _) hKx gL_law_X5_of rfl (by decide +kernel) rfl rfl ⟨Nat.le_of_ble_eq_true rfl, Nat.le_of_ble_eq_true rfl⟩ (ci := 5) rfl rfl (xc_0 ad cI cB _) rfl rfl rfl (Nat.le_of_ble_eq_true rfl) (Nat.le_of_ble_eq_true rfl) (Nat.le_of_ble_eq_true rfl) dL_law_261 (pc2 := 264) rfl ?_
      refine g_aload_n C dL_law_264 1 rfl (pc2 := 265) rfl ?_
      refine g_aload_n C dL_law_265 3 rfl (pc2 := 266) rfl ?_
      refine g_iload_n C dL_law_266 0 rfl (pc2 := 267) rfl ?_
      refine g_iconst (v := (1 : Int32)) C dL_law_267 (by decide) (pc2 := 268) rfl ?_
      refine g_iadd C dL_law_268 (pc2 := 269) rfl ?_
      refine g_sld C hX hbl hbA vi1 dL_law_269 (pc2 := 270) rfl ?_
      refine g_aload_n C dL_law_270 3 rfl (pc2 := 271) rfl ?_
      refine g_iload_n C dL_law_271 0 rfl (pc2 := 272) rfl ?_
      refine g_iconst (v := (2 : Int32)) C dL_law_272 (by decide) (pc2 := 273) rfl ?_
      refine g_iadd C dL_law_273 (pc2 := 274) rfl ?_
      refine g_sld C hX hbl hbA vi2 dL_law_274 (pc2 := 275) rfl ?_
      refine g_ws (ws2 := (XW ad cI cB u2 ++ (MW ad2 cI cZ v ++ []))) rfl ?_
      refine g_callM (As := [.int (xs (nI i + (1 : Int32)).toNatClampNeg), .int (xs (nI i + (2 : Int32)).toNatClampNeg)]) (rest := [.int rr]) (index := 36) (n := 2) (w := MW ad2 cI cZ) C hE2 (c_X6_of l D _ ad2 cI cZ _ _ _) hKm gL_law_X6_of rfl (by decide +kernel) rfl rfl ⟨Nat.le_of_ble_eq_true rfl, Nat.le_of_ble_eq_true rfl⟩ (ci := 6) rfl rfl (mc_0 ad2 cI cZ _) rfl rfl rfl (Nat.le_of_ble_eq_true rfl) (Nat.le_of_ble_eq_true rfl) (Nat.le_of_ble_eq_true rfl) dL_law_275 (pc2 := 278) rfl ?_
      refine g_icmp_eq C dL_law_278 (tgt := 658) (by decide) (pc2 := 281) rfl (fun _ => ?_) (fun q => absurd rfl q)
      exact again u2 v2 h4 hR2
    by_cases q5 : sw = (5 : Int32)
    · refine g_tabI C (5 : Int32) q5 dL_law_32 (by decide) (by decide) (off := 251) (by decide) (tgt := 283) (by decide) ?_
      obtain ⟨rr, u2, v2, hE1, hE2, hR2⟩ := h_tier u v hRuv (xs (nI i + (1 : Int32)).toNatClampNeg) (xs (nI i + (2 : Int32)).toNatClampNeg) (xs (nI i + (3 : Int32)).toNatClampNeg)
      refine g_aload_n C dL_law_283 2 rfl (pc2 := 284) rfl ?_
      refine g_aload_n C dL_law_284 3 rfl (pc2 := 285) rfl ?_
      refine g_iload_n C dL_law_285 0 rfl (pc2 := 286) rfl ?_
      refine g_iconst (v := (1 : Int32)) C dL_law_286 (by decide) (pc2 := 287) rfl ?_
      refine g_iadd C dL_law_287 (pc2 := 288) rfl ?_
      refine g_sld C hX hbl hbA vi1 dL_law_288 (pc2 := 289) rfl ?_
      refine g_aload_n C dL_law_289 3 rfl (pc2 := 290) rfl ?_
      refine g_iload_n C dL_law_290 0 rfl (pc2 := 291) rfl ?_
      refine g_iconst (v := (2 : Int32)) C dL_law_291 (by decide) (pc2 := 292) rfl ?_
      refine g_iadd C dL_law_292 (pc2 := 293) rfl ?_
      refine g_sld C hX hbl hbA vi2 dL_law_293 (pc2 := 294) rfl ?_
      refine g_aload_n C dL_law_294 3 rfl (pc2 := 295) rfl ?_
      refine g_iload_n C dL_law_295 0 rfl (pc2 := 296) rfl ?_
      refine g_iconst (v := (3 : Int32)) C dL_law_296 (by decide) (pc2 := 297) rfl ?_
      refine g_iadd C dL_law_297 (pc2 := 298) rfl ?_
      refine g_sld C hX hbl hbA vi3 dL_law_298 (pc2 := 299) rfl ?_
      refine g_ws (ws2 := [] ++ (XW ad cI cB u ++ (MW ad2 cI cZ v ++ []))) rfl ?_
      refine g_callM (As := [.int (xs (nI i + (1 : Int32)).toNatClampNeg), .int (xs (nI i + (2 : Int32)).toNatClampNeg), .int (xs (nI i + (3 : Int32)).toNatClampNeg)]) (rest := []) (index := 37) (n := 3) (w := XW ad cI cB) C hE1 (c_X5_tier l D _ ad cI cB _ _ _ _) hKx gL_law_X5_tier rfl (by decide +kernel) rfl rfl ⟨Nat.le_of_ble_eq_true rfl, Nat.le_of_ble_eq_true rfl⟩ (ci := 5) rfl rfl (xc_0 ad cI cB _) rfl rfl rfl (Nat.le_of_ble_eq_true rfl) (Nat.le_of_ble_eq_true rfl) (Nat.le_of_ble_eq_true rfl) dL_law_299 (pc2 := 302) rfl ?_
      refine g_aload_n C dL_law_302 1 rfl (pc2 := 303) rfl ?_
      refine g_aload_n C dL_law_303 3 rfl (pc2 := 304) rfl ?_
      refine g_iload_n C dL_law_304 0 rfl (pc2 := 305) rfl ?_
      refine g_iconst (v := (1 : Int32)) C dL_law_305 (by decide) (pc2 := 306) rfl ?_
      refine g_iadd C dL_law_306 (pc2 := 307) rfl ?_
      refine g_sld C hX hbl hbA vi1 dL_law_307 (pc2 := 308) rfl ?_
      refine g_aload_n C dL_law_308 3 rfl (pc2 := 309) rfl ?_
      refine g_iload_n C dL_law_309 0 rfl (pc2 := 310) rfl ?_
      refine g_iconst (v := (2 : Int32)) C dL_law_310 (by decide) (pc2 := 311) rfl ?_
      refine g_iadd C dL_law_311 (pc2 := 312) rfl ?_
      refine g_sld C hX hbl hbA vi2 dL_law_312 (pc2 := 313) rfl ?_
      refine g_aload_n C dL_law_313 3 rfl (pc2 := 314) rfl ?_
      refine g_iload_n C dL_law_314 0 rfl (pc2 := 315) rfl ?_
      refine g_iconst (v := (3 : Int32)) C dL_law_315 (by decide) (pc2 := 316) rfl ?_
      refine g_iadd C dL_law_316 (pc2 := 317) rfl ?_
      refine g_sld C hX hbl hbA vi3 dL_law_317 (pc2 := 318) rfl ?_
      refine g_ws (ws2 := (XW ad cI cB u2 ++ (MW ad2 cI cZ v ++ []))) rfl ?_
      refine g_callM (As := [.int (xs (nI i + (1 : Int32)).toNatClampNeg), .int (xs (nI i + (2 : Int32)).toNatClampNeg), .int (xs (nI i + (3 : Int32)).toNatClampNeg)]) (rest := [.int rr]) (index := 40) (n := 3) (w := MW ad2 cI cZ) C hE2 (c_X6_tier l D _ ad2 cI cZ _ _ _ _) hKm gL_law_X6_tier rfl (by decide +kernel) rfl rfl ⟨Nat.le_of_ble_eq_true rfl, Nat.le_of_ble_eq_true rfl⟩ (ci := 6) rfl rfl (mc_0 ad2 cI cZ _) rfl rfl rfl (Nat.le_of_ble_eq_true rfl) (Nat.le_of_ble_eq_true rfl) (Nat.le_of_ble_eq_true rfl) dL_law_318 (pc2 := 321) rfl ?_
      refine g_icmp_eq C dL_law_321 (tgt := 658) (by decide) (pc2 := 324) rfl (fun _ => ?_) (fun q => absurd rfl q)
      exact again u2 v2 h4 hR2
    by_cases q6 : sw = (6 : Int32)
    · refine g_tabI C (6 : Int32) q6 dL_law_32 (by decide) (by decide) (off := 294) (by decide) (tgt := 326) (by decide) ?_
      obtain ⟨rr, u2, v2, hE1, hE2, hR2⟩ := h_say u v hRuv (xs (nI i + (1 : Int32)).toNatClampNeg)
      refine g_aload_n C dL_law_326 2 rfl (pc2 := 327) rfl ?_
      refine g_aload_n C dL_law_327 3 rfl (pc2 := 328) rfl ?_
      refine g_iload_n C dL_law_328 0 rfl (pc2 := 329) rfl ?_
      refine g_iconst (v := (1 : Int32)) C dL_law_329 (by decide) (pc2 := 330) rfl ?_
      refine g_iadd C dL_law_330 (pc2 := 331) rfl ?_
      refine g_sld C hX hbl hbA vi1 dL_law_331 (pc2 := 332) rfl ?_
      refine g_ws (ws2 := [] ++ (XW ad cI cB u ++ (MW ad2 cI cZ v ++ []))) rfl ?_
      refine g_callM (As := [.int (xs (nI i + (1 : Int32)).toNatClampNeg)]) (rest := []) (index := 41) (n := 1) (w := XW ad cI cB) C hE1 (c_X5_say l D _ ad cI cB _ _) hKx gL_law_X5_say rfl (by decide +kernel) rfl rfl ⟨Nat.le_of_ble_eq_true rfl, Nat.le_of_ble_eq_true rfl⟩ (ci := 5) rfl rfl (xc_0 ad cI cB _) rfl rfl rfl (Nat.le_of_ble_eq_true rfl) (Nat.le_of_ble_eq_true rfl) (Nat.le_of_ble_eq_true rfl) dL_law_332 (pc2 := 335) rfl ?_
      refine g_aload_n C dL_law_335 1 rfl (pc2 := 336) rfl ?_
      refine g_aload_n C dL_law_336 3 rfl (pc2 := 337) rfl ?_
      refine g_iload_n C dL_law_337 0 rfl (pc2 := 338) rfl ?_
      refine g_iconst (v := (1 : Int32)) C dL_law_338 (by decide) (pc2 := 339) rfl ?_
      refine g_iadd C dL_law_339 (pc2 := 340) rfl ?_
      refine g_sld C hX hbl hbA vi1 dL_law_340 (pc2 := 341) rfl ?_
      refine g_ws (ws2 := (XW ad cI cB u2 ++ (MW ad2 cI cZ v ++ []))) rfl ?_
      refine g_callM (As := [.int (xs (nI i + (1 : Int32)).toNatClampNeg)]) (rest := [.int rr]) (index := 44) (n := 1) (w := MW ad2 cI cZ) C hE2 (c_X6_say l D _ ad2 cI cZ _ _) hKm gL_law_X6_say rfl (by decide +kernel) rfl rfl ⟨Nat.le_of_ble_eq_true rfl, Nat.le_of_ble_eq_true rfl⟩ (ci := 6) rfl rfl (mc_0 ad2 cI cZ _) rfl rfl rfl (Nat.le_of_ble_eq_true rfl) (Nat.le_of_ble_eq_true rfl) (Nat.le_of_ble_eq_true rfl) dL_law_341 (pc2 := 344) rfl ?_
      refine g_icmp_eq C dL_law_344 (tgt := 658) (by decide) (pc2 := 347) rfl (fun _ => ?_) (fun q => absurd rfl q)
      exact again u2 v2 h4 hR2
    by_cases q7 : sw = (7 : Int32)
    · refine g_tabI C (7 : Int32) q7 dL_law_32 (by decide) (by decide) (off := 317) (by decide) (tgt := 349) (by decide) ?_
      obtain ⟨rr, u2, v2, hE1, hE2, hR2⟩ := h_wipe u v hRuv 
      refine g_aload_n C dL_law_349 2 rfl (pc2 := 350) rfl ?_
      refine g_ws (ws2 := [] ++ (XW ad cI cB u ++ (MW ad2 cI cZ v ++ []))) rfl ?_
      refine g_callM (As := []) (rest := []) (index := 45) (n := 0) (w := XW ad cI cB) C hE1 (c_X5_wipe l D _ ad cI cB _ ) hKx gL_law_X5_wipe rfl (by decide +kernel) rfl rfl ⟨Nat.le_of_ble_eq_true rfl, Nat.le_of_ble_eq_true rfl⟩ (ci := 5) rfl rfl (xc_0 ad cI cB _) rfl rfl rfl (Nat.le_of_ble_eq_true rfl) (Nat.le_of_ble_eq_true rfl) (Nat.le_of_ble_eq_true rfl) dL_law_350 (pc2 := 353) rfl ?_
      refine g_aload_n C dL_law_353 1 rfl (pc2 := 354) rfl ?_
      refine g_ws (ws2 := (XW ad cI cB u2 ++ (MW ad2 cI cZ v ++ []))) rfl ?_
      refine g_callM (As := []) (rest := [.int rr]) (index := 48) (n := 0) (w := MW ad2 cI cZ) C hE2 (c_X6_wipe l D _ ad2 cI cZ _ ) hKm gL_law_X6_wipe rfl (by decide +kernel) rfl rfl ⟨Nat.le_of_ble_eq_true rfl, Nat.le_of_ble_eq_true rfl⟩ (ci := 6) rfl rfl (mc_0 ad2 cI cZ _) rfl rfl rfl (Nat.le_of_ble_eq_true rfl) (Nat.le_of_ble_eq_true rfl) (Nat.le_of_ble_eq_true rfl) dL_law_354 (pc2 := 357) rfl ?_
      refine g_icmp_eq C dL_law_357 (tgt := 658) (by decide) (pc2 := 360) rfl (fun _ => ?_) (fun q => absurd rfl q)
      exact again u2 v2 h4 hR2
    by_cases q8 : sw = (8 : Int32)
    · refine g_tabI C (8 : Int32) q8 dL_law_32 (by decide) (by decide) (off := 330) (by decide) (tgt := 362) (by decide) ?_
      obtain ⟨rr, u2, v2, hE1, hE2, hR2⟩ := h_judge u v hRuv (xs (nI i + (1 : Int32)).toNatClampNeg)
      refine g_aload_n C dL_law_362 2 rfl (pc2 := 363) rfl ?_
      refine g_aload_n C dL_law_363 3 rfl (pc2 := 364) rfl ?_
      refine g_iload_n C dL_law_364 0 rfl (pc2 := 365) rfl ?_
      refine g_iconst (v := (1 : Int32)) C dL_law_365 (by decide) (pc2 := 366) rfl ?_
      refine g_iadd C dL_law_366 (pc2 := 367) rfl ?_
      refine g_sld C hX hbl hbA vi1 dL_law_367 (pc2 := 368) rfl ?_
      refine g_ws (ws2 := [] ++ (XW ad cI cB u ++ (MW ad2 cI cZ v ++ []))) rfl ?_
      refine g_callM (As := [.int (xs (nI i + (1 : Int32)).toNatClampNeg)]) (rest := []) (index := 49) (n := 1) (w := XW ad cI cB) C hE1 (c_X5_judge l D _ ad cI cB _ _) hKx gL_law_X5_judge rfl (by decide +kernel) rfl rfl ⟨Nat.le_of_ble_eq_true rfl, Nat.le_of_ble_eq_true rfl⟩ (ci := 5) rfl rfl (xc_0 ad cI cB _) rfl rfl rfl (Nat.le_of_ble_eq_true rfl) (Nat.le_of_ble_eq_true rfl) (Nat.le_of_ble_eq_true rfl) dL_law_368 (pc2 := 371) rfl ?_
      refine g_aload_n C dL_law_371 1 rfl (pc2 := 372) rfl ?_
      refine g_aload_n C dL_law_372 3 rfl (pc2 := 373) rfl ?_
      refine g_iload_n C dL_law_373 0 rfl (pc2 := 374) rfl ?_
      refine g_iconst (v := (1 : Int32)) C dL_law_374 (by decide) (pc2 := 375) rfl ?_
      refine g_iadd C dL_law_375 (pc2 := 376) rfl ?_
      refine g_sld C hX hbl hbA vi1 dL_law_376 (pc2 := 377) rfl ?_
      refine g_ws (ws2 := (XW ad cI cB u2 ++ (MW ad2 cI cZ v ++ []))) rfl ?_
      refine g_callM (As := [.int (xs (nI i + (1 : Int32)).toNatClampNeg)]) (rest := [.int rr]) (index := 52) (n := 1) (w := MW ad2 cI cZ) C hE2 (c_X6_judge l D _ ad2 cI cZ _ _) hKm gL_law_X6_judge rfl (by decide +kernel) rfl rfl ⟨Nat.le_of_ble_eq_true rfl, Nat.le_of_ble_eq_true rfl⟩ (ci := 6) rfl rfl (mc_0 ad2 cI cZ _) rfl rfl rfl (Nat.le_of_ble_eq_true rfl) (Nat.le_of_ble_eq_true rfl) (Nat.le_of_ble_eq_true rfl) dL_law_377 (pc2 := 380) rfl ?_
      refine g_icmp_eq C dL_law_380 (tgt := 658) (by decide) (pc2 := 383) rfl (fun _ => ?_) (fun q => absurd rfl q)
      exact again u2 v2 h4 hR2
    by_cases q9 : sw = (9 : Int32)
    · refine g_tabI C (9 : Int32) q9 dL_law_32 (by decide) (by decide) (off := 353) (by decide) (tgt := 385) (by decide) ?_
      obtain ⟨rr, u2, v2, hE1, hE2, hR2⟩ := h_told u v hRuv (xs (nI i + (1 : Int32)).toNatClampNeg)
      refine g_aload_n C dL_law_385 2 rfl (pc2 := 386) rfl ?_
      refine g_aload_n C dL_law_386 3 rfl (pc2 := 387) rfl ?_
      refine g_iload_n C dL_law_387 0 rfl (pc2 := 388) rfl ?_
      refine g_iconst (v := (1 : Int32)) C dL_law_388 (by decide) (pc2 := 389) rfl ?_
      refine g_iadd C dL_law_389 (pc2 := 390) rfl ?_
      refine g_sld C hX hbl hbA vi1 dL_law_390 (pc2 := 391) rfl ?_
      refine g_ws (ws2 := [] ++ (XW ad cI cB u ++ (MW ad2 cI cZ v ++ []))) rfl ?_
      refine g_callM (As := [.int (xs (nI i + (1 : Int32)).toNatClampNeg)]) (rest := []) (index := 53) (n := 1) (w := XW ad cI cB) C hE1 (c_X5_told l D _ ad cI cB _ _) hKx gL_law_X5_told rfl (by decide +kernel) rfl rfl ⟨Nat.le_of_ble_eq_true rfl, Nat.le_of_ble_eq_true rfl⟩ (ci := 5) rfl rfl (xc_0 ad cI cB _) rfl rfl rfl (Nat.le_of_ble_eq_true rfl) (Nat.le_of_ble_eq_true rfl) (Nat.le_of_ble_eq_true rfl) dL_law_391 (pc2 := 394) rfl ?_
      refine g_aload_n C dL_law_394 1 rfl (pc2 := 395) rfl ?_
      refine g_aload_n C dL_law_395 3 rfl (pc2 := 396) rfl ?_
      refine g_iload_n C dL_law_396 0 rfl (pc2 := 397) rfl ?_
      refine g_iconst (v := (1 : Int32)) C dL_law_397 (by decide) (pc2 := 398) rfl ?_
      refine g_iadd C dL_law_398 (pc2 := 399) rfl ?_
      refine g_sld C hX hbl hbA vi1 dL_law_399 (pc2 := 400) rfl ?_
      refine g_ws (ws2 := (XW ad cI cB u2 ++ (MW ad2 cI cZ v ++ []))) rfl ?_
      refine g_callM (As := [.int (xs (nI i + (1 : Int32)).toNatClampNeg)]) (rest := [.int rr]) (index := 56) (n := 1) (w := MW ad2 cI cZ) C hE2 (c_X6_told l D _ ad2 cI cZ _ _) hKm gL_law_X6_told rfl (by decide +kernel) rfl rfl ⟨Nat.le_of_ble_eq_true rfl, Nat.le_of_ble_eq_true rfl⟩ (ci := 6) rfl rfl (mc_0 ad2 cI cZ _) rfl rfl rfl (Nat.le_of_ble_eq_true rfl) (Nat.le_of_ble_eq_true rfl) (Nat.le_of_ble_eq_true rfl) dL_law_400 (pc2 := 403) rfl ?_
      refine g_icmp_eq C dL_law_403 (tgt := 658) (by decide) (pc2 := 406) rfl (fun _ => ?_) (fun q => absurd rfl q)
      exact again u2 v2 h4 hR2
    by_cases q10 : sw = (10 : Int32)
    · refine g_tabI C (10 : Int32) q10 dL_law_32 (by decide) (by decide) (off := 376) (by decide) (tgt := 408) (by decide) ?_
      obtain ⟨rr, u2, v2, hE1, hE2, hR2⟩ := h_at u v hRuv (xs (nI i + (1 : Int32)).toNatClampNeg) (xs (nI i + (2 : Int32)).toNatClampNeg)
      refine g_aload_n C dL_law_408 2 rfl (pc2 := 409) rfl ?_
      refine g_aload_n C dL_law_409 3 rfl (pc2 := 410) rfl ?_
      refine g_iload_n C dL_law_410 0 rfl (pc2 := 411) rfl ?_
      refine g_iconst (v := (1 : Int32)) C dL_law_411 (by decide) (pc2 := 412) rfl ?_
      refine g_iadd C dL_law_412 (pc2 := 413) rfl ?_
      refine g_sld C hX hbl hbA vi1 dL_law_413 (pc2 := 414) rfl ?_
      refine g_aload_n C dL_law_414 3 rfl (pc2 := 415) rfl ?_
      refine g_iload_n C dL_law_415 0 rfl (pc2 := 416) rfl ?_
      refine g_iconst (v := (2 : Int32)) C dL_law_416 (by decide) (pc2 := 417) rfl ?_
      refine g_iadd C dL_law_417 (pc2 := 418) rfl ?_
      refine g_sld C hX hbl hbA vi2 dL_law_418 (pc2 := 419) rfl ?_
      refine g_ws (ws2 := [] ++ (XW ad cI cB u ++ (MW ad2 cI cZ v ++ []))) rfl ?_
      refine g_callM (As := [.int (xs (nI i + (1 : Int32)).toNatClampNeg), .int (xs (nI i + (2 : Int32)).toNatClampNeg)]) (rest := []) (index := 57) (n := 2) (w := XW ad cI cB) C hE1 (c_X5_at l D _ ad cI cB _ _ _) hKx gL_law_X5_at rfl (by decide +kernel) rfl rfl ⟨Nat.le_of_ble_eq_true rfl, Nat.le_of_ble_eq_true rfl⟩ (ci := 5) rfl rfl (xc_0 ad cI cB _) rfl rfl rfl (Nat.le_of_ble_eq_true rfl) (Nat.le_of_ble_eq_true rfl) (Nat.le_of_ble_eq_true rfl) dL_law_419 (pc2 := 422) rfl ?_
      refine g_aload_n C dL_law_422 1 rfl (pc2 := 423) rfl ?_
      refine g_aload_n C dL_law_423 3 rfl (pc2 := 424) rfl ?_
      refine g_iload_n C dL_law_424 0 rfl (pc2 := 425) rfl ?_
      refine g_iconst (v := (1 : Int32)) C dL_law_425 (by decide) (pc2 := 426) rfl ?_
      refine g_iadd C dL_law_426 (pc2 := 427) rfl ?_
      refine g_sld C hX hbl hbA vi1 dL_law_427 (pc2 := 428) rfl ?_
      refine g_aload_n C dL_law_428 3 rfl (pc2 := 429) rfl ?_
      refine g_iload_n C dL_law_429 0 rfl (pc2 := 430) rfl ?_
      refine g_iconst (v := (2 : Int32)) C dL_law_430 (by decide) (pc2 := 431) rfl ?_
      refine g_iadd C dL_law_431 (pc2 := 432) rfl ?_
      refine g_sld C hX hbl hbA vi2 dL_law_432 (pc2 := 433) rfl ?_
      refine g_ws (ws2 := (XW ad cI cB u2 ++ (MW ad2 cI cZ v ++ []))) rfl ?_
      refine g_callM (As := [.int (xs (nI i + (1 : Int32)).toNatClampNeg), .int (xs (nI i + (2 : Int32)).toNatClampNeg)]) (rest := [.int rr]) (index := 60) (n := 2) (w := MW ad2 cI cZ) C hE2 (c_X6_at l D _ ad2 cI cZ _ _ _) hKm gL_law_X6_at rfl (by decide +kernel) rfl rfl ⟨Nat.le_of_ble_eq_true rfl, Nat.le_of_ble_eq_true rfl⟩ (ci := 6) rfl rfl (mc_0 ad2 cI cZ _) rfl rfl rfl (Nat.le_of_ble_eq_true rfl) (Nat.le_of_ble_eq_true rfl) (Nat.le_of_ble_eq_true rfl) dL_law_433 (pc2 := 436) rfl ?_
      refine g_icmp_eq C dL_law_436 (tgt := 658) (by decide) (pc2 := 439) rfl (fun _ => ?_) (fun q => absurd rfl q)
      exact again u2 v2 h4 hR2
    by_cases q11 : sw = (11 : Int32)
    · refine g_tabI C (11 : Int32) q11 dL_law_32 (by decide) (by decide) (off := 409) (by decide) (tgt := 441) (by decide) ?_
      obtain ⟨rr, u2, v2, hE1, hE2, hR2⟩ := h_best u v hRuv (xs (nI i + (1 : Int32)).toNatClampNeg)
      refine g_aload_n C dL_law_441 2 rfl (pc2 := 442) rfl ?_
      refine g_aload_n C dL_law_442 3 rfl (pc2 := 443) rfl ?_
      refine g_iload_n C dL_law_443 0 rfl (pc2 := 444) rfl ?_
      refine g_iconst (v := (1 : Int32)) C dL_law_444 (by decide) (pc2 := 445) rfl ?_
      refine g_iadd C dL_law_445 (pc2 := 446) rfl ?_
      refine g_sld C hX hbl hbA vi1 dL_law_446 (pc2 := 447) rfl ?_
      refine g_ws (ws2 := [] ++ (XW ad cI cB u ++ (MW ad2 cI cZ v ++ []))) rfl ?_
      refine g_callM (As := [.int (xs (nI i + (1 : Int32)).toNatClampNeg)]) (rest := []) (index := 61) (n := 1) (w := XW ad cI cB) C hE1 (c_X5_best l D _ ad cI cB _ _) hKx gL_law_X5_best rfl (by decide +kernel) rfl rfl ⟨Nat.le_of_ble_eq_true rfl, Nat.le_of_ble_eq_true rfl⟩ (ci := 5) rfl rfl (xc_0 ad cI cB _) rfl rfl rfl (Nat.le_of_ble_eq_true rfl) (Nat.le_of_ble_eq_true rfl) (Nat.le_of_ble_eq_true rfl) dL_law_447 (pc2 := 450) rfl ?_
      refine g_aload_n C dL_law_450 1 rfl (pc2 := 451) rfl ?_
      refine g_aload_n C dL_law_451 3 rfl (pc2 := 452) rfl ?_
      refine g_iload_n C dL_law_452 0 rfl (pc2 := 453) rfl ?_
      refine g_iconst (v := (1 : Int32)) C dL_law_453 (by decide) (pc2 := 454) rfl ?_
      refine g_iadd C dL_law_454 (pc2 := 455) rfl ?_
      refine g_sld C hX hbl hbA vi1 dL_law_455 (pc2 := 456) rfl ?_
      refine g_ws (ws2 := (XW ad cI cB u2 ++ (MW ad2 cI cZ v ++ []))) rfl ?_
      refine g_callM (As := [.int (xs (nI i + (1 : Int32)).toNatClampNeg)]) (rest := [.int rr]) (index := 64) (n := 1) (w := MW ad2 cI cZ) C hE2 (c_X6_best l D _ ad2 cI cZ _ _) hKm gL_law_X6_best rfl (by decide +kernel) rfl rfl ⟨Nat.le_of_ble_eq_true rfl, Nat.le_of_ble_eq_true rfl⟩ (ci := 6) rfl rfl (mc_0 ad2 cI cZ _) rfl rfl rfl (Nat.le_of_ble_eq_true rfl) (Nat.le_of_ble_eq_true rfl) (Nat.le_of_ble_eq_true rfl) dL_law_456 (pc2 := 459) rfl ?_
      refine g_icmp_eq C dL_law_459 (tgt := 658) (by decide) (pc2 := 462) rfl (fun _ => ?_) (fun q => absurd rfl q)
      exact again u2 v2 h4 hR2
    by_cases q12 : sw = (12 : Int32)
    · refine g_tabI C (12 : Int32) q12 dL_law_32 (by decide) (by decide) (off := 432) (by decide) (tgt := 464) (by decide) ?_
      obtain ⟨rr, u2, v2, hE1, hE2, hR2⟩ := h_lay u v hRuv 
      refine g_aload_n C dL_law_464 2 rfl (pc2 := 465) rfl ?_
      refine g_ws (ws2 := [] ++ (XW ad cI cB u ++ (MW ad2 cI cZ v ++ []))) rfl ?_
      refine g_callM (As := []) (rest := []) (index := 65) (n := 0) (w := XW ad cI cB) C hE1 (c_X5_lay l D _ ad cI cB _ ) hKx gL_law_X5_lay rfl (by decide +kernel) rfl rfl ⟨Nat.le_of_ble_eq_true rfl, Nat.le_of_ble_eq_true rfl⟩ (ci := 5) rfl rfl (xc_0 ad cI cB _) rfl rfl rfl (Nat.le_of_ble_eq_true rfl) (Nat.le_of_ble_eq_true rfl) (Nat.le_of_ble_eq_true rfl) dL_law_465 (pc2 := 468) rfl ?_
      refine g_aload_n C dL_law_468 1 rfl (pc2 := 469) rfl ?_
      refine g_ws (ws2 := (XW ad cI cB u2 ++ (MW ad2 cI cZ v ++ []))) rfl ?_
      refine g_callM (As := []) (rest := [.int rr]) (index := 68) (n := 0) (w := MW ad2 cI cZ) C hE2 (c_X6_lay l D _ ad2 cI cZ _ ) hKm gL_law_X6_lay rfl (by decide +kernel) rfl rfl ⟨Nat.le_of_ble_eq_true rfl, Nat.le_of_ble_eq_true rfl⟩ (ci := 6) rfl rfl (mc_0 ad2 cI cZ _) rfl rfl rfl (Nat.le_of_ble_eq_true rfl) (Nat.le_of_ble_eq_true rfl) (Nat.le_of_ble_eq_true rfl) dL_law_469 (pc2 := 472) rfl ?_
      refine g_icmp_eq C dL_law_472 (tgt := 658) (by decide) (pc2 := 475) rfl (fun _ => ?_) (fun q => absurd rfl q)
      exact again u2 v2 h4 hR2
    by_cases q13 : sw = (13 : Int32)
    · refine g_tabI C (13 : Int32) q13 dL_law_32 (by decide) (by decide) (off := 445) (by decide) (tgt := 477) (by decide) ?_
      obtain ⟨rr, u2, v2, hE1, hE2, hR2⟩ := h_talk u v hRuv (xs (nI i + (1 : Int32)).toNatClampNeg)
      refine g_aload_n C dL_law_477 2 rfl (pc2 := 478) rfl ?_
      refine g_aload_n C dL_law_478 3 rfl (pc2 := 479) rfl ?_
      refine g_iload_n C dL_law_479 0 rfl (pc2 := 480) rfl ?_
      refine g_iconst (v := (1 : Int32)) C dL_law_480 (by decide) (pc2 := 481) rfl ?_
      refine g_iadd C dL_law_481 (pc2 := 482) rfl ?_
      refine g_sld C hX hbl hbA vi1 dL_law_482 (pc2 := 483) rfl ?_
      refine g_ws (ws2 := [] ++ (XW ad cI cB u ++ (MW ad2 cI cZ v ++ []))) rfl ?_
      refine g_callM (As := [.int (xs (nI i + (1 : Int32)).toNatClampNeg)]) (rest := []) (index := 69) (n := 1) (w := XW ad cI cB) C hE1 (c_X5_talk l D _ ad cI cB _ _) hKx gL_law_X5_talk rfl (by decide +kernel) rfl rfl ⟨Nat.le_of_ble_eq_true rfl, Nat.le_of_ble_eq_true rfl⟩ (ci := 5) rfl rfl (xc_0 ad cI cB _) rfl rfl rfl (Nat.le_of_ble_eq_true rfl) (Nat.le_of_ble_eq_true rfl) (Nat.le_of_ble_eq_true rfl) dL_law_483 (pc2 := 486) rfl ?_
      refine g_aload_n C dL_law_486 1 rfl (pc2 := 487) rfl ?_
      refine g_aload_n C dL_law_487 3 rfl (pc2 := 488) rfl ?_
      refine g_iload_n C dL_law_488 0 rfl (pc2 := 489) rfl ?_
      refine g_iconst (v := (1 : Int32)) C dL_law_489 (by decide) (pc2 := 490) rfl ?_
      refine g_iadd C dL_law_490 (pc2 := 491) rfl ?_
      refine g_sld C hX hbl hbA vi1 dL_law_491 (pc2 := 492) rfl ?_
      refine g_ws (ws2 := (XW ad cI cB u2 ++ (MW ad2 cI cZ v ++ []))) rfl ?_
      refine g_callM (As := [.int (xs (nI i + (1 : Int32)).toNatClampNeg)]) (rest := [.int rr]) (index := 72) (n := 1) (w := MW ad2 cI cZ) C hE2 (c_X6_talk l D _ ad2 cI cZ _ _) hKm gL_law_X6_talk rfl (by decide +kernel) rfl rfl ⟨Nat.le_of_ble_eq_true rfl, Nat.le_of_ble_eq_true rfl⟩ (ci := 6) rfl rfl (mc_0 ad2 cI cZ _) rfl rfl rfl (Nat.le_of_ble_eq_true rfl) (Nat.le_of_ble_eq_true rfl) (Nat.le_of_ble_eq_true rfl) dL_law_492 (pc2 := 495) rfl ?_
      refine g_icmp_eq C dL_law_495 (tgt := 658) (by decide) (pc2 := 498) rfl (fun _ => ?_) (fun q => absurd rfl q)
      exact again u2 v2 h4 hR2
    by_cases q14 : sw = (14 : Int32)
    · refine g_tabI C (14 : Int32) q14 dL_law_32 (by decide) (by decide) (off := 468) (by decide) (tgt := 500) (by decide) ?_
      obtain ⟨rr, u2, v2, hE1, hE2, hR2⟩ := h_speaker u v hRuv (xs (nI i + (1 : Int32)).toNatClampNeg) (xs (nI i + (2 : Int32)).toNatClampNeg)
      refine g_aload_n C dL_law_500 2 rfl (pc2 := 501) rfl ?_
      refine g_aload_n C dL_law_501 3 rfl (pc2 := 502) rfl ?_
      refine g_iload_n C dL_law_502 0 rfl (pc2 := 503) rfl ?_
      refine g_iconst (v := (1 : Int32)) C dL_law_503 (by decide) (pc2 := 504) rfl ?_
      refine g_iadd C dL_law_504 (pc2 := 505) rfl ?_
      refine g_sld C hX hbl hbA vi1 dL_law_505 (pc2 := 506) rfl ?_
      refine g_aload_n C dL_law_506 3 rfl (pc2 := 507) rfl ?_
      refine g_iload_n C dL_law_507 0 rfl (pc2 := 508) rfl ?_
      refine g_iconst (v := (2 : Int32)) C dL_law_508 (by decide) (pc2 := 509) rfl ?_
      refine g_iadd C dL_law_509 (pc2 := 510) rfl ?_
      refine g_sld C hX hbl hbA vi2 dL_law_510 (pc2 := 511) rfl ?_
      refine g_ws (ws2 := [] ++ (XW ad cI cB u ++ (MW ad2 cI cZ v ++ []))) rfl ?_
      refine g_callM (As := [.int (xs (nI i + (1 : Int32)).toNatClampNeg), .int (xs (nI i + (2 : Int32)).toNatClampNeg)]) (rest := []) (index := 73) (n := 2) (w := XW ad cI cB) C hE1 (c_X5_speaker l D _ ad cI cB _ _ _) hKx gL_law_X5_speaker rfl (by decide +kernel) rfl rfl ⟨Nat.le_of_ble_eq_true rfl, Nat.le_of_ble_eq_true rfl⟩ (ci := 5) rfl rfl (xc_0 ad cI cB _) rfl rfl rfl (Nat.le_of_ble_eq_true rfl) (Nat.le_of_ble_eq_true rfl) (Nat.le_of_ble_eq_true rfl) dL_law_511 (pc2 := 514) rfl ?_
      refine g_aload_n C dL_law_514 1 rfl (pc2 := 515) rfl ?_
      refine g_aload_n C dL_law_515 3 rfl (pc2 := 516) rfl ?_
      refine g_iload_n C dL_law_516 0 rfl (pc2 := 517) rfl ?_
      refine g_iconst (v := (1 : Int32)) C dL_law_517 (by decide) (pc2 := 518) rfl ?_
      refine g_iadd C dL_law_518 (pc2 := 519) rfl ?_
      refine g_sld C hX hbl hbA vi1 dL_law_519 (pc2 := 520) rfl ?_
      refine g_aload_n C dL_law_520 3 rfl (pc2 := 521) rfl ?_
      refine g_iload_n C dL_law_521 0 rfl (pc2 := 522) rfl ?_
      refine g_iconst (v := (2 : Int32)) C dL_law_522 (by decide) (pc2 := 523) rfl ?_
      refine g_iadd C dL_law_523 (pc2 := 524) rfl ?_
      refine g_sld C hX hbl hbA vi2 dL_law_524 (pc2 := 525) rfl ?_
      refine g_ws (ws2 := (XW ad cI cB u2 ++ (MW ad2 cI cZ v ++ []))) rfl ?_
      refine g_callM (As := [.int (xs (nI i + (1 : Int32)).toNatClampNeg), .int (xs (nI i + (2 : Int32)).toNatClampNeg)]) (rest := [.int rr]) (index := 76) (n := 2) (w := MW ad2 cI cZ) C hE2 (c_X6_speaker l D _ ad2 cI cZ _ _ _) hKm gL_law_X6_speaker rfl (by decide +kernel) rfl rfl ⟨Nat.le_of_ble_eq_true rfl, Nat.le_of_ble_eq_true rfl⟩ (ci := 6) rfl rfl (mc_0 ad2 cI cZ _) rfl rfl rfl (Nat.le_of_ble_eq_true rfl) (Nat.le_of_ble_eq_true rfl) (Nat.le_of_ble_eq_true rfl) dL_law_525 (pc2 := 528) rfl ?_
      refine g_icmp_eq C dL_law_528 (tgt := 658) (by decide) (pc2 := 531) rfl (fun _ => ?_) (fun q => absurd rfl q)
      exact again u2 v2 h4 hR2
    by_cases q15 : sw = (15 : Int32)
    · refine g_tabI C (15 : Int32) q15 dL_law_32 (by decide) (by decide) (off := 501) (by decide) (tgt := 533) (by decide) ?_
      obtain ⟨rr, u2, v2, hE1, hE2, hR2⟩ := h_good u v hRuv (xs (nI i + (1 : Int32)).toNatClampNeg) (xs (nI i + (2 : Int32)).toNatClampNeg)
      refine g_aload_n C dL_law_533 2 rfl (pc2 := 534) rfl ?_
      refine g_aload_n C dL_law_534 3 rfl (pc2 := 535) rfl ?_
      refine g_iload_n C dL_law_535 0 rfl (pc2 := 536) rfl ?_
      refine g_iconst (v := (1 : Int32)) C dL_law_536 (by decide) (pc2 := 537) rfl ?_
      refine g_iadd C dL_law_537 (pc2 := 538) rfl ?_
      refine g_sld C hX hbl hbA vi1 dL_law_538 (pc2 := 539) rfl ?_
      refine g_aload_n C dL_law_539 3 rfl (pc2 := 540) rfl ?_
      refine g_iload_n C dL_law_540 0 rfl (pc2 := 541) rfl ?_
      refine g_iconst (v := (2 : Int32)) C dL_law_541 (by decide) (pc2 := 542) rfl ?_
      refine g_iadd C dL_law_542 (pc2 := 543) rfl ?_
      refine g_sld C hX hbl hbA vi2 dL_law_543 (pc2 := 544) rfl ?_
      refine g_ws (ws2 := [] ++ (XW ad cI cB u ++ (MW ad2 cI cZ v ++ []))) rfl ?_
      refine g_callM (As := [.int (xs (nI i + (1 : Int32)).toNatClampNeg), .int (xs (nI i + (2 : Int32)).toNatClampNeg)]) (rest := []) (index := 77) (n := 2) (w := XW ad cI cB) C hE1 (c_X5_good l D _ ad cI cB _ _ _) hKx gL_law_X5_good rfl (by decide +kernel) rfl rfl ⟨Nat.le_of_ble_eq_true rfl, Nat.le_of_ble_eq_true rfl⟩ (ci := 5) rfl rfl (xc_0 ad cI cB _) rfl rfl rfl (Nat.le_of_ble_eq_true rfl) (Nat.le_of_ble_eq_true rfl) (Nat.le_of_ble_eq_true rfl) dL_law_544 (pc2 := 547) rfl ?_
      refine g_aload_n C dL_law_547 1 rfl (pc2 := 548) rfl ?_
      refine g_aload_n C dL_law_548 3 rfl (pc2 := 549) rfl ?_
      refine g_iload_n C dL_law_549 0 rfl (pc2 := 550) rfl ?_
      refine g_iconst (v := (1 : Int32)) C dL_law_550 (by decide) (pc2 := 551) rfl ?_
      refine g_iadd C dL_law_551 (pc2 := 552) rfl ?_
      refine g_sld C hX hbl hbA vi1 dL_law_552 (pc2 := 553) rfl ?_
      refine g_aload_n C dL_law_553 3 rfl (pc2 := 554) rfl ?_
      refine g_iload_n C dL_law_554 0 rfl (pc2 := 555) rfl ?_
      refine g_iconst (v := (2 : Int32)) C dL_law_555 (by decide) (pc2 := 556) rfl ?_
      refine g_iadd C dL_law_556 (pc2 := 557) rfl ?_
      refine g_sld C hX hbl hbA vi2 dL_law_557 (pc2 := 558) rfl ?_
      refine g_ws (ws2 := (XW ad cI cB u2 ++ (MW ad2 cI cZ v ++ []))) rfl ?_
      refine g_callM (As := [.int (xs (nI i + (1 : Int32)).toNatClampNeg), .int (xs (nI i + (2 : Int32)).toNatClampNeg)]) (rest := [.int rr]) (index := 80) (n := 2) (w := MW ad2 cI cZ) C hE2 (c_X6_good l D _ ad2 cI cZ _ _ _) hKm gL_law_X6_good rfl (by decide +kernel) rfl rfl ⟨Nat.le_of_ble_eq_true rfl, Nat.le_of_ble_eq_true rfl⟩ (ci := 6) rfl rfl (mc_0 ad2 cI cZ _) rfl rfl rfl (Nat.le_of_ble_eq_true rfl) (Nat.le_of_ble_eq_true rfl) (Nat.le_of_ble_eq_true rfl) dL_law_558 (pc2 := 561) rfl ?_
      refine g_icmp_eq C dL_law_561 (tgt := 658) (by decide) (pc2 := 564) rfl (fun _ => ?_) (fun q => absurd rfl q)
      exact again u2 v2 h4 hR2
    by_cases q16 : sw = (16 : Int32)
    · refine g_tabI C (16 : Int32) q16 dL_law_32 (by decide) (by decide) (off := 534) (by decide) (tgt := 566) (by decide) ?_
      obtain ⟨rr, u2, v2, hE1, hE2, hR2⟩ := h_isGood u v hRuv (xs (nI i + (1 : Int32)).toNatClampNeg)
      refine g_aload_n C dL_law_566 2 rfl (pc2 := 567) rfl ?_
      refine g_aload_n C dL_law_567 3 rfl (pc2 := 568) rfl ?_
      refine g_iload_n C dL_law_568 0 rfl (pc2 := 569) rfl ?_
      refine g_iconst (v := (1 : Int32)) C dL_law_569 (by decide) (pc2 := 570) rfl ?_
      refine g_iadd C dL_law_570 (pc2 := 571) rfl ?_
      refine g_sld C hX hbl hbA vi1 dL_law_571 (pc2 := 572) rfl ?_
      refine g_ws (ws2 := [] ++ (XW ad cI cB u ++ (MW ad2 cI cZ v ++ []))) rfl ?_
      refine g_callM (As := [.int (xs (nI i + (1 : Int32)).toNatClampNeg)]) (rest := []) (index := 81) (n := 1) (w := XW ad cI cB) C hE1 (c_X5_isGood l D _ ad cI cB _ _) hKx gL_law_X5_isGood rfl (by decide +kernel) rfl rfl ⟨Nat.le_of_ble_eq_true rfl, Nat.le_of_ble_eq_true rfl⟩ (ci := 5) rfl rfl (xc_0 ad cI cB _) rfl rfl rfl (Nat.le_of_ble_eq_true rfl) (Nat.le_of_ble_eq_true rfl) (Nat.le_of_ble_eq_true rfl) dL_law_572 (pc2 := 575) rfl ?_
      refine g_aload_n C dL_law_575 1 rfl (pc2 := 576) rfl ?_
      refine g_aload_n C dL_law_576 3 rfl (pc2 := 577) rfl ?_
      refine g_iload_n C dL_law_577 0 rfl (pc2 := 578) rfl ?_
      refine g_iconst (v := (1 : Int32)) C dL_law_578 (by decide) (pc2 := 579) rfl ?_
      refine g_iadd C dL_law_579 (pc2 := 580) rfl ?_
      refine g_sld C hX hbl hbA vi1 dL_law_580 (pc2 := 581) rfl ?_
      refine g_ws (ws2 := (XW ad cI cB u2 ++ (MW ad2 cI cZ v ++ []))) rfl ?_
      refine g_callM (As := [.int (xs (nI i + (1 : Int32)).toNatClampNeg)]) (rest := [.int rr]) (index := 84) (n := 1) (w := MW ad2 cI cZ) C hE2 (c_X6_isGood l D _ ad2 cI cZ _ _) hKm gL_law_X6_isGood rfl (by decide +kernel) rfl rfl ⟨Nat.le_of_ble_eq_true rfl, Nat.le_of_ble_eq_true rfl⟩ (ci := 6) rfl rfl (mc_0 ad2 cI cZ _) rfl rfl rfl (Nat.le_of_ble_eq_true rfl) (Nat.le_of_ble_eq_true rfl) (Nat.le_of_ble_eq_true rfl) dL_law_581 (pc2 := 584) rfl ?_
      refine g_icmp_eq C dL_law_584 (tgt := 658) (by decide) (pc2 := 587) rfl (fun _ => ?_) (fun q => absurd rfl q)
      exact again u2 v2 h4 hR2
    by_cases q17 : sw = (17 : Int32)
    · refine g_tabI C (17 : Int32) q17 dL_law_32 (by decide) (by decide) (off := 557) (by decide) (tgt := 589) (by decide) ?_
      obtain ⟨rr, u2, v2, hE1, hE2, hR2⟩ := h_image u v hRuv (xs (nI i + (1 : Int32)).toNatClampNeg)
      refine g_aload_n C dL_law_589 2 rfl (pc2 := 590) rfl ?_
      refine g_aload_n C dL_law_590 3 rfl (pc2 := 591) rfl ?_
      refine g_iload_n C dL_law_591 0 rfl (pc2 := 592) rfl ?_
      refine g_iconst (v := (1 : Int32)) C dL_law_592 (by decide) (pc2 := 593) rfl ?_
      refine g_iadd C dL_law_593 (pc2 := 594) rfl ?_
      refine g_sld C hX hbl hbA vi1 dL_law_594 (pc2 := 595) rfl ?_
      refine g_ws (ws2 := [] ++ (XW ad cI cB u ++ (MW ad2 cI cZ v ++ []))) rfl ?_
      refine g_callM (As := [.int (xs (nI i + (1 : Int32)).toNatClampNeg)]) (rest := []) (index := 85) (n := 1) (w := XW ad cI cB) C hE1 (c_X5_image l D _ ad cI cB _ _) hKx gL_law_X5_image rfl (by decide +kernel) rfl rfl ⟨Nat.le_of_ble_eq_true rfl, Nat.le_of_ble_eq_true rfl⟩ (ci := 5) rfl rfl (xc_0 ad cI cB _) rfl rfl rfl (Nat.le_of_ble_eq_true rfl) (Nat.le_of_ble_eq_true rfl) (Nat.le_of_ble_eq_true rfl) dL_law_595 (pc2 := 598) rfl ?_
      refine g_aload_n C dL_law_598 1 rfl (pc2 := 599) rfl ?_
      refine g_aload_n C dL_law_599 3 rfl (pc2 := 600) rfl ?_
      refine g_iload_n C dL_law_600 0 rfl (pc2 := 601) rfl ?_
      refine g_iconst (v := (1 : Int32)) C dL_law_601 (by decide) (pc2 := 602) rfl ?_
      refine g_iadd C dL_law_602 (pc2 := 603) rfl ?_
      refine g_sld C hX hbl hbA vi1 dL_law_603 (pc2 := 604) rfl ?_
      refine g_ws (ws2 := (XW ad cI cB u2 ++ (MW ad2 cI cZ v ++ []))) rfl ?_
      refine g_callM (As := [.int (xs (nI i + (1 : Int32)).toNatClampNeg)]) (rest := [.int rr]) (index := 88) (n := 1) (w := MW ad2 cI cZ) C hE2 (c_X6_image l D _ ad2 cI cZ _ _) hKm gL_law_X6_image rfl (by decide +kernel) rfl rfl ⟨Nat.le_of_ble_eq_true rfl, Nat.le_of_ble_eq_true rfl⟩ (ci := 6) rfl rfl (mc_0 ad2 cI cZ _) rfl rfl rfl (Nat.le_of_ble_eq_true rfl) (Nat.le_of_ble_eq_true rfl) (Nat.le_of_ble_eq_true rfl) dL_law_604 (pc2 := 607) rfl ?_
      refine g_icmp_eq C dL_law_607 (tgt := 658) (by decide) (pc2 := 610) rfl (fun _ => ?_) (fun q => absurd rfl q)
      exact again u2 v2 h4 hR2
    by_cases q18 : sw = (18 : Int32)
    · refine g_tabI C (18 : Int32) q18 dL_law_32 (by decide) (by decide) (off := 580) (by decide) (tgt := 612) (by decide) ?_
      obtain ⟨rr, u2, v2, hE1, hE2, hR2⟩ := h_restore u v hRuv (xs (nI i + (1 : Int32)).toNatClampNeg)
      refine g_aload_n C dL_law_612 2 rfl (pc2 := 613) rfl ?_
      refine g_aload_n C dL_law_613 3 rfl (pc2 := 614) rfl ?_
      refine g_iload_n C dL_law_614 0 rfl (pc2 := 615) rfl ?_
      refine g_iconst (v := (1 : Int32)) C dL_law_615 (by decide) (pc2 := 616) rfl ?_
      refine g_iadd C dL_law_616 (pc2 := 617) rfl ?_
      refine g_sld C hX hbl hbA vi1 dL_law_617 (pc2 := 618) rfl ?_
      refine g_ws (ws2 := [] ++ (XW ad cI cB u ++ (MW ad2 cI cZ v ++ []))) rfl ?_
      refine g_callM (As := [.int (xs (nI i + (1 : Int32)).toNatClampNeg)]) (rest := []) (index := 89) (n := 1) (w := XW ad cI cB) C hE1 (c_X5_restore l D _ ad cI cB _ _) hKx gL_law_X5_restore rfl (by decide +kernel) rfl rfl ⟨Nat.le_of_ble_eq_true rfl, Nat.le_of_ble_eq_true rfl⟩ (ci := 5) rfl rfl (xc_0 ad cI cB _) rfl rfl rfl (Nat.le_of_ble_eq_true rfl) (Nat.le_of_ble_eq_true rfl) (Nat.le_of_ble_eq_true rfl) dL_law_618 (pc2 := 621) rfl ?_
      refine g_aload_n C dL_law_621 1 rfl (pc2 := 622) rfl ?_
      refine g_aload_n C dL_law_622 3 rfl (pc2 := 623) rfl ?_
      refine g_iload_n C dL_law_623 0 rfl (pc2 := 624) rfl ?_
      refine g_iconst (v := (1 : Int32)) C dL_law_624 (by decide) (pc2 := 625) rfl ?_
      refine g_iadd C dL_law_625 (pc2 := 626) rfl ?_
      refine g_sld C hX hbl hbA vi1 dL_law_626 (pc2 := 627) rfl ?_
      refine g_ws (ws2 := (XW ad cI cB u2 ++ (MW ad2 cI cZ v ++ []))) rfl ?_
      refine g_callM (As := [.int (xs (nI i + (1 : Int32)).toNatClampNeg)]) (rest := [.int rr]) (index := 92) (n := 1) (w := MW ad2 cI cZ) C hE2 (c_X6_restore l D _ ad2 cI cZ _ _) hKm gL_law_X6_restore rfl (by decide +kernel) rfl rfl ⟨Nat.le_of_ble_eq_true rfl, Nat.le_of_ble_eq_true rfl⟩ (ci := 6) rfl rfl (mc_0 ad2 cI cZ _) rfl rfl rfl (Nat.le_of_ble_eq_true rfl) (Nat.le_of_ble_eq_true rfl) (Nat.le_of_ble_eq_true rfl) dL_law_627 (pc2 := 630) rfl ?_
      refine g_icmp_eq C dL_law_630 (tgt := 658) (by decide) (pc2 := 633) rfl (fun _ => ?_) (fun q => absurd rfl q)
      exact again u2 v2 h4 hR2
    by_cases q19 : sw = (19 : Int32)
    · refine g_tabI C (19 : Int32) q19 dL_law_32 (by decide) (by decide) (off := 603) (by decide) (tgt := 635) (by decide) ?_
      obtain ⟨rr, u2, v2, hE1, hE2, hR2⟩ := h_count u v hRuv (xs (nI i + (1 : Int32)).toNatClampNeg)
      refine g_aload_n C dL_law_635 2 rfl (pc2 := 636) rfl ?_
      refine g_aload_n C dL_law_636 3 rfl (pc2 := 637) rfl ?_
      refine g_iload_n C dL_law_637 0 rfl (pc2 := 638) rfl ?_
      refine g_iconst (v := (1 : Int32)) C dL_law_638 (by decide) (pc2 := 639) rfl ?_
      refine g_iadd C dL_law_639 (pc2 := 640) rfl ?_
      refine g_sld C hX hbl hbA vi1 dL_law_640 (pc2 := 641) rfl ?_
      refine g_ws (ws2 := [] ++ (XW ad cI cB u ++ (MW ad2 cI cZ v ++ []))) rfl ?_
      refine g_callM (As := [.int (xs (nI i + (1 : Int32)).toNatClampNeg)]) (rest := []) (index := 93) (n := 1) (w := XW ad cI cB) C hE1 (c_X5_count l D _ ad cI cB _ _) hKx gL_law_X5_count rfl (by decide +kernel) rfl rfl ⟨Nat.le_of_ble_eq_true rfl, Nat.le_of_ble_eq_true rfl⟩ (ci := 5) rfl rfl (xc_0 ad cI cB _) rfl rfl rfl (Nat.le_of_ble_eq_true rfl) (Nat.le_of_ble_eq_true rfl) (Nat.le_of_ble_eq_true rfl) dL_law_641 (pc2 := 644) rfl ?_
      refine g_aload_n C dL_law_644 1 rfl (pc2 := 645) rfl ?_
      refine g_aload_n C dL_law_645 3 rfl (pc2 := 646) rfl ?_
      refine g_iload_n C dL_law_646 0 rfl (pc2 := 647) rfl ?_
      refine g_iconst (v := (1 : Int32)) C dL_law_647 (by decide) (pc2 := 648) rfl ?_
      refine g_iadd C dL_law_648 (pc2 := 649) rfl ?_
      refine g_sld C hX hbl hbA vi1 dL_law_649 (pc2 := 650) rfl ?_
      refine g_ws (ws2 := (XW ad cI cB u2 ++ (MW ad2 cI cZ v ++ []))) rfl ?_
      refine g_callM (As := [.int (xs (nI i + (1 : Int32)).toNatClampNeg)]) (rest := [.int rr]) (index := 96) (n := 1) (w := MW ad2 cI cZ) C hE2 (c_X6_count l D _ ad2 cI cZ _ _) hKm gL_law_X6_count rfl (by decide +kernel) rfl rfl ⟨Nat.le_of_ble_eq_true rfl, Nat.le_of_ble_eq_true rfl⟩ (ci := 6) rfl rfl (mc_0 ad2 cI cZ _) rfl rfl rfl (Nat.le_of_ble_eq_true rfl) (Nat.le_of_ble_eq_true rfl) (Nat.le_of_ble_eq_true rfl) dL_law_650 (pc2 := 653) rfl ?_
      refine g_icmp_eq C dL_law_653 (tgt := 658) (by decide) (pc2 := 656) rfl (fun _ => ?_) (fun q => absurd rfl q)
      exact again u2 v2 h4 hR2
    have n0 := tab_ne q0
    have n1 := tab_ne q1
    have n2 := tab_ne q2
    have n3 := tab_ne q3
    have n4 := tab_ne q4
    have n5 := tab_ne q5
    have n6 := tab_ne q6
    have n7 := tab_ne q7
    have n8 := tab_ne q8
    have n9 := tab_ne q9
    have n10 := tab_ne q10
    have n11 := tab_ne q11
    have n12 := tab_ne q12
    have n13 := tab_ne q13
    have n14 := tab_ne q14
    have n15 := tab_ne q15
    have n16 := tab_ne q16
    have n17 := tab_ne q17
    have n18 := tab_ne q18
    have n19 := tab_ne q19
    refine g_tabO C dL_law_32 (by rw [show ((0 : Int32)).toInt = 0 from rfl] at n0; rw [show ((1 : Int32)).toInt = 1 from rfl] at n1; rw [show ((2 : Int32)).toInt = 2 from rfl] at n2; rw [show ((3 : Int32)).toInt = 3 from rfl] at n3; rw [show ((4 : Int32)).toInt = 4 from rfl] at n4; rw [show ((5 : Int32)).toInt = 5 from rfl] at n5; rw [show ((6 : Int32)).toInt = 6 from rfl] at n6; rw [show ((7 : Int32)).toInt = 7 from rfl] at n7; rw [show ((8 : Int32)).toInt = 8 from rfl] at n8; rw [show ((9 : Int32)).toInt = 9 from rfl] at n9; rw [show ((10 : Int32)).toInt = 10 from rfl] at n10; rw [show ((11 : Int32)).toInt = 11 from rfl] at n11; rw [show ((12 : Int32)).toInt = 12 from rfl] at n12; rw [show ((13 : Int32)).toInt = 13 from rfl] at n13; rw [show ((14 : Int32)).toInt = 14 from rfl] at n14; rw [show ((15 : Int32)).toInt = 15 from rfl] at n15; rw [show ((16 : Int32)).toInt = 16 from rfl] at n16; rw [show ((17 : Int32)).toInt = 17 from rfl] at n17; rw [show ((18 : Int32)).toInt = 18 from rfl] at n18; rw [show ((19 : Int32)).toInt = 19 from rfl] at n19; omega) (tgt := 658) (by decide) ?_
    exact again u v h4 hRuv
set_option maxRecDepth 100000 in
set_option maxHeartbeats 4000000 in
theorem law_start {R : Mem → Mem → Prop} (hR : Steps20 R) (hR0 : R x0 m0) {p : Program} {e : Env} {s : State} {m : MethodId} {below : List Frame} {meth : Method} {c : Code} (l : Launch) {b L : Nat} {xs : Nat → Int32} (hL : L ≤ 2048) (C0 : lw_At p s m meth c b L xs) : W p l e room_1 s m #[Value.ref b] below meth c s.heap [] 0 0 (lw_Z below #[Value.ref b] s) (entryFrame m ([Value.ref b] : List Value).toArray 4) := by
  obtain ⟨hx, hb, hr, hml, hown, hts0, hX, hbl, hlocks, hgv⟩ := C0
  have hts : ∀ w ∈ wsL_law, w.before #[Value.ref b] s = true := fun w h => hts0 w (wsL_law_in w h)
  obtain ⟨c0, iS0, hKn0⟩ := u_known (C := RX0) (T := TX0) (N := 7) (n := 7) hts inlX0 (hts (.instantiable RX0 7) (by decide +kernel))
  obtain ⟨c1, iS1, hKn1⟩ := u_known (C := RX1) (T := TX1) (N := 12) (n := 12) hts inlX1 (hts (.instantiable RX1 12) (by decide +kernel))
  obtain ⟨c2, iS2, hKn2⟩ := u_known (C := RX2) (T := TX2) (N := 2) (n := 2) hts inlX2 (hts (.instantiable RX2 2) (by decide +kernel))
  obtain ⟨c3, iS3, hKn3⟩ := u_known (C := RX3) (T := TX3) (N := 6) (n := 6) hts inlX3 (hts (.instantiable RX3 6) (by decide +kernel))
  obtain ⟨c4, iS4, hKn4⟩ := u_known (C := RX4) (T := TX4) (N := 5) (n := 5) hts inlX4 (hts (.instantiable RX4 5) (by decide +kernel))
  obtain ⟨c5, iS5, hKn5⟩ := u_known (C := RX5) (T := TX5) (N := 7) (n := 7) hts inlX5 (hts (.instantiable RX5 7) (by decide +kernel))
  obtain ⟨c6, iS6, hKn6⟩ := u_known (C := RX6) (T := TX6) (N := 29) (n := 29) hts inlX6 (hts (.instantiable RX6 29) (by decide +kernel))
  obtain ⟨D, hKc⟩ : ∃ D : va_G, ∀ (k : Nat) (q : vw_C), vwCl[k]? = some q → u_Kn s q.1 q.2.1 q.2.2 (D.1 k) (D.2 k) := by
    refine ⟨(fun k => [c0, c1, c2, c3, c4, c5, c6].getD k c0, fun k => [iS0, iS1, iS2, iS3, iS4, iS5, iS6].getD k iS0), ?_⟩
    intro k q hq
    match k, hq with
    | 0, hq => cases hq; exact hKn0
    | 1, hq => cases hq; exact hKn1
    | 2, hq => cases hq; exact hKn2
    | 3, hq => cases hq; exact hKn3
    | 4, hq => cases hq; exact hKn4
    | 5, hq => cases hq; exact hKn5
    | 6, hq => cases hq; exact hKn6
    | k + 7, hq => simp [vwCl] at hq
  obtain ⟨cI, kI, pI, hI1, hI2, hI3⟩ := Cond.arrayClass_spec (hts (.arrayClass .int) (by decide +kernel))
  obtain ⟨cZ, kZ, pZ, hZ1, hZ2, hZ3⟩ := Cond.arrayClass_spec (hts0 (.arrayClass .boolean) (List.mem_of_getElem? (i := 618) (by decide +kernel)))
  have hAO : va_AO RX0 s := va_AO.of (hts0 (.arrayOver (.object RX0)) (List.mem_of_getElem? (i := 227) (by decide +kernel)))
  obtain ⟨pB, cB, kB, hB1, hB2, hB3, hB4, hB5⟩ := Cond.arrayOver_spec (va_AO.use (A := #[]) hAO)
  have hK : va_K D vwCl [(cI, .int), (cB, .object RX0), (cZ, .boolean)] s := by
    refine ⟨hKc, fun k q hk => ?_⟩
    match k, hk with
    | 0, hk => cases hk; exact ⟨fun n z => ⟨fun k h => (by cases h), kI, hI2, pI, hI3⟩, hI1⟩
    | 1, hk => cases hk; exact ⟨fun n z => ⟨fun k h => (by cases h), kB, hB3, pB, hB4⟩, kB, pB, hB3, hB4, hB1, hB5⟩
    | 2, hk => cases hk; exact ⟨fun n z => ⟨fun k h => (by cases h), kZ, hZ2, pZ, hZ3⟩, hZ1⟩
    | k + 3, hk => simp at hk
  have C : Cx p m c cL_law 4 s #[Value.ref b] wsL_law RL D [(cI, .int), (cB, .object RX0), (cZ, .boolean)] := ⟨⟨hx, hb, hml, hown, hts⟩, hK⟩
  have hA : ∀ q, s.heap.size ≤ q → (fun q : Nat => s.heap.size ≤ q) q := fun q h => h
  have w0 : va_Nw (.methodLinkNest RX5 9 yX0_init RX5) s := va_Nw.of rfl (hts0 (.methodLinkNest RX5 9 yX0_init RX5) (List.mem_of_getElem? (i := 68) (by decide +kernel)))
  have w1 : va_Nw (.methodLinkNest RX5 18 yX2_init RX5) s := va_Nw.of rfl (hts0 (.methodLinkNest RX5 18 yX2_init RX5) (List.mem_of_getElem? (i := 110) (by decide +kernel)))
  have w2 : va_Nw (.methodLinkNest RX5 25 yX1_init RX5) s := va_Nw.of rfl (hts0 (.methodLinkNest RX5 25 yX1_init RX5) (List.mem_of_getElem? (i := 124) (by decide +kernel)))
  have w3 : va_Nw (.methodLinkNest RX5 32 yX3_init RX5) s := va_Nw.of rfl (hts0 (.methodLinkNest RX5 32 yX3_init RX5) (List.mem_of_getElem? (i := 175) (by decide +kernel)))
  have w4 : va_Nw (.methodLinkNest RX5 39 yX4_init RX5) s := va_Nw.of rfl (hts0 (.methodLinkNest RX5 39 yX4_init RX5) (List.mem_of_getElem? (i := 202) (by decide +kernel)))
  have w5 : va_Nw (.methodLinkNest RX3 11 yX1_init RX5) s := va_Nw.of rfl (hts0 (.methodLinkNest RX3 11 yX1_init RX5) (List.mem_of_getElem? (i := 180) (by decide +kernel)))
  have hP0 : va_P D vwCl [] s.heap := fun k q h => by simp at h
  have hD0 : va_D (fun q : Nat => s.heap.size ≤ q) [] := ⟨fun i j p q h => by simp at h, fun k q h => by simp at h⟩
  refine g_entry (lv := [(0, .ref b)]) rfl hP0 hD0 (Nat.le_of_ble_eq_true rfl) rfl ?_
  refine g_new (index := 7) (ci := 5) (fs := [.null, .null, .null, .null, .null, .null, .int 0]) C hA inlX5 tyX5 tyX5_ok (by decide +kernel) (by decide +kernel) (by decide +kernel) rfl vpd_X5 (Nat.le_of_ble_eq_true rfl) (Nat.le_of_ble_eq_true rfl) dL_law_0 (pc2 := 3) rfl (fun q1 => ?_)
  refine g_cnt (K2 := 1) (N2 := 7) (Nat.le_of_ble_eq_true rfl) (Nat.le_of_ble_eq_true rfl) ?_
  refine g_dup C dL_law_3 rfl (pc2 := 4) rfl ?_
  refine g_init (index := 9) C hA (i_X5 l D cI cB) (hK.sub [0, 1] rfl) (fun U hW => ⟨va_AO.moved hW.alike hAO, va_Nw.warmM hW w0, va_Nw.warmM hW w1, va_Nw.warmM hW w2, va_Nw.warmM hW w3, va_Nw.warmM hW w4, va_Nw.warmM hW w5⟩) (fun U g mk a h => ⟨va_AO.moved (Vm.Alike.refl U.vm) h.1, va_Nw.same rfl rfl h.2.1, va_Nw.same rfl rfl h.2.2.1, va_Nw.same rfl rfl h.2.2.2.1, va_Nw.same rfl rfl h.2.2.2.2.1, va_Nw.same rfl rfl h.2.2.2.2.2.1, va_Nw.same rfl rfl h.2.2.2.2.2.2⟩) gL_law_X5_init rfl (by decide +kernel) (by decide +kernel) (by decide +kernel) (by decide +kernel) rfl rfl rfl ⟨Nat.le_of_ble_eq_true rfl, Nat.le_of_ble_eq_true rfl⟩ (Nat.le_of_ble_eq_true rfl) (Nat.le_of_ble_eq_true rfl) (Nat.le_of_ble_eq_true rfl) dL_law_4 (pc2 := 7) rfl (fun ad ead => ?_)
  subst ead
  refine g_cnt (K2 := 47) (N2 := 526) (Nat.le_of_ble_eq_true rfl) (Nat.le_of_ble_eq_true rfl) ?_
  refine g_ws (ws2 := XW ad cI cB x0) rfl ?_
  refine g_astore_n C dL_law_7 (by decide) (lv2 := [(1, .ref (ad 0)), (0, .ref b)]) rfl (pc2 := 8) rfl ?_
  refine g_new (index := 10) (ci := 6) (fs := [.null, .null, .null, .null, .int 0, .null, .null, .null, .null, .null, .null, .int 0, .int 0, .int 0, .int 0, .int 0, .int 0, .int 0, .int 0, .int 0, .int 0, .int 0, .int 0, .null, .null, .int 0, .int 0, .int 0, .int 0]) C hA inlX6 tyX6 tyX6_ok (by decide +kernel) (by decide +kernel) (by decide +kernel) rfl vpd_X6 (Nat.le_of_ble_eq_true rfl) (Nat.le_of_ble_eq_true rfl) dL_law_8 (pc2 := 11) rfl (fun q2 => ?_)
  refine g_cnt (K2 := 48) (N2 := 555) (Nat.le_of_ble_eq_true rfl) (Nat.le_of_ble_eq_true rfl) ?_
  refine g_dup C dL_law_11 rfl (pc2 := 12) rfl ?_
  refine g_init (index := 12) C hA (i_X6 l D cI cZ) (hK.sub [0, 2] rfl) (fun _ _ => trivial) (fun _ _ _ _ _ => trivial) gL_law_X6_init rfl (by decide +kernel) (by decide +kernel) (by decide +kernel) (by decide +kernel) rfl rfl rfl ⟨Nat.le_of_ble_eq_true rfl, Nat.le_of_ble_eq_true rfl⟩ (Nat.le_of_ble_eq_true rfl) (Nat.le_of_ble_eq_true rfl) (Nat.le_of_ble_eq_true rfl) dL_law_12 (pc2 := 15) rfl (fun ad2 ead2 => ?_)
  subst ead2
  refine g_cnt (K2 := 60) (N2 := 840) (Nat.le_of_ble_eq_true rfl) (Nat.le_of_ble_eq_true rfl) ?_
  refine g_ws (ws2 := XW ad cI cB x0 ++ (MW ad2 cI cZ m0 ++ [])) (by rw [List.append_nil]) ?_
  refine g_astore_n C dL_law_15 (by decide) (lv2 := [(2, .ref (ad2 0)), (1, .ref (ad 0)), (0, .ref b)]) rfl (pc2 := 16) rfl ?_
  refine g_iconst (v := (0 : Int32)) C dL_law_16 (by decide) (pc2 := 17) rfl ?_
  refine g_istore_n C dL_law_17 (by decide) (lv2 := [(3, .int (nI 0)), (2, .ref (ad2 0)), (1, .ref (ad 0)), (0, .ref b)]) rfl (pc2 := 18) rfl ?_
  exact law_loop hR hL C hr hlocks hX hbl (L + 1) 0 x0 m0 (Nat.zero_le _) (by omega) hR0
