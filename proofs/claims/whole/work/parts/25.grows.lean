section Grow
variable {p : Program} {l : Launch} {e : Env} {R : Room} {s : State} {m : MethodId} {args : Array Value} {below : List Frame} {meth : Method} {c : Code} {Q : State → Prop} {D : va_G} {A : Nat → Prop} {nL : Nat} {ws ws2 : va_W} {K N : Nat} {pc pc2 : Nat} {lv lv2 : List (Nat × Value)} {rest : List Value} {cc : ByteArray} {Ts : List Cond} {own : String} {tys : List (ClassId × FieldType)}
/-- as Wx, over any list of cells, K cells of N slots being new -/
def Wg (p : Program) (l : Launch) (e : Env) (R : Room) (s : State) (m : MethodId) (args : Array Value) (below : List Frame) (meth : Method) (c : Code) (Q : State → Prop) (D : va_G) (A : Nat → Prop) (nL : Nat) (ws : va_W) (K N : Nat) (pc : Nat) (lv : List (Nat × Value)) (st : List Value) : Prop :=
  ∀ (H : Heap) (locs : List Loc) (ls : Array Slot), va_P D vwCl ws H → va_D A ws → va_S A s.heap H locs → lv_has ls nL lv → W p l e R s m args below meth c H locs K N Q (F0 m pc ls st)
theorem g_sub (ks : List Nat) (h : lv_pick lv ks = lv2) (k : Wg p l e R s m args below meth c Q D A nL ws K N pc lv2 rest) : Wg p l e R s m args below meth c Q D A nL ws K N pc lv rest :=
  fun H locs ls hP hD hS hl => k H locs ls hP hD hS (lv_sub hl ks h)
theorem g_iconst (C : Cx p m c cc nL s args Ts own D tys) {n : Int} {v : Int32} (hdg : decode cc pc = .ok (.iconst n, 1)) (hv : Int32.ofInt n = v) (hp : pc + 1 = pc2)
    (k : Wg p l e R s m args below meth c Q D A nL ws K N pc2 lv (.int v :: rest)) : Wg p l e R s m args below meth c Q D A nL ws K N pc lv rest :=
  fun H locs ls hP hD hS hl => lv_iconst C.1.1 C.1.2.1 hdg hv (hp ▸ k H locs ls hP hD hS hl)
theorem g_bipush (C : Cx p m c cc nL s args Ts own D tys) {n : Int} {v : Int32} (hdg : decode cc pc = .ok (.bipush n, 2)) (hv : (Int8.ofInt n).toInt32 = v) (hp : pc + 2 = pc2)
    (k : Wg p l e R s m args below meth c Q D A nL ws K N pc2 lv (.int v :: rest)) : Wg p l e R s m args below meth c Q D A nL ws K N pc lv rest :=
  fun H locs ls hP hD hS hl => lv_bipush C.1.1 C.1.2.1 hdg hv (hp ▸ k H locs ls hP hD hS hl)
theorem g_sipush (C : Cx p m c cc nL s args Ts own D tys) {n : Int} {v : Int32} (hdg : decode cc pc = .ok (.sipush n, 3)) (hv : (Int16.ofInt n).toInt32 = v) (hp : pc + 3 = pc2)
    (k : Wg p l e R s m args below meth c Q D A nL ws K N pc2 lv (.int v :: rest)) : Wg p l e R s m args below meth c Q D A nL ws K N pc lv rest :=
  fun H locs ls hP hD hS hl => lv_sipush C.1.1 C.1.2.1 hdg hv (hp ▸ k H locs ls hP hD hS hl)
theorem g_iload_n (C : Cx p m c cc nL s args Ts own D tys) {i : Fin 4} {x : Int32} (hdg : decode cc pc = .ok (.iload_n i, 1)) (j : Nat) (hj : lv[j]? = some (i.val, .int x)) (hp : pc + 1 = pc2)
    (k : Wg p l e R s m args below meth c Q D A nL ws K N pc2 lv (.int x :: rest)) : Wg p l e R s m args below meth c Q D A nL ws K N pc lv rest :=
  fun H locs ls hP hD hS hl => lv_iload_n C.1.1 C.1.2.1 hdg rfl (lv_at hl j hj) (hp ▸ k H locs ls hP hD hS hl)
theorem g_iload (C : Cx p m c cc nL s args Ts own D tys) {i : Nat} {x : Int32} (hdg : decode cc pc = .ok (.iload i, 2)) (j : Nat) (hj : lv[j]? = some (i, .int x)) (hp : pc + 2 = pc2)
    (k : Wg p l e R s m args below meth c Q D A nL ws K N pc2 lv (.int x :: rest)) : Wg p l e R s m args below meth c Q D A nL ws K N pc lv rest :=
  fun H locs ls hP hD hS hl => lv_iload C.1.1 C.1.2.1 hdg (lv_at hl j hj) (hp ▸ k H locs ls hP hD hS hl)
theorem g_aload_n (C : Cx p m c cc nL s args Ts own D tys) {i : Fin 4} {x : Nat} (hdg : decode cc pc = .ok (.aload_n i, 1)) (j : Nat) (hj : lv[j]? = some (i.val, .ref x)) (hp : pc + 1 = pc2)
    (k : Wg p l e R s m args below meth c Q D A nL ws K N pc2 lv (.ref x :: rest)) : Wg p l e R s m args below meth c Q D A nL ws K N pc lv rest :=
  fun H locs ls hP hD hS hl => lv_aload_n C.1.1 C.1.2.1 hdg rfl (lv_at hl j hj) (hp ▸ k H locs ls hP hD hS hl)
theorem g_istore_n (C : Cx p m c cc nL s args Ts own D tys) {i : Fin 4} {x : Int32} (hdg : decode cc pc = .ok (.istore_n i, 1)) (hn : i.val < nL) (hl2 : (i.val, Value.int x) :: lv.filter (fun q => !(q.1 == i.val) && !(q.1 + 1 == i.val && q.2.category == 2)) = lv2) (hp : pc + 1 = pc2)
    (k : Wg p l e R s m args below meth c Q D A nL ws K N pc2 lv2 rest) : Wg p l e R s m args below meth c Q D A nL ws K N pc lv (.int x :: rest) :=
  fun H locs ls hP hD hS hl => lv_istore_n C.1.1 C.1.2.1 hdg rfl hl hn hl2 (fun ls2 hl3 => hp ▸ k H locs ls2 hP hD hS hl3)
theorem g_istore (C : Cx p m c cc nL s args Ts own D tys) {i : Nat} {x : Int32} (hdg : decode cc pc = .ok (.istore i, 2)) (hn : i < nL) (hl2 : (i, Value.int x) :: lv.filter (fun q => !(q.1 == i) && !(q.1 + 1 == i && q.2.category == 2)) = lv2) (hp : pc + 2 = pc2)
    (k : Wg p l e R s m args below meth c Q D A nL ws K N pc2 lv2 rest) : Wg p l e R s m args below meth c Q D A nL ws K N pc lv (.int x :: rest) :=
  fun H locs ls hP hD hS hl => lv_istore C.1.1 C.1.2.1 hdg hl hn hl2 (fun ls2 hl3 => hp ▸ k H locs ls2 hP hD hS hl3)
theorem g_iinc (C : Cx p m c cc nL s args Ts own D tys) {i : Nat} {n : Int} {x v : Int32} (hdg : decode cc pc = .ok (.iinc i n, 3)) (j : Nat) (hj : lv[j]? = some (i, .int x)) (d : Int32) (hd : Int32.ofInt n = d) (hv : x + d = v) (hn : i < nL) (hl2 : (i, Value.int v) :: lv.filter (fun q => !(q.1 == i) && !(q.1 + 1 == i && q.2.category == 2)) = lv2) (hp : pc + 3 = pc2)
    (k : Wg p l e R s m args below meth c Q D A nL ws K N pc2 lv2 rest) : Wg p l e R s m args below meth c Q D A nL ws K N pc lv rest :=
  fun H locs ls hP hD hS hl => lv_iinc C.1.1 C.1.2.1 hdg hl hj (hd ▸ hv) hn hl2 (fun ls2 hl3 => hp ▸ k H locs ls2 hP hD hS hl3)
theorem g_iadd (C : Cx p m c cc nL s args Ts own D tys) {x y : Int32} (hdg : decode cc pc = .ok (.iadd, 1)) (hp : pc + 1 = pc2)
    (k : Wg p l e R s m args below meth c Q D A nL ws K N pc2 lv (.int (x + y) :: rest)) : Wg p l e R s m args below meth c Q D A nL ws K N pc lv (.int y :: .int x :: rest) :=
  fun H locs ls hP hD hS hl => lv_iadd C.1.1 C.1.2.1 hdg (hp ▸ k H locs ls hP hD hS hl)
theorem g_isub (C : Cx p m c cc nL s args Ts own D tys) {x y : Int32} (hdg : decode cc pc = .ok (.isub, 1)) (hp : pc + 1 = pc2)
    (k : Wg p l e R s m args below meth c Q D A nL ws K N pc2 lv (.int (x - y) :: rest)) : Wg p l e R s m args below meth c Q D A nL ws K N pc lv (.int y :: .int x :: rest) :=
  fun H locs ls hP hD hS hl => lv_isub C.1.1 C.1.2.1 hdg (hp ▸ k H locs ls hP hD hS hl)
theorem g_imul (C : Cx p m c cc nL s args Ts own D tys) {x y : Int32} (hdg : decode cc pc = .ok (.imul, 1)) (hp : pc + 1 = pc2)
    (k : Wg p l e R s m args below meth c Q D A nL ws K N pc2 lv (.int (x * y) :: rest)) : Wg p l e R s m args below meth c Q D A nL ws K N pc lv (.int y :: .int x :: rest) :=
  fun H locs ls hP hD hS hl => lv_imul C.1.1 C.1.2.1 hdg (hp ▸ k H locs ls hP hD hS hl)
theorem g_iand (C : Cx p m c cc nL s args Ts own D tys) {x y : Int32} (hdg : decode cc pc = .ok (.iand, 1)) (hp : pc + 1 = pc2)
    (k : Wg p l e R s m args below meth c Q D A nL ws K N pc2 lv (.int (x &&& y) :: rest)) : Wg p l e R s m args below meth c Q D A nL ws K N pc lv (.int y :: .int x :: rest) :=
  fun H locs ls hP hD hS hl => lv_iand C.1.1 C.1.2.1 hdg (hp ▸ k H locs ls hP hD hS hl)
theorem g_ior (C : Cx p m c cc nL s args Ts own D tys) {x y : Int32} (hdg : decode cc pc = .ok (.ior, 1)) (hp : pc + 1 = pc2)
    (k : Wg p l e R s m args below meth c Q D A nL ws K N pc2 lv (.int (x ||| y) :: rest)) : Wg p l e R s m args below meth c Q D A nL ws K N pc lv (.int y :: .int x :: rest) :=
  fun H locs ls hP hD hS hl => lv_ior C.1.1 C.1.2.1 hdg (hp ▸ k H locs ls hP hD hS hl)
theorem g_ishl (C : Cx p m c cc nL s args Ts own D tys) {x y : Int32} (hdg : decode cc pc = .ok (.ishl, 1)) (hp : pc + 1 = pc2)
    (k : Wg p l e R s m args below meth c Q D A nL ws K N pc2 lv (.int (x <<< (y &&& 31)) :: rest)) : Wg p l e R s m args below meth c Q D A nL ws K N pc lv (.int y :: .int x :: rest) :=
  fun H locs ls hP hD hS hl => lv_ishl C.1.1 C.1.2.1 hdg (hp ▸ k H locs ls hP hD hS hl)
theorem g_ishr (C : Cx p m c cc nL s args Ts own D tys) {x y : Int32} (hdg : decode cc pc = .ok (.ishr, 1)) (hp : pc + 1 = pc2)
    (k : Wg p l e R s m args below meth c Q D A nL ws K N pc2 lv (.int (x >>> (y &&& 31)) :: rest)) : Wg p l e R s m args below meth c Q D A nL ws K N pc lv (.int y :: .int x :: rest) :=
  fun H locs ls hP hD hS hl => lv_ishr C.1.1 C.1.2.1 hdg (hp ▸ k H locs ls hP hD hS hl)
theorem g_idiv (C : Cx p m c cc nL s args Ts own D tys) {x y : Int32} (hdg : decode cc pc = .ok (.idiv, 1)) (hne : ¬ y = 0) (hp : pc + 1 = pc2)
    (k : Wg p l e R s m args below meth c Q D A nL ws K N pc2 lv (.int (x / y) :: rest)) : Wg p l e R s m args below meth c Q D A nL ws K N pc lv (.int y :: .int x :: rest) :=
  fun H locs ls hP hD hS hl => lv_idiv C.1.1 C.1.2.1 hdg hne (hp ▸ k H locs ls hP hD hS hl)
theorem g_irem (C : Cx p m c cc nL s args Ts own D tys) {x y : Int32} (hdg : decode cc pc = .ok (.irem, 1)) (hne : ¬ y = 0) (hp : pc + 1 = pc2)
    (k : Wg p l e R s m args below meth c Q D A nL ws K N pc2 lv (.int (x - x / y * y) :: rest)) : Wg p l e R s m args below meth c Q D A nL ws K N pc lv (.int y :: .int x :: rest) :=
  fun H locs ls hP hD hS hl => lv_irem C.1.1 C.1.2.1 hdg hne (hp ▸ k H locs ls hP hD hS hl)
theorem g_dup (C : Cx p m c cc nL s args Ts own D tys) {x : Value} (hdg : decode cc pc = .ok (.dup, 1)) (hc : x.category = 1) (hp : pc + 1 = pc2)
    (k : Wg p l e R s m args below meth c Q D A nL ws K N pc2 lv (x :: x :: rest)) : Wg p l e R s m args below meth c Q D A nL ws K N pc lv (x :: rest) :=
  fun H locs ls hP hD hS hl => lv_dup C.1.1 C.1.2.1 hdg hc (hp ▸ k H locs ls hP hD hS hl)
theorem g_dup2 (C : Cx p m c cc nL s args Ts own D tys) {x y : Value} (hdg : decode cc pc = .ok (.dup2, 1)) (hc : x.category = 1) (hc2 : y.category = 1) (hp : pc + 1 = pc2)
    (k : Wg p l e R s m args below meth c Q D A nL ws K N pc2 lv (x :: y :: x :: y :: rest)) : Wg p l e R s m args below meth c Q D A nL ws K N pc lv (x :: y :: rest) :=
  fun H locs ls hP hD hS hl => lv_dup2_11 C.1.1 C.1.2.1 hdg hc hc2 (hp ▸ k H locs ls hP hD hS hl)
theorem g_goto (C : Cx p m c cc nL s args Ts own D tys) {off : Int} (hdg : decode cc pc = .ok (.goto off, 3)) (hp : (pc : Int) + off = (pc2 : Int))
    (k : Wg p l e R s m args below meth c Q D A nL ws K N pc2 lv rest) : Wg p l e R s m args below meth c Q D A nL ws K N pc lv rest :=
  fun H locs ls hP hD hS hl => lv_goto C.1.1 C.1.2.1 hdg hp (k H locs ls hP hD hS hl)
theorem g_icmp_eq (C : Cx p m c cc nL s args Ts own D tys) {x y : Int32} {off : Int} {tgt : Nat} (hdg : decode cc pc = .ok (.if_icmp .eq off, 3)) (ht : (pc : Int) + off = (tgt : Int)) (hp : pc + 3 = pc2)
    (kt : x = y → Wg p l e R s m args below meth c Q D A nL ws K N tgt lv rest) (kf : ¬ x = y → Wg p l e R s m args below meth c Q D A nL ws K N pc2 lv rest) : Wg p l e R s m args below meth c Q D A nL ws K N pc lv (.int y :: .int x :: rest) :=
  fun H locs ls hP hD hS hl => lv_icmp_eq C.1.1 C.1.2.1 hdg ht (fun q => kt q H locs ls hP hD hS hl) (fun q => hp ▸ kf q H locs ls hP hD hS hl)
theorem g_icmp_ge (C : Cx p m c cc nL s args Ts own D tys) {x y : Int32} {off : Int} {tgt : Nat} (hdg : decode cc pc = .ok (.if_icmp .ge off, 3)) (ht : (pc : Int) + off = (tgt : Int)) (hp : pc + 3 = pc2)
    (kt : y ≤ x → Wg p l e R s m args below meth c Q D A nL ws K N tgt lv rest) (kf : ¬ y ≤ x → Wg p l e R s m args below meth c Q D A nL ws K N pc2 lv rest) : Wg p l e R s m args below meth c Q D A nL ws K N pc lv (.int y :: .int x :: rest) :=
  fun H locs ls hP hD hS hl => lv_icmp_ge C.1.1 C.1.2.1 hdg ht (fun q => kt q H locs ls hP hD hS hl) (fun q => hp ▸ kf q H locs ls hP hD hS hl)
theorem g_icmp_gt (C : Cx p m c cc nL s args Ts own D tys) {x y : Int32} {off : Int} {tgt : Nat} (hdg : decode cc pc = .ok (.if_icmp .gt off, 3)) (ht : (pc : Int) + off = (tgt : Int)) (hp : pc + 3 = pc2)
    (kt : y < x → Wg p l e R s m args below meth c Q D A nL ws K N tgt lv rest) (kf : ¬ y < x → Wg p l e R s m args below meth c Q D A nL ws K N pc2 lv rest) : Wg p l e R s m args below meth c Q D A nL ws K N pc lv (.int y :: .int x :: rest) :=
  fun H locs ls hP hD hS hl => lv_icmp_gt C.1.1 C.1.2.1 hdg ht (fun q => kt q H locs ls hP hD hS hl) (fun q => hp ▸ kf q H locs ls hP hD hS hl)
theorem g_tabI (C : Cx p m c cc nL s args Ts own D tys) {dflt lo hi : Int} {offs : Array Int} {len : Nat} {x : Int32} {off : Int} {tgt : Nat} (v : Int32) (hx : x = v) (hdg : decode cc pc = .ok (.tableswitch dflt lo hi offs, len)) (h1 : ¬ v.toInt < lo) (h2 : ¬ hi < v.toInt) (ho : offs[(v.toInt - lo).toNat]? = some off) (ht : (pc : Int) + off = (tgt : Int))
    (k : Wg p l e R s m args below meth c Q D A nL ws K N tgt lv rest) : Wg p l e R s m args below meth c Q D A nL ws K N pc lv (.int x :: rest) := by
  subst hx
  exact fun H locs ls hP hD hS hl => lv_tableIn C.1.1 C.1.2.1 hdg h1 h2 ho ht (k H locs ls hP hD hS hl)
theorem g_tabO (C : Cx p m c cc nL s args Ts own D tys) {dflt lo hi : Int} {offs : Array Int} {len : Nat} {x : Int32} {tgt : Nat} (hdg : decode cc pc = .ok (.tableswitch dflt lo hi offs, len)) (h : x.toInt < lo ∨ hi < x.toInt) (ht : (pc : Int) + dflt = (tgt : Int))
    (k : Wg p l e R s m args below meth c Q D A nL ws K N tgt lv rest) : Wg p l e R s m args below meth c Q D A nL ws K N pc lv (.int x :: rest) :=
  fun H locs ls hP hD hS hl => lv_tableOut C.1.1 C.1.2.1 hdg h ht (k H locs ls hP hD hS hl)
theorem g_ws (h : ws = ws2) (k : Wg p l e R s m args below meth c Q D A nL ws2 K N pc lv rest) : Wg p l e R s m args below meth c Q D A nL ws K N pc lv rest := h ▸ k
theorem g_cnt {K2 N2 : Nat} (h1 : K ≤ K2) (h2 : N ≤ N2) (k : Wg p l e R s m args below meth c Q D A nL ws K2 N2 pc lv rest) : Wg p l e R s m args below meth c Q D A nL ws K N pc lv rest :=
  fun H locs ls hP hD hS hl => W.widen h1 h2 (k H locs ls hP hD hS hl)
theorem g_objInit (C : Cx p m c cc nL s args Ts own D tys) {idx : Nat} (hlink : Cond.methodLink own idx objectInit ∈ Ts) (hin : Cond.instanceMethod objectInit ∈ Ts) (hcode : Cond.code objectInit ⟨#[0xb1]⟩ 1 none ∈ Ts) {h0 : Nat} (hr1 : 1 ≤ R.frames) (hr2 : 12 ≤ R.locals) (hdg : decode cc pc = .ok (.invokespecial idx, 3)) (hp : pc + 3 = pc2)
    (k : Wg p l e R s m args below meth c Q D A nL ws K N pc2 lv []) : Wg p l e R s m args below meth c Q D A nL ws K N pc lv [.ref h0] :=
  fun H locs ls hP hD hS hl => W.objInit C.1.1 C.1.2.1 C.1.2.2.2.1 (C.1.2.2.2.2 _ hlink) (C.1.2.2.2.2 _ hin) (C.1.2.2.2.2 _ hcode) rfl (by rw [C.1.2.2.1]; exact hl.1) rfl hdg hr1 hr2 (W.eq (g2 := F0 m pc2 ls []) (by rw [← hp]) (k H locs ls hP hD hS hl))
theorem g_get (C : Cx p m c cc nL s args Ts own D tys) {C0 : String} {T : u_T} {N0 ci index : Nat} (hin : ∀ w ∈ u_ws C0 T N0, w ∈ Ts) (q0 : Nat) {a : Nat} {fs : List Value} (he : ws[q0]? = some (a, .inr (ci, fs))) (hc : vwCl[ci]? = some (C0, T, N0)) (k : Nat) (hk : k < N0) (hlink : Cond.fieldLink own index (T k).1 (T k).2.1 (T k).2.2.1 ∈ Ts) {v : Value} (hv : fs[k]? = some v) (hdg : decode cc pc = .ok (.getfield index, 3)) (hp : pc + 3 = pc2)
    (kk : Wg p l e R s m args below meth c Q D A nL ws K N pc2 lv (v :: rest)) : Wg p l e R s m args below meth c Q D A nL ws K N pc lv (.ref a :: rest) :=
  fun H locs ls hP hD hS hl => va_get C.1.1 C.1.2.1 C.1.2.2.2.2 hin C.1.2.2.2.1 C.2 hP q0 he hc k hk (C.1.2.2.2.2 _ hlink) (fun _ h9 => h9) hv hdg (hp ▸ kk H locs ls hP hD hS hl)
theorem g_put (C : Cx p m c cc nL s args Ts own D tys) {C0 : String} {T : u_T} {N0 ci index : Nat} (hin : ∀ w ∈ u_ws C0 T N0, w ∈ Ts) (ty0 : Nat → FieldType) (hty : ∀ k, k < N0 → parseFieldDescriptor (T k).2.2.1 = some (ty0 k)) (hnm : ∀ a, a < N0 → ∀ b, b < N0 → a ≠ b → (T a).2.1 ≠ (T b).2.1) (q0 : Nat) {a : Nat} {fs : List Value} (he : ws[q0]? = some (a, .inr (ci, fs))) (hc : vwCl[ci]? = some (C0, T, N0)) (k : Nat) (hk : k < N0) (hlink : Cond.fieldLink own index (T k).1 (T k).2.1 (T k).2.2.1 ∈ Ts) (hfin : (T k).2.2.2 = false) (hd : ty0 k = .int) (hl0 : k < fs.length) {x : Int32} (hw : ws.set q0 (a, .inr (ci, fs.set k (.int x))) = ws2) (hdg : decode cc pc = .ok (.putfield index, 3)) (hp : pc + 3 = pc2)
    (kk : Wg p l e R s m args below meth c Q D A nL ws2 K N pc2 lv rest) : Wg p l e R s m args below meth c Q D A nL ws K N pc lv (.int x :: .ref a :: rest) :=
  fun H locs ls hP hD hS hl => va_put (v := .int x) (ty := .int) C.1.1 C.1.2.1 C.1.2.2.2.2 hin ty0 hty hnm C.1.2.2.2.1 C.2 hP hD hS q0 he hc k hk (C.1.2.2.2.2 _ hlink) (fun _ h9 => h9) hfin (hd ▸ hty k hk) rfl rfl hl0 hdg (fun H1 locs1 hP1 hD1 hS1 => hp ▸ kk H1 locs1 ls (hw ▸ hP1) (hw ▸ hD1) hS1 hl)
theorem g_putF (C : Cx p m c cc nL s args Ts own D tys) {C0 : String} {T : u_T} {N0 ci index : Nat} (hin : ∀ w ∈ u_ws C0 T N0, w ∈ Ts) (ty0 : Nat → FieldType) (hty : ∀ k, k < N0 → parseFieldDescriptor (T k).2.2.1 = some (ty0 k)) (hnm : ∀ a, a < N0 → ∀ b, b < N0 → a ≠ b → (T a).2.1 ≠ (T b).2.1) (q0 : Nat) {a : Nat} {fs : List Value} (he : ws[q0]? = some (a, .inr (ci, fs))) (hc : vwCl[ci]? = some (C0, T, N0)) (k : Nat) (hk : k < N0) (hlink : Cond.fieldLink own index (T k).1 (T k).2.1 (T k).2.2.1 ∈ Ts) (hfin : (T k).2.2.2 = true) (hin2 : meth.name = "<init>") (hdecl : (T k).1 = own) {x : Nat} (hn : narrow (ty0 k) (.ref x) = .ref x) (hfit : fits (ty0 k) (.ref x) = true) (hl0 : k < fs.length) (hw : ws.set q0 (a, .inr (ci, fs.set k (.ref x))) = ws2) (hdg : decode cc pc = .ok (.putfield index, 3)) (hp : pc + 3 = pc2)
    (kk : Wg p l e R s m args below meth c Q D A nL ws2 K N pc2 lv rest) : Wg p l e R s m args below meth c Q D A nL ws K N pc lv (.ref x :: .ref a :: rest) :=
  fun H locs ls hP hD hS hl => va_putF (v := .ref x) (ty := ty0 k) C.1.1 C.1.2.1 C.1.2.2.2.2 hin ty0 hty hnm C.1.2.2.2.1 C.2 hP hD hS q0 he hc k hk (C.1.2.2.2.2 _ hlink) (fun _ h9 => h9) hfin hin2 hdecl (hty k hk) hn hfit hl0 hdg (fun H1 locs1 hP1 hD1 hS1 => hp ▸ kk H1 locs1 ls (hw ▸ hP1) (hw ▸ hD1) hS1 hl)
theorem g_newI (C : Cx p m c cc nL s args Ts own D tys) (hA : ∀ q, s.heap.size ≤ q → A q) (harr : Cond.arrayClass .int ∈ Ts) (t0 : Nat) {cI : ClassId} (ht : tys[t0]? = some (cI, .int)) {n : Int32} {N1 : Nat} (hn : ¬ n < 0) (hN : n.toNatClampNeg = N1) (hb : N1 * 4 ≤ 536870912) (hcells : K + 1 ≤ R.cells) (hslots : N + N1 ≤ R.slots) (hdg : decode cc pc = .ok (.newarray .int, 2)) (hp : pc + 2 = pc2)
    (kk : ∀ q : Nat, Wg p l e R s m args below meth c Q D A nL (ws ++ [(q, .inl (cI, N1, .inl (fun _ => 0)))]) (K + 1) (N + N1) pc2 lv (.ref q :: rest)) : Wg p l e R s m args below meth c Q D A nL ws K N pc lv (.int n :: rest) := by
  intro H locs ls hP hD hS hl
  refine va_newa (atype := .int) (a0 := (N1, .inl (fun _ => 0))) C.1.1 C.1.2.1 (C.1.2.2.2.2 _ harr) (ty := .int) rfl C.2 hP hD hS hA (fun cA => rfl) hn hN hb hcells hslots hdg (fun q cA H1 hK1 hP1 hD1 hS1 => ?_)
  have e1 := (hK1.2 tys.length (cA, .int) (by simp)).2
  have e2 := (C.2.2 t0 (cI, .int) ht).2
  have e3 : cA = cI := Option.some.inj (Eq.trans (Eq.symm e1) e2)
  subst e3
  exact hp ▸ kk q H1 locs ls hP1 hD1 hS1 hl
theorem g_newZ (C : Cx p m c cc nL s args Ts own D tys) (hA : ∀ q, s.heap.size ≤ q → A q) (harr : Cond.arrayClass .boolean ∈ Ts) (t0 : Nat) {cZ : ClassId} (ht : tys[t0]? = some (cZ, .boolean)) {n : Int32} {N1 : Nat} (hn : ¬ n < 0) (hN : n.toNatClampNeg = N1) (hb : N1 * 1 ≤ 536870912) (hcells : K + 1 ≤ R.cells) (hslots : N + N1 ≤ R.slots) (hdg : decode cc pc = .ok (.newarray .boolean, 2)) (hp : pc + 2 = pc2)
    (kk : ∀ q : Nat, Wg p l e R s m args below meth c Q D A nL (ws ++ [(q, .inl (cZ, N1, .inl (fun _ => 0)))]) (K + 1) (N + N1) pc2 lv (.ref q :: rest)) : Wg p l e R s m args below meth c Q D A nL ws K N pc lv (.int n :: rest) := by
  intro H locs ls hP hD hS hl
  refine va_newa (atype := .boolean) (a0 := (N1, .inl (fun _ => 0))) C.1.1 C.1.2.1 (C.1.2.2.2.2 _ harr) (ty := .boolean) rfl C.2 hP hD hS hA (fun cA => rfl) hn hN hb hcells hslots hdg (fun q cA H1 hK1 hP1 hD1 hS1 => ?_)
  have e1 := (hK1.2 tys.length (cA, .boolean) (by simp)).2
  have e2 := (C.2.2 t0 (cZ, .boolean) ht).2
  have e3 : cA = cZ := Option.some.inj (Eq.trans (Eq.symm e1) e2)
  subst e3
  exact hp ▸ kk q H1 locs ls hP1 hD1 hS1 hl
theorem g_newQ (C : Cx p m c cc nL s args Ts own D tys) (hA : ∀ q, s.heap.size ≤ q → A q) {C0 : String} {index : Nat} (hclink : Cond.classLink own index C0 ∈ Ts) (hover : va_AO C0 s) (t0 : Nat) {cB : ClassId} (ht : tys[t0]? = some (cB, .object C0)) {n : Int32} {N1 : Nat} (hn : ¬ n < 0) (hN : n.toNatClampNeg = N1) (hb : N1 * 4 ≤ 536870912) (hcells : K + 1 ≤ R.cells) (hslots : N + N1 ≤ R.slots) (hdg : decode cc pc = .ok (.anewarray index, 3)) (hp : pc + 3 = pc2)
    (kk : ∀ q : Nat, Wg p l e R s m args below meth c Q D A nL (ws ++ [(q, .inl (cB, N1, .inr (.inr (.inr (.inr (fun _ => none))))))]) (K + 1) (N + N1) pc2 lv (.ref q :: rest)) : Wg p l e R s m args below meth c Q D A nL ws K N pc lv (.int n :: rest) := by
  intro H locs ls hP hD hS hl
  refine va_newq C.1.1 C.1.2.1 C.1.2.2.2.1 (C.1.2.2.2.2 _ hclink) hover C.2 hP hD hS hA hn hN hb hcells hslots hdg (fun q cA H1 hK1 hP1 hD1 hS1 => ?_)
  obtain ⟨_, _, _, _, _, e1⟩ := (hK1.2 tys.length (cA, .object C0) (by simp)).2
  obtain ⟨_, _, _, _, _, e2⟩ := (C.2.2 t0 (cB, .object C0) ht).2
  have e3 : cA = cB := Option.some.inj (Eq.trans (Eq.symm e1) e2)
  subst e3
  exact hp ▸ kk q H1 locs ls hP1 hD1 hS1 hl
theorem g_new (C : Cx p m c cc nL s args Ts own D tys) (hA : ∀ q, s.heap.size ≤ q → A q) {C0 : String} {T : u_T} {N0 ci index : Nat} (hin : ∀ w ∈ u_ws C0 T N0, w ∈ Ts) (ty : Nat → FieldType) (hty : ∀ k, k < N0 → parseFieldDescriptor (T k).2.2.1 = some (ty k)) (hcl : Cond.classLink own index C0 ∈ Ts) (hinst : Cond.instantiable C0 N0 ∈ Ts) (hini : Cond.initialized C0 ∈ Ts) (hc : vwCl[ci]? = some (C0, T, N0)) {fs : List Value} (hfs : ∀ j, j < N0 → defaultValue (ty j) = vp_V fs j) (hcells : K + 1 ≤ R.cells) (hslots : N + N0 ≤ R.slots) (hdg : decode cc pc = .ok (.new index, 3)) (hp : pc + 3 = pc2)
    (kk : ∀ q : Nat, Wg p l e R s m args below meth c Q D A nL (ws ++ [(q, .inr (ci, fs))]) (K + 1) (N + N0) pc2 lv (.ref q :: rest)) : Wg p l e R s m args below meth c Q D A nL ws K N pc lv rest :=
  fun H locs ls hP hD hS hl => va_new C.1.1 C.1.2.1 C.1.2.2.2.2 hin ty hty C.1.2.2.2.1 (C.1.2.2.2.2 _ hcl) (C.1.2.2.2.2 _ hinst) (C.1.2.2.2.2 _ hini) C.2 hP hD hS hA hc hfs hcells hslots hdg (fun q H1 hP1 hD1 hS1 => hp ▸ kk q H1 locs ls hP1 hD1 hS1 hl)
theorem g_astq (C : Cx p m c cc nL s args Ts own D tys) (q0 t0 qk ci : Nat) {cA : ClassId} {r : vw_C} {n v a : Nat} {vs : List Value} {f : Nat → Option Nat} (ha : ws[q0]? = some (a, .inl (cA, n, .inr (.inr (.inr (.inr f)))))) (ht : tys[t0]? = some (cA, .object r.1)) (hv : ws[qk]? = some (v, .inr (ci, vs))) (hc : vwCl[ci]? = some r) {i : Int32} (hin : vp_in i n) (hw : ws.set q0 (a, .inl (cA, n, .inr (.inr (.inr (.inr (va_up f i.toNatClampNeg (some v))))))) = ws2) (hdg : decode cc pc = .ok (.aastore, 1)) (hp : pc + 1 = pc2)
    (kk : Wg p l e R s m args below meth c Q D A nL ws2 K N pc2 lv rest) : Wg p l e R s m args below meth c Q D A nL ws K N pc lv (.ref v :: .int i :: .ref a :: rest) :=
  fun H locs ls hP hD hS hl => va_astq C.1.1 C.1.2.1 C.2 hP hD hS q0 t0 qk ci ha ht hv hc hin hdg (fun H1 locs1 hP1 hD1 hS1 => hp ▸ kk H1 locs1 ls (hw ▸ hP1) (hw ▸ hD1) hS1 hl)
theorem g_iast (C : Cx p m c cc nL s args Ts own D tys) (q0 t0 : Nat) {cA : ClassId} {n a : Nat} {f : Nat → Int32} (ha : ws[q0]? = some (a, .inl (cA, n, .inl f))) (ht : tys[t0]? = some (cA, .int)) {i x : Int32} (hin : vp_in i n) (hw : ws.set q0 (a, .inl (cA, n, .inl (upd f i.toNatClampNeg x))) = ws2) (hdg : decode cc pc = .ok (.iastore, 1)) (hp : pc + 1 = pc2)
    (kk : Wg p l e R s m args below meth c Q D A nL ws2 K N pc2 lv rest) : Wg p l e R s m args below meth c Q D A nL ws K N pc lv (.int x :: .int i :: .ref a :: rest) :=
  fun H locs ls hP hD hS hl => va_iast C.1.1 C.1.2.1 C.2 hP hD hS q0 t0 ha ht hin hdg (fun H1 locs1 hP1 hD1 hS1 => hp ▸ kk H1 locs1 ls (hw ▸ hP1) (hw ▸ hD1) hS1 hl)
def Rg (h0 sz : Nat) : Nat → Prop := fun q => q = h0 ∨ sz ≤ q
/-- a constructor: of the bare cell at h0 it makes the cells F a, with a 0 = h0 -/
def Ctn (l : Launch) (y : MethodName) (ws : List Cond) (rm : Room) (D : va_G) (tys : List (ClassId × FieldType)) (P : State → Prop) (ci : Nat) (fs : List Value) (F : (Nat → Nat) → va_W) (mc ms : Nat) : Prop :=
  ∀ h0 sz : Nat, Met l y ws rm (va_Pc [.ref h0] (fun U => U.heap.size = sz ∧ va_P D vwCl [(h0, .inr (ci, fs))] U.heap ∧ va_K D vwCl tys U ∧ P U)) (va_Qv (fun a : Nat → Nat => a 0 = h0) (fun a t => va_P D vwCl (F a) t.heap ∧ va_D (Rg h0 sz) (F a)) (Rg h0 sz)) mc ms (Rg h0 sz)
theorem va_at_keep {cl : List vw_C} {q : Nat × va_E} {H H1 : Heap} (h : H1[q.1]? = H[q.1]?) (k : va_at D cl q H) : va_at D cl q H1 := by
  unfold va_at at k ⊢
  split at k
  · rename_i a ha
    simp only [h]
    exact k
  · rename_i o ho
    obtain ⟨r, h1, cell, g1, g2⟩ := k
    exact ⟨r, h1, cell, by rw [h]; exact g1, g2⟩
theorem va_at_lt {cl : List vw_C} {q : Nat × va_E} {H : Heap} (k : va_at D cl q H) : q.1 < H.size := by
  unfold va_at at k
  split at k
  · exact (Array.getElem?_eq_some_iff.mp k).1
  · obtain ⟨r, h1, cell, g1, g2⟩ := k
    exact (Array.getElem?_eq_some_iff.mp g1).1
theorem va_P_app {cl : List vw_C} {wa wb : va_W} {H : Heap} (ha : va_P D cl wa H) (hb : va_P D cl wb H) : va_P D cl (wa ++ wb) H := by
  intro k q hk
  rcases List.mem_append.mp (List.mem_of_getElem? hk) with h | h
  · obtain ⟨i, hi⟩ := List.mem_iff_getElem?.mp h
    exact ha i q hi
  · obtain ⟨i, hi⟩ := List.mem_iff_getElem?.mp h
    exact hb i q hi
theorem va_P_of {cl : List vw_C} {wa wb : va_W} {H : Heap} (h : va_P D cl wa H) (hs : ∀ q ∈ wb, q ∈ wa) : va_P D cl wb H := by
  intro k q hk
  obtain ⟨i, hi⟩ := List.mem_iff_getElem?.mp (hs q (List.mem_of_getElem? hk))
  exact h i q hi
theorem va_P_keep {cl : List vw_C} {wa : va_W} {H H1 : Heap} (h : va_P D cl wa H) (hk : ∀ q ∈ wa, H1[q.1]? = H[q.1]?) : va_P D cl wa H1 :=
  fun k q hq => va_at_keep (hk q (List.mem_of_getElem? hq)) (h k q hq)
theorem va_D_left {wa wb : va_W} (h : va_D A (wa ++ wb)) : va_D A wa := by
  refine ⟨fun i j p q hi hj e => ?_, fun k q hk => ?_⟩
  · exact h.1 i j p q (by rw [List.getElem?_append_left (List.getElem?_eq_some_iff.mp hi).1]; exact hi) (by rw [List.getElem?_append_left (List.getElem?_eq_some_iff.mp hj).1]; exact hj) e
  · exact h.2 k q (by rw [List.getElem?_append_left (List.getElem?_eq_some_iff.mp hk).1]; exact hk)
theorem va_D_right {wa wb : va_W} (h : va_D A (wa ++ wb)) : va_D A wb := by
  have key : ∀ (i : Nat) (p : Nat × va_E), wb[i]? = some p → (wa ++ wb)[wa.length + i]? = some p := fun i p hi => by
    rw [List.getElem?_append_right (Nat.le_add_right _ _), Nat.add_sub_cancel_left]; exact hi
  exact ⟨fun i j p q hi hj e => Nat.add_left_cancel (h.1 _ _ p q (key i p hi) (key j q hj) e), fun k q hk => h.2 _ q (key k q hk)⟩
theorem va_D_apart {wa wb : va_W} (h : va_D A (wa ++ wb)) : ∀ p ∈ wa, ∀ q ∈ wb, p.1 ≠ q.1 := by
  intro p hp q hq e
  obtain ⟨i, hi⟩ := List.mem_iff_getElem?.mp hp
  obtain ⟨j, hj⟩ := List.mem_iff_getElem?.mp hq
  have hl := (List.getElem?_eq_some_iff.mp hi).1
  have := h.1 i (wa.length + j) p q (by rw [List.getElem?_append_left hl]; exact hi) (by rw [List.getElem?_append_right (Nat.le_add_right _ _), Nat.add_sub_cancel_left]; exact hj) e
  omega
theorem va_D_app {A1 : Nat → Prop} {wa wb : va_W} (ha : va_D A wa) (hb : va_D A1 wb) (hs : ∀ q, A1 q → A q) (hap : ∀ p ∈ wa, ∀ q ∈ wb, p.1 ≠ q.1) : va_D A (wa ++ wb) := by
  refine ⟨fun i j p q hi hj e => ?_, fun k q hk => ?_⟩
  · rcases Nat.lt_or_ge i wa.length with h1 | h1 <;> rcases Nat.lt_or_ge j wa.length with h2 | h2
    · rw [List.getElem?_append_left h1] at hi
      rw [List.getElem?_append_left h2] at hj
      exact ha.1 i j p q hi hj e
    · rw [List.getElem?_append_left h1] at hi
      rw [List.getElem?_append_right h2] at hj
      exact absurd e (hap p (List.mem_of_getElem? hi) q (List.mem_of_getElem? hj))
    · rw [List.getElem?_append_right h1] at hi
      rw [List.getElem?_append_left h2] at hj
      exact absurd e.symm (hap q (List.mem_of_getElem? hj) p (List.mem_of_getElem? hi))
    · rw [List.getElem?_append_right h1] at hi
      rw [List.getElem?_append_right h2] at hj
      have := hb.1 _ _ p q hi hj e
      omega
  · rcases List.mem_append.mp (List.mem_of_getElem? hk) with h | h
    · obtain ⟨i, hi⟩ := List.mem_iff_getElem?.mp h
      exact ha.2 i q hi
    · obtain ⟨i, hi⟩ := List.mem_iff_getElem?.mp h
      exact hs _ (hb.2 i q hi)
theorem g_initN (C : Cx p m c cc nL s args Ts own D tys) (hA : ∀ q, s.heap.size ≤ q → A q) {y : MethodName} {bytes : ByteArray} {maxL index mc ms ci : Nat} {wsC wsC2 : List Cond} {rm : Room} {tys2 : List (ClassId × FieldType)} {P : State → Prop} {fs : List Value} {F : (Nat → Nat) → va_W} {wr : va_W} {h0 : Nat} (hM : Ctn l y wsC rm D tys2 P ci fs F mc ms) (hK2 : va_K D vwCl tys2 s) (hPs : ∀ U : State, s.WarmedH U.vm → P U) (hPb : ∀ (U : State) (g : JFrame) (mk : MethodId) (a : Array Value), P U → P (U.calling g mk a)) (hG : GoodIn Ts wsC) (hw : wsC = Cond.code y bytes maxL none :: wsC2) (hd : y.cls ≠ "java/lang/invoke/MethodHandle" ∧ y.cls ≠ "java/lang/invoke/VarHandle" ∧ (parseMethodDescriptor y.desc).map (fun d => d.parameters.length) = some 0) (hini : Cond.initialized y.cls ∈ Ts) {host : String} (hlink : va_Nw (.methodLinkNest own index y host) s) (hins : Cond.instanceMethod y ∈ Ts) (hy : y.name = "<init>") (hrc : rm.cells = mc) (hrs : rm.slots = ms) (hR : rm.frames + 1 ≤ R.frames ∧ 8 + (maxL + 11) + rm.locals ≤ R.locals) (hsum : (rest.map fun v => v.category).sum ≤ 8) (hcells : K + mc ≤ R.cells) (hslots : N + ms ≤ R.slots) (hdg : decode cc pc = .ok (.invokespecial index, 3)) (hp : pc + 3 = pc2)
    (kk : ∀ a : Nat → Nat, a 0 = h0 → Wg p l e R s m args below meth c Q D A nL (wr ++ F a) (K + mc) (N + ms) pc2 lv rest) : Wg p l e R s m args below meth c Q D A nL (wr ++ [(h0, .inr (ci, fs))]) K N pc lv (.ref h0 :: rest) := by
  intro H locs ls hP hD hS hl
  have hP0 : va_P D vwCl [(h0, .inr (ci, fs))] H := va_P_of hP (fun q hq => List.mem_append_right _ hq)
  have hPr : va_P D vwCl wr H := va_P_of hP (fun q hq => List.mem_append_left _ hq)
  have hDr := va_D_left hD
  have hap := va_D_apart hD
  have hf : ∀ q, Rg h0 H.size q → A q := by
    intro q hq
    rcases hq with hq | hq
    · subst hq
      exact (va_D_right hD).2 0 _ rfl
    · exact hA q (Nat.le_trans hS.1 hq)
  refine va_callv (va_runIN (As := []) (rest := rest) C.1 (hM h0 H.size) ⟨va_cnB 0 C.1.2.2.2.2 hG hw hrc hrs hlink (C.1.2.2.2.2 _ hini) hd hR, hy, C.1.2.2.2.2 _ hins⟩ ⟨fun a U g mk q => by
      obtain ⟨q0, q1, qP, qK, qQ⟩ := q
      exact ⟨q0, q1, qP, va_K.moved (u := U) (U := U.calling g mk a) (Vm.Alike.refl U.vm) qK, hPb U g mk a qQ⟩, fun U hU hW => ⟨rfl, by rw [hU], by rw [hU]; exact hP0, va_K.moved hW.alike hK2, hPs U hW⟩⟩ rfl rfl hl.1 rfl (lv_room hsum) hdg ⟨hcells, hslots⟩) hS (fun q _ h => hf q h) hf (fun u t H1 locs1 ht hvm hw9 hB hz1 hk1 hS1 => ?_)
  obtain ⟨hP1, hD1⟩ := hB
  rw [ht] at hP1
  refine hp ▸ kk u hw9 H1 locs1 ls (va_P_app (va_P_keep hPr (fun q hq => ?_)) hP1) (va_D_app hDr hD1 hf (fun p hp9 q hq e => ?_)) hS1 hl
  · obtain ⟨i, hi⟩ := List.mem_iff_getElem?.mp hq
    have hlt := va_at_lt (hPr i q hi)
    refine hk1 _ hlt (fun hr => ?_)
    rcases hr with hr | hr
    · exact hap q hq _ List.mem_cons_self hr
    · omega
  · obtain ⟨i, hi⟩ := List.mem_iff_getElem?.mp hp9
    have hlt := va_at_lt (hPr i p hi)
    obtain ⟨j, hj⟩ := List.mem_iff_getElem?.mp hq
    rcases hD1.2 j q hj with hr | hr
    · exact hap p hp9 _ List.mem_cons_self (e.trans hr)
    · omega

theorem g_init (C : Cx p m c cc nL s args Ts own D tys) (hA : ∀ q, s.heap.size ≤ q → A q) {y : MethodName} {bytes : ByteArray} {maxL index mc ms ci : Nat} {wsC wsC2 : List Cond} {rm : Room} {tys2 : List (ClassId × FieldType)} {P : State → Prop} {fs : List Value} {F : (Nat → Nat) → va_W} {wr : va_W} {h0 : Nat} (hM : Ctn l y wsC rm D tys2 P ci fs F mc ms) (hK2 : va_K D vwCl tys2 s) (hPs : ∀ U : State, s.WarmedH U.vm → P U) (hPb : ∀ (U : State) (g : JFrame) (mk : MethodId) (a : Array Value), P U → P (U.calling g mk a)) (hG : GoodIn Ts wsC) (hw : wsC = Cond.code y bytes maxL none :: wsC2) (hd : y.cls ≠ "java/lang/invoke/MethodHandle" ∧ y.cls ≠ "java/lang/invoke/VarHandle" ∧ (parseMethodDescriptor y.desc).map (fun d => d.parameters.length) = some 0) (hini : Cond.initialized y.cls ∈ Ts) (hlink : Cond.methodLink own index y ∈ Ts) (hins : Cond.instanceMethod y ∈ Ts) (hy : y.name = "<init>") (hrc : rm.cells = mc) (hrs : rm.slots = ms) (hR : rm.frames + 1 ≤ R.frames ∧ 8 + (maxL + 11) + rm.locals ≤ R.locals) (hsum : (rest.map fun v => v.category).sum ≤ 8) (hcells : K + mc ≤ R.cells) (hslots : N + ms ≤ R.slots) (hdg : decode cc pc = .ok (.invokespecial index, 3)) (hp : pc + 3 = pc2)
    (kk : ∀ a : Nat → Nat, a 0 = h0 → Wg p l e R s m args below meth c Q D A nL (wr ++ F a) (K + mc) (N + ms) pc2 lv rest) : Wg p l e R s m args below meth c Q D A nL (wr ++ [(h0, .inr (ci, fs))]) K N pc lv (.ref h0 :: rest) := by
  intro H locs ls hP hD hS hl
  have hP0 : va_P D vwCl [(h0, .inr (ci, fs))] H := va_P_of hP (fun q hq => List.mem_append_right _ hq)
  have hPr : va_P D vwCl wr H := va_P_of hP (fun q hq => List.mem_append_left _ hq)
  have hDr := va_D_left hD
  have hap := va_D_apart hD
  have hf : ∀ q, Rg h0 H.size q → A q := by
    intro q hq
    rcases hq with hq | hq
    · subst hq
      exact (va_D_right hD).2 0 _ rfl
    · exact hA q (Nat.le_trans hS.1 hq)
  refine va_callv (va_runI (As := []) (rest := rest) C.1 (hM h0 H.size) ⟨callB_of 0 C.1.2.2.2.2 hG hw hrc hrs (C.1.2.2.2.2 _ hini) (C.1.2.2.2.2 _ hlink) hd hR, hy, C.1.2.2.2.2 _ hins⟩ ⟨fun a U g mk q => by
      obtain ⟨q0, q1, qP, qK, qQ⟩ := q
      exact ⟨q0, q1, qP, va_K.moved (u := U) (U := U.calling g mk a) (Vm.Alike.refl U.vm) qK, hPb U g mk a qQ⟩, fun U hU hW => ⟨rfl, by rw [hU], by rw [hU]; exact hP0, va_K.moved hW.alike hK2, hPs U hW⟩⟩ rfl rfl hl.1 rfl (lv_room hsum) hdg ⟨hcells, hslots⟩) hS (fun q _ h => hf q h) hf (fun u t H1 locs1 ht hvm hw9 hB hz1 hk1 hS1 => ?_)
  obtain ⟨hP1, hD1⟩ := hB
  rw [ht] at hP1
  refine hp ▸ kk u hw9 H1 locs1 ls (va_P_app (va_P_keep hPr (fun q hq => ?_)) hP1) (va_D_app hDr hD1 hf (fun p hp9 q hq e => ?_)) hS1 hl
  · obtain ⟨i, hi⟩ := List.mem_iff_getElem?.mp hq
    have hlt := va_at_lt (hPr i q hi)
    refine hk1 _ hlt (fun hr => ?_)
    rcases hr with hr | hr
    · exact hap q hq _ List.mem_cons_self hr
    · omega
  · obtain ⟨i, hi⟩ := List.mem_iff_getElem?.mp hp9
    have hlt := va_at_lt (hPr i p hi)
    obtain ⟨j, hj⟩ := List.mem_iff_getElem?.mp hq
    rcases hD1.2 j q hj with hr | hr
    · exact hap p hp9 _ List.mem_cons_self (e.trans hr)
    · omega
theorem g_vret (C : Cx p m c cc nL s args Ts own D tys) (hr : meth.sig.returnType = none) (hlocks : meth.locks = false) {F : (Nat → Nat) → va_W} {h0 sz : Nat} (hA : A = Rg h0 sz) (a : Nat → Nat) (ha : a 0 = h0) (hF : ws = F a) (hdg : decode cc pc = .ok (.return_, 1)) : Wg p l e R s m args below meth c (MQ below (va_Qv (fun a : Nat → Nat => a 0 = h0) (fun a t => va_P D vwCl (F a) t.heap ∧ va_D (Rg h0 sz) (F a)) (Rg h0 sz)) args s K N (Rg h0 sz)) D A nL ws K N pc lv [] := by
  subst hA
  subst hF
  exact fun H locs ls hP hD hS hl => W.vret C.1.1 C.1.2.1 hr (fun t ht hW => ⟨⟨a, rfl, ha, (by rw [ht]; exact hP), hD⟩, hS.F ht⟩) hS.2.2 hdg hlocks
theorem g_entry {av : List Value} (hav : args = av.toArray) (hP : va_P D vwCl ws s.heap) (hD : va_D A ws) (hn : (lg_sl av).length ≤ nL) (hl : lv_args 0 av = lv) (k : Wg p l e R s m args below meth c Q D A nL ws 0 0 0 lv []) : W p l e R s m args below meth c s.heap [] 0 0 Q (entryFrame m args nL) := by
  have e9 : entryFrame m args nL = entryFrame m av.toArray nL := by rw [hav]
  rw [e9, lg_entry_eq]
  exact k _ _ _ hP hD va_S.rf (hl ▸ lv_entry av hn)
theorem va_D_one {h0 : Nat} {x : va_E} (h : A h0) : va_D A [(h0, x)] := by
  refine ⟨fun i j p q hi hj _ => ?_, fun k q hk => ?_⟩
  · have h1 := (List.getElem?_eq_some_iff.mp hi).1
    have h2 := (List.getElem?_eq_some_iff.mp hj).1
    simp at h1 h2
    omega
  · have h1 := List.mem_of_getElem? hk
    simp at h1
    rw [h1]
    exact h
end Grow
