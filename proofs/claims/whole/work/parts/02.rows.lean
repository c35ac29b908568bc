/-! A memory: what the int slots of the cells hold, by the cell's number and the slot's. -/
abbrev Mem : Type := Nat → Nat → Int32
def put (u : Mem) (k j : Nat) (v : Int32) : Mem := fun k2 => if k2 = k then upd (u k) j v else u k2
def inb (i : Int32) (n : Nat) : Bool := decide (0 ≤ i.toInt ∧ i.toInt < n)
def vz (v : Int32) : Bool := v == 0 || v == 1
def bnd {α : Type} (x : Option (Int32 × Mem)) (k : Int32 → Mem → Option α) : Option α := match x with
  | none => none
  | some q => k q.1 q.2
def bnv {α : Type} (x : Option Mem) (k : Mem → Option α) : Option α := match x with
  | none => none
  | some q => k q
theorem bnd_some {α : Type} (r : Int32) (u : Mem) (k : Int32 → Mem → Option α) : bnd (some (r, u)) k = k r u := rfl
theorem bnv_some {α : Type} (u : Mem) (k : Mem → Option α) : bnv (some u) k = k u := rfl
theorem bnd_inv {α : Type} {x : Option (Int32 × Mem)} {k : Int32 → Mem → Option α} {y : α} (h : bnd x k = some y) : ∃ r u, x = some (r, u) ∧ k r u = some y := by
  match x, h with
  | none, h => cases h
  | some (r, u), h => exact ⟨r, u, rfl, h⟩
theorem bnv_inv {α : Type} {x : Option Mem} {k : Mem → Option α} {y : α} (h : bnv x k = some y) : ∃ u, x = some u ∧ k u = some y := by
  match x, h with
  | none, h => cases h
  | some u, h => exact ⟨u, rfl, h⟩
theorem inb_in {i : Int32} {n : Nat} (h : inb i n = true) : vp_in i n := vp_in_iff.mpr (of_decide_eq_true h)
theorem vz_nar {v : Int32} (h : vz v = true) : narrow .boolean (.int v) = .int v := by
  unfold vz at h
  rcases Bool.or_eq_true_iff.mp h with h | h
  · rw [beq_iff_eq.mp h]; rfl
  · rw [beq_iff_eq.mp h]; rfl
section Walk
variable {p : Program} {l : Launch} {e : Env} {R : Room} {s : State} {m : MethodId} {args : Array Value} {below : List Frame} {meth : Method} {c : Code} {Q : State → Prop} {D : va_G} {A : Nat → Prop} {nL : Nat} {w : Mem → va_W} {u u2 : Mem} {pc pc2 : Nat} {lv lv2 : List (Nat × Value)} {rest : List Value} {cc : ByteArray} {Ts : List Cond} {own : String} {tys : List (ClassId × FieldType)}
/-- the machine at pc, with the memory u in the cells of w, the locals lv, the stack st, comes to Q -/
def Wx (p : Program) (l : Launch) (e : Env) (R : Room) (s : State) (m : MethodId) (args : Array Value) (below : List Frame) (meth : Method) (c : Code) (Q : State → Prop) (D : va_G) (A : Nat → Prop) (nL : Nat) (w : Mem → va_W) (u : Mem) (pc : Nat) (lv : List (Nat × Value)) (st : List Value) : Prop :=
  ∀ (H : Heap) (locs : List Loc) (ls : Array Slot), va_P D vwCl (w u) H → va_D A (w u) → va_S A s.heap H locs → lv_has ls nL lv → W p l e R s m args below meth c H locs 0 0 Q (F0 m pc ls st)
def Cx (p : Program) (m : MethodId) (c : Code) (cc : ByteArray) (nL : Nat) (s : State) (args : Array Value) (Ts : List Cond) (own : String) (D : va_G) (tys : List (ClassId × FieldType)) : Prop :=
  CallFix p m c cc nL s args Ts own ∧ va_K D vwCl tys s
def Qix (D : va_G) (A : Nat → Prop) (w : Mem → va_W) (r : Int32) (u2 : Mem) : Array Value → State → Outcome → State → Prop :=
  va_Qi (fun (r9 : Int32) (u9 : Mem) => r9 = r ∧ u9 = u2) (fun u9 t => va_P D vwCl (w u9) t.heap) A
def Qvx (D : va_G) (A : Nat → Prop) (w : Mem → va_W) (u2 : Mem) : Array Value → State → Outcome → State → Prop :=
  va_Qv (fun u9 : Mem => u9 = u2) (fun u9 t => va_P D vwCl (w u9) t.heap) A
def Pcx (D : va_G) (A : Nat → Prop) (w : Mem → va_W) (tys : List (ClassId × FieldType)) (av : List Value) (u : Mem) : Array Value → State → Prop :=
  va_Pc av (fun U => va_P D vwCl (w u) U.heap ∧ va_K D vwCl tys U ∧ va_D A (w u))
/-- a contract: what the pure E says, the method does -/
def Cti (l : Launch) (y : MethodName) (ws : List Cond) (rm : Room) (D : va_G) (A : Nat → Prop) (w : Mem → va_W) (tys : List (ClassId × FieldType)) (av : List Value) (u : Mem) (E : Option (Int32 × Mem)) : Prop :=
  ∀ (r : Int32) (u2 : Mem), E = some (r, u2) → Met l y ws rm (Pcx D A w tys av u) (Qix D A w r u2) 0 0 A
def Ctv (l : Launch) (y : MethodName) (ws : List Cond) (rm : Room) (D : va_G) (A : Nat → Prop) (w : Mem → va_W) (tys : List (ClassId × FieldType)) (av : List Value) (u : Mem) (E : Option Mem) : Prop :=
  ∀ (u2 : Mem), E = some u2 → Met l y ws rm (Pcx D A w tys av u) (Qvx D A w u2) 0 0 A
theorem Pcx_blind {av : List Value} : FrameBlind (Pcx D A w tys av u) := fun a U g mk q => by
  obtain ⟨q0, qP, qK, qD⟩ := q
  exact ⟨q0, qP, va_K.moved (u := U) (U := U.calling g mk a) (Vm.Alike.refl U.vm) qK, qD⟩
theorem x_entry {av : List Value} (hP : va_P D vwCl (w u) s.heap) (hD : va_D A (w u)) (hn : (lg_sl av).length ≤ nL) (hl : lv_args 0 av = lv) (k : Wx p l e R s m args below meth c Q D A nL w u 0 lv []) : W p l e R s m args below meth c s.heap [] 0 0 Q (entryFrame m av.toArray nL) := by
  rw [lg_entry_eq]
  exact k _ _ _ hP hD va_S.rf (hl ▸ lv_entry av hn)
theorem x_tope {x y : Int32} (h : x = y) (k : Wx p l e R s m args below meth c Q D A nL w u pc lv (.int y :: rest)) : Wx p l e R s m args below meth c Q D A nL w u pc lv (.int x :: rest) := h ▸ k
theorem x_sub (ks : List Nat) (h : lv_pick lv ks = lv2) (k : Wx p l e R s m args below meth c Q D A nL w u pc lv2 rest) : Wx p l e R s m args below meth c Q D A nL w u pc lv rest :=
  fun H locs ls hP hD hS hl => k H locs ls hP hD hS (lv_sub hl ks h)
theorem x_iconst (C : Cx p m c cc nL s args Ts own D tys) {n : Int} {v : Int32} (hdg : decode cc pc = .ok (.iconst n, 1)) (hv : Int32.ofInt n = v) (hp : pc + 1 = pc2)
    (k : Wx p l e R s m args below meth c Q D A nL w u pc2 lv (.int v :: rest)) : Wx p l e R s m args below meth c Q D A nL w u pc lv rest :=
  fun H locs ls hP hD hS hl => lv_iconst C.1.1 C.1.2.1 hdg hv (hp ▸ k H locs ls hP hD hS hl)
theorem x_bipush (C : Cx p m c cc nL s args Ts own D tys) {n : Int} {v : Int32} (hdg : decode cc pc = .ok (.bipush n, 2)) (hv : (Int8.ofInt n).toInt32 = v) (hp : pc + 2 = pc2)
    (k : Wx p l e R s m args below meth c Q D A nL w u pc2 lv (.int v :: rest)) : Wx p l e R s m args below meth c Q D A nL w u pc lv rest :=
  fun H locs ls hP hD hS hl => lv_bipush C.1.1 C.1.2.1 hdg hv (hp ▸ k H locs ls hP hD hS hl)
theorem x_sipush (C : Cx p m c cc nL s args Ts own D tys) {n : Int} {v : Int32} (hdg : decode cc pc = .ok (.sipush n, 3)) (hv : (Int16.ofInt n).toInt32 = v) (hp : pc + 3 = pc2)
    (k : Wx p l e R s m args below meth c Q D A nL w u pc2 lv (.int v :: rest)) : Wx p l e R s m args below meth c Q D A nL w u pc lv rest :=
  fun H locs ls hP hD hS hl => lv_sipush C.1.1 C.1.2.1 hdg hv (hp ▸ k H locs ls hP hD hS hl)
theorem x_iload_n (C : Cx p m c cc nL s args Ts own D tys) {i : Fin 4} {x : Int32} (hdg : decode cc pc = .ok (.iload_n i, 1)) (j : Nat) (hj : lv[j]? = some (i.val, .int x)) (hp : pc + 1 = pc2)
    (k : Wx p l e R s m args below meth c Q D A nL w u pc2 lv (.int x :: rest)) : Wx p l e R s m args below meth c Q D A nL w u pc lv rest :=
  fun H locs ls hP hD hS hl => lv_iload_n C.1.1 C.1.2.1 hdg rfl (lv_at hl j hj) (hp ▸ k H locs ls hP hD hS hl)
theorem x_iload (C : Cx p m c cc nL s args Ts own D tys) {i : Nat} {x : Int32} (hdg : decode cc pc = .ok (.iload i, 2)) (j : Nat) (hj : lv[j]? = some (i, .int x)) (hp : pc + 2 = pc2)
    (k : Wx p l e R s m args below meth c Q D A nL w u pc2 lv (.int x :: rest)) : Wx p l e R s m args below meth c Q D A nL w u pc lv rest :=
  fun H locs ls hP hD hS hl => lv_iload C.1.1 C.1.2.1 hdg (lv_at hl j hj) (hp ▸ k H locs ls hP hD hS hl)
theorem x_aload_n (C : Cx p m c cc nL s args Ts own D tys) {i : Fin 4} {x : Nat} (hdg : decode cc pc = .ok (.aload_n i, 1)) (j : Nat) (hj : lv[j]? = some (i.val, .ref x)) (hp : pc + 1 = pc2)
    (k : Wx p l e R s m args below meth c Q D A nL w u pc2 lv (.ref x :: rest)) : Wx p l e R s m args below meth c Q D A nL w u pc lv rest :=
  fun H locs ls hP hD hS hl => lv_aload_n C.1.1 C.1.2.1 hdg rfl (lv_at hl j hj) (hp ▸ k H locs ls hP hD hS hl)
theorem x_istore_n (C : Cx p m c cc nL s args Ts own D tys) {i : Fin 4} {x : Int32} (hdg : decode cc pc = .ok (.istore_n i, 1)) (hn : i.val < nL) (hl2 : (i.val, Value.int x) :: lv.filter (fun q => !(q.1 == i.val) && !(q.1 + 1 == i.val && q.2.category == 2)) = lv2) (hp : pc + 1 = pc2)
    (k : Wx p l e R s m args below meth c Q D A nL w u pc2 lv2 rest) : Wx p l e R s m args below meth c Q D A nL w u pc lv (.int x :: rest) :=
  fun H locs ls hP hD hS hl => lv_istore_n C.1.1 C.1.2.1 hdg rfl hl hn hl2 (fun ls2 hl3 => hp ▸ k H locs ls2 hP hD hS hl3)
theorem x_istore (C : Cx p m c cc nL s args Ts own D tys) {i : Nat} {x : Int32} (hdg : decode cc pc = .ok (.istore i, 2)) (hn : i < nL) (hl2 : (i, Value.int x) :: lv.filter (fun q => !(q.1 == i) && !(q.1 + 1 == i && q.2.category == 2)) = lv2) (hp : pc + 2 = pc2)
    (k : Wx p l e R s m args below meth c Q D A nL w u pc2 lv2 rest) : Wx p l e R s m args below meth c Q D A nL w u pc lv (.int x :: rest) :=
  fun H locs ls hP hD hS hl => lv_istore C.1.1 C.1.2.1 hdg hl hn hl2 (fun ls2 hl3 => hp ▸ k H locs ls2 hP hD hS hl3)
theorem x_iinc (C : Cx p m c cc nL s args Ts own D tys) {i : Nat} {n : Int} {x v : Int32} (hdg : decode cc pc = .ok (.iinc i n, 3)) (j : Nat) (hj : lv[j]? = some (i, .int x)) (d : Int32) (hd : Int32.ofInt n = d) (hv : x + d = v) (hn : i < nL) (hl2 : (i, Value.int v) :: lv.filter (fun q => !(q.1 == i) && !(q.1 + 1 == i && q.2.category == 2)) = lv2) (hp : pc + 3 = pc2)
    (k : Wx p l e R s m args below meth c Q D A nL w u pc2 lv2 rest) : Wx p l e R s m args below meth c Q D A nL w u pc lv rest :=
  fun H locs ls hP hD hS hl => lv_iinc C.1.1 C.1.2.1 hdg hl hj (hd ▸ hv) hn hl2 (fun ls2 hl3 => hp ▸ k H locs ls2 hP hD hS hl3)
theorem x_iadd (C : Cx p m c cc nL s args Ts own D tys) {x y : Int32} (hdg : decode cc pc = .ok (.iadd, 1)) (hp : pc + 1 = pc2)
    (k : Wx p l e R s m args below meth c Q D A nL w u pc2 lv (.int (x + y) :: rest)) : Wx p l e R s m args below meth c Q D A nL w u pc lv (.int y :: .int x :: rest) :=
  fun H locs ls hP hD hS hl => lv_iadd C.1.1 C.1.2.1 hdg (hp ▸ k H locs ls hP hD hS hl)
theorem x_isub (C : Cx p m c cc nL s args Ts own D tys) {x y : Int32} (hdg : decode cc pc = .ok (.isub, 1)) (hp : pc + 1 = pc2)
    (k : Wx p l e R s m args below meth c Q D A nL w u pc2 lv (.int (x - y) :: rest)) : Wx p l e R s m args below meth c Q D A nL w u pc lv (.int y :: .int x :: rest) :=
  fun H locs ls hP hD hS hl => lv_isub C.1.1 C.1.2.1 hdg (hp ▸ k H locs ls hP hD hS hl)
theorem x_imul (C : Cx p m c cc nL s args Ts own D tys) {x y : Int32} (hdg : decode cc pc = .ok (.imul, 1)) (hp : pc + 1 = pc2)
    (k : Wx p l e R s m args below meth c Q D A nL w u pc2 lv (.int (x * y) :: rest)) : Wx p l e R s m args below meth c Q D A nL w u pc lv (.int y :: .int x :: rest) :=
  fun H locs ls hP hD hS hl => lv_imul C.1.1 C.1.2.1 hdg (hp ▸ k H locs ls hP hD hS hl)
theorem x_iand (C : Cx p m c cc nL s args Ts own D tys) {x y : Int32} (hdg : decode cc pc = .ok (.iand, 1)) (hp : pc + 1 = pc2)
    (k : Wx p l e R s m args below meth c Q D A nL w u pc2 lv (.int (x &&& y) :: rest)) : Wx p l e R s m args below meth c Q D A nL w u pc lv (.int y :: .int x :: rest) :=
  fun H locs ls hP hD hS hl => lv_iand C.1.1 C.1.2.1 hdg (hp ▸ k H locs ls hP hD hS hl)
theorem x_ior (C : Cx p m c cc nL s args Ts own D tys) {x y : Int32} (hdg : decode cc pc = .ok (.ior, 1)) (hp : pc + 1 = pc2)
    (k : Wx p l e R s m args below meth c Q D A nL w u pc2 lv (.int (x ||| y) :: rest)) : Wx p l e R s m args below meth c Q D A nL w u pc lv (.int y :: .int x :: rest) :=
  fun H locs ls hP hD hS hl => lv_ior C.1.1 C.1.2.1 hdg (hp ▸ k H locs ls hP hD hS hl)
theorem x_ishl (C : Cx p m c cc nL s args Ts own D tys) {x y : Int32} (hdg : decode cc pc = .ok (.ishl, 1)) (hp : pc + 1 = pc2)
    (k : Wx p l e R s m args below meth c Q D A nL w u pc2 lv (.int (x <<< (y &&& 31)) :: rest)) : Wx p l e R s m args below meth c Q D A nL w u pc lv (.int y :: .int x :: rest) :=
  fun H locs ls hP hD hS hl => lv_ishl C.1.1 C.1.2.1 hdg (hp ▸ k H locs ls hP hD hS hl)
theorem x_ishr (C : Cx p m c cc nL s args Ts own D tys) {x y : Int32} (hdg : decode cc pc = .ok (.ishr, 1)) (hp : pc + 1 = pc2)
    (k : Wx p l e R s m args below meth c Q D A nL w u pc2 lv (.int (x >>> (y &&& 31)) :: rest)) : Wx p l e R s m args below meth c Q D A nL w u pc lv (.int y :: .int x :: rest) :=
  fun H locs ls hP hD hS hl => lv_ishr C.1.1 C.1.2.1 hdg (hp ▸ k H locs ls hP hD hS hl)
theorem x_idiv (C : Cx p m c cc nL s args Ts own D tys) {x y : Int32} (hdg : decode cc pc = .ok (.idiv, 1)) (hne : ¬ y = 0) (hp : pc + 1 = pc2)
    (k : Wx p l e R s m args below meth c Q D A nL w u pc2 lv (.int (x / y) :: rest)) : Wx p l e R s m args below meth c Q D A nL w u pc lv (.int y :: .int x :: rest) :=
  fun H locs ls hP hD hS hl => lv_idiv C.1.1 C.1.2.1 hdg hne (hp ▸ k H locs ls hP hD hS hl)
theorem x_irem (C : Cx p m c cc nL s args Ts own D tys) {x y : Int32} (hdg : decode cc pc = .ok (.irem, 1)) (hne : ¬ y = 0) (hp : pc + 1 = pc2)
    (k : Wx p l e R s m args below meth c Q D A nL w u pc2 lv (.int (x - x / y * y) :: rest)) : Wx p l e R s m args below meth c Q D A nL w u pc lv (.int y :: .int x :: rest) :=
  fun H locs ls hP hD hS hl => lv_irem C.1.1 C.1.2.1 hdg hne (hp ▸ k H locs ls hP hD hS hl)
theorem x_dup (C : Cx p m c cc nL s args Ts own D tys) {x : Value} (hdg : decode cc pc = .ok (.dup, 1)) (hc : x.category = 1) (hp : pc + 1 = pc2)
    (k : Wx p l e R s m args below meth c Q D A nL w u pc2 lv (x :: x :: rest)) : Wx p l e R s m args below meth c Q D A nL w u pc lv (x :: rest) :=
  fun H locs ls hP hD hS hl => lv_dup C.1.1 C.1.2.1 hdg hc (hp ▸ k H locs ls hP hD hS hl)
theorem x_dup2 (C : Cx p m c cc nL s args Ts own D tys) {x y : Value} (hdg : decode cc pc = .ok (.dup2, 1)) (hc : x.category = 1) (hc2 : y.category = 1) (hp : pc + 1 = pc2)
    (k : Wx p l e R s m args below meth c Q D A nL w u pc2 lv (x :: y :: x :: y :: rest)) : Wx p l e R s m args below meth c Q D A nL w u pc lv (x :: y :: rest) :=
  fun H locs ls hP hD hS hl => lv_dup2_11 C.1.1 C.1.2.1 hdg hc hc2 (hp ▸ k H locs ls hP hD hS hl)
theorem x_goto (C : Cx p m c cc nL s args Ts own D tys) {off : Int} (hdg : decode cc pc = .ok (.goto off, 3)) (hp : (pc : Int) + off = (pc2 : Int))
    (k : Wx p l e R s m args below meth c Q D A nL w u pc2 lv rest) : Wx p l e R s m args below meth c Q D A nL w u pc lv rest :=
  fun H locs ls hP hD hS hl => lv_goto C.1.1 C.1.2.1 hdg hp (k H locs ls hP hD hS hl)
theorem x_icmp_eq (C : Cx p m c cc nL s args Ts own D tys) {x y : Int32} {off : Int} {tgt : Nat} {ρ : Type} {E1 E2 : Option ρ} {res : ρ} (h : (if x = y then E1 else E2) = some res) (hdg : decode cc pc = .ok (.if_icmp .eq off, 3)) (ht : (pc : Int) + off = (tgt : Int)) (hp : pc + 3 = pc2)
    (kt : E1 = some res → Wx p l e R s m args below meth c Q D A nL w u tgt lv rest) (kf : E2 = some res → Wx p l e R s m args below meth c Q D A nL w u pc2 lv rest) : Wx p l e R s m args below meth c Q D A nL w u pc lv (.int y :: .int x :: rest) :=
  fun H locs ls hP hD hS hl => lv_icmp_eq C.1.1 C.1.2.1 hdg ht (fun q => kt ((if_pos q).symm.trans h) H locs ls hP hD hS hl) (fun q => hp ▸ kf ((if_neg q).symm.trans h) H locs ls hP hD hS hl)
theorem x_icmp_ne (C : Cx p m c cc nL s args Ts own D tys) {x y : Int32} {off : Int} {tgt : Nat} {ρ : Type} {E1 E2 : Option ρ} {res : ρ} (h : (if x = y then E2 else E1) = some res) (hdg : decode cc pc = .ok (.if_icmp .ne off, 3)) (ht : (pc : Int) + off = (tgt : Int)) (hp : pc + 3 = pc2)
    (kt : E1 = some res → Wx p l e R s m args below meth c Q D A nL w u tgt lv rest) (kf : E2 = some res → Wx p l e R s m args below meth c Q D A nL w u pc2 lv rest) : Wx p l e R s m args below meth c Q D A nL w u pc lv (.int y :: .int x :: rest) :=
  fun H locs ls hP hD hS hl => lv_icmp_ne C.1.1 C.1.2.1 hdg ht (fun q => kt ((if_neg q).symm.trans h) H locs ls hP hD hS hl) (fun q => hp ▸ kf ((if_pos q).symm.trans h) H locs ls hP hD hS hl)
theorem x_icmp_lt (C : Cx p m c cc nL s args Ts own D tys) {x y : Int32} {off : Int} {tgt : Nat} {ρ : Type} {E1 E2 : Option ρ} {res : ρ} (h : (if x < y then E1 else E2) = some res) (hdg : decode cc pc = .ok (.if_icmp .lt off, 3)) (ht : (pc : Int) + off = (tgt : Int)) (hp : pc + 3 = pc2)
    (kt : E1 = some res → Wx p l e R s m args below meth c Q D A nL w u tgt lv rest) (kf : E2 = some res → Wx p l e R s m args below meth c Q D A nL w u pc2 lv rest) : Wx p l e R s m args below meth c Q D A nL w u pc lv (.int y :: .int x :: rest) :=
  fun H locs ls hP hD hS hl => lv_icmp_lt C.1.1 C.1.2.1 hdg ht (fun q => kt ((if_pos q).symm.trans h) H locs ls hP hD hS hl) (fun q => hp ▸ kf ((if_neg q).symm.trans h) H locs ls hP hD hS hl)
theorem x_icmp_ge (C : Cx p m c cc nL s args Ts own D tys) {x y : Int32} {off : Int} {tgt : Nat} {ρ : Type} {E1 E2 : Option ρ} {res : ρ} (h : (if y ≤ x then E1 else E2) = some res) (hdg : decode cc pc = .ok (.if_icmp .ge off, 3)) (ht : (pc : Int) + off = (tgt : Int)) (hp : pc + 3 = pc2)
    (kt : E1 = some res → Wx p l e R s m args below meth c Q D A nL w u tgt lv rest) (kf : E2 = some res → Wx p l e R s m args below meth c Q D A nL w u pc2 lv rest) : Wx p l e R s m args below meth c Q D A nL w u pc lv (.int y :: .int x :: rest) :=
  fun H locs ls hP hD hS hl => lv_icmp_ge C.1.1 C.1.2.1 hdg ht (fun q => kt ((if_pos q).symm.trans h) H locs ls hP hD hS hl) (fun q => hp ▸ kf ((if_neg q).symm.trans h) H locs ls hP hD hS hl)
theorem x_icmp_gt (C : Cx p m c cc nL s args Ts own D tys) {x y : Int32} {off : Int} {tgt : Nat} {ρ : Type} {E1 E2 : Option ρ} {res : ρ} (h : (if y < x then E1 else E2) = some res) (hdg : decode cc pc = .ok (.if_icmp .gt off, 3)) (ht : (pc : Int) + off = (tgt : Int)) (hp : pc + 3 = pc2)
    (kt : E1 = some res → Wx p l e R s m args below meth c Q D A nL w u tgt lv rest) (kf : E2 = some res → Wx p l e R s m args below meth c Q D A nL w u pc2 lv rest) : Wx p l e R s m args below meth c Q D A nL w u pc lv (.int y :: .int x :: rest) :=
  fun H locs ls hP hD hS hl => lv_icmp_gt C.1.1 C.1.2.1 hdg ht (fun q => kt ((if_pos q).symm.trans h) H locs ls hP hD hS hl) (fun q => hp ▸ kf ((if_neg q).symm.trans h) H locs ls hP hD hS hl)
theorem x_icmp_le (C : Cx p m c cc nL s args Ts own D tys) {x y : Int32} {off : Int} {tgt : Nat} {ρ : Type} {E1 E2 : Option ρ} {res : ρ} (h : (if x ≤ y then E1 else E2) = some res) (hdg : decode cc pc = .ok (.if_icmp .le off, 3)) (ht : (pc : Int) + off = (tgt : Int)) (hp : pc + 3 = pc2)
    (kt : E1 = some res → Wx p l e R s m args below meth c Q D A nL w u tgt lv rest) (kf : E2 = some res → Wx p l e R s m args below meth c Q D A nL w u pc2 lv rest) : Wx p l e R s m args below meth c Q D A nL w u pc lv (.int y :: .int x :: rest) :=
  fun H locs ls hP hD hS hl => lv_icmp_le C.1.1 C.1.2.1 hdg ht (fun q => kt ((if_pos q).symm.trans h) H locs ls hP hD hS hl) (fun q => hp ▸ kf ((if_neg q).symm.trans h) H locs ls hP hD hS hl)
theorem x_if_eq (C : Cx p m c cc nL s args Ts own D tys) {x : Int32} {off : Int} {tgt : Nat} {ρ : Type} {E1 E2 : Option ρ} {res : ρ} (h : (if x = 0 then E1 else E2) = some res) (hdg : decode cc pc = .ok (.ifCond .eq off, 3)) (ht : (pc : Int) + off = (tgt : Int)) (hp : pc + 3 = pc2)
    (kt : E1 = some res → Wx p l e R s m args below meth c Q D A nL w u tgt lv rest) (kf : E2 = some res → Wx p l e R s m args below meth c Q D A nL w u pc2 lv rest) : Wx p l e R s m args below meth c Q D A nL w u pc lv (.int x :: rest) :=
  fun H locs ls hP hD hS hl => lv_if_eq C.1.1 C.1.2.1 hdg ht (fun q => kt ((if_pos q).symm.trans h) H locs ls hP hD hS hl) (fun q => hp ▸ kf ((if_neg q).symm.trans h) H locs ls hP hD hS hl)
theorem x_if_ne (C : Cx p m c cc nL s args Ts own D tys) {x : Int32} {off : Int} {tgt : Nat} {ρ : Type} {E1 E2 : Option ρ} {res : ρ} (h : (if x = 0 then E2 else E1) = some res) (hdg : decode cc pc = .ok (.ifCond .ne off, 3)) (ht : (pc : Int) + off = (tgt : Int)) (hp : pc + 3 = pc2)
    (kt : E1 = some res → Wx p l e R s m args below meth c Q D A nL w u tgt lv rest) (kf : E2 = some res → Wx p l e R s m args below meth c Q D A nL w u pc2 lv rest) : Wx p l e R s m args below meth c Q D A nL w u pc lv (.int x :: rest) :=
  fun H locs ls hP hD hS hl => lv_if_ne C.1.1 C.1.2.1 hdg ht (fun q => kt ((if_neg q).symm.trans h) H locs ls hP hD hS hl) (fun q => hp ▸ kf ((if_pos q).symm.trans h) H locs ls hP hD hS hl)
theorem x_if_lt (C : Cx p m c cc nL s args Ts own D tys) {x : Int32} {off : Int} {tgt : Nat} {ρ : Type} {E1 E2 : Option ρ} {res : ρ} (h : (if x < 0 then E1 else E2) = some res) (hdg : decode cc pc = .ok (.ifCond .lt off, 3)) (ht : (pc : Int) + off = (tgt : Int)) (hp : pc + 3 = pc2)
    (kt : E1 = some res → Wx p l e R s m args below meth c Q D A nL w u tgt lv rest) (kf : E2 = some res → Wx p l e R s m args below meth c Q D A nL w u pc2 lv rest) : Wx p l e R s m args below meth c Q D A nL w u pc lv (.int x :: rest) :=
  fun H locs ls hP hD hS hl => lv_if_lt C.1.1 C.1.2.1 hdg ht (fun q => kt ((if_pos q).symm.trans h) H locs ls hP hD hS hl) (fun q => hp ▸ kf ((if_neg q).symm.trans h) H locs ls hP hD hS hl)
theorem x_if_ge (C : Cx p m c cc nL s args Ts own D tys) {x : Int32} {off : Int} {tgt : Nat} {ρ : Type} {E1 E2 : Option ρ} {res : ρ} (h : (if 0 ≤ x then E1 else E2) = some res) (hdg : decode cc pc = .ok (.ifCond .ge off, 3)) (ht : (pc : Int) + off = (tgt : Int)) (hp : pc + 3 = pc2)
    (kt : E1 = some res → Wx p l e R s m args below meth c Q D A nL w u tgt lv rest) (kf : E2 = some res → Wx p l e R s m args below meth c Q D A nL w u pc2 lv rest) : Wx p l e R s m args below meth c Q D A nL w u pc lv (.int x :: rest) :=
  fun H locs ls hP hD hS hl => lv_if_ge C.1.1 C.1.2.1 hdg ht (fun q => kt ((if_pos q).symm.trans h) H locs ls hP hD hS hl) (fun q => hp ▸ kf ((if_neg q).symm.trans h) H locs ls hP hD hS hl)
theorem x_if_gt (C : Cx p m c cc nL s args Ts own D tys) {x : Int32} {off : Int} {tgt : Nat} {ρ : Type} {E1 E2 : Option ρ} {res : ρ} (h : (if 0 < x then E1 else E2) = some res) (hdg : decode cc pc = .ok (.ifCond .gt off, 3)) (ht : (pc : Int) + off = (tgt : Int)) (hp : pc + 3 = pc2)
    (kt : E1 = some res → Wx p l e R s m args below meth c Q D A nL w u tgt lv rest) (kf : E2 = some res → Wx p l e R s m args below meth c Q D A nL w u pc2 lv rest) : Wx p l e R s m args below meth c Q D A nL w u pc lv (.int x :: rest) :=
  fun H locs ls hP hD hS hl => lv_if_gt C.1.1 C.1.2.1 hdg ht (fun q => kt ((if_pos q).symm.trans h) H locs ls hP hD hS hl) (fun q => hp ▸ kf ((if_neg q).symm.trans h) H locs ls hP hD hS hl)
theorem x_if_le (C : Cx p m c cc nL s args Ts own D tys) {x : Int32} {off : Int} {tgt : Nat} {ρ : Type} {E1 E2 : Option ρ} {res : ρ} (h : (if x ≤ 0 then E1 else E2) = some res) (hdg : decode cc pc = .ok (.ifCond .le off, 3)) (ht : (pc : Int) + off = (tgt : Int)) (hp : pc + 3 = pc2)
    (kt : E1 = some res → Wx p l e R s m args below meth c Q D A nL w u tgt lv rest) (kf : E2 = some res → Wx p l e R s m args below meth c Q D A nL w u pc2 lv rest) : Wx p l e R s m args below meth c Q D A nL w u pc lv (.int x :: rest) :=
  fun H locs ls hP hD hS hl => lv_if_le C.1.1 C.1.2.1 hdg ht (fun q => kt ((if_pos q).symm.trans h) H locs ls hP hD hS hl) (fun q => hp ▸ kf ((if_neg q).symm.trans h) H locs ls hP hD hS hl)
theorem x_tabI (C : Cx p m c cc nL s args Ts own D tys) {dflt lo hi : Int} {offs : Array Int} {len : Nat} {x : Int32} {off : Int} {tgt : Nat} (v : Int32) (hx : x = v) (hdg : decode cc pc = .ok (.tableswitch dflt lo hi offs, len)) (h1 : ¬ v.toInt < lo) (h2 : ¬ hi < v.toInt) (ho : offs[(v.toInt - lo).toNat]? = some off) (ht : (pc : Int) + off = (tgt : Int))
    (k : Wx p l e R s m args below meth c Q D A nL w u tgt lv rest) : Wx p l e R s m args below meth c Q D A nL w u pc lv (.int x :: rest) := by
  subst hx
  exact fun H locs ls hP hD hS hl => lv_tableIn C.1.1 C.1.2.1 hdg h1 h2 ho ht (k H locs ls hP hD hS hl)
theorem x_tabO (C : Cx p m c cc nL s args Ts own D tys) {dflt lo hi : Int} {offs : Array Int} {len : Nat} {x : Int32} {tgt : Nat} (hdg : decode cc pc = .ok (.tableswitch dflt lo hi offs, len)) (h : x.toInt < lo ∨ hi < x.toInt) (ht : (pc : Int) + dflt = (tgt : Int))
    (k : Wx p l e R s m args below meth c Q D A nL w u tgt lv rest) : Wx p l e R s m args below meth c Q D A nL w u pc lv (.int x :: rest) :=
  fun H locs ls hP hD hS hl => lv_tableOut C.1.1 C.1.2.1 hdg h ht (k H locs ls hP hD hS hl)
theorem x_get (C : Cx p m c cc nL s args Ts own D tys) {C0 : String} {T : u_T} {N ci index : Nat} (hin : ∀ w ∈ u_ws C0 T N, w ∈ Ts) (q0 : Nat) {a : Nat} {fs : List Value} (he : (w u)[q0]? = some (a, .inr (ci, fs))) (hc : vwCl[ci]? = some (C0, T, N)) (k : Nat) (hk : k < N) (hlink : Cond.fieldLink own index (T k).1 (T k).2.1 (T k).2.2.1 ∈ Ts) {v : Value} (hv : fs[k]? = some v) (hdg : decode cc pc = .ok (.getfield index, 3)) (hp : pc + 3 = pc2)
    (kk : Wx p l e R s m args below meth c Q D A nL w u pc2 lv (v :: rest)) : Wx p l e R s m args below meth c Q D A nL w u pc lv (.ref a :: rest) :=
  fun H locs ls hP hD hS hl => va_get C.1.1 C.1.2.1 C.1.2.2.2.2 hin C.1.2.2.2.1 C.2 hP q0 he hc k hk (C.1.2.2.2.2 _ hlink) (fun _ h9 => h9) hv hdg (hp ▸ kk H locs ls hP hD hS hl)
theorem x_put (C : Cx p m c cc nL s args Ts own D tys) {C0 : String} {T : u_T} {N ci index : Nat} (hin : ∀ w ∈ u_ws C0 T N, w ∈ Ts) (ty0 : Nat → FieldType) (hty : ∀ k, k < N → parseFieldDescriptor (T k).2.2.1 = some (ty0 k)) (hnm : ∀ a, a < N → ∀ b, b < N → a ≠ b → (T a).2.1 ≠ (T b).2.1) (q0 : Nat) {a : Nat} {fs : List Value} (he : (w u)[q0]? = some (a, .inr (ci, fs))) (hc : vwCl[ci]? = some (C0, T, N)) (k : Nat) (hk : k < N) (hlink : Cond.fieldLink own index (T k).1 (T k).2.1 (T k).2.2.1 ∈ Ts) (hfin : (T k).2.2.2 = false) (hd : ty0 k = .int) (hl0 : k < fs.length) {x : Int32} (hw : (w u).set q0 (a, .inr (ci, fs.set k (.int x))) = w u2) (hdg : decode cc pc = .ok (.putfield index, 3)) (hp : pc + 3 = pc2)
    (kk : Wx p l e R s m args below meth c Q D A nL w u2 pc2 lv rest) : Wx p l e R s m args below meth c Q D A nL w u pc lv (.int x :: .ref a :: rest) :=
  fun H locs ls hP hD hS hl => va_put (v := .int x) (ty := .int) C.1.1 C.1.2.1 C.1.2.2.2.2 hin ty0 hty hnm C.1.2.2.2.1 C.2 hP hD hS q0 he hc k hk (C.1.2.2.2.2 _ hlink) (fun _ h9 => h9) hfin (hd ▸ hty k hk) rfl rfl hl0 hdg (fun H1 locs1 hP1 hD1 hS1 => hp ▸ kk H1 locs1 ls (hw ▸ hP1) (hw ▸ hD1) hS1 hl)
theorem x_iald (C : Cx p m c cc nL s args Ts own D tys) {cA : ClassId} {n : Nat} {f : Nat → Int32} {a : Nat} {ρ : Type} {E1 : Option ρ} {res : ρ} {i : Int32} (h : (if inb i n = true then E1 else none) = some res) (q0 t0 : Nat) (ha : (w u)[q0]? = some (a, .inl (cA, n, .inl f))) (ht : tys[t0]? = some (cA, .int)) (hdg : decode cc pc = .ok (.iaload, 1)) (hp : pc + 1 = pc2)
    (kk : E1 = some res → Wx p l e R s m args below meth c Q D A nL w u pc2 lv (.int (f i.toNatClampNeg) :: rest)) : Wx p l e R s m args below meth c Q D A nL w u pc lv (.int i :: .ref a :: rest) := by
  by_cases q : inb i n = true
  · exact fun H locs ls hP hD hS hl => va_iald C.1.1 C.1.2.1 C.2 hP q0 t0 ha ht (inb_in q) hdg (hp ▸ kk ((if_pos q).symm.trans h) H locs ls hP hD hS hl)
  · exact absurd ((if_neg q).symm.trans h) (by simp)
theorem x_zald (C : Cx p m c cc nL s args Ts own D tys) {cA : ClassId} {n : Nat} {f : Nat → Int32} {a : Nat} {ρ : Type} {E1 : Option ρ} {res : ρ} {i : Int32} (h : (if inb i n = true then E1 else none) = some res) (q0 t0 : Nat) (ha : (w u)[q0]? = some (a, .inl (cA, n, .inl f))) (ht : tys[t0]? = some (cA, .boolean)) (hdg : decode cc pc = .ok (.baload, 1)) (hp : pc + 1 = pc2)
    (kk : E1 = some res → Wx p l e R s m args below meth c Q D A nL w u pc2 lv (.int (f i.toNatClampNeg) :: rest)) : Wx p l e R s m args below meth c Q D A nL w u pc lv (.int i :: .ref a :: rest) := by
  by_cases q : inb i n = true
  · exact fun H locs ls hP hD hS hl => va_zald C.1.1 C.1.2.1 C.2 hP q0 t0 ha ht (inb_in q) hdg (hp ▸ kk ((if_pos q).symm.trans h) H locs ls hP hD hS hl)
  · exact absurd ((if_neg q).symm.trans h) (by simp)
theorem x_aald2 (C : Cx p m c cc nL s args Ts own D tys) {cA : ClassId} {C0 : String} {a b0 b1 : Nat} {ρ : Type} {E0 E1 : Option ρ} {res : ρ} {i : Int32} (h : (if i = 0 then E0 else if i = 1 then E1 else none) = some res) (q0 t0 : Nat) (ha : (w u)[q0]? = some (a, .inl (cA, 2, .inr (.inr (.inr (.inr (fun j => if j = 0 then some b0 else some b1))))))) (ht : tys[t0]? = some (cA, .object C0)) (hdg : decode cc pc = .ok (.aaload, 1)) (hp : pc + 1 = pc2)
    (k0 : E0 = some res → Wx p l e R s m args below meth c Q D A nL w u pc2 lv (.ref b0 :: rest)) (k1 : E1 = some res → Wx p l e R s m args below meth c Q D A nL w u pc2 lv (.ref b1 :: rest)) : Wx p l e R s m args below meth c Q D A nL w u pc lv (.int i :: .ref a :: rest) := by
  by_cases q : i = 0
  · have h := (if_pos q).symm.trans h
    subst q
    exact fun H locs ls hP hD hS hl => va_aldq C.1.1 C.1.2.1 C.2 hP q0 t0 ha ht (by unfold vp_in; decide) hdg (hp ▸ k0 h H locs ls hP hD hS hl)
  · have h := (if_neg q).symm.trans h
    by_cases q : i = 1
    · have h := (if_pos q).symm.trans h
      subst q
      exact fun H locs ls hP hD hS hl => va_aldq C.1.1 C.1.2.1 C.2 hP q0 t0 ha ht (by unfold vp_in; decide) hdg (hp ▸ k1 h H locs ls hP hD hS hl)
    · exact absurd ((if_neg q).symm.trans h) (by simp)
theorem x_iast (C : Cx p m c cc nL s args Ts own D tys) {cA : ClassId} {n : Nat} {f : Nat → Int32} {a : Nat} {ρ : Type} {E1 : Option ρ} {res : ρ} {i x : Int32} (h : (if inb i n = true then E1 else none) = some res) (q0 t0 : Nat) (ha : (w u)[q0]? = some (a, .inl (cA, n, .inl f))) (ht : tys[t0]? = some (cA, .int)) (hw : (w u).set q0 (a, .inl (cA, n, .inl (upd f i.toNatClampNeg x))) = w u2) (hdg : decode cc pc = .ok (.iastore, 1)) (hp : pc + 1 = pc2)
    (kk : E1 = some res → Wx p l e R s m args below meth c Q D A nL w u2 pc2 lv rest) : Wx p l e R s m args below meth c Q D A nL w u pc lv (.int x :: .int i :: .ref a :: rest) := by
  by_cases q : inb i n = true
  · exact fun H locs ls hP hD hS hl => va_iast C.1.1 C.1.2.1 C.2 hP hD hS q0 t0 ha ht (inb_in q) hdg (fun H1 locs1 hP1 hD1 hS1 => hp ▸ kk ((if_pos q).symm.trans h) H1 locs1 ls (hw ▸ hP1) (hw ▸ hD1) hS1 hl)
  · exact absurd ((if_neg q).symm.trans h) (by simp)
theorem x_zast (C : Cx p m c cc nL s args Ts own D tys) {cA : ClassId} {n : Nat} {f : Nat → Int32} {a : Nat} {ρ : Type} {E1 : Option ρ} {res : ρ} {i x : Int32} (h : (if inb i n = true then E1 else none) = some res) (q0 t0 : Nat) (ha : (w u)[q0]? = some (a, .inl (cA, n, .inl f))) (ht : tys[t0]? = some (cA, .boolean)) (hz : vp_nar .boolean x = x) (hw : (w u).set q0 (a, .inl (cA, n, .inl (upd f i.toNatClampNeg x))) = w u2) (hdg : decode cc pc = .ok (.bastore, 1)) (hp : pc + 1 = pc2)
    (kk : E1 = some res → Wx p l e R s m args below meth c Q D A nL w u2 pc2 lv rest) : Wx p l e R s m args below meth c Q D A nL w u pc lv (.int x :: .int i :: .ref a :: rest) := by
  by_cases q : inb i n = true
  · exact fun H locs ls hP hD hS hl => va_zast C.1.1 C.1.2.1 C.2 hP hD hS q0 t0 ha ht (inb_in q) hdg (fun H1 locs1 hP1 hD1 hS1 => by
      rw [hz] at hP1 hD1
      exact hp ▸ kk ((if_pos q).symm.trans h) H1 locs1 ls (hw ▸ hP1) (hw ▸ hD1) hS1 hl)
  · exact absurd ((if_neg q).symm.trans h) (by simp)
theorem x_copyi (C : Cx p m c cc nL s args Ts own D tys) {index : Nat} (hlink : Cond.methodLink own index arraycopyName ∈ Ts) (hnat : Cond.native arraycopyName ∈ Ts) (hstat : Cond.static arraycopyName ∈ Ts) (hini : Cond.initialized "java/lang/System" ∈ Ts) (q0 q1 t0 : Nat) {a a0 : Nat} {cA : ClassId} {n0 n1 : Nat} {f g : Nat → Int32} (ha0 : (w u)[q0]? = some (a0, .inl (cA, n0, .inl f))) (ha1 : (w u)[q1]? = some (a, .inl (cA, n1, .inl g))) (ht : tys[t0]? = some (cA, .int)) {n : Int32} {ρ : Type} {E1 : Option ρ} {res : ρ} (h : (if decide (0 ≤ n.toInt ∧ n.toNatClampNeg ≤ n0 ∧ n.toNatClampNeg ≤ n1) = true then E1 else none) = some res)
    (hframes : 1 ≤ R.frames) (hlocals : (rest.map fun v => v.category).sum + 18 ≤ R.locals) (hw : (w u).set q1 (a, .inl (cA, n1, .inl (va_cpy f g 0 0 n.toNatClampNeg))) = w u2) (hdg : decode cc pc = .ok (.invokestatic index, 3)) (hp : pc + 3 = pc2)
    (kk : E1 = some res → Wx p l e R s m args below meth c Q D A nL w u2 pc2 lv rest) : Wx p l e R s m args below meth c Q D A nL w u pc lv (.int n :: .int 0 :: .ref a :: .int 0 :: .ref a0 :: rest) := by
  by_cases q : decide (0 ≤ n.toInt ∧ n.toNatClampNeg ≤ n0 ∧ n.toNatClampNeg ≤ n1) = true
  · obtain ⟨q1', q2, q3⟩ := of_decide_eq_true q
    have z : (0 : Int32).toNatClampNeg = 0 := by decide
    exact fun H locs ls hP hD hS hl => va_copyi C.1.1 C.1.2.1 (C.1.2.2.1.trans hl.1.symm) C.1.2.2.2.1 (C.1.2.2.2.2 _ hlink) (C.1.2.2.2.2 _ hnat) (C.1.2.2.2.2 _ hstat) (C.1.2.2.2.2 _ hini) C.2 hP hD hS q0 q1 t0 t0 (ty := .int) ha0 ha1 ht ht rfl (by decide) (by decide) (fun q9 => absurd (Int32.lt_iff_toInt_lt.mp q9) (by simpa using q1')) (by rw [z, Nat.zero_add]; exact q2) (by rw [z, Nat.zero_add]; exact q3) (fun _ _ => rfl) hframes hlocals hdg (fun H1 locs1 hP1 hD1 hS1 => by
      rw [z] at hP1 hD1
      exact hp ▸ kk ((if_pos q).symm.trans h) H1 locs1 ls (hw ▸ hP1) (hw ▸ hD1) hS1 hl)
  · exact absurd ((if_neg q).symm.trans h) (by simp)
theorem x_mmax (C : Cx p m c cc nL s args Ts own D tys) {index : Nat} (hlink : Cond.methodLink own index Lib.Math.max.name ∈ Ts) (hstat : Cond.static Lib.Math.max.name ∈ Ts) (hini : Cond.initialized "java/lang/Math" ∈ Ts) (hcode : Cond.code Lib.Math.max.name Lib.Math.max.code 2 (some .int) ∈ Ts) (hframes : 1 ≤ R.frames) (hlocals : (rest.map fun v => v.category).sum + 13 ≤ R.locals) {x y : Int32} (hdg : decode cc pc = .ok (.invokestatic index, 3)) (hp : pc + 3 = pc2)
    (kk : Wx p l e R s m args below meth c Q D A nL w u pc2 lv (.int (if x < y then y else x) :: rest)) : Wx p l e R s m args below meth c Q D A nL w u pc lv (.int y :: .int x :: rest) :=
  fun H locs ls hP hD hS hl => va_mmax C.1.1 C.1.2.1 (C.1.2.2.1.trans hl.1.symm) C.1.2.2.2.1 (C.1.2.2.2.2 _ hlink) (C.1.2.2.2.2 _ hstat) (C.1.2.2.2.2 _ hini) (C.1.2.2.2.2 _ hcode) hframes hlocals (Nat.zero_le _) (Nat.zero_le _) hdg (hp ▸ kk H locs ls hP hD hS hl)
theorem x_mabs (C : Cx p m c cc nL s args Ts own D tys) {index : Nat} (hlink : Cond.methodLink own index Lib.Math.abs.name ∈ Ts) (hstat : Cond.static Lib.Math.abs.name ∈ Ts) (hini : Cond.initialized "java/lang/Math" ∈ Ts) (hcode : Cond.code Lib.Math.abs.name Lib.Math.abs.code 1 (some .int) ∈ Ts) (hframes : 1 ≤ R.frames) (hlocals : (rest.map fun v => v.category).sum + 13 ≤ R.locals) {x : Int32} (hdg : decode cc pc = .ok (.invokestatic index, 3)) (hp : pc + 3 = pc2)
    (kk : Wx p l e R s m args below meth c Q D A nL w u pc2 lv (.int (if 0 ≤ x then x else 0 - x) :: rest)) : Wx p l e R s m args below meth c Q D A nL w u pc lv (.int x :: rest) :=
  fun H locs ls hP hD hS hl => va_mabs C.1.1 C.1.2.1 (C.1.2.2.1.trans hl.1.symm) C.1.2.2.2.1 (C.1.2.2.2.2 _ hlink) (C.1.2.2.2.2 _ hstat) (C.1.2.2.2.2 _ hini) (C.1.2.2.2.2 _ hcode) hframes hlocals (Nat.zero_le _) (Nat.zero_le _) hdg (hp ▸ kk H locs ls hP hD hS hl)
theorem x_iret (C : Cx p m c cc nL s args Ts own D tys) (hr : meth.sig.returnType = some .int) (hlocks : meth.locks = false) {v r : Int32} {ur : Mem} (h : some (v, u) = some (r, ur)) (hdg : decode cc pc = .ok (.ireturn, 1)) : Wx p l e R s m args below meth c (MQ below (Qix D A w r ur) args s 0 0 A) D A nL w u pc lv [.int v] := by
  cases h
  exact fun H locs ls hP hD hS hl => W.iret (v := v) C.1.1 C.1.2.1 hr (fun t ht hW => ⟨⟨v, u, rfl, ⟨rfl, rfl⟩, (by show va_P D vwCl (w u) t.heap; rw [ht]; exact hP)⟩, hS.F ht⟩) hS.2.2 hdg hlocks
theorem x_zret (C : Cx p m c cc nL s args Ts own D tys) (hr : meth.sig.returnType = some .boolean) (hlocks : meth.locks = false) {v r : Int32} {ur : Mem} (h : (if vz v = true then some (v, u) else none) = some (r, ur)) (hdg : decode cc pc = .ok (.ireturn, 1)) : Wx p l e R s m args below meth c (MQ below (Qix D A w r ur) args s 0 0 A) D A nL w u pc lv [.int v] := by
  by_cases q : vz v = true
  · cases (if_pos q).symm.trans h
    exact fun H locs ls hP hD hS hl => W.zret (v := v) C.1.1 C.1.2.1 hr (vz_nar q) (fun t ht hW => ⟨⟨v, u, rfl, ⟨rfl, rfl⟩, (by show va_P D vwCl (w u) t.heap; rw [ht]; exact hP)⟩, hS.F ht⟩) hS.2.2 hdg hlocks
  · exact absurd ((if_neg q).symm.trans h) (by simp)
theorem x_zretL (C : Cx p m c cc nL s args Ts own D tys) (hr : meth.sig.returnType = some .boolean) (hlocks : meth.locks = false) {v r : Int32} {ur : Mem} (h : some (v, u) = some (r, ur)) (hz : vz v = true) (hdg : decode cc pc = .ok (.ireturn, 1)) : Wx p l e R s m args below meth c (MQ below (Qix D A w r ur) args s 0 0 A) D A nL w u pc lv [.int v] :=
  x_zret C hr hlocks ((if_pos hz).trans h) hdg
theorem x_vret (C : Cx p m c cc nL s args Ts own D tys) (hr : meth.sig.returnType = none) (hlocks : meth.locks = false) {ur : Mem} (h : some u = some ur) (hdg : decode cc pc = .ok (.return_, 1)) : Wx p l e R s m args below meth c (MQ below (Qvx D A w ur) args s 0 0 A) D A nL w u pc lv [] := by
  cases h
  exact fun H locs ls hP hD hS hl => W.vret C.1.1 C.1.2.1 hr (fun t ht hW => ⟨⟨u, rfl, rfl, (by show va_P D vwCl (w u) t.heap; rw [ht]; exact hP)⟩, hS.F ht⟩) hS.2.2 hdg hlocks
theorem x_callVi (C : Cx p m c cc nL s args Ts own D tys) {y : MethodName} {bytes : ByteArray} {maxL n index : Nat} {ret : Option FieldType} {ws ws2 : List Cond} {rm : Room} {ρ : Type} {res : ρ} {E : Option (Int32 × Mem)} {k : Int32 → Mem → Option ρ} (h : bnd E k = some res) {C0 : String} {ci q0 b : Nat} {q : vw_C} {fs : List Value} {As : List Value} {st : List Value} (hM : Cti l y ws rm D A w tys (.ref b :: As) u E) (hT : GoodIn Ts (wsV own index C0 y ws)) (hw : ws = Cond.code y bytes maxL ret :: ws2) (hd : y.cls = C0 ∧ y.cls ≠ "java/lang/invoke/MethodHandle" ∧ y.cls ≠ "java/lang/invoke/VarHandle" ∧ (parseMethodDescriptor y.desc).map (fun d => d.parameters.length) = some n) (hrc : rm.cells = 0) (hrs : rm.slots = 0) (hR : rm.frames + 1 ≤ R.frames ∧ 8 + (maxL + 11) + rm.locals ≤ R.locals) (hc : vwCl[ci]? = some q) (hC0 : q.1 = C0) (he : (w u)[q0]? = some (b, .inr (ci, fs))) (hdw : ∀ u1 : Mem, va_D A (w u) → va_D A (w u1)) (hn : As.length = n) (hst : As.reverse ++ .ref b :: rest = st) (hsum : (rest.map fun v => v.category).sum ≤ 8) (hdg : decode cc pc = .ok (.invokevirtual index, 3)) (hp : pc + 3 = pc2)
    (kk : ∀ (r1 : Int32) (u1 : Mem), k r1 u1 = some res → Wx p l e R s m args below meth c Q D A nL w u1 pc2 lv (.int r1 :: rest)) : Wx p l e R s m args below meth c Q D A nL w u pc lv st := by
  subst hst; subst hC0
  obtain ⟨r1, u1, hE, h⟩ := bnd_inv h
  intro H locs ls hP hD hS hl
  refine va_calli (va_runV C.1 (hM r1 u1 hE) (cwV n C.1.2.2.2.2 hT hw hrc hrs hd hR) ⟨Pcx_blind, va_recv C.2 hP hc he, fun U hU hW => ⟨rfl, hU.symm ▸ hP, va_K.moved hW.alike C.2, hD⟩⟩ rfl hn hl.1 rfl (lv_room hsum) hdg ⟨Nat.zero_le _, Nat.zero_le _⟩) hS (fun q _ h => h) (fun q h => h) (fun r9 u9 t H1 locs1 ht hvm hw9 hB hz1 hk1 hS1 => ?_)
  obtain ⟨rfl, rfl⟩ := hw9
  exact hp ▸ kk _ _ h H1 locs1 ls (ht ▸ hB) (hdw _ hD) hS1 hl
theorem x_callSi (C : Cx p m c cc nL s args Ts own D tys) {y : MethodName} {bytes : ByteArray} {maxL n index : Nat} {ret : Option FieldType} {ws ws2 : List Cond} {rm : Room} {ρ : Type} {res : ρ} {E : Option (Int32 × Mem)} {k : Int32 → Mem → Option ρ} (h : bnd E k = some res) {As : List Value} {st : List Value} (hM : Cti l y ws rm D A w tys As u E) (hT : GoodIn Ts (va_wsS own index y ws)) (hw : ws = Cond.code y bytes maxL ret :: ws2) (hd : y.cls ≠ "java/lang/invoke/MethodHandle" ∧ y.cls ≠ "java/lang/invoke/VarHandle" ∧ (parseMethodDescriptor y.desc).map (fun d => d.parameters.length) = some n) (hrc : rm.cells = 0) (hrs : rm.slots = 0) (hR : rm.frames + 1 ≤ R.frames ∧ 8 + (maxL + 11) + rm.locals ≤ R.locals) (hdw : ∀ u1 : Mem, va_D A (w u) → va_D A (w u1)) (hn : As.length = n) (hst : As.reverse ++ rest = st) (hsum : (rest.map fun v => v.category).sum ≤ 8) (hdg : decode cc pc = .ok (.invokestatic index, 3)) (hp : pc + 3 = pc2)
    (kk : ∀ (r1 : Int32) (u1 : Mem), k r1 u1 = some res → Wx p l e R s m args below meth c Q D A nL w u1 pc2 lv (.int r1 :: rest)) : Wx p l e R s m args below meth c Q D A nL w u pc lv st := by
  subst hst
  obtain ⟨r1, u1, hE, h⟩ := bnd_inv h
  intro H locs ls hP hD hS hl
  refine va_calli (va_runS C.1 (hM r1 u1 hE) (va_cwS n C.1.2.2.2.2 hT hw hrc hrs hd hR) ⟨Pcx_blind, fun U hU hW => ⟨rfl, hU.symm ▸ hP, va_K.moved hW.alike C.2, hD⟩⟩ rfl hn hl.1 rfl (lv_room hsum) hdg ⟨Nat.zero_le _, Nat.zero_le _⟩) hS (fun q _ h => h) (fun q h => h) (fun r9 u9 t H1 locs1 ht hvm hw9 hB hz1 hk1 hS1 => ?_)
  obtain ⟨rfl, rfl⟩ := hw9
  exact hp ▸ kk _ _ h H1 locs1 ls (ht ▸ hB) (hdw _ hD) hS1 hl
theorem x_callVv (C : Cx p m c cc nL s args Ts own D tys) {y : MethodName} {bytes : ByteArray} {maxL n index : Nat} {ret : Option FieldType} {ws ws2 : List Cond} {rm : Room} {ρ : Type} {res : ρ} {E : Option Mem} {k : Mem → Option ρ} (h : bnv E k = some res) {C0 : String} {ci q0 b : Nat} {q : vw_C} {fs : List Value} {As : List Value} {st : List Value} (hM : Ctv l y ws rm D A w tys (.ref b :: As) u E) (hT : GoodIn Ts (wsV own index C0 y ws)) (hw : ws = Cond.code y bytes maxL ret :: ws2) (hd : y.cls = C0 ∧ y.cls ≠ "java/lang/invoke/MethodHandle" ∧ y.cls ≠ "java/lang/invoke/VarHandle" ∧ (parseMethodDescriptor y.desc).map (fun d => d.parameters.length) = some n) (hrc : rm.cells = 0) (hrs : rm.slots = 0) (hR : rm.frames + 1 ≤ R.frames ∧ 8 + (maxL + 11) + rm.locals ≤ R.locals) (hc : vwCl[ci]? = some q) (hC0 : q.1 = C0) (he : (w u)[q0]? = some (b, .inr (ci, fs))) (hdw : ∀ u1 : Mem, va_D A (w u) → va_D A (w u1)) (hn : As.length = n) (hst : As.reverse ++ .ref b :: rest = st) (hsum : (rest.map fun v => v.category).sum ≤ 8) (hdg : decode cc pc = .ok (.invokevirtual index, 3)) (hp : pc + 3 = pc2)
    (kk : ∀ (u1 : Mem), k u1 = some res → Wx p l e R s m args below meth c Q D A nL w u1 pc2 lv rest) : Wx p l e R s m args below meth c Q D A nL w u pc lv st := by
  subst hst; subst hC0
  obtain ⟨u1, hE, h⟩ := bnv_inv h
  intro H locs ls hP hD hS hl
  refine va_callv (va_runV C.1 (hM u1 hE) (cwV n C.1.2.2.2.2 hT hw hrc hrs hd hR) ⟨Pcx_blind, va_recv C.2 hP hc he, fun U hU hW => ⟨rfl, hU.symm ▸ hP, va_K.moved hW.alike C.2, hD⟩⟩ rfl hn hl.1 rfl (lv_room hsum) hdg ⟨Nat.zero_le _, Nat.zero_le _⟩) hS (fun q _ h => h) (fun q h => h) (fun u9 t H1 locs1 ht hvm hw9 hB hz1 hk1 hS1 => ?_)
  subst hw9
  exact hp ▸ kk _ h H1 locs1 ls (ht ▸ hB) (hdw _ hD) hS1 hl
end Walk
