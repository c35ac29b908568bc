/-! Pure facts: numbers, memory, and what the pure functions answer. -/
theorem i_lt (a b : Int32) : a < b ↔ a.toInt < b.toInt := Int32.lt_iff_toInt_lt
theorem i_le (a b : Int32) : a ≤ b ↔ a.toInt ≤ b.toInt := Int32.le_iff_toInt_le
theorem i_eq (a b : Int32) : a = b ↔ a.toInt = b.toInt := Int32.toInt_inj.symm
theorem i_rng (x : Int32) : -2147483648 ≤ x.toInt ∧ x.toInt < 2147483648 := by
  have h1 := Int32.le_toInt x
  have h2 := Int32.toInt_lt x
  constructor <;> omega
theorem i_sm {z : Int} (h1 : -2147483648 ≤ z) (h2 : z < 2147483648) : z.bmod 4294967296 = z := by
  rw [Int.bmod_eq_of_le] <;> omega
theorem i_add {x y : Int32} (h1 : -2147483648 ≤ x.toInt + y.toInt) (h2 : x.toInt + y.toInt < 2147483648) : (x + y).toInt = x.toInt + y.toInt := by
  rw [Int32.toInt_add]; exact i_sm h1 h2
theorem i_sub {x y : Int32} (h1 : -2147483648 ≤ x.toInt - y.toInt) (h2 : x.toInt - y.toInt < 2147483648) : (x - y).toInt = x.toInt - y.toInt := by
  rw [Int32.toInt_sub]; exact i_sm h1 h2
theorem i_nI {n : Nat} (h : n < 2147483648) : (nI n).toInt = (n : Int) := nI_toInt h
theorem i_of {x : Int32} {n : Nat} (h : x.toInt = n) : x = nI n := by
  have h2 := (i_rng x).2
  rw [i_eq, i_nI (by omega)]; exact h
/-- every number is below 0, or a natural number -/
theorem i_cases (x : Int32) : x.toInt < 0 ∨ ∃ n : Nat, n < 2147483648 ∧ x = nI n := by
  have h2 := (i_rng x).2
  by_cases h : x.toInt < 0
  · exact Or.inl h
  · exact Or.inr ⟨x.toInt.toNat, by omega, i_of (by omega)⟩
theorem n_lt {a b : Nat} (ha : a < 2147483648) (hb : b < 2147483648) : (nI a < nI b) = (a < b) := propext (nI_ltI ha hb)
theorem n_le {a b : Nat} (ha : a < 2147483648) (hb : b < 2147483648) : (nI a ≤ nI b) = (a ≤ b) := propext (nI_leI ha hb)
theorem n_eq {a b : Nat} (ha : a < 2147483648) (hb : b < 2147483648) : (nI a = nI b) = (a = b) := propext (nI_eq ha hb)
theorem n_cl {a : Nat} (ha : a < 2147483648) : (nI a).toNatClampNeg = a := nI_clamp ha
theorem n_inb {a n : Nat} (ha : a < 2147483648) : inb (nI a) n = decide (a < n) := by
  unfold inb
  rw [i_nI ha]
  congr 1
  apply propext
  omega
theorem n_l0 : (0 : Int32) = nI 0 := rfl
theorem n_l1 : (1 : Int32) = nI 1 := rfl
theorem n_l2 : (2 : Int32) = nI 2 := rfl
theorem n_l3 : (3 : Int32) = nI 3 := rfl
theorem n_l4 : (4 : Int32) = nI 4 := rfl
theorem n_l5 : (5 : Int32) = nI 5 := rfl
theorem n_l6 : (6 : Int32) = nI 6 := rfl
theorem n_l9 : (9 : Int32) = nI 9 := rfl
theorem n_l10 : (10 : Int32) = nI 10 := rfl
theorem n_l12 : (12 : Int32) = nI 12 := rfl
theorem n_l13 : (13 : Int32) = nI 13 := rfl
theorem n_l14 : (14 : Int32) = nI 14 := rfl
theorem n_l18 : (18 : Int32) = nI 18 := rfl
theorem n_l19 : (19 : Int32) = nI 19 := rfl
theorem n_l20 : (20 : Int32) = nI 20 := rfl
theorem n_l27 : (27 : Int32) = nI 27 := rfl
theorem n_l33 : (33 : Int32) = nI 33 := rfl
theorem n_l36 : (36 : Int32) = nI 36 := rfl
theorem n_l48 : (48 : Int32) = nI 48 := rfl
theorem n_l50 : (50 : Int32) = nI 50 := rfl
theorem n_l51 : (51 : Int32) = nI 51 := rfl
theorem n_l72 : (72 : Int32) = nI 72 := rfl
theorem n_l73 : (73 : Int32) = nI 73 := rfl
theorem n_l74 : (74 : Int32) = nI 74 := rfl
theorem n_l126 : (126 : Int32) = nI 126 := rfl
theorem n_add (a b : Nat) : nI a + nI b = nI (a + b) := nI_add a b
theorem n_mul (a b : Nat) : nI a * nI b = nI (a * b) := pk_mul a b
theorem n_sub {a b : Nat} (h : b ≤ a) : nI a - nI b = nI (a - b) := pk_sub h
theorem n_div {a d : Nat} (ha : a < 2147483648) (h0 : 0 < d) (hd : d < 2147483648) : nI a / nI d = nI (a / d) := pk_div ha h0 hd
theorem n_rem {a d : Nat} (ha : a < 2147483648) (h0 : 0 < d) (hd : d < 2147483648) : nI a - nI a / nI d * nI d = nI (a % d) := pk_rem ha h0 hd
theorem n_ite {c : Prop} [Decidable c] (a b : Nat) : (if c then nI a else nI b) = nI (if c then a else b) := by split <;> rfl
theorem put_get (u : Mem) (k j : Nat) (v : Int32) (k2 j2 : Nat) : put u k j v k2 j2 = if k2 = k ∧ j2 = j then v else u k2 j2 := by
  unfold put
  by_cases h : k2 = k
  · subst h
    by_cases h2 : j2 = j
    · simp [upd, h2]
    · simp [upd, h2]
  · simp [h]
theorem put_same (u : Mem) (k j : Nat) (v : Int32) : put u k j v k j = v := by simp [put_get]
theorem put_cell (u : Mem) {k k2 : Nat} (j : Nat) (v : Int32) (h : k2 ≠ k) : put u k j v k2 = u k2 := by simp [put, h]
theorem put_slot (u : Mem) {k k2 j j2 : Nat} (v : Int32) (h : k2 ≠ k ∨ j2 ≠ j) : put u k j v k2 j2 = u k2 j2 := by
  rw [put_get, if_neg]
  rintro ⟨rfl, rfl⟩
  rcases h with h | h <;> exact h rfl
/-! the greatest, and the gaps, of a stretch -/
def mxf (t : Nat → Nat) (a : Nat) : Nat → Nat
  | 0 => 0
  | n + 1 => if mxf t a n < t (a + n) then t (a + n) else mxf t a n
def sgf (t : Nat → Nat) (h a : Nat) : Nat → Nat
  | 0 => 0
  | n + 1 => sgf t h a n + (h - t (a + n))
theorem mxf_le {t : Nat → Nat} {a b : Nat} : ∀ {n : Nat}, (∀ i, a ≤ i → i < a + n → t i ≤ b) → mxf t a n ≤ b
  | 0, _ => Nat.zero_le _
  | n + 1, h => by
    have h1 := mxf_le (n := n) (fun i h1 h2 => h i h1 (by omega))
    have h2 := h (a + n) (by omega) (by omega)
    unfold mxf
    split <;> omega
theorem mxf_ge {t : Nat → Nat} {a : Nat} : ∀ {n i : Nat}, a ≤ i → i < a + n → t i ≤ mxf t a n
  | 0, i, h1, h2 => by omega
  | n + 1, i, h1, h2 => by
    unfold mxf
    rcases Nat.lt_or_ge i (a + n) with h | h
    · have := mxf_ge (t := t) h1 h
      split <;> omega
    · have e : i = a + n := by omega
      subst e
      split <;> omega
theorem sgf_le {t : Nat → Nat} {h a : Nat} : ∀ {n : Nat}, sgf t h a n ≤ n * h
  | 0 => by simp [sgf]
  | n + 1 => by
    have := sgf_le (t := t) (h := h) (a := a) (n := n)
    unfold sgf
    rw [Nat.succ_mul]
    omega
theorem xh_loop {u : Mem} {t : Nat → Nat} {a n : Nat} (h9 : a + n ≤ 9) (hu : ∀ i, a ≤ i → i < a + n → u 3 i = nI (t i) ∧ t i ≤ 6) : ∀ (m k f : Nat), k + m = n → m < f → e_X0_tierHeight_L5 f u (nI a) (nI n) (nI (mxf t a k)) (nI (a + k)) = some (nI (mxf t a n), u) := by
  intro m
  induction m with
  | zero =>
    intro k f hk hf
    obtain ⟨f, rfl⟩ : ∃ g, f = g + 1 := ⟨f - 1, by omega⟩
    have e : k = n := by omega
    subst e
    show e_X0_tierHeight_L5_b _ _ _ _ _ _ = _
    unfold e_X0_tierHeight_L5_b
    rw [if_pos (by rw [n_add, n_le (by omega) (by omega)]; omega)]
  | succ m ih =>
    intro k f hk hf
    obtain ⟨f, rfl⟩ : ∃ g, f = g + 1 := ⟨f - 1, by omega⟩
    have hb : mxf t a k ≤ 6 := mxf_le (fun i h1 h2 => (hu i h1 (by omega)).2)
    have h3 := hu (a + k) (by omega) (by omega)
    show e_X0_tierHeight_L5_b _ _ _ _ _ _ = _
    unfold e_X0_tierHeight_L5_b
    simp (disch := omega) only [n_l1, n_add, n_le, n_inb, n_cl, n_lt, h3.1, n_ite, decide_eq_true_eq]
    rw [if_neg (by omega), if_pos (by omega)]
    have := ih (k + 1) f (by omega) (by omega)
    rw [← Nat.add_assoc] at this
    exact this
theorem xh {u : Mem} {t : Nat → Nat} {a n : Nat} (h9 : a + n ≤ 9) (hu : ∀ i, a ≤ i → i < a + n → u 3 i = nI (t i) ∧ t i ≤ 6) : e_X0_tierHeight u (nI a) (nI n) = some (nI (mxf t a n), u) := xh_loop h9 hu n 0 FU (by omega) (by unfold FU; omega)
