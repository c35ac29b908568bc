/-! What the two memories have in common: a book B (0 0: how many panels, 0 1: high, 1: weights, 2: talls, 3: kinds, 4: balloons, 5: speakers), a pad P (0 0: size, 1: signs, 2: which images are kept), two images. -/
def OKB (B : Nat → Nat → Nat) : Prop := B 0 0 ≤ 9 ∧ 6 ≤ B 0 1 ∧ B 0 1 ≤ 20 ∧ ∀ i, i < B 0 0 → (1 ≤ B 1 i ∧ B 1 i ≤ 9) ∧ (1 ≤ B 2 i ∧ B 2 i ≤ 6) ∧ B 3 i ≤ 3 ∧ B 4 i ≤ 4 ∧ ∀ j, j < B 4 i → B 5 (4 * i + j) ≤ 3
def BX (B : Nat → Nat → Nat) (u : Mem) (b : Nat) : Prop := u b 0 = nI (B 0 0) ∧ u b 1 = nI (B 0 1) ∧ ∀ i, i < B 0 0 → u (b + 1) i = nI (B 1 i) ∧ u (b + 2) i = nI (B 2 i) ∧ u (b + 3) i = nI (B 3 i) ∧ u (b + 4) i = nI (B 4 i) ∧ ∀ j, j < B 4 i → u (b + 5) (4 * i + j) = nI (B 5 (4 * i + j))
def BM (B : Nat → Nat → Nat) (f : Nat → Int32) (o : Nat) : Prop := f (o + 72) = nI (B 0 0) ∧ f (o + 73) = nI (B 0 1) ∧ ∀ i, i < B 0 0 → f (o + i) = nI (B 1 i) ∧ f (o + (9 + i)) = nI (B 2 i) ∧ f (o + (18 + i)) = nI (B 3 i) ∧ f (o + (27 + i)) = nI (B 4 i) ∧ ∀ j, j < B 4 i → f (o + (36 + (4 * i + j))) = nI (B 5 (4 * i + j))
def PD (P : Nat → Nat → Nat) (u v : Mem) : Prop := P 0 0 ≤ 9 ∧ (∀ j, j < P 0 0 → (33 ≤ P 1 j ∧ P 1 j ≤ 126) ∧ u 8 j = nI (P 1 j) ∧ v 4 j = nI (P 1 j)) ∧ u 7 0 = nI (P 0 0) ∧ v 0 4 = nI (P 0 0) ∧ (P 2 0 ≤ 1 ∧ P 2 1 ≤ 1) ∧ u 0 6 = nI (P 2 0 + 2 * P 2 1) ∧ v 3 0 = nI (P 2 0) ∧ v 3 1 = nI (P 2 1)
def IM (c : Nat) (I : Nat → Nat → Nat) (u v : Mem) (b o : Nat) : Prop := c = 1 → OKB I ∧ BX I u b ∧ BM I (v 2) o
def RR (u v : Mem) : Prop := ∃ B P I0 I1 : Nat → Nat → Nat, OKB B ∧ BX B u 1 ∧ BM B (v 1) 0 ∧ PD P u v ∧ IM (P 2 0) I0 u v 35 0 ∧ IM (P 2 1) I1 u v 41 74
/-- the cells that a search may write are apart from those that are kept -/
def KX (u u2 : Mem) : Prop := ∀ k, k ≤ 8 ∨ 34 ≤ k → u2 k = u k
def KM (v v2 : Mem) : Prop := (∀ k, 1 ≤ k → k ≤ 4 → v2 k = v k) ∧ v2 0 4 = v 0 4
theorem KX.rf {u : Mem} : KX u u := fun _ _ => rfl
theorem KX.tr {u u2 u3 : Mem} (h : KX u u2) (h2 : KX u2 u3) : KX u u3 := fun k hk => (h2 k hk).trans (h k hk)
theorem KX.pt {u u2 : Mem} (h : KX u u2) {k : Nat} (j : Nat) (v : Int32) (hk : 9 ≤ k ∧ k ≤ 33) : KX u (put u2 k j v) := fun k2 hk2 => by
  rw [put_cell _ _ _ (by omega)]; exact h k2 hk2
theorem KM.rf {u : Mem} : KM u u := ⟨fun _ _ _ => rfl, rfl⟩
theorem KM.tr {u u2 u3 : Mem} (h : KM u u2) (h2 : KM u2 u3) : KM u u3 := ⟨fun k h1 h3 => (h2.1 k h1 h3).trans (h.1 k h1 h3), h2.2.trans h.2⟩
theorem KM.pt {u u2 : Mem} (h : KM u u2) {k j : Nat} (v : Int32) (hk : 5 ≤ k ∨ (k = 0 ∧ j ≠ 4)) : KM u (put u2 k j v) := by
  refine ⟨fun k2 h1 h2 => ?_, ?_⟩
  · rw [put_cell _ _ _ (by omega)]; exact h.1 k2 h1 h2
  · rw [put_slot _ _ (by omega)]; exact h.2
theorem BX.kp {B : Nat → Nat → Nat} {u u2 : Mem} {b : Nat} (h : BX B u b) (hk : ∀ k, b ≤ k → k ≤ b + 5 → u2 k = u k) : BX B u2 b := by
  unfold BX
  rw [hk b (by omega) (by omega), hk (b + 1) (by omega) (by omega), hk (b + 2) (by omega) (by omega), hk (b + 3) (by omega) (by omega), hk (b + 4) (by omega) (by omega), hk (b + 5) (by omega) (by omega)]
  exact h
theorem IM.kp {c : Nat} {I : Nat → Nat → Nat} {u u2 v v2 : Mem} {b o : Nat} (h : IM c I u v b o) (hk : ∀ k, b ≤ k → k ≤ b + 5 → u2 k = u k) (h2 : v2 2 = v 2) : IM c I u2 v2 b o := fun q => by
  obtain ⟨a, b1, c1⟩ := h q
  exact ⟨a, b1.kp hk, by rw [h2]; exact c1⟩
theorem PD.kp {P : Nat → Nat → Nat} {u u2 v v2 : Mem} (h : PD P u v) (h0 : u2 0 6 = u 0 6) (h7 : u2 7 0 = u 7 0) (h8 : u2 8 = u 8) (g0 : v2 0 4 = v 0 4) (g3 : v2 3 = v 3) (g4 : v2 4 = v 4) : PD P u2 v2 := by
  unfold PD
  rw [h0, h7, h8, g0, g3, g4]
  exact h
theorem RR.kp {u v u2 v2 : Mem} (h : RR u v) (hx : KX u u2) (hm : KM v v2) : RR u2 v2 := by
  obtain ⟨B, P, I0, I1, h1, h2, h3, h4, h5, h6⟩ := h
  refine ⟨B, P, I0, I1, h1, h2.kp (fun k a b => hx k (by omega)), ?_, h4.kp (by rw [hx 0 (by omega)]) (by rw [hx 7 (by omega)]) (hx 8 (by omega)) hm.2 (hm.1 3 (by omega) (by omega)) (hm.1 4 (by omega) (by omega)), h5.kp (fun k a b => hx k (by omega)) (hm.1 2 (by omega) (by omega)), h6.kp (fun k a b => hx k (by omega)) (hm.1 2 (by omega) (by omega))⟩
  rw [hm.1 1 (by omega) (by omega)]
  exact h3
/-! the small functions of both -/
def hp (x : Int32) (n : Nat) : Prop := 0 ≤ x.toInt ∧ x.toInt < n
theorem hp_dec (x : Int32) (n : Nat) : hp x n ∨ ¬ hp x n := by
  unfold hp
  by_cases h1 : 0 ≤ x.toInt <;> by_cases h2 : x.toInt < n <;> simp [h1, h2]
theorem hp_ex {x : Int32} {n : Nat} (h : hp x n) (hn : n ≤ 2147483648) : ∃ i, i < n ∧ x = nI i := by
  obtain ⟨h1, h2⟩ := h
  exact ⟨x.toInt.toNat, by omega, i_of (by omega)⟩
theorem i0 : (0 : Int32).toInt = 0 := rfl
theorem has_no {B : Nat → Nat → Nat} {u : Mem} {x : Int32} (hB : OKB B) (h : BX B u 1) (hx : ¬ hp x (B 0 0)) : e_X0_has u x = some (0, u) := by
  unfold e_X0_has
  have h9 := hB.1
  rw [h.1]
  split
  · rfl
  · rename_i q
    rw [if_pos]
    rw [i_le, i_nI (by omega)]
    rw [i_lt, i0] at q
    unfold hp at hx
    omega
theorem has_yes {B : Nat → Nat → Nat} {u : Mem} {i : Nat} (hB : OKB B) (h : BX B u 1) (hx : i < B 0 0) : e_X0_has u (nI i) = some (1, u) := by
  unfold e_X0_has
  have h9 := hB.1
  rw [h.1]
  simp (disch := omega) only [n_l0, n_lt, n_le]
  rw [if_neg (by omega), if_neg (by omega)]
theorem in_yes {u : Mem} {x a b : Int32} (h1 : ¬ x < a) (h2 : ¬ b < x) : e_X6_in u x a b = some (1, u) := by
  unfold e_X6_in
  rw [if_neg h1, if_neg h2]
theorem in_no {u : Mem} {x a b : Int32} (h : x < a ∨ b < x) : e_X6_in u x a b = some (0, u) := by
  unfold e_X6_in
  split
  · rfl
  · rename_i q
    rw [if_pos (h.resolve_left q)]
theorem c72 : ((72 : Int32)).toNatClampNeg = 72 := rfl
theorem c73 : ((73 : Int32)).toNatClampNeg = 73 := rfl
theorem b72 : inb (72 : Int32) 74 = true := by decide
theorem b73 : inb (73 : Int32) 74 = true := by decide
theorem vz0 : vz 0 = true := rfl
theorem vz1 : vz 1 = true := rfl
theorem many_m (v : Mem) : e_X6_many v = some (v 1 72, v) := by
  unfold e_X6_many
  rw [if_pos b72, c72]
theorem z1 : ¬ ((1 : Int32) = 0) := by decide
theorem isp_no {v : Mem} {x : Int32} {n : Nat} (h9 : n ≤ 9) (h : v 1 72 = nI n) (hx : ¬ hp x n) : e_X6_isPanel v x = some (0, v) := by
  unfold e_X6_isPanel
  rw [many_m, bnd_some, h, in_no, bnd_some, if_pos vz0]
  unfold hp at hx
  have e : (nI n - (1 : Int32)).toInt = (n : Int) - 1 := pk_sub_toInt (a := n) (b := 1) (by omega) (by omega)
  rw [i_lt, i_lt, e, i0]
  omega
theorem isp_yes {v : Mem} {i n : Nat} (h9 : n ≤ 9) (h : v 1 72 = nI n) (hx : i < n) : e_X6_isPanel v (nI i) = some (1, v) := by
  unfold e_X6_isPanel
  have e : (nI n - (1 : Int32)).toInt = (n : Int) - 1 := pk_sub_toInt (a := n) (b := 1) (by omega) (by omega)
  rw [many_m, bnd_some, h, in_yes, bnd_some, if_pos vz1]
  · rw [i_lt, i0, i_nI (by omega)]; omega
  · rw [i_lt, e, i_nI (by omega)]; omega
/-- what a feature may be -/
def ft (w x : Int32) : Prop := (w = 0 ∧ 1 ≤ x.toInt ∧ x.toInt ≤ 9) ∨ (w = 1 ∧ 1 ≤ x.toInt ∧ x.toInt ≤ 6) ∨ (w = 2 ∧ 0 ≤ x.toInt ∧ x.toInt ≤ 3)
theorem isf_yes {u : Mem} {w x : Int32} (h : ft w x) : e_X5_isFeature u w x = some (1, u) := by
  unfold e_X5_isFeature
  rcases h with ⟨rfl, h1, h2⟩ | ⟨rfl, h1, h2⟩ | ⟨rfl, h1, h2⟩
  · rw [if_pos rfl, if_neg (by rw [i_lt]; change ¬ x.toInt < 1; omega), if_neg (by rw [i_lt]; change ¬ 9 < x.toInt; omega)]
  · rw [if_neg (by decide), if_pos rfl, if_neg (by rw [i_lt]; change ¬ x.toInt < 1; omega), if_neg (by rw [i_lt]; change ¬ 6 < x.toInt; omega)]
  · rw [if_neg (by decide), if_neg (by decide), if_pos rfl, if_neg (by rw [i_lt]; change ¬ x.toInt < 0; omega), if_neg (by rw [i_lt]; change ¬ 3 < x.toInt; omega)]
theorem isf_no {u : Mem} {w x : Int32} (h : ¬ ft w x) : e_X5_isFeature u w x = some (0, u) := by
  unfold e_X5_isFeature
  unfold ft at h
  by_cases h0 : w = 0
  · subst h0
    rw [if_pos rfl]
    split
    · rfl
    · rename_i q
      rw [if_pos]
      rw [i_lt] at q ⊢
      change ¬ x.toInt < 1 at q
      change 9 < x.toInt
      simp at h
      omega
  · rw [if_neg h0]
    by_cases h1 : w = 1
    · subst h1
      rw [if_pos rfl]
      split
      · rfl
      · rename_i q
        rw [if_pos]
        rw [i_lt] at q ⊢
        change ¬ x.toInt < 1 at q
        change 6 < x.toInt
        simp at h
        omega
    · rw [if_neg h1]
      by_cases h2 : w = 2
      · subst h2
        rw [if_pos rfl]
        split
        · rfl
        · rename_i q
          rw [if_pos]
          rw [i_lt] at q ⊢
          change ¬ x.toInt < 0 at q
          change 3 < x.toInt
          simp at h
          omega
      · rw [if_neg h2]
theorem fit_yes {u : Mem} {w x : Int32} (h : ft w x) : e_X6_fits u w x = some (1, u) := by
  unfold e_X6_fits
  rcases h with ⟨rfl, h1, h2⟩ | ⟨rfl, h1, h2⟩ | ⟨rfl, h1, h2⟩
  · rw [if_pos rfl, in_yes (by rw [i_lt]; change ¬ x.toInt < 1; omega) (by rw [i_lt]; change ¬ 9 < x.toInt; omega), bnd_some, if_pos vz1]
  · rw [if_neg (by decide), if_pos rfl, in_yes (by rw [i_lt]; change ¬ x.toInt < 1; omega) (by rw [i_lt]; change ¬ 6 < x.toInt; omega), bnd_some, if_pos vz1]
  · rw [if_neg (by decide), if_neg (by decide), in_yes (by rw [i_lt]; change ¬ x.toInt < 0; omega) (by rw [i_lt]; change ¬ 3 < x.toInt; omega), bnd_some, if_pos vz1]
theorem fit_no {u : Mem} {w x : Int32} (hw : w = 0 ∨ w = 1 ∨ w = 2) (h : ¬ ft w x) : e_X6_fits u w x = some (0, u) := by
  unfold e_X6_fits
  unfold ft at h
  rcases hw with rfl | rfl | rfl
  · rw [if_pos rfl, in_no (by rw [i_lt, i_lt]; change x.toInt < 1 ∨ 9 < x.toInt; simp at h; omega), bnd_some, if_pos vz0]
  · rw [if_neg (by decide), if_pos rfl, in_no (by rw [i_lt, i_lt]; change x.toInt < 1 ∨ 6 < x.toInt; simp at h; omega), bnd_some, if_pos vz0]
  · rw [if_neg (by decide), if_neg (by decide), in_no (by rw [i_lt, i_lt]; change x.toInt < 0 ∨ 3 < x.toInt; simp at h; omega), bnd_some, if_pos vz0]
theorem ft_nI {w x : Int32} (h : ft w x) : ∃ n : Nat, n ≤ 9 ∧ x = nI n ∧ ((w = 0 ∧ 1 ≤ n) ∨ (w = 1 ∧ 1 ≤ n ∧ n ≤ 6) ∨ (w = 2 ∧ n ≤ 3)) := by
  rcases h with ⟨hw, h1, h2⟩ | ⟨hw, h1, h2⟩ | ⟨hw, h1, h2⟩
  · exact ⟨x.toInt.toNat, by omega, i_of (by omega), Or.inl ⟨hw, by omega⟩⟩
  · exact ⟨x.toInt.toNat, by omega, i_of (by omega), Or.inr (Or.inl ⟨hw, by omega, by omega⟩)⟩
  · exact ⟨x.toInt.toNat, by omega, i_of (by omega), Or.inr (Or.inr ⟨hw, by omega⟩)⟩
theorem ft_dec (w x : Int32) : ft w x ∨ ¬ ft w x := Classical.em _
/-- a book with one thing changed -/
def pb (B : Nat → Nat → Nat) (k j v : Nat) : Nat → Nat → Nat := fun k2 j2 => if k2 = k ∧ j2 = j then v else B k2 j2
theorem pb_same (B : Nat → Nat → Nat) (k j v : Nat) : pb B k j v k j = v := by simp [pb]
theorem pb_ne (B : Nat → Nat → Nat) {k j k2 j2 : Nat} (v : Nat) (h : k2 ≠ k ∨ j2 ≠ j) : pb B k j v k2 j2 = B k2 j2 := by
  unfold pb
  rw [if_neg]
  rintro ⟨rfl, rfl⟩
  rcases h with h | h <;> exact h rfl
theorem st_high : St1 RR e_X5_high e_X6_high := by
  intro u v hR a
  obtain ⟨B, P, I0, I1, h1, h2, h3, h4, h5, h6⟩ := id hR
  unfold e_X5_high e_X6_high
  by_cases hq : 6 ≤ a.toInt ∧ a.toInt ≤ 20
  · obtain ⟨n, hn, rfl⟩ : ∃ n : Nat, (6 ≤ n ∧ n ≤ 20) ∧ a = nI n := ⟨a.toInt.toNat, by omega, i_of (by omega)⟩
    refine ⟨nI (B 0 1), put u 1 1 (nI n), put v 1 73 (nI n), ?_, ?_, ?_⟩
    · simp (disch := omega) only [n_l6, n_l20, n_lt, n_le]
      rw [if_neg (by omega), if_pos (by omega), h2.2.1]
    · rw [in_yes (by rw [n_l6, n_lt (by omega) (by omega)]; omega) (by rw [n_l20, n_lt (by omega) (by omega)]; omega), bnd_some, if_neg z1, if_pos b73, if_pos b73, c73, h3.2.1]
    · refine ⟨pb B 0 1 n, P, I0, I1, ?_, ?_, ?_, ?_, ?_, ?_⟩
      · exact ⟨h1.1, by rw [pb_same]; omega, by rw [pb_same]; omega, h1.2.2.2⟩
      · refine ⟨?_, ?_, ?_⟩
        · rw [put_slot _ _ (by omega)]; exact h2.1
        · rw [put_same, pb_same]
        · exact h2.2.2
      · refine ⟨?_, ?_, ?_⟩
        · rw [put_slot _ _ (by omega)]; exact h3.1
        · rw [put_same, pb_same]
        · intro i hi
          have h9 := h1.1
          have hi9 : i < B 0 0 := hi
          obtain ⟨a1, a2, a3, a4, a5⟩ := h3.2.2 i hi
          refine ⟨?_, ?_, ?_, ?_, fun j hj => ?_⟩
          · rw [put_slot _ _ (by omega)]; exact a1
          · rw [put_slot _ _ (by omega)]; exact a2
          · rw [put_slot _ _ (by omega)]; exact a3
          · rw [put_slot _ _ (by omega)]; exact a4
          · have hb := (h1.2.2.2 i hi).2.2.2.1
            have hj9 : j < B 4 i := hj
            rw [put_slot _ _ (by omega)]; exact a5 j hj
      · exact h4.kp (by rw [put_cell _ _ _ (by omega)]) (by rw [put_cell _ _ _ (by omega)]) (by rw [put_cell _ _ _ (by omega)]) (by rw [put_cell _ _ _ (by omega)]) (by rw [put_cell _ _ _ (by omega)]) (by rw [put_cell _ _ _ (by omega)])
      · exact h5.kp (fun k _ _ => by rw [put_cell _ _ _ (by omega)]) (by rw [put_cell _ _ _ (by omega)])
      · exact h6.kp (fun k _ _ => by rw [put_cell _ _ _ (by omega)]) (by rw [put_cell _ _ _ (by omega)])
  · refine ⟨-2, u, v, ?_, ?_, hR⟩
    · split
      · rfl
      · rename_i q
        rw [if_neg]
        rw [i_lt] at q
        rw [i_le]
        change ¬ a.toInt < 6 at q
        change ¬ a.toInt ≤ 20
        omega
    · rw [in_no, bnd_some, if_pos rfl]
      rw [i_lt, i_lt]
      change a.toInt < 6 ∨ 20 < a.toInt
      omega
