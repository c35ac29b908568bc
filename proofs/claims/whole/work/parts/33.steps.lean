theorem i_bit0 : ∀ a b : Nat, a ≤ 1 → b ≤ 1 → (nI (a + 2 * b) ||| ((1 : Int32) <<< ((0 : Int32) &&& 31))) = nI (1 + 2 * b) := by
  intro a b ha hb
  rcases (by omega : a = 0 ∨ a = 1) with rfl | rfl <;> rcases (by omega : b = 0 ∨ b = 1) with rfl | rfl <;> decide
theorem i_bit1 : ∀ a b : Nat, a ≤ 1 → b ≤ 1 → (nI (a + 2 * b) ||| ((1 : Int32) <<< ((1 : Int32) &&& 31))) = nI (a + 2 * 1) := by
  intro a b ha hb
  rcases (by omega : a = 0 ∨ a = 1) with rfl | rfl <;> rcases (by omega : b = 0 ∨ b = 1) with rfl | rfl <;> decide
theorem i_tst0 : ∀ a b : Nat, a ≤ 1 → b ≤ 1 → ((nI (a + 2 * b) &&& ((1 : Int32) <<< ((0 : Int32) &&& 31))) = 0 ↔ a = 0) := by
  intro a b ha hb
  rcases (by omega : a = 0 ∨ a = 1) with rfl | rfl <;> rcases (by omega : b = 0 ∨ b = 1) with rfl | rfl <;> decide
theorem i_tst1 : ∀ a b : Nat, a ≤ 1 → b ≤ 1 → ((nI (a + 2 * b) &&& ((1 : Int32) <<< ((1 : Int32) &&& 31))) = 0 ↔ b = 0) := by
  intro a b ha hb
  rcases (by omega : a = 0 ∨ a = 1) with rfl | rfl <;> rcases (by omega : b = 0 ∨ b = 1) with rfl | rfl <;> decide
theorem cpy_cell (u : Mem) {a b n k : Nat} (h : k ≠ b) : cpy u a b n k = u k := by simp [cpy, h]
theorem cpy_in (u : Mem) {a b n j : Nat} (h : j < n) : cpy u a b n b j = u a j := by simp [cpy, va_cpy, h]
theorem c9 : ((9 : Int32)).toNatClampNeg = 9 := rfl
theorem c36 : ((36 : Int32)).toNatClampNeg = 36 := rfl
theorem g9 : decide (0 ≤ ((9 : Int32)).toInt ∧ ((9 : Int32)).toNatClampNeg ≤ 9 ∧ ((9 : Int32)).toNatClampNeg ≤ 9) = true := by decide
theorem g36 : decide (0 ≤ ((36 : Int32)).toInt ∧ ((36 : Int32)).toNatClampNeg ≤ 36 ∧ ((36 : Int32)).toNatClampNeg ≤ 36) = true := by decide
/-- a copy of a book -/
def cpb (u : Mem) (b a : Nat) : Mem := cpy (cpy (cpy (cpy (cpy (put (put u b 0 (u a 0)) b 1 (u a 1)) (a + 1) (b + 1) 9) (a + 2) (b + 2) 9) (a + 3) (b + 3) 9) (a + 4) (b + 4) 9) (a + 5) (b + 5) 36
theorem cf_35 (u : Mem) : e_X0_copyFrom_35_1 u = some (cpb u 35 1) := by
  unfold e_X0_copyFrom_35_1
  rw [if_pos g9, if_pos g9, if_pos g9, if_pos g9, if_pos g36, c9, c36]; rfl
theorem cf_41 (u : Mem) : e_X0_copyFrom_41_1 u = some (cpb u 41 1) := by
  unfold e_X0_copyFrom_41_1
  rw [if_pos g9, if_pos g9, if_pos g9, if_pos g9, if_pos g36, c9, c36]; rfl
theorem cf_1_35 (u : Mem) : e_X0_copyFrom_1_35 u = some (cpb u 1 35) := by
  unfold e_X0_copyFrom_1_35
  rw [if_pos g9, if_pos g9, if_pos g9, if_pos g9, if_pos g36, c9, c36]; rfl
theorem cf_1_41 (u : Mem) : e_X0_copyFrom_1_41 u = some (cpb u 1 41) := by
  unfold e_X0_copyFrom_1_41
  rw [if_pos g9, if_pos g9, if_pos g9, if_pos g9, if_pos g36, c9, c36]; rfl
theorem cpb_out (u : Mem) {a b k : Nat} (h : k < b ∨ b + 5 < k) : cpb u b a k = u k := by
  unfold cpb
  rw [cpy_cell _ (by omega), cpy_cell _ (by omega), cpy_cell _ (by omega), cpy_cell _ (by omega), cpy_cell _ (by omega), put_cell _ _ _ (by omega), put_cell _ _ _ (by omega)]
theorem BX.cp {B : Nat → Nat → Nat} {u : Mem} {a b : Nat} (hB : OKB B) (h : BX B u a) (hab : a + 5 < b ∨ b + 5 < a) : BX B (cpb u b a) b := by
  have h9 := hB.1
  refine ⟨?_, ?_, fun i hi => ?_⟩
  · unfold cpb
    rw [cpy_cell _ (by omega), cpy_cell _ (by omega), cpy_cell _ (by omega), cpy_cell _ (by omega), cpy_cell _ (by omega), put_slot _ _ (by omega), put_same]; exact h.1
  · unfold cpb
    rw [cpy_cell _ (by omega), cpy_cell _ (by omega), cpy_cell _ (by omega), cpy_cell _ (by omega), cpy_cell _ (by omega), put_same]; exact h.2.1
  · obtain ⟨o1, o2, o3, o4, o5⟩ := h.2.2 i hi
    have b4 := (hB.2.2.2 i hi).2.2.2.1
    unfold cpb
    refine ⟨?_, ?_, ?_, ?_, fun j hj => ?_⟩
    · rw [cpy_cell _ (by omega), cpy_cell _ (by omega), cpy_cell _ (by omega), cpy_cell _ (by omega), cpy_in _ (by omega), put_cell _ _ _ (by omega), put_cell _ _ _ (by omega)]; exact o1
    · rw [cpy_cell _ (by omega), cpy_cell _ (by omega), cpy_cell _ (by omega), cpy_in _ (by omega), cpy_cell _ (by omega), put_cell _ _ _ (by omega), put_cell _ _ _ (by omega)]; exact o2
    · rw [cpy_cell _ (by omega), cpy_cell _ (by omega), cpy_in _ (by omega), cpy_cell _ (by omega), cpy_cell _ (by omega), put_cell _ _ _ (by omega), put_cell _ _ _ (by omega)]; exact o3
    · rw [cpy_cell _ (by omega), cpy_in _ (by omega), cpy_cell _ (by omega), cpy_cell _ (by omega), cpy_cell _ (by omega), put_cell _ _ _ (by omega), put_cell _ _ _ (by omega)]; exact o4
    · rw [cpy_in _ (by omega), cpy_cell _ (by omega), cpy_cell _ (by omega), cpy_cell _ (by omega), cpy_cell _ (by omega), put_cell _ _ _ (by omega), put_cell _ _ _ (by omega)]; exact o5 j hj
theorem BM.sh {B : Nat → Nat → Nat} {f g : Nat → Int32} {o o2 : Nat} (hB : OKB B) (h : BM B f o) (hg : ∀ k, k < 74 → g (o2 + k) = f (o + k)) : BM B g o2 := by
  have h9 := hB.1
  refine ⟨by rw [hg _ (by omega)]; exact h.1, by rw [hg _ (by omega)]; exact h.2.1, fun i hi => ?_⟩
  obtain ⟨o1, o2, o3, o4, o5⟩ := h.2.2 i hi
  have b4 := (hB.2.2.2 i hi).2.2.2.1
  refine ⟨by rw [hg _ (by omega)]; exact o1, by rw [hg _ (by omega)]; exact o2, by rw [hg _ (by omega)]; exact o3, by rw [hg _ (by omega)]; exact o4, fun j hj => by rw [hg _ (by omega)]; exact o5 j hj⟩
theorem im_loop {k : Nat} (hk : k < 2) : ∀ (m i f : Nat) (v : Mem), i + m = 74 → m < f → ∃ v2, e_X6_image_L14 f v (nI k) (nI i) = some (1, put v2 3 k (1 : Int32)) ∧ (∀ c, c ≠ 2 → v2 c = v c) ∧ (∀ j, j < i → v2 2 (74 * k + j) = v 2 (74 * k + j)) ∧ (∀ j, i ≤ j → j < 74 → v2 2 (74 * k + j) = v 1 j) ∧ (∀ j, j < 74 * k ∨ 74 * k + 74 ≤ j → v2 2 j = v 2 j) := by
  intro m
  induction m with
  | zero =>
    intro i f v hi hf
    obtain ⟨f, rfl⟩ : ∃ g, f = g + 1 := ⟨f - 1, by omega⟩
    refine ⟨v, ?_, fun _ _ => rfl, fun _ _ => rfl, fun j h1 h2 => by omega, fun _ _ => rfl⟩
    show e_X6_image_L14_b _ _ _ _ = _
    unfold e_X6_image_L14_b
    simp (disch := omega) only [n_l74, n_le, n_inb, n_cl, decide_eq_true_eq]
    rw [if_pos (by omega), if_pos hk]
  | succ m ih =>
    intro i f v hi hf
    obtain ⟨f, rfl⟩ : ∃ g, f = g + 1 := ⟨f - 1, by omega⟩
    obtain ⟨v2, e1, e2, e3, e4, e5⟩ := ih (i + 1) f (put v 2 (74 * k + i) (v 1 i)) (by omega) (by omega)
    refine ⟨v2, ?_, fun c hc => by rw [e2 c hc, put_cell _ _ _ hc], fun j hj => by rw [e3 j (by omega), put_slot _ _ (by omega)], fun j h1 h2 => ?_, fun j hj => by rw [e5 j hj, put_slot _ _ (by omega)]⟩
    · show e_X6_image_L14_b _ _ _ _ = _
      unfold e_X6_image_L14_b
      simp (disch := omega) only [n_l74, n_l1, n_le, n_inb, n_cl, n_mul, n_add, decide_eq_true_eq]
      rw [if_neg (by omega), if_pos (by omega), if_pos (by omega)]
      exact e1
    · by_cases hj : j = i
      · subst hj
        rw [e3 j (by omega), put_same]
      · rw [e4 j (by omega) h2, put_cell _ _ _ (by omega)]
theorem re_loop {k : Nat} (hk : k < 2) : ∀ (m i f : Nat) (v : Mem), i + m = 74 → m < f → ∃ v2, e_X6_restore_L26 f v (nI k) (nI i) = some (1, v2) ∧ (∀ c, c ≠ 1 → v2 c = v c) ∧ (∀ j, j < i → v2 1 j = v 1 j) ∧ (∀ j, i ≤ j → j < 74 → v2 1 j = v 2 (74 * k + j)) := by
  intro m
  induction m with
  | zero =>
    intro i f v hi hf
    obtain ⟨f, rfl⟩ : ∃ g, f = g + 1 := ⟨f - 1, by omega⟩
    refine ⟨v, ?_, fun _ _ => rfl, fun _ _ => rfl, fun j h1 h2 => by omega⟩
    show e_X6_restore_L26_b _ _ _ _ = _
    unfold e_X6_restore_L26_b
    simp (disch := omega) only [n_l74, n_le]
    rw [if_pos (by omega)]
  | succ m ih =>
    intro i f v hi hf
    obtain ⟨f, rfl⟩ : ∃ g, f = g + 1 := ⟨f - 1, by omega⟩
    obtain ⟨v2, e1, e2, e3, e4⟩ := ih (i + 1) f (put v 1 i (v 2 (74 * k + i))) (by omega) (by omega)
    refine ⟨v2, ?_, fun c hc => by rw [e2 c hc, put_cell _ _ _ hc], fun j hj => by rw [e3 j (by omega), put_slot _ _ (by omega)], fun j h1 h2 => ?_⟩
    · show e_X6_restore_L26_b _ _ _ _ = _
      unfold e_X6_restore_L26_b
      simp (disch := omega) only [n_l74, n_l1, n_le, n_inb, n_cl, n_mul, n_add, decide_eq_true_eq]
      rw [if_neg (by omega), if_pos (by omega), if_pos (by omega)]
      exact e1
    · by_cases hj : j = i
      · subst hj
        rw [e3 j (by omega), put_same]
      · rw [e4 j (by omega) h2, put_cell _ _ _ (by omega)]
theorem st_image : St1 RR e_X5_image e_X6_image := by
  intro u v hR a
  obtain ⟨B, P, I0, I1, h1, h2, h3, h4, h5, h6⟩ := id hR
  obtain ⟨g1, g2, g3, g4, g5, g6, g7, g8⟩ := id h4
  unfold e_X5_image e_X6_image
  by_cases hq : 0 ≤ a.toInt ∧ a.toInt ≤ 1
  case neg =>
    refine ⟨-2, u, v, ?_, ?_, hR⟩
    · split
      · rfl
      · rename_i q
        rw [if_neg]
        rw [i_lt] at q ⊢
        change ¬ a.toInt < 0 at q
        change ¬ a.toInt < 2
        omega
    · rw [in_no (by rw [i_lt, i_lt]; change a.toInt < 0 ∨ 1 < a.toInt; omega), bnd_some, if_pos rfl]
  obtain ⟨k, hk, rfl⟩ : ∃ n : Nat, n < 2 ∧ a = nI n := ⟨a.toInt.toNat, by omega, i_of (by omega)⟩
  obtain ⟨v2, e1, e2, e3, e4, e5⟩ := im_loop hk 74 0 FU v (by omega) (by unfold FU; omega)
  rw [in_yes (by rw [n_l0, n_lt (by omega) (by omega)]; omega) (by rw [n_l1, n_lt (by omega) (by omega)]; omega), bnd_some, if_neg z1]
  refine ⟨1, put (cpb u (35 + 6 * k) 1) 0 6 (nI ((if k = 0 then 1 else P 2 0) + 2 * (if k = 1 then 1 else P 2 1))), put v2 3 k 1, ?_, e1, ?_⟩
  · rcases (by omega : k = 0 ∨ k = 1) with rfl | rfl
    · have q1 : (nI 0 : Int32) = 0 := rfl
      simp only [q1, if_true, cf_35, bnv_some]
      rw [if_neg (by decide), if_pos (by decide), cpb_out _ (by omega), g6, i_bit0 _ _ g5.1 g5.2]
      simp
    · have q1 : (nI 1 : Int32) = 1 := rfl
      simp only [q1, if_neg z1, if_true, cf_41, bnv_some]
      rw [if_neg (by decide), if_pos (by decide), cpb_out _ (by omega), g6, i_bit1 _ _ g5.1 g5.2]
      simp
  · have hP2 : PD (pb P 2 k 1) (put (cpb u (35 + 6 * k) 1) 0 6 (nI ((if k = 0 then 1 else P 2 0) + 2 * (if k = 1 then 1 else P 2 1)))) (put v2 3 k 1) := by
      refine ⟨?_, fun j hj => ?_, ?_, ?_, ?_, ?_, ?_, ?_⟩
      · rw [pb_ne _ _ (by omega)]; exact g1
      · rw [pb_ne _ _ (by omega)] at hj ⊢
        rw [put_cell _ _ _ (by omega), put_cell _ _ _ (by omega), cpb_out _ (by omega), e2 4 (by omega)]
        exact g2 j hj
      · rw [put_cell _ _ _ (by omega), cpb_out _ (by omega), pb_ne _ _ (by omega)]; exact g3
      · rw [put_cell _ _ _ (by omega), e2 0 (by omega), pb_ne _ _ (by omega)]; exact g4
      · unfold pb; simp; constructor <;> split <;> omega
      · rw [put_same]; unfold pb; simp [eq_comm]
      · rw [put_get]; unfold pb; simp only [true_and]; rw [e2 3 (by omega), g7]
        by_cases q : 0 = k
        · subst q; simp; rfl
        · simp [q]
      · rw [put_get]; unfold pb; simp only [true_and]; rw [e2 3 (by omega), g8]
        by_cases q : 1 = k
        · subst q; simp; rfl
        · simp [q]
    have hv1 : put v2 3 k (1 : Int32) 1 = v 1 := by rw [put_cell _ _ _ (by omega), e2 1 (by omega)]
    have hX : BX B (put (cpb u (35 + 6 * k) 1) 0 6 (nI ((if k = 0 then 1 else P 2 0) + 2 * (if k = 1 then 1 else P 2 1)))) 1 := h2.kp (fun c _ _ => by rw [put_cell _ _ _ (by omega), cpb_out _ (by omega)])
    have hX2 : BX B (put (cpb u (35 + 6 * k) 1) 0 6 (nI ((if k = 0 then 1 else P 2 0) + 2 * (if k = 1 then 1 else P 2 1)))) (35 + 6 * k) := (h2.cp h1 (by omega)).kp (fun c _ _ => by rw [put_cell _ _ _ (by omega)])
    have hM2 : BM B (put v2 3 k (1 : Int32) 2) (74 * k) := by
      rw [put_cell _ _ _ (by omega)]
      exact h3.sh h1 (fun j hj => by rw [e4 j (by omega) hj, Nat.zero_add])
    rcases (by omega : k = 0 ∨ k = 1) with rfl | rfl
    · refine ⟨B, pb P 2 0 1, B, I1, h1, hX, by rw [hv1]; exact h3, hP2, fun _ => ⟨h1, hX2, hM2⟩, ?_⟩
      rw [pb_ne _ _ (by omega)]
      intro q
      obtain ⟨i1, i2, i3⟩ := h6 q
      refine ⟨i1, i2.kp (fun c _ _ => by rw [put_cell _ _ _ (by omega), cpb_out _ (by omega)]), ?_⟩
      rw [put_cell _ _ _ (by omega)]
      exact i3.sh i1 (fun j hj => e5 _ (by omega))
    · refine ⟨B, pb P 2 1 1, I0, B, h1, hX, by rw [hv1]; exact h3, hP2, ?_, fun _ => ⟨h1, hX2, hM2⟩⟩
      rw [pb_ne _ _ (by omega)]
      intro q
      obtain ⟨i1, i2, i3⟩ := h5 q
      refine ⟨i1, i2.kp (fun c _ _ => by rw [put_cell _ _ _ (by omega), cpb_out _ (by omega)]), ?_⟩
      rw [put_cell _ _ _ (by omega)]
      exact i3.sh i1 (fun j hj => e5 _ (by omega))
theorem st_restore : St1 RR e_X5_restore e_X6_restore := by
  intro u v hR a
  obtain ⟨B, P, I0, I1, h1, h2, h3, h4, h5, h6⟩ := id hR
  obtain ⟨g1, g2, g3, g4, g5, g6, g7, g8⟩ := id h4
  unfold e_X5_restore e_X6_restore
  by_cases hq : 0 ≤ a.toInt ∧ a.toInt ≤ 1
  case neg =>
    refine ⟨-2, u, v, ?_, ?_, hR⟩
    · split
      · rfl
      · rename_i q
        rw [if_neg]
        rw [i_lt] at q ⊢
        change ¬ a.toInt < 0 at q
        change ¬ a.toInt < 2
        omega
    · rw [in_no (by rw [i_lt, i_lt]; change a.toInt < 0 ∨ 1 < a.toInt; omega), bnd_some, if_pos rfl]
  obtain ⟨k, hk, rfl⟩ : ∃ n : Nat, n < 2 ∧ a = nI n := ⟨a.toInt.toNat, by omega, i_of (by omega)⟩
  obtain ⟨v2, e1, e2, e3, e4⟩ := re_loop hk 74 0 FU v (by omega) (by unfold FU; omega)
  rw [in_yes (by rw [n_l0, n_lt (by omega) (by omega)]; omega) (by rw [n_l1, n_lt (by omega) (by omega)]; omega), bnd_some, if_neg z1]
  have yin : inb (nI k) 2 = true := by rw [n_inb (by omega)]; simp; omega
  simp (disch := omega) only [yin, n_cl, if_true]
  have fin : ∀ {I : Nat → Nat → Nat}, OKB I → BX I u (35 + 6 * k) → BM I (v 2) (74 * k) → RR (cpb u 1 (35 + 6 * k)) v2 := by
    intro I i1 i2 i3
    refine RR.book h4 h5 h6 i1 (i2.cp i1 (by omega)) (i3.sh i1 (fun j hj => ?_)) (fun c hc => cpb_out _ (by omega)) (fun c hc => e2 c hc)
    rw [Nat.zero_add, e4 j (by omega) hj]
  rcases (by omega : k = 0 ∨ k = 1) with rfl | rfl
  · have q1 : (nI 0 : Int32) = 0 := rfl
    simp only [q1] at e1 ⊢
    rw [if_neg (by decide), if_pos (by decide), g6, g7]
    by_cases hk0 : P 2 0 = 0
    · rw [if_pos ((i_tst0 _ _ g5.1 g5.2).mpr hk0), if_pos (by rw [hk0]; rfl)]
      exact ⟨-3, u, v, rfl, rfl, hR⟩
    · have hk1 : P 2 0 = 1 := by omega
      rw [if_neg (fun q => hk0 ((i_tst0 _ _ g5.1 g5.2).mp q)), hk1, if_neg (show ¬ nI 1 = 0 by decide)]
      simp only [if_true, cf_1_35, bnv_some]
      obtain ⟨i1, i2, i3⟩ := h5 hk1
      exact ⟨1, _, v2, rfl, e1, fin i1 i2 i3⟩
  · have q1 : (nI 1 : Int32) = 1 := rfl
    simp only [q1] at e1 ⊢
    rw [if_neg (by decide), if_pos (by decide), g6, g8]
    by_cases hk0 : P 2 1 = 0
    · rw [if_pos ((i_tst1 _ _ g5.1 g5.2).mpr hk0), if_pos (by rw [hk0]; rfl)]
      exact ⟨-3, u, v, rfl, rfl, hR⟩
    · have hk1 : P 2 1 = 1 := by omega
      rw [if_neg (fun q => hk0 ((i_tst1 _ _ g5.1 g5.2).mp q)), hk1, if_neg (show ¬ nI 1 = 0 by decide)]
      simp only [if_neg z1, if_true, cf_1_41, bnv_some]
      obtain ⟨i1, i2, i3⟩ := h6 hk1
      exact ⟨1, _, v2, rfl, e1, fin i1 i2 i3⟩
