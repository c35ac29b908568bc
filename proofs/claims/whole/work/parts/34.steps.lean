theorem sub48_lt {s : Nat} (h : s < 2147483648 / 4) : (nI s - (48 : Int32) < 0) = (s < 48) := by
  apply propext
  rw [i_lt, show (nI s - (48 : Int32)).toInt = (s : Int) - 48 from pk_sub_toInt (a := s) (b := 48) (by omega) (by omega), i0]
  omega
theorem isFig {u : Mem} {j g s : Nat} (hj : j < 9) (hg : g ≤ 9) (hs : s ≤ 126) (h : u 8 j = nI s) : e_X2_isFigure u (nI j) (nI g) = some (if 48 ≤ s ∧ s ≤ 48 + g then 1 else 0, u) := by
  have e : e_X2_figure u (nI j) = some (nI s - 48, u) := by
    unfold e_X2_figure
    rw [if_pos (by rw [n_inb (by omega)]; simp; exact hj), n_cl (by omega), h]
  unfold e_X2_isFigure
  simp only [e, bnd_some]
  simp only [sub48_lt (show s < 2147483648 / 4 by omega)]
  by_cases h48 : s < 48
  · rw [if_pos h48, if_neg (by omega)]
  · rw [if_neg h48, n_l48, n_sub (by omega)]
    simp (disch := omega) only [n_lt]
    by_cases hq : g < s - 48
    · rw [if_pos hq, if_neg (by omega)]
    · rw [if_neg hq, if_pos (by omega)]
def aF (S : Nat → Nat) (p g : Nat) : Prop := ∀ j, j < p → 48 ≤ S j ∧ S j ≤ 48 + g
theorem hof_yes {u : Mem} {S : Nat → Nat} {p g : Nat} (hp9 : p ≤ 9) (hg : g ≤ 9) (h7 : u 7 0 = nI p) (h8 : ∀ j, j < p → u 8 j = nI (S j) ∧ S j ≤ 126) (ha : aF S p g) : ∀ (m i f : Nat), i + m = p → m < f → e_X2_hasOnlyFigures_L2 f u (nI g) (nI i) = some (1, u) := by
  intro m
  induction m with
  | zero =>
    intro i f hi hf
    obtain ⟨f, rfl⟩ : ∃ g, f = g + 1 := ⟨f - 1, by omega⟩
    show e_X2_hasOnlyFigures_L2_b _ _ _ _ = _
    unfold e_X2_hasOnlyFigures_L2_b
    rw [h7, if_pos (by rw [n_le (by omega) (by omega)]; omega)]
  | succ m ih =>
    intro i f hi hf
    obtain ⟨f, rfl⟩ : ∃ g, f = g + 1 := ⟨f - 1, by omega⟩
    show e_X2_hasOnlyFigures_L2_b _ _ _ _ = _
    unfold e_X2_hasOnlyFigures_L2_b
    have a1 := ha i (by omega)
    have a2 := h8 i (by omega)
    rw [h7, if_neg (by rw [n_le (by omega) (by omega)]; omega), isFig (by omega) hg a2.2 a2.1, if_pos a1, bnd_some, if_neg z1, n_l1, n_add]
    exact ih (i + 1) f (by omega) (by omega)
theorem hof_no {u : Mem} {S : Nat → Nat} {p g : Nat} (hp9 : p ≤ 9) (hg : g ≤ 9) (h7 : u 7 0 = nI p) (h8 : ∀ j, j < p → u 8 j = nI (S j) ∧ S j ≤ 126) : ∀ (m i f : Nat), i + m = p → m < f → (∃ j, i ≤ j ∧ j < p ∧ ¬ (48 ≤ S j ∧ S j ≤ 48 + g)) → e_X2_hasOnlyFigures_L2 f u (nI g) (nI i) = some (0, u) := by
  intro m
  induction m with
  | zero =>
    intro i f hi hf hx
    obtain ⟨j, j1, j2, j3⟩ := hx
    omega
  | succ m ih =>
    intro i f hi hf hx
    obtain ⟨f, rfl⟩ : ∃ g, f = g + 1 := ⟨f - 1, by omega⟩
    show e_X2_hasOnlyFigures_L2_b _ _ _ _ = _
    unfold e_X2_hasOnlyFigures_L2_b
    have a2 := h8 i (by omega)
    rw [h7, if_neg (by rw [n_le (by omega) (by omega)]; omega), isFig (by omega) hg a2.2 a2.1, bnd_some]
    by_cases a1 : 48 ≤ S i ∧ S i ≤ 48 + g
    · rw [if_pos a1, if_neg z1, n_l1, n_add]
      obtain ⟨j, j1, j2, j3⟩ := hx
      have hij : i ≠ j := fun q => j3 (q ▸ a1)
      exact ih (i + 1) f (by omega) (by omega) ⟨j, by omega, j2, j3⟩
    · rw [if_neg a1, if_pos rfl]
theorem hfm_zero {v : Mem} {p g : Nat} (hp9 : p ≤ 9) (h7 : v 0 4 = nI p) : ∀ (m i f : Nat), i + m = p → m < f → e_X6_hasFigures_L4 f v (nI g) 0 (nI i) = some (0, v) := by
  intro m
  induction m with
  | zero =>
    intro i f hi hf
    obtain ⟨f, rfl⟩ : ∃ g, f = g + 1 := ⟨f - 1, by omega⟩
    show e_X6_hasFigures_L4_b _ _ _ _ _ = _
    unfold e_X6_hasFigures_L4_b
    rw [h7, if_pos (by rw [n_le (by omega) (by omega)]; omega), if_pos vz0]
  | succ m ih =>
    intro i f hi hf
    obtain ⟨f, rfl⟩ : ∃ g, f = g + 1 := ⟨f - 1, by omega⟩
    show e_X6_hasFigures_L4_b _ _ _ _ _ = _
    unfold e_X6_hasFigures_L4_b e_X6_hasFigures_J38 e_X6_hasFigures_J39
    rw [h7, if_neg (by rw [n_le (by omega) (by omega)]; omega), if_pos rfl, n_l1, n_add]
    exact ih (i + 1) f (by omega) (by omega)
theorem hfm {v : Mem} {S : Nat → Nat} {p g : Nat} (hp9 : p ≤ 9) (hg : g ≤ 9) (h7 : v 0 4 = nI p) (h8 : ∀ j, j < p → v 4 j = nI (S j) ∧ S j ≤ 126) : ∀ (m i f : Nat), i + m = p → m < f → ((∀ j, i ≤ j → j < p → 48 ≤ S j ∧ S j ≤ 48 + g) → e_X6_hasFigures_L4 f v (nI g) 1 (nI i) = some (1, v)) ∧ ((∃ j, i ≤ j ∧ j < p ∧ ¬ (48 ≤ S j ∧ S j ≤ 48 + g)) → e_X6_hasFigures_L4 f v (nI g) 1 (nI i) = some (0, v)) := by
  intro m
  induction m with
  | zero =>
    intro i f hi hf
    obtain ⟨f, rfl⟩ : ∃ g, f = g + 1 := ⟨f - 1, by omega⟩
    refine ⟨fun _ => ?_, fun ⟨j, j1, j2, j3⟩ => by omega⟩
    show e_X6_hasFigures_L4_b _ _ _ _ _ = _
    unfold e_X6_hasFigures_L4_b
    rw [h7, if_pos (by rw [n_le (by omega) (by omega)]; omega), if_pos vz1]
  | succ m ih =>
    intro i f hi hf
    obtain ⟨f, rfl⟩ : ∃ g, f = g + 1 := ⟨f - 1, by omega⟩
    have a2 := h8 i (by omega)
    have hh : e_X6_hasFigures_L4 (f + 1) v (nI g) 1 (nI i) = e_X6_hasFigures_L4 f v (nI g) (if 48 ≤ S i ∧ S i ≤ 48 + g then 1 else 0) (nI (i + 1)) := by
      show e_X6_hasFigures_L4_b _ _ _ _ _ = _
      unfold e_X6_hasFigures_L4_b e_X6_hasFigures_J38 e_X6_hasFigures_J39
      rw [h7, if_neg (by rw [n_le (by omega) (by omega)]; omega), if_neg z1, if_pos (by rw [n_inb (by omega)]; simp; omega), n_cl (by omega), a2.1]
      by_cases q : 48 ≤ S i ∧ S i ≤ 48 + g
      · rw [if_pos q, in_yes (by rw [n_l48, n_lt (by omega) (by omega)]; omega) (by rw [n_l48, n_add, n_lt (by omega) (by omega)]; omega), bnd_some, if_neg z1, n_l1, n_add]
      · rw [if_neg q, in_no (by rw [n_l48, n_add, n_lt (by omega) (by omega), n_lt (by omega) (by omega)]; omega), bnd_some, if_pos rfl, n_l1, n_add]
    rw [hh]
    obtain ⟨ih1, ih2⟩ := ih (i + 1) f (by omega) (by omega)
    refine ⟨fun ha => ?_, fun ⟨j, j1, j2, j3⟩ => ?_⟩
    · rw [if_pos (ha i (by omega) (by omega))]
      exact ih1 (fun j h1 h2 => ha j (by omega) h2)
    · by_cases q : 48 ≤ S i ∧ S i ≤ 48 + g
      · rw [if_pos q]
        have hij : i ≠ j := fun q2 => j3 (q2 ▸ q)
        exact ih2 ⟨j, by omega, j2, j3⟩
      · rw [if_neg q]
        exact hfm_zero hp9 h7 m (i + 1) f (by omega) (by omega)
theorem aF_no {S : Nat → Nat} {p g : Nat} (h : ¬ aF S p g) : ∃ j, 0 ≤ j ∧ j < p ∧ ¬ (48 ≤ S j ∧ S j ≤ 48 + g) := by
  apply Classical.byContradiction
  intro q
  apply h
  intro j hj
  apply Classical.byContradiction
  intro q2
  exact q ⟨j, Nat.zero_le _, hj, q2⟩
/-- both pads have figures up to g, or neither has -/
theorem figs {P : Nat → Nat → Nat} {u v : Mem} (h4 : PD P u v) {g : Nat} (hg : g ≤ 9) : (aF (P 1) (P 0 0) g ∧ e_X2_hasOnlyFigures u (nI g) = some (1, u) ∧ e_X6_hasFigures v (nI g) = some (1, v)) ∨ (¬ aF (P 1) (P 0 0) g ∧ e_X2_hasOnlyFigures u (nI g) = some (0, u) ∧ e_X6_hasFigures v (nI g) = some (0, v)) := by
  obtain ⟨g1, g2, g3, g4, g5, g6, g7, g8⟩ := h4
  have hx : ∀ j, j < P 0 0 → u 8 j = nI (P 1 j) ∧ P 1 j ≤ 126 := fun j hj => ⟨(g2 j hj).2.1, (g2 j hj).1.2⟩
  have hm : ∀ j, j < P 0 0 → v 4 j = nI (P 1 j) ∧ P 1 j ≤ 126 := fun j hj => ⟨(g2 j hj).2.2, (g2 j hj).1.2⟩
  rcases Classical.em (aF (P 1) (P 0 0) g) with h | h
  · exact Or.inl ⟨h, hof_yes g1 hg g3 hx h (P 0 0) 0 FU (by omega) (by unfold FU; omega), (hfm g1 hg g4 hm (P 0 0) 0 FU (by omega) (by unfold FU; omega)).1 (fun j _ hj => h j hj)⟩
  · exact Or.inr ⟨h, hof_no g1 hg g3 hx (P 0 0) 0 FU (by omega) (by unfold FU; omega) (aF_no h), (hfm g1 hg g4 hm (P 0 0) 0 FU (by omega) (by unfold FU; omega)).2 (aF_no h)⟩
theorem st_speaker : St2 RR e_X5_speaker e_X6_speaker := by
  intro u v hR a b
  obtain ⟨B, P, I0, I1, h1, h2, h3, h4, h5, h6⟩ := id hR
  have h9 := h1.1
  have h30 : v 1 72 = nI (B 0 0) := h3.1
  unfold e_X5_speaker e_X6_speaker
  rcases hp_dec a (B 0 0) with ha | ha
  case inr => exact ⟨-1, u, v, by simp only [has_no h1 h2 ha, bnd_some, if_true], by simp only [isp_no h9 h30 ha, bnd_some, if_true], hR⟩
  obtain ⟨i, hi, rfl⟩ := hp_ex ha (by omega)
  obtain ⟨x1, x2, x3, x4⟩ := bk_w h2 hi
  obtain ⟨m1, m2, m3, m4⟩ := bm_w h3 hi
  have b4 := (h1.2.2.2 i hi).2.2.2.1
  have y1 : inb (nI i) 9 = true := by rw [n_inb (by omega)]; simp; omega
  have y2 : inb ((27 : Int32) + nI i) 74 = true := by rw [n_l27, n_add, n_inb (by omega)]; simp; omega
  have e2 : ((27 : Int32) + nI i).toNatClampNeg = 27 + i := by rw [n_l27, n_add, n_cl (by omega)]
  simp only [has_yes h1 h2 hi, isp_yes h9 h30 hi, bnd_some, if_neg z1, y1, y2, if_true, e2, m4, n_cl (show i < 2147483648 by omega), x4]
  have e : (nI (B 4 i) - (1 : Int32)).toInt = (B 4 i : Int) - 1 := pk_sub_toInt (a := B 4 i) (b := 1) (by omega) (by omega)
  by_cases hb : 0 ≤ b.toInt ∧ b.toInt < B 4 i
  · obtain ⟨j, hj, rfl⟩ : ∃ n : Nat, n < B 4 i ∧ b = nI n := ⟨b.toInt.toNat, by omega, i_of (by omega)⟩
    rw [in_yes (by rw [n_l0, n_lt (by omega) (by omega)]; omega) (by rw [i_lt, e, i_nI (by omega)]; omega), bnd_some, if_neg z1, if_neg (by rw [n_l0, n_lt (by omega) (by omega)]; omega), if_pos (by rw [n_lt (by omega) (by omega)]; omega)]
    unfold e_X0_speakerColumn e_X6_speakerAt
    simp (disch := omega) only [n_l4, n_l36, n_mul, n_add, n_inb, n_cl, decide_eq_true_eq]
    rw [if_pos (by omega), if_pos (by omega), bnd_some, bnd_some, Nat.mul_comm i 4, bk_s h2 hi hj, Nat.add_assoc, bm_s h3 hi hj]
    exact ⟨_, _, _, rfl, rfl, hR⟩
  · refine ⟨-6, u, v, ?_, ?_, hR⟩
    · split
      · rfl
      · rename_i q
        rw [if_neg]
        rw [i_lt] at q ⊢
        rw [i_nI (by omega)]
        change ¬ b.toInt < 0 at q
        omega
    · rw [in_no, bnd_some, if_pos rfl]
      rw [i_lt, i_lt, e, i0]
      omega
def sbf (f : Nat → Nat) : Nat → Nat
  | 0 => 0
  | n + 1 => sbf f n + f n
theorem sbf_le {f : Nat → Nat} {c : Nat} : ∀ {n : Nat}, (∀ i, i < n → f i ≤ c) → sbf f n ≤ n * c
  | 0, _ => by simp [sbf]
  | n + 1, h => by
    have h1 := sbf_le (n := n) (fun i hi => h i (by omega))
    have h2 := h n (by omega)
    unfold sbf
    rw [Nat.succ_mul]
    omega
theorem ab_x {u : Mem} {f : Nat → Nat} {n : Nat} (h9 : n ≤ 9) (h0 : u 1 0 = nI n) (hf5 : ∀ i, i < n → u 5 i = nI (f i)) : ∀ (m i g : Nat), i + m = n → m < g → e_X0_allBalloons_L4 g u (nI (sbf f i)) (nI i) = some (nI (sbf f n), u) := by
  intro m
  induction m with
  | zero =>
    intro i g hi hg
    obtain ⟨g, rfl⟩ : ∃ k, g = k + 1 := ⟨g - 1, by omega⟩
    have e : i = n := by omega
    subst e
    show e_X0_allBalloons_L4_b _ _ _ _ = _
    unfold e_X0_allBalloons_L4_b
    rw [h0, if_pos (by rw [n_le (by omega) (by omega)]; omega)]
  | succ m ih =>
    intro i g hi hg
    obtain ⟨g, rfl⟩ : ∃ k, g = k + 1 := ⟨g - 1, by omega⟩
    show e_X0_allBalloons_L4_b _ _ _ _ = _
    unfold e_X0_allBalloons_L4_b
    rw [h0, if_neg (by rw [n_le (by omega) (by omega)]; omega), if_pos (by rw [n_inb (by omega)]; simp; omega), n_cl (by omega), hf5 i (by omega), n_l1, n_add, n_add]
    exact ih (i + 1) g (by omega) (by omega)
theorem ab_m {v : Mem} {f : Nat → Nat} {n : Nat} (h9 : n ≤ 9) (h0 : v 1 72 = nI n) (hf5 : ∀ i, i < n → v 1 (27 + i) = nI (f i)) : ∀ (m i g : Nat), i + m = n → m < g → e_X6_balloons_L4 g v (nI (sbf f i)) (nI i) = some (nI (sbf f n), v) := by
  intro m
  induction m with
  | zero =>
    intro i g hi hg
    obtain ⟨g, rfl⟩ : ∃ k, g = k + 1 := ⟨g - 1, by omega⟩
    have e : i = n := by omega
    subst e
    show e_X6_balloons_L4_b _ _ _ _ = _
    unfold e_X6_balloons_L4_b
    rw [many_m, bnd_some, h0, if_pos (by rw [n_le (by omega) (by omega)]; omega)]
  | succ m ih =>
    intro i g hi hg
    obtain ⟨g, rfl⟩ : ∃ k, g = k + 1 := ⟨g - 1, by omega⟩
    show e_X6_balloons_L4_b _ _ _ _ = _
    unfold e_X6_balloons_L4_b
    rw [many_m, bnd_some, h0, if_neg (by rw [n_le (by omega) (by omega)]; omega), n_l27, n_add, if_pos (by rw [n_inb (by omega)]; simp; omega), n_cl (by omega), hf5 i (by omega), n_l1, n_add, n_add]
    exact ih (i + 1) g (by omega) (by omega)
theorem st_count : St1 RR e_X5_count e_X6_count := by
  intro u v hR a
  obtain ⟨B, P, I0, I1, h1, h2, h3, h4, h5, h6⟩ := id hR
  obtain ⟨g1, g2, g3, g4, g5, g6, g7, g8⟩ := id h4
  have h9 := h1.1
  have h30 : v 1 72 = nI (B 0 0) := h3.1
  have h31 : v 1 73 = nI (B 0 1) := h3.2.1
  unfold e_X5_count e_X6_count
  by_cases q0 : a = 0
  · rw [if_pos q0, if_pos q0, many_m, bnd_some, h2.1, h30]
    exact ⟨_, _, _, rfl, rfl, hR⟩
  rw [if_neg q0, if_neg q0]
  by_cases q1 : a = 1
  · rw [if_pos q1, if_pos q1, if_pos b73, c73, h31, h2.2.1]
    exact ⟨_, _, _, rfl, rfl, hR⟩
  rw [if_neg q1, if_neg q1]
  by_cases q2 : a = 2
  · rw [if_pos q2, if_pos q2, g3, g4]
    exact ⟨_, _, _, rfl, rfl, hR⟩
  rw [if_neg q2, if_neg q2]
  by_cases q3 : a = 3
  · rw [if_pos q3, if_pos q3]
    have e1 := ab_x (f := B 4) h9 h2.1 (fun i hi => (bk_w h2 hi).2.2.2) (B 0 0) 0 FU (by omega) (by unfold FU; omega)
    have e2 := ab_m (f := B 4) h9 h30 (fun i hi => (bm_w h3 hi).2.2.2) (B 0 0) 0 FU (by omega) (by unfold FU; omega)
    have e1 : e_X0_allBalloons u = _ := e1
    have e2 : e_X6_balloons v = _ := e2
    rw [e1, e2, bnd_some, bnd_some]
    exact ⟨_, _, _, rfl, rfl, hR⟩
  rw [if_neg q3, if_neg q3]
  by_cases q4 : a = 4
  · rw [if_pos q4, if_pos q4]
    unfold e_X6_count_J73
    have i02 : inb (0 : Int32) 2 = true := by decide
    have i12 : inb (1 : Int32) 2 = true := by decide
    have k0 : ((0 : Int32)).toNatClampNeg = 0 := rfl
    have k1 : ((1 : Int32)).toNatClampNeg = 1 := rfl
    rw [g6, if_pos i02, if_pos i12, if_pos i12, k0, k1, g7, g8]
    rcases (by omega : P 2 0 = 0 ∨ P 2 0 = 1) with e0 | e0 <;> rcases (by omega : P 2 1 = 0 ∨ P 2 1 = 1) with e1 | e1 <;> rw [e0, e1]
    · exact ⟨0, u, v, rfl, rfl, hR⟩
    · exact ⟨2, u, v, rfl, rfl, hR⟩
    · exact ⟨1, u, v, rfl, rfl, hR⟩
    · exact ⟨3, u, v, rfl, rfl, hR⟩
  rw [if_neg q4, if_neg q4]
  exact ⟨_, _, _, rfl, rfl, hR⟩
theorem tk_x {u0 : Mem} {S : Nat → Nat} {i p : Nat} (hi : i < 9) (hp4 : p ≤ 4) (h8 : ∀ j, j < p → u0 8 j = nI (S j) ∧ 48 ≤ S j ∧ S j ≤ 51) : ∀ (m j f : Nat) (u : Mem), j + m = p → m < f → (∀ c, c ≠ 6 → u c = u0 c) → (∀ c, c < 4 * i ∨ 4 * i + j ≤ c → u 6 c = u0 6 c) → (∀ c, c < j → u 6 (4 * i + c) = nI (S c - 48)) → ∃ u2, e_X5_talk_L48 f u (nI i) (nI p) (nI j) = some (nI p, put (put u2 5 i (nI p)) 7 0 0) ∧ (∀ c, c ≠ 6 → u2 c = u0 c) ∧ (∀ c, c < 4 * i ∨ 4 * i + p ≤ c → u2 6 c = u0 6 c) ∧ (∀ c, c < p → u2 6 (4 * i + c) = nI (S c - 48)) := by
  intro m
  induction m with
  | zero =>
    intro j f u hj hf k1 k2 k3
    obtain ⟨f, rfl⟩ : ∃ g, f = g + 1 := ⟨f - 1, by omega⟩
    have e : j = p := by omega
    subst e
    refine ⟨u, ?_, k1, k2, k3⟩
    show e_X5_talk_L48_b _ _ _ _ _ = _
    unfold e_X5_talk_L48_b
    rw [if_pos (by rw [n_le (by omega) (by omega)]; omega), if_pos (by rw [n_inb (by omega)]; simp; omega), n_cl (by omega)]
  | succ m ih =>
    intro j f u hj hf k1 k2 k3
    obtain ⟨f, rfl⟩ : ∃ g, f = g + 1 := ⟨f - 1, by omega⟩
    have a := h8 j (by omega)
    have e : e_X2_figure u (nI j) = some (nI (S j - 48), u) := by
      unfold e_X2_figure
      rw [if_pos (by rw [n_inb (by omega)]; simp; omega), n_cl (by omega), k1 8 (by omega), a.1, n_l48, n_sub (by omega)]
    obtain ⟨u2, e1, e2, e3, e4⟩ := ih (j + 1) f (put u 6 (4 * i + j) (nI (S j - 48))) (by omega) (by omega) (fun c hc => by rw [put_cell _ _ _ hc]; exact k1 c hc) (fun c hc => by rw [put_slot _ _ (by omega)]; exact k2 c (by omega)) (fun c hc => by
      by_cases q : c = j
      · subst q; rw [put_same]
      · rw [put_slot _ _ (by omega)]; exact k3 c (by omega))
    refine ⟨u2, ?_, e2, e3, e4⟩
    show e_X5_talk_L48_b _ _ _ _ _ = _
    unfold e_X5_talk_L48_b
    rw [if_neg (by rw [n_le (by omega) (by omega)]; omega), e, bnd_some, n_l4, n_mul, n_add, if_pos (by rw [n_inb (by omega)]; simp; omega), n_cl (by omega), n_l1, n_add, Nat.mul_comm i 4]
    exact e1
theorem tk_m {v0 : Mem} {S : Nat → Nat} {i p : Nat} (hi : i < 9) (hp4 : p ≤ 4) (h0 : v0 0 4 = nI p) (h8 : ∀ j, j < p → v0 4 j = nI (S j) ∧ 48 ≤ S j ∧ S j ≤ 51) : ∀ (m j f : Nat) (v : Mem), j + m = p → m < f → (∀ c, c ≠ 1 → v c = v0 c) → (∀ c, c < 36 + 4 * i ∨ 36 + 4 * i + j ≤ c → v 1 c = v0 1 c) → (∀ c, c < j → v 1 (36 + 4 * i + c) = nI (S c - 48)) → ∃ v2, e_X6_talk_L31 f v (nI i) (nI j) = some (nI p, put (put v2 1 (27 + i) (nI p)) 0 4 0) ∧ (∀ c, c ≠ 1 → v2 c = v0 c) ∧ (∀ c, c < 36 + 4 * i ∨ 36 + 4 * i + p ≤ c → v2 1 c = v0 1 c) ∧ (∀ c, c < p → v2 1 (36 + 4 * i + c) = nI (S c - 48)) := by
  intro m
  induction m with
  | zero =>
    intro j f v hj hf k1 k2 k3
    obtain ⟨f, rfl⟩ : ∃ g, f = g + 1 := ⟨f - 1, by omega⟩
    have e : j = p := by omega
    subst e
    refine ⟨v, ?_, k1, k2, k3⟩
    show e_X6_talk_L31_b _ _ _ _ = _
    unfold e_X6_talk_L31_b
    rw [k1 0 (by omega), h0, if_pos (by rw [n_le (by omega) (by omega)]; omega), n_l27, n_add, if_pos (by rw [n_inb (by omega)]; simp; omega), if_pos (by rw [n_inb (by omega)]; simp; omega), n_cl (by omega), put_same]
  | succ m ih =>
    intro j f v hj hf k1 k2 k3
    obtain ⟨f, rfl⟩ : ∃ g, f = g + 1 := ⟨f - 1, by omega⟩
    have a := h8 j (by omega)
    obtain ⟨v2, e1, e2, e3, e4⟩ := ih (j + 1) f (put v 1 (36 + 4 * i + j) (nI (S j - 48))) (by omega) (by omega) (fun c hc => by rw [put_cell _ _ _ hc]; exact k1 c hc) (fun c hc => by rw [put_slot _ _ (by omega)]; exact k2 c (by omega)) (fun c hc => by
      by_cases q : c = j
      · subst q; rw [put_same]
      · rw [put_slot _ _ (by omega)]; exact k3 c (by omega))
    refine ⟨v2, ?_, e2, e3, e4⟩
    show e_X6_talk_L31_b _ _ _ _ = _
    unfold e_X6_talk_L31_b
    rw [k1 0 (by omega), h0, if_neg (by rw [n_le (by omega) (by omega)]; omega), if_pos (by rw [n_inb (by omega)]; simp; omega), n_l36, n_l4, n_mul, n_add, n_add, if_pos (by rw [n_inb (by omega)]; simp; omega), n_cl (by omega), n_cl (by omega), k1 4 (by omega), a.1, n_l48, n_sub (by omega), n_l1, n_add]
    exact e1
theorem st_talk : St1 RR e_X5_talk e_X6_talk := by
  intro u v hR a
  obtain ⟨B, P, I0, I1, h1, h2, h3, h4, h5, h6⟩ := id hR
  obtain ⟨g1, g2, g3, g4, g5, g6, g7, g8⟩ := id h4
  have h9 := h1.1
  have h30 : v 1 72 = nI (B 0 0) := h3.1
  unfold e_X5_talk e_X6_talk
  rcases hp_dec a (B 0 0) with ha | ha
  case inr => exact ⟨-1, u, v, by simp only [has_no h1 h2 ha, bnd_some, if_true], by simp only [isp_no h9 h30 ha, bnd_some, if_true], hR⟩
  obtain ⟨i, hi, rfl⟩ := hp_ex ha (by omega)
  simp only [has_yes h1 h2 hi, isp_yes h9 h30 hi, bnd_some, if_neg z1, g3, g4]
  simp (disch := omega) only [n_l4, n_lt]
  by_cases hp4 : 4 < P 0 0
  · rw [if_pos hp4, if_pos hp4]
    exact ⟨-7, u, v, rfl, rfl, hR⟩
  rw [if_neg hp4, if_neg hp4]
  rcases figs h4 (show 3 ≤ 9 by omega) with ⟨ha, f1, f2⟩ | ⟨ha, f1, f2⟩
  case inr =>
    rw [n_l3, f1, f2, bnd_some, bnd_some, if_pos rfl, if_pos rfl]
    exact ⟨-7, u, v, rfl, rfl, hR⟩
  rw [n_l3, f1, f2, bnd_some, bnd_some, if_neg z1, if_neg z1, g3]
  obtain ⟨u2, x1, x2, x3, x4⟩ := tk_x (u0 := u) (S := P 1) (i := i) (p := P 0 0) (by omega) (by omega) (fun j hj => ⟨(g2 j hj).2.1, (ha j hj).1, (ha j hj).2⟩) (P 0 0) 0 FU u (by omega) (by unfold FU; omega) (fun _ _ => rfl) (fun _ _ => rfl) (fun c hc => by omega)
  obtain ⟨v2, y1, y2, y3, y4⟩ := tk_m (v0 := v) (S := P 1) (i := i) (p := P 0 0) (by omega) (by omega) g4 (fun j hj => ⟨(g2 j hj).2.2, (ha j hj).1, (ha j hj).2⟩) (P 0 0) 0 FU v (by omega) (by unfold FU; omega) (fun _ _ => rfl) (fun _ _ => rfl) (fun c hc => by omega)
  refine ⟨nI (P 0 0), _, _, x1, y1, ?_⟩
  have hs : ∀ j, j < P 0 0 → P 1 j - 48 ≤ 3 := fun j hj => by have := ha j hj; omega
  refine ⟨fun k2 j2 => if k2 = 5 ∧ 4 * i ≤ j2 ∧ j2 < 4 * i + P 0 0 then P 1 (j2 - 4 * i) - 48 else if k2 = 4 ∧ j2 = i then P 0 0 else B k2 j2, pb P 0 0 0, I0, I1, ?_, ?_, ?_, ?_, ?_, ?_⟩
  · refine ⟨by simp; exact h9, by simp; exact h1.2.1, by simp; exact h1.2.2.1, fun j hj => ?_⟩
    simp at hj
    obtain ⟨o1, o2, o3, o4, o5⟩ := h1.2.2.2 j hj
    refine ⟨by simp; exact o1, by simp; exact o2, by simp; exact o3, ?_, fun z hz => ?_⟩
    · simp only []
      rw [if_neg (by omega)]
      split <;> omega
    · by_cases q : j = i
      · subst q
        dsimp only at hz ⊢
        rw [if_neg (by omega), if_pos (by omega)] at hz
        rw [if_pos (by omega)]
        exact hs _ (by omega)
      · dsimp only at hz ⊢
        rw [if_neg (by omega), if_neg (by omega)] at hz
        rw [if_neg (by omega), if_neg (by omega)]
        exact o5 z hz
  · refine ⟨?_, ?_, fun j hj => ?_⟩
    · rw [put_cell _ _ _ (by omega), put_cell _ _ _ (by omega), x2 1 (by omega)]; simp; exact h2.1
    · rw [put_cell _ _ _ (by omega), put_cell _ _ _ (by omega), x2 1 (by omega)]; simp; exact h2.2.1
    · simp at hj
      obtain ⟨o1, o2, o3, o4, o5⟩ := h2.2.2 j hj
      have b4 := (h1.2.2.2 j hj).2.2.2.1
      refine ⟨?_, ?_, ?_, ?_, fun z hz => ?_⟩
      · rw [put_cell _ _ _ (by omega), put_cell _ _ _ (by omega), x2 _ (by omega)]; simp; exact o1
      · rw [put_cell _ _ _ (by omega), put_cell _ _ _ (by omega), x2 _ (by omega)]; simp; exact o2
      · rw [put_cell _ _ _ (by omega), put_cell _ _ _ (by omega), x2 _ (by omega)]; simp; exact o3
      · rw [put_cell _ _ _ (by omega), put_get, x2 _ (by omega)]
        by_cases q : j = i
        · subst q; simp
        · simp [q]; exact o4
      · rw [put_cell _ _ _ (by omega), put_cell _ _ _ (by omega)]
        by_cases q : j = i
        · subst q
          dsimp only at hz ⊢
          rw [if_neg (by omega), if_pos (by omega)] at hz
          rw [if_pos (by omega), Nat.add_sub_cancel_left]
          exact x4 z hz
        · dsimp only at hz ⊢
          rw [if_neg (by omega), if_neg (by omega)] at hz
          rw [if_neg (by omega), if_neg (by omega)]
          rw [show (1 : Nat) + 5 = 6 from rfl, x3 _ (by omega)]
          exact o5 z hz
  · refine ⟨?_, ?_, fun j hj => ?_⟩
    · rw [put_cell _ _ _ (by omega), put_slot _ _ (by omega), y3 _ (by omega)]; simp; exact h30
    · rw [put_cell _ _ _ (by omega), put_slot _ _ (by omega), y3 _ (by omega)]; simp; exact h3.2.1
    · simp at hj
      obtain ⟨o1, o2, o3, o4, o5⟩ := h3.2.2 j hj
      have b4 := (h1.2.2.2 j hj).2.2.2.1
      refine ⟨?_, ?_, ?_, ?_, fun z hz => ?_⟩
      · rw [put_cell _ _ _ (by omega), put_slot _ _ (by omega), y3 _ (by omega)]; simp; simpa using o1
      · rw [put_cell _ _ _ (by omega), put_slot _ _ (by omega), y3 _ (by omega)]; simp; simpa using o2
      · rw [put_cell _ _ _ (by omega), put_slot _ _ (by omega), y3 _ (by omega)]; simp; simpa using o3
      · rw [put_cell _ _ _ (by omega), put_get]
        by_cases q : j = i
        · subst q; simp
        · rw [if_neg (by omega), y3 _ (by omega)]; simp [q]; simpa using o4
      · rw [put_cell _ _ _ (by omega), put_slot _ _ (by omega)]
        by_cases q : j = i
        · subst q
          dsimp only at hz ⊢
          rw [if_neg (by omega), if_pos (by omega)] at hz
          rw [if_pos (by omega), Nat.add_sub_cancel_left]
          have := y4 z hz
          rw [Nat.zero_add, ← Nat.add_assoc]
          exact this
        · dsimp only at hz ⊢
          rw [if_neg (by omega), if_neg (by omega)] at hz
          rw [if_neg (by omega), if_neg (by omega)]
          rw [y3 _ (by omega)]
          exact o5 z hz
  · refine ⟨by rw [pb_same]; omega, fun j hj => ?_, by rw [put_same, pb_same]; rfl, by rw [put_same, pb_same]; rfl, by simp [pb]; exact g5, ?_, ?_, ?_⟩
    · rw [pb_same] at hj; omega
    · rw [put_cell _ _ _ (by omega), put_cell _ _ _ (by omega), x2 0 (by omega)]; simp [pb]; exact g6
    · rw [put_cell _ _ _ (by omega), put_cell _ _ _ (by omega), y2 3 (by omega)]; simp [pb]; exact g7
    · rw [put_cell _ _ _ (by omega), put_cell _ _ _ (by omega), y2 3 (by omega)]; simp [pb]; exact g8
  · rw [pb_ne _ _ (by omega)]
    exact h5.kp (fun k _ _ => by rw [put_cell _ _ _ (by omega), put_cell _ _ _ (by omega), x2 k (by omega)]) (by rw [put_cell _ _ _ (by omega), put_cell _ _ _ (by omega), y2 2 (by omega)])
  · rw [pb_ne _ _ (by omega)]
    exact h6.kp (fun k _ _ => by rw [put_cell _ _ _ (by omega), put_cell _ _ _ (by omega), x2 k (by omega)]) (by rw [put_cell _ _ _ (by omega), put_cell _ _ _ (by omega), y2 2 (by omega)])
