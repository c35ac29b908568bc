theorem RR.book {u v u2 v2 : Mem} {B2 P I0 I1 : Nat → Nat → Nat} (h4 : PD P u v) (h5 : IM (P 2 0) I0 u v 35 0) (h6 : IM (P 2 1) I1 u v 41 74) (hB : OKB B2) (hX : BX B2 u2 1) (hM : BM B2 (v2 1) 0) (hu : ∀ k, k = 0 ∨ 7 ≤ k → u2 k = u k) (hv : ∀ k, k ≠ 1 → v2 k = v k) : RR u2 v2 :=
  ⟨B2, P, I0, I1, hB, hX, hM, h4.kp (by rw [hu 0 (by omega)]) (by rw [hu 7 (by omega)]) (hu 8 (by omega)) (by rw [hv 0 (by omega)]) (hv 3 (by omega)) (hv 4 (by omega)), h5.kp (fun k _ _ => hu k (by omega)) (hv 2 (by omega)), h6.kp (fun k _ _ => hu k (by omega)) (hv 2 (by omega))⟩
theorem st_panel : St3 RR e_X5_panel e_X6_panel := by
  intro u v hR a b c
  obtain ⟨B, P, I0, I1, h1, h2, h3, h4, h5, h6⟩ := id hR
  have h9 := h1.1
  have h30 : v 1 72 = nI (B 0 0) := h3.1
  unfold e_X5_panel e_X6_panel
  rcases ft_dec 0 a with ha | ha
  case inr => exact ⟨-2, u, v, by simp only [isf_no ha, bnd_some, if_true], by simp only [fit_no (Or.inl rfl) ha, bnd_some, if_true], hR⟩
  rcases ft_dec 1 b with hb | hb
  case inr => exact ⟨-2, u, v, by simp only [isf_yes ha, isf_no hb, bnd_some, if_neg z1, if_true], by simp only [fit_yes ha, fit_no (Or.inr (Or.inl rfl)) hb, bnd_some, if_neg z1, if_true], hR⟩
  rcases ft_dec 2 c with hc | hc
  case inr => exact ⟨-2, u, v, by simp only [isf_yes ha, isf_yes hb, isf_no hc, bnd_some, if_neg z1, if_true], by simp only [fit_yes ha, fit_yes hb, fit_no (Or.inr (Or.inr rfl)) hc, bnd_some, if_neg z1, if_true], hR⟩
  simp only [isf_yes ha, isf_yes hb, isf_yes hc, fit_yes ha, fit_yes hb, fit_yes hc, bnd_some, if_neg z1, many_m, h2.1, h30]
  rcases Nat.lt_or_ge (B 0 0) 9 with hn | hn
  case inr =>
    refine ⟨-4, u, v, ?_, ?_, hR⟩
    · rw [if_neg (by rw [n_l9, n_lt (by omega) (by omega)]; omega)]
    · rw [if_pos (by rw [n_l9, n_eq (by omega) (by omega)]; omega)]
  obtain ⟨na, hna, rfl, ka⟩ := ft_nI ha
  obtain ⟨nb, hnb, rfl, kb⟩ := ft_nI hb
  obtain ⟨nc, hnc, rfl, kc⟩ := ft_nI hc
  have ka : 1 ≤ na := ka.elim (fun h => h.2) (fun h => h.elim (fun h => absurd h.1 (by decide)) (fun h => absurd h.1 (by decide)))
  have kb : 1 ≤ nb ∧ nb ≤ 6 := kb.elim (fun h => absurd h.1 (by decide)) (fun h => h.elim (fun h => h.2) (fun h => absurd h.1 (by decide)))
  have kc : nc ≤ 3 := kc.elim (fun h => absurd h.1 (by decide)) (fun h => h.elim (fun h => absurd h.1 (by decide)) (fun h => h.2))
  generalize hN : B 0 0 = n at *
  simp (disch := omega) only [n_l0, n_l1, n_l9, n_l18, n_l27, n_l72, n_add, n_lt, n_eq, n_inb, n_cl, decide_eq_true_eq]
  rw [if_pos (by omega), if_pos (by omega), if_pos (by omega), if_pos (by omega), if_pos (by omega), if_neg (by omega), if_pos (by omega), if_pos (by omega), if_pos (by omega), if_pos (by omega), if_pos (by omega), if_pos (by omega)]
  refine ⟨nI n, _, _, rfl, rfl, ?_⟩
  have e72 : put (put (put (put v 1 (0 + n) (nI na)) 1 (9 + n) (nI nb)) 1 (18 + n) (nI nc)) 1 (27 + n) (nI 0) 1 72 = nI n := by
    rw [put_slot _ _ (by omega), put_slot _ _ (by omega), put_slot _ _ (by omega), put_slot _ _ (by omega)]; exact h30
  rw [e72, n_add]
  refine RR.book (B2 := pb (pb (pb (pb (pb B 1 n na) 2 n nb) 3 n nc) 4 n 0) 0 0 (n + 1)) h4 h5 h6 ?_ ?_ ?_ ?_ ?_
  · refine ⟨?_, ?_, ?_, ?_⟩
    · simp [pb]; omega
    · simp [pb]; exact h1.2.1
    · simp [pb]; exact h1.2.2.1
    · intro i hi
      simp [pb] at hi
      have h7 := h1.2.2.2 i
      rw [hN] at h7
      by_cases hin : i = n
      · subst hin
        simp [pb]
        omega
      · simp [pb, hin]
        exact h7 (by omega)
  · refine ⟨?_, ?_, ?_⟩
    · simp [pb, put_get]
    · simp [pb, put_get]; exact h2.2.1
    · intro i hi
      simp [pb] at hi
      have h7 := h2.2.2 i
      rw [hN] at h7
      by_cases hin : i = n
      · subst hin
        simp [pb, put_get]
      · simp [pb, put_get, hin]
        exact h7 (by omega)
  · refine ⟨?_, ?_, ?_⟩
    · simp [pb, put_get]
    · rw [put_slot _ _ (by omega), put_slot _ _ (by omega), put_slot _ _ (by omega), put_slot _ _ (by omega), put_slot _ _ (by omega)]
      simp [pb]; exact h3.2.1
    · intro i hi
      simp [pb] at hi
      have h7 := h3.2.2 i
      rw [hN] at h7
      by_cases hin : i = n
      · subst hin
        refine ⟨?_, ?_, ?_, ?_, fun j hj => ?_⟩
        · rw [put_slot _ _ (by omega), put_slot _ _ (by omega), put_slot _ _ (by omega), put_slot _ _ (by omega)]; simp [pb, put_get]
        · rw [put_slot _ _ (by omega), put_slot _ _ (by omega), put_slot _ _ (by omega)]; simp [pb, put_get]
        · rw [put_slot _ _ (by omega), put_slot _ _ (by omega)]; simp [pb, put_get]
        · rw [put_slot _ _ (by omega)]; simp [pb, put_get]
        · simp [pb] at hj
      · obtain ⟨a1, a2, a3, a4, a5⟩ := h7 (by omega)
        have b4 := (h1.2.2.2 i (by omega)).2.2.2.1
        refine ⟨?_, ?_, ?_, ?_, fun j hj => ?_⟩
        · rw [put_slot _ _ (by omega), put_slot _ _ (by omega), put_slot _ _ (by omega), put_slot _ _ (by omega), put_slot _ _ (by omega)]; simp [pb, hin]; simpa using a1
        · rw [put_slot _ _ (by omega), put_slot _ _ (by omega), put_slot _ _ (by omega), put_slot _ _ (by omega), put_slot _ _ (by omega)]; simp [pb, hin]; simpa using a2
        · rw [put_slot _ _ (by omega), put_slot _ _ (by omega), put_slot _ _ (by omega), put_slot _ _ (by omega), put_slot _ _ (by omega)]; simp [pb, hin]; simpa using a3
        · rw [put_slot _ _ (by omega), put_slot _ _ (by omega), put_slot _ _ (by omega), put_slot _ _ (by omega), put_slot _ _ (by omega)]; simp [pb, hin]; simpa using a4
        · simp [pb, hin] at hj
          rw [put_slot _ _ (by omega), put_slot _ _ (by omega), put_slot _ _ (by omega), put_slot _ _ (by omega), put_slot _ _ (by omega)]
          have := a5 j hj
          simp [pb]
          simpa using this
  · intro k hk
    rw [put_cell _ _ _ (by omega), put_cell _ _ _ (by omega), put_cell _ _ _ (by omega), put_cell _ _ _ (by omega), put_cell _ _ _ (by omega)]
  · intro k hk
    rw [put_cell _ _ _ (by omega), put_cell _ _ _ (by omega), put_cell _ _ _ (by omega), put_cell _ _ _ (by omega), put_cell _ _ _ (by omega)]
theorem st_pop : St0 RR e_X5_pop e_X6_pop := by
  intro u v hR
  obtain ⟨B, P, I0, I1, h1, h2, h3, h4, h5, h6⟩ := id hR
  have h9 := h1.1
  have h30 : v 1 72 = nI (B 0 0) := h3.1
  unfold e_X5_pop e_X6_pop
  simp only [bnd_some, many_m, h2.1, h30, if_pos b72, c72]
  rcases Nat.eq_zero_or_pos (B 0 0) with hn | hn
  · refine ⟨-5, u, v, ?_, ?_, hR⟩
    · rw [if_neg (by rw [n_l1, n_le (by omega) (by omega)]; omega)]
    · rw [if_pos (by rw [n_l0, n_eq (by omega) (by omega)]; omega)]
  obtain ⟨n, hN⟩ : ∃ n, B 0 0 = n + 1 := ⟨B 0 0 - 1, by omega⟩
  simp (disch := omega) only [hN, n_l0, n_l1, n_l27, n_eq, n_le, n_sub, n_add, put_same, n_inb, n_cl, decide_eq_true_eq, Nat.add_sub_cancel]
  rw [if_pos (by omega), if_neg (by omega), if_pos (by omega), put_slot _ _ (by omega), put_same]
  refine ⟨nI n, _, _, rfl, rfl, ?_⟩
  refine RR.book (B2 := pb B 0 0 n) h4 h5 h6 ?_ ?_ ?_ ?_ ?_
  · refine ⟨by rw [pb_same]; omega, h1.2.1, h1.2.2.1, fun i hi => ?_⟩
    rw [pb_same] at hi
    exact h1.2.2.2 i (by omega)
  · refine ⟨by rw [put_same, pb_same], ?_, fun i hi => ?_⟩
    · rw [put_slot _ _ (by omega)]; exact h2.2.1
    · rw [pb_same] at hi
      exact h2.2.2 i (by omega)
  · refine ⟨?_, ?_, fun i hi => ?_⟩
    · rw [put_slot _ _ (by omega), put_same, pb_same]
    · rw [put_slot _ _ (by omega), put_slot _ _ (by omega)]; exact h3.2.1
    · rw [pb_same] at hi
      obtain ⟨a1, a2, a3, a4, a5⟩ := h3.2.2 i (by omega)
      have b4 := (h1.2.2.2 i (by omega)).2.2.2.1
      refine ⟨?_, ?_, ?_, ?_, fun j hj => ?_⟩
      · rw [put_slot _ _ (by omega), put_slot _ _ (by omega)]; exact a1
      · rw [put_slot _ _ (by omega), put_slot _ _ (by omega)]; exact a2
      · rw [put_slot _ _ (by omega), put_slot _ _ (by omega)]; exact a3
      · rw [put_slot _ _ (by omega), put_slot _ _ (by omega)]; exact a4
      · have hj2 : j < B 4 i := hj
        rw [put_slot _ _ (by omega), put_slot _ _ (by omega)]; exact a5 j hj
  · intro k hk
    rw [put_cell _ _ _ (by omega)]
  · intro k hk
    rw [put_cell _ _ _ (by omega), put_cell _ _ _ (by omega)]
theorem bk_w {B : Nat → Nat → Nat} {u : Mem} (h : BX B u 1) {i : Nat} (hi : i < B 0 0) : u 2 i = nI (B 1 i) ∧ u 3 i = nI (B 2 i) ∧ u 4 i = nI (B 3 i) ∧ u 5 i = nI (B 4 i) := by
  obtain ⟨a1, a2, a3, a4, a5⟩ := h.2.2 i hi
  exact ⟨a1, a2, a3, a4⟩
theorem bk_s {B : Nat → Nat → Nat} {u : Mem} (h : BX B u 1) {i j : Nat} (hi : i < B 0 0) (hj : j < B 4 i) : u 6 (4 * i + j) = nI (B 5 (4 * i + j)) := (h.2.2 i hi).2.2.2.2 j hj
theorem bm_w {B : Nat → Nat → Nat} {f : Nat → Int32} (h : BM B f 0) {i : Nat} (hi : i < B 0 0) : f i = nI (B 1 i) ∧ f (9 + i) = nI (B 2 i) ∧ f (18 + i) = nI (B 3 i) ∧ f (27 + i) = nI (B 4 i) := by
  obtain ⟨a1, a2, a3, a4, a5⟩ := h.2.2 i hi
  rw [Nat.zero_add] at a1 a2 a3 a4
  exact ⟨a1, a2, a3, a4⟩
theorem bm_s {B : Nat → Nat → Nat} {f : Nat → Int32} (h : BM B f 0) {i j : Nat} (hi : i < B 0 0) (hj : j < B 4 i) : f (36 + (4 * i + j)) = nI (B 5 (4 * i + j)) := by
  have := (h.2.2 i hi).2.2.2.2 j hj
  rwa [Nat.zero_add] at this
theorem st_of : St2 RR e_X5_of e_X6_of := by
  intro u v hR a b
  obtain ⟨B, P, I0, I1, h1, h2, h3, h4, h5, h6⟩ := id hR
  have h9 := h1.1
  have h30 : v 1 72 = nI (B 0 0) := h3.1
  unfold e_X5_of e_X6_of
  rcases hp_dec a (B 0 0) with ha | ha
  case inr => exact ⟨-1, u, v, by simp only [has_no h1 h2 ha, bnd_some, if_true], by simp only [isp_no h9 h30 ha, bnd_some, if_true], hR⟩
  obtain ⟨i, hi, rfl⟩ := hp_ex ha (by omega)
  obtain ⟨x1, x2, x3, x4⟩ := bk_w h2 hi
  obtain ⟨m1, m2, m3, m4⟩ := bm_w h3 hi
  simp only [has_yes h1 h2 hi, isp_yes h9 h30 hi, bnd_some, if_neg z1]
  by_cases hb : 0 ≤ b.toInt ∧ b.toInt ≤ 3
  case neg =>
    refine ⟨-2, u, v, ?_, ?_, hR⟩
    · split
      · rfl
      · rename_i q
        rw [if_neg]
        rw [i_lt] at q
        rw [i_le]
        change ¬ b.toInt < 0 at q
        change ¬ b.toInt ≤ 3
        omega
    · rw [in_no (by rw [i_lt, i_lt]; change b.toInt < 0 ∨ 3 < b.toInt; omega), bnd_some, if_pos rfl]
  obtain ⟨k, hk, rfl⟩ : ∃ k : Nat, k ≤ 3 ∧ b = nI k := ⟨b.toInt.toNat, by omega, i_of (by omega)⟩
  rw [in_yes (by rw [n_l0, n_lt (by omega) (by omega)]; omega) (by rw [n_l3, n_lt (by omega) (by omega)]; omega), bnd_some, if_neg z1]
  unfold e_X0_feature
  simp (disch := omega) only [n_l0, n_l1, n_l2, n_l3, n_l9, n_lt, n_le, n_eq, n_mul, n_add, n_inb, n_cl, decide_eq_true_eq]
  have y1 : ¬ k < 0 := by omega
  have y2 : i < 9 := by omega
  have y3 : 9 * k + i < 74 := by omega
  simp only [y1, y2, y3, hk, if_true, if_false]
  rcases (by omega : k = 0 ∨ k = 1 ∨ k = 2 ∨ k = 3) with rfl | rfl | rfl | rfl
  · exact ⟨nI (B 1 i), u, v, by simp [bnd_some, x1], by simp [m1], hR⟩
  · exact ⟨nI (B 2 i), u, v, by simp [bnd_some, x2], by simp [m2], hR⟩
  · exact ⟨nI (B 3 i), u, v, by simp [bnd_some, x3], by simp [m3], hR⟩
  · exact ⟨nI (B 4 i), u, v, by simp [bnd_some, x4], by simp [m4], hR⟩
theorem st_change : St3 RR e_X5_change e_X6_change := by
  intro u v hR a b c
  obtain ⟨B, P, I0, I1, h1, h2, h3, h4, h5, h6⟩ := id hR
  have h9 := h1.1
  have h30 : v 1 72 = nI (B 0 0) := h3.1
  unfold e_X5_change e_X6_change
  rcases hp_dec a (B 0 0) with ha | ha
  case inr => exact ⟨-1, u, v, by simp only [has_no h1 h2 ha, bnd_some, if_true], by simp only [isp_no h9 h30 ha, bnd_some, if_true], hR⟩
  obtain ⟨i, hi, rfl⟩ := hp_ex ha (by omega)
  obtain ⟨x1, x2, x3, x4⟩ := bk_w h2 hi
  obtain ⟨m1, m2, m3, m4⟩ := bm_w h3 hi
  simp only [has_yes h1 h2 hi, isp_yes h9 h30 hi, bnd_some, if_neg z1]
  rcases ft_dec b c with hc | hc
  case inr =>
    refine ⟨-2, u, v, by simp only [isf_no hc, bnd_some, if_true], ?_, hR⟩
    by_cases hb : b = 0 ∨ b = 1 ∨ b = 2
    · have hb2 : ¬ b < 0 ∧ ¬ (2 : Int32) < b := by rcases hb with rfl | rfl | rfl <;> decide
      simp only [in_yes hb2.1 hb2.2, fit_no hb hc, bnd_some, if_neg z1, if_true]
    · have hb2 : b < 0 ∨ (2 : Int32) < b := by
        rw [i_eq, i_eq, i_eq] at hb
        change ¬ (b.toInt = 0 ∨ b.toInt = 1 ∨ b.toInt = 2) at hb
        rw [i_lt, i_lt]
        change b.toInt < 0 ∨ 2 < b.toInt
        omega
      simp only [in_no hb2, bnd_some, if_true]
  obtain ⟨n, hn, rfl, hw⟩ := ft_nI hc
  have hb : b = 0 ∨ b = 1 ∨ b = 2 := by rcases hw with ⟨h, _⟩ | ⟨h, _⟩ | ⟨h, _⟩ <;> simp [h]
  have hb2 : ¬ b < 0 ∧ ¬ (2 : Int32) < b := by rcases hb with rfl | rfl | rfl <;> decide
  simp only [in_yes hb2.1 hb2.2, fit_yes hc, isf_yes hc, bnd_some, if_neg z1]
  have y1 : inb (nI i) 9 = true := by rw [n_inb (by omega)]; simp; omega
  have key : ∀ k : Nat, k < 3 → b = nI k → (k = 0 → 1 ≤ n) → (k = 1 → 1 ≤ n ∧ n ≤ 6) → (k = 2 → n ≤ 3) → RR (put u (2 + k) i (nI n)) (put v 1 (9 * k + i) (nI n)) := by
    intro k hk3 hbk q0 q1 q2
    refine RR.book (B2 := pb B (1 + k) i n) h4 h5 h6 ?_ ?_ ?_ ?_ ?_
    · refine ⟨by rw [pb_ne _ _ (by omega)]; omega, by rw [pb_ne _ _ (by omega)]; exact h1.2.1, by rw [pb_ne _ _ (by omega)]; exact h1.2.2.1, fun j hj => ?_⟩
      rw [pb_ne _ _ (by omega)] at hj
      obtain ⟨o1, o2, o3, o4, o5⟩ := h1.2.2.2 j hj
      refine ⟨?_, ?_, ?_, by rw [pb_ne _ _ (by omega)]; exact o4, fun z hz => ?_⟩
      · unfold pb; split <;> omega
      · unfold pb; split <;> omega
      · unfold pb; split <;> omega
      · rw [pb_ne _ _ (by omega)] at hz ⊢; exact o5 z hz
    · refine ⟨by rw [pb_ne _ _ (by omega), put_slot _ _ (by omega)]; exact h2.1, by rw [pb_ne _ _ (by omega), put_slot _ _ (by omega)]; exact h2.2.1, fun j hj => ?_⟩
      rw [pb_ne _ _ (by omega)] at hj
      obtain ⟨o1, o2, o3, o4, o5⟩ := h2.2.2 j hj
      refine ⟨?_, ?_, ?_, by rw [pb_ne _ _ (by omega), put_slot _ _ (by omega)]; exact o4, fun z hz => ?_⟩
      · rw [put_get]; unfold pb; by_cases q : k = 0 ∧ j = i
        · rw [if_pos (by omega), if_pos (by omega)]
        · rw [if_neg (by omega), if_neg (by omega)]; exact o1
      · rw [put_get]; unfold pb; by_cases q : k = 1 ∧ j = i
        · rw [if_pos (by omega), if_pos (by omega)]
        · rw [if_neg (by omega), if_neg (by omega)]; exact o2
      · rw [put_get]; unfold pb; by_cases q : k = 2 ∧ j = i
        · rw [if_pos (by omega), if_pos (by omega)]
        · rw [if_neg (by omega), if_neg (by omega)]; exact o3
      · rw [pb_ne _ _ (by omega)] at hz ⊢; rw [put_slot _ _ (by omega)]; exact o5 z hz
    · refine ⟨by rw [pb_ne _ _ (by omega), put_slot _ _ (by omega)]; exact h3.1, by rw [pb_ne _ _ (by omega), put_slot _ _ (by omega)]; exact h3.2.1, fun j hj => ?_⟩
      rw [pb_ne _ _ (by omega)] at hj
      obtain ⟨o1, o2, o3, o4, o5⟩ := h3.2.2 j hj
      refine ⟨?_, ?_, ?_, by rw [pb_ne _ _ (by omega), put_slot _ _ (by omega)]; exact o4, fun z hz => ?_⟩
      · rw [put_get]; unfold pb; by_cases q : k = 0 ∧ j = i
        · rw [if_pos (by omega), if_pos (by omega)]
        · rw [if_neg (by omega), if_neg (by omega)]; exact o1
      · rw [put_get]; unfold pb; by_cases q : k = 1 ∧ j = i
        · rw [if_pos (by omega), if_pos (by omega)]
        · rw [if_neg (by omega), if_neg (by omega)]; exact o2
      · rw [put_get]; unfold pb; by_cases q : k = 2 ∧ j = i
        · rw [if_pos (by omega), if_pos (by omega)]
        · rw [if_neg (by omega), if_neg (by omega)]; exact o3
      · rw [pb_ne _ _ (by omega)] at hz ⊢; rw [put_slot _ _ (by omega)]; exact o5 z hz
    · intro z hz; rw [put_cell _ _ _ (by omega)]
    · intro z hz; rw [put_cell _ _ _ (by omega)]
  unfold e_X0_feature
  rcases hw with ⟨rfl, w1⟩ | ⟨rfl, w1⟩ | ⟨rfl, w1⟩
  · refine ⟨nI (B 1 i), _, _, ?_, ?_, key 0 (by omega) rfl (fun _ => w1) (fun h => by omega) (fun h => by omega)⟩
    · simp (disch := omega) only [y1, n_cl, if_true, bnd_some, x1]
    · simp (disch := omega) only [n_l0, n_l9, n_mul, n_add, n_cl, n_inb]
      rw [if_pos (by simp; omega), if_pos (by simp; omega)]
      simp [m1]
  · refine ⟨nI (B 2 i), _, _, ?_, ?_, key 1 (by omega) rfl (fun h => by omega) (fun _ => w1) (fun h => by omega)⟩
    · simp (disch := omega) only [y1, n_cl, if_true, bnd_some, x2, if_neg z1]
    · simp (disch := omega) only [n_l1, n_l9, n_mul, n_add, n_cl, n_inb]
      rw [if_pos (by simp; omega), if_pos (by simp; omega)]
      simp [m2]
  · have z2 : ¬ ((2 : Int32) = 0) := by decide
    have z21 : ¬ ((2 : Int32) = 1) := by decide
    refine ⟨nI (B 3 i), _, _, ?_, ?_, key 2 (by omega) rfl (fun h => by omega) (fun h => by omega) (fun _ => w1)⟩
    · simp (disch := omega) only [y1, n_cl, if_true, bnd_some, x3, if_neg z2, if_neg z21]
    · simp (disch := omega) only [n_l2, n_l9, n_mul, n_add, n_cl, n_inb]
      rw [if_pos (by simp; omega), if_pos (by simp; omega)]
      simp [m3]
theorem RR.pad {u v u2 v2 : Mem} {B P P2 I0 I1 : Nat → Nat → Nat} (h1 : OKB B) (h2 : BX B u 1) (h3 : BM B (v 1) 0) (h4 : PD P2 u2 v2) (h5 : IM (P 2 0) I0 u v 35 0) (h6 : IM (P 2 1) I1 u v 41 74) (hp2 : P2 2 = P 2) (hu : ∀ k, k ≠ 7 → k ≠ 8 → u2 k = u k) (hv : ∀ k, 1 ≤ k → k ≤ 3 → v2 k = v k) : RR u2 v2 :=
  ⟨B, P2, I0, I1, h1, h2.kp (fun k _ _ => hu k (by omega) (by omega)), by rw [hv 1 (by omega) (by omega)]; exact h3, h4, by rw [hp2]; exact h5.kp (fun k _ _ => hu k (by omega) (by omega)) (hv 2 (by omega) (by omega)), by rw [hp2]; exact h6.kp (fun k _ _ => hu k (by omega) (by omega)) (hv 2 (by omega) (by omega))⟩
theorem st_wipe : St0 RR e_X5_wipe e_X6_wipe := by
  intro u v hR
  obtain ⟨B, P, I0, I1, h1, h2, h3, h4, h5, h6⟩ := id hR
  unfold e_X5_wipe e_X6_wipe
  refine ⟨nI (P 0 0), _, _, by rw [h4.2.2.1], by rw [h4.2.2.2.1], ?_⟩
  refine RR.pad (P := P) (P2 := pb P 0 0 0) h1 h2 h3 ?_ h5 h6 ?_ ?_ ?_
  · refine ⟨by rw [pb_same]; omega, fun j hj => ?_, by rw [put_same, pb_same]; rfl, by rw [put_same, pb_same]; rfl, by simp only [pb]; simp; exact h4.2.2.2.2.1, ?_, ?_, ?_⟩
    · rw [pb_same] at hj; omega
    · rw [put_cell _ _ _ (by omega)]; simp [pb]; exact h4.2.2.2.2.2.1
    · rw [put_cell _ _ _ (by omega)]; simp [pb]; exact h4.2.2.2.2.2.2.1
    · rw [put_cell _ _ _ (by omega)]; simp [pb]; exact h4.2.2.2.2.2.2.2
  · funext j; simp [pb]
  · intro k a b; rw [put_cell _ _ _ (by omega)]
  · intro k a b; rw [put_cell _ _ _ (by omega)]
theorem st_say : St1 RR e_X5_say e_X6_say := by
  intro u v hR a
  obtain ⟨B, P, I0, I1, h1, h2, h3, h4, h5, h6⟩ := id hR
  obtain ⟨g1, g2, g3, g4, g5, g6, g7, g8⟩ := id h4
  unfold e_X5_say e_X6_say
  by_cases hq : 33 ≤ a.toInt ∧ a.toInt ≤ 126
  case neg =>
    refine ⟨-2, u, v, ?_, ?_, hR⟩
    · split
      · rfl
      · rename_i q
        rw [if_neg]
        rw [i_lt] at q
        rw [i_le]
        change ¬ a.toInt < 33 at q
        change ¬ a.toInt ≤ 126
        omega
    · rw [in_no (by rw [i_lt, i_lt]; change a.toInt < 33 ∨ 126 < a.toInt; omega), bnd_some, if_pos rfl]
  obtain ⟨n, hn, rfl⟩ : ∃ n : Nat, (33 ≤ n ∧ n ≤ 126) ∧ a = nI n := ⟨a.toInt.toNat, by omega, i_of (by omega)⟩
  rw [in_yes (by rw [n_l33, n_lt (by omega) (by omega)]; omega) (by rw [n_l126, n_lt (by omega) (by omega)]; omega), bnd_some, if_neg z1, g3, g4]
  unfold e_X2_add
  rw [g3]
  simp (disch := omega) only [n_l1, n_l33, n_l126, n_l9, n_lt, n_le, n_eq, n_add, n_inb, n_cl, decide_eq_true_eq]
  rw [if_neg (by omega), if_pos (by omega)]
  by_cases hf : P 0 0 = 9
  · rw [if_neg (by omega), if_pos hf]
    exact ⟨-4, u, v, rfl, rfl, hR⟩
  rw [if_pos (by omega), if_neg (by omega), if_pos (by omega), if_neg hf, if_pos (by omega), bnv_some, put_same]
  refine ⟨_, _, _, rfl, rfl, ?_⟩
  refine RR.pad (P := P) (P2 := pb (pb P 1 (P 0 0) n) 0 0 (P 0 0 + 1)) h1 h2 h3 ?_ h5 h6 ?_ ?_ ?_
  · refine ⟨by rw [pb_same]; omega, fun j hj => ?_, by rw [put_same, pb_same], by rw [put_same, pb_same], by simp only [pb]; simp; exact g5, ?_, ?_, ?_⟩
    · rw [pb_same] at hj
      by_cases hjn : j = P 0 0
      · subst hjn
        simp [pb, put_get]
        exact hn
      · simp [pb, put_get, hjn]
        exact g2 j (by omega)
    · rw [put_cell _ _ _ (by omega), put_cell _ _ _ (by omega)]; simp [pb]; exact g6
    · rw [put_cell _ _ _ (by omega), put_cell _ _ _ (by omega)]; simp [pb]; exact g7
    · rw [put_cell _ _ _ (by omega), put_cell _ _ _ (by omega)]; simp [pb]; exact g8
  · funext j; simp [pb]
  · intro k a b; rw [put_cell _ _ _ (by omega), put_cell _ _ _ (by omega)]
  · intro k a b; rw [put_cell _ _ _ (by omega), put_cell _ _ _ (by omega)]
