theorem x_layS {u : Mem} {n : Nat} {A : GS} (hu : u 1 0 = nI n) (hn : n ≤ 9) (sl : SL u 0 A) (hc : A.2.2.2.2 < 262144) : ∀ (m i g : Nat) (w : Mem), i + m = n → m < g → (∀ k, k ≠ 7 → k ≠ 8 → w k = u k) → w 7 0 = nI i → (∀ j, j < i → w 8 j = nI (48 + A.2.2.2.2 / 4 ^ (n - 1 - j) % 4)) → ∃ u2, e_X5_lay_L34 g w (nI i) = some (nI n, u2) ∧ (∀ k, k ≠ 7 → k ≠ 8 → u2 k = u k) ∧ u2 7 0 = nI n ∧ ∀ j, j < n → u2 8 j = nI (48 + A.2.2.2.2 / 4 ^ (n - 1 - j) % 4) := by
  intro m
  induction m with
  | zero =>
    intro i g w hi hg kw w7 w8
    obtain ⟨g, rfl⟩ : ∃ z, g = z + 1 := ⟨g - 1, by omega⟩
    have e : i = n := by omega
    subst e
    refine ⟨w, ?_, kw, w7, w8⟩
    show e_X5_lay_L34_b _ _ _ = _
    unfold e_X5_lay_L34_b
    rw [kw 1 (by omega) (by omega), hu, if_pos (by rw [n_le (by omega) (by omega)]; omega), w7]
  | succ m ih =>
    intro i g w hi hg kw w7 w8
    obtain ⟨g, rfl⟩ : ∃ z, g = z + 1 := ⟨g - 1, by omega⟩
    have hfw := x_fig (u := w) (i := i) (by rw [kw 1 (by omega) (by omega)]; exact hu) hn (by omega) (sl.kp (fun k h1 h2 => by rw [kw k (by omega) (by omega)])) hc
    have yi : inb (nI i) 9 = true := by rw [n_inb (by omega)]; simp; omega
    obtain ⟨u2, r1, r2⟩ := ih (i + 1) g (put (put w 8 i (nI (48 + A.2.2.2.2 / 4 ^ (n - 1 - i) % 4))) 7 0 (nI (i + 1))) (by omega) (by omega) (fun k h1 h2 => by rw [put_cell _ _ _ (by omega), put_cell _ _ _ (by omega)]; exact kw k h1 h2) (by rw [put_same]) (fun j hj => by
      rw [put_cell _ _ _ (by omega)]
      by_cases e : j = i
      · subst e; rw [put_same]
      · rw [put_slot _ _ (by omega)]; exact w8 j (by omega))
    refine ⟨u2, ?_, r2⟩
    show e_X5_lay_L34_b _ _ _ = _
    unfold e_X5_lay_L34_b e_X2_add
    rw [show w 1 0 = nI n by rw [kw 1 (by omega) (by omega)]; exact hu, if_neg (by rw [n_le (by omega) (by omega)]; omega), hfw, bnd_some, w7, if_neg (by rw [n_l9, n_le (by omega) (by omega)]; omega), if_pos yi, n_cl (by omega), bnv_some, nI_1, n_l48, n_add]
    exact r1
theorem m_layPad {v : Mem} {n : Nat} {f : Nat → Nat} (hn : n ≤ 9) (h7 : ∀ j, j < n → v 7 j = nI (f j)) (h4 : v 0 4 = nI n) : ∀ (m i g : Nat) (w : Mem), i + m = n → m < g → (∀ k, k ≠ 4 → w k = v k) → (∀ j, j < i → w 4 j = nI (48 + f j)) → ∃ v2, e_X6_lay_L32 g w (nI i) = some (nI n, v2) ∧ (∀ k, k ≠ 4 → v2 k = v k) ∧ ∀ j, j < n → v2 4 j = nI (48 + f j) := by
  intro m
  induction m with
  | zero =>
    intro i g w hi hg kw w4
    obtain ⟨g, rfl⟩ : ∃ z, g = z + 1 := ⟨g - 1, by omega⟩
    have e : i = n := by omega
    subst e
    refine ⟨w, ?_, kw, w4⟩
    show e_X6_lay_L32_b _ _ _ = _
    unfold e_X6_lay_L32_b
    rw [kw 0 (by omega), h4, if_pos (by rw [n_le (by omega) (by omega)]; omega)]
  | succ m ih =>
    intro i g w hi hg kw w4
    obtain ⟨g, rfl⟩ : ∃ z, g = z + 1 := ⟨g - 1, by omega⟩
    have yi : inb (nI i) 9 = true := by rw [n_inb (by omega)]; simp; omega
    obtain ⟨v2, r1, r2⟩ := ih (i + 1) g (put w 4 i (nI (48 + f i))) (by omega) (by omega) (fun k h1 => by rw [put_cell _ _ _ (by omega)]; exact kw k h1) (fun j hj => by
      by_cases e : j = i
      · subst e; rw [put_same]
      · rw [put_slot _ _ (by omega)]; exact w4 j (by omega))
    refine ⟨v2, ?_, r2⟩
    show e_X6_lay_L32_b _ _ _ = _
    unfold e_X6_lay_L32_b
    rw [show w 0 4 = nI n by rw [kw 0 (by omega)]; exact h4, if_neg (by rw [n_le (by omega) (by omega)]; omega), if_pos yi, if_pos yi, n_cl (by omega), show w 7 i = nI (f i) by rw [kw 7 (by omega)]; exact h7 i (by omega), n_l48, n_add, nI_1]
    exact r1
theorem st_lay : St0 RR e_X5_lay e_X6_lay := by
  intro u v hR
  obtain ⟨B, P, I0, I1, h1, h2, h3, h4, h5, h6⟩ := id hR
  have h9 := h1.1
  have hb := BK.of h1 h2
  have hbm := BKM.of h1 h3
  have ht6 : ∀ j, j < B 0 0 → B 2 j ≤ 6 := fun j hj => (hb.2.2.2.2 j hj).2.2.1.2
  obtain ⟨u2, f1, f2, f3⟩ := x_run hb
  obtain ⟨v2, t1, t2, t3⟩ := m_all hbm
  obtain ⟨cA, wA⟩ := DD_c (kd := B 3) hb.2.1.2 h9 ht6
  generalize DD (B 0 1) (B 2) (B 3) (B 0 0) 0 0 = A at f3 t3 cA wA
  have hR2 : RR u2 v2 := hR.kp f2 t2
  have u10 : u2 1 0 = nI (B 0 0) := by rw [f2 1 (by omega)]; exact h2.1
  obtain ⟨q18, qw, q0, q1⟩ := t3
  have z0 : (0 : Int32).toNatClampNeg = 0 := rfl
  have y0 : inb (0 : Int32) 20 = true := by decide
  have goes : e_X3_goes u2 = some (nI A.1, u2) := by unfold e_X3_goes; rw [if_pos y0, z0, f3.1]
  unfold e_X5_lay e_X6_lay
  rw [f1, t1, bnv_some, bnv_some, goes, bnd_some]
  by_cases w0 : A.1 = 0
  · obtain ⟨-, c1, c2, c3, c4⟩ := q0 w0
    exact ⟨-5, u2, v2, by rw [if_pos (by rw [w0]; rfl)], by rw [c4, if_neg (by decide)], hR2⟩
  · obtain ⟨bn, o1, o2, o3, o4, o5, o6, o7, o8⟩ := q1 w0
    have hp3 := p3_le h9
    obtain ⟨v3, r1, r2, r3⟩ := m_layN (v := v2) (num := bn) (hbm.kp (t2.1 1 (by omega) (by omega))) (by omega)
    obtain ⟨u4, a1, a2, a3, a4⟩ := x_layS (u := u2) (A := A) u10 h9 f3 cA (B 0 0) 0 FU (put u2 7 0 (0 : Int32)) (by omega) (by unfold FU; omega) (fun k h1 h2 => by rw [put_cell _ _ _ (by omega)]) (by rw [put_same]; rfl) (fun j hj => by omega)
    have v172 : v3 1 72 = nI (B 0 0) := by rw [r2 1 (by omega), t2.1 1 (by omega) (by omega)]; exact h3.1
    obtain ⟨v4, b1, b2, b3⟩ := m_layPad (v := put v3 0 4 (nI (B 0 0))) (f := dgs 3 (B 0 0) bn) h9 (fun j hj => by rw [put_cell _ _ _ (by omega)]; exact r3 j hj) (by rw [put_same]) (B 0 0) 0 FU (put v3 0 4 (nI (B 0 0))) (by omega) (by unfold FU; omega) (fun _ _ => rfl) (fun j hj => by omega)
    refine ⟨nI (B 0 0), u4, v4, ?_, ?_, ?_⟩
    · rw [if_neg (by rw [n_l0, n_eq (by omega) (by omega)]; exact w0)]
      exact a1
    · rw [o6, if_pos (by rw [n_l0, n_le (by omega) (by omega)]; omega), r1, bnv_some, many_m, bnd_some, v172]
      exact b1
    · have h2' : BX B u2 1 := h2.kp (fun k a b => f2 k (by omega))
      have h3' : BM B (v2 1) 0 := by rw [t2.1 1 (by omega) (by omega)]; exact h3
      have h5' : IM (P 2 0) I0 u2 v2 35 0 := h5.kp (fun k a b => f2 k (by omega)) (t2.1 2 (by omega) (by omega))
      have h6' : IM (P 2 1) I1 u2 v2 41 74 := h6.kp (fun k a b => f2 k (by omega)) (t2.1 2 (by omega) (by omega))
      have kv : ∀ k, 1 ≤ k → k ≤ 3 → v4 k = v2 k := fun k a b => by rw [b2 k (by omega), put_cell _ _ _ (by omega), r2 k (by omega)]
      obtain ⟨g1, g2, g3, g4, g5, g6, g7, g8⟩ := h4
      refine RR.pad (P := P) (P2 := fun a b => if a = 0 then B 0 0 else if a = 1 then 48 + dgs 3 (B 0 0) bn b else P a b) h1 h2' h3' ?_ h5' h6' (by funext j; simp) a2 kv
      refine ⟨by simp; exact h9, fun j hj => ?_, by simp; exact a3, ?_, by simp; exact g5, ?_, ?_, ?_⟩
      · simp at hj ⊢
        have hd : dgs 3 (B 0 0) bn j < 3 := Nat.mod_lt _ (by omega)
        refine ⟨by omega, ?_, b3 j hj⟩
        rw [a4 j hj, o2, c4_dgs _ _ _ hj]
      · simp
        rw [b2 0 (by omega), put_same]
      · simp
        rw [a2 0 (by omega) (by omega), f2 0 (by omega)]; exact g6
      · simp
        rw [kv 3 (by omega) (by omega), t2.1 3 (by omega) (by omega)]; exact g7
      · simp
        rw [kv 3 (by omega) (by omega), t2.1 3 (by omega) (by omega)]; exact g8
