def AX (c : Nat) (u : Mem) (t f : Nat → Nat) (i : Nat) : Prop := u (c + 3) i = nI (tp f i) ∧ u (c + 4) i = nI (pl f i) ∧ u (c + 5) i = nI (ha t f i) ∧ u (c + 6) i = nI (hg t f i) ∧ u (c + 7) i = nI (gp t f i)
/-- only the row i of the layout's arrays has changed -/
def PT (c i : Nat) (u u2 : Mem) : Prop := (∀ k j, j ≠ i → u2 k j = u k j) ∧ ∀ k, k < c + 1 ∨ c + 7 < k → u2 k = u k
def pe (H : Nat) (t kd f : Nat → Nat) (i : Nat) : Nat := if kd i = 2 then 0 else (H - (ha t f i + hg t f i)) * (H - (ha t f i + hg t f i)) + gp t f i
theorem xl_phw {u : Mem} {n H i : Nat} {t kd f : Nat → Nat} (hb : BK u n H t kd) (hi : i < n) (hf : f i ≤ 2) (ax : 1 ≤ i → AX 9 u t f (i - 1)) (h0 : f i ≠ 2 → 1 ≤ i) : e_X1_pageHeightWith u (nI i) (nI (f i)) = some (nI (ph t f i), u) := by
  have h9 := hb.1
  obtain ⟨b3, b4, bt, bk⟩ := hb.2.2.2.2 i hi
  unfold e_X1_pageHeightWith ph
  have y1 : inb (nI i) 9 = true := by rw [n_inb (by omega)]; simp; omega
  by_cases q2 : f i = 2
  · simp (disch := omega) only [y1, q2, n_l2, if_true, n_cl, b3]
  · have hi1 := h0 q2
    obtain ⟨a1, a2, a3, a4, a5⟩ := ax hi1
    have t6 : ∀ j, j ≤ i - 1 → t j ≤ 6 := fun j hj => (hb.2.2.2.2 j (by omega)).2.2.1.2
    have b1 := hg_le (f := f) t6
    have b2 := ha_le (f := f) t6
    have a3 : u 14 (i - 1) = nI (ha t f (i - 1)) := a3
    have a4 : u 15 (i - 1) = nI (hg t f (i - 1)) := a4
    have y2 : inb (nI i - (1 : Int32)) 9 = true := by rw [n_l1, n_sub hi1, n_inb (by omega)]; simp; omega
    have e2 : (nI i - (1 : Int32)).toNatClampNeg = i - 1 := by rw [n_l1, n_sub hi1, n_cl (by omega)]
    have q2' : ¬ nI (f i) = (2 : Int32) := by rw [n_l2, n_eq (by omega) (by omega)]; exact q2
    have hi1' : (1 : Int32) ≤ nI i := by rw [n_l1, n_le (by omega) (by omega)]; exact hi1
    simp only [y1, y2, e2, if_true, if_neg q2, if_neg q2', if_pos hi1', n_cl (show i < 2147483648 by omega), b3, a3, a4]
    by_cases q1 : f i = 1
    · rw [if_pos (by rw [q1]; rfl), if_pos q1, n_add, n_add]
    · rw [if_neg (by rw [n_l1, n_eq (by omega) (by omega)]; exact q1), if_neg q1]
      simp (disch := omega) only [n_lt, n_ite, n_add]
theorem xl_why {u : Mem} {n H i : Nat} {t kd f : Nat → Nat} (hb : BK u n H t kd) (hi : i < n) (hf : f i ≤ 2) (ax : 1 ≤ i → AX 9 u t f (i - 1)) : e_X1_whyNot u (nI i) (nI (f i)) = some (nI (wy H t kd f i), u) := by
  have h9 := hb.1
  have hH := hb.2.1
  have b11 := hb.2.2.2.1
  unfold e_X1_whyNot e_X1_whyNot_J12 e_X1_whyNot_J32 e_X1_whyNot_J56 e_X1_whyNot_J81
  by_cases h1 : f i ≠ 2 ∧ i = 0
  · rw [show wy H t kd f i = 1 by unfold wy; rw [if_pos h1], if_neg (by rw [n_l2, n_eq (by omega) (by omega)]; exact h1.1), if_neg (by rw [n_l1, n_le (by omega) (by omega)]; omega)]
    rfl
  have h0 : f i ≠ 2 → 1 ≤ i := fun q => by
    rcases Nat.eq_zero_or_pos i with h | h
    · exact absurd ⟨q, h⟩ h1
    · exact h
  have hph := xl_phw hb hi hf ax h0
  have t6 : ∀ j, j ≤ i - 1 → t j ≤ 6 := fun j hj => (hb.2.2.2.2 j (by omega)).2.2.1.2
  have phb : ph t f i ≤ 100 := by
    have b1 := hg_le (f := f) t6
    have b2 := ha_le (f := f) t6
    have b3 := (hb.2.2.2.2 i hi).2.2.1.2
    unfold ph
    split
    · omega
    · split
      · omega
      · split <;> omega
  have fin : (bnd (some ((if kd i = 2 then (1 : Int32) else 0), u)) fun r5 u5 => if r5 = 0 then bnd (e_X1_pageHeightWith u5 (nI i) (nI (f i))) fun r6 u6 => if r6 ≤ u6 1 1 then some ((0 : Int32), u6) else some (5, u6) else some (0, u5)) = some (nI (if kd i ≠ 2 ∧ H < ph t f i then 5 else 0), u) := by
    rw [bnd_some]
    by_cases k2 : kd i = 2
    · rw [if_pos k2, if_neg z1, if_neg (by omega)]; rfl
    · rw [if_neg k2, if_pos rfl, hph, bnd_some, b11]
      by_cases q : ph t f i ≤ H
      · rw [if_pos (by rw [n_le (by omega) (by omega)]; exact q), if_neg (by omega)]; rfl
      · rw [if_neg (by rw [n_le (by omega) (by omega)]; exact q), if_pos (by omega)]; rfl
  have e_0 : (nI (f i) = (0 : Int32)) = (f i = 0) := by rw [n_l0, n_eq (by omega) (by omega)]
  have e_2 : (nI (f i) = (2 : Int32)) = (f i = 2) := by rw [n_l2, n_eq (by omega) (by omega)]
  simp only [e_0, e_2]
  by_cases q2 : f i = 2
  · rw [show wy H t kd f i = if kd i ≠ 2 ∧ H < ph t f i then 5 else 0 by unfold wy; rw [if_neg h1, if_neg (by omega), if_neg (by omega), if_neg (by omega)], if_pos q2, if_neg (by omega), if_neg (by omega), if_pos q2, x_spr hb hi]
    exact fin
  have hi1 := h0 q2
  obtain ⟨a1, a2, a3, a4, a5⟩ := ax hi1
  have a2 : u 13 (i - 1) = nI (pl f (i - 1)) := a2
  have y2 : inb (nI i - (1 : Int32)) 9 = true := by rw [n_l1, n_sub hi1, n_inb (by omega)]; simp; omega
  have e2 : (nI i - (1 : Int32)).toNatClampNeg = i - 1 := by rw [n_l1, n_sub hi1, n_cl (by omega)]
  have e3 : nI i - (1 : Int32) = nI (i - 1) := by rw [n_l1, n_sub hi1]
  have hi1' : (1 : Int32) ≤ nI i := by rw [n_l1, n_le (by omega) (by omega)]; exact hi1
  have hpl : pl f (i - 1) ≤ i := by unfold pl; omega
  have tail : (bnd (e_X0_wantsLeftPage u (nI i)) fun r3 u3 => if r3 = 0 then bnd (e_X0_isSpread u3 (nI i - 1)) fun r4 u4 => if r4 = 0 then bnd (e_X0_isSpread u4 (nI i)) fun r5 u5 => if r5 = 0 then bnd (e_X1_pageHeightWith u5 (nI i) (nI (f i))) fun r6 u6 => if r6 ≤ u6 1 1 then some ((0 : Int32), u6) else some (5, u6) else some (0, u5) else some (4, u4) else some (4, u3)) = some (nI (if f i ≠ 2 ∧ ((kd i = 2 ∨ kd i = 3) ∨ kd (i - 1) = 2) then 4 else if kd i ≠ 2 ∧ H < ph t f i then 5 else 0), u) := by
    rw [x_lft hb hi, bnd_some, e3]
    by_cases k1 : kd i = 2 ∨ kd i = 3
    · rw [if_pos k1, if_neg z1, if_pos ⟨q2, Or.inl k1⟩]; rfl
    · rw [if_neg k1, if_pos rfl, x_spr hb (show i - 1 < n by omega), bnd_some]
      by_cases k2 : kd (i - 1) = 2
      · rw [if_pos k2, if_neg z1, if_pos ⟨q2, Or.inr k2⟩]; rfl
      · rw [show (if f i ≠ 2 ∧ ((kd i = 2 ∨ kd i = 3) ∨ kd (i - 1) = 2) then 4 else if kd i ≠ 2 ∧ H < ph t f i then 5 else 0) = if kd i ≠ 2 ∧ H < ph t f i then 5 else 0 from if_neg (fun q => q.2.elim k1 k2), if_neg k2, if_pos rfl, x_spr hb hi]
        exact fin
  rw [if_neg q2, if_pos hi1']
  by_cases q0 : f i = 0
  · rw [if_pos q0, if_pos y2, e2, a2, n_l1, n_add]
    by_cases k4 : 4 ≤ pl f (i - 1) + 1
    · rw [show wy H t kd f i = 2 by unfold wy; rw [if_neg h1, if_pos ⟨q0, k4⟩], if_neg (by rw [n_l4, n_lt (by omega) (by omega)]; omega)]; rfl
    · rw [if_pos (by rw [n_l4, n_lt (by omega) (by omega)]; omega), if_pos q0, x_own hb hi, bnd_some]
      by_cases k1 : kd i = 1 ∨ kd i = 2
      · rw [show wy H t kd f i = 3 by unfold wy; rw [if_neg h1, if_neg (fun q => k4 q.2), if_pos ⟨q0, Or.inl k1⟩], if_pos k1, if_neg (by decide)]; rfl
      · rw [if_neg k1, if_pos (by decide), n_sub hi1, x_own hb (show i - 1 < n by omega), bnd_some]
        by_cases k2 : kd (i - 1) = 1 ∨ kd (i - 1) = 2
        · rw [show wy H t kd f i = 3 by unfold wy; rw [if_neg h1, if_neg (fun q => k4 q.2), if_pos ⟨q0, Or.inr k2⟩], if_pos k2, if_neg (by decide)]; rfl
        · rw [show wy H t kd f i = if f i ≠ 2 ∧ ((kd i = 2 ∨ kd i = 3) ∨ kd (i - 1) = 2) then 4 else if kd i ≠ 2 ∧ H < ph t f i then 5 else 0 by unfold wy; rw [if_neg h1, if_neg (fun q => k4 q.2), if_neg (fun q => q.2.elim k1 k2)], if_neg k2, if_pos (by decide), if_neg q2]
          rw [e3] at tail
          exact tail
  · rw [show wy H t kd f i = if f i ≠ 2 ∧ ((kd i = 2 ∨ kd i = 3) ∨ kd (i - 1) = 2) then 4 else if kd i ≠ 2 ∧ H < ph t f i then 5 else 0 by unfold wy; rw [if_neg h1, if_neg (fun q => q0 q.1), if_neg (fun q => q0 q.1)], if_neg q0, if_neg q0, if_neg q2]
    exact tail
theorem xl_put {u : Mem} {n H i : Nat} {t kd f : Nat → Nat} (hb : BK u n H t kd) (hi : i < n) (hf : f i ≤ 2) (ax : 1 ≤ i → AX 9 u t f (i - 1)) (h0 : f i ≠ 2 → 1 ≤ i) : ∃ u2, e_X1_put u (nI i) (nI (f i)) = some u2 ∧ u2 10 i = nI (f i) ∧ AX 9 u2 t f i ∧ PT 9 i u u2 := by
  have h9 := hb.1
  obtain ⟨b3, b4, bt, bk⟩ := hb.2.2.2.2 i hi
  have y1 : inb (nI i) 9 = true := by rw [n_inb (by omega)]; simp; omega
  have ec : (nI i).toNatClampNeg = i := n_cl (by omega)
  have e_2 : (nI (f i) = (2 : Int32)) = (f i = 2) := by rw [n_l2, n_eq (by omega) (by omega)]
  have e_1 : (nI (f i) = (1 : Int32)) = (f i = 1) := by rw [n_l1, n_eq (by omega) (by omega)]
  unfold e_X1_put e_X1_put_J17
  simp only [y1, if_true, ec, e_2, e_1]
  by_cases q2 : f i = 2
  · rw [if_pos q2]
    unfold e_X1_beginPage
    simp only [y1, if_true, ec, bnv_some, put_cell _ _ _ (show (3 : Nat) ≠ 10 by decide), b3]
    refine ⟨_, rfl, ?_, ?_, ?_⟩
    · rw [put_cell _ _ _ (by decide), put_cell _ _ _ (by decide), put_cell _ _ _ (by decide), put_cell _ _ _ (by decide), put_cell _ _ _ (by decide), put_same]
    · have hz : tp f i = 0 ∧ pl f i = 0 ∧ ha t f i = 0 ∧ hg t f i = t i ∧ gp t f i = 0 := by
        unfold pl
        match i, q2 with
        | 0, _ => exact ⟨rfl, rfl, rfl, hg_z, gp_z⟩
        | j + 1, q2 => exact ⟨by rw [tp, if_pos q2], by rw [bg_n (by omega)]; omega, by rw [ha, if_pos q2], hg_n (by omega), gp_2 q2⟩
      obtain ⟨z1', z2', z3', z4', z5'⟩ := hz
      unfold AX
      rw [z1', z2', z3', z4', z5']
      simp [put_get]
      rfl
    · refine ⟨fun k j hj => ?_, fun k hk => ?_⟩
      · simp [put_get, hj]
      · rw [put_cell _ _ _ (by omega), put_cell _ _ _ (by omega), put_cell _ _ _ (by omega), put_cell _ _ _ (by omega), put_cell _ _ _ (by omega), put_cell _ _ _ (by omega)]
  have hi1 := h0 q2
  obtain ⟨a1, a2, a3, a4, a5⟩ := ax hi1
  have a1 : u 12 (i - 1) = nI (tp f (i - 1)) := a1
  have a2 : u 13 (i - 1) = nI (pl f (i - 1)) := a2
  have a3 : u 14 (i - 1) = nI (ha t f (i - 1)) := a3
  have a4 : u 15 (i - 1) = nI (hg t f (i - 1)) := a4
  have a5 : u 16 (i - 1) = nI (gp t f (i - 1)) := a5
  have y2 : inb (nI i - (1 : Int32)) 9 = true := by rw [n_l1, n_sub hi1, n_inb (by omega)]; simp; omega
  have e2 : (nI i - (1 : Int32)).toNatClampNeg = i - 1 := by rw [n_l1, n_sub hi1, n_cl (by omega)]
  have hi1' : (1 : Int32) ≤ nI i := by rw [n_l1, n_le (by omega) (by omega)]; exact hi1
  obtain ⟨j, rfl⟩ : ∃ j, i = j + 1 := ⟨i - 1, by omega⟩
  rw [Nat.add_sub_cancel] at a1 a2 a3 a4 a5 e2
  have nj : j ≠ j + 1 := by omega
  have t6 : ∀ k, k ≤ j → t k ≤ 6 := fun k hk => (hb.2.2.2.2 k (by omega)).2.2.1.2
  have hb1 := hg_le (f := f) t6
  have hb2 := ha_le (f := f) t6
  have hb3 := bg_le f j
  rw [if_neg q2, if_pos hi1']
  by_cases q1 : f (j + 1) = 1
  · rw [if_pos q1]
    unfold e_X1_beginTier
    simp only [y1, y2, if_true, ec, e2, bnv_some, put_get, a1, a3, a4, a5, b3]
    refine ⟨_, rfl, ?_, ?_, ?_⟩
    · simp [put_get]
    · have hz : tp f (j + 1) = tp f j + 1 ∧ pl f (j + 1) = 0 ∧ ha t f (j + 1) = ha t f j + hg t f j ∧ hg t f (j + 1) = t (j + 1) ∧ gp t f (j + 1) = gp t f j := by
        refine ⟨by rw [tp, if_neg q2, q1], ?_, by rw [ha, if_neg q2, if_pos q1], hg_n (by omega), gp_1 q1⟩
        unfold pl
        rw [bg_n (by omega)]; omega
      obtain ⟨z1', z2', z3', z4', z5'⟩ := hz
      unfold AX
      rw [z1', z2', z3', z4', z5']
      simp [put_get, n_l1, n_add]
      rfl
    · refine ⟨fun k k2 hk => ?_, fun k hk => ?_⟩
      · simp [put_get, hk]
      · rw [put_cell _ _ _ (by omega), put_cell _ _ _ (by omega), put_cell _ _ _ (by omega), put_cell _ _ _ (by omega), put_cell _ _ _ (by omega), put_cell _ _ _ (by omega)]
  · rw [if_neg q1]
    have q0 : f (j + 1) = 0 := by omega
    unfold e_X1_goOn
    simp only [y1, y2, if_true, ec, e2, bnv_some, put_get, a1, a2, a3, a4, a5, b3]
    refine ⟨_, rfl, ?_, ?_, ?_⟩
    · simp [put_get]
    · have g0 := gp_0 (t := t) q0
      have h00 := hg_0 (t := t) q0
      have hpl : pl f (j + 1) = j + 1 - bg f j := by unfold pl; rw [bg_0 q0]
      have hpl2 : pl f j + 1 = j + 1 - bg f j := by unfold pl; omega
      have hge : t (j + 1) ≤ hg t f (j + 1) ∧ hg t f j ≤ hg t f (j + 1) := by rw [h00]; split <;> omega
      have hmx : (if nI (hg t f j) < nI (t (j + 1)) then nI (t (j + 1)) else nI (hg t f j)) = nI (hg t f (j + 1)) := by
        rw [h00]
        simp (disch := omega) only [n_lt, n_ite]
      have hz : tp f (j + 1) = tp f j ∧ ha t f (j + 1) = ha t f j := by
        refine ⟨by rw [tp, if_neg q2, q0, Nat.add_zero], by rw [ha, if_neg q2, if_neg q1]⟩
      unfold AX
      rw [hz.1, hz.2, hpl, g0]
      simp [put_get, hmx, n_l1, n_add, hpl2]
      rw [n_sub hge.2, n_mul, n_add, n_add, n_sub (by generalize (hg t f (j + 1) - hg t f j) * (j + 1 - bg f j) = pr; omega)]
      congr 1
      generalize (hg t f (j + 1) - hg t f j) * (j + 1 - bg f j) = pr
      omega
    · refine ⟨fun k k2 hk => ?_, fun k hk => ?_⟩
      · simp [put_get, hk]
      · rw [put_cell _ _ _ (by omega), put_cell _ _ _ (by omega), put_cell _ _ _ (by omega), put_cell _ _ _ (by omega), put_cell _ _ _ (by omega), put_cell _ _ _ (by omega)]
/-- RAGGED of the page whose last panel is i -/
theorem xl_rag {u : Mem} {n H i : Nat} {t kd f : Nat → Nat} (hb : BK u n H t kd) (hi : i < n) (ax : AX 9 u t f i) (hh : kd i ≠ 2 → ha t f i + hg t f i ≤ H) : e_X1_raggedOfPage u (nI i) = some (nI (pe H t kd f i), u) := by
  have h9 := hb.1
  have b11 := hb.2.2.2.1
  obtain ⟨a1, a2, a3, a4, a5⟩ := ax
  have a3 : u 14 i = nI (ha t f i) := a3
  have a4 : u 15 i = nI (hg t f i) := a4
  have a5 : u 16 i = nI (gp t f i) := a5
  have y1 : inb (nI i) 9 = true := by rw [n_inb (by omega)]; simp; omega
  have ec : (nI i).toNatClampNeg = i := n_cl (by omega)
  unfold e_X1_raggedOfPage pe
  rw [x_spr hb hi, bnd_some]
  by_cases k2 : kd i = 2
  · rw [if_pos k2, if_neg z1, if_pos k2]; rfl
  · have h1 := hh k2
    rw [if_neg k2, if_pos rfl, if_neg k2]
    simp only [y1, if_true, ec, b11, a3, a4, a5]
    rw [n_sub (by omega), n_sub (by omega), n_mul, n_add, show H - ha t f i - hg t f i = H - (ha t f i + hg t f i) by omega]
theorem xl_phw_P {u : Mem} {n H i : Nat} {t kd f : Nat → Nat} (hb : BK u n H t kd) (hi : i < n) (hf : f i ≤ 2) (ax : 1 ≤ i → AX 18 u t f (i - 1)) (h0 : f i ≠ 2 → 1 ≤ i) : e_X1_pageHeightWith_P u (nI i) (nI (f i)) = some (nI (ph t f i), u) := by
  have h9 := hb.1
  obtain ⟨b3, b4, bt, bk⟩ := hb.2.2.2.2 i hi
  unfold e_X1_pageHeightWith_P ph
  have y1 : inb (nI i) 9 = true := by rw [n_inb (by omega)]; simp; omega
  by_cases q2 : f i = 2
  · simp (disch := omega) only [y1, q2, n_l2, if_true, n_cl, b3]
  · have hi1 := h0 q2
    obtain ⟨a1, a2, a3, a4, a5⟩ := ax hi1
    have t6 : ∀ j, j ≤ i - 1 → t j ≤ 6 := fun j hj => (hb.2.2.2.2 j (by omega)).2.2.1.2
    have b1 := hg_le (f := f) t6
    have b2 := ha_le (f := f) t6
    have a3 : u 23 (i - 1) = nI (ha t f (i - 1)) := a3
    have a4 : u 24 (i - 1) = nI (hg t f (i - 1)) := a4
    have y2 : inb (nI i - (1 : Int32)) 9 = true := by rw [n_l1, n_sub hi1, n_inb (by omega)]; simp; omega
    have e2 : (nI i - (1 : Int32)).toNatClampNeg = i - 1 := by rw [n_l1, n_sub hi1, n_cl (by omega)]
    have q2' : ¬ nI (f i) = (2 : Int32) := by rw [n_l2, n_eq (by omega) (by omega)]; exact q2
    have hi1' : (1 : Int32) ≤ nI i := by rw [n_l1, n_le (by omega) (by omega)]; exact hi1
    simp only [y1, y2, e2, if_true, if_neg q2, if_neg q2', if_pos hi1', n_cl (show i < 2147483648 by omega), b3, a3, a4]
    by_cases q1 : f i = 1
    · rw [if_pos (by rw [q1]; rfl), if_pos q1, n_add, n_add]
    · rw [if_neg (by rw [n_l1, n_eq (by omega) (by omega)]; exact q1), if_neg q1]
      simp (disch := omega) only [n_lt, n_ite, n_add]
theorem xl_why_P {u : Mem} {n H i : Nat} {t kd f : Nat → Nat} (hb : BK u n H t kd) (hi : i < n) (hf : f i ≤ 2) (ax : 1 ≤ i → AX 18 u t f (i - 1)) : e_X1_whyNot_P u (nI i) (nI (f i)) = some (nI (wy H t kd f i), u) := by
  have h9 := hb.1
  have hH := hb.2.1
  have b11 := hb.2.2.2.1
  unfold e_X1_whyNot_P e_X1_whyNot_P_J12 e_X1_whyNot_P_J32 e_X1_whyNot_P_J56 e_X1_whyNot_P_J81
  by_cases h1 : f i ≠ 2 ∧ i = 0
  · rw [show wy H t kd f i = 1 by unfold wy; rw [if_pos h1], if_neg (by rw [n_l2, n_eq (by omega) (by omega)]; exact h1.1), if_neg (by rw [n_l1, n_le (by omega) (by omega)]; omega)]
    rfl
  have h0 : f i ≠ 2 → 1 ≤ i := fun q => by
    rcases Nat.eq_zero_or_pos i with h | h
    · exact absurd ⟨q, h⟩ h1
    · exact h
  have hph := xl_phw_P hb hi hf ax h0
  have t6 : ∀ j, j ≤ i - 1 → t j ≤ 6 := fun j hj => (hb.2.2.2.2 j (by omega)).2.2.1.2
  have phb : ph t f i ≤ 100 := by
    have b1 := hg_le (f := f) t6
    have b2 := ha_le (f := f) t6
    have b3 := (hb.2.2.2.2 i hi).2.2.1.2
    unfold ph
    split
    · omega
    · split
      · omega
      · split <;> omega
  have fin : (bnd (some ((if kd i = 2 then (1 : Int32) else 0), u)) fun r5 u5 => if r5 = 0 then bnd (e_X1_pageHeightWith_P u5 (nI i) (nI (f i))) fun r6 u6 => if r6 ≤ u6 1 1 then some ((0 : Int32), u6) else some (5, u6) else some (0, u5)) = some (nI (if kd i ≠ 2 ∧ H < ph t f i then 5 else 0), u) := by
    rw [bnd_some]
    by_cases k2 : kd i = 2
    · rw [if_pos k2, if_neg z1, if_neg (by omega)]; rfl
    · rw [if_neg k2, if_pos rfl, hph, bnd_some, b11]
      by_cases q : ph t f i ≤ H
      · rw [if_pos (by rw [n_le (by omega) (by omega)]; exact q), if_neg (by omega)]; rfl
      · rw [if_neg (by rw [n_le (by omega) (by omega)]; exact q), if_pos (by omega)]; rfl
  have e_0 : (nI (f i) = (0 : Int32)) = (f i = 0) := by rw [n_l0, n_eq (by omega) (by omega)]
  have e_2 : (nI (f i) = (2 : Int32)) = (f i = 2) := by rw [n_l2, n_eq (by omega) (by omega)]
  simp only [e_0, e_2]
  by_cases q2 : f i = 2
  · rw [show wy H t kd f i = if kd i ≠ 2 ∧ H < ph t f i then 5 else 0 by unfold wy; rw [if_neg h1, if_neg (by omega), if_neg (by omega), if_neg (by omega)], if_pos q2, if_neg (by omega), if_neg (by omega), if_pos q2, x_spr hb hi]
    exact fin
  have hi1 := h0 q2
  obtain ⟨a1, a2, a3, a4, a5⟩ := ax hi1
  have a2 : u 22 (i - 1) = nI (pl f (i - 1)) := a2
  have y2 : inb (nI i - (1 : Int32)) 9 = true := by rw [n_l1, n_sub hi1, n_inb (by omega)]; simp; omega
  have e2 : (nI i - (1 : Int32)).toNatClampNeg = i - 1 := by rw [n_l1, n_sub hi1, n_cl (by omega)]
  have e3 : nI i - (1 : Int32) = nI (i - 1) := by rw [n_l1, n_sub hi1]
  have hi1' : (1 : Int32) ≤ nI i := by rw [n_l1, n_le (by omega) (by omega)]; exact hi1
  have hpl : pl f (i - 1) ≤ i := by unfold pl; omega
  have tail : (bnd (e_X0_wantsLeftPage u (nI i)) fun r3 u3 => if r3 = 0 then bnd (e_X0_isSpread u3 (nI i - 1)) fun r4 u4 => if r4 = 0 then bnd (e_X0_isSpread u4 (nI i)) fun r5 u5 => if r5 = 0 then bnd (e_X1_pageHeightWith_P u5 (nI i) (nI (f i))) fun r6 u6 => if r6 ≤ u6 1 1 then some ((0 : Int32), u6) else some (5, u6) else some (0, u5) else some (4, u4) else some (4, u3)) = some (nI (if f i ≠ 2 ∧ ((kd i = 2 ∨ kd i = 3) ∨ kd (i - 1) = 2) then 4 else if kd i ≠ 2 ∧ H < ph t f i then 5 else 0), u) := by
    rw [x_lft hb hi, bnd_some, e3]
    by_cases k1 : kd i = 2 ∨ kd i = 3
    · rw [if_pos k1, if_neg z1, if_pos ⟨q2, Or.inl k1⟩]; rfl
    · rw [if_neg k1, if_pos rfl, x_spr hb (show i - 1 < n by omega), bnd_some]
      by_cases k2 : kd (i - 1) = 2
      · rw [if_pos k2, if_neg z1, if_pos ⟨q2, Or.inr k2⟩]; rfl
      · rw [show (if f i ≠ 2 ∧ ((kd i = 2 ∨ kd i = 3) ∨ kd (i - 1) = 2) then 4 else if kd i ≠ 2 ∧ H < ph t f i then 5 else 0) = if kd i ≠ 2 ∧ H < ph t f i then 5 else 0 from if_neg (fun q => q.2.elim k1 k2), if_neg k2, if_pos rfl, x_spr hb hi]
        exact fin
  rw [if_neg q2, if_pos hi1']
  by_cases q0 : f i = 0
  · rw [if_pos q0, if_pos y2, e2, a2, n_l1, n_add]
    by_cases k4 : 4 ≤ pl f (i - 1) + 1
    · rw [show wy H t kd f i = 2 by unfold wy; rw [if_neg h1, if_pos ⟨q0, k4⟩], if_neg (by rw [n_l4, n_lt (by omega) (by omega)]; omega)]; rfl
    · rw [if_pos (by rw [n_l4, n_lt (by omega) (by omega)]; omega), if_pos q0, x_own hb hi, bnd_some]
      by_cases k1 : kd i = 1 ∨ kd i = 2
      · rw [show wy H t kd f i = 3 by unfold wy; rw [if_neg h1, if_neg (fun q => k4 q.2), if_pos ⟨q0, Or.inl k1⟩], if_pos k1, if_neg (by decide)]; rfl
      · rw [if_neg k1, if_pos (by decide), n_sub hi1, x_own hb (show i - 1 < n by omega), bnd_some]
        by_cases k2 : kd (i - 1) = 1 ∨ kd (i - 1) = 2
        · rw [show wy H t kd f i = 3 by unfold wy; rw [if_neg h1, if_neg (fun q => k4 q.2), if_pos ⟨q0, Or.inr k2⟩], if_pos k2, if_neg (by decide)]; rfl
        · rw [show wy H t kd f i = if f i ≠ 2 ∧ ((kd i = 2 ∨ kd i = 3) ∨ kd (i - 1) = 2) then 4 else if kd i ≠ 2 ∧ H < ph t f i then 5 else 0 by unfold wy; rw [if_neg h1, if_neg (fun q => k4 q.2), if_neg (fun q => q.2.elim k1 k2)], if_neg k2, if_pos (by decide), if_neg q2]
          rw [e3] at tail
          exact tail
  · rw [show wy H t kd f i = if f i ≠ 2 ∧ ((kd i = 2 ∨ kd i = 3) ∨ kd (i - 1) = 2) then 4 else if kd i ≠ 2 ∧ H < ph t f i then 5 else 0 by unfold wy; rw [if_neg h1, if_neg (fun q => q0 q.1), if_neg (fun q => q0 q.1)], if_neg q0, if_neg q0, if_neg q2]
    exact tail
theorem xl_put_P {u : Mem} {n H i : Nat} {t kd f : Nat → Nat} (hb : BK u n H t kd) (hi : i < n) (hf : f i ≤ 2) (ax : 1 ≤ i → AX 18 u t f (i - 1)) (h0 : f i ≠ 2 → 1 ≤ i) : ∃ u2, e_X1_put_P u (nI i) (nI (f i)) = some u2 ∧ u2 19 i = nI (f i) ∧ AX 18 u2 t f i ∧ PT 18 i u u2 := by
  have h9 := hb.1
  obtain ⟨b3, b4, bt, bk⟩ := hb.2.2.2.2 i hi
  have y1 : inb (nI i) 9 = true := by rw [n_inb (by omega)]; simp; omega
  have ec : (nI i).toNatClampNeg = i := n_cl (by omega)
  have e_2 : (nI (f i) = (2 : Int32)) = (f i = 2) := by rw [n_l2, n_eq (by omega) (by omega)]
  have e_1 : (nI (f i) = (1 : Int32)) = (f i = 1) := by rw [n_l1, n_eq (by omega) (by omega)]
  unfold e_X1_put_P e_X1_put_P_J17
  simp only [y1, if_true, ec, e_2, e_1]
  by_cases q2 : f i = 2
  · rw [if_pos q2]
    unfold e_X1_beginPage_P
    simp only [y1, if_true, ec, bnv_some, put_cell _ _ _ (show (3 : Nat) ≠ 19 by decide), b3]
    refine ⟨_, rfl, ?_, ?_, ?_⟩
    · rw [put_cell _ _ _ (by decide), put_cell _ _ _ (by decide), put_cell _ _ _ (by decide), put_cell _ _ _ (by decide), put_cell _ _ _ (by decide), put_same]
    · have hz : tp f i = 0 ∧ pl f i = 0 ∧ ha t f i = 0 ∧ hg t f i = t i ∧ gp t f i = 0 := by
        unfold pl
        match i, q2 with
        | 0, _ => exact ⟨rfl, rfl, rfl, hg_z, gp_z⟩
        | j + 1, q2 => exact ⟨by rw [tp, if_pos q2], by rw [bg_n (by omega)]; omega, by rw [ha, if_pos q2], hg_n (by omega), gp_2 q2⟩
      obtain ⟨z1', z2', z3', z4', z5'⟩ := hz
      unfold AX
      rw [z1', z2', z3', z4', z5']
      simp [put_get]
      rfl
    · refine ⟨fun k j hj => ?_, fun k hk => ?_⟩
      · simp [put_get, hj]
      · rw [put_cell _ _ _ (by omega), put_cell _ _ _ (by omega), put_cell _ _ _ (by omega), put_cell _ _ _ (by omega), put_cell _ _ _ (by omega), put_cell _ _ _ (by omega)]
  have hi1 := h0 q2
  obtain ⟨a1, a2, a3, a4, a5⟩ := ax hi1
  have a1 : u 21 (i - 1) = nI (tp f (i - 1)) := a1
  have a2 : u 22 (i - 1) = nI (pl f (i - 1)) := a2
  have a3 : u 23 (i - 1) = nI (ha t f (i - 1)) := a3
  have a4 : u 24 (i - 1) = nI (hg t f (i - 1)) := a4
  have a5 : u 25 (i - 1) = nI (gp t f (i - 1)) := a5
  have y2 : inb (nI i - (1 : Int32)) 9 = true := by rw [n_l1, n_sub hi1, n_inb (by omega)]; simp; omega
  have e2 : (nI i - (1 : Int32)).toNatClampNeg = i - 1 := by rw [n_l1, n_sub hi1, n_cl (by omega)]
  have hi1' : (1 : Int32) ≤ nI i := by rw [n_l1, n_le (by omega) (by omega)]; exact hi1
  obtain ⟨j, rfl⟩ : ∃ j, i = j + 1 := ⟨i - 1, by omega⟩
  rw [Nat.add_sub_cancel] at a1 a2 a3 a4 a5 e2
  have nj : j ≠ j + 1 := by omega
  have t6 : ∀ k, k ≤ j → t k ≤ 6 := fun k hk => (hb.2.2.2.2 k (by omega)).2.2.1.2
  have hb1 := hg_le (f := f) t6
  have hb2 := ha_le (f := f) t6
  have hb3 := bg_le f j
  rw [if_neg q2, if_pos hi1']
  by_cases q1 : f (j + 1) = 1
  · rw [if_pos q1]
    unfold e_X1_beginTier_P
    simp only [y1, y2, if_true, ec, e2, bnv_some, put_get, a1, a3, a4, a5, b3]
    refine ⟨_, rfl, ?_, ?_, ?_⟩
    · simp [put_get]
    · have hz : tp f (j + 1) = tp f j + 1 ∧ pl f (j + 1) = 0 ∧ ha t f (j + 1) = ha t f j + hg t f j ∧ hg t f (j + 1) = t (j + 1) ∧ gp t f (j + 1) = gp t f j := by
        refine ⟨by rw [tp, if_neg q2, q1], ?_, by rw [ha, if_neg q2, if_pos q1], hg_n (by omega), gp_1 q1⟩
        unfold pl
        rw [bg_n (by omega)]; omega
      obtain ⟨z1', z2', z3', z4', z5'⟩ := hz
      unfold AX
      rw [z1', z2', z3', z4', z5']
      simp [put_get, n_l1, n_add]
      rfl
    · refine ⟨fun k k2 hk => ?_, fun k hk => ?_⟩
      · simp [put_get, hk]
      · rw [put_cell _ _ _ (by omega), put_cell _ _ _ (by omega), put_cell _ _ _ (by omega), put_cell _ _ _ (by omega), put_cell _ _ _ (by omega), put_cell _ _ _ (by omega)]
  · rw [if_neg q1]
    have q0 : f (j + 1) = 0 := by omega
    unfold e_X1_goOn_P
    simp only [y1, y2, if_true, ec, e2, bnv_some, put_get, a1, a2, a3, a4, a5, b3]
    refine ⟨_, rfl, ?_, ?_, ?_⟩
    · simp [put_get]
    · have g0 := gp_0 (t := t) q0
      have h00 := hg_0 (t := t) q0
      have hpl : pl f (j + 1) = j + 1 - bg f j := by unfold pl; rw [bg_0 q0]
      have hpl2 : pl f j + 1 = j + 1 - bg f j := by unfold pl; omega
      have hge : t (j + 1) ≤ hg t f (j + 1) ∧ hg t f j ≤ hg t f (j + 1) := by rw [h00]; split <;> omega
      have hmx : (if nI (hg t f j) < nI (t (j + 1)) then nI (t (j + 1)) else nI (hg t f j)) = nI (hg t f (j + 1)) := by
        rw [h00]
        simp (disch := omega) only [n_lt, n_ite]
      have hz : tp f (j + 1) = tp f j ∧ ha t f (j + 1) = ha t f j := by
        refine ⟨by rw [tp, if_neg q2, q0, Nat.add_zero], by rw [ha, if_neg q2, if_neg q1]⟩
      unfold AX
      rw [hz.1, hz.2, hpl, g0]
      simp [put_get, hmx, n_l1, n_add, hpl2]
      rw [n_sub hge.2, n_mul, n_add, n_add, n_sub (by generalize (hg t f (j + 1) - hg t f j) * (j + 1 - bg f j) = pr; omega)]
      congr 1
      generalize (hg t f (j + 1) - hg t f j) * (j + 1 - bg f j) = pr
      omega
    · refine ⟨fun k k2 hk => ?_, fun k hk => ?_⟩
      · simp [put_get, hk]
      · rw [put_cell _ _ _ (by omega), put_cell _ _ _ (by omega), put_cell _ _ _ (by omega), put_cell _ _ _ (by omega), put_cell _ _ _ (by omega), put_cell _ _ _ (by omega)]
/-- RAGGED of the page whose last panel is i -/
theorem xl_rag_P {u : Mem} {n H i : Nat} {t kd f : Nat → Nat} (hb : BK u n H t kd) (hi : i < n) (ax : AX 18 u t f i) (hh : kd i ≠ 2 → ha t f i + hg t f i ≤ H) : e_X1_raggedOfPage_P u (nI i) = some (nI (pe H t kd f i), u) := by
  have h9 := hb.1
  have b11 := hb.2.2.2.1
  obtain ⟨a1, a2, a3, a4, a5⟩ := ax
  have a3 : u 23 i = nI (ha t f i) := a3
  have a4 : u 24 i = nI (hg t f i) := a4
  have a5 : u 25 i = nI (gp t f i) := a5
  have y1 : inb (nI i) 9 = true := by rw [n_inb (by omega)]; simp; omega
  have ec : (nI i).toNatClampNeg = i := n_cl (by omega)
  unfold e_X1_raggedOfPage_P pe
  rw [x_spr hb hi, bnd_some]
  by_cases k2 : kd i = 2
  · rw [if_pos k2, if_neg z1, if_pos k2]; rfl
  · have h1 := hh k2
    rw [if_neg k2, if_pos rfl, if_neg k2]
    simp only [y1, if_true, ec, b11, a3, a4, a5]
    rw [n_sub (by omega), n_sub (by omega), n_mul, n_add, show H - ha t f i - hg t f i = H - (ha t f i + hg t f i) by omega]
