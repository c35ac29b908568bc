/-! the class's search -/
theorem x_why2 {u : Mem} {n H i : Nat} {t kd : Nat → Nat} (hb : BK u n H t kd) (hi : i < n) : e_X1_whyNot_P u (nI i) (2 : Int32) = some (0, u) := by
  have h9 := hb.1
  have hH := hb.2.1
  obtain ⟨b3, b4, bt, bk⟩ := hb.2.2.2.2 i hi
  have y1 : inb (nI i) 9 = true := by rw [n_inb (by omega)]; simp; omega
  unfold e_X1_whyNot_P e_X1_whyNot_P_J12 e_X1_whyNot_P_J32 e_X1_whyNot_P_J56 e_X1_whyNot_P_J81 e_X1_pageHeightWith_P
  rw [if_pos rfl, if_neg (by decide), if_neg (by decide), if_pos rfl, x_spr hb hi, bnd_some]
  by_cases k2 : kd i = 2
  · rw [if_pos k2, if_neg z1]
  · rw [if_neg k2, if_pos rfl, if_pos y1, if_pos rfl, bnd_some, n_cl (by omega), b3, hb.2.2.2.1, if_pos (by rw [n_le (by omega) (by omega)]; omega)]
theorem x_put2 {u : Mem} {n H i : Nat} {t kd f : Nat → Nat} (hb : BK u n H t kd) (hi : i < n) (q2 : f i = 2) : ∃ u2, e_X1_put_P u (nI i) (2 : Int32) = some u2 ∧ AX 18 u2 t f i ∧ PT 18 i u u2 := by
  have h9 := hb.1
  obtain ⟨b3, b4, bt, bk⟩ := hb.2.2.2.2 i hi
  have y1 : inb (nI i) 9 = true := by rw [n_inb (by omega)]; simp; omega
  have ec : (nI i).toNatClampNeg = i := n_cl (by omega)
  unfold e_X1_put_P e_X1_put_P_J17
  simp only [y1, if_true, ec]
  unfold e_X1_beginPage_P
  simp only [y1, if_true, ec, bnv_some, put_cell _ _ _ (show (3 : Nat) ≠ 19 by decide), b3]
  refine ⟨_, rfl, ?_, ?_⟩
  · have hz : tp f i = 0 ∧ pl f i = 0 ∧ ha t f i = 0 ∧ hg t f i = t i ∧ gp t f i = 0 := by
      unfold pl
      match i, q2 with
      | 0, _ => exact ⟨rfl, rfl, rfl, hg_z, gp_z⟩
      | j + 1, q2 => exact ⟨by rw [tp, if_pos q2], by rw [bg_n (by omega)]; omega, by rw [ha, if_pos q2], hg_n (by omega), gp_2 q2⟩
    obtain ⟨z1', z2', z3', z4', z5'⟩ := hz
    unfold AX
    rw [z1', z2', z3', z4', z5']
    simp [put_get]
    rfl
  · refine ⟨fun k j hj => ?_, fun k hk => ?_⟩
    · simp [put_get, hj]
    · rw [put_cell _ _ _ (by omega), put_cell _ _ _ (by omega), put_cell _ _ _ (by omega), put_cell _ _ _ (by omega), put_cell _ _ _ (by omega), put_cell _ _ _ (by omega)]
def SL (u : Mem) (s : Nat) (A : GS) : Prop := u 26 s = nI A.1 ∧ u 27 s = nI A.2.1 ∧ u 28 s = nI A.2.2.1 ∧ u 29 s = nI A.2.2.2.1 ∧ u 30 s = nI A.2.2.2.2
theorem SL.kp {u u2 : Mem} {s : Nat} {A : GS} (h : SL u s A) (hk : ∀ k, 26 ≤ k → k ≤ 30 → u2 k s = u k s) : SL u2 s A := by
  unfold SL
  rw [hk 26 (by omega) (by omega), hk 27 (by omega) (by omega), hk 28 (by omega) (by omega), hk 29 (by omega) (by omega), hk 30 (by omega) (by omega)]
  exact h
theorem x_clear {u : Mem} {s : Nat} (hs : s + 1 < 20) : ∃ u2, e_X3_clear u (nI s) = some u2 ∧ SL u2 s Zs ∧ SL u2 (s + 1) Zs ∧ ∀ k j, (k < 26 ∨ 30 < k ∨ (j ≠ s ∧ j ≠ s + 1)) → u2 k j = u k j := by
  have y1 : inb (nI s) 20 = true := by rw [n_inb (by omega)]; simp; omega
  have y2 : inb (nI (s + 1)) 20 = true := by rw [n_inb (by omega)]; simp; omega
  unfold e_X3_clear
  rw [show FU = 99997 + 1 + 1 + 1 from rfl]
  show ∃ u2, e_X3_clear_L2_b _ _ _ _ = _ ∧ _
  unfold e_X3_clear_L2_b
  rw [if_neg (by rw [n_l2, n_add, n_le (by omega) (by omega)]; omega), if_pos y1, if_pos y1, if_pos y1, if_pos y1, if_pos y1, n_cl (by omega), nI_1]
  show ∃ u2, e_X3_clear_L2_b _ _ _ _ = _ ∧ _
  unfold e_X3_clear_L2_b
  rw [if_neg (by rw [n_l2, n_add, n_le (by omega) (by omega)]; omega), if_pos y2, if_pos y2, if_pos y2, if_pos y2, if_pos y2, n_cl (by omega), nI_1]
  show ∃ u2, e_X3_clear_L2_b _ _ _ _ = _ ∧ _
  unfold e_X3_clear_L2_b
  rw [if_pos (by rw [n_l2, n_add, n_le (by omega) (by omega)]; omega)]
  refine ⟨_, rfl, ?_, ?_, ?_⟩
  · unfold SL Zs
    simp [put_get]
    rfl
  · unfold SL Zs
    simp [put_get]
    rfl
  · intro k j h
    rcases (by omega : (k ≠ 26 ∧ k ≠ 27 ∧ k ≠ 28 ∧ k ≠ 29 ∧ k ≠ 30) ∨ (j ≠ s ∧ j ≠ s + 1)) with h | h
    · simp [put_get, h]
    · simp [put_get, h]
theorem o_few {u : Mem} {s r : Nat} {P R c : Int32} (hs : s < 20) (hr : r < 20) : e_X3_offer_J29 u (nI s) (nI r) P R c = some (put (put (put (put (put u 26 s (u 26 s + u 26 r)) 28 s (u 28 r)) 27 s P) 29 s R) 30 s c) := by
  have y1 : inb (nI s) 20 = true := by rw [n_inb (by omega)]; simp; omega
  have y2 : inb (nI r) 20 = true := by rw [n_inb (by omega)]; simp; omega
  simp only [e_X3_offer_J29, e_X3_offer_J34, e_X3_offer_J55, e_X3_offer_J56, e_X3_offer_J100, e_X3_offer_J101, e_X3_offer_J158, e_X3_offer_J168, if_neg z1, if_true, y1, y2, n_cl (show s < 2147483648 by omega), n_cl (show r < 2147483648 by omega)]
theorem o_even {u : Mem} {s r : Nat} {P R c : Int32} (hs : s < 20) (hr : r < 20) : e_X3_offer_J96 u (nI s) (nI r) P R c 0 1 = some (put (put (put (put (put u 26 s (u 26 s + u 26 r)) 28 s (u 28 s + u 28 r)) 27 s P) 29 s R) 30 s c) := by
  have y1 : inb (nI s) 20 = true := by rw [n_inb (by omega)]; simp; omega
  have y2 : inb (nI r) 20 = true := by rw [n_inb (by omega)]; simp; omega
  simp only [e_X3_offer_J96, e_X3_offer_J101, e_X3_offer_J158, e_X3_offer_J168, if_neg z1, if_true, y1, y2, n_cl (show s < 2147483648 by omega), n_cl (show r < 2147483648 by omega)]
theorem o_asfew {u : Mem} {s r : Nat} {P R c : Int32} (hs : s < 20) (hr : r < 20) : e_X3_offer_J100 u (nI s) (nI r) P R c 0 1 = some (put (put u 26 s (u 26 s + u 26 r)) 28 s (u 28 s + u 28 r)) := by
  have y1 : inb (nI s) 20 = true := by rw [n_inb (by omega)]; simp; omega
  have y2 : inb (nI r) 20 = true := by rw [n_inb (by omega)]; simp; omega
  simp only [e_X3_offer_J100, e_X3_offer_J101, e_X3_offer_J158, e_X3_offer_J168, if_neg z1, if_true, y1, y2, n_cl (show s < 2147483648 by omega), n_cl (show r < 2147483648 by omega)]
theorem o_more {u : Mem} {s r : Nat} {P R c : Int32} (hs : s < 20) (hr : r < 20) : e_X3_offer_J100 u (nI s) (nI r) P R c 0 0 = some (put u 26 s (u 26 s + u 26 r)) := by
  have y1 : inb (nI s) 20 = true := by rw [n_inb (by omega)]; simp; omega
  have y2 : inb (nI r) 20 = true := by rw [n_inb (by omega)]; simp; omega
  simp only [e_X3_offer_J100, e_X3_offer_J101, e_X3_offer_J158, e_X3_offer_J168, if_neg z1, if_true, y1, y2, n_cl (show s < 2147483648 by omega), n_cl (show r < 2147483648 by omega)]
theorem x_offer {u : Mem} {s r P' R' c' : Nat} {A B : GS} (hs : s < 20) (hr : r < 20) (sl : SL u s A) (sr : SL u r B) (hA : A.1 ≤ 1000000) (hB : B.1 ≤ 1000000) (hA2 : A.2.1 ≤ 1000000 ∧ A.2.2.2.1 ≤ 1000000 ∧ A.2.2.2.2 < 1000000) (hP : P' ≤ 1000000) (hR : R' ≤ 1000000) (hc : c' ≤ 1000000) : ∃ u2, e_X3_offer u (nI s) (nI r) (nI P') (nI R') (nI c') = some u2 ∧ SL u2 s (jn A (B.1, P', B.2.2.1, R', c')) ∧ ∀ k j, (k < 26 ∨ 30 < k ∨ j ≠ s) → u2 k j = u k j := by
  have y1 : inb (nI s) 20 = true := by rw [n_inb (by omega)]; simp; omega
  have y2 : inb (nI r) 20 = true := by rw [n_inb (by omega)]; simp; omega
  obtain ⟨a1, a2, a3, a4, a5⟩ := id sl
  obtain ⟨b1, b2, b3, b4, b5⟩ := sr
  obtain ⟨c1, c2, c3⟩ := hA2
  have kp : ∀ (w : Mem) (k j : Nat) (x : Int32) (h : 26 ≤ k ∧ k ≤ 30), (∀ k j, (k < 26 ∨ 30 < k ∨ j ≠ s) → w k j = u k j) → ∀ k2 j, (k2 < 26 ∨ 30 < k2 ∨ j ≠ s) → put w k s x k2 j = u k2 j := by
    intro w k j x h hw k2 j h2
    rw [put_get]
    rw [if_neg (by omega)]
    exact hw k2 j h2
  have k0 : ∀ k j, (k < 26 ∨ 30 < k ∨ j ≠ s) → u k j = u k j := fun _ _ _ => rfl
  unfold e_X3_offer
  rw [if_pos y2, n_cl (show r < 2147483648 by omega), b1]
  by_cases b : B.1 = 0
  · rw [if_pos (by rw [b]; rfl)]
    have ej : jn A (B.1, P', B.2.2.1, R', c') = A := by unfold jn; simp [b]
    exact ⟨u, rfl, by rw [ej]; exact sl, k0⟩
  have few : (A.1 = 0 ∨ P' < A.2.1) → ∃ u2, e_X3_offer_J29 u (nI s) (nI r) (nI P') (nI R') (nI c') = some u2 ∧ SL u2 s (jn A (B.1, P', B.2.2.1, R', c')) ∧ ∀ k j, (k < 26 ∨ 30 < k ∨ j ≠ s) → u2 k j = u k j := by
    intro hA
    have ej : jn A (B.1, P', B.2.2.1, R', c') = (A.1 + B.1, P', B.2.2.1, R', c') := by
      unfold jn
      rw [if_neg (show ¬ B.1 = 0 from b)]
      by_cases a : A.1 = 0
      · rw [if_pos a]
      · rw [if_neg a, jt_lt (hA.resolve_left a)]
    rw [ej, o_few hs hr]
    refine ⟨_, rfl, ?_, kp _ _ 0 _ (by omega) (kp _ _ 0 _ (by omega) (kp _ _ 0 _ (by omega) (kp _ _ 0 _ (by omega) (kp _ _ 0 _ (by omega) k0))))⟩
    unfold SL
    simp [put_get]
    rw [a1, b1, b3, n_add]
    exact ⟨rfl, rfl⟩
  rw [if_neg (by rw [n_l0, n_eq (by omega) (by omega)]; exact b), if_pos y1, n_cl (show s < 2147483648 by omega), a1]
  by_cases a : A.1 = 0
  · rw [if_pos (by rw [a]; rfl)]
    exact few (Or.inl a)
  rw [if_neg (by rw [n_l0, n_eq (by omega) (by omega)]; exact a), if_pos y1, a2]
  by_cases q : P' < A.2.1
  · rw [if_neg (by rw [n_le (by omega) (by omega)]; omega)]
    exact few (Or.inr q)
  rw [if_pos (by rw [n_le (by omega) (by omega)]; omega)]
  have ej : jn A (B.1, P', B.2.2.1, R', c') = (A.1 + B.1, jt A.2 (P', B.2.2.1, R', c')) := by
    unfold jn
    rw [if_neg (show ¬ B.1 = 0 from b), if_neg a]
  rw [ej]
  unfold e_X3_offer_J34
  rw [if_pos rfl, if_pos y1, n_cl (show s < 2147483648 by omega), a2]
  by_cases q2 : P' = A.2.1
  · rw [if_pos (by rw [q2]), jt_eq (show ((P', B.2.2.1, R', c') : GK).1 = A.2.1 from q2)]
    have asf : ¬ (R' < A.2.2.2.1 ∨ (R' = A.2.2.2.1 ∧ c' < A.2.2.2.2)) → ∃ u2, e_X3_offer_J100 u (nI s) (nI r) (nI P') (nI R') (nI c') 0 1 = some u2 ∧ SL u2 s (A.1 + B.1, A.2.1, A.2.2.1 + B.2.2.1, m2 A.2.2.2 (R', c')) ∧ ∀ k j, (k < 26 ∨ 30 < k ∨ j ≠ s) → u2 k j = u k j := by
      intro h
      rw [o_asfew hs hr]
      refine ⟨_, rfl, ?_, kp _ _ 0 _ (by omega) (kp _ _ 0 _ (by omega) k0)⟩
      unfold m2
      rw [if_neg h]
      unfold SL
      simp [put_get]
      rw [a1, b1, a3, b3, n_add, n_add]
      exact ⟨rfl, a2, rfl, a4, a5⟩
    have eve : (R' < A.2.2.2.1 ∨ (R' = A.2.2.2.1 ∧ c' < A.2.2.2.2)) → ∃ u2, e_X3_offer_J96 u (nI s) (nI r) (nI P') (nI R') (nI c') 0 1 = some u2 ∧ SL u2 s (A.1 + B.1, A.2.1, A.2.2.1 + B.2.2.1, m2 A.2.2.2 (R', c')) ∧ ∀ k j, (k < 26 ∨ 30 < k ∨ j ≠ s) → u2 k j = u k j := by
      intro h
      rw [o_even hs hr]
      refine ⟨_, rfl, ?_, kp _ _ 0 _ (by omega) (kp _ _ 0 _ (by omega) (kp _ _ 0 _ (by omega) (kp _ _ 0 _ (by omega) (kp _ _ 0 _ (by omega) k0))))⟩
      unfold m2
      rw [if_pos h]
      unfold SL
      simp [put_get]
      rw [a1, b1, a3, b3, n_add, n_add, q2]
      exact ⟨rfl, rfl, rfl⟩
    unfold e_X3_offer_J56
    rw [if_neg z1, if_pos y1, n_cl (show s < 2147483648 by omega), a4]
    by_cases c : R' < A.2.2.2.1
    · rw [if_pos (by rw [n_lt (by omega) (by omega)]; exact c)]
      exact eve (Or.inl c)
    · rw [if_neg (by rw [n_lt (by omega) (by omega)]; exact c), if_pos y1]
      by_cases d : R' = A.2.2.2.1
      · rw [if_pos (by rw [d]), if_pos y1, a5]
        by_cases e : c' < A.2.2.2.2
        · rw [if_neg (by rw [n_le (by omega) (by omega)]; omega)]
          exact eve (Or.inr ⟨d, e⟩)
        · rw [if_pos (by rw [n_le (by omega) (by omega)]; omega)]
          exact asf (by omega)
      · rw [if_neg (by rw [n_eq (by omega) (by omega)]; exact d)]
        exact asf (by omega)
  · rw [if_neg (by rw [n_eq (by omega) (by omega)]; exact q2), jt_gt (show A.2.1 < ((P', B.2.2.1, R', c') : GK).1 from (by omega : A.2.1 < P'))]
    unfold e_X3_offer_J55 e_X3_offer_J56
    rw [if_pos rfl, o_more hs hr]
    refine ⟨_, rfl, ?_, kp _ _ 0 _ (by omega) k0⟩
    unfold SL
    simp [put_get]
    rw [a1, b1, n_add]
    exact ⟨rfl, a2, a3, a4, a5⟩
theorem jn_sh {p r c : Nat} (A B : GS) : jn A (B.1, p + B.2.1, B.2.2.1, r + B.2.2.2.1, c + B.2.2.2.2) = jn A (sh p r c B) := by
  by_cases b : B.1 = 0
  · rw [sh_z b, jn_z]
    unfold jn
    simp [b]
  · rw [sh_n b]
