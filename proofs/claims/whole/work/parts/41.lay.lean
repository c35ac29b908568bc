theorem m_put {v : Mem} {n H p : Nat} {t kd f : Nat → Nat} (hb : BKM v n H t kd) (hpn : p < n) (hf : f p ≤ 2) (h7 : v 7 p = nI (f p)) (hs : MS v H t kd f p) (hv : 1 ≤ p → VP H t kd f (p - 1)) (hw : wy H t kd f p = 0) : ∃ v2, e_X6_put v (nI p) = some v2 ∧ FZ v v2 ∧ MS v2 H t kd f (p + 1) := by
  have h9 := hb.1
  have y1 : inb (nI p) 9 = true := by rw [n_inb (by omega)]; simp; omega
  have ec : (nI p).toNatClampNeg = p := n_cl (by omega)
  have e_2 : (nI (f p) = (2 : Int32)) = (f p = 2) := by rw [n_l2, n_eq (by omega) (by omega)]
  have e_1 : (nI (f p) = (1 : Int32)) = (f p = 1) := by rw [n_l1, n_eq (by omega) (by omega)]
  obtain ⟨w1, w2, w3, w4⟩ := wy0 hw
  unfold e_X6_put e_X6_put_J116
  simp only [y1, if_true, ec, h7, e_2, e_1]
  by_cases q2 : f p = 2
  · obtain ⟨v2, e1, fz, a12, a13, a14, a15, a16, a17, a8, a9, aj⟩ := m_beginPage hb hpn q2 hs hv
    obtain ⟨s12, s13, s14, s15, s16, sj⟩ := hs
    rw [if_pos q2, e1, bnv_some, put_slot _ _ (by omega), a17, n_l1, a14, s14, n_add, n_sub (by omega), Nat.sub_self]
    refine ⟨_, rfl, (fz.pt _ (by omega)).pt _ (by omega), ?_, ?_, ?_, ?_, fun _ => ⟨?_, ?_⟩, fun j hj => ?_⟩
    · rw [put_cell _ _ _ (by omega), put_slot _ _ (by omega)]; exact a12
    · rw [put_cell _ _ _ (by omega), put_slot _ _ (by omega), a13, if_neg (by omega), Nat.add_sub_cancel, cg_2 q2]; rfl
    · rw [put_cell _ _ _ (by omega), put_same, trs, if_neg (by omega)]
    · rw [put_cell _ _ _ (by omega), put_slot _ _ (by omega)]; exact a15
    · rw [put_cell _ _ _ (by omega), put_slot _ _ (by omega), a16, Nat.add_sub_cancel]
      have : ha t f p = 0 := by
        match p, q2 with
        | 0, _ => rfl
        | j + 1, q2 => rw [ha, if_pos q2]
      rw [this]; rfl
    · rw [put_cell _ _ _ (by omega), put_slot _ _ (by omega), a17, Nat.add_sub_cancel]
      have : bg f p = p := by
        match p, q2 with
        | 0, _ => rfl
        | j + 1, q2 => exact bg_n (by omega)
      rw [this]
    · by_cases hjp : j = p
      · subst hjp
        have hpl : pl f j = 0 := by
          unfold pl
          match j, q2 with
          | 0, _ => rfl
          | j + 1, q2 => rw [bg_n (by omega)]; omega
        have htp : tp f j = 0 := by
          match j, q2 with
          | 0, _ => rfl
          | j + 1, q2 => rw [tp, if_pos q2]
        rw [put_cell _ _ _ (by omega), put_cell _ _ _ (by omega), put_same, put_cell _ _ _ (by omega), put_cell _ _ _ (by omega), a8, a9, hpl, htp]
        exact ⟨rfl, rfl, rfl⟩
      · obtain ⟨b8, b9, b10⟩ := aj j hjp
        rw [put_cell _ _ _ (by omega), put_cell _ _ _ (by omega), put_cell _ _ _ (by omega), put_cell _ _ _ (by omega), put_slot _ _ (by omega), put_cell _ _ _ (by omega), b8, b9, b10]
        exact sj j (by omega)
  have hp1 := w1 q2
  obtain ⟨j, rfl⟩ : ∃ j, p = j + 1 := ⟨p - 1, by omega⟩
  obtain ⟨s12, s13, s14, s15, s16, sj⟩ := id hs
  obtain ⟨a16, a17⟩ := s16 hp1
  rw [Nat.add_sub_cancel] at a16 a17
  obtain ⟨b8, b9, b10⟩ := sj j (by omega)
  have hbg := bg_le f j
  have y2 : inb (nI (j + 1) - (1 : Int32)) 9 = true := by rw [n_l1, n_sub hp1, n_inb (by omega)]; simp; omega
  have e2 : (nI (j + 1) - (1 : Int32)).toNatClampNeg = j := by rw [n_l1, n_sub hp1, n_cl (by omega)]; omega
  have hpag : pag kd f (j + 1) = pag kd f j := by rw [pag, if_neg q2]
  have hpgs : pgs kd f (j + 1 + 1) = pgs kd f (j + 1) := by rw [pgs, if_neg q2]
  have hbls : bls kd f (j + 1 + 1) = bls kd f (j + 1) := by rw [bls, if_neg q2]
  have hrgp : rgp H t kd f (j + 1 + 1) = rgp H t kd f (j + 1) := by rw [rgp, if_neg q2]
  have htp : tp f (j + 1) = tp f j + f (j + 1) := by rw [tp, if_neg q2]
  rw [if_neg q2]
  simp only [y2, if_true, e2, b8, b9, n_add]
  rw [if_neg (by omega), Nat.add_sub_cancel] at s13
  by_cases q1 : f (j + 1) = 1
  · have hk2 := (w3 q2).2.2
    rw [Nat.add_sub_cancel] at hk2
    rw [if_pos q1]
    have hb2 : BKM (put (put v 8 (j + 1) (nI (pag kd f j))) 9 (j + 1) (nI (tp f j + f (j + 1)))) n H t kd := hb.kp (by rw [put_cell _ _ _ (by omega), put_cell _ _ _ (by omega)])
    have et := m_endTier hb2 hp1 (by omega) (f := f) (by rw [put_cell _ _ _ (by omega), put_cell _ _ _ (by omega), Nat.add_sub_cancel]; exact a17)
    rw [Nat.add_sub_cancel, if_neg hk2] at et
    have hb3 : BKM (put (put (put v 8 (j + 1) (nI (pag kd f j))) 9 (j + 1) (nI (tp f j + f (j + 1)))) 0 13 (put (put v 8 (j + 1) (nI (pag kd f j))) 9 (j + 1) (nI (tp f j + f (j + 1))) 0 13 + nI (sg t f j))) n H t kd := hb2.kp (by rw [put_cell _ _ _ (by omega)])
    have eh := m_hg (f := f) hb3 (show j < n by omega)
    rw [et, bnv_some]
    have r17 : put (put (put v 8 (j + 1) (nI (pag kd f j))) 9 (j + 1) (nI (tp f j + f (j + 1)))) 0 13 (put (put v 8 (j + 1) (nI (pag kd f j))) 9 (j + 1) (nI (tp f j + f (j + 1))) 0 13 + nI (sg t f j)) 0 17 = nI (bg f j) := by
      rw [put_slot _ _ (by omega), put_cell _ _ _ (by omega), put_cell _ _ _ (by omega)]; exact a17
    have r16 : put (put (put v 8 (j + 1) (nI (pag kd f j))) 9 (j + 1) (nI (tp f j + f (j + 1)))) 0 13 (put (put v 8 (j + 1) (nI (pag kd f j))) 9 (j + 1) (nI (tp f j + f (j + 1))) 0 13 + nI (sg t f j)) 0 16 = nI (ha t f j) := by
      rw [put_slot _ _ (by omega), put_cell _ _ _ (by omega), put_cell _ _ _ (by omega)]; exact a16
    have r14 : put (put (put v 8 (j + 1) (nI (pag kd f j))) 9 (j + 1) (nI (tp f j + f (j + 1)))) 0 13 (put (put v 8 (j + 1) (nI (pag kd f j))) 9 (j + 1) (nI (tp f j + f (j + 1))) 0 13 + nI (sg t f j)) 0 14 = nI (trs f (j + 1)) := by
      rw [put_slot _ _ (by omega), put_cell _ _ _ (by omega), put_cell _ _ _ (by omega)]; exact s14
    rw [r17, n_sub (by omega), eh, bnd_some, r16, r14, n_add, n_l1, n_add]
    have r13 : put (put v 8 (j + 1) (nI (pag kd f j))) 9 (j + 1) (nI (tp f j + f (j + 1))) 0 13 = nI (rgp H t kd f (j + 1) + cg t f j) := by
      rw [put_cell _ _ _ (by omega), put_cell _ _ _ (by omega)]; exact s13
    rw [r13, n_add, put_slot _ _ (by omega), put_same, n_sub (by omega), Nat.sub_self]
    refine ⟨_, rfl, ((((((FZ.rf.pt _ (by omega)).pt _ (by omega)).pt _ (by omega)).pt _ (by omega)).pt _ (by omega)).pt _ (by omega)).pt _ (by omega), ?_, ?_, ?_, ?_, fun _ => ⟨?_, ?_⟩, fun k hk => ?_⟩
    · rw [hpgs]; simp [put_get]; exact s12
    · have hcg : cg t f (j + 1) = cg t f j + sg t f j := by rw [cg, if_neg q2, if_pos q1]
      rw [hrgp, if_neg (by omega), Nat.add_sub_cancel, hcg]
      simp [put_get]
      congr 1
      omega
    · have htr : trs f (j + 1 + 1) = trs f (j + 1) + 1 := if_neg (by omega)
      rw [htr]; simp [put_get]
    · rw [hbls]; simp [put_get]; exact s15
    · rw [Nat.add_sub_cancel, ha, if_neg q2, if_pos q1]; simp [put_get]
    · rw [Nat.add_sub_cancel, bg_n (by omega)]; simp [put_get]
    · by_cases hkp : k = j + 1
      · subst hkp
        have hpl : pl f (j + 1) = 0 := by unfold pl; rw [bg_n (by omega)]; omega
        rw [hpag, htp, hpl]
        simp [put_get]
      · simp [put_get, hkp]
        exact sj k (by omega)
  · have q0 : f (j + 1) = 0 := by omega
    rw [if_neg q1, put_cell _ _ _ (by omega), put_cell _ _ _ (by omega), a17, n_sub (by omega)]
    refine ⟨_, rfl, ((FZ.rf.pt _ (by omega)).pt _ (by omega)).pt _ (by omega), ?_, ?_, ?_, ?_, fun _ => ⟨?_, ?_⟩, fun k hk => ?_⟩
    · rw [hpgs]; simp [put_get]; exact s12
    · have hcg : cg t f (j + 1) = cg t f j := by rw [cg, if_neg q2, if_neg q1]
      rw [hrgp, if_neg (by omega), Nat.add_sub_cancel, hcg]
      simp [put_get]; exact s13
    · rw [trs, if_pos q0]; simp [put_get]; exact s14
    · rw [hbls]; simp [put_get]; exact s15
    · rw [Nat.add_sub_cancel, ha, if_neg q2, if_neg q1]; simp [put_get]; exact a16
    · rw [Nat.add_sub_cancel, bg_0 q0]; simp [put_get]; exact a17
    · by_cases hkp : k = j + 1
      · subst hkp
        have hpl : pl f (j + 1) = j + 1 - bg f j := by unfold pl; rw [bg_0 q0]
        rw [hpag, htp, hpl]
        simp [put_get]
      · simp [put_get, hkp]
        exact sj k (by omega)
def GO (H : Nat) (t kd f : Nat → Nat) (n : Nat) : Prop := ∀ j, j < n → wy H t kd f j = 0
/-- what the reference knows when it has gone through the figures -/
def GT (v v2 : Mem) (n H : Nat) (t kd f : Nat → Nat) (r : Int32) : Prop := FZ v v2 ∧ ((GO H t kd f n ∧ r = -6 ∧ v2 0 11 = -6 ∧ v2 0 12 = nI (pgs kd f n) ∧ v2 0 13 = nI (rgf H t kd f n) ∧ v2 0 14 = nI (trs f n) ∧ v2 0 15 = nI (bls kd f n) ∧ ∀ j, j < n → v2 8 j = nI (pag kd f j) ∧ v2 9 j = nI (tp f j) ∧ v2 10 j = nI (pl f j)) ∨ ∃ q, q < n ∧ wy H t kd f q ≠ 0 ∧ (∀ j, j < q → wy H t kd f j = 0) ∧ r = nI q ∧ v2 0 11 = nI (wy H t kd f q))
theorem wy_le (H : Nat) (t kd f : Nat → Nat) (i : Nat) : wy H t kd f i ≤ 5 := by
  unfold wy
  split
  · omega
  · split
    · omega
    · split
      · omega
      · split
        · omega
        · split <;> omega
theorem m_go {v0 : Mem} {n H : Nat} {t kd f : Nat → Nat} (hb : BKM v0 n H t kd) (hf : ∀ j, j < n → f j ≤ 2 ∧ v0 7 j = nI (f j)) : ∀ (m i g : Nat) (v : Mem), i + m = n → m < g → FZ v0 v → MS v H t kd f i → (∀ j, j < i → wy H t kd f j = 0) → ∃ r v2, e_X6_goThrough_L32 g v (nI i) = some (r, v2) ∧ GT v0 v2 n H t kd f r := by
  intro m
  have h9 := hb.1
  induction m with
  | zero =>
    intro i g v hi hg fz hs hw
    obtain ⟨g, rfl⟩ : ∃ k, g = k + 1 := ⟨g - 1, by omega⟩
    have e : i = n := by omega
    subst e
    have hbv : BKM (put v 0 11 (-6)) i H t kd := hb.kp (by rw [put_cell _ _ _ (by omega)]; exact fz.1 1 (by omega) (by omega))
    have h72 : v 1 72 = nI i := by rw [fz.1 1 (by omega) (by omega)]; exact hb.2.2.1
    have hs2 : MS (put v 0 11 (-6)) H t kd f i := by
      obtain ⟨s12, s13, s14, s15, s16, sj⟩ := hs
      refine ⟨by rw [put_slot _ _ (by omega)]; exact s12, by rw [put_slot _ _ (by omega)]; exact s13, by rw [put_slot _ _ (by omega)]; exact s14, by rw [put_slot _ _ (by omega)]; exact s15, fun h => ?_, fun j hj => ?_⟩
      · rw [put_slot _ _ (by omega), put_slot _ _ (by omega)]; exact s16 h
      · rw [put_cell _ _ _ (by omega), put_cell _ _ _ (by omega), put_cell _ _ _ (by omega)]; exact sj j hj
    obtain ⟨v1, v2, e1, e2, e3, e4⟩ := m_end hbv (Nat.le_refl i) hs2 (fun h1 => VP.of (hf (i - 1) (by omega)).1 (hw (i - 1) (by omega)))
    have hv1 : v1 1 72 = nI i := by
      have q1 : ∀ k j, ¬ (k = 0 ∧ j = 13) → v1 k j = put v 0 11 (-6) k j := by
        intro k j hkj
        rcases Nat.eq_zero_or_pos i with h0 | h0
        · subst h0
          unfold e_X6_endTier at e1
          rw [if_pos (by decide)] at e1
          cases e1; rfl
        · rw [m_endTier hbv h0 (Nat.le_refl i) (hs2.2.2.2.2.1 h0).2] at e1
          cases e1
          rw [put_slot _ _ (by omega)]
      rw [q1 1 72 (by omega), put_cell _ _ _ (by omega)]; exact h72
    refine ⟨-6, v2, ?_, ?_, Or.inl ⟨hw, rfl, ?_, ?_, e3, ?_, ?_, fun j hj => ?_⟩⟩
    · show e_X6_goThrough_L32_b _ _ _ = _
      unfold e_X6_goThrough_L32_b
      rw [many_m, bnd_some, h72, if_pos (by rw [n_le (by omega) (by omega)]; omega), many_m, bnd_some, put_cell _ _ _ (by omega), h72, e1, bnv_some, many_m, bnd_some, hv1, e2, bnv_some]
    · refine fz.tr ⟨fun k h1 h2 => ?_, fun k h1 => ?_, fun j h1 => ?_⟩
      · funext j; rw [e4 k j (by omega), put_cell _ _ _ (by omega)]
      · funext j; rw [e4 k j (by omega), put_cell _ _ _ (by omega)]
      · rw [e4 0 j (by omega), put_slot _ _ (by omega)]
    · rw [e4 0 11 (by omega), put_same]
    · rw [e4 0 12 (by omega)]; exact hs2.1
    · rw [e4 0 14 (by omega)]; exact hs2.2.2.1
    · rw [e4 0 15 (by omega)]; exact hs2.2.2.2.1
    · rw [e4 8 j (by omega), e4 9 j (by omega), e4 10 j (by omega)]; exact hs2.2.2.2.2.2 j hj
  | succ m ih =>
    intro i g v hi hg fz hs hw
    obtain ⟨g, rfl⟩ : ∃ k, g = k + 1 := ⟨g - 1, by omega⟩
    have hbv : BKM v n H t kd := hb.kp (fz.1 1 (by omega) (by omega))
    have h72 : v 1 72 = nI n := hbv.2.2.1
    obtain ⟨f2, f7⟩ := hf i (by omega)
    have h7 : v 7 i = nI (f i) := by rw [fz.1 7 (by omega) (by omega)]; exact f7
    have hvp : 1 ≤ i → VP H t kd f (i - 1) := fun h1 => VP.of (hf (i - 1) (by omega)).1 (hw (i - 1) (by omega))
    have ew := m_why hbv (show i < n by omega) f2 h7 hs.2.2.2.2.1 (fun h1 => (hvp h1).1)
    have hwl := wy_le H t kd f i
    show ∃ r v2, e_X6_goThrough_L32_b _ _ _ = _ ∧ _
    unfold e_X6_goThrough_L32_b
    simp only [many_m, bnd_some, h72, ew]
    rw [if_neg (by rw [n_le (by omega) (by omega)]; omega)]
    by_cases q : wy H t kd f i = 0
    · have hs2 : MS (put v 0 11 (nI (wy H t kd f i))) H t kd f i := by
        obtain ⟨s12, s13, s14, s15, s16, sj⟩ := hs
        refine ⟨by rw [put_slot _ _ (by omega)]; exact s12, by rw [put_slot _ _ (by omega)]; exact s13, by rw [put_slot _ _ (by omega)]; exact s14, by rw [put_slot _ _ (by omega)]; exact s15, fun h => ?_, fun j hj => ?_⟩
        · rw [put_slot _ _ (by omega), put_slot _ _ (by omega)]; exact s16 h
        · rw [put_cell _ _ _ (by omega), put_cell _ _ _ (by omega), put_cell _ _ _ (by omega)]; exact sj j hj
      obtain ⟨v2, e1, e2, e3⟩ := m_put (hbv.kp (v2 := put v 0 11 (nI (wy H t kd f i))) (by rw [put_cell _ _ _ (by omega)])) (show i < n by omega) f2 (by rw [put_cell _ _ _ (by omega)]; exact h7) hs2 hvp q
      obtain ⟨r, v3, g1, g2⟩ := ih (i + 1) g v2 (by omega) (by omega) ((fz.pt _ (by omega)).tr e2) e3 (fun j hj => by
        by_cases hji : j = i
        · subst hji; exact q
        · exact hw j (by omega))
      refine ⟨r, v3, ?_, g2⟩
      rw [if_pos (by rw [q]; decide), e1, bnv_some, n_l1, n_add]
      exact g1
    · refine ⟨nI i, _, ?_, fz.pt _ (by omega), Or.inr ⟨i, by omega, q, hw, rfl, put_same _ _ _ _⟩⟩
      rw [if_neg (by rw [n_l0, n_le (by omega) (by omega)]; omega)]
theorem m_goThrough {v : Mem} {n H : Nat} {t kd f : Nat → Nat} (hb : BKM v n H t kd) (hf : ∀ j, j < n → f j ≤ 2 ∧ v 7 j = nI (f j)) : ∃ r v2, e_X6_goThrough v = some (r, v2) ∧ GT v v2 n H t kd f r := by
  have fz : FZ v (put (put (put (put (put (put v 0 12 (0 : Int32)) 0 13 (0 : Int32)) 0 14 (0 : Int32)) 0 15 (0 : Int32)) 0 16 (0 : Int32)) 0 17 (0 : Int32)) := (((((FZ.rf.pt _ (by omega)).pt _ (by omega)).pt _ (by omega)).pt _ (by omega)).pt _ (by omega)).pt _ (by omega)
  have hb9 := hb.1
  exact m_go hb hf n 0 FU _ (by omega) (by unfold FU; omega) fz (by
    refine ⟨?_, ?_, ?_, ?_, fun h => by omega, fun j hj => by omega⟩
    · simp [put_get]; rfl
    · simp [put_get]; rfl
    · simp [put_get]; rfl
    · simp [put_get]; rfl) (fun j hj => by omega)
