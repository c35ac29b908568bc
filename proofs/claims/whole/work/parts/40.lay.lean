theorem wy0 {H i : Nat} {t kd f : Nat → Nat} (h : wy H t kd f i = 0) : (f i ≠ 2 → 1 ≤ i) ∧ (f i = 0 → pl f (i - 1) + 1 < 4) ∧ (f i ≠ 2 → kd i ≠ 2 ∧ kd i ≠ 3 ∧ kd (i - 1) ≠ 2) ∧ (kd i ≠ 2 → ph t f i ≤ H) := by
  unfold wy at h
  by_cases h1 : f i ≠ 2 ∧ i = 0
  · rw [if_pos h1] at h; omega
  rw [if_neg h1] at h
  by_cases h2 : f i = 0 ∧ 4 ≤ pl f (i - 1) + 1
  · rw [if_pos h2] at h; omega
  rw [if_neg h2] at h
  by_cases h3 : f i = 0 ∧ ((kd i = 1 ∨ kd i = 2) ∨ kd (i - 1) = 1 ∨ kd (i - 1) = 2)
  · rw [if_pos h3] at h; omega
  rw [if_neg h3] at h
  by_cases h4 : f i ≠ 2 ∧ ((kd i = 2 ∨ kd i = 3) ∨ kd (i - 1) = 2)
  · rw [if_pos h4] at h; omega
  rw [if_neg h4] at h
  by_cases h5 : kd i ≠ 2 ∧ H < ph t f i
  · rw [if_pos h5] at h; omega
  omega
theorem ph_eq {t f : Nat → Nat} {i : Nat} (hf : f i ≤ 2) (h0 : f i ≠ 2 → 1 ≤ i) : ph t f i = ha t f i + hg t f i := by
  unfold ph
  by_cases q2 : f i = 2
  · rw [if_pos q2]
    match i, q2 with
    | 0, _ => rw [hg_z]; show t 0 = 0 + t 0; omega
    | j + 1, q2 => rw [ha, if_pos q2, hg_n (by omega)]; omega
  · obtain ⟨j, rfl⟩ : ∃ j, i = j + 1 := ⟨i - 1, by have := h0 q2; omega⟩
    rw [if_neg q2, Nat.add_sub_cancel]
    by_cases q1 : f (j + 1) = 1
    · rw [if_pos q1, ha, if_neg q2, if_pos q1, hg_n (by omega)]
    · rw [if_neg q1, ha, if_neg q2, if_neg q1, hg_0 (by omega)]
/-- what a figure that can be leaves behind -/
def VP (H : Nat) (t kd f : Nat → Nat) (i : Nat) : Prop := pl f i ≤ 3 ∧ (kd i = 2 → f i = 2) ∧ (kd i ≠ 2 → ha t f i + hg t f i ≤ H)
theorem VP.of {H i : Nat} {t kd f : Nat → Nat} (hf : f i ≤ 2) (h : wy H t kd f i = 0) : VP H t kd f i := by
  obtain ⟨w1, w2, w3, w4⟩ := wy0 h
  refine ⟨?_, fun k => ?_, fun k => by rw [← ph_eq hf w1]; exact w4 k⟩
  · unfold pl
    by_cases q0 : f i = 0
    · have := w1 (by omega)
      obtain ⟨j, rfl⟩ : ∃ j, i = j + 1 := ⟨i - 1, by omega⟩
      have := w2 q0
      unfold pl at this
      rw [bg_0 q0]
      rw [Nat.add_sub_cancel] at this
      omega
    · match i, q0 with
      | 0, _ => omega
      | j + 1, q0 => rw [bg_n q0]; omega
  · apply Classical.byContradiction
    intro q
    exact (w3 q).1 k
def FZ (v v2 : Mem) : Prop := (∀ k, 1 ≤ k → k ≤ 7 → v2 k = v k) ∧ (∀ k, 11 ≤ k → v2 k = v k) ∧ ∀ j, j < 11 ∨ 17 < j → v2 0 j = v 0 j
theorem FZ.rf {v : Mem} : FZ v v := ⟨fun _ _ _ => rfl, fun _ _ => rfl, fun _ _ => rfl⟩
theorem FZ.tr {a b c : Mem} (h : FZ a b) (h2 : FZ b c) : FZ a c := ⟨fun k x y => (h2.1 k x y).trans (h.1 k x y), fun k x => (h2.2.1 k x).trans (h.2.1 k x), fun j x => (h2.2.2 j x).trans (h.2.2 j x)⟩
theorem FZ.pt {v v2 : Mem} (h : FZ v v2) {k j : Nat} (x : Int32) (hk : (8 ≤ k ∧ k ≤ 10) ∨ (k = 0 ∧ 11 ≤ j ∧ j ≤ 17)) : FZ v (put v2 k j x) := by
  refine ⟨fun k2 h1 h2 => ?_, fun k2 h1 => ?_, fun j2 h1 => ?_⟩
  · rw [put_cell _ _ _ (by omega)]; exact h.1 k2 h1 h2
  · rw [put_cell _ _ _ (by omega)]; exact h.2.1 k2 h1
  · rw [put_slot _ _ (by omega)]; exact h.2.2 j2 h1
theorem FZ.km {v v2 : Mem} (h : FZ v v2) : KM v v2 := ⟨fun k h1 h2 => h.1 k h1 (by omega), h.2.2 4 (by omega)⟩
def MS (v : Mem) (H : Nat) (t kd f : Nat → Nat) (k : Nat) : Prop := v 0 12 = nI (pgs kd f k) ∧ v 0 13 = nI (rgp H t kd f k + if k = 0 then 0 else cg t f (k - 1)) ∧ v 0 14 = nI (trs f k) ∧ v 0 15 = nI (bls kd f k) ∧ (1 ≤ k → v 0 16 = nI (ha t f (k - 1)) ∧ v 0 17 = nI (bg f (k - 1))) ∧ ∀ j, j < k → v 8 j = nI (pag kd f j) ∧ v 9 j = nI (tp f j) ∧ v 10 j = nI (pl f j)
theorem m_endTier {v : Mem} {n H p : Nat} {t kd f : Nat → Nat} (hb : BKM v n H t kd) (hp : 1 ≤ p) (hpn : p ≤ n) (h17 : v 0 17 = nI (bg f (p - 1))) : e_X6_endTier v (nI p) = some (put v 0 13 (v 0 13 + nI (if kd (p - 1) = 2 then 0 else sg t f (p - 1)))) := by
  have h9 := hb.1
  have hbg := bg_le f (p - 1)
  unfold e_X6_endTier e_X6_endTier_J38
  rw [if_neg (by rw [n_l0, n_le (by omega) (by omega)]; omega), n_l1, n_sub hp, n_l2, m_kind hb (by omega) (by omega), bnd_some]
  by_cases k2 : kd (p - 1) = 2
  · rw [if_pos k2, if_neg (by decide), if_pos k2]; rfl
  · rw [if_neg k2, if_pos rfl, if_neg k2, h17, n_sub (by omega), show p - bg f (p - 1) = (p - 1) + 1 - bg f (p - 1) by omega, m_sg hb (by omega), bnd_some]
theorem m_endPage {v : Mem} {n H p : Nat} {t kd f : Nat → Nat} (hb : BKM v n H t kd) (hp : 1 ≤ p) (hpn : p ≤ n) (h17 : v 0 17 = nI (bg f (p - 1))) (h16 : v 0 16 = nI (ha t f (p - 1))) (hh : kd (p - 1) ≠ 2 → ha t f (p - 1) + hg t f (p - 1) ≤ H) : e_X6_endPage v (nI p) = some (if kd (p - 1) = 2 then v else put v 0 13 (v 0 13 + nI ((H - (ha t f (p - 1) + hg t f (p - 1))) * (H - (ha t f (p - 1) + hg t f (p - 1)))))) := by
  have h9 := hb.1
  have hbg := bg_le f (p - 1)
  have h73 : v 1 73 = nI H := hb.2.2.2.1
  unfold e_X6_endPage
  rw [if_neg (by rw [n_l0, n_le (by omega) (by omega)]; omega), n_l1, n_sub hp, n_l2, m_kind hb (by omega) (by omega), bnd_some]
  by_cases k2 : kd (p - 1) = 2
  · rw [if_pos k2, if_neg (by decide), if_pos k2]
  · rw [if_neg k2, if_pos rfl, if_neg k2, h17, n_sub (by omega), show p - bg f (p - 1) = (p - 1) + 1 - bg f (p - 1) by omega, m_hg hb (by omega), bnd_some, h16, n_add]
    unfold e_X6_squareLeft
    rw [if_pos b73, c73, h73, n_sub (hh k2), n_mul, bnd_some]
theorem cg_2 {t f : Nat → Nat} {i : Nat} (h : f i = 2) : cg t f i = 0 := by
  match i, h with
  | 0, _ => rfl
  | j + 1, h => rw [cg, if_pos h]
/-- the page that is open ends before p -/
theorem m_end {v : Mem} {n H p : Nat} {t kd f : Nat → Nat} (hb : BKM v n H t kd) (hpn : p ≤ n) (hs : MS v H t kd f p) (hv : 1 ≤ p → VP H t kd f (p - 1)) : ∃ v1 v2, e_X6_endTier v (nI p) = some v1 ∧ e_X6_endPage v1 (nI p) = some v2 ∧ v2 0 13 = nI (rgf H t kd f p) ∧ ∀ k j, ¬ (k = 0 ∧ j = 13) → v2 k j = v k j := by
  have h9 := hb.1
  obtain ⟨s12, s13, s14, s15, s16, sj⟩ := hs
  unfold rgf
  rcases Nat.eq_zero_or_pos p with hp0 | hp1
  · subst hp0
    refine ⟨v, v, ?_, ?_, s13, fun _ _ _ => rfl⟩
    · unfold e_X6_endTier
      rw [if_pos (by decide)]
    · unfold e_X6_endPage
      rw [if_pos (by decide)]
  · obtain ⟨a16, a17⟩ := s16 hp1
    obtain ⟨v1, v2, v3⟩ := hv hp1
    have e1 := m_endTier hb hp1 hpn a17
    have hb2 : BKM (put v 0 13 (v 0 13 + nI (if kd (p - 1) = 2 then 0 else sg t f (p - 1)))) n H t kd := hb.kp (by rw [put_cell _ _ _ (by omega)])
    have e2 := m_endPage hb2 hp1 hpn (f := f) (by rw [put_slot _ _ (by omega)]; exact a17) (by rw [put_slot _ _ (by omega)]; exact a16) v3
    refine ⟨_, _, e1, e2, ?_, fun k j hkj => ?_⟩
    · have hp0 : ¬ p = 0 := by omega
      rw [if_neg hp0] at s13
      unfold pe
      by_cases k2 : kd (p - 1) = 2
      · simp only [if_neg hp0, if_pos k2, put_same, s13, n_add, cg_2 (v2 k2)]
      · simp only [if_neg hp0, if_neg k2, put_same, s13, n_add]
        congr 1
        unfold gp
        generalize (H - (ha t f (p - 1) + hg t f (p - 1))) * (H - (ha t f (p - 1) + hg t f (p - 1))) = sq
        omega
    · by_cases k2 : kd (p - 1) = 2
      · rw [if_pos k2, put_slot _ _ (by omega)]
      · rw [if_neg k2, put_slot _ _ (by omega), put_slot _ _ (by omega)]
theorem m_mod2 {p : Nat} (h : p < 1000) : nI p - nI p / (2 : Int32) * 2 = nI (p % 2) := by
  rw [n_l2, n_rem (by omega) (by omega) (by omega)]
theorem m_beginPage {v : Mem} {n H p : Nat} {t kd f : Nat → Nat} (hb : BKM v n H t kd) (hpn : p < n) (hf : f p = 2) (hs : MS v H t kd f p) (hv : 1 ≤ p → VP H t kd f (p - 1)) : ∃ v2, e_X6_beginPage v (nI p) = some v2 ∧ FZ v v2 ∧ v2 0 12 = nI (pgs kd f (p + 1)) ∧ v2 0 13 = nI (rgp H t kd f (p + 1)) ∧ v2 0 14 = v 0 14 ∧ v2 0 15 = nI (bls kd f (p + 1)) ∧ v2 0 16 = 0 ∧ v2 0 17 = nI p ∧ v2 8 p = nI (pag kd f p) ∧ v2 9 p = 0 ∧ ∀ j, j ≠ p → v2 8 j = v 8 j ∧ v2 9 j = v 9 j ∧ v2 10 j = v 10 j := by
  have h9 := hb.1
  obtain ⟨v1, v2, e1, e2, e3, e4⟩ := m_end hb (show p ≤ n by omega) hs hv
  obtain ⟨s12, s13, s14, s15, s16, sj⟩ := hs
  have pb := pgs_le kd f p
  have hb2 : BKM v2 n H t kd := hb.kp (by funext j; exact e4 1 j (by omega))
  have g12 : v2 0 12 = nI (pgs kd f p) := by rw [e4 0 12 (by omega)]; exact s12
  have g15 : v2 0 15 = nI (bls kd f p) := by rw [e4 0 15 (by omega)]; exact s15
  have h73 : v2 1 73 = nI H := hb2.2.2.2.1
  have y1 : inb (nI p) 9 = true := by rw [n_inb (by omega)]; simp; omega
  have ec : (nI p).toNatClampNeg = p := n_cl (by omega)
  have fz : FZ v v2 := ⟨fun k h1 h2 => by funext j; exact e4 k j (by omega), fun k h1 => by funext j; exact e4 k j (by omega), fun j h1 => e4 0 j (by omega)⟩
  have hpag : pag kd f p = pgs kd f p + blk kd (pgs kd f p) p := by
    match p, hf with
    | 0, _ => show blk kd 0 0 = 0 + blk kd 0 0; omega
    | j + 1, hf => rw [pag, if_pos hf]
  have hpgs : pgs kd f (p + 1) = pgs kd f p + blk kd (pgs kd f p) p + (if kd p = 2 then 2 else 1) := by rw [pgs, if_pos hf]
  have hbls : bls kd f (p + 1) = bls kd f p + blk kd (pgs kd f p) p := by rw [bls, if_pos hf]
  have hrgp : rgp H t kd f (p + 1) = rgf H t kd f p + blk kd (pgs kd f p) p * (H * H) := by rw [rgp, if_pos hf]; rfl
  -- from the blank on
  have j71 : ∀ (w : Mem) (b : Nat), FZ v w → w 0 12 = nI (pgs kd f p + b) → w 0 13 = nI (rgf H t kd f p + b * (H * H)) → w 0 15 = nI (bls kd f p + b) → b = blk kd (pgs kd f p) p → (∀ j, w 8 j = v 8 j ∧ w 9 j = v 9 j ∧ w 10 j = v 10 j) → w 0 14 = v 0 14 → ∃ v3, e_X6_beginPage_J71 w (nI p) = some v3 ∧ FZ v v3 ∧ v3 0 12 = nI (pgs kd f (p + 1)) ∧ v3 0 13 = nI (rgp H t kd f (p + 1)) ∧ v3 0 14 = v 0 14 ∧ v3 0 15 = nI (bls kd f (p + 1)) ∧ v3 0 16 = 0 ∧ v3 0 17 = nI p ∧ v3 8 p = nI (pag kd f p) ∧ v3 9 p = 0 ∧ ∀ j, j ≠ p → v3 8 j = v 8 j ∧ v3 9 j = v 9 j ∧ v3 10 j = v 10 j := by
    intro w b wf w12 w13 w15 hbb wj w14
    have hbw : BKM (put w 8 p (nI (pgs kd f p + b))) n H t kd := hb.kp (by rw [put_cell _ _ _ (by omega)]; exact wf.1 1 (by omega) (by omega))
    have key : ∀ z : Nat, z = (if kd p = 2 then 2 else 1) → ∃ v3, e_X6_beginPage_J100 (put w 8 p (nI (pgs kd f p + b))) (nI p) (nI z) (w 0 12) = some v3 ∧ FZ v v3 ∧ v3 0 12 = nI (pgs kd f (p + 1)) ∧ v3 0 13 = nI (rgp H t kd f (p + 1)) ∧ v3 0 14 = v 0 14 ∧ v3 0 15 = nI (bls kd f (p + 1)) ∧ v3 0 16 = 0 ∧ v3 0 17 = nI p ∧ v3 8 p = nI (pag kd f p) ∧ v3 9 p = 0 ∧ ∀ j, j ≠ p → v3 8 j = v 8 j ∧ v3 9 j = v 9 j ∧ v3 10 j = v 10 j := by
      intro z hz
      unfold e_X6_beginPage_J100
      rw [if_pos y1, ec, w12, n_add]
      refine ⟨_, rfl, ((((wf.pt _ (by omega)).pt _ (by omega)).pt _ (by omega)).pt _ (by omega)).pt _ (by omega), ?_, ?_, ?_, ?_, ?_, ?_, ?_, ?_, fun j hj => ?_⟩
      · rw [hpgs, ← hbb, ← hz]; simp [put_get]
      · rw [hrgp, ← hbb]; simp [put_get]; exact w13
      · simp [put_get]; exact w14
      · rw [hbls, ← hbb]; simp [put_get]; exact w15
      · simp [put_get]
      · simp [put_get]
      · rw [hpag, ← hbb]; simp [put_get]
      · simp [put_get]
      · simp [put_get, hj]; exact wj j
    unfold e_X6_beginPage_J71
    have mk := m_kind hbw hpn (show 2 ≤ 9 by omega)
    rw [show (nI 2 : Int32) = 2 from rfl] at mk
    rw [if_pos y1, ec]
    rw [← w12] at mk key
    rw [mk, bnd_some]
    by_cases k2 : kd p = 2
    · rw [if_pos k2, if_neg z1]
      exact key 2 (by rw [if_pos k2])
    · rw [if_neg k2, if_pos rfl]
      exact key 1 (by rw [if_neg k2])
  have wj2 : ∀ j, v2 8 j = v 8 j ∧ v2 9 j = v 9 j ∧ v2 10 j = v 10 j := fun j => ⟨e4 8 j (by omega), e4 9 j (by omega), e4 10 j (by omega)⟩
  have w14 : v2 0 14 = v 0 14 := e4 0 14 (by omega)
  have j28 : (kd p = 2 ∨ kd p = 3) → ∃ v3, e_X6_beginPage_J28 v2 (nI p) = some v3 ∧ FZ v v3 ∧ v3 0 12 = nI (pgs kd f (p + 1)) ∧ v3 0 13 = nI (rgp H t kd f (p + 1)) ∧ v3 0 14 = v 0 14 ∧ v3 0 15 = nI (bls kd f (p + 1)) ∧ v3 0 16 = 0 ∧ v3 0 17 = nI p ∧ v3 8 p = nI (pag kd f p) ∧ v3 9 p = 0 ∧ ∀ j, j ≠ p → v3 8 j = v 8 j ∧ v3 9 j = v 9 j ∧ v3 10 j = v 10 j := by
    intro hk
    unfold e_X6_beginPage_J28
    rw [g12, g15, m_mod2 (by omega)]
    by_cases hev : pgs kd f p % 2 = 0
    · have hbb : blk kd (pgs kd f p) p = 1 := by unfold blk; rw [if_pos ⟨hk, hev⟩]
      unfold e_X6_squareLeft
      rw [if_pos (by rw [hev]; rfl), if_pos b73, c73, put_cell _ _ _ (by omega), put_cell _ _ _ (by omega), h73, bnd_some, e3, n_l1, n_add, n_add, n_l0, n_sub (by omega), n_mul, n_add, Nat.sub_zero]
      refine j71 _ 1 (((fz.pt _ (by omega)).pt _ (by omega)).pt _ (by omega)) ?_ ?_ ?_ hbb.symm (fun j => ?_) ?_
      · simp [put_get]
      · simp [put_get]
      · simp [put_get]
      · simp [put_get]; exact wj2 j
      · simp [put_get]; exact w14
    · have hbb : blk kd (pgs kd f p) p = 0 := by unfold blk; rw [if_neg (fun q => hev q.2)]
      rw [if_neg (by rw [n_l0, n_eq (by omega) (by omega)]; exact hev)]
      exact j71 v2 0 fz g12 (by rw [e3, Nat.zero_mul]; rfl) g15 hbb.symm wj2 w14
  unfold e_X6_beginPage
  rw [e1, bnv_some, e2, bnv_some]
  have m2 := m_kind hb2 hpn (show 2 ≤ 9 by omega)
  have m3 := m_kind hb2 hpn (show 3 ≤ 9 by omega)
  rw [show (nI 2 : Int32) = 2 from rfl] at m2
  rw [show (nI 3 : Int32) = 3 from rfl] at m3
  rw [m2, bnd_some]
  by_cases k2 : kd p = 2
  · rw [if_pos k2, if_neg z1]
    exact j28 (Or.inl k2)
  · rw [if_neg k2, if_pos rfl, m3, bnd_some]
    by_cases k3 : kd p = 3
    · rw [if_pos k3, if_neg z1]
      exact j28 (Or.inr k3)
    · have hbb : blk kd (pgs kd f p) p = 0 := by unfold blk; rw [if_neg (fun q => q.1.elim k2 k3)]
      rw [if_neg k3, if_pos rfl]
      exact j71 v2 0 fz g12 (by rw [e3, Nat.zero_mul]; rfl) g15 hbb.symm wj2 w14
