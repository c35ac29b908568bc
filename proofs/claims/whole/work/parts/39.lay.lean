/-! pages, blanks, tiers, ragged, when k panels are placed -/
def blk (kd : Nat → Nat) (p i : Nat) : Nat := if (kd i = 2 ∨ kd i = 3) ∧ p % 2 = 0 then 1 else 0
def pgs (kd f : Nat → Nat) : Nat → Nat
  | 0 => 0
  | i + 1 => if f i = 2 then pgs kd f i + blk kd (pgs kd f i) i + (if kd i = 2 then 2 else 1) else pgs kd f i
def pag (kd f : Nat → Nat) : Nat → Nat
  | 0 => blk kd 0 0
  | i + 1 => if f (i + 1) = 2 then pgs kd f (i + 1) + blk kd (pgs kd f (i + 1)) (i + 1) else pag kd f i
def bls (kd f : Nat → Nat) : Nat → Nat
  | 0 => 0
  | i + 1 => if f i = 2 then bls kd f i + blk kd (pgs kd f i) i else bls kd f i
def trs (f : Nat → Nat) : Nat → Nat
  | 0 => 0
  | i + 1 => if f i = 0 then trs f i else trs f i + 1
def rgp (H : Nat) (t kd f : Nat → Nat) : Nat → Nat
  | 0 => 0
  | i + 1 => if f i = 2 then rgp H t kd f i + (if i = 0 then 0 else pe H t kd f (i - 1)) + blk kd (pgs kd f i) i * (H * H) else rgp H t kd f i
def rgf (H : Nat) (t kd f : Nat → Nat) (n : Nat) : Nat := rgp H t kd f n + if n = 0 then 0 else pe H t kd f (n - 1)
theorem blk_le (kd : Nat → Nat) (p i : Nat) : blk kd p i ≤ 1 := by unfold blk; split <;> omega
theorem pgs_le (kd f : Nat → Nat) : ∀ k, pgs kd f k ≤ 3 * k
  | 0 => Nat.le_refl 0
  | k + 1 => by
    have h1 := pgs_le kd f k
    have h2 := blk_le kd (pgs kd f k) k
    unfold pgs
    split
    · split <;> omega
    · omega
def BKM (v : Mem) (n H : Nat) (t kd : Nat → Nat) : Prop := n ≤ 9 ∧ (6 ≤ H ∧ H ≤ 20) ∧ v 1 72 = nI n ∧ v 1 73 = nI H ∧ ∀ i, i < n → v 1 (9 + i) = nI (t i) ∧ v 1 (18 + i) = nI (kd i) ∧ (1 ≤ t i ∧ t i ≤ 6) ∧ kd i ≤ 3
theorem BKM.of {B : Nat → Nat → Nat} {v : Mem} (h1 : OKB B) (h3 : BM B (v 1) 0) : BKM v (B 0 0) (B 0 1) (B 2) (B 3) := ⟨h1.1, ⟨h1.2.1, h1.2.2.1⟩, h3.1, h3.2.1, fun i hi => ⟨(bm_w h3 hi).2.1, (bm_w h3 hi).2.2.1, (h1.2.2.2 i hi).2.1, (h1.2.2.2 i hi).2.2.1⟩⟩
theorem BKM.kp {v v2 : Mem} {n H : Nat} {t kd : Nat → Nat} (h : BKM v n H t kd) (hk : v2 1 = v 1) : BKM v2 n H t kd := by
  unfold BKM
  rw [hk]
  exact h
theorem BKM.t6 {v : Mem} {n H : Nat} {t kd : Nat → Nat} (h : BKM v n H t kd) {i : Nat} (hi : i < n) : ∀ j, j ≤ i → t j ≤ 6 := fun j hj => (h.2.2.2.2 j (by omega)).2.2.1.2
theorem m_kind {v : Mem} {n H : Nat} {t kd : Nat → Nat} (h : BKM v n H t kd) {i : Nat} (hi : i < n) {c : Nat} (hc : c ≤ 9) : e_X6_isKind v (nI i) (nI c) = some (if kd i = c then 1 else 0, v) := by
  have h9 := h.1
  obtain ⟨_, h4, _, h3⟩ := h.2.2.2.2 i hi
  unfold e_X6_isKind
  simp (disch := omega) only [n_l18, n_add, n_inb, n_cl, h4, n_eq, decide_eq_true_eq]
  rw [if_pos (by omega)]
  split <;> rfl
theorem m_hg {v : Mem} {n H : Nat} {t kd f : Nat → Nat} (h : BKM v n H t kd) {i : Nat} (hi : i < n) : e_X6_heightOf v (nI (bg f i)) (nI (i + 1 - bg f i)) = some (nI (hg t f i), v) := by
  have h9 := h.1
  have hb := bg_le f i
  exact mh (by omega) (fun j _ hj => ⟨(h.2.2.2.2 j (by omega)).1, (h.2.2.2.2 j (by omega)).2.2.1.2⟩)
theorem m_sg {v : Mem} {n H : Nat} {t kd f : Nat → Nat} (h : BKM v n H t kd) {i : Nat} (hi : i < n) : e_X6_gapsOf v (nI (bg f i)) (nI (i + 1 - bg f i)) = some (nI (sg t f i), v) := by
  have h9 := h.1
  have hb := bg_le f i
  exact mg (by omega) (fun j _ hj => ⟨(h.2.2.2.2 j (by omega)).1, (h.2.2.2.2 j (by omega)).2.2.1.2⟩)
theorem m_by {v : Mem} {n H : Nat} {t kd : Nat → Nat} (h : BKM v n H t kd) {i : Nat} (hi : i < n) : e_X6_isBy v (nI i) = some (if kd i = 1 ∨ kd i = 2 then 1 else 0, v) := by
  unfold e_X6_isBy
  simp only [n_l1, n_l2]
  rw [m_kind h hi (by omega), bnd_some]
  by_cases q1 : kd i = 1
  · rw [if_pos q1, if_neg (by decide), if_pos (Or.inl q1)]
  · rw [if_neg q1, if_pos rfl, m_kind h hi (by omega), bnd_some]
    by_cases q2 : kd i = 2
    · rw [if_pos q2, if_neg (by decide), if_pos (Or.inr q2)]
    · rw [if_neg q2, if_pos rfl, if_neg (fun q => q.elim q1 q2)]
theorem m_tooHigh {v : Mem} {n H i : Nat} {t kd f : Nat → Nat} (hb : BKM v n H t kd) (hi : i < n) (hf : f i ≤ 2) (h7 : v 7 i = nI (f i)) (hs : 1 ≤ i → v 0 16 = nI (ha t f (i - 1)) ∧ v 0 17 = nI (bg f (i - 1))) (h0 : f i ≠ 2 → 1 ≤ i) : e_X6_isTooHigh v (nI i) = some (if kd i ≠ 2 ∧ H < ph t f i then 1 else 0, v) := by
  have h9 := hb.1
  have h73 : v 1 73 = nI H := hb.2.2.2.1
  obtain ⟨b3, b4, bt, bk⟩ := hb.2.2.2.2 i hi
  have j96 : ∀ z : Nat, z ≤ 200 → e_X6_isTooHigh_J96 v (nI z) = some (if H < z then 1 else 0, v) := by
    intro z hz
    have hH := hb.2.1
    unfold e_X6_isTooHigh_J96
    rw [if_pos b73, c73, h73]
    by_cases q : z ≤ H
    · rw [if_pos (by rw [n_le (by omega) (by omega)]; exact q), if_neg (by omega)]
    · rw [if_neg (by rw [n_le (by omega) (by omega)]; exact q), if_pos (by omega)]
  have y1 : inb (nI i) 9 = true := by rw [n_inb (by omega)]; simp; omega
  have y2 : inb ((9 : Int32) + nI i) 74 = true := by rw [n_l9, n_add, n_inb (by omega)]; simp; omega
  have e2 : ((9 : Int32) + nI i).toNatClampNeg = 9 + i := by rw [n_l9, n_add, n_cl (by omega)]
  unfold e_X6_isTooHigh
  rw [n_l2, m_kind hb hi (by omega), bnd_some]
  by_cases k2 : kd i = 2
  · rw [if_pos k2, if_neg z1, if_neg (by omega)]
  rw [if_neg k2, if_pos rfl]
  have ek : (if kd i ≠ 2 ∧ H < ph t f i then (1 : Int32) else 0) = if H < ph t f i then 1 else 0 := by simp [k2]
  rw [ek]
  simp only [y1, y2, e2, if_true, n_cl (show i < 2147483648 by omega), h7, b3]
  by_cases q2 : f i = 2
  · rw [if_pos (by rw [q2]), j96 _ (by omega)]
    unfold ph
    rw [if_pos q2]
  have hi1 := h0 q2
  obtain ⟨s1, s2⟩ := hs hi1
  have t6 := hb.t6 (show i - 1 < n by omega)
  have b1 := hg_le (f := f) t6
  have b2 := ha_le (f := f) t6
  have hbg := bg_le f (i - 1)
  rw [if_neg (by rw [n_eq (by omega) (by omega)]; exact q2), s1, s2]
  by_cases q1 : f i = 1
  · rw [if_pos (by rw [q1]; rfl), n_sub (by omega), show i - bg f (i - 1) = (i - 1) + 1 - bg f (i - 1) by omega, m_hg hb (by omega), bnd_some, b3, n_add, n_add, j96 _ (by omega)]
    unfold ph
    rw [if_neg q2, if_pos q1]
  · have q0 : f i = 0 := by omega
    have hg0 : hg t f i = if hg t f (i - 1) < t i then t i else hg t f (i - 1) := by
      obtain ⟨j, rfl⟩ : ∃ j, i = j + 1 := ⟨i - 1, by omega⟩
      exact hg_0 q0
    have hbi : bg f i = bg f (i - 1) := by
      obtain ⟨j, rfl⟩ : ∃ j, i = j + 1 := ⟨i - 1, by omega⟩
      exact bg_0 q0
    have hm := m_hg (f := f) hb hi
    rw [hbi] at hm
    rw [if_neg (by rw [n_l1, n_eq (by omega) (by omega)]; exact q1), n_sub (by omega), n_l1, n_add, show i - bg f (i - 1) + 1 = i + 1 - bg f (i - 1) by omega, hm, bnd_some, n_add, j96 _ (by have := hg_le (f := f) (hb.t6 hi); omega)]
    unfold ph
    rw [if_neg q2, if_neg q1, hg0]
    rfl
theorem m_why {v : Mem} {n H i : Nat} {t kd f : Nat → Nat} (hb : BKM v n H t kd) (hi : i < n) (hf : f i ≤ 2) (h7 : v 7 i = nI (f i)) (hs : 1 ≤ i → v 0 16 = nI (ha t f (i - 1)) ∧ v 0 17 = nI (bg f (i - 1))) (hpl : 1 ≤ i → pl f (i - 1) ≤ 3) : e_X6_whyNot v (nI i) = some (nI (wy H t kd f i), v) := by
  have h9 := hb.1
  have y1 : inb (nI i) 9 = true := by rw [n_inb (by omega)]; simp; omega
  have e_0 : (nI (f i) = (0 : Int32)) = (f i = 0) := by rw [n_l0, n_eq (by omega) (by omega)]
  have e_2 : (nI (f i) = (2 : Int32)) = (f i = 2) := by rw [n_l2, n_eq (by omega) (by omega)]
  have e_i : (nI i = (0 : Int32)) = (i = 0) := by rw [n_l0, n_eq (by omega) (by omega)]
  unfold e_X6_whyNot e_X6_whyNot_J18 e_X6_whyNot_J34 e_X6_whyNot_J58 e_X6_whyNot_J94
  simp only [y1, if_true, n_cl (show i < 2147483648 by omega), h7, e_0, e_2, e_i]
  by_cases h1 : f i ≠ 2 ∧ i = 0
  · rw [show wy H t kd f i = 1 by unfold wy; rw [if_pos h1], if_neg h1.1, if_pos h1.2]; rfl
  have h0 : f i ≠ 2 → 1 ≤ i := fun q => by
    rcases Nat.eq_zero_or_pos i with h | h
    · exact absurd ⟨q, h⟩ h1
    · exact h
  have hth := m_tooHigh hb hi hf h7 hs h0
  have fin : (bnd (e_X6_isTooHigh v (nI i)) fun r6 u6 => if r6 = 0 then some ((0 : Int32), u6) else some (5, u6)) = some (nI (if kd i ≠ 2 ∧ H < ph t f i then 5 else 0), v) := by
    rw [hth, bnd_some]
    by_cases q : kd i ≠ 2 ∧ H < ph t f i
    · rw [if_pos q, if_neg z1, if_pos q]; rfl
    · rw [if_neg q, if_pos rfl, if_neg q]; rfl
  by_cases q2 : f i = 2
  · rw [show wy H t kd f i = if kd i ≠ 2 ∧ H < ph t f i then 5 else 0 by unfold wy; rw [if_neg h1, if_neg (by omega), if_neg (by omega), if_neg (by omega)], if_pos q2, if_neg (by omega), if_neg (by omega), if_pos q2]
    exact fin
  have hi1 := h0 q2
  obtain ⟨s1, s2⟩ := hs hi1
  have hp3 := hpl hi1
  have hbg := bg_le f (i - 1)
  have e3 : nI i - (1 : Int32) = nI (i - 1) := by rw [n_l1, n_sub hi1]
  have tail : (bnd (e_X6_isKind v (nI i) 2) fun r3 u3 => if r3 = 0 then bnd (e_X6_isKind u3 (nI i) 3) fun r4 u4 => if r4 = 0 then bnd (e_X6_isKind u4 (nI i - 1) 2) fun r5 u5 => if r5 = 0 then bnd (e_X6_isTooHigh u5 (nI i)) fun r6 u6 => if r6 = 0 then some ((0 : Int32), u6) else some (5, u6) else some (4, u5) else some (4, u4) else some (4, u3)) = some (nI (if f i ≠ 2 ∧ ((kd i = 2 ∨ kd i = 3) ∨ kd (i - 1) = 2) then 4 else if kd i ≠ 2 ∧ H < ph t f i then 5 else 0), v) := by
    rw [e3]
    have m2 := m_kind hb hi (show 2 ≤ 9 by omega)
    have m3 := m_kind hb hi (show 3 ≤ 9 by omega)
    have m4 := m_kind hb (show i - 1 < n by omega) (show 2 ≤ 9 by omega)
    rw [show (nI 2 : Int32) = 2 from rfl] at m2 m4
    rw [show (nI 3 : Int32) = 3 from rfl] at m3
    rw [m2, bnd_some]
    by_cases k1 : kd i = 2
    · rw [if_pos k1, if_neg z1, if_pos ⟨q2, Or.inl (Or.inl k1)⟩]; rfl
    · rw [if_neg k1, if_pos rfl, m3, bnd_some]
      by_cases k3 : kd i = 3
      · rw [if_pos k3, if_neg z1, if_pos ⟨q2, Or.inl (Or.inr k3)⟩]; rfl
      · rw [if_neg k3, if_pos rfl, m4, bnd_some]
        by_cases k2 : kd (i - 1) = 2
        · rw [if_pos k2, if_neg z1, if_pos ⟨q2, Or.inr k2⟩]; rfl
        · rw [show (if f i ≠ 2 ∧ ((kd i = 2 ∨ kd i = 3) ∨ kd (i - 1) = 2) then 4 else if kd i ≠ 2 ∧ H < ph t f i then 5 else 0) = if kd i ≠ 2 ∧ H < ph t f i then 5 else 0 from if_neg (fun q => q.2.elim (fun q => q.elim k1 k3) k2), if_neg k2, if_pos rfl]
          exact fin
  rw [if_neg q2, if_neg (by omega)]
  by_cases q0 : f i = 0
  · simp only [if_pos q0, if_neg q2, s2]
    rw [n_sub (show bg f (i - 1) ≤ i by omega)]
    have e4 : (nI (i - bg f (i - 1)) = (4 : Int32)) = (4 ≤ pl f (i - 1) + 1) := by
      rw [n_l4, n_eq (by omega) (by omega)]
      unfold pl at hp3 ⊢
      apply propext
      omega
    simp only [e4]
    by_cases k4 : 4 ≤ pl f (i - 1) + 1
    · rw [show wy H t kd f i = 2 by unfold wy; rw [if_neg h1, if_pos ⟨q0, k4⟩], if_pos k4]; rfl
    · rw [if_neg k4, m_by hb hi, bnd_some]
      by_cases k1 : kd i = 1 ∨ kd i = 2
      · rw [show wy H t kd f i = 3 by unfold wy; rw [if_neg h1, if_neg (fun q => k4 q.2), if_pos ⟨q0, Or.inl k1⟩], if_pos k1, if_neg z1]; rfl
      · rw [if_neg k1, if_pos rfl, e3, m_by hb (show i - 1 < n by omega), bnd_some]
        by_cases k2 : kd (i - 1) = 1 ∨ kd (i - 1) = 2
        · rw [show wy H t kd f i = 3 by unfold wy; rw [if_neg h1, if_neg (fun q => k4 q.2), if_pos ⟨q0, Or.inr k2⟩], if_pos k2, if_neg z1]; rfl
        · rw [show wy H t kd f i = if f i ≠ 2 ∧ ((kd i = 2 ∨ kd i = 3) ∨ kd (i - 1) = 2) then 4 else if kd i ≠ 2 ∧ H < ph t f i then 5 else 0 by unfold wy; rw [if_neg h1, if_neg (fun q => k4 q.2), if_neg (fun q => q.2.elim k1 k2)], if_neg k2, if_pos rfl]
          rw [e3] at tail
          exact tail
  · rw [show wy H t kd f i = if f i ≠ 2 ∧ ((kd i = 2 ∨ kd i = 3) ∨ kd (i - 1) = 2) then 4 else if kd i ≠ 2 ∧ H < ph t f i then 5 else 0 by unfold wy; rw [if_neg h1, if_neg (fun q => q0 q.1), if_neg (fun q => q0 q.1)], if_neg q0, if_neg q0, if_neg q2]
    exact tail
