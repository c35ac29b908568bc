theorem st_tier : St3 RR e_X5_tier e_X6_tier := by
  intro u v hR a b c
  obtain ⟨B, P, I0, I1, h1, h2, h3, h4, h5, h6⟩ := id hR
  have h9 := h1.1
  have h30 : v 1 72 = nI (B 0 0) := h3.1
  unfold e_X5_tier e_X6_tier
  rcases hp_dec a (B 0 0) with ha | ha
  case inr => exact ⟨-1, u, v, by simp only [has_no h1 h2 ha, bnd_some, if_true], by simp only [isp_no h9 h30 ha, bnd_some, if_true], hR⟩
  obtain ⟨i, hi, rfl⟩ := hp_ex ha (by omega)
  simp only [has_yes h1 h2 hi, isp_yes h9 h30 hi, bnd_some, if_neg z1, many_m, h2.1, h30]
  by_cases hb : 1 ≤ b.toInt ∧ b.toInt ≤ 4
  case neg =>
    refine ⟨-2, u, v, ?_, ?_, hR⟩
    · split
      · rfl
      · rename_i q
        rw [if_pos]
        rw [i_lt] at q ⊢
        change ¬ b.toInt < 1 at q
        change 4 < b.toInt
        omega
    · rw [in_no (by rw [i_lt, i_lt]; change b.toInt < 1 ∨ 4 < b.toInt; omega), bnd_some, if_pos rfl]
  obtain ⟨n, hn, rfl⟩ : ∃ n : Nat, (1 ≤ n ∧ n ≤ 4) ∧ b = nI n := ⟨b.toInt.toNat, by omega, i_of (by omega)⟩
  rw [in_yes (by rw [n_l1, n_lt (by omega) (by omega)]; omega) (by rw [n_l4, n_lt (by omega) (by omega)]; omega), bnd_some, if_neg z1]
  simp only [n_add, many_m, bnd_some, h30]
  rw [if_neg (by rw [n_l1, n_lt (by omega) (by omega)]; omega), if_neg (by rw [n_l4, n_lt (by omega) (by omega)]; omega)]
  by_cases hin : i + n ≤ B 0 0
  case neg =>
    rw [if_neg (by rw [n_le (by omega) (by omega)]; omega), if_pos (by rw [n_lt (by omega) (by omega)]; omega)]
    exact ⟨-2, u, v, rfl, rfl, hR⟩
  have s0 : nI (i + n) ≤ nI (B 0 0) := by rw [n_le (by omega) (by omega)]; omega
  have s1 : ¬ nI (B 0 0) < nI (i + n) := by rw [n_lt (by omega) (by omega)]; omega
  rw [if_pos s0, if_neg s1]
  have ux : ∀ j, i ≤ j → j < i + n → u 3 j = nI (B 2 j) ∧ B 2 j ≤ 6 := fun j _ hj => ⟨(bk_w h2 (show j < B 0 0 by omega)).2.1, (h1.2.2.2 j (by omega)).2.1.2⟩
  have um : ∀ j, i ≤ j → j < i + n → v 1 (9 + j) = nI (B 2 j) ∧ B 2 j ≤ 6 := fun j _ hj => ⟨(bm_w h3 (show j < B 0 0 by omega)).2.1, (h1.2.2.2 j (by omega)).2.1.2⟩
  unfold e_X6_tier_J54
  by_cases q0 : c = 0
  · subst q0
    rw [if_pos rfl, in_yes (by decide) (by decide), bnd_some, if_neg z1, if_pos rfl, xh (by omega) ux, mh (by omega) um, bnd_some, bnd_some]
    exact ⟨_, _, _, rfl, rfl, hR⟩
  by_cases q1 : c = 1
  · subst q1
    rw [if_neg (by decide), if_pos rfl, in_yes (by decide) (by decide), bnd_some, if_neg z1, if_neg (by decide), if_pos rfl, xg (by omega) ux, mg (by omega) um, bnd_some, bnd_some]
    exact ⟨_, _, _, rfl, rfl, hR⟩
  have hc01 : c.toInt ≠ 0 ∧ c.toInt ≠ 1 := by
    rw [i_eq] at q0 q1
    exact ⟨q0, q1⟩
  rw [if_neg q0, if_neg q1, in_no (by rw [i_lt, i_lt]; change c.toInt < 0 ∨ 1 < c.toInt; omega), bnd_some, if_pos rfl]
  have e9 : ((9 : Int32) + nI n).toInt = 9 + n := by rw [n_l9, n_add, i_nI (by omega)]; omega
  have e10 : ((10 : Int32) + nI n).toInt = 10 + n := by rw [n_l10, n_add, i_nI (by omega)]; omega
  by_cases hc : 10 ≤ c.toInt ∧ c.toInt < 10 + n
  case neg =>
    refine ⟨-2, u, v, ?_, ?_, hR⟩
    · split
      · rfl
      · rename_i q
        rw [if_neg]
        rw [i_lt] at q ⊢
        rw [e10]
        change ¬ c.toInt < 10 at q
        omega
    · rw [in_no (by rw [i_lt, i_lt, e9]; change c.toInt < 10 ∨ 9 + n < c.toInt; omega), bnd_some, if_pos rfl]
  obtain ⟨j, hj, rfl⟩ : ∃ j : Nat, j < n ∧ c = nI (10 + j) := ⟨c.toInt.toNat - 10, by omega, i_of (by omega)⟩
  rw [in_yes (by rw [n_l10, n_lt (by omega) (by omega)]; omega) (by rw [n_l9, n_add, n_lt (by omega) (by omega)]; omega), bnd_some, if_neg z1, if_neg q0, if_neg q1]
  rw [if_neg (by rw [n_l10, n_lt (by omega) (by omega)]; omega), if_pos (by rw [n_l10, n_add, n_lt (by omega) (by omega)]; omega)]
  rw [n_l10, n_sub (by omega), Nat.add_sub_cancel_left]
  obtain ⟨v2, e1, e2, e3⟩ := mw (v := v) (w := fun k => B 1 (i + k)) (a := i) (n := n) (by omega) (by omega) (by omega) (fun k hk => ⟨(bm_w h3 (show i + k < B 0 0 by omega)).1, (h1.2.2.2 (i + k) (by omega)).1⟩)
  rw [xw (w := fun k => B 1 (i + k)) (by omega) hj (fun k hk => ⟨(bk_w h2 (show i + k < B 0 0 by omega)).1, (h1.2.2.2 (i + k) (by omega)).1⟩), e1, bnd_some, bnv_some, if_pos (by rw [n_inb (by omega)]; simp; omega), n_cl (by omega), e2 j hj]
  exact ⟨_, _, _, rfl, rfl, hR.kp KX.rf ⟨fun k a b => e3 k (by omega) (by omega), by rw [e3 0 (by omega) (by omega)]⟩⟩
/-! LAYOUTS: of figures f, of talls t, of kinds kd. bg: the first panel of the tier of i; pl: its place; hg: the tier's height so far; ha: what is above on its page; tp: its tier; cg: gaps of the tiers above; gp: gaps so far. -/
def bg (f : Nat → Nat) : Nat → Nat
  | 0 => 0
  | i + 1 => if f (i + 1) = 0 then bg f i else i + 1
def pl (f : Nat → Nat) (i : Nat) : Nat := i - bg f i
def hg (t f : Nat → Nat) (i : Nat) : Nat := mxf t (bg f i) (i + 1 - bg f i)
def ha (t f : Nat → Nat) : Nat → Nat
  | 0 => 0
  | i + 1 => if f (i + 1) = 2 then 0 else if f (i + 1) = 1 then ha t f i + hg t f i else ha t f i
def sg (t f : Nat → Nat) (i : Nat) : Nat := sgf t (hg t f i) (bg f i) (i + 1 - bg f i)
def cg (t f : Nat → Nat) : Nat → Nat
  | 0 => 0
  | i + 1 => if f (i + 1) = 2 then 0 else if f (i + 1) = 1 then cg t f i + sg t f i else cg t f i
def gp (t f : Nat → Nat) (i : Nat) : Nat := cg t f i + sg t f i
def tp (f : Nat → Nat) : Nat → Nat
  | 0 => 0
  | i + 1 => if f (i + 1) = 2 then 0 else tp f i + f (i + 1)
theorem bg_le (f : Nat → Nat) : ∀ i, bg f i ≤ i
  | 0 => Nat.le_refl 0
  | i + 1 => by
    have := bg_le f i
    unfold bg
    split <;> omega
theorem bg_0 {f : Nat → Nat} {i : Nat} (h : f (i + 1) = 0) : bg f (i + 1) = bg f i := by rw [bg, if_pos h]
theorem bg_n {f : Nat → Nat} {i : Nat} (h : f (i + 1) ≠ 0) : bg f (i + 1) = i + 1 := by rw [bg, if_neg h]
theorem mxf_1 (t : Nat → Nat) (a : Nat) : mxf t a 1 = t a := by
  show (if 0 < t (a + 0) then t (a + 0) else 0) = t a
  rw [Nat.add_zero]
  split <;> omega
theorem hg_0 {t f : Nat → Nat} {i : Nat} (h : f (i + 1) = 0) : hg t f (i + 1) = if hg t f i < t (i + 1) then t (i + 1) else hg t f i := by
  have hb := bg_le f i
  unfold hg
  rw [bg_0 h, show i + 1 + 1 - bg f i = (i + 1 - bg f i) + 1 by omega]
  show (if mxf t (bg f i) (i + 1 - bg f i) < t (bg f i + (i + 1 - bg f i)) then t (bg f i + (i + 1 - bg f i)) else mxf t (bg f i) (i + 1 - bg f i)) = _
  rw [show bg f i + (i + 1 - bg f i) = i + 1 by omega]
theorem hg_n {t f : Nat → Nat} {i : Nat} (h : f (i + 1) ≠ 0) : hg t f (i + 1) = t (i + 1) := by
  unfold hg
  rw [bg_n h, show i + 1 + 1 - (i + 1) = 1 by omega, mxf_1]
theorem hg_z {t f : Nat → Nat} : hg t f 0 = t 0 := by
  unfold hg
  exact mxf_1 t 0
theorem sgf_up {t : Nat → Nat} {h h2 a : Nat} (hh : h ≤ h2) : ∀ {n : Nat}, (∀ i, a ≤ i → i < a + n → t i ≤ h) → sgf t h2 a n = sgf t h a n + (h2 - h) * n
  | 0, _ => by simp [sgf]
  | n + 1, q => by
    have e := sgf_up hh (n := n) (fun i h1 h2 => q i h1 (by omega))
    have b := q (a + n) (by omega) (by omega)
    show sgf t h2 a n + (h2 - t (a + n)) = sgf t h a n + (h - t (a + n)) + (h2 - h) * (n + 1)
    rw [e, Nat.mul_add, Nat.mul_one]
    omega
theorem hg_ge {t f : Nat → Nat} {i j : Nat} (h1 : bg f i ≤ j) (h2 : j ≤ i) : t j ≤ hg t f i := mxf_ge h1 (by omega)
theorem gp_0 {t f : Nat → Nat} {i : Nat} (h : f (i + 1) = 0) : gp t f (i + 1) = gp t f i + (hg t f (i + 1) - hg t f i) * (i + 1 - bg f i) + (hg t f (i + 1) - t (i + 1)) := by
  have hb := bg_le f i
  have hm : hg t f i ≤ hg t f (i + 1) := by rw [hg_0 h]; split <;> omega
  have e : sg t f (i + 1) = sgf t (hg t f (i + 1)) (bg f i) (i + 1 - bg f i) + (hg t f (i + 1) - t (i + 1)) := by
    unfold sg
    rw [bg_0 h, show i + 1 + 1 - bg f i = (i + 1 - bg f i) + 1 by omega]
    show sgf t (hg t f (i + 1)) (bg f i) (i + 1 - bg f i) + (hg t f (i + 1) - t (bg f i + (i + 1 - bg f i))) = _
    rw [show bg f i + (i + 1 - bg f i) = i + 1 by omega]
  have c : cg t f (i + 1) = cg t f i := by rw [cg, if_neg (by omega), if_neg (by omega)]
  unfold gp
  rw [e, c, sgf_up hm (fun j h1 h2 => hg_ge h1 (by omega))]
  unfold sg
  generalize (hg t f (i + 1) - hg t f i) * (i + 1 - bg f i) = pr
  generalize sgf t (hg t f i) (bg f i) (i + 1 - bg f i) = sx
  omega
theorem sg_n {t f : Nat → Nat} {i : Nat} (h : f (i + 1) ≠ 0) : sg t f (i + 1) = 0 := by
  unfold sg
  rw [hg_n h, bg_n h, show i + 1 + 1 - (i + 1) = 1 by omega]
  simp [sgf]
theorem gp_1 {t f : Nat → Nat} {i : Nat} (h : f (i + 1) = 1) : gp t f (i + 1) = gp t f i := by
  show cg t f (i + 1) + sg t f (i + 1) = cg t f i + sg t f i
  rw [sg_n (by omega), cg, if_neg (by omega), if_pos h]; rfl
theorem gp_2 {t f : Nat → Nat} {i : Nat} (h : f (i + 1) = 2) : gp t f (i + 1) = 0 := by
  show cg t f (i + 1) + sg t f (i + 1) = 0
  rw [sg_n (by omega), cg, if_pos h]
theorem gp_z {t f : Nat → Nat} : gp t f 0 = 0 := by
  show cg t f 0 + sg t f 0 = 0
  unfold sg
  rw [hg_z]
  simp [cg, bg, sgf]
theorem hg_le {t f : Nat → Nat} {i : Nat} (h : ∀ j, j ≤ i → t j ≤ 6) : hg t f i ≤ 6 := mxf_le (fun j _ h2 => h j (by have := bg_le f i; omega))
theorem ha_le {t f : Nat → Nat} : ∀ {i : Nat}, (∀ j, j ≤ i → t j ≤ 6) → ha t f i ≤ 6 * i
  | 0, _ => Nat.le_refl 0
  | i + 1, h => by
    have h1 := ha_le (f := f) (i := i) (fun j hj => h j (by omega))
    have h2 := hg_le (f := f) (i := i) (fun j hj => h j (by omega))
    unfold ha
    split
    · omega
    · split <;> omega
theorem gp_le {t f : Nat → Nat} : ∀ {i : Nat}, (∀ j, j ≤ i → t j ≤ 6) → gp t f i ≤ 6 * (i + 1) * (i + 1)
  | 0, _ => by rw [gp_z]; omega
  | i + 1, h => by
    have h1 := gp_le (f := f) (i := i) (fun j hj => h j (by omega))
    have h2 := hg_le (f := f) (i := i + 1) h
    have hb := bg_le f i
    by_cases e : f (i + 1) = 0
    · rw [gp_0 e]
      have m1 : (hg t f (i + 1) - hg t f i) * (i + 1 - bg f i) ≤ 6 * (i + 1) := Nat.mul_le_mul (by omega) (by omega)
      have m2 : 6 * (i + 1 + 1) * (i + 1 + 1) = 6 * (i + 1) * (i + 1) + 12 * (i + 1) + 6 := by
        rw [show 6 * (i + 1 + 1) = 6 * (i + 1) + 6 by omega, Nat.mul_add, Nat.add_mul]
        omega
      omega
    · have m3 : 6 * (i + 1) * (i + 1) ≤ 6 * (i + 1 + 1) * (i + 1 + 1) := Nat.mul_le_mul (by omega) (by omega)
      by_cases e2 : f (i + 1) = 2
      · rw [gp_2 e2]; omega
      · by_cases e1 : f (i + 1) = 1
        · rw [gp_1 e1]; omega
        · show cg t f (i + 1) + sg t f (i + 1) ≤ _
          rw [sg_n e, cg, if_neg e2, if_neg e1]
          have : cg t f i ≤ gp t f i := Nat.le_add_right _ _
          omega
/-- why a figure can not be -/
def ph (t f : Nat → Nat) (i : Nat) : Nat := if f i = 2 then t i else if f i = 1 then ha t f (i - 1) + hg t f (i - 1) + t i else ha t f (i - 1) + if hg t f (i - 1) < t i then t i else hg t f (i - 1)
def wy (H : Nat) (t kd f : Nat → Nat) (i : Nat) : Nat :=
  if f i ≠ 2 ∧ i = 0 then 1 else if f i = 0 ∧ 4 ≤ pl f (i - 1) + 1 then 2 else if f i = 0 ∧ ((kd i = 1 ∨ kd i = 2) ∨ kd (i - 1) = 1 ∨ kd (i - 1) = 2) then 3 else if f i ≠ 2 ∧ ((kd i = 2 ∨ kd i = 3) ∨ kd (i - 1) = 2) then 4 else if kd i ≠ 2 ∧ H < ph t f i then 5 else 0
def BK (u : Mem) (n H : Nat) (t kd : Nat → Nat) : Prop := n ≤ 9 ∧ (6 ≤ H ∧ H ≤ 20) ∧ u 1 0 = nI n ∧ u 1 1 = nI H ∧ ∀ i, i < n → u 3 i = nI (t i) ∧ u 4 i = nI (kd i) ∧ (1 ≤ t i ∧ t i ≤ 6) ∧ kd i ≤ 3
theorem BK.of {B : Nat → Nat → Nat} {u : Mem} (h1 : OKB B) (h2 : BX B u 1) : BK u (B 0 0) (B 0 1) (B 2) (B 3) := ⟨h1.1, ⟨h1.2.1, h1.2.2.1⟩, h2.1, h2.2.1, fun i hi => ⟨(bk_w h2 hi).2.1, (bk_w h2 hi).2.2.1, (h1.2.2.2 i hi).2.1, (h1.2.2.2 i hi).2.2.1⟩⟩
theorem BK.kp {u u2 : Mem} {n H : Nat} {t kd : Nat → Nat} (h : BK u n H t kd) (hk : ∀ k, k ≤ 8 → u2 k = u k) : BK u2 n H t kd := by
  unfold BK
  rw [hk 1 (by omega), hk 3 (by omega), hk 4 (by omega)]
  exact h
theorem x_spr {u : Mem} {n H : Nat} {t kd : Nat → Nat} (h : BK u n H t kd) {i : Nat} (hi : i < n) : e_X0_isSpread u (nI i) = some (if kd i = 2 then 1 else 0, u) := by
  have h9 := h.1
  obtain ⟨_, h4, _, h3⟩ := h.2.2.2.2 i hi
  unfold e_X0_isSpread
  simp (disch := omega) only [n_l2, n_inb, n_cl, h4, n_eq, decide_eq_true_eq]
  rw [if_pos (by omega)]
  split <;> rfl
theorem x_own {u : Mem} {n H : Nat} {t kd : Nat → Nat} (h : BK u n H t kd) {i : Nat} (hi : i < n) : e_X0_wantsOwnTier u (nI i) = some (if kd i = 1 ∨ kd i = 2 then 1 else 0, u) := by
  have h9 := h.1
  obtain ⟨_, h4, _, h3⟩ := h.2.2.2.2 i hi
  unfold e_X0_wantsOwnTier
  simp (disch := omega) only [n_l1, n_l2, n_inb, n_cl, h4, n_eq, decide_eq_true_eq]
  rcases (by omega : kd i = 0 ∨ kd i = 1 ∨ kd i = 2 ∨ kd i = 3) with q | q | q | q <;> simp [q] <;> (try omega)
theorem x_lft {u : Mem} {n H : Nat} {t kd : Nat → Nat} (h : BK u n H t kd) {i : Nat} (hi : i < n) : e_X0_wantsLeftPage u (nI i) = some (if kd i = 2 ∨ kd i = 3 then 1 else 0, u) := by
  have h9 := h.1
  obtain ⟨_, h4, _, h3⟩ := h.2.2.2.2 i hi
  unfold e_X0_wantsLeftPage
  simp (disch := omega) only [n_l2, n_l3, n_inb, n_cl, h4, n_eq, decide_eq_true_eq]
  rcases (by omega : kd i = 0 ∨ kd i = 1 ∨ kd i = 2 ∨ kd i = 3) with q | q | q | q <;> simp [q] <;> (try omega)
